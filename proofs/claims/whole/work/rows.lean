section
-- ===== PART A: goes FIRST, ahead of the names: the tables' words, and 'selects' of the private methods out of them =====
/-- a private method of a class that the tables say can be made, by its rows of tables_1 -/
def lw_okq (q : MethodName × Nat) : Prop := (q.1.cls ≠ "java/lang/invoke/MethodHandle" ∧ q.1.cls ≠ "java/lang/invoke/VarHandle") ∧ Cond.instantiable q.1.cls q.2 ∈ tables_1 ∧ Cond.privateMethod q.1 ∈ tables_1 ∧ Cond.instanceMethod q.1 ∈ tables_1
theorem lw_p0 : lw_okq (⟨"TentPegs", "bad", "(I)I"⟩, 13) := ⟨⟨by decide +kernel, by decide +kernel⟩, List.mem_of_getElem? (i := 15) (by decide +kernel), List.mem_of_getElem? (i := 258) (by decide +kernel), List.mem_of_getElem? (i := 259) (by decide +kernel)⟩
theorem lw_p1 : lw_okq (⟨"TentPegs", "no", "()I"⟩, 13) := ⟨⟨by decide +kernel, by decide +kernel⟩, List.mem_of_getElem? (i := 15) (by decide +kernel), List.mem_of_getElem? (i := 298) (by decide +kernel), List.mem_of_getElem? (i := 299) (by decide +kernel)⟩
theorem lw_p2 : lw_okq (⟨"TentPegs", "full", "()I"⟩, 13) := ⟨⟨by decide +kernel, by decide +kernel⟩, List.mem_of_getElem? (i := 15) (by decide +kernel), List.mem_of_getElem? (i := 321) (by decide +kernel), List.mem_of_getElem? (i := 322) (by decide +kernel)⟩
theorem lw_p3 : lw_okq (⟨"TentPegs$Reader", "begin", "(I)V"⟩, 11) := ⟨⟨by decide +kernel, by decide +kernel⟩, List.mem_of_getElem? (i := 159) (by decide +kernel), List.mem_of_getElem? (i := 337) (by decide +kernel), List.mem_of_getElem? (i := 338) (by decide +kernel)⟩
theorem lw_p4 : lw_okq (⟨"TentPegs$Reader", "step", "()V"⟩, 11) := ⟨⟨by decide +kernel, by decide +kernel⟩, List.mem_of_getElem? (i := 159) (by decide +kernel), List.mem_of_getElem? (i := 344) (by decide +kernel), List.mem_of_getElem? (i := 345) (by decide +kernel)⟩
theorem lw_p5 : lw_okq (⟨"TentPegs$Reader", "skipBlanks", "()V"⟩, 11) := ⟨⟨by decide +kernel, by decide +kernel⟩, List.mem_of_getElem? (i := 159) (by decide +kernel), List.mem_of_getElem? (i := 348) (by decide +kernel), List.mem_of_getElem? (i := 349) (by decide +kernel)⟩
theorem lw_p6 : lw_okq (⟨"TentPegs$Reader", "stepOverWord", "()V"⟩, 11) := ⟨⟨by decide +kernel, by decide +kernel⟩, List.mem_of_getElem? (i := 159) (by decide +kernel), List.mem_of_getElem? (i := 356) (by decide +kernel), List.mem_of_getElem? (i := 357) (by decide +kernel)⟩
theorem lw_p7 : lw_okq (⟨"TentPegs$Reader", "spells", "(Ljava/lang/String;)Z"⟩, 11) := ⟨⟨by decide +kernel, by decide +kernel⟩, List.mem_of_getElem? (i := 159) (by decide +kernel), List.mem_of_getElem? (i := 361) (by decide +kernel), List.mem_of_getElem? (i := 362) (by decide +kernel)⟩
theorem lw_p8 : lw_okq (⟨"TentPegs$Reader", "stepOverNumber", "()V"⟩, 11) := ⟨⟨by decide +kernel, by decide +kernel⟩, List.mem_of_getElem? (i := 159) (by decide +kernel), List.mem_of_getElem? (i := 421) (by decide +kernel), List.mem_of_getElem? (i := 422) (by decide +kernel)⟩
theorem lw_p9 : lw_okq (⟨"TentPegs$Reader", "isItem", "(I)Z"⟩, 11) := ⟨⟨by decide +kernel, by decide +kernel⟩, List.mem_of_getElem? (i := 159) (by decide +kernel), List.mem_of_getElem? (i := 425) (by decide +kernel), List.mem_of_getElem? (i := 426) (by decide +kernel)⟩
theorem lw_p10 : lw_okq (⟨"TentPegs$Reader", "tell", "(I)Z"⟩, 11) := ⟨⟨by decide +kernel, by decide +kernel⟩, List.mem_of_getElem? (i := 159) (by decide +kernel), List.mem_of_getElem? (i := 432) (by decide +kernel), List.mem_of_getElem? (i := 433) (by decide +kernel)⟩
theorem lw_p11 : lw_okq (⟨"TentPegs$Reader", "tellTent", "(I)Z"⟩, 11) := ⟨⟨by decide +kernel, by decide +kernel⟩, List.mem_of_getElem? (i := 159) (by decide +kernel), List.mem_of_getElem? (i := 436) (by decide +kernel), List.mem_of_getElem? (i := 437) (by decide +kernel)⟩
theorem lw_p12 : lw_okq (⟨"TentPegs$Reader", "tellPeg", "(IIII)Z"⟩, 11) := ⟨⟨by decide +kernel, by decide +kernel⟩, List.mem_of_getElem? (i := 159) (by decide +kernel), List.mem_of_getElem? (i := 442) (by decide +kernel), List.mem_of_getElem? (i := 443) (by decide +kernel)⟩
theorem lw_p13 : lw_okq (⟨"TentPegs$Reader", "tellWet", "(I)Z"⟩, 11) := ⟨⟨by decide +kernel, by decide +kernel⟩, List.mem_of_getElem? (i := 159) (by decide +kernel), List.mem_of_getElem? (i := 448) (by decide +kernel), List.mem_of_getElem? (i := 449) (by decide +kernel)⟩
theorem lw_p14 : lw_okq (⟨"TentPegs$Reader", "tellWall", "(I)Z"⟩, 11) := ⟨⟨by decide +kernel, by decide +kernel⟩, List.mem_of_getElem? (i := 159) (by decide +kernel), List.mem_of_getElem? (i := 453) (by decide +kernel), List.mem_of_getElem? (i := 454) (by decide +kernel)⟩
theorem lw_p15 : lw_okq (⟨"TentPegs$Reader", "tellOdds", "(II)Z"⟩, 11) := ⟨⟨by decide +kernel, by decide +kernel⟩, List.mem_of_getElem? (i := 159) (by decide +kernel), List.mem_of_getElem? (i := 460) (by decide +kernel), List.mem_of_getElem? (i := 461) (by decide +kernel)⟩
def lw_privs_1 : List (MethodName × Nat) := [(⟨"TentPegs", "bad", "(I)I"⟩, 13), (⟨"TentPegs", "no", "()I"⟩, 13), (⟨"TentPegs", "full", "()I"⟩, 13), (⟨"TentPegs$Reader", "begin", "(I)V"⟩, 11), (⟨"TentPegs$Reader", "step", "()V"⟩, 11), (⟨"TentPegs$Reader", "skipBlanks", "()V"⟩, 11), (⟨"TentPegs$Reader", "stepOverWord", "()V"⟩, 11), (⟨"TentPegs$Reader", "spells", "(Ljava/lang/String;)Z"⟩, 11), (⟨"TentPegs$Reader", "stepOverNumber", "()V"⟩, 11), (⟨"TentPegs$Reader", "isItem", "(I)Z"⟩, 11), (⟨"TentPegs$Reader", "tell", "(I)Z"⟩, 11), (⟨"TentPegs$Reader", "tellTent", "(I)Z"⟩, 11), (⟨"TentPegs$Reader", "tellPeg", "(IIII)Z"⟩, 11), (⟨"TentPegs$Reader", "tellWet", "(I)Z"⟩, 11), (⟨"TentPegs$Reader", "tellWall", "(I)Z"⟩, 11), (⟨"TentPegs$Reader", "tellOdds", "(II)Z"⟩, 11)]
theorem lw_r1 : ∀ q ∈ lw_privs_1, lw_okq q := List.forall_mem_cons.mpr ⟨lw_p0, List.forall_mem_cons.mpr ⟨lw_p1, List.forall_mem_cons.mpr ⟨lw_p2, List.forall_mem_cons.mpr ⟨lw_p3, List.forall_mem_cons.mpr ⟨lw_p4, List.forall_mem_cons.mpr ⟨lw_p5, List.forall_mem_cons.mpr ⟨lw_p6, List.forall_mem_cons.mpr ⟨lw_p7, List.forall_mem_cons.mpr ⟨lw_p8, List.forall_mem_cons.mpr ⟨lw_p9, List.forall_mem_cons.mpr ⟨lw_p10, List.forall_mem_cons.mpr ⟨lw_p11, List.forall_mem_cons.mpr ⟨lw_p12, List.forall_mem_cons.mpr ⟨lw_p13, List.forall_mem_cons.mpr ⟨lw_p14, List.forall_mem_cons.mpr ⟨lw_p15, fun _ h => absurd h List.not_mem_nil⟩⟩⟩⟩⟩⟩⟩⟩⟩⟩⟩⟩⟩⟩⟩⟩
theorem lw_p16 : lw_okq (⟨"TentPegs$Reader", "tellGone", "(I)Z"⟩, 11) := ⟨⟨by decide +kernel, by decide +kernel⟩, List.mem_of_getElem? (i := 159) (by decide +kernel), List.mem_of_getElem? (i := 465) (by decide +kernel), List.mem_of_getElem? (i := 466) (by decide +kernel)⟩
theorem lw_p17 : lw_okq (⟨"TentPegs", "asItIs", "()LTentPegs$Gale;"⟩, 13) := ⟨⟨by decide +kernel, by decide +kernel⟩, List.mem_of_getElem? (i := 15) (by decide +kernel), List.mem_of_getElem? (i := 502) (by decide +kernel), List.mem_of_getElem? (i := 503) (by decide +kernel)⟩
theorem lw_p18 : lw_okq (⟨"TentPegs$Gale", "behindWalls", "(II)I"⟩, 8) := ⟨⟨by decide +kernel, by decide +kernel⟩, List.mem_of_getElem? (i := 92) (by decide +kernel), List.mem_of_getElem? (i := 519) (by decide +kernel), List.mem_of_getElem? (i := 520) (by decide +kernel)⟩
theorem lw_p19 : lw_okq (⟨"TentPegs$Gale", "shareOf", "(II)I"⟩, 8) := ⟨⟨by decide +kernel, by decide +kernel⟩, List.mem_of_getElem? (i := 92) (by decide +kernel), List.mem_of_getElem? (i := 523) (by decide +kernel), List.mem_of_getElem? (i := 524) (by decide +kernel)⟩
theorem lw_p20 : lw_okq (⟨"TentPegs$Gale", "nextToGo", "()I"⟩, 8) := ⟨⟨by decide +kernel, by decide +kernel⟩, List.mem_of_getElem? (i := 92) (by decide +kernel), List.mem_of_getElem? (i := 535) (by decide +kernel), List.mem_of_getElem? (i := 536) (by decide +kernel)⟩
theorem lw_p21 : lw_okq (⟨"TentPegs$Gale", "standingBeside", "(I)I"⟩, 8) := ⟨⟨by decide +kernel, by decide +kernel⟩, List.mem_of_getElem? (i := 92) (by decide +kernel), List.mem_of_getElem? (i := 550) (by decide +kernel), List.mem_of_getElem? (i := 551) (by decide +kernel)⟩
theorem lw_p22 : lw_okq (⟨"TentPegs$Gale", "aheadOf", "(I)I"⟩, 8) := ⟨⟨by decide +kernel, by decide +kernel⟩, List.mem_of_getElem? (i := 92) (by decide +kernel), List.mem_of_getElem? (i := 554) (by decide +kernel), List.mem_of_getElem? (i := 555) (by decide +kernel)⟩
theorem lw_p23 : lw_okq (⟨"TentPegs$Gale", "behind", "(I)I"⟩, 8) := ⟨⟨by decide +kernel, by decide +kernel⟩, List.mem_of_getElem? (i := 92) (by decide +kernel), List.mem_of_getElem? (i := 558) (by decide +kernel), List.mem_of_getElem? (i := 559) (by decide +kernel)⟩
theorem lw_p24 : lw_okq (⟨"TentPegs$Gale", "handOn", "(I)V"⟩, 8) := ⟨⟨by decide +kernel, by decide +kernel⟩, List.mem_of_getElem? (i := 92) (by decide +kernel), List.mem_of_getElem? (i := 563) (by decide +kernel), List.mem_of_getElem? (i := 564) (by decide +kernel)⟩
theorem lw_p25 : lw_okq (⟨"TentPegs$Gale", "standingBehind", "(I)I"⟩, 8) := ⟨⟨by decide +kernel, by decide +kernel⟩, List.mem_of_getElem? (i := 92) (by decide +kernel), List.mem_of_getElem? (i := 567) (by decide +kernel), List.mem_of_getElem? (i := 568) (by decide +kernel)⟩
theorem lw_p26 : lw_okq (⟨"TentPegs$Gale", "standingAheadOf", "(I)I"⟩, 8) := ⟨⟨by decide +kernel, by decide +kernel⟩, List.mem_of_getElem? (i := 92) (by decide +kernel), List.mem_of_getElem? (i := 571) (by decide +kernel), List.mem_of_getElem? (i := 572) (by decide +kernel)⟩
theorem lw_p27 : lw_okq (⟨"TentPegs", "keepFraction", "(II)V"⟩, 13) := ⟨⟨by decide +kernel, by decide +kernel⟩, List.mem_of_getElem? (i := 15) (by decide +kernel), List.mem_of_getElem? (i := 673) (by decide +kernel), List.mem_of_getElem? (i := 674) (by decide +kernel)⟩
theorem lw_p28 : lw_okq (⟨"TentPegs$Plans", "ordersWithOneMore", "(I)I"⟩, 6) := ⟨⟨by decide +kernel, by decide +kernel⟩, List.mem_of_getElem? (i := 132) (by decide +kernel), List.mem_of_getElem? (i := 699) (by decide +kernel), List.mem_of_getElem? (i := 700) (by decide +kernel)⟩
theorem lw_p29 : lw_okq (⟨"TentPegs$Plans", "leastThatMayFollow", "(I)I"⟩, 6) := ⟨⟨by decide +kernel, by decide +kernel⟩, List.mem_of_getElem? (i := 132) (by decide +kernel), List.mem_of_getElem? (i := 711) (by decide +kernel), List.mem_of_getElem? (i := 712) (by decide +kernel)⟩
theorem lw_p30 : lw_okq (⟨"TentPegs$Plans", "inchesOfAll", "()I"⟩, 6) := ⟨⟨by decide +kernel, by decide +kernel⟩, List.mem_of_getElem? (i := 132) (by decide +kernel), List.mem_of_getElem? (i := 744) (by decide +kernel), List.mem_of_getElem? (i := 745) (by decide +kernel)⟩
theorem lw_p31 : lw_okq (⟨"TentPegs", "counted", "(I)I"⟩, 13) := ⟨⟨by decide +kernel, by decide +kernel⟩, List.mem_of_getElem? (i := 15) (by decide +kernel), List.mem_of_getElem? (i := 803) (by decide +kernel), List.mem_of_getElem? (i := 804) (by decide +kernel)⟩
def lw_privs_2 : List (MethodName × Nat) := [(⟨"TentPegs$Reader", "tellGone", "(I)Z"⟩, 11), (⟨"TentPegs", "asItIs", "()LTentPegs$Gale;"⟩, 13), (⟨"TentPegs$Gale", "behindWalls", "(II)I"⟩, 8), (⟨"TentPegs$Gale", "shareOf", "(II)I"⟩, 8), (⟨"TentPegs$Gale", "nextToGo", "()I"⟩, 8), (⟨"TentPegs$Gale", "standingBeside", "(I)I"⟩, 8), (⟨"TentPegs$Gale", "aheadOf", "(I)I"⟩, 8), (⟨"TentPegs$Gale", "behind", "(I)I"⟩, 8), (⟨"TentPegs$Gale", "handOn", "(I)V"⟩, 8), (⟨"TentPegs$Gale", "standingBehind", "(I)I"⟩, 8), (⟨"TentPegs$Gale", "standingAheadOf", "(I)I"⟩, 8), (⟨"TentPegs", "keepFraction", "(II)V"⟩, 13), (⟨"TentPegs$Plans", "ordersWithOneMore", "(I)I"⟩, 6), (⟨"TentPegs$Plans", "leastThatMayFollow", "(I)I"⟩, 6), (⟨"TentPegs$Plans", "inchesOfAll", "()I"⟩, 6), (⟨"TentPegs", "counted", "(I)I"⟩, 13)]
theorem lw_r2 : ∀ q ∈ lw_privs_2, lw_okq q := List.forall_mem_cons.mpr ⟨lw_p16, List.forall_mem_cons.mpr ⟨lw_p17, List.forall_mem_cons.mpr ⟨lw_p18, List.forall_mem_cons.mpr ⟨lw_p19, List.forall_mem_cons.mpr ⟨lw_p20, List.forall_mem_cons.mpr ⟨lw_p21, List.forall_mem_cons.mpr ⟨lw_p22, List.forall_mem_cons.mpr ⟨lw_p23, List.forall_mem_cons.mpr ⟨lw_p24, List.forall_mem_cons.mpr ⟨lw_p25, List.forall_mem_cons.mpr ⟨lw_p26, List.forall_mem_cons.mpr ⟨lw_p27, List.forall_mem_cons.mpr ⟨lw_p28, List.forall_mem_cons.mpr ⟨lw_p29, List.forall_mem_cons.mpr ⟨lw_p30, List.forall_mem_cons.mpr ⟨lw_p31, fun _ h => absurd h List.not_mem_nil⟩⟩⟩⟩⟩⟩⟩⟩⟩⟩⟩⟩⟩⟩⟩⟩
theorem lw_p32 : lw_okq (⟨"TentPegsModel", "pitch", "(I)V"⟩, 22) := ⟨⟨by decide +kernel, by decide +kernel⟩, List.mem_of_getElem? (i := 813) (by decide +kernel), List.mem_of_getElem? (i := 819) (by decide +kernel), List.mem_of_getElem? (i := 820) (by decide +kernel)⟩
theorem lw_p33 : lw_okq (⟨"TentPegsModel", "bad", "()I"⟩, 22) := ⟨⟨by decide +kernel, by decide +kernel⟩, List.mem_of_getElem? (i := 813) (by decide +kernel), List.mem_of_getElem? (i := 899) (by decide +kernel), List.mem_of_getElem? (i := 900) (by decide +kernel)⟩
theorem lw_p34 : lw_okq (⟨"TentPegsModel", "refuse", "(II)I"⟩, 22) := ⟨⟨by decide +kernel, by decide +kernel⟩, List.mem_of_getElem? (i := 813) (by decide +kernel), List.mem_of_getElem? (i := 903) (by decide +kernel), List.mem_of_getElem? (i := 904) (by decide +kernel)⟩
theorem lw_p35 : lw_okq (⟨"TentPegsModel", "isPeg", "(IIII)Z"⟩, 22) := ⟨⟨by decide +kernel, by decide +kernel⟩, List.mem_of_getElem? (i := 813) (by decide +kernel), List.mem_of_getElem? (i := 911) (by decide +kernel), List.mem_of_getElem? (i := 912) (by decide +kernel)⟩
theorem lw_p36 : lw_okq (⟨"TentPegsModel", "noPeg", "(I)Z"⟩, 22) := ⟨⟨by decide +kernel, by decide +kernel⟩, List.mem_of_getElem? (i := 813) (by decide +kernel), List.mem_of_getElem? (i := 915) (by decide +kernel), List.mem_of_getElem? (i := 916) (by decide +kernel)⟩
theorem lw_p37 : lw_okq (⟨"TentPegsModel", "drive", "(IIII)V"⟩, 22) := ⟨⟨by decide +kernel, by decide +kernel⟩, List.mem_of_getElem? (i := 813) (by decide +kernel), List.mem_of_getElem? (i := 921) (by decide +kernel), List.mem_of_getElem? (i := 922) (by decide +kernel)⟩
theorem lw_p38 : lw_okq (⟨"TentPegsModel", "no", "()I"⟩, 22) := ⟨⟨by decide +kernel, by decide +kernel⟩, List.mem_of_getElem? (i := 813) (by decide +kernel), List.mem_of_getElem? (i := 940) (by decide +kernel), List.mem_of_getElem? (i := 941) (by decide +kernel)⟩
theorem lw_p39 : lw_okq (⟨"TentPegsModel", "readAll", "()I"⟩, 22) := ⟨⟨by decide +kernel, by decide +kernel⟩, List.mem_of_getElem? (i := 813) (by decide +kernel), List.mem_of_getElem? (i := 962) (by decide +kernel), List.mem_of_getElem? (i := 963) (by decide +kernel)⟩
theorem lw_p40 : lw_okq (⟨"TentPegsModel", "next", "()V"⟩, 22) := ⟨⟨by decide +kernel, by decide +kernel⟩, List.mem_of_getElem? (i := 813) (by decide +kernel), List.mem_of_getElem? (i := 966) (by decide +kernel), List.mem_of_getElem? (i := 967) (by decide +kernel)⟩
theorem lw_p41 : lw_okq (⟨"TentPegsModel", "isFigure", "()Z"⟩, 22) := ⟨⟨by decide +kernel, by decide +kernel⟩, List.mem_of_getElem? (i := 813) (by decide +kernel), List.mem_of_getElem? (i := 975) (by decide +kernel), List.mem_of_getElem? (i := 976) (by decide +kernel)⟩
theorem lw_p42 : lw_okq (⟨"TentPegsModel", "readItem", "()Z"⟩, 22) := ⟨⟨by decide +kernel, by decide +kernel⟩, List.mem_of_getElem? (i := 813) (by decide +kernel), List.mem_of_getElem? (i := 982) (by decide +kernel), List.mem_of_getElem? (i := 983) (by decide +kernel)⟩
theorem lw_p43 : lw_okq (⟨"TentPegsModel", "isTold", "(I)Z"⟩, 22) := ⟨⟨by decide +kernel, by decide +kernel⟩, List.mem_of_getElem? (i := 813) (by decide +kernel), List.mem_of_getElem? (i := 992) (by decide +kernel), List.mem_of_getElem? (i := 993) (by decide +kernel)⟩
theorem lw_p44 : lw_okq (⟨"TentPegsModel", "isLost", "()Z"⟩, 22) := ⟨⟨by decide +kernel, by decide +kernel⟩, List.mem_of_getElem? (i := 813) (by decide +kernel), List.mem_of_getElem? (i := 1004) (by decide +kernel), List.mem_of_getElem? (i := 1005) (by decide +kernel)⟩
theorem lw_p45 : lw_okq (⟨"TentPegsModel", "keepStood", "()V"⟩, 22) := ⟨⟨by decide +kernel, by decide +kernel⟩, List.mem_of_getElem? (i := 813) (by decide +kernel), List.mem_of_getElem? (i := 1011) (by decide +kernel), List.mem_of_getElem? (i := 1012) (by decide +kernel)⟩
theorem lw_p46 : lw_okq (⟨"TentPegsModel", "behind", "(III)I"⟩, 22) := ⟨⟨by decide +kernel, by decide +kernel⟩, List.mem_of_getElem? (i := 813) (by decide +kernel), List.mem_of_getElem? (i := 1015) (by decide +kernel), List.mem_of_getElem? (i := 1016) (by decide +kernel)⟩
theorem lw_p47 : lw_okq (⟨"TentPegsModel", "pullOf", "(IIIII)I"⟩, 22) := ⟨⟨by decide +kernel, by decide +kernel⟩, List.mem_of_getElem? (i := 813) (by decide +kernel), List.mem_of_getElem? (i := 1019) (by decide +kernel), List.mem_of_getElem? (i := 1020) (by decide +kernel)⟩
def lw_privs_3 : List (MethodName × Nat) := [(⟨"TentPegsModel", "pitch", "(I)V"⟩, 22), (⟨"TentPegsModel", "bad", "()I"⟩, 22), (⟨"TentPegsModel", "refuse", "(II)I"⟩, 22), (⟨"TentPegsModel", "isPeg", "(IIII)Z"⟩, 22), (⟨"TentPegsModel", "noPeg", "(I)Z"⟩, 22), (⟨"TentPegsModel", "drive", "(IIII)V"⟩, 22), (⟨"TentPegsModel", "no", "()I"⟩, 22), (⟨"TentPegsModel", "readAll", "()I"⟩, 22), (⟨"TentPegsModel", "next", "()V"⟩, 22), (⟨"TentPegsModel", "isFigure", "()Z"⟩, 22), (⟨"TentPegsModel", "readItem", "()Z"⟩, 22), (⟨"TentPegsModel", "isTold", "(I)Z"⟩, 22), (⟨"TentPegsModel", "isLost", "()Z"⟩, 22), (⟨"TentPegsModel", "keepStood", "()V"⟩, 22), (⟨"TentPegsModel", "behind", "(III)I"⟩, 22), (⟨"TentPegsModel", "pullOf", "(IIIII)I"⟩, 22)]
theorem lw_r3 : ∀ q ∈ lw_privs_3, lw_okq q := List.forall_mem_cons.mpr ⟨lw_p32, List.forall_mem_cons.mpr ⟨lw_p33, List.forall_mem_cons.mpr ⟨lw_p34, List.forall_mem_cons.mpr ⟨lw_p35, List.forall_mem_cons.mpr ⟨lw_p36, List.forall_mem_cons.mpr ⟨lw_p37, List.forall_mem_cons.mpr ⟨lw_p38, List.forall_mem_cons.mpr ⟨lw_p39, List.forall_mem_cons.mpr ⟨lw_p40, List.forall_mem_cons.mpr ⟨lw_p41, List.forall_mem_cons.mpr ⟨lw_p42, List.forall_mem_cons.mpr ⟨lw_p43, List.forall_mem_cons.mpr ⟨lw_p44, List.forall_mem_cons.mpr ⟨lw_p45, List.forall_mem_cons.mpr ⟨lw_p46, List.forall_mem_cons.mpr ⟨lw_p47, fun _ h => absurd h List.not_mem_nil⟩⟩⟩⟩⟩⟩⟩⟩⟩⟩⟩⟩⟩⟩⟩⟩
theorem lw_p48 : lw_okq (⟨"TentPegsModel", "wayOf", "(I)I"⟩, 22) := ⟨⟨by decide +kernel, by decide +kernel⟩, List.mem_of_getElem? (i := 813) (by decide +kernel), List.mem_of_getElem? (i := 1023) (by decide +kernel), List.mem_of_getElem? (i := 1024) (by decide +kernel)⟩
theorem lw_p49 : lw_okq (⟨"TentPegsModel", "mostOf", "(I)I"⟩, 22) := ⟨⟨by decide +kernel, by decide +kernel⟩, List.mem_of_getElem? (i := 813) (by decide +kernel), List.mem_of_getElem? (i := 1030) (by decide +kernel), List.mem_of_getElem? (i := 1031) (by decide +kernel)⟩
theorem lw_p50 : lw_okq (⟨"TentPegsModel", "holds", "(II)I"⟩, 22) := ⟨⟨by decide +kernel, by decide +kernel⟩, List.mem_of_getElem? (i := 813) (by decide +kernel), List.mem_of_getElem? (i := 1034) (by decide +kernel), List.mem_of_getElem? (i := 1035) (by decide +kernel)⟩
theorem lw_p51 : lw_okq (⟨"TentPegsModel", "doubled", "(I)I"⟩, 22) := ⟨⟨by decide +kernel, by decide +kernel⟩, List.mem_of_getElem? (i := 813) (by decide +kernel), List.mem_of_getElem? (i := 1038) (by decide +kernel), List.mem_of_getElem? (i := 1039) (by decide +kernel)⟩
theorem lw_p52 : lw_okq (⟨"TentPegsModel", "plain", "(I)I"⟩, 22) := ⟨⟨by decide +kernel, by decide +kernel⟩, List.mem_of_getElem? (i := 813) (by decide +kernel), List.mem_of_getElem? (i := 1042) (by decide +kernel), List.mem_of_getElem? (i := 1043) (by decide +kernel)⟩
theorem lw_p53 : lw_okq (⟨"TentPegsModel", "loosened", "(I)I"⟩, 22) := ⟨⟨by decide +kernel, by decide +kernel⟩, List.mem_of_getElem? (i := 813) (by decide +kernel), List.mem_of_getElem? (i := 1046) (by decide +kernel), List.mem_of_getElem? (i := 1047) (by decide +kernel)⟩
theorem lw_p54 : lw_okq (⟨"TentPegsModel", "nextOf", "(III)I"⟩, 22) := ⟨⟨by decide +kernel, by decide +kernel⟩, List.mem_of_getElem? (i := 813) (by decide +kernel), List.mem_of_getElem? (i := 1050) (by decide +kernel), List.mem_of_getElem? (i := 1051) (by decide +kernel)⟩
theorem lw_p55 : lw_okq (⟨"TentPegsModel", "pullNow", "(III)I"⟩, 22) := ⟨⟨by decide +kernel, by decide +kernel⟩, List.mem_of_getElem? (i := 813) (by decide +kernel), List.mem_of_getElem? (i := 1070) (by decide +kernel), List.mem_of_getElem? (i := 1071) (by decide +kernel)⟩
theorem lw_p56 : lw_okq (⟨"TentPegsModel", "badTen", "()I"⟩, 22) := ⟨⟨by decide +kernel, by decide +kernel⟩, List.mem_of_getElem? (i := 813) (by decide +kernel), List.mem_of_getElem? (i := 1078) (by decide +kernel), List.mem_of_getElem? (i := 1079) (by decide +kernel)⟩
theorem lw_p57 : lw_okq (⟨"TentPegsModel", "leastWay", "()I"⟩, 22) := ⟨⟨by decide +kernel, by decide +kernel⟩, List.mem_of_getElem? (i := 813) (by decide +kernel), List.mem_of_getElem? (i := 1090) (by decide +kernel), List.mem_of_getElem? (i := 1091) (by decide +kernel)⟩
theorem lw_p58 : lw_okq (⟨"TentPegsModel", "bearsBy", "(I)I"⟩, 22) := ⟨⟨by decide +kernel, by decide +kernel⟩, List.mem_of_getElem? (i := 813) (by decide +kernel), List.mem_of_getElem? (i := 1094) (by decide +kernel), List.mem_of_getElem? (i := 1095) (by decide +kernel)⟩
theorem lw_p59 : lw_okq (⟨"TentPegsModel", "takesNoneNow", "(II)Z"⟩, 22) := ⟨⟨by decide +kernel, by decide +kernel⟩, List.mem_of_getElem? (i := 813) (by decide +kernel), List.mem_of_getElem? (i := 1098) (by decide +kernel), List.mem_of_getElem? (i := 1099) (by decide +kernel)⟩
theorem lw_p60 : lw_okq (⟨"TentPegsModel", "takesNone", "(IIIII)Z"⟩, 22) := ⟨⟨by decide +kernel, by decide +kernel⟩, List.mem_of_getElem? (i := 813) (by decide +kernel), List.mem_of_getElem? (i := 1102) (by decide +kernel), List.mem_of_getElem? (i := 1103) (by decide +kernel)⟩
theorem lw_p61 : lw_okq (⟨"TentPegsModel", "bearsWith", "(II)I"⟩, 22) := ⟨⟨by decide +kernel, by decide +kernel⟩, List.mem_of_getElem? (i := 813) (by decide +kernel), List.mem_of_getElem? (i := 1110) (by decide +kernel), List.mem_of_getElem? (i := 1111) (by decide +kernel)⟩
theorem lw_p62 : lw_okq (⟨"TentPegsModel", "depthFor", "(III)I"⟩, 22) := ⟨⟨by decide +kernel, by decide +kernel⟩, List.mem_of_getElem? (i := 813) (by decide +kernel), List.mem_of_getElem? (i := 1118) (by decide +kernel), List.mem_of_getElem? (i := 1119) (by decide +kernel)⟩
theorem lw_p63 : lw_okq (⟨"TentPegsModel", "allOdds", "()I"⟩, 22) := ⟨⟨by decide +kernel, by decide +kernel⟩, List.mem_of_getElem? (i := 813) (by decide +kernel), List.mem_of_getElem? (i := 1126) (by decide +kernel), List.mem_of_getElem? (i := 1127) (by decide +kernel)⟩
def lw_privs_4 : List (MethodName × Nat) := [(⟨"TentPegsModel", "wayOf", "(I)I"⟩, 22), (⟨"TentPegsModel", "mostOf", "(I)I"⟩, 22), (⟨"TentPegsModel", "holds", "(II)I"⟩, 22), (⟨"TentPegsModel", "doubled", "(I)I"⟩, 22), (⟨"TentPegsModel", "plain", "(I)I"⟩, 22), (⟨"TentPegsModel", "loosened", "(I)I"⟩, 22), (⟨"TentPegsModel", "nextOf", "(III)I"⟩, 22), (⟨"TentPegsModel", "pullNow", "(III)I"⟩, 22), (⟨"TentPegsModel", "badTen", "()I"⟩, 22), (⟨"TentPegsModel", "leastWay", "()I"⟩, 22), (⟨"TentPegsModel", "bearsBy", "(I)I"⟩, 22), (⟨"TentPegsModel", "takesNoneNow", "(II)Z"⟩, 22), (⟨"TentPegsModel", "takesNone", "(IIIII)Z"⟩, 22), (⟨"TentPegsModel", "bearsWith", "(II)I"⟩, 22), (⟨"TentPegsModel", "depthFor", "(III)I"⟩, 22), (⟨"TentPegsModel", "allOdds", "()I"⟩, 22)]
theorem lw_r4 : ∀ q ∈ lw_privs_4, lw_okq q := List.forall_mem_cons.mpr ⟨lw_p48, List.forall_mem_cons.mpr ⟨lw_p49, List.forall_mem_cons.mpr ⟨lw_p50, List.forall_mem_cons.mpr ⟨lw_p51, List.forall_mem_cons.mpr ⟨lw_p52, List.forall_mem_cons.mpr ⟨lw_p53, List.forall_mem_cons.mpr ⟨lw_p54, List.forall_mem_cons.mpr ⟨lw_p55, List.forall_mem_cons.mpr ⟨lw_p56, List.forall_mem_cons.mpr ⟨lw_p57, List.forall_mem_cons.mpr ⟨lw_p58, List.forall_mem_cons.mpr ⟨lw_p59, List.forall_mem_cons.mpr ⟨lw_p60, List.forall_mem_cons.mpr ⟨lw_p61, List.forall_mem_cons.mpr ⟨lw_p62, List.forall_mem_cons.mpr ⟨lw_p63, fun _ h => absurd h List.not_mem_nil⟩⟩⟩⟩⟩⟩⟩⟩⟩⟩⟩⟩⟩⟩⟩⟩
theorem lw_p64 : lw_okq (⟨"TentPegsModel", "goodOdds", "(III)I"⟩, 22) := ⟨⟨by decide +kernel, by decide +kernel⟩, List.mem_of_getElem? (i := 813) (by decide +kernel), List.mem_of_getElem? (i := 1130) (by decide +kernel), List.mem_of_getElem? (i := 1131) (by decide +kernel)⟩
theorem lw_p65 : lw_okq (⟨"TentPegsModel", "setPart", "(II)V"⟩, 22) := ⟨⟨by decide +kernel, by decide +kernel⟩, List.mem_of_getElem? (i := 813) (by decide +kernel), List.mem_of_getElem? (i := 1134) (by decide +kernel), List.mem_of_getElem? (i := 1135) (by decide +kernel)⟩
theorem lw_p66 : lw_okq (⟨"TentPegsModel", "isBorne", "(IIII)Z"⟩, 22) := ⟨⟨by decide +kernel, by decide +kernel⟩, List.mem_of_getElem? (i := 813) (by decide +kernel), List.mem_of_getElem? (i := 1156) (by decide +kernel), List.mem_of_getElem? (i := 1157) (by decide +kernel)⟩
theorem lw_p67 : lw_okq (⟨"TentPegsModel", "balance", "(III)I"⟩, 22) := ⟨⟨by decide +kernel, by decide +kernel⟩, List.mem_of_getElem? (i := 813) (by decide +kernel), List.mem_of_getElem? (i := 1168) (by decide +kernel), List.mem_of_getElem? (i := 1169) (by decide +kernel)⟩
theorem lw_p68 : lw_okq (⟨"TentPegsModel", "nightOf", "(IIII)I"⟩, 22) := ⟨⟨by decide +kernel, by decide +kernel⟩, List.mem_of_getElem? (i := 813) (by decide +kernel), List.mem_of_getElem? (i := 1184) (by decide +kernel), List.mem_of_getElem? (i := 1185) (by decide +kernel)⟩
theorem lw_p69 : lw_okq (⟨"TentPegsModel", "draws", "()J"⟩, 22) := ⟨⟨by decide +kernel, by decide +kernel⟩, List.mem_of_getElem? (i := 813) (by decide +kernel), List.mem_of_getElem? (i := 1188) (by decide +kernel), List.mem_of_getElem? (i := 1189) (by decide +kernel)⟩
theorem lw_p70 : lw_okq (⟨"TentPegsModel", "countOf", "(I)I"⟩, 22) := ⟨⟨by decide +kernel, by decide +kernel⟩, List.mem_of_getElem? (i := 813) (by decide +kernel), List.mem_of_getElem? (i := 1216) (by decide +kernel), List.mem_of_getElem? (i := 1217) (by decide +kernel)⟩
def lw_privs_5 : List (MethodName × Nat) := [(⟨"TentPegsModel", "goodOdds", "(III)I"⟩, 22), (⟨"TentPegsModel", "setPart", "(II)V"⟩, 22), (⟨"TentPegsModel", "isBorne", "(IIII)Z"⟩, 22), (⟨"TentPegsModel", "balance", "(III)I"⟩, 22), (⟨"TentPegsModel", "nightOf", "(IIII)I"⟩, 22), (⟨"TentPegsModel", "draws", "()J"⟩, 22), (⟨"TentPegsModel", "countOf", "(I)I"⟩, 22)]
theorem lw_r5 : ∀ q ∈ lw_privs_5, lw_okq q := List.forall_mem_cons.mpr ⟨lw_p64, List.forall_mem_cons.mpr ⟨lw_p65, List.forall_mem_cons.mpr ⟨lw_p66, List.forall_mem_cons.mpr ⟨lw_p67, List.forall_mem_cons.mpr ⟨lw_p68, List.forall_mem_cons.mpr ⟨lw_p69, List.forall_mem_cons.mpr ⟨lw_p70, fun _ h => absurd h List.not_mem_nil⟩⟩⟩⟩⟩⟩⟩
def lw_privs : List (MethodName × Nat) := lw_privs_1 ++ (lw_privs_2 ++ (lw_privs_3 ++ (lw_privs_4 ++ (lw_privs_5))))
def lw_tbl : List Cond := k2_sels lw_privs ++ tables_1
theorem lw_privs_ok : ∀ q ∈ lw_privs, lw_okq q := by
  show ∀ q ∈ lw_privs_1 ++ (lw_privs_2 ++ (lw_privs_3 ++ (lw_privs_4 ++ (lw_privs_5)))), lw_okq q
  exact List.forall_mem_append.mpr ⟨lw_r1, List.forall_mem_append.mpr ⟨lw_r2, List.forall_mem_append.mpr ⟨lw_r3, List.forall_mem_append.mpr ⟨lw_r4, lw_r5⟩⟩⟩⟩
end
section
/-! Own layer (1): the words, the classes, the memory, the worlds. Printed by wip/whole/base.py. -/
def TT : List Cond := lw_tbl.filter goodWord
theorem tm (i : Nat) {w : Cond} (h : lw_tbl[i]? = some w) (g : goodWord w = true) : w ∈ TT := List.mem_filter.mpr ⟨List.mem_of_getElem? h, g⟩
theorem TT_lw : ∀ w ∈ TT, w ∈ lw_tbl := fun _ h => (List.mem_filter.mp h).1
theorem TT_in : GoodIn TT TT := fun _ h => ⟨h, good_of_word (List.mem_filter.mp h).2⟩
theorem TT_inc {y : MethodName} {c : ByteArray} {n : Nat} {r : Option FieldType} (h : Cond.code y c n r ∈ TT) : GoodIn TT (Cond.code y c n r :: TT) := by
  intro w hw
  rcases List.mem_cons.mp hw with rfl | hw
  · exact TT_in _ h
  · exact TT_in _ hw
def R_F : String := "TentPegs$Field"
def T_F : u_T := fun k => match k with
  | 0 => ("TentPegs$Field", "pegs", "I", false)
  | 1 => ("TentPegs$Field", "wetness", "I", false)
  | 2 => ("TentPegs$Field", "walls", "I", false)
  | 3 => ("TentPegs$Field", "standing", "I", false)
  | 4 => ("TentPegs$Field", "undoable", "I", false)
  | 5 => ("TentPegs$Field", "kinds", "[I", true)
  | 6 => ("TentPegs$Field", "depths", "[I", true)
  | 7 => ("TentPegs$Field", "grounds", "[I", true)
  | 8 => ("TentPegs$Field", "chances", "[I", true)
  | _ => ("TentPegs$Field", "stoodBefore", "[I", true)
def ty_F : Nat → FieldType := fun k => match k with
  | 0 => .int
  | 1 => .int
  | 2 => .int
  | 3 => .int
  | 4 => .int
  | 5 => .array .int
  | 6 => .array .int
  | 7 => .array .int
  | 8 => .array .int
  | _ => .array .int
theorem nm_F : ∀ a, a < 10 → ∀ b, b < 10 → a ≠ b → (T_F a).2.1 ≠ (T_F b).2.1 := by decide +kernel
theorem ok_F : ∀ k, k < 10 → parseFieldDescriptor (T_F k).2.2.1 = some (ty_F k) := by decide +kernel
theorem in_F : ∀ w ∈ u_ws R_F T_F 10, w ∈ TT := by
  have h : (u_ws R_F T_F 10).all (fun w => decide (w ∈ lw_tbl) && goodWord w) = true := by decide +kernel
  intro w hw
  have h1 := List.all_eq_true.mp h w hw
  simp only [Bool.and_eq_true, decide_eq_true_eq] at h1
  exact List.mem_filter.mpr h1
def R_G : String := "TentPegs$Gale"
def T_G : u_T := fun k => match k with
  | 0 => ("TentPegs$Gale", "field", "LTentPegs$Field;", true)
  | 1 => ("TentPegs$Gale", "pulls", "[I", true)
  | 2 => ("TentPegs$Gale", "went", "[I", true)
  | 3 => ("TentPegs$Gale", "gone", "I", false)
  | 4 => ("TentPegs$Gale", "standing", "I", false)
  | 5 => ("TentPegs$Gale", "walls", "I", false)
  | 6 => ("TentPegs$Gale", "turned", "I", false)
  | _ => ("TentPegs$Gale", "doubled", "I", false)
def ty_G : Nat → FieldType := fun k => match k with
  | 0 => .object "TentPegs$Field"
  | 1 => .array .int
  | 2 => .array .int
  | 3 => .int
  | 4 => .int
  | 5 => .int
  | 6 => .int
  | _ => .int
theorem nm_G : ∀ a, a < 8 → ∀ b, b < 8 → a ≠ b → (T_G a).2.1 ≠ (T_G b).2.1 := by decide +kernel
theorem ok_G : ∀ k, k < 8 → parseFieldDescriptor (T_G k).2.2.1 = some (ty_G k) := by decide +kernel
theorem in_G : ∀ w ∈ u_ws R_G T_G 8, w ∈ TT := by
  have h : (u_ws R_G T_G 8).all (fun w => decide (w ∈ lw_tbl) && goodWord w) = true := by decide +kernel
  intro w hw
  have h1 := List.all_eq_true.mp h w hw
  simp only [Bool.and_eq_true, decide_eq_true_eq] at h1
  exact List.mem_filter.mpr h1
def R_P : String := "TentPegs$Plans"
def T_P : u_T := fun k => match k with
  | 0 => ("TentPegs$Plans", "field", "LTentPegs$Field;", true)
  | 1 => ("TentPegs$Plans", "gale", "LTentPegs$Gale;", true)
  | 2 => ("TentPegs$Plans", "orders", "[I", true)
  | 3 => ("TentPegs$Plans", "needs", "[I", true)
  | 4 => ("TentPegs$Plans", "explained", "I", false)
  | _ => ("TentPegs$Plans", "firstExplained", "I", false)
def ty_P : Nat → FieldType := fun k => match k with
  | 0 => .object "TentPegs$Field"
  | 1 => .object "TentPegs$Gale"
  | 2 => .array .int
  | 3 => .array .int
  | 4 => .int
  | _ => .int
theorem nm_P : ∀ a, a < 6 → ∀ b, b < 6 → a ≠ b → (T_P a).2.1 ≠ (T_P b).2.1 := by decide +kernel
theorem ok_P : ∀ k, k < 6 → parseFieldDescriptor (T_P k).2.2.1 = some (ty_P k) := by decide +kernel
theorem in_P : ∀ w ∈ u_ws R_P T_P 6, w ∈ TT := by
  have h : (u_ws R_P T_P 6).all (fun w => decide (w ∈ lw_tbl) && goodWord w) = true := by decide +kernel
  intro w hw
  have h1 := List.all_eq_true.mp h w hw
  simp only [Bool.and_eq_true, decide_eq_true_eq] at h1
  exact List.mem_filter.mpr h1
def R_R : String := "TentPegs$Reader"
def T_R : u_T := fun k => match k with
  | 0 => ("TentPegs$Reader", "text", "[B", true)
  | 1 => ("TentPegs$Reader", "numbers", "[I", true)
  | 2 => ("TentPegs$Reader", "draft", "LTentPegs$Field;", true)
  | 3 => ("TentPegs$Reader", "length", "I", false)
  | 4 => ("TentPegs$Reader", "at", "I", false)
  | 5 => ("TentPegs$Reader", "start", "I", false)
  | 6 => ("TentPegs$Reader", "token", "I", false)
  | 7 => ("TentPegs$Reader", "number", "I", false)
  | 8 => ("TentPegs$Reader", "items", "I", false)
  | 9 => ("TentPegs$Reader", "fault", "I", false)
  | _ => ("TentPegs$Reader", "refused", "I", false)
def ty_R : Nat → FieldType := fun k => match k with
  | 0 => .array .byte
  | 1 => .array .int
  | 2 => .object "TentPegs$Field"
  | 3 => .int
  | 4 => .int
  | 5 => .int
  | 6 => .int
  | 7 => .int
  | 8 => .int
  | 9 => .int
  | _ => .int
theorem nm_R : ∀ a, a < 11 → ∀ b, b < 11 → a ≠ b → (T_R a).2.1 ≠ (T_R b).2.1 := by decide +kernel
theorem ok_R : ∀ k, k < 11 → parseFieldDescriptor (T_R k).2.2.1 = some (ty_R k) := by decide +kernel
theorem in_R : ∀ w ∈ u_ws R_R T_R 11, w ∈ TT := by
  have h : (u_ws R_R T_R 11).all (fun w => decide (w ∈ lw_tbl) && goodWord w) = true := by decide +kernel
  intro w hw
  have h1 := List.all_eq_true.mp h w hw
  simp only [Bool.and_eq_true, decide_eq_true_eq] at h1
  exact List.mem_filter.mpr h1
def R_T : String := "TentPegs"
def T_T : u_T := fun k => match k with
  | 0 => ("TentPegs", "field", "LTentPegs$Field;", true)
  | 1 => ("TentPegs", "gale", "LTentPegs$Gale;", true)
  | 2 => ("TentPegs", "plans", "LTentPegs$Plans;", true)
  | 3 => ("TentPegs", "text", "[B", true)
  | 4 => ("TentPegs", "reader", "LTentPegs$Reader;", true)
  | 5 => ("TentPegs", "images", "[LTentPegs$Field;", true)
  | 6 => ("TentPegs", "kept", "[Z", true)
  | 7 => ("TentPegs", "typed", "I", false)
  | 8 => ("TentPegs", "above", "I", false)
  | 9 => ("TentPegs", "below", "I", false)
  | 10 => ("TentPegs", "bads", "I", false)
  | 11 => ("TentPegs", "noes", "I", false)
  | _ => ("TentPegs", "fulls", "I", false)
def ty_T : Nat → FieldType := fun k => match k with
  | 0 => .object "TentPegs$Field"
  | 1 => .object "TentPegs$Gale"
  | 2 => .object "TentPegs$Plans"
  | 3 => .array .byte
  | 4 => .object "TentPegs$Reader"
  | 5 => .array (.object "TentPegs$Field")
  | 6 => .array .boolean
  | 7 => .int
  | 8 => .int
  | 9 => .int
  | 10 => .int
  | 11 => .int
  | _ => .int
theorem nm_T : ∀ a, a < 13 → ∀ b, b < 13 → a ≠ b → (T_T a).2.1 ≠ (T_T b).2.1 := by decide +kernel
theorem ok_T : ∀ k, k < 13 → parseFieldDescriptor (T_T k).2.2.1 = some (ty_T k) := by decide +kernel
theorem in_T : ∀ w ∈ u_ws R_T T_T 13, w ∈ TT := by
  have h : (u_ws R_T T_T 13).all (fun w => decide (w ∈ lw_tbl) && goodWord w) = true := by decide +kernel
  intro w hw
  have h1 := List.all_eq_true.mp h w hw
  simp only [Bool.and_eq_true, decide_eq_true_eq] at h1
  exact List.mem_filter.mpr h1
def R_M : String := "TentPegsModel"
def T_M : u_T := fun k => match k with
  | 0 => ("TentPegsModel", "thrown", "I", false)
  | 1 => ("TentPegsModel", "refused", "[I", true)
  | 2 => ("TentPegsModel", "field", "[I", true)
  | 3 => ("TentPegsModel", "aside", "[I", true)
  | 4 => ("TentPegsModel", "kept", "[I", true)
  | 5 => ("TentPegsModel", "isKept", "[Z", true)
  | 6 => ("TentPegsModel", "text", "[I", true)
  | 7 => ("TentPegsModel", "size", "I", false)
  | 8 => ("TentPegsModel", "at", "I", false)
  | 9 => ("TentPegsModel", "start", "I", false)
  | 10 => ("TentPegsModel", "token", "I", false)
  | 11 => ("TentPegsModel", "value", "J", false)
  | 12 => ("TentPegsModel", "item", "[I", true)
  | 13 => ("TentPegsModel", "items", "I", false)
  | 14 => ("TentPegsModel", "pull", "[I", true)
  | 15 => ("TentPegsModel", "row", "[I", true)
  | 16 => ("TentPegsModel", "gone", "I", false)
  | 17 => ("TentPegsModel", "above", "J", false)
  | 18 => ("TentPegsModel", "below", "J", false)
  | 19 => ("TentPegsModel", "orders", "[I", true)
  | 20 => ("TentPegsModel", "drawn", "J", false)
  | _ => ("TentPegsModel", "lostBehind", "I", false)
def ty_M : Nat → FieldType := fun k => match k with
  | 0 => .int
  | 1 => .array .int
  | 2 => .array .int
  | 3 => .array .int
  | 4 => .array .int
  | 5 => .array .boolean
  | 6 => .array .int
  | 7 => .int
  | 8 => .int
  | 9 => .int
  | 10 => .int
  | 11 => .long
  | 12 => .array .int
  | 13 => .int
  | 14 => .array .int
  | 15 => .array .int
  | 16 => .int
  | 17 => .long
  | 18 => .long
  | 19 => .array .int
  | 20 => .long
  | _ => .int
theorem nm_M : ∀ a, a < 22 → ∀ b, b < 22 → a ≠ b → (T_M a).2.1 ≠ (T_M b).2.1 := by decide +kernel
theorem ok_M : ∀ k, k < 22 → parseFieldDescriptor (T_M k).2.2.1 = some (ty_M k) := by decide +kernel
theorem in_M : ∀ w ∈ u_ws R_M T_M 22, w ∈ TT := by
  have h : (u_ws R_M T_M 22).all (fun w => decide (w ∈ lw_tbl) && goodWord w) = true := by decide +kernel
  intro w hw
  have h1 := List.all_eq_true.mp h w hw
  simp only [Bool.and_eq_true, decide_eq_true_eq] at h1
  exact List.mem_filter.mpr h1
abbrev classes : List vw_C := [(R_F, T_F, 10), (R_G, T_G, 8), (R_P, T_P, 6), (R_R, T_R, 11), (R_T, T_T, 13), (R_M, T_M, 22)]
abbrev tys (cs : Nat → ClassId) : List (ClassId × FieldType) := [(cs 0, .int), (cs 1, .byte), (cs 2, .boolean), (cs 3, .object "TentPegs$Field")]
abbrev Mem : Type := (Nat → Nat → Int32) × (Nat → Int64)
def stI (μ : Mem) (k j : Nat) (v : Int32) : Mem := (fun k1 => cond (Nat.beq k1 k) (upd (μ.1 k1) j v) (μ.1 k1), μ.2)
def stL (μ : Mem) (j : Nat) (v : Int64) : Mem := (μ.1, fun j1 => if j1 = j then v else μ.2 j1)
/-- a whole row anew -/
def stR (μ : Mem) (k : Nat) (f : Nat → Int32) : Mem := (fun k1 => cond (Nat.beq k1 k) f (μ.1 k1), μ.2)
def sub (b : Nat) (μ : Mem) : Mem := (fun k => μ.1 (b + k), μ.2)
/-- six rows from b on out of φ (its rows from d on) -/
def put6 (b d : Nat) (μ φ : Mem) : Mem := (fun k => cond (Nat.ble b k && Nat.blt k (b + 6)) (φ.1 (k - b + d)) (μ.1 k), μ.2)
/-- two Fields side by side -/
def two (b d : Nat) (μ : Mem) : Mem := (fun k => cond (Nat.blt k 6) (μ.1 (b + k)) (μ.1 (d + (k - 6))), μ.2)
def off (b : Nat) (a : Nat → Nat) : Nat → Nat := fun k => a (b + k)
def off2 (b d : Nat) (a : Nat → Nat) : Nat → Nat := fun k => cond (Nat.blt k 6) (a (b + k)) (a (d + (k - 6)))
def WF (a : Nat → Nat) (cs : Nat → ClassId) (μ : Mem) : va_W := [(a 0, .inr (0, [.int (μ.1 0 0), .int (μ.1 0 1), .int (μ.1 0 2), .int (μ.1 0 3), .int (μ.1 0 4), .ref (a 1), .ref (a 2), .ref (a 3), .ref (a 4), .ref (a 5)])),
  (a 1, .inl (cs 0, 8, .inl (μ.1 1))),
  (a 2, .inl (cs 0, 8, .inl (μ.1 2))),
  (a 3, .inl (cs 0, 8, .inl (μ.1 3))),
  (a 4, .inl (cs 0, 8, .inl (μ.1 4))),
  (a 5, .inl (cs 0, 10, .inl (μ.1 5)))]
def AF (a : Nat → Nat) : Nat → Prop := fun q => q ∈ [a 0, a 1, a 2, a 3, a 4, a 5]
def WFF (a : Nat → Nat) (cs : Nat → ClassId) (μ : Mem) : va_W := [(a 0, .inr (0, [.int (μ.1 0 0), .int (μ.1 0 1), .int (μ.1 0 2), .int (μ.1 0 3), .int (μ.1 0 4), .ref (a 1), .ref (a 2), .ref (a 3), .ref (a 4), .ref (a 5)])),
  (a 1, .inl (cs 0, 8, .inl (μ.1 1))),
  (a 2, .inl (cs 0, 8, .inl (μ.1 2))),
  (a 3, .inl (cs 0, 8, .inl (μ.1 3))),
  (a 4, .inl (cs 0, 8, .inl (μ.1 4))),
  (a 5, .inl (cs 0, 10, .inl (μ.1 5))),
  (a 6, .inr (0, [.int (μ.1 6 0), .int (μ.1 6 1), .int (μ.1 6 2), .int (μ.1 6 3), .int (μ.1 6 4), .ref (a 7), .ref (a 8), .ref (a 9), .ref (a 10), .ref (a 11)])),
  (a 7, .inl (cs 0, 8, .inl (μ.1 7))),
  (a 8, .inl (cs 0, 8, .inl (μ.1 8))),
  (a 9, .inl (cs 0, 8, .inl (μ.1 9))),
  (a 10, .inl (cs 0, 8, .inl (μ.1 10))),
  (a 11, .inl (cs 0, 10, .inl (μ.1 11)))]
def AFF (a : Nat → Nat) : Nat → Prop := fun q => q ∈ [a 0, a 1, a 2, a 3, a 4, a 5, a 6, a 7, a 8, a 9, a 10, a 11]
def WC (a : Nat → Nat) (cs : Nat → ClassId) (μ : Mem) : va_W := [(a 0, .inr (4, [.ref (a 1), .ref (a 7), .ref (a 10), .ref (a 13), .ref (a 14), .ref (a 22), .ref (a 35), .int (μ.1 0 7), .int (μ.1 0 8), .int (μ.1 0 9), .int (μ.1 0 10), .int (μ.1 0 11), .int (μ.1 0 12)])),
  (a 1, .inr (0, [.int (μ.1 1 0), .int (μ.1 1 1), .int (μ.1 1 2), .int (μ.1 1 3), .int (μ.1 1 4), .ref (a 2), .ref (a 3), .ref (a 4), .ref (a 5), .ref (a 6)])),
  (a 2, .inl (cs 0, 8, .inl (μ.1 2))),
  (a 3, .inl (cs 0, 8, .inl (μ.1 3))),
  (a 4, .inl (cs 0, 8, .inl (μ.1 4))),
  (a 5, .inl (cs 0, 8, .inl (μ.1 5))),
  (a 6, .inl (cs 0, 10, .inl (μ.1 6))),
  (a 7, .inr (1, [.ref (a 1), .ref (a 8), .ref (a 9), .int (μ.1 7 3), .int (μ.1 7 4), .int (μ.1 7 5), .int (μ.1 7 6), .int (μ.1 7 7)])),
  (a 8, .inl (cs 0, 8, .inl (μ.1 8))),
  (a 9, .inl (cs 0, 8, .inl (μ.1 9))),
  (a 10, .inr (2, [.ref (a 1), .ref (a 7), .ref (a 11), .ref (a 12), .int (μ.1 10 4), .int (μ.1 10 5)])),
  (a 11, .inl (cs 0, 256, .inl (μ.1 11))),
  (a 12, .inl (cs 0, 8, .inl (μ.1 12))),
  (a 13, .inl (cs 1, 150, .inl (μ.1 13))),
  (a 14, .inr (3, [.ref (a 13), .ref (a 15), .ref (a 16), .int (μ.1 14 3), .int (μ.1 14 4), .int (μ.1 14 5), .int (μ.1 14 6), .int (μ.1 14 7), .int (μ.1 14 8), .int (μ.1 14 9), .int (μ.1 14 10)])),
  (a 15, .inl (cs 0, 4, .inl (μ.1 15))),
  (a 16, .inr (0, [.int (μ.1 16 0), .int (μ.1 16 1), .int (μ.1 16 2), .int (μ.1 16 3), .int (μ.1 16 4), .ref (a 17), .ref (a 18), .ref (a 19), .ref (a 20), .ref (a 21)])),
  (a 17, .inl (cs 0, 8, .inl (μ.1 17))),
  (a 18, .inl (cs 0, 8, .inl (μ.1 18))),
  (a 19, .inl (cs 0, 8, .inl (μ.1 19))),
  (a 20, .inl (cs 0, 8, .inl (μ.1 20))),
  (a 21, .inl (cs 0, 10, .inl (μ.1 21))),
  (a 22, .inl (cs 3, 2, .inr (.inr (.inr (.inr (fun j => some (a (23 + 6 * j)))))))),
  (a 23, .inr (0, [.int (μ.1 23 0), .int (μ.1 23 1), .int (μ.1 23 2), .int (μ.1 23 3), .int (μ.1 23 4), .ref (a 24), .ref (a 25), .ref (a 26), .ref (a 27), .ref (a 28)])),
  (a 24, .inl (cs 0, 8, .inl (μ.1 24))),
  (a 25, .inl (cs 0, 8, .inl (μ.1 25))),
  (a 26, .inl (cs 0, 8, .inl (μ.1 26))),
  (a 27, .inl (cs 0, 8, .inl (μ.1 27))),
  (a 28, .inl (cs 0, 10, .inl (μ.1 28))),
  (a 29, .inr (0, [.int (μ.1 29 0), .int (μ.1 29 1), .int (μ.1 29 2), .int (μ.1 29 3), .int (μ.1 29 4), .ref (a 30), .ref (a 31), .ref (a 32), .ref (a 33), .ref (a 34)])),
  (a 30, .inl (cs 0, 8, .inl (μ.1 30))),
  (a 31, .inl (cs 0, 8, .inl (μ.1 31))),
  (a 32, .inl (cs 0, 8, .inl (μ.1 32))),
  (a 33, .inl (cs 0, 8, .inl (μ.1 33))),
  (a 34, .inl (cs 0, 10, .inl (μ.1 34))),
  (a 35, .inl (cs 2, 2, .inl (μ.1 35)))]
def AC (a : Nat → Nat) : Nat → Prop := fun q => q ∈ [a 0, a 1, a 2, a 3, a 4, a 5, a 6, a 7, a 8, a 9, a 10, a 11, a 12, a 13, a 14, a 15, a 16, a 17, a 18, a 19, a 20, a 21, a 22, a 23, a 24, a 25, a 26, a 27, a 28, a 29, a 30, a 31, a 32, a 33, a 34, a 35]
def WM (a : Nat → Nat) (cs : Nat → ClassId) (μ : Mem) : va_W := [(a 0, .inr (5, [.int (μ.1 0 0), .ref (a 1), .ref (a 2), .ref (a 3), .ref (a 4), .ref (a 5), .ref (a 6), .int (μ.1 0 7), .int (μ.1 0 8), .int (μ.1 0 9), .int (μ.1 0 10), .long (μ.2 11), .ref (a 7), .int (μ.1 0 13), .ref (a 8), .ref (a 9), .int (μ.1 0 16), .long (μ.2 17), .long (μ.2 18), .ref (a 10), .long (μ.2 20), .int (μ.1 0 21)])),
  (a 1, .inl (cs 0, 3, .inl (μ.1 1))),
  (a 2, .inl (cs 0, 47, .inl (μ.1 2))),
  (a 3, .inl (cs 0, 47, .inl (μ.1 3))),
  (a 4, .inl (cs 0, 94, .inl (μ.1 4))),
  (a 5, .inl (cs 2, 2, .inl (μ.1 5))),
  (a 6, .inl (cs 0, 150, .inl (μ.1 6))),
  (a 7, .inl (cs 0, 200, .inl (μ.1 7))),
  (a 8, .inl (cs 0, 8, .inl (μ.1 8))),
  (a 9, .inl (cs 0, 8, .inl (μ.1 9))),
  (a 10, .inl (cs 0, 256, .inl (μ.1 10)))]
def AM (a : Nat → Nat) : Nat → Prop := fun q => q ∈ [a 0, a 1, a 2, a 3, a 4, a 5, a 6, a 7, a 8, a 9, a 10]
def NNl : List (String × Nat × MethodName × String) := [("TentPegs$Field", 31, ⟨"TentPegs", "within", "(III)Z"⟩, "TentPegs"), ("TentPegs$Field", 59, ⟨"TentPegs", "has", "(II)Z"⟩, "TentPegs"), ("TentPegs$Field", 63, ⟨"TentPegs", "with", "(IIZ)I"⟩, "TentPegs"), ("TentPegs$Field", 67, ⟨"TentPegs", "isWay", "(I)Z"⟩, "TentPegs"), ("TentPegs$Reader", 175, ⟨"TentPegs", "within", "(III)Z"⟩, "TentPegs"), ("TentPegs$Reader", 114, ⟨"TentPegs", "isWay", "(I)Z"⟩, "TentPegs"), ("TentPegs$Reader", 136, ⟨"TentPegs", "has", "(II)Z"⟩, "TentPegs"), ("TentPegs$Reader", 139, ⟨"TentPegs", "with", "(IIZ)I"⟩, "TentPegs"), ("TentPegs$Gale", 63, ⟨"TentPegs", "has", "(II)Z"⟩, "TentPegs"), ("TentPegs$Gale", 106, ⟨"TentPegs", "with", "(IIZ)I"⟩, "TentPegs"), ("TentPegs$Plans", 33, ⟨"TentPegs", "has", "(II)Z"⟩, "TentPegs"), ("TentPegs$Plans", 102, ⟨"TentPegs", "isLost", "(I)Z"⟩, "TentPegs")]
def Nst (U : State) : Prop := ∀ q ∈ NNl, va_Nw (.methodLinkNest q.1 q.2.1 q.2.2.1 q.2.2.2) U
theorem Nst.warm {s U : State} (hW : s.WarmedH U.vm) (h : Nst s) : Nst U := fun q hq => va_Nw.warmM hW (h q hq)
theorem Nst.same {u U : State} (hv : u.vm = U.vm) (h : Nst u) : Nst U := fun q hq => va_Nw.same rfl hv (h q hq)
theorem Nst.at (i : Nat) {q : String × Nat × MethodName × String} {U : State} (h : Nst U) (hq : NNl[i]? = some q) : va_Nw (.methodLinkNest q.1 q.2.1 q.2.2.1 q.2.2.2) U := h q (List.mem_of_getElem? hq)
/-! combinators of the decompiled functions -/
def bnd {α β : Type} (x : Option α) (k : α → Option β) : Option β := match x with
  | none => none
  | some v => k v
theorem bnd_some {α β : Type} {x : Option α} {k : α → Option β} {v : β} (h : bnd x k = some v) : ∃ u, x = some u ∧ k u = some v := by
  cases x with
  | none => cases h
  | some u => exact ⟨u, rfl, h⟩
def inb (i : Int32) (n : Nat) : Bool := decide (¬ (i < 0 ∨ n ≤ i.toNatClampNeg))
theorem inb_in {i : Int32} {n : Nat} (h : inb i n = true) : vp_in i n := by
  have h1 : decide (¬ (i < 0 ∨ n ≤ i.toNatClampNeg)) = true := h
  have h2 : ¬ (i < 0 ∨ n ≤ i.toNatClampNeg) := of_decide_eq_true h1
  exact h2
def gd {α : Type} (b : Bool) (k : Option α) : Option α := cond b k none
theorem gd_some {α : Type} {b : Bool} {k : Option α} {v : α} (h : gd b k = some v) : b = true ∧ k = some v := by
  cases b with
  | false => cases h
  | true => exact ⟨rfl, h⟩
theorem ite_t {α : Type} {c : Prop} [Decidable c] {x y : α} {v : α} (h : (if c then x else y) = v) (hc : c) : x = v := by rw [if_pos hc] at h; exact h
theorem ite_f {α : Type} {c : Prop} [Decidable c] {x y : α} {v : α} (h : (if c then x else y) = v) (hc : ¬ c) : y = v := by rw [if_neg hc] at h; exact h
def iter {α : Type} (f : α → α) (z : α) : Nat → α
  | 0 => z
  | n + 1 => f (iter f z n)
theorem iter_ind {α : Type} (P : α → Prop) {f : α → α} {z : α} (h0 : P z) (hs : ∀ g, P g → P (f g)) : ∀ n, P (iter f z n) := by
  intro n
  induction n with
  | zero => exact h0
  | succ n ih => exact hs _ ih
def NF : Nat := 1000
theorem none_no {α : Type} {v : α} {P : Prop} (h : (none : Option α) = some v) : P := by cases h
theorem fst_of {α β : Type} {a c : α} {b d : β} (h : some (a, b) = some (c, d)) : a = c := (Prod.mk.inj (Option.some.inj h)).1
theorem snd_of {α β : Type} {a c : α} {b d : β} (h : some (a, b) = some (c, d)) : b = d := (Prod.mk.inj (Option.some.inj h)).2
theorem ne_toInt {x k : Int32} {z : Int} (hk : k.toInt = z) (h : ¬ x = k) : x.toInt ≠ z := fun e => h (Int32.toInt_inj.mp (e.trans hk.symm))
theorem D_adr {A : Nat → Prop} {ws ws' : va_W} (h : va_D A ws) (he : ws'.map (fun q => q.1) = ws.map (fun q => q.1)) : va_D A ws' := by
  have key : ∀ (k : Nat) (q : Nat × va_E), ws'[k]? = some q → ∃ q0 : Nat × va_E, ws[k]? = some q0 ∧ q0.1 = q.1 := by
    intro k q hq
    have h1 : (ws'.map (fun q => q.1))[k]? = some q.1 := by rw [List.getElem?_map, hq]; rfl
    rw [he, List.getElem?_map] at h1
    cases h2 : ws[k]? with
    | none => rw [h2] at h1; cases h1
    | some q0 => rw [h2] at h1; exact ⟨q0, rfl, Option.some.inj h1⟩
  refine ⟨fun i j p q hi hj hpq => ?_, fun k q hk => ?_⟩
  · obtain ⟨p0, a1, a2⟩ := key i p hi
    obtain ⟨q0, b1, b2⟩ := key j q hj
    exact h.1 i j p0 q0 a1 b1 (by rw [a2, b2]; exact hpq)
  · obtain ⟨q0, b1, b2⟩ := key k q hk
    rw [← b2]; exact h.2 k q0 b1
theorem at_of_map {ws wc : va_W} {is : List Nat} (hC : is.map (fun i => ws[i]?) = wc.map some) {k : Nat} {q : Nat × va_E} (hq : wc[k]? = some q) : ∃ i, is[k]? = some i ∧ ws[i]? = some q := by
  have h1 : (wc.map some)[k]? = some (some q) := by rw [List.getElem?_map, hq]; rfl
  rw [← hC, List.getElem?_map] at h1
  cases h2 : is[k]? with
  | none => rw [h2] at h1; cases h1
  | some i => rw [h2] at h1; exact ⟨i, rfl, Option.some.inj h1⟩
theorem my_join {A : Nat → Prop} {D : va_G} {ws wc wr w1 : va_W} {H H1 : Heap} (hP : va_P D classes ws H) (hD : va_D A ws) (isC isR : List Nat) (hC : isC.map (fun i => ws[i]?) = wc.map some) (hR : isR.map (fun i => ws[i]?) = wr.map some) (hdis : ∀ i ∈ isR, i ∉ isC)
    (hk : ∀ q : Nat, q < H.size → q ∉ wc.map (fun q => q.1) → H1[q]? = H[q]?) (hP1 : va_P D classes w1 H1) : va_P D classes (wr ++ w1) H1 := by
  refine va_P.app (fun k q hq => ?_) hP1
  obtain ⟨i, hi, hwi⟩ := at_of_map hR hq
  refine (hP i q hwi).kept (hk q.1 (hP i q hwi).lt ?_)
  intro hm
  obtain ⟨q', hq', e⟩ := List.mem_map.mp hm
  obtain ⟨j, hj⟩ := List.mem_iff_getElem?.mp hq'
  obtain ⟨i', hi', hwi'⟩ := at_of_map hC hj
  have : i = i' := hD.1 i i' q q' hwi hwi' e.symm
  subst this
  exact hdis i (List.mem_of_getElem? hi) (List.mem_of_getElem? hi')
end
section
/-! Own layer (2): the judgement G (heap, places written and locals hidden) and its rows. Printed by wip/whole/rows.py. -/
def Cx (p : Program) (s : State) (m : MethodId) (args : Array Value) (c : Code) (cc : ByteArray) (nL : Nat) (own : String) : Prop := p.tables.exec = Jvm.exec ∧ c.code = cc ∧ c.maxLocals = nL ∧ s.vm.findClass own = some m.cls ∧ (∀ w ∈ TT, w.before args s = true) ∧ Nst s
theorem Cx.x {p : Program} {s : State} {m : MethodId} {args : Array Value} {c : Code} {cc : ByteArray} {nL : Nat} {own : String} (C : Cx p s m args c cc nL own) : p.tables.exec = Jvm.exec := C.1
theorem Cx.b {p : Program} {s : State} {m : MethodId} {args : Array Value} {c : Code} {cc : ByteArray} {nL : Nat} {own : String} (C : Cx p s m args c cc nL own) : c.code = cc := C.2.1
theorem Cx.ml {p : Program} {s : State} {m : MethodId} {args : Array Value} {c : Code} {cc : ByteArray} {nL : Nat} {own : String} (C : Cx p s m args c cc nL own) : c.maxLocals = nL := C.2.2.1
theorem Cx.own {p : Program} {s : State} {m : MethodId} {args : Array Value} {c : Code} {cc : ByteArray} {nL : Nat} {own : String} (C : Cx p s m args c cc nL own) : s.vm.findClass own = some m.cls := C.2.2.2.1
theorem Cx.ts {p : Program} {s : State} {m : MethodId} {args : Array Value} {c : Code} {cc : ByteArray} {nL : Nat} {own : String} (C : Cx p s m args c cc nL own) : ∀ w ∈ TT, w.before args s = true := C.2.2.2.2.1
theorem Cx.n {p : Program} {s : State} {m : MethodId} {args : Array Value} {c : Code} {cc : ByteArray} {nL : Nat} {own : String} (C : Cx p s m args c cc nL own) : Nst s := C.2.2.2.2.2
def G (p : Program) (l : Launch) (e : Env) (R : Room) (s : State) (m : MethodId) (args : Array Value) (below : List Frame) (meth : Method) (c : Code) (Q : State → Prop) (D : va_G) (A : Nat → Prop) (nL : Nat) (ws : va_W) (pc : Nat) (L : List (Nat × Value)) (st : List Value) : Prop :=
  ∀ (H : Heap) (locs : List Loc) (ls : Array Slot), va_P D classes ws H → va_D A ws → va_S A s.heap H locs → lv_has ls nL L → W p l e R s m args below meth c H locs 0 0 Q (F0 m pc ls st)
section ROWS
variable {p : Program} {l : Launch} {e : Env} {R : Room} {s : State} {m : MethodId} {args : Array Value} {below : List Frame} {meth : Method} {c : Code} {Q : State → Prop} {D : va_G} {A : Nat → Prop} {nL : Nat} {ws : va_W} {pc pc1 : Nat} {L L1 : List (Nat × Value)} {st rest : List Value} {cc : ByteArray} {own : String}
theorem g_iconst (C : Cx p s m args c cc nL own) {n : Int} {v : Int32} (d : decode cc pc = .ok (.iconst n, 1)) (hp : pc + 1 = pc1) (hv : Int32.ofInt n = v) (k : G p l e R s m args below meth c Q D A nL ws pc1 L (.int v :: rest)) : G p l e R s m args below meth c Q D A nL ws pc L (rest) := by
  subst hp
  intro H locs ls h1 h2 h3 h4
  exact lv_iconst C.x C.b d hv (k H locs ls h1 h2 h3 h4)
theorem g_bipush (C : Cx p s m args c cc nL own) {n : Int} {v : Int32} (d : decode cc pc = .ok (.bipush n, 2)) (hp : pc + 2 = pc1) (hv : (Int8.ofInt n).toInt32 = v) (k : G p l e R s m args below meth c Q D A nL ws pc1 L (.int v :: rest)) : G p l e R s m args below meth c Q D A nL ws pc L (rest) := by
  subst hp
  intro H locs ls h1 h2 h3 h4
  exact lv_bipush C.x C.b d hv (k H locs ls h1 h2 h3 h4)
theorem g_sipush (C : Cx p s m args c cc nL own) {n : Int} {v : Int32} (d : decode cc pc = .ok (.sipush n, 3)) (hp : pc + 3 = pc1) (hv : (Int16.ofInt n).toInt32 = v) (k : G p l e R s m args below meth c Q D A nL ws pc1 L (.int v :: rest)) : G p l e R s m args below meth c Q D A nL ws pc L (rest) := by
  subst hp
  intro H locs ls h1 h2 h3 h4
  exact lv_sipush C.x C.b d hv (k H locs ls h1 h2 h3 h4)
theorem g_lconst (C : Cx p s m args c cc nL own) {n : Fin 2} {v : Int64} (d : decode cc pc = .ok (.lconst n, 1)) (hp : pc + 1 = pc1) (hv : Int64.ofNat (n : Nat) = v) (k : G p l e R s m args below meth c Q D A nL ws pc1 L (.long v :: rest)) : G p l e R s m args below meth c Q D A nL ws pc L (rest) := by
  subst hp
  intro H locs ls h1 h2 h3 h4
  exact lv_lconst C.x C.b d hv (k H locs ls h1 h2 h3 h4)
theorem g_ldc (C : Cx p s m args c cc nL own) {idx : Nat} {v : Int32} (d : decode cc pc = .ok (.ldc idx, 2)) (hp : pc + 2 = pc1) (hw : Cond.constant own idx v ∈ TT) (k : G p l e R s m args below meth c Q D A nL ws pc1 L (.int v :: rest)) : G p l e R s m args below meth c Q D A nL ws pc L (rest) := by
  subst hp
  intro H locs ls h1 h2 h3 h4
  exact lv_ldc C.x C.b C.own (C.ts _ hw) d (k H locs ls h1 h2 h3 h4)
theorem g_ldcw (C : Cx p s m args c cc nL own) {idx : Nat} {v : Int32} (d : decode cc pc = .ok (.ldc_w idx, 3)) (hp : pc + 3 = pc1) (hw : Cond.constant own idx v ∈ TT) (k : G p l e R s m args below meth c Q D A nL ws pc1 L (.int v :: rest)) : G p l e R s m args below meth c Q D A nL ws pc L (rest) := by
  subst hp
  intro H locs ls h1 h2 h3 h4
  exact lv_ldcw C.x C.b C.own (C.ts _ hw) d (k H locs ls h1 h2 h3 h4)
theorem g_ldc2 (C : Cx p s m args c cc nL own) {idx : Nat} {v : Int64} (d : decode cc pc = .ok (.ldc2_w idx, 3)) (hp : pc + 3 = pc1) (hw : Cond.constantLong own idx v ∈ TT) (k : G p l e R s m args below meth c Q D A nL ws pc1 L (.long v :: rest)) : G p l e R s m args below meth c Q D A nL ws pc L (rest) := by
  subst hp
  intro H locs ls h1 h2 h3 h4
  exact lv_ldc2 C.x C.b C.own (C.ts _ hw) d (k H locs ls h1 h2 h3 h4)
theorem g_iload_n (C : Cx p s m args c cc nL own) {k1 : Fin 4} {i : Nat} {x : Int32} (d : decode cc pc = .ok (.iload_n k1, 1)) (hp : pc + 1 = pc1) (hi : (k1 : Nat) = i) (kk : Nat) (hl : L[kk]? = some (i, .int x)) (k : G p l e R s m args below meth c Q D A nL ws pc1 L (.int x :: rest)) : G p l e R s m args below meth c Q D A nL ws pc L (rest) := by
  subst hp
  intro H locs ls h1 h2 h3 h4
  exact lv_iload_n C.x C.b d hi (lv_at h4 kk hl) (k H locs ls h1 h2 h3 h4)
theorem g_iload (C : Cx p s m args c cc nL own) {i : Nat} {x : Int32} (d : decode cc pc = .ok (.iload i, 2)) (hp : pc + 2 = pc1) (kk : Nat) (hl : L[kk]? = some (i, .int x)) (k : G p l e R s m args below meth c Q D A nL ws pc1 L (.int x :: rest)) : G p l e R s m args below meth c Q D A nL ws pc L (rest) := by
  subst hp
  intro H locs ls h1 h2 h3 h4
  exact lv_iload C.x C.b d (lv_at h4 kk hl) (k H locs ls h1 h2 h3 h4)
theorem g_lload_n (C : Cx p s m args c cc nL own) {k1 : Fin 4} {i : Nat} {x : Int64} (d : decode cc pc = .ok (.lload_n k1, 1)) (hp : pc + 1 = pc1) (hi : (k1 : Nat) = i) (kk : Nat) (hl : L[kk]? = some (i, .long x)) (k : G p l e R s m args below meth c Q D A nL ws pc1 L (.long x :: rest)) : G p l e R s m args below meth c Q D A nL ws pc L (rest) := by
  subst hp
  intro H locs ls h1 h2 h3 h4
  exact lv_lload_n C.x C.b d hi (lv_at h4 kk hl) (k H locs ls h1 h2 h3 h4)
theorem g_lload (C : Cx p s m args c cc nL own) {i : Nat} {x : Int64} (d : decode cc pc = .ok (.lload i, 2)) (hp : pc + 2 = pc1) (kk : Nat) (hl : L[kk]? = some (i, .long x)) (k : G p l e R s m args below meth c Q D A nL ws pc1 L (.long x :: rest)) : G p l e R s m args below meth c Q D A nL ws pc L (rest) := by
  subst hp
  intro H locs ls h1 h2 h3 h4
  exact lv_lload C.x C.b d (lv_at h4 kk hl) (k H locs ls h1 h2 h3 h4)
theorem g_aload_n (C : Cx p s m args c cc nL own) {k1 : Fin 4} {i : Nat} {x : Nat} (d : decode cc pc = .ok (.aload_n k1, 1)) (hp : pc + 1 = pc1) (hi : (k1 : Nat) = i) (kk : Nat) (hl : L[kk]? = some (i, .ref x)) (k : G p l e R s m args below meth c Q D A nL ws pc1 L (.ref x :: rest)) : G p l e R s m args below meth c Q D A nL ws pc L (rest) := by
  subst hp
  intro H locs ls h1 h2 h3 h4
  exact lv_aload_n C.x C.b d hi (lv_at h4 kk hl) (k H locs ls h1 h2 h3 h4)
theorem g_aload (C : Cx p s m args c cc nL own) {i : Nat} {x : Nat} (d : decode cc pc = .ok (.aload i, 2)) (hp : pc + 2 = pc1) (kk : Nat) (hl : L[kk]? = some (i, .ref x)) (k : G p l e R s m args below meth c Q D A nL ws pc1 L (.ref x :: rest)) : G p l e R s m args below meth c Q D A nL ws pc L (rest) := by
  subst hp
  intro H locs ls h1 h2 h3 h4
  exact lv_aload C.x C.b d (lv_at h4 kk hl) (k H locs ls h1 h2 h3 h4)
theorem g_istore_n (C : Cx p s m args c cc nL own) {k1 : Fin 4} {i : Nat} {x : Int32} (d : decode cc pc = .ok (.istore_n k1, 1)) (hp : pc + 1 = pc1) (hi : (k1 : Nat) = i) (hn : i < nL) (hl : (i, Value.int x) :: L.filter (fun q => !(q.1 == i) && !(q.1 + 1 == i && q.2.category == 2)) = L1) (k : G p l e R s m args below meth c Q D A nL ws pc1 L1 rest) : G p l e R s m args below meth c Q D A nL ws pc L (.int x :: rest) := by
  subst hp
  intro H locs ls h1 h2 h3 h4
  exact lv_istore_n C.x C.b d hi h4 hn hl (fun ls1 h5 => k H locs ls1 h1 h2 h3 h5)
theorem g_istore (C : Cx p s m args c cc nL own) {i : Nat} {x : Int32} (d : decode cc pc = .ok (.istore i, 2)) (hp : pc + 2 = pc1) (hn : i < nL) (hl : (i, Value.int x) :: L.filter (fun q => !(q.1 == i) && !(q.1 + 1 == i && q.2.category == 2)) = L1) (k : G p l e R s m args below meth c Q D A nL ws pc1 L1 rest) : G p l e R s m args below meth c Q D A nL ws pc L (.int x :: rest) := by
  subst hp
  intro H locs ls h1 h2 h3 h4
  exact lv_istore C.x C.b d h4 hn hl (fun ls1 h5 => k H locs ls1 h1 h2 h3 h5)
theorem g_lstore_n (C : Cx p s m args c cc nL own) {k1 : Fin 4} {i : Nat} {x : Int64} (d : decode cc pc = .ok (.lstore_n k1, 1)) (hp : pc + 1 = pc1) (hi : (k1 : Nat) = i) (hn : i + 1 < nL) (hl : (i, Value.long x) :: L.filter (fun q => !(q.1 == i) && (!(q.1 == i + 1) && !(q.1 + 1 == i && q.2.category == 2))) = L1) (k : G p l e R s m args below meth c Q D A nL ws pc1 L1 rest) : G p l e R s m args below meth c Q D A nL ws pc L (.long x :: rest) := by
  subst hp
  intro H locs ls h1 h2 h3 h4
  exact lv_lstore_n C.x C.b d hi h4 hn hl (fun ls1 h5 => k H locs ls1 h1 h2 h3 h5)
theorem g_lstore (C : Cx p s m args c cc nL own) {i : Nat} {x : Int64} (d : decode cc pc = .ok (.lstore i, 2)) (hp : pc + 2 = pc1) (hn : i + 1 < nL) (hl : (i, Value.long x) :: L.filter (fun q => !(q.1 == i) && (!(q.1 == i + 1) && !(q.1 + 1 == i && q.2.category == 2))) = L1) (k : G p l e R s m args below meth c Q D A nL ws pc1 L1 rest) : G p l e R s m args below meth c Q D A nL ws pc L (.long x :: rest) := by
  subst hp
  intro H locs ls h1 h2 h3 h4
  exact lv_lstore C.x C.b d h4 hn hl (fun ls1 h5 => k H locs ls1 h1 h2 h3 h5)
theorem g_astore_n (C : Cx p s m args c cc nL own) {k1 : Fin 4} {i : Nat} {x : Nat} (d : decode cc pc = .ok (.astore_n k1, 1)) (hp : pc + 1 = pc1) (hi : (k1 : Nat) = i) (hn : i < nL) (hl : (i, Value.ref x) :: L.filter (fun q => !(q.1 == i) && !(q.1 + 1 == i && q.2.category == 2)) = L1) (k : G p l e R s m args below meth c Q D A nL ws pc1 L1 rest) : G p l e R s m args below meth c Q D A nL ws pc L (.ref x :: rest) := by
  subst hp
  intro H locs ls h1 h2 h3 h4
  exact lv_astore_n C.x C.b d hi h4 hn hl (fun ls1 h5 => k H locs ls1 h1 h2 h3 h5)
theorem g_astore (C : Cx p s m args c cc nL own) {i : Nat} {x : Nat} (d : decode cc pc = .ok (.astore i, 2)) (hp : pc + 2 = pc1) (hn : i < nL) (hl : (i, Value.ref x) :: L.filter (fun q => !(q.1 == i) && !(q.1 + 1 == i && q.2.category == 2)) = L1) (k : G p l e R s m args below meth c Q D A nL ws pc1 L1 rest) : G p l e R s m args below meth c Q D A nL ws pc L (.ref x :: rest) := by
  subst hp
  intro H locs ls h1 h2 h3 h4
  exact lv_astore C.x C.b d h4 hn hl (fun ls1 h5 => k H locs ls1 h1 h2 h3 h5)
theorem g_iinc (C : Cx p s m args c cc nL own) {i : Nat} {n : Int} {x v : Int32} (d : decode cc pc = .ok (.iinc i n, 3)) (hp : pc + 3 = pc1) (kk : Nat) (hk : L[kk]? = some (i, .int x)) (hv : x + Int32.ofInt n = v) (hn : i < nL) (hl : (i, Value.int v) :: L.filter (fun q => !(q.1 == i) && !(q.1 + 1 == i && q.2.category == 2)) = L1) (k : G p l e R s m args below meth c Q D A nL ws pc1 L1 rest) : G p l e R s m args below meth c Q D A nL ws pc L (rest) := by
  subst hp
  intro H locs ls h1 h2 h3 h4
  exact lv_iinc C.x C.b d h4 hk hv hn hl (fun ls1 h5 => k H locs ls1 h1 h2 h3 h5)
theorem g_iadd (C : Cx p s m args c cc nL own) {x y : Int32} (d : decode cc pc = .ok (.iadd, 1)) (hp : pc + 1 = pc1)  (k : G p l e R s m args below meth c Q D A nL ws pc1 L (.int (x + y) :: rest)) : G p l e R s m args below meth c Q D A nL ws pc L (.int y :: .int x :: rest) := by
  subst hp
  intro H locs ls h1 h2 h3 h4
  exact lv_iadd C.x C.b d (k H locs ls h1 h2 h3 h4)
theorem g_isub (C : Cx p s m args c cc nL own) {x y : Int32} (d : decode cc pc = .ok (.isub, 1)) (hp : pc + 1 = pc1)  (k : G p l e R s m args below meth c Q D A nL ws pc1 L (.int (x - y) :: rest)) : G p l e R s m args below meth c Q D A nL ws pc L (.int y :: .int x :: rest) := by
  subst hp
  intro H locs ls h1 h2 h3 h4
  exact lv_isub C.x C.b d (k H locs ls h1 h2 h3 h4)
theorem g_imul (C : Cx p s m args c cc nL own) {x y : Int32} (d : decode cc pc = .ok (.imul, 1)) (hp : pc + 1 = pc1)  (k : G p l e R s m args below meth c Q D A nL ws pc1 L (.int (x * y) :: rest)) : G p l e R s m args below meth c Q D A nL ws pc L (.int y :: .int x :: rest) := by
  subst hp
  intro H locs ls h1 h2 h3 h4
  exact lv_imul C.x C.b d (k H locs ls h1 h2 h3 h4)
theorem g_iand (C : Cx p s m args c cc nL own) {x y : Int32} (d : decode cc pc = .ok (.iand, 1)) (hp : pc + 1 = pc1)  (k : G p l e R s m args below meth c Q D A nL ws pc1 L (.int (x &&& y) :: rest)) : G p l e R s m args below meth c Q D A nL ws pc L (.int y :: .int x :: rest) := by
  subst hp
  intro H locs ls h1 h2 h3 h4
  exact lv_iand C.x C.b d (k H locs ls h1 h2 h3 h4)
theorem g_ior (C : Cx p s m args c cc nL own) {x y : Int32} (d : decode cc pc = .ok (.ior, 1)) (hp : pc + 1 = pc1)  (k : G p l e R s m args below meth c Q D A nL ws pc1 L (.int (x ||| y) :: rest)) : G p l e R s m args below meth c Q D A nL ws pc L (.int y :: .int x :: rest) := by
  subst hp
  intro H locs ls h1 h2 h3 h4
  exact lv_ior C.x C.b d (k H locs ls h1 h2 h3 h4)
theorem g_ixor (C : Cx p s m args c cc nL own) {x y : Int32} (d : decode cc pc = .ok (.ixor, 1)) (hp : pc + 1 = pc1)  (k : G p l e R s m args below meth c Q D A nL ws pc1 L (.int (x ^^^ y) :: rest)) : G p l e R s m args below meth c Q D A nL ws pc L (.int y :: .int x :: rest) := by
  subst hp
  intro H locs ls h1 h2 h3 h4
  exact lv_ixor C.x C.b d (k H locs ls h1 h2 h3 h4)
theorem g_ishl (C : Cx p s m args c cc nL own) {x y : Int32} (d : decode cc pc = .ok (.ishl, 1)) (hp : pc + 1 = pc1)  (k : G p l e R s m args below meth c Q D A nL ws pc1 L (.int (x <<< (y &&& 31)) :: rest)) : G p l e R s m args below meth c Q D A nL ws pc L (.int y :: .int x :: rest) := by
  subst hp
  intro H locs ls h1 h2 h3 h4
  exact lv_ishl C.x C.b d (k H locs ls h1 h2 h3 h4)
theorem g_ishr (C : Cx p s m args c cc nL own) {x y : Int32} (d : decode cc pc = .ok (.ishr, 1)) (hp : pc + 1 = pc1)  (k : G p l e R s m args below meth c Q D A nL ws pc1 L (.int (x >>> (y &&& 31)) :: rest)) : G p l e R s m args below meth c Q D A nL ws pc L (.int y :: .int x :: rest) := by
  subst hp
  intro H locs ls h1 h2 h3 h4
  exact lv_ishr C.x C.b d (k H locs ls h1 h2 h3 h4)
theorem g_idiv (C : Cx p s m args c cc nL own) {x y : Int32} (d : decode cc pc = .ok (.idiv, 1)) (hp : pc + 1 = pc1) (hne : ¬ y = 0) (k : G p l e R s m args below meth c Q D A nL ws pc1 L (.int (x / y) :: rest)) : G p l e R s m args below meth c Q D A nL ws pc L (.int y :: .int x :: rest) := by
  subst hp
  intro H locs ls h1 h2 h3 h4
  exact lv_idiv C.x C.b d hne (k H locs ls h1 h2 h3 h4)
theorem g_irem (C : Cx p s m args c cc nL own) {x y : Int32} (d : decode cc pc = .ok (.irem, 1)) (hp : pc + 1 = pc1) (hne : ¬ y = 0) (k : G p l e R s m args below meth c Q D A nL ws pc1 L (.int (x - x / y * y) :: rest)) : G p l e R s m args below meth c Q D A nL ws pc L (.int y :: .int x :: rest) := by
  subst hp
  intro H locs ls h1 h2 h3 h4
  exact lv_irem C.x C.b d hne (k H locs ls h1 h2 h3 h4)
theorem g_iushr (C : Cx p s m args c cc nL own) {x y : Int32} (d : decode cc pc = .ok (.iushr, 1)) (hp : pc + 1 = pc1)  (k : G p l e R s m args below meth c Q D A nL ws pc1 L (.int (x.toUInt32 >>> (y.toUInt32 &&& Int32.toUInt32 31)).toInt32 :: rest)) : G p l e R s m args below meth c Q D A nL ws pc L (.int y :: .int x :: rest) := by
  subst hp
  intro H locs ls h1 h2 h3 h4
  exact lv_iushr C.x C.b d rfl (k H locs ls h1 h2 h3 h4)
theorem g_ineg (C : Cx p s m args c cc nL own) {x : Int32} (d : decode cc pc = .ok (.ineg, 1)) (hp : pc + 1 = pc1)  (k : G p l e R s m args below meth c Q D A nL ws pc1 L (.int (-x) :: rest)) : G p l e R s m args below meth c Q D A nL ws pc L (.int x :: rest) := by
  subst hp
  intro H locs ls h1 h2 h3 h4
  exact lv_ineg C.x C.b d (k H locs ls h1 h2 h3 h4)
theorem g_ladd (C : Cx p s m args c cc nL own) {x y : Int64} (d : decode cc pc = .ok (.ladd, 1)) (hp : pc + 1 = pc1)  (k : G p l e R s m args below meth c Q D A nL ws pc1 L (.long (x + y) :: rest)) : G p l e R s m args below meth c Q D A nL ws pc L (.long y :: .long x :: rest) := by
  subst hp
  intro H locs ls h1 h2 h3 h4
  exact lv_ladd C.x C.b d (k H locs ls h1 h2 h3 h4)
theorem g_lsub (C : Cx p s m args c cc nL own) {x y : Int64} (d : decode cc pc = .ok (.lsub, 1)) (hp : pc + 1 = pc1)  (k : G p l e R s m args below meth c Q D A nL ws pc1 L (.long (x - y) :: rest)) : G p l e R s m args below meth c Q D A nL ws pc L (.long y :: .long x :: rest) := by
  subst hp
  intro H locs ls h1 h2 h3 h4
  exact lv_lsub C.x C.b d (k H locs ls h1 h2 h3 h4)
theorem g_lmul (C : Cx p s m args c cc nL own) {x y : Int64} (d : decode cc pc = .ok (.lmul, 1)) (hp : pc + 1 = pc1)  (k : G p l e R s m args below meth c Q D A nL ws pc1 L (.long (x * y) :: rest)) : G p l e R s m args below meth c Q D A nL ws pc L (.long y :: .long x :: rest) := by
  subst hp
  intro H locs ls h1 h2 h3 h4
  exact lv_lmul C.x C.b d (k H locs ls h1 h2 h3 h4)
theorem g_ldiv (C : Cx p s m args c cc nL own) {x y : Int64} (d : decode cc pc = .ok (.ldiv, 1)) (hp : pc + 1 = pc1) (hne : ¬ y = 0) (k : G p l e R s m args below meth c Q D A nL ws pc1 L (.long (x / y) :: rest)) : G p l e R s m args below meth c Q D A nL ws pc L (.long y :: .long x :: rest) := by
  subst hp
  intro H locs ls h1 h2 h3 h4
  exact lv_ldiv C.x C.b d hne (k H locs ls h1 h2 h3 h4)
theorem g_lrem (C : Cx p s m args c cc nL own) {x y : Int64} (d : decode cc pc = .ok (.lrem, 1)) (hp : pc + 1 = pc1) (hne : ¬ y = 0) (k : G p l e R s m args below meth c Q D A nL ws pc1 L (.long (x - x / y * y) :: rest)) : G p l e R s m args below meth c Q D A nL ws pc L (.long y :: .long x :: rest) := by
  subst hp
  intro H locs ls h1 h2 h3 h4
  exact lv_lrem C.x C.b d hne (k H locs ls h1 h2 h3 h4)
theorem g_lneg (C : Cx p s m args c cc nL own) {x : Int64} (d : decode cc pc = .ok (.lneg, 1)) (hp : pc + 1 = pc1)  (k : G p l e R s m args below meth c Q D A nL ws pc1 L (.long (-x) :: rest)) : G p l e R s m args below meth c Q D A nL ws pc L (.long x :: rest) := by
  subst hp
  intro H locs ls h1 h2 h3 h4
  exact lv_lneg C.x C.b d (k H locs ls h1 h2 h3 h4)
theorem g_i2l (C : Cx p s m args c cc nL own) {x : Int32} (d : decode cc pc = .ok (.i2l, 1)) (hp : pc + 1 = pc1)  (k : G p l e R s m args below meth c Q D A nL ws pc1 L (.long x.toInt64 :: rest)) : G p l e R s m args below meth c Q D A nL ws pc L (.int x :: rest) := by
  subst hp
  intro H locs ls h1 h2 h3 h4
  exact lv_i2l C.x C.b d rfl (k H locs ls h1 h2 h3 h4)
theorem g_l2i (C : Cx p s m args c cc nL own) {x : Int64} (d : decode cc pc = .ok (.l2i, 1)) (hp : pc + 1 = pc1)  (k : G p l e R s m args below meth c Q D A nL ws pc1 L (.int x.toInt32 :: rest)) : G p l e R s m args below meth c Q D A nL ws pc L (.long x :: rest) := by
  subst hp
  intro H locs ls h1 h2 h3 h4
  exact lv_l2i C.x C.b d rfl (k H locs ls h1 h2 h3 h4)
theorem g_i2b (C : Cx p s m args c cc nL own) {x : Int32} (d : decode cc pc = .ok (.i2b, 1)) (hp : pc + 1 = pc1)  (k : G p l e R s m args below meth c Q D A nL ws pc1 L (.int x.toInt8.toInt32 :: rest)) : G p l e R s m args below meth c Q D A nL ws pc L (.int x :: rest) := by
  subst hp
  intro H locs ls h1 h2 h3 h4
  exact lv_i2b C.x C.b d rfl (k H locs ls h1 h2 h3 h4)
theorem g_i2c (C : Cx p s m args c cc nL own) {x : Int32} (d : decode cc pc = .ok (.i2c, 1)) (hp : pc + 1 = pc1)  (k : G p l e R s m args below meth c Q D A nL ws pc1 L (.int (x.toUInt32 % 65536).toInt32 :: rest)) : G p l e R s m args below meth c Q D A nL ws pc L (.int x :: rest) := by
  subst hp
  intro H locs ls h1 h2 h3 h4
  exact lv_i2c C.x C.b d rfl (k H locs ls h1 h2 h3 h4)
theorem g_lcmp (C : Cx p s m args c cc nL own) {x y : Int64} (d : decode cc pc = .ok (.lcmp, 1)) (hp : pc + 1 = pc1)  (k : G p l e R s m args below meth c Q D A nL ws pc1 L (.int (lg_cmp x y) :: rest)) : G p l e R s m args below meth c Q D A nL ws pc L (.long y :: .long x :: rest) := by
  subst hp
  intro H locs ls h1 h2 h3 h4
  exact W.lcmp C.x C.b d (k H locs ls h1 h2 h3 h4)
theorem g_dup (C : Cx p s m args c cc nL own) {va : Value} (d : decode cc pc = .ok (.dup, 1)) (hp : pc + 1 = pc1) (hv : va.category = 1) (k : G p l e R s m args below meth c Q D A nL ws pc1 L (va :: va :: rest)) : G p l e R s m args below meth c Q D A nL ws pc L (va :: rest) := by
  subst hp
  intro H locs ls h1 h2 h3 h4
  exact lv_dup C.x C.b d hv (k H locs ls h1 h2 h3 h4)
theorem g_pop (C : Cx p s m args c cc nL own) {va : Value} (d : decode cc pc = .ok (.pop, 1)) (hp : pc + 1 = pc1) (hv : va.category = 1) (k : G p l e R s m args below meth c Q D A nL ws pc1 L (rest)) : G p l e R s m args below meth c Q D A nL ws pc L (va :: rest) := by
  subst hp
  intro H locs ls h1 h2 h3 h4
  exact lv_pop C.x C.b d hv (k H locs ls h1 h2 h3 h4)
theorem g_dup2 (C : Cx p s m args c cc nL own) {va vb : Value} (d : decode cc pc = .ok (.dup2, 1)) (hp : pc + 1 = pc1) (hv : va.category = 1) (hv2 : vb.category = 1) (k : G p l e R s m args below meth c Q D A nL ws pc1 L (va :: vb :: va :: vb :: rest)) : G p l e R s m args below meth c Q D A nL ws pc L (va :: vb :: rest) := by
  subst hp
  intro H locs ls h1 h2 h3 h4
  exact lv_dup2_11 C.x C.b d hv hv2 (k H locs ls h1 h2 h3 h4)
theorem g_dup_x1 (C : Cx p s m args c cc nL own) {va vb : Value} (d : decode cc pc = .ok (.dup_x1, 1)) (hp : pc + 1 = pc1) (hv : va.category = 1) (hv2 : vb.category = 1) (k : G p l e R s m args below meth c Q D A nL ws pc1 L (va :: vb :: va :: rest)) : G p l e R s m args below meth c Q D A nL ws pc L (va :: vb :: rest) := by
  subst hp
  intro H locs ls h1 h2 h3 h4
  exact lv_dup_x1 C.x C.b d hv hv2 (k H locs ls h1 h2 h3 h4)
theorem g_if_eq (C : Cx p s m args c cc nL own) {x : Int32} {off : Int} (tgt : Nat) (d : decode cc pc = .ok (.ifCond .eq off, 3)) (hp : pc + 3 = pc1) (ht : (pc : Int) + off = (tgt : Int)) (kt : x = 0 → G p l e R s m args below meth c Q D A nL ws tgt L rest) (kf : ¬ x = 0 → G p l e R s m args below meth c Q D A nL ws pc1 L rest) : G p l e R s m args below meth c Q D A nL ws pc L (.int x :: rest) := by
  subst hp
  intro H locs ls h1 h2 h3 h4
  exact lv_if_eq C.x C.b d ht (fun q => kt q H locs ls h1 h2 h3 h4) (fun q => kf q H locs ls h1 h2 h3 h4)
theorem g_icmp_eq (C : Cx p s m args c cc nL own) {x y : Int32} {off : Int} (tgt : Nat) (d : decode cc pc = .ok (.if_icmp .eq off, 3)) (hp : pc + 3 = pc1) (ht : (pc : Int) + off = (tgt : Int)) (kt : x = y → G p l e R s m args below meth c Q D A nL ws tgt L rest) (kf : ¬ x = y → G p l e R s m args below meth c Q D A nL ws pc1 L rest) : G p l e R s m args below meth c Q D A nL ws pc L (.int y :: .int x :: rest) := by
  subst hp
  intro H locs ls h1 h2 h3 h4
  exact lv_icmp_eq C.x C.b d ht (fun q => kt q H locs ls h1 h2 h3 h4) (fun q => kf q H locs ls h1 h2 h3 h4)
theorem g_if_ne (C : Cx p s m args c cc nL own) {x : Int32} {off : Int} (tgt : Nat) (d : decode cc pc = .ok (.ifCond .ne off, 3)) (hp : pc + 3 = pc1) (ht : (pc : Int) + off = (tgt : Int)) (kt : ¬ x = 0 → G p l e R s m args below meth c Q D A nL ws tgt L rest) (kf : x = 0 → G p l e R s m args below meth c Q D A nL ws pc1 L rest) : G p l e R s m args below meth c Q D A nL ws pc L (.int x :: rest) := by
  subst hp
  intro H locs ls h1 h2 h3 h4
  exact lv_if_ne C.x C.b d ht (fun q => kt q H locs ls h1 h2 h3 h4) (fun q => kf q H locs ls h1 h2 h3 h4)
theorem g_icmp_ne (C : Cx p s m args c cc nL own) {x y : Int32} {off : Int} (tgt : Nat) (d : decode cc pc = .ok (.if_icmp .ne off, 3)) (hp : pc + 3 = pc1) (ht : (pc : Int) + off = (tgt : Int)) (kt : ¬ x = y → G p l e R s m args below meth c Q D A nL ws tgt L rest) (kf : x = y → G p l e R s m args below meth c Q D A nL ws pc1 L rest) : G p l e R s m args below meth c Q D A nL ws pc L (.int y :: .int x :: rest) := by
  subst hp
  intro H locs ls h1 h2 h3 h4
  exact lv_icmp_ne C.x C.b d ht (fun q => kt q H locs ls h1 h2 h3 h4) (fun q => kf q H locs ls h1 h2 h3 h4)
theorem g_if_lt (C : Cx p s m args c cc nL own) {x : Int32} {off : Int} (tgt : Nat) (d : decode cc pc = .ok (.ifCond .lt off, 3)) (hp : pc + 3 = pc1) (ht : (pc : Int) + off = (tgt : Int)) (kt : x < 0 → G p l e R s m args below meth c Q D A nL ws tgt L rest) (kf : ¬ x < 0 → G p l e R s m args below meth c Q D A nL ws pc1 L rest) : G p l e R s m args below meth c Q D A nL ws pc L (.int x :: rest) := by
  subst hp
  intro H locs ls h1 h2 h3 h4
  exact lv_if_lt C.x C.b d ht (fun q => kt q H locs ls h1 h2 h3 h4) (fun q => kf q H locs ls h1 h2 h3 h4)
theorem g_icmp_lt (C : Cx p s m args c cc nL own) {x y : Int32} {off : Int} (tgt : Nat) (d : decode cc pc = .ok (.if_icmp .lt off, 3)) (hp : pc + 3 = pc1) (ht : (pc : Int) + off = (tgt : Int)) (kt : x < y → G p l e R s m args below meth c Q D A nL ws tgt L rest) (kf : ¬ x < y → G p l e R s m args below meth c Q D A nL ws pc1 L rest) : G p l e R s m args below meth c Q D A nL ws pc L (.int y :: .int x :: rest) := by
  subst hp
  intro H locs ls h1 h2 h3 h4
  exact lv_icmp_lt C.x C.b d ht (fun q => kt q H locs ls h1 h2 h3 h4) (fun q => kf q H locs ls h1 h2 h3 h4)
theorem g_if_ge (C : Cx p s m args c cc nL own) {x : Int32} {off : Int} (tgt : Nat) (d : decode cc pc = .ok (.ifCond .ge off, 3)) (hp : pc + 3 = pc1) (ht : (pc : Int) + off = (tgt : Int)) (kt : 0 ≤ x → G p l e R s m args below meth c Q D A nL ws tgt L rest) (kf : ¬ 0 ≤ x → G p l e R s m args below meth c Q D A nL ws pc1 L rest) : G p l e R s m args below meth c Q D A nL ws pc L (.int x :: rest) := by
  subst hp
  intro H locs ls h1 h2 h3 h4
  exact lv_if_ge C.x C.b d ht (fun q => kt q H locs ls h1 h2 h3 h4) (fun q => kf q H locs ls h1 h2 h3 h4)
theorem g_icmp_ge (C : Cx p s m args c cc nL own) {x y : Int32} {off : Int} (tgt : Nat) (d : decode cc pc = .ok (.if_icmp .ge off, 3)) (hp : pc + 3 = pc1) (ht : (pc : Int) + off = (tgt : Int)) (kt : y ≤ x → G p l e R s m args below meth c Q D A nL ws tgt L rest) (kf : ¬ y ≤ x → G p l e R s m args below meth c Q D A nL ws pc1 L rest) : G p l e R s m args below meth c Q D A nL ws pc L (.int y :: .int x :: rest) := by
  subst hp
  intro H locs ls h1 h2 h3 h4
  exact lv_icmp_ge C.x C.b d ht (fun q => kt q H locs ls h1 h2 h3 h4) (fun q => kf q H locs ls h1 h2 h3 h4)
theorem g_if_gt (C : Cx p s m args c cc nL own) {x : Int32} {off : Int} (tgt : Nat) (d : decode cc pc = .ok (.ifCond .gt off, 3)) (hp : pc + 3 = pc1) (ht : (pc : Int) + off = (tgt : Int)) (kt : 0 < x → G p l e R s m args below meth c Q D A nL ws tgt L rest) (kf : ¬ 0 < x → G p l e R s m args below meth c Q D A nL ws pc1 L rest) : G p l e R s m args below meth c Q D A nL ws pc L (.int x :: rest) := by
  subst hp
  intro H locs ls h1 h2 h3 h4
  exact lv_if_gt C.x C.b d ht (fun q => kt q H locs ls h1 h2 h3 h4) (fun q => kf q H locs ls h1 h2 h3 h4)
theorem g_icmp_gt (C : Cx p s m args c cc nL own) {x y : Int32} {off : Int} (tgt : Nat) (d : decode cc pc = .ok (.if_icmp .gt off, 3)) (hp : pc + 3 = pc1) (ht : (pc : Int) + off = (tgt : Int)) (kt : y < x → G p l e R s m args below meth c Q D A nL ws tgt L rest) (kf : ¬ y < x → G p l e R s m args below meth c Q D A nL ws pc1 L rest) : G p l e R s m args below meth c Q D A nL ws pc L (.int y :: .int x :: rest) := by
  subst hp
  intro H locs ls h1 h2 h3 h4
  exact lv_icmp_gt C.x C.b d ht (fun q => kt q H locs ls h1 h2 h3 h4) (fun q => kf q H locs ls h1 h2 h3 h4)
theorem g_if_le (C : Cx p s m args c cc nL own) {x : Int32} {off : Int} (tgt : Nat) (d : decode cc pc = .ok (.ifCond .le off, 3)) (hp : pc + 3 = pc1) (ht : (pc : Int) + off = (tgt : Int)) (kt : x ≤ 0 → G p l e R s m args below meth c Q D A nL ws tgt L rest) (kf : ¬ x ≤ 0 → G p l e R s m args below meth c Q D A nL ws pc1 L rest) : G p l e R s m args below meth c Q D A nL ws pc L (.int x :: rest) := by
  subst hp
  intro H locs ls h1 h2 h3 h4
  exact lv_if_le C.x C.b d ht (fun q => kt q H locs ls h1 h2 h3 h4) (fun q => kf q H locs ls h1 h2 h3 h4)
theorem g_icmp_le (C : Cx p s m args c cc nL own) {x y : Int32} {off : Int} (tgt : Nat) (d : decode cc pc = .ok (.if_icmp .le off, 3)) (hp : pc + 3 = pc1) (ht : (pc : Int) + off = (tgt : Int)) (kt : x ≤ y → G p l e R s m args below meth c Q D A nL ws tgt L rest) (kf : ¬ x ≤ y → G p l e R s m args below meth c Q D A nL ws pc1 L rest) : G p l e R s m args below meth c Q D A nL ws pc L (.int y :: .int x :: rest) := by
  subst hp
  intro H locs ls h1 h2 h3 h4
  exact lv_icmp_le C.x C.b d ht (fun q => kt q H locs ls h1 h2 h3 h4) (fun q => kf q H locs ls h1 h2 h3 h4)
theorem g_goto (C : Cx p s m args c cc nL own) {off : Int} (tgt : Nat) (d : decode cc pc = .ok (.goto off, 3)) (ht : (pc : Int) + off = (tgt : Int)) (k : G p l e R s m args below meth c Q D A nL ws tgt L st) : G p l e R s m args below meth c Q D A nL ws pc L st := by
  intro H locs ls h1 h2 h3 h4
  exact lv_goto C.x C.b d ht (k H locs ls h1 h2 h3 h4)
theorem g_tblIn (C : Cx p s m args c cc nL own) {dflt lo hi : Int} {offs : Array Int} {len : Nat} {x : Int32} {off : Int} (tgt : Nat) (d : decode cc pc = .ok (.tableswitch dflt lo hi offs, len)) (z : Int) (hz : x.toInt = z) (g1 : ¬ z < lo) (g2 : ¬ hi < z) (ho : offs[(z - lo).toNat]? = some off) (ht : (pc : Int) + off = (tgt : Int)) (k : G p l e R s m args below meth c Q D A nL ws tgt L rest) : G p l e R s m args below meth c Q D A nL ws pc L (.int x :: rest) := by
  subst hz
  intro H locs ls h1 h2 h3 h4
  exact lv_tableIn C.x C.b d g1 g2 ho ht (k H locs ls h1 h2 h3 h4)
theorem g_tblOut (C : Cx p s m args c cc nL own) {dflt lo hi : Int} {offs : Array Int} {len : Nat} {x : Int32} (tgt : Nat) (d : decode cc pc = .ok (.tableswitch dflt lo hi offs, len)) (g1 : x.toInt < lo ∨ hi < x.toInt) (ht : (pc : Int) + dflt = (tgt : Int)) (k : G p l e R s m args below meth c Q D A nL ws tgt L rest) : G p l e R s m args below meth c Q D A nL ws pc L (.int x :: rest) := by
  intro H locs ls h1 h2 h3 h4
  exact lv_tableOut C.x C.b d g1 ht (k H locs ls h1 h2 h3 h4)
theorem g_look (C : Cx p s m args c cc nL own) {dflt : Int} {ps : Array (Int × Int)} {len : Nat} {x : Int32} {off : Int} (tgt : Nat) (d : decode cc pc = .ok (.lookupswitch dflt ps, len)) (hs : (ps.toList.zip (ps.toList.drop 1)).all (fun (a, next) => a.1 < next.1) = true) (ho : Op.lookupswitch.offset ps.toList dflt x.toInt = off) (ht : (pc : Int) + off = (tgt : Int)) (k : G p l e R s m args below meth c Q D A nL ws tgt L rest) : G p l e R s m args below meth c Q D A nL ws pc L (.int x :: rest) := by
  intro H locs ls h1 h2 h3 h4
  exact lv_lookup C.x C.b d hs ho ht (k H locs ls h1 h2 h3 h4)
/-- fewer locals known -/
theorem g_sub (ks : List Nat) (hl : lv_pick L ks = L1) (k : G p l e R s m args below meth c Q D A nL ws pc L1 st) : G p l e R s m args below meth c Q D A nL ws pc L st := fun H locs ls h1 h2 h3 h4 => k H locs ls h1 h2 h3 (lv_sub h4 ks hl)
/-- the world by another name -/
theorem g_ws {ws1 : va_W} (hw : ws = ws1) (k : G p l e R s m args below meth c Q D A nL ws1 pc L st) : G p l e R s m args below meth c Q D A nL ws pc L st := hw ▸ k
def Qi (A : Nat → Prop) (D : va_G) (ws1 : va_W) (r : Int32) : Array Value → State → Outcome → State → Prop := va_Qi (fun (r1 : Int32) (_ : Unit) => r1 = r) (fun _ t => va_P D classes ws1 t.heap ∧ va_D A ws1) A
def Ql (A : Nat → Prop) (D : va_G) (ws1 : va_W) (r : Int64) : Array Value → State → Outcome → State → Prop := va_Ql (fun (r1 : Int64) (_ : Unit) => r1 = r) (fun _ t => va_P D classes ws1 t.heap ∧ va_D A ws1) A
def Qv (A : Nat → Prop) (D : va_G) (ws1 : va_W) : Array Value → State → Outcome → State → Prop := va_Qv (fun (_ : Unit) => True) (fun _ t => va_P D classes ws1 t.heap ∧ va_D A ws1) A
def Qr (A : Nat → Prop) (D : va_G) (ws1 : va_W) (b : Nat) : Array Value → State → Outcome → State → Prop := va_Qr (fun (_ : Unit) => True) (fun _ q t => q = b ∧ va_P D classes ws1 t.heap ∧ va_D A ws1) A
def PcW (D : va_G) (cs : Nat → ClassId) (A : Nat → Prop) (ws : va_W) : State → Prop := fun U => va_P D classes ws U.heap ∧ va_K D classes (tys cs) U ∧ Nst U ∧ va_D A ws
theorem g_iret (C : Cx p s m args c cc nL own) {ws1 : va_W} (hr : meth.sig.returnType = some .int) (hlk : meth.locks = false) {v r : Int32} (d : decode cc pc = .ok (.ireturn, 1)) (hv : v = r) (hP : ws = ws1) : G p l e R s m args below meth c (MQ below (Qi A D ws1 r) args s 0 0 A) D A nL ws pc L [.int v] := by
  subst hv; subst hP
  intro H locs ls h1 h2 h3 h4
  exact W.iret C.x C.b hr (fun t ht _ => ⟨⟨v, (), rfl, rfl, by rw [ht]; exact h1, h2⟩, h3.F ht⟩) h3.2.2 d hlk
theorem g_zret (C : Cx p s m args c cc nL own) {ws1 : va_W} {ty : FieldType} (hr : meth.sig.returnType = some ty) (hlk : meth.locks = false) {v r : Int32} (hn : narrow ty (.int v) = .int v) (d : decode cc pc = .ok (.ireturn, 1)) (hv : v = r) (hP : ws = ws1) : G p l e R s m args below meth c (MQ below (Qi A D ws1 r) args s 0 0 A) D A nL ws pc L [.int v] := by
  subst hv; subst hP
  intro H locs ls h1 h2 h3 h4
  exact W.zret C.x C.b hr hn (fun t ht _ => ⟨⟨v, (), rfl, rfl, by rw [ht]; exact h1, h2⟩, h3.F ht⟩) h3.2.2 d hlk
theorem g_lret (C : Cx p s m args c cc nL own) {ws1 : va_W} (hr : meth.sig.returnType = some .long) (hlk : meth.locks = false) {v r : Int64} (d : decode cc pc = .ok (.lreturn, 1)) (hv : v = r) (hP : ws = ws1) : G p l e R s m args below meth c (MQ below (Ql A D ws1 r) args s 0 0 A) D A nL ws pc L [.long v] := by
  subst hv; subst hP
  intro H locs ls h1 h2 h3 h4
  exact W.lret C.x C.b hr (fun t ht _ => ⟨⟨v, (), rfl, rfl, by rw [ht]; exact h1, h2⟩, h3.F ht⟩) h3.2.2 d hlk
theorem g_vret (C : Cx p s m args c cc nL own) {ws1 : va_W} (hr : meth.sig.returnType = none) (hlk : meth.locks = false) (d : decode cc pc = .ok (.return_, 1)) (hP : ws = ws1) : G p l e R s m args below meth c (MQ below (Qv A D ws1) args s 0 0 A) D A nL ws pc L [] := by
  subst hP
  intro H locs ls h1 h2 h3 h4
  exact W.vret C.x C.b hr (fun t ht _ => ⟨⟨(), rfl, trivial, by rw [ht]; exact h1, h2⟩, h3.F ht⟩) h3.2.2 d hlk
theorem g_aret (C : Cx p s m args c cc nL own) {ws1 : va_W} {n : String} (hr : meth.sig.returnType = some (.object n)) (hlk : meth.locks = false) {v r : Nat} (d : decode cc pc = .ok (.areturn, 1)) (hv : v = r) (hP : ws = ws1) : G p l e R s m args below meth c (MQ below (Qr A D ws1 r) args s 0 0 A) D A nL ws pc L [.ref v] := by
  subst hv; subst hP
  intro H locs ls h1 h2 h3 h4
  exact W.aret C.x C.b hr (Or.inl ⟨n, rfl⟩) (Or.inr ⟨v, rfl⟩) (fun t ht _ => ⟨⟨(), v, rfl, trivial, rfl, by rw [ht]; exact h1, h2⟩, h3.F ht⟩) h3.2.2 d hlk
theorem met_of {l : Launch} {y : MethodName} {own : String} {cc : ByteArray} {maxL : Nat} {ret : Option FieldType} {rm : Room} {D : va_G} {cs : Nat → ClassId} {A : Nat → Prop} {ws : va_W} {av : List Value} {Qc : Array Value → State → Outcome → State → Prop} (hy : y.cls = own) (hpl : plainName own = true) (hsz : (lg_sl av).length ≤ maxL)
    (body : ∀ p e s m below meth c, Cx p s m av.toArray c cc maxL own → va_K D classes (tys cs) s → meth.sig.returnType = ret → meth.locks = false → G p l e rm s m av.toArray below meth c (MQ below Qc av.toArray s 0 0 A) D A maxL ws 0 (lv_args 0 av) []) : Met l y (.code y cc maxL ret :: TT) rm (va_Pc av (PcW D cs A ws)) Qc 0 0 A := by
  refine Met.ofW (cc := cc) (maxL := maxL) (ret := ret) (by rw [hy]; exact hpl) rfl ?_
  intro p e s m args below meth c s₁ B hml hv
  obtain ⟨rfl, hP, hK, hN, hD⟩ := hv
  have hts := atoms_spec (ws := .code y cc maxL ret :: TT) B.pre
  have hown : s.vm.findClass own = some m.cls := by rw [← hy]; exact findClass_of_methodNamed B.named
  have hl := lv_entry av (n := maxL) hsz
  rw [lg_entry_eq]
  exact body p e s m below meth c ⟨B.exec, B.bytes, hml, hown, fun w h => hts w (List.mem_cons_of_mem _ h), hN⟩ hK B.returns B.notSynchronized s.heap [] _ hP hD va_S.rf hl
theorem met_ofS {l : Launch} {y : MethodName} {own : String} {cc : ByteArray} {maxL : Nat} {ret : Option FieldType} {rm : Room} {av : List Value} {Qc : Array Value → State → Outcome → State → Prop} (hy : y.cls = own) (hpl : plainName own = true) (hsz : (lg_sl av).length ≤ maxL)
    (body : ∀ p e s m below meth c, Cx p s m av.toArray c cc maxL own → meth.sig.returnType = ret → meth.locks = false → G p l e rm s m av.toArray below meth c (MQ below Qc av.toArray s 0 0 (fun _ => False)) (fun _ => 0, fun _ _ => 0) (fun _ => False) maxL [] 0 (lv_args 0 av) []) : Met l y (.code y cc maxL ret :: TT) rm (va_Pc av Nst) Qc 0 0 (fun _ => False) := by
  refine Met.ofW (cc := cc) (maxL := maxL) (ret := ret) (by rw [hy]; exact hpl) rfl ?_
  intro p e s m args below meth c s₁ B hml hv
  obtain ⟨rfl, hN⟩ := hv
  have hts := atoms_spec (ws := .code y cc maxL ret :: TT) B.pre
  have hown : s.vm.findClass own = some m.cls := by rw [← hy]; exact findClass_of_methodNamed B.named
  have hl := lv_entry av (n := maxL) hsz
  rw [lg_entry_eq]
  exact body p e s m below meth c ⟨B.exec, B.bytes, hml, hown, fun w h => hts w (List.mem_cons_of_mem _ h), hN⟩ B.returns B.notSynchronized s.heap [] _ (fun k q h => by simp at h) ⟨fun i j p q h => by simp at h, fun k q h => by simp at h⟩ va_S.rf hl
/-- what a call needs of its callee's name -/
def SY (y : MethodName) (bytes : ByteArray) (maxL : Nat) (ret : Option FieldType) (n : Nat) : Prop := Cond.code y bytes maxL ret ∈ TT ∧ Cond.static y ∈ TT ∧ Cond.initialized y.cls ∈ TT ∧ (y.cls ≠ "java/lang/invoke/MethodHandle" ∧ y.cls ≠ "java/lang/invoke/VarHandle" ∧ (parseMethodDescriptor y.desc).map (fun d => d.parameters.length) = some n)
def VY (y : MethodName) (bytes : ByteArray) (maxL : Nat) (ret : Option FieldType) (n : Nat) : Prop := Cond.code y bytes maxL ret ∈ TT ∧ Cond.instanceMethod y ∈ TT ∧ Cond.selects y.cls y y ∈ TT ∧ Cond.initialized y.cls ∈ TT ∧ (y.cls ≠ "java/lang/invoke/MethodHandle" ∧ y.cls ≠ "java/lang/invoke/VarHandle" ∧ (parseMethodDescriptor y.desc).map (fun d => d.parameters.length) = some n)
/-- the contracts, by their answers -/
abbrev SetI (l : Launch) (y : MethodName) (cc : ByteArray) (nL : Nat) (rt : Option FieldType) (rm : Room) (av : List Value) (r : Int32) : Prop := Met l y (.code y cc nL rt :: TT) rm (va_Pc av Nst) (Qi (fun _ => False) (fun _ => 0, fun _ _ => 0) [] r) 0 0 (fun _ => False)
abbrev SetL (l : Launch) (y : MethodName) (cc : ByteArray) (nL : Nat) (rt : Option FieldType) (rm : Room) (av : List Value) (r : Int64) : Prop := Met l y (.code y cc nL rt :: TT) rm (va_Pc av Nst) (Ql (fun _ => False) (fun _ => 0, fun _ _ => 0) [] r) 0 0 (fun _ => False)
abbrev MetI (l : Launch) (y : MethodName) (cc : ByteArray) (nL : Nat) (rt : Option FieldType) (rm : Room) (D : va_G) (cs : Nat → ClassId) (A : Nat → Prop) (ws : va_W) (av : List Value) (r : Int32) (ws1 : va_W) : Prop := Met l y (.code y cc nL rt :: TT) rm (va_Pc av (PcW D cs A ws)) (Qi A D ws1 r) 0 0 A
abbrev MetL (l : Launch) (y : MethodName) (cc : ByteArray) (nL : Nat) (rt : Option FieldType) (rm : Room) (D : va_G) (cs : Nat → ClassId) (A : Nat → Prop) (ws : va_W) (av : List Value) (r : Int64) (ws1 : va_W) : Prop := Met l y (.code y cc nL rt :: TT) rm (va_Pc av (PcW D cs A ws)) (Ql A D ws1 r) 0 0 A
abbrev MetV (l : Launch) (y : MethodName) (cc : ByteArray) (nL : Nat) (rt : Option FieldType) (rm : Room) (D : va_G) (cs : Nat → ClassId) (A : Nat → Prop) (ws : va_W) (av : List Value) (ws1 : va_W) : Prop := Met l y (.code y cc nL rt :: TT) rm (va_Pc av (PcW D cs A ws)) (Qv A D ws1) 0 0 A
abbrev MetR (l : Launch) (y : MethodName) (cc : ByteArray) (nL : Nat) (rt : Option FieldType) (rm : Room) (D : va_G) (cs : Nat → ClassId) (A : Nat → Prop) (ws : va_W) (av : List Value) (b : Nat) (ws1 : va_W) : Prop := Met l y (.code y cc nL rt :: TT) rm (va_Pc av (PcW D cs A ws)) (Qr A D ws1 b) 0 0 A
theorem blindN {av : List Value} : FrameBlind (va_Pc av Nst) := fun _ _ _ _ q => ⟨q.1, Nst.same rfl q.2⟩
theorem blindW {av : List Value} {cs : Nat → ClassId} : FrameBlind (va_Pc av (PcW D cs A ws)) := fun a U g mk q => ⟨q.1, q.2.1, va_K.moved (u := U) (U := U.calling g mk a) (Vm.Alike.refl U.vm) q.2.2.1, Nst.same rfl q.2.2.2.1, q.2.2.2.2⟩
theorem blind0 {B : State → Prop} {av : List Value} (hB : ∀ (a : Array Value) (U : State) (g : JFrame) (mk : MethodId), B U → B (U.calling g mk a)) : FrameBlind (va_Pc av B) := fun a U g mk q => ⟨q.1, hB a U g mk q.2⟩
theorem g_callSI (C : Cx p s m args c cc nL own) {y : MethodName} {bytes : ByteArray} {maxL idx : Nat} {rt : Option FieldType} {rm : Room} {As : List Value} {r : Int32} (n : Nat) (hM : SetI l y bytes maxL rt rm As r) (S : SY y bytes maxL rt n) (hl : Cond.methodLink own idx y ∈ TT) (hn : As.length = n) (hR : rm.frames + 1 ≤ R.frames ∧ 8 + (maxL + 11) + rm.locals ≤ R.locals) (hz : rm.cells = 0 ∧ rm.slots = 0) (d : decode cc pc = .ok (.invokestatic idx, 3)) (hp : pc + 3 = pc1) (hst : st = As.reverse ++ rest) (hW : (rest.map fun v => v.category).sum ≤ 8) (k : G p l e R s m args below meth c Q D A nL ws pc1 L (.int r :: rest)) : G p l e R s m args below meth c Q D A nL ws pc L st := by
  subst hp
  intro H locs ls h1 h2 h3 h4
  refine va_calli (A1 := fun _ => False) (va_runS ⟨C.x, C.b, C.ml, C.own, C.ts⟩ hM ⟨callB_of n C.ts (TT_inc S.1) rfl hz.1 hz.2 (C.ts _ S.2.2.1) (C.ts _ hl) S.2.2.2 hR, C.ts _ S.2.1⟩ ⟨blindN, fun U hU hW => ⟨rfl, Nst.warm hW C.n⟩⟩ rfl hn h4.1 hst (lv_room hW) d ⟨by omega, by omega⟩) h3 (fun _ _ h => h.elim) (fun _ h => h.elim) (fun r1 u t H1 locs1 ht hvm hw hB hz1 hk1 hS => ?_)
  subst hw
  exact k H1 locs1 ls (h1.kept (fun i q hi => hk1 q.1 (h1 i q hi).lt (fun h => h))) h2 hS h4
theorem g_callNI (C : Cx p s m args c cc nL own) {y : MethodName} {bytes : ByteArray} {maxL idx : Nat} {rt : Option FieldType} {rm : Room} {As : List Value} {r : Int32} (n : Nat) (hM : SetI l y bytes maxL rt rm As r) (S : SY y bytes maxL rt n) {host : String} (ni : Nat) (hl : NNl[ni]? = some (own, idx, y, host)) (hn : As.length = n) (hR : rm.frames + 1 ≤ R.frames ∧ 8 + (maxL + 11) + rm.locals ≤ R.locals) (hz : rm.cells = 0 ∧ rm.slots = 0) (d : decode cc pc = .ok (.invokestatic idx, 3)) (hp : pc + 3 = pc1) (hst : st = As.reverse ++ rest) (hW : (rest.map fun v => v.category).sum ≤ 8) (k : G p l e R s m args below meth c Q D A nL ws pc1 L (.int r :: rest)) : G p l e R s m args below meth c Q D A nL ws pc L st := by
  subst hp
  intro H locs ls h1 h2 h3 h4
  refine va_calli (A1 := fun _ => False) (va_runSN ⟨C.x, C.b, C.ml, C.own, C.ts⟩ hM ⟨va_cnB n C.ts (TT_inc S.1) rfl hz.1 hz.2 (C.n.at ni hl) (C.ts _ S.2.2.1) S.2.2.2 hR, C.ts _ S.2.1, trivial⟩ ⟨blindN, fun U hU hW => ⟨rfl, Nst.warm hW C.n⟩⟩ rfl hn h4.1 hst (lv_room hW) d ⟨by omega, by omega⟩) h3 (fun _ _ h => h.elim) (fun _ h => h.elim) (fun r1 u t H1 locs1 ht hvm hw hB hz1 hk1 hS => ?_)
  subst hw
  exact k H1 locs1 ls (h1.kept (fun i q hi => hk1 q.1 (h1 i q hi).lt (fun h => h))) h2 hS h4
theorem g_callSL (C : Cx p s m args c cc nL own) {y : MethodName} {bytes : ByteArray} {maxL idx : Nat} {rt : Option FieldType} {rm : Room} {As : List Value} {r : Int64} (n : Nat) (hM : SetL l y bytes maxL rt rm As r) (S : SY y bytes maxL rt n) (hl : Cond.methodLink own idx y ∈ TT) (hn : As.length = n) (hR : rm.frames + 1 ≤ R.frames ∧ 8 + (maxL + 11) + rm.locals ≤ R.locals) (hz : rm.cells = 0 ∧ rm.slots = 0) (d : decode cc pc = .ok (.invokestatic idx, 3)) (hp : pc + 3 = pc1) (hst : st = As.reverse ++ rest) (hW : (rest.map fun v => v.category).sum ≤ 8) (k : G p l e R s m args below meth c Q D A nL ws pc1 L (.long r :: rest)) : G p l e R s m args below meth c Q D A nL ws pc L st := by
  subst hp
  intro H locs ls h1 h2 h3 h4
  refine va_calll (A1 := fun _ => False) (va_runS ⟨C.x, C.b, C.ml, C.own, C.ts⟩ hM ⟨callB_of n C.ts (TT_inc S.1) rfl hz.1 hz.2 (C.ts _ S.2.2.1) (C.ts _ hl) S.2.2.2 hR, C.ts _ S.2.1⟩ ⟨blindN, fun U hU hW => ⟨rfl, Nst.warm hW C.n⟩⟩ rfl hn h4.1 hst (lv_room hW) d ⟨by omega, by omega⟩) h3 (fun _ _ h => h.elim) (fun _ h => h.elim) (fun r1 u t H1 locs1 ht hvm hw hB hz1 hk1 hS => ?_)
  subst hw
  exact k H1 locs1 ls (h1.kept (fun i q hi => hk1 q.1 (h1 i q hi).lt (fun h => h))) h2 hS h4
theorem g_callNL (C : Cx p s m args c cc nL own) {y : MethodName} {bytes : ByteArray} {maxL idx : Nat} {rt : Option FieldType} {rm : Room} {As : List Value} {r : Int64} (n : Nat) (hM : SetL l y bytes maxL rt rm As r) (S : SY y bytes maxL rt n) {host : String} (ni : Nat) (hl : NNl[ni]? = some (own, idx, y, host)) (hn : As.length = n) (hR : rm.frames + 1 ≤ R.frames ∧ 8 + (maxL + 11) + rm.locals ≤ R.locals) (hz : rm.cells = 0 ∧ rm.slots = 0) (d : decode cc pc = .ok (.invokestatic idx, 3)) (hp : pc + 3 = pc1) (hst : st = As.reverse ++ rest) (hW : (rest.map fun v => v.category).sum ≤ 8) (k : G p l e R s m args below meth c Q D A nL ws pc1 L (.long r :: rest)) : G p l e R s m args below meth c Q D A nL ws pc L st := by
  subst hp
  intro H locs ls h1 h2 h3 h4
  refine va_calll (A1 := fun _ => False) (va_runSN ⟨C.x, C.b, C.ml, C.own, C.ts⟩ hM ⟨va_cnB n C.ts (TT_inc S.1) rfl hz.1 hz.2 (C.n.at ni hl) (C.ts _ S.2.2.1) S.2.2.2 hR, C.ts _ S.2.1, trivial⟩ ⟨blindN, fun U hU hW => ⟨rfl, Nst.warm hW C.n⟩⟩ rfl hn h4.1 hst (lv_room hW) d ⟨by omega, by omega⟩) h3 (fun _ _ h => h.elim) (fun _ h => h.elim) (fun r1 u t H1 locs1 ht hvm hw hB hz1 hk1 hS => ?_)
  subst hw
  exact k H1 locs1 ls (h1.kept (fun i q hi => hk1 q.1 (h1 i q hi).lt (fun h => h))) h2 hS h4
theorem g_callVI (C : Cx p s m args c cc nL own) {cs : Nat → ClassId} (hK : va_K D classes (tys cs) s) {y : MethodName} {bytes : ByteArray} {maxL idx b ci N : Nat} {T : u_T} {fs : List Value} {rt : Option FieldType} {rm : Room} {As : List Value} {r : Int32} {ws1 : va_W} (n : Nat) (hM : MetI l y bytes maxL rt rm D cs A ws (.ref b :: As) r ws1) (S : VY y bytes maxL rt n) (hl : Cond.methodLink own idx y ∈ TT) (q0 : Nat) (he : ws[q0]? = some (b, .inr (ci, fs))) (hci : classes[ci]? = some (y.cls, T, N)) (hn : As.length = n) (hR : rm.frames + 1 ≤ R.frames ∧ 8 + (maxL + 11) + rm.locals ≤ R.locals) (hz : rm.cells = 0 ∧ rm.slots = 0) (d : decode cc pc = .ok (.invokevirtual idx, 3)) (hp : pc + 3 = pc1) (hst : st = As.reverse ++ .ref b :: rest) (hW : (rest.map fun v => v.category).sum ≤ 8) (k : G p l e R s m args below meth c Q D A nL ws1 pc1 L (.int r :: rest)) : G p l e R s m args below meth c Q D A nL ws pc L st := by
  subst hp
  intro H locs ls h1 h2 h3 h4
  refine va_calli (A1 := A) (va_runV ⟨C.x, C.b, C.ml, C.own, C.ts⟩ hM ⟨callB_of n C.ts (TT_inc S.1) rfl hz.1 hz.2 (C.ts _ S.2.2.2.1) (C.ts _ hl) S.2.2.2.2 hR, C.ts _ S.2.1, C.ts _ S.2.2.1⟩ ⟨blindW, va_recv hK h1 hci he, fun U hU hW => ⟨rfl, by rw [hU]; exact h1, va_K.moved hW.alike hK, Nst.warm hW C.n, h2⟩⟩ rfl hn h4.1 hst (lv_room hW) d ⟨by omega, by omega⟩) h3 (fun _ _ h => h) (fun _ h => h) (fun r1 u t H1 locs1 ht hvm hw hB hz1 hk1 hS => ?_)
  subst hw
  exact k H1 locs1 ls (ht ▸ hB.1) hB.2 hS h4
theorem g_callVL (C : Cx p s m args c cc nL own) {cs : Nat → ClassId} (hK : va_K D classes (tys cs) s) {y : MethodName} {bytes : ByteArray} {maxL idx b ci N : Nat} {T : u_T} {fs : List Value} {rt : Option FieldType} {rm : Room} {As : List Value} {r : Int64} {ws1 : va_W} (n : Nat) (hM : MetL l y bytes maxL rt rm D cs A ws (.ref b :: As) r ws1) (S : VY y bytes maxL rt n) (hl : Cond.methodLink own idx y ∈ TT) (q0 : Nat) (he : ws[q0]? = some (b, .inr (ci, fs))) (hci : classes[ci]? = some (y.cls, T, N)) (hn : As.length = n) (hR : rm.frames + 1 ≤ R.frames ∧ 8 + (maxL + 11) + rm.locals ≤ R.locals) (hz : rm.cells = 0 ∧ rm.slots = 0) (d : decode cc pc = .ok (.invokevirtual idx, 3)) (hp : pc + 3 = pc1) (hst : st = As.reverse ++ .ref b :: rest) (hW : (rest.map fun v => v.category).sum ≤ 8) (k : G p l e R s m args below meth c Q D A nL ws1 pc1 L (.long r :: rest)) : G p l e R s m args below meth c Q D A nL ws pc L st := by
  subst hp
  intro H locs ls h1 h2 h3 h4
  refine va_calll (A1 := A) (va_runV ⟨C.x, C.b, C.ml, C.own, C.ts⟩ hM ⟨callB_of n C.ts (TT_inc S.1) rfl hz.1 hz.2 (C.ts _ S.2.2.2.1) (C.ts _ hl) S.2.2.2.2 hR, C.ts _ S.2.1, C.ts _ S.2.2.1⟩ ⟨blindW, va_recv hK h1 hci he, fun U hU hW => ⟨rfl, by rw [hU]; exact h1, va_K.moved hW.alike hK, Nst.warm hW C.n, h2⟩⟩ rfl hn h4.1 hst (lv_room hW) d ⟨by omega, by omega⟩) h3 (fun _ _ h => h) (fun _ h => h) (fun r1 u t H1 locs1 ht hvm hw hB hz1 hk1 hS => ?_)
  subst hw
  exact k H1 locs1 ls (ht ▸ hB.1) hB.2 hS h4
theorem g_callVV (C : Cx p s m args c cc nL own) {cs : Nat → ClassId} (hK : va_K D classes (tys cs) s) {y : MethodName} {bytes : ByteArray} {maxL idx b ci N : Nat} {T : u_T} {fs : List Value} {rt : Option FieldType} {rm : Room} {As : List Value}  {ws1 : va_W} (n : Nat) (hM : MetV l y bytes maxL rt rm D cs A ws (.ref b :: As) ws1) (S : VY y bytes maxL rt n) (hl : Cond.methodLink own idx y ∈ TT) (q0 : Nat) (he : ws[q0]? = some (b, .inr (ci, fs))) (hci : classes[ci]? = some (y.cls, T, N)) (hn : As.length = n) (hR : rm.frames + 1 ≤ R.frames ∧ 8 + (maxL + 11) + rm.locals ≤ R.locals) (hz : rm.cells = 0 ∧ rm.slots = 0) (d : decode cc pc = .ok (.invokevirtual idx, 3)) (hp : pc + 3 = pc1) (hst : st = As.reverse ++ .ref b :: rest) (hW : (rest.map fun v => v.category).sum ≤ 8) (k : G p l e R s m args below meth c Q D A nL ws1 pc1 L rest) : G p l e R s m args below meth c Q D A nL ws pc L st := by
  subst hp
  intro H locs ls h1 h2 h3 h4
  refine va_callv (A1 := A) (va_runV ⟨C.x, C.b, C.ml, C.own, C.ts⟩ hM ⟨callB_of n C.ts (TT_inc S.1) rfl hz.1 hz.2 (C.ts _ S.2.2.2.1) (C.ts _ hl) S.2.2.2.2 hR, C.ts _ S.2.1, C.ts _ S.2.2.1⟩ ⟨blindW, va_recv hK h1 hci he, fun U hU hW => ⟨rfl, by rw [hU]; exact h1, va_K.moved hW.alike hK, Nst.warm hW C.n, h2⟩⟩ rfl hn h4.1 hst (lv_room hW) d ⟨by omega, by omega⟩) h3 (fun _ _ h => h) (fun _ h => h) (fun u t H1 locs1 ht hvm hw hB hz1 hk1 hS => ?_)
  exact k H1 locs1 ls (ht ▸ hB.1) hB.2 hS h4
theorem g_callVR (C : Cx p s m args c cc nL own) {cs : Nat → ClassId} (hK : va_K D classes (tys cs) s) {y : MethodName} {bytes : ByteArray} {maxL idx b ci N : Nat} {T : u_T} {fs : List Value} {rt : Option FieldType} {rm : Room} {As : List Value} {r : Nat} {ws1 : va_W} (n : Nat) (hM : MetR l y bytes maxL rt rm D cs A ws (.ref b :: As) r ws1) (S : VY y bytes maxL rt n) (hl : Cond.methodLink own idx y ∈ TT) (q0 : Nat) (he : ws[q0]? = some (b, .inr (ci, fs))) (hci : classes[ci]? = some (y.cls, T, N)) (hn : As.length = n) (hR : rm.frames + 1 ≤ R.frames ∧ 8 + (maxL + 11) + rm.locals ≤ R.locals) (hz : rm.cells = 0 ∧ rm.slots = 0) (d : decode cc pc = .ok (.invokevirtual idx, 3)) (hp : pc + 3 = pc1) (hst : st = As.reverse ++ .ref b :: rest) (hW : (rest.map fun v => v.category).sum ≤ 8) (k : G p l e R s m args below meth c Q D A nL ws1 pc1 L (.ref r :: rest)) : G p l e R s m args below meth c Q D A nL ws pc L st := by
  subst hp
  intro H locs ls h1 h2 h3 h4
  refine va_callr (A1 := A) (va_runV ⟨C.x, C.b, C.ml, C.own, C.ts⟩ hM ⟨callB_of n C.ts (TT_inc S.1) rfl hz.1 hz.2 (C.ts _ S.2.2.2.1) (C.ts _ hl) S.2.2.2.2 hR, C.ts _ S.2.1, C.ts _ S.2.2.1⟩ ⟨blindW, va_recv hK h1 hci he, fun U hU hW => ⟨rfl, by rw [hU]; exact h1, va_K.moved hW.alike hK, Nst.warm hW C.n, h2⟩⟩ rfl hn h4.1 hst (lv_room hW) d ⟨by omega, by omega⟩) h3 (fun _ _ h => h) (fun _ h => h) (fun u ra t H1 locs1 ht hvm hw hB hz1 hk1 hS => ?_)
  obtain ⟨hq, hB1, hB2⟩ := hB
  subst hq
  exact k H1 locs1 ls (ht ▸ hB1) hB2 hS h4
def Fr (A A1 : Nat → Prop) (ws wc wc1 ws1 : va_W) : Prop := (∀ q, A1 q → A q) ∧ (∀ q, A1 q → q ∈ wc.map (fun q => q.1)) ∧ (∃ is : List Nat, is.filterMap (fun i => ws[i]?) = wc) ∧ (va_D A ws → va_D A1 wc) ∧ (va_D A ws → va_D A ws1) ∧ ∀ (D : va_G) (H H1 : Heap), va_P D classes ws H → va_D A ws → (∀ q : Nat, q < H.size → q ∉ wc.map (fun q => q.1) → H1[q]? = H[q]?) → va_P D classes wc1 H1 → va_P D classes ws1 H1
theorem g_callFI (C : Cx p s m args c cc nL own) {cs : Nat → ClassId} (hK : va_K D classes (tys cs) s) {y : MethodName} {bytes : ByteArray} {maxL idx b ci N : Nat} {T : u_T} {fs : List Value} {rt : Option FieldType} {rm : Room} {As : List Value} {r : Int32} {ws1 wc wc1 : va_W} {A1 : Nat → Prop} (n : Nat) (F : Fr A A1 ws wc wc1 ws1) (hM : MetI l y bytes maxL rt rm D cs A1 wc (.ref b :: As) r wc1) (S : VY y bytes maxL rt n) (hl : Cond.methodLink own idx y ∈ TT) (q0 : Nat) (he : ws[q0]? = some (b, .inr (ci, fs))) (hci : classes[ci]? = some (y.cls, T, N)) (hn : As.length = n) (hR : rm.frames + 1 ≤ R.frames ∧ 8 + (maxL + 11) + rm.locals ≤ R.locals) (hz : rm.cells = 0 ∧ rm.slots = 0) (d : decode cc pc = .ok (.invokevirtual idx, 3)) (hp : pc + 3 = pc1) (hst : st = As.reverse ++ .ref b :: rest) (hW : (rest.map fun v => v.category).sum ≤ 8) (k : G p l e R s m args below meth c Q D A nL ws1 pc1 L (.int r :: rest)) : G p l e R s m args below meth c Q D A nL ws pc L st := by
  subst hp
  intro H locs ls h1 h2 h3 h4
  obtain ⟨f1, f1', ⟨is, f2⟩, f3, f4, f5⟩ := F
  refine va_calli (A1 := A1) (va_runV ⟨C.x, C.b, C.ml, C.own, C.ts⟩ hM ⟨callB_of n C.ts (TT_inc S.1) rfl hz.1 hz.2 (C.ts _ S.2.2.2.1) (C.ts _ hl) S.2.2.2.2 hR, C.ts _ S.2.1, C.ts _ S.2.2.1⟩ ⟨blindW, va_recv hK h1 hci he, fun U hU hW => ⟨rfl, by rw [hU]; exact h1.sub is f2, va_K.moved hW.alike hK, Nst.warm hW C.n, f3 h2⟩⟩ rfl hn h4.1 hst (lv_room hW) d ⟨by omega, by omega⟩) h3 (fun _ _ h => f1 _ h) (fun _ h => f1 _ h) (fun r1 u t H1 locs1 ht hvm hw hB hz1 hk1 hS => ?_)
  subst hw
  exact k H1 locs1 ls (f5 D H H1 h1 h2 (fun q hq hn => hk1 q hq (fun hA => hn (f1' q hA))) (ht ▸ hB.1)) (f4 h2) hS h4
theorem g_callFV (C : Cx p s m args c cc nL own) {cs : Nat → ClassId} (hK : va_K D classes (tys cs) s) {y : MethodName} {bytes : ByteArray} {maxL idx b ci N : Nat} {T : u_T} {fs : List Value} {rt : Option FieldType} {rm : Room} {As : List Value}  {ws1 wc wc1 : va_W} {A1 : Nat → Prop} (n : Nat) (F : Fr A A1 ws wc wc1 ws1) (hM : MetV l y bytes maxL rt rm D cs A1 wc (.ref b :: As) wc1) (S : VY y bytes maxL rt n) (hl : Cond.methodLink own idx y ∈ TT) (q0 : Nat) (he : ws[q0]? = some (b, .inr (ci, fs))) (hci : classes[ci]? = some (y.cls, T, N)) (hn : As.length = n) (hR : rm.frames + 1 ≤ R.frames ∧ 8 + (maxL + 11) + rm.locals ≤ R.locals) (hz : rm.cells = 0 ∧ rm.slots = 0) (d : decode cc pc = .ok (.invokevirtual idx, 3)) (hp : pc + 3 = pc1) (hst : st = As.reverse ++ .ref b :: rest) (hW : (rest.map fun v => v.category).sum ≤ 8) (k : G p l e R s m args below meth c Q D A nL ws1 pc1 L rest) : G p l e R s m args below meth c Q D A nL ws pc L st := by
  subst hp
  intro H locs ls h1 h2 h3 h4
  obtain ⟨f1, f1', ⟨is, f2⟩, f3, f4, f5⟩ := F
  refine va_callv (A1 := A1) (va_runV ⟨C.x, C.b, C.ml, C.own, C.ts⟩ hM ⟨callB_of n C.ts (TT_inc S.1) rfl hz.1 hz.2 (C.ts _ S.2.2.2.1) (C.ts _ hl) S.2.2.2.2 hR, C.ts _ S.2.1, C.ts _ S.2.2.1⟩ ⟨blindW, va_recv hK h1 hci he, fun U hU hW => ⟨rfl, by rw [hU]; exact h1.sub is f2, va_K.moved hW.alike hK, Nst.warm hW C.n, f3 h2⟩⟩ rfl hn h4.1 hst (lv_room hW) d ⟨by omega, by omega⟩) h3 (fun _ _ h => f1 _ h) (fun _ h => f1 _ h) (fun u t H1 locs1 ht hvm hw hB hz1 hk1 hS => ?_)
  exact k H1 locs1 ls (f5 D H H1 h1 h2 (fun q hq hn => hk1 q hq (fun hA => hn (f1' q hA))) (ht ▸ hB.1)) (f4 h2) hS h4
theorem Fr.of {A A1 : Nat → Prop} {ws wc wc1 ws1 : va_W} (isC isR pm : List Nat) (wr : va_W) (hA : ∀ q, A1 q → A q) (hA1 : ∀ q, A1 q → q ∈ wc.map (fun q => q.1)) (hA2 : ∀ (k : Nat) (q : Nat × va_E), wc[k]? = some q → A1 q.1) (hC : isC.map (fun i => ws[i]?) = wc.map some) (hCf : isC.filterMap (fun i => ws[i]?) = wc) (hn : va_nd isC = true) (hR : isR.map (fun i => ws[i]?) = wr.map some) (hdis : ∀ i ∈ isR, i ∉ isC) (hpm : pm.filterMap (fun i => (wr ++ wc1)[i]?) = ws1) (had : ws1.map (fun q => q.1) = ws.map (fun q => q.1)) : Fr A A1 ws wc wc1 ws1 :=
  ⟨hA, hA1, ⟨isC, hCf⟩, fun h => (h.sub isC hn hC).weaken (fun k q hk _ => hA2 k q hk), fun h => D_adr h had, fun _ _ _ h1 h2 h3 h4 => (my_join h1 h2 isC isR hC hR hdis h3 h4).sub pm hpm⟩
variable {cs : Nat → ClassId} {a : Nat}
theorem g_iald (C : Cx p s m args c cc nL own) (hK : va_K D classes (tys cs) s) (q0 : Nat) {n : Nat} {f : Nat → Int32} (ha : ws[q0]? = some (a, .inl (cs 0, n, .inl f))) {i : Int32} (hin : inb i n = true) (d : decode cc pc = .ok (.iaload, 1)) (hp : pc + 1 = pc1) (k : G p l e R s m args below meth c Q D A nL ws pc1 L (.int (f i.toNatClampNeg) :: rest)) : G p l e R s m args below meth c Q D A nL ws pc L (.int i :: .ref a :: rest) := by
  subst hp
  intro H locs ls h1 h2 h3 h4
  exact va_iald C.x C.b hK h1 q0 0 ha rfl (inb_in hin) d (k H locs ls h1 h2 h3 h4)
theorem g_bald (C : Cx p s m args c cc nL own) (hK : va_K D classes (tys cs) s) (q0 : Nat) {n : Nat} {f : Nat → Int32} (ha : ws[q0]? = some (a, .inl (cs 1, n, .inl f))) {i : Int32} (hin : inb i n = true) (d : decode cc pc = .ok (.baload, 1)) (hp : pc + 1 = pc1) (k : G p l e R s m args below meth c Q D A nL ws pc1 L (.int (f i.toNatClampNeg) :: rest)) : G p l e R s m args below meth c Q D A nL ws pc L (.int i :: .ref a :: rest) := by
  subst hp
  intro H locs ls h1 h2 h3 h4
  exact va_bald C.x C.b hK h1 q0 1 ha rfl (inb_in hin) d (k H locs ls h1 h2 h3 h4)
theorem g_zald (C : Cx p s m args c cc nL own) (hK : va_K D classes (tys cs) s) (q0 : Nat) {n : Nat} {f : Nat → Int32} (ha : ws[q0]? = some (a, .inl (cs 2, n, .inl f))) {i : Int32} (hin : inb i n = true) (d : decode cc pc = .ok (.baload, 1)) (hp : pc + 1 = pc1) (k : G p l e R s m args below meth c Q D A nL ws pc1 L (.int (f i.toNatClampNeg) :: rest)) : G p l e R s m args below meth c Q D A nL ws pc L (.int i :: .ref a :: rest) := by
  subst hp
  intro H locs ls h1 h2 h3 h4
  exact va_zald C.x C.b hK h1 q0 2 ha rfl (inb_in hin) d (k H locs ls h1 h2 h3 h4)
theorem g_aald (C : Cx p s m args c cc nL own) (hK : va_K D classes (tys cs) s) (q0 : Nat) {n : Nat} {f : Nat → Option Nat} {v : Nat} (ha : ws[q0]? = some (a, .inl (cs 3, n, .inr (.inr (.inr (.inr f)))))) {i : Int32} (hin : inb i n = true) (hv : f i.toNatClampNeg = some v) (d : decode cc pc = .ok (.aaload, 1)) (hp : pc + 1 = pc1) (k : G p l e R s m args below meth c Q D A nL ws pc1 L (.ref v :: rest)) : G p l e R s m args below meth c Q D A nL ws pc L (.int i :: .ref a :: rest) := by
  subst hp
  intro H locs ls h1 h2 h3 h4
  exact va_aldq C.x C.b hK h1 q0 3 ha rfl (inb_in hin) d (by rw [hv]; exact k H locs ls h1 h2 h3 h4)
theorem g_iast (C : Cx p s m args c cc nL own) (hK : va_K D classes (tys cs) s) (q0 : Nat) {ws1 : va_W} {n : Nat} {f : Nat → Int32} (ha : ws[q0]? = some (a, .inl (cs 0, n, .inl f))) {i x : Int32} (hin : inb i n = true) (hw : ws.set q0 (a, .inl (cs 0, n, .inl (upd f i.toNatClampNeg x))) = ws1) (d : decode cc pc = .ok (.iastore, 1)) (hp : pc + 1 = pc1) (k : G p l e R s m args below meth c Q D A nL ws1 pc1 L rest) : G p l e R s m args below meth c Q D A nL ws pc L (.int x :: .int i :: .ref a :: rest) := by
  subst hp; subst hw
  intro H locs ls h1 h2 h3 h4
  exact va_iast C.x C.b hK h1 h2 h3 q0 0 ha rfl (inb_in hin) d (fun H1 locs1 g1 g2 g3 => k H1 locs1 ls g1 g2 g3 h4)
theorem g_bast (C : Cx p s m args c cc nL own) (hK : va_K D classes (tys cs) s) (q0 : Nat) {ws1 : va_W} {n : Nat} {f : Nat → Int32} (ha : ws[q0]? = some (a, .inl (cs 1, n, .inl f))) {i x : Int32} (hin : inb i n = true) (hw : ws.set q0 (a, .inl (cs 1, n, .inl (upd f i.toNatClampNeg (vp_nar .byte x)))) = ws1) (d : decode cc pc = .ok (.bastore, 1)) (hp : pc + 1 = pc1) (k : G p l e R s m args below meth c Q D A nL ws1 pc1 L rest) : G p l e R s m args below meth c Q D A nL ws pc L (.int x :: .int i :: .ref a :: rest) := by
  subst hp; subst hw
  intro H locs ls h1 h2 h3 h4
  exact va_bast C.x C.b hK h1 h2 h3 q0 1 ha rfl (inb_in hin) d (fun H1 locs1 g1 g2 g3 => k H1 locs1 ls g1 g2 g3 h4)
theorem g_zast (C : Cx p s m args c cc nL own) (hK : va_K D classes (tys cs) s) (q0 : Nat) {ws1 : va_W} {n : Nat} {f : Nat → Int32} (ha : ws[q0]? = some (a, .inl (cs 2, n, .inl f))) {i x : Int32} (hin : inb i n = true) (hw : ws.set q0 (a, .inl (cs 2, n, .inl (upd f i.toNatClampNeg (vp_nar .boolean x)))) = ws1) (d : decode cc pc = .ok (.bastore, 1)) (hp : pc + 1 = pc1) (k : G p l e R s m args below meth c Q D A nL ws1 pc1 L rest) : G p l e R s m args below meth c Q D A nL ws pc L (.int x :: .int i :: .ref a :: rest) := by
  subst hp; subst hw
  intro H locs ls h1 h2 h3 h4
  exact va_zast C.x C.b hK h1 h2 h3 q0 2 ha rfl (inb_in hin) d (fun H1 locs1 g1 g2 g3 => k H1 locs1 ls g1 g2 g3 h4)
theorem g_alen (C : Cx p s m args c cc nL own) (hK : va_K D classes (tys cs) s) (q0 t0 : Nat) {cA : ClassId} {x : vp_A} {ty : FieldType} (ha : ws[q0]? = some (a, .inl (cA, x))) (ht : (tys cs)[t0]? = some (cA, ty)) {v : Int32} (hv : Int32.ofNat x.1 = v) (d : decode cc pc = .ok (.arraylength, 1)) (hp : pc + 1 = pc1) (k : G p l e R s m args below meth c Q D A nL ws pc1 L (.int v :: rest)) : G p l e R s m args below meth c Q D A nL ws pc L (.ref a :: rest) := by
  subst hp
  intro H locs ls h1 h2 h3 h4
  exact va_alen C.x C.b hK h1 q0 t0 ha ht hv d (k H locs ls h1 h2 h3 h4)
theorem g_copy (C : Cx p s m args c cc nL own) (hK : va_K D classes (tys cs) s) (q0 q1 : Nat) {idx a0 : Nat} {ws1 : va_W} {n0 n1 : Nat} {f g : Nat → Int32} (hl : Cond.methodLink own idx arraycopyName ∈ TT) (hnat : Cond.native arraycopyName ∈ TT) (hstat : Cond.static arraycopyName ∈ TT) (hini : Cond.initialized "java/lang/System" ∈ TT) (ha0 : ws[q0]? = some (a0, .inl (cs 0, n0, .inl f))) (ha1 : ws[q1]? = some (a, .inl (cs 0, n1, .inl g))) {sp dp n : Int32} (b1 : ¬ sp < 0) (b2 : ¬ dp < 0) (b3 : ¬ n < 0) (b4 : sp.toNatClampNeg + n.toNatClampNeg ≤ n0) (b5 : dp.toNatClampNeg + n.toNatClampNeg ≤ n1) (hf : 1 ≤ R.frames) (hL : (rest.map fun v => v.category).sum + (nativeFrameWords "java/lang/System" "arraycopy" 5 + 11) ≤ R.locals) (hw : ws.set q1 (a, .inl (cs 0, n1, .inl (va_cpy f g sp.toNatClampNeg dp.toNatClampNeg n.toNatClampNeg))) = ws1) (d : decode cc pc = .ok (.invokestatic idx, 3)) (hp : pc + 3 = pc1) (k : G p l e R s m args below meth c Q D A nL ws1 pc1 L rest) : G p l e R s m args below meth c Q D A nL ws pc L (.int n :: .int dp :: .ref a :: .int sp :: .ref a0 :: rest) := by
  subst hp; subst hw
  intro H locs ls h1 h2 h3 h4
  exact va_copyi C.x C.b (C.ml.trans h4.1.symm) C.own (C.ts _ hl) (C.ts _ hnat) (C.ts _ hstat) (C.ts _ hini) hK h1 h2 h3 q0 q1 0 0 ha0 ha1 rfl rfl rfl b1 b2 b3 b4 b5 (fun _ _ => rfl) hf hL d (fun H1 locs1 g1 g2 g3 => k H1 locs1 ls g1 g2 g3 h4)
variable {ad : Nat → Nat} {μ : Mem}
theorem get_WF_0_pegs (C : Cx p s m args c cc nL own) (hK : va_K D classes (tys cs) s) {idx : Nat} {v : Int32} (hv : μ.1 0 0 = v) (hl : Cond.fieldLink own idx "TentPegs$Field" "pegs" "I" ∈ TT) (d : decode cc pc = .ok (.getfield idx, 3)) (hp : pc + 3 = pc1) (k : G p l e R s m args below meth c Q D A nL (WF ad cs μ) pc1 L (.int v :: rest)) : G p l e R s m args below meth c Q D A nL (WF ad cs μ) pc L (.ref (ad 0) :: rest) := by
  subst hp
  subst hv
  intro H locs ls h1 h2 h3 h4
  exact va_get C.x C.b C.ts in_F C.own hK h1 0 rfl rfl 0 (by decide) (C.ts _ hl) (fun _ h => h) rfl d (k H locs ls h1 h2 h3 h4)
theorem put_WF_0_pegs (C : Cx p s m args c cc nL own) (hK : va_K D classes (tys cs) s) {idx : Nat} {v : Int32} (hl : Cond.fieldLink own idx "TentPegs$Field" "pegs" "I" ∈ TT) (d : decode cc pc = .ok (.putfield idx, 3)) (hp : pc + 3 = pc1) (k : G p l e R s m args below meth c Q D A nL (WF ad cs (stI μ 0 0 v)) pc1 L rest) : G p l e R s m args below meth c Q D A nL (WF ad cs μ) pc L (.int v :: .ref (ad 0) :: rest) := by
  subst hp
  intro H locs ls h1 h2 h3 h4
  exact va_put C.x C.b C.ts in_F ty_F ok_F nm_F C.own hK h1 h2 h3 0 rfl rfl 0 (by decide) (C.ts _ hl) (fun _ h => h) rfl (ok_F 0 (by decide)) rfl rfl (Nat.le_of_ble_eq_true rfl) d (fun H1 locs1 g1 g2 g3 => k H1 locs1 ls g1 g2 g3 h4)
theorem get_WF_0_wetness (C : Cx p s m args c cc nL own) (hK : va_K D classes (tys cs) s) {idx : Nat} {v : Int32} (hv : μ.1 0 1 = v) (hl : Cond.fieldLink own idx "TentPegs$Field" "wetness" "I" ∈ TT) (d : decode cc pc = .ok (.getfield idx, 3)) (hp : pc + 3 = pc1) (k : G p l e R s m args below meth c Q D A nL (WF ad cs μ) pc1 L (.int v :: rest)) : G p l e R s m args below meth c Q D A nL (WF ad cs μ) pc L (.ref (ad 0) :: rest) := by
  subst hp
  subst hv
  intro H locs ls h1 h2 h3 h4
  exact va_get C.x C.b C.ts in_F C.own hK h1 0 rfl rfl 1 (by decide) (C.ts _ hl) (fun _ h => h) rfl d (k H locs ls h1 h2 h3 h4)
theorem put_WF_0_wetness (C : Cx p s m args c cc nL own) (hK : va_K D classes (tys cs) s) {idx : Nat} {v : Int32} (hl : Cond.fieldLink own idx "TentPegs$Field" "wetness" "I" ∈ TT) (d : decode cc pc = .ok (.putfield idx, 3)) (hp : pc + 3 = pc1) (k : G p l e R s m args below meth c Q D A nL (WF ad cs (stI μ 0 1 v)) pc1 L rest) : G p l e R s m args below meth c Q D A nL (WF ad cs μ) pc L (.int v :: .ref (ad 0) :: rest) := by
  subst hp
  intro H locs ls h1 h2 h3 h4
  exact va_put C.x C.b C.ts in_F ty_F ok_F nm_F C.own hK h1 h2 h3 0 rfl rfl 1 (by decide) (C.ts _ hl) (fun _ h => h) rfl (ok_F 1 (by decide)) rfl rfl (Nat.le_of_ble_eq_true rfl) d (fun H1 locs1 g1 g2 g3 => k H1 locs1 ls g1 g2 g3 h4)
theorem get_WF_0_walls (C : Cx p s m args c cc nL own) (hK : va_K D classes (tys cs) s) {idx : Nat} {v : Int32} (hv : μ.1 0 2 = v) (hl : Cond.fieldLink own idx "TentPegs$Field" "walls" "I" ∈ TT) (d : decode cc pc = .ok (.getfield idx, 3)) (hp : pc + 3 = pc1) (k : G p l e R s m args below meth c Q D A nL (WF ad cs μ) pc1 L (.int v :: rest)) : G p l e R s m args below meth c Q D A nL (WF ad cs μ) pc L (.ref (ad 0) :: rest) := by
  subst hp
  subst hv
  intro H locs ls h1 h2 h3 h4
  exact va_get C.x C.b C.ts in_F C.own hK h1 0 rfl rfl 2 (by decide) (C.ts _ hl) (fun _ h => h) rfl d (k H locs ls h1 h2 h3 h4)
theorem put_WF_0_walls (C : Cx p s m args c cc nL own) (hK : va_K D classes (tys cs) s) {idx : Nat} {v : Int32} (hl : Cond.fieldLink own idx "TentPegs$Field" "walls" "I" ∈ TT) (d : decode cc pc = .ok (.putfield idx, 3)) (hp : pc + 3 = pc1) (k : G p l e R s m args below meth c Q D A nL (WF ad cs (stI μ 0 2 v)) pc1 L rest) : G p l e R s m args below meth c Q D A nL (WF ad cs μ) pc L (.int v :: .ref (ad 0) :: rest) := by
  subst hp
  intro H locs ls h1 h2 h3 h4
  exact va_put C.x C.b C.ts in_F ty_F ok_F nm_F C.own hK h1 h2 h3 0 rfl rfl 2 (by decide) (C.ts _ hl) (fun _ h => h) rfl (ok_F 2 (by decide)) rfl rfl (Nat.le_of_ble_eq_true rfl) d (fun H1 locs1 g1 g2 g3 => k H1 locs1 ls g1 g2 g3 h4)
theorem get_WF_0_standing (C : Cx p s m args c cc nL own) (hK : va_K D classes (tys cs) s) {idx : Nat} {v : Int32} (hv : μ.1 0 3 = v) (hl : Cond.fieldLink own idx "TentPegs$Field" "standing" "I" ∈ TT) (d : decode cc pc = .ok (.getfield idx, 3)) (hp : pc + 3 = pc1) (k : G p l e R s m args below meth c Q D A nL (WF ad cs μ) pc1 L (.int v :: rest)) : G p l e R s m args below meth c Q D A nL (WF ad cs μ) pc L (.ref (ad 0) :: rest) := by
  subst hp
  subst hv
  intro H locs ls h1 h2 h3 h4
  exact va_get C.x C.b C.ts in_F C.own hK h1 0 rfl rfl 3 (by decide) (C.ts _ hl) (fun _ h => h) rfl d (k H locs ls h1 h2 h3 h4)
theorem put_WF_0_standing (C : Cx p s m args c cc nL own) (hK : va_K D classes (tys cs) s) {idx : Nat} {v : Int32} (hl : Cond.fieldLink own idx "TentPegs$Field" "standing" "I" ∈ TT) (d : decode cc pc = .ok (.putfield idx, 3)) (hp : pc + 3 = pc1) (k : G p l e R s m args below meth c Q D A nL (WF ad cs (stI μ 0 3 v)) pc1 L rest) : G p l e R s m args below meth c Q D A nL (WF ad cs μ) pc L (.int v :: .ref (ad 0) :: rest) := by
  subst hp
  intro H locs ls h1 h2 h3 h4
  exact va_put C.x C.b C.ts in_F ty_F ok_F nm_F C.own hK h1 h2 h3 0 rfl rfl 3 (by decide) (C.ts _ hl) (fun _ h => h) rfl (ok_F 3 (by decide)) rfl rfl (Nat.le_of_ble_eq_true rfl) d (fun H1 locs1 g1 g2 g3 => k H1 locs1 ls g1 g2 g3 h4)
theorem get_WF_0_undoable (C : Cx p s m args c cc nL own) (hK : va_K D classes (tys cs) s) {idx : Nat} {v : Int32} (hv : μ.1 0 4 = v) (hl : Cond.fieldLink own idx "TentPegs$Field" "undoable" "I" ∈ TT) (d : decode cc pc = .ok (.getfield idx, 3)) (hp : pc + 3 = pc1) (k : G p l e R s m args below meth c Q D A nL (WF ad cs μ) pc1 L (.int v :: rest)) : G p l e R s m args below meth c Q D A nL (WF ad cs μ) pc L (.ref (ad 0) :: rest) := by
  subst hp
  subst hv
  intro H locs ls h1 h2 h3 h4
  exact va_get C.x C.b C.ts in_F C.own hK h1 0 rfl rfl 4 (by decide) (C.ts _ hl) (fun _ h => h) rfl d (k H locs ls h1 h2 h3 h4)
theorem put_WF_0_undoable (C : Cx p s m args c cc nL own) (hK : va_K D classes (tys cs) s) {idx : Nat} {v : Int32} (hl : Cond.fieldLink own idx "TentPegs$Field" "undoable" "I" ∈ TT) (d : decode cc pc = .ok (.putfield idx, 3)) (hp : pc + 3 = pc1) (k : G p l e R s m args below meth c Q D A nL (WF ad cs (stI μ 0 4 v)) pc1 L rest) : G p l e R s m args below meth c Q D A nL (WF ad cs μ) pc L (.int v :: .ref (ad 0) :: rest) := by
  subst hp
  intro H locs ls h1 h2 h3 h4
  exact va_put C.x C.b C.ts in_F ty_F ok_F nm_F C.own hK h1 h2 h3 0 rfl rfl 4 (by decide) (C.ts _ hl) (fun _ h => h) rfl (ok_F 4 (by decide)) rfl rfl (Nat.le_of_ble_eq_true rfl) d (fun H1 locs1 g1 g2 g3 => k H1 locs1 ls g1 g2 g3 h4)
theorem get_WF_0_kinds (C : Cx p s m args c cc nL own) (hK : va_K D classes (tys cs) s) {idx : Nat} (hl : Cond.fieldLink own idx "TentPegs$Field" "kinds" "[I" ∈ TT) (d : decode cc pc = .ok (.getfield idx, 3)) (hp : pc + 3 = pc1) (k : G p l e R s m args below meth c Q D A nL (WF ad cs μ) pc1 L (.ref (ad 1) :: rest)) : G p l e R s m args below meth c Q D A nL (WF ad cs μ) pc L (.ref (ad 0) :: rest) := by
  subst hp
  intro H locs ls h1 h2 h3 h4
  exact va_get C.x C.b C.ts in_F C.own hK h1 0 rfl rfl 5 (by decide) (C.ts _ hl) (fun _ h => h) rfl d (k H locs ls h1 h2 h3 h4)
theorem get_WF_0_depths (C : Cx p s m args c cc nL own) (hK : va_K D classes (tys cs) s) {idx : Nat} (hl : Cond.fieldLink own idx "TentPegs$Field" "depths" "[I" ∈ TT) (d : decode cc pc = .ok (.getfield idx, 3)) (hp : pc + 3 = pc1) (k : G p l e R s m args below meth c Q D A nL (WF ad cs μ) pc1 L (.ref (ad 2) :: rest)) : G p l e R s m args below meth c Q D A nL (WF ad cs μ) pc L (.ref (ad 0) :: rest) := by
  subst hp
  intro H locs ls h1 h2 h3 h4
  exact va_get C.x C.b C.ts in_F C.own hK h1 0 rfl rfl 6 (by decide) (C.ts _ hl) (fun _ h => h) rfl d (k H locs ls h1 h2 h3 h4)
theorem get_WF_0_grounds (C : Cx p s m args c cc nL own) (hK : va_K D classes (tys cs) s) {idx : Nat} (hl : Cond.fieldLink own idx "TentPegs$Field" "grounds" "[I" ∈ TT) (d : decode cc pc = .ok (.getfield idx, 3)) (hp : pc + 3 = pc1) (k : G p l e R s m args below meth c Q D A nL (WF ad cs μ) pc1 L (.ref (ad 3) :: rest)) : G p l e R s m args below meth c Q D A nL (WF ad cs μ) pc L (.ref (ad 0) :: rest) := by
  subst hp
  intro H locs ls h1 h2 h3 h4
  exact va_get C.x C.b C.ts in_F C.own hK h1 0 rfl rfl 7 (by decide) (C.ts _ hl) (fun _ h => h) rfl d (k H locs ls h1 h2 h3 h4)
theorem get_WF_0_chances (C : Cx p s m args c cc nL own) (hK : va_K D classes (tys cs) s) {idx : Nat} (hl : Cond.fieldLink own idx "TentPegs$Field" "chances" "[I" ∈ TT) (d : decode cc pc = .ok (.getfield idx, 3)) (hp : pc + 3 = pc1) (k : G p l e R s m args below meth c Q D A nL (WF ad cs μ) pc1 L (.ref (ad 4) :: rest)) : G p l e R s m args below meth c Q D A nL (WF ad cs μ) pc L (.ref (ad 0) :: rest) := by
  subst hp
  intro H locs ls h1 h2 h3 h4
  exact va_get C.x C.b C.ts in_F C.own hK h1 0 rfl rfl 8 (by decide) (C.ts _ hl) (fun _ h => h) rfl d (k H locs ls h1 h2 h3 h4)
theorem get_WF_0_stoodBefore (C : Cx p s m args c cc nL own) (hK : va_K D classes (tys cs) s) {idx : Nat} (hl : Cond.fieldLink own idx "TentPegs$Field" "stoodBefore" "[I" ∈ TT) (d : decode cc pc = .ok (.getfield idx, 3)) (hp : pc + 3 = pc1) (k : G p l e R s m args below meth c Q D A nL (WF ad cs μ) pc1 L (.ref (ad 5) :: rest)) : G p l e R s m args below meth c Q D A nL (WF ad cs μ) pc L (.ref (ad 0) :: rest) := by
  subst hp
  intro H locs ls h1 h2 h3 h4
  exact va_get C.x C.b C.ts in_F C.own hK h1 0 rfl rfl 9 (by decide) (C.ts _ hl) (fun _ h => h) rfl d (k H locs ls h1 h2 h3 h4)
theorem get_WFF_0_pegs (C : Cx p s m args c cc nL own) (hK : va_K D classes (tys cs) s) {idx : Nat} {v : Int32} (hv : μ.1 0 0 = v) (hl : Cond.fieldLink own idx "TentPegs$Field" "pegs" "I" ∈ TT) (d : decode cc pc = .ok (.getfield idx, 3)) (hp : pc + 3 = pc1) (k : G p l e R s m args below meth c Q D A nL (WFF ad cs μ) pc1 L (.int v :: rest)) : G p l e R s m args below meth c Q D A nL (WFF ad cs μ) pc L (.ref (ad 0) :: rest) := by
  subst hp
  subst hv
  intro H locs ls h1 h2 h3 h4
  exact va_get C.x C.b C.ts in_F C.own hK h1 0 rfl rfl 0 (by decide) (C.ts _ hl) (fun _ h => h) rfl d (k H locs ls h1 h2 h3 h4)
theorem put_WFF_0_pegs (C : Cx p s m args c cc nL own) (hK : va_K D classes (tys cs) s) {idx : Nat} {v : Int32} (hl : Cond.fieldLink own idx "TentPegs$Field" "pegs" "I" ∈ TT) (d : decode cc pc = .ok (.putfield idx, 3)) (hp : pc + 3 = pc1) (k : G p l e R s m args below meth c Q D A nL (WFF ad cs (stI μ 0 0 v)) pc1 L rest) : G p l e R s m args below meth c Q D A nL (WFF ad cs μ) pc L (.int v :: .ref (ad 0) :: rest) := by
  subst hp
  intro H locs ls h1 h2 h3 h4
  exact va_put C.x C.b C.ts in_F ty_F ok_F nm_F C.own hK h1 h2 h3 0 rfl rfl 0 (by decide) (C.ts _ hl) (fun _ h => h) rfl (ok_F 0 (by decide)) rfl rfl (Nat.le_of_ble_eq_true rfl) d (fun H1 locs1 g1 g2 g3 => k H1 locs1 ls g1 g2 g3 h4)
theorem get_WFF_0_wetness (C : Cx p s m args c cc nL own) (hK : va_K D classes (tys cs) s) {idx : Nat} {v : Int32} (hv : μ.1 0 1 = v) (hl : Cond.fieldLink own idx "TentPegs$Field" "wetness" "I" ∈ TT) (d : decode cc pc = .ok (.getfield idx, 3)) (hp : pc + 3 = pc1) (k : G p l e R s m args below meth c Q D A nL (WFF ad cs μ) pc1 L (.int v :: rest)) : G p l e R s m args below meth c Q D A nL (WFF ad cs μ) pc L (.ref (ad 0) :: rest) := by
  subst hp
  subst hv
  intro H locs ls h1 h2 h3 h4
  exact va_get C.x C.b C.ts in_F C.own hK h1 0 rfl rfl 1 (by decide) (C.ts _ hl) (fun _ h => h) rfl d (k H locs ls h1 h2 h3 h4)
theorem put_WFF_0_wetness (C : Cx p s m args c cc nL own) (hK : va_K D classes (tys cs) s) {idx : Nat} {v : Int32} (hl : Cond.fieldLink own idx "TentPegs$Field" "wetness" "I" ∈ TT) (d : decode cc pc = .ok (.putfield idx, 3)) (hp : pc + 3 = pc1) (k : G p l e R s m args below meth c Q D A nL (WFF ad cs (stI μ 0 1 v)) pc1 L rest) : G p l e R s m args below meth c Q D A nL (WFF ad cs μ) pc L (.int v :: .ref (ad 0) :: rest) := by
  subst hp
  intro H locs ls h1 h2 h3 h4
  exact va_put C.x C.b C.ts in_F ty_F ok_F nm_F C.own hK h1 h2 h3 0 rfl rfl 1 (by decide) (C.ts _ hl) (fun _ h => h) rfl (ok_F 1 (by decide)) rfl rfl (Nat.le_of_ble_eq_true rfl) d (fun H1 locs1 g1 g2 g3 => k H1 locs1 ls g1 g2 g3 h4)
theorem get_WFF_0_walls (C : Cx p s m args c cc nL own) (hK : va_K D classes (tys cs) s) {idx : Nat} {v : Int32} (hv : μ.1 0 2 = v) (hl : Cond.fieldLink own idx "TentPegs$Field" "walls" "I" ∈ TT) (d : decode cc pc = .ok (.getfield idx, 3)) (hp : pc + 3 = pc1) (k : G p l e R s m args below meth c Q D A nL (WFF ad cs μ) pc1 L (.int v :: rest)) : G p l e R s m args below meth c Q D A nL (WFF ad cs μ) pc L (.ref (ad 0) :: rest) := by
  subst hp
  subst hv
  intro H locs ls h1 h2 h3 h4
  exact va_get C.x C.b C.ts in_F C.own hK h1 0 rfl rfl 2 (by decide) (C.ts _ hl) (fun _ h => h) rfl d (k H locs ls h1 h2 h3 h4)
theorem put_WFF_0_walls (C : Cx p s m args c cc nL own) (hK : va_K D classes (tys cs) s) {idx : Nat} {v : Int32} (hl : Cond.fieldLink own idx "TentPegs$Field" "walls" "I" ∈ TT) (d : decode cc pc = .ok (.putfield idx, 3)) (hp : pc + 3 = pc1) (k : G p l e R s m args below meth c Q D A nL (WFF ad cs (stI μ 0 2 v)) pc1 L rest) : G p l e R s m args below meth c Q D A nL (WFF ad cs μ) pc L (.int v :: .ref (ad 0) :: rest) := by
  subst hp
  intro H locs ls h1 h2 h3 h4
  exact va_put C.x C.b C.ts in_F ty_F ok_F nm_F C.own hK h1 h2 h3 0 rfl rfl 2 (by decide) (C.ts _ hl) (fun _ h => h) rfl (ok_F 2 (by decide)) rfl rfl (Nat.le_of_ble_eq_true rfl) d (fun H1 locs1 g1 g2 g3 => k H1 locs1 ls g1 g2 g3 h4)
theorem get_WFF_0_standing (C : Cx p s m args c cc nL own) (hK : va_K D classes (tys cs) s) {idx : Nat} {v : Int32} (hv : μ.1 0 3 = v) (hl : Cond.fieldLink own idx "TentPegs$Field" "standing" "I" ∈ TT) (d : decode cc pc = .ok (.getfield idx, 3)) (hp : pc + 3 = pc1) (k : G p l e R s m args below meth c Q D A nL (WFF ad cs μ) pc1 L (.int v :: rest)) : G p l e R s m args below meth c Q D A nL (WFF ad cs μ) pc L (.ref (ad 0) :: rest) := by
  subst hp
  subst hv
  intro H locs ls h1 h2 h3 h4
  exact va_get C.x C.b C.ts in_F C.own hK h1 0 rfl rfl 3 (by decide) (C.ts _ hl) (fun _ h => h) rfl d (k H locs ls h1 h2 h3 h4)
theorem put_WFF_0_standing (C : Cx p s m args c cc nL own) (hK : va_K D classes (tys cs) s) {idx : Nat} {v : Int32} (hl : Cond.fieldLink own idx "TentPegs$Field" "standing" "I" ∈ TT) (d : decode cc pc = .ok (.putfield idx, 3)) (hp : pc + 3 = pc1) (k : G p l e R s m args below meth c Q D A nL (WFF ad cs (stI μ 0 3 v)) pc1 L rest) : G p l e R s m args below meth c Q D A nL (WFF ad cs μ) pc L (.int v :: .ref (ad 0) :: rest) := by
  subst hp
  intro H locs ls h1 h2 h3 h4
  exact va_put C.x C.b C.ts in_F ty_F ok_F nm_F C.own hK h1 h2 h3 0 rfl rfl 3 (by decide) (C.ts _ hl) (fun _ h => h) rfl (ok_F 3 (by decide)) rfl rfl (Nat.le_of_ble_eq_true rfl) d (fun H1 locs1 g1 g2 g3 => k H1 locs1 ls g1 g2 g3 h4)
theorem get_WFF_0_undoable (C : Cx p s m args c cc nL own) (hK : va_K D classes (tys cs) s) {idx : Nat} {v : Int32} (hv : μ.1 0 4 = v) (hl : Cond.fieldLink own idx "TentPegs$Field" "undoable" "I" ∈ TT) (d : decode cc pc = .ok (.getfield idx, 3)) (hp : pc + 3 = pc1) (k : G p l e R s m args below meth c Q D A nL (WFF ad cs μ) pc1 L (.int v :: rest)) : G p l e R s m args below meth c Q D A nL (WFF ad cs μ) pc L (.ref (ad 0) :: rest) := by
  subst hp
  subst hv
  intro H locs ls h1 h2 h3 h4
  exact va_get C.x C.b C.ts in_F C.own hK h1 0 rfl rfl 4 (by decide) (C.ts _ hl) (fun _ h => h) rfl d (k H locs ls h1 h2 h3 h4)
theorem put_WFF_0_undoable (C : Cx p s m args c cc nL own) (hK : va_K D classes (tys cs) s) {idx : Nat} {v : Int32} (hl : Cond.fieldLink own idx "TentPegs$Field" "undoable" "I" ∈ TT) (d : decode cc pc = .ok (.putfield idx, 3)) (hp : pc + 3 = pc1) (k : G p l e R s m args below meth c Q D A nL (WFF ad cs (stI μ 0 4 v)) pc1 L rest) : G p l e R s m args below meth c Q D A nL (WFF ad cs μ) pc L (.int v :: .ref (ad 0) :: rest) := by
  subst hp
  intro H locs ls h1 h2 h3 h4
  exact va_put C.x C.b C.ts in_F ty_F ok_F nm_F C.own hK h1 h2 h3 0 rfl rfl 4 (by decide) (C.ts _ hl) (fun _ h => h) rfl (ok_F 4 (by decide)) rfl rfl (Nat.le_of_ble_eq_true rfl) d (fun H1 locs1 g1 g2 g3 => k H1 locs1 ls g1 g2 g3 h4)
theorem get_WFF_0_kinds (C : Cx p s m args c cc nL own) (hK : va_K D classes (tys cs) s) {idx : Nat} (hl : Cond.fieldLink own idx "TentPegs$Field" "kinds" "[I" ∈ TT) (d : decode cc pc = .ok (.getfield idx, 3)) (hp : pc + 3 = pc1) (k : G p l e R s m args below meth c Q D A nL (WFF ad cs μ) pc1 L (.ref (ad 1) :: rest)) : G p l e R s m args below meth c Q D A nL (WFF ad cs μ) pc L (.ref (ad 0) :: rest) := by
  subst hp
  intro H locs ls h1 h2 h3 h4
  exact va_get C.x C.b C.ts in_F C.own hK h1 0 rfl rfl 5 (by decide) (C.ts _ hl) (fun _ h => h) rfl d (k H locs ls h1 h2 h3 h4)
theorem get_WFF_0_depths (C : Cx p s m args c cc nL own) (hK : va_K D classes (tys cs) s) {idx : Nat} (hl : Cond.fieldLink own idx "TentPegs$Field" "depths" "[I" ∈ TT) (d : decode cc pc = .ok (.getfield idx, 3)) (hp : pc + 3 = pc1) (k : G p l e R s m args below meth c Q D A nL (WFF ad cs μ) pc1 L (.ref (ad 2) :: rest)) : G p l e R s m args below meth c Q D A nL (WFF ad cs μ) pc L (.ref (ad 0) :: rest) := by
  subst hp
  intro H locs ls h1 h2 h3 h4
  exact va_get C.x C.b C.ts in_F C.own hK h1 0 rfl rfl 6 (by decide) (C.ts _ hl) (fun _ h => h) rfl d (k H locs ls h1 h2 h3 h4)
theorem get_WFF_0_grounds (C : Cx p s m args c cc nL own) (hK : va_K D classes (tys cs) s) {idx : Nat} (hl : Cond.fieldLink own idx "TentPegs$Field" "grounds" "[I" ∈ TT) (d : decode cc pc = .ok (.getfield idx, 3)) (hp : pc + 3 = pc1) (k : G p l e R s m args below meth c Q D A nL (WFF ad cs μ) pc1 L (.ref (ad 3) :: rest)) : G p l e R s m args below meth c Q D A nL (WFF ad cs μ) pc L (.ref (ad 0) :: rest) := by
  subst hp
  intro H locs ls h1 h2 h3 h4
  exact va_get C.x C.b C.ts in_F C.own hK h1 0 rfl rfl 7 (by decide) (C.ts _ hl) (fun _ h => h) rfl d (k H locs ls h1 h2 h3 h4)
theorem get_WFF_0_chances (C : Cx p s m args c cc nL own) (hK : va_K D classes (tys cs) s) {idx : Nat} (hl : Cond.fieldLink own idx "TentPegs$Field" "chances" "[I" ∈ TT) (d : decode cc pc = .ok (.getfield idx, 3)) (hp : pc + 3 = pc1) (k : G p l e R s m args below meth c Q D A nL (WFF ad cs μ) pc1 L (.ref (ad 4) :: rest)) : G p l e R s m args below meth c Q D A nL (WFF ad cs μ) pc L (.ref (ad 0) :: rest) := by
  subst hp
  intro H locs ls h1 h2 h3 h4
  exact va_get C.x C.b C.ts in_F C.own hK h1 0 rfl rfl 8 (by decide) (C.ts _ hl) (fun _ h => h) rfl d (k H locs ls h1 h2 h3 h4)
theorem get_WFF_0_stoodBefore (C : Cx p s m args c cc nL own) (hK : va_K D classes (tys cs) s) {idx : Nat} (hl : Cond.fieldLink own idx "TentPegs$Field" "stoodBefore" "[I" ∈ TT) (d : decode cc pc = .ok (.getfield idx, 3)) (hp : pc + 3 = pc1) (k : G p l e R s m args below meth c Q D A nL (WFF ad cs μ) pc1 L (.ref (ad 5) :: rest)) : G p l e R s m args below meth c Q D A nL (WFF ad cs μ) pc L (.ref (ad 0) :: rest) := by
  subst hp
  intro H locs ls h1 h2 h3 h4
  exact va_get C.x C.b C.ts in_F C.own hK h1 0 rfl rfl 9 (by decide) (C.ts _ hl) (fun _ h => h) rfl d (k H locs ls h1 h2 h3 h4)
theorem get_WFF_6_pegs (C : Cx p s m args c cc nL own) (hK : va_K D classes (tys cs) s) {idx : Nat} {v : Int32} (hv : μ.1 6 0 = v) (hl : Cond.fieldLink own idx "TentPegs$Field" "pegs" "I" ∈ TT) (d : decode cc pc = .ok (.getfield idx, 3)) (hp : pc + 3 = pc1) (k : G p l e R s m args below meth c Q D A nL (WFF ad cs μ) pc1 L (.int v :: rest)) : G p l e R s m args below meth c Q D A nL (WFF ad cs μ) pc L (.ref (ad 6) :: rest) := by
  subst hp
  subst hv
  intro H locs ls h1 h2 h3 h4
  exact va_get C.x C.b C.ts in_F C.own hK h1 6 rfl rfl 0 (by decide) (C.ts _ hl) (fun _ h => h) rfl d (k H locs ls h1 h2 h3 h4)
theorem put_WFF_6_pegs (C : Cx p s m args c cc nL own) (hK : va_K D classes (tys cs) s) {idx : Nat} {v : Int32} (hl : Cond.fieldLink own idx "TentPegs$Field" "pegs" "I" ∈ TT) (d : decode cc pc = .ok (.putfield idx, 3)) (hp : pc + 3 = pc1) (k : G p l e R s m args below meth c Q D A nL (WFF ad cs (stI μ 6 0 v)) pc1 L rest) : G p l e R s m args below meth c Q D A nL (WFF ad cs μ) pc L (.int v :: .ref (ad 6) :: rest) := by
  subst hp
  intro H locs ls h1 h2 h3 h4
  exact va_put C.x C.b C.ts in_F ty_F ok_F nm_F C.own hK h1 h2 h3 6 rfl rfl 0 (by decide) (C.ts _ hl) (fun _ h => h) rfl (ok_F 0 (by decide)) rfl rfl (Nat.le_of_ble_eq_true rfl) d (fun H1 locs1 g1 g2 g3 => k H1 locs1 ls g1 g2 g3 h4)
theorem get_WFF_6_wetness (C : Cx p s m args c cc nL own) (hK : va_K D classes (tys cs) s) {idx : Nat} {v : Int32} (hv : μ.1 6 1 = v) (hl : Cond.fieldLink own idx "TentPegs$Field" "wetness" "I" ∈ TT) (d : decode cc pc = .ok (.getfield idx, 3)) (hp : pc + 3 = pc1) (k : G p l e R s m args below meth c Q D A nL (WFF ad cs μ) pc1 L (.int v :: rest)) : G p l e R s m args below meth c Q D A nL (WFF ad cs μ) pc L (.ref (ad 6) :: rest) := by
  subst hp
  subst hv
  intro H locs ls h1 h2 h3 h4
  exact va_get C.x C.b C.ts in_F C.own hK h1 6 rfl rfl 1 (by decide) (C.ts _ hl) (fun _ h => h) rfl d (k H locs ls h1 h2 h3 h4)
theorem put_WFF_6_wetness (C : Cx p s m args c cc nL own) (hK : va_K D classes (tys cs) s) {idx : Nat} {v : Int32} (hl : Cond.fieldLink own idx "TentPegs$Field" "wetness" "I" ∈ TT) (d : decode cc pc = .ok (.putfield idx, 3)) (hp : pc + 3 = pc1) (k : G p l e R s m args below meth c Q D A nL (WFF ad cs (stI μ 6 1 v)) pc1 L rest) : G p l e R s m args below meth c Q D A nL (WFF ad cs μ) pc L (.int v :: .ref (ad 6) :: rest) := by
  subst hp
  intro H locs ls h1 h2 h3 h4
  exact va_put C.x C.b C.ts in_F ty_F ok_F nm_F C.own hK h1 h2 h3 6 rfl rfl 1 (by decide) (C.ts _ hl) (fun _ h => h) rfl (ok_F 1 (by decide)) rfl rfl (Nat.le_of_ble_eq_true rfl) d (fun H1 locs1 g1 g2 g3 => k H1 locs1 ls g1 g2 g3 h4)
theorem get_WFF_6_walls (C : Cx p s m args c cc nL own) (hK : va_K D classes (tys cs) s) {idx : Nat} {v : Int32} (hv : μ.1 6 2 = v) (hl : Cond.fieldLink own idx "TentPegs$Field" "walls" "I" ∈ TT) (d : decode cc pc = .ok (.getfield idx, 3)) (hp : pc + 3 = pc1) (k : G p l e R s m args below meth c Q D A nL (WFF ad cs μ) pc1 L (.int v :: rest)) : G p l e R s m args below meth c Q D A nL (WFF ad cs μ) pc L (.ref (ad 6) :: rest) := by
  subst hp
  subst hv
  intro H locs ls h1 h2 h3 h4
  exact va_get C.x C.b C.ts in_F C.own hK h1 6 rfl rfl 2 (by decide) (C.ts _ hl) (fun _ h => h) rfl d (k H locs ls h1 h2 h3 h4)
theorem put_WFF_6_walls (C : Cx p s m args c cc nL own) (hK : va_K D classes (tys cs) s) {idx : Nat} {v : Int32} (hl : Cond.fieldLink own idx "TentPegs$Field" "walls" "I" ∈ TT) (d : decode cc pc = .ok (.putfield idx, 3)) (hp : pc + 3 = pc1) (k : G p l e R s m args below meth c Q D A nL (WFF ad cs (stI μ 6 2 v)) pc1 L rest) : G p l e R s m args below meth c Q D A nL (WFF ad cs μ) pc L (.int v :: .ref (ad 6) :: rest) := by
  subst hp
  intro H locs ls h1 h2 h3 h4
  exact va_put C.x C.b C.ts in_F ty_F ok_F nm_F C.own hK h1 h2 h3 6 rfl rfl 2 (by decide) (C.ts _ hl) (fun _ h => h) rfl (ok_F 2 (by decide)) rfl rfl (Nat.le_of_ble_eq_true rfl) d (fun H1 locs1 g1 g2 g3 => k H1 locs1 ls g1 g2 g3 h4)
theorem get_WFF_6_standing (C : Cx p s m args c cc nL own) (hK : va_K D classes (tys cs) s) {idx : Nat} {v : Int32} (hv : μ.1 6 3 = v) (hl : Cond.fieldLink own idx "TentPegs$Field" "standing" "I" ∈ TT) (d : decode cc pc = .ok (.getfield idx, 3)) (hp : pc + 3 = pc1) (k : G p l e R s m args below meth c Q D A nL (WFF ad cs μ) pc1 L (.int v :: rest)) : G p l e R s m args below meth c Q D A nL (WFF ad cs μ) pc L (.ref (ad 6) :: rest) := by
  subst hp
  subst hv
  intro H locs ls h1 h2 h3 h4
  exact va_get C.x C.b C.ts in_F C.own hK h1 6 rfl rfl 3 (by decide) (C.ts _ hl) (fun _ h => h) rfl d (k H locs ls h1 h2 h3 h4)
theorem put_WFF_6_standing (C : Cx p s m args c cc nL own) (hK : va_K D classes (tys cs) s) {idx : Nat} {v : Int32} (hl : Cond.fieldLink own idx "TentPegs$Field" "standing" "I" ∈ TT) (d : decode cc pc = .ok (.putfield idx, 3)) (hp : pc + 3 = pc1) (k : G p l e R s m args below meth c Q D A nL (WFF ad cs (stI μ 6 3 v)) pc1 L rest) : G p l e R s m args below meth c Q D A nL (WFF ad cs μ) pc L (.int v :: .ref (ad 6) :: rest) := by
  subst hp
  intro H locs ls h1 h2 h3 h4
  exact va_put C.x C.b C.ts in_F ty_F ok_F nm_F C.own hK h1 h2 h3 6 rfl rfl 3 (by decide) (C.ts _ hl) (fun _ h => h) rfl (ok_F 3 (by decide)) rfl rfl (Nat.le_of_ble_eq_true rfl) d (fun H1 locs1 g1 g2 g3 => k H1 locs1 ls g1 g2 g3 h4)
theorem get_WFF_6_undoable (C : Cx p s m args c cc nL own) (hK : va_K D classes (tys cs) s) {idx : Nat} {v : Int32} (hv : μ.1 6 4 = v) (hl : Cond.fieldLink own idx "TentPegs$Field" "undoable" "I" ∈ TT) (d : decode cc pc = .ok (.getfield idx, 3)) (hp : pc + 3 = pc1) (k : G p l e R s m args below meth c Q D A nL (WFF ad cs μ) pc1 L (.int v :: rest)) : G p l e R s m args below meth c Q D A nL (WFF ad cs μ) pc L (.ref (ad 6) :: rest) := by
  subst hp
  subst hv
  intro H locs ls h1 h2 h3 h4
  exact va_get C.x C.b C.ts in_F C.own hK h1 6 rfl rfl 4 (by decide) (C.ts _ hl) (fun _ h => h) rfl d (k H locs ls h1 h2 h3 h4)
theorem put_WFF_6_undoable (C : Cx p s m args c cc nL own) (hK : va_K D classes (tys cs) s) {idx : Nat} {v : Int32} (hl : Cond.fieldLink own idx "TentPegs$Field" "undoable" "I" ∈ TT) (d : decode cc pc = .ok (.putfield idx, 3)) (hp : pc + 3 = pc1) (k : G p l e R s m args below meth c Q D A nL (WFF ad cs (stI μ 6 4 v)) pc1 L rest) : G p l e R s m args below meth c Q D A nL (WFF ad cs μ) pc L (.int v :: .ref (ad 6) :: rest) := by
  subst hp
  intro H locs ls h1 h2 h3 h4
  exact va_put C.x C.b C.ts in_F ty_F ok_F nm_F C.own hK h1 h2 h3 6 rfl rfl 4 (by decide) (C.ts _ hl) (fun _ h => h) rfl (ok_F 4 (by decide)) rfl rfl (Nat.le_of_ble_eq_true rfl) d (fun H1 locs1 g1 g2 g3 => k H1 locs1 ls g1 g2 g3 h4)
theorem get_WFF_6_kinds (C : Cx p s m args c cc nL own) (hK : va_K D classes (tys cs) s) {idx : Nat} (hl : Cond.fieldLink own idx "TentPegs$Field" "kinds" "[I" ∈ TT) (d : decode cc pc = .ok (.getfield idx, 3)) (hp : pc + 3 = pc1) (k : G p l e R s m args below meth c Q D A nL (WFF ad cs μ) pc1 L (.ref (ad 7) :: rest)) : G p l e R s m args below meth c Q D A nL (WFF ad cs μ) pc L (.ref (ad 6) :: rest) := by
  subst hp
  intro H locs ls h1 h2 h3 h4
  exact va_get C.x C.b C.ts in_F C.own hK h1 6 rfl rfl 5 (by decide) (C.ts _ hl) (fun _ h => h) rfl d (k H locs ls h1 h2 h3 h4)
theorem get_WFF_6_depths (C : Cx p s m args c cc nL own) (hK : va_K D classes (tys cs) s) {idx : Nat} (hl : Cond.fieldLink own idx "TentPegs$Field" "depths" "[I" ∈ TT) (d : decode cc pc = .ok (.getfield idx, 3)) (hp : pc + 3 = pc1) (k : G p l e R s m args below meth c Q D A nL (WFF ad cs μ) pc1 L (.ref (ad 8) :: rest)) : G p l e R s m args below meth c Q D A nL (WFF ad cs μ) pc L (.ref (ad 6) :: rest) := by
  subst hp
  intro H locs ls h1 h2 h3 h4
  exact va_get C.x C.b C.ts in_F C.own hK h1 6 rfl rfl 6 (by decide) (C.ts _ hl) (fun _ h => h) rfl d (k H locs ls h1 h2 h3 h4)
theorem get_WFF_6_grounds (C : Cx p s m args c cc nL own) (hK : va_K D classes (tys cs) s) {idx : Nat} (hl : Cond.fieldLink own idx "TentPegs$Field" "grounds" "[I" ∈ TT) (d : decode cc pc = .ok (.getfield idx, 3)) (hp : pc + 3 = pc1) (k : G p l e R s m args below meth c Q D A nL (WFF ad cs μ) pc1 L (.ref (ad 9) :: rest)) : G p l e R s m args below meth c Q D A nL (WFF ad cs μ) pc L (.ref (ad 6) :: rest) := by
  subst hp
  intro H locs ls h1 h2 h3 h4
  exact va_get C.x C.b C.ts in_F C.own hK h1 6 rfl rfl 7 (by decide) (C.ts _ hl) (fun _ h => h) rfl d (k H locs ls h1 h2 h3 h4)
theorem get_WFF_6_chances (C : Cx p s m args c cc nL own) (hK : va_K D classes (tys cs) s) {idx : Nat} (hl : Cond.fieldLink own idx "TentPegs$Field" "chances" "[I" ∈ TT) (d : decode cc pc = .ok (.getfield idx, 3)) (hp : pc + 3 = pc1) (k : G p l e R s m args below meth c Q D A nL (WFF ad cs μ) pc1 L (.ref (ad 10) :: rest)) : G p l e R s m args below meth c Q D A nL (WFF ad cs μ) pc L (.ref (ad 6) :: rest) := by
  subst hp
  intro H locs ls h1 h2 h3 h4
  exact va_get C.x C.b C.ts in_F C.own hK h1 6 rfl rfl 8 (by decide) (C.ts _ hl) (fun _ h => h) rfl d (k H locs ls h1 h2 h3 h4)
theorem get_WFF_6_stoodBefore (C : Cx p s m args c cc nL own) (hK : va_K D classes (tys cs) s) {idx : Nat} (hl : Cond.fieldLink own idx "TentPegs$Field" "stoodBefore" "[I" ∈ TT) (d : decode cc pc = .ok (.getfield idx, 3)) (hp : pc + 3 = pc1) (k : G p l e R s m args below meth c Q D A nL (WFF ad cs μ) pc1 L (.ref (ad 11) :: rest)) : G p l e R s m args below meth c Q D A nL (WFF ad cs μ) pc L (.ref (ad 6) :: rest) := by
  subst hp
  intro H locs ls h1 h2 h3 h4
  exact va_get C.x C.b C.ts in_F C.own hK h1 6 rfl rfl 9 (by decide) (C.ts _ hl) (fun _ h => h) rfl d (k H locs ls h1 h2 h3 h4)
theorem get_WC_0_field (C : Cx p s m args c cc nL own) (hK : va_K D classes (tys cs) s) {idx : Nat} (hl : Cond.fieldLink own idx "TentPegs" "field" "LTentPegs$Field;" ∈ TT) (d : decode cc pc = .ok (.getfield idx, 3)) (hp : pc + 3 = pc1) (k : G p l e R s m args below meth c Q D A nL (WC ad cs μ) pc1 L (.ref (ad 1) :: rest)) : G p l e R s m args below meth c Q D A nL (WC ad cs μ) pc L (.ref (ad 0) :: rest) := by
  subst hp
  intro H locs ls h1 h2 h3 h4
  exact va_get C.x C.b C.ts in_T C.own hK h1 0 rfl rfl 0 (by decide) (C.ts _ hl) (fun _ h => h) rfl d (k H locs ls h1 h2 h3 h4)
theorem get_WC_0_gale (C : Cx p s m args c cc nL own) (hK : va_K D classes (tys cs) s) {idx : Nat} (hl : Cond.fieldLink own idx "TentPegs" "gale" "LTentPegs$Gale;" ∈ TT) (d : decode cc pc = .ok (.getfield idx, 3)) (hp : pc + 3 = pc1) (k : G p l e R s m args below meth c Q D A nL (WC ad cs μ) pc1 L (.ref (ad 7) :: rest)) : G p l e R s m args below meth c Q D A nL (WC ad cs μ) pc L (.ref (ad 0) :: rest) := by
  subst hp
  intro H locs ls h1 h2 h3 h4
  exact va_get C.x C.b C.ts in_T C.own hK h1 0 rfl rfl 1 (by decide) (C.ts _ hl) (fun _ h => h) rfl d (k H locs ls h1 h2 h3 h4)
theorem get_WC_0_plans (C : Cx p s m args c cc nL own) (hK : va_K D classes (tys cs) s) {idx : Nat} (hl : Cond.fieldLink own idx "TentPegs" "plans" "LTentPegs$Plans;" ∈ TT) (d : decode cc pc = .ok (.getfield idx, 3)) (hp : pc + 3 = pc1) (k : G p l e R s m args below meth c Q D A nL (WC ad cs μ) pc1 L (.ref (ad 10) :: rest)) : G p l e R s m args below meth c Q D A nL (WC ad cs μ) pc L (.ref (ad 0) :: rest) := by
  subst hp
  intro H locs ls h1 h2 h3 h4
  exact va_get C.x C.b C.ts in_T C.own hK h1 0 rfl rfl 2 (by decide) (C.ts _ hl) (fun _ h => h) rfl d (k H locs ls h1 h2 h3 h4)
theorem get_WC_0_text (C : Cx p s m args c cc nL own) (hK : va_K D classes (tys cs) s) {idx : Nat} (hl : Cond.fieldLink own idx "TentPegs" "text" "[B" ∈ TT) (d : decode cc pc = .ok (.getfield idx, 3)) (hp : pc + 3 = pc1) (k : G p l e R s m args below meth c Q D A nL (WC ad cs μ) pc1 L (.ref (ad 13) :: rest)) : G p l e R s m args below meth c Q D A nL (WC ad cs μ) pc L (.ref (ad 0) :: rest) := by
  subst hp
  intro H locs ls h1 h2 h3 h4
  exact va_get C.x C.b C.ts in_T C.own hK h1 0 rfl rfl 3 (by decide) (C.ts _ hl) (fun _ h => h) rfl d (k H locs ls h1 h2 h3 h4)
theorem get_WC_0_reader (C : Cx p s m args c cc nL own) (hK : va_K D classes (tys cs) s) {idx : Nat} (hl : Cond.fieldLink own idx "TentPegs" "reader" "LTentPegs$Reader;" ∈ TT) (d : decode cc pc = .ok (.getfield idx, 3)) (hp : pc + 3 = pc1) (k : G p l e R s m args below meth c Q D A nL (WC ad cs μ) pc1 L (.ref (ad 14) :: rest)) : G p l e R s m args below meth c Q D A nL (WC ad cs μ) pc L (.ref (ad 0) :: rest) := by
  subst hp
  intro H locs ls h1 h2 h3 h4
  exact va_get C.x C.b C.ts in_T C.own hK h1 0 rfl rfl 4 (by decide) (C.ts _ hl) (fun _ h => h) rfl d (k H locs ls h1 h2 h3 h4)
theorem get_WC_0_images (C : Cx p s m args c cc nL own) (hK : va_K D classes (tys cs) s) {idx : Nat} (hl : Cond.fieldLink own idx "TentPegs" "images" "[LTentPegs$Field;" ∈ TT) (d : decode cc pc = .ok (.getfield idx, 3)) (hp : pc + 3 = pc1) (k : G p l e R s m args below meth c Q D A nL (WC ad cs μ) pc1 L (.ref (ad 22) :: rest)) : G p l e R s m args below meth c Q D A nL (WC ad cs μ) pc L (.ref (ad 0) :: rest) := by
  subst hp
  intro H locs ls h1 h2 h3 h4
  exact va_get C.x C.b C.ts in_T C.own hK h1 0 rfl rfl 5 (by decide) (C.ts _ hl) (fun _ h => h) rfl d (k H locs ls h1 h2 h3 h4)
theorem get_WC_0_kept (C : Cx p s m args c cc nL own) (hK : va_K D classes (tys cs) s) {idx : Nat} (hl : Cond.fieldLink own idx "TentPegs" "kept" "[Z" ∈ TT) (d : decode cc pc = .ok (.getfield idx, 3)) (hp : pc + 3 = pc1) (k : G p l e R s m args below meth c Q D A nL (WC ad cs μ) pc1 L (.ref (ad 35) :: rest)) : G p l e R s m args below meth c Q D A nL (WC ad cs μ) pc L (.ref (ad 0) :: rest) := by
  subst hp
  intro H locs ls h1 h2 h3 h4
  exact va_get C.x C.b C.ts in_T C.own hK h1 0 rfl rfl 6 (by decide) (C.ts _ hl) (fun _ h => h) rfl d (k H locs ls h1 h2 h3 h4)
theorem get_WC_0_typed (C : Cx p s m args c cc nL own) (hK : va_K D classes (tys cs) s) {idx : Nat} {v : Int32} (hv : μ.1 0 7 = v) (hl : Cond.fieldLink own idx "TentPegs" "typed" "I" ∈ TT) (d : decode cc pc = .ok (.getfield idx, 3)) (hp : pc + 3 = pc1) (k : G p l e R s m args below meth c Q D A nL (WC ad cs μ) pc1 L (.int v :: rest)) : G p l e R s m args below meth c Q D A nL (WC ad cs μ) pc L (.ref (ad 0) :: rest) := by
  subst hp
  subst hv
  intro H locs ls h1 h2 h3 h4
  exact va_get C.x C.b C.ts in_T C.own hK h1 0 rfl rfl 7 (by decide) (C.ts _ hl) (fun _ h => h) rfl d (k H locs ls h1 h2 h3 h4)
theorem put_WC_0_typed (C : Cx p s m args c cc nL own) (hK : va_K D classes (tys cs) s) {idx : Nat} {v : Int32} (hl : Cond.fieldLink own idx "TentPegs" "typed" "I" ∈ TT) (d : decode cc pc = .ok (.putfield idx, 3)) (hp : pc + 3 = pc1) (k : G p l e R s m args below meth c Q D A nL (WC ad cs (stI μ 0 7 v)) pc1 L rest) : G p l e R s m args below meth c Q D A nL (WC ad cs μ) pc L (.int v :: .ref (ad 0) :: rest) := by
  subst hp
  intro H locs ls h1 h2 h3 h4
  exact va_put C.x C.b C.ts in_T ty_T ok_T nm_T C.own hK h1 h2 h3 0 rfl rfl 7 (by decide) (C.ts _ hl) (fun _ h => h) rfl (ok_T 7 (by decide)) rfl rfl (Nat.le_of_ble_eq_true rfl) d (fun H1 locs1 g1 g2 g3 => k H1 locs1 ls g1 g2 g3 h4)
theorem get_WC_0_above (C : Cx p s m args c cc nL own) (hK : va_K D classes (tys cs) s) {idx : Nat} {v : Int32} (hv : μ.1 0 8 = v) (hl : Cond.fieldLink own idx "TentPegs" "above" "I" ∈ TT) (d : decode cc pc = .ok (.getfield idx, 3)) (hp : pc + 3 = pc1) (k : G p l e R s m args below meth c Q D A nL (WC ad cs μ) pc1 L (.int v :: rest)) : G p l e R s m args below meth c Q D A nL (WC ad cs μ) pc L (.ref (ad 0) :: rest) := by
  subst hp
  subst hv
  intro H locs ls h1 h2 h3 h4
  exact va_get C.x C.b C.ts in_T C.own hK h1 0 rfl rfl 8 (by decide) (C.ts _ hl) (fun _ h => h) rfl d (k H locs ls h1 h2 h3 h4)
theorem put_WC_0_above (C : Cx p s m args c cc nL own) (hK : va_K D classes (tys cs) s) {idx : Nat} {v : Int32} (hl : Cond.fieldLink own idx "TentPegs" "above" "I" ∈ TT) (d : decode cc pc = .ok (.putfield idx, 3)) (hp : pc + 3 = pc1) (k : G p l e R s m args below meth c Q D A nL (WC ad cs (stI μ 0 8 v)) pc1 L rest) : G p l e R s m args below meth c Q D A nL (WC ad cs μ) pc L (.int v :: .ref (ad 0) :: rest) := by
  subst hp
  intro H locs ls h1 h2 h3 h4
  exact va_put C.x C.b C.ts in_T ty_T ok_T nm_T C.own hK h1 h2 h3 0 rfl rfl 8 (by decide) (C.ts _ hl) (fun _ h => h) rfl (ok_T 8 (by decide)) rfl rfl (Nat.le_of_ble_eq_true rfl) d (fun H1 locs1 g1 g2 g3 => k H1 locs1 ls g1 g2 g3 h4)
theorem get_WC_0_below (C : Cx p s m args c cc nL own) (hK : va_K D classes (tys cs) s) {idx : Nat} {v : Int32} (hv : μ.1 0 9 = v) (hl : Cond.fieldLink own idx "TentPegs" "below" "I" ∈ TT) (d : decode cc pc = .ok (.getfield idx, 3)) (hp : pc + 3 = pc1) (k : G p l e R s m args below meth c Q D A nL (WC ad cs μ) pc1 L (.int v :: rest)) : G p l e R s m args below meth c Q D A nL (WC ad cs μ) pc L (.ref (ad 0) :: rest) := by
  subst hp
  subst hv
  intro H locs ls h1 h2 h3 h4
  exact va_get C.x C.b C.ts in_T C.own hK h1 0 rfl rfl 9 (by decide) (C.ts _ hl) (fun _ h => h) rfl d (k H locs ls h1 h2 h3 h4)
theorem put_WC_0_below (C : Cx p s m args c cc nL own) (hK : va_K D classes (tys cs) s) {idx : Nat} {v : Int32} (hl : Cond.fieldLink own idx "TentPegs" "below" "I" ∈ TT) (d : decode cc pc = .ok (.putfield idx, 3)) (hp : pc + 3 = pc1) (k : G p l e R s m args below meth c Q D A nL (WC ad cs (stI μ 0 9 v)) pc1 L rest) : G p l e R s m args below meth c Q D A nL (WC ad cs μ) pc L (.int v :: .ref (ad 0) :: rest) := by
  subst hp
  intro H locs ls h1 h2 h3 h4
  exact va_put C.x C.b C.ts in_T ty_T ok_T nm_T C.own hK h1 h2 h3 0 rfl rfl 9 (by decide) (C.ts _ hl) (fun _ h => h) rfl (ok_T 9 (by decide)) rfl rfl (Nat.le_of_ble_eq_true rfl) d (fun H1 locs1 g1 g2 g3 => k H1 locs1 ls g1 g2 g3 h4)
theorem get_WC_0_bads (C : Cx p s m args c cc nL own) (hK : va_K D classes (tys cs) s) {idx : Nat} {v : Int32} (hv : μ.1 0 10 = v) (hl : Cond.fieldLink own idx "TentPegs" "bads" "I" ∈ TT) (d : decode cc pc = .ok (.getfield idx, 3)) (hp : pc + 3 = pc1) (k : G p l e R s m args below meth c Q D A nL (WC ad cs μ) pc1 L (.int v :: rest)) : G p l e R s m args below meth c Q D A nL (WC ad cs μ) pc L (.ref (ad 0) :: rest) := by
  subst hp
  subst hv
  intro H locs ls h1 h2 h3 h4
  exact va_get C.x C.b C.ts in_T C.own hK h1 0 rfl rfl 10 (by decide) (C.ts _ hl) (fun _ h => h) rfl d (k H locs ls h1 h2 h3 h4)
theorem put_WC_0_bads (C : Cx p s m args c cc nL own) (hK : va_K D classes (tys cs) s) {idx : Nat} {v : Int32} (hl : Cond.fieldLink own idx "TentPegs" "bads" "I" ∈ TT) (d : decode cc pc = .ok (.putfield idx, 3)) (hp : pc + 3 = pc1) (k : G p l e R s m args below meth c Q D A nL (WC ad cs (stI μ 0 10 v)) pc1 L rest) : G p l e R s m args below meth c Q D A nL (WC ad cs μ) pc L (.int v :: .ref (ad 0) :: rest) := by
  subst hp
  intro H locs ls h1 h2 h3 h4
  exact va_put C.x C.b C.ts in_T ty_T ok_T nm_T C.own hK h1 h2 h3 0 rfl rfl 10 (by decide) (C.ts _ hl) (fun _ h => h) rfl (ok_T 10 (by decide)) rfl rfl (Nat.le_of_ble_eq_true rfl) d (fun H1 locs1 g1 g2 g3 => k H1 locs1 ls g1 g2 g3 h4)
theorem get_WC_0_noes (C : Cx p s m args c cc nL own) (hK : va_K D classes (tys cs) s) {idx : Nat} {v : Int32} (hv : μ.1 0 11 = v) (hl : Cond.fieldLink own idx "TentPegs" "noes" "I" ∈ TT) (d : decode cc pc = .ok (.getfield idx, 3)) (hp : pc + 3 = pc1) (k : G p l e R s m args below meth c Q D A nL (WC ad cs μ) pc1 L (.int v :: rest)) : G p l e R s m args below meth c Q D A nL (WC ad cs μ) pc L (.ref (ad 0) :: rest) := by
  subst hp
  subst hv
  intro H locs ls h1 h2 h3 h4
  exact va_get C.x C.b C.ts in_T C.own hK h1 0 rfl rfl 11 (by decide) (C.ts _ hl) (fun _ h => h) rfl d (k H locs ls h1 h2 h3 h4)
theorem put_WC_0_noes (C : Cx p s m args c cc nL own) (hK : va_K D classes (tys cs) s) {idx : Nat} {v : Int32} (hl : Cond.fieldLink own idx "TentPegs" "noes" "I" ∈ TT) (d : decode cc pc = .ok (.putfield idx, 3)) (hp : pc + 3 = pc1) (k : G p l e R s m args below meth c Q D A nL (WC ad cs (stI μ 0 11 v)) pc1 L rest) : G p l e R s m args below meth c Q D A nL (WC ad cs μ) pc L (.int v :: .ref (ad 0) :: rest) := by
  subst hp
  intro H locs ls h1 h2 h3 h4
  exact va_put C.x C.b C.ts in_T ty_T ok_T nm_T C.own hK h1 h2 h3 0 rfl rfl 11 (by decide) (C.ts _ hl) (fun _ h => h) rfl (ok_T 11 (by decide)) rfl rfl (Nat.le_of_ble_eq_true rfl) d (fun H1 locs1 g1 g2 g3 => k H1 locs1 ls g1 g2 g3 h4)
theorem get_WC_0_fulls (C : Cx p s m args c cc nL own) (hK : va_K D classes (tys cs) s) {idx : Nat} {v : Int32} (hv : μ.1 0 12 = v) (hl : Cond.fieldLink own idx "TentPegs" "fulls" "I" ∈ TT) (d : decode cc pc = .ok (.getfield idx, 3)) (hp : pc + 3 = pc1) (k : G p l e R s m args below meth c Q D A nL (WC ad cs μ) pc1 L (.int v :: rest)) : G p l e R s m args below meth c Q D A nL (WC ad cs μ) pc L (.ref (ad 0) :: rest) := by
  subst hp
  subst hv
  intro H locs ls h1 h2 h3 h4
  exact va_get C.x C.b C.ts in_T C.own hK h1 0 rfl rfl 12 (by decide) (C.ts _ hl) (fun _ h => h) rfl d (k H locs ls h1 h2 h3 h4)
theorem put_WC_0_fulls (C : Cx p s m args c cc nL own) (hK : va_K D classes (tys cs) s) {idx : Nat} {v : Int32} (hl : Cond.fieldLink own idx "TentPegs" "fulls" "I" ∈ TT) (d : decode cc pc = .ok (.putfield idx, 3)) (hp : pc + 3 = pc1) (k : G p l e R s m args below meth c Q D A nL (WC ad cs (stI μ 0 12 v)) pc1 L rest) : G p l e R s m args below meth c Q D A nL (WC ad cs μ) pc L (.int v :: .ref (ad 0) :: rest) := by
  subst hp
  intro H locs ls h1 h2 h3 h4
  exact va_put C.x C.b C.ts in_T ty_T ok_T nm_T C.own hK h1 h2 h3 0 rfl rfl 12 (by decide) (C.ts _ hl) (fun _ h => h) rfl (ok_T 12 (by decide)) rfl rfl (Nat.le_of_ble_eq_true rfl) d (fun H1 locs1 g1 g2 g3 => k H1 locs1 ls g1 g2 g3 h4)
theorem get_WC_1_pegs (C : Cx p s m args c cc nL own) (hK : va_K D classes (tys cs) s) {idx : Nat} {v : Int32} (hv : μ.1 1 0 = v) (hl : Cond.fieldLink own idx "TentPegs$Field" "pegs" "I" ∈ TT) (d : decode cc pc = .ok (.getfield idx, 3)) (hp : pc + 3 = pc1) (k : G p l e R s m args below meth c Q D A nL (WC ad cs μ) pc1 L (.int v :: rest)) : G p l e R s m args below meth c Q D A nL (WC ad cs μ) pc L (.ref (ad 1) :: rest) := by
  subst hp
  subst hv
  intro H locs ls h1 h2 h3 h4
  exact va_get C.x C.b C.ts in_F C.own hK h1 1 rfl rfl 0 (by decide) (C.ts _ hl) (fun _ h => h) rfl d (k H locs ls h1 h2 h3 h4)
theorem put_WC_1_pegs (C : Cx p s m args c cc nL own) (hK : va_K D classes (tys cs) s) {idx : Nat} {v : Int32} (hl : Cond.fieldLink own idx "TentPegs$Field" "pegs" "I" ∈ TT) (d : decode cc pc = .ok (.putfield idx, 3)) (hp : pc + 3 = pc1) (k : G p l e R s m args below meth c Q D A nL (WC ad cs (stI μ 1 0 v)) pc1 L rest) : G p l e R s m args below meth c Q D A nL (WC ad cs μ) pc L (.int v :: .ref (ad 1) :: rest) := by
  subst hp
  intro H locs ls h1 h2 h3 h4
  exact va_put C.x C.b C.ts in_F ty_F ok_F nm_F C.own hK h1 h2 h3 1 rfl rfl 0 (by decide) (C.ts _ hl) (fun _ h => h) rfl (ok_F 0 (by decide)) rfl rfl (Nat.le_of_ble_eq_true rfl) d (fun H1 locs1 g1 g2 g3 => k H1 locs1 ls g1 g2 g3 h4)
theorem get_WC_1_wetness (C : Cx p s m args c cc nL own) (hK : va_K D classes (tys cs) s) {idx : Nat} {v : Int32} (hv : μ.1 1 1 = v) (hl : Cond.fieldLink own idx "TentPegs$Field" "wetness" "I" ∈ TT) (d : decode cc pc = .ok (.getfield idx, 3)) (hp : pc + 3 = pc1) (k : G p l e R s m args below meth c Q D A nL (WC ad cs μ) pc1 L (.int v :: rest)) : G p l e R s m args below meth c Q D A nL (WC ad cs μ) pc L (.ref (ad 1) :: rest) := by
  subst hp
  subst hv
  intro H locs ls h1 h2 h3 h4
  exact va_get C.x C.b C.ts in_F C.own hK h1 1 rfl rfl 1 (by decide) (C.ts _ hl) (fun _ h => h) rfl d (k H locs ls h1 h2 h3 h4)
theorem put_WC_1_wetness (C : Cx p s m args c cc nL own) (hK : va_K D classes (tys cs) s) {idx : Nat} {v : Int32} (hl : Cond.fieldLink own idx "TentPegs$Field" "wetness" "I" ∈ TT) (d : decode cc pc = .ok (.putfield idx, 3)) (hp : pc + 3 = pc1) (k : G p l e R s m args below meth c Q D A nL (WC ad cs (stI μ 1 1 v)) pc1 L rest) : G p l e R s m args below meth c Q D A nL (WC ad cs μ) pc L (.int v :: .ref (ad 1) :: rest) := by
  subst hp
  intro H locs ls h1 h2 h3 h4
  exact va_put C.x C.b C.ts in_F ty_F ok_F nm_F C.own hK h1 h2 h3 1 rfl rfl 1 (by decide) (C.ts _ hl) (fun _ h => h) rfl (ok_F 1 (by decide)) rfl rfl (Nat.le_of_ble_eq_true rfl) d (fun H1 locs1 g1 g2 g3 => k H1 locs1 ls g1 g2 g3 h4)
theorem get_WC_1_walls (C : Cx p s m args c cc nL own) (hK : va_K D classes (tys cs) s) {idx : Nat} {v : Int32} (hv : μ.1 1 2 = v) (hl : Cond.fieldLink own idx "TentPegs$Field" "walls" "I" ∈ TT) (d : decode cc pc = .ok (.getfield idx, 3)) (hp : pc + 3 = pc1) (k : G p l e R s m args below meth c Q D A nL (WC ad cs μ) pc1 L (.int v :: rest)) : G p l e R s m args below meth c Q D A nL (WC ad cs μ) pc L (.ref (ad 1) :: rest) := by
  subst hp
  subst hv
  intro H locs ls h1 h2 h3 h4
  exact va_get C.x C.b C.ts in_F C.own hK h1 1 rfl rfl 2 (by decide) (C.ts _ hl) (fun _ h => h) rfl d (k H locs ls h1 h2 h3 h4)
theorem put_WC_1_walls (C : Cx p s m args c cc nL own) (hK : va_K D classes (tys cs) s) {idx : Nat} {v : Int32} (hl : Cond.fieldLink own idx "TentPegs$Field" "walls" "I" ∈ TT) (d : decode cc pc = .ok (.putfield idx, 3)) (hp : pc + 3 = pc1) (k : G p l e R s m args below meth c Q D A nL (WC ad cs (stI μ 1 2 v)) pc1 L rest) : G p l e R s m args below meth c Q D A nL (WC ad cs μ) pc L (.int v :: .ref (ad 1) :: rest) := by
  subst hp
  intro H locs ls h1 h2 h3 h4
  exact va_put C.x C.b C.ts in_F ty_F ok_F nm_F C.own hK h1 h2 h3 1 rfl rfl 2 (by decide) (C.ts _ hl) (fun _ h => h) rfl (ok_F 2 (by decide)) rfl rfl (Nat.le_of_ble_eq_true rfl) d (fun H1 locs1 g1 g2 g3 => k H1 locs1 ls g1 g2 g3 h4)
theorem get_WC_1_standing (C : Cx p s m args c cc nL own) (hK : va_K D classes (tys cs) s) {idx : Nat} {v : Int32} (hv : μ.1 1 3 = v) (hl : Cond.fieldLink own idx "TentPegs$Field" "standing" "I" ∈ TT) (d : decode cc pc = .ok (.getfield idx, 3)) (hp : pc + 3 = pc1) (k : G p l e R s m args below meth c Q D A nL (WC ad cs μ) pc1 L (.int v :: rest)) : G p l e R s m args below meth c Q D A nL (WC ad cs μ) pc L (.ref (ad 1) :: rest) := by
  subst hp
  subst hv
  intro H locs ls h1 h2 h3 h4
  exact va_get C.x C.b C.ts in_F C.own hK h1 1 rfl rfl 3 (by decide) (C.ts _ hl) (fun _ h => h) rfl d (k H locs ls h1 h2 h3 h4)
theorem put_WC_1_standing (C : Cx p s m args c cc nL own) (hK : va_K D classes (tys cs) s) {idx : Nat} {v : Int32} (hl : Cond.fieldLink own idx "TentPegs$Field" "standing" "I" ∈ TT) (d : decode cc pc = .ok (.putfield idx, 3)) (hp : pc + 3 = pc1) (k : G p l e R s m args below meth c Q D A nL (WC ad cs (stI μ 1 3 v)) pc1 L rest) : G p l e R s m args below meth c Q D A nL (WC ad cs μ) pc L (.int v :: .ref (ad 1) :: rest) := by
  subst hp
  intro H locs ls h1 h2 h3 h4
  exact va_put C.x C.b C.ts in_F ty_F ok_F nm_F C.own hK h1 h2 h3 1 rfl rfl 3 (by decide) (C.ts _ hl) (fun _ h => h) rfl (ok_F 3 (by decide)) rfl rfl (Nat.le_of_ble_eq_true rfl) d (fun H1 locs1 g1 g2 g3 => k H1 locs1 ls g1 g2 g3 h4)
theorem get_WC_1_undoable (C : Cx p s m args c cc nL own) (hK : va_K D classes (tys cs) s) {idx : Nat} {v : Int32} (hv : μ.1 1 4 = v) (hl : Cond.fieldLink own idx "TentPegs$Field" "undoable" "I" ∈ TT) (d : decode cc pc = .ok (.getfield idx, 3)) (hp : pc + 3 = pc1) (k : G p l e R s m args below meth c Q D A nL (WC ad cs μ) pc1 L (.int v :: rest)) : G p l e R s m args below meth c Q D A nL (WC ad cs μ) pc L (.ref (ad 1) :: rest) := by
  subst hp
  subst hv
  intro H locs ls h1 h2 h3 h4
  exact va_get C.x C.b C.ts in_F C.own hK h1 1 rfl rfl 4 (by decide) (C.ts _ hl) (fun _ h => h) rfl d (k H locs ls h1 h2 h3 h4)
theorem put_WC_1_undoable (C : Cx p s m args c cc nL own) (hK : va_K D classes (tys cs) s) {idx : Nat} {v : Int32} (hl : Cond.fieldLink own idx "TentPegs$Field" "undoable" "I" ∈ TT) (d : decode cc pc = .ok (.putfield idx, 3)) (hp : pc + 3 = pc1) (k : G p l e R s m args below meth c Q D A nL (WC ad cs (stI μ 1 4 v)) pc1 L rest) : G p l e R s m args below meth c Q D A nL (WC ad cs μ) pc L (.int v :: .ref (ad 1) :: rest) := by
  subst hp
  intro H locs ls h1 h2 h3 h4
  exact va_put C.x C.b C.ts in_F ty_F ok_F nm_F C.own hK h1 h2 h3 1 rfl rfl 4 (by decide) (C.ts _ hl) (fun _ h => h) rfl (ok_F 4 (by decide)) rfl rfl (Nat.le_of_ble_eq_true rfl) d (fun H1 locs1 g1 g2 g3 => k H1 locs1 ls g1 g2 g3 h4)
theorem get_WC_1_kinds (C : Cx p s m args c cc nL own) (hK : va_K D classes (tys cs) s) {idx : Nat} (hl : Cond.fieldLink own idx "TentPegs$Field" "kinds" "[I" ∈ TT) (d : decode cc pc = .ok (.getfield idx, 3)) (hp : pc + 3 = pc1) (k : G p l e R s m args below meth c Q D A nL (WC ad cs μ) pc1 L (.ref (ad 2) :: rest)) : G p l e R s m args below meth c Q D A nL (WC ad cs μ) pc L (.ref (ad 1) :: rest) := by
  subst hp
  intro H locs ls h1 h2 h3 h4
  exact va_get C.x C.b C.ts in_F C.own hK h1 1 rfl rfl 5 (by decide) (C.ts _ hl) (fun _ h => h) rfl d (k H locs ls h1 h2 h3 h4)
theorem get_WC_1_depths (C : Cx p s m args c cc nL own) (hK : va_K D classes (tys cs) s) {idx : Nat} (hl : Cond.fieldLink own idx "TentPegs$Field" "depths" "[I" ∈ TT) (d : decode cc pc = .ok (.getfield idx, 3)) (hp : pc + 3 = pc1) (k : G p l e R s m args below meth c Q D A nL (WC ad cs μ) pc1 L (.ref (ad 3) :: rest)) : G p l e R s m args below meth c Q D A nL (WC ad cs μ) pc L (.ref (ad 1) :: rest) := by
  subst hp
  intro H locs ls h1 h2 h3 h4
  exact va_get C.x C.b C.ts in_F C.own hK h1 1 rfl rfl 6 (by decide) (C.ts _ hl) (fun _ h => h) rfl d (k H locs ls h1 h2 h3 h4)
theorem get_WC_1_grounds (C : Cx p s m args c cc nL own) (hK : va_K D classes (tys cs) s) {idx : Nat} (hl : Cond.fieldLink own idx "TentPegs$Field" "grounds" "[I" ∈ TT) (d : decode cc pc = .ok (.getfield idx, 3)) (hp : pc + 3 = pc1) (k : G p l e R s m args below meth c Q D A nL (WC ad cs μ) pc1 L (.ref (ad 4) :: rest)) : G p l e R s m args below meth c Q D A nL (WC ad cs μ) pc L (.ref (ad 1) :: rest) := by
  subst hp
  intro H locs ls h1 h2 h3 h4
  exact va_get C.x C.b C.ts in_F C.own hK h1 1 rfl rfl 7 (by decide) (C.ts _ hl) (fun _ h => h) rfl d (k H locs ls h1 h2 h3 h4)
theorem get_WC_1_chances (C : Cx p s m args c cc nL own) (hK : va_K D classes (tys cs) s) {idx : Nat} (hl : Cond.fieldLink own idx "TentPegs$Field" "chances" "[I" ∈ TT) (d : decode cc pc = .ok (.getfield idx, 3)) (hp : pc + 3 = pc1) (k : G p l e R s m args below meth c Q D A nL (WC ad cs μ) pc1 L (.ref (ad 5) :: rest)) : G p l e R s m args below meth c Q D A nL (WC ad cs μ) pc L (.ref (ad 1) :: rest) := by
  subst hp
  intro H locs ls h1 h2 h3 h4
  exact va_get C.x C.b C.ts in_F C.own hK h1 1 rfl rfl 8 (by decide) (C.ts _ hl) (fun _ h => h) rfl d (k H locs ls h1 h2 h3 h4)
theorem get_WC_1_stoodBefore (C : Cx p s m args c cc nL own) (hK : va_K D classes (tys cs) s) {idx : Nat} (hl : Cond.fieldLink own idx "TentPegs$Field" "stoodBefore" "[I" ∈ TT) (d : decode cc pc = .ok (.getfield idx, 3)) (hp : pc + 3 = pc1) (k : G p l e R s m args below meth c Q D A nL (WC ad cs μ) pc1 L (.ref (ad 6) :: rest)) : G p l e R s m args below meth c Q D A nL (WC ad cs μ) pc L (.ref (ad 1) :: rest) := by
  subst hp
  intro H locs ls h1 h2 h3 h4
  exact va_get C.x C.b C.ts in_F C.own hK h1 1 rfl rfl 9 (by decide) (C.ts _ hl) (fun _ h => h) rfl d (k H locs ls h1 h2 h3 h4)
theorem get_WC_7_field (C : Cx p s m args c cc nL own) (hK : va_K D classes (tys cs) s) {idx : Nat} (hl : Cond.fieldLink own idx "TentPegs$Gale" "field" "LTentPegs$Field;" ∈ TT) (d : decode cc pc = .ok (.getfield idx, 3)) (hp : pc + 3 = pc1) (k : G p l e R s m args below meth c Q D A nL (WC ad cs μ) pc1 L (.ref (ad 1) :: rest)) : G p l e R s m args below meth c Q D A nL (WC ad cs μ) pc L (.ref (ad 7) :: rest) := by
  subst hp
  intro H locs ls h1 h2 h3 h4
  exact va_get C.x C.b C.ts in_G C.own hK h1 7 rfl rfl 0 (by decide) (C.ts _ hl) (fun _ h => h) rfl d (k H locs ls h1 h2 h3 h4)
theorem get_WC_7_pulls (C : Cx p s m args c cc nL own) (hK : va_K D classes (tys cs) s) {idx : Nat} (hl : Cond.fieldLink own idx "TentPegs$Gale" "pulls" "[I" ∈ TT) (d : decode cc pc = .ok (.getfield idx, 3)) (hp : pc + 3 = pc1) (k : G p l e R s m args below meth c Q D A nL (WC ad cs μ) pc1 L (.ref (ad 8) :: rest)) : G p l e R s m args below meth c Q D A nL (WC ad cs μ) pc L (.ref (ad 7) :: rest) := by
  subst hp
  intro H locs ls h1 h2 h3 h4
  exact va_get C.x C.b C.ts in_G C.own hK h1 7 rfl rfl 1 (by decide) (C.ts _ hl) (fun _ h => h) rfl d (k H locs ls h1 h2 h3 h4)
theorem get_WC_7_went (C : Cx p s m args c cc nL own) (hK : va_K D classes (tys cs) s) {idx : Nat} (hl : Cond.fieldLink own idx "TentPegs$Gale" "went" "[I" ∈ TT) (d : decode cc pc = .ok (.getfield idx, 3)) (hp : pc + 3 = pc1) (k : G p l e R s m args below meth c Q D A nL (WC ad cs μ) pc1 L (.ref (ad 9) :: rest)) : G p l e R s m args below meth c Q D A nL (WC ad cs μ) pc L (.ref (ad 7) :: rest) := by
  subst hp
  intro H locs ls h1 h2 h3 h4
  exact va_get C.x C.b C.ts in_G C.own hK h1 7 rfl rfl 2 (by decide) (C.ts _ hl) (fun _ h => h) rfl d (k H locs ls h1 h2 h3 h4)
theorem get_WC_7_gone (C : Cx p s m args c cc nL own) (hK : va_K D classes (tys cs) s) {idx : Nat} {v : Int32} (hv : μ.1 7 3 = v) (hl : Cond.fieldLink own idx "TentPegs$Gale" "gone" "I" ∈ TT) (d : decode cc pc = .ok (.getfield idx, 3)) (hp : pc + 3 = pc1) (k : G p l e R s m args below meth c Q D A nL (WC ad cs μ) pc1 L (.int v :: rest)) : G p l e R s m args below meth c Q D A nL (WC ad cs μ) pc L (.ref (ad 7) :: rest) := by
  subst hp
  subst hv
  intro H locs ls h1 h2 h3 h4
  exact va_get C.x C.b C.ts in_G C.own hK h1 7 rfl rfl 3 (by decide) (C.ts _ hl) (fun _ h => h) rfl d (k H locs ls h1 h2 h3 h4)
theorem put_WC_7_gone (C : Cx p s m args c cc nL own) (hK : va_K D classes (tys cs) s) {idx : Nat} {v : Int32} (hl : Cond.fieldLink own idx "TentPegs$Gale" "gone" "I" ∈ TT) (d : decode cc pc = .ok (.putfield idx, 3)) (hp : pc + 3 = pc1) (k : G p l e R s m args below meth c Q D A nL (WC ad cs (stI μ 7 3 v)) pc1 L rest) : G p l e R s m args below meth c Q D A nL (WC ad cs μ) pc L (.int v :: .ref (ad 7) :: rest) := by
  subst hp
  intro H locs ls h1 h2 h3 h4
  exact va_put C.x C.b C.ts in_G ty_G ok_G nm_G C.own hK h1 h2 h3 7 rfl rfl 3 (by decide) (C.ts _ hl) (fun _ h => h) rfl (ok_G 3 (by decide)) rfl rfl (Nat.le_of_ble_eq_true rfl) d (fun H1 locs1 g1 g2 g3 => k H1 locs1 ls g1 g2 g3 h4)
theorem get_WC_7_standing (C : Cx p s m args c cc nL own) (hK : va_K D classes (tys cs) s) {idx : Nat} {v : Int32} (hv : μ.1 7 4 = v) (hl : Cond.fieldLink own idx "TentPegs$Gale" "standing" "I" ∈ TT) (d : decode cc pc = .ok (.getfield idx, 3)) (hp : pc + 3 = pc1) (k : G p l e R s m args below meth c Q D A nL (WC ad cs μ) pc1 L (.int v :: rest)) : G p l e R s m args below meth c Q D A nL (WC ad cs μ) pc L (.ref (ad 7) :: rest) := by
  subst hp
  subst hv
  intro H locs ls h1 h2 h3 h4
  exact va_get C.x C.b C.ts in_G C.own hK h1 7 rfl rfl 4 (by decide) (C.ts _ hl) (fun _ h => h) rfl d (k H locs ls h1 h2 h3 h4)
theorem put_WC_7_standing (C : Cx p s m args c cc nL own) (hK : va_K D classes (tys cs) s) {idx : Nat} {v : Int32} (hl : Cond.fieldLink own idx "TentPegs$Gale" "standing" "I" ∈ TT) (d : decode cc pc = .ok (.putfield idx, 3)) (hp : pc + 3 = pc1) (k : G p l e R s m args below meth c Q D A nL (WC ad cs (stI μ 7 4 v)) pc1 L rest) : G p l e R s m args below meth c Q D A nL (WC ad cs μ) pc L (.int v :: .ref (ad 7) :: rest) := by
  subst hp
  intro H locs ls h1 h2 h3 h4
  exact va_put C.x C.b C.ts in_G ty_G ok_G nm_G C.own hK h1 h2 h3 7 rfl rfl 4 (by decide) (C.ts _ hl) (fun _ h => h) rfl (ok_G 4 (by decide)) rfl rfl (Nat.le_of_ble_eq_true rfl) d (fun H1 locs1 g1 g2 g3 => k H1 locs1 ls g1 g2 g3 h4)
theorem get_WC_7_walls (C : Cx p s m args c cc nL own) (hK : va_K D classes (tys cs) s) {idx : Nat} {v : Int32} (hv : μ.1 7 5 = v) (hl : Cond.fieldLink own idx "TentPegs$Gale" "walls" "I" ∈ TT) (d : decode cc pc = .ok (.getfield idx, 3)) (hp : pc + 3 = pc1) (k : G p l e R s m args below meth c Q D A nL (WC ad cs μ) pc1 L (.int v :: rest)) : G p l e R s m args below meth c Q D A nL (WC ad cs μ) pc L (.ref (ad 7) :: rest) := by
  subst hp
  subst hv
  intro H locs ls h1 h2 h3 h4
  exact va_get C.x C.b C.ts in_G C.own hK h1 7 rfl rfl 5 (by decide) (C.ts _ hl) (fun _ h => h) rfl d (k H locs ls h1 h2 h3 h4)
theorem put_WC_7_walls (C : Cx p s m args c cc nL own) (hK : va_K D classes (tys cs) s) {idx : Nat} {v : Int32} (hl : Cond.fieldLink own idx "TentPegs$Gale" "walls" "I" ∈ TT) (d : decode cc pc = .ok (.putfield idx, 3)) (hp : pc + 3 = pc1) (k : G p l e R s m args below meth c Q D A nL (WC ad cs (stI μ 7 5 v)) pc1 L rest) : G p l e R s m args below meth c Q D A nL (WC ad cs μ) pc L (.int v :: .ref (ad 7) :: rest) := by
  subst hp
  intro H locs ls h1 h2 h3 h4
  exact va_put C.x C.b C.ts in_G ty_G ok_G nm_G C.own hK h1 h2 h3 7 rfl rfl 5 (by decide) (C.ts _ hl) (fun _ h => h) rfl (ok_G 5 (by decide)) rfl rfl (Nat.le_of_ble_eq_true rfl) d (fun H1 locs1 g1 g2 g3 => k H1 locs1 ls g1 g2 g3 h4)
theorem get_WC_7_turned (C : Cx p s m args c cc nL own) (hK : va_K D classes (tys cs) s) {idx : Nat} {v : Int32} (hv : μ.1 7 6 = v) (hl : Cond.fieldLink own idx "TentPegs$Gale" "turned" "I" ∈ TT) (d : decode cc pc = .ok (.getfield idx, 3)) (hp : pc + 3 = pc1) (k : G p l e R s m args below meth c Q D A nL (WC ad cs μ) pc1 L (.int v :: rest)) : G p l e R s m args below meth c Q D A nL (WC ad cs μ) pc L (.ref (ad 7) :: rest) := by
  subst hp
  subst hv
  intro H locs ls h1 h2 h3 h4
  exact va_get C.x C.b C.ts in_G C.own hK h1 7 rfl rfl 6 (by decide) (C.ts _ hl) (fun _ h => h) rfl d (k H locs ls h1 h2 h3 h4)
theorem put_WC_7_turned (C : Cx p s m args c cc nL own) (hK : va_K D classes (tys cs) s) {idx : Nat} {v : Int32} (hl : Cond.fieldLink own idx "TentPegs$Gale" "turned" "I" ∈ TT) (d : decode cc pc = .ok (.putfield idx, 3)) (hp : pc + 3 = pc1) (k : G p l e R s m args below meth c Q D A nL (WC ad cs (stI μ 7 6 v)) pc1 L rest) : G p l e R s m args below meth c Q D A nL (WC ad cs μ) pc L (.int v :: .ref (ad 7) :: rest) := by
  subst hp
  intro H locs ls h1 h2 h3 h4
  exact va_put C.x C.b C.ts in_G ty_G ok_G nm_G C.own hK h1 h2 h3 7 rfl rfl 6 (by decide) (C.ts _ hl) (fun _ h => h) rfl (ok_G 6 (by decide)) rfl rfl (Nat.le_of_ble_eq_true rfl) d (fun H1 locs1 g1 g2 g3 => k H1 locs1 ls g1 g2 g3 h4)
theorem get_WC_7_doubled (C : Cx p s m args c cc nL own) (hK : va_K D classes (tys cs) s) {idx : Nat} {v : Int32} (hv : μ.1 7 7 = v) (hl : Cond.fieldLink own idx "TentPegs$Gale" "doubled" "I" ∈ TT) (d : decode cc pc = .ok (.getfield idx, 3)) (hp : pc + 3 = pc1) (k : G p l e R s m args below meth c Q D A nL (WC ad cs μ) pc1 L (.int v :: rest)) : G p l e R s m args below meth c Q D A nL (WC ad cs μ) pc L (.ref (ad 7) :: rest) := by
  subst hp
  subst hv
  intro H locs ls h1 h2 h3 h4
  exact va_get C.x C.b C.ts in_G C.own hK h1 7 rfl rfl 7 (by decide) (C.ts _ hl) (fun _ h => h) rfl d (k H locs ls h1 h2 h3 h4)
theorem put_WC_7_doubled (C : Cx p s m args c cc nL own) (hK : va_K D classes (tys cs) s) {idx : Nat} {v : Int32} (hl : Cond.fieldLink own idx "TentPegs$Gale" "doubled" "I" ∈ TT) (d : decode cc pc = .ok (.putfield idx, 3)) (hp : pc + 3 = pc1) (k : G p l e R s m args below meth c Q D A nL (WC ad cs (stI μ 7 7 v)) pc1 L rest) : G p l e R s m args below meth c Q D A nL (WC ad cs μ) pc L (.int v :: .ref (ad 7) :: rest) := by
  subst hp
  intro H locs ls h1 h2 h3 h4
  exact va_put C.x C.b C.ts in_G ty_G ok_G nm_G C.own hK h1 h2 h3 7 rfl rfl 7 (by decide) (C.ts _ hl) (fun _ h => h) rfl (ok_G 7 (by decide)) rfl rfl (Nat.le_of_ble_eq_true rfl) d (fun H1 locs1 g1 g2 g3 => k H1 locs1 ls g1 g2 g3 h4)
theorem get_WC_10_field (C : Cx p s m args c cc nL own) (hK : va_K D classes (tys cs) s) {idx : Nat} (hl : Cond.fieldLink own idx "TentPegs$Plans" "field" "LTentPegs$Field;" ∈ TT) (d : decode cc pc = .ok (.getfield idx, 3)) (hp : pc + 3 = pc1) (k : G p l e R s m args below meth c Q D A nL (WC ad cs μ) pc1 L (.ref (ad 1) :: rest)) : G p l e R s m args below meth c Q D A nL (WC ad cs μ) pc L (.ref (ad 10) :: rest) := by
  subst hp
  intro H locs ls h1 h2 h3 h4
  exact va_get C.x C.b C.ts in_P C.own hK h1 10 rfl rfl 0 (by decide) (C.ts _ hl) (fun _ h => h) rfl d (k H locs ls h1 h2 h3 h4)
theorem get_WC_10_gale (C : Cx p s m args c cc nL own) (hK : va_K D classes (tys cs) s) {idx : Nat} (hl : Cond.fieldLink own idx "TentPegs$Plans" "gale" "LTentPegs$Gale;" ∈ TT) (d : decode cc pc = .ok (.getfield idx, 3)) (hp : pc + 3 = pc1) (k : G p l e R s m args below meth c Q D A nL (WC ad cs μ) pc1 L (.ref (ad 7) :: rest)) : G p l e R s m args below meth c Q D A nL (WC ad cs μ) pc L (.ref (ad 10) :: rest) := by
  subst hp
  intro H locs ls h1 h2 h3 h4
  exact va_get C.x C.b C.ts in_P C.own hK h1 10 rfl rfl 1 (by decide) (C.ts _ hl) (fun _ h => h) rfl d (k H locs ls h1 h2 h3 h4)
theorem get_WC_10_orders (C : Cx p s m args c cc nL own) (hK : va_K D classes (tys cs) s) {idx : Nat} (hl : Cond.fieldLink own idx "TentPegs$Plans" "orders" "[I" ∈ TT) (d : decode cc pc = .ok (.getfield idx, 3)) (hp : pc + 3 = pc1) (k : G p l e R s m args below meth c Q D A nL (WC ad cs μ) pc1 L (.ref (ad 11) :: rest)) : G p l e R s m args below meth c Q D A nL (WC ad cs μ) pc L (.ref (ad 10) :: rest) := by
  subst hp
  intro H locs ls h1 h2 h3 h4
  exact va_get C.x C.b C.ts in_P C.own hK h1 10 rfl rfl 2 (by decide) (C.ts _ hl) (fun _ h => h) rfl d (k H locs ls h1 h2 h3 h4)
theorem get_WC_10_needs (C : Cx p s m args c cc nL own) (hK : va_K D classes (tys cs) s) {idx : Nat} (hl : Cond.fieldLink own idx "TentPegs$Plans" "needs" "[I" ∈ TT) (d : decode cc pc = .ok (.getfield idx, 3)) (hp : pc + 3 = pc1) (k : G p l e R s m args below meth c Q D A nL (WC ad cs μ) pc1 L (.ref (ad 12) :: rest)) : G p l e R s m args below meth c Q D A nL (WC ad cs μ) pc L (.ref (ad 10) :: rest) := by
  subst hp
  intro H locs ls h1 h2 h3 h4
  exact va_get C.x C.b C.ts in_P C.own hK h1 10 rfl rfl 3 (by decide) (C.ts _ hl) (fun _ h => h) rfl d (k H locs ls h1 h2 h3 h4)
theorem get_WC_10_explained (C : Cx p s m args c cc nL own) (hK : va_K D classes (tys cs) s) {idx : Nat} {v : Int32} (hv : μ.1 10 4 = v) (hl : Cond.fieldLink own idx "TentPegs$Plans" "explained" "I" ∈ TT) (d : decode cc pc = .ok (.getfield idx, 3)) (hp : pc + 3 = pc1) (k : G p l e R s m args below meth c Q D A nL (WC ad cs μ) pc1 L (.int v :: rest)) : G p l e R s m args below meth c Q D A nL (WC ad cs μ) pc L (.ref (ad 10) :: rest) := by
  subst hp
  subst hv
  intro H locs ls h1 h2 h3 h4
  exact va_get C.x C.b C.ts in_P C.own hK h1 10 rfl rfl 4 (by decide) (C.ts _ hl) (fun _ h => h) rfl d (k H locs ls h1 h2 h3 h4)
theorem put_WC_10_explained (C : Cx p s m args c cc nL own) (hK : va_K D classes (tys cs) s) {idx : Nat} {v : Int32} (hl : Cond.fieldLink own idx "TentPegs$Plans" "explained" "I" ∈ TT) (d : decode cc pc = .ok (.putfield idx, 3)) (hp : pc + 3 = pc1) (k : G p l e R s m args below meth c Q D A nL (WC ad cs (stI μ 10 4 v)) pc1 L rest) : G p l e R s m args below meth c Q D A nL (WC ad cs μ) pc L (.int v :: .ref (ad 10) :: rest) := by
  subst hp
  intro H locs ls h1 h2 h3 h4
  exact va_put C.x C.b C.ts in_P ty_P ok_P nm_P C.own hK h1 h2 h3 10 rfl rfl 4 (by decide) (C.ts _ hl) (fun _ h => h) rfl (ok_P 4 (by decide)) rfl rfl (Nat.le_of_ble_eq_true rfl) d (fun H1 locs1 g1 g2 g3 => k H1 locs1 ls g1 g2 g3 h4)
theorem get_WC_10_firstExplained (C : Cx p s m args c cc nL own) (hK : va_K D classes (tys cs) s) {idx : Nat} {v : Int32} (hv : μ.1 10 5 = v) (hl : Cond.fieldLink own idx "TentPegs$Plans" "firstExplained" "I" ∈ TT) (d : decode cc pc = .ok (.getfield idx, 3)) (hp : pc + 3 = pc1) (k : G p l e R s m args below meth c Q D A nL (WC ad cs μ) pc1 L (.int v :: rest)) : G p l e R s m args below meth c Q D A nL (WC ad cs μ) pc L (.ref (ad 10) :: rest) := by
  subst hp
  subst hv
  intro H locs ls h1 h2 h3 h4
  exact va_get C.x C.b C.ts in_P C.own hK h1 10 rfl rfl 5 (by decide) (C.ts _ hl) (fun _ h => h) rfl d (k H locs ls h1 h2 h3 h4)
theorem put_WC_10_firstExplained (C : Cx p s m args c cc nL own) (hK : va_K D classes (tys cs) s) {idx : Nat} {v : Int32} (hl : Cond.fieldLink own idx "TentPegs$Plans" "firstExplained" "I" ∈ TT) (d : decode cc pc = .ok (.putfield idx, 3)) (hp : pc + 3 = pc1) (k : G p l e R s m args below meth c Q D A nL (WC ad cs (stI μ 10 5 v)) pc1 L rest) : G p l e R s m args below meth c Q D A nL (WC ad cs μ) pc L (.int v :: .ref (ad 10) :: rest) := by
  subst hp
  intro H locs ls h1 h2 h3 h4
  exact va_put C.x C.b C.ts in_P ty_P ok_P nm_P C.own hK h1 h2 h3 10 rfl rfl 5 (by decide) (C.ts _ hl) (fun _ h => h) rfl (ok_P 5 (by decide)) rfl rfl (Nat.le_of_ble_eq_true rfl) d (fun H1 locs1 g1 g2 g3 => k H1 locs1 ls g1 g2 g3 h4)
theorem get_WC_14_text (C : Cx p s m args c cc nL own) (hK : va_K D classes (tys cs) s) {idx : Nat} (hl : Cond.fieldLink own idx "TentPegs$Reader" "text" "[B" ∈ TT) (d : decode cc pc = .ok (.getfield idx, 3)) (hp : pc + 3 = pc1) (k : G p l e R s m args below meth c Q D A nL (WC ad cs μ) pc1 L (.ref (ad 13) :: rest)) : G p l e R s m args below meth c Q D A nL (WC ad cs μ) pc L (.ref (ad 14) :: rest) := by
  subst hp
  intro H locs ls h1 h2 h3 h4
  exact va_get C.x C.b C.ts in_R C.own hK h1 14 rfl rfl 0 (by decide) (C.ts _ hl) (fun _ h => h) rfl d (k H locs ls h1 h2 h3 h4)
theorem get_WC_14_numbers (C : Cx p s m args c cc nL own) (hK : va_K D classes (tys cs) s) {idx : Nat} (hl : Cond.fieldLink own idx "TentPegs$Reader" "numbers" "[I" ∈ TT) (d : decode cc pc = .ok (.getfield idx, 3)) (hp : pc + 3 = pc1) (k : G p l e R s m args below meth c Q D A nL (WC ad cs μ) pc1 L (.ref (ad 15) :: rest)) : G p l e R s m args below meth c Q D A nL (WC ad cs μ) pc L (.ref (ad 14) :: rest) := by
  subst hp
  intro H locs ls h1 h2 h3 h4
  exact va_get C.x C.b C.ts in_R C.own hK h1 14 rfl rfl 1 (by decide) (C.ts _ hl) (fun _ h => h) rfl d (k H locs ls h1 h2 h3 h4)
theorem get_WC_14_draft (C : Cx p s m args c cc nL own) (hK : va_K D classes (tys cs) s) {idx : Nat} (hl : Cond.fieldLink own idx "TentPegs$Reader" "draft" "LTentPegs$Field;" ∈ TT) (d : decode cc pc = .ok (.getfield idx, 3)) (hp : pc + 3 = pc1) (k : G p l e R s m args below meth c Q D A nL (WC ad cs μ) pc1 L (.ref (ad 16) :: rest)) : G p l e R s m args below meth c Q D A nL (WC ad cs μ) pc L (.ref (ad 14) :: rest) := by
  subst hp
  intro H locs ls h1 h2 h3 h4
  exact va_get C.x C.b C.ts in_R C.own hK h1 14 rfl rfl 2 (by decide) (C.ts _ hl) (fun _ h => h) rfl d (k H locs ls h1 h2 h3 h4)
theorem get_WC_14_length (C : Cx p s m args c cc nL own) (hK : va_K D classes (tys cs) s) {idx : Nat} {v : Int32} (hv : μ.1 14 3 = v) (hl : Cond.fieldLink own idx "TentPegs$Reader" "length" "I" ∈ TT) (d : decode cc pc = .ok (.getfield idx, 3)) (hp : pc + 3 = pc1) (k : G p l e R s m args below meth c Q D A nL (WC ad cs μ) pc1 L (.int v :: rest)) : G p l e R s m args below meth c Q D A nL (WC ad cs μ) pc L (.ref (ad 14) :: rest) := by
  subst hp
  subst hv
  intro H locs ls h1 h2 h3 h4
  exact va_get C.x C.b C.ts in_R C.own hK h1 14 rfl rfl 3 (by decide) (C.ts _ hl) (fun _ h => h) rfl d (k H locs ls h1 h2 h3 h4)
theorem put_WC_14_length (C : Cx p s m args c cc nL own) (hK : va_K D classes (tys cs) s) {idx : Nat} {v : Int32} (hl : Cond.fieldLink own idx "TentPegs$Reader" "length" "I" ∈ TT) (d : decode cc pc = .ok (.putfield idx, 3)) (hp : pc + 3 = pc1) (k : G p l e R s m args below meth c Q D A nL (WC ad cs (stI μ 14 3 v)) pc1 L rest) : G p l e R s m args below meth c Q D A nL (WC ad cs μ) pc L (.int v :: .ref (ad 14) :: rest) := by
  subst hp
  intro H locs ls h1 h2 h3 h4
  exact va_put C.x C.b C.ts in_R ty_R ok_R nm_R C.own hK h1 h2 h3 14 rfl rfl 3 (by decide) (C.ts _ hl) (fun _ h => h) rfl (ok_R 3 (by decide)) rfl rfl (Nat.le_of_ble_eq_true rfl) d (fun H1 locs1 g1 g2 g3 => k H1 locs1 ls g1 g2 g3 h4)
theorem get_WC_14_at (C : Cx p s m args c cc nL own) (hK : va_K D classes (tys cs) s) {idx : Nat} {v : Int32} (hv : μ.1 14 4 = v) (hl : Cond.fieldLink own idx "TentPegs$Reader" "at" "I" ∈ TT) (d : decode cc pc = .ok (.getfield idx, 3)) (hp : pc + 3 = pc1) (k : G p l e R s m args below meth c Q D A nL (WC ad cs μ) pc1 L (.int v :: rest)) : G p l e R s m args below meth c Q D A nL (WC ad cs μ) pc L (.ref (ad 14) :: rest) := by
  subst hp
  subst hv
  intro H locs ls h1 h2 h3 h4
  exact va_get C.x C.b C.ts in_R C.own hK h1 14 rfl rfl 4 (by decide) (C.ts _ hl) (fun _ h => h) rfl d (k H locs ls h1 h2 h3 h4)
theorem put_WC_14_at (C : Cx p s m args c cc nL own) (hK : va_K D classes (tys cs) s) {idx : Nat} {v : Int32} (hl : Cond.fieldLink own idx "TentPegs$Reader" "at" "I" ∈ TT) (d : decode cc pc = .ok (.putfield idx, 3)) (hp : pc + 3 = pc1) (k : G p l e R s m args below meth c Q D A nL (WC ad cs (stI μ 14 4 v)) pc1 L rest) : G p l e R s m args below meth c Q D A nL (WC ad cs μ) pc L (.int v :: .ref (ad 14) :: rest) := by
  subst hp
  intro H locs ls h1 h2 h3 h4
  exact va_put C.x C.b C.ts in_R ty_R ok_R nm_R C.own hK h1 h2 h3 14 rfl rfl 4 (by decide) (C.ts _ hl) (fun _ h => h) rfl (ok_R 4 (by decide)) rfl rfl (Nat.le_of_ble_eq_true rfl) d (fun H1 locs1 g1 g2 g3 => k H1 locs1 ls g1 g2 g3 h4)
theorem get_WC_14_start (C : Cx p s m args c cc nL own) (hK : va_K D classes (tys cs) s) {idx : Nat} {v : Int32} (hv : μ.1 14 5 = v) (hl : Cond.fieldLink own idx "TentPegs$Reader" "start" "I" ∈ TT) (d : decode cc pc = .ok (.getfield idx, 3)) (hp : pc + 3 = pc1) (k : G p l e R s m args below meth c Q D A nL (WC ad cs μ) pc1 L (.int v :: rest)) : G p l e R s m args below meth c Q D A nL (WC ad cs μ) pc L (.ref (ad 14) :: rest) := by
  subst hp
  subst hv
  intro H locs ls h1 h2 h3 h4
  exact va_get C.x C.b C.ts in_R C.own hK h1 14 rfl rfl 5 (by decide) (C.ts _ hl) (fun _ h => h) rfl d (k H locs ls h1 h2 h3 h4)
theorem put_WC_14_start (C : Cx p s m args c cc nL own) (hK : va_K D classes (tys cs) s) {idx : Nat} {v : Int32} (hl : Cond.fieldLink own idx "TentPegs$Reader" "start" "I" ∈ TT) (d : decode cc pc = .ok (.putfield idx, 3)) (hp : pc + 3 = pc1) (k : G p l e R s m args below meth c Q D A nL (WC ad cs (stI μ 14 5 v)) pc1 L rest) : G p l e R s m args below meth c Q D A nL (WC ad cs μ) pc L (.int v :: .ref (ad 14) :: rest) := by
  subst hp
  intro H locs ls h1 h2 h3 h4
  exact va_put C.x C.b C.ts in_R ty_R ok_R nm_R C.own hK h1 h2 h3 14 rfl rfl 5 (by decide) (C.ts _ hl) (fun _ h => h) rfl (ok_R 5 (by decide)) rfl rfl (Nat.le_of_ble_eq_true rfl) d (fun H1 locs1 g1 g2 g3 => k H1 locs1 ls g1 g2 g3 h4)
theorem get_WC_14_token (C : Cx p s m args c cc nL own) (hK : va_K D classes (tys cs) s) {idx : Nat} {v : Int32} (hv : μ.1 14 6 = v) (hl : Cond.fieldLink own idx "TentPegs$Reader" "token" "I" ∈ TT) (d : decode cc pc = .ok (.getfield idx, 3)) (hp : pc + 3 = pc1) (k : G p l e R s m args below meth c Q D A nL (WC ad cs μ) pc1 L (.int v :: rest)) : G p l e R s m args below meth c Q D A nL (WC ad cs μ) pc L (.ref (ad 14) :: rest) := by
  subst hp
  subst hv
  intro H locs ls h1 h2 h3 h4
  exact va_get C.x C.b C.ts in_R C.own hK h1 14 rfl rfl 6 (by decide) (C.ts _ hl) (fun _ h => h) rfl d (k H locs ls h1 h2 h3 h4)
theorem put_WC_14_token (C : Cx p s m args c cc nL own) (hK : va_K D classes (tys cs) s) {idx : Nat} {v : Int32} (hl : Cond.fieldLink own idx "TentPegs$Reader" "token" "I" ∈ TT) (d : decode cc pc = .ok (.putfield idx, 3)) (hp : pc + 3 = pc1) (k : G p l e R s m args below meth c Q D A nL (WC ad cs (stI μ 14 6 v)) pc1 L rest) : G p l e R s m args below meth c Q D A nL (WC ad cs μ) pc L (.int v :: .ref (ad 14) :: rest) := by
  subst hp
  intro H locs ls h1 h2 h3 h4
  exact va_put C.x C.b C.ts in_R ty_R ok_R nm_R C.own hK h1 h2 h3 14 rfl rfl 6 (by decide) (C.ts _ hl) (fun _ h => h) rfl (ok_R 6 (by decide)) rfl rfl (Nat.le_of_ble_eq_true rfl) d (fun H1 locs1 g1 g2 g3 => k H1 locs1 ls g1 g2 g3 h4)
theorem get_WC_14_number (C : Cx p s m args c cc nL own) (hK : va_K D classes (tys cs) s) {idx : Nat} {v : Int32} (hv : μ.1 14 7 = v) (hl : Cond.fieldLink own idx "TentPegs$Reader" "number" "I" ∈ TT) (d : decode cc pc = .ok (.getfield idx, 3)) (hp : pc + 3 = pc1) (k : G p l e R s m args below meth c Q D A nL (WC ad cs μ) pc1 L (.int v :: rest)) : G p l e R s m args below meth c Q D A nL (WC ad cs μ) pc L (.ref (ad 14) :: rest) := by
  subst hp
  subst hv
  intro H locs ls h1 h2 h3 h4
  exact va_get C.x C.b C.ts in_R C.own hK h1 14 rfl rfl 7 (by decide) (C.ts _ hl) (fun _ h => h) rfl d (k H locs ls h1 h2 h3 h4)
theorem put_WC_14_number (C : Cx p s m args c cc nL own) (hK : va_K D classes (tys cs) s) {idx : Nat} {v : Int32} (hl : Cond.fieldLink own idx "TentPegs$Reader" "number" "I" ∈ TT) (d : decode cc pc = .ok (.putfield idx, 3)) (hp : pc + 3 = pc1) (k : G p l e R s m args below meth c Q D A nL (WC ad cs (stI μ 14 7 v)) pc1 L rest) : G p l e R s m args below meth c Q D A nL (WC ad cs μ) pc L (.int v :: .ref (ad 14) :: rest) := by
  subst hp
  intro H locs ls h1 h2 h3 h4
  exact va_put C.x C.b C.ts in_R ty_R ok_R nm_R C.own hK h1 h2 h3 14 rfl rfl 7 (by decide) (C.ts _ hl) (fun _ h => h) rfl (ok_R 7 (by decide)) rfl rfl (Nat.le_of_ble_eq_true rfl) d (fun H1 locs1 g1 g2 g3 => k H1 locs1 ls g1 g2 g3 h4)
theorem get_WC_14_items (C : Cx p s m args c cc nL own) (hK : va_K D classes (tys cs) s) {idx : Nat} {v : Int32} (hv : μ.1 14 8 = v) (hl : Cond.fieldLink own idx "TentPegs$Reader" "items" "I" ∈ TT) (d : decode cc pc = .ok (.getfield idx, 3)) (hp : pc + 3 = pc1) (k : G p l e R s m args below meth c Q D A nL (WC ad cs μ) pc1 L (.int v :: rest)) : G p l e R s m args below meth c Q D A nL (WC ad cs μ) pc L (.ref (ad 14) :: rest) := by
  subst hp
  subst hv
  intro H locs ls h1 h2 h3 h4
  exact va_get C.x C.b C.ts in_R C.own hK h1 14 rfl rfl 8 (by decide) (C.ts _ hl) (fun _ h => h) rfl d (k H locs ls h1 h2 h3 h4)
theorem put_WC_14_items (C : Cx p s m args c cc nL own) (hK : va_K D classes (tys cs) s) {idx : Nat} {v : Int32} (hl : Cond.fieldLink own idx "TentPegs$Reader" "items" "I" ∈ TT) (d : decode cc pc = .ok (.putfield idx, 3)) (hp : pc + 3 = pc1) (k : G p l e R s m args below meth c Q D A nL (WC ad cs (stI μ 14 8 v)) pc1 L rest) : G p l e R s m args below meth c Q D A nL (WC ad cs μ) pc L (.int v :: .ref (ad 14) :: rest) := by
  subst hp
  intro H locs ls h1 h2 h3 h4
  exact va_put C.x C.b C.ts in_R ty_R ok_R nm_R C.own hK h1 h2 h3 14 rfl rfl 8 (by decide) (C.ts _ hl) (fun _ h => h) rfl (ok_R 8 (by decide)) rfl rfl (Nat.le_of_ble_eq_true rfl) d (fun H1 locs1 g1 g2 g3 => k H1 locs1 ls g1 g2 g3 h4)
theorem get_WC_14_fault (C : Cx p s m args c cc nL own) (hK : va_K D classes (tys cs) s) {idx : Nat} {v : Int32} (hv : μ.1 14 9 = v) (hl : Cond.fieldLink own idx "TentPegs$Reader" "fault" "I" ∈ TT) (d : decode cc pc = .ok (.getfield idx, 3)) (hp : pc + 3 = pc1) (k : G p l e R s m args below meth c Q D A nL (WC ad cs μ) pc1 L (.int v :: rest)) : G p l e R s m args below meth c Q D A nL (WC ad cs μ) pc L (.ref (ad 14) :: rest) := by
  subst hp
  subst hv
  intro H locs ls h1 h2 h3 h4
  exact va_get C.x C.b C.ts in_R C.own hK h1 14 rfl rfl 9 (by decide) (C.ts _ hl) (fun _ h => h) rfl d (k H locs ls h1 h2 h3 h4)
theorem put_WC_14_fault (C : Cx p s m args c cc nL own) (hK : va_K D classes (tys cs) s) {idx : Nat} {v : Int32} (hl : Cond.fieldLink own idx "TentPegs$Reader" "fault" "I" ∈ TT) (d : decode cc pc = .ok (.putfield idx, 3)) (hp : pc + 3 = pc1) (k : G p l e R s m args below meth c Q D A nL (WC ad cs (stI μ 14 9 v)) pc1 L rest) : G p l e R s m args below meth c Q D A nL (WC ad cs μ) pc L (.int v :: .ref (ad 14) :: rest) := by
  subst hp
  intro H locs ls h1 h2 h3 h4
  exact va_put C.x C.b C.ts in_R ty_R ok_R nm_R C.own hK h1 h2 h3 14 rfl rfl 9 (by decide) (C.ts _ hl) (fun _ h => h) rfl (ok_R 9 (by decide)) rfl rfl (Nat.le_of_ble_eq_true rfl) d (fun H1 locs1 g1 g2 g3 => k H1 locs1 ls g1 g2 g3 h4)
theorem get_WC_14_refused (C : Cx p s m args c cc nL own) (hK : va_K D classes (tys cs) s) {idx : Nat} {v : Int32} (hv : μ.1 14 10 = v) (hl : Cond.fieldLink own idx "TentPegs$Reader" "refused" "I" ∈ TT) (d : decode cc pc = .ok (.getfield idx, 3)) (hp : pc + 3 = pc1) (k : G p l e R s m args below meth c Q D A nL (WC ad cs μ) pc1 L (.int v :: rest)) : G p l e R s m args below meth c Q D A nL (WC ad cs μ) pc L (.ref (ad 14) :: rest) := by
  subst hp
  subst hv
  intro H locs ls h1 h2 h3 h4
  exact va_get C.x C.b C.ts in_R C.own hK h1 14 rfl rfl 10 (by decide) (C.ts _ hl) (fun _ h => h) rfl d (k H locs ls h1 h2 h3 h4)
theorem put_WC_14_refused (C : Cx p s m args c cc nL own) (hK : va_K D classes (tys cs) s) {idx : Nat} {v : Int32} (hl : Cond.fieldLink own idx "TentPegs$Reader" "refused" "I" ∈ TT) (d : decode cc pc = .ok (.putfield idx, 3)) (hp : pc + 3 = pc1) (k : G p l e R s m args below meth c Q D A nL (WC ad cs (stI μ 14 10 v)) pc1 L rest) : G p l e R s m args below meth c Q D A nL (WC ad cs μ) pc L (.int v :: .ref (ad 14) :: rest) := by
  subst hp
  intro H locs ls h1 h2 h3 h4
  exact va_put C.x C.b C.ts in_R ty_R ok_R nm_R C.own hK h1 h2 h3 14 rfl rfl 10 (by decide) (C.ts _ hl) (fun _ h => h) rfl (ok_R 10 (by decide)) rfl rfl (Nat.le_of_ble_eq_true rfl) d (fun H1 locs1 g1 g2 g3 => k H1 locs1 ls g1 g2 g3 h4)
theorem get_WC_16_pegs (C : Cx p s m args c cc nL own) (hK : va_K D classes (tys cs) s) {idx : Nat} {v : Int32} (hv : μ.1 16 0 = v) (hl : Cond.fieldLink own idx "TentPegs$Field" "pegs" "I" ∈ TT) (d : decode cc pc = .ok (.getfield idx, 3)) (hp : pc + 3 = pc1) (k : G p l e R s m args below meth c Q D A nL (WC ad cs μ) pc1 L (.int v :: rest)) : G p l e R s m args below meth c Q D A nL (WC ad cs μ) pc L (.ref (ad 16) :: rest) := by
  subst hp
  subst hv
  intro H locs ls h1 h2 h3 h4
  exact va_get C.x C.b C.ts in_F C.own hK h1 16 rfl rfl 0 (by decide) (C.ts _ hl) (fun _ h => h) rfl d (k H locs ls h1 h2 h3 h4)
theorem put_WC_16_pegs (C : Cx p s m args c cc nL own) (hK : va_K D classes (tys cs) s) {idx : Nat} {v : Int32} (hl : Cond.fieldLink own idx "TentPegs$Field" "pegs" "I" ∈ TT) (d : decode cc pc = .ok (.putfield idx, 3)) (hp : pc + 3 = pc1) (k : G p l e R s m args below meth c Q D A nL (WC ad cs (stI μ 16 0 v)) pc1 L rest) : G p l e R s m args below meth c Q D A nL (WC ad cs μ) pc L (.int v :: .ref (ad 16) :: rest) := by
  subst hp
  intro H locs ls h1 h2 h3 h4
  exact va_put C.x C.b C.ts in_F ty_F ok_F nm_F C.own hK h1 h2 h3 16 rfl rfl 0 (by decide) (C.ts _ hl) (fun _ h => h) rfl (ok_F 0 (by decide)) rfl rfl (Nat.le_of_ble_eq_true rfl) d (fun H1 locs1 g1 g2 g3 => k H1 locs1 ls g1 g2 g3 h4)
theorem get_WC_16_wetness (C : Cx p s m args c cc nL own) (hK : va_K D classes (tys cs) s) {idx : Nat} {v : Int32} (hv : μ.1 16 1 = v) (hl : Cond.fieldLink own idx "TentPegs$Field" "wetness" "I" ∈ TT) (d : decode cc pc = .ok (.getfield idx, 3)) (hp : pc + 3 = pc1) (k : G p l e R s m args below meth c Q D A nL (WC ad cs μ) pc1 L (.int v :: rest)) : G p l e R s m args below meth c Q D A nL (WC ad cs μ) pc L (.ref (ad 16) :: rest) := by
  subst hp
  subst hv
  intro H locs ls h1 h2 h3 h4
  exact va_get C.x C.b C.ts in_F C.own hK h1 16 rfl rfl 1 (by decide) (C.ts _ hl) (fun _ h => h) rfl d (k H locs ls h1 h2 h3 h4)
theorem put_WC_16_wetness (C : Cx p s m args c cc nL own) (hK : va_K D classes (tys cs) s) {idx : Nat} {v : Int32} (hl : Cond.fieldLink own idx "TentPegs$Field" "wetness" "I" ∈ TT) (d : decode cc pc = .ok (.putfield idx, 3)) (hp : pc + 3 = pc1) (k : G p l e R s m args below meth c Q D A nL (WC ad cs (stI μ 16 1 v)) pc1 L rest) : G p l e R s m args below meth c Q D A nL (WC ad cs μ) pc L (.int v :: .ref (ad 16) :: rest) := by
  subst hp
  intro H locs ls h1 h2 h3 h4
  exact va_put C.x C.b C.ts in_F ty_F ok_F nm_F C.own hK h1 h2 h3 16 rfl rfl 1 (by decide) (C.ts _ hl) (fun _ h => h) rfl (ok_F 1 (by decide)) rfl rfl (Nat.le_of_ble_eq_true rfl) d (fun H1 locs1 g1 g2 g3 => k H1 locs1 ls g1 g2 g3 h4)
theorem get_WC_16_walls (C : Cx p s m args c cc nL own) (hK : va_K D classes (tys cs) s) {idx : Nat} {v : Int32} (hv : μ.1 16 2 = v) (hl : Cond.fieldLink own idx "TentPegs$Field" "walls" "I" ∈ TT) (d : decode cc pc = .ok (.getfield idx, 3)) (hp : pc + 3 = pc1) (k : G p l e R s m args below meth c Q D A nL (WC ad cs μ) pc1 L (.int v :: rest)) : G p l e R s m args below meth c Q D A nL (WC ad cs μ) pc L (.ref (ad 16) :: rest) := by
  subst hp
  subst hv
  intro H locs ls h1 h2 h3 h4
  exact va_get C.x C.b C.ts in_F C.own hK h1 16 rfl rfl 2 (by decide) (C.ts _ hl) (fun _ h => h) rfl d (k H locs ls h1 h2 h3 h4)
theorem put_WC_16_walls (C : Cx p s m args c cc nL own) (hK : va_K D classes (tys cs) s) {idx : Nat} {v : Int32} (hl : Cond.fieldLink own idx "TentPegs$Field" "walls" "I" ∈ TT) (d : decode cc pc = .ok (.putfield idx, 3)) (hp : pc + 3 = pc1) (k : G p l e R s m args below meth c Q D A nL (WC ad cs (stI μ 16 2 v)) pc1 L rest) : G p l e R s m args below meth c Q D A nL (WC ad cs μ) pc L (.int v :: .ref (ad 16) :: rest) := by
  subst hp
  intro H locs ls h1 h2 h3 h4
  exact va_put C.x C.b C.ts in_F ty_F ok_F nm_F C.own hK h1 h2 h3 16 rfl rfl 2 (by decide) (C.ts _ hl) (fun _ h => h) rfl (ok_F 2 (by decide)) rfl rfl (Nat.le_of_ble_eq_true rfl) d (fun H1 locs1 g1 g2 g3 => k H1 locs1 ls g1 g2 g3 h4)
theorem get_WC_16_standing (C : Cx p s m args c cc nL own) (hK : va_K D classes (tys cs) s) {idx : Nat} {v : Int32} (hv : μ.1 16 3 = v) (hl : Cond.fieldLink own idx "TentPegs$Field" "standing" "I" ∈ TT) (d : decode cc pc = .ok (.getfield idx, 3)) (hp : pc + 3 = pc1) (k : G p l e R s m args below meth c Q D A nL (WC ad cs μ) pc1 L (.int v :: rest)) : G p l e R s m args below meth c Q D A nL (WC ad cs μ) pc L (.ref (ad 16) :: rest) := by
  subst hp
  subst hv
  intro H locs ls h1 h2 h3 h4
  exact va_get C.x C.b C.ts in_F C.own hK h1 16 rfl rfl 3 (by decide) (C.ts _ hl) (fun _ h => h) rfl d (k H locs ls h1 h2 h3 h4)
theorem put_WC_16_standing (C : Cx p s m args c cc nL own) (hK : va_K D classes (tys cs) s) {idx : Nat} {v : Int32} (hl : Cond.fieldLink own idx "TentPegs$Field" "standing" "I" ∈ TT) (d : decode cc pc = .ok (.putfield idx, 3)) (hp : pc + 3 = pc1) (k : G p l e R s m args below meth c Q D A nL (WC ad cs (stI μ 16 3 v)) pc1 L rest) : G p l e R s m args below meth c Q D A nL (WC ad cs μ) pc L (.int v :: .ref (ad 16) :: rest) := by
  subst hp
  intro H locs ls h1 h2 h3 h4
  exact va_put C.x C.b C.ts in_F ty_F ok_F nm_F C.own hK h1 h2 h3 16 rfl rfl 3 (by decide) (C.ts _ hl) (fun _ h => h) rfl (ok_F 3 (by decide)) rfl rfl (Nat.le_of_ble_eq_true rfl) d (fun H1 locs1 g1 g2 g3 => k H1 locs1 ls g1 g2 g3 h4)
theorem get_WC_16_undoable (C : Cx p s m args c cc nL own) (hK : va_K D classes (tys cs) s) {idx : Nat} {v : Int32} (hv : μ.1 16 4 = v) (hl : Cond.fieldLink own idx "TentPegs$Field" "undoable" "I" ∈ TT) (d : decode cc pc = .ok (.getfield idx, 3)) (hp : pc + 3 = pc1) (k : G p l e R s m args below meth c Q D A nL (WC ad cs μ) pc1 L (.int v :: rest)) : G p l e R s m args below meth c Q D A nL (WC ad cs μ) pc L (.ref (ad 16) :: rest) := by
  subst hp
  subst hv
  intro H locs ls h1 h2 h3 h4
  exact va_get C.x C.b C.ts in_F C.own hK h1 16 rfl rfl 4 (by decide) (C.ts _ hl) (fun _ h => h) rfl d (k H locs ls h1 h2 h3 h4)
theorem put_WC_16_undoable (C : Cx p s m args c cc nL own) (hK : va_K D classes (tys cs) s) {idx : Nat} {v : Int32} (hl : Cond.fieldLink own idx "TentPegs$Field" "undoable" "I" ∈ TT) (d : decode cc pc = .ok (.putfield idx, 3)) (hp : pc + 3 = pc1) (k : G p l e R s m args below meth c Q D A nL (WC ad cs (stI μ 16 4 v)) pc1 L rest) : G p l e R s m args below meth c Q D A nL (WC ad cs μ) pc L (.int v :: .ref (ad 16) :: rest) := by
  subst hp
  intro H locs ls h1 h2 h3 h4
  exact va_put C.x C.b C.ts in_F ty_F ok_F nm_F C.own hK h1 h2 h3 16 rfl rfl 4 (by decide) (C.ts _ hl) (fun _ h => h) rfl (ok_F 4 (by decide)) rfl rfl (Nat.le_of_ble_eq_true rfl) d (fun H1 locs1 g1 g2 g3 => k H1 locs1 ls g1 g2 g3 h4)
theorem get_WC_16_kinds (C : Cx p s m args c cc nL own) (hK : va_K D classes (tys cs) s) {idx : Nat} (hl : Cond.fieldLink own idx "TentPegs$Field" "kinds" "[I" ∈ TT) (d : decode cc pc = .ok (.getfield idx, 3)) (hp : pc + 3 = pc1) (k : G p l e R s m args below meth c Q D A nL (WC ad cs μ) pc1 L (.ref (ad 17) :: rest)) : G p l e R s m args below meth c Q D A nL (WC ad cs μ) pc L (.ref (ad 16) :: rest) := by
  subst hp
  intro H locs ls h1 h2 h3 h4
  exact va_get C.x C.b C.ts in_F C.own hK h1 16 rfl rfl 5 (by decide) (C.ts _ hl) (fun _ h => h) rfl d (k H locs ls h1 h2 h3 h4)
theorem get_WC_16_depths (C : Cx p s m args c cc nL own) (hK : va_K D classes (tys cs) s) {idx : Nat} (hl : Cond.fieldLink own idx "TentPegs$Field" "depths" "[I" ∈ TT) (d : decode cc pc = .ok (.getfield idx, 3)) (hp : pc + 3 = pc1) (k : G p l e R s m args below meth c Q D A nL (WC ad cs μ) pc1 L (.ref (ad 18) :: rest)) : G p l e R s m args below meth c Q D A nL (WC ad cs μ) pc L (.ref (ad 16) :: rest) := by
  subst hp
  intro H locs ls h1 h2 h3 h4
  exact va_get C.x C.b C.ts in_F C.own hK h1 16 rfl rfl 6 (by decide) (C.ts _ hl) (fun _ h => h) rfl d (k H locs ls h1 h2 h3 h4)
theorem get_WC_16_grounds (C : Cx p s m args c cc nL own) (hK : va_K D classes (tys cs) s) {idx : Nat} (hl : Cond.fieldLink own idx "TentPegs$Field" "grounds" "[I" ∈ TT) (d : decode cc pc = .ok (.getfield idx, 3)) (hp : pc + 3 = pc1) (k : G p l e R s m args below meth c Q D A nL (WC ad cs μ) pc1 L (.ref (ad 19) :: rest)) : G p l e R s m args below meth c Q D A nL (WC ad cs μ) pc L (.ref (ad 16) :: rest) := by
  subst hp
  intro H locs ls h1 h2 h3 h4
  exact va_get C.x C.b C.ts in_F C.own hK h1 16 rfl rfl 7 (by decide) (C.ts _ hl) (fun _ h => h) rfl d (k H locs ls h1 h2 h3 h4)
theorem get_WC_16_chances (C : Cx p s m args c cc nL own) (hK : va_K D classes (tys cs) s) {idx : Nat} (hl : Cond.fieldLink own idx "TentPegs$Field" "chances" "[I" ∈ TT) (d : decode cc pc = .ok (.getfield idx, 3)) (hp : pc + 3 = pc1) (k : G p l e R s m args below meth c Q D A nL (WC ad cs μ) pc1 L (.ref (ad 20) :: rest)) : G p l e R s m args below meth c Q D A nL (WC ad cs μ) pc L (.ref (ad 16) :: rest) := by
  subst hp
  intro H locs ls h1 h2 h3 h4
  exact va_get C.x C.b C.ts in_F C.own hK h1 16 rfl rfl 8 (by decide) (C.ts _ hl) (fun _ h => h) rfl d (k H locs ls h1 h2 h3 h4)
theorem get_WC_16_stoodBefore (C : Cx p s m args c cc nL own) (hK : va_K D classes (tys cs) s) {idx : Nat} (hl : Cond.fieldLink own idx "TentPegs$Field" "stoodBefore" "[I" ∈ TT) (d : decode cc pc = .ok (.getfield idx, 3)) (hp : pc + 3 = pc1) (k : G p l e R s m args below meth c Q D A nL (WC ad cs μ) pc1 L (.ref (ad 21) :: rest)) : G p l e R s m args below meth c Q D A nL (WC ad cs μ) pc L (.ref (ad 16) :: rest) := by
  subst hp
  intro H locs ls h1 h2 h3 h4
  exact va_get C.x C.b C.ts in_F C.own hK h1 16 rfl rfl 9 (by decide) (C.ts _ hl) (fun _ h => h) rfl d (k H locs ls h1 h2 h3 h4)
theorem get_WC_23_pegs (C : Cx p s m args c cc nL own) (hK : va_K D classes (tys cs) s) {idx : Nat} {v : Int32} (hv : μ.1 23 0 = v) (hl : Cond.fieldLink own idx "TentPegs$Field" "pegs" "I" ∈ TT) (d : decode cc pc = .ok (.getfield idx, 3)) (hp : pc + 3 = pc1) (k : G p l e R s m args below meth c Q D A nL (WC ad cs μ) pc1 L (.int v :: rest)) : G p l e R s m args below meth c Q D A nL (WC ad cs μ) pc L (.ref (ad 23) :: rest) := by
  subst hp
  subst hv
  intro H locs ls h1 h2 h3 h4
  exact va_get C.x C.b C.ts in_F C.own hK h1 23 rfl rfl 0 (by decide) (C.ts _ hl) (fun _ h => h) rfl d (k H locs ls h1 h2 h3 h4)
theorem put_WC_23_pegs (C : Cx p s m args c cc nL own) (hK : va_K D classes (tys cs) s) {idx : Nat} {v : Int32} (hl : Cond.fieldLink own idx "TentPegs$Field" "pegs" "I" ∈ TT) (d : decode cc pc = .ok (.putfield idx, 3)) (hp : pc + 3 = pc1) (k : G p l e R s m args below meth c Q D A nL (WC ad cs (stI μ 23 0 v)) pc1 L rest) : G p l e R s m args below meth c Q D A nL (WC ad cs μ) pc L (.int v :: .ref (ad 23) :: rest) := by
  subst hp
  intro H locs ls h1 h2 h3 h4
  exact va_put C.x C.b C.ts in_F ty_F ok_F nm_F C.own hK h1 h2 h3 23 rfl rfl 0 (by decide) (C.ts _ hl) (fun _ h => h) rfl (ok_F 0 (by decide)) rfl rfl (Nat.le_of_ble_eq_true rfl) d (fun H1 locs1 g1 g2 g3 => k H1 locs1 ls g1 g2 g3 h4)
theorem get_WC_23_wetness (C : Cx p s m args c cc nL own) (hK : va_K D classes (tys cs) s) {idx : Nat} {v : Int32} (hv : μ.1 23 1 = v) (hl : Cond.fieldLink own idx "TentPegs$Field" "wetness" "I" ∈ TT) (d : decode cc pc = .ok (.getfield idx, 3)) (hp : pc + 3 = pc1) (k : G p l e R s m args below meth c Q D A nL (WC ad cs μ) pc1 L (.int v :: rest)) : G p l e R s m args below meth c Q D A nL (WC ad cs μ) pc L (.ref (ad 23) :: rest) := by
  subst hp
  subst hv
  intro H locs ls h1 h2 h3 h4
  exact va_get C.x C.b C.ts in_F C.own hK h1 23 rfl rfl 1 (by decide) (C.ts _ hl) (fun _ h => h) rfl d (k H locs ls h1 h2 h3 h4)
theorem put_WC_23_wetness (C : Cx p s m args c cc nL own) (hK : va_K D classes (tys cs) s) {idx : Nat} {v : Int32} (hl : Cond.fieldLink own idx "TentPegs$Field" "wetness" "I" ∈ TT) (d : decode cc pc = .ok (.putfield idx, 3)) (hp : pc + 3 = pc1) (k : G p l e R s m args below meth c Q D A nL (WC ad cs (stI μ 23 1 v)) pc1 L rest) : G p l e R s m args below meth c Q D A nL (WC ad cs μ) pc L (.int v :: .ref (ad 23) :: rest) := by
  subst hp
  intro H locs ls h1 h2 h3 h4
  exact va_put C.x C.b C.ts in_F ty_F ok_F nm_F C.own hK h1 h2 h3 23 rfl rfl 1 (by decide) (C.ts _ hl) (fun _ h => h) rfl (ok_F 1 (by decide)) rfl rfl (Nat.le_of_ble_eq_true rfl) d (fun H1 locs1 g1 g2 g3 => k H1 locs1 ls g1 g2 g3 h4)
theorem get_WC_23_walls (C : Cx p s m args c cc nL own) (hK : va_K D classes (tys cs) s) {idx : Nat} {v : Int32} (hv : μ.1 23 2 = v) (hl : Cond.fieldLink own idx "TentPegs$Field" "walls" "I" ∈ TT) (d : decode cc pc = .ok (.getfield idx, 3)) (hp : pc + 3 = pc1) (k : G p l e R s m args below meth c Q D A nL (WC ad cs μ) pc1 L (.int v :: rest)) : G p l e R s m args below meth c Q D A nL (WC ad cs μ) pc L (.ref (ad 23) :: rest) := by
  subst hp
  subst hv
  intro H locs ls h1 h2 h3 h4
  exact va_get C.x C.b C.ts in_F C.own hK h1 23 rfl rfl 2 (by decide) (C.ts _ hl) (fun _ h => h) rfl d (k H locs ls h1 h2 h3 h4)
theorem put_WC_23_walls (C : Cx p s m args c cc nL own) (hK : va_K D classes (tys cs) s) {idx : Nat} {v : Int32} (hl : Cond.fieldLink own idx "TentPegs$Field" "walls" "I" ∈ TT) (d : decode cc pc = .ok (.putfield idx, 3)) (hp : pc + 3 = pc1) (k : G p l e R s m args below meth c Q D A nL (WC ad cs (stI μ 23 2 v)) pc1 L rest) : G p l e R s m args below meth c Q D A nL (WC ad cs μ) pc L (.int v :: .ref (ad 23) :: rest) := by
  subst hp
  intro H locs ls h1 h2 h3 h4
  exact va_put C.x C.b C.ts in_F ty_F ok_F nm_F C.own hK h1 h2 h3 23 rfl rfl 2 (by decide) (C.ts _ hl) (fun _ h => h) rfl (ok_F 2 (by decide)) rfl rfl (Nat.le_of_ble_eq_true rfl) d (fun H1 locs1 g1 g2 g3 => k H1 locs1 ls g1 g2 g3 h4)
theorem get_WC_23_standing (C : Cx p s m args c cc nL own) (hK : va_K D classes (tys cs) s) {idx : Nat} {v : Int32} (hv : μ.1 23 3 = v) (hl : Cond.fieldLink own idx "TentPegs$Field" "standing" "I" ∈ TT) (d : decode cc pc = .ok (.getfield idx, 3)) (hp : pc + 3 = pc1) (k : G p l e R s m args below meth c Q D A nL (WC ad cs μ) pc1 L (.int v :: rest)) : G p l e R s m args below meth c Q D A nL (WC ad cs μ) pc L (.ref (ad 23) :: rest) := by
  subst hp
  subst hv
  intro H locs ls h1 h2 h3 h4
  exact va_get C.x C.b C.ts in_F C.own hK h1 23 rfl rfl 3 (by decide) (C.ts _ hl) (fun _ h => h) rfl d (k H locs ls h1 h2 h3 h4)
theorem put_WC_23_standing (C : Cx p s m args c cc nL own) (hK : va_K D classes (tys cs) s) {idx : Nat} {v : Int32} (hl : Cond.fieldLink own idx "TentPegs$Field" "standing" "I" ∈ TT) (d : decode cc pc = .ok (.putfield idx, 3)) (hp : pc + 3 = pc1) (k : G p l e R s m args below meth c Q D A nL (WC ad cs (stI μ 23 3 v)) pc1 L rest) : G p l e R s m args below meth c Q D A nL (WC ad cs μ) pc L (.int v :: .ref (ad 23) :: rest) := by
  subst hp
  intro H locs ls h1 h2 h3 h4
  exact va_put C.x C.b C.ts in_F ty_F ok_F nm_F C.own hK h1 h2 h3 23 rfl rfl 3 (by decide) (C.ts _ hl) (fun _ h => h) rfl (ok_F 3 (by decide)) rfl rfl (Nat.le_of_ble_eq_true rfl) d (fun H1 locs1 g1 g2 g3 => k H1 locs1 ls g1 g2 g3 h4)
theorem get_WC_23_undoable (C : Cx p s m args c cc nL own) (hK : va_K D classes (tys cs) s) {idx : Nat} {v : Int32} (hv : μ.1 23 4 = v) (hl : Cond.fieldLink own idx "TentPegs$Field" "undoable" "I" ∈ TT) (d : decode cc pc = .ok (.getfield idx, 3)) (hp : pc + 3 = pc1) (k : G p l e R s m args below meth c Q D A nL (WC ad cs μ) pc1 L (.int v :: rest)) : G p l e R s m args below meth c Q D A nL (WC ad cs μ) pc L (.ref (ad 23) :: rest) := by
  subst hp
  subst hv
  intro H locs ls h1 h2 h3 h4
  exact va_get C.x C.b C.ts in_F C.own hK h1 23 rfl rfl 4 (by decide) (C.ts _ hl) (fun _ h => h) rfl d (k H locs ls h1 h2 h3 h4)
theorem put_WC_23_undoable (C : Cx p s m args c cc nL own) (hK : va_K D classes (tys cs) s) {idx : Nat} {v : Int32} (hl : Cond.fieldLink own idx "TentPegs$Field" "undoable" "I" ∈ TT) (d : decode cc pc = .ok (.putfield idx, 3)) (hp : pc + 3 = pc1) (k : G p l e R s m args below meth c Q D A nL (WC ad cs (stI μ 23 4 v)) pc1 L rest) : G p l e R s m args below meth c Q D A nL (WC ad cs μ) pc L (.int v :: .ref (ad 23) :: rest) := by
  subst hp
  intro H locs ls h1 h2 h3 h4
  exact va_put C.x C.b C.ts in_F ty_F ok_F nm_F C.own hK h1 h2 h3 23 rfl rfl 4 (by decide) (C.ts _ hl) (fun _ h => h) rfl (ok_F 4 (by decide)) rfl rfl (Nat.le_of_ble_eq_true rfl) d (fun H1 locs1 g1 g2 g3 => k H1 locs1 ls g1 g2 g3 h4)
theorem get_WC_23_kinds (C : Cx p s m args c cc nL own) (hK : va_K D classes (tys cs) s) {idx : Nat} (hl : Cond.fieldLink own idx "TentPegs$Field" "kinds" "[I" ∈ TT) (d : decode cc pc = .ok (.getfield idx, 3)) (hp : pc + 3 = pc1) (k : G p l e R s m args below meth c Q D A nL (WC ad cs μ) pc1 L (.ref (ad 24) :: rest)) : G p l e R s m args below meth c Q D A nL (WC ad cs μ) pc L (.ref (ad 23) :: rest) := by
  subst hp
  intro H locs ls h1 h2 h3 h4
  exact va_get C.x C.b C.ts in_F C.own hK h1 23 rfl rfl 5 (by decide) (C.ts _ hl) (fun _ h => h) rfl d (k H locs ls h1 h2 h3 h4)
theorem get_WC_23_depths (C : Cx p s m args c cc nL own) (hK : va_K D classes (tys cs) s) {idx : Nat} (hl : Cond.fieldLink own idx "TentPegs$Field" "depths" "[I" ∈ TT) (d : decode cc pc = .ok (.getfield idx, 3)) (hp : pc + 3 = pc1) (k : G p l e R s m args below meth c Q D A nL (WC ad cs μ) pc1 L (.ref (ad 25) :: rest)) : G p l e R s m args below meth c Q D A nL (WC ad cs μ) pc L (.ref (ad 23) :: rest) := by
  subst hp
  intro H locs ls h1 h2 h3 h4
  exact va_get C.x C.b C.ts in_F C.own hK h1 23 rfl rfl 6 (by decide) (C.ts _ hl) (fun _ h => h) rfl d (k H locs ls h1 h2 h3 h4)
theorem get_WC_23_grounds (C : Cx p s m args c cc nL own) (hK : va_K D classes (tys cs) s) {idx : Nat} (hl : Cond.fieldLink own idx "TentPegs$Field" "grounds" "[I" ∈ TT) (d : decode cc pc = .ok (.getfield idx, 3)) (hp : pc + 3 = pc1) (k : G p l e R s m args below meth c Q D A nL (WC ad cs μ) pc1 L (.ref (ad 26) :: rest)) : G p l e R s m args below meth c Q D A nL (WC ad cs μ) pc L (.ref (ad 23) :: rest) := by
  subst hp
  intro H locs ls h1 h2 h3 h4
  exact va_get C.x C.b C.ts in_F C.own hK h1 23 rfl rfl 7 (by decide) (C.ts _ hl) (fun _ h => h) rfl d (k H locs ls h1 h2 h3 h4)
theorem get_WC_23_chances (C : Cx p s m args c cc nL own) (hK : va_K D classes (tys cs) s) {idx : Nat} (hl : Cond.fieldLink own idx "TentPegs$Field" "chances" "[I" ∈ TT) (d : decode cc pc = .ok (.getfield idx, 3)) (hp : pc + 3 = pc1) (k : G p l e R s m args below meth c Q D A nL (WC ad cs μ) pc1 L (.ref (ad 27) :: rest)) : G p l e R s m args below meth c Q D A nL (WC ad cs μ) pc L (.ref (ad 23) :: rest) := by
  subst hp
  intro H locs ls h1 h2 h3 h4
  exact va_get C.x C.b C.ts in_F C.own hK h1 23 rfl rfl 8 (by decide) (C.ts _ hl) (fun _ h => h) rfl d (k H locs ls h1 h2 h3 h4)
theorem get_WC_23_stoodBefore (C : Cx p s m args c cc nL own) (hK : va_K D classes (tys cs) s) {idx : Nat} (hl : Cond.fieldLink own idx "TentPegs$Field" "stoodBefore" "[I" ∈ TT) (d : decode cc pc = .ok (.getfield idx, 3)) (hp : pc + 3 = pc1) (k : G p l e R s m args below meth c Q D A nL (WC ad cs μ) pc1 L (.ref (ad 28) :: rest)) : G p l e R s m args below meth c Q D A nL (WC ad cs μ) pc L (.ref (ad 23) :: rest) := by
  subst hp
  intro H locs ls h1 h2 h3 h4
  exact va_get C.x C.b C.ts in_F C.own hK h1 23 rfl rfl 9 (by decide) (C.ts _ hl) (fun _ h => h) rfl d (k H locs ls h1 h2 h3 h4)
theorem get_WC_29_pegs (C : Cx p s m args c cc nL own) (hK : va_K D classes (tys cs) s) {idx : Nat} {v : Int32} (hv : μ.1 29 0 = v) (hl : Cond.fieldLink own idx "TentPegs$Field" "pegs" "I" ∈ TT) (d : decode cc pc = .ok (.getfield idx, 3)) (hp : pc + 3 = pc1) (k : G p l e R s m args below meth c Q D A nL (WC ad cs μ) pc1 L (.int v :: rest)) : G p l e R s m args below meth c Q D A nL (WC ad cs μ) pc L (.ref (ad 29) :: rest) := by
  subst hp
  subst hv
  intro H locs ls h1 h2 h3 h4
  exact va_get C.x C.b C.ts in_F C.own hK h1 29 rfl rfl 0 (by decide) (C.ts _ hl) (fun _ h => h) rfl d (k H locs ls h1 h2 h3 h4)
theorem put_WC_29_pegs (C : Cx p s m args c cc nL own) (hK : va_K D classes (tys cs) s) {idx : Nat} {v : Int32} (hl : Cond.fieldLink own idx "TentPegs$Field" "pegs" "I" ∈ TT) (d : decode cc pc = .ok (.putfield idx, 3)) (hp : pc + 3 = pc1) (k : G p l e R s m args below meth c Q D A nL (WC ad cs (stI μ 29 0 v)) pc1 L rest) : G p l e R s m args below meth c Q D A nL (WC ad cs μ) pc L (.int v :: .ref (ad 29) :: rest) := by
  subst hp
  intro H locs ls h1 h2 h3 h4
  exact va_put C.x C.b C.ts in_F ty_F ok_F nm_F C.own hK h1 h2 h3 29 rfl rfl 0 (by decide) (C.ts _ hl) (fun _ h => h) rfl (ok_F 0 (by decide)) rfl rfl (Nat.le_of_ble_eq_true rfl) d (fun H1 locs1 g1 g2 g3 => k H1 locs1 ls g1 g2 g3 h4)
theorem get_WC_29_wetness (C : Cx p s m args c cc nL own) (hK : va_K D classes (tys cs) s) {idx : Nat} {v : Int32} (hv : μ.1 29 1 = v) (hl : Cond.fieldLink own idx "TentPegs$Field" "wetness" "I" ∈ TT) (d : decode cc pc = .ok (.getfield idx, 3)) (hp : pc + 3 = pc1) (k : G p l e R s m args below meth c Q D A nL (WC ad cs μ) pc1 L (.int v :: rest)) : G p l e R s m args below meth c Q D A nL (WC ad cs μ) pc L (.ref (ad 29) :: rest) := by
  subst hp
  subst hv
  intro H locs ls h1 h2 h3 h4
  exact va_get C.x C.b C.ts in_F C.own hK h1 29 rfl rfl 1 (by decide) (C.ts _ hl) (fun _ h => h) rfl d (k H locs ls h1 h2 h3 h4)
theorem put_WC_29_wetness (C : Cx p s m args c cc nL own) (hK : va_K D classes (tys cs) s) {idx : Nat} {v : Int32} (hl : Cond.fieldLink own idx "TentPegs$Field" "wetness" "I" ∈ TT) (d : decode cc pc = .ok (.putfield idx, 3)) (hp : pc + 3 = pc1) (k : G p l e R s m args below meth c Q D A nL (WC ad cs (stI μ 29 1 v)) pc1 L rest) : G p l e R s m args below meth c Q D A nL (WC ad cs μ) pc L (.int v :: .ref (ad 29) :: rest) := by
  subst hp
  intro H locs ls h1 h2 h3 h4
  exact va_put C.x C.b C.ts in_F ty_F ok_F nm_F C.own hK h1 h2 h3 29 rfl rfl 1 (by decide) (C.ts _ hl) (fun _ h => h) rfl (ok_F 1 (by decide)) rfl rfl (Nat.le_of_ble_eq_true rfl) d (fun H1 locs1 g1 g2 g3 => k H1 locs1 ls g1 g2 g3 h4)
theorem get_WC_29_walls (C : Cx p s m args c cc nL own) (hK : va_K D classes (tys cs) s) {idx : Nat} {v : Int32} (hv : μ.1 29 2 = v) (hl : Cond.fieldLink own idx "TentPegs$Field" "walls" "I" ∈ TT) (d : decode cc pc = .ok (.getfield idx, 3)) (hp : pc + 3 = pc1) (k : G p l e R s m args below meth c Q D A nL (WC ad cs μ) pc1 L (.int v :: rest)) : G p l e R s m args below meth c Q D A nL (WC ad cs μ) pc L (.ref (ad 29) :: rest) := by
  subst hp
  subst hv
  intro H locs ls h1 h2 h3 h4
  exact va_get C.x C.b C.ts in_F C.own hK h1 29 rfl rfl 2 (by decide) (C.ts _ hl) (fun _ h => h) rfl d (k H locs ls h1 h2 h3 h4)
theorem put_WC_29_walls (C : Cx p s m args c cc nL own) (hK : va_K D classes (tys cs) s) {idx : Nat} {v : Int32} (hl : Cond.fieldLink own idx "TentPegs$Field" "walls" "I" ∈ TT) (d : decode cc pc = .ok (.putfield idx, 3)) (hp : pc + 3 = pc1) (k : G p l e R s m args below meth c Q D A nL (WC ad cs (stI μ 29 2 v)) pc1 L rest) : G p l e R s m args below meth c Q D A nL (WC ad cs μ) pc L (.int v :: .ref (ad 29) :: rest) := by
  subst hp
  intro H locs ls h1 h2 h3 h4
  exact va_put C.x C.b C.ts in_F ty_F ok_F nm_F C.own hK h1 h2 h3 29 rfl rfl 2 (by decide) (C.ts _ hl) (fun _ h => h) rfl (ok_F 2 (by decide)) rfl rfl (Nat.le_of_ble_eq_true rfl) d (fun H1 locs1 g1 g2 g3 => k H1 locs1 ls g1 g2 g3 h4)
theorem get_WC_29_standing (C : Cx p s m args c cc nL own) (hK : va_K D classes (tys cs) s) {idx : Nat} {v : Int32} (hv : μ.1 29 3 = v) (hl : Cond.fieldLink own idx "TentPegs$Field" "standing" "I" ∈ TT) (d : decode cc pc = .ok (.getfield idx, 3)) (hp : pc + 3 = pc1) (k : G p l e R s m args below meth c Q D A nL (WC ad cs μ) pc1 L (.int v :: rest)) : G p l e R s m args below meth c Q D A nL (WC ad cs μ) pc L (.ref (ad 29) :: rest) := by
  subst hp
  subst hv
  intro H locs ls h1 h2 h3 h4
  exact va_get C.x C.b C.ts in_F C.own hK h1 29 rfl rfl 3 (by decide) (C.ts _ hl) (fun _ h => h) rfl d (k H locs ls h1 h2 h3 h4)
theorem put_WC_29_standing (C : Cx p s m args c cc nL own) (hK : va_K D classes (tys cs) s) {idx : Nat} {v : Int32} (hl : Cond.fieldLink own idx "TentPegs$Field" "standing" "I" ∈ TT) (d : decode cc pc = .ok (.putfield idx, 3)) (hp : pc + 3 = pc1) (k : G p l e R s m args below meth c Q D A nL (WC ad cs (stI μ 29 3 v)) pc1 L rest) : G p l e R s m args below meth c Q D A nL (WC ad cs μ) pc L (.int v :: .ref (ad 29) :: rest) := by
  subst hp
  intro H locs ls h1 h2 h3 h4
  exact va_put C.x C.b C.ts in_F ty_F ok_F nm_F C.own hK h1 h2 h3 29 rfl rfl 3 (by decide) (C.ts _ hl) (fun _ h => h) rfl (ok_F 3 (by decide)) rfl rfl (Nat.le_of_ble_eq_true rfl) d (fun H1 locs1 g1 g2 g3 => k H1 locs1 ls g1 g2 g3 h4)
theorem get_WC_29_undoable (C : Cx p s m args c cc nL own) (hK : va_K D classes (tys cs) s) {idx : Nat} {v : Int32} (hv : μ.1 29 4 = v) (hl : Cond.fieldLink own idx "TentPegs$Field" "undoable" "I" ∈ TT) (d : decode cc pc = .ok (.getfield idx, 3)) (hp : pc + 3 = pc1) (k : G p l e R s m args below meth c Q D A nL (WC ad cs μ) pc1 L (.int v :: rest)) : G p l e R s m args below meth c Q D A nL (WC ad cs μ) pc L (.ref (ad 29) :: rest) := by
  subst hp
  subst hv
  intro H locs ls h1 h2 h3 h4
  exact va_get C.x C.b C.ts in_F C.own hK h1 29 rfl rfl 4 (by decide) (C.ts _ hl) (fun _ h => h) rfl d (k H locs ls h1 h2 h3 h4)
theorem put_WC_29_undoable (C : Cx p s m args c cc nL own) (hK : va_K D classes (tys cs) s) {idx : Nat} {v : Int32} (hl : Cond.fieldLink own idx "TentPegs$Field" "undoable" "I" ∈ TT) (d : decode cc pc = .ok (.putfield idx, 3)) (hp : pc + 3 = pc1) (k : G p l e R s m args below meth c Q D A nL (WC ad cs (stI μ 29 4 v)) pc1 L rest) : G p l e R s m args below meth c Q D A nL (WC ad cs μ) pc L (.int v :: .ref (ad 29) :: rest) := by
  subst hp
  intro H locs ls h1 h2 h3 h4
  exact va_put C.x C.b C.ts in_F ty_F ok_F nm_F C.own hK h1 h2 h3 29 rfl rfl 4 (by decide) (C.ts _ hl) (fun _ h => h) rfl (ok_F 4 (by decide)) rfl rfl (Nat.le_of_ble_eq_true rfl) d (fun H1 locs1 g1 g2 g3 => k H1 locs1 ls g1 g2 g3 h4)
theorem get_WC_29_kinds (C : Cx p s m args c cc nL own) (hK : va_K D classes (tys cs) s) {idx : Nat} (hl : Cond.fieldLink own idx "TentPegs$Field" "kinds" "[I" ∈ TT) (d : decode cc pc = .ok (.getfield idx, 3)) (hp : pc + 3 = pc1) (k : G p l e R s m args below meth c Q D A nL (WC ad cs μ) pc1 L (.ref (ad 30) :: rest)) : G p l e R s m args below meth c Q D A nL (WC ad cs μ) pc L (.ref (ad 29) :: rest) := by
  subst hp
  intro H locs ls h1 h2 h3 h4
  exact va_get C.x C.b C.ts in_F C.own hK h1 29 rfl rfl 5 (by decide) (C.ts _ hl) (fun _ h => h) rfl d (k H locs ls h1 h2 h3 h4)
theorem get_WC_29_depths (C : Cx p s m args c cc nL own) (hK : va_K D classes (tys cs) s) {idx : Nat} (hl : Cond.fieldLink own idx "TentPegs$Field" "depths" "[I" ∈ TT) (d : decode cc pc = .ok (.getfield idx, 3)) (hp : pc + 3 = pc1) (k : G p l e R s m args below meth c Q D A nL (WC ad cs μ) pc1 L (.ref (ad 31) :: rest)) : G p l e R s m args below meth c Q D A nL (WC ad cs μ) pc L (.ref (ad 29) :: rest) := by
  subst hp
  intro H locs ls h1 h2 h3 h4
  exact va_get C.x C.b C.ts in_F C.own hK h1 29 rfl rfl 6 (by decide) (C.ts _ hl) (fun _ h => h) rfl d (k H locs ls h1 h2 h3 h4)
theorem get_WC_29_grounds (C : Cx p s m args c cc nL own) (hK : va_K D classes (tys cs) s) {idx : Nat} (hl : Cond.fieldLink own idx "TentPegs$Field" "grounds" "[I" ∈ TT) (d : decode cc pc = .ok (.getfield idx, 3)) (hp : pc + 3 = pc1) (k : G p l e R s m args below meth c Q D A nL (WC ad cs μ) pc1 L (.ref (ad 32) :: rest)) : G p l e R s m args below meth c Q D A nL (WC ad cs μ) pc L (.ref (ad 29) :: rest) := by
  subst hp
  intro H locs ls h1 h2 h3 h4
  exact va_get C.x C.b C.ts in_F C.own hK h1 29 rfl rfl 7 (by decide) (C.ts _ hl) (fun _ h => h) rfl d (k H locs ls h1 h2 h3 h4)
theorem get_WC_29_chances (C : Cx p s m args c cc nL own) (hK : va_K D classes (tys cs) s) {idx : Nat} (hl : Cond.fieldLink own idx "TentPegs$Field" "chances" "[I" ∈ TT) (d : decode cc pc = .ok (.getfield idx, 3)) (hp : pc + 3 = pc1) (k : G p l e R s m args below meth c Q D A nL (WC ad cs μ) pc1 L (.ref (ad 33) :: rest)) : G p l e R s m args below meth c Q D A nL (WC ad cs μ) pc L (.ref (ad 29) :: rest) := by
  subst hp
  intro H locs ls h1 h2 h3 h4
  exact va_get C.x C.b C.ts in_F C.own hK h1 29 rfl rfl 8 (by decide) (C.ts _ hl) (fun _ h => h) rfl d (k H locs ls h1 h2 h3 h4)
theorem get_WC_29_stoodBefore (C : Cx p s m args c cc nL own) (hK : va_K D classes (tys cs) s) {idx : Nat} (hl : Cond.fieldLink own idx "TentPegs$Field" "stoodBefore" "[I" ∈ TT) (d : decode cc pc = .ok (.getfield idx, 3)) (hp : pc + 3 = pc1) (k : G p l e R s m args below meth c Q D A nL (WC ad cs μ) pc1 L (.ref (ad 34) :: rest)) : G p l e R s m args below meth c Q D A nL (WC ad cs μ) pc L (.ref (ad 29) :: rest) := by
  subst hp
  intro H locs ls h1 h2 h3 h4
  exact va_get C.x C.b C.ts in_F C.own hK h1 29 rfl rfl 9 (by decide) (C.ts _ hl) (fun _ h => h) rfl d (k H locs ls h1 h2 h3 h4)
theorem get_WM_0_thrown (C : Cx p s m args c cc nL own) (hK : va_K D classes (tys cs) s) {idx : Nat} {v : Int32} (hv : μ.1 0 0 = v) (hl : Cond.fieldLink own idx "TentPegsModel" "thrown" "I" ∈ TT) (d : decode cc pc = .ok (.getfield idx, 3)) (hp : pc + 3 = pc1) (k : G p l e R s m args below meth c Q D A nL (WM ad cs μ) pc1 L (.int v :: rest)) : G p l e R s m args below meth c Q D A nL (WM ad cs μ) pc L (.ref (ad 0) :: rest) := by
  subst hp
  subst hv
  intro H locs ls h1 h2 h3 h4
  exact va_get C.x C.b C.ts in_M C.own hK h1 0 rfl rfl 0 (by decide) (C.ts _ hl) (fun _ h => h) rfl d (k H locs ls h1 h2 h3 h4)
theorem put_WM_0_thrown (C : Cx p s m args c cc nL own) (hK : va_K D classes (tys cs) s) {idx : Nat} {v : Int32} (hl : Cond.fieldLink own idx "TentPegsModel" "thrown" "I" ∈ TT) (d : decode cc pc = .ok (.putfield idx, 3)) (hp : pc + 3 = pc1) (k : G p l e R s m args below meth c Q D A nL (WM ad cs (stI μ 0 0 v)) pc1 L rest) : G p l e R s m args below meth c Q D A nL (WM ad cs μ) pc L (.int v :: .ref (ad 0) :: rest) := by
  subst hp
  intro H locs ls h1 h2 h3 h4
  exact va_put C.x C.b C.ts in_M ty_M ok_M nm_M C.own hK h1 h2 h3 0 rfl rfl 0 (by decide) (C.ts _ hl) (fun _ h => h) rfl (ok_M 0 (by decide)) rfl rfl (Nat.le_of_ble_eq_true rfl) d (fun H1 locs1 g1 g2 g3 => k H1 locs1 ls g1 g2 g3 h4)
theorem get_WM_0_refused (C : Cx p s m args c cc nL own) (hK : va_K D classes (tys cs) s) {idx : Nat} (hl : Cond.fieldLink own idx "TentPegsModel" "refused" "[I" ∈ TT) (d : decode cc pc = .ok (.getfield idx, 3)) (hp : pc + 3 = pc1) (k : G p l e R s m args below meth c Q D A nL (WM ad cs μ) pc1 L (.ref (ad 1) :: rest)) : G p l e R s m args below meth c Q D A nL (WM ad cs μ) pc L (.ref (ad 0) :: rest) := by
  subst hp
  intro H locs ls h1 h2 h3 h4
  exact va_get C.x C.b C.ts in_M C.own hK h1 0 rfl rfl 1 (by decide) (C.ts _ hl) (fun _ h => h) rfl d (k H locs ls h1 h2 h3 h4)
theorem get_WM_0_field (C : Cx p s m args c cc nL own) (hK : va_K D classes (tys cs) s) {idx : Nat} (hl : Cond.fieldLink own idx "TentPegsModel" "field" "[I" ∈ TT) (d : decode cc pc = .ok (.getfield idx, 3)) (hp : pc + 3 = pc1) (k : G p l e R s m args below meth c Q D A nL (WM ad cs μ) pc1 L (.ref (ad 2) :: rest)) : G p l e R s m args below meth c Q D A nL (WM ad cs μ) pc L (.ref (ad 0) :: rest) := by
  subst hp
  intro H locs ls h1 h2 h3 h4
  exact va_get C.x C.b C.ts in_M C.own hK h1 0 rfl rfl 2 (by decide) (C.ts _ hl) (fun _ h => h) rfl d (k H locs ls h1 h2 h3 h4)
theorem get_WM_0_aside (C : Cx p s m args c cc nL own) (hK : va_K D classes (tys cs) s) {idx : Nat} (hl : Cond.fieldLink own idx "TentPegsModel" "aside" "[I" ∈ TT) (d : decode cc pc = .ok (.getfield idx, 3)) (hp : pc + 3 = pc1) (k : G p l e R s m args below meth c Q D A nL (WM ad cs μ) pc1 L (.ref (ad 3) :: rest)) : G p l e R s m args below meth c Q D A nL (WM ad cs μ) pc L (.ref (ad 0) :: rest) := by
  subst hp
  intro H locs ls h1 h2 h3 h4
  exact va_get C.x C.b C.ts in_M C.own hK h1 0 rfl rfl 3 (by decide) (C.ts _ hl) (fun _ h => h) rfl d (k H locs ls h1 h2 h3 h4)
theorem get_WM_0_kept (C : Cx p s m args c cc nL own) (hK : va_K D classes (tys cs) s) {idx : Nat} (hl : Cond.fieldLink own idx "TentPegsModel" "kept" "[I" ∈ TT) (d : decode cc pc = .ok (.getfield idx, 3)) (hp : pc + 3 = pc1) (k : G p l e R s m args below meth c Q D A nL (WM ad cs μ) pc1 L (.ref (ad 4) :: rest)) : G p l e R s m args below meth c Q D A nL (WM ad cs μ) pc L (.ref (ad 0) :: rest) := by
  subst hp
  intro H locs ls h1 h2 h3 h4
  exact va_get C.x C.b C.ts in_M C.own hK h1 0 rfl rfl 4 (by decide) (C.ts _ hl) (fun _ h => h) rfl d (k H locs ls h1 h2 h3 h4)
theorem get_WM_0_isKept (C : Cx p s m args c cc nL own) (hK : va_K D classes (tys cs) s) {idx : Nat} (hl : Cond.fieldLink own idx "TentPegsModel" "isKept" "[Z" ∈ TT) (d : decode cc pc = .ok (.getfield idx, 3)) (hp : pc + 3 = pc1) (k : G p l e R s m args below meth c Q D A nL (WM ad cs μ) pc1 L (.ref (ad 5) :: rest)) : G p l e R s m args below meth c Q D A nL (WM ad cs μ) pc L (.ref (ad 0) :: rest) := by
  subst hp
  intro H locs ls h1 h2 h3 h4
  exact va_get C.x C.b C.ts in_M C.own hK h1 0 rfl rfl 5 (by decide) (C.ts _ hl) (fun _ h => h) rfl d (k H locs ls h1 h2 h3 h4)
theorem get_WM_0_text (C : Cx p s m args c cc nL own) (hK : va_K D classes (tys cs) s) {idx : Nat} (hl : Cond.fieldLink own idx "TentPegsModel" "text" "[I" ∈ TT) (d : decode cc pc = .ok (.getfield idx, 3)) (hp : pc + 3 = pc1) (k : G p l e R s m args below meth c Q D A nL (WM ad cs μ) pc1 L (.ref (ad 6) :: rest)) : G p l e R s m args below meth c Q D A nL (WM ad cs μ) pc L (.ref (ad 0) :: rest) := by
  subst hp
  intro H locs ls h1 h2 h3 h4
  exact va_get C.x C.b C.ts in_M C.own hK h1 0 rfl rfl 6 (by decide) (C.ts _ hl) (fun _ h => h) rfl d (k H locs ls h1 h2 h3 h4)
theorem get_WM_0_size (C : Cx p s m args c cc nL own) (hK : va_K D classes (tys cs) s) {idx : Nat} {v : Int32} (hv : μ.1 0 7 = v) (hl : Cond.fieldLink own idx "TentPegsModel" "size" "I" ∈ TT) (d : decode cc pc = .ok (.getfield idx, 3)) (hp : pc + 3 = pc1) (k : G p l e R s m args below meth c Q D A nL (WM ad cs μ) pc1 L (.int v :: rest)) : G p l e R s m args below meth c Q D A nL (WM ad cs μ) pc L (.ref (ad 0) :: rest) := by
  subst hp
  subst hv
  intro H locs ls h1 h2 h3 h4
  exact va_get C.x C.b C.ts in_M C.own hK h1 0 rfl rfl 7 (by decide) (C.ts _ hl) (fun _ h => h) rfl d (k H locs ls h1 h2 h3 h4)
theorem put_WM_0_size (C : Cx p s m args c cc nL own) (hK : va_K D classes (tys cs) s) {idx : Nat} {v : Int32} (hl : Cond.fieldLink own idx "TentPegsModel" "size" "I" ∈ TT) (d : decode cc pc = .ok (.putfield idx, 3)) (hp : pc + 3 = pc1) (k : G p l e R s m args below meth c Q D A nL (WM ad cs (stI μ 0 7 v)) pc1 L rest) : G p l e R s m args below meth c Q D A nL (WM ad cs μ) pc L (.int v :: .ref (ad 0) :: rest) := by
  subst hp
  intro H locs ls h1 h2 h3 h4
  exact va_put C.x C.b C.ts in_M ty_M ok_M nm_M C.own hK h1 h2 h3 0 rfl rfl 7 (by decide) (C.ts _ hl) (fun _ h => h) rfl (ok_M 7 (by decide)) rfl rfl (Nat.le_of_ble_eq_true rfl) d (fun H1 locs1 g1 g2 g3 => k H1 locs1 ls g1 g2 g3 h4)
theorem get_WM_0_at (C : Cx p s m args c cc nL own) (hK : va_K D classes (tys cs) s) {idx : Nat} {v : Int32} (hv : μ.1 0 8 = v) (hl : Cond.fieldLink own idx "TentPegsModel" "at" "I" ∈ TT) (d : decode cc pc = .ok (.getfield idx, 3)) (hp : pc + 3 = pc1) (k : G p l e R s m args below meth c Q D A nL (WM ad cs μ) pc1 L (.int v :: rest)) : G p l e R s m args below meth c Q D A nL (WM ad cs μ) pc L (.ref (ad 0) :: rest) := by
  subst hp
  subst hv
  intro H locs ls h1 h2 h3 h4
  exact va_get C.x C.b C.ts in_M C.own hK h1 0 rfl rfl 8 (by decide) (C.ts _ hl) (fun _ h => h) rfl d (k H locs ls h1 h2 h3 h4)
theorem put_WM_0_at (C : Cx p s m args c cc nL own) (hK : va_K D classes (tys cs) s) {idx : Nat} {v : Int32} (hl : Cond.fieldLink own idx "TentPegsModel" "at" "I" ∈ TT) (d : decode cc pc = .ok (.putfield idx, 3)) (hp : pc + 3 = pc1) (k : G p l e R s m args below meth c Q D A nL (WM ad cs (stI μ 0 8 v)) pc1 L rest) : G p l e R s m args below meth c Q D A nL (WM ad cs μ) pc L (.int v :: .ref (ad 0) :: rest) := by
  subst hp
  intro H locs ls h1 h2 h3 h4
  exact va_put C.x C.b C.ts in_M ty_M ok_M nm_M C.own hK h1 h2 h3 0 rfl rfl 8 (by decide) (C.ts _ hl) (fun _ h => h) rfl (ok_M 8 (by decide)) rfl rfl (Nat.le_of_ble_eq_true rfl) d (fun H1 locs1 g1 g2 g3 => k H1 locs1 ls g1 g2 g3 h4)
theorem get_WM_0_start (C : Cx p s m args c cc nL own) (hK : va_K D classes (tys cs) s) {idx : Nat} {v : Int32} (hv : μ.1 0 9 = v) (hl : Cond.fieldLink own idx "TentPegsModel" "start" "I" ∈ TT) (d : decode cc pc = .ok (.getfield idx, 3)) (hp : pc + 3 = pc1) (k : G p l e R s m args below meth c Q D A nL (WM ad cs μ) pc1 L (.int v :: rest)) : G p l e R s m args below meth c Q D A nL (WM ad cs μ) pc L (.ref (ad 0) :: rest) := by
  subst hp
  subst hv
  intro H locs ls h1 h2 h3 h4
  exact va_get C.x C.b C.ts in_M C.own hK h1 0 rfl rfl 9 (by decide) (C.ts _ hl) (fun _ h => h) rfl d (k H locs ls h1 h2 h3 h4)
theorem put_WM_0_start (C : Cx p s m args c cc nL own) (hK : va_K D classes (tys cs) s) {idx : Nat} {v : Int32} (hl : Cond.fieldLink own idx "TentPegsModel" "start" "I" ∈ TT) (d : decode cc pc = .ok (.putfield idx, 3)) (hp : pc + 3 = pc1) (k : G p l e R s m args below meth c Q D A nL (WM ad cs (stI μ 0 9 v)) pc1 L rest) : G p l e R s m args below meth c Q D A nL (WM ad cs μ) pc L (.int v :: .ref (ad 0) :: rest) := by
  subst hp
  intro H locs ls h1 h2 h3 h4
  exact va_put C.x C.b C.ts in_M ty_M ok_M nm_M C.own hK h1 h2 h3 0 rfl rfl 9 (by decide) (C.ts _ hl) (fun _ h => h) rfl (ok_M 9 (by decide)) rfl rfl (Nat.le_of_ble_eq_true rfl) d (fun H1 locs1 g1 g2 g3 => k H1 locs1 ls g1 g2 g3 h4)
theorem get_WM_0_token (C : Cx p s m args c cc nL own) (hK : va_K D classes (tys cs) s) {idx : Nat} {v : Int32} (hv : μ.1 0 10 = v) (hl : Cond.fieldLink own idx "TentPegsModel" "token" "I" ∈ TT) (d : decode cc pc = .ok (.getfield idx, 3)) (hp : pc + 3 = pc1) (k : G p l e R s m args below meth c Q D A nL (WM ad cs μ) pc1 L (.int v :: rest)) : G p l e R s m args below meth c Q D A nL (WM ad cs μ) pc L (.ref (ad 0) :: rest) := by
  subst hp
  subst hv
  intro H locs ls h1 h2 h3 h4
  exact va_get C.x C.b C.ts in_M C.own hK h1 0 rfl rfl 10 (by decide) (C.ts _ hl) (fun _ h => h) rfl d (k H locs ls h1 h2 h3 h4)
theorem put_WM_0_token (C : Cx p s m args c cc nL own) (hK : va_K D classes (tys cs) s) {idx : Nat} {v : Int32} (hl : Cond.fieldLink own idx "TentPegsModel" "token" "I" ∈ TT) (d : decode cc pc = .ok (.putfield idx, 3)) (hp : pc + 3 = pc1) (k : G p l e R s m args below meth c Q D A nL (WM ad cs (stI μ 0 10 v)) pc1 L rest) : G p l e R s m args below meth c Q D A nL (WM ad cs μ) pc L (.int v :: .ref (ad 0) :: rest) := by
  subst hp
  intro H locs ls h1 h2 h3 h4
  exact va_put C.x C.b C.ts in_M ty_M ok_M nm_M C.own hK h1 h2 h3 0 rfl rfl 10 (by decide) (C.ts _ hl) (fun _ h => h) rfl (ok_M 10 (by decide)) rfl rfl (Nat.le_of_ble_eq_true rfl) d (fun H1 locs1 g1 g2 g3 => k H1 locs1 ls g1 g2 g3 h4)
theorem get_WM_0_value (C : Cx p s m args c cc nL own) (hK : va_K D classes (tys cs) s) {idx : Nat} {v : Int64} (hv : μ.2 11 = v) (hl : Cond.fieldLink own idx "TentPegsModel" "value" "J" ∈ TT) (d : decode cc pc = .ok (.getfield idx, 3)) (hp : pc + 3 = pc1) (k : G p l e R s m args below meth c Q D A nL (WM ad cs μ) pc1 L (.long v :: rest)) : G p l e R s m args below meth c Q D A nL (WM ad cs μ) pc L (.ref (ad 0) :: rest) := by
  subst hp
  subst hv
  intro H locs ls h1 h2 h3 h4
  exact va_get C.x C.b C.ts in_M C.own hK h1 0 rfl rfl 11 (by decide) (C.ts _ hl) (fun _ h => h) rfl d (k H locs ls h1 h2 h3 h4)
theorem put_WM_0_value (C : Cx p s m args c cc nL own) (hK : va_K D classes (tys cs) s) {idx : Nat} {v : Int64} (hl : Cond.fieldLink own idx "TentPegsModel" "value" "J" ∈ TT) (d : decode cc pc = .ok (.putfield idx, 3)) (hp : pc + 3 = pc1) (k : G p l e R s m args below meth c Q D A nL (WM ad cs (stL μ 11 v)) pc1 L rest) : G p l e R s m args below meth c Q D A nL (WM ad cs μ) pc L (.long v :: .ref (ad 0) :: rest) := by
  subst hp
  intro H locs ls h1 h2 h3 h4
  exact va_put C.x C.b C.ts in_M ty_M ok_M nm_M C.own hK h1 h2 h3 0 rfl rfl 11 (by decide) (C.ts _ hl) (fun _ h => h) rfl (ok_M 11 (by decide)) rfl rfl (Nat.le_of_ble_eq_true rfl) d (fun H1 locs1 g1 g2 g3 => k H1 locs1 ls g1 g2 g3 h4)
theorem get_WM_0_item (C : Cx p s m args c cc nL own) (hK : va_K D classes (tys cs) s) {idx : Nat} (hl : Cond.fieldLink own idx "TentPegsModel" "item" "[I" ∈ TT) (d : decode cc pc = .ok (.getfield idx, 3)) (hp : pc + 3 = pc1) (k : G p l e R s m args below meth c Q D A nL (WM ad cs μ) pc1 L (.ref (ad 7) :: rest)) : G p l e R s m args below meth c Q D A nL (WM ad cs μ) pc L (.ref (ad 0) :: rest) := by
  subst hp
  intro H locs ls h1 h2 h3 h4
  exact va_get C.x C.b C.ts in_M C.own hK h1 0 rfl rfl 12 (by decide) (C.ts _ hl) (fun _ h => h) rfl d (k H locs ls h1 h2 h3 h4)
theorem get_WM_0_items (C : Cx p s m args c cc nL own) (hK : va_K D classes (tys cs) s) {idx : Nat} {v : Int32} (hv : μ.1 0 13 = v) (hl : Cond.fieldLink own idx "TentPegsModel" "items" "I" ∈ TT) (d : decode cc pc = .ok (.getfield idx, 3)) (hp : pc + 3 = pc1) (k : G p l e R s m args below meth c Q D A nL (WM ad cs μ) pc1 L (.int v :: rest)) : G p l e R s m args below meth c Q D A nL (WM ad cs μ) pc L (.ref (ad 0) :: rest) := by
  subst hp
  subst hv
  intro H locs ls h1 h2 h3 h4
  exact va_get C.x C.b C.ts in_M C.own hK h1 0 rfl rfl 13 (by decide) (C.ts _ hl) (fun _ h => h) rfl d (k H locs ls h1 h2 h3 h4)
theorem put_WM_0_items (C : Cx p s m args c cc nL own) (hK : va_K D classes (tys cs) s) {idx : Nat} {v : Int32} (hl : Cond.fieldLink own idx "TentPegsModel" "items" "I" ∈ TT) (d : decode cc pc = .ok (.putfield idx, 3)) (hp : pc + 3 = pc1) (k : G p l e R s m args below meth c Q D A nL (WM ad cs (stI μ 0 13 v)) pc1 L rest) : G p l e R s m args below meth c Q D A nL (WM ad cs μ) pc L (.int v :: .ref (ad 0) :: rest) := by
  subst hp
  intro H locs ls h1 h2 h3 h4
  exact va_put C.x C.b C.ts in_M ty_M ok_M nm_M C.own hK h1 h2 h3 0 rfl rfl 13 (by decide) (C.ts _ hl) (fun _ h => h) rfl (ok_M 13 (by decide)) rfl rfl (Nat.le_of_ble_eq_true rfl) d (fun H1 locs1 g1 g2 g3 => k H1 locs1 ls g1 g2 g3 h4)
theorem get_WM_0_pull (C : Cx p s m args c cc nL own) (hK : va_K D classes (tys cs) s) {idx : Nat} (hl : Cond.fieldLink own idx "TentPegsModel" "pull" "[I" ∈ TT) (d : decode cc pc = .ok (.getfield idx, 3)) (hp : pc + 3 = pc1) (k : G p l e R s m args below meth c Q D A nL (WM ad cs μ) pc1 L (.ref (ad 8) :: rest)) : G p l e R s m args below meth c Q D A nL (WM ad cs μ) pc L (.ref (ad 0) :: rest) := by
  subst hp
  intro H locs ls h1 h2 h3 h4
  exact va_get C.x C.b C.ts in_M C.own hK h1 0 rfl rfl 14 (by decide) (C.ts _ hl) (fun _ h => h) rfl d (k H locs ls h1 h2 h3 h4)
theorem get_WM_0_row (C : Cx p s m args c cc nL own) (hK : va_K D classes (tys cs) s) {idx : Nat} (hl : Cond.fieldLink own idx "TentPegsModel" "row" "[I" ∈ TT) (d : decode cc pc = .ok (.getfield idx, 3)) (hp : pc + 3 = pc1) (k : G p l e R s m args below meth c Q D A nL (WM ad cs μ) pc1 L (.ref (ad 9) :: rest)) : G p l e R s m args below meth c Q D A nL (WM ad cs μ) pc L (.ref (ad 0) :: rest) := by
  subst hp
  intro H locs ls h1 h2 h3 h4
  exact va_get C.x C.b C.ts in_M C.own hK h1 0 rfl rfl 15 (by decide) (C.ts _ hl) (fun _ h => h) rfl d (k H locs ls h1 h2 h3 h4)
theorem get_WM_0_gone (C : Cx p s m args c cc nL own) (hK : va_K D classes (tys cs) s) {idx : Nat} {v : Int32} (hv : μ.1 0 16 = v) (hl : Cond.fieldLink own idx "TentPegsModel" "gone" "I" ∈ TT) (d : decode cc pc = .ok (.getfield idx, 3)) (hp : pc + 3 = pc1) (k : G p l e R s m args below meth c Q D A nL (WM ad cs μ) pc1 L (.int v :: rest)) : G p l e R s m args below meth c Q D A nL (WM ad cs μ) pc L (.ref (ad 0) :: rest) := by
  subst hp
  subst hv
  intro H locs ls h1 h2 h3 h4
  exact va_get C.x C.b C.ts in_M C.own hK h1 0 rfl rfl 16 (by decide) (C.ts _ hl) (fun _ h => h) rfl d (k H locs ls h1 h2 h3 h4)
theorem put_WM_0_gone (C : Cx p s m args c cc nL own) (hK : va_K D classes (tys cs) s) {idx : Nat} {v : Int32} (hl : Cond.fieldLink own idx "TentPegsModel" "gone" "I" ∈ TT) (d : decode cc pc = .ok (.putfield idx, 3)) (hp : pc + 3 = pc1) (k : G p l e R s m args below meth c Q D A nL (WM ad cs (stI μ 0 16 v)) pc1 L rest) : G p l e R s m args below meth c Q D A nL (WM ad cs μ) pc L (.int v :: .ref (ad 0) :: rest) := by
  subst hp
  intro H locs ls h1 h2 h3 h4
  exact va_put C.x C.b C.ts in_M ty_M ok_M nm_M C.own hK h1 h2 h3 0 rfl rfl 16 (by decide) (C.ts _ hl) (fun _ h => h) rfl (ok_M 16 (by decide)) rfl rfl (Nat.le_of_ble_eq_true rfl) d (fun H1 locs1 g1 g2 g3 => k H1 locs1 ls g1 g2 g3 h4)
theorem get_WM_0_above (C : Cx p s m args c cc nL own) (hK : va_K D classes (tys cs) s) {idx : Nat} {v : Int64} (hv : μ.2 17 = v) (hl : Cond.fieldLink own idx "TentPegsModel" "above" "J" ∈ TT) (d : decode cc pc = .ok (.getfield idx, 3)) (hp : pc + 3 = pc1) (k : G p l e R s m args below meth c Q D A nL (WM ad cs μ) pc1 L (.long v :: rest)) : G p l e R s m args below meth c Q D A nL (WM ad cs μ) pc L (.ref (ad 0) :: rest) := by
  subst hp
  subst hv
  intro H locs ls h1 h2 h3 h4
  exact va_get C.x C.b C.ts in_M C.own hK h1 0 rfl rfl 17 (by decide) (C.ts _ hl) (fun _ h => h) rfl d (k H locs ls h1 h2 h3 h4)
theorem put_WM_0_above (C : Cx p s m args c cc nL own) (hK : va_K D classes (tys cs) s) {idx : Nat} {v : Int64} (hl : Cond.fieldLink own idx "TentPegsModel" "above" "J" ∈ TT) (d : decode cc pc = .ok (.putfield idx, 3)) (hp : pc + 3 = pc1) (k : G p l e R s m args below meth c Q D A nL (WM ad cs (stL μ 17 v)) pc1 L rest) : G p l e R s m args below meth c Q D A nL (WM ad cs μ) pc L (.long v :: .ref (ad 0) :: rest) := by
  subst hp
  intro H locs ls h1 h2 h3 h4
  exact va_put C.x C.b C.ts in_M ty_M ok_M nm_M C.own hK h1 h2 h3 0 rfl rfl 17 (by decide) (C.ts _ hl) (fun _ h => h) rfl (ok_M 17 (by decide)) rfl rfl (Nat.le_of_ble_eq_true rfl) d (fun H1 locs1 g1 g2 g3 => k H1 locs1 ls g1 g2 g3 h4)
theorem get_WM_0_below (C : Cx p s m args c cc nL own) (hK : va_K D classes (tys cs) s) {idx : Nat} {v : Int64} (hv : μ.2 18 = v) (hl : Cond.fieldLink own idx "TentPegsModel" "below" "J" ∈ TT) (d : decode cc pc = .ok (.getfield idx, 3)) (hp : pc + 3 = pc1) (k : G p l e R s m args below meth c Q D A nL (WM ad cs μ) pc1 L (.long v :: rest)) : G p l e R s m args below meth c Q D A nL (WM ad cs μ) pc L (.ref (ad 0) :: rest) := by
  subst hp
  subst hv
  intro H locs ls h1 h2 h3 h4
  exact va_get C.x C.b C.ts in_M C.own hK h1 0 rfl rfl 18 (by decide) (C.ts _ hl) (fun _ h => h) rfl d (k H locs ls h1 h2 h3 h4)
theorem put_WM_0_below (C : Cx p s m args c cc nL own) (hK : va_K D classes (tys cs) s) {idx : Nat} {v : Int64} (hl : Cond.fieldLink own idx "TentPegsModel" "below" "J" ∈ TT) (d : decode cc pc = .ok (.putfield idx, 3)) (hp : pc + 3 = pc1) (k : G p l e R s m args below meth c Q D A nL (WM ad cs (stL μ 18 v)) pc1 L rest) : G p l e R s m args below meth c Q D A nL (WM ad cs μ) pc L (.long v :: .ref (ad 0) :: rest) := by
  subst hp
  intro H locs ls h1 h2 h3 h4
  exact va_put C.x C.b C.ts in_M ty_M ok_M nm_M C.own hK h1 h2 h3 0 rfl rfl 18 (by decide) (C.ts _ hl) (fun _ h => h) rfl (ok_M 18 (by decide)) rfl rfl (Nat.le_of_ble_eq_true rfl) d (fun H1 locs1 g1 g2 g3 => k H1 locs1 ls g1 g2 g3 h4)
theorem get_WM_0_orders (C : Cx p s m args c cc nL own) (hK : va_K D classes (tys cs) s) {idx : Nat} (hl : Cond.fieldLink own idx "TentPegsModel" "orders" "[I" ∈ TT) (d : decode cc pc = .ok (.getfield idx, 3)) (hp : pc + 3 = pc1) (k : G p l e R s m args below meth c Q D A nL (WM ad cs μ) pc1 L (.ref (ad 10) :: rest)) : G p l e R s m args below meth c Q D A nL (WM ad cs μ) pc L (.ref (ad 0) :: rest) := by
  subst hp
  intro H locs ls h1 h2 h3 h4
  exact va_get C.x C.b C.ts in_M C.own hK h1 0 rfl rfl 19 (by decide) (C.ts _ hl) (fun _ h => h) rfl d (k H locs ls h1 h2 h3 h4)
theorem get_WM_0_drawn (C : Cx p s m args c cc nL own) (hK : va_K D classes (tys cs) s) {idx : Nat} {v : Int64} (hv : μ.2 20 = v) (hl : Cond.fieldLink own idx "TentPegsModel" "drawn" "J" ∈ TT) (d : decode cc pc = .ok (.getfield idx, 3)) (hp : pc + 3 = pc1) (k : G p l e R s m args below meth c Q D A nL (WM ad cs μ) pc1 L (.long v :: rest)) : G p l e R s m args below meth c Q D A nL (WM ad cs μ) pc L (.ref (ad 0) :: rest) := by
  subst hp
  subst hv
  intro H locs ls h1 h2 h3 h4
  exact va_get C.x C.b C.ts in_M C.own hK h1 0 rfl rfl 20 (by decide) (C.ts _ hl) (fun _ h => h) rfl d (k H locs ls h1 h2 h3 h4)
theorem put_WM_0_drawn (C : Cx p s m args c cc nL own) (hK : va_K D classes (tys cs) s) {idx : Nat} {v : Int64} (hl : Cond.fieldLink own idx "TentPegsModel" "drawn" "J" ∈ TT) (d : decode cc pc = .ok (.putfield idx, 3)) (hp : pc + 3 = pc1) (k : G p l e R s m args below meth c Q D A nL (WM ad cs (stL μ 20 v)) pc1 L rest) : G p l e R s m args below meth c Q D A nL (WM ad cs μ) pc L (.long v :: .ref (ad 0) :: rest) := by
  subst hp
  intro H locs ls h1 h2 h3 h4
  exact va_put C.x C.b C.ts in_M ty_M ok_M nm_M C.own hK h1 h2 h3 0 rfl rfl 20 (by decide) (C.ts _ hl) (fun _ h => h) rfl (ok_M 20 (by decide)) rfl rfl (Nat.le_of_ble_eq_true rfl) d (fun H1 locs1 g1 g2 g3 => k H1 locs1 ls g1 g2 g3 h4)
theorem get_WM_0_lostBehind (C : Cx p s m args c cc nL own) (hK : va_K D classes (tys cs) s) {idx : Nat} {v : Int32} (hv : μ.1 0 21 = v) (hl : Cond.fieldLink own idx "TentPegsModel" "lostBehind" "I" ∈ TT) (d : decode cc pc = .ok (.getfield idx, 3)) (hp : pc + 3 = pc1) (k : G p l e R s m args below meth c Q D A nL (WM ad cs μ) pc1 L (.int v :: rest)) : G p l e R s m args below meth c Q D A nL (WM ad cs μ) pc L (.ref (ad 0) :: rest) := by
  subst hp
  subst hv
  intro H locs ls h1 h2 h3 h4
  exact va_get C.x C.b C.ts in_M C.own hK h1 0 rfl rfl 21 (by decide) (C.ts _ hl) (fun _ h => h) rfl d (k H locs ls h1 h2 h3 h4)
theorem put_WM_0_lostBehind (C : Cx p s m args c cc nL own) (hK : va_K D classes (tys cs) s) {idx : Nat} {v : Int32} (hl : Cond.fieldLink own idx "TentPegsModel" "lostBehind" "I" ∈ TT) (d : decode cc pc = .ok (.putfield idx, 3)) (hp : pc + 3 = pc1) (k : G p l e R s m args below meth c Q D A nL (WM ad cs (stI μ 0 21 v)) pc1 L rest) : G p l e R s m args below meth c Q D A nL (WM ad cs μ) pc L (.int v :: .ref (ad 0) :: rest) := by
  subst hp
  intro H locs ls h1 h2 h3 h4
  exact va_put C.x C.b C.ts in_M ty_M ok_M nm_M C.own hK h1 h2 h3 0 rfl rfl 21 (by decide) (C.ts _ hl) (fun _ h => h) rfl (ok_M 21 (by decide)) rfl rfl (Nat.le_of_ble_eq_true rfl) d (fun H1 locs1 g1 g2 g3 => k H1 locs1 ls g1 g2 g3 h4)
end ROWS
end
section
/-! Words, names, decode rows. Printed by wip/whole/drive.py. -/
def isZ (v : Int32) : Bool := decide (v = 0 ∨ v = 1)
theorem isZ_n {v : Int32} (h : isZ v = true) : narrow .boolean (.int v) = .int v := by
  have h1 : v = 0 ∨ v = 1 := of_decide_eq_true h
  rcases h1 with rfl | rfl <;> rfl
theorem bp_7 : (Int8.ofInt (7)).toInt32 = 7 := by decide
theorem bp_8 : (Int8.ofInt (8)).toInt32 = 8 := by decide
theorem bp_9 : (Int8.ofInt (9)).toInt32 = 9 := by decide
theorem bp_10 : (Int8.ofInt (10)).toInt32 = 10 := by decide
theorem bp_60 : (Int8.ofInt (60)).toInt32 = 60 := by decide
theorem ic_0 : Int32.ofInt (0) = 0 := by decide
theorem ic_1 : Int32.ofInt (1) = 1 := by decide
theorem ic_5 : Int32.ofInt (5) = 5 := by decide
def y_T_within : MethodName := ⟨"TentPegs", "within", "(III)Z"⟩
abbrev b_T_within : ByteArray := prog_1_method_41_code
def y_T_isWay : MethodName := ⟨"TentPegs", "isWay", "(I)Z"⟩
abbrev b_T_isWay : ByteArray := prog_1_method_42_code
def y_T_isStrength : MethodName := ⟨"TentPegs", "isStrength", "(I)Z"⟩
abbrev b_T_isStrength : ByteArray := prog_1_method_43_code
def y_F_hasPeg : MethodName := ⟨"TentPegs$Field", "hasPeg", "(I)Z"⟩
abbrev b_F_hasPeg : ByteArray := prog_2_method_4_code
def y_G_behind : MethodName := ⟨"TentPegs$Gale", "behind", "(I)I"⟩
abbrev b_G_behind : ByteArray := prog_3_method_7_code
def y_T_has : MethodName := ⟨"TentPegs", "has", "(II)Z"⟩
abbrev b_T_has : ByteArray := prog_1_method_47_code
def y_T_isGust : MethodName := ⟨"TentPegs", "isGust", "(II)Z"⟩
abbrev b_T_isGust : ByteArray := prog_1_method_44_code
def y_F_mayDrive : MethodName := ⟨"TentPegs$Field", "mayDrive", "(IIII)Z"⟩
abbrev b_F_mayDrive : ByteArray := prog_2_method_5_code
def y_F_allChances : MethodName := ⟨"TentPegs$Field", "allChances", "()I"⟩
abbrev b_F_allChances : ByteArray := prog_2_method_11_code
def y_F_remember : MethodName := ⟨"TentPegs$Field", "remember", "()V"⟩
abbrev b_F_remember : ByteArray := prog_2_method_12_code
def y_G_standingBehind : MethodName := ⟨"TentPegs$Gale", "standingBehind", "(I)I"⟩
abbrev b_G_standingBehind : ByteArray := prog_3_method_17_code
theorem kw_0 : Cond.methodLink "TentPegs" 128 y_T_within ∈ TT := tm 360 (by decide +kernel) (by decide +kernel)
theorem kw_1 : Cond.methodLink "TentPegs" 107 y_T_isWay ∈ TT := tm 357 (by decide +kernel) (by decide +kernel)
theorem kw_2 : Cond.methodLink "TentPegs" 240 y_T_isStrength ∈ TT := tm 556 (by decide +kernel) (by decide +kernel)
theorem kw_3 : Cond.fieldLink "TentPegs$Field" 35 "TentPegs$Field" "pegs" "I" ∈ TT := tm 108 (by decide +kernel) (by decide +kernel)
theorem kw_4 : Cond.methodLink "TentPegs$Field" 55 y_F_hasPeg ∈ TT := tm 341 (by decide +kernel) (by decide +kernel)
theorem kw_5 : Cond.fieldLink "TentPegs$Field" 21 "TentPegs$Field" "chances" "[I" ∈ TT := tm 135 (by decide +kernel) (by decide +kernel)
theorem kw_6 : Cond.fieldLink "TentPegs$Field" 48 "TentPegs$Field" "undoable" "I" ∈ TT := tm 123 (by decide +kernel) (by decide +kernel)
theorem kw_7 : Cond.fieldLink "TentPegs$Field" 24 "TentPegs$Field" "stoodBefore" "[I" ∈ TT := tm 139 (by decide +kernel) (by decide +kernel)
theorem kw_8 : Cond.methodLink "TentPegs$Field" 70 arraycopyName ∈ TT := tm 546 (by decide +kernel) (by decide +kernel)
theorem kw_9 : Cond.native arraycopyName ∈ TT := tm 548 (by decide +kernel) (by decide +kernel)
theorem kw_10 : Cond.static arraycopyName ∈ TT := tm 547 (by decide +kernel) (by decide +kernel)
theorem kw_11 : Cond.initialized "java/lang/System" ∈ TT := tm 83 (by decide +kernel) (by decide +kernel)
theorem kw_12 : Cond.fieldLink "TentPegs$Field" 45 "TentPegs$Field" "standing" "I" ∈ TT := tm 119 (by decide +kernel) (by decide +kernel)
theorem kw_13 : Cond.fieldLink "TentPegs$Gale" 34 "TentPegs$Gale" "field" "LTentPegs$Field;" ∈ TT := tm 168 (by decide +kernel) (by decide +kernel)
theorem kw_14 : Cond.fieldLink "TentPegs$Gale" 42 "TentPegs$Field" "pegs" "I" ∈ TT := tm 109 (by decide +kernel) (by decide +kernel)
theorem kw_15 : Cond.methodLink "TentPegs$Gale" 77 y_G_behind ∈ TT := tm 628 (by decide +kernel) (by decide +kernel)
theorem kw_16 : Cond.fieldLink "TentPegs$Gale" 22 "TentPegs$Gale" "standing" "I" ∈ TT := tm 174 (by decide +kernel) (by decide +kernel)
theorem s_T_within : SY y_T_within b_T_within 3 (some .boolean) 3 := ⟨tm 327 (by decide +kernel) (by decide +kernel), tm 326 (by decide +kernel) (by decide +kernel), tm 72 (by decide +kernel) (by decide +kernel), by decide +kernel⟩
theorem s_T_isWay : SY y_T_isWay b_T_isWay 1 (some .boolean) 1 := ⟨tm 359 (by decide +kernel) (by decide +kernel), tm 358 (by decide +kernel) (by decide +kernel), tm 72 (by decide +kernel) (by decide +kernel), by decide +kernel⟩
theorem s_T_isStrength : SY y_T_isStrength b_T_isStrength 1 (some .boolean) 1 := ⟨tm 558 (by decide +kernel) (by decide +kernel), tm 557 (by decide +kernel) (by decide +kernel), tm 72 (by decide +kernel) (by decide +kernel), by decide +kernel⟩
theorem s_F_hasPeg : VY y_F_hasPeg b_F_hasPeg 2 (some .boolean) 1 := ⟨tm 344 (by decide +kernel) (by decide +kernel), tm 342 (by decide +kernel) (by decide +kernel), tm 343 (by decide +kernel) (by decide +kernel), tm 73 (by decide +kernel) (by decide +kernel), by decide +kernel⟩
theorem s_G_behind : VY y_G_behind b_G_behind 2 (some .int) 1 := ⟨tm 631 (by decide +kernel) (by decide +kernel), tm 630 (by decide +kernel) (by decide +kernel), tm 23 (by decide +kernel) (by decide +kernel), tm 74 (by decide +kernel) (by decide +kernel), by decide +kernel⟩
theorem s_T_has : SY y_T_has b_T_has 2 (some .boolean) 2 := ⟨tm 367 (by decide +kernel) (by decide +kernel), tm 366 (by decide +kernel) (by decide +kernel), tm 72 (by decide +kernel) (by decide +kernel), by decide +kernel⟩
theorem s_T_isGust : SY y_T_isGust b_T_isGust 2 (some .boolean) 2 := ⟨tm 555 (by decide +kernel) (by decide +kernel), tm 554 (by decide +kernel) (by decide +kernel), tm 72 (by decide +kernel) (by decide +kernel), by decide +kernel⟩
theorem s_F_mayDrive : VY y_F_mayDrive b_F_mayDrive 5 (some .boolean) 4 := ⟨tm 340 (by decide +kernel) (by decide +kernel), tm 338 (by decide +kernel) (by decide +kernel), tm 339 (by decide +kernel) (by decide +kernel), tm 73 (by decide +kernel) (by decide +kernel), by decide +kernel⟩
theorem s_F_allChances : VY y_F_allChances b_F_allChances 3 (some .int) 0 := ⟨tm 734 (by decide +kernel) (by decide +kernel), tm 732 (by decide +kernel) (by decide +kernel), tm 733 (by decide +kernel) (by decide +kernel), tm 73 (by decide +kernel) (by decide +kernel), by decide +kernel⟩
theorem s_F_remember : VY y_F_remember b_F_remember 1 none 0 := ⟨tm 571 (by decide +kernel) (by decide +kernel), tm 569 (by decide +kernel) (by decide +kernel), tm 570 (by decide +kernel) (by decide +kernel), tm 73 (by decide +kernel) (by decide +kernel), by decide +kernel⟩
theorem s_G_standingBehind : VY y_G_standingBehind b_G_standingBehind 4 (some .int) 1 := ⟨tm 640 (by decide +kernel) (by decide +kernel), tm 639 (by decide +kernel) (by decide +kernel), tm 25 (by decide +kernel) (by decide +kernel), tm 74 (by decide +kernel) (by decide +kernel), by decide +kernel⟩
end
section
theorem d_T_within_0 : decode b_T_within 0 = .ok (.iload_n 1, 1) := by decide +kernel
theorem d_T_within_1 : decode b_T_within 1 = .ok (.iload_n 0, 1) := by decide +kernel
theorem d_T_within_2 : decode b_T_within 2 = .ok (.if_icmp .gt 12, 3) := by decide +kernel
theorem d_T_within_5 : decode b_T_within 5 = .ok (.iload_n 0, 1) := by decide +kernel
theorem d_T_within_6 : decode b_T_within 6 = .ok (.iload_n 2, 1) := by decide +kernel
theorem d_T_within_7 : decode b_T_within 7 = .ok (.if_icmp .gt 7, 3) := by decide +kernel
theorem d_T_within_10 : decode b_T_within 10 = .ok (.iconst 1, 1) := by decide +kernel
theorem d_T_within_11 : decode b_T_within 11 = .ok (.goto 4, 3) := by decide +kernel
theorem d_T_within_14 : decode b_T_within 14 = .ok (.iconst 0, 1) := by decide +kernel
theorem d_T_within_15 : decode b_T_within 15 = .ok (.ireturn, 1) := by decide +kernel
theorem d_T_isWay_0 : decode b_T_isWay 0 = .ok (.iload_n 0, 1) := by decide +kernel
theorem d_T_isWay_1 : decode b_T_isWay 1 = .ok (.iconst 0, 1) := by decide +kernel
theorem d_T_isWay_2 : decode b_T_isWay 2 = .ok (.bipush 7, 2) := by decide +kernel
theorem d_T_isWay_4 : decode b_T_isWay 4 = .ok (.invokestatic 128, 3) := by decide +kernel
theorem d_T_isWay_7 : decode b_T_isWay 7 = .ok (.ireturn, 1) := by decide +kernel
theorem d_T_isStrength_0 : decode b_T_isStrength 0 = .ok (.iload_n 0, 1) := by decide +kernel
theorem d_T_isStrength_1 : decode b_T_isStrength 1 = .ok (.iconst 0, 1) := by decide +kernel
theorem d_T_isStrength_2 : decode b_T_isStrength 2 = .ok (.bipush 60, 2) := by decide +kernel
theorem d_T_isStrength_4 : decode b_T_isStrength 4 = .ok (.invokestatic 128, 3) := by decide +kernel
theorem d_T_isStrength_7 : decode b_T_isStrength 7 = .ok (.ireturn, 1) := by decide +kernel
theorem d_T_isGust_0 : decode b_T_isGust 0 = .ok (.iload_n 0, 1) := by decide +kernel
theorem d_T_isGust_1 : decode b_T_isGust 1 = .ok (.invokestatic 107, 3) := by decide +kernel
theorem d_T_isGust_4 : decode b_T_isGust 4 = .ok (.ifCond .eq 14, 3) := by decide +kernel
theorem d_T_isGust_7 : decode b_T_isGust 7 = .ok (.iload_n 1, 1) := by decide +kernel
theorem d_T_isGust_8 : decode b_T_isGust 8 = .ok (.invokestatic 240, 3) := by decide +kernel
theorem d_T_isGust_11 : decode b_T_isGust 11 = .ok (.ifCond .eq 7, 3) := by decide +kernel
theorem d_T_isGust_14 : decode b_T_isGust 14 = .ok (.iconst 1, 1) := by decide +kernel
theorem d_T_isGust_15 : decode b_T_isGust 15 = .ok (.goto 4, 3) := by decide +kernel
theorem d_T_isGust_18 : decode b_T_isGust 18 = .ok (.iconst 0, 1) := by decide +kernel
theorem d_T_isGust_19 : decode b_T_isGust 19 = .ok (.ireturn, 1) := by decide +kernel
theorem d_T_has_0 : decode b_T_has 0 = .ok (.iload_n 0, 1) := by decide +kernel
theorem d_T_has_1 : decode b_T_has 1 = .ok (.iload_n 1, 1) := by decide +kernel
theorem d_T_has_2 : decode b_T_has 2 = .ok (.ishr, 1) := by decide +kernel
theorem d_T_has_3 : decode b_T_has 3 = .ok (.iconst 1, 1) := by decide +kernel
theorem d_T_has_4 : decode b_T_has 4 = .ok (.iand, 1) := by decide +kernel
theorem d_T_has_5 : decode b_T_has 5 = .ok (.iconst 1, 1) := by decide +kernel
theorem d_T_has_6 : decode b_T_has 6 = .ok (.if_icmp .ne 7, 3) := by decide +kernel
theorem d_T_has_9 : decode b_T_has 9 = .ok (.iconst 1, 1) := by decide +kernel
theorem d_T_has_10 : decode b_T_has 10 = .ok (.goto 4, 3) := by decide +kernel
theorem d_T_has_13 : decode b_T_has 13 = .ok (.iconst 0, 1) := by decide +kernel
theorem d_T_has_14 : decode b_T_has 14 = .ok (.ireturn, 1) := by decide +kernel
theorem d_F_hasPeg_0 : decode b_F_hasPeg 0 = .ok (.iload_n 1, 1) := by decide +kernel
theorem d_F_hasPeg_1 : decode b_F_hasPeg 1 = .ok (.iconst 0, 1) := by decide +kernel
theorem d_F_hasPeg_2 : decode b_F_hasPeg 2 = .ok (.aload_n 0, 1) := by decide +kernel
theorem d_F_hasPeg_3 : decode b_F_hasPeg 3 = .ok (.getfield 35, 3) := by decide +kernel
theorem d_F_hasPeg_6 : decode b_F_hasPeg 6 = .ok (.iconst 1, 1) := by decide +kernel
theorem d_F_hasPeg_7 : decode b_F_hasPeg 7 = .ok (.isub, 1) := by decide +kernel
theorem d_F_hasPeg_8 : decode b_F_hasPeg 8 = .ok (.invokestatic 31, 3) := by decide +kernel
theorem d_F_hasPeg_11 : decode b_F_hasPeg 11 = .ok (.ireturn, 1) := by decide +kernel
theorem d_F_mayDrive_0 : decode b_F_mayDrive 0 = .ok (.aload_n 0, 1) := by decide +kernel
theorem d_F_mayDrive_1 : decode b_F_mayDrive 1 = .ok (.iload_n 1, 1) := by decide +kernel
theorem d_F_mayDrive_2 : decode b_F_mayDrive 2 = .ok (.invokevirtual 55, 3) := by decide +kernel
theorem d_F_mayDrive_5 : decode b_F_mayDrive 5 = .ok (.ifCond .eq 37, 3) := by decide +kernel
theorem d_F_mayDrive_8 : decode b_F_mayDrive 8 = .ok (.iload_n 2, 1) := by decide +kernel
theorem d_F_mayDrive_9 : decode b_F_mayDrive 9 = .ok (.iconst 0, 1) := by decide +kernel
theorem d_F_mayDrive_10 : decode b_F_mayDrive 10 = .ok (.iconst 5, 1) := by decide +kernel
theorem d_F_mayDrive_11 : decode b_F_mayDrive 11 = .ok (.invokestatic 31, 3) := by decide +kernel
theorem d_F_mayDrive_14 : decode b_F_mayDrive 14 = .ok (.ifCond .eq 28, 3) := by decide +kernel
theorem d_F_mayDrive_17 : decode b_F_mayDrive 17 = .ok (.iload_n 3, 1) := by decide +kernel
theorem d_F_mayDrive_18 : decode b_F_mayDrive 18 = .ok (.iconst 0, 1) := by decide +kernel
theorem d_F_mayDrive_19 : decode b_F_mayDrive 19 = .ok (.bipush 9, 2) := by decide +kernel
theorem d_F_mayDrive_21 : decode b_F_mayDrive 21 = .ok (.invokestatic 31, 3) := by decide +kernel
theorem d_F_mayDrive_24 : decode b_F_mayDrive 24 = .ok (.ifCond .eq 18, 3) := by decide +kernel
theorem d_F_mayDrive_27 : decode b_F_mayDrive 27 = .ok (.iload 4, 2) := by decide +kernel
theorem d_F_mayDrive_29 : decode b_F_mayDrive 29 = .ok (.iconst 0, 1) := by decide +kernel
theorem d_F_mayDrive_30 : decode b_F_mayDrive 30 = .ok (.bipush 9, 2) := by decide +kernel
theorem d_F_mayDrive_32 : decode b_F_mayDrive 32 = .ok (.invokestatic 31, 3) := by decide +kernel
theorem d_F_mayDrive_35 : decode b_F_mayDrive 35 = .ok (.ifCond .eq 7, 3) := by decide +kernel
theorem d_F_mayDrive_38 : decode b_F_mayDrive 38 = .ok (.iconst 1, 1) := by decide +kernel
theorem d_F_mayDrive_39 : decode b_F_mayDrive 39 = .ok (.goto 4, 3) := by decide +kernel
theorem d_F_mayDrive_42 : decode b_F_mayDrive 42 = .ok (.iconst 0, 1) := by decide +kernel
theorem d_F_mayDrive_43 : decode b_F_mayDrive 43 = .ok (.ireturn, 1) := by decide +kernel
theorem d_F_allChances_0 : decode b_F_allChances 0 = .ok (.iconst 0, 1) := by decide +kernel
theorem d_F_allChances_1 : decode b_F_allChances 1 = .ok (.istore_n 1, 1) := by decide +kernel
theorem d_F_allChances_2 : decode b_F_allChances 2 = .ok (.iconst 0, 1) := by decide +kernel
theorem d_F_allChances_3 : decode b_F_allChances 3 = .ok (.istore_n 2, 1) := by decide +kernel
theorem d_F_allChances_4 : decode b_F_allChances 4 = .ok (.iload_n 2, 1) := by decide +kernel
theorem d_F_allChances_5 : decode b_F_allChances 5 = .ok (.bipush 8, 2) := by decide +kernel
theorem d_F_allChances_7 : decode b_F_allChances 7 = .ok (.if_icmp .ge 18, 3) := by decide +kernel
theorem d_F_allChances_10 : decode b_F_allChances 10 = .ok (.iload_n 1, 1) := by decide +kernel
theorem d_F_allChances_11 : decode b_F_allChances 11 = .ok (.aload_n 0, 1) := by decide +kernel
theorem d_F_allChances_12 : decode b_F_allChances 12 = .ok (.getfield 21, 3) := by decide +kernel
theorem d_F_allChances_15 : decode b_F_allChances 15 = .ok (.iload_n 2, 1) := by decide +kernel
theorem d_F_allChances_16 : decode b_F_allChances 16 = .ok (.iaload, 1) := by decide +kernel
theorem d_F_allChances_17 : decode b_F_allChances 17 = .ok (.iadd, 1) := by decide +kernel
theorem d_F_allChances_18 : decode b_F_allChances 18 = .ok (.istore_n 1, 1) := by decide +kernel
theorem d_F_allChances_19 : decode b_F_allChances 19 = .ok (.iinc 2 1, 3) := by decide +kernel
theorem d_F_allChances_22 : decode b_F_allChances 22 = .ok (.goto (-18), 3) := by decide +kernel
theorem d_F_allChances_25 : decode b_F_allChances 25 = .ok (.iload_n 1, 1) := by decide +kernel
theorem d_F_allChances_26 : decode b_F_allChances 26 = .ok (.ireturn, 1) := by decide +kernel
theorem d_F_remember_0 : decode b_F_remember 0 = .ok (.aload_n 0, 1) := by decide +kernel
theorem d_F_remember_1 : decode b_F_remember 1 = .ok (.getfield 48, 3) := by decide +kernel
theorem d_F_remember_4 : decode b_F_remember 4 = .ok (.bipush 10, 2) := by decide +kernel
theorem d_F_remember_6 : decode b_F_remember 6 = .ok (.if_icmp .ne 28, 3) := by decide +kernel
theorem d_F_remember_9 : decode b_F_remember 9 = .ok (.aload_n 0, 1) := by decide +kernel
theorem d_F_remember_10 : decode b_F_remember 10 = .ok (.getfield 24, 3) := by decide +kernel
theorem d_F_remember_13 : decode b_F_remember 13 = .ok (.iconst 1, 1) := by decide +kernel
theorem d_F_remember_14 : decode b_F_remember 14 = .ok (.aload_n 0, 1) := by decide +kernel
theorem d_F_remember_15 : decode b_F_remember 15 = .ok (.getfield 24, 3) := by decide +kernel
theorem d_F_remember_18 : decode b_F_remember 18 = .ok (.iconst 0, 1) := by decide +kernel
theorem d_F_remember_19 : decode b_F_remember 19 = .ok (.bipush 9, 2) := by decide +kernel
theorem d_F_remember_21 : decode b_F_remember 21 = .ok (.invokestatic 70, 3) := by decide +kernel
theorem d_F_remember_24 : decode b_F_remember 24 = .ok (.aload_n 0, 1) := by decide +kernel
theorem d_F_remember_25 : decode b_F_remember 25 = .ok (.dup, 1) := by decide +kernel
theorem d_F_remember_26 : decode b_F_remember 26 = .ok (.getfield 48, 3) := by decide +kernel
theorem d_F_remember_29 : decode b_F_remember 29 = .ok (.iconst 1, 1) := by decide +kernel
theorem d_F_remember_30 : decode b_F_remember 30 = .ok (.isub, 1) := by decide +kernel
theorem d_F_remember_31 : decode b_F_remember 31 = .ok (.putfield 48, 3) := by decide +kernel
theorem d_F_remember_34 : decode b_F_remember 34 = .ok (.aload_n 0, 1) := by decide +kernel
theorem d_F_remember_35 : decode b_F_remember 35 = .ok (.getfield 24, 3) := by decide +kernel
theorem d_F_remember_38 : decode b_F_remember 38 = .ok (.aload_n 0, 1) := by decide +kernel
theorem d_F_remember_39 : decode b_F_remember 39 = .ok (.getfield 48, 3) := by decide +kernel
theorem d_F_remember_42 : decode b_F_remember 42 = .ok (.aload_n 0, 1) := by decide +kernel
theorem d_F_remember_43 : decode b_F_remember 43 = .ok (.getfield 45, 3) := by decide +kernel
theorem d_F_remember_46 : decode b_F_remember 46 = .ok (.iastore, 1) := by decide +kernel
theorem d_F_remember_47 : decode b_F_remember 47 = .ok (.aload_n 0, 1) := by decide +kernel
theorem d_F_remember_48 : decode b_F_remember 48 = .ok (.dup, 1) := by decide +kernel
theorem d_F_remember_49 : decode b_F_remember 49 = .ok (.getfield 48, 3) := by decide +kernel
theorem d_F_remember_52 : decode b_F_remember 52 = .ok (.iconst 1, 1) := by decide +kernel
theorem d_F_remember_53 : decode b_F_remember 53 = .ok (.iadd, 1) := by decide +kernel
theorem d_F_remember_54 : decode b_F_remember 54 = .ok (.putfield 48, 3) := by decide +kernel
theorem d_F_remember_57 : decode b_F_remember 57 = .ok (.return_, 1) := by decide +kernel
theorem d_G_behind_0 : decode b_G_behind 0 = .ok (.iload_n 1, 1) := by decide +kernel
theorem d_G_behind_1 : decode b_G_behind 1 = .ok (.iconst 1, 1) := by decide +kernel
theorem d_G_behind_2 : decode b_G_behind 2 = .ok (.iadd, 1) := by decide +kernel
theorem d_G_behind_3 : decode b_G_behind 3 = .ok (.aload_n 0, 1) := by decide +kernel
theorem d_G_behind_4 : decode b_G_behind 4 = .ok (.getfield 34, 3) := by decide +kernel
theorem d_G_behind_7 : decode b_G_behind 7 = .ok (.getfield 42, 3) := by decide +kernel
theorem d_G_behind_10 : decode b_G_behind 10 = .ok (.if_icmp .ge 9, 3) := by decide +kernel
theorem d_G_behind_13 : decode b_G_behind 13 = .ok (.iload_n 1, 1) := by decide +kernel
theorem d_G_behind_14 : decode b_G_behind 14 = .ok (.iconst 1, 1) := by decide +kernel
theorem d_G_behind_15 : decode b_G_behind 15 = .ok (.iadd, 1) := by decide +kernel
theorem d_G_behind_16 : decode b_G_behind 16 = .ok (.goto 4, 3) := by decide +kernel
theorem d_G_behind_19 : decode b_G_behind 19 = .ok (.iconst 0, 1) := by decide +kernel
theorem d_G_behind_20 : decode b_G_behind 20 = .ok (.ireturn, 1) := by decide +kernel
theorem d_G_standingBehind_0 : decode b_G_standingBehind 0 = .ok (.aload_n 0, 1) := by decide +kernel
theorem d_G_standingBehind_1 : decode b_G_standingBehind 1 = .ok (.iload_n 1, 1) := by decide +kernel
theorem d_G_standingBehind_2 : decode b_G_standingBehind 2 = .ok (.invokevirtual 77, 3) := by decide +kernel
theorem d_G_standingBehind_5 : decode b_G_standingBehind 5 = .ok (.istore_n 2, 1) := by decide +kernel
theorem d_G_standingBehind_6 : decode b_G_standingBehind 6 = .ok (.iconst 0, 1) := by decide +kernel
theorem d_G_standingBehind_7 : decode b_G_standingBehind 7 = .ok (.istore_n 3, 1) := by decide +kernel
theorem d_G_standingBehind_8 : decode b_G_standingBehind 8 = .ok (.iload_n 3, 1) := by decide +kernel
theorem d_G_standingBehind_9 : decode b_G_standingBehind 9 = .ok (.aload_n 0, 1) := by decide +kernel
theorem d_G_standingBehind_10 : decode b_G_standingBehind 10 = .ok (.getfield 34, 3) := by decide +kernel
theorem d_G_standingBehind_13 : decode b_G_standingBehind 13 = .ok (.getfield 42, 3) := by decide +kernel
theorem d_G_standingBehind_16 : decode b_G_standingBehind 16 = .ok (.if_icmp .ge 26, 3) := by decide +kernel
theorem d_G_standingBehind_19 : decode b_G_standingBehind 19 = .ok (.aload_n 0, 1) := by decide +kernel
theorem d_G_standingBehind_20 : decode b_G_standingBehind 20 = .ok (.getfield 22, 3) := by decide +kernel
theorem d_G_standingBehind_23 : decode b_G_standingBehind 23 = .ok (.iload_n 2, 1) := by decide +kernel
theorem d_G_standingBehind_24 : decode b_G_standingBehind 24 = .ok (.invokestatic 63, 3) := by decide +kernel
theorem d_G_standingBehind_27 : decode b_G_standingBehind 27 = .ok (.ifCond .ne 15, 3) := by decide +kernel
theorem d_G_standingBehind_30 : decode b_G_standingBehind 30 = .ok (.aload_n 0, 1) := by decide +kernel
theorem d_G_standingBehind_31 : decode b_G_standingBehind 31 = .ok (.iload_n 2, 1) := by decide +kernel
theorem d_G_standingBehind_32 : decode b_G_standingBehind 32 = .ok (.invokevirtual 77, 3) := by decide +kernel
theorem d_G_standingBehind_35 : decode b_G_standingBehind 35 = .ok (.istore_n 2, 1) := by decide +kernel
theorem d_G_standingBehind_36 : decode b_G_standingBehind 36 = .ok (.iinc 3 1, 3) := by decide +kernel
theorem d_G_standingBehind_39 : decode b_G_standingBehind 39 = .ok (.goto (-31), 3) := by decide +kernel
theorem d_G_standingBehind_42 : decode b_G_standingBehind 42 = .ok (.iload_n 2, 1) := by decide +kernel
theorem d_G_standingBehind_43 : decode b_G_standingBehind 43 = .ok (.ireturn, 1) := by decide +kernel
end
section
-- TentPegs.within(III)Z
def F_T_within (x0 : Int32) (x1 : Int32) (x2 : Int32) : Option Int32 := (if x0 < x1 then (some (0 : Int32)) else (if x2 < x0 then (some (0 : Int32)) else (some (1 : Int32))))
-- TentPegs.isWay(I)Z
def F_T_isWay (x0 : Int32) : Option Int32 := (bnd (F_T_within x0 (0 : Int32) (7 : Int32)) (fun r1 => (gd (isZ r1) (some r1))))
-- TentPegs.isStrength(I)Z
def F_T_isStrength (x0 : Int32) : Option Int32 := (bnd (F_T_within x0 (0 : Int32) (60 : Int32)) (fun r1 => (gd (isZ r1) (some r1))))
-- TentPegs.isGust(II)Z
def F_T_isGust (x0 : Int32) (x1 : Int32) : Option Int32 := (bnd (F_T_isWay x0) (fun r1 => (if r1 = 0 then (some (0 : Int32)) else (bnd (F_T_isStrength x1) (fun r2 => (if r2 = 0 then (some (0 : Int32)) else (some (1 : Int32))))))))
-- TentPegs.has(II)Z
def F_T_has (x0 : Int32) (x1 : Int32) : Option Int32 := (if ((x0 >>> (x1 &&& 31)) &&& (1 : Int32)) = (1 : Int32) then (some (1 : Int32)) else (some (0 : Int32)))
-- TentPegs$Field.hasPeg(I)Z
def F_F_hasPeg (μ : Mem) (x1 : Int32) : Option Int32 := (bnd (F_T_within x1 (0 : Int32) ((μ.1 0 0) - (1 : Int32))) (fun r1 => (gd (isZ r1) (some r1))))
-- TentPegs$Field.mayDrive(IIII)Z
def F_F_mayDrive (μ : Mem) (x1 : Int32) (x2 : Int32) (x3 : Int32) (x4 : Int32) : Option Int32 := (bnd (F_F_hasPeg μ x1) (fun r1 => (if r1 = 0 then (some (0 : Int32)) else (bnd (F_T_within x2 (0 : Int32) (5 : Int32)) (fun r2 => (if r2 = 0 then (some (0 : Int32)) else (bnd (F_T_within x3 (0 : Int32) (9 : Int32)) (fun r3 => (if r3 = 0 then (some (0 : Int32)) else (bnd (F_T_within x4 (0 : Int32) (9 : Int32)) (fun r4 => (if r4 = 0 then (some (0 : Int32)) else (some (1 : Int32))))))))))))))
-- TentPegs$Field.allChances()I
def S_F_allChances_4  (K4 : Mem → Int32 → Int32 → Option Int32) (μ : Mem) (x1 : Int32) (x2 : Int32) : Option Int32 := (if (8 : Int32) ≤ x2 then (some x1) else (gd (inb x2 8) (K4 μ (x1 + ((μ.1 4) x2.toNatClampNeg)) (x2 + (1 : Int32)))))
def F_F_allChances_4  : Mem → Int32 → Int32 → Option Int32 := iter (S_F_allChances_4 ) (fun _ _ _ => none) NF
def F_F_allChances (μ : Mem)  : Option Int32 := (F_F_allChances_4 μ (0 : Int32) (0 : Int32))
-- TentPegs$Field.remember()V
def F_F_remember_34  (μ : Mem)  : Option Mem := (gd (inb (μ.1 0 4) 10) (some (stI (stI μ 5 (μ.1 0 4).toNatClampNeg (μ.1 0 3)) 0 4 ((μ.1 0 4) + (1 : Int32)))))
def F_F_remember (μ : Mem)  : Option Mem := (if (μ.1 0 4) = (10 : Int32) then (F_F_remember_34 (stI (stR μ 5 (va_cpy (μ.1 5) (μ.1 5) 1 0 9)) 0 4 ((μ.1 0 4) - (1 : Int32)))) else (F_F_remember_34 μ))
-- TentPegs$Gale.behind(I)I
def F_G_behind (μ : Mem) (x1 : Int32) : Option Int32 := (if (μ.1 1 0) ≤ (x1 + (1 : Int32)) then (some (0 : Int32)) else (some (x1 + (1 : Int32))))
-- TentPegs$Gale.standingBehind(I)I
def S_G_standingBehind_8  (K8 : Mem → Int32 → Int32 → Option Int32) (μ : Mem) (x2 : Int32) (x3 : Int32) : Option Int32 := (if (μ.1 1 0) ≤ x3 then (some x2) else (bnd (F_T_has (μ.1 7 4) x2) (fun r1 => (if r1 = 0 then (bnd (F_G_behind μ x2) (fun r2 => (K8 μ r2 (x3 + (1 : Int32))))) else (some x2)))))
def F_G_standingBehind_8  : Mem → Int32 → Int32 → Option Int32 := iter (S_G_standingBehind_8 ) (fun _ _ _ => none) NF
def F_G_standingBehind (μ : Mem) (x1 : Int32) : Option Int32 := (bnd (F_G_behind μ x1) (fun r1 => (F_G_standingBehind_8 μ r1 (0 : Int32))))
end
section
theorem fr_1 (a : Nat → Nat) (cs : Nat → ClassId) (μ : Mem) (φ : Mem) : Fr (AC a) (AF (off 1 a)) (WC a cs μ) (WF (off 1 a) cs (sub 1 μ)) (WF (off 1 a) cs φ) (WC a cs (put6 1 0 μ φ)) := by
  refine Fr.of [1, 2, 3, 4, 5, 6] [0, 7, 8, 9, 10, 11, 12, 13, 14, 15, 16, 17, 18, 19, 20, 21, 22, 23, 24, 25, 26, 27, 28, 29, 30, 31, 32, 33, 34, 35] [0, 30, 31, 32, 33, 34, 35, 1, 2, 3, 4, 5, 6, 7, 8, 9, 10, 11, 12, 13, 14, 15, 16, 17, 18, 19, 20, 21, 22, 23, 24, 25, 26, 27, 28, 29] (([0, 7, 8, 9, 10, 11, 12, 13, 14, 15, 16, 17, 18, 19, 20, 21, 22, 23, 24, 25, 26, 27, 28, 29, 30, 31, 32, 33, 34, 35] : List Nat).filterMap (fun i => (WC a cs μ)[i]?)) (fun q hq => ?_) (fun q h => h) (fun k q h => ?_) rfl rfl (by decide) rfl (by decide) rfl rfl
  · simp only [AF, off, List.mem_cons, List.not_mem_nil, or_false] at hq
    rcases hq with rfl | rfl | rfl | rfl | rfl | rfl <;> simp [AC]
  · exact (List.mem_map_of_mem (f := fun q : Nat × va_E => q.1) (List.mem_of_getElem? h) : q.1 ∈ (WF (off 1 a) cs (sub 1 μ)).map (fun q => q.1))
theorem frR_1 (a : Nat → Nat) (cs : Nat → ClassId) (μ : Mem) : Fr (AC a) (AF (off 1 a)) (WC a cs μ) (WF (off 1 a) cs (sub 1 μ)) (WF (off 1 a) cs (sub 1 μ)) (WC a cs μ) := by
  refine Fr.of [1, 2, 3, 4, 5, 6] [0, 7, 8, 9, 10, 11, 12, 13, 14, 15, 16, 17, 18, 19, 20, 21, 22, 23, 24, 25, 26, 27, 28, 29, 30, 31, 32, 33, 34, 35] [0, 30, 31, 32, 33, 34, 35, 1, 2, 3, 4, 5, 6, 7, 8, 9, 10, 11, 12, 13, 14, 15, 16, 17, 18, 19, 20, 21, 22, 23, 24, 25, 26, 27, 28, 29] (([0, 7, 8, 9, 10, 11, 12, 13, 14, 15, 16, 17, 18, 19, 20, 21, 22, 23, 24, 25, 26, 27, 28, 29, 30, 31, 32, 33, 34, 35] : List Nat).filterMap (fun i => (WC a cs μ)[i]?)) (fun q hq => ?_) (fun q h => h) (fun k q h => ?_) rfl rfl (by decide) rfl (by decide) rfl rfl
  · simp only [AF, off, List.mem_cons, List.not_mem_nil, or_false] at hq
    rcases hq with rfl | rfl | rfl | rfl | rfl | rfl <;> simp [AC]
  · exact (List.mem_map_of_mem (f := fun q : Nat × va_E => q.1) (List.mem_of_getElem? h) : q.1 ∈ (WF (off 1 a) cs (sub 1 μ)).map (fun q => q.1))
theorem fr_16 (a : Nat → Nat) (cs : Nat → ClassId) (μ : Mem) (φ : Mem) : Fr (AC a) (AF (off 16 a)) (WC a cs μ) (WF (off 16 a) cs (sub 16 μ)) (WF (off 16 a) cs φ) (WC a cs (put6 16 0 μ φ)) := by
  refine Fr.of [16, 17, 18, 19, 20, 21] [0, 1, 2, 3, 4, 5, 6, 7, 8, 9, 10, 11, 12, 13, 14, 15, 22, 23, 24, 25, 26, 27, 28, 29, 30, 31, 32, 33, 34, 35] [0, 1, 2, 3, 4, 5, 6, 7, 8, 9, 10, 11, 12, 13, 14, 15, 30, 31, 32, 33, 34, 35, 16, 17, 18, 19, 20, 21, 22, 23, 24, 25, 26, 27, 28, 29] (([0, 1, 2, 3, 4, 5, 6, 7, 8, 9, 10, 11, 12, 13, 14, 15, 22, 23, 24, 25, 26, 27, 28, 29, 30, 31, 32, 33, 34, 35] : List Nat).filterMap (fun i => (WC a cs μ)[i]?)) (fun q hq => ?_) (fun q h => h) (fun k q h => ?_) rfl rfl (by decide) rfl (by decide) rfl rfl
  · simp only [AF, off, List.mem_cons, List.not_mem_nil, or_false] at hq
    rcases hq with rfl | rfl | rfl | rfl | rfl | rfl <;> simp [AC]
  · exact (List.mem_map_of_mem (f := fun q : Nat × va_E => q.1) (List.mem_of_getElem? h) : q.1 ∈ (WF (off 16 a) cs (sub 16 μ)).map (fun q => q.1))
theorem frR_16 (a : Nat → Nat) (cs : Nat → ClassId) (μ : Mem) : Fr (AC a) (AF (off 16 a)) (WC a cs μ) (WF (off 16 a) cs (sub 16 μ)) (WF (off 16 a) cs (sub 16 μ)) (WC a cs μ) := by
  refine Fr.of [16, 17, 18, 19, 20, 21] [0, 1, 2, 3, 4, 5, 6, 7, 8, 9, 10, 11, 12, 13, 14, 15, 22, 23, 24, 25, 26, 27, 28, 29, 30, 31, 32, 33, 34, 35] [0, 1, 2, 3, 4, 5, 6, 7, 8, 9, 10, 11, 12, 13, 14, 15, 30, 31, 32, 33, 34, 35, 16, 17, 18, 19, 20, 21, 22, 23, 24, 25, 26, 27, 28, 29] (([0, 1, 2, 3, 4, 5, 6, 7, 8, 9, 10, 11, 12, 13, 14, 15, 22, 23, 24, 25, 26, 27, 28, 29, 30, 31, 32, 33, 34, 35] : List Nat).filterMap (fun i => (WC a cs μ)[i]?)) (fun q hq => ?_) (fun q h => h) (fun k q h => ?_) rfl rfl (by decide) rfl (by decide) rfl rfl
  · simp only [AF, off, List.mem_cons, List.not_mem_nil, or_false] at hq
    rcases hq with rfl | rfl | rfl | rfl | rfl | rfl <;> simp [AC]
  · exact (List.mem_map_of_mem (f := fun q : Nat × va_E => q.1) (List.mem_of_getElem? h) : q.1 ∈ (WF (off 16 a) cs (sub 16 μ)).map (fun q => q.1))
theorem fr_23 (a : Nat → Nat) (cs : Nat → ClassId) (μ : Mem) (φ : Mem) : Fr (AC a) (AF (off 23 a)) (WC a cs μ) (WF (off 23 a) cs (sub 23 μ)) (WF (off 23 a) cs φ) (WC a cs (put6 23 0 μ φ)) := by
  refine Fr.of [23, 24, 25, 26, 27, 28] [0, 1, 2, 3, 4, 5, 6, 7, 8, 9, 10, 11, 12, 13, 14, 15, 16, 17, 18, 19, 20, 21, 22, 29, 30, 31, 32, 33, 34, 35] [0, 1, 2, 3, 4, 5, 6, 7, 8, 9, 10, 11, 12, 13, 14, 15, 16, 17, 18, 19, 20, 21, 22, 30, 31, 32, 33, 34, 35, 23, 24, 25, 26, 27, 28, 29] (([0, 1, 2, 3, 4, 5, 6, 7, 8, 9, 10, 11, 12, 13, 14, 15, 16, 17, 18, 19, 20, 21, 22, 29, 30, 31, 32, 33, 34, 35] : List Nat).filterMap (fun i => (WC a cs μ)[i]?)) (fun q hq => ?_) (fun q h => h) (fun k q h => ?_) rfl rfl (by decide) rfl (by decide) rfl rfl
  · simp only [AF, off, List.mem_cons, List.not_mem_nil, or_false] at hq
    rcases hq with rfl | rfl | rfl | rfl | rfl | rfl <;> simp [AC]
  · exact (List.mem_map_of_mem (f := fun q : Nat × va_E => q.1) (List.mem_of_getElem? h) : q.1 ∈ (WF (off 23 a) cs (sub 23 μ)).map (fun q => q.1))
theorem frR_23 (a : Nat → Nat) (cs : Nat → ClassId) (μ : Mem) : Fr (AC a) (AF (off 23 a)) (WC a cs μ) (WF (off 23 a) cs (sub 23 μ)) (WF (off 23 a) cs (sub 23 μ)) (WC a cs μ) := by
  refine Fr.of [23, 24, 25, 26, 27, 28] [0, 1, 2, 3, 4, 5, 6, 7, 8, 9, 10, 11, 12, 13, 14, 15, 16, 17, 18, 19, 20, 21, 22, 29, 30, 31, 32, 33, 34, 35] [0, 1, 2, 3, 4, 5, 6, 7, 8, 9, 10, 11, 12, 13, 14, 15, 16, 17, 18, 19, 20, 21, 22, 30, 31, 32, 33, 34, 35, 23, 24, 25, 26, 27, 28, 29] (([0, 1, 2, 3, 4, 5, 6, 7, 8, 9, 10, 11, 12, 13, 14, 15, 16, 17, 18, 19, 20, 21, 22, 29, 30, 31, 32, 33, 34, 35] : List Nat).filterMap (fun i => (WC a cs μ)[i]?)) (fun q hq => ?_) (fun q h => h) (fun k q h => ?_) rfl rfl (by decide) rfl (by decide) rfl rfl
  · simp only [AF, off, List.mem_cons, List.not_mem_nil, or_false] at hq
    rcases hq with rfl | rfl | rfl | rfl | rfl | rfl <;> simp [AC]
  · exact (List.mem_map_of_mem (f := fun q : Nat × va_E => q.1) (List.mem_of_getElem? h) : q.1 ∈ (WF (off 23 a) cs (sub 23 μ)).map (fun q => q.1))
theorem fr_29 (a : Nat → Nat) (cs : Nat → ClassId) (μ : Mem) (φ : Mem) : Fr (AC a) (AF (off 29 a)) (WC a cs μ) (WF (off 29 a) cs (sub 29 μ)) (WF (off 29 a) cs φ) (WC a cs (put6 29 0 μ φ)) := by
  refine Fr.of [29, 30, 31, 32, 33, 34] [0, 1, 2, 3, 4, 5, 6, 7, 8, 9, 10, 11, 12, 13, 14, 15, 16, 17, 18, 19, 20, 21, 22, 23, 24, 25, 26, 27, 28, 35] [0, 1, 2, 3, 4, 5, 6, 7, 8, 9, 10, 11, 12, 13, 14, 15, 16, 17, 18, 19, 20, 21, 22, 23, 24, 25, 26, 27, 28, 30, 31, 32, 33, 34, 35, 29] (([0, 1, 2, 3, 4, 5, 6, 7, 8, 9, 10, 11, 12, 13, 14, 15, 16, 17, 18, 19, 20, 21, 22, 23, 24, 25, 26, 27, 28, 35] : List Nat).filterMap (fun i => (WC a cs μ)[i]?)) (fun q hq => ?_) (fun q h => h) (fun k q h => ?_) rfl rfl (by decide) rfl (by decide) rfl rfl
  · simp only [AF, off, List.mem_cons, List.not_mem_nil, or_false] at hq
    rcases hq with rfl | rfl | rfl | rfl | rfl | rfl <;> simp [AC]
  · exact (List.mem_map_of_mem (f := fun q : Nat × va_E => q.1) (List.mem_of_getElem? h) : q.1 ∈ (WF (off 29 a) cs (sub 29 μ)).map (fun q => q.1))
theorem frR_29 (a : Nat → Nat) (cs : Nat → ClassId) (μ : Mem) : Fr (AC a) (AF (off 29 a)) (WC a cs μ) (WF (off 29 a) cs (sub 29 μ)) (WF (off 29 a) cs (sub 29 μ)) (WC a cs μ) := by
  refine Fr.of [29, 30, 31, 32, 33, 34] [0, 1, 2, 3, 4, 5, 6, 7, 8, 9, 10, 11, 12, 13, 14, 15, 16, 17, 18, 19, 20, 21, 22, 23, 24, 25, 26, 27, 28, 35] [0, 1, 2, 3, 4, 5, 6, 7, 8, 9, 10, 11, 12, 13, 14, 15, 16, 17, 18, 19, 20, 21, 22, 23, 24, 25, 26, 27, 28, 30, 31, 32, 33, 34, 35, 29] (([0, 1, 2, 3, 4, 5, 6, 7, 8, 9, 10, 11, 12, 13, 14, 15, 16, 17, 18, 19, 20, 21, 22, 23, 24, 25, 26, 27, 28, 35] : List Nat).filterMap (fun i => (WC a cs μ)[i]?)) (fun q hq => ?_) (fun q h => h) (fun k q h => ?_) rfl rfl (by decide) rfl (by decide) rfl rfl
  · simp only [AF, off, List.mem_cons, List.not_mem_nil, or_false] at hq
    rcases hq with rfl | rfl | rfl | rfl | rfl | rfl <;> simp [AC]
  · exact (List.mem_map_of_mem (f := fun q : Nat × va_E => q.1) (List.mem_of_getElem? h) : q.1 ∈ (WF (off 29 a) cs (sub 29 μ)).map (fun q => q.1))
theorem fr2_1_16 (a : Nat → Nat) (cs : Nat → ClassId) (μ φ : Mem) : Fr (AC a) (AFF (off2 1 16 a)) (WC a cs μ) (WFF (off2 1 16 a) cs (two 1 16 μ)) (WFF (off2 1 16 a) cs φ) (WC a cs (put6 1 0 (put6 16 6 μ φ) φ)) := by
  refine Fr.of [1, 2, 3, 4, 5, 6, 16, 17, 18, 19, 20, 21] [0, 7, 8, 9, 10, 11, 12, 13, 14, 15, 22, 23, 24, 25, 26, 27, 28, 29, 30, 31, 32, 33, 34, 35] [0, 24, 25, 26, 27, 28, 29, 1, 2, 3, 4, 5, 6, 7, 8, 9, 30, 31, 32, 33, 34, 35, 10, 11, 12, 13, 14, 15, 16, 17, 18, 19, 20, 21, 22, 23] (([0, 7, 8, 9, 10, 11, 12, 13, 14, 15, 22, 23, 24, 25, 26, 27, 28, 29, 30, 31, 32, 33, 34, 35] : List Nat).filterMap (fun i => (WC a cs μ)[i]?)) (fun q hq => ?_) (fun q h => h) (fun k q h => ?_) rfl rfl (by decide) rfl (by decide) rfl rfl
  · have hq : q ∈ [a 1, a 2, a 3, a 4, a 5, a 6, a 16, a 17, a 18, a 19, a 20, a 21] := hq
    simp only [List.mem_cons, List.not_mem_nil, or_false] at hq
    rcases hq with rfl | rfl | rfl | rfl | rfl | rfl | rfl | rfl | rfl | rfl | rfl | rfl <;> simp [AC]
  · exact (List.mem_map_of_mem (f := fun q : Nat × va_E => q.1) (List.mem_of_getElem? h) : q.1 ∈ (WFF (off2 1 16 a) cs (two 1 16 μ)).map (fun q => q.1))
theorem fr2_1_23 (a : Nat → Nat) (cs : Nat → ClassId) (μ φ : Mem) : Fr (AC a) (AFF (off2 1 23 a)) (WC a cs μ) (WFF (off2 1 23 a) cs (two 1 23 μ)) (WFF (off2 1 23 a) cs φ) (WC a cs (put6 1 0 (put6 23 6 μ φ) φ)) := by
  refine Fr.of [1, 2, 3, 4, 5, 6, 23, 24, 25, 26, 27, 28] [0, 7, 8, 9, 10, 11, 12, 13, 14, 15, 16, 17, 18, 19, 20, 21, 22, 29, 30, 31, 32, 33, 34, 35] [0, 24, 25, 26, 27, 28, 29, 1, 2, 3, 4, 5, 6, 7, 8, 9, 10, 11, 12, 13, 14, 15, 16, 30, 31, 32, 33, 34, 35, 17, 18, 19, 20, 21, 22, 23] (([0, 7, 8, 9, 10, 11, 12, 13, 14, 15, 16, 17, 18, 19, 20, 21, 22, 29, 30, 31, 32, 33, 34, 35] : List Nat).filterMap (fun i => (WC a cs μ)[i]?)) (fun q hq => ?_) (fun q h => h) (fun k q h => ?_) rfl rfl (by decide) rfl (by decide) rfl rfl
  · have hq : q ∈ [a 1, a 2, a 3, a 4, a 5, a 6, a 23, a 24, a 25, a 26, a 27, a 28] := hq
    simp only [List.mem_cons, List.not_mem_nil, or_false] at hq
    rcases hq with rfl | rfl | rfl | rfl | rfl | rfl | rfl | rfl | rfl | rfl | rfl | rfl <;> simp [AC]
  · exact (List.mem_map_of_mem (f := fun q : Nat × va_E => q.1) (List.mem_of_getElem? h) : q.1 ∈ (WFF (off2 1 23 a) cs (two 1 23 μ)).map (fun q => q.1))
theorem fr2_1_29 (a : Nat → Nat) (cs : Nat → ClassId) (μ φ : Mem) : Fr (AC a) (AFF (off2 1 29 a)) (WC a cs μ) (WFF (off2 1 29 a) cs (two 1 29 μ)) (WFF (off2 1 29 a) cs φ) (WC a cs (put6 1 0 (put6 29 6 μ φ) φ)) := by
  refine Fr.of [1, 2, 3, 4, 5, 6, 29, 30, 31, 32, 33, 34] [0, 7, 8, 9, 10, 11, 12, 13, 14, 15, 16, 17, 18, 19, 20, 21, 22, 23, 24, 25, 26, 27, 28, 35] [0, 24, 25, 26, 27, 28, 29, 1, 2, 3, 4, 5, 6, 7, 8, 9, 10, 11, 12, 13, 14, 15, 16, 17, 18, 19, 20, 21, 22, 30, 31, 32, 33, 34, 35, 23] (([0, 7, 8, 9, 10, 11, 12, 13, 14, 15, 16, 17, 18, 19, 20, 21, 22, 23, 24, 25, 26, 27, 28, 35] : List Nat).filterMap (fun i => (WC a cs μ)[i]?)) (fun q hq => ?_) (fun q h => h) (fun k q h => ?_) rfl rfl (by decide) rfl (by decide) rfl rfl
  · have hq : q ∈ [a 1, a 2, a 3, a 4, a 5, a 6, a 29, a 30, a 31, a 32, a 33, a 34] := hq
    simp only [List.mem_cons, List.not_mem_nil, or_false] at hq
    rcases hq with rfl | rfl | rfl | rfl | rfl | rfl | rfl | rfl | rfl | rfl | rfl | rfl <;> simp [AC]
  · exact (List.mem_map_of_mem (f := fun q : Nat × va_E => q.1) (List.mem_of_getElem? h) : q.1 ∈ (WFF (off2 1 29 a) cs (two 1 29 μ)).map (fun q => q.1))
theorem fr2_23_1 (a : Nat → Nat) (cs : Nat → ClassId) (μ φ : Mem) : Fr (AC a) (AFF (off2 23 1 a)) (WC a cs μ) (WFF (off2 23 1 a) cs (two 23 1 μ)) (WFF (off2 23 1 a) cs φ) (WC a cs (put6 23 0 (put6 1 6 μ φ) φ)) := by
  refine Fr.of [23, 24, 25, 26, 27, 28, 1, 2, 3, 4, 5, 6] [0, 7, 8, 9, 10, 11, 12, 13, 14, 15, 16, 17, 18, 19, 20, 21, 22, 29, 30, 31, 32, 33, 34, 35] [0, 30, 31, 32, 33, 34, 35, 1, 2, 3, 4, 5, 6, 7, 8, 9, 10, 11, 12, 13, 14, 15, 16, 24, 25, 26, 27, 28, 29, 17, 18, 19, 20, 21, 22, 23] (([0, 7, 8, 9, 10, 11, 12, 13, 14, 15, 16, 17, 18, 19, 20, 21, 22, 29, 30, 31, 32, 33, 34, 35] : List Nat).filterMap (fun i => (WC a cs μ)[i]?)) (fun q hq => ?_) (fun q h => h) (fun k q h => ?_) rfl rfl (by decide) rfl (by decide) rfl rfl
  · have hq : q ∈ [a 23, a 24, a 25, a 26, a 27, a 28, a 1, a 2, a 3, a 4, a 5, a 6] := hq
    simp only [List.mem_cons, List.not_mem_nil, or_false] at hq
    rcases hq with rfl | rfl | rfl | rfl | rfl | rfl | rfl | rfl | rfl | rfl | rfl | rfl <;> simp [AC]
  · exact (List.mem_map_of_mem (f := fun q : Nat × va_E => q.1) (List.mem_of_getElem? h) : q.1 ∈ (WFF (off2 23 1 a) cs (two 23 1 μ)).map (fun q => q.1))
theorem fr2_29_1 (a : Nat → Nat) (cs : Nat → ClassId) (μ φ : Mem) : Fr (AC a) (AFF (off2 29 1 a)) (WC a cs μ) (WFF (off2 29 1 a) cs (two 29 1 μ)) (WFF (off2 29 1 a) cs φ) (WC a cs (put6 29 0 (put6 1 6 μ φ) φ)) := by
  refine Fr.of [29, 30, 31, 32, 33, 34, 1, 2, 3, 4, 5, 6] [0, 7, 8, 9, 10, 11, 12, 13, 14, 15, 16, 17, 18, 19, 20, 21, 22, 23, 24, 25, 26, 27, 28, 35] [0, 30, 31, 32, 33, 34, 35, 1, 2, 3, 4, 5, 6, 7, 8, 9, 10, 11, 12, 13, 14, 15, 16, 17, 18, 19, 20, 21, 22, 24, 25, 26, 27, 28, 29, 23] (([0, 7, 8, 9, 10, 11, 12, 13, 14, 15, 16, 17, 18, 19, 20, 21, 22, 23, 24, 25, 26, 27, 28, 35] : List Nat).filterMap (fun i => (WC a cs μ)[i]?)) (fun q hq => ?_) (fun q h => h) (fun k q h => ?_) rfl rfl (by decide) rfl (by decide) rfl rfl
  · have hq : q ∈ [a 29, a 30, a 31, a 32, a 33, a 34, a 1, a 2, a 3, a 4, a 5, a 6] := hq
    simp only [List.mem_cons, List.not_mem_nil, or_false] at hq
    rcases hq with rfl | rfl | rfl | rfl | rfl | rfl | rfl | rfl | rfl | rfl | rfl | rfl <;> simp [AC]
  · exact (List.mem_map_of_mem (f := fun q : Nat × va_E => q.1) (List.mem_of_getElem? h) : q.1 ∈ (WFF (off2 29 1 a) cs (two 29 1 μ)).map (fun q => q.1))
end
section
-- TentPegs.within(III)Z
set_option maxHeartbeats 4000000 in
set_option maxRecDepth 100000 in
theorem c_T_within (l : Launch) (x0 : Int32) (x1 : Int32) (x2 : Int32) (r : Int32) (hF : F_T_within x0 x1 x2 = some r) : SetI l y_T_within b_T_within 3 (some .boolean) { frames := 0, cells := 0, slots := 0, locals := 0 } [.int x0, .int x1, .int x2] r := by
  refine met_ofS rfl (by decide +kernel) (Nat.le_of_ble_eq_true rfl) (fun p e s m below meth c C hr hlk => ?_)
  unfold F_T_within at hF
  show G p l e { frames := 0, cells := 0, slots := 0, locals := 0 } s m _ below meth c _ (fun _ => 0, fun _ _ => 0) (fun _ => False) 3 [] 0 [(0, .int x0), (1, .int x1), (2, .int x2)] []
  refine g_iload_n (pc1 := 1) C d_T_within_0 rfl rfl 1 rfl ?_
  refine g_iload_n (pc1 := 2) C d_T_within_1 rfl rfl 0 rfl ?_
  refine g_icmp_gt (pc1 := 5) C 14 d_T_within_2 rfl (by decide) (fun c1 => ?_) (fun c1 => ?_)
  · replace hF := ite_t hF c1
    refine g_iconst (pc1 := 15) (v := (0 : Int32)) C d_T_within_14 rfl ic_0 ?_
    exact g_zret C hr hlk rfl d_T_within_15 (Option.some.inj hF) rfl
  · replace hF := ite_f hF c1
    refine g_iload_n (pc1 := 6) C d_T_within_5 rfl rfl 0 rfl ?_
    refine g_iload_n (pc1 := 7) C d_T_within_6 rfl rfl 2 rfl ?_
    refine g_icmp_gt (pc1 := 10) C 14 d_T_within_7 rfl (by decide) (fun c1 => ?_) (fun c1 => ?_)
    · replace hF := ite_t hF c1
      refine g_iconst (pc1 := 15) (v := (0 : Int32)) C d_T_within_14 rfl ic_0 ?_
      exact g_zret C hr hlk rfl d_T_within_15 (Option.some.inj hF) rfl
    · replace hF := ite_f hF c1
      refine g_iconst (pc1 := 11) (v := (1 : Int32)) C d_T_within_10 rfl ic_1 ?_
      refine g_goto C 15 d_T_within_11 (by decide) ?_
      exact g_zret C hr hlk rfl d_T_within_15 (Option.some.inj hF) rfl
-- TentPegs.isWay(I)Z
set_option maxHeartbeats 4000000 in
set_option maxRecDepth 100000 in
theorem c_T_isWay (l : Launch) (x0 : Int32) (r : Int32) (hF : F_T_isWay x0 = some r) : SetI l y_T_isWay b_T_isWay 1 (some .boolean) { frames := 1, cells := 0, slots := 0, locals := 22 } [.int x0] r := by
  refine met_ofS rfl (by decide +kernel) (Nat.le_of_ble_eq_true rfl) (fun p e s m below meth c C hr hlk => ?_)
  unfold F_T_isWay at hF
  show G p l e { frames := 1, cells := 0, slots := 0, locals := 22 } s m _ below meth c _ (fun _ => 0, fun _ _ => 0) (fun _ => False) 1 [] 0 [(0, .int x0)] []
  refine g_iload_n (pc1 := 1) C d_T_isWay_0 rfl rfl 0 rfl ?_
  refine g_iconst (pc1 := 2) (v := (0 : Int32)) C d_T_isWay_1 rfl ic_0 ?_
  refine g_bipush (pc1 := 4) (v := (7 : Int32)) C d_T_isWay_2 rfl bp_7 ?_
  obtain ⟨r1, hr1, hF⟩ := bnd_some hF
  refine g_callSI (pc1 := 7) (As := [.int x0, .int (0 : Int32), .int (7 : Int32)]) (rest := []) C 3 (c_T_within l x0 (0 : Int32) (7 : Int32) r1 hr1) s_T_within kw_0 rfl ⟨Nat.le_of_ble_eq_true rfl, Nat.le_of_ble_eq_true rfl⟩ ⟨rfl, rfl⟩ d_T_isWay_4 rfl rfl (Nat.le_of_ble_eq_true rfl) ?_
  have hg := gd_some hF
  replace hF := hg.2
  exact g_zret C hr hlk (isZ_n hg.1) d_T_isWay_7 (Option.some.inj hF) rfl
-- TentPegs.isStrength(I)Z
set_option maxHeartbeats 4000000 in
set_option maxRecDepth 100000 in
theorem c_T_isStrength (l : Launch) (x0 : Int32) (r : Int32) (hF : F_T_isStrength x0 = some r) : SetI l y_T_isStrength b_T_isStrength 1 (some .boolean) { frames := 1, cells := 0, slots := 0, locals := 22 } [.int x0] r := by
  refine met_ofS rfl (by decide +kernel) (Nat.le_of_ble_eq_true rfl) (fun p e s m below meth c C hr hlk => ?_)
  unfold F_T_isStrength at hF
  show G p l e { frames := 1, cells := 0, slots := 0, locals := 22 } s m _ below meth c _ (fun _ => 0, fun _ _ => 0) (fun _ => False) 1 [] 0 [(0, .int x0)] []
  refine g_iload_n (pc1 := 1) C d_T_isStrength_0 rfl rfl 0 rfl ?_
  refine g_iconst (pc1 := 2) (v := (0 : Int32)) C d_T_isStrength_1 rfl ic_0 ?_
  refine g_bipush (pc1 := 4) (v := (60 : Int32)) C d_T_isStrength_2 rfl bp_60 ?_
  obtain ⟨r1, hr1, hF⟩ := bnd_some hF
  refine g_callSI (pc1 := 7) (As := [.int x0, .int (0 : Int32), .int (60 : Int32)]) (rest := []) C 3 (c_T_within l x0 (0 : Int32) (60 : Int32) r1 hr1) s_T_within kw_0 rfl ⟨Nat.le_of_ble_eq_true rfl, Nat.le_of_ble_eq_true rfl⟩ ⟨rfl, rfl⟩ d_T_isStrength_4 rfl rfl (Nat.le_of_ble_eq_true rfl) ?_
  have hg := gd_some hF
  replace hF := hg.2
  exact g_zret C hr hlk (isZ_n hg.1) d_T_isStrength_7 (Option.some.inj hF) rfl
-- TentPegs.isGust(II)Z
set_option maxHeartbeats 4000000 in
set_option maxRecDepth 100000 in
theorem c_T_isGust (l : Launch) (x0 : Int32) (x1 : Int32) (r : Int32) (hF : F_T_isGust x0 x1 = some r) : SetI l y_T_isGust b_T_isGust 2 (some .boolean) { frames := 2, cells := 0, slots := 0, locals := 42 } [.int x0, .int x1] r := by
  refine met_ofS rfl (by decide +kernel) (Nat.le_of_ble_eq_true rfl) (fun p e s m below meth c C hr hlk => ?_)
  unfold F_T_isGust at hF
  show G p l e { frames := 2, cells := 0, slots := 0, locals := 42 } s m _ below meth c _ (fun _ => 0, fun _ _ => 0) (fun _ => False) 2 [] 0 [(0, .int x0), (1, .int x1)] []
  refine g_iload_n (pc1 := 1) C d_T_isGust_0 rfl rfl 0 rfl ?_
  obtain ⟨r1, hr1, hF⟩ := bnd_some hF
  refine g_callSI (pc1 := 4) (As := [.int x0]) (rest := []) C 1 (c_T_isWay l x0 r1 hr1) s_T_isWay kw_1 rfl ⟨Nat.le_of_ble_eq_true rfl, Nat.le_of_ble_eq_true rfl⟩ ⟨rfl, rfl⟩ d_T_isGust_1 rfl rfl (Nat.le_of_ble_eq_true rfl) ?_
  refine g_if_eq (pc1 := 7) C 18 d_T_isGust_4 rfl (by decide) (fun c1 => ?_) (fun c1 => ?_)
  · replace hF := ite_t hF c1
    refine g_iconst (pc1 := 19) (v := (0 : Int32)) C d_T_isGust_18 rfl ic_0 ?_
    exact g_zret C hr hlk rfl d_T_isGust_19 (Option.some.inj hF) rfl
  · replace hF := ite_f hF c1
    refine g_iload_n (pc1 := 8) C d_T_isGust_7 rfl rfl 1 rfl ?_
    obtain ⟨r2, hr2, hF⟩ := bnd_some hF
    refine g_callSI (pc1 := 11) (As := [.int x1]) (rest := []) C 1 (c_T_isStrength l x1 r2 hr2) s_T_isStrength kw_2 rfl ⟨Nat.le_of_ble_eq_true rfl, Nat.le_of_ble_eq_true rfl⟩ ⟨rfl, rfl⟩ d_T_isGust_8 rfl rfl (Nat.le_of_ble_eq_true rfl) ?_
    refine g_if_eq (pc1 := 14) C 18 d_T_isGust_11 rfl (by decide) (fun c1 => ?_) (fun c1 => ?_)
    · replace hF := ite_t hF c1
      refine g_iconst (pc1 := 19) (v := (0 : Int32)) C d_T_isGust_18 rfl ic_0 ?_
      exact g_zret C hr hlk rfl d_T_isGust_19 (Option.some.inj hF) rfl
    · replace hF := ite_f hF c1
      refine g_iconst (pc1 := 15) (v := (1 : Int32)) C d_T_isGust_14 rfl ic_1 ?_
      refine g_goto C 19 d_T_isGust_15 (by decide) ?_
      exact g_zret C hr hlk rfl d_T_isGust_19 (Option.some.inj hF) rfl
-- TentPegs.has(II)Z
set_option maxHeartbeats 4000000 in
set_option maxRecDepth 100000 in
theorem c_T_has (l : Launch) (x0 : Int32) (x1 : Int32) (r : Int32) (hF : F_T_has x0 x1 = some r) : SetI l y_T_has b_T_has 2 (some .boolean) { frames := 0, cells := 0, slots := 0, locals := 0 } [.int x0, .int x1] r := by
  refine met_ofS rfl (by decide +kernel) (Nat.le_of_ble_eq_true rfl) (fun p e s m below meth c C hr hlk => ?_)
  unfold F_T_has at hF
  show G p l e { frames := 0, cells := 0, slots := 0, locals := 0 } s m _ below meth c _ (fun _ => 0, fun _ _ => 0) (fun _ => False) 2 [] 0 [(0, .int x0), (1, .int x1)] []
  refine g_iload_n (pc1 := 1) C d_T_has_0 rfl rfl 0 rfl ?_
  refine g_iload_n (pc1 := 2) C d_T_has_1 rfl rfl 1 rfl ?_
  refine g_ishr (pc1 := 3) C d_T_has_2 rfl ?_
  refine g_iconst (pc1 := 4) (v := (1 : Int32)) C d_T_has_3 rfl ic_1 ?_
  refine g_iand (pc1 := 5) C d_T_has_4 rfl ?_
  refine g_iconst (pc1 := 6) (v := (1 : Int32)) C d_T_has_5 rfl ic_1 ?_
  refine g_icmp_ne (pc1 := 9) C 13 d_T_has_6 rfl (by decide) (fun c1 => ?_) (fun c1 => ?_)
  · replace hF := ite_f hF c1
    refine g_iconst (pc1 := 14) (v := (0 : Int32)) C d_T_has_13 rfl ic_0 ?_
    exact g_zret C hr hlk rfl d_T_has_14 (Option.some.inj hF) rfl
  · replace hF := ite_t hF c1
    refine g_iconst (pc1 := 10) (v := (1 : Int32)) C d_T_has_9 rfl ic_1 ?_
    refine g_goto C 14 d_T_has_10 (by decide) ?_
    exact g_zret C hr hlk rfl d_T_has_14 (Option.some.inj hF) rfl
-- TentPegs$Field.hasPeg(I)Z
set_option maxHeartbeats 4000000 in
set_option maxRecDepth 100000 in
theorem c_F_hasPeg (l : Launch) (D : va_G) (cs : Nat → ClassId) (a : Nat → Nat) (μ : Mem) (x1 : Int32) (r : Int32) (hF : F_F_hasPeg μ x1 = some r) : MetI l y_F_hasPeg b_F_hasPeg 2 (some .boolean) { frames := 1, cells := 0, slots := 0, locals := 22 } D cs (AF a) (WF a cs μ) [.ref (a 0), .int x1] r (WF a cs μ) := by
  refine met_of rfl (by decide +kernel) (Nat.le_of_ble_eq_true rfl) (fun p e s m below meth c C hK hr hlk => ?_)
  unfold F_F_hasPeg at hF
  show G p l e { frames := 1, cells := 0, slots := 0, locals := 22 } s m _ below meth c _ D (AF a) 2 (WF a cs μ) 0 [(0, .ref (a 0)), (1, .int x1)] []
  refine g_iload_n (pc1 := 1) C d_F_hasPeg_0 rfl rfl 1 rfl ?_
  refine g_iconst (pc1 := 2) (v := (0 : Int32)) C d_F_hasPeg_1 rfl ic_0 ?_
  refine g_aload_n (pc1 := 3) C d_F_hasPeg_2 rfl rfl 0 rfl ?_
  refine get_WF_0_pegs (pc1 := 6) C hK (v := (μ.1 0 0)) rfl kw_3 d_F_hasPeg_3 rfl ?_
  refine g_iconst (pc1 := 7) (v := (1 : Int32)) C d_F_hasPeg_6 rfl ic_1 ?_
  refine g_isub (pc1 := 8) C d_F_hasPeg_7 rfl ?_
  obtain ⟨r1, hr1, hF⟩ := bnd_some hF
  refine g_callNI (pc1 := 11) (As := [.int x1, .int (0 : Int32), .int ((μ.1 0 0) - (1 : Int32))]) (rest := []) C 3 (c_T_within l x1 (0 : Int32) ((μ.1 0 0) - (1 : Int32)) r1 hr1) s_T_within 0 rfl rfl ⟨Nat.le_of_ble_eq_true rfl, Nat.le_of_ble_eq_true rfl⟩ ⟨rfl, rfl⟩ d_F_hasPeg_8 rfl rfl (Nat.le_of_ble_eq_true rfl) ?_
  have hg := gd_some hF
  replace hF := hg.2
  exact g_zret C hr hlk (isZ_n hg.1) d_F_hasPeg_11 (Option.some.inj hF) rfl
-- TentPegs$Field.mayDrive(IIII)Z
set_option maxHeartbeats 4000000 in
set_option maxRecDepth 100000 in
theorem c_F_mayDrive (l : Launch) (D : va_G) (cs : Nat → ClassId) (a : Nat → Nat) (μ : Mem) (x1 : Int32) (x2 : Int32) (x3 : Int32) (x4 : Int32) (r : Int32) (hF : F_F_mayDrive μ x1 x2 x3 x4 = some r) : MetI l y_F_mayDrive b_F_mayDrive 5 (some .boolean) { frames := 2, cells := 0, slots := 0, locals := 43 } D cs (AF a) (WF a cs μ) [.ref (a 0), .int x1, .int x2, .int x3, .int x4] r (WF a cs μ) := by
  refine met_of rfl (by decide +kernel) (Nat.le_of_ble_eq_true rfl) (fun p e s m below meth c C hK hr hlk => ?_)
  unfold F_F_mayDrive at hF
  show G p l e { frames := 2, cells := 0, slots := 0, locals := 43 } s m _ below meth c _ D (AF a) 5 (WF a cs μ) 0 [(0, .ref (a 0)), (1, .int x1), (2, .int x2), (3, .int x3), (4, .int x4)] []
  refine g_aload_n (pc1 := 1) C d_F_mayDrive_0 rfl rfl 0 rfl ?_
  refine g_iload_n (pc1 := 2) C d_F_mayDrive_1 rfl rfl 1 rfl ?_
  obtain ⟨r1, hr1, hF⟩ := bnd_some hF
  refine g_callVI (pc1 := 5) (ws1 := WF a cs μ) (As := [.int x1]) (rest := []) (b := a 0) C hK 1 (c_F_hasPeg l D cs a μ x1 r1 hr1) s_F_hasPeg kw_4 0 rfl rfl rfl ⟨Nat.le_of_ble_eq_true rfl, Nat.le_of_ble_eq_true rfl⟩ ⟨rfl, rfl⟩ d_F_mayDrive_2 rfl rfl (Nat.le_of_ble_eq_true rfl) ?_
  refine g_if_eq (pc1 := 8) C 42 d_F_mayDrive_5 rfl (by decide) (fun c1 => ?_) (fun c1 => ?_)
  · replace hF := ite_t hF c1
    refine g_iconst (pc1 := 43) (v := (0 : Int32)) C d_F_mayDrive_42 rfl ic_0 ?_
    exact g_zret C hr hlk rfl d_F_mayDrive_43 (Option.some.inj hF) rfl
  · replace hF := ite_f hF c1
    refine g_iload_n (pc1 := 9) C d_F_mayDrive_8 rfl rfl 2 rfl ?_
    refine g_iconst (pc1 := 10) (v := (0 : Int32)) C d_F_mayDrive_9 rfl ic_0 ?_
    refine g_iconst (pc1 := 11) (v := (5 : Int32)) C d_F_mayDrive_10 rfl ic_5 ?_
    obtain ⟨r2, hr2, hF⟩ := bnd_some hF
    refine g_callNI (pc1 := 14) (As := [.int x2, .int (0 : Int32), .int (5 : Int32)]) (rest := []) C 3 (c_T_within l x2 (0 : Int32) (5 : Int32) r2 hr2) s_T_within 0 rfl rfl ⟨Nat.le_of_ble_eq_true rfl, Nat.le_of_ble_eq_true rfl⟩ ⟨rfl, rfl⟩ d_F_mayDrive_11 rfl rfl (Nat.le_of_ble_eq_true rfl) ?_
    refine g_if_eq (pc1 := 17) C 42 d_F_mayDrive_14 rfl (by decide) (fun c1 => ?_) (fun c1 => ?_)
    · replace hF := ite_t hF c1
      refine g_iconst (pc1 := 43) (v := (0 : Int32)) C d_F_mayDrive_42 rfl ic_0 ?_
      exact g_zret C hr hlk rfl d_F_mayDrive_43 (Option.some.inj hF) rfl
    · replace hF := ite_f hF c1
      refine g_iload_n (pc1 := 18) C d_F_mayDrive_17 rfl rfl 3 rfl ?_
      refine g_iconst (pc1 := 19) (v := (0 : Int32)) C d_F_mayDrive_18 rfl ic_0 ?_
      refine g_bipush (pc1 := 21) (v := (9 : Int32)) C d_F_mayDrive_19 rfl bp_9 ?_
      obtain ⟨r3, hr3, hF⟩ := bnd_some hF
      refine g_callNI (pc1 := 24) (As := [.int x3, .int (0 : Int32), .int (9 : Int32)]) (rest := []) C 3 (c_T_within l x3 (0 : Int32) (9 : Int32) r3 hr3) s_T_within 0 rfl rfl ⟨Nat.le_of_ble_eq_true rfl, Nat.le_of_ble_eq_true rfl⟩ ⟨rfl, rfl⟩ d_F_mayDrive_21 rfl rfl (Nat.le_of_ble_eq_true rfl) ?_
      refine g_if_eq (pc1 := 27) C 42 d_F_mayDrive_24 rfl (by decide) (fun c1 => ?_) (fun c1 => ?_)
      · replace hF := ite_t hF c1
        refine g_iconst (pc1 := 43) (v := (0 : Int32)) C d_F_mayDrive_42 rfl ic_0 ?_
        exact g_zret C hr hlk rfl d_F_mayDrive_43 (Option.some.inj hF) rfl
      · replace hF := ite_f hF c1
        refine g_iload (pc1 := 29) C d_F_mayDrive_27 rfl 4 rfl ?_
        refine g_iconst (pc1 := 30) (v := (0 : Int32)) C d_F_mayDrive_29 rfl ic_0 ?_
        refine g_bipush (pc1 := 32) (v := (9 : Int32)) C d_F_mayDrive_30 rfl bp_9 ?_
        obtain ⟨r4, hr4, hF⟩ := bnd_some hF
        refine g_callNI (pc1 := 35) (As := [.int x4, .int (0 : Int32), .int (9 : Int32)]) (rest := []) C 3 (c_T_within l x4 (0 : Int32) (9 : Int32) r4 hr4) s_T_within 0 rfl rfl ⟨Nat.le_of_ble_eq_true rfl, Nat.le_of_ble_eq_true rfl⟩ ⟨rfl, rfl⟩ d_F_mayDrive_32 rfl rfl (Nat.le_of_ble_eq_true rfl) ?_
        refine g_if_eq (pc1 := 38) C 42 d_F_mayDrive_35 rfl (by decide) (fun c1 => ?_) (fun c1 => ?_)
        · replace hF := ite_t hF c1
          refine g_iconst (pc1 := 43) (v := (0 : Int32)) C d_F_mayDrive_42 rfl ic_0 ?_
          exact g_zret C hr hlk rfl d_F_mayDrive_43 (Option.some.inj hF) rfl
        · replace hF := ite_f hF c1
          refine g_iconst (pc1 := 39) (v := (1 : Int32)) C d_F_mayDrive_38 rfl ic_1 ?_
          refine g_goto C 43 d_F_mayDrive_39 (by decide) ?_
          exact g_zret C hr hlk rfl d_F_mayDrive_43 (Option.some.inj hF) rfl
-- TentPegs$Field.allChances()I
set_option maxHeartbeats 4000000 in
set_option maxRecDepth 100000 in
theorem p_F_allChances_4 {p : Program} {l : Launch} {e : Env} {s : State} {m : MethodId} {args : Array Value} {below : List Frame} {meth : Method} {c : Code} {D : va_G} {cs : Nat → ClassId} {a : Nat → Nat} {μ : Mem} {r : Int32} (C : Cx p s m args c b_F_allChances 3 "TentPegs$Field") (hK : va_K D classes (tys cs) s) (hr : meth.sig.returnType = (some .int)) (hlk : meth.locks = false)  : ∀ (x1 : Int32) (x2 : Int32), F_F_allChances_4  μ x1 x2 = some r → G p l e { frames := 0, cells := 0, slots := 0, locals := 0 } s m args below meth c (MQ below (Qi (AF a) D (WF a cs μ) r) args s 0 0 (AF a)) D (AF a) 3 (WF a cs μ) 4 [(0, .ref (a 0)), (1, .int x1), (2, .int x2)] [] := by
  refine iter_ind (fun K4 => ∀ (x1 : Int32) (x2 : Int32), K4 μ x1 x2 = some r → G p l e { frames := 0, cells := 0, slots := 0, locals := 0 } s m args below meth c (MQ below (Qi (AF a) D (WF a cs μ) r) args s 0 0 (AF a)) D (AF a) 3 (WF a cs μ) 4 [(0, .ref (a 0)), (1, .int x1), (2, .int x2)] []) ?_ ?_ NF
  · intro x1 x2 hF
    exact none_no hF
  · intro K4 hK4 x1 x2 hF
    unfold S_F_allChances_4 at hF
    refine g_iload_n (pc1 := 5) C d_F_allChances_4 rfl rfl 2 rfl ?_
    refine g_bipush (pc1 := 7) (v := (8 : Int32)) C d_F_allChances_5 rfl bp_8 ?_
    refine g_icmp_ge (pc1 := 10) C 25 d_F_allChances_7 rfl (by decide) (fun c1 => ?_) (fun c1 => ?_)
    · replace hF := ite_t hF c1
      refine g_iload_n (pc1 := 26) C d_F_allChances_25 rfl rfl 1 rfl ?_
      exact g_iret C hr hlk d_F_allChances_26 (Option.some.inj hF) rfl
    · replace hF := ite_f hF c1
      refine g_iload_n (pc1 := 11) C d_F_allChances_10 rfl rfl 1 rfl ?_
      refine g_aload_n (pc1 := 12) C d_F_allChances_11 rfl rfl 0 rfl ?_
      refine get_WF_0_chances (pc1 := 15) C hK kw_5 d_F_allChances_12 rfl ?_
      refine g_iload_n (pc1 := 16) C d_F_allChances_15 rfl rfl 2 rfl ?_
      have hg := gd_some hF
      replace hF := hg.2
      refine g_iald (pc1 := 17) C hK 4 (f := (μ.1 4)) rfl hg.1 d_F_allChances_16 rfl ?_
      refine g_iadd (pc1 := 18) C d_F_allChances_17 rfl ?_
      refine g_istore_n (pc1 := 19) (L1 := [(1, .int (x1 + ((μ.1 4) x2.toNatClampNeg))), (0, .ref (a 0)), (2, .int x2)]) C d_F_allChances_18 rfl rfl (by decide) rfl ?_
      refine g_iinc (pc1 := 22) (v := (x2 + (1 : Int32))) (L1 := [(2, .int (x2 + (1 : Int32))), (1, .int (x1 + ((μ.1 4) x2.toNatClampNeg))), (0, .ref (a 0))]) C d_F_allChances_19 rfl 2 rfl (by rw [ic_1]) (by decide) rfl ?_
      refine g_goto C 4 d_F_allChances_22 (by decide) ?_
      exact g_sub [2, 1, 0] rfl (hK4 (x1 + ((μ.1 4) x2.toNatClampNeg)) (x2 + (1 : Int32)) hF)
set_option maxHeartbeats 4000000 in
set_option maxRecDepth 100000 in
theorem c_F_allChances (l : Launch) (D : va_G) (cs : Nat → ClassId) (a : Nat → Nat) (μ : Mem)  (r : Int32) (hF : F_F_allChances μ = some r) : MetI l y_F_allChances b_F_allChances 3 (some .int) { frames := 0, cells := 0, slots := 0, locals := 0 } D cs (AF a) (WF a cs μ) [.ref (a 0)] r (WF a cs μ) := by
  refine met_of rfl (by decide +kernel) (Nat.le_of_ble_eq_true rfl) (fun p e s m below meth c C hK hr hlk => ?_)
  unfold F_F_allChances at hF
  show G p l e { frames := 0, cells := 0, slots := 0, locals := 0 } s m _ below meth c _ D (AF a) 3 (WF a cs μ) 0 [(0, .ref (a 0))] []
  refine g_iconst (pc1 := 1) (v := (0 : Int32)) C d_F_allChances_0 rfl ic_0 ?_
  refine g_istore_n (pc1 := 2) (L1 := [(1, .int (0 : Int32)), (0, .ref (a 0))]) C d_F_allChances_1 rfl rfl (by decide) rfl ?_
  refine g_iconst (pc1 := 3) (v := (0 : Int32)) C d_F_allChances_2 rfl ic_0 ?_
  refine g_istore_n (pc1 := 4) (L1 := [(2, .int (0 : Int32)), (1, .int (0 : Int32)), (0, .ref (a 0))]) C d_F_allChances_3 rfl rfl (by decide) rfl ?_
  exact g_sub [2, 1, 0] rfl (p_F_allChances_4 C hK hr hlk  (0 : Int32) (0 : Int32) hF)
-- TentPegs$Field.remember()V
set_option maxHeartbeats 4000000 in
set_option maxRecDepth 100000 in
theorem p_F_remember_34 {p : Program} {l : Launch} {e : Env} {s : State} {m : MethodId} {args : Array Value} {below : List Frame} {meth : Method} {c : Code} {D : va_G} {cs : Nat → ClassId} {a : Nat → Nat} {μ1 : Mem} (C : Cx p s m args c b_F_remember 1 "TentPegs$Field") (hK : va_K D classes (tys cs) s) (hr : meth.sig.returnType = none) (hlk : meth.locks = false)  (μ : Mem)  (hF : F_F_remember_34  μ = some μ1) : G p l e { frames := 1, cells := 0, slots := 0, locals := 26 } s m args below meth c (MQ below (Qv (AF a) D (WF a cs μ1)) args s 0 0 (AF a)) D (AF a) 1 (WF a cs μ) 34 [(0, .ref (a 0))] [] := by
  unfold F_F_remember_34 at hF
  refine g_aload_n (pc1 := 35) C d_F_remember_34 rfl rfl 0 rfl ?_
  refine get_WF_0_stoodBefore (pc1 := 38) C hK kw_7 d_F_remember_35 rfl ?_
  refine g_aload_n (pc1 := 39) C d_F_remember_38 rfl rfl 0 rfl ?_
  refine get_WF_0_undoable (pc1 := 42) C hK (v := (μ.1 0 4)) rfl kw_6 d_F_remember_39 rfl ?_
  refine g_aload_n (pc1 := 43) C d_F_remember_42 rfl rfl 0 rfl ?_
  refine get_WF_0_standing (pc1 := 46) C hK (v := (μ.1 0 3)) rfl kw_12 d_F_remember_43 rfl ?_
  have hg := gd_some hF
  replace hF := hg.2
  refine g_iast (pc1 := 47) (ws1 := WF a cs (stI μ 5 (μ.1 0 4).toNatClampNeg (μ.1 0 3))) C hK 5 (f := (μ.1 5)) rfl hg.1 rfl d_F_remember_46 rfl ?_
  refine g_aload_n (pc1 := 48) C d_F_remember_47 rfl rfl 0 rfl ?_
  refine g_dup (pc1 := 49) C d_F_remember_48 rfl rfl ?_
  refine get_WF_0_undoable (pc1 := 52) C hK (v := (μ.1 0 4)) rfl kw_6 d_F_remember_49 rfl ?_
  refine g_iconst (pc1 := 53) (v := (1 : Int32)) C d_F_remember_52 rfl ic_1 ?_
  refine g_iadd (pc1 := 54) C d_F_remember_53 rfl ?_
  refine put_WF_0_undoable (pc1 := 57) C hK kw_6 d_F_remember_54 rfl ?_
  exact g_vret C hr hlk d_F_remember_57 (congrArg (WF a cs) (Option.some.inj hF))
set_option maxHeartbeats 4000000 in
set_option maxRecDepth 100000 in
theorem c_F_remember (l : Launch) (D : va_G) (cs : Nat → ClassId) (a : Nat → Nat) (μ : Mem)  (μ1 : Mem) (hF : F_F_remember μ = some μ1) : MetV l y_F_remember b_F_remember 1 none { frames := 1, cells := 0, slots := 0, locals := 26 } D cs (AF a) (WF a cs μ) [.ref (a 0)] (WF a cs μ1) := by
  refine met_of rfl (by decide +kernel) (Nat.le_of_ble_eq_true rfl) (fun p e s m below meth c C hK hr hlk => ?_)
  unfold F_F_remember at hF
  show G p l e { frames := 1, cells := 0, slots := 0, locals := 26 } s m _ below meth c _ D (AF a) 1 (WF a cs μ) 0 [(0, .ref (a 0))] []
  refine g_aload_n (pc1 := 1) C d_F_remember_0 rfl rfl 0 rfl ?_
  refine get_WF_0_undoable (pc1 := 4) C hK (v := (μ.1 0 4)) rfl kw_6 d_F_remember_1 rfl ?_
  refine g_bipush (pc1 := 6) (v := (10 : Int32)) C d_F_remember_4 rfl bp_10 ?_
  refine g_icmp_ne (pc1 := 9) C 34 d_F_remember_6 rfl (by decide) (fun c1 => ?_) (fun c1 => ?_)
  · replace hF := ite_f hF c1
    exact g_sub [0] rfl (p_F_remember_34 C hK hr hlk  μ hF)
  · replace hF := ite_t hF c1
    refine g_aload_n (pc1 := 10) C d_F_remember_9 rfl rfl 0 rfl ?_
    refine get_WF_0_stoodBefore (pc1 := 13) C hK kw_7 d_F_remember_10 rfl ?_
    refine g_iconst (pc1 := 14) (v := (1 : Int32)) C d_F_remember_13 rfl ic_1 ?_
    refine g_aload_n (pc1 := 15) C d_F_remember_14 rfl rfl 0 rfl ?_
    refine get_WF_0_stoodBefore (pc1 := 18) C hK kw_7 d_F_remember_15 rfl ?_
    refine g_iconst (pc1 := 19) (v := (0 : Int32)) C d_F_remember_18 rfl ic_0 ?_
    refine g_bipush (pc1 := 21) (v := (9 : Int32)) C d_F_remember_19 rfl bp_9 ?_
    refine g_copy (pc1 := 24) (ws1 := WF a cs (stR μ 5 (va_cpy (μ.1 5) (μ.1 5) 1 0 9))) C hK 5 5 (f := (μ.1 5)) (g := (μ.1 5)) kw_8 kw_9 kw_10 kw_11 rfl rfl (by decide) (by decide) (by decide) (by decide) (by decide) (Nat.le_of_ble_eq_true rfl) (Nat.le_of_ble_eq_true rfl) rfl d_F_remember_21 rfl ?_
    refine g_aload_n (pc1 := 25) C d_F_remember_24 rfl rfl 0 rfl ?_
    refine g_dup (pc1 := 26) C d_F_remember_25 rfl rfl ?_
    refine get_WF_0_undoable (pc1 := 29) C hK (v := (μ.1 0 4)) rfl kw_6 d_F_remember_26 rfl ?_
    refine g_iconst (pc1 := 30) (v := (1 : Int32)) C d_F_remember_29 rfl ic_1 ?_
    refine g_isub (pc1 := 31) C d_F_remember_30 rfl ?_
    refine put_WF_0_undoable (pc1 := 34) C hK kw_6 d_F_remember_31 rfl ?_
    exact g_sub [0] rfl (p_F_remember_34 C hK hr hlk  (stI (stR μ 5 (va_cpy (μ.1 5) (μ.1 5) 1 0 9)) 0 4 ((μ.1 0 4) - (1 : Int32))) hF)
-- TentPegs$Gale.behind(I)I
set_option maxHeartbeats 4000000 in
set_option maxRecDepth 100000 in
theorem c_G_behind (l : Launch) (D : va_G) (cs : Nat → ClassId) (a : Nat → Nat) (μ : Mem) (x1 : Int32) (r : Int32) (hF : F_G_behind μ x1 = some r) : MetI l y_G_behind b_G_behind 2 (some .int) { frames := 0, cells := 0, slots := 0, locals := 0 } D cs (AC a) (WC a cs μ) [.ref (a 7), .int x1] r (WC a cs μ) := by
  refine met_of rfl (by decide +kernel) (Nat.le_of_ble_eq_true rfl) (fun p e s m below meth c C hK hr hlk => ?_)
  unfold F_G_behind at hF
  show G p l e { frames := 0, cells := 0, slots := 0, locals := 0 } s m _ below meth c _ D (AC a) 2 (WC a cs μ) 0 [(0, .ref (a 7)), (1, .int x1)] []
  refine g_iload_n (pc1 := 1) C d_G_behind_0 rfl rfl 1 rfl ?_
  refine g_iconst (pc1 := 2) (v := (1 : Int32)) C d_G_behind_1 rfl ic_1 ?_
  refine g_iadd (pc1 := 3) C d_G_behind_2 rfl ?_
  refine g_aload_n (pc1 := 4) C d_G_behind_3 rfl rfl 0 rfl ?_
  refine get_WC_7_field (pc1 := 7) C hK kw_13 d_G_behind_4 rfl ?_
  refine get_WC_1_pegs (pc1 := 10) C hK (v := (μ.1 1 0)) rfl kw_14 d_G_behind_7 rfl ?_
  refine g_icmp_ge (pc1 := 13) C 19 d_G_behind_10 rfl (by decide) (fun c1 => ?_) (fun c1 => ?_)
  · replace hF := ite_t hF c1
    refine g_iconst (pc1 := 20) (v := (0 : Int32)) C d_G_behind_19 rfl ic_0 ?_
    exact g_iret C hr hlk d_G_behind_20 (Option.some.inj hF) rfl
  · replace hF := ite_f hF c1
    refine g_iload_n (pc1 := 14) C d_G_behind_13 rfl rfl 1 rfl ?_
    refine g_iconst (pc1 := 15) (v := (1 : Int32)) C d_G_behind_14 rfl ic_1 ?_
    refine g_iadd (pc1 := 16) C d_G_behind_15 rfl ?_
    refine g_goto C 20 d_G_behind_16 (by decide) ?_
    exact g_iret C hr hlk d_G_behind_20 (Option.some.inj hF) rfl
-- TentPegs$Gale.standingBehind(I)I
set_option maxHeartbeats 4000000 in
set_option maxRecDepth 100000 in
theorem p_G_standingBehind_8 {p : Program} {l : Launch} {e : Env} {s : State} {m : MethodId} {args : Array Value} {below : List Frame} {meth : Method} {c : Code} {D : va_G} {cs : Nat → ClassId} {a : Nat → Nat} {μ : Mem} {r : Int32} (C : Cx p s m args c b_G_standingBehind 4 "TentPegs$Gale") (hK : va_K D classes (tys cs) s) (hr : meth.sig.returnType = (some .int)) (hlk : meth.locks = false)  : ∀ (x2 : Int32) (x3 : Int32), F_G_standingBehind_8  μ x2 x3 = some r → G p l e { frames := 1, cells := 0, slots := 0, locals := 21 } s m args below meth c (MQ below (Qi (AC a) D (WC a cs μ) r) args s 0 0 (AC a)) D (AC a) 4 (WC a cs μ) 8 [(0, .ref (a 7)), (2, .int x2), (3, .int x3)] [] := by
  refine iter_ind (fun K8 => ∀ (x2 : Int32) (x3 : Int32), K8 μ x2 x3 = some r → G p l e { frames := 1, cells := 0, slots := 0, locals := 21 } s m args below meth c (MQ below (Qi (AC a) D (WC a cs μ) r) args s 0 0 (AC a)) D (AC a) 4 (WC a cs μ) 8 [(0, .ref (a 7)), (2, .int x2), (3, .int x3)] []) ?_ ?_ NF
  · intro x2 x3 hF
    exact none_no hF
  · intro K8 hK8 x2 x3 hF
    unfold S_G_standingBehind_8 at hF
    refine g_iload_n (pc1 := 9) C d_G_standingBehind_8 rfl rfl 2 rfl ?_
    refine g_aload_n (pc1 := 10) C d_G_standingBehind_9 rfl rfl 0 rfl ?_
    refine get_WC_7_field (pc1 := 13) C hK kw_13 d_G_standingBehind_10 rfl ?_
    refine get_WC_1_pegs (pc1 := 16) C hK (v := (μ.1 1 0)) rfl kw_14 d_G_standingBehind_13 rfl ?_
    refine g_icmp_ge (pc1 := 19) C 42 d_G_standingBehind_16 rfl (by decide) (fun c1 => ?_) (fun c1 => ?_)
    · replace hF := ite_t hF c1
      refine g_iload_n (pc1 := 43) C d_G_standingBehind_42 rfl rfl 1 rfl ?_
      exact g_iret C hr hlk d_G_standingBehind_43 (Option.some.inj hF) rfl
    · replace hF := ite_f hF c1
      refine g_aload_n (pc1 := 20) C d_G_standingBehind_19 rfl rfl 0 rfl ?_
      refine get_WC_7_standing (pc1 := 23) C hK (v := (μ.1 7 4)) rfl kw_16 d_G_standingBehind_20 rfl ?_
      refine g_iload_n (pc1 := 24) C d_G_standingBehind_23 rfl rfl 1 rfl ?_
      obtain ⟨r1, hr1, hF⟩ := bnd_some hF
      refine g_callNI (pc1 := 27) (As := [.int (μ.1 7 4), .int x2]) (rest := []) C 2 (c_T_has l (μ.1 7 4) x2 r1 hr1) s_T_has 8 rfl rfl ⟨Nat.le_of_ble_eq_true rfl, Nat.le_of_ble_eq_true rfl⟩ ⟨rfl, rfl⟩ d_G_standingBehind_24 rfl rfl (Nat.le_of_ble_eq_true rfl) ?_
      refine g_if_ne (pc1 := 30) C 42 d_G_standingBehind_27 rfl (by decide) (fun c1 => ?_) (fun c1 => ?_)
      · replace hF := ite_f hF c1
        refine g_iload_n (pc1 := 43) C d_G_standingBehind_42 rfl rfl 1 rfl ?_
        exact g_iret C hr hlk d_G_standingBehind_43 (Option.some.inj hF) rfl
      · replace hF := ite_t hF c1
        refine g_aload_n (pc1 := 31) C d_G_standingBehind_30 rfl rfl 0 rfl ?_
        refine g_iload_n (pc1 := 32) C d_G_standingBehind_31 rfl rfl 1 rfl ?_
        obtain ⟨r2, hr2, hF⟩ := bnd_some hF
        refine g_callVI (pc1 := 35) (ws1 := WC a cs μ) (As := [.int x2]) (rest := []) (b := a 7) C hK 1 (c_G_behind l D cs a μ x2 r2 hr2) s_G_behind kw_15 7 rfl rfl rfl ⟨Nat.le_of_ble_eq_true rfl, Nat.le_of_ble_eq_true rfl⟩ ⟨rfl, rfl⟩ d_G_standingBehind_32 rfl rfl (Nat.le_of_ble_eq_true rfl) ?_
        refine g_istore_n (pc1 := 36) (L1 := [(2, .int r2), (0, .ref (a 7)), (3, .int x3)]) C d_G_standingBehind_35 rfl rfl (by decide) rfl ?_
        refine g_iinc (pc1 := 39) (v := (x3 + (1 : Int32))) (L1 := [(3, .int (x3 + (1 : Int32))), (2, .int r2), (0, .ref (a 7))]) C d_G_standingBehind_36 rfl 2 rfl (by rw [ic_1]) (by decide) rfl ?_
        refine g_goto C 8 d_G_standingBehind_39 (by decide) ?_
        exact g_sub [2, 1, 0] rfl (hK8 r2 (x3 + (1 : Int32)) hF)
set_option maxHeartbeats 4000000 in
set_option maxRecDepth 100000 in
theorem c_G_standingBehind (l : Launch) (D : va_G) (cs : Nat → ClassId) (a : Nat → Nat) (μ : Mem) (x1 : Int32) (r : Int32) (hF : F_G_standingBehind μ x1 = some r) : MetI l y_G_standingBehind b_G_standingBehind 4 (some .int) { frames := 1, cells := 0, slots := 0, locals := 21 } D cs (AC a) (WC a cs μ) [.ref (a 7), .int x1] r (WC a cs μ) := by
  refine met_of rfl (by decide +kernel) (Nat.le_of_ble_eq_true rfl) (fun p e s m below meth c C hK hr hlk => ?_)
  unfold F_G_standingBehind at hF
  show G p l e { frames := 1, cells := 0, slots := 0, locals := 21 } s m _ below meth c _ D (AC a) 4 (WC a cs μ) 0 [(0, .ref (a 7)), (1, .int x1)] []
  refine g_aload_n (pc1 := 1) C d_G_standingBehind_0 rfl rfl 0 rfl ?_
  refine g_iload_n (pc1 := 2) C d_G_standingBehind_1 rfl rfl 1 rfl ?_
  obtain ⟨r1, hr1, hF⟩ := bnd_some hF
  refine g_callVI (pc1 := 5) (ws1 := WC a cs μ) (As := [.int x1]) (rest := []) (b := a 7) C hK 1 (c_G_behind l D cs a μ x1 r1 hr1) s_G_behind kw_15 7 rfl rfl rfl ⟨Nat.le_of_ble_eq_true rfl, Nat.le_of_ble_eq_true rfl⟩ ⟨rfl, rfl⟩ d_G_standingBehind_2 rfl rfl (Nat.le_of_ble_eq_true rfl) ?_
  refine g_istore_n (pc1 := 6) (L1 := [(2, .int r1), (0, .ref (a 7)), (1, .int x1)]) C d_G_standingBehind_5 rfl rfl (by decide) rfl ?_
  refine g_iconst (pc1 := 7) (v := (0 : Int32)) C d_G_standingBehind_6 rfl ic_0 ?_
  refine g_istore_n (pc1 := 8) (L1 := [(3, .int (0 : Int32)), (2, .int r1), (0, .ref (a 7)), (1, .int x1)]) C d_G_standingBehind_7 rfl rfl (by decide) rfl ?_
  exact g_sub [2, 1, 0] rfl (p_G_standingBehind_8 C hK hr hlk  r1 (0 : Int32) hF)
end
