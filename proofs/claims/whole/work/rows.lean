section
-- ===== PART A: goes FIRST, ahead of the names: the tables' words, and 'selects' of the private methods out of them =====
/-- a private method of a class that the tables say can be made, by its rows of tables_1 -/
def lw_okq (q : MethodName × Nat) : Prop := (q.1.cls ≠ "java/lang/invoke/MethodHandle" ∧ q.1.cls ≠ "java/lang/invoke/VarHandle") ∧ Cond.instantiable q.1.cls q.2 ∈ tables_1 ∧ Cond.privateMethod q.1 ∈ tables_1 ∧ Cond.instanceMethod q.1 ∈ tables_1
theorem lw_p0 : lw_okq (⟨"BlowerBreath", "found", "(I)I"⟩, 17) := ⟨⟨by decide +kernel, by decide +kernel⟩, List.mem_of_getElem? (i := 12) (by decide +kernel), List.mem_of_getElem? (i := 183) (by decide +kernel), List.mem_of_getElem? (i := 184) (by decide +kernel)⟩
theorem lw_p1 : lw_okq (⟨"BlowerBreath", "refusedPlace", "(II)I"⟩, 17) := ⟨⟨by decide +kernel, by decide +kernel⟩, List.mem_of_getElem? (i := 12) (by decide +kernel), List.mem_of_getElem? (i := 191) (by decide +kernel), List.mem_of_getElem? (i := 192) (by decide +kernel)⟩
theorem lw_p2 : lw_okq (⟨"BlowerBreath", "tell", "(I)I"⟩, 17) := ⟨⟨by decide +kernel, by decide +kernel⟩, List.mem_of_getElem? (i := 12) (by decide +kernel), List.mem_of_getElem? (i := 198) (by decide +kernel), List.mem_of_getElem? (i := 199) (by decide +kernel)⟩
theorem lw_p3 : lw_okq (⟨"BlowerBreath$Reader", "passBlanks", "()V"⟩, 3) := ⟨⟨by decide +kernel, by decide +kernel⟩, List.mem_of_getElem? (i := 24) (by decide +kernel), List.mem_of_getElem? (i := 243) (by decide +kernel), List.mem_of_getElem? (i := 244) (by decide +kernel)⟩
theorem lw_p4 : lw_okq (⟨"BlowerBreath$Reader", "signAt", "(I)I"⟩, 3) := ⟨⟨by decide +kernel, by decide +kernel⟩, List.mem_of_getElem? (i := 24) (by decide +kernel), List.mem_of_getElem? (i := 247) (by decide +kernel), List.mem_of_getElem? (i := 248) (by decide +kernel)⟩
theorem lw_p5 : lw_okq (⟨"BlowerBreath$Reader", "readBellows", "(LBlowerBreath$Town;)I"⟩, 3) := ⟨⟨by decide +kernel, by decide +kernel⟩, List.mem_of_getElem? (i := 24) (by decide +kernel), List.mem_of_getElem? (i := 251) (by decide +kernel), List.mem_of_getElem? (i := 252) (by decide +kernel)⟩
theorem lw_p6 : lw_okq (⟨"BlowerBreath$Reader", "figureAt", "(I)I"⟩, 3) := ⟨⟨by decide +kernel, by decide +kernel⟩, List.mem_of_getElem? (i := 24) (by decide +kernel), List.mem_of_getElem? (i := 255) (by decide +kernel), List.mem_of_getElem? (i := 256) (by decide +kernel)⟩
theorem lw_p7 : lw_okq (⟨"BlowerBreath$Town", "restart", "()V"⟩, 13) := ⟨⟨by decide +kernel, by decide +kernel⟩, List.mem_of_getElem? (i := 42) (by decide +kernel), List.mem_of_getElem? (i := 263) (by decide +kernel), List.mem_of_getElem? (i := 264) (by decide +kernel)⟩
theorem lw_p8 : lw_okq (⟨"BlowerBreath$Reader", "readPipe", "(LBlowerBreath$Town;)I"⟩, 3) := ⟨⟨by decide +kernel, by decide +kernel⟩, List.mem_of_getElem? (i := 24) (by decide +kernel), List.mem_of_getElem? (i := 268) (by decide +kernel), List.mem_of_getElem? (i := 269) (by decide +kernel)⟩
theorem lw_p9 : lw_okq (⟨"BlowerBreath", "pipeFact", "(II)I"⟩, 17) := ⟨⟨by decide +kernel, by decide +kernel⟩, List.mem_of_getElem? (i := 12) (by decide +kernel), List.mem_of_getElem? (i := 295) (by decide +kernel), List.mem_of_getElem? (i := 296) (by decide +kernel)⟩
theorem lw_p10 : lw_okq (⟨"BlowerBreath", "wantingNoMoreThan", "(I)I"⟩, 17) := ⟨⟨by decide +kernel, by decide +kernel⟩, List.mem_of_getElem? (i := 12) (by decide +kernel), List.mem_of_getElem? (i := 327) (by decide +kernel), List.mem_of_getElem? (i := 328) (by decide +kernel)⟩
theorem lw_p11 : lw_okq (⟨"BlowerBreath", "perform", "(II)I"⟩, 17) := ⟨⟨by decide +kernel, by decide +kernel⟩, List.mem_of_getElem? (i := 12) (by decide +kernel), List.mem_of_getElem? (i := 335) (by decide +kernel), List.mem_of_getElem? (i := 336) (by decide +kernel)⟩
theorem lw_p12 : lw_okq (⟨"BlowerBreath$Town", "breathe", "(I)Z"⟩, 13) := ⟨⟨by decide +kernel, by decide +kernel⟩, List.mem_of_getElem? (i := 42) (by decide +kernel), List.mem_of_getElem? (i := 355) (by decide +kernel), List.mem_of_getElem? (i := 356) (by decide +kernel)⟩
theorem lw_p13 : lw_okq (⟨"BlowerBreath$Town", "save", "(II)V"⟩, 13) := ⟨⟨by decide +kernel, by decide +kernel⟩, List.mem_of_getElem? (i := 42) (by decide +kernel), List.mem_of_getElem? (i := 364) (by decide +kernel), List.mem_of_getElem? (i := 365) (by decide +kernel)⟩
theorem lw_p14 : lw_okq (⟨"BlowerBreath", "spokenIfCut", "(I)I"⟩, 17) := ⟨⟨by decide +kernel, by decide +kernel⟩, List.mem_of_getElem? (i := 12) (by decide +kernel), List.mem_of_getElem? (i := 441) (by decide +kernel), List.mem_of_getElem? (i := 442) (by decide +kernel)⟩
theorem lw_p15 : lw_okq (⟨"BlowerBreath", "speakAlways", "(III)Z"⟩, 17) := ⟨⟨by decide +kernel, by decide +kernel⟩, List.mem_of_getElem? (i := 12) (by decide +kernel), List.mem_of_getElem? (i := 458) (by decide +kernel), List.mem_of_getElem? (i := 459) (by decide +kernel)⟩
def lw_privs_1 : List (MethodName × Nat) := [(⟨"BlowerBreath", "found", "(I)I"⟩, 17), (⟨"BlowerBreath", "refusedPlace", "(II)I"⟩, 17), (⟨"BlowerBreath", "tell", "(I)I"⟩, 17), (⟨"BlowerBreath$Reader", "passBlanks", "()V"⟩, 3), (⟨"BlowerBreath$Reader", "signAt", "(I)I"⟩, 3), (⟨"BlowerBreath$Reader", "readBellows", "(LBlowerBreath$Town;)I"⟩, 3), (⟨"BlowerBreath$Reader", "figureAt", "(I)I"⟩, 3), (⟨"BlowerBreath$Town", "restart", "()V"⟩, 13), (⟨"BlowerBreath$Reader", "readPipe", "(LBlowerBreath$Town;)I"⟩, 3), (⟨"BlowerBreath", "pipeFact", "(II)I"⟩, 17), (⟨"BlowerBreath", "wantingNoMoreThan", "(I)I"⟩, 17), (⟨"BlowerBreath", "perform", "(II)I"⟩, 17), (⟨"BlowerBreath$Town", "breathe", "(I)Z"⟩, 13), (⟨"BlowerBreath$Town", "save", "(II)V"⟩, 13), (⟨"BlowerBreath", "spokenIfCut", "(I)I"⟩, 17), (⟨"BlowerBreath", "speakAlways", "(III)Z"⟩, 17)]
theorem lw_r1 : ∀ q ∈ lw_privs_1, lw_okq q := List.forall_mem_cons.mpr ⟨lw_p0, List.forall_mem_cons.mpr ⟨lw_p1, List.forall_mem_cons.mpr ⟨lw_p2, List.forall_mem_cons.mpr ⟨lw_p3, List.forall_mem_cons.mpr ⟨lw_p4, List.forall_mem_cons.mpr ⟨lw_p5, List.forall_mem_cons.mpr ⟨lw_p6, List.forall_mem_cons.mpr ⟨lw_p7, List.forall_mem_cons.mpr ⟨lw_p8, List.forall_mem_cons.mpr ⟨lw_p9, List.forall_mem_cons.mpr ⟨lw_p10, List.forall_mem_cons.mpr ⟨lw_p11, List.forall_mem_cons.mpr ⟨lw_p12, List.forall_mem_cons.mpr ⟨lw_p13, List.forall_mem_cons.mpr ⟨lw_p14, List.forall_mem_cons.mpr ⟨lw_p15, fun _ h => absurd h List.not_mem_nil⟩⟩⟩⟩⟩⟩⟩⟩⟩⟩⟩⟩⟩⟩⟩⟩
theorem lw_p16 : lw_okq (⟨"BlowerBreath", "refusedHearing", "(I)I"⟩, 17) := ⟨⟨by decide +kernel, by decide +kernel⟩, List.mem_of_getElem? (i := 12) (by decide +kernel), List.mem_of_getElem? (i := 466) (by decide +kernel), List.mem_of_getElem? (i := 467) (by decide +kernel)⟩
theorem lw_p17 : lw_okq (⟨"BlowerBreath", "leakingFits", "(II)Z"⟩, 17) := ⟨⟨by decide +kernel, by decide +kernel⟩, List.mem_of_getElem? (i := 12) (by decide +kernel), List.mem_of_getElem? (i := 470) (by decide +kernel), List.mem_of_getElem? (i := 471) (by decide +kernel)⟩
theorem lw_p18 : lw_okq (⟨"BlowerBreath", "trialSpeaksLike", "(I)Z"⟩, 17) := ⟨⟨by decide +kernel, by decide +kernel⟩, List.mem_of_getElem? (i := 12) (by decide +kernel), List.mem_of_getElem? (i := 474) (by decide +kernel), List.mem_of_getElem? (i := 475) (by decide +kernel)⟩
theorem lw_p19 : lw_okq (⟨"BlowerBreath", "tellShare", "(JJ)V"⟩, 17) := ⟨⟨by decide +kernel, by decide +kernel⟩, List.mem_of_getElem? (i := 12) (by decide +kernel), List.mem_of_getElem? (i := 478) (by decide +kernel), List.mem_of_getElem? (i := 479) (by decide +kernel)⟩
theorem lw_p20 : lw_okq (⟨"BlowerBreath", "tallyNextSpeakers", "(I)I"⟩, 17) := ⟨⟨by decide +kernel, by decide +kernel⟩, List.mem_of_getElem? (i := 12) (by decide +kernel), List.mem_of_getElem? (i := 489) (by decide +kernel), List.mem_of_getElem? (i := 490) (by decide +kernel)⟩
theorem lw_p21 : lw_okq (⟨"BlowerBreath", "greaterPart", "(II)I"⟩, 17) := ⟨⟨by decide +kernel, by decide +kernel⟩, List.mem_of_getElem? (i := 12) (by decide +kernel), List.mem_of_getElem? (i := 493) (by decide +kernel), List.mem_of_getElem? (i := 494) (by decide +kernel)⟩
theorem lw_p22 : lw_okq (⟨"BlowerBreath", "refusedSum", "(I)I"⟩, 17) := ⟨⟨by decide +kernel, by decide +kernel⟩, List.mem_of_getElem? (i := 12) (by decide +kernel), List.mem_of_getElem? (i := 509) (by decide +kernel), List.mem_of_getElem? (i := 510) (by decide +kernel)⟩
theorem lw_p23 : lw_okq (⟨"BlowerBreath", "bestGain", "(IZ)I"⟩, 17) := ⟨⟨by decide +kernel, by decide +kernel⟩, List.mem_of_getElem? (i := 12) (by decide +kernel), List.mem_of_getElem? (i := 529) (by decide +kernel), List.mem_of_getElem? (i := 530) (by decide +kernel)⟩
theorem lw_p24 : lw_okq (⟨"BlowerBreath", "tellMeanOfNextHour", "(II)V"⟩, 17) := ⟨⟨by decide +kernel, by decide +kernel⟩, List.mem_of_getElem? (i := 12) (by decide +kernel), List.mem_of_getElem? (i := 538) (by decide +kernel), List.mem_of_getElem? (i := 539) (by decide +kernel)⟩
theorem lw_p25 : lw_okq (⟨"BlowerBreath", "performLot", "(I)V"⟩, 17) := ⟨⟨by decide +kernel, by decide +kernel⟩, List.mem_of_getElem? (i := 12) (by decide +kernel), List.mem_of_getElem? (i := 555) (by decide +kernel), List.mem_of_getElem? (i := 556) (by decide +kernel)⟩
theorem lw_p26 : lw_okq (⟨"BlowerBreath", "keptTowns", "()I"⟩, 17) := ⟨⟨by decide +kernel, by decide +kernel⟩, List.mem_of_getElem? (i := 12) (by decide +kernel), List.mem_of_getElem? (i := 587) (by decide +kernel), List.mem_of_getElem? (i := 588) (by decide +kernel)⟩
theorem lw_p27 : lw_okq (⟨"BlowerBreathModel", "forgets", "()V"⟩, 31) := ⟨⟨by decide +kernel, by decide +kernel⟩, List.mem_of_getElem? (i := 606) (by decide +kernel), List.mem_of_getElem? (i := 612) (by decide +kernel), List.mem_of_getElem? (i := 613) (by decide +kernel)⟩
theorem lw_p28 : lw_okq (⟨"BlowerBreathModel", "found", "(I)I"⟩, 31) := ⟨⟨by decide +kernel, by decide +kernel⟩, List.mem_of_getElem? (i := 606) (by decide +kernel), List.mem_of_getElem? (i := 721) (by decide +kernel), List.mem_of_getElem? (i := 722) (by decide +kernel)⟩
theorem lw_p29 : lw_okq (⟨"BlowerBreathModel", "tell", "(I)I"⟩, 31) := ⟨⟨by decide +kernel, by decide +kernel⟩, List.mem_of_getElem? (i := 606) (by decide +kernel), List.mem_of_getElem? (i := 729) (by decide +kernel), List.mem_of_getElem? (i := 730) (by decide +kernel)⟩
theorem lw_p30 : lw_okq (⟨"BlowerBreathModel", "reads", "(I)I"⟩, 31) := ⟨⟨by decide +kernel, by decide +kernel⟩, List.mem_of_getElem? (i := 606) (by decide +kernel), List.mem_of_getElem? (i := 765) (by decide +kernel), List.mem_of_getElem? (i := 766) (by decide +kernel)⟩
theorem lw_p31 : lw_okq (⟨"BlowerBreathModel", "readsHead", "()Z"⟩, 31) := ⟨⟨by decide +kernel, by decide +kernel⟩, List.mem_of_getElem? (i := 606) (by decide +kernel), List.mem_of_getElem? (i := 769) (by decide +kernel), List.mem_of_getElem? (i := 770) (by decide +kernel)⟩
def lw_privs_2 : List (MethodName × Nat) := [(⟨"BlowerBreath", "refusedHearing", "(I)I"⟩, 17), (⟨"BlowerBreath", "leakingFits", "(II)Z"⟩, 17), (⟨"BlowerBreath", "trialSpeaksLike", "(I)Z"⟩, 17), (⟨"BlowerBreath", "tellShare", "(JJ)V"⟩, 17), (⟨"BlowerBreath", "tallyNextSpeakers", "(I)I"⟩, 17), (⟨"BlowerBreath", "greaterPart", "(II)I"⟩, 17), (⟨"BlowerBreath", "refusedSum", "(I)I"⟩, 17), (⟨"BlowerBreath", "bestGain", "(IZ)I"⟩, 17), (⟨"BlowerBreath", "tellMeanOfNextHour", "(II)V"⟩, 17), (⟨"BlowerBreath", "performLot", "(I)V"⟩, 17), (⟨"BlowerBreath", "keptTowns", "()I"⟩, 17), (⟨"BlowerBreathModel", "forgets", "()V"⟩, 31), (⟨"BlowerBreathModel", "found", "(I)I"⟩, 31), (⟨"BlowerBreathModel", "tell", "(I)I"⟩, 31), (⟨"BlowerBreathModel", "reads", "(I)I"⟩, 31), (⟨"BlowerBreathModel", "readsHead", "()Z"⟩, 31)]
theorem lw_r2 : ∀ q ∈ lw_privs_2, lw_okq q := List.forall_mem_cons.mpr ⟨lw_p16, List.forall_mem_cons.mpr ⟨lw_p17, List.forall_mem_cons.mpr ⟨lw_p18, List.forall_mem_cons.mpr ⟨lw_p19, List.forall_mem_cons.mpr ⟨lw_p20, List.forall_mem_cons.mpr ⟨lw_p21, List.forall_mem_cons.mpr ⟨lw_p22, List.forall_mem_cons.mpr ⟨lw_p23, List.forall_mem_cons.mpr ⟨lw_p24, List.forall_mem_cons.mpr ⟨lw_p25, List.forall_mem_cons.mpr ⟨lw_p26, List.forall_mem_cons.mpr ⟨lw_p27, List.forall_mem_cons.mpr ⟨lw_p28, List.forall_mem_cons.mpr ⟨lw_p29, List.forall_mem_cons.mpr ⟨lw_p30, List.forall_mem_cons.mpr ⟨lw_p31, fun _ h => absurd h List.not_mem_nil⟩⟩⟩⟩⟩⟩⟩⟩⟩⟩⟩⟩⟩⟩⟩⟩
theorem lw_p32 : lw_okq (⟨"BlowerBreathModel", "skips", "()V"⟩, 31) := ⟨⟨by decide +kernel, by decide +kernel⟩, List.mem_of_getElem? (i := 606) (by decide +kernel), List.mem_of_getElem? (i := 773) (by decide +kernel), List.mem_of_getElem? (i := 774) (by decide +kernel)⟩
theorem lw_p33 : lw_okq (⟨"BlowerBreathModel", "here", "()I"⟩, 31) := ⟨⟨by decide +kernel, by decide +kernel⟩, List.mem_of_getElem? (i := 606) (by decide +kernel), List.mem_of_getElem? (i := 777) (by decide +kernel), List.mem_of_getElem? (i := 778) (by decide +kernel)⟩
theorem lw_p34 : lw_okq (⟨"BlowerBreathModel", "isFigure", "(II)Z"⟩, 31) := ⟨⟨by decide +kernel, by decide +kernel⟩, List.mem_of_getElem? (i := 606) (by decide +kernel), List.mem_of_getElem? (i := 781) (by decide +kernel), List.mem_of_getElem? (i := 782) (by decide +kernel)⟩
theorem lw_p35 : lw_okq (⟨"BlowerBreathModel", "readsPipe", "()Z"⟩, 31) := ⟨⟨by decide +kernel, by decide +kernel⟩, List.mem_of_getElem? (i := 606) (by decide +kernel), List.mem_of_getElem? (i := 785) (by decide +kernel), List.mem_of_getElem? (i := 786) (by decide +kernel)⟩
theorem lw_p36 : lw_okq (⟨"BlowerBreathModel", "isPipe", "(I)Z"⟩, 31) := ⟨⟨by decide +kernel, by decide +kernel⟩, List.mem_of_getElem? (i := 606) (by decide +kernel), List.mem_of_getElem? (i := 800) (by decide +kernel), List.mem_of_getElem? (i := 801) (by decide +kernel)⟩
theorem lw_p37 : lw_okq (⟨"BlowerBreathModel", "wantsOn", "([II)I"⟩, 31) := ⟨⟨by decide +kernel, by decide +kernel⟩, List.mem_of_getElem? (i := 606) (by decide +kernel), List.mem_of_getElem? (i := 805) (by decide +kernel), List.mem_of_getElem? (i := 806) (by decide +kernel)⟩
theorem lw_p38 : lw_okq (⟨"BlowerBreathModel", "isCutOff", "([II)Z"⟩, 31) := ⟨⟨by decide +kernel, by decide +kernel⟩, List.mem_of_getElem? (i := 606) (by decide +kernel), List.mem_of_getElem? (i := 812) (by decide +kernel), List.mem_of_getElem? (i := 813) (by decide +kernel)⟩
theorem lw_p39 : lw_okq (⟨"BlowerBreathModel", "refuses", "(I)I"⟩, 31) := ⟨⟨by decide +kernel, by decide +kernel⟩, List.mem_of_getElem? (i := 606) (by decide +kernel), List.mem_of_getElem? (i := 830) (by decide +kernel), List.mem_of_getElem? (i := 831) (by decide +kernel)⟩
theorem lw_p40 : lw_okq (⟨"BlowerBreathModel", "remember", "()V"⟩, 31) := ⟨⟨by decide +kernel, by decide +kernel⟩, List.mem_of_getElem? (i := 606) (by decide +kernel), List.mem_of_getElem? (i := 834) (by decide +kernel), List.mem_of_getElem? (i := 835) (by decide +kernel)⟩
theorem lw_p41 : lw_okq (⟨"BlowerBreathModel", "goes", "([I)I"⟩, 31) := ⟨⟨by decide +kernel, by decide +kernel⟩, List.mem_of_getElem? (i := 606) (by decide +kernel), List.mem_of_getElem? (i := 841) (by decide +kernel), List.mem_of_getElem? (i := 842) (by decide +kernel)⟩
theorem lw_p42 : lw_okq (⟨"BlowerBreathModel", "takes", "([II)Z"⟩, 31) := ⟨⟨by decide +kernel, by decide +kernel⟩, List.mem_of_getElem? (i := 606) (by decide +kernel), List.mem_of_getElem? (i := 848) (by decide +kernel), List.mem_of_getElem? (i := 849) (by decide +kernel)⟩
theorem lw_p43 : lw_okq (⟨"BlowerBreathModel", "turns", "(II)I"⟩, 31) := ⟨⟨by decide +kernel, by decide +kernel⟩, List.mem_of_getElem? (i := 606) (by decide +kernel), List.mem_of_getElem? (i := 863) (by decide +kernel), List.mem_of_getElem? (i := 864) (by decide +kernel)⟩
theorem lw_p44 : lw_okq (⟨"BlowerBreathModel", "layAside", "()V"⟩, 31) := ⟨⟨by decide +kernel, by decide +kernel⟩, List.mem_of_getElem? (i := 606) (by decide +kernel), List.mem_of_getElem? (i := 898) (by decide +kernel), List.mem_of_getElem? (i := 899) (by decide +kernel)⟩
theorem lw_p45 : lw_okq (⟨"BlowerBreathModel", "answer", "(II)I"⟩, 31) := ⟨⟨by decide +kernel, by decide +kernel⟩, List.mem_of_getElem? (i := 606) (by decide +kernel), List.mem_of_getElem? (i := 902) (by decide +kernel), List.mem_of_getElem? (i := 903) (by decide +kernel)⟩
theorem lw_p46 : lw_okq (⟨"BlowerBreathModel", "arePipes", "(I)Z"⟩, 31) := ⟨⟨by decide +kernel, by decide +kernel⟩, List.mem_of_getElem? (i := 606) (by decide +kernel), List.mem_of_getElem? (i := 929) (by decide +kernel), List.mem_of_getElem? (i := 930) (by decide +kernel)⟩
theorem lw_p47 : lw_okq (⟨"BlowerBreathModel", "refusesAll", "(I)I"⟩, 31) := ⟨⟨by decide +kernel, by decide +kernel⟩, List.mem_of_getElem? (i := 606) (by decide +kernel), List.mem_of_getElem? (i := 938) (by decide +kernel), List.mem_of_getElem? (i := 939) (by decide +kernel)⟩
def lw_privs_3 : List (MethodName × Nat) := [(⟨"BlowerBreathModel", "skips", "()V"⟩, 31), (⟨"BlowerBreathModel", "here", "()I"⟩, 31), (⟨"BlowerBreathModel", "isFigure", "(II)Z"⟩, 31), (⟨"BlowerBreathModel", "readsPipe", "()Z"⟩, 31), (⟨"BlowerBreathModel", "isPipe", "(I)Z"⟩, 31), (⟨"BlowerBreathModel", "wantsOn", "([II)I"⟩, 31), (⟨"BlowerBreathModel", "isCutOff", "([II)Z"⟩, 31), (⟨"BlowerBreathModel", "refuses", "(I)I"⟩, 31), (⟨"BlowerBreathModel", "remember", "()V"⟩, 31), (⟨"BlowerBreathModel", "goes", "([I)I"⟩, 31), (⟨"BlowerBreathModel", "takes", "([II)Z"⟩, 31), (⟨"BlowerBreathModel", "turns", "(II)I"⟩, 31), (⟨"BlowerBreathModel", "layAside", "()V"⟩, 31), (⟨"BlowerBreathModel", "answer", "(II)I"⟩, 31), (⟨"BlowerBreathModel", "arePipes", "(I)Z"⟩, 31), (⟨"BlowerBreathModel", "refusesAll", "(I)I"⟩, 31)]
theorem lw_r3 : ∀ q ∈ lw_privs_3, lw_okq q := List.forall_mem_cons.mpr ⟨lw_p32, List.forall_mem_cons.mpr ⟨lw_p33, List.forall_mem_cons.mpr ⟨lw_p34, List.forall_mem_cons.mpr ⟨lw_p35, List.forall_mem_cons.mpr ⟨lw_p36, List.forall_mem_cons.mpr ⟨lw_p37, List.forall_mem_cons.mpr ⟨lw_p38, List.forall_mem_cons.mpr ⟨lw_p39, List.forall_mem_cons.mpr ⟨lw_p40, List.forall_mem_cons.mpr ⟨lw_p41, List.forall_mem_cons.mpr ⟨lw_p42, List.forall_mem_cons.mpr ⟨lw_p43, List.forall_mem_cons.mpr ⟨lw_p44, List.forall_mem_cons.mpr ⟨lw_p45, List.forall_mem_cons.mpr ⟨lw_p46, List.forall_mem_cons.mpr ⟨lw_p47, fun _ h => absurd h List.not_mem_nil⟩⟩⟩⟩⟩⟩⟩⟩⟩⟩⟩⟩⟩⟩⟩⟩
theorem lw_p48 : lw_okq (⟨"BlowerBreathModel", "refusesRow", "(I)I"⟩, 31) := ⟨⟨by decide +kernel, by decide +kernel⟩, List.mem_of_getElem? (i := 606) (by decide +kernel), List.mem_of_getElem? (i := 942) (by decide +kernel), List.mem_of_getElem? (i := 943) (by decide +kernel)⟩
theorem lw_p49 : lw_okq (⟨"BlowerBreathModel", "mayLeak", "(II)Z"⟩, 31) := ⟨⟨by decide +kernel, by decide +kernel⟩, List.mem_of_getElem? (i := 606) (by decide +kernel), List.mem_of_getElem? (i := 947) (by decide +kernel), List.mem_of_getElem? (i := 948) (by decide +kernel)⟩
theorem lw_p50 : lw_okq (⟨"BlowerBreathModel", "goesAs", "(I)Z"⟩, 31) := ⟨⟨by decide +kernel, by decide +kernel⟩, List.mem_of_getElem? (i := 606) (by decide +kernel), List.mem_of_getElem? (i := 951) (by decide +kernel), List.mem_of_getElem? (i := 952) (by decide +kernel)⟩
theorem lw_p51 : lw_okq (⟨"BlowerBreathModel", "counted", "(II)I"⟩, 31) := ⟨⟨by decide +kernel, by decide +kernel⟩, List.mem_of_getElem? (i := 606) (by decide +kernel), List.mem_of_getElem? (i := 955) (by decide +kernel), List.mem_of_getElem? (i := 956) (by decide +kernel)⟩
theorem lw_p52 : lw_okq (⟨"BlowerBreathModel", "wantsOf", "(I)I"⟩, 31) := ⟨⟨by decide +kernel, by decide +kernel⟩, List.mem_of_getElem? (i := 606) (by decide +kernel), List.mem_of_getElem? (i := 976) (by decide +kernel), List.mem_of_getElem? (i := 977) (by decide +kernel)⟩
theorem lw_p53 : lw_okq (⟨"BlowerBreathModel", "weighs", "(IZ)I"⟩, 31) := ⟨⟨by decide +kernel, by decide +kernel⟩, List.mem_of_getElem? (i := 606) (by decide +kernel), List.mem_of_getElem? (i := 988) (by decide +kernel), List.mem_of_getElem? (i := 989) (by decide +kernel)⟩
theorem lw_p54 : lw_okq (⟨"BlowerBreathModel", "ways", "(II)J"⟩, 31) := ⟨⟨by decide +kernel, by decide +kernel⟩, List.mem_of_getElem? (i := 606) (by decide +kernel), List.mem_of_getElem? (i := 997) (by decide +kernel), List.mem_of_getElem? (i := 998) (by decide +kernel)⟩
theorem lw_p55 : lw_okq (⟨"BlowerBreathModel", "allWays", "()J"⟩, 31) := ⟨⟨by decide +kernel, by decide +kernel⟩, List.mem_of_getElem? (i := 606) (by decide +kernel), List.mem_of_getElem? (i := 1001) (by decide +kernel), List.mem_of_getElem? (i := 1002) (by decide +kernel)⟩
theorem lw_p56 : lw_okq (⟨"BlowerBreathModel", "fraction", "(JJ)I"⟩, 31) := ⟨⟨by decide +kernel, by decide +kernel⟩, List.mem_of_getElem? (i := 606) (by decide +kernel), List.mem_of_getElem? (i := 1005) (by decide +kernel), List.mem_of_getElem? (i := 1006) (by decide +kernel)⟩
theorem lw_p57 : lw_okq (⟨"BlowerBreathModel", "lot", "(I)V"⟩, 31) := ⟨⟨by decide +kernel, by decide +kernel⟩, List.mem_of_getElem? (i := 606) (by decide +kernel), List.mem_of_getElem? (i := 1020) (by decide +kernel), List.mem_of_getElem? (i := 1021) (by decide +kernel)⟩
theorem lw_p58 : lw_okq (⟨"BlowerBreathModel", "together", "(I)I"⟩, 31) := ⟨⟨by decide +kernel, by decide +kernel⟩, List.mem_of_getElem? (i := 606) (by decide +kernel), List.mem_of_getElem? (i := 1040) (by decide +kernel), List.mem_of_getElem? (i := 1041) (by decide +kernel)⟩
theorem lw_p59 : lw_okq (⟨"BlowerBreathModel", "those", "(I)I"⟩, 31) := ⟨⟨by decide +kernel, by decide +kernel⟩, List.mem_of_getElem? (i := 606) (by decide +kernel), List.mem_of_getElem? (i := 1044) (by decide +kernel), List.mem_of_getElem? (i := 1045) (by decide +kernel)⟩
def lw_privs_4 : List (MethodName × Nat) := [(⟨"BlowerBreathModel", "refusesRow", "(I)I"⟩, 31), (⟨"BlowerBreathModel", "mayLeak", "(II)Z"⟩, 31), (⟨"BlowerBreathModel", "goesAs", "(I)Z"⟩, 31), (⟨"BlowerBreathModel", "counted", "(II)I"⟩, 31), (⟨"BlowerBreathModel", "wantsOf", "(I)I"⟩, 31), (⟨"BlowerBreathModel", "weighs", "(IZ)I"⟩, 31), (⟨"BlowerBreathModel", "ways", "(II)J"⟩, 31), (⟨"BlowerBreathModel", "allWays", "()J"⟩, 31), (⟨"BlowerBreathModel", "fraction", "(JJ)I"⟩, 31), (⟨"BlowerBreathModel", "lot", "(I)V"⟩, 31), (⟨"BlowerBreathModel", "together", "(I)I"⟩, 31), (⟨"BlowerBreathModel", "those", "(I)I"⟩, 31)]
theorem lw_r4 : ∀ q ∈ lw_privs_4, lw_okq q := List.forall_mem_cons.mpr ⟨lw_p48, List.forall_mem_cons.mpr ⟨lw_p49, List.forall_mem_cons.mpr ⟨lw_p50, List.forall_mem_cons.mpr ⟨lw_p51, List.forall_mem_cons.mpr ⟨lw_p52, List.forall_mem_cons.mpr ⟨lw_p53, List.forall_mem_cons.mpr ⟨lw_p54, List.forall_mem_cons.mpr ⟨lw_p55, List.forall_mem_cons.mpr ⟨lw_p56, List.forall_mem_cons.mpr ⟨lw_p57, List.forall_mem_cons.mpr ⟨lw_p58, List.forall_mem_cons.mpr ⟨lw_p59, fun _ h => absurd h List.not_mem_nil⟩⟩⟩⟩⟩⟩⟩⟩⟩⟩⟩⟩
def lw_privs : List (MethodName × Nat) := lw_privs_1 ++ (lw_privs_2 ++ (lw_privs_3 ++ (lw_privs_4)))
def lw_tbl : List Cond := k2_sels lw_privs ++ tables_1
theorem lw_privs_ok : ∀ q ∈ lw_privs, lw_okq q := by
  show ∀ q ∈ lw_privs_1 ++ (lw_privs_2 ++ (lw_privs_3 ++ (lw_privs_4))), lw_okq q
  exact List.forall_mem_append.mpr ⟨lw_r1, List.forall_mem_append.mpr ⟨lw_r2, List.forall_mem_append.mpr ⟨lw_r3, lw_r4⟩⟩⟩
-- ===== end of PART A; then your names; then what follows =====
end
section
/-! ===== BEGIN words of one list among another's, by their places ===== -/
theorem goodIn_r {big : List Cond} (ws : List Cond) (ps : List Nat) (hp : ws = ps.filterMap (fun i => big[i]?)) (h : ws.all goodWord = true) : GoodIn big ws := by
  intro w hw
  have h1 := List.all_eq_true.mp h w hw
  rw [hp] at hw
  obtain ⟨i, -, hi⟩ := List.mem_filterMap.mp hw
  have hm : w ∈ big := by first | exact List.mem_of_getElem? hi | exact List.getElem?_mem hi
  exact ⟨hm, good_of_word h1⟩
theorem goodIn_app {big a b : List Cond} (ha : GoodIn big a) (hb : GoodIn big b) : GoodIn big (a ++ b) := fun w h => (List.mem_append.mp h).elim (ha w) (hb w)
theorem goodIn_ca {big a b : List Cond} {c : Cond} (ha : GoodIn big (c :: a)) (hb : GoodIn big b) : GoodIn big (c :: (a ++ b)) := fun w h => (List.mem_cons.mp h).elim (fun e => ha w (List.mem_cons.mpr (Or.inl e))) (fun h => (List.mem_append.mp h).elim (fun h => ha w (List.mem_cons.mpr (Or.inr h))) (hb w))
theorem goodIn_sub {big ws : List Cond} (hm : ∀ w ∈ ws, w ∈ big) (h : ws.all goodWord = true) : GoodIn big ws := fun w hw => ⟨hm w hw, good_of_word (List.all_eq_true.mp h w hw)⟩
/-! ===== END ===== -/


/-! ===== BEGIN printed: names, fields, word lists, decode rows ===== -/
def RX0 : String := "BlowerBreath$Deeds"
def TX0 : u_T := fun k => match k with
  | 0 => ("BlowerBreath$Deeds", "what", "[I", true)
  | 1 => ("BlowerBreath$Deeds", "by", "[I", true)
  | _ => ("BlowerBreath$Deeds", "size", "I", false)
def tyX0 : Nat → FieldType := fun k => match k with
  | 0 => .array .int
  | 1 => .array .int
  | _ => .int
abbrev wsX00 : List Cond := u_ws RX0 TX0 3
theorem nmX0 : ∀ a, a < 3 → ∀ b, b < 3 → a ≠ b → (TX0 a).2.1 ≠ (TX0 b).2.1 := by decide +kernel
theorem tyX0_ok : ∀ k, k < 3 → parseFieldDescriptor (TX0 k).2.2.1 = some (tyX0 k) := by decide +kernel
abbrev cX0_init : ByteArray := prog_2_method_1_code
def yX0_init : MethodName := ⟨RX0, "<init>", "()V"⟩
abbrev cX0_add : ByteArray := prog_2_method_2_code
def yX0_add : MethodName := ⟨RX0, "add", "(II)Z"⟩
abbrev cX0_become : ByteArray := prog_2_method_3_code
def yX0_become : MethodName := ⟨RX0, "become", "(LBlowerBreath$Deeds;)V"⟩
def RX1 : String := "BlowerBreath$Kind"
def TX1 : u_T := fun k => match k with
  | _ => ("", "", "", false)
def tyX1 : Nat → FieldType := fun k => match k with
  | _ => .int
abbrev wsX10 : List Cond := u_ws RX1 TX1 0
theorem nmX1 : ∀ a, a < 0 → ∀ b, b < 0 → a ≠ b → (TX1 a).2.1 ≠ (TX1 b).2.1 := by decide +kernel
theorem tyX1_ok : ∀ k, k < 0 → parseFieldDescriptor (TX1 k).2.2.1 = some (tyX1 k) := by decide +kernel
abbrev cX1_ofLetter : ByteArray := prog_3_method_2_code
def yX1_ofLetter : MethodName := ⟨RX1, "ofLetter", "(I)I"⟩
abbrev cX1_isOf : ByteArray := prog_3_method_3_code
def yX1_isOf : MethodName := ⟨RX1, "isOf", "(II)Z"⟩
abbrev cX1_want : ByteArray := prog_3_method_4_code
def yX1_want : MethodName := ⟨RX1, "want", "(III)I"⟩
abbrev cX1_keeps : ByteArray := prog_3_method_5_code
def yX1_keeps : MethodName := ⟨RX1, "keeps", "(I)I"⟩
abbrev cX1_hoursToRest : ByteArray := prog_3_method_6_code
def yX1_hoursToRest : MethodName := ⟨RX1, "hoursToRest", "(I)I"⟩
def RX2 : String := "BlowerBreath$Reader"
def TX2 : u_T := fun k => match k with
  | 0 => ("BlowerBreath$Reader", "bytes", "[B", false)
  | 1 => ("BlowerBreath$Reader", "size", "I", false)
  | _ => ("BlowerBreath$Reader", "place", "I", false)
def tyX2 : Nat → FieldType := fun k => match k with
  | 0 => .array .byte
  | 1 => .int
  | _ => .int
abbrev wsX20 : List Cond := u_ws RX2 TX2 3
theorem nmX2 : ∀ a, a < 3 → ∀ b, b < 3 → a ≠ b → (TX2 a).2.1 ≠ (TX2 b).2.1 := by decide +kernel
theorem tyX2_ok : ∀ k, k < 3 → parseFieldDescriptor (TX2 k).2.2.1 = some (tyX2 k) := by decide +kernel
abbrev cX2_init : ByteArray := prog_4_method_1_code
def yX2_init : MethodName := ⟨RX2, "<init>", "()V"⟩
abbrev cX2_readTown : ByteArray := prog_4_method_2_code
def yX2_readTown : MethodName := ⟨RX2, "readTown", "([BILBlowerBreath$Town;)I"⟩
abbrev cX2_readBellows : ByteArray := prog_4_method_3_code
def yX2_readBellows : MethodName := ⟨RX2, "readBellows", "(LBlowerBreath$Town;)I"⟩
abbrev cX2_readPipe : ByteArray := prog_4_method_4_code
def yX2_readPipe : MethodName := ⟨RX2, "readPipe", "(LBlowerBreath$Town;)I"⟩
abbrev cX2_passBlanks : ByteArray := prog_4_method_5_code
def yX2_passBlanks : MethodName := ⟨RX2, "passBlanks", "()V"⟩
abbrev cX2_figureAt : ByteArray := prog_4_method_6_code
def yX2_figureAt : MethodName := ⟨RX2, "figureAt", "(I)I"⟩
abbrev cX2_signAt : ByteArray := prog_4_method_7_code
def yX2_signAt : MethodName := ⟨RX2, "signAt", "(I)I"⟩
def RX3 : String := "BlowerBreath$Town"
def TX3 : u_T := fun k => match k with
  | 0 => ("BlowerBreath$Town", "pipes", "I", false)
  | 1 => ("BlowerBreath$Town", "firstAir", "I", false)
  | 2 => ("BlowerBreath$Town", "firstStroke", "I", false)
  | 3 => ("BlowerBreath$Town", "air", "I", false)
  | 4 => ("BlowerBreath$Town", "stroke", "I", false)
  | 5 => ("BlowerBreath$Town", "number", "I", false)
  | 6 => ("BlowerBreath$Town", "cutSet", "I", false)
  | 7 => ("BlowerBreath$Town", "leakSet", "I", false)
  | 8 => ("BlowerBreath$Town", "kind", "[I", true)
  | 9 => ("BlowerBreath$Town", "from", "[I", true)
  | 10 => ("BlowerBreath$Town", "need", "[I", true)
  | 11 => ("BlowerBreath$Town", "saved", "[I", true)
  | _ => ("BlowerBreath$Town", "said", "[I", true)
def tyX3 : Nat → FieldType := fun k => match k with
  | 0 => .int
  | 1 => .int
  | 2 => .int
  | 3 => .int
  | 4 => .int
  | 5 => .int
  | 6 => .int
  | 7 => .int
  | 8 => .array .int
  | 9 => .array .int
  | 10 => .array .int
  | 11 => .array .int
  | _ => .array .int
abbrev wsX30 : List Cond := u_ws RX3 TX3 13
theorem nmX3 : ∀ a, a < 13 → ∀ b, b < 13 → a ≠ b → (TX3 a).2.1 ≠ (TX3 b).2.1 := by decide +kernel
theorem tyX3_ok : ∀ k, k < 13 → parseFieldDescriptor (TX3 k).2.2.1 = some (tyX3 k) := by decide +kernel
abbrev cX3_init : ByteArray := prog_5_method_1_code
def yX3_init : MethodName := ⟨RX3, "<init>", "()V"⟩
abbrev cX3_isIn : ByteArray := prog_5_method_2_code
def yX3_isIn : MethodName := ⟨RX3, "isIn", "(II)Z"⟩
abbrev cX3_hasPipe : ByteArray := prog_5_method_3_code
def yX3_hasPipe : MethodName := ⟨RX3, "hasPipe", "(I)Z"⟩
abbrev cX3_allPipes : ByteArray := prog_5_method_4_code
def yX3_allPipes : MethodName := ⟨RX3, "allPipes", "()I"⟩
abbrev cX3_isSet : ByteArray := prog_5_method_5_code
def yX3_isSet : MethodName := ⟨RX3, "isSet", "(I)Z"⟩
abbrev cX3_found : ByteArray := prog_5_method_6_code
def yX3_found : MethodName := ⟨RX3, "found", "(II)V"⟩
abbrev cX3_join : ByteArray := prog_5_method_7_code
def yX3_join : MethodName := ⟨RX3, "join", "(III)V"⟩
abbrev cX3_become : ByteArray := prog_5_method_8_code
def yX3_become : MethodName := ⟨RX3, "become", "(LBlowerBreath$Town;)V"⟩
abbrev cX3_relive : ByteArray := prog_5_method_9_code
def yX3_relive : MethodName := ⟨RX3, "relive", "(LBlowerBreath$Deeds;)V"⟩
abbrev cX3_restart : ByteArray := prog_5_method_10_code
def yX3_restart : MethodName := ⟨RX3, "restart", "()V"⟩
abbrev cX3_undergo : ByteArray := prog_5_method_11_code
def yX3_undergo : MethodName := ⟨RX3, "undergo", "(II)I"⟩
abbrev cX3_blow : ByteArray := prog_5_method_12_code
def yX3_blow : MethodName := ⟨RX3, "blow", "()I"⟩
abbrev cX3_breathe : ByteArray := prog_5_method_13_code
def yX3_breathe : MethodName := ⟨RX3, "breathe", "(I)Z"⟩
abbrev cX3_save : ByteArray := prog_5_method_14_code
def yX3_save : MethodName := ⟨RX3, "save", "(II)V"⟩
abbrev cX3_cutOffSet : ByteArray := prog_5_method_15_code
def yX3_cutOffSet : MethodName := ⟨RX3, "cutOffSet", "()I"⟩
abbrev cX3_wantNext : ByteArray := prog_5_method_16_code
def yX3_wantNext : MethodName := ⟨RX3, "wantNext", "(I)I"⟩
abbrev cX3_wantTogether : ByteArray := prog_5_method_17_code
def yX3_wantTogether : MethodName := ⟨RX3, "wantTogether", "(I)I"⟩
abbrev cX3_sumOf : ByteArray := prog_5_method_18_code
def yX3_sumOf : MethodName := ⟨RX3, "sumOf", "([I)I"⟩
abbrev cX3_pipesOf : ByteArray := prog_5_method_19_code
def yX3_pipesOf : MethodName := ⟨RX3, "pipesOf", "(I)I"⟩
def RX4 : String := "BlowerBreath"
def TX4 : u_T := fun k => match k with
  | 0 => ("BlowerBreath", "rows", "[[I", true)
  | 1 => ("BlowerBreath", "rowSizes", "[I", true)
  | 2 => ("BlowerBreath", "texts", "[[B", true)
  | 3 => ("BlowerBreath", "textSizes", "[I", true)
  | 4 => ("BlowerBreath", "reader", "LBlowerBreath$Reader;", true)
  | 5 => ("BlowerBreath", "town", "LBlowerBreath$Town;", true)
  | 6 => ("BlowerBreath", "trial", "LBlowerBreath$Town;", true)
  | 7 => ("BlowerBreath", "deeds", "LBlowerBreath$Deeds;", true)
  | 8 => ("BlowerBreath", "kept", "[LBlowerBreath$Deeds;", true)
  | 9 => ("BlowerBreath", "tally", "[I", true)
  | 10 => ("BlowerBreath", "gains", "[I", true)
  | 11 => ("BlowerBreath", "nextGains", "[I", true)
  | 12 => ("BlowerBreath", "findingTimes", "[I", true)
  | 13 => ("BlowerBreath", "latestFinding", "I", false)
  | 14 => ("BlowerBreath", "latestAsked", "I", false)
  | 15 => ("BlowerBreath", "latestUpper", "J", false)
  | _ => ("BlowerBreath", "latestLower", "J", false)
def tyX4 : Nat → FieldType := fun k => match k with
  | 0 => .array (.array .int)
  | 1 => .array .int
  | 2 => .array (.array .byte)
  | 3 => .array .int
  | 4 => .object "BlowerBreath$Reader"
  | 5 => .object "BlowerBreath$Town"
  | 6 => .object "BlowerBreath$Town"
  | 7 => .object "BlowerBreath$Deeds"
  | 8 => .array (.object "BlowerBreath$Deeds")
  | 9 => .array .int
  | 10 => .array .int
  | 11 => .array .int
  | 12 => .array .int
  | 13 => .int
  | 14 => .int
  | 15 => .long
  | _ => .long
abbrev wsX40 : List Cond := u_ws RX4 TX4 17
theorem nmX4 : ∀ a, a < 17 → ∀ b, b < 17 → a ≠ b → (TX4 a).2.1 ≠ (TX4 b).2.1 := by decide +kernel
theorem tyX4_ok : ∀ k, k < 17 → parseFieldDescriptor (TX4 k).2.2.1 = some (tyX4 k) := by decide +kernel
abbrev cX4_init : ByteArray := prog_1_method_1_code
def yX4_init : MethodName := ⟨RX4, "<init>", "()V"⟩
abbrev cX4_row : ByteArray := prog_1_method_2_code
def yX4_row : MethodName := ⟨RX4, "row", "(II)I"⟩
abbrev cX4_lay : ByteArray := prog_1_method_3_code
def yX4_lay : MethodName := ⟨RX4, "lay", "(III)I"⟩
abbrev cX4_at : ByteArray := prog_1_method_4_code
def yX4_at : MethodName := ⟨RX4, "at", "(II)I"⟩
abbrev cX4_tear : ByteArray := prog_1_method_5_code
def yX4_tear : MethodName := ⟨RX4, "tear", "(I)I"⟩
abbrev cX4_copy : ByteArray := prog_1_method_6_code
def yX4_copy : MethodName := ⟨RX4, "copy", "(IIIII)I"⟩
abbrev cX4_mean : ByteArray := prog_1_method_7_code
def yX4_mean : MethodName := ⟨RX4, "mean", "(I)I"⟩
abbrev cX4_text : ByteArray := prog_1_method_8_code
def yX4_text : MethodName := ⟨RX4, "text", "(II)I"⟩
abbrev cX4_put : ByteArray := prog_1_method_9_code
def yX4_put : MethodName := ⟨RX4, "put", "(III)I"⟩
abbrev cX4_fault : ByteArray := prog_1_method_10_code
def yX4_fault : MethodName := ⟨RX4, "fault", "(I)I"⟩
abbrev cX4_town : ByteArray := prog_1_method_11_code
def yX4_town : MethodName := ⟨RX4, "town", "(I)I"⟩
abbrev cX4_pipe : ByteArray := prog_1_method_12_code
def yX4_pipe : MethodName := ⟨RX4, "pipe", "(II)I"⟩
abbrev cX4_mark : ByteArray := prog_1_method_13_code
def yX4_mark : MethodName := ⟨RX4, "mark", "(II)I"⟩
abbrev cX4_hour : ByteArray := prog_1_method_14_code
def yX4_hour : MethodName := ⟨RX4, "hour", "()I"⟩
abbrev cX4_pump : ByteArray := prog_1_method_15_code
def yX4_pump : MethodName := ⟨RX4, "pump", "(I)I"⟩
abbrev cX4_cut : ByteArray := prog_1_method_16_code
def yX4_cut : MethodName := ⟨RX4, "cut", "(I)I"⟩
abbrev cX4_leak : ByteArray := prog_1_method_17_code
def yX4_leak : MethodName := ⟨RX4, "leak", "(I)I"⟩
abbrev cX4_stroke : ByteArray := prog_1_method_18_code
def yX4_stroke : MethodName := ⟨RX4, "stroke", "(I)I"⟩
abbrev cX4_undo : ByteArray := prog_1_method_19_code
def yX4_undo : MethodName := ⟨RX4, "undo", "(I)I"⟩
abbrev cX4_keep : ByteArray := prog_1_method_20_code
def yX4_keep : MethodName := ⟨RX4, "keep", "(I)I"⟩
abbrev cX4_on : ByteArray := prog_1_method_21_code
def yX4_on : MethodName := ⟨RX4, "on", "(I)I"⟩
abbrev cX4_wants : ByteArray := prog_1_method_22_code
def yX4_wants : MethodName := ⟨RX4, "wants", "(III)I"⟩
abbrev cX4_air : ByteArray := prog_1_method_23_code
def yX4_air : MethodName := ⟨RX4, "air", "(I)I"⟩
abbrev cX4_says : ByteArray := prog_1_method_24_code
def yX4_says : MethodName := ⟨RX4, "says", "(II)I"⟩
abbrev cX4_first : ByteArray := prog_1_method_25_code
def yX4_first : MethodName := ⟨RX4, "first", "(I)I"⟩
abbrev cX4_hush : ByteArray := prog_1_method_26_code
def yX4_hush : MethodName := ⟨RX4, "hush", "(I)I"⟩
abbrev cX4_least : ByteArray := prog_1_method_27_code
def yX4_least : MethodName := ⟨RX4, "least", "(I)I"⟩
abbrev cX4_hard : ByteArray := prog_1_method_28_code
def yX4_hard : MethodName := ⟨RX4, "hard", "(II)I"⟩
abbrev cX4_leaks : ByteArray := prog_1_method_29_code
def yX4_leaks : MethodName := ⟨RX4, "leaks", "(I)I"⟩
abbrev cX4_listen : ByteArray := prog_1_method_30_code
def yX4_listen : MethodName := ⟨RX4, "listen", "(I)I"⟩
abbrev cX4_strokes : ByteArray := prog_1_method_31_code
def yX4_strokes : MethodName := ⟨RX4, "strokes", "(I)I"⟩
abbrev cX4_kinds : ByteArray := prog_1_method_32_code
def yX4_kinds : MethodName := ⟨RX4, "kinds", "(II)I"⟩
abbrev cX4_sets : ByteArray := prog_1_method_33_code
def yX4_sets : MethodName := ⟨RX4, "sets", "(I)I"⟩
abbrev cX4_sure : ByteArray := prog_1_method_34_code
def yX4_sure : MethodName := ⟨RX4, "sure", "(I)I"⟩
abbrev cX4_duel : ByteArray := prog_1_method_35_code
def yX4_duel : MethodName := ⟨RX4, "duel", "(I)I"⟩
abbrev cX4_odds : ByteArray := prog_1_method_36_code
def yX4_odds : MethodName := ⟨RX4, "odds", "(II)I"⟩
abbrev cX4_mid : ByteArray := prog_1_method_37_code
def yX4_mid : MethodName := ⟨RX4, "mid", "(I)I"⟩
abbrev cX4_lots : ByteArray := prog_1_method_38_code
def yX4_lots : MethodName := ⟨RX4, "lots", "(II)I"⟩
abbrev cX4_asked : ByteArray := prog_1_method_39_code
def yX4_asked : MethodName := ⟨RX4, "asked", "()I"⟩
abbrev cX4_upper : ByteArray := prog_1_method_40_code
def yX4_upper : MethodName := ⟨RX4, "upper", "()J"⟩
abbrev cX4_lower : ByteArray := prog_1_method_41_code
def yX4_lower : MethodName := ⟨RX4, "lower", "()J"⟩
abbrev cX4_count : ByteArray := prog_1_method_42_code
def yX4_count : MethodName := ⟨RX4, "count", "(I)I"⟩
abbrev cX4_finding : ByteArray := prog_1_method_43_code
def yX4_finding : MethodName := ⟨RX4, "finding", "()I"⟩
abbrev cX4_findings : ByteArray := prog_1_method_44_code
def yX4_findings : MethodName := ⟨RX4, "findings", "(I)I"⟩
abbrev cX4_digest : ByteArray := prog_1_method_45_code
def yX4_digest : MethodName := ⟨RX4, "digest", "()J"⟩
abbrev cX4_isRow : ByteArray := prog_1_method_46_code
def yX4_isRow : MethodName := ⟨RX4, "isRow", "(I)Z"⟩
abbrev cX4_isText : ByteArray := prog_1_method_47_code
def yX4_isText : MethodName := ⟨RX4, "isText", "(I)Z"⟩
abbrev cX4_isKeepingPlace : ByteArray := prog_1_method_48_code
def yX4_isKeepingPlace : MethodName := ⟨RX4, "isKeepingPlace", "(I)Z"⟩
abbrev cX4_hasPlaces : ByteArray := prog_1_method_49_code
def yX4_hasPlaces : MethodName := ⟨RX4, "hasPlaces", "(III)Z"⟩
abbrev cX4_found : ByteArray := prog_1_method_50_code
def yX4_found : MethodName := ⟨RX4, "found", "(I)I"⟩
abbrev cX4_tell : ByteArray := prog_1_method_51_code
def yX4_tell : MethodName := ⟨RX4, "tell", "(I)I"⟩
abbrev cX4_tellShare : ByteArray := prog_1_method_52_code
def yX4_tellShare : MethodName := ⟨RX4, "tellShare", "(JJ)V"⟩
abbrev cX4_greatestDivisor : ByteArray := prog_1_method_53_code
def yX4_greatestDivisor : MethodName := ⟨RX4, "greatestDivisor", "(JJ)J"⟩
abbrev cX4_refusedPlace : ByteArray := prog_1_method_54_code
def yX4_refusedPlace : MethodName := ⟨RX4, "refusedPlace", "(II)I"⟩
abbrev cX4_refusedHearing : ByteArray := prog_1_method_55_code
def yX4_refusedHearing : MethodName := ⟨RX4, "refusedHearing", "(I)I"⟩
abbrev cX4_refusedSum : ByteArray := prog_1_method_56_code
def yX4_refusedSum : MethodName := ⟨RX4, "refusedSum", "(I)I"⟩
abbrev cX4_thereOf : ByteArray := prog_1_method_57_code
def yX4_thereOf : MethodName := ⟨RX4, "thereOf", "([I)I"⟩
abbrev cX4_keptTowns : ByteArray := prog_1_method_58_code
def yX4_keptTowns : MethodName := ⟨RX4, "keptTowns", "()I"⟩
abbrev cX4_pipeFact : ByteArray := prog_1_method_59_code
def yX4_pipeFact : MethodName := ⟨RX4, "pipeFact", "(II)I"⟩
abbrev cX4_wantingNoMoreThan : ByteArray := prog_1_method_60_code
def yX4_wantingNoMoreThan : MethodName := ⟨RX4, "wantingNoMoreThan", "(I)I"⟩
abbrev cX4_perform : ByteArray := prog_1_method_61_code
def yX4_perform : MethodName := ⟨RX4, "perform", "(II)I"⟩
abbrev cX4_performLot : ByteArray := prog_1_method_62_code
def yX4_performLot : MethodName := ⟨RX4, "performLot", "(I)V"⟩
abbrev cX4_spokenIfCut : ByteArray := prog_1_method_63_code
def yX4_spokenIfCut : MethodName := ⟨RX4, "spokenIfCut", "(I)I"⟩
abbrev cX4_speakAlways : ByteArray := prog_1_method_64_code
def yX4_speakAlways : MethodName := ⟨RX4, "speakAlways", "(III)Z"⟩
abbrev cX4_leakingFits : ByteArray := prog_1_method_65_code
def yX4_leakingFits : MethodName := ⟨RX4, "leakingFits", "(II)Z"⟩
abbrev cX4_trialSpeaksLike : ByteArray := prog_1_method_66_code
def yX4_trialSpeaksLike : MethodName := ⟨RX4, "trialSpeaksLike", "(I)Z"⟩
abbrev cX4_tallyNextSpeakers : ByteArray := prog_1_method_67_code
def yX4_tallyNextSpeakers : MethodName := ⟨RX4, "tallyNextSpeakers", "(I)I"⟩
abbrev cX4_greaterPart : ByteArray := prog_1_method_68_code
def yX4_greaterPart : MethodName := ⟨RX4, "greaterPart", "(II)I"⟩
abbrev cX4_evenBeyondUneven : ByteArray := prog_1_method_69_code
def yX4_evenBeyondUneven : MethodName := ⟨RX4, "evenBeyondUneven", "(I)I"⟩
abbrev cX4_bestGain : ByteArray := prog_1_method_70_code
def yX4_bestGain : MethodName := ⟨RX4, "bestGain", "(IZ)I"⟩
abbrev cX4_tellMeanOfNextHour : ByteArray := prog_1_method_71_code
def yX4_tellMeanOfNextHour : MethodName := ⟨RX4, "tellMeanOfNextHour", "(II)V"⟩
abbrev cX4_power : ByteArray := prog_1_method_72_code
def yX4_power : MethodName := ⟨RX4, "power", "(JI)J"⟩
def RX5 : String := "BlowerBreathModel"
def TX5 : u_T := fun k => match k with
  | 0 => ("BlowerBreathModel", "rows", "[I", true)
  | 1 => ("BlowerBreathModel", "rowSizes", "[I", true)
  | 2 => ("BlowerBreathModel", "texts", "[I", true)
  | 3 => ("BlowerBreathModel", "textSizes", "[I", true)
  | 4 => ("BlowerBreathModel", "asked", "I", false)
  | 5 => ("BlowerBreathModel", "upper", "J", false)
  | 6 => ("BlowerBreathModel", "lower", "J", false)
  | 7 => ("BlowerBreathModel", "finding", "I", false)
  | 8 => ("BlowerBreathModel", "findings", "[I", true)
  | 9 => ("BlowerBreathModel", "pipes", "I", false)
  | 10 => ("BlowerBreathModel", "kinds", "[I", true)
  | 11 => ("BlowerBreathModel", "froms", "[I", true)
  | 12 => ("BlowerBreathModel", "needs", "[I", true)
  | 13 => ("BlowerBreathModel", "now", "[I", true)
  | 14 => ("BlowerBreathModel", "aside", "[I", true)
  | 15 => ("BlowerBreathModel", "ahead", "[I", true)
  | 16 => ("BlowerBreathModel", "deeds", "I", false)
  | 17 => ("BlowerBreathModel", "kept", "[I", true)
  | 18 => ("BlowerBreathModel", "at", "I", false)
  | 19 => ("BlowerBreathModel", "size", "I", false)
  | 20 => ("BlowerBreathModel", "which", "I", false)
  | 21 => ("BlowerBreathModel", "value", "I", false)
  | 22 => ("BlowerBreathModel", "readAir", "I", false)
  | 23 => ("BlowerBreathModel", "readStroke", "I", false)
  | 24 => ("BlowerBreathModel", "readPipes", "I", false)
  | 25 => ("BlowerBreathModel", "readKinds", "[I", true)
  | 26 => ("BlowerBreathModel", "readFroms", "[I", true)
  | 27 => ("BlowerBreathModel", "readNeeds", "[I", true)
  | 28 => ("BlowerBreathModel", "says", "[I", true)
  | 29 => ("BlowerBreathModel", "worth", "[I", true)
  | _ => ("BlowerBreathModel", "then", "[I", true)
def tyX5 : Nat → FieldType := fun k => match k with
  | 0 => .array .int
  | 1 => .array .int
  | 2 => .array .int
  | 3 => .array .int
  | 4 => .int
  | 5 => .long
  | 6 => .long
  | 7 => .int
  | 8 => .array .int
  | 9 => .int
  | 10 => .array .int
  | 11 => .array .int
  | 12 => .array .int
  | 13 => .array .int
  | 14 => .array .int
  | 15 => .array .int
  | 16 => .int
  | 17 => .array .int
  | 18 => .int
  | 19 => .int
  | 20 => .int
  | 21 => .int
  | 22 => .int
  | 23 => .int
  | 24 => .int
  | 25 => .array .int
  | 26 => .array .int
  | 27 => .array .int
  | 28 => .array .int
  | 29 => .array .int
  | _ => .array .int
abbrev wsX50 : List Cond := u_ws RX5 TX5 31
theorem nmX5 : ∀ a, a < 31 → ∀ b, b < 31 → a ≠ b → (TX5 a).2.1 ≠ (TX5 b).2.1 := by decide +kernel
theorem tyX5_ok : ∀ k, k < 31 → parseFieldDescriptor (TX5 k).2.2.1 = some (tyX5 k) := by decide +kernel
abbrev cX5_init : ByteArray := prog_7_method_1_code
def yX5_init : MethodName := ⟨RX5, "<init>", "()V"⟩
abbrev cX5_in : ByteArray := prog_7_method_3_code
def yX5_in : MethodName := ⟨RX5, "in", "(JJJ)Z"⟩
abbrev cX5_has : ByteArray := prog_7_method_4_code
def yX5_has : MethodName := ⟨RX5, "has", "(II)Z"⟩
abbrev cX5_bits : ByteArray := prog_7_method_5_code
def yX5_bits : MethodName := ⟨RX5, "bits", "(I)I"⟩
abbrev cX5_found : ByteArray := prog_7_method_6_code
def yX5_found : MethodName := ⟨RX5, "found", "(I)I"⟩
abbrev cX5_tell : ByteArray := prog_7_method_7_code
def yX5_tell : MethodName := ⟨RX5, "tell", "(I)I"⟩
abbrev cX5_answer : ByteArray := prog_7_method_8_code
def yX5_answer : MethodName := ⟨RX5, "answer", "(II)I"⟩
abbrev cX5_isRow : ByteArray := prog_7_method_9_code
def yX5_isRow : MethodName := ⟨RX5, "isRow", "(I)Z"⟩
abbrev cX5_isText : ByteArray := prog_7_method_10_code
def yX5_isText : MethodName := ⟨RX5, "isText", "(I)Z"⟩
abbrev cX5_row : ByteArray := prog_7_method_11_code
def yX5_row : MethodName := ⟨RX5, "row", "(II)I"⟩
abbrev cX5_lay : ByteArray := prog_7_method_12_code
def yX5_lay : MethodName := ⟨RX5, "lay", "(III)I"⟩
abbrev cX5_at : ByteArray := prog_7_method_13_code
def yX5_at : MethodName := ⟨RX5, "at", "(II)I"⟩
abbrev cX5_tear : ByteArray := prog_7_method_14_code
def yX5_tear : MethodName := ⟨RX5, "tear", "(I)I"⟩
abbrev cX5_copy : ByteArray := prog_7_method_15_code
def yX5_copy : MethodName := ⟨RX5, "copy", "(IIIII)I"⟩
abbrev cX5_mean : ByteArray := prog_7_method_16_code
def yX5_mean : MethodName := ⟨RX5, "mean", "(I)I"⟩
abbrev cX5_text : ByteArray := prog_7_method_17_code
def yX5_text : MethodName := ⟨RX5, "text", "(II)I"⟩
abbrev cX5_put : ByteArray := prog_7_method_18_code
def yX5_put : MethodName := ⟨RX5, "put", "(III)I"⟩
abbrev cX5_copies : ByteArray := prog_7_method_19_code
def yX5_copies : MethodName := ⟨RX5, "copies", "([II[III)V"⟩
abbrev cX5_forgets : ByteArray := prog_7_method_20_code
def yX5_forgets : MethodName := ⟨RX5, "forgets", "()V"⟩
abbrev cX5_here : ByteArray := prog_7_method_21_code
def yX5_here : MethodName := ⟨RX5, "here", "()I"⟩
abbrev cX5_kindOf : ByteArray := prog_7_method_22_code
def yX5_kindOf : MethodName := ⟨RX5, "kindOf", "(I)I"⟩
abbrev cX5_isFigure : ByteArray := prog_7_method_23_code
def yX5_isFigure : MethodName := ⟨RX5, "isFigure", "(II)Z"⟩
abbrev cX5_skips : ByteArray := prog_7_method_24_code
def yX5_skips : MethodName := ⟨RX5, "skips", "()V"⟩
abbrev cX5_readsHead : ByteArray := prog_7_method_25_code
def yX5_readsHead : MethodName := ⟨RX5, "readsHead", "()Z"⟩
abbrev cX5_readsPipe : ByteArray := prog_7_method_26_code
def yX5_readsPipe : MethodName := ⟨RX5, "readsPipe", "()Z"⟩
abbrev cX5_reads : ByteArray := prog_7_method_27_code
def yX5_reads : MethodName := ⟨RX5, "reads", "(I)I"⟩
abbrev cX5_fault : ByteArray := prog_7_method_28_code
def yX5_fault : MethodName := ⟨RX5, "fault", "(I)I"⟩
abbrev cX5_town : ByteArray := prog_7_method_29_code
def yX5_town : MethodName := ⟨RX5, "town", "(I)I"⟩
abbrev cX5_isPipe : ByteArray := prog_7_method_30_code
def yX5_isPipe : MethodName := ⟨RX5, "isPipe", "(I)Z"⟩
abbrev cX5_arePipes : ByteArray := prog_7_method_31_code
def yX5_arePipes : MethodName := ⟨RX5, "arePipes", "(I)Z"⟩
abbrev cX5_wantsBy : ByteArray := prog_7_method_32_code
def yX5_wantsBy : MethodName := ⟨RX5, "wantsBy", "(III)I"⟩
abbrev cX5_wantsOn : ByteArray := prog_7_method_33_code
def yX5_wantsOn : MethodName := ⟨RX5, "wantsOn", "([II)I"⟩
abbrev cX5_isOf : ByteArray := prog_7_method_34_code
def yX5_isOf : MethodName := ⟨RX5, "isOf", "(II)Z"⟩
abbrev cX5_isCutOff : ByteArray := prog_7_method_35_code
def yX5_isCutOff : MethodName := ⟨RX5, "isCutOff", "([II)Z"⟩
abbrev cX5_takes : ByteArray := prog_7_method_36_code
def yX5_takes : MethodName := ⟨RX5, "takes", "([II)Z"⟩
abbrev cX5_lesser : ByteArray := prog_7_method_37_code
def yX5_lesser : MethodName := ⟨RX5, "lesser", "(II)I"⟩
abbrev cX5_goes : ByteArray := prog_7_method_38_code
def yX5_goes : MethodName := ⟨RX5, "goes", "([I)I"⟩
abbrev cX5_pipe : ByteArray := prog_7_method_39_code
def yX5_pipe : MethodName := ⟨RX5, "pipe", "(II)I"⟩
abbrev cX5_mark : ByteArray := prog_7_method_40_code
def yX5_mark : MethodName := ⟨RX5, "mark", "(II)I"⟩
abbrev cX5_refuses : ByteArray := prog_7_method_41_code
def yX5_refuses : MethodName := ⟨RX5, "refuses", "(I)I"⟩
abbrev cX5_remember : ByteArray := prog_7_method_42_code
def yX5_remember : MethodName := ⟨RX5, "remember", "()V"⟩
abbrev cX5_hour : ByteArray := prog_7_method_43_code
def yX5_hour : MethodName := ⟨RX5, "hour", "()I"⟩
abbrev cX5_pump : ByteArray := prog_7_method_44_code
def yX5_pump : MethodName := ⟨RX5, "pump", "(I)I"⟩
abbrev cX5_turns : ByteArray := prog_7_method_45_code
def yX5_turns : MethodName := ⟨RX5, "turns", "(II)I"⟩
abbrev cX5_cut : ByteArray := prog_7_method_46_code
def yX5_cut : MethodName := ⟨RX5, "cut", "(I)I"⟩
abbrev cX5_leak : ByteArray := prog_7_method_47_code
def yX5_leak : MethodName := ⟨RX5, "leak", "(I)I"⟩
abbrev cX5_stroke : ByteArray := prog_7_method_48_code
def yX5_stroke : MethodName := ⟨RX5, "stroke", "(I)I"⟩
abbrev cX5_undo : ByteArray := prog_7_method_49_code
def yX5_undo : MethodName := ⟨RX5, "undo", "(I)I"⟩
abbrev cX5_keep : ByteArray := prog_7_method_50_code
def yX5_keep : MethodName := ⟨RX5, "keep", "(I)I"⟩
abbrev cX5_on : ByteArray := prog_7_method_51_code
def yX5_on : MethodName := ⟨RX5, "on", "(I)I"⟩
abbrev cX5_layAside : ByteArray := prog_7_method_52_code
def yX5_layAside : MethodName := ⟨RX5, "layAside", "()V"⟩
abbrev cX5_wants : ByteArray := prog_7_method_53_code
def yX5_wants : MethodName := ⟨RX5, "wants", "(III)I"⟩
abbrev cX5_air : ByteArray := prog_7_method_54_code
def yX5_air : MethodName := ⟨RX5, "air", "(I)I"⟩
abbrev cX5_says : ByteArray := prog_7_method_55_code
def yX5_says : MethodName := ⟨RX5, "says", "(II)I"⟩
abbrev cX5_first : ByteArray := prog_7_method_56_code
def yX5_first : MethodName := ⟨RX5, "first", "(I)I"⟩
abbrev cX5_hush : ByteArray := prog_7_method_57_code
def yX5_hush : MethodName := ⟨RX5, "hush", "(I)I"⟩
abbrev cX5_least : ByteArray := prog_7_method_58_code
def yX5_least : MethodName := ⟨RX5, "least", "(I)I"⟩
abbrev cX5_hard : ByteArray := prog_7_method_59_code
def yX5_hard : MethodName := ⟨RX5, "hard", "(II)I"⟩
abbrev cX5_refusesRow : ByteArray := prog_7_method_60_code
def yX5_refusesRow : MethodName := ⟨RX5, "refusesRow", "(I)I"⟩
abbrev cX5_goesAs : ByteArray := prog_7_method_61_code
def yX5_goesAs : MethodName := ⟨RX5, "goesAs", "(I)Z"⟩
abbrev cX5_refusesAll : ByteArray := prog_7_method_62_code
def yX5_refusesAll : MethodName := ⟨RX5, "refusesAll", "(I)I"⟩
abbrev cX5_mayLeak : ByteArray := prog_7_method_63_code
def yX5_mayLeak : MethodName := ⟨RX5, "mayLeak", "(II)Z"⟩
abbrev cX5_counted : ByteArray := prog_7_method_64_code
def yX5_counted : MethodName := ⟨RX5, "counted", "(II)I"⟩
abbrev cX5_leaks : ByteArray := prog_7_method_65_code
def yX5_leaks : MethodName := ⟨RX5, "leaks", "(I)I"⟩
abbrev cX5_listen : ByteArray := prog_7_method_66_code
def yX5_listen : MethodName := ⟨RX5, "listen", "(I)I"⟩
abbrev cX5_strokes : ByteArray := prog_7_method_67_code
def yX5_strokes : MethodName := ⟨RX5, "strokes", "(I)I"⟩
abbrev cX5_kinds : ByteArray := prog_7_method_68_code
def yX5_kinds : MethodName := ⟨RX5, "kinds", "(II)I"⟩
abbrev cX5_wantsOf : ByteArray := prog_7_method_69_code
def yX5_wantsOf : MethodName := ⟨RX5, "wantsOf", "(I)I"⟩
abbrev cX5_sets : ByteArray := prog_7_method_70_code
def yX5_sets : MethodName := ⟨RX5, "sets", "(I)I"⟩
abbrev cX5_sure : ByteArray := prog_7_method_71_code
def yX5_sure : MethodName := ⟨RX5, "sure", "(I)I"⟩
abbrev cX5_weighs : ByteArray := prog_7_method_72_code
def yX5_weighs : MethodName := ⟨RX5, "weighs", "(IZ)I"⟩
abbrev cX5_duel : ByteArray := prog_7_method_73_code
def yX5_duel : MethodName := ⟨RX5, "duel", "(I)I"⟩
abbrev cX5_fraction : ByteArray := prog_7_method_74_code
def yX5_fraction : MethodName := ⟨RX5, "fraction", "(JJ)I"⟩
abbrev cX5_ways : ByteArray := prog_7_method_75_code
def yX5_ways : MethodName := ⟨RX5, "ways", "(II)J"⟩
abbrev cX5_allWays : ByteArray := prog_7_method_76_code
def yX5_allWays : MethodName := ⟨RX5, "allWays", "()J"⟩
abbrev cX5_odds : ByteArray := prog_7_method_77_code
def yX5_odds : MethodName := ⟨RX5, "odds", "(II)I"⟩
abbrev cX5_mid : ByteArray := prog_7_method_78_code
def yX5_mid : MethodName := ⟨RX5, "mid", "(I)I"⟩
abbrev cX5_lot : ByteArray := prog_7_method_79_code
def yX5_lot : MethodName := ⟨RX5, "lot", "(I)V"⟩
abbrev cX5_lots : ByteArray := prog_7_method_80_code
def yX5_lots : MethodName := ⟨RX5, "lots", "(II)I"⟩
abbrev cX5_asked : ByteArray := prog_7_method_81_code
def yX5_asked : MethodName := ⟨RX5, "asked", "()I"⟩
abbrev cX5_upper : ByteArray := prog_7_method_82_code
def yX5_upper : MethodName := ⟨RX5, "upper", "()J"⟩
abbrev cX5_lower : ByteArray := prog_7_method_83_code
def yX5_lower : MethodName := ⟨RX5, "lower", "()J"⟩
abbrev cX5_there : ByteArray := prog_7_method_84_code
def yX5_there : MethodName := ⟨RX5, "there", "([III)I"⟩
abbrev cX5_together : ByteArray := prog_7_method_85_code
def yX5_together : MethodName := ⟨RX5, "together", "(I)I"⟩
abbrev cX5_those : ByteArray := prog_7_method_86_code
def yX5_those : MethodName := ⟨RX5, "those", "(I)I"⟩
abbrev cX5_count : ByteArray := prog_7_method_87_code
def yX5_count : MethodName := ⟨RX5, "count", "(I)I"⟩
abbrev cX5_finding : ByteArray := prog_7_method_88_code
def yX5_finding : MethodName := ⟨RX5, "finding", "()I"⟩
abbrev cX5_findings : ByteArray := prog_7_method_89_code
def yX5_findings : MethodName := ⟨RX5, "findings", "(I)I"⟩
abbrev cX5_digest : ByteArray := prog_7_method_90_code
def yX5_digest : MethodName := ⟨RX5, "digest", "()J"⟩
def RJ6 : String := "java/lang/Integer"
def TJ6 : u_T := fun k => match k with
  | _ => ("", "", "", false)
def tyJ6 : Nat → FieldType := fun k => match k with
  | _ => .int
abbrev wsJ60 : List Cond := u_ws RJ6 TJ6 0
theorem nmJ6 : ∀ a, a < 0 → ∀ b, b < 0 → a ≠ b → (TJ6 a).2.1 ≠ (TJ6 b).2.1 := by decide +kernel
theorem tyJ6_ok : ∀ k, k < 0 → parseFieldDescriptor (TJ6 k).2.2.1 = some (tyJ6 k) := by decide +kernel
abbrev cJ6_bitCount_0f7a4 : ByteArray := prog_8_method_49_code
def yJ6_bitCount_0f7a4 : MethodName := ⟨RJ6, "bitCount", "(I)I"⟩
def RJ9 : String := "java/lang/Math"
def TJ9 : u_T := fun k => match k with
  | _ => ("", "", "", false)
def tyJ9 : Nat → FieldType := fun k => match k with
  | _ => .int
abbrev wsJ90 : List Cond := u_ws RJ9 TJ9 0
theorem nmJ9 : ∀ a, a < 0 → ∀ b, b < 0 → a ≠ b → (TJ9 a).2.1 ≠ (TJ9 b).2.1 := by decide +kernel
theorem tyJ9_ok : ∀ k, k < 0 → parseFieldDescriptor (TJ9 k).2.2.1 = some (tyJ9 k) := by decide +kernel
abbrev cJ9_max_7cf53 : ByteArray := prog_9_method_65_code
def yJ9_max_7cf53 : MethodName := ⟨RJ9, "max", "(II)I"⟩
abbrev cJ9_min_7cf53 : ByteArray := prog_9_method_69_code
def yJ9_min_7cf53 : MethodName := ⟨RJ9, "min", "(II)I"⟩
def RJ10 : String := "java/lang/System"
def TJ10 : u_T := fun k => match k with
  | _ => ("", "", "", false)
def tyJ10 : Nat → FieldType := fun k => match k with
  | _ => .int
abbrev wsJ100 : List Cond := u_ws RJ10 TJ10 0
theorem nmJ10 : ∀ a, a < 0 → ∀ b, b < 0 → a ≠ b → (TJ10 a).2.1 ≠ (TJ10 b).2.1 := by decide +kernel
theorem tyJ10_ok : ∀ k, k < 0 → parseFieldDescriptor (TJ10 k).2.2.1 = some (tyJ10 k) := by decide +kernel
def RJ7 : String := "java/util/Arrays"
def TJ7 : u_T := fun k => match k with
  | _ => ("", "", "", false)
def tyJ7 : Nat → FieldType := fun k => match k with
  | _ => .int
abbrev wsJ70 : List Cond := u_ws RJ7 TJ7 0
theorem nmJ7 : ∀ a, a < 0 → ∀ b, b < 0 → a ≠ b → (TJ7 a).2.1 ≠ (TJ7 b).2.1 := by decide +kernel
theorem tyJ7_ok : ∀ k, k < 0 → parseFieldDescriptor (TJ7 k).2.2.1 = some (tyJ7 k) := by decide +kernel
abbrev cJ7_fill_53178 : ByteArray := prog_11_method_103_code
def yJ7_fill_53178 : MethodName := ⟨RJ7, "fill", "([II)V"⟩
abbrev cJ7_fill_031fb : ByteArray := prog_11_method_109_code
def yJ7_fill_031fb : MethodName := ⟨RJ7, "fill", "([BB)V"⟩
def RL : String := "BlowerBreathLaw"
abbrev cL_law : ByteArray := code
def yL_law : MethodName := ⟨RL, "law", "([I)Z"⟩
abbrev vwCl : List vw_C := [(RX0, TX0, 3), (RX2, TX2, 3), (RX3, TX3, 13), (RX4, TX4, 17), (RX5, TX5, 31)]
end
section
theorem bw_t0 {w : Cond} (h : w ∈ tables_1) : w ∈ lw_tbl := List.mem_append_right _ h
theorem bw_t1 {w : Cond} (h : w ∈ tables_1_1) : w ∈ lw_tbl := bw_t0 (List.mem_append_left _ h)
theorem bw_t2 {w : Cond} (h : w ∈ tables_1_2) : w ∈ lw_tbl := bw_t0 (List.mem_append_right _ (List.mem_append_left _ h))
theorem bw_t3 {w : Cond} (h : w ∈ tables_1_3) : w ∈ lw_tbl := bw_t0 (List.mem_append_right _ (List.mem_append_right _ (List.mem_append_left _ h)))
theorem bw_t4 {w : Cond} (h : w ∈ tables_1_4) : w ∈ lw_tbl := bw_t0 (List.mem_append_right _ (List.mem_append_right _ (List.mem_append_right _ (List.mem_append_left _ h))))
theorem bw_t5 {w : Cond} (h : w ∈ tables_1_5) : w ∈ lw_tbl := bw_t0 (List.mem_append_right _ (List.mem_append_right _ (List.mem_append_right _ (List.mem_append_right _ h))))
def bw_tbl : List Cond := lw_tbl.filter goodWord
theorem bw_tg {w : Cond} (h : w ∈ lw_tbl) (hg : goodWord w = true) : w ∈ bw_tbl := List.mem_filter.mpr ⟨h, hg⟩
theorem bw_tp {q : MethodName × Nat} (h : q ∈ lw_privs) : Cond.selects q.1.cls q.1 q.1 ∈ lw_tbl := List.mem_append_left _ (List.mem_map.mpr ⟨q, h, rfl⟩)
set_option maxRecDepth 20000 in
theorem mw_0 : Cond.initialized "BlowerBreathLaw" ∈ bw_tbl := bw_tg (bw_t1 (List.mem_of_getElem? (i := 0) (by decide +kernel))) rfl
set_option maxRecDepth 20000 in
theorem mw_1 : Cond.initialized "BlowerBreath" ∈ bw_tbl := bw_tg (bw_t1 (List.mem_of_getElem? (i := 1) (by decide +kernel))) rfl
set_option maxRecDepth 20000 in
theorem mw_2 : Cond.initialized "BlowerBreath$Reader" ∈ bw_tbl := bw_tg (bw_t1 (List.mem_of_getElem? (i := 2) (by decide +kernel))) rfl
set_option maxRecDepth 20000 in
theorem mw_3 : Cond.initialized "BlowerBreath$Town" ∈ bw_tbl := bw_tg (bw_t1 (List.mem_of_getElem? (i := 3) (by decide +kernel))) rfl
set_option maxRecDepth 20000 in
theorem mw_4 : Cond.initialized "BlowerBreath$Deeds" ∈ bw_tbl := bw_tg (bw_t1 (List.mem_of_getElem? (i := 4) (by decide +kernel))) rfl
set_option maxRecDepth 20000 in
theorem mw_5 : Cond.initialized "java/util/Arrays" ∈ bw_tbl := bw_tg (bw_t1 (List.mem_of_getElem? (i := 5) (by decide +kernel))) rfl
set_option maxRecDepth 20000 in
theorem mw_6 : Cond.initialized "BlowerBreathModel" ∈ bw_tbl := bw_tg (bw_t1 (List.mem_of_getElem? (i := 6) (by decide +kernel))) rfl
set_option maxRecDepth 20000 in
theorem mw_7 : Cond.initialized "java/lang/System" ∈ bw_tbl := bw_tg (bw_t1 (List.mem_of_getElem? (i := 7) (by decide +kernel))) rfl
set_option maxRecDepth 20000 in
theorem mw_8 : Cond.initialized "BlowerBreath$Kind" ∈ bw_tbl := bw_tg (bw_t1 (List.mem_of_getElem? (i := 8) (by decide +kernel))) rfl
set_option maxRecDepth 20000 in
theorem mw_9 : Cond.initialized "java/lang/Math" ∈ bw_tbl := bw_tg (bw_t1 (List.mem_of_getElem? (i := 9) (by decide +kernel))) rfl
set_option maxRecDepth 20000 in
theorem mw_10 : Cond.initialized "java/lang/Integer" ∈ bw_tbl := bw_tg (bw_t1 (List.mem_of_getElem? (i := 10) (by decide +kernel))) rfl
set_option maxRecDepth 20000 in
theorem mw_11 : Cond.classLink "BlowerBreathLaw" 7 "BlowerBreath" ∈ bw_tbl := bw_tg (bw_t1 (List.mem_of_getElem? (i := 11) (by decide +kernel))) rfl
set_option maxRecDepth 20000 in
theorem mw_12 : Cond.instantiable "BlowerBreath" 17 ∈ bw_tbl := bw_tg (bw_t1 (List.mem_of_getElem? (i := 12) (by decide +kernel))) rfl
set_option maxRecDepth 20000 in
theorem mw_13 : Cond.methodLink "BlowerBreathLaw" 9 yX4_init ∈ bw_tbl := bw_tg (bw_t1 (List.mem_of_getElem? (i := 13) (by decide +kernel))) rfl
set_option maxRecDepth 20000 in
theorem mw_14 : Cond.instanceMethod yX4_init ∈ bw_tbl := bw_tg (bw_t1 (List.mem_of_getElem? (i := 14) (by decide +kernel))) rfl
set_option maxRecDepth 20000 in
theorem mw_15 : Cond.code yX4_init cX4_init 2 none ∈ bw_tbl := bw_tg (bw_t1 (List.mem_of_getElem? (i := 15) rfl)) rfl
set_option maxRecDepth 20000 in
theorem mw_16 : Cond.methodLink "BlowerBreath" 1 objectInit ∈ bw_tbl := bw_tg (bw_t1 (List.mem_of_getElem? (i := 16) (by decide +kernel))) rfl
set_option maxRecDepth 20000 in
theorem mw_17 : Cond.instanceMethod objectInit ∈ bw_tbl := bw_tg (bw_t1 (List.mem_of_getElem? (i := 17) (by decide +kernel))) rfl
set_option maxRecDepth 20000 in
theorem mw_18 : Cond.code objectInit object_method_1_code 1 none ∈ bw_tbl := bw_tg (bw_t1 (List.mem_of_getElem? (i := 18) rfl)) rfl
set_option maxRecDepth 20000 in
theorem mw_19 : Cond.classLink "BlowerBreath" 9 "[[I" ∈ bw_tbl := bw_tg (bw_t1 (List.mem_of_getElem? (i := 19) (by decide +kernel))) rfl
set_option maxRecDepth 20000 in
theorem mw_20 : Cond.arrayOver (FieldType.array FieldType.int) ∈ lw_tbl := bw_t1 (List.mem_of_getElem? (i := 20) (by decide +kernel))
set_option maxRecDepth 20000 in
theorem mw_21 : Cond.classLink "BlowerBreath" 18 "[[B" ∈ bw_tbl := bw_tg (bw_t1 (List.mem_of_getElem? (i := 21) (by decide +kernel))) rfl
set_option maxRecDepth 20000 in
theorem mw_22 : Cond.arrayOver (FieldType.array FieldType.byte) ∈ lw_tbl := bw_t1 (List.mem_of_getElem? (i := 22) (by decide +kernel))
set_option maxRecDepth 20000 in
theorem mw_23 : Cond.classLink "BlowerBreath" 26 "BlowerBreath$Reader" ∈ bw_tbl := bw_tg (bw_t1 (List.mem_of_getElem? (i := 23) (by decide +kernel))) rfl
set_option maxRecDepth 20000 in
theorem mw_24 : Cond.instantiable "BlowerBreath$Reader" 3 ∈ bw_tbl := bw_tg (bw_t1 (List.mem_of_getElem? (i := 24) (by decide +kernel))) rfl
set_option maxRecDepth 20000 in
theorem mw_25 : Cond.methodLinkNest "BlowerBreath" 28 yX2_init "BlowerBreath" ∈ lw_tbl := bw_t1 (List.mem_of_getElem? (i := 25) (by decide +kernel))
set_option maxRecDepth 20000 in
theorem mw_26 : Cond.instanceMethod yX2_init ∈ bw_tbl := bw_tg (bw_t1 (List.mem_of_getElem? (i := 26) (by decide +kernel))) rfl
set_option maxRecDepth 20000 in
theorem mw_27 : Cond.code yX2_init cX2_init 1 none ∈ bw_tbl := bw_tg (bw_t1 (List.mem_of_getElem? (i := 27) rfl)) rfl
set_option maxRecDepth 20000 in
theorem mw_28 : Cond.methodLink "BlowerBreath$Reader" 3 objectInit ∈ bw_tbl := bw_tg (bw_t1 (List.mem_of_getElem? (i := 28) (by decide +kernel))) rfl
set_option maxRecDepth 20000 in
theorem mw_29 : Cond.fieldLink "BlowerBreath$Reader" 9 "BlowerBreath$Reader" "bytes" "[B" ∈ bw_tbl := bw_tg (bw_t1 (List.mem_of_getElem? (i := 29) (by decide +kernel))) rfl
set_option maxRecDepth 20000 in
theorem mw_30 : Cond.fieldLink "BlowerBreath$Reader" 15 "BlowerBreath$Reader" "size" "I" ∈ bw_tbl := bw_tg (bw_t1 (List.mem_of_getElem? (i := 30) (by decide +kernel))) rfl
set_option maxRecDepth 20000 in
theorem mw_31 : Cond.fieldLink "BlowerBreath$Reader" 19 "BlowerBreath$Reader" "place" "I" ∈ bw_tbl := bw_tg (bw_t1 (List.mem_of_getElem? (i := 31) (by decide +kernel))) rfl
set_option maxRecDepth 20000 in
theorem mw_32 : Cond.lays "BlowerBreath$Reader" "BlowerBreath$Reader" "bytes" "[B" ∈ bw_tbl := bw_tg (bw_t1 (List.mem_of_getElem? (i := 32) (by decide +kernel))) rfl
set_option maxRecDepth 20000 in
theorem mw_34 : Cond.lays "BlowerBreath$Reader" "BlowerBreath$Reader" "size" "I" ∈ bw_tbl := bw_tg (bw_t1 (List.mem_of_getElem? (i := 34) (by decide +kernel))) rfl
set_option maxRecDepth 20000 in
theorem mw_36 : Cond.lays "BlowerBreath$Reader" "BlowerBreath$Reader" "place" "I" ∈ bw_tbl := bw_tg (bw_t1 (List.mem_of_getElem? (i := 36) (by decide +kernel))) rfl
set_option maxRecDepth 20000 in
theorem mw_39 : Cond.arrayClass FieldType.int ∈ bw_tbl := bw_tg (bw_t1 (List.mem_of_getElem? (i := 39) (by decide +kernel))) rfl
set_option maxRecDepth 20000 in
theorem mw_40 : Cond.arrayClass FieldType.byte ∈ bw_tbl := bw_tg (bw_t1 (List.mem_of_getElem? (i := 40) (by decide +kernel))) rfl
set_option maxRecDepth 20000 in
theorem mw_41 : Cond.classLink "BlowerBreath" 33 "BlowerBreath$Town" ∈ bw_tbl := bw_tg (bw_t1 (List.mem_of_getElem? (i := 41) (by decide +kernel))) rfl
set_option maxRecDepth 20000 in
theorem mw_42 : Cond.instantiable "BlowerBreath$Town" 13 ∈ bw_tbl := bw_tg (bw_t1 (List.mem_of_getElem? (i := 42) (by decide +kernel))) rfl
set_option maxRecDepth 20000 in
theorem mw_43 : Cond.methodLinkNest "BlowerBreath" 35 yX3_init "BlowerBreath" ∈ lw_tbl := bw_t1 (List.mem_of_getElem? (i := 43) (by decide +kernel))
set_option maxRecDepth 20000 in
theorem mw_44 : Cond.instanceMethod yX3_init ∈ bw_tbl := bw_tg (bw_t1 (List.mem_of_getElem? (i := 44) (by decide +kernel))) rfl
set_option maxRecDepth 20000 in
theorem mw_45 : Cond.code yX3_init cX3_init 1 none ∈ bw_tbl := bw_tg (bw_t1 (List.mem_of_getElem? (i := 45) rfl)) rfl
set_option maxRecDepth 20000 in
theorem mw_46 : Cond.methodLink "BlowerBreath$Town" 1 objectInit ∈ bw_tbl := bw_tg (bw_t1 (List.mem_of_getElem? (i := 46) (by decide +kernel))) rfl
set_option maxRecDepth 20000 in
theorem mw_47 : Cond.fieldLink "BlowerBreath$Town" 7 "BlowerBreath$Town" "pipes" "I" ∈ bw_tbl := bw_tg (bw_t1 (List.mem_of_getElem? (i := 47) (by decide +kernel))) rfl
set_option maxRecDepth 20000 in
theorem mw_48 : Cond.fieldLink "BlowerBreath$Reader" 50 "BlowerBreath$Town" "pipes" "I" ∈ bw_tbl := bw_tg (bw_t1 (List.mem_of_getElem? (i := 48) (by decide +kernel))) rfl
set_option maxRecDepth 20000 in
theorem mw_49 : Cond.fieldLink "BlowerBreath" 128 "BlowerBreath$Town" "pipes" "I" ∈ bw_tbl := bw_tg (bw_t1 (List.mem_of_getElem? (i := 49) (by decide +kernel))) rfl
set_option maxRecDepth 20000 in
theorem mw_50 : Cond.fieldLink "BlowerBreath$Town" 13 "BlowerBreath$Town" "firstAir" "I" ∈ bw_tbl := bw_tg (bw_t1 (List.mem_of_getElem? (i := 50) (by decide +kernel))) rfl
set_option maxRecDepth 20000 in
theorem mw_51 : Cond.fieldLink "BlowerBreath$Town" 16 "BlowerBreath$Town" "firstStroke" "I" ∈ bw_tbl := bw_tg (bw_t1 (List.mem_of_getElem? (i := 51) (by decide +kernel))) rfl
set_option maxRecDepth 20000 in
theorem mw_52 : Cond.fieldLink "BlowerBreath$Town" 19 "BlowerBreath$Town" "air" "I" ∈ bw_tbl := bw_tg (bw_t1 (List.mem_of_getElem? (i := 52) (by decide +kernel))) rfl
set_option maxRecDepth 20000 in
theorem mw_53 : Cond.fieldLink "BlowerBreath" 152 "BlowerBreath$Town" "air" "I" ∈ bw_tbl := bw_tg (bw_t1 (List.mem_of_getElem? (i := 53) (by decide +kernel))) rfl
set_option maxRecDepth 20000 in
theorem mw_54 : Cond.fieldLink "BlowerBreath$Town" 22 "BlowerBreath$Town" "stroke" "I" ∈ bw_tbl := bw_tg (bw_t1 (List.mem_of_getElem? (i := 54) (by decide +kernel))) rfl
set_option maxRecDepth 20000 in
theorem mw_55 : Cond.fieldLink "BlowerBreath" 175 "BlowerBreath$Town" "stroke" "I" ∈ bw_tbl := bw_tg (bw_t1 (List.mem_of_getElem? (i := 55) (by decide +kernel))) rfl
set_option maxRecDepth 20000 in
theorem mw_56 : Cond.fieldLink "BlowerBreath$Town" 25 "BlowerBreath$Town" "number" "I" ∈ bw_tbl := bw_tg (bw_t1 (List.mem_of_getElem? (i := 56) (by decide +kernel))) rfl
set_option maxRecDepth 20000 in
theorem mw_57 : Cond.fieldLink "BlowerBreath" 163 "BlowerBreath$Town" "number" "I" ∈ bw_tbl := bw_tg (bw_t1 (List.mem_of_getElem? (i := 57) (by decide +kernel))) rfl
set_option maxRecDepth 20000 in
theorem mw_58 : Cond.fieldLink "BlowerBreath$Town" 28 "BlowerBreath$Town" "cutSet" "I" ∈ bw_tbl := bw_tg (bw_t1 (List.mem_of_getElem? (i := 58) (by decide +kernel))) rfl
set_option maxRecDepth 20000 in
theorem mw_59 : Cond.fieldLink "BlowerBreath" 204 "BlowerBreath$Town" "cutSet" "I" ∈ bw_tbl := bw_tg (bw_t1 (List.mem_of_getElem? (i := 59) (by decide +kernel))) rfl
set_option maxRecDepth 20000 in
theorem mw_60 : Cond.fieldLink "BlowerBreath$Town" 31 "BlowerBreath$Town" "leakSet" "I" ∈ bw_tbl := bw_tg (bw_t1 (List.mem_of_getElem? (i := 60) (by decide +kernel))) rfl
set_option maxRecDepth 20000 in
theorem mw_61 : Cond.fieldLink "BlowerBreath" 265 "BlowerBreath$Town" "leakSet" "I" ∈ bw_tbl := bw_tg (bw_t1 (List.mem_of_getElem? (i := 61) (by decide +kernel))) rfl
set_option maxRecDepth 20000 in
theorem mw_62 : Cond.fieldLink "BlowerBreath$Town" 34 "BlowerBreath$Town" "kind" "[I" ∈ bw_tbl := bw_tg (bw_t1 (List.mem_of_getElem? (i := 62) (by decide +kernel))) rfl
set_option maxRecDepth 20000 in
theorem mw_63 : Cond.fieldLink "BlowerBreath" 139 "BlowerBreath$Town" "kind" "[I" ∈ bw_tbl := bw_tg (bw_t1 (List.mem_of_getElem? (i := 63) (by decide +kernel))) rfl
set_option maxRecDepth 20000 in
theorem mw_64 : Cond.fieldLink "BlowerBreath$Town" 38 "BlowerBreath$Town" "from" "[I" ∈ bw_tbl := bw_tg (bw_t1 (List.mem_of_getElem? (i := 64) (by decide +kernel))) rfl
set_option maxRecDepth 20000 in
theorem mw_65 : Cond.fieldLink "BlowerBreath" 292 "BlowerBreath$Town" "from" "[I" ∈ bw_tbl := bw_tg (bw_t1 (List.mem_of_getElem? (i := 65) (by decide +kernel))) rfl
set_option maxRecDepth 20000 in
theorem mw_66 : Cond.fieldLink "BlowerBreath$Town" 41 "BlowerBreath$Town" "need" "[I" ∈ bw_tbl := bw_tg (bw_t1 (List.mem_of_getElem? (i := 66) (by decide +kernel))) rfl
set_option maxRecDepth 20000 in
theorem mw_67 : Cond.fieldLink "BlowerBreath" 149 "BlowerBreath$Town" "need" "[I" ∈ bw_tbl := bw_tg (bw_t1 (List.mem_of_getElem? (i := 67) (by decide +kernel))) rfl
set_option maxRecDepth 20000 in
theorem mw_68 : Cond.fieldLink "BlowerBreath$Town" 44 "BlowerBreath$Town" "saved" "[I" ∈ bw_tbl := bw_tg (bw_t1 (List.mem_of_getElem? (i := 68) (by decide +kernel))) rfl
set_option maxRecDepth 20000 in
theorem mw_69 : Cond.fieldLink "BlowerBreath" 146 "BlowerBreath$Town" "saved" "[I" ∈ bw_tbl := bw_tg (bw_t1 (List.mem_of_getElem? (i := 69) (by decide +kernel))) rfl
set_option maxRecDepth 20000 in
theorem mw_70 : Cond.fieldLink "BlowerBreath$Town" 47 "BlowerBreath$Town" "said" "[I" ∈ bw_tbl := bw_tg (bw_t1 (List.mem_of_getElem? (i := 70) (by decide +kernel))) rfl
set_option maxRecDepth 20000 in
theorem mw_71 : Cond.fieldLink "BlowerBreath" 195 "BlowerBreath$Town" "said" "[I" ∈ bw_tbl := bw_tg (bw_t1 (List.mem_of_getElem? (i := 71) (by decide +kernel))) rfl
set_option maxRecDepth 20000 in
theorem mw_72 : Cond.lays "BlowerBreath$Town" "BlowerBreath$Town" "pipes" "I" ∈ bw_tbl := bw_tg (bw_t1 (List.mem_of_getElem? (i := 72) (by decide +kernel))) rfl
set_option maxRecDepth 20000 in
theorem mw_74 : Cond.lays "BlowerBreath$Town" "BlowerBreath$Town" "firstAir" "I" ∈ bw_tbl := bw_tg (bw_t1 (List.mem_of_getElem? (i := 74) (by decide +kernel))) rfl
set_option maxRecDepth 20000 in
theorem mw_76 : Cond.lays "BlowerBreath$Town" "BlowerBreath$Town" "firstStroke" "I" ∈ bw_tbl := bw_tg (bw_t1 (List.mem_of_getElem? (i := 76) (by decide +kernel))) rfl
set_option maxRecDepth 20000 in
theorem mw_78 : Cond.lays "BlowerBreath$Town" "BlowerBreath$Town" "air" "I" ∈ bw_tbl := bw_tg (bw_t1 (List.mem_of_getElem? (i := 78) (by decide +kernel))) rfl
set_option maxRecDepth 20000 in
theorem mw_80 : Cond.lays "BlowerBreath$Town" "BlowerBreath$Town" "stroke" "I" ∈ bw_tbl := bw_tg (bw_t1 (List.mem_of_getElem? (i := 80) (by decide +kernel))) rfl
set_option maxRecDepth 20000 in
theorem mw_82 : Cond.lays "BlowerBreath$Town" "BlowerBreath$Town" "number" "I" ∈ bw_tbl := bw_tg (bw_t1 (List.mem_of_getElem? (i := 82) (by decide +kernel))) rfl
set_option maxRecDepth 20000 in
theorem mw_84 : Cond.lays "BlowerBreath$Town" "BlowerBreath$Town" "cutSet" "I" ∈ bw_tbl := bw_tg (bw_t1 (List.mem_of_getElem? (i := 84) (by decide +kernel))) rfl
set_option maxRecDepth 20000 in
theorem mw_86 : Cond.lays "BlowerBreath$Town" "BlowerBreath$Town" "leakSet" "I" ∈ bw_tbl := bw_tg (bw_t1 (List.mem_of_getElem? (i := 86) (by decide +kernel))) rfl
set_option maxRecDepth 20000 in
theorem mw_88 : Cond.laysFinal "BlowerBreath$Town" "BlowerBreath$Town" "kind" "[I" ∈ bw_tbl := bw_tg (bw_t1 (List.mem_of_getElem? (i := 88) (by decide +kernel))) rfl
set_option maxRecDepth 20000 in
theorem mw_90 : Cond.laysFinal "BlowerBreath$Town" "BlowerBreath$Town" "from" "[I" ∈ bw_tbl := bw_tg (bw_t1 (List.mem_of_getElem? (i := 90) (by decide +kernel))) rfl
set_option maxRecDepth 20000 in
theorem mw_92 : Cond.laysFinal "BlowerBreath$Town" "BlowerBreath$Town" "need" "[I" ∈ bw_tbl := bw_tg (bw_t1 (List.mem_of_getElem? (i := 92) (by decide +kernel))) rfl
set_option maxRecDepth 20000 in
theorem mw_94 : Cond.laysFinal "BlowerBreath$Town" "BlowerBreath$Town" "saved" "[I" ∈ bw_tbl := bw_tg (bw_t1 (List.mem_of_getElem? (i := 94) (by decide +kernel))) rfl
set_option maxRecDepth 20000 in
theorem mw_96 : Cond.laysFinal "BlowerBreath$Town" "BlowerBreath$Town" "said" "[I" ∈ bw_tbl := bw_tg (bw_t1 (List.mem_of_getElem? (i := 96) (by decide +kernel))) rfl
set_option maxRecDepth 20000 in
theorem mw_99 : Cond.classLink "BlowerBreath" 43 "BlowerBreath$Deeds" ∈ bw_tbl := bw_tg (bw_t1 (List.mem_of_getElem? (i := 99) (by decide +kernel))) rfl
set_option maxRecDepth 20000 in
theorem mw_100 : Cond.instantiable "BlowerBreath$Deeds" 3 ∈ bw_tbl := bw_tg (bw_t1 (List.mem_of_getElem? (i := 100) (by decide +kernel))) rfl
set_option maxRecDepth 20000 in
theorem mw_101 : Cond.methodLinkNest "BlowerBreath" 45 yX0_init "BlowerBreath" ∈ lw_tbl := bw_t1 (List.mem_of_getElem? (i := 101) (by decide +kernel))
set_option maxRecDepth 20000 in
theorem mw_102 : Cond.instanceMethod yX0_init ∈ bw_tbl := bw_tg (bw_t1 (List.mem_of_getElem? (i := 102) (by decide +kernel))) rfl
set_option maxRecDepth 20000 in
theorem mw_103 : Cond.code yX0_init cX0_init 1 none ∈ bw_tbl := bw_tg (bw_t1 (List.mem_of_getElem? (i := 103) rfl)) rfl
set_option maxRecDepth 20000 in
theorem mw_104 : Cond.methodLink "BlowerBreath$Deeds" 1 objectInit ∈ bw_tbl := bw_tg (bw_t1 (List.mem_of_getElem? (i := 104) (by decide +kernel))) rfl
set_option maxRecDepth 20000 in
theorem mw_105 : Cond.fieldLink "BlowerBreath$Deeds" 9 "BlowerBreath$Deeds" "what" "[I" ∈ bw_tbl := bw_tg (bw_t1 (List.mem_of_getElem? (i := 105) (by decide +kernel))) rfl
set_option maxRecDepth 20000 in
theorem mw_106 : Cond.fieldLink "BlowerBreath$Town" 62 "BlowerBreath$Deeds" "what" "[I" ∈ bw_tbl := bw_tg (bw_t1 (List.mem_of_getElem? (i := 106) (by decide +kernel))) rfl
set_option maxRecDepth 20000 in
theorem mw_107 : Cond.fieldLink "BlowerBreath$Deeds" 13 "BlowerBreath$Deeds" "by" "[I" ∈ bw_tbl := bw_tg (bw_t1 (List.mem_of_getElem? (i := 107) (by decide +kernel))) rfl
set_option maxRecDepth 20000 in
theorem mw_108 : Cond.fieldLink "BlowerBreath$Town" 65 "BlowerBreath$Deeds" "by" "[I" ∈ bw_tbl := bw_tg (bw_t1 (List.mem_of_getElem? (i := 108) (by decide +kernel))) rfl
set_option maxRecDepth 20000 in
theorem mw_109 : Cond.fieldLink "BlowerBreath$Deeds" 16 "BlowerBreath$Deeds" "size" "I" ∈ bw_tbl := bw_tg (bw_t1 (List.mem_of_getElem? (i := 109) (by decide +kernel))) rfl
set_option maxRecDepth 20000 in
theorem mw_110 : Cond.fieldLink "BlowerBreath" 86 "BlowerBreath$Deeds" "size" "I" ∈ bw_tbl := bw_tg (bw_t1 (List.mem_of_getElem? (i := 110) (by decide +kernel))) rfl
set_option maxRecDepth 20000 in
theorem mw_111 : Cond.fieldLink "BlowerBreath$Town" 57 "BlowerBreath$Deeds" "size" "I" ∈ bw_tbl := bw_tg (bw_t1 (List.mem_of_getElem? (i := 111) (by decide +kernel))) rfl
set_option maxRecDepth 20000 in
theorem mw_112 : Cond.laysFinal "BlowerBreath$Deeds" "BlowerBreath$Deeds" "what" "[I" ∈ bw_tbl := bw_tg (bw_t1 (List.mem_of_getElem? (i := 112) (by decide +kernel))) rfl
set_option maxRecDepth 20000 in
theorem mw_114 : Cond.laysFinal "BlowerBreath$Deeds" "BlowerBreath$Deeds" "by" "[I" ∈ bw_tbl := bw_tg (bw_t1 (List.mem_of_getElem? (i := 114) (by decide +kernel))) rfl
set_option maxRecDepth 20000 in
theorem mw_116 : Cond.lays "BlowerBreath$Deeds" "BlowerBreath$Deeds" "size" "I" ∈ bw_tbl := bw_tg (bw_t1 (List.mem_of_getElem? (i := 116) (by decide +kernel))) rfl
set_option maxRecDepth 20000 in
theorem mw_119 : Cond.arrayOver (FieldType.object "BlowerBreath$Deeds") ∈ lw_tbl := bw_t1 (List.mem_of_getElem? (i := 119) (by decide +kernel))
set_option maxRecDepth 20000 in
theorem mw_120 : Cond.methodLink "BlowerBreath" 80 yJ7_fill_53178 ∈ bw_tbl := bw_tg (bw_t1 (List.mem_of_getElem? (i := 120) (by decide +kernel))) rfl
set_option maxRecDepth 20000 in
theorem mw_121 : Cond.static yJ7_fill_53178 ∈ bw_tbl := bw_tg (bw_t1 (List.mem_of_getElem? (i := 121) (by decide +kernel))) rfl
set_option maxRecDepth 20000 in
theorem mw_122 : Cond.code yJ7_fill_53178 cJ7_fill_53178 4 none ∈ bw_tbl := bw_tg (bw_t1 (List.mem_of_getElem? (i := 122) rfl)) rfl
set_option maxRecDepth 20000 in
theorem mw_123 : Cond.fieldLink "BlowerBreath" 11 "BlowerBreath" "rows" "[[I" ∈ bw_tbl := bw_tg (bw_t1 (List.mem_of_getElem? (i := 123) (by decide +kernel))) rfl
set_option maxRecDepth 20000 in
theorem mw_124 : Cond.fieldLink "BlowerBreath" 14 "BlowerBreath" "rowSizes" "[I" ∈ bw_tbl := bw_tg (bw_t1 (List.mem_of_getElem? (i := 124) (by decide +kernel))) rfl
set_option maxRecDepth 20000 in
theorem mw_125 : Cond.fieldLink "BlowerBreath" 20 "BlowerBreath" "texts" "[[B" ∈ bw_tbl := bw_tg (bw_t1 (List.mem_of_getElem? (i := 125) (by decide +kernel))) rfl
set_option maxRecDepth 20000 in
theorem mw_126 : Cond.fieldLink "BlowerBreath" 23 "BlowerBreath" "textSizes" "[I" ∈ bw_tbl := bw_tg (bw_t1 (List.mem_of_getElem? (i := 126) (by decide +kernel))) rfl
set_option maxRecDepth 20000 in
theorem mw_127 : Cond.fieldLink "BlowerBreath" 29 "BlowerBreath" "reader" "LBlowerBreath$Reader;" ∈ bw_tbl := bw_tg (bw_t1 (List.mem_of_getElem? (i := 127) (by decide +kernel))) rfl
set_option maxRecDepth 20000 in
theorem mw_128 : Cond.fieldLink "BlowerBreath" 36 "BlowerBreath" "town" "LBlowerBreath$Town;" ∈ bw_tbl := bw_tg (bw_t1 (List.mem_of_getElem? (i := 128) (by decide +kernel))) rfl
set_option maxRecDepth 20000 in
theorem mw_129 : Cond.fieldLink "BlowerBreath" 40 "BlowerBreath" "trial" "LBlowerBreath$Town;" ∈ bw_tbl := bw_tg (bw_t1 (List.mem_of_getElem? (i := 129) (by decide +kernel))) rfl
set_option maxRecDepth 20000 in
theorem mw_130 : Cond.fieldLink "BlowerBreath" 46 "BlowerBreath" "deeds" "LBlowerBreath$Deeds;" ∈ bw_tbl := bw_tg (bw_t1 (List.mem_of_getElem? (i := 130) (by decide +kernel))) rfl
set_option maxRecDepth 20000 in
theorem mw_131 : Cond.fieldLink "BlowerBreath" 50 "BlowerBreath" "kept" "[LBlowerBreath$Deeds;" ∈ bw_tbl := bw_tg (bw_t1 (List.mem_of_getElem? (i := 131) (by decide +kernel))) rfl
set_option maxRecDepth 20000 in
theorem mw_132 : Cond.fieldLink "BlowerBreath" 54 "BlowerBreath" "tally" "[I" ∈ bw_tbl := bw_tg (bw_t1 (List.mem_of_getElem? (i := 132) (by decide +kernel))) rfl
set_option maxRecDepth 20000 in
theorem mw_133 : Cond.fieldLink "BlowerBreath" 57 "BlowerBreath" "gains" "[I" ∈ bw_tbl := bw_tg (bw_t1 (List.mem_of_getElem? (i := 133) (by decide +kernel))) rfl
set_option maxRecDepth 20000 in
theorem mw_134 : Cond.fieldLink "BlowerBreath" 60 "BlowerBreath" "nextGains" "[I" ∈ bw_tbl := bw_tg (bw_t1 (List.mem_of_getElem? (i := 134) (by decide +kernel))) rfl
set_option maxRecDepth 20000 in
theorem mw_135 : Cond.fieldLink "BlowerBreath" 63 "BlowerBreath" "findingTimes" "[I" ∈ bw_tbl := bw_tg (bw_t1 (List.mem_of_getElem? (i := 135) (by decide +kernel))) rfl
set_option maxRecDepth 20000 in
theorem mw_136 : Cond.fieldLink "BlowerBreath" 66 "BlowerBreath" "latestFinding" "I" ∈ bw_tbl := bw_tg (bw_t1 (List.mem_of_getElem? (i := 136) (by decide +kernel))) rfl
set_option maxRecDepth 20000 in
theorem mw_137 : Cond.fieldLink "BlowerBreath" 70 "BlowerBreath" "latestAsked" "I" ∈ bw_tbl := bw_tg (bw_t1 (List.mem_of_getElem? (i := 137) (by decide +kernel))) rfl
set_option maxRecDepth 20000 in
theorem mw_138 : Cond.fieldLink "BlowerBreath" 73 "BlowerBreath" "latestUpper" "J" ∈ bw_tbl := bw_tg (bw_t1 (List.mem_of_getElem? (i := 138) (by decide +kernel))) rfl
set_option maxRecDepth 20000 in
theorem mw_139 : Cond.fieldLink "BlowerBreath" 77 "BlowerBreath" "latestLower" "J" ∈ bw_tbl := bw_tg (bw_t1 (List.mem_of_getElem? (i := 139) (by decide +kernel))) rfl
set_option maxRecDepth 20000 in
theorem mw_140 : Cond.laysFinal "BlowerBreath" "BlowerBreath" "rows" "[[I" ∈ bw_tbl := bw_tg (bw_t1 (List.mem_of_getElem? (i := 140) (by decide +kernel))) rfl
set_option maxRecDepth 20000 in
theorem mw_142 : Cond.laysFinal "BlowerBreath" "BlowerBreath" "rowSizes" "[I" ∈ bw_tbl := bw_tg (bw_t1 (List.mem_of_getElem? (i := 142) (by decide +kernel))) rfl
set_option maxRecDepth 20000 in
theorem mw_144 : Cond.laysFinal "BlowerBreath" "BlowerBreath" "texts" "[[B" ∈ bw_tbl := bw_tg (bw_t1 (List.mem_of_getElem? (i := 144) (by decide +kernel))) rfl
set_option maxRecDepth 20000 in
theorem mw_146 : Cond.laysFinal "BlowerBreath" "BlowerBreath" "textSizes" "[I" ∈ bw_tbl := bw_tg (bw_t1 (List.mem_of_getElem? (i := 146) (by decide +kernel))) rfl
set_option maxRecDepth 20000 in
theorem mw_148 : Cond.laysFinal "BlowerBreath" "BlowerBreath" "reader" "LBlowerBreath$Reader;" ∈ bw_tbl := bw_tg (bw_t1 (List.mem_of_getElem? (i := 148) (by decide +kernel))) rfl
set_option maxRecDepth 20000 in
theorem mw_150 : Cond.laysFinal "BlowerBreath" "BlowerBreath" "town" "LBlowerBreath$Town;" ∈ bw_tbl := bw_tg (bw_t1 (List.mem_of_getElem? (i := 150) (by decide +kernel))) rfl
set_option maxRecDepth 20000 in
theorem mw_152 : Cond.laysFinal "BlowerBreath" "BlowerBreath" "trial" "LBlowerBreath$Town;" ∈ bw_tbl := bw_tg (bw_t1 (List.mem_of_getElem? (i := 152) (by decide +kernel))) rfl
set_option maxRecDepth 20000 in
theorem mw_154 : Cond.laysFinal "BlowerBreath" "BlowerBreath" "deeds" "LBlowerBreath$Deeds;" ∈ bw_tbl := bw_tg (bw_t1 (List.mem_of_getElem? (i := 154) (by decide +kernel))) rfl
set_option maxRecDepth 20000 in
theorem mw_156 : Cond.laysFinal "BlowerBreath" "BlowerBreath" "kept" "[LBlowerBreath$Deeds;" ∈ bw_tbl := bw_tg (bw_t1 (List.mem_of_getElem? (i := 156) (by decide +kernel))) rfl
set_option maxRecDepth 20000 in
theorem mw_158 : Cond.laysFinal "BlowerBreath" "BlowerBreath" "tally" "[I" ∈ bw_tbl := bw_tg (bw_t1 (List.mem_of_getElem? (i := 158) (by decide +kernel))) rfl
set_option maxRecDepth 20000 in
theorem mw_160 : Cond.laysFinal "BlowerBreath" "BlowerBreath" "gains" "[I" ∈ bw_tbl := bw_tg (bw_t1 (List.mem_of_getElem? (i := 160) (by decide +kernel))) rfl
set_option maxRecDepth 20000 in
theorem mw_162 : Cond.laysFinal "BlowerBreath" "BlowerBreath" "nextGains" "[I" ∈ bw_tbl := bw_tg (bw_t1 (List.mem_of_getElem? (i := 162) (by decide +kernel))) rfl
set_option maxRecDepth 20000 in
theorem mw_164 : Cond.laysFinal "BlowerBreath" "BlowerBreath" "findingTimes" "[I" ∈ bw_tbl := bw_tg (bw_t1 (List.mem_of_getElem? (i := 164) (by decide +kernel))) rfl
set_option maxRecDepth 20000 in
theorem mw_166 : Cond.lays "BlowerBreath" "BlowerBreath" "latestFinding" "I" ∈ bw_tbl := bw_tg (bw_t1 (List.mem_of_getElem? (i := 166) (by decide +kernel))) rfl
set_option maxRecDepth 20000 in
theorem mw_168 : Cond.lays "BlowerBreath" "BlowerBreath" "latestAsked" "I" ∈ bw_tbl := bw_tg (bw_t1 (List.mem_of_getElem? (i := 168) (by decide +kernel))) rfl
set_option maxRecDepth 20000 in
theorem mw_170 : Cond.lays "BlowerBreath" "BlowerBreath" "latestUpper" "J" ∈ bw_tbl := bw_tg (bw_t1 (List.mem_of_getElem? (i := 170) (by decide +kernel))) rfl
set_option maxRecDepth 20000 in
theorem mw_172 : Cond.lays "BlowerBreath" "BlowerBreath" "latestLower" "J" ∈ bw_tbl := bw_tg (bw_t1 (List.mem_of_getElem? (i := 172) (by decide +kernel))) rfl
set_option maxRecDepth 20000 in
theorem mw_175 : Cond.methodLink "BlowerBreathLaw" 13 yX4_row ∈ bw_tbl := bw_tg (bw_t1 (List.mem_of_getElem? (i := 175) (by decide +kernel))) rfl
set_option maxRecDepth 20000 in
theorem mw_176 : Cond.instanceMethod yX4_row ∈ bw_tbl := bw_tg (bw_t1 (List.mem_of_getElem? (i := 176) (by decide +kernel))) rfl
set_option maxRecDepth 20000 in
theorem mw_177 : Cond.selects "BlowerBreath" yX4_row yX4_row ∈ bw_tbl := bw_tg (bw_t1 (List.mem_of_getElem? (i := 177) (by decide +kernel))) rfl
set_option maxRecDepth 20000 in
theorem mw_178 : Cond.code yX4_row cX4_row 3 (some FieldType.int) ∈ bw_tbl := bw_tg (bw_t1 (List.mem_of_getElem? (i := 178) rfl)) rfl
set_option maxRecDepth 20000 in
theorem mw_179 : Cond.methodLink "BlowerBreath" 89 yX4_isRow ∈ bw_tbl := bw_tg (bw_t1 (List.mem_of_getElem? (i := 179) (by decide +kernel))) rfl
set_option maxRecDepth 20000 in
theorem mw_180 : Cond.static yX4_isRow ∈ bw_tbl := bw_tg (bw_t1 (List.mem_of_getElem? (i := 180) (by decide +kernel))) rfl
set_option maxRecDepth 20000 in
theorem mw_181 : Cond.code yX4_isRow cX4_isRow 1 (some FieldType.boolean) ∈ bw_tbl := bw_tg (bw_t1 (List.mem_of_getElem? (i := 181) rfl)) rfl
set_option maxRecDepth 20000 in
theorem mw_182 : Cond.methodLink "BlowerBreath" 93 yX4_found ∈ bw_tbl := bw_tg (bw_t1 (List.mem_of_getElem? (i := 182) (by decide +kernel))) rfl
set_option maxRecDepth 20000 in
theorem mw_184 : Cond.instanceMethod yX4_found ∈ bw_tbl := bw_tg (bw_t1 (List.mem_of_getElem? (i := 184) (by decide +kernel))) rfl
set_option maxRecDepth 20000 in
theorem mw_185 : Cond.code yX4_found cX4_found 2 (some FieldType.int) ∈ bw_tbl := bw_tg (bw_t1 (List.mem_of_getElem? (i := 185) rfl)) rfl
set_option maxRecDepth 20000 in
theorem mw_186 : Cond.methodLink "BlowerBreathLaw" 18 yX4_lay ∈ bw_tbl := bw_tg (bw_t1 (List.mem_of_getElem? (i := 186) (by decide +kernel))) rfl
set_option maxRecDepth 20000 in
theorem mw_187 : Cond.instanceMethod yX4_lay ∈ bw_tbl := bw_tg (bw_t1 (List.mem_of_getElem? (i := 187) (by decide +kernel))) rfl
set_option maxRecDepth 20000 in
theorem mw_188 : Cond.selects "BlowerBreath" yX4_lay yX4_lay ∈ bw_tbl := bw_tg (bw_t1 (List.mem_of_getElem? (i := 188) (by decide +kernel))) rfl
set_option maxRecDepth 20000 in
theorem mw_189 : Cond.code yX4_lay cX4_lay 6 (some FieldType.int) ∈ bw_tbl := bw_tg (bw_t1 (List.mem_of_getElem? (i := 189) rfl)) rfl
set_option maxRecDepth 20000 in
theorem mw_190 : Cond.methodLink "BlowerBreath" 97 yX4_refusedPlace ∈ bw_tbl := bw_tg (bw_t1 (List.mem_of_getElem? (i := 190) (by decide +kernel))) rfl
set_option maxRecDepth 20000 in
theorem mw_192 : Cond.instanceMethod yX4_refusedPlace ∈ bw_tbl := bw_tg (bw_t1 (List.mem_of_getElem? (i := 192) (by decide +kernel))) rfl
set_option maxRecDepth 20000 in
theorem mw_193 : Cond.code yX4_refusedPlace cX4_refusedPlace 3 (some FieldType.int) ∈ bw_tbl := bw_tg (bw_t1 (List.mem_of_getElem? (i := 193) rfl)) rfl
set_option maxRecDepth 20000 in
theorem mw_194 : Cond.methodLink "BlowerBreath" 104 yX4_hasPlaces ∈ bw_tbl := bw_tg (bw_t1 (List.mem_of_getElem? (i := 194) (by decide +kernel))) rfl
set_option maxRecDepth 20000 in
theorem mw_195 : Cond.static yX4_hasPlaces ∈ bw_tbl := bw_tg (bw_t1 (List.mem_of_getElem? (i := 195) (by decide +kernel))) rfl
set_option maxRecDepth 20000 in
theorem mw_196 : Cond.code yX4_hasPlaces cX4_hasPlaces 3 (some FieldType.boolean) ∈ bw_tbl := bw_tg (bw_t1 (List.mem_of_getElem? (i := 196) rfl)) rfl
set_option maxRecDepth 20000 in
theorem mw_197 : Cond.methodLink "BlowerBreath" 101 yX4_tell ∈ bw_tbl := bw_tg (bw_t1 (List.mem_of_getElem? (i := 197) (by decide +kernel))) rfl
set_option maxRecDepth 20000 in
theorem mw_199 : Cond.instanceMethod yX4_tell ∈ bw_tbl := bw_tg (bw_t1 (List.mem_of_getElem? (i := 199) (by decide +kernel))) rfl
set_option maxRecDepth 20000 in
theorem mw_200 : Cond.code yX4_tell cX4_tell 2 (some FieldType.int) ∈ bw_tbl := bw_tg (bw_t1 (List.mem_of_getElem? (i := 200) rfl)) rfl
set_option maxRecDepth 20000 in
theorem mw_201 : Cond.methodLink "BlowerBreathLaw" 23 yX4_at ∈ bw_tbl := bw_tg (bw_t1 (List.mem_of_getElem? (i := 201) (by decide +kernel))) rfl
set_option maxRecDepth 20000 in
theorem mw_202 : Cond.instanceMethod yX4_at ∈ bw_tbl := bw_tg (bw_t1 (List.mem_of_getElem? (i := 202) (by decide +kernel))) rfl
set_option maxRecDepth 20000 in
theorem mw_203 : Cond.selects "BlowerBreath" yX4_at yX4_at ∈ bw_tbl := bw_tg (bw_t1 (List.mem_of_getElem? (i := 203) (by decide +kernel))) rfl
set_option maxRecDepth 20000 in
theorem mw_204 : Cond.code yX4_at cX4_at 4 (some FieldType.int) ∈ bw_tbl := bw_tg (bw_t1 (List.mem_of_getElem? (i := 204) rfl)) rfl
set_option maxRecDepth 20000 in
theorem mw_205 : Cond.methodLink "BlowerBreathLaw" 27 yX4_tear ∈ bw_tbl := bw_tg (bw_t1 (List.mem_of_getElem? (i := 205) (by decide +kernel))) rfl
set_option maxRecDepth 20000 in
theorem mw_206 : Cond.instanceMethod yX4_tear ∈ bw_tbl := bw_tg (bw_t1 (List.mem_of_getElem? (i := 206) (by decide +kernel))) rfl
set_option maxRecDepth 20000 in
theorem mw_207 : Cond.selects "BlowerBreath" yX4_tear yX4_tear ∈ bw_tbl := bw_tg (bw_t1 (List.mem_of_getElem? (i := 207) (by decide +kernel))) rfl
set_option maxRecDepth 20000 in
theorem mw_208 : Cond.code yX4_tear cX4_tear 2 (some FieldType.int) ∈ bw_tbl := bw_tg (bw_t1 (List.mem_of_getElem? (i := 208) rfl)) rfl
set_option maxRecDepth 20000 in
theorem mw_209 : Cond.methodLink "BlowerBreathLaw" 32 yX4_copy ∈ bw_tbl := bw_tg (bw_t1 (List.mem_of_getElem? (i := 209) (by decide +kernel))) rfl
set_option maxRecDepth 20000 in
theorem mw_210 : Cond.instanceMethod yX4_copy ∈ bw_tbl := bw_tg (bw_t1 (List.mem_of_getElem? (i := 210) (by decide +kernel))) rfl
set_option maxRecDepth 20000 in
theorem mw_211 : Cond.selects "BlowerBreath" yX4_copy yX4_copy ∈ bw_tbl := bw_tg (bw_t1 (List.mem_of_getElem? (i := 211) (by decide +kernel))) rfl
set_option maxRecDepth 20000 in
theorem mw_212 : Cond.code yX4_copy cX4_copy 6 (some FieldType.int) ∈ bw_tbl := bw_tg (bw_t1 (List.mem_of_getElem? (i := 212) rfl)) rfl
set_option maxRecDepth 20000 in
theorem mw_213 : Cond.methodLink "BlowerBreath" 108 arraycopyName ∈ bw_tbl := bw_tg (bw_t1 (List.mem_of_getElem? (i := 213) (by decide +kernel))) rfl
set_option maxRecDepth 20000 in
theorem mw_214 : Cond.static arraycopyName ∈ bw_tbl := bw_tg (bw_t1 (List.mem_of_getElem? (i := 214) (by decide +kernel))) rfl
set_option maxRecDepth 20000 in
theorem mw_215 : Cond.native arraycopyName ∈ bw_tbl := bw_tg (bw_t1 (List.mem_of_getElem? (i := 215) (by decide +kernel))) rfl
set_option maxRecDepth 20000 in
theorem mw_216 : Cond.methodLink "BlowerBreathLaw" 37 yX4_mean ∈ bw_tbl := bw_tg (bw_t1 (List.mem_of_getElem? (i := 216) (by decide +kernel))) rfl
set_option maxRecDepth 20000 in
theorem mw_217 : Cond.instanceMethod yX4_mean ∈ bw_tbl := bw_tg (bw_t1 (List.mem_of_getElem? (i := 217) (by decide +kernel))) rfl
set_option maxRecDepth 20000 in
theorem mw_218 : Cond.selects "BlowerBreath" yX4_mean yX4_mean ∈ bw_tbl := bw_tg (bw_t1 (List.mem_of_getElem? (i := 218) (by decide +kernel))) rfl
set_option maxRecDepth 20000 in
theorem mw_219 : Cond.code yX4_mean cX4_mean 6 (some FieldType.int) ∈ bw_tbl := bw_tg (bw_t1 (List.mem_of_getElem? (i := 219) rfl)) rfl
set_option maxRecDepth 20000 in
theorem mw_220 : Cond.methodLink "BlowerBreathLaw" 41 yX4_text ∈ bw_tbl := bw_tg (bw_t1 (List.mem_of_getElem? (i := 220) (by decide +kernel))) rfl
set_option maxRecDepth 20000 in
theorem mw_221 : Cond.instanceMethod yX4_text ∈ bw_tbl := bw_tg (bw_t1 (List.mem_of_getElem? (i := 221) (by decide +kernel))) rfl
set_option maxRecDepth 20000 in
theorem mw_222 : Cond.selects "BlowerBreath" yX4_text yX4_text ∈ bw_tbl := bw_tg (bw_t1 (List.mem_of_getElem? (i := 222) (by decide +kernel))) rfl
set_option maxRecDepth 20000 in
theorem mw_223 : Cond.code yX4_text cX4_text 3 (some FieldType.int) ∈ bw_tbl := bw_tg (bw_t1 (List.mem_of_getElem? (i := 223) rfl)) rfl
set_option maxRecDepth 20000 in
theorem mw_224 : Cond.methodLink "BlowerBreath" 114 yX4_isText ∈ bw_tbl := bw_tg (bw_t1 (List.mem_of_getElem? (i := 224) (by decide +kernel))) rfl
set_option maxRecDepth 20000 in
theorem mw_225 : Cond.static yX4_isText ∈ bw_tbl := bw_tg (bw_t1 (List.mem_of_getElem? (i := 225) (by decide +kernel))) rfl
set_option maxRecDepth 20000 in
theorem mw_226 : Cond.code yX4_isText cX4_isText 1 (some FieldType.boolean) ∈ bw_tbl := bw_tg (bw_t1 (List.mem_of_getElem? (i := 226) rfl)) rfl
set_option maxRecDepth 20000 in
theorem mw_227 : Cond.methodLink "BlowerBreath" 117 yJ7_fill_031fb ∈ bw_tbl := bw_tg (bw_t1 (List.mem_of_getElem? (i := 227) (by decide +kernel))) rfl
set_option maxRecDepth 20000 in
theorem mw_228 : Cond.static yJ7_fill_031fb ∈ bw_tbl := bw_tg (bw_t1 (List.mem_of_getElem? (i := 228) (by decide +kernel))) rfl
set_option maxRecDepth 20000 in
theorem mw_229 : Cond.code yJ7_fill_031fb cJ7_fill_031fb 4 none ∈ bw_tbl := bw_tg (bw_t1 (List.mem_of_getElem? (i := 229) rfl)) rfl
set_option maxRecDepth 20000 in
theorem mw_230 : Cond.methodLink "BlowerBreathLaw" 45 yX4_put ∈ bw_tbl := bw_tg (bw_t1 (List.mem_of_getElem? (i := 230) (by decide +kernel))) rfl
set_option maxRecDepth 20000 in
theorem mw_231 : Cond.instanceMethod yX4_put ∈ bw_tbl := bw_tg (bw_t1 (List.mem_of_getElem? (i := 231) (by decide +kernel))) rfl
set_option maxRecDepth 20000 in
theorem mw_232 : Cond.selects "BlowerBreath" yX4_put yX4_put ∈ bw_tbl := bw_tg (bw_t1 (List.mem_of_getElem? (i := 232) (by decide +kernel))) rfl
set_option maxRecDepth 20000 in
theorem mw_233 : Cond.code yX4_put cX4_put 5 (some FieldType.int) ∈ bw_tbl := bw_tg (bw_t1 (List.mem_of_getElem? (i := 233) rfl)) rfl
set_option maxRecDepth 20000 in
theorem mw_234 : Cond.methodLink "BlowerBreathLaw" 49 yX4_fault ∈ bw_tbl := bw_tg (bw_t1 (List.mem_of_getElem? (i := 234) (by decide +kernel))) rfl
set_option maxRecDepth 20000 in
theorem mw_235 : Cond.instanceMethod yX4_fault ∈ bw_tbl := bw_tg (bw_t1 (List.mem_of_getElem? (i := 235) (by decide +kernel))) rfl
set_option maxRecDepth 20000 in
theorem mw_236 : Cond.selects "BlowerBreath" yX4_fault yX4_fault ∈ bw_tbl := bw_tg (bw_t1 (List.mem_of_getElem? (i := 236) (by decide +kernel))) rfl
set_option maxRecDepth 20000 in
theorem mw_237 : Cond.code yX4_fault cX4_fault 2 (some FieldType.int) ∈ bw_tbl := bw_tg (bw_t1 (List.mem_of_getElem? (i := 237) rfl)) rfl
set_option maxRecDepth 20000 in
theorem mw_238 : Cond.methodLink "BlowerBreath" 120 yX2_readTown ∈ bw_tbl := bw_tg (bw_t1 (List.mem_of_getElem? (i := 238) (by decide +kernel))) rfl
set_option maxRecDepth 20000 in
theorem mw_239 : Cond.instanceMethod yX2_readTown ∈ bw_tbl := bw_tg (bw_t1 (List.mem_of_getElem? (i := 239) (by decide +kernel))) rfl
set_option maxRecDepth 20000 in
theorem mw_240 : Cond.selects "BlowerBreath$Reader" yX2_readTown yX2_readTown ∈ bw_tbl := bw_tg (bw_t2 (List.mem_of_getElem? (i := 0) (by decide +kernel))) rfl
set_option maxRecDepth 20000 in
theorem mw_241 : Cond.code yX2_readTown cX2_readTown 6 (some FieldType.int) ∈ bw_tbl := bw_tg (bw_t2 (List.mem_of_getElem? (i := 1) rfl)) rfl
set_option maxRecDepth 20000 in
theorem mw_242 : Cond.methodLink "BlowerBreath$Reader" 22 yX2_passBlanks ∈ bw_tbl := bw_tg (bw_t2 (List.mem_of_getElem? (i := 2) (by decide +kernel))) rfl
set_option maxRecDepth 20000 in
theorem mw_244 : Cond.instanceMethod yX2_passBlanks ∈ bw_tbl := bw_tg (bw_t2 (List.mem_of_getElem? (i := 4) (by decide +kernel))) rfl
set_option maxRecDepth 20000 in
theorem mw_245 : Cond.code yX2_passBlanks cX2_passBlanks 2 none ∈ bw_tbl := bw_tg (bw_t2 (List.mem_of_getElem? (i := 5) rfl)) rfl
set_option maxRecDepth 20000 in
theorem mw_246 : Cond.methodLink "BlowerBreath$Reader" 38 yX2_signAt ∈ bw_tbl := bw_tg (bw_t2 (List.mem_of_getElem? (i := 6) (by decide +kernel))) rfl
set_option maxRecDepth 20000 in
theorem mw_248 : Cond.instanceMethod yX2_signAt ∈ bw_tbl := bw_tg (bw_t2 (List.mem_of_getElem? (i := 8) (by decide +kernel))) rfl
set_option maxRecDepth 20000 in
theorem mw_249 : Cond.code yX2_signAt cX2_signAt 2 (some FieldType.int) ∈ bw_tbl := bw_tg (bw_t2 (List.mem_of_getElem? (i := 9) rfl)) rfl
set_option maxRecDepth 20000 in
theorem mw_250 : Cond.methodLink "BlowerBreath$Reader" 25 yX2_readBellows ∈ bw_tbl := bw_tg (bw_t2 (List.mem_of_getElem? (i := 10) (by decide +kernel))) rfl
set_option maxRecDepth 20000 in
theorem mw_252 : Cond.instanceMethod yX2_readBellows ∈ bw_tbl := bw_tg (bw_t2 (List.mem_of_getElem? (i := 12) (by decide +kernel))) rfl
set_option maxRecDepth 20000 in
theorem mw_253 : Cond.code yX2_readBellows cX2_readBellows 5 (some FieldType.int) ∈ bw_tbl := bw_tg (bw_t2 (List.mem_of_getElem? (i := 13) rfl)) rfl
set_option maxRecDepth 20000 in
theorem mw_254 : Cond.methodLink "BlowerBreath$Reader" 34 yX2_figureAt ∈ bw_tbl := bw_tg (bw_t2 (List.mem_of_getElem? (i := 14) (by decide +kernel))) rfl
set_option maxRecDepth 20000 in
theorem mw_256 : Cond.instanceMethod yX2_figureAt ∈ bw_tbl := bw_tg (bw_t2 (List.mem_of_getElem? (i := 16) (by decide +kernel))) rfl
set_option maxRecDepth 20000 in
theorem mw_257 : Cond.code yX2_figureAt cX2_figureAt 3 (some FieldType.int) ∈ bw_tbl := bw_tg (bw_t2 (List.mem_of_getElem? (i := 17) rfl)) rfl
set_option maxRecDepth 20000 in
theorem mw_258 : Cond.methodLink "BlowerBreath$Reader" 41 yX3_found ∈ bw_tbl := bw_tg (bw_t2 (List.mem_of_getElem? (i := 18) (by decide +kernel))) rfl
set_option maxRecDepth 20000 in
theorem mw_259 : Cond.instanceMethod yX3_found ∈ bw_tbl := bw_tg (bw_t2 (List.mem_of_getElem? (i := 19) (by decide +kernel))) rfl
set_option maxRecDepth 20000 in
theorem mw_260 : Cond.selects "BlowerBreath$Town" yX3_found yX3_found ∈ bw_tbl := bw_tg (bw_t2 (List.mem_of_getElem? (i := 20) (by decide +kernel))) rfl
set_option maxRecDepth 20000 in
theorem mw_261 : Cond.code yX3_found cX3_found 3 none ∈ bw_tbl := bw_tg (bw_t2 (List.mem_of_getElem? (i := 21) rfl)) rfl
set_option maxRecDepth 20000 in
theorem mw_262 : Cond.methodLink "BlowerBreath$Town" 54 yX3_restart ∈ bw_tbl := bw_tg (bw_t2 (List.mem_of_getElem? (i := 22) (by decide +kernel))) rfl
set_option maxRecDepth 20000 in
theorem mw_264 : Cond.instanceMethod yX3_restart ∈ bw_tbl := bw_tg (bw_t2 (List.mem_of_getElem? (i := 24) (by decide +kernel))) rfl
set_option maxRecDepth 20000 in
theorem mw_265 : Cond.code yX3_restart cX3_restart 1 none ∈ bw_tbl := bw_tg (bw_t2 (List.mem_of_getElem? (i := 25) rfl)) rfl
set_option maxRecDepth 20000 in
theorem mw_266 : Cond.methodLink "BlowerBreath$Town" 72 yJ7_fill_53178 ∈ bw_tbl := bw_tg (bw_t2 (List.mem_of_getElem? (i := 26) (by decide +kernel))) rfl
set_option maxRecDepth 20000 in
theorem mw_267 : Cond.methodLink "BlowerBreath$Reader" 31 yX2_readPipe ∈ bw_tbl := bw_tg (bw_t2 (List.mem_of_getElem? (i := 27) (by decide +kernel))) rfl
set_option maxRecDepth 20000 in
theorem mw_269 : Cond.instanceMethod yX2_readPipe ∈ bw_tbl := bw_tg (bw_t2 (List.mem_of_getElem? (i := 29) (by decide +kernel))) rfl
set_option maxRecDepth 20000 in
theorem mw_270 : Cond.code yX2_readPipe cX2_readPipe 5 (some FieldType.int) ∈ bw_tbl := bw_tg (bw_t2 (List.mem_of_getElem? (i := 30) rfl)) rfl
set_option maxRecDepth 20000 in
theorem mw_271 : Cond.methodLink "BlowerBreath$Reader" 45 yX1_ofLetter ∈ bw_tbl := bw_tg (bw_t2 (List.mem_of_getElem? (i := 31) (by decide +kernel))) rfl
set_option maxRecDepth 20000 in
theorem mw_272 : Cond.static yX1_ofLetter ∈ bw_tbl := bw_tg (bw_t2 (List.mem_of_getElem? (i := 32) (by decide +kernel))) rfl
set_option maxRecDepth 20000 in
theorem mw_273 : Cond.code yX1_ofLetter cX1_ofLetter 1 (some FieldType.int) ∈ bw_tbl := bw_tg (bw_t2 (List.mem_of_getElem? (i := 33) rfl)) rfl
set_option maxRecDepth 20000 in
theorem mw_274 : Cond.methodLink "BlowerBreath$Reader" 53 yX3_join ∈ bw_tbl := bw_tg (bw_t2 (List.mem_of_getElem? (i := 34) (by decide +kernel))) rfl
set_option maxRecDepth 20000 in
theorem mw_275 : Cond.instanceMethod yX3_join ∈ bw_tbl := bw_tg (bw_t2 (List.mem_of_getElem? (i := 35) (by decide +kernel))) rfl
set_option maxRecDepth 20000 in
theorem mw_276 : Cond.selects "BlowerBreath$Town" yX3_join yX3_join ∈ bw_tbl := bw_tg (bw_t2 (List.mem_of_getElem? (i := 36) (by decide +kernel))) rfl
set_option maxRecDepth 20000 in
theorem mw_277 : Cond.code yX3_join cX3_join 4 none ∈ bw_tbl := bw_tg (bw_t2 (List.mem_of_getElem? (i := 37) rfl)) rfl
set_option maxRecDepth 20000 in
theorem mw_278 : Cond.methodLink "BlowerBreathLaw" 53 yX4_town ∈ bw_tbl := bw_tg (bw_t2 (List.mem_of_getElem? (i := 38) (by decide +kernel))) rfl
set_option maxRecDepth 20000 in
theorem mw_279 : Cond.instanceMethod yX4_town ∈ bw_tbl := bw_tg (bw_t2 (List.mem_of_getElem? (i := 39) (by decide +kernel))) rfl
set_option maxRecDepth 20000 in
theorem mw_280 : Cond.selects "BlowerBreath" yX4_town yX4_town ∈ bw_tbl := bw_tg (bw_t2 (List.mem_of_getElem? (i := 40) (by decide +kernel))) rfl
set_option maxRecDepth 20000 in
theorem mw_281 : Cond.code yX4_town cX4_town 3 (some FieldType.int) ∈ bw_tbl := bw_tg (bw_t2 (List.mem_of_getElem? (i := 41) rfl)) rfl
set_option maxRecDepth 20000 in
theorem mw_282 : Cond.methodLink "BlowerBreath" 124 yX3_become ∈ bw_tbl := bw_tg (bw_t2 (List.mem_of_getElem? (i := 42) (by decide +kernel))) rfl
set_option maxRecDepth 20000 in
theorem mw_283 : Cond.instanceMethod yX3_become ∈ bw_tbl := bw_tg (bw_t2 (List.mem_of_getElem? (i := 43) (by decide +kernel))) rfl
set_option maxRecDepth 20000 in
theorem mw_284 : Cond.selects "BlowerBreath$Town" yX3_become yX3_become ∈ bw_tbl := bw_tg (bw_t2 (List.mem_of_getElem? (i := 44) (by decide +kernel))) rfl
set_option maxRecDepth 20000 in
theorem mw_285 : Cond.code yX3_become cX3_become 3 none ∈ bw_tbl := bw_tg (bw_t2 (List.mem_of_getElem? (i := 45) rfl)) rfl
set_option maxRecDepth 20000 in
theorem mw_286 : Cond.methodLink "BlowerBreathLaw" 57 yX4_pipe ∈ bw_tbl := bw_tg (bw_t2 (List.mem_of_getElem? (i := 46) (by decide +kernel))) rfl
set_option maxRecDepth 20000 in
theorem mw_287 : Cond.instanceMethod yX4_pipe ∈ bw_tbl := bw_tg (bw_t2 (List.mem_of_getElem? (i := 47) (by decide +kernel))) rfl
set_option maxRecDepth 20000 in
theorem mw_288 : Cond.selects "BlowerBreath" yX4_pipe yX4_pipe ∈ bw_tbl := bw_tg (bw_t2 (List.mem_of_getElem? (i := 48) (by decide +kernel))) rfl
set_option maxRecDepth 20000 in
theorem mw_289 : Cond.code yX4_pipe cX4_pipe 3 (some FieldType.int) ∈ bw_tbl := bw_tg (bw_t2 (List.mem_of_getElem? (i := 49) rfl)) rfl
set_option maxRecDepth 20000 in
theorem mw_290 : Cond.methodLink "BlowerBreath" 131 yX3_hasPipe ∈ bw_tbl := bw_tg (bw_t2 (List.mem_of_getElem? (i := 50) (by decide +kernel))) rfl
set_option maxRecDepth 20000 in
theorem mw_291 : Cond.instanceMethod yX3_hasPipe ∈ bw_tbl := bw_tg (bw_t2 (List.mem_of_getElem? (i := 51) (by decide +kernel))) rfl
set_option maxRecDepth 20000 in
theorem mw_292 : Cond.selects "BlowerBreath$Town" yX3_hasPipe yX3_hasPipe ∈ bw_tbl := bw_tg (bw_t2 (List.mem_of_getElem? (i := 52) (by decide +kernel))) rfl
set_option maxRecDepth 20000 in
theorem mw_293 : Cond.code yX3_hasPipe cX3_hasPipe 2 (some FieldType.boolean) ∈ bw_tbl := bw_tg (bw_t2 (List.mem_of_getElem? (i := 53) rfl)) rfl
set_option maxRecDepth 20000 in
theorem mw_294 : Cond.methodLink "BlowerBreath" 134 yX4_pipeFact ∈ bw_tbl := bw_tg (bw_t2 (List.mem_of_getElem? (i := 54) (by decide +kernel))) rfl
set_option maxRecDepth 20000 in
theorem mw_296 : Cond.instanceMethod yX4_pipeFact ∈ bw_tbl := bw_tg (bw_t2 (List.mem_of_getElem? (i := 56) (by decide +kernel))) rfl
set_option maxRecDepth 20000 in
theorem mw_297 : Cond.code yX4_pipeFact cX4_pipeFact 3 (some FieldType.int) ∈ bw_tbl := bw_tg (bw_t2 (List.mem_of_getElem? (i := 57) rfl)) rfl
set_option maxRecDepth 20000 in
theorem mw_298 : Cond.methodLink "BlowerBreath" 160 yX3_wantNext ∈ bw_tbl := bw_tg (bw_t2 (List.mem_of_getElem? (i := 58) (by decide +kernel))) rfl
set_option maxRecDepth 20000 in
theorem mw_299 : Cond.instanceMethod yX3_wantNext ∈ bw_tbl := bw_tg (bw_t2 (List.mem_of_getElem? (i := 59) (by decide +kernel))) rfl
set_option maxRecDepth 20000 in
theorem mw_300 : Cond.selects "BlowerBreath$Town" yX3_wantNext yX3_wantNext ∈ bw_tbl := bw_tg (bw_t2 (List.mem_of_getElem? (i := 60) (by decide +kernel))) rfl
set_option maxRecDepth 20000 in
theorem mw_301 : Cond.code yX3_wantNext cX3_wantNext 2 (some FieldType.int) ∈ bw_tbl := bw_tg (bw_t2 (List.mem_of_getElem? (i := 61) rfl)) rfl
set_option maxRecDepth 20000 in
theorem mw_302 : Cond.methodLink "BlowerBreath$Town" 100 yX1_want ∈ bw_tbl := bw_tg (bw_t2 (List.mem_of_getElem? (i := 62) (by decide +kernel))) rfl
set_option maxRecDepth 20000 in
theorem mw_303 : Cond.static yX1_want ∈ bw_tbl := bw_tg (bw_t2 (List.mem_of_getElem? (i := 63) (by decide +kernel))) rfl
set_option maxRecDepth 20000 in
theorem mw_304 : Cond.code yX1_want cX1_want 3 (some FieldType.int) ∈ bw_tbl := bw_tg (bw_t2 (List.mem_of_getElem? (i := 64) rfl)) rfl
set_option maxRecDepth 20000 in
theorem mw_305 : Cond.methodLink "BlowerBreath" 295 yX3_cutOffSet ∈ bw_tbl := bw_tg (bw_t2 (List.mem_of_getElem? (i := 65) (by decide +kernel))) rfl
set_option maxRecDepth 20000 in
theorem mw_306 : Cond.instanceMethod yX3_cutOffSet ∈ bw_tbl := bw_tg (bw_t2 (List.mem_of_getElem? (i := 66) (by decide +kernel))) rfl
set_option maxRecDepth 20000 in
theorem mw_307 : Cond.selects "BlowerBreath$Town" yX3_cutOffSet yX3_cutOffSet ∈ bw_tbl := bw_tg (bw_t2 (List.mem_of_getElem? (i := 67) (by decide +kernel))) rfl
set_option maxRecDepth 20000 in
theorem mw_308 : Cond.code yX3_cutOffSet cX3_cutOffSet 3 (some FieldType.int) ∈ bw_tbl := bw_tg (bw_t2 (List.mem_of_getElem? (i := 68) rfl)) rfl
set_option maxRecDepth 20000 in
theorem mw_309 : Cond.methodLink "BlowerBreath$Town" 92 yX3_isIn ∈ bw_tbl := bw_tg (bw_t2 (List.mem_of_getElem? (i := 69) (by decide +kernel))) rfl
set_option maxRecDepth 20000 in
theorem mw_310 : Cond.static yX3_isIn ∈ bw_tbl := bw_tg (bw_t2 (List.mem_of_getElem? (i := 70) (by decide +kernel))) rfl
set_option maxRecDepth 20000 in
theorem mw_311 : Cond.code yX3_isIn cX3_isIn 2 (some FieldType.boolean) ∈ bw_tbl := bw_tg (bw_t2 (List.mem_of_getElem? (i := 71) rfl)) rfl
set_option maxRecDepth 20000 in
theorem mw_312 : Cond.methodLink "BlowerBreath" 198 yX3_isIn ∈ bw_tbl := bw_tg (bw_t2 (List.mem_of_getElem? (i := 72) (by decide +kernel))) rfl
set_option maxRecDepth 20000 in
theorem mw_313 : Cond.methodLink "BlowerBreathLaw" 61 yX4_mark ∈ bw_tbl := bw_tg (bw_t2 (List.mem_of_getElem? (i := 73) (by decide +kernel))) rfl
set_option maxRecDepth 20000 in
theorem mw_314 : Cond.instanceMethod yX4_mark ∈ bw_tbl := bw_tg (bw_t2 (List.mem_of_getElem? (i := 74) (by decide +kernel))) rfl
set_option maxRecDepth 20000 in
theorem mw_315 : Cond.selects "BlowerBreath" yX4_mark yX4_mark ∈ bw_tbl := bw_tg (bw_t2 (List.mem_of_getElem? (i := 75) (by decide +kernel))) rfl
set_option maxRecDepth 20000 in
theorem mw_316 : Cond.code yX4_mark cX4_mark 3 (some FieldType.int) ∈ bw_tbl := bw_tg (bw_t2 (List.mem_of_getElem? (i := 76) rfl)) rfl
set_option maxRecDepth 20000 in
theorem mw_317 : Cond.methodLink "BlowerBreath" 142 yX1_isOf ∈ bw_tbl := bw_tg (bw_t2 (List.mem_of_getElem? (i := 77) (by decide +kernel))) rfl
set_option maxRecDepth 20000 in
theorem mw_318 : Cond.static yX1_isOf ∈ bw_tbl := bw_tg (bw_t2 (List.mem_of_getElem? (i := 78) (by decide +kernel))) rfl
set_option maxRecDepth 20000 in
theorem mw_319 : Cond.code yX1_isOf cX1_isOf 2 (some FieldType.boolean) ∈ bw_tbl := bw_tg (bw_t2 (List.mem_of_getElem? (i := 79) rfl)) rfl
set_option maxRecDepth 20000 in
theorem mw_320 : Cond.methodLink "BlowerBreath" 155 yJ9_max_7cf53 ∈ bw_tbl := bw_tg (bw_t2 (List.mem_of_getElem? (i := 80) (by decide +kernel))) rfl
set_option maxRecDepth 20000 in
theorem mw_321 : Cond.static yJ9_max_7cf53 ∈ bw_tbl := bw_tg (bw_t2 (List.mem_of_getElem? (i := 81) (by decide +kernel))) rfl
set_option maxRecDepth 20000 in
theorem mw_322 : Cond.code yJ9_max_7cf53 cJ9_max_7cf53 2 (some FieldType.int) ∈ bw_tbl := bw_tg (bw_t2 (List.mem_of_getElem? (i := 82) rfl)) rfl
set_option maxRecDepth 20000 in
theorem mw_323 : Cond.methodLink "BlowerBreath" 166 yX1_hoursToRest ∈ bw_tbl := bw_tg (bw_t2 (List.mem_of_getElem? (i := 83) (by decide +kernel))) rfl
set_option maxRecDepth 20000 in
theorem mw_324 : Cond.static yX1_hoursToRest ∈ bw_tbl := bw_tg (bw_t2 (List.mem_of_getElem? (i := 84) (by decide +kernel))) rfl
set_option maxRecDepth 20000 in
theorem mw_325 : Cond.code yX1_hoursToRest cX1_hoursToRest 1 (some FieldType.int) ∈ bw_tbl := bw_tg (bw_t2 (List.mem_of_getElem? (i := 85) rfl)) rfl
set_option maxRecDepth 20000 in
theorem mw_326 : Cond.methodLink "BlowerBreath" 169 yX4_wantingNoMoreThan ∈ bw_tbl := bw_tg (bw_t2 (List.mem_of_getElem? (i := 86) (by decide +kernel))) rfl
set_option maxRecDepth 20000 in
theorem mw_328 : Cond.instanceMethod yX4_wantingNoMoreThan ∈ bw_tbl := bw_tg (bw_t2 (List.mem_of_getElem? (i := 88) (by decide +kernel))) rfl
set_option maxRecDepth 20000 in
theorem mw_329 : Cond.code yX4_wantingNoMoreThan cX4_wantingNoMoreThan 5 (some FieldType.int) ∈ bw_tbl := bw_tg (bw_t2 (List.mem_of_getElem? (i := 89) rfl)) rfl
set_option maxRecDepth 20000 in
theorem mw_330 : Cond.methodLink "BlowerBreathLaw" 65 yX4_hour ∈ bw_tbl := bw_tg (bw_t2 (List.mem_of_getElem? (i := 90) (by decide +kernel))) rfl
set_option maxRecDepth 20000 in
theorem mw_331 : Cond.instanceMethod yX4_hour ∈ bw_tbl := bw_tg (bw_t2 (List.mem_of_getElem? (i := 91) (by decide +kernel))) rfl
set_option maxRecDepth 20000 in
theorem mw_332 : Cond.selects "BlowerBreath" yX4_hour yX4_hour ∈ bw_tbl := bw_tg (bw_t2 (List.mem_of_getElem? (i := 92) (by decide +kernel))) rfl
set_option maxRecDepth 20000 in
theorem mw_333 : Cond.code yX4_hour cX4_hour 1 (some FieldType.int) ∈ bw_tbl := bw_tg (bw_t2 (List.mem_of_getElem? (i := 93) rfl)) rfl
set_option maxRecDepth 20000 in
theorem mw_334 : Cond.methodLink "BlowerBreath" 172 yX4_perform ∈ bw_tbl := bw_tg (bw_t2 (List.mem_of_getElem? (i := 94) (by decide +kernel))) rfl
set_option maxRecDepth 20000 in
theorem mw_336 : Cond.instanceMethod yX4_perform ∈ bw_tbl := bw_tg (bw_t2 (List.mem_of_getElem? (i := 96) (by decide +kernel))) rfl
set_option maxRecDepth 20000 in
theorem mw_337 : Cond.code yX4_perform cX4_perform 3 (some FieldType.int) ∈ bw_tbl := bw_tg (bw_t2 (List.mem_of_getElem? (i := 97) rfl)) rfl
set_option maxRecDepth 20000 in
theorem mw_338 : Cond.methodLink "BlowerBreath" 298 yX0_add ∈ bw_tbl := bw_tg (bw_t2 (List.mem_of_getElem? (i := 98) (by decide +kernel))) rfl
set_option maxRecDepth 20000 in
theorem mw_339 : Cond.instanceMethod yX0_add ∈ bw_tbl := bw_tg (bw_t2 (List.mem_of_getElem? (i := 99) (by decide +kernel))) rfl
set_option maxRecDepth 20000 in
theorem mw_340 : Cond.selects "BlowerBreath$Deeds" yX0_add yX0_add ∈ bw_tbl := bw_tg (bw_t2 (List.mem_of_getElem? (i := 100) (by decide +kernel))) rfl
set_option maxRecDepth 20000 in
theorem mw_341 : Cond.code yX0_add cX0_add 3 (some FieldType.boolean) ∈ bw_tbl := bw_tg (bw_t2 (List.mem_of_getElem? (i := 101) rfl)) rfl
set_option maxRecDepth 20000 in
theorem mw_342 : Cond.methodLink "BlowerBreath" 301 yX3_undergo ∈ bw_tbl := bw_tg (bw_t2 (List.mem_of_getElem? (i := 102) (by decide +kernel))) rfl
set_option maxRecDepth 20000 in
theorem mw_343 : Cond.instanceMethod yX3_undergo ∈ bw_tbl := bw_tg (bw_t2 (List.mem_of_getElem? (i := 103) (by decide +kernel))) rfl
set_option maxRecDepth 20000 in
theorem mw_344 : Cond.selects "BlowerBreath$Town" yX3_undergo yX3_undergo ∈ bw_tbl := bw_tg (bw_t2 (List.mem_of_getElem? (i := 104) (by decide +kernel))) rfl
set_option maxRecDepth 20000 in
theorem mw_345 : Cond.code yX3_undergo cX3_undergo 4 (some FieldType.int) ∈ bw_tbl := bw_tg (bw_t2 (List.mem_of_getElem? (i := 105) rfl)) rfl
set_option maxRecDepth 20000 in
theorem mw_346 : Cond.methodLink "BlowerBreath$Town" 78 yX3_blow ∈ bw_tbl := bw_tg (bw_t2 (List.mem_of_getElem? (i := 106) (by decide +kernel))) rfl
set_option maxRecDepth 20000 in
theorem mw_347 : Cond.instanceMethod yX3_blow ∈ bw_tbl := bw_tg (bw_t2 (List.mem_of_getElem? (i := 107) (by decide +kernel))) rfl
set_option maxRecDepth 20000 in
theorem mw_348 : Cond.selects "BlowerBreath$Town" yX3_blow yX3_blow ∈ bw_tbl := bw_tg (bw_t2 (List.mem_of_getElem? (i := 108) (by decide +kernel))) rfl
set_option maxRecDepth 20000 in
theorem mw_349 : Cond.code yX3_blow cX3_blow 4 (some FieldType.int) ∈ bw_tbl := bw_tg (bw_t2 (List.mem_of_getElem? (i := 109) rfl)) rfl
set_option maxRecDepth 20000 in
theorem mw_350 : Cond.methodLink "BlowerBreath$Town" 81 yJ9_min_7cf53 ∈ bw_tbl := bw_tg (bw_t2 (List.mem_of_getElem? (i := 110) (by decide +kernel))) rfl
set_option maxRecDepth 20000 in
theorem mw_351 : Cond.static yJ9_min_7cf53 ∈ bw_tbl := bw_tg (bw_t2 (List.mem_of_getElem? (i := 111) (by decide +kernel))) rfl
set_option maxRecDepth 20000 in
theorem mw_352 : Cond.code yJ9_min_7cf53 cJ9_min_7cf53 2 (some FieldType.int) ∈ bw_tbl := bw_tg (bw_t2 (List.mem_of_getElem? (i := 112) rfl)) rfl
set_option maxRecDepth 20000 in
theorem mw_353 : Cond.methodLink "BlowerBreath$Town" 89 yX3_cutOffSet ∈ bw_tbl := bw_tg (bw_t2 (List.mem_of_getElem? (i := 113) (by decide +kernel))) rfl
set_option maxRecDepth 20000 in
theorem mw_354 : Cond.methodLink "BlowerBreath$Town" 96 yX3_breathe ∈ bw_tbl := bw_tg (bw_t2 (List.mem_of_getElem? (i := 114) (by decide +kernel))) rfl
set_option maxRecDepth 20000 in
theorem mw_356 : Cond.instanceMethod yX3_breathe ∈ bw_tbl := bw_tg (bw_t2 (List.mem_of_getElem? (i := 116) (by decide +kernel))) rfl
set_option maxRecDepth 20000 in
theorem mw_357 : Cond.code yX3_breathe cX3_breathe 3 (some FieldType.boolean) ∈ bw_tbl := bw_tg (bw_t2 (List.mem_of_getElem? (i := 117) rfl)) rfl
set_option maxRecDepth 20000 in
theorem mw_358 : Cond.methodLink "BlowerBreath$Town" 86 yJ9_max_7cf53 ∈ bw_tbl := bw_tg (bw_t2 (List.mem_of_getElem? (i := 118) (by decide +kernel))) rfl
set_option maxRecDepth 20000 in
theorem mw_359 : Cond.methodLink "BlowerBreath$Town" 106 yX1_keeps ∈ bw_tbl := bw_tg (bw_t2 (List.mem_of_getElem? (i := 119) (by decide +kernel))) rfl
set_option maxRecDepth 20000 in
theorem mw_360 : Cond.static yX1_keeps ∈ bw_tbl := bw_tg (bw_t2 (List.mem_of_getElem? (i := 120) (by decide +kernel))) rfl
set_option maxRecDepth 20000 in
theorem mw_361 : Cond.code yX1_keeps cX1_keeps 1 (some FieldType.int) ∈ bw_tbl := bw_tg (bw_t2 (List.mem_of_getElem? (i := 121) rfl)) rfl
set_option maxRecDepth 20000 in
theorem mw_362 : Cond.methodLink "BlowerBreath$Kind" 11 yX1_isOf ∈ bw_tbl := bw_tg (bw_t2 (List.mem_of_getElem? (i := 122) (by decide +kernel))) rfl
set_option maxRecDepth 20000 in
theorem mw_363 : Cond.methodLink "BlowerBreath$Town" 110 yX3_save ∈ bw_tbl := bw_tg (bw_t2 (List.mem_of_getElem? (i := 123) (by decide +kernel))) rfl
set_option maxRecDepth 20000 in
theorem mw_365 : Cond.instanceMethod yX3_save ∈ bw_tbl := bw_tg (bw_t2 (List.mem_of_getElem? (i := 125) (by decide +kernel))) rfl
set_option maxRecDepth 20000 in
theorem mw_366 : Cond.code yX3_save cX3_save 3 none ∈ bw_tbl := bw_tg (bw_t2 (List.mem_of_getElem? (i := 126) rfl)) rfl
set_option maxRecDepth 20000 in
theorem mw_367 : Cond.methodLink "BlowerBreathLaw" 70 yX4_pump ∈ bw_tbl := bw_tg (bw_t2 (List.mem_of_getElem? (i := 127) (by decide +kernel))) rfl
set_option maxRecDepth 20000 in
theorem mw_368 : Cond.instanceMethod yX4_pump ∈ bw_tbl := bw_tg (bw_t2 (List.mem_of_getElem? (i := 128) (by decide +kernel))) rfl
set_option maxRecDepth 20000 in
theorem mw_369 : Cond.selects "BlowerBreath" yX4_pump yX4_pump ∈ bw_tbl := bw_tg (bw_t2 (List.mem_of_getElem? (i := 129) (by decide +kernel))) rfl
set_option maxRecDepth 20000 in
theorem mw_370 : Cond.code yX4_pump cX4_pump 2 (some FieldType.int) ∈ bw_tbl := bw_tg (bw_t2 (List.mem_of_getElem? (i := 130) rfl)) rfl
set_option maxRecDepth 20000 in
theorem mw_371 : Cond.methodLink "BlowerBreathLaw" 74 yX4_cut ∈ bw_tbl := bw_tg (bw_t2 (List.mem_of_getElem? (i := 131) (by decide +kernel))) rfl
set_option maxRecDepth 20000 in
theorem mw_372 : Cond.instanceMethod yX4_cut ∈ bw_tbl := bw_tg (bw_t2 (List.mem_of_getElem? (i := 132) (by decide +kernel))) rfl
set_option maxRecDepth 20000 in
theorem mw_373 : Cond.selects "BlowerBreath" yX4_cut yX4_cut ∈ bw_tbl := bw_tg (bw_t2 (List.mem_of_getElem? (i := 133) (by decide +kernel))) rfl
set_option maxRecDepth 20000 in
theorem mw_374 : Cond.code yX4_cut cX4_cut 2 (some FieldType.int) ∈ bw_tbl := bw_tg (bw_t2 (List.mem_of_getElem? (i := 134) rfl)) rfl
set_option maxRecDepth 20000 in
theorem mw_375 : Cond.methodLink "BlowerBreathLaw" 78 yX4_leak ∈ bw_tbl := bw_tg (bw_t2 (List.mem_of_getElem? (i := 135) (by decide +kernel))) rfl
set_option maxRecDepth 20000 in
theorem mw_376 : Cond.instanceMethod yX4_leak ∈ bw_tbl := bw_tg (bw_t2 (List.mem_of_getElem? (i := 136) (by decide +kernel))) rfl
set_option maxRecDepth 20000 in
theorem mw_377 : Cond.selects "BlowerBreath" yX4_leak yX4_leak ∈ bw_tbl := bw_tg (bw_t2 (List.mem_of_getElem? (i := 137) (by decide +kernel))) rfl
set_option maxRecDepth 20000 in
theorem mw_378 : Cond.code yX4_leak cX4_leak 2 (some FieldType.int) ∈ bw_tbl := bw_tg (bw_t2 (List.mem_of_getElem? (i := 138) rfl)) rfl
set_option maxRecDepth 20000 in
theorem mw_379 : Cond.methodLink "BlowerBreathLaw" 82 yX4_stroke ∈ bw_tbl := bw_tg (bw_t2 (List.mem_of_getElem? (i := 139) (by decide +kernel))) rfl
set_option maxRecDepth 20000 in
theorem mw_380 : Cond.instanceMethod yX4_stroke ∈ bw_tbl := bw_tg (bw_t2 (List.mem_of_getElem? (i := 140) (by decide +kernel))) rfl
set_option maxRecDepth 20000 in
theorem mw_381 : Cond.selects "BlowerBreath" yX4_stroke yX4_stroke ∈ bw_tbl := bw_tg (bw_t2 (List.mem_of_getElem? (i := 141) (by decide +kernel))) rfl
set_option maxRecDepth 20000 in
theorem mw_382 : Cond.code yX4_stroke cX4_stroke 2 (some FieldType.int) ∈ bw_tbl := bw_tg (bw_t2 (List.mem_of_getElem? (i := 142) rfl)) rfl
set_option maxRecDepth 20000 in
theorem mw_383 : Cond.methodLink "BlowerBreathLaw" 86 yX4_undo ∈ bw_tbl := bw_tg (bw_t2 (List.mem_of_getElem? (i := 143) (by decide +kernel))) rfl
set_option maxRecDepth 20000 in
theorem mw_384 : Cond.instanceMethod yX4_undo ∈ bw_tbl := bw_tg (bw_t2 (List.mem_of_getElem? (i := 144) (by decide +kernel))) rfl
set_option maxRecDepth 20000 in
theorem mw_385 : Cond.selects "BlowerBreath" yX4_undo yX4_undo ∈ bw_tbl := bw_tg (bw_t2 (List.mem_of_getElem? (i := 145) (by decide +kernel))) rfl
set_option maxRecDepth 20000 in
theorem mw_386 : Cond.code yX4_undo cX4_undo 3 (some FieldType.int) ∈ bw_tbl := bw_tg (bw_t2 (List.mem_of_getElem? (i := 146) rfl)) rfl
set_option maxRecDepth 20000 in
theorem mw_387 : Cond.methodLink "BlowerBreath" 178 yX3_relive ∈ bw_tbl := bw_tg (bw_t2 (List.mem_of_getElem? (i := 147) (by decide +kernel))) rfl
set_option maxRecDepth 20000 in
theorem mw_388 : Cond.instanceMethod yX3_relive ∈ bw_tbl := bw_tg (bw_t2 (List.mem_of_getElem? (i := 148) (by decide +kernel))) rfl
set_option maxRecDepth 20000 in
theorem mw_389 : Cond.selects "BlowerBreath$Town" yX3_relive yX3_relive ∈ bw_tbl := bw_tg (bw_t2 (List.mem_of_getElem? (i := 149) (by decide +kernel))) rfl
set_option maxRecDepth 20000 in
theorem mw_390 : Cond.code yX3_relive cX3_relive 3 none ∈ bw_tbl := bw_tg (bw_t2 (List.mem_of_getElem? (i := 150) rfl)) rfl
set_option maxRecDepth 20000 in
theorem mw_391 : Cond.methodLink "BlowerBreath$Town" 68 yX3_undergo ∈ bw_tbl := bw_tg (bw_t2 (List.mem_of_getElem? (i := 151) (by decide +kernel))) rfl
set_option maxRecDepth 20000 in
theorem mw_392 : Cond.methodLink "BlowerBreathLaw" 90 yX4_keep ∈ bw_tbl := bw_tg (bw_t2 (List.mem_of_getElem? (i := 152) (by decide +kernel))) rfl
set_option maxRecDepth 20000 in
theorem mw_393 : Cond.instanceMethod yX4_keep ∈ bw_tbl := bw_tg (bw_t2 (List.mem_of_getElem? (i := 153) (by decide +kernel))) rfl
set_option maxRecDepth 20000 in
theorem mw_394 : Cond.selects "BlowerBreath" yX4_keep yX4_keep ∈ bw_tbl := bw_tg (bw_t2 (List.mem_of_getElem? (i := 154) (by decide +kernel))) rfl
set_option maxRecDepth 20000 in
theorem mw_395 : Cond.code yX4_keep cX4_keep 2 (some FieldType.int) ∈ bw_tbl := bw_tg (bw_t2 (List.mem_of_getElem? (i := 155) rfl)) rfl
set_option maxRecDepth 20000 in
theorem mw_396 : Cond.methodLink "BlowerBreath" 182 yX4_isKeepingPlace ∈ bw_tbl := bw_tg (bw_t2 (List.mem_of_getElem? (i := 156) (by decide +kernel))) rfl
set_option maxRecDepth 20000 in
theorem mw_397 : Cond.static yX4_isKeepingPlace ∈ bw_tbl := bw_tg (bw_t2 (List.mem_of_getElem? (i := 157) (by decide +kernel))) rfl
set_option maxRecDepth 20000 in
theorem mw_398 : Cond.code yX4_isKeepingPlace cX4_isKeepingPlace 1 (some FieldType.boolean) ∈ bw_tbl := bw_tg (bw_t2 (List.mem_of_getElem? (i := 158) rfl)) rfl
set_option maxRecDepth 20000 in
theorem mw_399 : Cond.methodLink "BlowerBreath" 185 yX0_become ∈ bw_tbl := bw_tg (bw_t2 (List.mem_of_getElem? (i := 159) (by decide +kernel))) rfl
set_option maxRecDepth 20000 in
theorem mw_400 : Cond.instanceMethod yX0_become ∈ bw_tbl := bw_tg (bw_t2 (List.mem_of_getElem? (i := 160) (by decide +kernel))) rfl
set_option maxRecDepth 20000 in
theorem mw_401 : Cond.selects "BlowerBreath$Deeds" yX0_become yX0_become ∈ bw_tbl := bw_tg (bw_t2 (List.mem_of_getElem? (i := 161) (by decide +kernel))) rfl
set_option maxRecDepth 20000 in
theorem mw_402 : Cond.code yX0_become cX0_become 2 none ∈ bw_tbl := bw_tg (bw_t2 (List.mem_of_getElem? (i := 162) rfl)) rfl
set_option maxRecDepth 20000 in
theorem mw_403 : Cond.methodLink "BlowerBreath$Deeds" 20 arraycopyName ∈ bw_tbl := bw_tg (bw_t2 (List.mem_of_getElem? (i := 163) (by decide +kernel))) rfl
set_option maxRecDepth 20000 in
theorem mw_404 : Cond.methodLink "BlowerBreathLaw" 94 yX4_on ∈ bw_tbl := bw_tg (bw_t2 (List.mem_of_getElem? (i := 164) (by decide +kernel))) rfl
set_option maxRecDepth 20000 in
theorem mw_405 : Cond.instanceMethod yX4_on ∈ bw_tbl := bw_tg (bw_t2 (List.mem_of_getElem? (i := 165) (by decide +kernel))) rfl
set_option maxRecDepth 20000 in
theorem mw_406 : Cond.selects "BlowerBreath" yX4_on yX4_on ∈ bw_tbl := bw_tg (bw_t2 (List.mem_of_getElem? (i := 166) (by decide +kernel))) rfl
set_option maxRecDepth 20000 in
theorem mw_407 : Cond.code yX4_on cX4_on 2 (some FieldType.int) ∈ bw_tbl := bw_tg (bw_t2 (List.mem_of_getElem? (i := 167) rfl)) rfl
set_option maxRecDepth 20000 in
theorem mw_408 : Cond.methodLink "BlowerBreathLaw" 98 yX4_wants ∈ bw_tbl := bw_tg (bw_t2 (List.mem_of_getElem? (i := 168) (by decide +kernel))) rfl
set_option maxRecDepth 20000 in
theorem mw_409 : Cond.instanceMethod yX4_wants ∈ bw_tbl := bw_tg (bw_t2 (List.mem_of_getElem? (i := 169) (by decide +kernel))) rfl
set_option maxRecDepth 20000 in
theorem mw_410 : Cond.selects "BlowerBreath" yX4_wants yX4_wants ∈ bw_tbl := bw_tg (bw_t2 (List.mem_of_getElem? (i := 170) (by decide +kernel))) rfl
set_option maxRecDepth 20000 in
theorem mw_411 : Cond.code yX4_wants cX4_wants 4 (some FieldType.int) ∈ bw_tbl := bw_tg (bw_t2 (List.mem_of_getElem? (i := 171) rfl)) rfl
set_option maxRecDepth 20000 in
theorem mw_412 : Cond.methodLink "BlowerBreath" 187 yX1_want ∈ bw_tbl := bw_tg (bw_t2 (List.mem_of_getElem? (i := 172) (by decide +kernel))) rfl
set_option maxRecDepth 20000 in
theorem mw_413 : Cond.methodLink "BlowerBreathLaw" 102 yX4_air ∈ bw_tbl := bw_tg (bw_t2 (List.mem_of_getElem? (i := 173) (by decide +kernel))) rfl
set_option maxRecDepth 20000 in
theorem mw_414 : Cond.instanceMethod yX4_air ∈ bw_tbl := bw_tg (bw_t2 (List.mem_of_getElem? (i := 174) (by decide +kernel))) rfl
set_option maxRecDepth 20000 in
theorem mw_415 : Cond.selects "BlowerBreath" yX4_air yX4_air ∈ bw_tbl := bw_tg (bw_t2 (List.mem_of_getElem? (i := 175) (by decide +kernel))) rfl
set_option maxRecDepth 20000 in
theorem mw_416 : Cond.code yX4_air cX4_air 4 (some FieldType.int) ∈ bw_tbl := bw_tg (bw_t2 (List.mem_of_getElem? (i := 176) rfl)) rfl
set_option maxRecDepth 20000 in
theorem mw_417 : Cond.methodLink "BlowerBreath" 191 yX3_blow ∈ bw_tbl := bw_tg (bw_t2 (List.mem_of_getElem? (i := 177) (by decide +kernel))) rfl
set_option maxRecDepth 20000 in
theorem mw_418 : Cond.methodLink "BlowerBreathLaw" 106 yX4_says ∈ bw_tbl := bw_tg (bw_t2 (List.mem_of_getElem? (i := 178) (by decide +kernel))) rfl
set_option maxRecDepth 20000 in
theorem mw_419 : Cond.instanceMethod yX4_says ∈ bw_tbl := bw_tg (bw_t2 (List.mem_of_getElem? (i := 179) (by decide +kernel))) rfl
set_option maxRecDepth 20000 in
theorem mw_420 : Cond.selects "BlowerBreath" yX4_says yX4_says ∈ bw_tbl := bw_tg (bw_t2 (List.mem_of_getElem? (i := 180) (by decide +kernel))) rfl
set_option maxRecDepth 20000 in
theorem mw_421 : Cond.code yX4_says cX4_says 4 (some FieldType.int) ∈ bw_tbl := bw_tg (bw_t2 (List.mem_of_getElem? (i := 181) rfl)) rfl
set_option maxRecDepth 20000 in
theorem mw_422 : Cond.methodLink "BlowerBreathLaw" 110 yX4_first ∈ bw_tbl := bw_tg (bw_t2 (List.mem_of_getElem? (i := 182) (by decide +kernel))) rfl
set_option maxRecDepth 20000 in
theorem mw_423 : Cond.instanceMethod yX4_first ∈ bw_tbl := bw_tg (bw_t2 (List.mem_of_getElem? (i := 183) (by decide +kernel))) rfl
set_option maxRecDepth 20000 in
theorem mw_424 : Cond.selects "BlowerBreath" yX4_first yX4_first ∈ bw_tbl := bw_tg (bw_t2 (List.mem_of_getElem? (i := 184) (by decide +kernel))) rfl
set_option maxRecDepth 20000 in
theorem mw_425 : Cond.code yX4_first cX4_first 3 (some FieldType.int) ∈ bw_tbl := bw_tg (bw_t2 (List.mem_of_getElem? (i := 185) rfl)) rfl
set_option maxRecDepth 20000 in
theorem mw_426 : Cond.methodLink "BlowerBreathLaw" 114 yX4_hush ∈ bw_tbl := bw_tg (bw_t2 (List.mem_of_getElem? (i := 186) (by decide +kernel))) rfl
set_option maxRecDepth 20000 in
theorem mw_427 : Cond.instanceMethod yX4_hush ∈ bw_tbl := bw_tg (bw_t2 (List.mem_of_getElem? (i := 187) (by decide +kernel))) rfl
set_option maxRecDepth 20000 in
theorem mw_428 : Cond.selects "BlowerBreath" yX4_hush yX4_hush ∈ bw_tbl := bw_tg (bw_t2 (List.mem_of_getElem? (i := 188) (by decide +kernel))) rfl
set_option maxRecDepth 20000 in
theorem mw_429 : Cond.code yX4_hush cX4_hush 8 (some FieldType.int) ∈ bw_tbl := bw_tg (bw_t2 (List.mem_of_getElem? (i := 189) rfl)) rfl
set_option maxRecDepth 20000 in
theorem mw_430 : Cond.methodLink "BlowerBreath" 201 yX3_allPipes ∈ bw_tbl := bw_tg (bw_t2 (List.mem_of_getElem? (i := 190) (by decide +kernel))) rfl
set_option maxRecDepth 20000 in
theorem mw_431 : Cond.instanceMethod yX3_allPipes ∈ bw_tbl := bw_tg (bw_t2 (List.mem_of_getElem? (i := 191) (by decide +kernel))) rfl
set_option maxRecDepth 20000 in
theorem mw_432 : Cond.selects "BlowerBreath$Town" yX3_allPipes yX3_allPipes ∈ bw_tbl := bw_tg (bw_t2 (List.mem_of_getElem? (i := 192) (by decide +kernel))) rfl
set_option maxRecDepth 20000 in
theorem mw_433 : Cond.code yX3_allPipes cX3_allPipes 1 (some FieldType.int) ∈ bw_tbl := bw_tg (bw_t2 (List.mem_of_getElem? (i := 193) rfl)) rfl
set_option maxRecDepth 20000 in
theorem mw_434 : Cond.methodLink "BlowerBreath" 207 yJ6_bitCount_0f7a4 ∈ bw_tbl := bw_tg (bw_t2 (List.mem_of_getElem? (i := 194) (by decide +kernel))) rfl
set_option maxRecDepth 20000 in
theorem mw_435 : Cond.static yJ6_bitCount_0f7a4 ∈ bw_tbl := bw_tg (bw_t2 (List.mem_of_getElem? (i := 195) (by decide +kernel))) rfl
set_option maxRecDepth 20000 in
theorem mw_436 : Cond.code yJ6_bitCount_0f7a4 cJ6_bitCount_0f7a4 1 (some FieldType.int) ∈ bw_tbl := bw_tg (bw_t2 (List.mem_of_getElem? (i := 196) rfl)) rfl
set_option maxRecDepth 20000 in
theorem mw_437 : Cond.constant "java/lang/Integer" 265 1431655765 ∈ bw_tbl := bw_tg (bw_t2 (List.mem_of_getElem? (i := 197) (by decide +kernel))) rfl
set_option maxRecDepth 20000 in
theorem mw_438 : Cond.constant "java/lang/Integer" 266 858993459 ∈ bw_tbl := bw_tg (bw_t2 (List.mem_of_getElem? (i := 198) (by decide +kernel))) rfl
set_option maxRecDepth 20000 in
theorem mw_439 : Cond.constant "java/lang/Integer" 267 252645135 ∈ bw_tbl := bw_tg (bw_t2 (List.mem_of_getElem? (i := 199) (by decide +kernel))) rfl
set_option maxRecDepth 20000 in
theorem mw_440 : Cond.methodLink "BlowerBreath" 212 yX4_spokenIfCut ∈ bw_tbl := bw_tg (bw_t2 (List.mem_of_getElem? (i := 200) (by decide +kernel))) rfl
set_option maxRecDepth 20000 in
theorem mw_442 : Cond.instanceMethod yX4_spokenIfCut ∈ bw_tbl := bw_tg (bw_t2 (List.mem_of_getElem? (i := 202) (by decide +kernel))) rfl
set_option maxRecDepth 20000 in
theorem mw_443 : Cond.code yX4_spokenIfCut cX4_spokenIfCut 2 (some FieldType.int) ∈ bw_tbl := bw_tg (bw_t2 (List.mem_of_getElem? (i := 203) rfl)) rfl
set_option maxRecDepth 20000 in
theorem mw_444 : Cond.methodLink "BlowerBreathLaw" 118 yX4_least ∈ bw_tbl := bw_tg (bw_t2 (List.mem_of_getElem? (i := 204) (by decide +kernel))) rfl
set_option maxRecDepth 20000 in
theorem mw_445 : Cond.instanceMethod yX4_least ∈ bw_tbl := bw_tg (bw_t2 (List.mem_of_getElem? (i := 205) (by decide +kernel))) rfl
set_option maxRecDepth 20000 in
theorem mw_446 : Cond.selects "BlowerBreath" yX4_least yX4_least ∈ bw_tbl := bw_tg (bw_t2 (List.mem_of_getElem? (i := 206) (by decide +kernel))) rfl
set_option maxRecDepth 20000 in
theorem mw_447 : Cond.code yX4_least cX4_least 3 (some FieldType.int) ∈ bw_tbl := bw_tg (bw_t2 (List.mem_of_getElem? (i := 207) rfl)) rfl
set_option maxRecDepth 20000 in
theorem mw_448 : Cond.methodLink "BlowerBreathLaw" 122 yX4_hard ∈ bw_tbl := bw_tg (bw_t2 (List.mem_of_getElem? (i := 208) (by decide +kernel))) rfl
set_option maxRecDepth 20000 in
theorem mw_449 : Cond.instanceMethod yX4_hard ∈ bw_tbl := bw_tg (bw_t2 (List.mem_of_getElem? (i := 209) (by decide +kernel))) rfl
set_option maxRecDepth 20000 in
theorem mw_450 : Cond.selects "BlowerBreath" yX4_hard yX4_hard ∈ bw_tbl := bw_tg (bw_t2 (List.mem_of_getElem? (i := 210) (by decide +kernel))) rfl
set_option maxRecDepth 20000 in
theorem mw_451 : Cond.code yX4_hard cX4_hard 4 (some FieldType.int) ∈ bw_tbl := bw_tg (bw_t2 (List.mem_of_getElem? (i := 211) rfl)) rfl
set_option maxRecDepth 20000 in
theorem mw_452 : Cond.methodLink "BlowerBreath" 215 yX3_isSet ∈ bw_tbl := bw_tg (bw_t2 (List.mem_of_getElem? (i := 212) (by decide +kernel))) rfl
set_option maxRecDepth 20000 in
theorem mw_453 : Cond.instanceMethod yX3_isSet ∈ bw_tbl := bw_tg (bw_t2 (List.mem_of_getElem? (i := 213) (by decide +kernel))) rfl
set_option maxRecDepth 20000 in
theorem mw_454 : Cond.selects "BlowerBreath$Town" yX3_isSet yX3_isSet ∈ bw_tbl := bw_tg (bw_t2 (List.mem_of_getElem? (i := 214) (by decide +kernel))) rfl
set_option maxRecDepth 20000 in
theorem mw_455 : Cond.code yX3_isSet cX3_isSet 2 (some FieldType.boolean) ∈ bw_tbl := bw_tg (bw_t2 (List.mem_of_getElem? (i := 215) rfl)) rfl
set_option maxRecDepth 20000 in
theorem mw_456 : Cond.methodLink "BlowerBreath$Town" 50 yX3_allPipes ∈ bw_tbl := bw_tg (bw_t2 (List.mem_of_getElem? (i := 216) (by decide +kernel))) rfl
set_option maxRecDepth 20000 in
theorem mw_457 : Cond.methodLink "BlowerBreath" 218 yX4_speakAlways ∈ bw_tbl := bw_tg (bw_t2 (List.mem_of_getElem? (i := 217) (by decide +kernel))) rfl
set_option maxRecDepth 20000 in
theorem mw_459 : Cond.instanceMethod yX4_speakAlways ∈ bw_tbl := bw_tg (bw_t2 (List.mem_of_getElem? (i := 219) (by decide +kernel))) rfl
set_option maxRecDepth 20000 in
theorem mw_460 : Cond.code yX4_speakAlways cX4_speakAlways 6 (some FieldType.boolean) ∈ bw_tbl := bw_tg (bw_t2 (List.mem_of_getElem? (i := 220) rfl)) rfl
set_option maxRecDepth 20000 in
theorem mw_461 : Cond.methodLink "BlowerBreathLaw" 126 yX4_leaks ∈ bw_tbl := bw_tg (bw_t2 (List.mem_of_getElem? (i := 221) (by decide +kernel))) rfl
set_option maxRecDepth 20000 in
theorem mw_462 : Cond.instanceMethod yX4_leaks ∈ bw_tbl := bw_tg (bw_t2 (List.mem_of_getElem? (i := 222) (by decide +kernel))) rfl
set_option maxRecDepth 20000 in
theorem mw_463 : Cond.selects "BlowerBreath" yX4_leaks yX4_leaks ∈ bw_tbl := bw_tg (bw_t2 (List.mem_of_getElem? (i := 223) (by decide +kernel))) rfl
set_option maxRecDepth 20000 in
theorem mw_464 : Cond.code yX4_leaks cX4_leaks 6 (some FieldType.int) ∈ bw_tbl := bw_tg (bw_t2 (List.mem_of_getElem? (i := 224) rfl)) rfl
set_option maxRecDepth 20000 in
theorem mw_465 : Cond.methodLink "BlowerBreath" 221 yX4_refusedHearing ∈ bw_tbl := bw_tg (bw_t2 (List.mem_of_getElem? (i := 225) (by decide +kernel))) rfl
set_option maxRecDepth 20000 in
theorem mw_467 : Cond.instanceMethod yX4_refusedHearing ∈ bw_tbl := bw_tg (bw_t2 (List.mem_of_getElem? (i := 227) (by decide +kernel))) rfl
set_option maxRecDepth 20000 in
theorem mw_468 : Cond.code yX4_refusedHearing cX4_refusedHearing 4 (some FieldType.int) ∈ bw_tbl := bw_tg (bw_t2 (List.mem_of_getElem? (i := 228) rfl)) rfl
set_option maxRecDepth 20000 in
theorem mw_469 : Cond.methodLink "BlowerBreath" 224 yX4_leakingFits ∈ bw_tbl := bw_tg (bw_t2 (List.mem_of_getElem? (i := 229) (by decide +kernel))) rfl
set_option maxRecDepth 20000 in
theorem mw_471 : Cond.instanceMethod yX4_leakingFits ∈ bw_tbl := bw_tg (bw_t2 (List.mem_of_getElem? (i := 231) (by decide +kernel))) rfl
set_option maxRecDepth 20000 in
theorem mw_472 : Cond.code yX4_leakingFits cX4_leakingFits 3 (some FieldType.boolean) ∈ bw_tbl := bw_tg (bw_t2 (List.mem_of_getElem? (i := 232) rfl)) rfl
set_option maxRecDepth 20000 in
theorem mw_473 : Cond.methodLink "BlowerBreath" 237 yX4_trialSpeaksLike ∈ bw_tbl := bw_tg (bw_t2 (List.mem_of_getElem? (i := 233) (by decide +kernel))) rfl
set_option maxRecDepth 20000 in
theorem mw_475 : Cond.instanceMethod yX4_trialSpeaksLike ∈ bw_tbl := bw_tg (bw_t2 (List.mem_of_getElem? (i := 235) (by decide +kernel))) rfl
set_option maxRecDepth 20000 in
theorem mw_476 : Cond.code yX4_trialSpeaksLike cX4_trialSpeaksLike 4 (some FieldType.boolean) ∈ bw_tbl := bw_tg (bw_t2 (List.mem_of_getElem? (i := 236) rfl)) rfl
set_option maxRecDepth 20000 in
theorem mw_477 : Cond.methodLink "BlowerBreath" 227 yX4_tellShare ∈ bw_tbl := bw_tg (bw_t2 (List.mem_of_getElem? (i := 237) (by decide +kernel))) rfl
set_option maxRecDepth 20000 in
theorem mw_479 : Cond.instanceMethod yX4_tellShare ∈ bw_tbl := bw_tg (bw_t2 (List.mem_of_getElem? (i := 239) (by decide +kernel))) rfl
set_option maxRecDepth 20000 in
theorem mw_480 : Cond.code yX4_tellShare cX4_tellShare 7 none ∈ bw_tbl := bw_tg (bw_t3 (List.mem_of_getElem? (i := 0) rfl)) rfl
set_option maxRecDepth 20000 in
theorem mw_481 : Cond.methodLink "BlowerBreath" 288 yX4_greatestDivisor ∈ bw_tbl := bw_tg (bw_t3 (List.mem_of_getElem? (i := 1) (by decide +kernel))) rfl
set_option maxRecDepth 20000 in
theorem mw_482 : Cond.static yX4_greatestDivisor ∈ bw_tbl := bw_tg (bw_t3 (List.mem_of_getElem? (i := 2) (by decide +kernel))) rfl
set_option maxRecDepth 20000 in
theorem mw_483 : Cond.code yX4_greatestDivisor cX4_greatestDivisor 11 (some FieldType.long) ∈ bw_tbl := bw_tg (bw_t3 (List.mem_of_getElem? (i := 3) rfl)) rfl
set_option maxRecDepth 20000 in
theorem mw_484 : Cond.methodLink "BlowerBreathLaw" 130 yX4_listen ∈ bw_tbl := bw_tg (bw_t3 (List.mem_of_getElem? (i := 4) (by decide +kernel))) rfl
set_option maxRecDepth 20000 in
theorem mw_485 : Cond.instanceMethod yX4_listen ∈ bw_tbl := bw_tg (bw_t3 (List.mem_of_getElem? (i := 5) (by decide +kernel))) rfl
set_option maxRecDepth 20000 in
theorem mw_486 : Cond.selects "BlowerBreath" yX4_listen yX4_listen ∈ bw_tbl := bw_tg (bw_t3 (List.mem_of_getElem? (i := 6) (by decide +kernel))) rfl
set_option maxRecDepth 20000 in
theorem mw_487 : Cond.code yX4_listen cX4_listen 8 (some FieldType.int) ∈ bw_tbl := bw_tg (bw_t3 (List.mem_of_getElem? (i := 7) rfl)) rfl
set_option maxRecDepth 20000 in
theorem mw_488 : Cond.methodLink "BlowerBreath" 231 yX4_tallyNextSpeakers ∈ bw_tbl := bw_tg (bw_t3 (List.mem_of_getElem? (i := 8) (by decide +kernel))) rfl
set_option maxRecDepth 20000 in
theorem mw_490 : Cond.instanceMethod yX4_tallyNextSpeakers ∈ bw_tbl := bw_tg (bw_t3 (List.mem_of_getElem? (i := 10) (by decide +kernel))) rfl
set_option maxRecDepth 20000 in
theorem mw_491 : Cond.code yX4_tallyNextSpeakers cX4_tallyNextSpeakers 6 (some FieldType.int) ∈ bw_tbl := bw_tg (bw_t3 (List.mem_of_getElem? (i := 11) rfl)) rfl
set_option maxRecDepth 20000 in
theorem mw_492 : Cond.methodLink "BlowerBreath" 234 yX4_greaterPart ∈ bw_tbl := bw_tg (bw_t3 (List.mem_of_getElem? (i := 12) (by decide +kernel))) rfl
set_option maxRecDepth 20000 in
theorem mw_494 : Cond.instanceMethod yX4_greaterPart ∈ bw_tbl := bw_tg (bw_t3 (List.mem_of_getElem? (i := 14) (by decide +kernel))) rfl
set_option maxRecDepth 20000 in
theorem mw_495 : Cond.code yX4_greaterPart cX4_greaterPart 3 (some FieldType.int) ∈ bw_tbl := bw_tg (bw_t3 (List.mem_of_getElem? (i := 15) rfl)) rfl
set_option maxRecDepth 20000 in
theorem mw_496 : Cond.methodLink "BlowerBreathLaw" 134 yX4_strokes ∈ bw_tbl := bw_tg (bw_t3 (List.mem_of_getElem? (i := 16) (by decide +kernel))) rfl
set_option maxRecDepth 20000 in
theorem mw_497 : Cond.instanceMethod yX4_strokes ∈ bw_tbl := bw_tg (bw_t3 (List.mem_of_getElem? (i := 17) (by decide +kernel))) rfl
set_option maxRecDepth 20000 in
theorem mw_498 : Cond.selects "BlowerBreath" yX4_strokes yX4_strokes ∈ bw_tbl := bw_tg (bw_t3 (List.mem_of_getElem? (i := 18) (by decide +kernel))) rfl
set_option maxRecDepth 20000 in
theorem mw_499 : Cond.code yX4_strokes cX4_strokes 5 (some FieldType.int) ∈ bw_tbl := bw_tg (bw_t3 (List.mem_of_getElem? (i := 19) rfl)) rfl
set_option maxRecDepth 20000 in
theorem mw_500 : Cond.methodLink "BlowerBreathLaw" 138 yX4_kinds ∈ bw_tbl := bw_tg (bw_t3 (List.mem_of_getElem? (i := 20) (by decide +kernel))) rfl
set_option maxRecDepth 20000 in
theorem mw_501 : Cond.instanceMethod yX4_kinds ∈ bw_tbl := bw_tg (bw_t3 (List.mem_of_getElem? (i := 21) (by decide +kernel))) rfl
set_option maxRecDepth 20000 in
theorem mw_502 : Cond.selects "BlowerBreath" yX4_kinds yX4_kinds ∈ bw_tbl := bw_tg (bw_t3 (List.mem_of_getElem? (i := 22) (by decide +kernel))) rfl
set_option maxRecDepth 20000 in
theorem mw_503 : Cond.code yX4_kinds cX4_kinds 6 (some FieldType.int) ∈ bw_tbl := bw_tg (bw_t3 (List.mem_of_getElem? (i := 23) rfl)) rfl
set_option maxRecDepth 20000 in
theorem mw_504 : Cond.methodLink "BlowerBreathLaw" 142 yX4_sets ∈ bw_tbl := bw_tg (bw_t3 (List.mem_of_getElem? (i := 24) (by decide +kernel))) rfl
set_option maxRecDepth 20000 in
theorem mw_505 : Cond.instanceMethod yX4_sets ∈ bw_tbl := bw_tg (bw_t3 (List.mem_of_getElem? (i := 25) (by decide +kernel))) rfl
set_option maxRecDepth 20000 in
theorem mw_506 : Cond.selects "BlowerBreath" yX4_sets yX4_sets ∈ bw_tbl := bw_tg (bw_t3 (List.mem_of_getElem? (i := 26) (by decide +kernel))) rfl
set_option maxRecDepth 20000 in
theorem mw_507 : Cond.code yX4_sets cX4_sets 6 (some FieldType.int) ∈ bw_tbl := bw_tg (bw_t3 (List.mem_of_getElem? (i := 27) rfl)) rfl
set_option maxRecDepth 20000 in
theorem mw_508 : Cond.methodLink "BlowerBreath" 240 yX4_refusedSum ∈ bw_tbl := bw_tg (bw_t3 (List.mem_of_getElem? (i := 28) (by decide +kernel))) rfl
set_option maxRecDepth 20000 in
theorem mw_510 : Cond.instanceMethod yX4_refusedSum ∈ bw_tbl := bw_tg (bw_t3 (List.mem_of_getElem? (i := 30) (by decide +kernel))) rfl
set_option maxRecDepth 20000 in
theorem mw_511 : Cond.code yX4_refusedSum cX4_refusedSum 2 (some FieldType.int) ∈ bw_tbl := bw_tg (bw_t3 (List.mem_of_getElem? (i := 31) rfl)) rfl
set_option maxRecDepth 20000 in
theorem mw_512 : Cond.methodLink "BlowerBreath" 243 yX3_wantTogether ∈ bw_tbl := bw_tg (bw_t3 (List.mem_of_getElem? (i := 32) (by decide +kernel))) rfl
set_option maxRecDepth 20000 in
theorem mw_513 : Cond.instanceMethod yX3_wantTogether ∈ bw_tbl := bw_tg (bw_t3 (List.mem_of_getElem? (i := 33) (by decide +kernel))) rfl
set_option maxRecDepth 20000 in
theorem mw_514 : Cond.selects "BlowerBreath$Town" yX3_wantTogether yX3_wantTogether ∈ bw_tbl := bw_tg (bw_t3 (List.mem_of_getElem? (i := 34) (by decide +kernel))) rfl
set_option maxRecDepth 20000 in
theorem mw_515 : Cond.code yX3_wantTogether cX3_wantTogether 4 (some FieldType.int) ∈ bw_tbl := bw_tg (bw_t3 (List.mem_of_getElem? (i := 35) rfl)) rfl
set_option maxRecDepth 20000 in
theorem mw_516 : Cond.methodLink "BlowerBreath$Town" 114 yX3_wantNext ∈ bw_tbl := bw_tg (bw_t3 (List.mem_of_getElem? (i := 36) (by decide +kernel))) rfl
set_option maxRecDepth 20000 in
theorem mw_517 : Cond.methodLink "BlowerBreathLaw" 146 yX4_sure ∈ bw_tbl := bw_tg (bw_t3 (List.mem_of_getElem? (i := 37) (by decide +kernel))) rfl
set_option maxRecDepth 20000 in
theorem mw_518 : Cond.instanceMethod yX4_sure ∈ bw_tbl := bw_tg (bw_t3 (List.mem_of_getElem? (i := 38) (by decide +kernel))) rfl
set_option maxRecDepth 20000 in
theorem mw_519 : Cond.selects "BlowerBreath" yX4_sure yX4_sure ∈ bw_tbl := bw_tg (bw_t3 (List.mem_of_getElem? (i := 39) (by decide +kernel))) rfl
set_option maxRecDepth 20000 in
theorem mw_520 : Cond.code yX4_sure cX4_sure 7 (some FieldType.int) ∈ bw_tbl := bw_tg (bw_t3 (List.mem_of_getElem? (i := 40) rfl)) rfl
set_option maxRecDepth 20000 in
theorem mw_521 : Cond.methodLink "BlowerBreathLaw" 150 yX4_duel ∈ bw_tbl := bw_tg (bw_t3 (List.mem_of_getElem? (i := 41) (by decide +kernel))) rfl
set_option maxRecDepth 20000 in
theorem mw_522 : Cond.instanceMethod yX4_duel ∈ bw_tbl := bw_tg (bw_t3 (List.mem_of_getElem? (i := 42) (by decide +kernel))) rfl
set_option maxRecDepth 20000 in
theorem mw_523 : Cond.selects "BlowerBreath" yX4_duel yX4_duel ∈ bw_tbl := bw_tg (bw_t3 (List.mem_of_getElem? (i := 43) (by decide +kernel))) rfl
set_option maxRecDepth 20000 in
theorem mw_524 : Cond.code yX4_duel cX4_duel 5 (some FieldType.int) ∈ bw_tbl := bw_tg (bw_t3 (List.mem_of_getElem? (i := 44) rfl)) rfl
set_option maxRecDepth 20000 in
theorem mw_525 : Cond.methodLink "BlowerBreath" 246 yX4_evenBeyondUneven ∈ bw_tbl := bw_tg (bw_t3 (List.mem_of_getElem? (i := 45) (by decide +kernel))) rfl
set_option maxRecDepth 20000 in
theorem mw_526 : Cond.static yX4_evenBeyondUneven ∈ bw_tbl := bw_tg (bw_t3 (List.mem_of_getElem? (i := 46) (by decide +kernel))) rfl
set_option maxRecDepth 20000 in
theorem mw_527 : Cond.code yX4_evenBeyondUneven cX4_evenBeyondUneven 1 (some FieldType.int) ∈ bw_tbl := bw_tg (bw_t3 (List.mem_of_getElem? (i := 47) rfl)) rfl
set_option maxRecDepth 20000 in
theorem mw_528 : Cond.methodLink "BlowerBreath" 249 yX4_bestGain ∈ bw_tbl := bw_tg (bw_t3 (List.mem_of_getElem? (i := 48) (by decide +kernel))) rfl
set_option maxRecDepth 20000 in
theorem mw_530 : Cond.instanceMethod yX4_bestGain ∈ bw_tbl := bw_tg (bw_t3 (List.mem_of_getElem? (i := 50) (by decide +kernel))) rfl
set_option maxRecDepth 20000 in
theorem mw_531 : Cond.code yX4_bestGain cX4_bestGain 6 (some FieldType.int) ∈ bw_tbl := bw_tg (bw_t3 (List.mem_of_getElem? (i := 51) rfl)) rfl
set_option maxRecDepth 20000 in
theorem mw_532 : Cond.methodLink "BlowerBreath" 304 yJ9_min_7cf53 ∈ bw_tbl := bw_tg (bw_t3 (List.mem_of_getElem? (i := 52) (by decide +kernel))) rfl
set_option maxRecDepth 20000 in
theorem mw_533 : Cond.methodLink "BlowerBreathLaw" 154 yX4_odds ∈ bw_tbl := bw_tg (bw_t3 (List.mem_of_getElem? (i := 53) (by decide +kernel))) rfl
set_option maxRecDepth 20000 in
theorem mw_534 : Cond.instanceMethod yX4_odds ∈ bw_tbl := bw_tg (bw_t3 (List.mem_of_getElem? (i := 54) (by decide +kernel))) rfl
set_option maxRecDepth 20000 in
theorem mw_535 : Cond.selects "BlowerBreath" yX4_odds yX4_odds ∈ bw_tbl := bw_tg (bw_t3 (List.mem_of_getElem? (i := 55) (by decide +kernel))) rfl
set_option maxRecDepth 20000 in
theorem mw_536 : Cond.code yX4_odds cX4_odds 3 (some FieldType.int) ∈ bw_tbl := bw_tg (bw_t3 (List.mem_of_getElem? (i := 56) rfl)) rfl
set_option maxRecDepth 20000 in
theorem mw_537 : Cond.methodLink "BlowerBreath" 253 yX4_tellMeanOfNextHour ∈ bw_tbl := bw_tg (bw_t3 (List.mem_of_getElem? (i := 57) (by decide +kernel))) rfl
set_option maxRecDepth 20000 in
theorem mw_539 : Cond.instanceMethod yX4_tellMeanOfNextHour ∈ bw_tbl := bw_tg (bw_t3 (List.mem_of_getElem? (i := 59) (by decide +kernel))) rfl
set_option maxRecDepth 20000 in
theorem mw_540 : Cond.code yX4_tellMeanOfNextHour cX4_tellMeanOfNextHour 13 none ∈ bw_tbl := bw_tg (bw_t3 (List.mem_of_getElem? (i := 60) rfl)) rfl
set_option maxRecDepth 20000 in
theorem mw_541 : Cond.methodLink "BlowerBreath" 307 yX4_power ∈ bw_tbl := bw_tg (bw_t3 (List.mem_of_getElem? (i := 61) (by decide +kernel))) rfl
set_option maxRecDepth 20000 in
theorem mw_542 : Cond.static yX4_power ∈ bw_tbl := bw_tg (bw_t3 (List.mem_of_getElem? (i := 62) (by decide +kernel))) rfl
set_option maxRecDepth 20000 in
theorem mw_543 : Cond.code yX4_power cX4_power 6 (some FieldType.long) ∈ bw_tbl := bw_tg (bw_t3 (List.mem_of_getElem? (i := 63) rfl)) rfl
set_option maxRecDepth 20000 in
theorem mw_544 : Cond.methodLink "BlowerBreathLaw" 158 yX4_mid ∈ bw_tbl := bw_tg (bw_t3 (List.mem_of_getElem? (i := 64) (by decide +kernel))) rfl
set_option maxRecDepth 20000 in
theorem mw_545 : Cond.instanceMethod yX4_mid ∈ bw_tbl := bw_tg (bw_t3 (List.mem_of_getElem? (i := 65) (by decide +kernel))) rfl
set_option maxRecDepth 20000 in
theorem mw_546 : Cond.selects "BlowerBreath" yX4_mid yX4_mid ∈ bw_tbl := bw_tg (bw_t3 (List.mem_of_getElem? (i := 66) (by decide +kernel))) rfl
set_option maxRecDepth 20000 in
theorem mw_547 : Cond.code yX4_mid cX4_mid 2 (some FieldType.int) ∈ bw_tbl := bw_tg (bw_t3 (List.mem_of_getElem? (i := 67) rfl)) rfl
set_option maxRecDepth 20000 in
theorem mw_548 : Cond.methodLink "BlowerBreathLaw" 162 yX4_lots ∈ bw_tbl := bw_tg (bw_t3 (List.mem_of_getElem? (i := 68) (by decide +kernel))) rfl
set_option maxRecDepth 20000 in
theorem mw_549 : Cond.instanceMethod yX4_lots ∈ bw_tbl := bw_tg (bw_t3 (List.mem_of_getElem? (i := 69) (by decide +kernel))) rfl
set_option maxRecDepth 20000 in
theorem mw_550 : Cond.selects "BlowerBreath" yX4_lots yX4_lots ∈ bw_tbl := bw_tg (bw_t3 (List.mem_of_getElem? (i := 70) (by decide +kernel))) rfl
set_option maxRecDepth 20000 in
theorem mw_551 : Cond.code yX4_lots cX4_lots 6 (some FieldType.int) ∈ bw_tbl := bw_tg (bw_t3 (List.mem_of_getElem? (i := 71) rfl)) rfl
set_option maxRecDepth 20000 in
theorem mw_552 : Cond.constantLong "BlowerBreath" 257 2147483647 ∈ bw_tbl := bw_tg (bw_t3 (List.mem_of_getElem? (i := 72) (by decide +kernel))) rfl
set_option maxRecDepth 20000 in
theorem mw_553 : Cond.constantLong "BlowerBreath" 259 48271 ∈ bw_tbl := bw_tg (bw_t3 (List.mem_of_getElem? (i := 73) (by decide +kernel))) rfl
set_option maxRecDepth 20000 in
theorem mw_554 : Cond.methodLink "BlowerBreath" 261 yX4_performLot ∈ bw_tbl := bw_tg (bw_t3 (List.mem_of_getElem? (i := 74) (by decide +kernel))) rfl
set_option maxRecDepth 20000 in
theorem mw_556 : Cond.instanceMethod yX4_performLot ∈ bw_tbl := bw_tg (bw_t3 (List.mem_of_getElem? (i := 76) (by decide +kernel))) rfl
set_option maxRecDepth 20000 in
theorem mw_557 : Cond.code yX4_performLot cX4_performLot 3 none ∈ bw_tbl := bw_tg (bw_t3 (List.mem_of_getElem? (i := 77) rfl)) rfl
set_option maxRecDepth 20000 in
theorem mw_558 : Cond.methodLink "BlowerBreathLaw" 166 yX4_asked ∈ bw_tbl := bw_tg (bw_t3 (List.mem_of_getElem? (i := 78) (by decide +kernel))) rfl
set_option maxRecDepth 20000 in
theorem mw_559 : Cond.instanceMethod yX4_asked ∈ bw_tbl := bw_tg (bw_t3 (List.mem_of_getElem? (i := 79) (by decide +kernel))) rfl
set_option maxRecDepth 20000 in
theorem mw_560 : Cond.selects "BlowerBreath" yX4_asked yX4_asked ∈ bw_tbl := bw_tg (bw_t3 (List.mem_of_getElem? (i := 80) (by decide +kernel))) rfl
set_option maxRecDepth 20000 in
theorem mw_561 : Cond.code yX4_asked cX4_asked 1 (some FieldType.int) ∈ bw_tbl := bw_tg (bw_t3 (List.mem_of_getElem? (i := 81) rfl)) rfl
set_option maxRecDepth 20000 in
theorem mw_562 : Cond.methodLink "BlowerBreathLaw" 170 yX4_upper ∈ bw_tbl := bw_tg (bw_t3 (List.mem_of_getElem? (i := 82) (by decide +kernel))) rfl
set_option maxRecDepth 20000 in
theorem mw_563 : Cond.instanceMethod yX4_upper ∈ bw_tbl := bw_tg (bw_t3 (List.mem_of_getElem? (i := 83) (by decide +kernel))) rfl
set_option maxRecDepth 20000 in
theorem mw_564 : Cond.selects "BlowerBreath" yX4_upper yX4_upper ∈ bw_tbl := bw_tg (bw_t3 (List.mem_of_getElem? (i := 84) (by decide +kernel))) rfl
set_option maxRecDepth 20000 in
theorem mw_565 : Cond.code yX4_upper cX4_upper 1 (some FieldType.long) ∈ bw_tbl := bw_tg (bw_t3 (List.mem_of_getElem? (i := 85) rfl)) rfl
set_option maxRecDepth 20000 in
theorem mw_566 : Cond.methodLink "BlowerBreathLaw" 175 yX4_lower ∈ bw_tbl := bw_tg (bw_t3 (List.mem_of_getElem? (i := 86) (by decide +kernel))) rfl
set_option maxRecDepth 20000 in
theorem mw_567 : Cond.instanceMethod yX4_lower ∈ bw_tbl := bw_tg (bw_t3 (List.mem_of_getElem? (i := 87) (by decide +kernel))) rfl
set_option maxRecDepth 20000 in
theorem mw_568 : Cond.selects "BlowerBreath" yX4_lower yX4_lower ∈ bw_tbl := bw_tg (bw_t3 (List.mem_of_getElem? (i := 88) (by decide +kernel))) rfl
set_option maxRecDepth 20000 in
theorem mw_569 : Cond.code yX4_lower cX4_lower 1 (some FieldType.long) ∈ bw_tbl := bw_tg (bw_t3 (List.mem_of_getElem? (i := 89) rfl)) rfl
set_option maxRecDepth 20000 in
theorem mw_570 : Cond.methodLink "BlowerBreathLaw" 179 yX4_count ∈ bw_tbl := bw_tg (bw_t3 (List.mem_of_getElem? (i := 90) (by decide +kernel))) rfl
set_option maxRecDepth 20000 in
theorem mw_571 : Cond.instanceMethod yX4_count ∈ bw_tbl := bw_tg (bw_t3 (List.mem_of_getElem? (i := 91) (by decide +kernel))) rfl
set_option maxRecDepth 20000 in
theorem mw_572 : Cond.selects "BlowerBreath" yX4_count yX4_count ∈ bw_tbl := bw_tg (bw_t3 (List.mem_of_getElem? (i := 92) (by decide +kernel))) rfl
set_option maxRecDepth 20000 in
theorem mw_573 : Cond.code yX4_count cX4_count 2 (some FieldType.int) ∈ bw_tbl := bw_tg (bw_t3 (List.mem_of_getElem? (i := 93) rfl)) rfl
set_option maxRecDepth 20000 in
theorem mw_574 : Cond.methodLink "BlowerBreath" 268 yX3_sumOf ∈ bw_tbl := bw_tg (bw_t3 (List.mem_of_getElem? (i := 94) (by decide +kernel))) rfl
set_option maxRecDepth 20000 in
theorem mw_575 : Cond.instanceMethod yX3_sumOf ∈ bw_tbl := bw_tg (bw_t3 (List.mem_of_getElem? (i := 95) (by decide +kernel))) rfl
set_option maxRecDepth 20000 in
theorem mw_576 : Cond.selects "BlowerBreath$Town" yX3_sumOf yX3_sumOf ∈ bw_tbl := bw_tg (bw_t3 (List.mem_of_getElem? (i := 96) (by decide +kernel))) rfl
set_option maxRecDepth 20000 in
theorem mw_577 : Cond.code yX3_sumOf cX3_sumOf 4 (some FieldType.int) ∈ bw_tbl := bw_tg (bw_t3 (List.mem_of_getElem? (i := 97) rfl)) rfl
set_option maxRecDepth 20000 in
theorem mw_578 : Cond.methodLink "BlowerBreath" 272 yX3_pipesOf ∈ bw_tbl := bw_tg (bw_t3 (List.mem_of_getElem? (i := 98) (by decide +kernel))) rfl
set_option maxRecDepth 20000 in
theorem mw_579 : Cond.instanceMethod yX3_pipesOf ∈ bw_tbl := bw_tg (bw_t3 (List.mem_of_getElem? (i := 99) (by decide +kernel))) rfl
set_option maxRecDepth 20000 in
theorem mw_580 : Cond.selects "BlowerBreath$Town" yX3_pipesOf yX3_pipesOf ∈ bw_tbl := bw_tg (bw_t3 (List.mem_of_getElem? (i := 100) (by decide +kernel))) rfl
set_option maxRecDepth 20000 in
theorem mw_581 : Cond.code yX3_pipesOf cX3_pipesOf 4 (some FieldType.int) ∈ bw_tbl := bw_tg (bw_t3 (List.mem_of_getElem? (i := 101) rfl)) rfl
set_option maxRecDepth 20000 in
theorem mw_582 : Cond.methodLink "BlowerBreath$Town" 117 yX1_isOf ∈ bw_tbl := bw_tg (bw_t3 (List.mem_of_getElem? (i := 102) (by decide +kernel))) rfl
set_option maxRecDepth 20000 in
theorem mw_583 : Cond.methodLink "BlowerBreath" 275 yX4_thereOf ∈ bw_tbl := bw_tg (bw_t3 (List.mem_of_getElem? (i := 103) (by decide +kernel))) rfl
set_option maxRecDepth 20000 in
theorem mw_584 : Cond.static yX4_thereOf ∈ bw_tbl := bw_tg (bw_t3 (List.mem_of_getElem? (i := 104) (by decide +kernel))) rfl
set_option maxRecDepth 20000 in
theorem mw_585 : Cond.code yX4_thereOf cX4_thereOf 6 (some FieldType.int) ∈ bw_tbl := bw_tg (bw_t3 (List.mem_of_getElem? (i := 105) rfl)) rfl
set_option maxRecDepth 20000 in
theorem mw_586 : Cond.methodLink "BlowerBreath" 278 yX4_keptTowns ∈ bw_tbl := bw_tg (bw_t3 (List.mem_of_getElem? (i := 106) (by decide +kernel))) rfl
set_option maxRecDepth 20000 in
theorem mw_588 : Cond.instanceMethod yX4_keptTowns ∈ bw_tbl := bw_tg (bw_t3 (List.mem_of_getElem? (i := 108) (by decide +kernel))) rfl
set_option maxRecDepth 20000 in
theorem mw_589 : Cond.code yX4_keptTowns cX4_keptTowns 3 (some FieldType.int) ∈ bw_tbl := bw_tg (bw_t3 (List.mem_of_getElem? (i := 109) rfl)) rfl
set_option maxRecDepth 20000 in
theorem mw_590 : Cond.methodLink "BlowerBreathLaw" 183 yX4_finding ∈ bw_tbl := bw_tg (bw_t3 (List.mem_of_getElem? (i := 110) (by decide +kernel))) rfl
set_option maxRecDepth 20000 in
theorem mw_591 : Cond.instanceMethod yX4_finding ∈ bw_tbl := bw_tg (bw_t3 (List.mem_of_getElem? (i := 111) (by decide +kernel))) rfl
set_option maxRecDepth 20000 in
theorem mw_592 : Cond.selects "BlowerBreath" yX4_finding yX4_finding ∈ bw_tbl := bw_tg (bw_t3 (List.mem_of_getElem? (i := 112) (by decide +kernel))) rfl
set_option maxRecDepth 20000 in
theorem mw_593 : Cond.code yX4_finding cX4_finding 1 (some FieldType.int) ∈ bw_tbl := bw_tg (bw_t3 (List.mem_of_getElem? (i := 113) rfl)) rfl
set_option maxRecDepth 20000 in
theorem mw_594 : Cond.methodLink "BlowerBreathLaw" 187 yX4_findings ∈ bw_tbl := bw_tg (bw_t3 (List.mem_of_getElem? (i := 114) (by decide +kernel))) rfl
set_option maxRecDepth 20000 in
theorem mw_595 : Cond.instanceMethod yX4_findings ∈ bw_tbl := bw_tg (bw_t3 (List.mem_of_getElem? (i := 115) (by decide +kernel))) rfl
set_option maxRecDepth 20000 in
theorem mw_596 : Cond.selects "BlowerBreath" yX4_findings yX4_findings ∈ bw_tbl := bw_tg (bw_t3 (List.mem_of_getElem? (i := 116) (by decide +kernel))) rfl
set_option maxRecDepth 20000 in
theorem mw_597 : Cond.code yX4_findings cX4_findings 2 (some FieldType.int) ∈ bw_tbl := bw_tg (bw_t3 (List.mem_of_getElem? (i := 117) rfl)) rfl
set_option maxRecDepth 20000 in
theorem mw_598 : Cond.methodLink "BlowerBreathLaw" 191 yX4_digest ∈ bw_tbl := bw_tg (bw_t3 (List.mem_of_getElem? (i := 118) (by decide +kernel))) rfl
set_option maxRecDepth 20000 in
theorem mw_599 : Cond.instanceMethod yX4_digest ∈ bw_tbl := bw_tg (bw_t3 (List.mem_of_getElem? (i := 119) (by decide +kernel))) rfl
set_option maxRecDepth 20000 in
theorem mw_600 : Cond.selects "BlowerBreath" yX4_digest yX4_digest ∈ bw_tbl := bw_tg (bw_t3 (List.mem_of_getElem? (i := 120) (by decide +kernel))) rfl
set_option maxRecDepth 20000 in
theorem mw_601 : Cond.code yX4_digest cX4_digest 5 (some FieldType.long) ∈ bw_tbl := bw_tg (bw_t3 (List.mem_of_getElem? (i := 121) rfl)) rfl
set_option maxRecDepth 20000 in
theorem mw_602 : Cond.constantLong "BlowerBreath" 281 17 ∈ bw_tbl := bw_tg (bw_t3 (List.mem_of_getElem? (i := 122) (by decide +kernel))) rfl
set_option maxRecDepth 20000 in
theorem mw_603 : Cond.constantLong "BlowerBreath" 283 31 ∈ bw_tbl := bw_tg (bw_t3 (List.mem_of_getElem? (i := 123) (by decide +kernel))) rfl
set_option maxRecDepth 20000 in
theorem mw_604 : Cond.methodLink "BlowerBreath" 285 yX4_count ∈ bw_tbl := bw_tg (bw_t3 (List.mem_of_getElem? (i := 124) (by decide +kernel))) rfl
set_option maxRecDepth 20000 in
theorem mw_605 : Cond.classLink "BlowerBreathLaw" 10 "BlowerBreathModel" ∈ bw_tbl := bw_tg (bw_t3 (List.mem_of_getElem? (i := 125) (by decide +kernel))) rfl
set_option maxRecDepth 20000 in
theorem mw_606 : Cond.instantiable "BlowerBreathModel" 31 ∈ bw_tbl := bw_tg (bw_t3 (List.mem_of_getElem? (i := 126) (by decide +kernel))) rfl
set_option maxRecDepth 20000 in
theorem mw_607 : Cond.methodLink "BlowerBreathLaw" 12 yX5_init ∈ bw_tbl := bw_tg (bw_t3 (List.mem_of_getElem? (i := 127) (by decide +kernel))) rfl
set_option maxRecDepth 20000 in
theorem mw_608 : Cond.instanceMethod yX5_init ∈ bw_tbl := bw_tg (bw_t3 (List.mem_of_getElem? (i := 128) (by decide +kernel))) rfl
set_option maxRecDepth 20000 in
theorem mw_609 : Cond.code yX5_init cX5_init 2 none ∈ bw_tbl := bw_tg (bw_t3 (List.mem_of_getElem? (i := 129) rfl)) rfl
set_option maxRecDepth 20000 in
theorem mw_610 : Cond.methodLink "BlowerBreathModel" 1 objectInit ∈ bw_tbl := bw_tg (bw_t3 (List.mem_of_getElem? (i := 130) (by decide +kernel))) rfl
set_option maxRecDepth 20000 in
theorem mw_611 : Cond.methodLink "BlowerBreathModel" 68 yX5_forgets ∈ bw_tbl := bw_tg (bw_t3 (List.mem_of_getElem? (i := 131) (by decide +kernel))) rfl
set_option maxRecDepth 20000 in
theorem mw_613 : Cond.instanceMethod yX5_forgets ∈ bw_tbl := bw_tg (bw_t3 (List.mem_of_getElem? (i := 133) (by decide +kernel))) rfl
set_option maxRecDepth 20000 in
theorem mw_614 : Cond.code yX5_forgets cX5_forgets 2 none ∈ bw_tbl := bw_tg (bw_t3 (List.mem_of_getElem? (i := 134) rfl)) rfl
set_option maxRecDepth 20000 in
theorem mw_615 : Cond.fieldLink "BlowerBreathModel" 7 "BlowerBreathModel" "rows" "[I" ∈ bw_tbl := bw_tg (bw_t3 (List.mem_of_getElem? (i := 135) (by decide +kernel))) rfl
set_option maxRecDepth 20000 in
theorem mw_616 : Cond.fieldLink "BlowerBreathModel" 13 "BlowerBreathModel" "rowSizes" "[I" ∈ bw_tbl := bw_tg (bw_t3 (List.mem_of_getElem? (i := 136) (by decide +kernel))) rfl
set_option maxRecDepth 20000 in
theorem mw_617 : Cond.fieldLink "BlowerBreathModel" 16 "BlowerBreathModel" "texts" "[I" ∈ bw_tbl := bw_tg (bw_t3 (List.mem_of_getElem? (i := 137) (by decide +kernel))) rfl
set_option maxRecDepth 20000 in
theorem mw_618 : Cond.fieldLink "BlowerBreathModel" 19 "BlowerBreathModel" "textSizes" "[I" ∈ bw_tbl := bw_tg (bw_t3 (List.mem_of_getElem? (i := 138) (by decide +kernel))) rfl
set_option maxRecDepth 20000 in
theorem mw_619 : Cond.fieldLink "BlowerBreathModel" 75 "BlowerBreathModel" "asked" "I" ∈ bw_tbl := bw_tg (bw_t3 (List.mem_of_getElem? (i := 139) (by decide +kernel))) rfl
set_option maxRecDepth 20000 in
theorem mw_620 : Cond.fieldLink "BlowerBreathModel" 232 "BlowerBreathModel" "upper" "J" ∈ bw_tbl := bw_tg (bw_t3 (List.mem_of_getElem? (i := 140) (by decide +kernel))) rfl
set_option maxRecDepth 20000 in
theorem mw_621 : Cond.fieldLink "BlowerBreathModel" 22 "BlowerBreathModel" "lower" "J" ∈ bw_tbl := bw_tg (bw_t3 (List.mem_of_getElem? (i := 141) (by decide +kernel))) rfl
set_option maxRecDepth 20000 in
theorem mw_622 : Cond.fieldLink "BlowerBreathModel" 71 "BlowerBreathModel" "finding" "I" ∈ bw_tbl := bw_tg (bw_t3 (List.mem_of_getElem? (i := 142) (by decide +kernel))) rfl
set_option maxRecDepth 20000 in
theorem mw_623 : Cond.fieldLink "BlowerBreathModel" 26 "BlowerBreathModel" "findings" "[I" ∈ bw_tbl := bw_tg (bw_t3 (List.mem_of_getElem? (i := 143) (by decide +kernel))) rfl
set_option maxRecDepth 20000 in
theorem mw_624 : Cond.fieldLink "BlowerBreathModel" 148 "BlowerBreathModel" "pipes" "I" ∈ bw_tbl := bw_tg (bw_t3 (List.mem_of_getElem? (i := 144) (by decide +kernel))) rfl
set_option maxRecDepth 20000 in
theorem mw_625 : Cond.fieldLink "BlowerBreathModel" 29 "BlowerBreathModel" "kinds" "[I" ∈ bw_tbl := bw_tg (bw_t3 (List.mem_of_getElem? (i := 145) (by decide +kernel))) rfl
set_option maxRecDepth 20000 in
theorem mw_626 : Cond.fieldLink "BlowerBreathModel" 32 "BlowerBreathModel" "froms" "[I" ∈ bw_tbl := bw_tg (bw_t3 (List.mem_of_getElem? (i := 146) (by decide +kernel))) rfl
set_option maxRecDepth 20000 in
theorem mw_627 : Cond.fieldLink "BlowerBreathModel" 35 "BlowerBreathModel" "needs" "[I" ∈ bw_tbl := bw_tg (bw_t3 (List.mem_of_getElem? (i := 147) (by decide +kernel))) rfl
set_option maxRecDepth 20000 in
theorem mw_628 : Cond.fieldLink "BlowerBreathModel" 38 "BlowerBreathModel" "now" "[I" ∈ bw_tbl := bw_tg (bw_t3 (List.mem_of_getElem? (i := 148) (by decide +kernel))) rfl
set_option maxRecDepth 20000 in
theorem mw_629 : Cond.fieldLink "BlowerBreathModel" 41 "BlowerBreathModel" "aside" "[I" ∈ bw_tbl := bw_tg (bw_t3 (List.mem_of_getElem? (i := 149) (by decide +kernel))) rfl
set_option maxRecDepth 20000 in
theorem mw_630 : Cond.fieldLink "BlowerBreathModel" 44 "BlowerBreathModel" "ahead" "[I" ∈ bw_tbl := bw_tg (bw_t3 (List.mem_of_getElem? (i := 150) (by decide +kernel))) rfl
set_option maxRecDepth 20000 in
theorem mw_631 : Cond.fieldLink "BlowerBreathModel" 100 "BlowerBreathModel" "deeds" "I" ∈ bw_tbl := bw_tg (bw_t3 (List.mem_of_getElem? (i := 151) (by decide +kernel))) rfl
set_option maxRecDepth 20000 in
theorem mw_632 : Cond.fieldLink "BlowerBreathModel" 47 "BlowerBreathModel" "kept" "[I" ∈ bw_tbl := bw_tg (bw_t3 (List.mem_of_getElem? (i := 152) (by decide +kernel))) rfl
set_option maxRecDepth 20000 in
theorem mw_633 : Cond.fieldLink "BlowerBreathModel" 103 "BlowerBreathModel" "at" "I" ∈ bw_tbl := bw_tg (bw_t3 (List.mem_of_getElem? (i := 153) (by decide +kernel))) rfl
set_option maxRecDepth 20000 in
theorem mw_634 : Cond.fieldLink "BlowerBreathModel" 106 "BlowerBreathModel" "size" "I" ∈ bw_tbl := bw_tg (bw_t3 (List.mem_of_getElem? (i := 154) (by decide +kernel))) rfl
set_option maxRecDepth 20000 in
theorem mw_635 : Cond.fieldLink "BlowerBreathModel" 109 "BlowerBreathModel" "which" "I" ∈ bw_tbl := bw_tg (bw_t3 (List.mem_of_getElem? (i := 155) (by decide +kernel))) rfl
set_option maxRecDepth 20000 in
theorem mw_636 : Cond.fieldLink "BlowerBreathModel" 116 "BlowerBreathModel" "value" "I" ∈ bw_tbl := bw_tg (bw_t3 (List.mem_of_getElem? (i := 156) (by decide +kernel))) rfl
set_option maxRecDepth 20000 in
theorem mw_637 : Cond.fieldLink "BlowerBreathModel" 126 "BlowerBreathModel" "readAir" "I" ∈ bw_tbl := bw_tg (bw_t3 (List.mem_of_getElem? (i := 157) (by decide +kernel))) rfl
set_option maxRecDepth 20000 in
theorem mw_638 : Cond.fieldLink "BlowerBreathModel" 129 "BlowerBreathModel" "readStroke" "I" ∈ bw_tbl := bw_tg (bw_t3 (List.mem_of_getElem? (i := 158) (by decide +kernel))) rfl
set_option maxRecDepth 20000 in
theorem mw_639 : Cond.fieldLink "BlowerBreathModel" 135 "BlowerBreathModel" "readPipes" "I" ∈ bw_tbl := bw_tg (bw_t3 (List.mem_of_getElem? (i := 159) (by decide +kernel))) rfl
set_option maxRecDepth 20000 in
theorem mw_640 : Cond.fieldLink "BlowerBreathModel" 50 "BlowerBreathModel" "readKinds" "[I" ∈ bw_tbl := bw_tg (bw_t3 (List.mem_of_getElem? (i := 160) (by decide +kernel))) rfl
set_option maxRecDepth 20000 in
theorem mw_641 : Cond.fieldLink "BlowerBreathModel" 53 "BlowerBreathModel" "readFroms" "[I" ∈ bw_tbl := bw_tg (bw_t3 (List.mem_of_getElem? (i := 161) (by decide +kernel))) rfl
set_option maxRecDepth 20000 in
theorem mw_642 : Cond.fieldLink "BlowerBreathModel" 56 "BlowerBreathModel" "readNeeds" "[I" ∈ bw_tbl := bw_tg (bw_t3 (List.mem_of_getElem? (i := 162) (by decide +kernel))) rfl
set_option maxRecDepth 20000 in
theorem mw_643 : Cond.fieldLink "BlowerBreathModel" 59 "BlowerBreathModel" "says" "[I" ∈ bw_tbl := bw_tg (bw_t3 (List.mem_of_getElem? (i := 163) (by decide +kernel))) rfl
set_option maxRecDepth 20000 in
theorem mw_644 : Cond.fieldLink "BlowerBreathModel" 62 "BlowerBreathModel" "worth" "[I" ∈ bw_tbl := bw_tg (bw_t3 (List.mem_of_getElem? (i := 164) (by decide +kernel))) rfl
set_option maxRecDepth 20000 in
theorem mw_645 : Cond.fieldLink "BlowerBreathModel" 65 "BlowerBreathModel" "then" "[I" ∈ bw_tbl := bw_tg (bw_t3 (List.mem_of_getElem? (i := 165) (by decide +kernel))) rfl
set_option maxRecDepth 20000 in
theorem mw_646 : Cond.laysFinal "BlowerBreathModel" "BlowerBreathModel" "rows" "[I" ∈ bw_tbl := bw_tg (bw_t3 (List.mem_of_getElem? (i := 166) (by decide +kernel))) rfl
set_option maxRecDepth 20000 in
theorem mw_648 : Cond.laysFinal "BlowerBreathModel" "BlowerBreathModel" "rowSizes" "[I" ∈ bw_tbl := bw_tg (bw_t3 (List.mem_of_getElem? (i := 168) (by decide +kernel))) rfl
set_option maxRecDepth 20000 in
theorem mw_650 : Cond.laysFinal "BlowerBreathModel" "BlowerBreathModel" "texts" "[I" ∈ bw_tbl := bw_tg (bw_t3 (List.mem_of_getElem? (i := 170) (by decide +kernel))) rfl
set_option maxRecDepth 20000 in
theorem mw_652 : Cond.laysFinal "BlowerBreathModel" "BlowerBreathModel" "textSizes" "[I" ∈ bw_tbl := bw_tg (bw_t3 (List.mem_of_getElem? (i := 172) (by decide +kernel))) rfl
set_option maxRecDepth 20000 in
theorem mw_654 : Cond.lays "BlowerBreathModel" "BlowerBreathModel" "asked" "I" ∈ bw_tbl := bw_tg (bw_t3 (List.mem_of_getElem? (i := 174) (by decide +kernel))) rfl
set_option maxRecDepth 20000 in
theorem mw_656 : Cond.lays "BlowerBreathModel" "BlowerBreathModel" "upper" "J" ∈ bw_tbl := bw_tg (bw_t3 (List.mem_of_getElem? (i := 176) (by decide +kernel))) rfl
set_option maxRecDepth 20000 in
theorem mw_658 : Cond.lays "BlowerBreathModel" "BlowerBreathModel" "lower" "J" ∈ bw_tbl := bw_tg (bw_t3 (List.mem_of_getElem? (i := 178) (by decide +kernel))) rfl
set_option maxRecDepth 20000 in
theorem mw_660 : Cond.lays "BlowerBreathModel" "BlowerBreathModel" "finding" "I" ∈ bw_tbl := bw_tg (bw_t3 (List.mem_of_getElem? (i := 180) (by decide +kernel))) rfl
set_option maxRecDepth 20000 in
theorem mw_662 : Cond.laysFinal "BlowerBreathModel" "BlowerBreathModel" "findings" "[I" ∈ bw_tbl := bw_tg (bw_t3 (List.mem_of_getElem? (i := 182) (by decide +kernel))) rfl
set_option maxRecDepth 20000 in
theorem mw_664 : Cond.lays "BlowerBreathModel" "BlowerBreathModel" "pipes" "I" ∈ bw_tbl := bw_tg (bw_t3 (List.mem_of_getElem? (i := 184) (by decide +kernel))) rfl
set_option maxRecDepth 20000 in
theorem mw_666 : Cond.laysFinal "BlowerBreathModel" "BlowerBreathModel" "kinds" "[I" ∈ bw_tbl := bw_tg (bw_t3 (List.mem_of_getElem? (i := 186) (by decide +kernel))) rfl
set_option maxRecDepth 20000 in
theorem mw_668 : Cond.laysFinal "BlowerBreathModel" "BlowerBreathModel" "froms" "[I" ∈ bw_tbl := bw_tg (bw_t3 (List.mem_of_getElem? (i := 188) (by decide +kernel))) rfl
set_option maxRecDepth 20000 in
theorem mw_670 : Cond.laysFinal "BlowerBreathModel" "BlowerBreathModel" "needs" "[I" ∈ bw_tbl := bw_tg (bw_t3 (List.mem_of_getElem? (i := 190) (by decide +kernel))) rfl
set_option maxRecDepth 20000 in
theorem mw_672 : Cond.laysFinal "BlowerBreathModel" "BlowerBreathModel" "now" "[I" ∈ bw_tbl := bw_tg (bw_t3 (List.mem_of_getElem? (i := 192) (by decide +kernel))) rfl
set_option maxRecDepth 20000 in
theorem mw_674 : Cond.laysFinal "BlowerBreathModel" "BlowerBreathModel" "aside" "[I" ∈ bw_tbl := bw_tg (bw_t3 (List.mem_of_getElem? (i := 194) (by decide +kernel))) rfl
set_option maxRecDepth 20000 in
theorem mw_676 : Cond.laysFinal "BlowerBreathModel" "BlowerBreathModel" "ahead" "[I" ∈ bw_tbl := bw_tg (bw_t3 (List.mem_of_getElem? (i := 196) (by decide +kernel))) rfl
set_option maxRecDepth 20000 in
theorem mw_678 : Cond.lays "BlowerBreathModel" "BlowerBreathModel" "deeds" "I" ∈ bw_tbl := bw_tg (bw_t3 (List.mem_of_getElem? (i := 198) (by decide +kernel))) rfl
set_option maxRecDepth 20000 in
theorem mw_680 : Cond.laysFinal "BlowerBreathModel" "BlowerBreathModel" "kept" "[I" ∈ bw_tbl := bw_tg (bw_t3 (List.mem_of_getElem? (i := 200) (by decide +kernel))) rfl
set_option maxRecDepth 20000 in
theorem mw_682 : Cond.lays "BlowerBreathModel" "BlowerBreathModel" "at" "I" ∈ bw_tbl := bw_tg (bw_t3 (List.mem_of_getElem? (i := 202) (by decide +kernel))) rfl
set_option maxRecDepth 20000 in
theorem mw_684 : Cond.lays "BlowerBreathModel" "BlowerBreathModel" "size" "I" ∈ bw_tbl := bw_tg (bw_t3 (List.mem_of_getElem? (i := 204) (by decide +kernel))) rfl
set_option maxRecDepth 20000 in
theorem mw_686 : Cond.lays "BlowerBreathModel" "BlowerBreathModel" "which" "I" ∈ bw_tbl := bw_tg (bw_t3 (List.mem_of_getElem? (i := 206) (by decide +kernel))) rfl
set_option maxRecDepth 20000 in
theorem mw_688 : Cond.lays "BlowerBreathModel" "BlowerBreathModel" "value" "I" ∈ bw_tbl := bw_tg (bw_t3 (List.mem_of_getElem? (i := 208) (by decide +kernel))) rfl
set_option maxRecDepth 20000 in
theorem mw_690 : Cond.lays "BlowerBreathModel" "BlowerBreathModel" "readAir" "I" ∈ bw_tbl := bw_tg (bw_t3 (List.mem_of_getElem? (i := 210) (by decide +kernel))) rfl
set_option maxRecDepth 20000 in
theorem mw_692 : Cond.lays "BlowerBreathModel" "BlowerBreathModel" "readStroke" "I" ∈ bw_tbl := bw_tg (bw_t3 (List.mem_of_getElem? (i := 212) (by decide +kernel))) rfl
set_option maxRecDepth 20000 in
theorem mw_694 : Cond.lays "BlowerBreathModel" "BlowerBreathModel" "readPipes" "I" ∈ bw_tbl := bw_tg (bw_t3 (List.mem_of_getElem? (i := 214) (by decide +kernel))) rfl
set_option maxRecDepth 20000 in
theorem mw_696 : Cond.laysFinal "BlowerBreathModel" "BlowerBreathModel" "readKinds" "[I" ∈ bw_tbl := bw_tg (bw_t3 (List.mem_of_getElem? (i := 216) (by decide +kernel))) rfl
set_option maxRecDepth 20000 in
theorem mw_698 : Cond.laysFinal "BlowerBreathModel" "BlowerBreathModel" "readFroms" "[I" ∈ bw_tbl := bw_tg (bw_t3 (List.mem_of_getElem? (i := 218) (by decide +kernel))) rfl
set_option maxRecDepth 20000 in
theorem mw_700 : Cond.laysFinal "BlowerBreathModel" "BlowerBreathModel" "readNeeds" "[I" ∈ bw_tbl := bw_tg (bw_t3 (List.mem_of_getElem? (i := 220) (by decide +kernel))) rfl
set_option maxRecDepth 20000 in
theorem mw_702 : Cond.laysFinal "BlowerBreathModel" "BlowerBreathModel" "says" "[I" ∈ bw_tbl := bw_tg (bw_t3 (List.mem_of_getElem? (i := 222) (by decide +kernel))) rfl
set_option maxRecDepth 20000 in
theorem mw_704 : Cond.laysFinal "BlowerBreathModel" "BlowerBreathModel" "worth" "[I" ∈ bw_tbl := bw_tg (bw_t3 (List.mem_of_getElem? (i := 224) (by decide +kernel))) rfl
set_option maxRecDepth 20000 in
theorem mw_706 : Cond.laysFinal "BlowerBreathModel" "BlowerBreathModel" "then" "[I" ∈ bw_tbl := bw_tg (bw_t3 (List.mem_of_getElem? (i := 226) (by decide +kernel))) rfl
set_option maxRecDepth 20000 in
theorem mw_709 : Cond.methodLink "BlowerBreathLaw" 17 yX5_row ∈ bw_tbl := bw_tg (bw_t3 (List.mem_of_getElem? (i := 229) (by decide +kernel))) rfl
set_option maxRecDepth 20000 in
theorem mw_710 : Cond.instanceMethod yX5_row ∈ bw_tbl := bw_tg (bw_t3 (List.mem_of_getElem? (i := 230) (by decide +kernel))) rfl
set_option maxRecDepth 20000 in
theorem mw_711 : Cond.selects "BlowerBreathModel" yX5_row yX5_row ∈ bw_tbl := bw_tg (bw_t3 (List.mem_of_getElem? (i := 231) (by decide +kernel))) rfl
set_option maxRecDepth 20000 in
theorem mw_712 : Cond.code yX5_row cX5_row 4 (some FieldType.int) ∈ bw_tbl := bw_tg (bw_t3 (List.mem_of_getElem? (i := 232) rfl)) rfl
set_option maxRecDepth 20000 in
theorem mw_713 : Cond.methodLink "BlowerBreathModel" 86 yX5_isRow ∈ bw_tbl := bw_tg (bw_t3 (List.mem_of_getElem? (i := 233) (by decide +kernel))) rfl
set_option maxRecDepth 20000 in
theorem mw_714 : Cond.static yX5_isRow ∈ bw_tbl := bw_tg (bw_t3 (List.mem_of_getElem? (i := 234) (by decide +kernel))) rfl
set_option maxRecDepth 20000 in
theorem mw_715 : Cond.code yX5_isRow cX5_isRow 1 (some FieldType.boolean) ∈ bw_tbl := bw_tg (bw_t3 (List.mem_of_getElem? (i := 235) rfl)) rfl
set_option maxRecDepth 20000 in
theorem mw_716 : Cond.constantLong "BlowerBreathModel" 78 5 ∈ bw_tbl := bw_tg (bw_t3 (List.mem_of_getElem? (i := 236) (by decide +kernel))) rfl
set_option maxRecDepth 20000 in
theorem mw_717 : Cond.methodLink "BlowerBreathModel" 80 yX5_in ∈ bw_tbl := bw_tg (bw_t3 (List.mem_of_getElem? (i := 237) (by decide +kernel))) rfl
set_option maxRecDepth 20000 in
theorem mw_718 : Cond.static yX5_in ∈ bw_tbl := bw_tg (bw_t3 (List.mem_of_getElem? (i := 238) (by decide +kernel))) rfl
set_option maxRecDepth 20000 in
theorem mw_719 : Cond.code yX5_in cX5_in 6 (some FieldType.boolean) ∈ bw_tbl := bw_tg (bw_t3 (List.mem_of_getElem? (i := 239) rfl)) rfl
set_option maxRecDepth 20000 in
theorem mw_720 : Cond.methodLink "BlowerBreathModel" 90 yX5_found ∈ bw_tbl := bw_tg (bw_t4 (List.mem_of_getElem? (i := 0) (by decide +kernel))) rfl
set_option maxRecDepth 20000 in
theorem mw_722 : Cond.instanceMethod yX5_found ∈ bw_tbl := bw_tg (bw_t4 (List.mem_of_getElem? (i := 2) (by decide +kernel))) rfl
set_option maxRecDepth 20000 in
theorem mw_723 : Cond.code yX5_found cX5_found 2 (some FieldType.int) ∈ bw_tbl := bw_tg (bw_t4 (List.mem_of_getElem? (i := 3) rfl)) rfl
set_option maxRecDepth 20000 in
theorem mw_724 : Cond.methodLink "BlowerBreathLaw" 22 yX5_lay ∈ bw_tbl := bw_tg (bw_t4 (List.mem_of_getElem? (i := 4) (by decide +kernel))) rfl
set_option maxRecDepth 20000 in
theorem mw_725 : Cond.instanceMethod yX5_lay ∈ bw_tbl := bw_tg (bw_t4 (List.mem_of_getElem? (i := 5) (by decide +kernel))) rfl
set_option maxRecDepth 20000 in
theorem mw_726 : Cond.selects "BlowerBreathModel" yX5_lay yX5_lay ∈ bw_tbl := bw_tg (bw_t4 (List.mem_of_getElem? (i := 6) (by decide +kernel))) rfl
set_option maxRecDepth 20000 in
theorem mw_727 : Cond.code yX5_lay cX5_lay 5 (some FieldType.int) ∈ bw_tbl := bw_tg (bw_t4 (List.mem_of_getElem? (i := 7) rfl)) rfl
set_option maxRecDepth 20000 in
theorem mw_728 : Cond.methodLink "BlowerBreathModel" 94 yX5_tell ∈ bw_tbl := bw_tg (bw_t4 (List.mem_of_getElem? (i := 8) (by decide +kernel))) rfl
set_option maxRecDepth 20000 in
theorem mw_730 : Cond.instanceMethod yX5_tell ∈ bw_tbl := bw_tg (bw_t4 (List.mem_of_getElem? (i := 10) (by decide +kernel))) rfl
set_option maxRecDepth 20000 in
theorem mw_731 : Cond.code yX5_tell cX5_tell 2 (some FieldType.int) ∈ bw_tbl := bw_tg (bw_t4 (List.mem_of_getElem? (i := 11) rfl)) rfl
set_option maxRecDepth 20000 in
theorem mw_732 : Cond.methodLink "BlowerBreathLaw" 26 yX5_at ∈ bw_tbl := bw_tg (bw_t4 (List.mem_of_getElem? (i := 12) (by decide +kernel))) rfl
set_option maxRecDepth 20000 in
theorem mw_733 : Cond.instanceMethod yX5_at ∈ bw_tbl := bw_tg (bw_t4 (List.mem_of_getElem? (i := 13) (by decide +kernel))) rfl
set_option maxRecDepth 20000 in
theorem mw_734 : Cond.selects "BlowerBreathModel" yX5_at yX5_at ∈ bw_tbl := bw_tg (bw_t4 (List.mem_of_getElem? (i := 14) (by decide +kernel))) rfl
set_option maxRecDepth 20000 in
theorem mw_735 : Cond.code yX5_at cX5_at 3 (some FieldType.int) ∈ bw_tbl := bw_tg (bw_t4 (List.mem_of_getElem? (i := 15) rfl)) rfl
set_option maxRecDepth 20000 in
theorem mw_736 : Cond.methodLink "BlowerBreathLaw" 31 yX5_tear ∈ bw_tbl := bw_tg (bw_t4 (List.mem_of_getElem? (i := 16) (by decide +kernel))) rfl
set_option maxRecDepth 20000 in
theorem mw_737 : Cond.instanceMethod yX5_tear ∈ bw_tbl := bw_tg (bw_t4 (List.mem_of_getElem? (i := 17) (by decide +kernel))) rfl
set_option maxRecDepth 20000 in
theorem mw_738 : Cond.selects "BlowerBreathModel" yX5_tear yX5_tear ∈ bw_tbl := bw_tg (bw_t4 (List.mem_of_getElem? (i := 18) (by decide +kernel))) rfl
set_option maxRecDepth 20000 in
theorem mw_739 : Cond.code yX5_tear cX5_tear 2 (some FieldType.int) ∈ bw_tbl := bw_tg (bw_t4 (List.mem_of_getElem? (i := 19) rfl)) rfl
set_option maxRecDepth 20000 in
theorem mw_740 : Cond.methodLink "BlowerBreathLaw" 36 yX5_copy ∈ bw_tbl := bw_tg (bw_t4 (List.mem_of_getElem? (i := 20) (by decide +kernel))) rfl
set_option maxRecDepth 20000 in
theorem mw_741 : Cond.instanceMethod yX5_copy ∈ bw_tbl := bw_tg (bw_t4 (List.mem_of_getElem? (i := 21) (by decide +kernel))) rfl
set_option maxRecDepth 20000 in
theorem mw_742 : Cond.selects "BlowerBreathModel" yX5_copy yX5_copy ∈ bw_tbl := bw_tg (bw_t4 (List.mem_of_getElem? (i := 22) (by decide +kernel))) rfl
set_option maxRecDepth 20000 in
theorem mw_743 : Cond.code yX5_copy cX5_copy 8 (some FieldType.int) ∈ bw_tbl := bw_tg (bw_t4 (List.mem_of_getElem? (i := 23) rfl)) rfl
set_option maxRecDepth 20000 in
theorem mw_744 : Cond.methodLink "BlowerBreathLaw" 40 yX5_mean ∈ bw_tbl := bw_tg (bw_t4 (List.mem_of_getElem? (i := 24) (by decide +kernel))) rfl
set_option maxRecDepth 20000 in
theorem mw_745 : Cond.instanceMethod yX5_mean ∈ bw_tbl := bw_tg (bw_t4 (List.mem_of_getElem? (i := 25) (by decide +kernel))) rfl
set_option maxRecDepth 20000 in
theorem mw_746 : Cond.selects "BlowerBreathModel" yX5_mean yX5_mean ∈ bw_tbl := bw_tg (bw_t4 (List.mem_of_getElem? (i := 26) (by decide +kernel))) rfl
set_option maxRecDepth 20000 in
theorem mw_747 : Cond.code yX5_mean cX5_mean 5 (some FieldType.int) ∈ bw_tbl := bw_tg (bw_t4 (List.mem_of_getElem? (i := 27) rfl)) rfl
set_option maxRecDepth 20000 in
theorem mw_748 : Cond.methodLink "BlowerBreathLaw" 44 yX5_text ∈ bw_tbl := bw_tg (bw_t4 (List.mem_of_getElem? (i := 28) (by decide +kernel))) rfl
set_option maxRecDepth 20000 in
theorem mw_749 : Cond.instanceMethod yX5_text ∈ bw_tbl := bw_tg (bw_t4 (List.mem_of_getElem? (i := 29) (by decide +kernel))) rfl
set_option maxRecDepth 20000 in
theorem mw_750 : Cond.selects "BlowerBreathModel" yX5_text yX5_text ∈ bw_tbl := bw_tg (bw_t4 (List.mem_of_getElem? (i := 30) (by decide +kernel))) rfl
set_option maxRecDepth 20000 in
theorem mw_751 : Cond.code yX5_text cX5_text 4 (some FieldType.int) ∈ bw_tbl := bw_tg (bw_t4 (List.mem_of_getElem? (i := 31) rfl)) rfl
set_option maxRecDepth 20000 in
theorem mw_752 : Cond.methodLink "BlowerBreathModel" 97 yX5_isText ∈ bw_tbl := bw_tg (bw_t4 (List.mem_of_getElem? (i := 32) (by decide +kernel))) rfl
set_option maxRecDepth 20000 in
theorem mw_753 : Cond.static yX5_isText ∈ bw_tbl := bw_tg (bw_t4 (List.mem_of_getElem? (i := 33) (by decide +kernel))) rfl
set_option maxRecDepth 20000 in
theorem mw_754 : Cond.code yX5_isText cX5_isText 1 (some FieldType.boolean) ∈ bw_tbl := bw_tg (bw_t4 (List.mem_of_getElem? (i := 34) rfl)) rfl
set_option maxRecDepth 20000 in
theorem mw_755 : Cond.constantLong "BlowerBreathModel" 84 3 ∈ bw_tbl := bw_tg (bw_t4 (List.mem_of_getElem? (i := 35) (by decide +kernel))) rfl
set_option maxRecDepth 20000 in
theorem mw_756 : Cond.methodLink "BlowerBreathLaw" 48 yX5_put ∈ bw_tbl := bw_tg (bw_t4 (List.mem_of_getElem? (i := 36) (by decide +kernel))) rfl
set_option maxRecDepth 20000 in
theorem mw_757 : Cond.instanceMethod yX5_put ∈ bw_tbl := bw_tg (bw_t4 (List.mem_of_getElem? (i := 37) (by decide +kernel))) rfl
set_option maxRecDepth 20000 in
theorem mw_758 : Cond.selects "BlowerBreathModel" yX5_put yX5_put ∈ bw_tbl := bw_tg (bw_t4 (List.mem_of_getElem? (i := 38) (by decide +kernel))) rfl
set_option maxRecDepth 20000 in
theorem mw_759 : Cond.code yX5_put cX5_put 5 (some FieldType.int) ∈ bw_tbl := bw_tg (bw_t4 (List.mem_of_getElem? (i := 39) rfl)) rfl
set_option maxRecDepth 20000 in
theorem mw_760 : Cond.methodLink "BlowerBreathLaw" 52 yX5_fault ∈ bw_tbl := bw_tg (bw_t4 (List.mem_of_getElem? (i := 40) (by decide +kernel))) rfl
set_option maxRecDepth 20000 in
theorem mw_761 : Cond.instanceMethod yX5_fault ∈ bw_tbl := bw_tg (bw_t4 (List.mem_of_getElem? (i := 41) (by decide +kernel))) rfl
set_option maxRecDepth 20000 in
theorem mw_762 : Cond.selects "BlowerBreathModel" yX5_fault yX5_fault ∈ bw_tbl := bw_tg (bw_t4 (List.mem_of_getElem? (i := 42) (by decide +kernel))) rfl
set_option maxRecDepth 20000 in
theorem mw_763 : Cond.code yX5_fault cX5_fault 2 (some FieldType.int) ∈ bw_tbl := bw_tg (bw_t4 (List.mem_of_getElem? (i := 43) rfl)) rfl
set_option maxRecDepth 20000 in
theorem mw_764 : Cond.methodLink "BlowerBreathModel" 145 yX5_reads ∈ bw_tbl := bw_tg (bw_t4 (List.mem_of_getElem? (i := 44) (by decide +kernel))) rfl
set_option maxRecDepth 20000 in
theorem mw_766 : Cond.instanceMethod yX5_reads ∈ bw_tbl := bw_tg (bw_t4 (List.mem_of_getElem? (i := 46) (by decide +kernel))) rfl
set_option maxRecDepth 20000 in
theorem mw_767 : Cond.code yX5_reads cX5_reads 3 (some FieldType.int) ∈ bw_tbl := bw_tg (bw_t4 (List.mem_of_getElem? (i := 47) rfl)) rfl
set_option maxRecDepth 20000 in
theorem mw_768 : Cond.methodLink "BlowerBreathModel" 138 yX5_readsHead ∈ bw_tbl := bw_tg (bw_t4 (List.mem_of_getElem? (i := 48) (by decide +kernel))) rfl
set_option maxRecDepth 20000 in
theorem mw_770 : Cond.instanceMethod yX5_readsHead ∈ bw_tbl := bw_tg (bw_t4 (List.mem_of_getElem? (i := 50) (by decide +kernel))) rfl
set_option maxRecDepth 20000 in
theorem mw_771 : Cond.code yX5_readsHead cX5_readsHead 2 (some FieldType.boolean) ∈ bw_tbl := bw_tg (bw_t4 (List.mem_of_getElem? (i := 51) rfl)) rfl
set_option maxRecDepth 20000 in
theorem mw_772 : Cond.methodLink "BlowerBreathModel" 119 yX5_skips ∈ bw_tbl := bw_tg (bw_t4 (List.mem_of_getElem? (i := 52) (by decide +kernel))) rfl
set_option maxRecDepth 20000 in
theorem mw_774 : Cond.instanceMethod yX5_skips ∈ bw_tbl := bw_tg (bw_t4 (List.mem_of_getElem? (i := 54) (by decide +kernel))) rfl
set_option maxRecDepth 20000 in
theorem mw_775 : Cond.code yX5_skips cX5_skips 1 none ∈ bw_tbl := bw_tg (bw_t4 (List.mem_of_getElem? (i := 55) rfl)) rfl
set_option maxRecDepth 20000 in
theorem mw_776 : Cond.methodLink "BlowerBreathModel" 112 yX5_here ∈ bw_tbl := bw_tg (bw_t4 (List.mem_of_getElem? (i := 56) (by decide +kernel))) rfl
set_option maxRecDepth 20000 in
theorem mw_778 : Cond.instanceMethod yX5_here ∈ bw_tbl := bw_tg (bw_t4 (List.mem_of_getElem? (i := 58) (by decide +kernel))) rfl
set_option maxRecDepth 20000 in
theorem mw_779 : Cond.code yX5_here cX5_here 1 (some FieldType.int) ∈ bw_tbl := bw_tg (bw_t4 (List.mem_of_getElem? (i := 59) rfl)) rfl
set_option maxRecDepth 20000 in
theorem mw_780 : Cond.methodLink "BlowerBreathModel" 122 yX5_isFigure ∈ bw_tbl := bw_tg (bw_t4 (List.mem_of_getElem? (i := 60) (by decide +kernel))) rfl
set_option maxRecDepth 20000 in
theorem mw_782 : Cond.instanceMethod yX5_isFigure ∈ bw_tbl := bw_tg (bw_t4 (List.mem_of_getElem? (i := 62) (by decide +kernel))) rfl
set_option maxRecDepth 20000 in
theorem mw_783 : Cond.code yX5_isFigure cX5_isFigure 3 (some FieldType.boolean) ∈ bw_tbl := bw_tg (bw_t4 (List.mem_of_getElem? (i := 63) rfl)) rfl
set_option maxRecDepth 20000 in
theorem mw_784 : Cond.methodLink "BlowerBreathModel" 142 yX5_readsPipe ∈ bw_tbl := bw_tg (bw_t4 (List.mem_of_getElem? (i := 64) (by decide +kernel))) rfl
set_option maxRecDepth 20000 in
theorem mw_786 : Cond.instanceMethod yX5_readsPipe ∈ bw_tbl := bw_tg (bw_t4 (List.mem_of_getElem? (i := 66) (by decide +kernel))) rfl
set_option maxRecDepth 20000 in
theorem mw_787 : Cond.code yX5_readsPipe cX5_readsPipe 2 (some FieldType.boolean) ∈ bw_tbl := bw_tg (bw_t4 (List.mem_of_getElem? (i := 67) rfl)) rfl
set_option maxRecDepth 20000 in
theorem mw_788 : Cond.methodLink "BlowerBreathModel" 132 yX5_kindOf ∈ bw_tbl := bw_tg (bw_t4 (List.mem_of_getElem? (i := 68) (by decide +kernel))) rfl
set_option maxRecDepth 20000 in
theorem mw_789 : Cond.static yX5_kindOf ∈ bw_tbl := bw_tg (bw_t4 (List.mem_of_getElem? (i := 69) (by decide +kernel))) rfl
set_option maxRecDepth 20000 in
theorem mw_790 : Cond.code yX5_kindOf cX5_kindOf 1 (some FieldType.int) ∈ bw_tbl := bw_tg (bw_t4 (List.mem_of_getElem? (i := 70) rfl)) rfl
set_option maxRecDepth 20000 in
theorem mw_791 : Cond.methodLink "BlowerBreathLaw" 56 yX5_town ∈ bw_tbl := bw_tg (bw_t4 (List.mem_of_getElem? (i := 71) (by decide +kernel))) rfl
set_option maxRecDepth 20000 in
theorem mw_792 : Cond.instanceMethod yX5_town ∈ bw_tbl := bw_tg (bw_t4 (List.mem_of_getElem? (i := 72) (by decide +kernel))) rfl
set_option maxRecDepth 20000 in
theorem mw_793 : Cond.selects "BlowerBreathModel" yX5_town yX5_town ∈ bw_tbl := bw_tg (bw_t4 (List.mem_of_getElem? (i := 73) (by decide +kernel))) rfl
set_option maxRecDepth 20000 in
theorem mw_794 : Cond.code yX5_town cX5_town 3 (some FieldType.int) ∈ bw_tbl := bw_tg (bw_t4 (List.mem_of_getElem? (i := 74) rfl)) rfl
set_option maxRecDepth 20000 in
theorem mw_795 : Cond.methodLink "BlowerBreathLaw" 60 yX5_pipe ∈ bw_tbl := bw_tg (bw_t4 (List.mem_of_getElem? (i := 75) (by decide +kernel))) rfl
set_option maxRecDepth 20000 in
theorem mw_796 : Cond.instanceMethod yX5_pipe ∈ bw_tbl := bw_tg (bw_t4 (List.mem_of_getElem? (i := 76) (by decide +kernel))) rfl
set_option maxRecDepth 20000 in
theorem mw_797 : Cond.selects "BlowerBreathModel" yX5_pipe yX5_pipe ∈ bw_tbl := bw_tg (bw_t4 (List.mem_of_getElem? (i := 77) (by decide +kernel))) rfl
set_option maxRecDepth 20000 in
theorem mw_798 : Cond.code yX5_pipe cX5_pipe 3 (some FieldType.int) ∈ bw_tbl := bw_tg (bw_t4 (List.mem_of_getElem? (i := 78) rfl)) rfl
set_option maxRecDepth 20000 in
theorem mw_799 : Cond.methodLink "BlowerBreathModel" 176 yX5_isPipe ∈ bw_tbl := bw_tg (bw_t4 (List.mem_of_getElem? (i := 79) (by decide +kernel))) rfl
set_option maxRecDepth 20000 in
theorem mw_801 : Cond.instanceMethod yX5_isPipe ∈ bw_tbl := bw_tg (bw_t4 (List.mem_of_getElem? (i := 81) (by decide +kernel))) rfl
set_option maxRecDepth 20000 in
theorem mw_802 : Cond.code yX5_isPipe cX5_isPipe 2 (some FieldType.boolean) ∈ bw_tbl := bw_tg (bw_t4 (List.mem_of_getElem? (i := 82) rfl)) rfl
set_option maxRecDepth 20000 in
theorem mw_803 : Cond.constantLong "BlowerBreathModel" 179 7 ∈ bw_tbl := bw_tg (bw_t4 (List.mem_of_getElem? (i := 83) (by decide +kernel))) rfl
set_option maxRecDepth 20000 in
theorem mw_804 : Cond.methodLink "BlowerBreathModel" 158 yX5_wantsOn ∈ bw_tbl := bw_tg (bw_t4 (List.mem_of_getElem? (i := 84) (by decide +kernel))) rfl
set_option maxRecDepth 20000 in
theorem mw_806 : Cond.instanceMethod yX5_wantsOn ∈ bw_tbl := bw_tg (bw_t4 (List.mem_of_getElem? (i := 86) (by decide +kernel))) rfl
set_option maxRecDepth 20000 in
theorem mw_807 : Cond.code yX5_wantsOn cX5_wantsOn 3 (some FieldType.int) ∈ bw_tbl := bw_tg (bw_t4 (List.mem_of_getElem? (i := 87) rfl)) rfl
set_option maxRecDepth 20000 in
theorem mw_808 : Cond.methodLink "BlowerBreathModel" 151 yX5_wantsBy ∈ bw_tbl := bw_tg (bw_t4 (List.mem_of_getElem? (i := 88) (by decide +kernel))) rfl
set_option maxRecDepth 20000 in
theorem mw_809 : Cond.static yX5_wantsBy ∈ bw_tbl := bw_tg (bw_t4 (List.mem_of_getElem? (i := 89) (by decide +kernel))) rfl
set_option maxRecDepth 20000 in
theorem mw_810 : Cond.code yX5_wantsBy cX5_wantsBy 3 (some FieldType.int) ∈ bw_tbl := bw_tg (bw_t4 (List.mem_of_getElem? (i := 90) rfl)) rfl
set_option maxRecDepth 20000 in
theorem mw_811 : Cond.methodLink "BlowerBreathModel" 169 yX5_isCutOff ∈ bw_tbl := bw_tg (bw_t4 (List.mem_of_getElem? (i := 91) (by decide +kernel))) rfl
set_option maxRecDepth 20000 in
theorem mw_813 : Cond.instanceMethod yX5_isCutOff ∈ bw_tbl := bw_tg (bw_t4 (List.mem_of_getElem? (i := 93) (by decide +kernel))) rfl
set_option maxRecDepth 20000 in
theorem mw_814 : Cond.code yX5_isCutOff cX5_isCutOff 5 (some FieldType.boolean) ∈ bw_tbl := bw_tg (bw_t4 (List.mem_of_getElem? (i := 94) rfl)) rfl
set_option maxRecDepth 20000 in
theorem mw_815 : Cond.methodLink "BlowerBreathModel" 155 yX5_has ∈ bw_tbl := bw_tg (bw_t4 (List.mem_of_getElem? (i := 95) (by decide +kernel))) rfl
set_option maxRecDepth 20000 in
theorem mw_816 : Cond.static yX5_has ∈ bw_tbl := bw_tg (bw_t4 (List.mem_of_getElem? (i := 96) (by decide +kernel))) rfl
set_option maxRecDepth 20000 in
theorem mw_817 : Cond.code yX5_has cX5_has 2 (some FieldType.boolean) ∈ bw_tbl := bw_tg (bw_t4 (List.mem_of_getElem? (i := 97) rfl)) rfl
set_option maxRecDepth 20000 in
theorem mw_818 : Cond.methodLink "BlowerBreathLaw" 64 yX5_mark ∈ bw_tbl := bw_tg (bw_t4 (List.mem_of_getElem? (i := 98) (by decide +kernel))) rfl
set_option maxRecDepth 20000 in
theorem mw_819 : Cond.instanceMethod yX5_mark ∈ bw_tbl := bw_tg (bw_t4 (List.mem_of_getElem? (i := 99) (by decide +kernel))) rfl
set_option maxRecDepth 20000 in
theorem mw_820 : Cond.selects "BlowerBreathModel" yX5_mark yX5_mark ∈ bw_tbl := bw_tg (bw_t4 (List.mem_of_getElem? (i := 100) (by decide +kernel))) rfl
set_option maxRecDepth 20000 in
theorem mw_821 : Cond.code yX5_mark cX5_mark 5 (some FieldType.int) ∈ bw_tbl := bw_tg (bw_t4 (List.mem_of_getElem? (i := 101) rfl)) rfl
set_option maxRecDepth 20000 in
theorem mw_822 : Cond.methodLink "BlowerBreathModel" 162 yX5_isOf ∈ bw_tbl := bw_tg (bw_t4 (List.mem_of_getElem? (i := 102) (by decide +kernel))) rfl
set_option maxRecDepth 20000 in
theorem mw_823 : Cond.static yX5_isOf ∈ bw_tbl := bw_tg (bw_t4 (List.mem_of_getElem? (i := 103) (by decide +kernel))) rfl
set_option maxRecDepth 20000 in
theorem mw_824 : Cond.code yX5_isOf cX5_isOf 2 (some FieldType.boolean) ∈ bw_tbl := bw_tg (bw_t4 (List.mem_of_getElem? (i := 104) rfl)) rfl
set_option maxRecDepth 20000 in
theorem mw_825 : Cond.methodLink "BlowerBreathLaw" 69 yX5_hour ∈ bw_tbl := bw_tg (bw_t4 (List.mem_of_getElem? (i := 105) (by decide +kernel))) rfl
set_option maxRecDepth 20000 in
theorem mw_826 : Cond.instanceMethod yX5_hour ∈ bw_tbl := bw_tg (bw_t4 (List.mem_of_getElem? (i := 106) (by decide +kernel))) rfl
set_option maxRecDepth 20000 in
theorem mw_827 : Cond.selects "BlowerBreathModel" yX5_hour yX5_hour ∈ bw_tbl := bw_tg (bw_t4 (List.mem_of_getElem? (i := 107) (by decide +kernel))) rfl
set_option maxRecDepth 20000 in
theorem mw_828 : Cond.code yX5_hour cX5_hour 2 (some FieldType.int) ∈ bw_tbl := bw_tg (bw_t4 (List.mem_of_getElem? (i := 108) rfl)) rfl
set_option maxRecDepth 20000 in
theorem mw_829 : Cond.methodLink "BlowerBreathModel" 185 yX5_refuses ∈ bw_tbl := bw_tg (bw_t4 (List.mem_of_getElem? (i := 109) (by decide +kernel))) rfl
set_option maxRecDepth 20000 in
theorem mw_831 : Cond.instanceMethod yX5_refuses ∈ bw_tbl := bw_tg (bw_t4 (List.mem_of_getElem? (i := 111) (by decide +kernel))) rfl
set_option maxRecDepth 20000 in
theorem mw_832 : Cond.code yX5_refuses cX5_refuses 2 (some FieldType.int) ∈ bw_tbl := bw_tg (bw_t4 (List.mem_of_getElem? (i := 112) rfl)) rfl
set_option maxRecDepth 20000 in
theorem mw_833 : Cond.methodLink "BlowerBreathModel" 188 yX5_remember ∈ bw_tbl := bw_tg (bw_t4 (List.mem_of_getElem? (i := 113) (by decide +kernel))) rfl
set_option maxRecDepth 20000 in
theorem mw_835 : Cond.instanceMethod yX5_remember ∈ bw_tbl := bw_tg (bw_t4 (List.mem_of_getElem? (i := 115) (by decide +kernel))) rfl
set_option maxRecDepth 20000 in
theorem mw_836 : Cond.code yX5_remember cX5_remember 1 none ∈ bw_tbl := bw_tg (bw_t4 (List.mem_of_getElem? (i := 116) rfl)) rfl
set_option maxRecDepth 20000 in
theorem mw_837 : Cond.methodLink "BlowerBreathModel" 181 yX5_copies ∈ bw_tbl := bw_tg (bw_t4 (List.mem_of_getElem? (i := 117) (by decide +kernel))) rfl
set_option maxRecDepth 20000 in
theorem mw_838 : Cond.static yX5_copies ∈ bw_tbl := bw_tg (bw_t4 (List.mem_of_getElem? (i := 118) (by decide +kernel))) rfl
set_option maxRecDepth 20000 in
theorem mw_839 : Cond.code yX5_copies cX5_copies 6 none ∈ bw_tbl := bw_tg (bw_t4 (List.mem_of_getElem? (i := 119) rfl)) rfl
set_option maxRecDepth 20000 in
theorem mw_840 : Cond.methodLink "BlowerBreathModel" 191 yX5_goes ∈ bw_tbl := bw_tg (bw_t4 (List.mem_of_getElem? (i := 120) (by decide +kernel))) rfl
set_option maxRecDepth 20000 in
theorem mw_842 : Cond.instanceMethod yX5_goes ∈ bw_tbl := bw_tg (bw_t4 (List.mem_of_getElem? (i := 122) (by decide +kernel))) rfl
set_option maxRecDepth 20000 in
theorem mw_843 : Cond.code yX5_goes cX5_goes 4 (some FieldType.int) ∈ bw_tbl := bw_tg (bw_t4 (List.mem_of_getElem? (i := 123) rfl)) rfl
set_option maxRecDepth 20000 in
theorem mw_844 : Cond.methodLink "BlowerBreathModel" 165 yX5_lesser ∈ bw_tbl := bw_tg (bw_t4 (List.mem_of_getElem? (i := 124) (by decide +kernel))) rfl
set_option maxRecDepth 20000 in
theorem mw_845 : Cond.static yX5_lesser ∈ bw_tbl := bw_tg (bw_t4 (List.mem_of_getElem? (i := 125) (by decide +kernel))) rfl
set_option maxRecDepth 20000 in
theorem mw_846 : Cond.code yX5_lesser cX5_lesser 2 (some FieldType.int) ∈ bw_tbl := bw_tg (bw_t4 (List.mem_of_getElem? (i := 126) rfl)) rfl
set_option maxRecDepth 20000 in
theorem mw_847 : Cond.methodLink "BlowerBreathModel" 173 yX5_takes ∈ bw_tbl := bw_tg (bw_t4 (List.mem_of_getElem? (i := 127) (by decide +kernel))) rfl
set_option maxRecDepth 20000 in
theorem mw_849 : Cond.instanceMethod yX5_takes ∈ bw_tbl := bw_tg (bw_t4 (List.mem_of_getElem? (i := 129) (by decide +kernel))) rfl
set_option maxRecDepth 20000 in
theorem mw_850 : Cond.code yX5_takes cX5_takes 4 (some FieldType.boolean) ∈ bw_tbl := bw_tg (bw_t4 (List.mem_of_getElem? (i := 130) rfl)) rfl
set_option maxRecDepth 20000 in
theorem mw_851 : Cond.methodLink "BlowerBreathLaw" 73 yX5_pump ∈ bw_tbl := bw_tg (bw_t4 (List.mem_of_getElem? (i := 131) (by decide +kernel))) rfl
set_option maxRecDepth 20000 in
theorem mw_852 : Cond.instanceMethod yX5_pump ∈ bw_tbl := bw_tg (bw_t4 (List.mem_of_getElem? (i := 132) (by decide +kernel))) rfl
set_option maxRecDepth 20000 in
theorem mw_853 : Cond.selects "BlowerBreathModel" yX5_pump yX5_pump ∈ bw_tbl := bw_tg (bw_t4 (List.mem_of_getElem? (i := 133) (by decide +kernel))) rfl
set_option maxRecDepth 20000 in
theorem mw_854 : Cond.code yX5_pump cX5_pump 2 (some FieldType.int) ∈ bw_tbl := bw_tg (bw_t4 (List.mem_of_getElem? (i := 134) rfl)) rfl
set_option maxRecDepth 20000 in
theorem mw_855 : Cond.constantLong "BlowerBreathModel" 195 (-9) ∈ bw_tbl := bw_tg (bw_t4 (List.mem_of_getElem? (i := 135) (by decide +kernel))) rfl
set_option maxRecDepth 20000 in
theorem mw_856 : Cond.constantLong "BlowerBreathModel" 197 9 ∈ bw_tbl := bw_tg (bw_t4 (List.mem_of_getElem? (i := 136) (by decide +kernel))) rfl
set_option maxRecDepth 20000 in
theorem mw_857 : Cond.constantLong "BlowerBreathModel" 199 60 ∈ bw_tbl := bw_tg (bw_t4 (List.mem_of_getElem? (i := 137) (by decide +kernel))) rfl
set_option maxRecDepth 20000 in
theorem mw_858 : Cond.methodLink "BlowerBreathLaw" 77 yX5_cut ∈ bw_tbl := bw_tg (bw_t4 (List.mem_of_getElem? (i := 138) (by decide +kernel))) rfl
set_option maxRecDepth 20000 in
theorem mw_859 : Cond.instanceMethod yX5_cut ∈ bw_tbl := bw_tg (bw_t4 (List.mem_of_getElem? (i := 139) (by decide +kernel))) rfl
set_option maxRecDepth 20000 in
theorem mw_860 : Cond.selects "BlowerBreathModel" yX5_cut yX5_cut ∈ bw_tbl := bw_tg (bw_t4 (List.mem_of_getElem? (i := 140) (by decide +kernel))) rfl
set_option maxRecDepth 20000 in
theorem mw_861 : Cond.code yX5_cut cX5_cut 2 (some FieldType.int) ∈ bw_tbl := bw_tg (bw_t4 (List.mem_of_getElem? (i := 141) rfl)) rfl
set_option maxRecDepth 20000 in
theorem mw_862 : Cond.methodLink "BlowerBreathModel" 201 yX5_turns ∈ bw_tbl := bw_tg (bw_t4 (List.mem_of_getElem? (i := 142) (by decide +kernel))) rfl
set_option maxRecDepth 20000 in
theorem mw_864 : Cond.instanceMethod yX5_turns ∈ bw_tbl := bw_tg (bw_t4 (List.mem_of_getElem? (i := 144) (by decide +kernel))) rfl
set_option maxRecDepth 20000 in
theorem mw_865 : Cond.code yX5_turns cX5_turns 3 (some FieldType.int) ∈ bw_tbl := bw_tg (bw_t4 (List.mem_of_getElem? (i := 145) rfl)) rfl
set_option maxRecDepth 20000 in
theorem mw_866 : Cond.methodLink "BlowerBreathLaw" 81 yX5_leak ∈ bw_tbl := bw_tg (bw_t4 (List.mem_of_getElem? (i := 146) (by decide +kernel))) rfl
set_option maxRecDepth 20000 in
theorem mw_867 : Cond.instanceMethod yX5_leak ∈ bw_tbl := bw_tg (bw_t4 (List.mem_of_getElem? (i := 147) (by decide +kernel))) rfl
set_option maxRecDepth 20000 in
theorem mw_868 : Cond.selects "BlowerBreathModel" yX5_leak yX5_leak ∈ bw_tbl := bw_tg (bw_t4 (List.mem_of_getElem? (i := 148) (by decide +kernel))) rfl
set_option maxRecDepth 20000 in
theorem mw_869 : Cond.code yX5_leak cX5_leak 2 (some FieldType.int) ∈ bw_tbl := bw_tg (bw_t4 (List.mem_of_getElem? (i := 149) rfl)) rfl
set_option maxRecDepth 20000 in
theorem mw_870 : Cond.methodLink "BlowerBreathLaw" 85 yX5_stroke ∈ bw_tbl := bw_tg (bw_t4 (List.mem_of_getElem? (i := 150) (by decide +kernel))) rfl
set_option maxRecDepth 20000 in
theorem mw_871 : Cond.instanceMethod yX5_stroke ∈ bw_tbl := bw_tg (bw_t4 (List.mem_of_getElem? (i := 151) (by decide +kernel))) rfl
set_option maxRecDepth 20000 in
theorem mw_872 : Cond.selects "BlowerBreathModel" yX5_stroke yX5_stroke ∈ bw_tbl := bw_tg (bw_t4 (List.mem_of_getElem? (i := 152) (by decide +kernel))) rfl
set_option maxRecDepth 20000 in
theorem mw_873 : Cond.code yX5_stroke cX5_stroke 3 (some FieldType.int) ∈ bw_tbl := bw_tg (bw_t4 (List.mem_of_getElem? (i := 153) rfl)) rfl
set_option maxRecDepth 20000 in
theorem mw_874 : Cond.methodLink "BlowerBreathLaw" 89 yX5_undo ∈ bw_tbl := bw_tg (bw_t4 (List.mem_of_getElem? (i := 154) (by decide +kernel))) rfl
set_option maxRecDepth 20000 in
theorem mw_875 : Cond.instanceMethod yX5_undo ∈ bw_tbl := bw_tg (bw_t4 (List.mem_of_getElem? (i := 155) (by decide +kernel))) rfl
set_option maxRecDepth 20000 in
theorem mw_876 : Cond.selects "BlowerBreathModel" yX5_undo yX5_undo ∈ bw_tbl := bw_tg (bw_t4 (List.mem_of_getElem? (i := 156) (by decide +kernel))) rfl
set_option maxRecDepth 20000 in
theorem mw_877 : Cond.code yX5_undo cX5_undo 3 (some FieldType.int) ∈ bw_tbl := bw_tg (bw_t4 (List.mem_of_getElem? (i := 157) rfl)) rfl
set_option maxRecDepth 20000 in
theorem mw_878 : Cond.methodLink "BlowerBreathLaw" 93 yX5_keep ∈ bw_tbl := bw_tg (bw_t4 (List.mem_of_getElem? (i := 158) (by decide +kernel))) rfl
set_option maxRecDepth 20000 in
theorem mw_879 : Cond.instanceMethod yX5_keep ∈ bw_tbl := bw_tg (bw_t4 (List.mem_of_getElem? (i := 159) (by decide +kernel))) rfl
set_option maxRecDepth 20000 in
theorem mw_880 : Cond.selects "BlowerBreathModel" yX5_keep yX5_keep ∈ bw_tbl := bw_tg (bw_t4 (List.mem_of_getElem? (i := 160) (by decide +kernel))) rfl
set_option maxRecDepth 20000 in
theorem mw_881 : Cond.code yX5_keep cX5_keep 2 (some FieldType.int) ∈ bw_tbl := bw_tg (bw_t4 (List.mem_of_getElem? (i := 161) rfl)) rfl
set_option maxRecDepth 20000 in
theorem mw_882 : Cond.constantLong "BlowerBreathModel" 204 2 ∈ bw_tbl := bw_tg (bw_t4 (List.mem_of_getElem? (i := 162) (by decide +kernel))) rfl
set_option maxRecDepth 20000 in
theorem mw_883 : Cond.methodLink "BlowerBreathLaw" 97 yX5_on ∈ bw_tbl := bw_tg (bw_t4 (List.mem_of_getElem? (i := 163) (by decide +kernel))) rfl
set_option maxRecDepth 20000 in
theorem mw_884 : Cond.instanceMethod yX5_on ∈ bw_tbl := bw_tg (bw_t4 (List.mem_of_getElem? (i := 164) (by decide +kernel))) rfl
set_option maxRecDepth 20000 in
theorem mw_885 : Cond.selects "BlowerBreathModel" yX5_on yX5_on ∈ bw_tbl := bw_tg (bw_t4 (List.mem_of_getElem? (i := 165) (by decide +kernel))) rfl
set_option maxRecDepth 20000 in
theorem mw_886 : Cond.code yX5_on cX5_on 2 (some FieldType.int) ∈ bw_tbl := bw_tg (bw_t4 (List.mem_of_getElem? (i := 166) rfl)) rfl
set_option maxRecDepth 20000 in
theorem mw_887 : Cond.methodLink "BlowerBreathLaw" 101 yX5_wants ∈ bw_tbl := bw_tg (bw_t4 (List.mem_of_getElem? (i := 167) (by decide +kernel))) rfl
set_option maxRecDepth 20000 in
theorem mw_888 : Cond.instanceMethod yX5_wants ∈ bw_tbl := bw_tg (bw_t4 (List.mem_of_getElem? (i := 168) (by decide +kernel))) rfl
set_option maxRecDepth 20000 in
theorem mw_889 : Cond.selects "BlowerBreathModel" yX5_wants yX5_wants ∈ bw_tbl := bw_tg (bw_t4 (List.mem_of_getElem? (i := 169) (by decide +kernel))) rfl
set_option maxRecDepth 20000 in
theorem mw_890 : Cond.code yX5_wants cX5_wants 4 (some FieldType.int) ∈ bw_tbl := bw_tg (bw_t4 (List.mem_of_getElem? (i := 170) rfl)) rfl
set_option maxRecDepth 20000 in
theorem mw_891 : Cond.constantLong "BlowerBreathModel" 206 99 ∈ bw_tbl := bw_tg (bw_t4 (List.mem_of_getElem? (i := 171) (by decide +kernel))) rfl
set_option maxRecDepth 20000 in
theorem mw_892 : Cond.methodLink "BlowerBreathLaw" 105 yX5_air ∈ bw_tbl := bw_tg (bw_t4 (List.mem_of_getElem? (i := 172) (by decide +kernel))) rfl
set_option maxRecDepth 20000 in
theorem mw_893 : Cond.instanceMethod yX5_air ∈ bw_tbl := bw_tg (bw_t4 (List.mem_of_getElem? (i := 173) (by decide +kernel))) rfl
set_option maxRecDepth 20000 in
theorem mw_894 : Cond.selects "BlowerBreathModel" yX5_air yX5_air ∈ bw_tbl := bw_tg (bw_t4 (List.mem_of_getElem? (i := 174) (by decide +kernel))) rfl
set_option maxRecDepth 20000 in
theorem mw_895 : Cond.code yX5_air cX5_air 4 (some FieldType.int) ∈ bw_tbl := bw_tg (bw_t4 (List.mem_of_getElem? (i := 175) rfl)) rfl
set_option maxRecDepth 20000 in
theorem mw_896 : Cond.constantLong "BlowerBreathModel" 208 40 ∈ bw_tbl := bw_tg (bw_t4 (List.mem_of_getElem? (i := 176) (by decide +kernel))) rfl
set_option maxRecDepth 20000 in
theorem mw_897 : Cond.methodLink "BlowerBreathModel" 210 yX5_layAside ∈ bw_tbl := bw_tg (bw_t4 (List.mem_of_getElem? (i := 177) (by decide +kernel))) rfl
set_option maxRecDepth 20000 in
theorem mw_899 : Cond.instanceMethod yX5_layAside ∈ bw_tbl := bw_tg (bw_t4 (List.mem_of_getElem? (i := 179) (by decide +kernel))) rfl
set_option maxRecDepth 20000 in
theorem mw_900 : Cond.code yX5_layAside cX5_layAside 1 none ∈ bw_tbl := bw_tg (bw_t4 (List.mem_of_getElem? (i := 180) rfl)) rfl
set_option maxRecDepth 20000 in
theorem mw_901 : Cond.methodLink "BlowerBreathModel" 213 yX5_answer ∈ bw_tbl := bw_tg (bw_t4 (List.mem_of_getElem? (i := 181) (by decide +kernel))) rfl
set_option maxRecDepth 20000 in
theorem mw_903 : Cond.instanceMethod yX5_answer ∈ bw_tbl := bw_tg (bw_t4 (List.mem_of_getElem? (i := 183) (by decide +kernel))) rfl
set_option maxRecDepth 20000 in
theorem mw_904 : Cond.code yX5_answer cX5_answer 3 (some FieldType.int) ∈ bw_tbl := bw_tg (bw_t4 (List.mem_of_getElem? (i := 184) rfl)) rfl
set_option maxRecDepth 20000 in
theorem mw_905 : Cond.methodLink "BlowerBreathLaw" 109 yX5_says ∈ bw_tbl := bw_tg (bw_t4 (List.mem_of_getElem? (i := 185) (by decide +kernel))) rfl
set_option maxRecDepth 20000 in
theorem mw_906 : Cond.instanceMethod yX5_says ∈ bw_tbl := bw_tg (bw_t4 (List.mem_of_getElem? (i := 186) (by decide +kernel))) rfl
set_option maxRecDepth 20000 in
theorem mw_907 : Cond.selects "BlowerBreathModel" yX5_says yX5_says ∈ bw_tbl := bw_tg (bw_t4 (List.mem_of_getElem? (i := 187) (by decide +kernel))) rfl
set_option maxRecDepth 20000 in
theorem mw_908 : Cond.code yX5_says cX5_says 5 (some FieldType.int) ∈ bw_tbl := bw_tg (bw_t4 (List.mem_of_getElem? (i := 188) rfl)) rfl
set_option maxRecDepth 20000 in
theorem mw_909 : Cond.methodLink "BlowerBreathLaw" 113 yX5_first ∈ bw_tbl := bw_tg (bw_t4 (List.mem_of_getElem? (i := 189) (by decide +kernel))) rfl
set_option maxRecDepth 20000 in
theorem mw_910 : Cond.instanceMethod yX5_first ∈ bw_tbl := bw_tg (bw_t4 (List.mem_of_getElem? (i := 190) (by decide +kernel))) rfl
set_option maxRecDepth 20000 in
theorem mw_911 : Cond.selects "BlowerBreathModel" yX5_first yX5_first ∈ bw_tbl := bw_tg (bw_t4 (List.mem_of_getElem? (i := 191) (by decide +kernel))) rfl
set_option maxRecDepth 20000 in
theorem mw_912 : Cond.code yX5_first cX5_first 3 (some FieldType.int) ∈ bw_tbl := bw_tg (bw_t4 (List.mem_of_getElem? (i := 192) rfl)) rfl
set_option maxRecDepth 20000 in
theorem mw_913 : Cond.methodLink "BlowerBreathLaw" 117 yX5_hush ∈ bw_tbl := bw_tg (bw_t4 (List.mem_of_getElem? (i := 193) (by decide +kernel))) rfl
set_option maxRecDepth 20000 in
theorem mw_914 : Cond.instanceMethod yX5_hush ∈ bw_tbl := bw_tg (bw_t4 (List.mem_of_getElem? (i := 194) (by decide +kernel))) rfl
set_option maxRecDepth 20000 in
theorem mw_915 : Cond.selects "BlowerBreathModel" yX5_hush yX5_hush ∈ bw_tbl := bw_tg (bw_t4 (List.mem_of_getElem? (i := 195) (by decide +kernel))) rfl
set_option maxRecDepth 20000 in
theorem mw_916 : Cond.code yX5_hush cX5_hush 4 (some FieldType.int) ∈ bw_tbl := bw_tg (bw_t4 (List.mem_of_getElem? (i := 196) rfl)) rfl
set_option maxRecDepth 20000 in
theorem mw_917 : Cond.methodLink "BlowerBreathModel" 216 yX5_bits ∈ bw_tbl := bw_tg (bw_t4 (List.mem_of_getElem? (i := 197) (by decide +kernel))) rfl
set_option maxRecDepth 20000 in
theorem mw_918 : Cond.static yX5_bits ∈ bw_tbl := bw_tg (bw_t4 (List.mem_of_getElem? (i := 198) (by decide +kernel))) rfl
set_option maxRecDepth 20000 in
theorem mw_919 : Cond.code yX5_bits cX5_bits 3 (some FieldType.int) ∈ bw_tbl := bw_tg (bw_t4 (List.mem_of_getElem? (i := 199) rfl)) rfl
set_option maxRecDepth 20000 in
theorem mw_920 : Cond.methodLink "BlowerBreathLaw" 121 yX5_least ∈ bw_tbl := bw_tg (bw_t4 (List.mem_of_getElem? (i := 200) (by decide +kernel))) rfl
set_option maxRecDepth 20000 in
theorem mw_921 : Cond.instanceMethod yX5_least ∈ bw_tbl := bw_tg (bw_t4 (List.mem_of_getElem? (i := 201) (by decide +kernel))) rfl
set_option maxRecDepth 20000 in
theorem mw_922 : Cond.selects "BlowerBreathModel" yX5_least yX5_least ∈ bw_tbl := bw_tg (bw_t4 (List.mem_of_getElem? (i := 202) (by decide +kernel))) rfl
set_option maxRecDepth 20000 in
theorem mw_923 : Cond.code yX5_least cX5_least 3 (some FieldType.int) ∈ bw_tbl := bw_tg (bw_t4 (List.mem_of_getElem? (i := 203) rfl)) rfl
set_option maxRecDepth 20000 in
theorem mw_924 : Cond.methodLink "BlowerBreathLaw" 125 yX5_hard ∈ bw_tbl := bw_tg (bw_t4 (List.mem_of_getElem? (i := 204) (by decide +kernel))) rfl
set_option maxRecDepth 20000 in
theorem mw_925 : Cond.instanceMethod yX5_hard ∈ bw_tbl := bw_tg (bw_t4 (List.mem_of_getElem? (i := 205) (by decide +kernel))) rfl
set_option maxRecDepth 20000 in
theorem mw_926 : Cond.selects "BlowerBreathModel" yX5_hard yX5_hard ∈ bw_tbl := bw_tg (bw_t4 (List.mem_of_getElem? (i := 206) (by decide +kernel))) rfl
set_option maxRecDepth 20000 in
theorem mw_927 : Cond.code yX5_hard cX5_hard 6 (some FieldType.int) ∈ bw_tbl := bw_tg (bw_t4 (List.mem_of_getElem? (i := 207) rfl)) rfl
set_option maxRecDepth 20000 in
theorem mw_928 : Cond.methodLink "BlowerBreathModel" 219 yX5_arePipes ∈ bw_tbl := bw_tg (bw_t4 (List.mem_of_getElem? (i := 208) (by decide +kernel))) rfl
set_option maxRecDepth 20000 in
theorem mw_930 : Cond.instanceMethod yX5_arePipes ∈ bw_tbl := bw_tg (bw_t4 (List.mem_of_getElem? (i := 210) (by decide +kernel))) rfl
set_option maxRecDepth 20000 in
theorem mw_931 : Cond.code yX5_arePipes cX5_arePipes 2 (some FieldType.boolean) ∈ bw_tbl := bw_tg (bw_t4 (List.mem_of_getElem? (i := 211) rfl)) rfl
set_option maxRecDepth 20000 in
theorem mw_932 : Cond.constantLong "BlowerBreathModel" 222 20 ∈ bw_tbl := bw_tg (bw_t4 (List.mem_of_getElem? (i := 212) (by decide +kernel))) rfl
set_option maxRecDepth 20000 in
theorem mw_933 : Cond.methodLink "BlowerBreathLaw" 129 yX5_leaks ∈ bw_tbl := bw_tg (bw_t4 (List.mem_of_getElem? (i := 213) (by decide +kernel))) rfl
set_option maxRecDepth 20000 in
theorem mw_934 : Cond.instanceMethod yX5_leaks ∈ bw_tbl := bw_tg (bw_t4 (List.mem_of_getElem? (i := 214) (by decide +kernel))) rfl
set_option maxRecDepth 20000 in
theorem mw_935 : Cond.selects "BlowerBreathModel" yX5_leaks yX5_leaks ∈ bw_tbl := bw_tg (bw_t4 (List.mem_of_getElem? (i := 215) (by decide +kernel))) rfl
set_option maxRecDepth 20000 in
theorem mw_936 : Cond.code yX5_leaks cX5_leaks 6 (some FieldType.int) ∈ bw_tbl := bw_tg (bw_t4 (List.mem_of_getElem? (i := 216) rfl)) rfl
set_option maxRecDepth 20000 in
theorem mw_937 : Cond.methodLink "BlowerBreathModel" 235 yX5_refusesAll ∈ bw_tbl := bw_tg (bw_t4 (List.mem_of_getElem? (i := 217) (by decide +kernel))) rfl
set_option maxRecDepth 20000 in
theorem mw_939 : Cond.instanceMethod yX5_refusesAll ∈ bw_tbl := bw_tg (bw_t4 (List.mem_of_getElem? (i := 219) (by decide +kernel))) rfl
set_option maxRecDepth 20000 in
theorem mw_940 : Cond.code yX5_refusesAll cX5_refusesAll 2 (some FieldType.int) ∈ bw_tbl := bw_tg (bw_t4 (List.mem_of_getElem? (i := 220) rfl)) rfl
set_option maxRecDepth 20000 in
theorem mw_941 : Cond.methodLink "BlowerBreathModel" 226 yX5_refusesRow ∈ bw_tbl := bw_tg (bw_t4 (List.mem_of_getElem? (i := 221) (by decide +kernel))) rfl
set_option maxRecDepth 20000 in
theorem mw_943 : Cond.instanceMethod yX5_refusesRow ∈ bw_tbl := bw_tg (bw_t4 (List.mem_of_getElem? (i := 223) (by decide +kernel))) rfl
set_option maxRecDepth 20000 in
theorem mw_944 : Cond.code yX5_refusesRow cX5_refusesRow 3 (some FieldType.int) ∈ bw_tbl := bw_tg (bw_t4 (List.mem_of_getElem? (i := 224) rfl)) rfl
set_option maxRecDepth 20000 in
theorem mw_945 : Cond.constantLong "BlowerBreathModel" 224 10 ∈ bw_tbl := bw_tg (bw_t4 (List.mem_of_getElem? (i := 225) (by decide +kernel))) rfl
set_option maxRecDepth 20000 in
theorem mw_946 : Cond.methodLink "BlowerBreathModel" 238 yX5_mayLeak ∈ bw_tbl := bw_tg (bw_t4 (List.mem_of_getElem? (i := 226) (by decide +kernel))) rfl
set_option maxRecDepth 20000 in
theorem mw_948 : Cond.instanceMethod yX5_mayLeak ∈ bw_tbl := bw_tg (bw_t4 (List.mem_of_getElem? (i := 228) (by decide +kernel))) rfl
set_option maxRecDepth 20000 in
theorem mw_949 : Cond.code yX5_mayLeak cX5_mayLeak 3 (some FieldType.boolean) ∈ bw_tbl := bw_tg (bw_t4 (List.mem_of_getElem? (i := 229) rfl)) rfl
set_option maxRecDepth 20000 in
theorem mw_950 : Cond.methodLink "BlowerBreathModel" 229 yX5_goesAs ∈ bw_tbl := bw_tg (bw_t4 (List.mem_of_getElem? (i := 230) (by decide +kernel))) rfl
set_option maxRecDepth 20000 in
theorem mw_952 : Cond.instanceMethod yX5_goesAs ∈ bw_tbl := bw_tg (bw_t4 (List.mem_of_getElem? (i := 232) (by decide +kernel))) rfl
set_option maxRecDepth 20000 in
theorem mw_953 : Cond.code yX5_goesAs cX5_goesAs 4 (some FieldType.boolean) ∈ bw_tbl := bw_tg (bw_t4 (List.mem_of_getElem? (i := 233) rfl)) rfl
set_option maxRecDepth 20000 in
theorem mw_954 : Cond.methodLink "BlowerBreathModel" 241 yX5_counted ∈ bw_tbl := bw_tg (bw_t4 (List.mem_of_getElem? (i := 234) (by decide +kernel))) rfl
set_option maxRecDepth 20000 in
theorem mw_956 : Cond.instanceMethod yX5_counted ∈ bw_tbl := bw_tg (bw_t4 (List.mem_of_getElem? (i := 236) (by decide +kernel))) rfl
set_option maxRecDepth 20000 in
theorem mw_957 : Cond.code yX5_counted cX5_counted 3 (some FieldType.int) ∈ bw_tbl := bw_tg (bw_t4 (List.mem_of_getElem? (i := 237) rfl)) rfl
set_option maxRecDepth 20000 in
theorem mw_958 : Cond.methodLink "BlowerBreathLaw" 133 yX5_listen ∈ bw_tbl := bw_tg (bw_t4 (List.mem_of_getElem? (i := 238) (by decide +kernel))) rfl
set_option maxRecDepth 20000 in
theorem mw_959 : Cond.instanceMethod yX5_listen ∈ bw_tbl := bw_tg (bw_t4 (List.mem_of_getElem? (i := 239) (by decide +kernel))) rfl
set_option maxRecDepth 20000 in
theorem mw_960 : Cond.selects "BlowerBreathModel" yX5_listen yX5_listen ∈ bw_tbl := bw_tg (bw_t5 (List.mem_of_getElem? (i := 0) (by decide +kernel))) rfl
set_option maxRecDepth 20000 in
theorem mw_961 : Cond.code yX5_listen cX5_listen 8 (some FieldType.int) ∈ bw_tbl := bw_tg (bw_t5 (List.mem_of_getElem? (i := 1) rfl)) rfl
set_option maxRecDepth 20000 in
theorem mw_962 : Cond.constant "BlowerBreathModel" 244 1000000 ∈ bw_tbl := bw_tg (bw_t5 (List.mem_of_getElem? (i := 2) (by decide +kernel))) rfl
set_option maxRecDepth 20000 in
theorem mw_963 : Cond.methodLink "BlowerBreathLaw" 137 yX5_strokes ∈ bw_tbl := bw_tg (bw_t5 (List.mem_of_getElem? (i := 3) (by decide +kernel))) rfl
set_option maxRecDepth 20000 in
theorem mw_964 : Cond.instanceMethod yX5_strokes ∈ bw_tbl := bw_tg (bw_t5 (List.mem_of_getElem? (i := 4) (by decide +kernel))) rfl
set_option maxRecDepth 20000 in
theorem mw_965 : Cond.selects "BlowerBreathModel" yX5_strokes yX5_strokes ∈ bw_tbl := bw_tg (bw_t5 (List.mem_of_getElem? (i := 5) (by decide +kernel))) rfl
set_option maxRecDepth 20000 in
theorem mw_966 : Cond.code yX5_strokes cX5_strokes 5 (some FieldType.int) ∈ bw_tbl := bw_tg (bw_t5 (List.mem_of_getElem? (i := 6) rfl)) rfl
set_option maxRecDepth 20000 in
theorem mw_967 : Cond.methodLink "BlowerBreathLaw" 141 yX5_kinds ∈ bw_tbl := bw_tg (bw_t5 (List.mem_of_getElem? (i := 7) (by decide +kernel))) rfl
set_option maxRecDepth 20000 in
theorem mw_968 : Cond.instanceMethod yX5_kinds ∈ bw_tbl := bw_tg (bw_t5 (List.mem_of_getElem? (i := 8) (by decide +kernel))) rfl
set_option maxRecDepth 20000 in
theorem mw_969 : Cond.selects "BlowerBreathModel" yX5_kinds yX5_kinds ∈ bw_tbl := bw_tg (bw_t5 (List.mem_of_getElem? (i := 9) (by decide +kernel))) rfl
set_option maxRecDepth 20000 in
theorem mw_970 : Cond.code yX5_kinds cX5_kinds 7 (some FieldType.int) ∈ bw_tbl := bw_tg (bw_t5 (List.mem_of_getElem? (i := 10) rfl)) rfl
set_option maxRecDepth 20000 in
theorem mw_971 : Cond.methodLink "BlowerBreathLaw" 145 yX5_sets ∈ bw_tbl := bw_tg (bw_t5 (List.mem_of_getElem? (i := 11) (by decide +kernel))) rfl
set_option maxRecDepth 20000 in
theorem mw_972 : Cond.instanceMethod yX5_sets ∈ bw_tbl := bw_tg (bw_t5 (List.mem_of_getElem? (i := 12) (by decide +kernel))) rfl
set_option maxRecDepth 20000 in
theorem mw_973 : Cond.selects "BlowerBreathModel" yX5_sets yX5_sets ∈ bw_tbl := bw_tg (bw_t5 (List.mem_of_getElem? (i := 13) (by decide +kernel))) rfl
set_option maxRecDepth 20000 in
theorem mw_974 : Cond.code yX5_sets cX5_sets 5 (some FieldType.int) ∈ bw_tbl := bw_tg (bw_t5 (List.mem_of_getElem? (i := 14) rfl)) rfl
set_option maxRecDepth 20000 in
theorem mw_975 : Cond.methodLink "BlowerBreathModel" 245 yX5_wantsOf ∈ bw_tbl := bw_tg (bw_t5 (List.mem_of_getElem? (i := 15) (by decide +kernel))) rfl
set_option maxRecDepth 20000 in
theorem mw_977 : Cond.instanceMethod yX5_wantsOf ∈ bw_tbl := bw_tg (bw_t5 (List.mem_of_getElem? (i := 17) (by decide +kernel))) rfl
set_option maxRecDepth 20000 in
theorem mw_978 : Cond.code yX5_wantsOf cX5_wantsOf 4 (some FieldType.int) ∈ bw_tbl := bw_tg (bw_t5 (List.mem_of_getElem? (i := 18) rfl)) rfl
set_option maxRecDepth 20000 in
theorem mw_979 : Cond.methodLink "BlowerBreathLaw" 149 yX5_sure ∈ bw_tbl := bw_tg (bw_t5 (List.mem_of_getElem? (i := 19) (by decide +kernel))) rfl
set_option maxRecDepth 20000 in
theorem mw_980 : Cond.instanceMethod yX5_sure ∈ bw_tbl := bw_tg (bw_t5 (List.mem_of_getElem? (i := 20) (by decide +kernel))) rfl
set_option maxRecDepth 20000 in
theorem mw_981 : Cond.selects "BlowerBreathModel" yX5_sure yX5_sure ∈ bw_tbl := bw_tg (bw_t5 (List.mem_of_getElem? (i := 21) (by decide +kernel))) rfl
set_option maxRecDepth 20000 in
theorem mw_982 : Cond.code yX5_sure cX5_sure 6 (some FieldType.int) ∈ bw_tbl := bw_tg (bw_t5 (List.mem_of_getElem? (i := 22) rfl)) rfl
set_option maxRecDepth 20000 in
theorem mw_983 : Cond.methodLink "BlowerBreathLaw" 153 yX5_duel ∈ bw_tbl := bw_tg (bw_t5 (List.mem_of_getElem? (i := 23) (by decide +kernel))) rfl
set_option maxRecDepth 20000 in
theorem mw_984 : Cond.instanceMethod yX5_duel ∈ bw_tbl := bw_tg (bw_t5 (List.mem_of_getElem? (i := 24) (by decide +kernel))) rfl
set_option maxRecDepth 20000 in
theorem mw_985 : Cond.selects "BlowerBreathModel" yX5_duel yX5_duel ∈ bw_tbl := bw_tg (bw_t5 (List.mem_of_getElem? (i := 25) (by decide +kernel))) rfl
set_option maxRecDepth 20000 in
theorem mw_986 : Cond.code yX5_duel cX5_duel 5 (some FieldType.int) ∈ bw_tbl := bw_tg (bw_t5 (List.mem_of_getElem? (i := 26) rfl)) rfl
set_option maxRecDepth 20000 in
theorem mw_987 : Cond.methodLink "BlowerBreathModel" 248 yX5_weighs ∈ bw_tbl := bw_tg (bw_t5 (List.mem_of_getElem? (i := 27) (by decide +kernel))) rfl
set_option maxRecDepth 20000 in
theorem mw_989 : Cond.instanceMethod yX5_weighs ∈ bw_tbl := bw_tg (bw_t5 (List.mem_of_getElem? (i := 29) (by decide +kernel))) rfl
set_option maxRecDepth 20000 in
theorem mw_990 : Cond.code yX5_weighs cX5_weighs 6 (some FieldType.int) ∈ bw_tbl := bw_tg (bw_t5 (List.mem_of_getElem? (i := 30) rfl)) rfl
set_option maxRecDepth 20000 in
theorem mw_991 : Cond.methodLink "BlowerBreathLaw" 157 yX5_odds ∈ bw_tbl := bw_tg (bw_t5 (List.mem_of_getElem? (i := 31) (by decide +kernel))) rfl
set_option maxRecDepth 20000 in
theorem mw_992 : Cond.instanceMethod yX5_odds ∈ bw_tbl := bw_tg (bw_t5 (List.mem_of_getElem? (i := 32) (by decide +kernel))) rfl
set_option maxRecDepth 20000 in
theorem mw_993 : Cond.selects "BlowerBreathModel" yX5_odds yX5_odds ∈ bw_tbl := bw_tg (bw_t5 (List.mem_of_getElem? (i := 33) (by decide +kernel))) rfl
set_option maxRecDepth 20000 in
theorem mw_994 : Cond.code yX5_odds cX5_odds 3 (some FieldType.int) ∈ bw_tbl := bw_tg (bw_t5 (List.mem_of_getElem? (i := 34) rfl)) rfl
set_option maxRecDepth 20000 in
theorem mw_995 : Cond.constantLong "BlowerBreathModel" 252 12 ∈ bw_tbl := bw_tg (bw_t5 (List.mem_of_getElem? (i := 35) (by decide +kernel))) rfl
set_option maxRecDepth 20000 in
theorem mw_996 : Cond.methodLink "BlowerBreathModel" 254 yX5_ways ∈ bw_tbl := bw_tg (bw_t5 (List.mem_of_getElem? (i := 36) (by decide +kernel))) rfl
set_option maxRecDepth 20000 in
theorem mw_998 : Cond.instanceMethod yX5_ways ∈ bw_tbl := bw_tg (bw_t5 (List.mem_of_getElem? (i := 38) (by decide +kernel))) rfl
set_option maxRecDepth 20000 in
theorem mw_999 : Cond.code yX5_ways cX5_ways 9 (some FieldType.long) ∈ bw_tbl := bw_tg (bw_t5 (List.mem_of_getElem? (i := 39) rfl)) rfl
set_option maxRecDepth 20000 in
theorem mw_1000 : Cond.methodLink "BlowerBreathModel" 258 yX5_allWays ∈ bw_tbl := bw_tg (bw_t5 (List.mem_of_getElem? (i := 40) (by decide +kernel))) rfl
set_option maxRecDepth 20000 in
theorem mw_1002 : Cond.instanceMethod yX5_allWays ∈ bw_tbl := bw_tg (bw_t5 (List.mem_of_getElem? (i := 42) (by decide +kernel))) rfl
set_option maxRecDepth 20000 in
theorem mw_1003 : Cond.code yX5_allWays cX5_allWays 4 (some FieldType.long) ∈ bw_tbl := bw_tg (bw_t5 (List.mem_of_getElem? (i := 43) rfl)) rfl
set_option maxRecDepth 20000 in
theorem mw_1004 : Cond.methodLink "BlowerBreathModel" 262 yX5_fraction ∈ bw_tbl := bw_tg (bw_t5 (List.mem_of_getElem? (i := 44) (by decide +kernel))) rfl
set_option maxRecDepth 20000 in
theorem mw_1006 : Cond.instanceMethod yX5_fraction ∈ bw_tbl := bw_tg (bw_t5 (List.mem_of_getElem? (i := 46) (by decide +kernel))) rfl
set_option maxRecDepth 20000 in
theorem mw_1007 : Cond.code yX5_fraction cX5_fraction 11 (some FieldType.int) ∈ bw_tbl := bw_tg (bw_t5 (List.mem_of_getElem? (i := 47) rfl)) rfl
set_option maxRecDepth 20000 in
theorem mw_1008 : Cond.methodLink "BlowerBreathLaw" 161 yX5_mid ∈ bw_tbl := bw_tg (bw_t5 (List.mem_of_getElem? (i := 48) (by decide +kernel))) rfl
set_option maxRecDepth 20000 in
theorem mw_1009 : Cond.instanceMethod yX5_mid ∈ bw_tbl := bw_tg (bw_t5 (List.mem_of_getElem? (i := 49) (by decide +kernel))) rfl
set_option maxRecDepth 20000 in
theorem mw_1010 : Cond.selects "BlowerBreathModel" yX5_mid yX5_mid ∈ bw_tbl := bw_tg (bw_t5 (List.mem_of_getElem? (i := 50) (by decide +kernel))) rfl
set_option maxRecDepth 20000 in
theorem mw_1011 : Cond.code yX5_mid cX5_mid 2 (some FieldType.int) ∈ bw_tbl := bw_tg (bw_t5 (List.mem_of_getElem? (i := 51) rfl)) rfl
set_option maxRecDepth 20000 in
theorem mw_1012 : Cond.methodLink "BlowerBreathLaw" 165 yX5_lots ∈ bw_tbl := bw_tg (bw_t5 (List.mem_of_getElem? (i := 52) (by decide +kernel))) rfl
set_option maxRecDepth 20000 in
theorem mw_1013 : Cond.instanceMethod yX5_lots ∈ bw_tbl := bw_tg (bw_t5 (List.mem_of_getElem? (i := 53) (by decide +kernel))) rfl
set_option maxRecDepth 20000 in
theorem mw_1014 : Cond.selects "BlowerBreathModel" yX5_lots yX5_lots ∈ bw_tbl := bw_tg (bw_t5 (List.mem_of_getElem? (i := 54) (by decide +kernel))) rfl
set_option maxRecDepth 20000 in
theorem mw_1015 : Cond.code yX5_lots cX5_lots 7 (some FieldType.int) ∈ bw_tbl := bw_tg (bw_t5 (List.mem_of_getElem? (i := 55) rfl)) rfl
set_option maxRecDepth 20000 in
theorem mw_1016 : Cond.constantLong "BlowerBreathModel" 266 2147483646 ∈ bw_tbl := bw_tg (bw_t5 (List.mem_of_getElem? (i := 56) (by decide +kernel))) rfl
set_option maxRecDepth 20000 in
theorem mw_1017 : Cond.constantLong "BlowerBreathModel" 268 48271 ∈ bw_tbl := bw_tg (bw_t5 (List.mem_of_getElem? (i := 57) (by decide +kernel))) rfl
set_option maxRecDepth 20000 in
theorem mw_1018 : Cond.constantLong "BlowerBreathModel" 270 2147483647 ∈ bw_tbl := bw_tg (bw_t5 (List.mem_of_getElem? (i := 58) (by decide +kernel))) rfl
set_option maxRecDepth 20000 in
theorem mw_1019 : Cond.methodLink "BlowerBreathModel" 272 yX5_lot ∈ bw_tbl := bw_tg (bw_t5 (List.mem_of_getElem? (i := 59) (by decide +kernel))) rfl
set_option maxRecDepth 20000 in
theorem mw_1021 : Cond.instanceMethod yX5_lot ∈ bw_tbl := bw_tg (bw_t5 (List.mem_of_getElem? (i := 61) (by decide +kernel))) rfl
set_option maxRecDepth 20000 in
theorem mw_1022 : Cond.code yX5_lot cX5_lot 4 none ∈ bw_tbl := bw_tg (bw_t5 (List.mem_of_getElem? (i := 62) rfl)) rfl
set_option maxRecDepth 20000 in
theorem mw_1023 : Cond.methodLink "BlowerBreathLaw" 169 yX5_asked ∈ bw_tbl := bw_tg (bw_t5 (List.mem_of_getElem? (i := 63) (by decide +kernel))) rfl
set_option maxRecDepth 20000 in
theorem mw_1024 : Cond.instanceMethod yX5_asked ∈ bw_tbl := bw_tg (bw_t5 (List.mem_of_getElem? (i := 64) (by decide +kernel))) rfl
set_option maxRecDepth 20000 in
theorem mw_1025 : Cond.selects "BlowerBreathModel" yX5_asked yX5_asked ∈ bw_tbl := bw_tg (bw_t5 (List.mem_of_getElem? (i := 65) (by decide +kernel))) rfl
set_option maxRecDepth 20000 in
theorem mw_1026 : Cond.code yX5_asked cX5_asked 1 (some FieldType.int) ∈ bw_tbl := bw_tg (bw_t5 (List.mem_of_getElem? (i := 66) rfl)) rfl
set_option maxRecDepth 20000 in
theorem mw_1027 : Cond.methodLink "BlowerBreathLaw" 174 yX5_upper ∈ bw_tbl := bw_tg (bw_t5 (List.mem_of_getElem? (i := 67) (by decide +kernel))) rfl
set_option maxRecDepth 20000 in
theorem mw_1028 : Cond.instanceMethod yX5_upper ∈ bw_tbl := bw_tg (bw_t5 (List.mem_of_getElem? (i := 68) (by decide +kernel))) rfl
set_option maxRecDepth 20000 in
theorem mw_1029 : Cond.selects "BlowerBreathModel" yX5_upper yX5_upper ∈ bw_tbl := bw_tg (bw_t5 (List.mem_of_getElem? (i := 69) (by decide +kernel))) rfl
set_option maxRecDepth 20000 in
theorem mw_1030 : Cond.code yX5_upper cX5_upper 1 (some FieldType.long) ∈ bw_tbl := bw_tg (bw_t5 (List.mem_of_getElem? (i := 70) rfl)) rfl
set_option maxRecDepth 20000 in
theorem mw_1031 : Cond.methodLink "BlowerBreathLaw" 178 yX5_lower ∈ bw_tbl := bw_tg (bw_t5 (List.mem_of_getElem? (i := 71) (by decide +kernel))) rfl
set_option maxRecDepth 20000 in
theorem mw_1032 : Cond.instanceMethod yX5_lower ∈ bw_tbl := bw_tg (bw_t5 (List.mem_of_getElem? (i := 72) (by decide +kernel))) rfl
set_option maxRecDepth 20000 in
theorem mw_1033 : Cond.selects "BlowerBreathModel" yX5_lower yX5_lower ∈ bw_tbl := bw_tg (bw_t5 (List.mem_of_getElem? (i := 73) (by decide +kernel))) rfl
set_option maxRecDepth 20000 in
theorem mw_1034 : Cond.code yX5_lower cX5_lower 1 (some FieldType.long) ∈ bw_tbl := bw_tg (bw_t5 (List.mem_of_getElem? (i := 74) rfl)) rfl
set_option maxRecDepth 20000 in
theorem mw_1035 : Cond.methodLink "BlowerBreathLaw" 182 yX5_count ∈ bw_tbl := bw_tg (bw_t5 (List.mem_of_getElem? (i := 75) (by decide +kernel))) rfl
set_option maxRecDepth 20000 in
theorem mw_1036 : Cond.instanceMethod yX5_count ∈ bw_tbl := bw_tg (bw_t5 (List.mem_of_getElem? (i := 76) (by decide +kernel))) rfl
set_option maxRecDepth 20000 in
theorem mw_1037 : Cond.selects "BlowerBreathModel" yX5_count yX5_count ∈ bw_tbl := bw_tg (bw_t5 (List.mem_of_getElem? (i := 77) (by decide +kernel))) rfl
set_option maxRecDepth 20000 in
theorem mw_1038 : Cond.code yX5_count cX5_count 2 (some FieldType.int) ∈ bw_tbl := bw_tg (bw_t5 (List.mem_of_getElem? (i := 78) rfl)) rfl
set_option maxRecDepth 20000 in
theorem mw_1039 : Cond.methodLink "BlowerBreathModel" 276 yX5_together ∈ bw_tbl := bw_tg (bw_t5 (List.mem_of_getElem? (i := 79) (by decide +kernel))) rfl
set_option maxRecDepth 20000 in
theorem mw_1041 : Cond.instanceMethod yX5_together ∈ bw_tbl := bw_tg (bw_t5 (List.mem_of_getElem? (i := 81) (by decide +kernel))) rfl
set_option maxRecDepth 20000 in
theorem mw_1042 : Cond.code yX5_together cX5_together 4 (some FieldType.int) ∈ bw_tbl := bw_tg (bw_t5 (List.mem_of_getElem? (i := 82) rfl)) rfl
set_option maxRecDepth 20000 in
theorem mw_1043 : Cond.methodLink "BlowerBreathModel" 279 yX5_those ∈ bw_tbl := bw_tg (bw_t5 (List.mem_of_getElem? (i := 83) (by decide +kernel))) rfl
set_option maxRecDepth 20000 in
theorem mw_1045 : Cond.instanceMethod yX5_those ∈ bw_tbl := bw_tg (bw_t5 (List.mem_of_getElem? (i := 85) (by decide +kernel))) rfl
set_option maxRecDepth 20000 in
theorem mw_1046 : Cond.code yX5_those cX5_those 4 (some FieldType.int) ∈ bw_tbl := bw_tg (bw_t5 (List.mem_of_getElem? (i := 86) rfl)) rfl
set_option maxRecDepth 20000 in
theorem mw_1047 : Cond.methodLink "BlowerBreathModel" 282 yX5_there ∈ bw_tbl := bw_tg (bw_t5 (List.mem_of_getElem? (i := 87) (by decide +kernel))) rfl
set_option maxRecDepth 20000 in
theorem mw_1048 : Cond.static yX5_there ∈ bw_tbl := bw_tg (bw_t5 (List.mem_of_getElem? (i := 88) (by decide +kernel))) rfl
set_option maxRecDepth 20000 in
theorem mw_1049 : Cond.code yX5_there cX5_there 5 (some FieldType.int) ∈ bw_tbl := bw_tg (bw_t5 (List.mem_of_getElem? (i := 89) rfl)) rfl
set_option maxRecDepth 20000 in
theorem mw_1050 : Cond.methodLink "BlowerBreathLaw" 186 yX5_finding ∈ bw_tbl := bw_tg (bw_t5 (List.mem_of_getElem? (i := 90) (by decide +kernel))) rfl
set_option maxRecDepth 20000 in
theorem mw_1051 : Cond.instanceMethod yX5_finding ∈ bw_tbl := bw_tg (bw_t5 (List.mem_of_getElem? (i := 91) (by decide +kernel))) rfl
set_option maxRecDepth 20000 in
theorem mw_1052 : Cond.selects "BlowerBreathModel" yX5_finding yX5_finding ∈ bw_tbl := bw_tg (bw_t5 (List.mem_of_getElem? (i := 92) (by decide +kernel))) rfl
set_option maxRecDepth 20000 in
theorem mw_1053 : Cond.code yX5_finding cX5_finding 1 (some FieldType.int) ∈ bw_tbl := bw_tg (bw_t5 (List.mem_of_getElem? (i := 93) rfl)) rfl
set_option maxRecDepth 20000 in
theorem mw_1054 : Cond.methodLink "BlowerBreathLaw" 190 yX5_findings ∈ bw_tbl := bw_tg (bw_t5 (List.mem_of_getElem? (i := 94) (by decide +kernel))) rfl
set_option maxRecDepth 20000 in
theorem mw_1055 : Cond.instanceMethod yX5_findings ∈ bw_tbl := bw_tg (bw_t5 (List.mem_of_getElem? (i := 95) (by decide +kernel))) rfl
set_option maxRecDepth 20000 in
theorem mw_1056 : Cond.selects "BlowerBreathModel" yX5_findings yX5_findings ∈ bw_tbl := bw_tg (bw_t5 (List.mem_of_getElem? (i := 96) (by decide +kernel))) rfl
set_option maxRecDepth 20000 in
theorem mw_1057 : Cond.code yX5_findings cX5_findings 2 (some FieldType.int) ∈ bw_tbl := bw_tg (bw_t5 (List.mem_of_getElem? (i := 97) rfl)) rfl
set_option maxRecDepth 20000 in
theorem mw_1058 : Cond.methodLink "BlowerBreathLaw" 194 yX5_digest ∈ bw_tbl := bw_tg (bw_t5 (List.mem_of_getElem? (i := 98) (by decide +kernel))) rfl
set_option maxRecDepth 20000 in
theorem mw_1059 : Cond.instanceMethod yX5_digest ∈ bw_tbl := bw_tg (bw_t5 (List.mem_of_getElem? (i := 99) (by decide +kernel))) rfl
set_option maxRecDepth 20000 in
theorem mw_1060 : Cond.selects "BlowerBreathModel" yX5_digest yX5_digest ∈ bw_tbl := bw_tg (bw_t5 (List.mem_of_getElem? (i := 100) (by decide +kernel))) rfl
set_option maxRecDepth 20000 in
theorem mw_1061 : Cond.code yX5_digest cX5_digest 5 (some FieldType.long) ∈ bw_tbl := bw_tg (bw_t5 (List.mem_of_getElem? (i := 101) rfl)) rfl
set_option maxRecDepth 20000 in
theorem mw_1062 : Cond.constantLong "BlowerBreathModel" 286 17 ∈ bw_tbl := bw_tg (bw_t5 (List.mem_of_getElem? (i := 102) (by decide +kernel))) rfl
set_option maxRecDepth 20000 in
theorem mw_1063 : Cond.constantLong "BlowerBreathModel" 288 31 ∈ bw_tbl := bw_tg (bw_t5 (List.mem_of_getElem? (i := 103) (by decide +kernel))) rfl
set_option maxRecDepth 20000 in
theorem mw_1064 : Cond.methodLink "BlowerBreathModel" 290 yX5_count ∈ bw_tbl := bw_tg (bw_t5 (List.mem_of_getElem? (i := 104) (by decide +kernel))) rfl
set_option maxRecDepth 20000 in
theorem mw_1065 : Cond.selects "BlowerBreath" yX4_found yX4_found ∈ bw_tbl := bw_tg (bw_tp (q := (yX4_found, 17)) (List.mem_of_getElem? (i := 0) (by decide +kernel))) rfl
set_option maxRecDepth 20000 in
theorem mw_1066 : Cond.selects "BlowerBreath" yX4_refusedPlace yX4_refusedPlace ∈ bw_tbl := bw_tg (bw_tp (q := (yX4_refusedPlace, 17)) (List.mem_of_getElem? (i := 1) (by decide +kernel))) rfl
set_option maxRecDepth 20000 in
theorem mw_1067 : Cond.selects "BlowerBreath" yX4_tell yX4_tell ∈ bw_tbl := bw_tg (bw_tp (q := (yX4_tell, 17)) (List.mem_of_getElem? (i := 2) (by decide +kernel))) rfl
set_option maxRecDepth 20000 in
theorem mw_1068 : Cond.selects "BlowerBreath$Reader" yX2_passBlanks yX2_passBlanks ∈ bw_tbl := bw_tg (bw_tp (q := (yX2_passBlanks, 3)) (List.mem_of_getElem? (i := 3) (by decide +kernel))) rfl
set_option maxRecDepth 20000 in
theorem mw_1069 : Cond.selects "BlowerBreath$Reader" yX2_signAt yX2_signAt ∈ bw_tbl := bw_tg (bw_tp (q := (yX2_signAt, 3)) (List.mem_of_getElem? (i := 4) (by decide +kernel))) rfl
set_option maxRecDepth 20000 in
theorem mw_1070 : Cond.selects "BlowerBreath$Reader" yX2_readBellows yX2_readBellows ∈ bw_tbl := bw_tg (bw_tp (q := (yX2_readBellows, 3)) (List.mem_of_getElem? (i := 5) (by decide +kernel))) rfl
set_option maxRecDepth 20000 in
theorem mw_1071 : Cond.selects "BlowerBreath$Reader" yX2_figureAt yX2_figureAt ∈ bw_tbl := bw_tg (bw_tp (q := (yX2_figureAt, 3)) (List.mem_of_getElem? (i := 6) (by decide +kernel))) rfl
set_option maxRecDepth 20000 in
theorem mw_1072 : Cond.selects "BlowerBreath$Town" yX3_restart yX3_restart ∈ bw_tbl := bw_tg (bw_tp (q := (yX3_restart, 13)) (List.mem_of_getElem? (i := 7) (by decide +kernel))) rfl
set_option maxRecDepth 20000 in
theorem mw_1073 : Cond.selects "BlowerBreath$Reader" yX2_readPipe yX2_readPipe ∈ bw_tbl := bw_tg (bw_tp (q := (yX2_readPipe, 3)) (List.mem_of_getElem? (i := 8) (by decide +kernel))) rfl
set_option maxRecDepth 20000 in
theorem mw_1074 : Cond.selects "BlowerBreath" yX4_pipeFact yX4_pipeFact ∈ bw_tbl := bw_tg (bw_tp (q := (yX4_pipeFact, 17)) (List.mem_of_getElem? (i := 9) (by decide +kernel))) rfl
set_option maxRecDepth 20000 in
theorem mw_1075 : Cond.selects "BlowerBreath" yX4_wantingNoMoreThan yX4_wantingNoMoreThan ∈ bw_tbl := bw_tg (bw_tp (q := (yX4_wantingNoMoreThan, 17)) (List.mem_of_getElem? (i := 10) (by decide +kernel))) rfl
set_option maxRecDepth 20000 in
theorem mw_1076 : Cond.selects "BlowerBreath" yX4_perform yX4_perform ∈ bw_tbl := bw_tg (bw_tp (q := (yX4_perform, 17)) (List.mem_of_getElem? (i := 11) (by decide +kernel))) rfl
set_option maxRecDepth 20000 in
theorem mw_1077 : Cond.selects "BlowerBreath$Town" yX3_breathe yX3_breathe ∈ bw_tbl := bw_tg (bw_tp (q := (yX3_breathe, 13)) (List.mem_of_getElem? (i := 12) (by decide +kernel))) rfl
set_option maxRecDepth 20000 in
theorem mw_1078 : Cond.selects "BlowerBreath$Town" yX3_save yX3_save ∈ bw_tbl := bw_tg (bw_tp (q := (yX3_save, 13)) (List.mem_of_getElem? (i := 13) (by decide +kernel))) rfl
set_option maxRecDepth 20000 in
theorem mw_1079 : Cond.selects "BlowerBreath" yX4_spokenIfCut yX4_spokenIfCut ∈ bw_tbl := bw_tg (bw_tp (q := (yX4_spokenIfCut, 17)) (List.mem_of_getElem? (i := 14) (by decide +kernel))) rfl
set_option maxRecDepth 20000 in
theorem mw_1080 : Cond.selects "BlowerBreath" yX4_speakAlways yX4_speakAlways ∈ bw_tbl := bw_tg (bw_tp (q := (yX4_speakAlways, 17)) (List.mem_of_getElem? (i := 15) (by decide +kernel))) rfl
set_option maxRecDepth 20000 in
theorem mw_1081 : Cond.selects "BlowerBreath" yX4_refusedHearing yX4_refusedHearing ∈ bw_tbl := bw_tg (bw_tp (q := (yX4_refusedHearing, 17)) (List.mem_of_getElem? (i := 16) (by decide +kernel))) rfl
set_option maxRecDepth 20000 in
theorem mw_1082 : Cond.selects "BlowerBreath" yX4_leakingFits yX4_leakingFits ∈ bw_tbl := bw_tg (bw_tp (q := (yX4_leakingFits, 17)) (List.mem_of_getElem? (i := 17) (by decide +kernel))) rfl
set_option maxRecDepth 20000 in
theorem mw_1083 : Cond.selects "BlowerBreath" yX4_trialSpeaksLike yX4_trialSpeaksLike ∈ bw_tbl := bw_tg (bw_tp (q := (yX4_trialSpeaksLike, 17)) (List.mem_of_getElem? (i := 18) (by decide +kernel))) rfl
set_option maxRecDepth 20000 in
theorem mw_1084 : Cond.selects "BlowerBreath" yX4_tellShare yX4_tellShare ∈ bw_tbl := bw_tg (bw_tp (q := (yX4_tellShare, 17)) (List.mem_of_getElem? (i := 19) (by decide +kernel))) rfl
set_option maxRecDepth 20000 in
theorem mw_1085 : Cond.selects "BlowerBreath" yX4_tallyNextSpeakers yX4_tallyNextSpeakers ∈ bw_tbl := bw_tg (bw_tp (q := (yX4_tallyNextSpeakers, 17)) (List.mem_of_getElem? (i := 20) (by decide +kernel))) rfl
set_option maxRecDepth 20000 in
theorem mw_1086 : Cond.selects "BlowerBreath" yX4_greaterPart yX4_greaterPart ∈ bw_tbl := bw_tg (bw_tp (q := (yX4_greaterPart, 17)) (List.mem_of_getElem? (i := 21) (by decide +kernel))) rfl
set_option maxRecDepth 20000 in
theorem mw_1087 : Cond.selects "BlowerBreath" yX4_refusedSum yX4_refusedSum ∈ bw_tbl := bw_tg (bw_tp (q := (yX4_refusedSum, 17)) (List.mem_of_getElem? (i := 22) (by decide +kernel))) rfl
set_option maxRecDepth 20000 in
theorem mw_1088 : Cond.selects "BlowerBreath" yX4_bestGain yX4_bestGain ∈ bw_tbl := bw_tg (bw_tp (q := (yX4_bestGain, 17)) (List.mem_of_getElem? (i := 23) (by decide +kernel))) rfl
set_option maxRecDepth 20000 in
theorem mw_1089 : Cond.selects "BlowerBreath" yX4_tellMeanOfNextHour yX4_tellMeanOfNextHour ∈ bw_tbl := bw_tg (bw_tp (q := (yX4_tellMeanOfNextHour, 17)) (List.mem_of_getElem? (i := 24) (by decide +kernel))) rfl
set_option maxRecDepth 20000 in
theorem mw_1090 : Cond.selects "BlowerBreath" yX4_performLot yX4_performLot ∈ bw_tbl := bw_tg (bw_tp (q := (yX4_performLot, 17)) (List.mem_of_getElem? (i := 25) (by decide +kernel))) rfl
set_option maxRecDepth 20000 in
theorem mw_1091 : Cond.selects "BlowerBreath" yX4_keptTowns yX4_keptTowns ∈ bw_tbl := bw_tg (bw_tp (q := (yX4_keptTowns, 17)) (List.mem_of_getElem? (i := 26) (by decide +kernel))) rfl
set_option maxRecDepth 20000 in
theorem mw_1092 : Cond.selects "BlowerBreathModel" yX5_forgets yX5_forgets ∈ bw_tbl := bw_tg (bw_tp (q := (yX5_forgets, 31)) (List.mem_of_getElem? (i := 27) (by decide +kernel))) rfl
set_option maxRecDepth 20000 in
theorem mw_1093 : Cond.selects "BlowerBreathModel" yX5_found yX5_found ∈ bw_tbl := bw_tg (bw_tp (q := (yX5_found, 31)) (List.mem_of_getElem? (i := 28) (by decide +kernel))) rfl
set_option maxRecDepth 20000 in
theorem mw_1094 : Cond.selects "BlowerBreathModel" yX5_tell yX5_tell ∈ bw_tbl := bw_tg (bw_tp (q := (yX5_tell, 31)) (List.mem_of_getElem? (i := 29) (by decide +kernel))) rfl
set_option maxRecDepth 20000 in
theorem mw_1095 : Cond.selects "BlowerBreathModel" yX5_reads yX5_reads ∈ bw_tbl := bw_tg (bw_tp (q := (yX5_reads, 31)) (List.mem_of_getElem? (i := 30) (by decide +kernel))) rfl
set_option maxRecDepth 20000 in
theorem mw_1096 : Cond.selects "BlowerBreathModel" yX5_readsHead yX5_readsHead ∈ bw_tbl := bw_tg (bw_tp (q := (yX5_readsHead, 31)) (List.mem_of_getElem? (i := 31) (by decide +kernel))) rfl
set_option maxRecDepth 20000 in
theorem mw_1097 : Cond.selects "BlowerBreathModel" yX5_skips yX5_skips ∈ bw_tbl := bw_tg (bw_tp (q := (yX5_skips, 31)) (List.mem_of_getElem? (i := 32) (by decide +kernel))) rfl
set_option maxRecDepth 20000 in
theorem mw_1098 : Cond.selects "BlowerBreathModel" yX5_here yX5_here ∈ bw_tbl := bw_tg (bw_tp (q := (yX5_here, 31)) (List.mem_of_getElem? (i := 33) (by decide +kernel))) rfl
set_option maxRecDepth 20000 in
theorem mw_1099 : Cond.selects "BlowerBreathModel" yX5_isFigure yX5_isFigure ∈ bw_tbl := bw_tg (bw_tp (q := (yX5_isFigure, 31)) (List.mem_of_getElem? (i := 34) (by decide +kernel))) rfl
set_option maxRecDepth 20000 in
theorem mw_1100 : Cond.selects "BlowerBreathModel" yX5_readsPipe yX5_readsPipe ∈ bw_tbl := bw_tg (bw_tp (q := (yX5_readsPipe, 31)) (List.mem_of_getElem? (i := 35) (by decide +kernel))) rfl
set_option maxRecDepth 20000 in
theorem mw_1101 : Cond.selects "BlowerBreathModel" yX5_isPipe yX5_isPipe ∈ bw_tbl := bw_tg (bw_tp (q := (yX5_isPipe, 31)) (List.mem_of_getElem? (i := 36) (by decide +kernel))) rfl
set_option maxRecDepth 20000 in
theorem mw_1102 : Cond.selects "BlowerBreathModel" yX5_wantsOn yX5_wantsOn ∈ bw_tbl := bw_tg (bw_tp (q := (yX5_wantsOn, 31)) (List.mem_of_getElem? (i := 37) (by decide +kernel))) rfl
set_option maxRecDepth 20000 in
theorem mw_1103 : Cond.selects "BlowerBreathModel" yX5_isCutOff yX5_isCutOff ∈ bw_tbl := bw_tg (bw_tp (q := (yX5_isCutOff, 31)) (List.mem_of_getElem? (i := 38) (by decide +kernel))) rfl
set_option maxRecDepth 20000 in
theorem mw_1104 : Cond.selects "BlowerBreathModel" yX5_refuses yX5_refuses ∈ bw_tbl := bw_tg (bw_tp (q := (yX5_refuses, 31)) (List.mem_of_getElem? (i := 39) (by decide +kernel))) rfl
set_option maxRecDepth 20000 in
theorem mw_1105 : Cond.selects "BlowerBreathModel" yX5_remember yX5_remember ∈ bw_tbl := bw_tg (bw_tp (q := (yX5_remember, 31)) (List.mem_of_getElem? (i := 40) (by decide +kernel))) rfl
set_option maxRecDepth 20000 in
theorem mw_1106 : Cond.selects "BlowerBreathModel" yX5_goes yX5_goes ∈ bw_tbl := bw_tg (bw_tp (q := (yX5_goes, 31)) (List.mem_of_getElem? (i := 41) (by decide +kernel))) rfl
set_option maxRecDepth 20000 in
theorem mw_1107 : Cond.selects "BlowerBreathModel" yX5_takes yX5_takes ∈ bw_tbl := bw_tg (bw_tp (q := (yX5_takes, 31)) (List.mem_of_getElem? (i := 42) (by decide +kernel))) rfl
set_option maxRecDepth 20000 in
theorem mw_1108 : Cond.selects "BlowerBreathModel" yX5_turns yX5_turns ∈ bw_tbl := bw_tg (bw_tp (q := (yX5_turns, 31)) (List.mem_of_getElem? (i := 43) (by decide +kernel))) rfl
set_option maxRecDepth 20000 in
theorem mw_1109 : Cond.selects "BlowerBreathModel" yX5_layAside yX5_layAside ∈ bw_tbl := bw_tg (bw_tp (q := (yX5_layAside, 31)) (List.mem_of_getElem? (i := 44) (by decide +kernel))) rfl
set_option maxRecDepth 20000 in
theorem mw_1110 : Cond.selects "BlowerBreathModel" yX5_answer yX5_answer ∈ bw_tbl := bw_tg (bw_tp (q := (yX5_answer, 31)) (List.mem_of_getElem? (i := 45) (by decide +kernel))) rfl
set_option maxRecDepth 20000 in
theorem mw_1111 : Cond.selects "BlowerBreathModel" yX5_arePipes yX5_arePipes ∈ bw_tbl := bw_tg (bw_tp (q := (yX5_arePipes, 31)) (List.mem_of_getElem? (i := 46) (by decide +kernel))) rfl
set_option maxRecDepth 20000 in
theorem mw_1112 : Cond.selects "BlowerBreathModel" yX5_refusesAll yX5_refusesAll ∈ bw_tbl := bw_tg (bw_tp (q := (yX5_refusesAll, 31)) (List.mem_of_getElem? (i := 47) (by decide +kernel))) rfl
set_option maxRecDepth 20000 in
theorem mw_1113 : Cond.selects "BlowerBreathModel" yX5_refusesRow yX5_refusesRow ∈ bw_tbl := bw_tg (bw_tp (q := (yX5_refusesRow, 31)) (List.mem_of_getElem? (i := 48) (by decide +kernel))) rfl
set_option maxRecDepth 20000 in
theorem mw_1114 : Cond.selects "BlowerBreathModel" yX5_mayLeak yX5_mayLeak ∈ bw_tbl := bw_tg (bw_tp (q := (yX5_mayLeak, 31)) (List.mem_of_getElem? (i := 49) (by decide +kernel))) rfl
set_option maxRecDepth 20000 in
theorem mw_1115 : Cond.selects "BlowerBreathModel" yX5_goesAs yX5_goesAs ∈ bw_tbl := bw_tg (bw_tp (q := (yX5_goesAs, 31)) (List.mem_of_getElem? (i := 50) (by decide +kernel))) rfl
set_option maxRecDepth 20000 in
theorem mw_1116 : Cond.selects "BlowerBreathModel" yX5_counted yX5_counted ∈ bw_tbl := bw_tg (bw_tp (q := (yX5_counted, 31)) (List.mem_of_getElem? (i := 51) (by decide +kernel))) rfl
set_option maxRecDepth 20000 in
theorem mw_1117 : Cond.selects "BlowerBreathModel" yX5_wantsOf yX5_wantsOf ∈ bw_tbl := bw_tg (bw_tp (q := (yX5_wantsOf, 31)) (List.mem_of_getElem? (i := 52) (by decide +kernel))) rfl
set_option maxRecDepth 20000 in
theorem mw_1118 : Cond.selects "BlowerBreathModel" yX5_weighs yX5_weighs ∈ bw_tbl := bw_tg (bw_tp (q := (yX5_weighs, 31)) (List.mem_of_getElem? (i := 53) (by decide +kernel))) rfl
set_option maxRecDepth 20000 in
theorem mw_1119 : Cond.selects "BlowerBreathModel" yX5_ways yX5_ways ∈ bw_tbl := bw_tg (bw_tp (q := (yX5_ways, 31)) (List.mem_of_getElem? (i := 54) (by decide +kernel))) rfl
set_option maxRecDepth 20000 in
theorem mw_1120 : Cond.selects "BlowerBreathModel" yX5_allWays yX5_allWays ∈ bw_tbl := bw_tg (bw_tp (q := (yX5_allWays, 31)) (List.mem_of_getElem? (i := 55) (by decide +kernel))) rfl
set_option maxRecDepth 20000 in
theorem mw_1121 : Cond.selects "BlowerBreathModel" yX5_fraction yX5_fraction ∈ bw_tbl := bw_tg (bw_tp (q := (yX5_fraction, 31)) (List.mem_of_getElem? (i := 56) (by decide +kernel))) rfl
set_option maxRecDepth 20000 in
theorem mw_1122 : Cond.selects "BlowerBreathModel" yX5_lot yX5_lot ∈ bw_tbl := bw_tg (bw_tp (q := (yX5_lot, 31)) (List.mem_of_getElem? (i := 57) (by decide +kernel))) rfl
set_option maxRecDepth 20000 in
theorem mw_1123 : Cond.selects "BlowerBreathModel" yX5_together yX5_together ∈ bw_tbl := bw_tg (bw_tp (q := (yX5_together, 31)) (List.mem_of_getElem? (i := 58) (by decide +kernel))) rfl
set_option maxRecDepth 20000 in
theorem mw_1124 : Cond.selects "BlowerBreathModel" yX5_those yX5_those ∈ bw_tbl := bw_tg (bw_tp (q := (yX5_those, 31)) (List.mem_of_getElem? (i := 59) (by decide +kernel))) rfl
set_option maxRecDepth 20000 in
theorem inX0 : ∀ w ∈ wsX00, w ∈ bw_tbl := fun w h => bw_tg ((show ∀ w ∈ wsX00, w ∈ lw_tbl by decide +kernel) w h) ((show ∀ w ∈ wsX00, goodWord w = true by decide +kernel) w h)
set_option maxRecDepth 20000 in
theorem inX2 : ∀ w ∈ wsX20, w ∈ bw_tbl := fun w h => bw_tg ((show ∀ w ∈ wsX20, w ∈ lw_tbl by decide +kernel) w h) ((show ∀ w ∈ wsX20, goodWord w = true by decide +kernel) w h)
set_option maxRecDepth 20000 in
theorem inX3 : ∀ w ∈ wsX30, w ∈ bw_tbl := fun w h => bw_tg ((show ∀ w ∈ wsX30, w ∈ lw_tbl by decide +kernel) w h) ((show ∀ w ∈ wsX30, goodWord w = true by decide +kernel) w h)
set_option maxRecDepth 20000 in
theorem inX4 : ∀ w ∈ wsX40, w ∈ bw_tbl := fun w h => bw_tg ((show ∀ w ∈ wsX40, w ∈ lw_tbl by decide +kernel) w h) ((show ∀ w ∈ wsX40, goodWord w = true by decide +kernel) w h)
set_option maxRecDepth 20000 in
theorem inX5 : ∀ w ∈ wsX50, w ∈ bw_tbl := fun w h => bw_tg ((show ∀ w ∈ wsX50, w ∈ lw_tbl by decide +kernel) w h) ((show ∀ w ∈ wsX50, goodWord w = true by decide +kernel) w h)
theorem bw_good : ∀ w ∈ bw_tbl, goodWord w = true := fun w h => (List.mem_filter.mp h).2
end
section
/-! A world whose cells are fixed: memory, shapes, the judgement bw_At, a row an instruction -/
abbrev bw_M : Type := (Nat → Nat → Int32) × (Nat → Int64) × Option Nat
/-- a cell's whole row of numbers -/
def bw_pA (M : bw_M) (q : Nat) (f : Nat → Int32) : bw_M := (fun a => if a = q then f else M.1 a, M.2)
def bw_pI (M : bw_M) (q i : Nat) (v : Int32) : bw_M := bw_pA M q (upd (M.1 q) i v)
def bw_pL (M : bw_M) (i : Nat) (v : Int64) : bw_M := (M.1, vp_updL M.2.1 i v, M.2.2)
def bw_pR (M : bw_M) (o : Option Nat) : bw_M := (M.1, M.2.1, o)
/-- an object (its class' number, its fields' kinds: 0 int, 1 long, 2 the moving reference, k + 3 the cell k), a row of numbers (its type's number, its length), a row of references -/
abbrev bw_Sh : Type := (Nat × List Nat) ⊕ (Nat × Nat) ⊕ (Nat × List Nat)
def bw_fv (ρ : Nat → Nat) (M : bw_M) (q i : Nat) : Nat → Value
  | 0 => .int (M.1 q i)
  | 1 => .long (M.2.1 i)
  | 2 => va_rf (M.2.2.map ρ)
  | k + 3 => .ref (ρ k)
def bw_fvs (ρ : Nat → Nat) (M : bw_M) (q : Nat) : Nat → List Nat → List Value
  | _, [] => []
  | i, f :: fl => bw_fv ρ M q i f :: bw_fvs ρ M q (i + 1) fl
theorem bw_fvs_get (ρ : Nat → Nat) (M : bw_M) (q : Nat) : ∀ (fl : List Nat) (i k : Nat), (bw_fvs ρ M q i fl)[k]? = (fl[k]?).map (bw_fv ρ M q (i + k))
  | [], i, k => by simp [bw_fvs]
  | f :: fl, i, 0 => by simp [bw_fvs]
  | f :: fl, i, k + 1 => by
    have h := bw_fvs_get ρ M q fl (i + 1) k
    simp only [bw_fvs, List.getElem?_cons_succ]
    rw [h, show i + 1 + k = i + (k + 1) by omega]
theorem bw_fvs_len (ρ : Nat → Nat) (M : bw_M) (q : Nat) : ∀ (fl : List Nat) (i : Nat), (bw_fvs ρ M q i fl).length = fl.length
  | [], i => rfl
  | f :: fl, i => by simp [bw_fvs, bw_fvs_len ρ M q fl (i + 1)]
def bw_ce (sh : Nat → bw_Sh) (kT : Nat → ClassId) (ρ : Nat → Nat) (M : bw_M) (q : Nat) : va_E := match sh q with
  | .inl (ci, fl) => .inr (ci, bw_fvs ρ M q 0 fl)
  | .inr (.inl (t, k)) => .inl (kT t, k, .inl (M.1 q))
  | .inr (.inr (t, ids)) => .inl (kT t, ids.length, .inr (.inr (.inr (.inr (fun i => ids[i]?.map ρ)))))
def bw_wo (sh : Nat → bw_Sh) (n : Nat) (kT : Nat → ClassId) (ρ : Nat → Nat) (M : bw_M) : va_W := (List.range n).map (fun q => (ρ q, bw_ce sh kT ρ M q))
def bw_ty (kT : Nat → ClassId) : List (ClassId × FieldType) := [(kT 0, .int), (kT 1, .byte), (kT 2, .array .int), (kT 3, .array .byte), (kT 4, .object "BlowerBreath$Deeds")]
def bw_A (ρ : Nat → Nat) (n : Nat) : Nat → Prop := fun a => ∃ q, q < n ∧ a = ρ q
def bw_inj (ρ : Nat → Nat) (n : Nat) : Prop := ∀ i j, i < n → j < n → ρ i = ρ j → i = j
theorem bw_wo_get {sh : Nat → bw_Sh} {n : Nat} {kT : Nat → ClassId} {ρ : Nat → Nat} {M : bw_M} {q : Nat} (h : q < n) : (bw_wo sh n kT ρ M)[q]? = some (ρ q, bw_ce sh kT ρ M q) := by
  simp [bw_wo, h]
theorem bw_wo_set {sh : Nat → bw_Sh} {n : Nat} {kT : Nat → ClassId} {ρ : Nat → Nat} {M M' : bw_M} {q : Nat} {e : va_E} (he : e = bw_ce sh kT ρ M' q) (ho : ∀ j, j ≠ q → bw_ce sh kT ρ M' j = bw_ce sh kT ρ M j) : (bw_wo sh n kT ρ M).set q (ρ q, e) = bw_wo sh n kT ρ M' := by
  subst he
  apply List.ext_getElem?
  intro k
  by_cases hk : k = q
  · subst hk
    by_cases hl : k < n
    · rw [List.getElem?_set_self (by simp [bw_wo, hl]), bw_wo_get hl]
    · simp [bw_wo, hl]
  · rw [List.getElem?_set_ne (Ne.symm hk)]
    by_cases hl : k < n
    · rw [bw_wo_get hl, bw_wo_get hl, ho k hk]
    · simp [bw_wo, hl]
theorem bw_wo_D {sh : Nat → bw_Sh} {n : Nat} {kT : Nat → ClassId} {ρ : Nat → Nat} (h : bw_inj ρ n) (M : bw_M) : va_D (bw_A ρ n) (bw_wo sh n kT ρ M) := by
  have key : ∀ (k : Nat) (q : Nat × va_E), (bw_wo sh n kT ρ M)[k]? = some q → k < n ∧ q.1 = ρ k := by
    intro k q hk
    by_cases hl : k < n
    · rw [bw_wo_get hl] at hk
      cases hk
      exact ⟨hl, rfl⟩
    · simp [bw_wo, hl] at hk
  refine ⟨fun i j x y hi hj hxy => ?_, fun k q hk => ?_⟩
  · obtain ⟨h1, h2⟩ := key i x hi
    obtain ⟨h3, h4⟩ := key j y hj
    exact h i j h1 h3 (by rw [← h2, ← h4]; exact hxy)
  · obtain ⟨h1, h2⟩ := key k q hk
    exact ⟨k, h1, h2⟩
theorem bw_pA_self (M : bw_M) (q : Nat) (f : Nat → Int32) : (bw_pA M q f).1 q = f := by simp [bw_pA]
theorem bw_pA_ne (M : bw_M) {q a : Nat} (f : Nat → Int32) (h : a ≠ q) : (bw_pA M q f).1 a = M.1 a := by simp [bw_pA, h]
theorem bw_fv_pA {ρ : Nat → Nat} {M : bw_M} {q a : Nat} (f : Nat → Int32) (h : a ≠ q) (i k : Nat) : bw_fv ρ (bw_pA M q f) a i k = bw_fv ρ M a i k := by
  match k with
  | 0 => simp [bw_fv, bw_pA_ne M f h]
  | 1 => rfl
  | 2 => rfl
  | k + 3 => rfl
theorem bw_fvs_ext {ρ : Nat → Nat} {M M' : bw_M} {q : Nat} {fl : List Nat} (h : ∀ i k, fl[i]? = some k → bw_fv ρ M' q i k = bw_fv ρ M q i k) : bw_fvs ρ M' q 0 fl = bw_fvs ρ M q 0 fl := by
  apply List.ext_getElem?
  intro k
  rw [bw_fvs_get, bw_fvs_get]
  cases hk : fl[k]? with
  | none => rfl
  | some z => simp only [Option.map_some, Nat.zero_add]; rw [h k z hk]
theorem bw_ce_pA {sh : Nat → bw_Sh} {kT : Nat → ClassId} {ρ : Nat → Nat} {M : bw_M} {q : Nat} (f : Nat → Int32) (j : Nat) (h : j ≠ q) : bw_ce sh kT ρ (bw_pA M q f) j = bw_ce sh kT ρ M j := by
  unfold bw_ce
  split
  · rw [bw_fvs_ext (fun i k _ => bw_fv_pA f h i k)]
  · rw [bw_pA_ne M f h]
  · rfl
theorem bw_fvs_set {ρ : Nat → Nat} {M M' : bw_M} {q k : Nat} {fl : List Nat} {v : Value} (h0 : ∀ z, fl[k]? = some z → bw_fv ρ M' q k z = v) (h : ∀ i z, i ≠ k → fl[i]? = some z → bw_fv ρ M' q i z = bw_fv ρ M q i z) : (bw_fvs ρ M q 0 fl).set k v = bw_fvs ρ M' q 0 fl := by
  apply List.ext_getElem?
  intro i
  by_cases hi : i = k
  · subst hi
    by_cases hl : i < fl.length
    · rw [List.getElem?_set_self (by rw [bw_fvs_len]; exact hl), bw_fvs_get]
      obtain ⟨z, hz⟩ : ∃ z, fl[i]? = some z := ⟨_, List.getElem?_eq_getElem hl⟩
      rw [hz, Option.map_some, Nat.zero_add, h0 z hz]
    · have e1 : ((bw_fvs ρ M q 0 fl).set i v)[i]? = none := by
        rw [List.getElem?_eq_none_iff, List.length_set, bw_fvs_len]; omega
      have e2 : (bw_fvs ρ M' q 0 fl)[i]? = none := by
        rw [List.getElem?_eq_none_iff, bw_fvs_len]; omega
      rw [e1, e2]
  · rw [List.getElem?_set_ne (Ne.symm hi), bw_fvs_get, bw_fvs_get]
    cases hk : fl[i]? with
    | none => rfl
    | some z => simp only [Option.map_some, Nat.zero_add]; rw [h i z hi hk]
/-- loops: the body is given what comes next -/
def bw_lp {σ τ : Type} (body : (σ → Option τ) → σ → Option τ) : Nat → σ → Option τ
  | 0, _ => none
  | k + 1, z => body (bw_lp body k) z
theorem bw_lp_s {σ τ : Type} (body : (σ → Option τ) → σ → Option τ) (k : Nat) (z : σ) : bw_lp body (k + 1) z = body (bw_lp body k) z := rfl
theorem bw_loop {σ τ : Type} {body : (σ → Option τ) → σ → Option τ} {r : τ} (hd : σ → Prop) (hb : ∀ k : σ → Option τ, (∀ z, k z = some r → hd z) → ∀ z, body k z = some r → hd z) : ∀ (k : Nat) (z : σ), bw_lp body k z = some r → hd z
  | 0, z, h => by cases h
  | k + 1, z, h => hb (bw_lp body k) (bw_loop hd hb k) z h
/-- a value that gets a name -/
def bw_mv {α τ : Type} (x : α) (k : α → Option τ) : Option τ := k x
theorem bw_mv_o {α τ : Type} {x : α} {k : α → Option τ} {r : τ} (h : bw_mv x k = some r) : ∃ y, y = x ∧ k y = some r := ⟨x, rfl, h⟩
def bw_ib (i : Int32) (n : Nat) : Bool := decide (0 ≤ i.toInt ∧ i.toInt < n)
theorem bw_ib_in {i : Int32} {n : Nat} (h : bw_ib i n = true) : vp_in i n := vp_in_iff.mpr (by simpa [bw_ib] using h)
/-- an element of a row, if there is one -/
def bw_rd {τ : Type} (M : bw_M) (q n : Nat) (i : Int32) (k : Int32 → Option τ) : Option τ := if bw_ib i n = true then k (M.1 q i.toNatClampNeg) else none
theorem bw_rd_o {τ : Type} {M : bw_M} {q n : Nat} {i : Int32} {k : Int32 → Option τ} {r : τ} (h : bw_rd M q n i k = some r) : bw_ib i n = true ∧ ∃ v, v = M.1 q i.toNatClampNeg ∧ k v = some r := by
  unfold bw_rd at h
  split at h
  · exact ⟨by assumption, _, rfl, h⟩
  · cases h
def bw_wr {τ : Type} (M : bw_M) (q n : Nat) (i v : Int32) (k : bw_M → Option τ) : Option τ := if bw_ib i n = true then k (bw_pI M q i.toNatClampNeg v) else none
theorem bw_wr_o {τ : Type} {M : bw_M} {q n : Nat} {i v : Int32} {k : bw_M → Option τ} {r : τ} (h : bw_wr M q n i v k = some r) : bw_ib i n = true ∧ ∃ M', M' = bw_pI M q i.toNatClampNeg v ∧ k M' = some r := by
  unfold bw_wr at h
  split at h
  · exact ⟨by assumption, _, rfl, h⟩
  · cases h
/-- an element of a row of references: its place, if there is one -/
def bw_ra {τ : Type} (n : Nat) (i : Int32) (k : Nat → Option τ) : Option τ := if bw_ib i n = true then k i.toNatClampNeg else none
theorem bw_ra_o {τ : Type} {n : Nat} {i : Int32} {k : Nat → Option τ} {r : τ} (h : bw_ra n i k = some r) : bw_ib i n = true ∧ ∃ j, j = i.toNatClampNeg ∧ j < n ∧ k j = some r := by
  unfold bw_ra at h
  split at h
  · rename_i hi
    refine ⟨hi, _, rfl, ?_, h⟩
    have := bw_ib_in hi
    exact Nat.not_le.mp fun q => this (Or.inr q)
  · cases h
/-- a test that must hold -/
def bw_ck {τ : Type} (b : Bool) (x : Option τ) : Option τ := if b = true then x else none
theorem bw_ck_o {τ : Type} {b : Bool} {x : Option τ} {r : τ} (h : bw_ck b x = some r) : b = true ∧ x = some r := by
  unfold bw_ck at h
  split at h
  · exact ⟨by assumption, h⟩
  · cases h
/-- rows copied -/
def bw_cp {τ : Type} (M : bw_M) (qs ns : Nat) (sp : Int32) (qd nd : Nat) (dp k : Int32) (z : bw_M → Option τ) : Option τ :=
  if 0 ≤ sp ∧ 0 ≤ dp ∧ 0 ≤ k ∧ sp.toNatClampNeg + k.toNatClampNeg ≤ ns ∧ dp.toNatClampNeg + k.toNatClampNeg ≤ nd then z (bw_pA M qd (va_cpy (M.1 qs) (M.1 qd) sp.toNatClampNeg dp.toNatClampNeg k.toNatClampNeg)) else none
theorem bw_cp_o {τ : Type} {M : bw_M} {qs ns : Nat} {sp : Int32} {qd nd : Nat} {dp k : Int32} {z : bw_M → Option τ} {r : τ} (h : bw_cp M qs ns sp qd nd dp k z = some r) : (0 ≤ sp ∧ 0 ≤ dp ∧ 0 ≤ k ∧ sp.toNatClampNeg + k.toNatClampNeg ≤ ns ∧ dp.toNatClampNeg + k.toNatClampNeg ≤ nd) ∧ ∃ M', M' = bw_pA M qd (va_cpy (M.1 qs) (M.1 qd) sp.toNatClampNeg dp.toNatClampNeg k.toNatClampNeg) ∧ z M' = some r := by
  unfold bw_cp at h
  split at h
  · exact ⟨by assumption, _, rfl, h⟩
  · cases h
def bw_cl {α τ : Type} (x : Option α) (k : α → Option τ) : Option τ := match x with
  | none => none
  | some a => k a
theorem bw_cl_o {α τ : Type} {x : Option α} {k : α → Option τ} {r : τ} (h : bw_cl x k = some r) : ∃ a, x = some a ∧ k a = some r := by
  cases x with
  | none => cases h
  | some a => exact ⟨a, rfl, h⟩
def bw_ws (y : MethodName) (cc : ByteArray) (nL : Nat) (rt : Option FieldType) : List Cond := Cond.code y cc nL rt :: bw_tbl
/-- what the tables say of a method, and its name's form -/
def bw_MV (y : MethodName) (cc : ByteArray) (nL : Nat) (rt : Option FieldType) (C0 : String) (na : Nat) : Prop := Cond.instanceMethod y ∈ bw_tbl ∧ Cond.selects C0 y y ∈ bw_tbl ∧ Cond.initialized C0 ∈ bw_tbl ∧ Cond.code y cc nL rt ∈ bw_tbl ∧ (y.cls = C0 ∧ y.cls ≠ "java/lang/invoke/MethodHandle" ∧ y.cls ≠ "java/lang/invoke/VarHandle" ∧ (parseMethodDescriptor y.desc).map (fun d => d.parameters.length) = some na)
def bw_MS (y : MethodName) (cc : ByteArray) (nL : Nat) (rt : Option FieldType) (na : Nat) : Prop := Cond.static y ∈ bw_tbl ∧ Cond.initialized y.cls ∈ bw_tbl ∧ Cond.code y cc nL rt ∈ bw_tbl ∧ (y.cls ≠ "java/lang/invoke/MethodHandle" ∧ y.cls ≠ "java/lang/invoke/VarHandle" ∧ (parseMethodDescriptor y.desc).map (fun d => d.parameters.length) = some na)
theorem bw_gw {y : MethodName} {cc : ByteArray} {nL : Nat} {rt : Option FieldType} (h : Cond.code y cc nL rt ∈ bw_tbl) : GoodIn bw_tbl (bw_ws y cc nL rt) := fun w hw => by
  rcases List.mem_cons.mp hw with rfl | hw
  · exact ⟨h, good_of_word (bw_good _ h)⟩
  · exact ⟨hw, good_of_word (bw_good _ hw)⟩
theorem bw_g1 {w : Cond} (h : w ∈ bw_tbl) : w ∈ bw_tbl ∧ ((w.onTables && w.keeps) = true ∨ ∃ ty, w = .arrayClass ty) := ⟨h, good_of_word (bw_good _ h)⟩
theorem bw_gV {own : String} {ix : Nat} {y : MethodName} {cc : ByteArray} {nL : Nat} {rt : Option FieldType} {C0 : String} {na : Nat} (hm : bw_MV y cc nL rt C0 na) (hl : Cond.methodLink own ix y ∈ bw_tbl) : GoodIn bw_tbl (wsV own ix C0 y (bw_ws y cc nL rt)) := by
  intro w hw
  rcases List.mem_append.mp hw with hw | hw
  · simp only [List.mem_cons, List.not_mem_nil, or_false] at hw
    rcases hw with rfl | rfl | rfl | rfl
    · exact bw_g1 hl
    · exact bw_g1 hm.1
    · exact bw_g1 hm.2.1
    · exact bw_g1 hm.2.2.1
  · exact bw_gw hm.2.2.2.1 w hw
theorem bw_gS {own : String} {ix : Nat} {y : MethodName} {cc : ByteArray} {nL : Nat} {rt : Option FieldType} {na : Nat} (hm : bw_MS y cc nL rt na) (hl : Cond.methodLink own ix y ∈ bw_tbl) : GoodIn bw_tbl (va_wsS own ix y (bw_ws y cc nL rt)) := by
  intro w hw
  rcases List.mem_append.mp hw with hw | hw
  · simp only [List.mem_cons, List.not_mem_nil, or_false] at hw
    rcases hw with rfl | rfl | rfl
    · exact bw_g1 hl
    · exact bw_g1 hm.1
    · exact bw_g1 hm.2.1
  · exact bw_gw hm.2.2.1 w hw
section BW
variable {p : Program} {l : Launch} {e : Env} {R : Room} {s : State} {m : MethodId} {args : Array Value} {below : List Frame} {meth : Method} {c : Code} {Q : State → Prop}
variable {sh : Nat → bw_Sh} {n : Nat} {D : va_G} {kT : Nat → ClassId} {ρ : Nat → Nat} {cc : ByteArray} {nL : Nat} {own : String} {rt : Option FieldType}
variable {pc : Nat} {L : List (Nat × Value)} {st rest : List Value} {M : bw_M}
def bw_At (p : Program) (l : Launch) (e : Env) (R : Room) (s : State) (m : MethodId) (args : Array Value) (below : List Frame) (meth : Method) (c : Code) (Q : State → Prop) (sh : Nat → bw_Sh) (n : Nat) (D : va_G) (kT : Nat → ClassId) (ρ : Nat → Nat) (nL : Nat) (pc : Nat) (L : List (Nat × Value)) (st : List Value) (M : bw_M) : Prop :=
  ∀ (H : Heap) (locs : List Loc) (ls : Array Slot), va_P D vwCl (bw_wo sh n kT ρ M) H → va_S (bw_A ρ n) s.heap H locs → lv_has ls nL L → W p l e R s m args below meth c H locs 0 0 Q (F0 m pc ls st)
def bw_Cx (p : Program) (s : State) (m : MethodId) (args : Array Value) (meth : Method) (c : Code) (cc : ByteArray) (nL : Nat) (own : String) (n : Nat) (D : va_G) (kT : Nat → ClassId) (ρ : Nat → Nat) (rt : Option FieldType) : Prop :=
  p.tables.exec = Jvm.exec ∧ c.code = cc ∧ c.maxLocals = nL ∧ s.vm.findClass own = some m.cls ∧ (∀ w ∈ bw_tbl, w.before args s = true) ∧ va_K D vwCl (bw_ty kT) s ∧ bw_inj ρ n ∧ meth.sig.returnType = rt ∧ meth.locks = false
theorem bw_iconst (C : bw_Cx p s m args meth c cc nL own n D kT ρ rt) {i : Int} {v : Int32} (d : decode cc pc = .ok (.iconst i, 1)) (hv : Int32.ofInt i = v) (k : bw_At p l e R s m args below meth c Q sh n D kT ρ nL (pc + 1) L (.int v :: st) M) : bw_At p l e R s m args below meth c Q sh n D kT ρ nL pc L (st) M := fun H locs ls hP hS hl => lv_iconst C.1 C.2.1 d hv (k H locs ls hP hS hl)
theorem bw_bipush (C : bw_Cx p s m args meth c cc nL own n D kT ρ rt) {i : Int} {v : Int32} (d : decode cc pc = .ok (.bipush i, 2)) (hv : (Int8.ofInt i).toInt32 = v) (k : bw_At p l e R s m args below meth c Q sh n D kT ρ nL (pc + 2) L (.int v :: st) M) : bw_At p l e R s m args below meth c Q sh n D kT ρ nL pc L (st) M := fun H locs ls hP hS hl => lv_bipush C.1 C.2.1 d hv (k H locs ls hP hS hl)
theorem bw_sipush (C : bw_Cx p s m args meth c cc nL own n D kT ρ rt) {i : Int} {v : Int32} (d : decode cc pc = .ok (.sipush i, 3)) (hv : (Int16.ofInt i).toInt32 = v) (k : bw_At p l e R s m args below meth c Q sh n D kT ρ nL (pc + 3) L (.int v :: st) M) : bw_At p l e R s m args below meth c Q sh n D kT ρ nL pc L (st) M := fun H locs ls hP hS hl => lv_sipush C.1 C.2.1 d hv (k H locs ls hP hS hl)
theorem bw_lconst (C : bw_Cx p s m args meth c cc nL own n D kT ρ rt) {i : Fin 2} {v : Int64} (d : decode cc pc = .ok (.lconst i, 1)) (hv : Int64.ofNat (i : Nat) = v) (k : bw_At p l e R s m args below meth c Q sh n D kT ρ nL (pc + 1) L (.long v :: st) M) : bw_At p l e R s m args below meth c Q sh n D kT ρ nL pc L (st) M := fun H locs ls hP hS hl => lv_lconst C.1 C.2.1 d hv (k H locs ls hP hS hl)
theorem bw_iload_n (C : bw_Cx p s m args meth c cc nL own n D kT ρ rt) {i : Fin 4} {j : Nat} {x : Int32} (k0 : Nat) (d : decode cc pc = .ok (.iload_n i, 1)) (hi : (i : Nat) = j) (hL : L[k0]? = some (j, .int x)) (k : bw_At p l e R s m args below meth c Q sh n D kT ρ nL (pc + 1) L (.int x :: st) M) : bw_At p l e R s m args below meth c Q sh n D kT ρ nL pc L (st) M := fun H locs ls hP hS hl => lv_iload_n C.1 C.2.1 d hi (lv_at hl k0 hL) (k H locs ls hP hS hl)
theorem bw_iload (C : bw_Cx p s m args meth c cc nL own n D kT ρ rt) {j : Nat} {x : Int32} (k0 : Nat) (d : decode cc pc = .ok (.iload j, 2)) (hL : L[k0]? = some (j, .int x)) (k : bw_At p l e R s m args below meth c Q sh n D kT ρ nL (pc + 2) L (.int x :: st) M) : bw_At p l e R s m args below meth c Q sh n D kT ρ nL pc L (st) M := fun H locs ls hP hS hl => lv_iload C.1 C.2.1 d (lv_at hl k0 hL) (k H locs ls hP hS hl)
theorem bw_lload_n (C : bw_Cx p s m args meth c cc nL own n D kT ρ rt) {i : Fin 4} {j : Nat} {x : Int64} (k0 : Nat) (d : decode cc pc = .ok (.lload_n i, 1)) (hi : (i : Nat) = j) (hL : L[k0]? = some (j, .long x)) (k : bw_At p l e R s m args below meth c Q sh n D kT ρ nL (pc + 1) L (.long x :: st) M) : bw_At p l e R s m args below meth c Q sh n D kT ρ nL pc L (st) M := fun H locs ls hP hS hl => lv_lload_n C.1 C.2.1 d hi (lv_at hl k0 hL) (k H locs ls hP hS hl)
theorem bw_lload (C : bw_Cx p s m args meth c cc nL own n D kT ρ rt) {j : Nat} {x : Int64} (k0 : Nat) (d : decode cc pc = .ok (.lload j, 2)) (hL : L[k0]? = some (j, .long x)) (k : bw_At p l e R s m args below meth c Q sh n D kT ρ nL (pc + 2) L (.long x :: st) M) : bw_At p l e R s m args below meth c Q sh n D kT ρ nL pc L (st) M := fun H locs ls hP hS hl => lv_lload C.1 C.2.1 d (lv_at hl k0 hL) (k H locs ls hP hS hl)
theorem bw_aload_n (C : bw_Cx p s m args meth c cc nL own n D kT ρ rt) {i : Fin 4} {j : Nat} {x : Nat} (k0 : Nat) (d : decode cc pc = .ok (.aload_n i, 1)) (hi : (i : Nat) = j) (hL : L[k0]? = some (j, .ref x)) (k : bw_At p l e R s m args below meth c Q sh n D kT ρ nL (pc + 1) L (.ref x :: st) M) : bw_At p l e R s m args below meth c Q sh n D kT ρ nL pc L (st) M := fun H locs ls hP hS hl => lv_aload_n C.1 C.2.1 d hi (lv_at hl k0 hL) (k H locs ls hP hS hl)
theorem bw_aload (C : bw_Cx p s m args meth c cc nL own n D kT ρ rt) {j : Nat} {x : Nat} (k0 : Nat) (d : decode cc pc = .ok (.aload j, 2)) (hL : L[k0]? = some (j, .ref x)) (k : bw_At p l e R s m args below meth c Q sh n D kT ρ nL (pc + 2) L (.ref x :: st) M) : bw_At p l e R s m args below meth c Q sh n D kT ρ nL pc L (st) M := fun H locs ls hP hS hl => lv_aload C.1 C.2.1 d (lv_at hl k0 hL) (k H locs ls hP hS hl)
theorem bw_istore_n (C : bw_Cx p s m args meth c cc nL own n D kT ρ rt) {i : Fin 4} {j : Nat} {x : Int32} {L' : List (Nat × Value)} (d : decode cc pc = .ok (.istore_n i, 1)) (hi : (i : Nat) = j) (hn : j < nL) (hL : (j, Value.int x) :: L.filter (fun q => !(q.1 == j) && !(q.1 + 1 == j && q.2.category == 2)) = L') (k : bw_At p l e R s m args below meth c Q sh n D kT ρ nL (pc + 1) L' st M) : bw_At p l e R s m args below meth c Q sh n D kT ρ nL pc L (.int x :: st) M := fun H locs ls hP hS hl => lv_istore_n C.1 C.2.1 d hi hl hn hL (fun ls' hl' => k H locs ls' hP hS hl')
theorem bw_istore (C : bw_Cx p s m args meth c cc nL own n D kT ρ rt) {j : Nat} {x : Int32} {L' : List (Nat × Value)} (d : decode cc pc = .ok (.istore j, 2)) (hn : j < nL) (hL : (j, Value.int x) :: L.filter (fun q => !(q.1 == j) && !(q.1 + 1 == j && q.2.category == 2)) = L') (k : bw_At p l e R s m args below meth c Q sh n D kT ρ nL (pc + 2) L' st M) : bw_At p l e R s m args below meth c Q sh n D kT ρ nL pc L (.int x :: st) M := fun H locs ls hP hS hl => lv_istore C.1 C.2.1 d hl hn hL (fun ls' hl' => k H locs ls' hP hS hl')
theorem bw_lstore_n (C : bw_Cx p s m args meth c cc nL own n D kT ρ rt) {i : Fin 4} {j : Nat} {x : Int64} {L' : List (Nat × Value)} (d : decode cc pc = .ok (.lstore_n i, 1)) (hi : (i : Nat) = j) (hn : j + 1 < nL) (hL : (j, Value.long x) :: L.filter (fun q => !(q.1 == j) && (!(q.1 == j + 1) && !(q.1 + 1 == j && q.2.category == 2))) = L') (k : bw_At p l e R s m args below meth c Q sh n D kT ρ nL (pc + 1) L' st M) : bw_At p l e R s m args below meth c Q sh n D kT ρ nL pc L (.long x :: st) M := fun H locs ls hP hS hl => lv_lstore_n C.1 C.2.1 d hi hl hn hL (fun ls' hl' => k H locs ls' hP hS hl')
theorem bw_lstore (C : bw_Cx p s m args meth c cc nL own n D kT ρ rt) {j : Nat} {x : Int64} {L' : List (Nat × Value)} (d : decode cc pc = .ok (.lstore j, 2)) (hn : j + 1 < nL) (hL : (j, Value.long x) :: L.filter (fun q => !(q.1 == j) && (!(q.1 == j + 1) && !(q.1 + 1 == j && q.2.category == 2))) = L') (k : bw_At p l e R s m args below meth c Q sh n D kT ρ nL (pc + 2) L' st M) : bw_At p l e R s m args below meth c Q sh n D kT ρ nL pc L (.long x :: st) M := fun H locs ls hP hS hl => lv_lstore C.1 C.2.1 d hl hn hL (fun ls' hl' => k H locs ls' hP hS hl')
theorem bw_astore_n (C : bw_Cx p s m args meth c cc nL own n D kT ρ rt) {i : Fin 4} {j : Nat} {x : Nat} {L' : List (Nat × Value)} (d : decode cc pc = .ok (.astore_n i, 1)) (hi : (i : Nat) = j) (hn : j < nL) (hL : (j, Value.ref x) :: L.filter (fun q => !(q.1 == j) && !(q.1 + 1 == j && q.2.category == 2)) = L') (k : bw_At p l e R s m args below meth c Q sh n D kT ρ nL (pc + 1) L' st M) : bw_At p l e R s m args below meth c Q sh n D kT ρ nL pc L (.ref x :: st) M := fun H locs ls hP hS hl => lv_astore_n C.1 C.2.1 d hi hl hn hL (fun ls' hl' => k H locs ls' hP hS hl')
theorem bw_iinc (C : bw_Cx p s m args meth c cc nL own n D kT ρ rt) {j : Nat} {i : Int} {x0 x : Int32} {L' : List (Nat × Value)} (k0 : Nat) (d : decode cc pc = .ok (.iinc j i, 3)) (h0 : L[k0]? = some (j, .int x0)) (hv : x0 + Int32.ofInt i = x) (hn : j < nL) (hL : (j, Value.int x) :: L.filter (fun q => !(q.1 == j) && !(q.1 + 1 == j && q.2.category == 2)) = L') (k : bw_At p l e R s m args below meth c Q sh n D kT ρ nL (pc + 3) L' st M) : bw_At p l e R s m args below meth c Q sh n D kT ρ nL pc L st M := fun H locs ls hP hS hl => lv_iinc C.1 C.2.1 d hl h0 hv hn hL (fun ls' hl' => k H locs ls' hP hS hl')
theorem bw_pick (ks : List Nat) {L' : List (Nat × Value)} (hL : lv_pick L ks = L') (k : bw_At p l e R s m args below meth c Q sh n D kT ρ nL pc L' st M) : bw_At p l e R s m args below meth c Q sh n D kT ρ nL pc L st M := fun H locs ls hP hS hl => k H locs ls hP hS (lv_sub hl ks hL)
theorem bw_iadd (C : bw_Cx p s m args meth c cc nL own n D kT ρ rt) {x y : Int32} (d : decode cc pc = .ok (.iadd, 1)) (k : bw_At p l e R s m args below meth c Q sh n D kT ρ nL (pc + 1) L (.int (x + y) :: st) M) : bw_At p l e R s m args below meth c Q sh n D kT ρ nL pc L (.int y :: .int x :: st) M := fun H locs ls hP hS hl => lv_iadd C.1 C.2.1 d (k H locs ls hP hS hl)
theorem bw_isub (C : bw_Cx p s m args meth c cc nL own n D kT ρ rt) {x y : Int32} (d : decode cc pc = .ok (.isub, 1)) (k : bw_At p l e R s m args below meth c Q sh n D kT ρ nL (pc + 1) L (.int (x - y) :: st) M) : bw_At p l e R s m args below meth c Q sh n D kT ρ nL pc L (.int y :: .int x :: st) M := fun H locs ls hP hS hl => lv_isub C.1 C.2.1 d (k H locs ls hP hS hl)
theorem bw_imul (C : bw_Cx p s m args meth c cc nL own n D kT ρ rt) {x y : Int32} (d : decode cc pc = .ok (.imul, 1)) (k : bw_At p l e R s m args below meth c Q sh n D kT ρ nL (pc + 1) L (.int (x * y) :: st) M) : bw_At p l e R s m args below meth c Q sh n D kT ρ nL pc L (.int y :: .int x :: st) M := fun H locs ls hP hS hl => lv_imul C.1 C.2.1 d (k H locs ls hP hS hl)
theorem bw_iand (C : bw_Cx p s m args meth c cc nL own n D kT ρ rt) {x y : Int32} (d : decode cc pc = .ok (.iand, 1)) (k : bw_At p l e R s m args below meth c Q sh n D kT ρ nL (pc + 1) L (.int (x &&& y) :: st) M) : bw_At p l e R s m args below meth c Q sh n D kT ρ nL pc L (.int y :: .int x :: st) M := fun H locs ls hP hS hl => lv_iand C.1 C.2.1 d (k H locs ls hP hS hl)
theorem bw_ior (C : bw_Cx p s m args meth c cc nL own n D kT ρ rt) {x y : Int32} (d : decode cc pc = .ok (.ior, 1)) (k : bw_At p l e R s m args below meth c Q sh n D kT ρ nL (pc + 1) L (.int (x ||| y) :: st) M) : bw_At p l e R s m args below meth c Q sh n D kT ρ nL pc L (.int y :: .int x :: st) M := fun H locs ls hP hS hl => lv_ior C.1 C.2.1 d (k H locs ls hP hS hl)
theorem bw_ixor (C : bw_Cx p s m args meth c cc nL own n D kT ρ rt) {x y : Int32} (d : decode cc pc = .ok (.ixor, 1)) (k : bw_At p l e R s m args below meth c Q sh n D kT ρ nL (pc + 1) L (.int (x ^^^ y) :: st) M) : bw_At p l e R s m args below meth c Q sh n D kT ρ nL pc L (.int y :: .int x :: st) M := fun H locs ls hP hS hl => lv_ixor C.1 C.2.1 d (k H locs ls hP hS hl)
theorem bw_ishl (C : bw_Cx p s m args meth c cc nL own n D kT ρ rt) {x y : Int32} (d : decode cc pc = .ok (.ishl, 1)) (k : bw_At p l e R s m args below meth c Q sh n D kT ρ nL (pc + 1) L (.int (x <<< (y &&& 31)) :: st) M) : bw_At p l e R s m args below meth c Q sh n D kT ρ nL pc L (.int y :: .int x :: st) M := fun H locs ls hP hS hl => lv_ishl C.1 C.2.1 d (k H locs ls hP hS hl)
theorem bw_ishr (C : bw_Cx p s m args meth c cc nL own n D kT ρ rt) {x y : Int32} (d : decode cc pc = .ok (.ishr, 1)) (k : bw_At p l e R s m args below meth c Q sh n D kT ρ nL (pc + 1) L (.int (x >>> (y &&& 31)) :: st) M) : bw_At p l e R s m args below meth c Q sh n D kT ρ nL pc L (.int y :: .int x :: st) M := fun H locs ls hP hS hl => lv_ishr C.1 C.2.1 d (k H locs ls hP hS hl)
theorem bw_iushr (C : bw_Cx p s m args meth c cc nL own n D kT ρ rt) {x y v : Int32} (d : decode cc pc = .ok (.iushr, 1)) (hv : (x.toUInt32 >>> (y.toUInt32 &&& Int32.toUInt32 31)).toInt32 = v) (k : bw_At p l e R s m args below meth c Q sh n D kT ρ nL (pc + 1) L (.int v :: st) M) : bw_At p l e R s m args below meth c Q sh n D kT ρ nL pc L (.int y :: .int x :: st) M := fun H locs ls hP hS hl => lv_iushr C.1 C.2.1 d hv (k H locs ls hP hS hl)
theorem bw_idiv (C : bw_Cx p s m args meth c cc nL own n D kT ρ rt) {x y : Int32} (d : decode cc pc = .ok (.idiv, 1)) (h0 : ¬ y = 0) (k : bw_At p l e R s m args below meth c Q sh n D kT ρ nL (pc + 1) L (.int (x / y) :: st) M) : bw_At p l e R s m args below meth c Q sh n D kT ρ nL pc L (.int y :: .int x :: st) M := fun H locs ls hP hS hl => lv_idiv C.1 C.2.1 d h0 (k H locs ls hP hS hl)
theorem bw_irem (C : bw_Cx p s m args meth c cc nL own n D kT ρ rt) {x y : Int32} (d : decode cc pc = .ok (.irem, 1)) (h0 : ¬ y = 0) (k : bw_At p l e R s m args below meth c Q sh n D kT ρ nL (pc + 1) L (.int (x - x / y * y) :: st) M) : bw_At p l e R s m args below meth c Q sh n D kT ρ nL pc L (.int y :: .int x :: st) M := fun H locs ls hP hS hl => lv_irem C.1 C.2.1 d h0 (k H locs ls hP hS hl)
theorem bw_ladd (C : bw_Cx p s m args meth c cc nL own n D kT ρ rt) {x y : Int64} (d : decode cc pc = .ok (.ladd, 1)) (k : bw_At p l e R s m args below meth c Q sh n D kT ρ nL (pc + 1) L (.long (x + y) :: st) M) : bw_At p l e R s m args below meth c Q sh n D kT ρ nL pc L (.long y :: .long x :: st) M := fun H locs ls hP hS hl => lv_ladd C.1 C.2.1 d (k H locs ls hP hS hl)
theorem bw_lsub (C : bw_Cx p s m args meth c cc nL own n D kT ρ rt) {x y : Int64} (d : decode cc pc = .ok (.lsub, 1)) (k : bw_At p l e R s m args below meth c Q sh n D kT ρ nL (pc + 1) L (.long (x - y) :: st) M) : bw_At p l e R s m args below meth c Q sh n D kT ρ nL pc L (.long y :: .long x :: st) M := fun H locs ls hP hS hl => lv_lsub C.1 C.2.1 d (k H locs ls hP hS hl)
theorem bw_lmul (C : bw_Cx p s m args meth c cc nL own n D kT ρ rt) {x y : Int64} (d : decode cc pc = .ok (.lmul, 1)) (k : bw_At p l e R s m args below meth c Q sh n D kT ρ nL (pc + 1) L (.long (x * y) :: st) M) : bw_At p l e R s m args below meth c Q sh n D kT ρ nL pc L (.long y :: .long x :: st) M := fun H locs ls hP hS hl => lv_lmul C.1 C.2.1 d (k H locs ls hP hS hl)
theorem bw_ldiv (C : bw_Cx p s m args meth c cc nL own n D kT ρ rt) {x y : Int64} (d : decode cc pc = .ok (.ldiv, 1)) (h0 : ¬ y = 0) (k : bw_At p l e R s m args below meth c Q sh n D kT ρ nL (pc + 1) L (.long (x / y) :: st) M) : bw_At p l e R s m args below meth c Q sh n D kT ρ nL pc L (.long y :: .long x :: st) M := fun H locs ls hP hS hl => lv_ldiv C.1 C.2.1 d h0 (k H locs ls hP hS hl)
theorem bw_lrem (C : bw_Cx p s m args meth c cc nL own n D kT ρ rt) {x y : Int64} (d : decode cc pc = .ok (.lrem, 1)) (h0 : ¬ y = 0) (k : bw_At p l e R s m args below meth c Q sh n D kT ρ nL (pc + 1) L (.long (x - x / y * y) :: st) M) : bw_At p l e R s m args below meth c Q sh n D kT ρ nL pc L (.long y :: .long x :: st) M := fun H locs ls hP hS hl => lv_lrem C.1 C.2.1 d h0 (k H locs ls hP hS hl)
theorem bw_lcmp (C : bw_Cx p s m args meth c cc nL own n D kT ρ rt) {x y : Int64} (d : decode cc pc = .ok (.lcmp, 1)) (k : bw_At p l e R s m args below meth c Q sh n D kT ρ nL (pc + 1) L (.int (lg_cmp x y) :: st) M) : bw_At p l e R s m args below meth c Q sh n D kT ρ nL pc L (.long y :: .long x :: st) M := fun H locs ls hP hS hl => W.lcmp C.1 C.2.1 d (k H locs ls hP hS hl)
theorem bw_i2l (C : bw_Cx p s m args meth c cc nL own n D kT ρ rt) {x : Int32} (d : decode cc pc = .ok (.i2l, 1)) (k : bw_At p l e R s m args below meth c Q sh n D kT ρ nL (pc + 1) L (.long x.toInt64 :: st) M) : bw_At p l e R s m args below meth c Q sh n D kT ρ nL pc L (.int x :: st) M := fun H locs ls hP hS hl => lv_i2l C.1 C.2.1 d rfl (k H locs ls hP hS hl)
theorem bw_l2i (C : bw_Cx p s m args meth c cc nL own n D kT ρ rt) {x : Int64} (d : decode cc pc = .ok (.l2i, 1)) (k : bw_At p l e R s m args below meth c Q sh n D kT ρ nL (pc + 1) L (.int x.toInt32 :: st) M) : bw_At p l e R s m args below meth c Q sh n D kT ρ nL pc L (.long x :: st) M := fun H locs ls hP hS hl => lv_l2i C.1 C.2.1 d rfl (k H locs ls hP hS hl)
theorem bw_i2b (C : bw_Cx p s m args meth c cc nL own n D kT ρ rt) {x : Int32} (d : decode cc pc = .ok (.i2b, 1)) (k : bw_At p l e R s m args below meth c Q sh n D kT ρ nL (pc + 1) L (.int x.toInt8.toInt32 :: st) M) : bw_At p l e R s m args below meth c Q sh n D kT ρ nL pc L (.int x :: st) M := fun H locs ls hP hS hl => lv_i2b C.1 C.2.1 d rfl (k H locs ls hP hS hl)
theorem bw_dup (C : bw_Cx p s m args meth c cc nL own n D kT ρ rt) {va : Value} (d : decode cc pc = .ok (.dup, 1)) (h1 : va.category = 1) (k : bw_At p l e R s m args below meth c Q sh n D kT ρ nL (pc + 1) L (va :: va :: st) M) : bw_At p l e R s m args below meth c Q sh n D kT ρ nL pc L (va :: st) M := fun H locs ls hP hS hl => lv_dup C.1 C.2.1 d h1 (k H locs ls hP hS hl)
theorem bw_pop (C : bw_Cx p s m args meth c cc nL own n D kT ρ rt) {va : Value} (d : decode cc pc = .ok (.pop, 1)) (h1 : va.category = 1) (k : bw_At p l e R s m args below meth c Q sh n D kT ρ nL (pc + 1) L (st) M) : bw_At p l e R s m args below meth c Q sh n D kT ρ nL pc L (va :: st) M := fun H locs ls hP hS hl => lv_pop C.1 C.2.1 d h1 (k H locs ls hP hS hl)
theorem bw_dup2 (C : bw_Cx p s m args meth c cc nL own n D kT ρ rt) {va vb : Value} (d : decode cc pc = .ok (.dup2, 1)) (h1 : va.category = 1) (h2 : vb.category = 1) (k : bw_At p l e R s m args below meth c Q sh n D kT ρ nL (pc + 1) L (va :: vb :: va :: vb :: st) M) : bw_At p l e R s m args below meth c Q sh n D kT ρ nL pc L (va :: vb :: st) M := fun H locs ls hP hS hl => lv_dup2_11 C.1 C.2.1 d h1 h2 (k H locs ls hP hS hl)
theorem bw_ldc (C : bw_Cx p s m args meth c cc nL own n D kT ρ rt) {ix : Nat} {v : Int32} (hw : Cond.constant own ix v ∈ bw_tbl) (d : decode cc pc = .ok (.ldc ix, 2)) (k : bw_At p l e R s m args below meth c Q sh n D kT ρ nL (pc + 2) L (.int v :: st) M) : bw_At p l e R s m args below meth c Q sh n D kT ρ nL pc L st M := fun H locs ls hP hS hl => lv_ldc C.1 C.2.1 C.2.2.2.1 (C.2.2.2.2.1 _ hw) d (k H locs ls hP hS hl)
theorem bw_ldc_w (C : bw_Cx p s m args meth c cc nL own n D kT ρ rt) {ix : Nat} {v : Int32} (hw : Cond.constant own ix v ∈ bw_tbl) (d : decode cc pc = .ok (.ldc_w ix, 3)) (k : bw_At p l e R s m args below meth c Q sh n D kT ρ nL (pc + 3) L (.int v :: st) M) : bw_At p l e R s m args below meth c Q sh n D kT ρ nL pc L st M := fun H locs ls hP hS hl => lv_ldcw C.1 C.2.1 C.2.2.2.1 (C.2.2.2.2.1 _ hw) d (k H locs ls hP hS hl)
theorem bw_ldc2_w (C : bw_Cx p s m args meth c cc nL own n D kT ρ rt) {ix : Nat} {v : Int64} (hw : Cond.constantLong own ix v ∈ bw_tbl) (d : decode cc pc = .ok (.ldc2_w ix, 3)) (k : bw_At p l e R s m args below meth c Q sh n D kT ρ nL (pc + 3) L (.long v :: st) M) : bw_At p l e R s m args below meth c Q sh n D kT ρ nL pc L st M := fun H locs ls hP hS hl => lv_ldc2 C.1 C.2.1 C.2.2.2.1 (C.2.2.2.2.1 _ hw) d (k H locs ls hP hS hl)
theorem bw_if_eq {τ : Type} (C : bw_Cx p s m args meth c cc nL own n D kT ρ rt) {x : Int32} {off : Int} {A B : Option τ} {z : τ} (tgt : Nat) (d : decode cc pc = .ok (.ifCond .eq off, 3)) (ht : (pc : Int) + off = (tgt : Int)) (h : (if x = 0 then A else B) = some z) (kt : A = some z → bw_At p l e R s m args below meth c Q sh n D kT ρ nL tgt L st M) (kf : B = some z → bw_At p l e R s m args below meth c Q sh n D kT ρ nL (pc + 3) L st M) : bw_At p l e R s m args below meth c Q sh n D kT ρ nL pc L (.int x :: st) M := fun H locs ls hP hS hl => lv_if_eq C.1 C.2.1 d ht (fun q => kt (by rw [if_pos q] at h; exact h) H locs ls hP hS hl) (fun q => kf (by rw [if_neg q] at h; exact h) H locs ls hP hS hl)
theorem bw_if_ne {τ : Type} (C : bw_Cx p s m args meth c cc nL own n D kT ρ rt) {x : Int32} {off : Int} {A B : Option τ} {z : τ} (tgt : Nat) (d : decode cc pc = .ok (.ifCond .ne off, 3)) (ht : (pc : Int) + off = (tgt : Int)) (h : (if x = 0 then A else B) = some z) (kt : B = some z → bw_At p l e R s m args below meth c Q sh n D kT ρ nL tgt L st M) (kf : A = some z → bw_At p l e R s m args below meth c Q sh n D kT ρ nL (pc + 3) L st M) : bw_At p l e R s m args below meth c Q sh n D kT ρ nL pc L (.int x :: st) M := fun H locs ls hP hS hl => lv_if_ne C.1 C.2.1 d ht (fun q => kt (by rw [if_neg q] at h; exact h) H locs ls hP hS hl) (fun q => kf (by rw [if_pos q] at h; exact h) H locs ls hP hS hl)
theorem bw_if_lt {τ : Type} (C : bw_Cx p s m args meth c cc nL own n D kT ρ rt) {x : Int32} {off : Int} {A B : Option τ} {z : τ} (tgt : Nat) (d : decode cc pc = .ok (.ifCond .lt off, 3)) (ht : (pc : Int) + off = (tgt : Int)) (h : (if x < 0 then A else B) = some z) (kt : A = some z → bw_At p l e R s m args below meth c Q sh n D kT ρ nL tgt L st M) (kf : B = some z → bw_At p l e R s m args below meth c Q sh n D kT ρ nL (pc + 3) L st M) : bw_At p l e R s m args below meth c Q sh n D kT ρ nL pc L (.int x :: st) M := fun H locs ls hP hS hl => lv_if_lt C.1 C.2.1 d ht (fun q => kt (by rw [if_pos q] at h; exact h) H locs ls hP hS hl) (fun q => kf (by rw [if_neg q] at h; exact h) H locs ls hP hS hl)
theorem bw_if_ge {τ : Type} (C : bw_Cx p s m args meth c cc nL own n D kT ρ rt) {x : Int32} {off : Int} {A B : Option τ} {z : τ} (tgt : Nat) (d : decode cc pc = .ok (.ifCond .ge off, 3)) (ht : (pc : Int) + off = (tgt : Int)) (h : (if 0 ≤ x then A else B) = some z) (kt : A = some z → bw_At p l e R s m args below meth c Q sh n D kT ρ nL tgt L st M) (kf : B = some z → bw_At p l e R s m args below meth c Q sh n D kT ρ nL (pc + 3) L st M) : bw_At p l e R s m args below meth c Q sh n D kT ρ nL pc L (.int x :: st) M := fun H locs ls hP hS hl => lv_if_ge C.1 C.2.1 d ht (fun q => kt (by rw [if_pos q] at h; exact h) H locs ls hP hS hl) (fun q => kf (by rw [if_neg q] at h; exact h) H locs ls hP hS hl)
theorem bw_if_gt {τ : Type} (C : bw_Cx p s m args meth c cc nL own n D kT ρ rt) {x : Int32} {off : Int} {A B : Option τ} {z : τ} (tgt : Nat) (d : decode cc pc = .ok (.ifCond .gt off, 3)) (ht : (pc : Int) + off = (tgt : Int)) (h : (if 0 < x then A else B) = some z) (kt : A = some z → bw_At p l e R s m args below meth c Q sh n D kT ρ nL tgt L st M) (kf : B = some z → bw_At p l e R s m args below meth c Q sh n D kT ρ nL (pc + 3) L st M) : bw_At p l e R s m args below meth c Q sh n D kT ρ nL pc L (.int x :: st) M := fun H locs ls hP hS hl => lv_if_gt C.1 C.2.1 d ht (fun q => kt (by rw [if_pos q] at h; exact h) H locs ls hP hS hl) (fun q => kf (by rw [if_neg q] at h; exact h) H locs ls hP hS hl)
theorem bw_if_le {τ : Type} (C : bw_Cx p s m args meth c cc nL own n D kT ρ rt) {x : Int32} {off : Int} {A B : Option τ} {z : τ} (tgt : Nat) (d : decode cc pc = .ok (.ifCond .le off, 3)) (ht : (pc : Int) + off = (tgt : Int)) (h : (if x ≤ 0 then A else B) = some z) (kt : A = some z → bw_At p l e R s m args below meth c Q sh n D kT ρ nL tgt L st M) (kf : B = some z → bw_At p l e R s m args below meth c Q sh n D kT ρ nL (pc + 3) L st M) : bw_At p l e R s m args below meth c Q sh n D kT ρ nL pc L (.int x :: st) M := fun H locs ls hP hS hl => lv_if_le C.1 C.2.1 d ht (fun q => kt (by rw [if_pos q] at h; exact h) H locs ls hP hS hl) (fun q => kf (by rw [if_neg q] at h; exact h) H locs ls hP hS hl)
theorem bw_icmp_eq {τ : Type} (C : bw_Cx p s m args meth c cc nL own n D kT ρ rt) {x y : Int32} {off : Int} {A B : Option τ} {z : τ} (tgt : Nat) (d : decode cc pc = .ok (.if_icmp .eq off, 3)) (ht : (pc : Int) + off = (tgt : Int)) (h : (if x = y then A else B) = some z) (kt : A = some z → bw_At p l e R s m args below meth c Q sh n D kT ρ nL tgt L st M) (kf : B = some z → bw_At p l e R s m args below meth c Q sh n D kT ρ nL (pc + 3) L st M) : bw_At p l e R s m args below meth c Q sh n D kT ρ nL pc L (.int y :: .int x :: st) M := fun H locs ls hP hS hl => lv_icmp_eq C.1 C.2.1 d ht (fun q => kt (by rw [if_pos q] at h; exact h) H locs ls hP hS hl) (fun q => kf (by rw [if_neg q] at h; exact h) H locs ls hP hS hl)
theorem bw_icmp_ne {τ : Type} (C : bw_Cx p s m args meth c cc nL own n D kT ρ rt) {x y : Int32} {off : Int} {A B : Option τ} {z : τ} (tgt : Nat) (d : decode cc pc = .ok (.if_icmp .ne off, 3)) (ht : (pc : Int) + off = (tgt : Int)) (h : (if x = y then A else B) = some z) (kt : B = some z → bw_At p l e R s m args below meth c Q sh n D kT ρ nL tgt L st M) (kf : A = some z → bw_At p l e R s m args below meth c Q sh n D kT ρ nL (pc + 3) L st M) : bw_At p l e R s m args below meth c Q sh n D kT ρ nL pc L (.int y :: .int x :: st) M := fun H locs ls hP hS hl => lv_icmp_ne C.1 C.2.1 d ht (fun q => kt (by rw [if_neg q] at h; exact h) H locs ls hP hS hl) (fun q => kf (by rw [if_pos q] at h; exact h) H locs ls hP hS hl)
theorem bw_icmp_lt {τ : Type} (C : bw_Cx p s m args meth c cc nL own n D kT ρ rt) {x y : Int32} {off : Int} {A B : Option τ} {z : τ} (tgt : Nat) (d : decode cc pc = .ok (.if_icmp .lt off, 3)) (ht : (pc : Int) + off = (tgt : Int)) (h : (if x < y then A else B) = some z) (kt : A = some z → bw_At p l e R s m args below meth c Q sh n D kT ρ nL tgt L st M) (kf : B = some z → bw_At p l e R s m args below meth c Q sh n D kT ρ nL (pc + 3) L st M) : bw_At p l e R s m args below meth c Q sh n D kT ρ nL pc L (.int y :: .int x :: st) M := fun H locs ls hP hS hl => lv_icmp_lt C.1 C.2.1 d ht (fun q => kt (by rw [if_pos q] at h; exact h) H locs ls hP hS hl) (fun q => kf (by rw [if_neg q] at h; exact h) H locs ls hP hS hl)
theorem bw_icmp_ge {τ : Type} (C : bw_Cx p s m args meth c cc nL own n D kT ρ rt) {x y : Int32} {off : Int} {A B : Option τ} {z : τ} (tgt : Nat) (d : decode cc pc = .ok (.if_icmp .ge off, 3)) (ht : (pc : Int) + off = (tgt : Int)) (h : (if y ≤ x then A else B) = some z) (kt : A = some z → bw_At p l e R s m args below meth c Q sh n D kT ρ nL tgt L st M) (kf : B = some z → bw_At p l e R s m args below meth c Q sh n D kT ρ nL (pc + 3) L st M) : bw_At p l e R s m args below meth c Q sh n D kT ρ nL pc L (.int y :: .int x :: st) M := fun H locs ls hP hS hl => lv_icmp_ge C.1 C.2.1 d ht (fun q => kt (by rw [if_pos q] at h; exact h) H locs ls hP hS hl) (fun q => kf (by rw [if_neg q] at h; exact h) H locs ls hP hS hl)
theorem bw_icmp_gt {τ : Type} (C : bw_Cx p s m args meth c cc nL own n D kT ρ rt) {x y : Int32} {off : Int} {A B : Option τ} {z : τ} (tgt : Nat) (d : decode cc pc = .ok (.if_icmp .gt off, 3)) (ht : (pc : Int) + off = (tgt : Int)) (h : (if y < x then A else B) = some z) (kt : A = some z → bw_At p l e R s m args below meth c Q sh n D kT ρ nL tgt L st M) (kf : B = some z → bw_At p l e R s m args below meth c Q sh n D kT ρ nL (pc + 3) L st M) : bw_At p l e R s m args below meth c Q sh n D kT ρ nL pc L (.int y :: .int x :: st) M := fun H locs ls hP hS hl => lv_icmp_gt C.1 C.2.1 d ht (fun q => kt (by rw [if_pos q] at h; exact h) H locs ls hP hS hl) (fun q => kf (by rw [if_neg q] at h; exact h) H locs ls hP hS hl)
theorem bw_icmp_le {τ : Type} (C : bw_Cx p s m args meth c cc nL own n D kT ρ rt) {x y : Int32} {off : Int} {A B : Option τ} {z : τ} (tgt : Nat) (d : decode cc pc = .ok (.if_icmp .le off, 3)) (ht : (pc : Int) + off = (tgt : Int)) (h : (if x ≤ y then A else B) = some z) (kt : A = some z → bw_At p l e R s m args below meth c Q sh n D kT ρ nL tgt L st M) (kf : B = some z → bw_At p l e R s m args below meth c Q sh n D kT ρ nL (pc + 3) L st M) : bw_At p l e R s m args below meth c Q sh n D kT ρ nL pc L (.int y :: .int x :: st) M := fun H locs ls hP hS hl => lv_icmp_le C.1 C.2.1 d ht (fun q => kt (by rw [if_pos q] at h; exact h) H locs ls hP hS hl) (fun q => kf (by rw [if_neg q] at h; exact h) H locs ls hP hS hl)
theorem bw_goto (C : bw_Cx p s m args meth c cc nL own n D kT ρ rt) {off : Int} (tgt : Nat) (d : decode cc pc = .ok (.goto off, 3)) (ht : (pc : Int) + off = (tgt : Int)) (k : bw_At p l e R s m args below meth c Q sh n D kT ρ nL tgt L st M) : bw_At p l e R s m args below meth c Q sh n D kT ρ nL pc L st M := fun H locs ls hP hS hl => lv_goto C.1 C.2.1 d ht (k H locs ls hP hS hl)
theorem bw_ifnullS (C : bw_Cx p s m args meth c cc nL own n D kT ρ rt) {off : Int} {a : Nat} (d : decode cc pc = .ok (.ifnull off, 3)) (k : bw_At p l e R s m args below meth c Q sh n D kT ρ nL (pc + 3) L st M) : bw_At p l e R s m args below meth c Q sh n D kT ρ nL pc L (.ref a :: st) M := fun H locs ls hP hS hl => lv_ifnull C.1 C.2.1 d (k H locs ls hP hS hl)
theorem bw_ifnullN (C : bw_Cx p s m args meth c cc nL own n D kT ρ rt) {off : Int} (tgt : Nat) (d : decode cc pc = .ok (.ifnull off, 3)) (ht : (pc : Int) + off = (tgt : Int)) (k : bw_At p l e R s m args below meth c Q sh n D kT ρ nL tgt L st M) : bw_At p l e R s m args below meth c Q sh n D kT ρ nL pc L (.null :: st) M := fun H locs ls hP hS hl => lv_ifnullN C.1 C.2.1 d ht (k H locs ls hP hS hl)
theorem bw_swc {τ : Type} (C : bw_Cx p s m args meth c cc nL own n D kT ρ rt) {x : Int32} {A B : Option τ} {z : τ} (v : Int32) (h : (if x = v then A else B) = some z) (kt : A = some z → bw_At p l e R s m args below meth c Q sh n D kT ρ nL pc L (.int v :: st) M) (kf : ¬ x = v → B = some z → bw_At p l e R s m args below meth c Q sh n D kT ρ nL pc L (.int x :: st) M) : bw_At p l e R s m args below meth c Q sh n D kT ρ nL pc L (.int x :: st) M := by
  by_cases q : x = v
  · rw [if_pos q] at h
    subst q
    exact kt h
  · rw [if_neg q] at h
    exact kf q h
theorem bw_swi (C : bw_Cx p s m args meth c cc nL own n D kT ρ rt) {x : Int32} {dflt lo hi off : Int} {offs : Array Int} {len : Nat} (tgt : Nat) (d : decode cc pc = .ok (.tableswitch dflt lo hi offs, len)) (h1 : ¬ x.toInt < lo) (h2 : ¬ hi < x.toInt) (ho : offs[(x.toInt - lo).toNat]? = some off) (ht : (pc : Int) + off = (tgt : Int)) (k : bw_At p l e R s m args below meth c Q sh n D kT ρ nL tgt L st M) : bw_At p l e R s m args below meth c Q sh n D kT ρ nL pc L (.int x :: st) M := fun H locs ls hP hS hl => lv_tableIn C.1 C.2.1 d h1 h2 ho ht (k H locs ls hP hS hl)
theorem bw_swo (C : bw_Cx p s m args meth c cc nL own n D kT ρ rt) {x : Int32} {dflt lo hi : Int} {offs : Array Int} {len : Nat} (tgt : Nat) (d : decode cc pc = .ok (.tableswitch dflt lo hi offs, len)) (h : x.toInt < lo ∨ hi < x.toInt) (ht : (pc : Int) + dflt = (tgt : Int)) (k : bw_At p l e R s m args below meth c Q sh n D kT ρ nL tgt L st M) : bw_At p l e R s m args below meth c Q sh n D kT ρ nL pc L (.int x :: st) M := fun H locs ls hP hS hl => lv_tableOut C.1 C.2.1 d h ht (k H locs ls hP hS hl)
theorem bw_sw_out {x : Int32} {lo hi : Int} (k : Nat) (hk : hi < lo + k) (hlo : -2147483648 ≤ lo) (hhi : hi < 2147483648) (h : ∀ j : Nat, j < k → ¬ x = Int32.ofInt (lo + j)) : x.toInt < lo ∨ hi < x.toInt := by
  by_cases h1 : x.toInt < lo
  · exact Or.inl h1
  by_cases h2 : hi < x.toInt
  · exact Or.inr h2
  exfalso
  refine h (x.toInt - lo).toNat (by omega) ?_
  rw [show lo + ((x.toInt - lo).toNat : Int) = x.toInt by omega]
  exact (Int32.ofInt_toInt x).symm
theorem bw_getI (C : bw_Cx p s m args meth c cc nL own n D kT ρ rt) {C0 : String} {T : u_T} {N ci ix q k0 : Nat} {fl : List Nat} (hq : q < n) (hs : sh q = .inl (ci, fl)) (hc : vwCl[ci]? = some (C0, T, N)) (hin : ∀ w ∈ u_ws C0 T N, w ∈ bw_tbl) (hw : Cond.fieldLink own ix (T k0).1 (T k0).2.1 (T k0).2.2.1 ∈ bw_tbl) (hk : k0 < N) (hf : fl[k0]? = some (0)) (d : decode cc pc = .ok (.getfield ix, 3)) (k : bw_At p l e R s m args below meth c Q sh n D kT ρ nL (pc + 3) L (.int (M.1 q k0) :: st) M) : bw_At p l e R s m args below meth c Q sh n D kT ρ nL pc L (.ref (ρ q) :: st) M := by
  intro H locs ls hP hS hl
  have he : (bw_wo sh n kT ρ M)[q]? = some (ρ q, .inr (ci, bw_fvs ρ M q 0 fl)) := (bw_wo_get hq).trans (by simp only [bw_ce, hs])
  have hv : (bw_fvs ρ M q 0 fl)[k0]? = some (.int (M.1 q k0)) := by
    rw [bw_fvs_get, hf, Option.map_some, Nat.zero_add]
    rfl
  exact va_get C.1 C.2.1 C.2.2.2.2.1 hin C.2.2.2.1 C.2.2.2.2.2.1 hP q he hc k0 hk (C.2.2.2.2.1 _ hw) (fun _ h9 => h9) hv d (k H locs ls hP hS hl)
theorem bw_getL (C : bw_Cx p s m args meth c cc nL own n D kT ρ rt) {C0 : String} {T : u_T} {N ci ix q k0 : Nat} {fl : List Nat} (hq : q < n) (hs : sh q = .inl (ci, fl)) (hc : vwCl[ci]? = some (C0, T, N)) (hin : ∀ w ∈ u_ws C0 T N, w ∈ bw_tbl) (hw : Cond.fieldLink own ix (T k0).1 (T k0).2.1 (T k0).2.2.1 ∈ bw_tbl) (hk : k0 < N) (hf : fl[k0]? = some (1)) (d : decode cc pc = .ok (.getfield ix, 3)) (k : bw_At p l e R s m args below meth c Q sh n D kT ρ nL (pc + 3) L (.long (M.2.1 k0) :: st) M) : bw_At p l e R s m args below meth c Q sh n D kT ρ nL pc L (.ref (ρ q) :: st) M := by
  intro H locs ls hP hS hl
  have he : (bw_wo sh n kT ρ M)[q]? = some (ρ q, .inr (ci, bw_fvs ρ M q 0 fl)) := (bw_wo_get hq).trans (by simp only [bw_ce, hs])
  have hv : (bw_fvs ρ M q 0 fl)[k0]? = some (.long (M.2.1 k0)) := by
    rw [bw_fvs_get, hf, Option.map_some, Nat.zero_add]
    rfl
  exact va_get C.1 C.2.1 C.2.2.2.2.1 hin C.2.2.2.1 C.2.2.2.2.2.1 hP q he hc k0 hk (C.2.2.2.2.1 _ hw) (fun _ h9 => h9) hv d (k H locs ls hP hS hl)
theorem bw_getM (C : bw_Cx p s m args meth c cc nL own n D kT ρ rt) {C0 : String} {T : u_T} {N ci ix q k0 : Nat} {fl : List Nat} (hq : q < n) (hs : sh q = .inl (ci, fl)) (hc : vwCl[ci]? = some (C0, T, N)) (hin : ∀ w ∈ u_ws C0 T N, w ∈ bw_tbl) (hw : Cond.fieldLink own ix (T k0).1 (T k0).2.1 (T k0).2.2.1 ∈ bw_tbl) (hk : k0 < N) (hf : fl[k0]? = some (2)) (d : decode cc pc = .ok (.getfield ix, 3)) (k : bw_At p l e R s m args below meth c Q sh n D kT ρ nL (pc + 3) L (va_rf (M.2.2.map ρ) :: st) M) : bw_At p l e R s m args below meth c Q sh n D kT ρ nL pc L (.ref (ρ q) :: st) M := by
  intro H locs ls hP hS hl
  have he : (bw_wo sh n kT ρ M)[q]? = some (ρ q, .inr (ci, bw_fvs ρ M q 0 fl)) := (bw_wo_get hq).trans (by simp only [bw_ce, hs])
  have hv : (bw_fvs ρ M q 0 fl)[k0]? = some (va_rf (M.2.2.map ρ)) := by
    rw [bw_fvs_get, hf, Option.map_some, Nat.zero_add]
    rfl
  exact va_get C.1 C.2.1 C.2.2.2.2.1 hin C.2.2.2.1 C.2.2.2.2.2.1 hP q he hc k0 hk (C.2.2.2.2.1 _ hw) (fun _ h9 => h9) hv d (k H locs ls hP hS hl)
theorem bw_getR (C : bw_Cx p s m args meth c cc nL own n D kT ρ rt) {C0 : String} {T : u_T} {N ci ix q k0 : Nat} {fl : List Nat} (hq : q < n) (hs : sh q = .inl (ci, fl)) (hc : vwCl[ci]? = some (C0, T, N)) (hin : ∀ w ∈ u_ws C0 T N, w ∈ bw_tbl) (hw : Cond.fieldLink own ix (T k0).1 (T k0).2.1 (T k0).2.2.1 ∈ bw_tbl) (hk : k0 < N) {j : Nat} (hf : fl[k0]? = some (j + 3)) (d : decode cc pc = .ok (.getfield ix, 3)) (k : bw_At p l e R s m args below meth c Q sh n D kT ρ nL (pc + 3) L (.ref (ρ j) :: st) M) : bw_At p l e R s m args below meth c Q sh n D kT ρ nL pc L (.ref (ρ q) :: st) M := by
  intro H locs ls hP hS hl
  have he : (bw_wo sh n kT ρ M)[q]? = some (ρ q, .inr (ci, bw_fvs ρ M q 0 fl)) := (bw_wo_get hq).trans (by simp only [bw_ce, hs])
  have hv : (bw_fvs ρ M q 0 fl)[k0]? = some (.ref (ρ j)) := by
    rw [bw_fvs_get, hf, Option.map_some, Nat.zero_add]
    rfl
  exact va_get C.1 C.2.1 C.2.2.2.2.1 hin C.2.2.2.1 C.2.2.2.2.2.1 hP q he hc k0 hk (C.2.2.2.2.1 _ hw) (fun _ h9 => h9) hv d (k H locs ls hP hS hl)
theorem bw_putI (C : bw_Cx p s m args meth c cc nL own n D kT ρ rt) {ty : FieldType} {C0 : String} {T : u_T} {N ci ix q k0 : Nat} {fl : List Nat} (hq : q < n) (hs : sh q = .inl (ci, fl)) (hc : vwCl[ci]? = some (C0, T, N)) (hin : ∀ w ∈ u_ws C0 T N, w ∈ bw_tbl) (hw : Cond.fieldLink own ix (T k0).1 (T k0).2.1 (T k0).2.2.1 ∈ bw_tbl) (hk : k0 < N) (ty0 : Nat → FieldType) (hty : ∀ k, k < N → parseFieldDescriptor (T k).2.2.1 = some (ty0 k)) (hnm : ∀ a, a < N → ∀ b, b < N → a ≠ b → (T a).2.1 ≠ (T b).2.1) (hfin : (T k0).2.2.2 = false) (hd : parseFieldDescriptor (T k0).2.2.1 = some ty) (hf : fl[k0]? = some 0) {x : Int32} {M' : bw_M} (hM : M' = bw_pI M q k0 x) (hn : narrow ty (.int x) = .int x) (hfit : fits ty (.int x) = true) (d : decode cc pc = .ok (.putfield ix, 3)) (k : bw_At p l e R s m args below meth c Q sh n D kT ρ nL (pc + 3) L st M') : bw_At p l e R s m args below meth c Q sh n D kT ρ nL pc L (.int x :: .ref (ρ q) :: st) M := by
  intro H locs ls hP hS hl
  have he : (bw_wo sh n kT ρ M)[q]? = some (ρ q, .inr (ci, bw_fvs ρ M q 0 fl)) := (bw_wo_get hq).trans (by simp only [bw_ce, hs])
  have hk0 : k0 < fl.length := (List.getElem?_eq_some_iff.mp hf).1
  refine va_put (v := .int x) (ty := ty) C.1 C.2.1 C.2.2.2.2.1 hin ty0 hty hnm C.2.2.2.1 C.2.2.2.2.2.1 hP (bw_wo_D C.2.2.2.2.2.2.1 M) hS q he hc k0 hk (C.2.2.2.2.1 _ hw) (fun _ h9 => h9) hfin hd hn hfit (by rw [bw_fvs_len]; exact hk0) d (fun H1 locs1 hP1 _ hS1 => ?_)
  refine k H1 locs1 ls ?_ hS1 hl
  have hset : (bw_wo sh n kT ρ M).set q (ρ q, .inr (ci, (bw_fvs ρ M q 0 fl).set k0 (.int x))) = bw_wo sh n kT ρ M' := by
    subst hM
    refine bw_wo_set ?_ ?_
    · simp only [bw_ce, hs]
      rw [bw_fvs_set (M' := bw_pI M q k0 x)]
      · intro z hz
        rw [hf] at hz
        cases hz
        simp [bw_fv, bw_pI, bw_pA_self, upd]
      · intro i z hi hz
        match z, hz with
        | 0, _ => simp [bw_fv, bw_pI, bw_pA_self, upd, hi]
        | 1, _ => rfl
        | 2, _ => rfl
        | z + 3, _ => rfl
    · intro j hj
      exact bw_ce_pA _ j hj
  rw [← hset]
  exact hP1
/-- the longs and the moving reference lie in one cell -/
def bw_one (sh : Nat → bw_Sh) (k q : Nat) : Prop := ∀ (j ci : Nat) (fl : List Nat), sh j = .inl (ci, fl) → k ∈ fl → j = q
theorem bw_fv_pL {ρ : Nat → Nat} {M : bw_M} {q i k0 : Nat} (x : Int64) (z : Nat) (h : z = 1 → i ≠ k0) : bw_fv ρ (bw_pL M k0 x) q i z = bw_fv ρ M q i z := by
  match z, h with
  | 0, _ => rfl
  | 1, h => simp [bw_fv, bw_pL, vp_updL, h rfl]
  | 2, _ => rfl
  | z + 3, _ => rfl
theorem bw_fv_pR {ρ : Nat → Nat} {M : bw_M} {q i : Nat} (o : Option Nat) (z : Nat) (h : z ≠ 2) : bw_fv ρ (bw_pR M o) q i z = bw_fv ρ M q i z := by
  match z, h with
  | 0, _ => rfl
  | 1, _ => rfl
  | 2, h => exact absurd rfl h
  | z + 3, _ => rfl
theorem bw_ce_pL {kT : Nat → ClassId} {k0 q : Nat} (x : Int64) (h1 : bw_one sh 1 q) (j : Nat) (hj : j ≠ q) : bw_ce sh kT ρ (bw_pL M k0 x) j = bw_ce sh kT ρ M j := by
  unfold bw_ce
  split
  · rename_i ci fl hs
    rw [bw_fvs_ext (M := M) (fun i z hz => bw_fv_pL x z (fun e => absurd (h1 j ci fl hs (e ▸ List.mem_of_getElem? hz)) hj))]
  · rfl
  · rfl
theorem bw_ce_pR {kT : Nat → ClassId} {q : Nat} (o : Option Nat) (h1 : bw_one sh 2 q) (j : Nat) (hj : j ≠ q) : bw_ce sh kT ρ (bw_pR M o) j = bw_ce sh kT ρ M j := by
  unfold bw_ce
  split
  · rename_i ci fl hs
    rw [bw_fvs_ext (M := M) (fun i z hz => bw_fv_pR o z (fun e => absurd (h1 j ci fl hs (e ▸ List.mem_of_getElem? hz)) hj))]
  · rfl
  · rfl
theorem bw_putL (C : bw_Cx p s m args meth c cc nL own n D kT ρ rt) {ty : FieldType} {C0 : String} {T : u_T} {N ci ix q k0 : Nat} {fl : List Nat} (hq : q < n) (hs : sh q = .inl (ci, fl)) (hc : vwCl[ci]? = some (C0, T, N)) (hin : ∀ w ∈ u_ws C0 T N, w ∈ bw_tbl) (hw : Cond.fieldLink own ix (T k0).1 (T k0).2.1 (T k0).2.2.1 ∈ bw_tbl) (hk : k0 < N) (ty0 : Nat → FieldType) (hty : ∀ k, k < N → parseFieldDescriptor (T k).2.2.1 = some (ty0 k)) (hnm : ∀ a, a < N → ∀ b, b < N → a ≠ b → (T a).2.1 ≠ (T b).2.1) (hfin : (T k0).2.2.2 = false) (hd : parseFieldDescriptor (T k0).2.2.1 = some ty) (h1 : bw_one sh 1 q) (hf : fl[k0]? = some 1) {x : Int64} {M' : bw_M} (hM : M' = bw_pL M k0 x) (hn : narrow ty (.long x) = .long x) (hfit : fits ty (.long x) = true) (d : decode cc pc = .ok (.putfield ix, 3)) (k : bw_At p l e R s m args below meth c Q sh n D kT ρ nL (pc + 3) L st M') : bw_At p l e R s m args below meth c Q sh n D kT ρ nL pc L (.long x :: .ref (ρ q) :: st) M := by
  intro H locs ls hP hS hl
  have he : (bw_wo sh n kT ρ M)[q]? = some (ρ q, .inr (ci, bw_fvs ρ M q 0 fl)) := (bw_wo_get hq).trans (by simp only [bw_ce, hs])
  have hk0 : k0 < fl.length := (List.getElem?_eq_some_iff.mp hf).1
  refine va_put (v := .long x) (ty := ty) C.1 C.2.1 C.2.2.2.2.1 hin ty0 hty hnm C.2.2.2.1 C.2.2.2.2.2.1 hP (bw_wo_D C.2.2.2.2.2.2.1 M) hS q he hc k0 hk (C.2.2.2.2.1 _ hw) (fun _ h9 => h9) hfin hd hn hfit (by rw [bw_fvs_len]; exact hk0) d (fun H1 locs1 hP1 _ hS1 => ?_)
  refine k H1 locs1 ls ?_ hS1 hl
  have hset : (bw_wo sh n kT ρ M).set q (ρ q, .inr (ci, (bw_fvs ρ M q 0 fl).set k0 (.long x))) = bw_wo sh n kT ρ M' := by
    subst hM
    refine bw_wo_set ?_ ?_
    · simp only [bw_ce, hs]
      rw [bw_fvs_set (M' := bw_pL M k0 x)]
      · intro z hz
        rw [hf] at hz
        cases hz
        simp [bw_fv, bw_pL, vp_updL]
      · intro i z hi hz
        exact bw_fv_pL x z (fun _ => hi)
    · intro j hj
      exact bw_ce_pL x h1 j hj
  rw [← hset]
  exact hP1
theorem bw_putM (C : bw_Cx p s m args meth c cc nL own n D kT ρ rt) {ty : FieldType} {C0 : String} {T : u_T} {N ci ix q k0 : Nat} {fl : List Nat} (hq : q < n) (hs : sh q = .inl (ci, fl)) (hc : vwCl[ci]? = some (C0, T, N)) (hin : ∀ w ∈ u_ws C0 T N, w ∈ bw_tbl) (hw : Cond.fieldLink own ix (T k0).1 (T k0).2.1 (T k0).2.2.1 ∈ bw_tbl) (hk : k0 < N) (ty0 : Nat → FieldType) (hty : ∀ k, k < N → parseFieldDescriptor (T k).2.2.1 = some (ty0 k)) (hnm : ∀ a, a < N → ∀ b, b < N → a ≠ b → (T a).2.1 ≠ (T b).2.1) (hfin : (T k0).2.2.2 = false) (hd : parseFieldDescriptor (T k0).2.2.1 = some ty) (h1 : bw_one sh 2 q) (h2 : ∀ i, fl[i]? = some 2 → i = k0) (hf : fl[k0]? = some 2) {x : Nat} {M' : bw_M} (hM : M' = bw_pR M (some x)) (hn : narrow ty (.ref (ρ x)) = .ref (ρ x)) (hfit : fits ty (.ref (ρ x)) = true) (d : decode cc pc = .ok (.putfield ix, 3)) (k : bw_At p l e R s m args below meth c Q sh n D kT ρ nL (pc + 3) L st M') : bw_At p l e R s m args below meth c Q sh n D kT ρ nL pc L (.ref (ρ x) :: .ref (ρ q) :: st) M := by
  intro H locs ls hP hS hl
  have he : (bw_wo sh n kT ρ M)[q]? = some (ρ q, .inr (ci, bw_fvs ρ M q 0 fl)) := (bw_wo_get hq).trans (by simp only [bw_ce, hs])
  have hk0 : k0 < fl.length := (List.getElem?_eq_some_iff.mp hf).1
  refine va_put (v := .ref (ρ x)) (ty := ty) C.1 C.2.1 C.2.2.2.2.1 hin ty0 hty hnm C.2.2.2.1 C.2.2.2.2.2.1 hP (bw_wo_D C.2.2.2.2.2.2.1 M) hS q he hc k0 hk (C.2.2.2.2.1 _ hw) (fun _ h9 => h9) hfin hd hn hfit (by rw [bw_fvs_len]; exact hk0) d (fun H1 locs1 hP1 _ hS1 => ?_)
  refine k H1 locs1 ls ?_ hS1 hl
  have hset : (bw_wo sh n kT ρ M).set q (ρ q, .inr (ci, (bw_fvs ρ M q 0 fl).set k0 (.ref (ρ x)))) = bw_wo sh n kT ρ M' := by
    subst hM
    refine bw_wo_set ?_ ?_
    · simp only [bw_ce, hs]
      rw [bw_fvs_set (M' := bw_pR M (some x))]
      · intro z hz
        rw [hf] at hz
        cases hz
        rfl
      · intro i z hi hz
        exact bw_fv_pR (some x) z (fun e => hi (h2 i (e ▸ hz)))
    · intro j hj
      exact bw_ce_pR (some x) h1 j hj
  rw [← hset]
  exact hP1
theorem bw_iald (C : bw_Cx p s m args meth c cc nL own n D kT ρ rt) {q k0 : Nat} (hq : q < n) (hs : sh q = .inr (.inl (0, k0))) {i v : Int32} (hi : bw_ib i k0 = true) (hv : v = M.1 q i.toNatClampNeg) (d : decode cc pc = .ok (.iaload, 1)) (k : bw_At p l e R s m args below meth c Q sh n D kT ρ nL (pc + 1) L (.int v :: st) M) : bw_At p l e R s m args below meth c Q sh n D kT ρ nL pc L (.int i :: .ref (ρ q) :: st) M := by
  subst hv
  exact fun H locs ls hP hS hl => va_iald C.1 C.2.1 C.2.2.2.2.2.1 hP q 0 ((bw_wo_get hq).trans (by simp only [bw_ce, hs])) rfl (bw_ib_in hi) d (k H locs ls hP hS hl)
theorem bw_bald (C : bw_Cx p s m args meth c cc nL own n D kT ρ rt) {q k0 : Nat} (hq : q < n) (hs : sh q = .inr (.inl (1, k0))) {i v : Int32} (hi : bw_ib i k0 = true) (hv : v = M.1 q i.toNatClampNeg) (d : decode cc pc = .ok (.baload, 1)) (k : bw_At p l e R s m args below meth c Q sh n D kT ρ nL (pc + 1) L (.int v :: st) M) : bw_At p l e R s m args below meth c Q sh n D kT ρ nL pc L (.int i :: .ref (ρ q) :: st) M := by
  subst hv
  exact fun H locs ls hP hS hl => va_bald C.1 C.2.1 C.2.2.2.2.2.1 hP q 1 ((bw_wo_get hq).trans (by simp only [bw_ce, hs])) rfl (bw_ib_in hi) d (k H locs ls hP hS hl)
theorem bw_iast (C : bw_Cx p s m args meth c cc nL own n D kT ρ rt) {q k0 : Nat} (hq : q < n) (hs : sh q = .inr (.inl (0, k0))) {i x : Int32} {M' : bw_M} (hi : bw_ib i k0 = true) (hM : M' = bw_pI M q i.toNatClampNeg (x)) (d : decode cc pc = .ok (.iastore, 1)) (k : bw_At p l e R s m args below meth c Q sh n D kT ρ nL (pc + 1) L st M') : bw_At p l e R s m args below meth c Q sh n D kT ρ nL pc L (.int x :: .int i :: .ref (ρ q) :: st) M := by
  intro H locs ls hP hS hl
  have he : (bw_wo sh n kT ρ M)[q]? = some (ρ q, .inl (kT 0, k0, .inl (M.1 q))) := (bw_wo_get hq).trans (by simp only [bw_ce, hs])
  refine va_iast C.1 C.2.1 C.2.2.2.2.2.1 hP (bw_wo_D C.2.2.2.2.2.2.1 M) hS q 0 he rfl (bw_ib_in hi) d (fun H1 locs1 hP1 _ hS1 => ?_)
  refine k H1 locs1 ls ?_ hS1 hl
  have hset : (bw_wo sh n kT ρ M).set q (ρ q, .inl (kT 0, k0, .inl (upd (M.1 q) i.toNatClampNeg (x)))) = bw_wo sh n kT ρ M' := by
    subst hM
    refine bw_wo_set ?_ (fun j hj => bw_ce_pA _ j hj)
    simp only [bw_ce, hs]
    skip
    rw [show (bw_pI M q i.toNatClampNeg (x)).1 q = upd (M.1 q) i.toNatClampNeg (x) from bw_pA_self _ _ _]
  rw [← hset]
  exact hP1
theorem bw_bast (C : bw_Cx p s m args meth c cc nL own n D kT ρ rt) {q k0 : Nat} (hq : q < n) (hs : sh q = .inr (.inl (1, k0))) {i x : Int32} {M' : bw_M} (hi : bw_ib i k0 = true) (hM : M' = bw_pI M q i.toNatClampNeg (x.toInt8.toInt32)) (d : decode cc pc = .ok (.bastore, 1)) (k : bw_At p l e R s m args below meth c Q sh n D kT ρ nL (pc + 1) L st M') : bw_At p l e R s m args below meth c Q sh n D kT ρ nL pc L (.int x :: .int i :: .ref (ρ q) :: st) M := by
  intro H locs ls hP hS hl
  have he : (bw_wo sh n kT ρ M)[q]? = some (ρ q, .inl (kT 1, k0, .inl (M.1 q))) := (bw_wo_get hq).trans (by simp only [bw_ce, hs])
  refine va_bast C.1 C.2.1 C.2.2.2.2.2.1 hP (bw_wo_D C.2.2.2.2.2.2.1 M) hS q 1 he rfl (bw_ib_in hi) d (fun H1 locs1 hP1 _ hS1 => ?_)
  refine k H1 locs1 ls ?_ hS1 hl
  have hset : (bw_wo sh n kT ρ M).set q (ρ q, .inl (kT 1, k0, .inl (upd (M.1 q) i.toNatClampNeg (vp_nar .byte x)))) = bw_wo sh n kT ρ M' := by
    subst hM
    refine bw_wo_set ?_ (fun j hj => bw_ce_pA _ j hj)
    simp only [bw_ce, hs]
    rw [vp_nar_byte]
    rw [show (bw_pI M q i.toNatClampNeg (x.toInt8.toInt32)).1 q = upd (M.1 q) i.toNatClampNeg (x.toInt8.toInt32) from bw_pA_self _ _ _]
  rw [← hset]
  exact hP1
theorem bw_alen (C : bw_Cx p s m args meth c cc nL own n D kT ρ rt) {q t k0 : Nat} {v : Int32} (hq : q < n) (hs : sh q = .inr (.inl (t, k0))) (ht : t < 2) (hv : Int32.ofNat k0 = v) (d : decode cc pc = .ok (.arraylength, 1)) (k : bw_At p l e R s m args below meth c Q sh n D kT ρ nL (pc + 1) L (.int v :: st) M) : bw_At p l e R s m args below meth c Q sh n D kT ρ nL pc L (.ref (ρ q) :: st) M := by
  intro H locs ls hP hS hl
  have he : (bw_wo sh n kT ρ M)[q]? = some (ρ q, .inl (kT t, k0, .inl (M.1 q))) := (bw_wo_get hq).trans (by simp only [bw_ce, hs])
  match t, ht, he with
  | 0, _, he => exact va_alen (ty := .int) C.1 C.2.1 C.2.2.2.2.2.1 hP q 0 he rfl hv d (k H locs ls hP hS hl)
  | 1, _, he => exact va_alen (ty := .byte) C.1 C.2.1 C.2.2.2.2.2.1 hP q 1 he rfl hv d (k H locs ls hP hS hl)
theorem bw_aald (C : bw_Cx p s m args meth c cc nL own n D kT ρ rt) {q t i0 : Nat} {ids : List Nat} (hq : q < n) (hs : sh q = .inr (.inr (t, ids))) {ty : FieldType} (ht : (bw_ty kT)[t]? = some (kT t, ty)) (hty : ty.isReference = true) {i : Int32} (hi : bw_ib i ids.length = true) (hid : ids[i.toNatClampNeg]? = some i0) (d : decode cc pc = .ok (.aaload, 1)) (k : bw_At p l e R s m args below meth c Q sh n D kT ρ nL (pc + 1) L (.ref (ρ i0) :: st) M) : bw_At p l e R s m args below meth c Q sh n D kT ρ nL pc L (.int i :: .ref (ρ q) :: st) M := by
  intro H locs ls hP hS hl
  have he : (bw_wo sh n kT ρ M)[q]? = some (ρ q, .inl (kT t, ids.length, .inr (.inr (.inr (.inr (fun i => ids[i]?.map ρ)))))) := (bw_wo_get hq).trans (by simp only [bw_ce, hs])
  have hin := bw_ib_in hi
  have hlt : i.toNatClampNeg < ids.length := Nat.not_le.mp fun q => hin (Or.inr q)
  exact W.aald (v := .ref (ρ i0)) (ty := ty) C.1 C.2.1 (hP q _ he) ((C.2.2.2.2.2.1.2 t _ ht).1 ids.length (fun j => va_rf (ids[j]?.map ρ))) hty (fun q => by cases q) (by show ¬ (i < 0 ∨ (arrV _ _ _).slots.size ≤ _); rw [arrV_size]; exact hin) (by show (arrV _ _ _).slots[_]? = _; rw [arrV_read _ _ hlt]; simp only [hid, Option.map_some]; rfl) rfl rfl d (k H locs ls hP hS hl)
theorem bw_acopy (C : bw_Cx p s m args meth c cc nL own n D kT ρ rt) {qs qd ns nd ix : Nat} (hqs : qs < n) (hqd : qd < n) (hss : sh qs = .inr (.inl (0, ns))) (hsd : sh qd = .inr (.inl (0, nd))) {sp dp x : Int32} {M' : bw_M} (hb : 0 ≤ sp ∧ 0 ≤ dp ∧ 0 ≤ x ∧ sp.toNatClampNeg + x.toNatClampNeg ≤ ns ∧ dp.toNatClampNeg + x.toNatClampNeg ≤ nd) (hM : M' = bw_pA M qd (va_cpy (M.1 qs) (M.1 qd) sp.toNatClampNeg dp.toNatClampNeg x.toNatClampNeg)) (h1 : Cond.methodLink own ix arraycopyName ∈ bw_tbl) (h2 : Cond.native arraycopyName ∈ bw_tbl) (h3 : Cond.static arraycopyName ∈ bw_tbl) (h4 : Cond.initialized "java/lang/System" ∈ bw_tbl) (hfr : 1 ≤ R.frames) (hlo : (rest.map fun v => v.category).sum + (nativeFrameWords "java/lang/System" "arraycopy" 5 + 11) ≤ R.locals) (d : decode cc pc = .ok (.invokestatic ix, 3)) (k : bw_At p l e R s m args below meth c Q sh n D kT ρ nL (pc + 3) L rest M') : bw_At p l e R s m args below meth c Q sh n D kT ρ nL pc L (.int x :: .int dp :: .ref (ρ qd) :: .int sp :: .ref (ρ qs) :: rest) M := by
  intro H locs ls hP hS hl
  have ng : ∀ z : Int32, 0 ≤ z → ¬ z < 0 := fun z h => Int32.not_lt.mpr h
  have he : (bw_wo sh n kT ρ M)[qs]? = some (ρ qs, .inl (kT 0, ns, .inl (M.1 qs))) := (bw_wo_get hqs).trans (by simp only [bw_ce, hss])
  have he2 : (bw_wo sh n kT ρ M)[qd]? = some (ρ qd, .inl (kT 0, nd, .inl (M.1 qd))) := (bw_wo_get hqd).trans (by simp only [bw_ce, hsd])
  refine va_copyi (ty := .int) C.1 C.2.1 (C.2.2.1.trans hl.1.symm) C.2.2.2.1 (C.2.2.2.2.1 _ h1) (C.2.2.2.2.1 _ h2) (C.2.2.2.2.1 _ h3) (C.2.2.2.2.1 _ h4) C.2.2.2.2.2.1 hP (bw_wo_D C.2.2.2.2.2.2.1 M) hS qs qd 0 0 he he2 rfl rfl rfl (ng _ hb.1) (ng _ hb.2.1) (ng _ hb.2.2.1) hb.2.2.2.1 hb.2.2.2.2 (fun i _ => rfl) hfr hlo d (fun H1 locs1 hP1 _ hS1 => ?_)
  refine k H1 locs1 ls ?_ hS1 hl
  have hset : (bw_wo sh n kT ρ M).set qd (ρ qd, .inl (kT 0, nd, .inl (va_cpy (M.1 qs) (M.1 qd) sp.toNatClampNeg dp.toNatClampNeg x.toNatClampNeg))) = bw_wo sh n kT ρ M' := by
    subst hM
    refine bw_wo_set ?_ (fun j hj => bw_ce_pA _ j hj)
    simp only [bw_ce, hsd, bw_pA_self]
  rw [← hset]
  exact hP1
theorem bw_mmax (C : bw_Cx p s m args meth c cc nL own n D kT ρ rt) {ix : Nat} {x y : Int32} (h1 : Cond.methodLink own ix Lib.Math.max.name ∈ bw_tbl) (h2 : Cond.static Lib.Math.max.name ∈ bw_tbl) (h3 : Cond.initialized "java/lang/Math" ∈ bw_tbl) (h4 : Cond.code Lib.Math.max.name Lib.Math.max.code 2 (some .int) ∈ bw_tbl) (hfr : 1 ≤ R.frames) (hlo : (rest.map fun v => v.category).sum + 13 ≤ R.locals) (d : decode cc pc = .ok (.invokestatic ix, 3)) (k : bw_At p l e R s m args below meth c Q sh n D kT ρ nL (pc + 3) L (.int (if x < y then y else x) :: rest) M) : bw_At p l e R s m args below meth c Q sh n D kT ρ nL pc L (.int y :: .int x :: rest) M := fun H locs ls hP hS hl => va_mmax C.1 C.2.1 (C.2.2.1.trans hl.1.symm) C.2.2.2.1 (C.2.2.2.2.1 _ h1) (C.2.2.2.2.1 _ h2) (C.2.2.2.2.1 _ h3) (C.2.2.2.2.1 _ h4) hfr hlo (Nat.zero_le _) (Nat.zero_le _) d (k H locs ls hP hS hl)
theorem bw_mmin (C : bw_Cx p s m args meth c cc nL own n D kT ρ rt) {ix : Nat} {x y : Int32} (h1 : Cond.methodLink own ix Lib.Math.min.name ∈ bw_tbl) (h2 : Cond.static Lib.Math.min.name ∈ bw_tbl) (h3 : Cond.initialized "java/lang/Math" ∈ bw_tbl) (h4 : Cond.code Lib.Math.min.name Lib.Math.min.code 2 (some .int) ∈ bw_tbl) (hfr : 1 ≤ R.frames) (hlo : (rest.map fun v => v.category).sum + 13 ≤ R.locals) (d : decode cc pc = .ok (.invokestatic ix, 3)) (k : bw_At p l e R s m args below meth c Q sh n D kT ρ nL (pc + 3) L (.int (if y < x then y else x) :: rest) M) : bw_At p l e R s m args below meth c Q sh n D kT ρ nL pc L (.int y :: .int x :: rest) M := fun H locs ls hP hS hl => va_mmin C.1 C.2.1 (C.2.2.1.trans hl.1.symm) C.2.2.2.1 (C.2.2.2.2.1 _ h1) (C.2.2.2.2.1 _ h2) (C.2.2.2.2.1 _ h3) (C.2.2.2.2.1 _ h4) hfr hlo (Nat.zero_le _) (Nat.zero_le _) d (k H locs ls hP hS hl)
def bw_Pr (sh : Nat → bw_Sh) (n : Nat) (D : va_G) (kT : Nat → ClassId) (ρ : Nat → Nat) (M : bw_M) : State → Prop := fun U => va_P D vwCl (bw_wo sh n kT ρ M) U.heap ∧ va_K D vwCl (bw_ty kT) U ∧ bw_inj ρ n
def bw_B (sh : Nat → bw_Sh) (n : Nat) (D : va_G) (kT : Nat → ClassId) (ρ : Nat → Nat) (M : bw_M) : Unit → State → Prop := fun _ t => va_P D vwCl (bw_wo sh n kT ρ M) t.heap
abbrev bw_QI (sh : Nat → bw_Sh) (n : Nat) (D : va_G) (kT : Nat → ClassId) (ρ : Nat → Nat) (r : Int32) (M : bw_M) := va_Qi (S := Unit) (fun v _ => v = r) (bw_B sh n D kT ρ M) (bw_A ρ n)
abbrev bw_QL (sh : Nat → bw_Sh) (n : Nat) (D : va_G) (kT : Nat → ClassId) (ρ : Nat → Nat) (r : Int64) (M : bw_M) := va_Ql (S := Unit) (fun v _ => v = r) (bw_B sh n D kT ρ M) (bw_A ρ n)
abbrev bw_QV (sh : Nat → bw_Sh) (n : Nat) (D : va_G) (kT : Nat → ClassId) (ρ : Nat → Nat) (M : bw_M) := va_Qv (S := Unit) (fun _ => True) (bw_B sh n D kT ρ M) (bw_A ρ n)
def bw_CI (l : Launch) (sh : Nat → bw_Sh) (n : Nat) (y : MethodName) (cc : ByteArray) (nL : Nat) (rt : Option FieldType) (rm : Room) (av : (Nat → Nat) → List Value) (M : bw_M) (r : Int32) (M' : bw_M) : Prop := ∀ (D : va_G) (kT : Nat → ClassId) (ρ : Nat → Nat), Met l y (bw_ws y cc nL rt) rm (va_Pc (av ρ) (bw_Pr sh n D kT ρ M)) (bw_QI sh n D kT ρ r M') 0 0 (bw_A ρ n)
def bw_CL (l : Launch) (sh : Nat → bw_Sh) (n : Nat) (y : MethodName) (cc : ByteArray) (nL : Nat) (rt : Option FieldType) (rm : Room) (av : (Nat → Nat) → List Value) (M : bw_M) (r : Int64) (M' : bw_M) : Prop := ∀ (D : va_G) (kT : Nat → ClassId) (ρ : Nat → Nat), Met l y (bw_ws y cc nL rt) rm (va_Pc (av ρ) (bw_Pr sh n D kT ρ M)) (bw_QL sh n D kT ρ r M') 0 0 (bw_A ρ n)
def bw_CV (l : Launch) (sh : Nat → bw_Sh) (n : Nat) (y : MethodName) (cc : ByteArray) (nL : Nat) (rt : Option FieldType) (rm : Room) (av : (Nat → Nat) → List Value) (M : bw_M) (M' : bw_M) : Prop := ∀ (D : va_G) (kT : Nat → ClassId) (ρ : Nat → Nat), Met l y (bw_ws y cc nL rt) rm (va_Pc (av ρ) (bw_Pr sh n D kT ρ M)) (bw_QV sh n D kT ρ M') 0 0 (bw_A ρ n)
theorem bw_blind {av : List Value} : FrameBlind (va_Pc av (bw_Pr sh n D kT ρ M)) := fun a U g mk q => by
  obtain ⟨q0, qP, qK, qI⟩ := q
  exact ⟨q0, qP, va_K.moved (u := U) (U := U.calling g mk a) (Vm.Alike.refl U.vm) qK, qI⟩
theorem bw_pre (C : bw_Cx p s m args meth c cc nL own n D kT ρ rt) {H : Heap} (hP : va_P D vwCl (bw_wo sh n kT ρ M) H) {av : List Value} (U : State) (hU : U.heap = H) (hW : s.WarmedH U.vm) : va_Pc av (bw_Pr sh n D kT ρ M) av.toArray U := ⟨rfl, by rw [hU]; exact hP, va_K.moved hW.alike C.2.2.2.2.2.1, C.2.2.2.2.2.2.1⟩
theorem bw_cVi (C : bw_Cx p s m args meth c cc nL own n D kT ρ rt) {y : MethodName} {rm : Room} {av : (Nat → Nat) → List Value} {r : Int32} {M' : bw_M} {C0 : String} {T : u_T} {N ci ix q na maxL : Nat} {bytes : ByteArray} {ret : Option FieldType} {fl : List Nat} {As : List Value} (hc : bw_CI l sh n y bytes maxL ret rm av M r M') (hm : bw_MV y bytes maxL ret C0 na) (hlk : Cond.methodLink own ix y ∈ bw_tbl) (hrc : rm.cells = 0) (hrs : rm.slots = 0) (hrm : rm.frames + 1 ≤ R.frames ∧ 8 + (maxL + 11) + rm.locals ≤ R.locals) (hq : q < n) (hs : sh q = .inl (ci, fl)) (hcl : vwCl[ci]? = some (C0, T, N)) (hav : av ρ = .ref (ρ q) :: As) (hn : As.length = na) (hst : st = As.reverse ++ .ref (ρ q) :: rest) (hro : (rest.map fun v => v.category).sum ≤ 8) (d : decode cc pc = .ok (.invokevirtual ix, 3)) (k : bw_At p l e R s m args below meth c Q sh n D kT ρ nL (pc + 3) L (.int r :: rest) M') : bw_At p l e R s m args below meth c Q sh n D kT ρ nL pc L st M := by
  intro H locs ls hP hS hl
  have he : (bw_wo sh n kT ρ M)[q]? = some (ρ q, .inr (ci, bw_fvs ρ M q 0 fl)) := (bw_wo_get hq).trans (by simp only [bw_ce, hs])
  have hM := hc D kT ρ
  rw [hav] at hM
  refine va_calli (va_runV (As := As) (rest := rest) ⟨C.1, C.2.1, C.2.2.1, C.2.2.2.1, C.2.2.2.2.1⟩ hM (cwV na C.2.2.2.2.1 (bw_gV hm hlk) rfl hrc hrs hm.2.2.2.2 hrm) ⟨bw_blind, va_recv C.2.2.2.2.2.1 hP hcl he, fun U hU hW => bw_pre C hP U hU hW⟩ rfl hn hl.1 hst (lv_room hro) d ⟨Nat.zero_le _, Nat.zero_le _⟩) hS (fun q _ h => h) (fun q h => h) (fun r' u t H1 locs1 ht hvm hw hB hz hk hS1 => ?_)
  subst hw
  exact k H1 locs1 ls (by rw [← ht]; exact hB) hS1 hl
theorem bw_cSi (C : bw_Cx p s m args meth c cc nL own n D kT ρ rt) {y : MethodName} {rm : Room} {av : (Nat → Nat) → List Value} {r : Int32} {M' : bw_M} {ix na maxL : Nat} {bytes : ByteArray} {ret : Option FieldType} {As : List Value} (hc : bw_CI l sh n y bytes maxL ret rm av M r M') (hm : bw_MS y bytes maxL ret na) (hlk : Cond.methodLink own ix y ∈ bw_tbl) (hrc : rm.cells = 0) (hrs : rm.slots = 0) (hrm : rm.frames + 1 ≤ R.frames ∧ 8 + (maxL + 11) + rm.locals ≤ R.locals) (hav : av ρ = As) (hn : As.length = na) (hst : st = As.reverse ++ rest) (hro : (rest.map fun v => v.category).sum ≤ 8) (d : decode cc pc = .ok (.invokestatic ix, 3)) (k : bw_At p l e R s m args below meth c Q sh n D kT ρ nL (pc + 3) L (.int r :: rest) M') : bw_At p l e R s m args below meth c Q sh n D kT ρ nL pc L st M := by
  intro H locs ls hP hS hl
  have hM := hc D kT ρ
  rw [hav] at hM
  refine va_calli (va_runS (As := As) (rest := rest) ⟨C.1, C.2.1, C.2.2.1, C.2.2.2.1, C.2.2.2.2.1⟩ hM (va_cwS na C.2.2.2.2.1 (bw_gS hm hlk) rfl hrc hrs hm.2.2.2 hrm) ⟨bw_blind, fun U hU hW => bw_pre C hP U hU hW⟩ rfl hn hl.1 hst (lv_room hro) d ⟨Nat.zero_le _, Nat.zero_le _⟩) hS (fun q _ h => h) (fun q h => h) (fun r' u t H1 locs1 ht hvm hw hB hz hk hS1 => ?_)
  subst hw
  exact k H1 locs1 ls (by rw [← ht]; exact hB) hS1 hl
theorem bw_cVl (C : bw_Cx p s m args meth c cc nL own n D kT ρ rt) {y : MethodName} {rm : Room} {av : (Nat → Nat) → List Value} {r : Int64} {M' : bw_M} {C0 : String} {T : u_T} {N ci ix q na maxL : Nat} {bytes : ByteArray} {ret : Option FieldType} {fl : List Nat} {As : List Value} (hc : bw_CL l sh n y bytes maxL ret rm av M r M') (hm : bw_MV y bytes maxL ret C0 na) (hlk : Cond.methodLink own ix y ∈ bw_tbl) (hrc : rm.cells = 0) (hrs : rm.slots = 0) (hrm : rm.frames + 1 ≤ R.frames ∧ 8 + (maxL + 11) + rm.locals ≤ R.locals) (hq : q < n) (hs : sh q = .inl (ci, fl)) (hcl : vwCl[ci]? = some (C0, T, N)) (hav : av ρ = .ref (ρ q) :: As) (hn : As.length = na) (hst : st = As.reverse ++ .ref (ρ q) :: rest) (hro : (rest.map fun v => v.category).sum ≤ 8) (d : decode cc pc = .ok (.invokevirtual ix, 3)) (k : bw_At p l e R s m args below meth c Q sh n D kT ρ nL (pc + 3) L (.long r :: rest) M') : bw_At p l e R s m args below meth c Q sh n D kT ρ nL pc L st M := by
  intro H locs ls hP hS hl
  have he : (bw_wo sh n kT ρ M)[q]? = some (ρ q, .inr (ci, bw_fvs ρ M q 0 fl)) := (bw_wo_get hq).trans (by simp only [bw_ce, hs])
  have hM := hc D kT ρ
  rw [hav] at hM
  refine va_calll (va_runV (As := As) (rest := rest) ⟨C.1, C.2.1, C.2.2.1, C.2.2.2.1, C.2.2.2.2.1⟩ hM (cwV na C.2.2.2.2.1 (bw_gV hm hlk) rfl hrc hrs hm.2.2.2.2 hrm) ⟨bw_blind, va_recv C.2.2.2.2.2.1 hP hcl he, fun U hU hW => bw_pre C hP U hU hW⟩ rfl hn hl.1 hst (lv_room hro) d ⟨Nat.zero_le _, Nat.zero_le _⟩) hS (fun q _ h => h) (fun q h => h) (fun r' u t H1 locs1 ht hvm hw hB hz hk hS1 => ?_)
  subst hw
  exact k H1 locs1 ls (by rw [← ht]; exact hB) hS1 hl
theorem bw_cSl (C : bw_Cx p s m args meth c cc nL own n D kT ρ rt) {y : MethodName} {rm : Room} {av : (Nat → Nat) → List Value} {r : Int64} {M' : bw_M} {ix na maxL : Nat} {bytes : ByteArray} {ret : Option FieldType} {As : List Value} (hc : bw_CL l sh n y bytes maxL ret rm av M r M') (hm : bw_MS y bytes maxL ret na) (hlk : Cond.methodLink own ix y ∈ bw_tbl) (hrc : rm.cells = 0) (hrs : rm.slots = 0) (hrm : rm.frames + 1 ≤ R.frames ∧ 8 + (maxL + 11) + rm.locals ≤ R.locals) (hav : av ρ = As) (hn : As.length = na) (hst : st = As.reverse ++ rest) (hro : (rest.map fun v => v.category).sum ≤ 8) (d : decode cc pc = .ok (.invokestatic ix, 3)) (k : bw_At p l e R s m args below meth c Q sh n D kT ρ nL (pc + 3) L (.long r :: rest) M') : bw_At p l e R s m args below meth c Q sh n D kT ρ nL pc L st M := by
  intro H locs ls hP hS hl
  have hM := hc D kT ρ
  rw [hav] at hM
  refine va_calll (va_runS (As := As) (rest := rest) ⟨C.1, C.2.1, C.2.2.1, C.2.2.2.1, C.2.2.2.2.1⟩ hM (va_cwS na C.2.2.2.2.1 (bw_gS hm hlk) rfl hrc hrs hm.2.2.2 hrm) ⟨bw_blind, fun U hU hW => bw_pre C hP U hU hW⟩ rfl hn hl.1 hst (lv_room hro) d ⟨Nat.zero_le _, Nat.zero_le _⟩) hS (fun q _ h => h) (fun q h => h) (fun r' u t H1 locs1 ht hvm hw hB hz hk hS1 => ?_)
  subst hw
  exact k H1 locs1 ls (by rw [← ht]; exact hB) hS1 hl
theorem bw_cVv (C : bw_Cx p s m args meth c cc nL own n D kT ρ rt) {y : MethodName} {rm : Room} {av : (Nat → Nat) → List Value} {M' : bw_M} {C0 : String} {T : u_T} {N ci ix q na maxL : Nat} {bytes : ByteArray} {ret : Option FieldType} {fl : List Nat} {As : List Value} (hc : bw_CV l sh n y bytes maxL ret rm av M M') (hm : bw_MV y bytes maxL ret C0 na) (hlk : Cond.methodLink own ix y ∈ bw_tbl) (hrc : rm.cells = 0) (hrs : rm.slots = 0) (hrm : rm.frames + 1 ≤ R.frames ∧ 8 + (maxL + 11) + rm.locals ≤ R.locals) (hq : q < n) (hs : sh q = .inl (ci, fl)) (hcl : vwCl[ci]? = some (C0, T, N)) (hav : av ρ = .ref (ρ q) :: As) (hn : As.length = na) (hst : st = As.reverse ++ .ref (ρ q) :: rest) (hro : (rest.map fun v => v.category).sum ≤ 8) (d : decode cc pc = .ok (.invokevirtual ix, 3)) (k : bw_At p l e R s m args below meth c Q sh n D kT ρ nL (pc + 3) L (rest) M') : bw_At p l e R s m args below meth c Q sh n D kT ρ nL pc L st M := by
  intro H locs ls hP hS hl
  have he : (bw_wo sh n kT ρ M)[q]? = some (ρ q, .inr (ci, bw_fvs ρ M q 0 fl)) := (bw_wo_get hq).trans (by simp only [bw_ce, hs])
  have hM := hc D kT ρ
  rw [hav] at hM
  refine va_callv (va_runV (As := As) (rest := rest) ⟨C.1, C.2.1, C.2.2.1, C.2.2.2.1, C.2.2.2.2.1⟩ hM (cwV na C.2.2.2.2.1 (bw_gV hm hlk) rfl hrc hrs hm.2.2.2.2 hrm) ⟨bw_blind, va_recv C.2.2.2.2.2.1 hP hcl he, fun U hU hW => bw_pre C hP U hU hW⟩ rfl hn hl.1 hst (lv_room hro) d ⟨Nat.zero_le _, Nat.zero_le _⟩) hS (fun q _ h => h) (fun q h => h) (fun u t H1 locs1 ht hvm hw hB hz hk hS1 => ?_)
  exact k H1 locs1 ls (by rw [← ht]; exact hB) hS1 hl
theorem bw_cSv (C : bw_Cx p s m args meth c cc nL own n D kT ρ rt) {y : MethodName} {rm : Room} {av : (Nat → Nat) → List Value} {M' : bw_M} {ix na maxL : Nat} {bytes : ByteArray} {ret : Option FieldType} {As : List Value} (hc : bw_CV l sh n y bytes maxL ret rm av M M') (hm : bw_MS y bytes maxL ret na) (hlk : Cond.methodLink own ix y ∈ bw_tbl) (hrc : rm.cells = 0) (hrs : rm.slots = 0) (hrm : rm.frames + 1 ≤ R.frames ∧ 8 + (maxL + 11) + rm.locals ≤ R.locals) (hav : av ρ = As) (hn : As.length = na) (hst : st = As.reverse ++ rest) (hro : (rest.map fun v => v.category).sum ≤ 8) (d : decode cc pc = .ok (.invokestatic ix, 3)) (k : bw_At p l e R s m args below meth c Q sh n D kT ρ nL (pc + 3) L (rest) M') : bw_At p l e R s m args below meth c Q sh n D kT ρ nL pc L st M := by
  intro H locs ls hP hS hl
  have hM := hc D kT ρ
  rw [hav] at hM
  refine va_callv (va_runS (As := As) (rest := rest) ⟨C.1, C.2.1, C.2.2.1, C.2.2.2.1, C.2.2.2.2.1⟩ hM (va_cwS na C.2.2.2.2.1 (bw_gS hm hlk) rfl hrc hrs hm.2.2.2 hrm) ⟨bw_blind, fun U hU hW => bw_pre C hP U hU hW⟩ rfl hn hl.1 hst (lv_room hro) d ⟨Nat.zero_le _, Nat.zero_le _⟩) hS (fun q _ h => h) (fun q h => h) (fun u t H1 locs1 ht hvm hw hB hz hk hS1 => ?_)
  exact k H1 locs1 ls (by rw [← ht]; exact hB) hS1 hl
theorem bw_inI {y : MethodName} {rm : Room} {av : (Nat → Nat) → List Value} {r : Int32} {M' : bw_M} {Lf : (Nat → Nat) → List (Nat × Value)} (cc : ByteArray) (nL : Nat) (rt : Option FieldType) (own : String) (hy : plainName y.cls = true) (hown : y.cls = own) (hlen : ∀ ρ, (lg_sl (av ρ)).length ≤ nL) (hLf : ∀ ρ, lv_args 0 (av ρ) = Lf ρ)
    (body : ∀ (p : Program) (e : Env) (s : State) (m : MethodId) (args : Array Value) (below : List Frame) (meth : Method) (c : Code) (D : va_G) (kT : Nat → ClassId) (ρ : Nat → Nat), bw_Cx p s m args meth c cc nL own n D kT ρ rt → bw_At p l e rm s m args below meth c (MQ below (bw_QI sh n D kT ρ r M') args s 0 0 (bw_A ρ n)) sh n D kT ρ nL 0 (Lf ρ) [] M) : bw_CI l sh n y cc nL rt rm av M r M' := by
  intro D kT ρ
  refine Met.ofW (cc := cc) (maxL := nL) (ret := rt) hy rfl ?_
  intro p e s m args below meth c s₁ B hml hv
  obtain ⟨rfl, hP, hK, hI⟩ := hv
  have hts := fun w (h : w ∈ bw_tbl) => atoms_spec (ws := bw_ws y cc nL rt) B.pre w (List.mem_cons_of_mem _ h)
  have hown2 : s.vm.findClass own = some m.cls := hown ▸ findClass_of_methodNamed B.named
  have hl := lv_entry (av ρ) (n := nL) (hlen ρ)
  rw [lg_entry_eq]
  rw [hLf ρ] at hl
  exact body p e s m _ below meth c D kT ρ ⟨B.exec, B.bytes, hml, hown2, hts, hK, hI, B.returns, B.notSynchronized⟩ s.heap [] _ hP va_S.rf hl
theorem bw_inL {y : MethodName} {rm : Room} {av : (Nat → Nat) → List Value} {r : Int64} {M' : bw_M} {Lf : (Nat → Nat) → List (Nat × Value)} (cc : ByteArray) (nL : Nat) (rt : Option FieldType) (own : String) (hy : plainName y.cls = true) (hown : y.cls = own) (hlen : ∀ ρ, (lg_sl (av ρ)).length ≤ nL) (hLf : ∀ ρ, lv_args 0 (av ρ) = Lf ρ)
    (body : ∀ (p : Program) (e : Env) (s : State) (m : MethodId) (args : Array Value) (below : List Frame) (meth : Method) (c : Code) (D : va_G) (kT : Nat → ClassId) (ρ : Nat → Nat), bw_Cx p s m args meth c cc nL own n D kT ρ rt → bw_At p l e rm s m args below meth c (MQ below (bw_QL sh n D kT ρ r M') args s 0 0 (bw_A ρ n)) sh n D kT ρ nL 0 (Lf ρ) [] M) : bw_CL l sh n y cc nL rt rm av M r M' := by
  intro D kT ρ
  refine Met.ofW (cc := cc) (maxL := nL) (ret := rt) hy rfl ?_
  intro p e s m args below meth c s₁ B hml hv
  obtain ⟨rfl, hP, hK, hI⟩ := hv
  have hts := fun w (h : w ∈ bw_tbl) => atoms_spec (ws := bw_ws y cc nL rt) B.pre w (List.mem_cons_of_mem _ h)
  have hown2 : s.vm.findClass own = some m.cls := hown ▸ findClass_of_methodNamed B.named
  have hl := lv_entry (av ρ) (n := nL) (hlen ρ)
  rw [lg_entry_eq]
  rw [hLf ρ] at hl
  exact body p e s m _ below meth c D kT ρ ⟨B.exec, B.bytes, hml, hown2, hts, hK, hI, B.returns, B.notSynchronized⟩ s.heap [] _ hP va_S.rf hl
theorem bw_inV {y : MethodName} {rm : Room} {av : (Nat → Nat) → List Value} {M' : bw_M} {Lf : (Nat → Nat) → List (Nat × Value)} (cc : ByteArray) (nL : Nat) (rt : Option FieldType) (own : String) (hy : plainName y.cls = true) (hown : y.cls = own) (hlen : ∀ ρ, (lg_sl (av ρ)).length ≤ nL) (hLf : ∀ ρ, lv_args 0 (av ρ) = Lf ρ)
    (body : ∀ (p : Program) (e : Env) (s : State) (m : MethodId) (args : Array Value) (below : List Frame) (meth : Method) (c : Code) (D : va_G) (kT : Nat → ClassId) (ρ : Nat → Nat), bw_Cx p s m args meth c cc nL own n D kT ρ rt → bw_At p l e rm s m args below meth c (MQ below (bw_QV sh n D kT ρ M') args s 0 0 (bw_A ρ n)) sh n D kT ρ nL 0 (Lf ρ) [] M) : bw_CV l sh n y cc nL rt rm av M M' := by
  intro D kT ρ
  refine Met.ofW (cc := cc) (maxL := nL) (ret := rt) hy rfl ?_
  intro p e s m args below meth c s₁ B hml hv
  obtain ⟨rfl, hP, hK, hI⟩ := hv
  have hts := fun w (h : w ∈ bw_tbl) => atoms_spec (ws := bw_ws y cc nL rt) B.pre w (List.mem_cons_of_mem _ h)
  have hown2 : s.vm.findClass own = some m.cls := hown ▸ findClass_of_methodNamed B.named
  have hl := lv_entry (av ρ) (n := nL) (hlen ρ)
  rw [lg_entry_eq]
  rw [hLf ρ] at hl
  exact body p e s m _ below meth c D kT ρ ⟨B.exec, B.bytes, hml, hown2, hts, hK, hI, B.returns, B.notSynchronized⟩ s.heap [] _ hP va_S.rf hl
theorem bw_ireti (C : bw_Cx p s m args meth c cc nL own n D kT ρ (some .int)) {r v : Int32} {M' : bw_M} (d : decode cc pc = .ok (.ireturn, 1)) (h : some (v, M) = some (r, M')) : bw_At p l e R s m args below meth c (MQ below (bw_QI sh n D kT ρ r M') args s 0 0 (bw_A ρ n)) sh n D kT ρ nL pc L [.int v] M := by
  cases h
  exact fun H locs ls hP hS hl => W.iret C.1 C.2.1 C.2.2.2.2.2.2.2.1 (fun t ht hW => ⟨⟨_, (), rfl, rfl, by rw [bw_B, ht]; exact hP⟩, hS.F ht⟩) hS.2.2 d C.2.2.2.2.2.2.2.2
theorem bw_iretz (C : bw_Cx p s m args meth c cc nL own n D kT ρ (some .boolean)) {r v : Int32} {M' : bw_M} (hb : narrow .boolean (.int v) = .int v) (d : decode cc pc = .ok (.ireturn, 1)) (h : some (v, M) = some (r, M')) : bw_At p l e R s m args below meth c (MQ below (bw_QI sh n D kT ρ r M') args s 0 0 (bw_A ρ n)) sh n D kT ρ nL pc L [.int v] M := by
  cases h
  exact fun H locs ls hP hS hl => W.zret C.1 C.2.1 C.2.2.2.2.2.2.2.1 hb (fun t ht hW => ⟨⟨_, (), rfl, rfl, by rw [bw_B, ht]; exact hP⟩, hS.F ht⟩) hS.2.2 d C.2.2.2.2.2.2.2.2
theorem bw_lreti (C : bw_Cx p s m args meth c cc nL own n D kT ρ (some .long)) {r v : Int64} {M' : bw_M} (d : decode cc pc = .ok (.lreturn, 1)) (h : some (v, M) = some (r, M')) : bw_At p l e R s m args below meth c (MQ below (bw_QL sh n D kT ρ r M') args s 0 0 (bw_A ρ n)) sh n D kT ρ nL pc L [.long v] M := by
  cases h
  exact fun H locs ls hP hS hl => W.lret C.1 C.2.1 C.2.2.2.2.2.2.2.1 (fun t ht hW => ⟨⟨_, (), rfl, rfl, by rw [bw_B, ht]; exact hP⟩, hS.F ht⟩) hS.2.2 d C.2.2.2.2.2.2.2.2
theorem bw_vreti (C : bw_Cx p s m args meth c cc nL own n D kT ρ (none)) {M' : bw_M} (d : decode cc pc = .ok (.return_, 1)) (h : some M = some M') : bw_At p l e R s m args below meth c (MQ below (bw_QV sh n D kT ρ M') args s 0 0 (bw_A ρ n)) sh n D kT ρ nL pc L [] M := by
  cases h
  exact fun H locs ls hP hS hl => W.vret C.1 C.2.1 C.2.2.2.2.2.2.2.1 (fun t ht hW => ⟨⟨(), rfl, trivial, by rw [bw_B, ht]; exact hP⟩, hS.F ht⟩) hS.2.2 d C.2.2.2.2.2.2.2.2
end BW
end
