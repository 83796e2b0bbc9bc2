-- ===== PART A: goes FIRST, ahead of the names: the tables' words, and 'selects' of the private methods out of them =====
/-- a private method of a class that the tables say can be made, by its rows of tables_1 -/
def lw_okq (q : MethodName × Nat) : Prop := (q.1.cls ≠ "java/lang/invoke/MethodHandle" ∧ q.1.cls ≠ "java/lang/invoke/VarHandle") ∧ Cond.instantiable q.1.cls q.2 ∈ tables_1 ∧ Cond.privateMethod q.1 ∈ tables_1 ∧ Cond.instanceMethod q.1 ∈ tables_1
theorem lw_p0 : lw_okq (⟨"StepRunner$Value", "becomeNothing", "()V"⟩, 7) := ⟨⟨by decide +kernel, by decide +kernel⟩, List.mem_of_getElem? (i := 48) (by decide +kernel), List.mem_of_getElem? (i := 91) (by decide +kernel), List.mem_of_getElem? (i := 92) (by decide +kernel)⟩
theorem lw_p1 : lw_okq (⟨"StepRunner", "stepToBuild", "(I)LStepRunner$Step;"⟩, 7) := ⟨⟨by decide +kernel, by decide +kernel⟩, List.mem_of_getElem? (i := 18) (by decide +kernel), List.mem_of_getElem? (i := 438) (by decide +kernel), List.mem_of_getElem? (i := 439) (by decide +kernel)⟩
theorem lw_p2 : lw_okq (⟨"StepRunner$Draft", "readValue", "(I)LStepRunner$Value;"⟩, 3) := ⟨⟨by decide +kernel, by decide +kernel⟩, List.mem_of_getElem? (i := 26) (by decide +kernel), List.mem_of_getElem? (i := 462) (by decide +kernel), List.mem_of_getElem? (i := 463) (by decide +kernel)⟩
theorem lw_p3 : lw_okq (⟨"StepRunner$Draft", "peek", "()C"⟩, 3) := ⟨⟨by decide +kernel, by decide +kernel⟩, List.mem_of_getElem? (i := 26) (by decide +kernel), List.mem_of_getElem? (i := 466) (by decide +kernel), List.mem_of_getElem? (i := 467) (by decide +kernel)⟩
theorem lw_p4 : lw_okq (⟨"StepRunner$Draft", "readList", "(I)LStepRunner$Value;"⟩, 3) := ⟨⟨by decide +kernel, by decide +kernel⟩, List.mem_of_getElem? (i := 26) (by decide +kernel), List.mem_of_getElem? (i := 470) (by decide +kernel), List.mem_of_getElem? (i := 471) (by decide +kernel)⟩
theorem lw_p5 : lw_okq (⟨"StepRunner$Draft", "readText", "()LStepRunner$Value;"⟩, 3) := ⟨⟨by decide +kernel, by decide +kernel⟩, List.mem_of_getElem? (i := 26) (by decide +kernel), List.mem_of_getElem? (i := 479) (by decide +kernel), List.mem_of_getElem? (i := 480) (by decide +kernel)⟩
theorem lw_p6 : lw_okq (⟨"StepRunner$Draft", "readNothing", "()LStepRunner$Value;"⟩, 3) := ⟨⟨by decide +kernel, by decide +kernel⟩, List.mem_of_getElem? (i := 26) (by decide +kernel), List.mem_of_getElem? (i := 488) (by decide +kernel), List.mem_of_getElem? (i := 489) (by decide +kernel)⟩
theorem lw_p7 : lw_okq (⟨"StepRunner$Draft", "readNumber", "()LStepRunner$Value;"⟩, 3) := ⟨⟨by decide +kernel, by decide +kernel⟩, List.mem_of_getElem? (i := 26) (by decide +kernel), List.mem_of_getElem? (i := 496) (by decide +kernel), List.mem_of_getElem? (i := 497) (by decide +kernel)⟩
theorem lw_p8 : lw_okq (⟨"StepRunner$Rule", "addReference", "([CII)I"⟩, 4) := ⟨⟨by decide +kernel, by decide +kernel⟩, List.mem_of_getElem? (i := 530) (by decide +kernel), List.mem_of_getElem? (i := 556) (by decide +kernel), List.mem_of_getElem? (i := 557) (by decide +kernel)⟩
theorem lw_p9 : lw_okq (⟨"StepRunner$Rule", "addCode", "(I)V"⟩, 4) := ⟨⟨by decide +kernel, by decide +kernel⟩, List.mem_of_getElem? (i := 530) (by decide +kernel), List.mem_of_getElem? (i := 561) (by decide +kernel), List.mem_of_getElem? (i := 562) (by decide +kernel)⟩
theorem lw_p10 : lw_okq (⟨"StepRunner$Rule", "addAccesses", "([CII)I"⟩, 4) := ⟨⟨by decide +kernel, by decide +kernel⟩, List.mem_of_getElem? (i := 530) (by decide +kernel), List.mem_of_getElem? (i := 566) (by decide +kernel), List.mem_of_getElem? (i := 567) (by decide +kernel)⟩
theorem lw_p11 : lw_okq (⟨"StepRunner", "missesSteps", "()Z"⟩, 7) := ⟨⟨by decide +kernel, by decide +kernel⟩, List.mem_of_getElem? (i := 18) (by decide +kernel), List.mem_of_getElem? (i := 590) (by decide +kernel), List.mem_of_getElem? (i := 591) (by decide +kernel)⟩
theorem lw_p12 : lw_okq (⟨"StepRunner", "goesRound", "()Z"⟩, 7) := ⟨⟨by decide +kernel, by decide +kernel⟩, List.mem_of_getElem? (i := 18) (by decide +kernel), List.mem_of_getElem? (i := 598) (by decide +kernel), List.mem_of_getElem? (i := 599) (by decide +kernel)⟩
theorem lw_p13 : lw_okq (⟨"StepRunner$Run", "nextToExpand", "()I"⟩, 11) := ⟨⟨by decide +kernel, by decide +kernel⟩, List.mem_of_getElem? (i := 137) (by decide +kernel), List.mem_of_getElem? (i := 615) (by decide +kernel), List.mem_of_getElem? (i := 616) (by decide +kernel)⟩
theorem lw_p14 : lw_okq (⟨"StepRunner$Expander", "fillPorts", "(LStepRunner$Step;[LStepRunner$Progress;[LStepRunner$Value;)Z"⟩, 10) := ⟨⟨by decide +kernel, by decide +kernel⟩, List.mem_of_getElem? (i := 143) (by decide +kernel), List.mem_of_getElem? (i := 624) (by decide +kernel), List.mem_of_getElem? (i := 625) (by decide +kernel)⟩
theorem lw_p15 : lw_okq (⟨"StepRunner$Expander", "merge", "(LStepRunner$Step;I[LStepRunner$Progress;[LStepRunner$Value;)LStepRunner$Value;"⟩, 10) := ⟨⟨by decide +kernel, by decide +kernel⟩, List.mem_of_getElem? (i := 143) (by decide +kernel), List.mem_of_getElem? (i := 628) (by decide +kernel), List.mem_of_getElem? (i := 629) (by decide +kernel)⟩
def lw_privs_1 : List (MethodName × Nat) := [(⟨"StepRunner$Value", "becomeNothing", "()V"⟩, 7), (⟨"StepRunner", "stepToBuild", "(I)LStepRunner$Step;"⟩, 7), (⟨"StepRunner$Draft", "readValue", "(I)LStepRunner$Value;"⟩, 3), (⟨"StepRunner$Draft", "peek", "()C"⟩, 3), (⟨"StepRunner$Draft", "readList", "(I)LStepRunner$Value;"⟩, 3), (⟨"StepRunner$Draft", "readText", "()LStepRunner$Value;"⟩, 3), (⟨"StepRunner$Draft", "readNothing", "()LStepRunner$Value;"⟩, 3), (⟨"StepRunner$Draft", "readNumber", "()LStepRunner$Value;"⟩, 3), (⟨"StepRunner$Rule", "addReference", "([CII)I"⟩, 4), (⟨"StepRunner$Rule", "addCode", "(I)V"⟩, 4), (⟨"StepRunner$Rule", "addAccesses", "([CII)I"⟩, 4), (⟨"StepRunner", "missesSteps", "()Z"⟩, 7), (⟨"StepRunner", "goesRound", "()Z"⟩, 7), (⟨"StepRunner$Run", "nextToExpand", "()I"⟩, 11), (⟨"StepRunner$Expander", "fillPorts", "(LStepRunner$Step;[LStepRunner$Progress;[LStepRunner$Value;)Z"⟩, 10), (⟨"StepRunner$Expander", "merge", "(LStepRunner$Step;I[LStepRunner$Progress;[LStepRunner$Value;)LStepRunner$Value;"⟩, 10)]
theorem lw_r1 : ∀ q ∈ lw_privs_1, lw_okq q := List.forall_mem_cons.mpr ⟨lw_p0, List.forall_mem_cons.mpr ⟨lw_p1, List.forall_mem_cons.mpr ⟨lw_p2, List.forall_mem_cons.mpr ⟨lw_p3, List.forall_mem_cons.mpr ⟨lw_p4, List.forall_mem_cons.mpr ⟨lw_p5, List.forall_mem_cons.mpr ⟨lw_p6, List.forall_mem_cons.mpr ⟨lw_p7, List.forall_mem_cons.mpr ⟨lw_p8, List.forall_mem_cons.mpr ⟨lw_p9, List.forall_mem_cons.mpr ⟨lw_p10, List.forall_mem_cons.mpr ⟨lw_p11, List.forall_mem_cons.mpr ⟨lw_p12, List.forall_mem_cons.mpr ⟨lw_p13, List.forall_mem_cons.mpr ⟨lw_p14, List.forall_mem_cons.mpr ⟨lw_p15, fun _ h => absurd h List.not_mem_nil⟩⟩⟩⟩⟩⟩⟩⟩⟩⟩⟩⟩⟩⟩⟩⟩
theorem lw_p16 : lw_okq (⟨"StepRunner$Expander", "countJobs", "(LStepRunner$Step;LStepRunner$Progress;)I"⟩, 10) := ⟨⟨by decide +kernel, by decide +kernel⟩, List.mem_of_getElem? (i := 143) (by decide +kernel), List.mem_of_getElem? (i := 659) (by decide +kernel), List.mem_of_getElem? (i := 660) (by decide +kernel)⟩
theorem lw_p17 : lw_okq (⟨"StepRunner$Expander", "chooseElements", "(LStepRunner$Step;I)V"⟩, 10) := ⟨⟨by decide +kernel, by decide +kernel⟩, List.mem_of_getElem? (i := 143) (by decide +kernel), List.mem_of_getElem? (i := 674) (by decide +kernel), List.mem_of_getElem? (i := 675) (by decide +kernel)⟩
theorem lw_p18 : lw_okq (⟨"StepRunner$Expander", "workRules", "(LStepRunner$Step;)Z"⟩, 10) := ⟨⟨by decide +kernel, by decide +kernel⟩, List.mem_of_getElem? (i := 143) (by decide +kernel), List.mem_of_getElem? (i := 678) (by decide +kernel), List.mem_of_getElem? (i := 679) (by decide +kernel)⟩
theorem lw_p19 : lw_okq (⟨"StepRunner$Rule", "reach", "(I[LStepRunner$Value;LStepRunner$Value;LStepRunner$Value;)LStepRunner$Value;"⟩, 4) := ⟨⟨by decide +kernel, by decide +kernel⟩, List.mem_of_getElem? (i := 530) (by decide +kernel), List.mem_of_getElem? (i := 686) (by decide +kernel), List.mem_of_getElem? (i := 687) (by decide +kernel)⟩
theorem lw_p20 : lw_okq (⟨"StepRunner$Job", "addPortWords", "(CILStepRunner$Value;)Z"⟩, 7) := ⟨⟨by decide +kernel, by decide +kernel⟩, List.mem_of_getElem? (i := 726) (by decide +kernel), List.mem_of_getElem? (i := 765) (by decide +kernel), List.mem_of_getElem? (i := 766) (by decide +kernel)⟩
theorem lw_p21 : lw_okq (⟨"StepRunner$Job", "openWord", "()Z"⟩, 7) := ⟨⟨by decide +kernel, by decide +kernel⟩, List.mem_of_getElem? (i := 726) (by decide +kernel), List.mem_of_getElem? (i := 769) (by decide +kernel), List.mem_of_getElem? (i := 770) (by decide +kernel)⟩
theorem lw_p22 : lw_okq (⟨"StepRunner$Job", "addLetter", "(C)Z"⟩, 7) := ⟨⟨by decide +kernel, by decide +kernel⟩, List.mem_of_getElem? (i := 726) (by decide +kernel), List.mem_of_getElem? (i := 773) (by decide +kernel), List.mem_of_getElem? (i := 774) (by decide +kernel)⟩
theorem lw_p23 : lw_okq (⟨"StepRunner$Job", "addPlain", "(LStepRunner$Value;)Z"⟩, 7) := ⟨⟨by decide +kernel, by decide +kernel⟩, List.mem_of_getElem? (i := 726) (by decide +kernel), List.mem_of_getElem? (i := 778) (by decide +kernel), List.mem_of_getElem? (i := 779) (by decide +kernel)⟩
theorem lw_p24 : lw_okq (⟨"StepRunner$Progress", "nest", "(I)LStepRunner$Value;"⟩, 12) := ⟨⟨by decide +kernel, by decide +kernel⟩, List.mem_of_getElem? (i := 207) (by decide +kernel), List.mem_of_getElem? (i := 792) (by decide +kernel), List.mem_of_getElem? (i := 793) (by decide +kernel)⟩
theorem lw_p25 : lw_okq (⟨"StepRunner$Progress", "takeResult", "()LStepRunner$Value;"⟩, 12) := ⟨⟨by decide +kernel, by decide +kernel⟩, List.mem_of_getElem? (i := 207) (by decide +kernel), List.mem_of_getElem? (i := 796) (by decide +kernel), List.mem_of_getElem? (i := 797) (by decide +kernel)⟩
theorem lw_p26 : lw_okq (⟨"StepRunner$Run", "startJobs", "()V"⟩, 11) := ⟨⟨by decide +kernel, by decide +kernel⟩, List.mem_of_getElem? (i := 137) (by decide +kernel), List.mem_of_getElem? (i := 801) (by decide +kernel), List.mem_of_getElem? (i := 802) (by decide +kernel)⟩
theorem lw_p27 : lw_okq (⟨"StepRunner$Job", "echoWords", "()LStepRunner$Value;"⟩, 7) := ⟨⟨by decide +kernel, by decide +kernel⟩, List.mem_of_getElem? (i := 726) (by decide +kernel), List.mem_of_getElem? (i := 825) (by decide +kernel), List.mem_of_getElem? (i := 826) (by decide +kernel)⟩
theorem lw_p28 : lw_okq (⟨"StepRunner$Job", "addWordTo", "(LStepRunner$Value;I)Z"⟩, 7) := ⟨⟨by decide +kernel, by decide +kernel⟩, List.mem_of_getElem? (i := 726) (by decide +kernel), List.mem_of_getElem? (i := 831) (by decide +kernel), List.mem_of_getElem? (i := 832) (by decide +kernel)⟩
theorem lw_p29 : lw_okq (⟨"StepRunner$Job", "wordEnd", "(I)I"⟩, 7) := ⟨⟨by decide +kernel, by decide +kernel⟩, List.mem_of_getElem? (i := 726) (by decide +kernel), List.mem_of_getElem? (i := 835) (by decide +kernel), List.mem_of_getElem? (i := 836) (by decide +kernel)⟩
theorem lw_p30 : lw_okq (⟨"StepRunner$Job", "wordBegin", "(I)I"⟩, 7) := ⟨⟨by decide +kernel, by decide +kernel⟩, List.mem_of_getElem? (i := 726) (by decide +kernel), List.mem_of_getElem? (i := 839) (by decide +kernel), List.mem_of_getElem? (i := 840) (by decide +kernel)⟩
theorem lw_p31 : lw_okq (⟨"StepRunner$Job", "sumWords", "()LStepRunner$Value;"⟩, 7) := ⟨⟨by decide +kernel, by decide +kernel⟩, List.mem_of_getElem? (i := 726) (by decide +kernel), List.mem_of_getElem? (i := 844) (by decide +kernel), List.mem_of_getElem? (i := 845) (by decide +kernel)⟩
def lw_privs_2 : List (MethodName × Nat) := [(⟨"StepRunner$Expander", "countJobs", "(LStepRunner$Step;LStepRunner$Progress;)I"⟩, 10), (⟨"StepRunner$Expander", "chooseElements", "(LStepRunner$Step;I)V"⟩, 10), (⟨"StepRunner$Expander", "workRules", "(LStepRunner$Step;)Z"⟩, 10), (⟨"StepRunner$Rule", "reach", "(I[LStepRunner$Value;LStepRunner$Value;LStepRunner$Value;)LStepRunner$Value;"⟩, 4), (⟨"StepRunner$Job", "addPortWords", "(CILStepRunner$Value;)Z"⟩, 7), (⟨"StepRunner$Job", "openWord", "()Z"⟩, 7), (⟨"StepRunner$Job", "addLetter", "(C)Z"⟩, 7), (⟨"StepRunner$Job", "addPlain", "(LStepRunner$Value;)Z"⟩, 7), (⟨"StepRunner$Progress", "nest", "(I)LStepRunner$Value;"⟩, 12), (⟨"StepRunner$Progress", "takeResult", "()LStepRunner$Value;"⟩, 12), (⟨"StepRunner$Run", "startJobs", "()V"⟩, 11), (⟨"StepRunner$Job", "echoWords", "()LStepRunner$Value;"⟩, 7), (⟨"StepRunner$Job", "addWordTo", "(LStepRunner$Value;I)Z"⟩, 7), (⟨"StepRunner$Job", "wordEnd", "(I)I"⟩, 7), (⟨"StepRunner$Job", "wordBegin", "(I)I"⟩, 7), (⟨"StepRunner$Job", "sumWords", "()LStepRunner$Value;"⟩, 7)]
theorem lw_r2 : ∀ q ∈ lw_privs_2, lw_okq q := List.forall_mem_cons.mpr ⟨lw_p16, List.forall_mem_cons.mpr ⟨lw_p17, List.forall_mem_cons.mpr ⟨lw_p18, List.forall_mem_cons.mpr ⟨lw_p19, List.forall_mem_cons.mpr ⟨lw_p20, List.forall_mem_cons.mpr ⟨lw_p21, List.forall_mem_cons.mpr ⟨lw_p22, List.forall_mem_cons.mpr ⟨lw_p23, List.forall_mem_cons.mpr ⟨lw_p24, List.forall_mem_cons.mpr ⟨lw_p25, List.forall_mem_cons.mpr ⟨lw_p26, List.forall_mem_cons.mpr ⟨lw_p27, List.forall_mem_cons.mpr ⟨lw_p28, List.forall_mem_cons.mpr ⟨lw_p29, List.forall_mem_cons.mpr ⟨lw_p30, List.forall_mem_cons.mpr ⟨lw_p31, fun _ h => absurd h List.not_mem_nil⟩⟩⟩⟩⟩⟩⟩⟩⟩⟩⟩⟩⟩⟩⟩⟩
theorem lw_p32 : lw_okq (⟨"StepRunner$Job", "listWords", "()LStepRunner$Value;"⟩, 7) := ⟨⟨by decide +kernel, by decide +kernel⟩, List.mem_of_getElem? (i := 726) (by decide +kernel), List.mem_of_getElem? (i := 850) (by decide +kernel), List.mem_of_getElem? (i := 851) (by decide +kernel)⟩
theorem lw_p33 : lw_okq (⟨"StepRunnerModel", "empty", "(I)V"⟩, 45) := ⟨⟨by decide +kernel, by decide +kernel⟩, List.mem_of_getElem? (i := 903) (by decide +kernel), List.mem_of_getElem? (i := 909) (by decide +kernel), List.mem_of_getElem? (i := 910) (by decide +kernel)⟩
theorem lw_p34 : lw_okq (⟨"StepRunnerModel", "clear", "(I)V"⟩, 45) := ⟨⟨by decide +kernel, by decide +kernel⟩, List.mem_of_getElem? (i := 903) (by decide +kernel), List.mem_of_getElem? (i := 913) (by decide +kernel), List.mem_of_getElem? (i := 914) (by decide +kernel)⟩
theorem lw_p35 : lw_okq (⟨"StepRunnerModel", "add", "(IIII)V"⟩, 45) := ⟨⟨by decide +kernel, by decide +kernel⟩, List.mem_of_getElem? (i := 903) (by decide +kernel), List.mem_of_getElem? (i := 917) (by decide +kernel), List.mem_of_getElem? (i := 918) (by decide +kernel)⟩
theorem lw_p36 : lw_okq (⟨"StepRunnerModel", "builds", "()Z"⟩, 45) := ⟨⟨by decide +kernel, by decide +kernel⟩, List.mem_of_getElem? (i := 903) (by decide +kernel), List.mem_of_getElem? (i := 1070) (by decide +kernel), List.mem_of_getElem? (i := 1071) (by decide +kernel)⟩
theorem lw_p37 : lw_okq (⟨"StepRunnerModel", "isStep", "(I)Z"⟩, 45) := ⟨⟨by decide +kernel, by decide +kernel⟩, List.mem_of_getElem? (i := 903) (by decide +kernel), List.mem_of_getElem? (i := 1089) (by decide +kernel), List.mem_of_getElem? (i := 1090) (by decide +kernel)⟩
theorem lw_p38 : lw_okq (⟨"StepRunnerModel", "keepValue", "(ZI)Z"⟩, 45) := ⟨⟨by decide +kernel, by decide +kernel⟩, List.mem_of_getElem? (i := 903) (by decide +kernel), List.mem_of_getElem? (i := 1101) (by decide +kernel), List.mem_of_getElem? (i := 1102) (by decide +kernel)⟩
theorem lw_p39 : lw_okq (⟨"StepRunnerModel", "isDraftValue", "()Z"⟩, 45) := ⟨⟨by decide +kernel, by decide +kernel⟩, List.mem_of_getElem? (i := 903) (by decide +kernel), List.mem_of_getElem? (i := 1105) (by decide +kernel), List.mem_of_getElem? (i := 1106) (by decide +kernel)⟩
theorem lw_p40 : lw_okq (⟨"StepRunnerModel", "seen", "(I)C"⟩, 45) := ⟨⟨by decide +kernel, by decide +kernel⟩, List.mem_of_getElem? (i := 903) (by decide +kernel), List.mem_of_getElem? (i := 1109) (by decide +kernel), List.mem_of_getElem? (i := 1110) (by decide +kernel)⟩
theorem lw_p41 : lw_okq (⟨"StepRunnerModel", "scalar", "(II)I"⟩, 45) := ⟨⟨by decide +kernel, by decide +kernel⟩, List.mem_of_getElem? (i := 903) (by decide +kernel), List.mem_of_getElem? (i := 1113) (by decide +kernel), List.mem_of_getElem? (i := 1114) (by decide +kernel)⟩
theorem lw_p42 : lw_okq (⟨"StepRunnerModel", "setSign", "(IC)V"⟩, 45) := ⟨⟨by decide +kernel, by decide +kernel⟩, List.mem_of_getElem? (i := 903) (by decide +kernel), List.mem_of_getElem? (i := 1117) (by decide +kernel), List.mem_of_getElem? (i := 1118) (by decide +kernel)⟩
theorem lw_p43 : lw_okq (⟨"StepRunnerModel", "addText", "(IIII)V"⟩, 45) := ⟨⟨by decide +kernel, by decide +kernel⟩, List.mem_of_getElem? (i := 903) (by decide +kernel), List.mem_of_getElem? (i := 1123) (by decide +kernel), List.mem_of_getElem? (i := 1124) (by decide +kernel)⟩
theorem lw_p44 : lw_okq (⟨"StepRunnerModel", "setText", "(III)V"⟩, 45) := ⟨⟨by decide +kernel, by decide +kernel⟩, List.mem_of_getElem? (i := 903) (by decide +kernel), List.mem_of_getElem? (i := 1127) (by decide +kernel), List.mem_of_getElem? (i := 1128) (by decide +kernel)⟩
theorem lw_p45 : lw_okq (⟨"StepRunnerModel", "isValue", "(I)Z"⟩, 45) := ⟨⟨by decide +kernel, by decide +kernel⟩, List.mem_of_getElem? (i := 903) (by decide +kernel), List.mem_of_getElem? (i := 1135) (by decide +kernel), List.mem_of_getElem? (i := 1136) (by decide +kernel)⟩
theorem lw_p46 : lw_okq (⟨"StepRunnerModel", "endOf", "(I)I"⟩, 45) := ⟨⟨by decide +kernel, by decide +kernel⟩, List.mem_of_getElem? (i := 903) (by decide +kernel), List.mem_of_getElem? (i := 1139) (by decide +kernel), List.mem_of_getElem? (i := 1140) (by decide +kernel)⟩
theorem lw_p47 : lw_okq (⟨"StepRunnerModel", "kind", "(I)I"⟩, 45) := ⟨⟨by decide +kernel, by decide +kernel⟩, List.mem_of_getElem? (i := 903) (by decide +kernel), List.mem_of_getElem? (i := 1143) (by decide +kernel), List.mem_of_getElem? (i := 1144) (by decide +kernel)⟩
def lw_privs_3 : List (MethodName × Nat) := [(⟨"StepRunner$Job", "listWords", "()LStepRunner$Value;"⟩, 7), (⟨"StepRunnerModel", "empty", "(I)V"⟩, 45), (⟨"StepRunnerModel", "clear", "(I)V"⟩, 45), (⟨"StepRunnerModel", "add", "(IIII)V"⟩, 45), (⟨"StepRunnerModel", "builds", "()Z"⟩, 45), (⟨"StepRunnerModel", "isStep", "(I)Z"⟩, 45), (⟨"StepRunnerModel", "keepValue", "(ZI)Z"⟩, 45), (⟨"StepRunnerModel", "isDraftValue", "()Z"⟩, 45), (⟨"StepRunnerModel", "seen", "(I)C"⟩, 45), (⟨"StepRunnerModel", "scalar", "(II)I"⟩, 45), (⟨"StepRunnerModel", "setSign", "(IC)V"⟩, 45), (⟨"StepRunnerModel", "addText", "(IIII)V"⟩, 45), (⟨"StepRunnerModel", "setText", "(III)V"⟩, 45), (⟨"StepRunnerModel", "isValue", "(I)Z"⟩, 45), (⟨"StepRunnerModel", "endOf", "(I)I"⟩, 45), (⟨"StepRunnerModel", "kind", "(I)I"⟩, 45)]
theorem lw_r3 : ∀ q ∈ lw_privs_3, lw_okq q := List.forall_mem_cons.mpr ⟨lw_p32, List.forall_mem_cons.mpr ⟨lw_p33, List.forall_mem_cons.mpr ⟨lw_p34, List.forall_mem_cons.mpr ⟨lw_p35, List.forall_mem_cons.mpr ⟨lw_p36, List.forall_mem_cons.mpr ⟨lw_p37, List.forall_mem_cons.mpr ⟨lw_p38, List.forall_mem_cons.mpr ⟨lw_p39, List.forall_mem_cons.mpr ⟨lw_p40, List.forall_mem_cons.mpr ⟨lw_p41, List.forall_mem_cons.mpr ⟨lw_p42, List.forall_mem_cons.mpr ⟨lw_p43, List.forall_mem_cons.mpr ⟨lw_p44, List.forall_mem_cons.mpr ⟨lw_p45, List.forall_mem_cons.mpr ⟨lw_p46, List.forall_mem_cons.mpr ⟨lw_p47, fun _ h => absurd h List.not_mem_nil⟩⟩⟩⟩⟩⟩⟩⟩⟩⟩⟩⟩⟩⟩⟩⟩
theorem lw_p48 : lw_okq (⟨"StepRunnerModel", "level", "(I)I"⟩, 45) := ⟨⟨by decide +kernel, by decide +kernel⟩, List.mem_of_getElem? (i := 903) (by decide +kernel), List.mem_of_getElem? (i := 1148) (by decide +kernel), List.mem_of_getElem? (i := 1149) (by decide +kernel)⟩
theorem lw_p49 : lw_okq (⟨"StepRunnerModel", "elements", "(II)I"⟩, 45) := ⟨⟨by decide +kernel, by decide +kernel⟩, List.mem_of_getElem? (i := 903) (by decide +kernel), List.mem_of_getElem? (i := 1153) (by decide +kernel), List.mem_of_getElem? (i := 1154) (by decide +kernel)⟩
theorem lw_p50 : lw_okq (⟨"StepRunnerModel", "behind", "(II)I"⟩, 45) := ⟨⟨by decide +kernel, by decide +kernel⟩, List.mem_of_getElem? (i := 903) (by decide +kernel), List.mem_of_getElem? (i := 1157) (by decide +kernel), List.mem_of_getElem? (i := 1158) (by decide +kernel)⟩
theorem lw_p51 : lw_okq (⟨"StepRunnerModel", "keep", "(I)V"⟩, 45) := ⟨⟨by decide +kernel, by decide +kernel⟩, List.mem_of_getElem? (i := 903) (by decide +kernel), List.mem_of_getElem? (i := 1161) (by decide +kernel), List.mem_of_getElem? (i := 1162) (by decide +kernel)⟩
theorem lw_p52 : lw_okq (⟨"StepRunnerModel", "copySlot", "(II)V"⟩, 45) := ⟨⟨by decide +kernel, by decide +kernel⟩, List.mem_of_getElem? (i := 903) (by decide +kernel), List.mem_of_getElem? (i := 1165) (by decide +kernel), List.mem_of_getElem? (i := 1166) (by decide +kernel)⟩
theorem lw_p53 : lw_okq (⟨"StepRunnerModel", "copy", "(IIII)V"⟩, 45) := ⟨⟨by decide +kernel, by decide +kernel⟩, List.mem_of_getElem? (i := 903) (by decide +kernel), List.mem_of_getElem? (i := 1169) (by decide +kernel), List.mem_of_getElem? (i := 1170) (by decide +kernel)⟩
theorem lw_p54 : lw_okq (⟨"StepRunnerModel", "num", "(I)I"⟩, 45) := ⟨⟨by decide +kernel, by decide +kernel⟩, List.mem_of_getElem? (i := 903) (by decide +kernel), List.mem_of_getElem? (i := 1173) (by decide +kernel), List.mem_of_getElem? (i := 1174) (by decide +kernel)⟩
theorem lw_p55 : lw_okq (⟨"StepRunnerModel", "at", "(I)I"⟩, 45) := ⟨⟨by decide +kernel, by decide +kernel⟩, List.mem_of_getElem? (i := 903) (by decide +kernel), List.mem_of_getElem? (i := 1177) (by decide +kernel), List.mem_of_getElem? (i := 1178) (by decide +kernel)⟩
theorem lw_p56 : lw_okq (⟨"StepRunnerModel", "len", "(I)I"⟩, 45) := ⟨⟨by decide +kernel, by decide +kernel⟩, List.mem_of_getElem? (i := 903) (by decide +kernel), List.mem_of_getElem? (i := 1182) (by decide +kernel), List.mem_of_getElem? (i := 1183) (by decide +kernel)⟩
theorem lw_p57 : lw_okq (⟨"StepRunnerModel", "sign", "(I)C"⟩, 45) := ⟨⟨by decide +kernel, by decide +kernel⟩, List.mem_of_getElem? (i := 903) (by decide +kernel), List.mem_of_getElem? (i := 1186) (by decide +kernel), List.mem_of_getElem? (i := 1187) (by decide +kernel)⟩
theorem lw_p58 : lw_okq (⟨"StepRunnerModel", "keepRule", "(ZI)Z"⟩, 45) := ⟨⟨by decide +kernel, by decide +kernel⟩, List.mem_of_getElem? (i := 903) (by decide +kernel), List.mem_of_getElem? (i := 1195) (by decide +kernel), List.mem_of_getElem? (i := 1196) (by decide +kernel)⟩
theorem lw_p59 : lw_okq (⟨"StepRunnerModel", "isDraftRule", "()Z"⟩, 45) := ⟨⟨by decide +kernel, by decide +kernel⟩, List.mem_of_getElem? (i := 903) (by decide +kernel), List.mem_of_getElem? (i := 1199) (by decide +kernel), List.mem_of_getElem? (i := 1200) (by decide +kernel)⟩
theorem lw_p60 : lw_okq (⟨"StepRunnerModel", "reference", "(I)I"⟩, 45) := ⟨⟨by decide +kernel, by decide +kernel⟩, List.mem_of_getElem? (i := 903) (by decide +kernel), List.mem_of_getElem? (i := 1203) (by decide +kernel), List.mem_of_getElem? (i := 1204) (by decide +kernel)⟩
theorem lw_p61 : lw_okq (⟨"StepRunnerModel", "isLength", "(I)Z"⟩, 45) := ⟨⟨by decide +kernel, by decide +kernel⟩, List.mem_of_getElem? (i := 903) (by decide +kernel), List.mem_of_getElem? (i := 1207) (by decide +kernel), List.mem_of_getElem? (i := 1208) (by decide +kernel)⟩
theorem lw_p62 : lw_okq (⟨"StepRunnerModel", "needs", "(II)Z"⟩, 45) := ⟨⟨by decide +kernel, by decide +kernel⟩, List.mem_of_getElem? (i := 903) (by decide +kernel), List.mem_of_getElem? (i := 1227) (by decide +kernel), List.mem_of_getElem? (i := 1228) (by decide +kernel)⟩
theorem lw_p63 : lw_okq (⟨"StepRunnerModel", "isRound", "()Z"⟩, 45) := ⟨⟨by decide +kernel, by decide +kernel⟩, List.mem_of_getElem? (i := 903) (by decide +kernel), List.mem_of_getElem? (i := 1231) (by decide +kernel), List.mem_of_getElem? (i := 1232) (by decide +kernel)⟩
def lw_privs_4 : List (MethodName × Nat) := [(⟨"StepRunnerModel", "level", "(I)I"⟩, 45), (⟨"StepRunnerModel", "elements", "(II)I"⟩, 45), (⟨"StepRunnerModel", "behind", "(II)I"⟩, 45), (⟨"StepRunnerModel", "keep", "(I)V"⟩, 45), (⟨"StepRunnerModel", "copySlot", "(II)V"⟩, 45), (⟨"StepRunnerModel", "copy", "(IIII)V"⟩, 45), (⟨"StepRunnerModel", "num", "(I)I"⟩, 45), (⟨"StepRunnerModel", "at", "(I)I"⟩, 45), (⟨"StepRunnerModel", "len", "(I)I"⟩, 45), (⟨"StepRunnerModel", "sign", "(I)C"⟩, 45), (⟨"StepRunnerModel", "keepRule", "(ZI)Z"⟩, 45), (⟨"StepRunnerModel", "isDraftRule", "()Z"⟩, 45), (⟨"StepRunnerModel", "reference", "(I)I"⟩, 45), (⟨"StepRunnerModel", "isLength", "(I)Z"⟩, 45), (⟨"StepRunnerModel", "needs", "(II)Z"⟩, 45), (⟨"StepRunnerModel", "isRound", "()Z"⟩, 45)]
theorem lw_r4 : ∀ q ∈ lw_privs_4, lw_okq q := List.forall_mem_cons.mpr ⟨lw_p48, List.forall_mem_cons.mpr ⟨lw_p49, List.forall_mem_cons.mpr ⟨lw_p50, List.forall_mem_cons.mpr ⟨lw_p51, List.forall_mem_cons.mpr ⟨lw_p52, List.forall_mem_cons.mpr ⟨lw_p53, List.forall_mem_cons.mpr ⟨lw_p54, List.forall_mem_cons.mpr ⟨lw_p55, List.forall_mem_cons.mpr ⟨lw_p56, List.forall_mem_cons.mpr ⟨lw_p57, List.forall_mem_cons.mpr ⟨lw_p58, List.forall_mem_cons.mpr ⟨lw_p59, List.forall_mem_cons.mpr ⟨lw_p60, List.forall_mem_cons.mpr ⟨lw_p61, List.forall_mem_cons.mpr ⟨lw_p62, List.forall_mem_cons.mpr ⟨lw_p63, fun _ h => absurd h List.not_mem_nil⟩⟩⟩⟩⟩⟩⟩⟩⟩⟩⟩⟩⟩⟩⟩⟩
theorem lw_p64 : lw_okq (⟨"StepRunnerModel", "goOn", "()V"⟩, 45) := ⟨⟨by decide +kernel, by decide +kernel⟩, List.mem_of_getElem? (i := 903) (by decide +kernel), List.mem_of_getElem? (i := 1235) (by decide +kernel), List.mem_of_getElem? (i := 1236) (by decide +kernel)⟩
theorem lw_p65 : lw_okq (⟨"StepRunnerModel", "next", "()I"⟩, 45) := ⟨⟨by decide +kernel, by decide +kernel⟩, List.mem_of_getElem? (i := 903) (by decide +kernel), List.mem_of_getElem? (i := 1239) (by decide +kernel), List.mem_of_getElem? (i := 1240) (by decide +kernel)⟩
theorem lw_p66 : lw_okq (⟨"StepRunnerModel", "expand", "(I)V"⟩, 45) := ⟨⟨by decide +kernel, by decide +kernel⟩, List.mem_of_getElem? (i := 903) (by decide +kernel), List.mem_of_getElem? (i := 1243) (by decide +kernel), List.mem_of_getElem? (i := 1244) (by decide +kernel)⟩
theorem lw_p67 : lw_okq (⟨"StepRunnerModel", "gathered", "(II)Z"⟩, 45) := ⟨⟨by decide +kernel, by decide +kernel⟩, List.mem_of_getElem? (i := 903) (by decide +kernel), List.mem_of_getElem? (i := 1247) (by decide +kernel), List.mem_of_getElem? (i := 1248) (by decide +kernel)⟩
theorem lw_p68 : lw_okq (⟨"StepRunnerModel", "take", "(III)V"⟩, 45) := ⟨⟨by decide +kernel, by decide +kernel⟩, List.mem_of_getElem? (i := 903) (by decide +kernel), List.mem_of_getElem? (i := 1251) (by decide +kernel), List.mem_of_getElem? (i := 1252) (by decide +kernel)⟩
theorem lw_p69 : lw_okq (⟨"StepRunnerModel", "all", "(II)V"⟩, 45) := ⟨⟨by decide +kernel, by decide +kernel⟩, List.mem_of_getElem? (i := 903) (by decide +kernel), List.mem_of_getElem? (i := 1255) (by decide +kernel), List.mem_of_getElem? (i := 1256) (by decide +kernel)⟩
theorem lw_p70 : lw_okq (⟨"StepRunnerModel", "picked", "(II)Z"⟩, 45) := ⟨⟨by decide +kernel, by decide +kernel⟩, List.mem_of_getElem? (i := 903) (by decide +kernel), List.mem_of_getElem? (i := 1259) (by decide +kernel), List.mem_of_getElem? (i := 1260) (by decide +kernel)⟩
theorem lw_p71 : lw_okq (⟨"StepRunnerModel", "fail", "(I)V"⟩, 45) := ⟨⟨by decide +kernel, by decide +kernel⟩, List.mem_of_getElem? (i := 903) (by decide +kernel), List.mem_of_getElem? (i := 1263) (by decide +kernel), List.mem_of_getElem? (i := 1264) (by decide +kernel)⟩
theorem lw_p72 : lw_okq (⟨"StepRunnerModel", "scattered", "(I)I"⟩, 45) := ⟨⟨by decide +kernel, by decide +kernel⟩, List.mem_of_getElem? (i := 903) (by decide +kernel), List.mem_of_getElem? (i := 1267) (by decide +kernel), List.mem_of_getElem? (i := 1268) (by decide +kernel)⟩
theorem lw_p73 : lw_okq (⟨"StepRunnerModel", "jobsOf", "(II)I"⟩, 45) := ⟨⟨by decide +kernel, by decide +kernel⟩, List.mem_of_getElem? (i := 903) (by decide +kernel), List.mem_of_getElem? (i := 1271) (by decide +kernel), List.mem_of_getElem? (i := 1272) (by decide +kernel)⟩
theorem lw_p74 : lw_okq (⟨"StepRunnerModel", "prepared", "(III)Z"⟩, 45) := ⟨⟨by decide +kernel, by decide +kernel⟩, List.mem_of_getElem? (i := 903) (by decide +kernel), List.mem_of_getElem? (i := 1275) (by decide +kernel), List.mem_of_getElem? (i := 1276) (by decide +kernel)⟩
theorem lw_p75 : lw_okq (⟨"StepRunnerModel", "choice", "(IIII)I"⟩, 45) := ⟨⟨by decide +kernel, by decide +kernel⟩, List.mem_of_getElem? (i := 903) (by decide +kernel), List.mem_of_getElem? (i := 1279) (by decide +kernel), List.mem_of_getElem? (i := 1280) (by decide +kernel)⟩
theorem lw_p76 : lw_okq (⟨"StepRunnerModel", "element", "(III)I"⟩, 45) := ⟨⟨by decide +kernel, by decide +kernel⟩, List.mem_of_getElem? (i := 903) (by decide +kernel), List.mem_of_getElem? (i := 1283) (by decide +kernel), List.mem_of_getElem? (i := 1284) (by decide +kernel)⟩
theorem lw_p77 : lw_okq (⟨"StepRunnerModel", "ruled", "(IIII)Z"⟩, 45) := ⟨⟨by decide +kernel, by decide +kernel⟩, List.mem_of_getElem? (i := 903) (by decide +kernel), List.mem_of_getElem? (i := 1287) (by decide +kernel), List.mem_of_getElem? (i := 1288) (by decide +kernel)⟩
theorem lw_p78 : lw_okq (⟨"StepRunnerModel", "ruleAt", "(II)C"⟩, 45) := ⟨⟨by decide +kernel, by decide +kernel⟩, List.mem_of_getElem? (i := 903) (by decide +kernel), List.mem_of_getElem? (i := 1291) (by decide +kernel), List.mem_of_getElem? (i := 1292) (by decide +kernel)⟩
theorem lw_p79 : lw_okq (⟨"StepRunnerModel", "follow", "(IIII)I"⟩, 45) := ⟨⟨by decide +kernel, by decide +kernel⟩, List.mem_of_getElem? (i := 903) (by decide +kernel), List.mem_of_getElem? (i := 1295) (by decide +kernel), List.mem_of_getElem? (i := 1296) (by decide +kernel)⟩
def lw_privs_5 : List (MethodName × Nat) := [(⟨"StepRunnerModel", "goOn", "()V"⟩, 45), (⟨"StepRunnerModel", "next", "()I"⟩, 45), (⟨"StepRunnerModel", "expand", "(I)V"⟩, 45), (⟨"StepRunnerModel", "gathered", "(II)Z"⟩, 45), (⟨"StepRunnerModel", "take", "(III)V"⟩, 45), (⟨"StepRunnerModel", "all", "(II)V"⟩, 45), (⟨"StepRunnerModel", "picked", "(II)Z"⟩, 45), (⟨"StepRunnerModel", "fail", "(I)V"⟩, 45), (⟨"StepRunnerModel", "scattered", "(I)I"⟩, 45), (⟨"StepRunnerModel", "jobsOf", "(II)I"⟩, 45), (⟨"StepRunnerModel", "prepared", "(III)Z"⟩, 45), (⟨"StepRunnerModel", "choice", "(IIII)I"⟩, 45), (⟨"StepRunnerModel", "element", "(III)I"⟩, 45), (⟨"StepRunnerModel", "ruled", "(IIII)Z"⟩, 45), (⟨"StepRunnerModel", "ruleAt", "(II)C"⟩, 45), (⟨"StepRunnerModel", "follow", "(IIII)I"⟩, 45)]
theorem lw_r5 : ∀ q ∈ lw_privs_5, lw_okq q := List.forall_mem_cons.mpr ⟨lw_p64, List.forall_mem_cons.mpr ⟨lw_p65, List.forall_mem_cons.mpr ⟨lw_p66, List.forall_mem_cons.mpr ⟨lw_p67, List.forall_mem_cons.mpr ⟨lw_p68, List.forall_mem_cons.mpr ⟨lw_p69, List.forall_mem_cons.mpr ⟨lw_p70, List.forall_mem_cons.mpr ⟨lw_p71, List.forall_mem_cons.mpr ⟨lw_p72, List.forall_mem_cons.mpr ⟨lw_p73, List.forall_mem_cons.mpr ⟨lw_p74, List.forall_mem_cons.mpr ⟨lw_p75, List.forall_mem_cons.mpr ⟨lw_p76, List.forall_mem_cons.mpr ⟨lw_p77, List.forall_mem_cons.mpr ⟨lw_p78, List.forall_mem_cons.mpr ⟨lw_p79, fun _ h => absurd h List.not_mem_nil⟩⟩⟩⟩⟩⟩⟩⟩⟩⟩⟩⟩⟩⟩⟩⟩
theorem lw_p80 : lw_okq (⟨"StepRunnerModel", "putPlain", "(II)V"⟩, 45) := ⟨⟨by decide +kernel, by decide +kernel⟩, List.mem_of_getElem? (i := 903) (by decide +kernel), List.mem_of_getElem? (i := 1299) (by decide +kernel), List.mem_of_getElem? (i := 1300) (by decide +kernel)⟩
theorem lw_p81 : lw_okq (⟨"StepRunnerModel", "putText", "(II)V"⟩, 45) := ⟨⟨by decide +kernel, by decide +kernel⟩, List.mem_of_getElem? (i := 903) (by decide +kernel), List.mem_of_getElem? (i := 1303) (by decide +kernel), List.mem_of_getElem? (i := 1304) (by decide +kernel)⟩
theorem lw_p82 : lw_okq (⟨"StepRunnerModel", "put", "(C)V"⟩, 45) := ⟨⟨by decide +kernel, by decide +kernel⟩, List.mem_of_getElem? (i := 903) (by decide +kernel), List.mem_of_getElem? (i := 1307) (by decide +kernel), List.mem_of_getElem? (i := 1308) (by decide +kernel)⟩
theorem lw_p83 : lw_okq (⟨"StepRunnerModel", "putForm", "(II)V"⟩, 45) := ⟨⟨by decide +kernel, by decide +kernel⟩, List.mem_of_getElem? (i := 903) (by decide +kernel), List.mem_of_getElem? (i := 1311) (by decide +kernel), List.mem_of_getElem? (i := 1312) (by decide +kernel)⟩
theorem lw_p84 : lw_okq (⟨"StepRunnerModel", "putNumber", "(I)V"⟩, 45) := ⟨⟨by decide +kernel, by decide +kernel⟩, List.mem_of_getElem? (i := 903) (by decide +kernel), List.mem_of_getElem? (i := 1315) (by decide +kernel), List.mem_of_getElem? (i := 1316) (by decide +kernel)⟩
theorem lw_p85 : lw_okq (⟨"StepRunnerModel", "putNull", "()V"⟩, 45) := ⟨⟨by decide +kernel, by decide +kernel⟩, List.mem_of_getElem? (i := 903) (by decide +kernel), List.mem_of_getElem? (i := 1319) (by decide +kernel), List.mem_of_getElem? (i := 1320) (by decide +kernel)⟩
theorem lw_p86 : lw_okq (⟨"StepRunnerModel", "isText", "(II)Z"⟩, 45) := ⟨⟨by decide +kernel, by decide +kernel⟩, List.mem_of_getElem? (i := 903) (by decide +kernel), List.mem_of_getElem? (i := 1323) (by decide +kernel), List.mem_of_getElem? (i := 1324) (by decide +kernel)⟩
theorem lw_p87 : lw_okq (⟨"StepRunnerModel", "commanded", "(II)Z"⟩, 45) := ⟨⟨by decide +kernel, by decide +kernel⟩, List.mem_of_getElem? (i := 903) (by decide +kernel), List.mem_of_getElem? (i := 1327) (by decide +kernel), List.mem_of_getElem? (i := 1328) (by decide +kernel)⟩
theorem lw_p88 : lw_okq (⟨"StepRunnerModel", "worded", "(IIII)Z"⟩, 45) := ⟨⟨by decide +kernel, by decide +kernel⟩, List.mem_of_getElem? (i := 903) (by decide +kernel), List.mem_of_getElem? (i := 1331) (by decide +kernel), List.mem_of_getElem? (i := 1332) (by decide +kernel)⟩
theorem lw_p89 : lw_okq (⟨"StepRunnerModel", "beginWord", "(I)Z"⟩, 45) := ⟨⟨by decide +kernel, by decide +kernel⟩, List.mem_of_getElem? (i := 903) (by decide +kernel), List.mem_of_getElem? (i := 1335) (by decide +kernel), List.mem_of_getElem? (i := 1336) (by decide +kernel)⟩
theorem lw_p90 : lw_okq (⟨"StepRunnerModel", "endWord", "(I)V"⟩, 45) := ⟨⟨by decide +kernel, by decide +kernel⟩, List.mem_of_getElem? (i := 903) (by decide +kernel), List.mem_of_getElem? (i := 1339) (by decide +kernel), List.mem_of_getElem? (i := 1340) (by decide +kernel)⟩
theorem lw_p91 : lw_okq (⟨"StepRunnerModel", "isThrough", "(I)Z"⟩, 45) := ⟨⟨by decide +kernel, by decide +kernel⟩, List.mem_of_getElem? (i := 903) (by decide +kernel), List.mem_of_getElem? (i := 1343) (by decide +kernel), List.mem_of_getElem? (i := 1344) (by decide +kernel)⟩
theorem lw_p92 : lw_okq (⟨"StepRunnerModel", "end", "(I)V"⟩, 45) := ⟨⟨by decide +kernel, by decide +kernel⟩, List.mem_of_getElem? (i := 903) (by decide +kernel), List.mem_of_getElem? (i := 1347) (by decide +kernel), List.mem_of_getElem? (i := 1348) (by decide +kernel)⟩
theorem lw_p93 : lw_okq (⟨"StepRunnerModel", "nested", "(III)V"⟩, 45) := ⟨⟨by decide +kernel, by decide +kernel⟩, List.mem_of_getElem? (i := 903) (by decide +kernel), List.mem_of_getElem? (i := 1351) (by decide +kernel), List.mem_of_getElem? (i := 1352) (by decide +kernel)⟩
theorem lw_p94 : lw_okq (⟨"StepRunnerModel", "heads", "(IIIIII)V"⟩, 45) := ⟨⟨by decide +kernel, by decide +kernel⟩, List.mem_of_getElem? (i := 903) (by decide +kernel), List.mem_of_getElem? (i := 1355) (by decide +kernel), List.mem_of_getElem? (i := 1356) (by decide +kernel)⟩
theorem lw_p95 : lw_okq (⟨"StepRunnerModel", "result", "(IIII)V"⟩, 45) := ⟨⟨by decide +kernel, by decide +kernel⟩, List.mem_of_getElem? (i := 903) (by decide +kernel), List.mem_of_getElem? (i := 1359) (by decide +kernel), List.mem_of_getElem? (i := 1360) (by decide +kernel)⟩
def lw_privs_6 : List (MethodName × Nat) := [(⟨"StepRunnerModel", "putPlain", "(II)V"⟩, 45), (⟨"StepRunnerModel", "putText", "(II)V"⟩, 45), (⟨"StepRunnerModel", "put", "(C)V"⟩, 45), (⟨"StepRunnerModel", "putForm", "(II)V"⟩, 45), (⟨"StepRunnerModel", "putNumber", "(I)V"⟩, 45), (⟨"StepRunnerModel", "putNull", "()V"⟩, 45), (⟨"StepRunnerModel", "isText", "(II)Z"⟩, 45), (⟨"StepRunnerModel", "commanded", "(II)Z"⟩, 45), (⟨"StepRunnerModel", "worded", "(IIII)Z"⟩, 45), (⟨"StepRunnerModel", "beginWord", "(I)Z"⟩, 45), (⟨"StepRunnerModel", "endWord", "(I)V"⟩, 45), (⟨"StepRunnerModel", "isThrough", "(I)Z"⟩, 45), (⟨"StepRunnerModel", "end", "(I)V"⟩, 45), (⟨"StepRunnerModel", "nested", "(III)V"⟩, 45), (⟨"StepRunnerModel", "heads", "(IIIIII)V"⟩, 45), (⟨"StepRunnerModel", "result", "(IIII)V"⟩, 45)]
theorem lw_r6 : ∀ q ∈ lw_privs_6, lw_okq q := List.forall_mem_cons.mpr ⟨lw_p80, List.forall_mem_cons.mpr ⟨lw_p81, List.forall_mem_cons.mpr ⟨lw_p82, List.forall_mem_cons.mpr ⟨lw_p83, List.forall_mem_cons.mpr ⟨lw_p84, List.forall_mem_cons.mpr ⟨lw_p85, List.forall_mem_cons.mpr ⟨lw_p86, List.forall_mem_cons.mpr ⟨lw_p87, List.forall_mem_cons.mpr ⟨lw_p88, List.forall_mem_cons.mpr ⟨lw_p89, List.forall_mem_cons.mpr ⟨lw_p90, List.forall_mem_cons.mpr ⟨lw_p91, List.forall_mem_cons.mpr ⟨lw_p92, List.forall_mem_cons.mpr ⟨lw_p93, List.forall_mem_cons.mpr ⟨lw_p94, List.forall_mem_cons.mpr ⟨lw_p95, fun _ h => absurd h List.not_mem_nil⟩⟩⟩⟩⟩⟩⟩⟩⟩⟩⟩⟩⟩⟩⟩⟩
theorem lw_p96 : lw_okq (⟨"StepRunnerModel", "resulted", "(II)Z"⟩, 45) := ⟨⟨by decide +kernel, by decide +kernel⟩, List.mem_of_getElem? (i := 903) (by decide +kernel), List.mem_of_getElem? (i := 1367) (by decide +kernel), List.mem_of_getElem? (i := 1368) (by decide +kernel)⟩
theorem lw_p97 : lw_okq (⟨"StepRunnerModel", "echoed", "(II)Z"⟩, 45) := ⟨⟨by decide +kernel, by decide +kernel⟩, List.mem_of_getElem? (i := 903) (by decide +kernel), List.mem_of_getElem? (i := 1371) (by decide +kernel), List.mem_of_getElem? (i := 1372) (by decide +kernel)⟩
theorem lw_p98 : lw_okq (⟨"StepRunnerModel", "summed", "(II)Z"⟩, 45) := ⟨⟨by decide +kernel, by decide +kernel⟩, List.mem_of_getElem? (i := 903) (by decide +kernel), List.mem_of_getElem? (i := 1375) (by decide +kernel), List.mem_of_getElem? (i := 1376) (by decide +kernel)⟩
def lw_privs_7 : List (MethodName × Nat) := [(⟨"StepRunnerModel", "resulted", "(II)Z"⟩, 45), (⟨"StepRunnerModel", "echoed", "(II)Z"⟩, 45), (⟨"StepRunnerModel", "summed", "(II)Z"⟩, 45)]
theorem lw_r7 : ∀ q ∈ lw_privs_7, lw_okq q := List.forall_mem_cons.mpr ⟨lw_p96, List.forall_mem_cons.mpr ⟨lw_p97, List.forall_mem_cons.mpr ⟨lw_p98, fun _ h => absurd h List.not_mem_nil⟩⟩⟩
def lw_privs : List (MethodName × Nat) := lw_privs_1 ++ (lw_privs_2 ++ (lw_privs_3 ++ (lw_privs_4 ++ (lw_privs_5 ++ (lw_privs_6 ++ (lw_privs_7))))))
def lw_tbl : List Cond := k2_sels lw_privs ++ tables_1
theorem lw_privs_ok : ∀ q ∈ lw_privs, lw_okq q := by
  show ∀ q ∈ lw_privs_1 ++ (lw_privs_2 ++ (lw_privs_3 ++ (lw_privs_4 ++ (lw_privs_5 ++ (lw_privs_6 ++ (lw_privs_7)))))), lw_okq q
  exact List.forall_mem_append.mpr ⟨lw_r1, List.forall_mem_append.mpr ⟨lw_r2, List.forall_mem_append.mpr ⟨lw_r3, List.forall_mem_append.mpr ⟨lw_r4, List.forall_mem_append.mpr ⟨lw_r5, List.forall_mem_append.mpr ⟨lw_r6, lw_r7⟩⟩⟩⟩⟩⟩
/-! names and tables, written by program (wip/whole/gen) out of claim/Statement.lean -/
def mm_T0 : u_T := fun k => match k with
  | 0 => ("StepRunner", "draft", "LStepRunner$Draft;", true)
  | 1 => ("StepRunner", "inputs", "[LStepRunner$Value;", true)
  | 2 => ("StepRunner", "tools", "[LStepRunner$Tool;", true)
  | 3 => ("StepRunner", "toolCount", "I", false)
  | 4 => ("StepRunner", "steps", "[LStepRunner$Step;", true)
  | 5 => ("StepRunner", "stepCount", "I", false)
  | _ => ("StepRunner", "run", "LStepRunner$Run;", true)
def mm_T1 : u_T := fun k => match k with
  | 0 => ("StepRunner$Draft", "letters", "[C", true)
  | 1 => ("StepRunner$Draft", "length", "I", false)
  | _ => ("StepRunner$Draft", "at", "I", false)
def mm_T2 : u_T := fun k => match k with
  | 0 => ("StepRunner$Value", "letters", "[C", true)
  | 1 => ("StepRunner$Value", "items", "[LStepRunner$Value;", true)
  | 2 => ("StepRunner$Value", "kind", "I", false)
  | 3 => ("StepRunner$Value", "number", "I", false)
  | 4 => ("StepRunner$Value", "size", "I", false)
  | 5 => ("StepRunner$Value", "depth", "I", false)
  | _ => ("StepRunner$Value", "formLength", "I", false)
def mm_T3 : u_T := fun k => match k with
  | 0 => ("StepRunner$Run", "expander", "LStepRunner$Expander;", true)
  | 1 => ("StepRunner$Run", "progress", "[LStepRunner$Progress;", true)
  | 2 => ("StepRunner$Run", "active", "[LStepRunner$Job;", true)
  | 3 => ("StepRunner$Run", "activeCount", "I", false)
  | 4 => ("StepRunner$Run", "startedCount", "I", false)
  | 5 => ("StepRunner$Run", "steps", "[LStepRunner$Step;", false)
  | 6 => ("StepRunner$Run", "inputs", "[LStepRunner$Value;", false)
  | 7 => ("StepRunner$Run", "stepCount", "I", false)
  | 8 => ("StepRunner$Run", "workers", "I", false)
  | 9 => ("StepRunner$Run", "hasFailed", "Z", false)
  | _ => ("StepRunner$Run", "status", "I", false)
def mm_T4 : u_T := fun k => match k with
  | 0 => ("StepRunner$Expander", "nothing", "LStepRunner$Value;", true)
  | 1 => ("StepRunner$Expander", "always", "LStepRunner$Value;", true)
  | 2 => ("StepRunner$Expander", "merged", "[LStepRunner$Value;", true)
  | 3 => ("StepRunner$Expander", "picked", "[LStepRunner$Value;", true)
  | 4 => ("StepRunner$Expander", "made", "[LStepRunner$Value;", true)
  | 5 => ("StepRunner$Expander", "verdict", "LStepRunner$Value;", true)
  | 6 => ("StepRunner$Expander", "passing", "LStepRunner$Value;", true)
  | 7 => ("StepRunner$Expander", "whole", "[LStepRunner$Value;", true)
  | 8 => ("StepRunner$Expander", "before", "[LStepRunner$Value;", true)
  | _ => ("StepRunner$Expander", "after", "[LStepRunner$Value;", true)
def mm_T5 : u_T := fun k => match k with
  | 0 => ("StepRunner$Progress", "stepNumber", "I", true)
  | 1 => ("StepRunner$Progress", "jobs", "[LStepRunner$Job;", true)
  | 2 => ("StepRunner$Progress", "results", "[LStepRunner$Value;", true)
  | 3 => ("StepRunner$Progress", "lengths", "[I", true)
  | 4 => ("StepRunner$Progress", "emptyList", "LStepRunner$Value;", true)
  | 5 => ("StepRunner$Progress", "levels", "I", false)
  | 6 => ("StepRunner$Progress", "jobCount", "I", false)
  | 7 => ("StepRunner$Progress", "openCount", "I", false)
  | 8 => ("StepRunner$Progress", "nextJob", "I", false)
  | 9 => ("StepRunner$Progress", "takenResults", "I", false)
  | 10 => ("StepRunner$Progress", "phase", "I", false)
  | _ => ("StepRunner$Progress", "outcome", "LStepRunner$Value;", false)
def mm_T6 : u_T := fun k => match k with
  | 0 => ("StepRunner$Tool", "kind", "I", true)
  | 1 => ("StepRunner$Tool", "places", "[I", true)
  | 2 => ("StepRunner$Tool", "prefixes", "[C", true)
  | 3 => ("StepRunner$Tool", "styles", "[I", true)
  | 4 => ("StepRunner$Tool", "order", "[I", true)
  | _ => ("StepRunner$Tool", "portCount", "I", false)
def mm_T7 : u_T := fun k => match k with
  | 0 => ("StepRunner$Step", "tool", "LStepRunner$Tool;", true)
  | 1 => ("StepRunner$Step", "sources", "[I", true)
  | 2 => ("StepRunner$Step", "sourceCounts", "[I", true)
  | 3 => ("StepRunner$Step", "merges", "[I", true)
  | 4 => ("StepRunner$Step", "picks", "[I", true)
  | 5 => ("StepRunner$Step", "presets", "[LStepRunner$Value;", true)
  | 6 => ("StepRunner$Step", "rules", "[LStepRunner$Rule;", true)
  | 7 => ("StepRunner$Step", "condition", "LStepRunner$Rule;", false)
  | 8 => ("StepRunner$Step", "scattered", "I", false)
  | _ => ("StepRunner$Step", "method", "I", false)
def mm_T8 : u_T := fun k => match k with
  | 0 => ("StepRunner$Rule", "codes", "[I", true)
  | 1 => ("StepRunner$Rule", "count", "I", false)
  | 2 => ("StepRunner$Rule", "letterCount", "I", false)
  | _ => ("StepRunner$Rule", "referenceCount", "I", false)
def mm_T9 : u_T := fun k => match k with
  | 0 => ("StepRunner$Job", "stepNumber", "I", true)
  | 1 => ("StepRunner$Job", "number", "I", true)
  | 2 => ("StepRunner$Job", "letters", "[C", true)
  | 3 => ("StepRunner$Job", "ends", "[I", true)
  | 4 => ("StepRunner$Job", "wordCount", "I", false)
  | 5 => ("StepRunner$Job", "length", "I", false)
  | _ => ("StepRunner$Job", "lastBegin", "I", false)
def mm_T10 : u_T := fun k => match k with
  | 0 => ("StepRunnerModel", "pool", "[J", true)
  | 1 => ("StepRunnerModel", "pooled", "I", false)
  | 2 => ("StepRunnerModel", "draft", "[C", true)
  | 3 => ("StepRunnerModel", "drafted", "I", false)
  | 4 => ("StepRunnerModel", "rows", "[J", true)
  | 5 => ("StepRunnerModel", "size", "[I", true)
  | 6 => ("StepRunnerModel", "tools", "I", false)
  | 7 => ("StepRunnerModel", "sort", "[I", true)
  | 8 => ("StepRunnerModel", "ports", "[I", true)
  | 9 => ("StepRunnerModel", "place", "[I", true)
  | 10 => ("StepRunnerModel", "prefix", "[I", true)
  | 11 => ("StepRunnerModel", "style", "[I", true)
  | 12 => ("StepRunnerModel", "steps", "I", false)
  | 13 => ("StepRunnerModel", "runs", "[I", true)
  | 14 => ("StepRunnerModel", "mask", "[I", true)
  | 15 => ("StepRunnerModel", "method", "[I", true)
  | 16 => ("StepRunnerModel", "sources", "[I", true)
  | 17 => ("StepRunnerModel", "source", "[I", true)
  | 18 => ("StepRunnerModel", "merge", "[I", true)
  | 19 => ("StepRunnerModel", "pick", "[I", true)
  | 20 => ("StepRunnerModel", "hasPreset", "[Z", true)
  | 21 => ("StepRunnerModel", "rule", "[C", true)
  | 22 => ("StepRunnerModel", "ruleLength", "[I", true)
  | 23 => ("StepRunnerModel", "status", "I", false)
  | 24 => ("StepRunnerModel", "workers", "I", false)
  | 25 => ("StepRunnerModel", "known", "I", false)
  | 26 => ("StepRunnerModel", "begun", "I", false)
  | 27 => ("StepRunnerModel", "going", "I", false)
  | 28 => ("StepRunnerModel", "broken", "Z", false)
  | 29 => ("StepRunnerModel", "state", "[I", true)
  | 30 => ("StepRunnerModel", "jobs", "[I", true)
  | 31 => ("StepRunnerModel", "jobState", "[I", true)
  | 32 => ("StepRunnerModel", "wordCount", "[I", true)
  | 33 => ("StepRunnerModel", "wordLength", "[I", true)
  | 34 => ("StepRunnerModel", "queue", "[I", true)
  | 35 => ("StepRunnerModel", "row", "I", false)
  | 36 => ("StepRunnerModel", "counted", "I", false)
  | 37 => ("StepRunnerModel", "lengths", "[I", true)
  | 38 => ("StepRunnerModel", "edgeSlot", "I", false)
  | 39 => ("StepRunnerModel", "made", "I", false)
  | 40 => ("StepRunnerModel", "edge", "I", false)
  | 41 => ("StepRunnerModel", "wanted", "I", false)
  | 42 => ("StepRunnerModel", "got", "I", false)
  | 43 => ("StepRunnerModel", "fits", "Z", false)
  | _ => ("StepRunnerModel", "tells", "Z", false)
def mm_cl : List vw_C := [("StepRunner", mm_T0, 7), ("StepRunner$Draft", mm_T1, 3), ("StepRunner$Value", mm_T2, 7), ("StepRunner$Run", mm_T3, 11), ("StepRunner$Expander", mm_T4, 10), ("StepRunner$Progress", mm_T5, 12), ("StepRunner$Tool", mm_T6, 6), ("StepRunner$Step", mm_T7, 10), ("StepRunner$Rule", mm_T8, 4), ("StepRunner$Job", mm_T9, 7), ("StepRunnerModel", mm_T10, 45)]
def mm_tys : List (List FieldType) := [[(.object "StepRunner$Draft"), (.array (.object "StepRunner$Value")), (.array (.object "StepRunner$Tool")), .int, (.array (.object "StepRunner$Step")), .int, (.object "StepRunner$Run")], [(.array .char), .int, .int], [(.array .char), (.array (.object "StepRunner$Value")), .int, .int, .int, .int, .int], [(.object "StepRunner$Expander"), (.array (.object "StepRunner$Progress")), (.array (.object "StepRunner$Job")), .int, .int, (.array (.object "StepRunner$Step")), (.array (.object "StepRunner$Value")), .int, .int, .boolean, .int], [(.object "StepRunner$Value"), (.object "StepRunner$Value"), (.array (.object "StepRunner$Value")), (.array (.object "StepRunner$Value")), (.array (.object "StepRunner$Value")), (.object "StepRunner$Value"), (.object "StepRunner$Value"), (.array (.object "StepRunner$Value")), (.array (.object "StepRunner$Value")), (.array (.object "StepRunner$Value"))], [.int, (.array (.object "StepRunner$Job")), (.array (.object "StepRunner$Value")), (.array .int), (.object "StepRunner$Value"), .int, .int, .int, .int, .int, .int, (.object "StepRunner$Value")], [.int, (.array .int), (.array .char), (.array .int), (.array .int), .int], [(.object "StepRunner$Tool"), (.array .int), (.array .int), (.array .int), (.array .int), (.array (.object "StepRunner$Value")), (.array (.object "StepRunner$Rule")), (.object "StepRunner$Rule"), .int, .int], [(.array .int), .int, .int, .int], [.int, .int, (.array .char), (.array .int), .int, .int, .int], [(.array .long), .int, (.array .char), .int, (.array .long), (.array .int), .int, (.array .int), (.array .int), (.array .int), (.array .int), (.array .int), .int, (.array .int), (.array .int), (.array .int), (.array .int), (.array .int), (.array .int), (.array .int), (.array .boolean), (.array .char), (.array .int), .int, .int, .int, .int, .int, .boolean, (.array .int), (.array .int), (.array .int), (.array .int), (.array .int), (.array .int), .int, .int, (.array .int), .int, .int, .int, .int, .int, .boolean, .boolean]]
def mm_ft (ci k : Nat) : FieldType := (mm_tys.getD ci []).getD k .int
def mm_df (ci : Nat) : List Value := match mm_cl[ci]? with
  | some q => (List.range q.2.2).map (fun k => defaultValue (mm_ft ci k))
  | none => []
def mm_arrs : List (Nat × FieldType) := [(1000, .int), (1001, .char), (1002, .boolean), (1004, .long), (2002, (.object "StepRunner$Value")), (2006, (.object "StepRunner$Tool")), (2007, (.object "StepRunner$Step")), (2005, (.object "StepRunner$Progress")), (2009, (.object "StepRunner$Job")), (2008, (.object "StepRunner$Rule"))]
def mm_at (t : Nat) : Option FieldType := mm_arrs.lookup t
theorem mm_cl_lt : mm_cl.length ≤ 1000 := by decide
theorem mm_at_i : mm_at 1000 = some .int := rfl
theorem mm_at_c : mm_at 1001 = some .char := rfl
theorem mm_at_z : mm_at 1002 = some .boolean := rfl
theorem mm_at_l : mm_at 1004 = some .long := rfl
theorem mm_at_clN : ∀ ci, ci < 11 → ∀ q, mm_cl[ci]? = some q → ∀ C, mm_at (2000 + ci) = some (.object C) → C = q.1 := by
  intro ci hci q hq C hC
  match ci, hci, hq, hC with
  | 0, _, hq, hC => exact nomatch (show (none : Option FieldType) = some _ from hC)
  | 1, _, hq, hC => exact nomatch (show (none : Option FieldType) = some _ from hC)
  | 2, _, hq, hC => cases hq; exact (FieldType.object.inj (Option.some.inj hC)).symm
  | 3, _, hq, hC => exact nomatch (show (none : Option FieldType) = some _ from hC)
  | 4, _, hq, hC => exact nomatch (show (none : Option FieldType) = some _ from hC)
  | 5, _, hq, hC => cases hq; exact (FieldType.object.inj (Option.some.inj hC)).symm
  | 6, _, hq, hC => cases hq; exact (FieldType.object.inj (Option.some.inj hC)).symm
  | 7, _, hq, hC => cases hq; exact (FieldType.object.inj (Option.some.inj hC)).symm
  | 8, _, hq, hC => cases hq; exact (FieldType.object.inj (Option.some.inj hC)).symm
  | 9, _, hq, hC => cases hq; exact (FieldType.object.inj (Option.some.inj hC)).symm
  | 10, _, hq, hC => exact nomatch (show (none : Option FieldType) = some _ from hC)
theorem mm_at_cl {ci : Nat} {q : vw_C} {C : String} (hq : mm_cl[ci]? = some q) (hC : mm_at (2000 + ci) = some (.object C)) : C = q.1 := mm_at_clN ci (List.getElem?_eq_some_iff.mp hq).1 q hq C hC
abbrev mm_MT : Type := MethodName × ByteArray × Nat × Option FieldType × Nat × Nat × Nat × Nat × Nat × Nat × Nat
def mm_me0 : List mm_MT := [
  (⟨"StepRunner", "<init>", "()V"⟩, prog_1_method_1_code, 2, none, 0, 120, 119, 0, 100, 0, 1),
  (⟨"StepRunner$Draft", "<init>", "()V"⟩, prog_2_method_1_code, 1, none, 1, 128, 127, 0, 101, 0, 1),
  (⟨"StepRunner$Value", "nothing", "()LStepRunner$Value;"⟩, prog_10_method_2_code, 1, (some (.object "StepRunner$Value")), 2, 145, 144, 0, 102, 0, 0),
  (⟨"StepRunner$Value", "<init>", "(II)V"⟩, prog_10_method_1_code, 3, none, 2, 161, 160, 0, 102, 2, 1),
  (⟨"StepRunner$Value", "becomeNothing", "()V"⟩, prog_10_method_6_code, 2, none, 2, 192, 191, 0, 102, 0, 2),
  (⟨"StepRunner$Run", "<init>", "()V"⟩, prog_7_method_1_code, 2, none, 3, 239, 238, 0, 107, 0, 1),
  (⟨"StepRunner$Expander", "<init>", "()V"⟩, prog_3_method_1_code, 2, none, 4, 245, 244, 0, 108, 0, 1),
  (⟨"StepRunner$Value", "emptyText", "(I)LStepRunner$Value;"⟩, prog_10_method_4_code, 2, (some (.object "StepRunner$Value")), 2, 250, 249, 0, 102, 1, 0),
  (⟨"StepRunner$Value", "becomeText", "()Z"⟩, prog_10_method_8_code, 1, (some .boolean), 2, 260, 258, 259, 102, 0, 2),
  (⟨"StepRunner$Value", "emptyList", "(I)LStepRunner$Value;"⟩, prog_10_method_5_code, 2, (some (.object "StepRunner$Value")), 2, 264, 263, 0, 102, 1, 0),
  (⟨"StepRunner$Value", "becomeList", "()V"⟩, prog_10_method_9_code, 1, none, 2, 268, 266, 267, 102, 0, 2),
  (⟨"StepRunner$Progress", "<init>", "(I)V"⟩, prog_5_method_1_code, 2, none, 5, 309, 308, 0, 110, 1, 1),
  (⟨"StepRunner", "write", "(C)Z"⟩, prog_1_method_2_code, 2, (some .boolean), 0, 419, 417, 418, 100, 1, 2),
  (⟨"StepRunner$Draft", "add", "(C)Z"⟩, prog_2_method_2_code, 2, (some .boolean), 1, 423, 421, 422, 101, 1, 2),
  (⟨"StepRunner", "isPrintable", "(C)Z"⟩, prog_1_method_27_code, 1, (some .boolean), 0, 426, 425, 0, 100, 1, 0),
  (⟨"StepRunner", "tool", "(I)I"⟩, prog_1_method_3_code, 2, (some .int), 0, 430, 428, 429, 100, 1, 2),
  (⟨"StepRunner$Run", "goesOn", "()Z"⟩, prog_7_method_2_code, 1, (some .boolean), 3, 434, 432, 433, 107, 0, 2),
  (⟨"StepRunner$Tool", "<init>", "(I)V"⟩, prog_9_method_1_code, 2, none, 6, 438, 437, 0, 112, 1, 1),
  (⟨"StepRunner", "port", "(IICI)I"⟩, prog_1_method_4_code, 9, (some .int), 0, 469, 467, 468, 100, 4, 2),
  (⟨"StepRunner$Tool", "addPort", "(ICI)I"⟩, prog_9_method_2_code, 5, (some .int), 6, 473, 471, 472, 112, 3, 2),
  (⟨"StepRunner", "step", "(I)I"⟩, prog_1_method_5_code, 3, (some .int), 0, 477, 475, 476, 100, 1, 2),
  (⟨"StepRunner$Step", "<init>", "(LStepRunner$Tool;)V"⟩, prog_8_method_1_code, 2, none, 7, 481, 480, 0, 113, 1, 1),
  (⟨"StepRunner", "link", "(III)Z"⟩, prog_1_method_6_code, 7, (some .boolean), 0, 535, 533, 534, 100, 3, 2),
  (⟨"StepRunner", "stepToBuild", "(I)LStepRunner$Step;"⟩, prog_1_method_22_code, 2, (some (.object "StepRunner$Step")), 0, 539, 538, 1, 100, 1, 2),
  (⟨"StepRunner", "isPort", "(I)Z"⟩, prog_1_method_25_code, 1, (some .boolean), 0, 542, 541, 0, 100, 1, 0),
  (⟨"StepRunner$Step", "addSource", "(II)Z"⟩, prog_8_method_2_code, 3, (some .boolean), 7, 546, 544, 545, 113, 2, 2),
  (⟨"StepRunner", "gather", "(IIII)Z"⟩, prog_1_method_7_code, 8, (some .boolean), 0, 551, 549, 550, 100, 4, 2),
  (⟨"StepRunner", "preset", "(II)Z"⟩, prog_1_method_8_code, 5, (some .boolean), 0, 555, 553, 554, 100, 2, 2),
  (⟨"StepRunner$Draft", "takeValue", "()LStepRunner$Value;"⟩, prog_2_method_3_code, 3, (some (.object "StepRunner$Value")), 1, 559, 557, 558, 101, 0, 2),
  (⟨"StepRunner$Draft", "readValue", "(I)LStepRunner$Value;"⟩, prog_2_method_6_code, 3, (some (.object "StepRunner$Value")), 1, 563, 562, 2, 101, 1, 2)]
def mm_me1 : List mm_MT := [
  (⟨"StepRunner$Draft", "peek", "()C"⟩, prog_2_method_5_code, 1, (some .char), 1, 567, 566, 3, 101, 0, 2),
  (⟨"StepRunner$Draft", "readList", "(I)LStepRunner$Value;"⟩, prog_2_method_7_code, 5, (some (.object "StepRunner$Value")), 1, 571, 570, 4, 101, 1, 2),
  (⟨"StepRunner$Value", "addItem", "(LStepRunner$Value;)Z"⟩, prog_10_method_12_code, 2, (some .boolean), 2, 576, 574, 575, 102, 1, 2),
  (⟨"StepRunner$Draft", "readText", "()LStepRunner$Value;"⟩, prog_2_method_8_code, 4, (some (.object "StepRunner$Value")), 1, 580, 579, 5, 101, 0, 2),
  (⟨"StepRunner$Value", "addLetter", "(C)Z"⟩, prog_10_method_10_code, 2, (some .boolean), 2, 585, 583, 584, 102, 1, 2),
  (⟨"StepRunner$Draft", "readNothing", "()LStepRunner$Value;"⟩, prog_2_method_9_code, 3, (some (.object "StepRunner$Value")), 1, 589, 588, 6, 101, 0, 2),
  (⟨"StepRunner$Draft", "readNumber", "()LStepRunner$Value;"⟩, prog_2_method_10_code, 3, (some (.object "StepRunner$Value")), 1, 597, 596, 7, 101, 0, 2),
  (⟨"StepRunner", "isDigit", "(C)Z"⟩, prog_1_method_28_code, 1, (some .boolean), 0, 600, 599, 0, 100, 1, 0),
  (⟨"StepRunner$Value", "numberIn", "([CII)I"⟩, prog_10_method_22_code, 8, (some .int), 2, 603, 602, 0, 102, 3, 0),
  (⟨"StepRunner$Value", "ofNumber", "(I)LStepRunner$Value;"⟩, prog_10_method_3_code, 2, (some (.object "StepRunner$Value")), 2, 609, 608, 0, 102, 1, 0),
  (⟨"StepRunner$Value", "becomeNumber", "(I)Z"⟩, prog_10_method_7_code, 6, (some .boolean), 2, 613, 611, 612, 102, 1, 2),
  (⟨"StepRunner", "from", "(II)Z"⟩, prog_1_method_9_code, 5, (some .boolean), 0, 619, 617, 618, 100, 2, 2),
  (⟨"StepRunner$Draft", "takeRule", "()LStepRunner$Rule;"⟩, prog_2_method_4_code, 2, (some (.object "StepRunner$Rule")), 1, 623, 621, 622, 101, 0, 2),
  (⟨"StepRunner$Rule", "read", "([CI)LStepRunner$Rule;"⟩, prog_6_method_2_code, 6, (some (.object "StepRunner$Rule")), 8, 626, 625, 0, 114, 2, 0),
  (⟨"StepRunner$Rule", "<init>", "(I)V"⟩, prog_6_method_1_code, 2, none, 8, 632, 631, 0, 114, 1, 1),
  (⟨"StepRunner$Rule", "stands", "(Ljava/lang/String;[CII)Z"⟩, prog_6_method_3_code, 5, (some .boolean), 8, 651, 650, 0, 114, 4, 0),
  (⟨"StepRunner$Rule", "addReference", "([CII)I"⟩, prog_6_method_5_code, 5, (some .int), 8, 657, 656, 8, 114, 3, 2),
  (⟨"StepRunner$Rule", "addCode", "(I)V"⟩, prog_6_method_4_code, 2, none, 8, 662, 661, 9, 114, 1, 2),
  (⟨"StepRunner$Rule", "addAccesses", "([CII)I"⟩, prog_6_method_6_code, 5, (some .int), 8, 667, 666, 10, 114, 3, 2),
  (⟨"StepRunner$Rule", "isElement", "([CII)Z"⟩, prog_6_method_7_code, 3, (some .boolean), 8, 671, 670, 0, 114, 3, 0),
  (⟨"StepRunner", "when", "(I)Z"⟩, prog_1_method_10_code, 4, (some .boolean), 0, 675, 673, 674, 100, 1, 2),
  (⟨"StepRunner", "scatter", "(III)Z"⟩, prog_1_method_11_code, 6, (some .boolean), 0, 679, 677, 678, 100, 3, 2),
  (⟨"StepRunner", "input", "(I)Z"⟩, prog_1_method_12_code, 3, (some .boolean), 0, 683, 681, 682, 100, 1, 2),
  (⟨"StepRunner", "start", "(I)I"⟩, prog_1_method_13_code, 2, (some .int), 0, 687, 685, 686, 100, 1, 2),
  (⟨"StepRunner", "missesSteps", "()Z"⟩, prog_1_method_23_code, 4, (some .boolean), 0, 691, 690, 11, 100, 0, 2),
  (⟨"StepRunner$Step", "neededSteps", "()I"⟩, prog_8_method_3_code, 5, (some .int), 7, 695, 693, 694, 113, 0, 2),
  (⟨"StepRunner", "goesRound", "()Z"⟩, prog_1_method_24_code, 5, (some .boolean), 0, 699, 698, 12, 100, 0, 2),
  (⟨"StepRunner$Run", "begin", "([LStepRunner$Step;I[LStepRunner$Value;I)V"⟩, prog_7_method_3_code, 6, none, 3, 703, 701, 702, 107, 4, 2),
  (⟨"StepRunner$Progress", "clear", "()V"⟩, prog_5_method_2_code, 2, none, 5, 708, 706, 707, 110, 0, 2),
  (⟨"StepRunner$Run", "advance", "()V"⟩, prog_7_method_4_code, 4, none, 3, 712, 710, 711, 107, 0, 2)]
def mm_me2 : List mm_MT := [
  (⟨"StepRunner$Run", "nextToExpand", "()I"⟩, prog_7_method_5_code, 5, (some .int), 3, 716, 715, 13, 107, 0, 2),
  (⟨"StepRunner$Expander", "expand", "(LStepRunner$Step;LStepRunner$Progress;[LStepRunner$Progress;[LStepRunner$Value;)Z"⟩, prog_3_method_2_code, 10, (some .boolean), 4, 721, 719, 720, 108, 4, 2),
  (⟨"StepRunner$Expander", "fillPorts", "(LStepRunner$Step;[LStepRunner$Progress;[LStepRunner$Value;)Z"⟩, prog_3_method_3_code, 7, (some .boolean), 4, 725, 724, 14, 108, 3, 2),
  (⟨"StepRunner$Expander", "merge", "(LStepRunner$Step;I[LStepRunner$Progress;[LStepRunner$Value;)LStepRunner$Value;"⟩, prog_3_method_4_code, 11, (some (.object "StepRunner$Value")), 4, 729, 728, 15, 108, 4, 2),
  (⟨"StepRunner$Expander", "sourceValue", "(I[LStepRunner$Progress;[LStepRunner$Value;)LStepRunner$Value;"⟩, prog_3_method_5_code, 5, (some (.object "StepRunner$Value")), 4, 733, 732, 0, 108, 3, 0),
  (⟨"StepRunner$Value", "isList", "()Z"⟩, prog_10_method_15_code, 1, (some .boolean), 2, 738, 736, 737, 102, 0, 2),
  (⟨"StepRunner$Value", "addItemsOf", "(LStepRunner$Value;)Z"⟩, prog_10_method_13_code, 3, (some .boolean), 2, 742, 740, 741, 102, 1, 2),
  (⟨"StepRunner$Value", "itemAt", "(I)LStepRunner$Value;"⟩, prog_10_method_17_code, 2, (some (.object "StepRunner$Value")), 2, 746, 744, 745, 102, 1, 2),
  (⟨"StepRunner$Expander", "pick", "(ILStepRunner$Value;LStepRunner$Value;)LStepRunner$Value;"⟩, prog_3_method_6_code, 5, (some (.object "StepRunner$Value")), 4, 751, 750, 0, 108, 3, 0),
  (⟨"StepRunner$Value", "isNothing", "()Z"⟩, prog_10_method_14_code, 1, (some .boolean), 2, 756, 754, 755, 102, 0, 2),
  (⟨"StepRunner$Expander", "countJobs", "(LStepRunner$Step;LStepRunner$Progress;)I"⟩, prog_3_method_7_code, 11, (some .int), 4, 760, 759, 16, 108, 2, 2),
  (⟨"StepRunner$Step", "scatteredPorts", "()I"⟩, prog_8_method_4_code, 1, (some .int), 7, 764, 762, 763, 113, 0, 2),
  (⟨"StepRunner", "hasBit", "(II)Z"⟩, prog_1_method_26_code, 2, (some .boolean), 0, 767, 766, 0, 100, 2, 0),
  (⟨"StepRunner$Progress", "addLevel", "(I)V"⟩, prog_5_method_3_code, 2, none, 5, 771, 769, 770, 110, 1, 2),
  (⟨"StepRunner$Expander", "chooseElements", "(LStepRunner$Step;I)V"⟩, prog_3_method_8_code, 9, none, 4, 775, 774, 17, 108, 2, 2),
  (⟨"StepRunner$Expander", "workRules", "(LStepRunner$Step;)Z"⟩, prog_3_method_9_code, 5, (some .boolean), 4, 779, 778, 18, 108, 1, 2),
  (⟨"StepRunner$Rule", "work", "([LStepRunner$Value;LStepRunner$Value;LStepRunner$Value;LStepRunner$Value;)LStepRunner$Value;"⟩, prog_6_method_8_code, 8, (some (.object "StepRunner$Value")), 8, 783, 781, 782, 114, 4, 2),
  (⟨"StepRunner$Rule", "reach", "(I[LStepRunner$Value;LStepRunner$Value;LStepRunner$Value;)LStepRunner$Value;"⟩, prog_6_method_9_code, 8, (some (.object "StepRunner$Value")), 8, 787, 786, 19, 114, 4, 2),
  (⟨"StepRunner$Value", "hasLength", "()Z"⟩, prog_10_method_18_code, 1, (some .boolean), 2, 791, 789, 790, 102, 0, 2),
  (⟨"StepRunner$Value", "addPlain", "(LStepRunner$Value;)Z"⟩, prog_10_method_11_code, 5, (some .boolean), 2, 799, 797, 798, 102, 1, 2),
  (⟨"StepRunner$Value", "plainBegin", "()I"⟩, prog_10_method_19_code, 1, (some .int), 2, 803, 801, 802, 102, 0, 2),
  (⟨"StepRunner$Value", "plainEnd", "()I"⟩, prog_10_method_20_code, 1, (some .int), 2, 807, 805, 806, 102, 0, 2),
  (⟨"StepRunner$Value", "formAt", "(I)I"⟩, prog_10_method_21_code, 7, (some .int), 2, 811, 809, 810, 102, 1, 2),
  (⟨"StepRunner$Value", "isOff", "()Z"⟩, prog_10_method_16_code, 1, (some .boolean), 2, 816, 814, 815, 102, 0, 2),
  (⟨"StepRunner$Progress", "skipJob", "(ILStepRunner$Value;)V"⟩, prog_5_method_4_code, 3, none, 5, 820, 818, 819, 110, 2, 2),
  (⟨"StepRunner$Progress", "openJob", "(I)LStepRunner$Job;"⟩, prog_5_method_5_code, 2, (some (.object "StepRunner$Job")), 5, 824, 822, 823, 110, 1, 2),
  (⟨"StepRunner$Job", "<init>", "(II)V"⟩, prog_4_method_1_code, 3, none, 9, 828, 827, 0, 115, 2, 1),
  (⟨"StepRunner$Job", "makeCommand", "(LStepRunner$Tool;[LStepRunner$Value;)Z"⟩, prog_4_method_2_code, 8, (some .boolean), 9, 860, 858, 859, 115, 2, 2),
  (⟨"StepRunner$Job", "addPortWords", "(CILStepRunner$Value;)Z"⟩, prog_4_method_3_code, 10, (some .boolean), 9, 866, 865, 20, 115, 3, 2),
  (⟨"StepRunner$Job", "openWord", "()Z"⟩, prog_4_method_4_code, 1, (some .boolean), 9, 870, 869, 21, 115, 0, 2)]
def mm_me3 : List mm_MT := [
  (⟨"StepRunner$Job", "addLetter", "(C)Z"⟩, prog_4_method_5_code, 3, (some .boolean), 9, 874, 873, 22, 115, 1, 2),
  (⟨"StepRunner$Job", "addPlain", "(LStepRunner$Value;)Z"⟩, prog_4_method_6_code, 5, (some .boolean), 9, 879, 878, 23, 115, 1, 2),
  (⟨"StepRunner$Run", "settleWhenComplete", "(LStepRunner$Progress;)V"⟩, prog_7_method_7_code, 1, none, 3, 885, 884, 0, 107, 1, 0),
  (⟨"StepRunner$Progress", "settle", "()V"⟩, prog_5_method_8_code, 1, none, 5, 889, 887, 888, 110, 0, 2),
  (⟨"StepRunner$Progress", "nest", "(I)LStepRunner$Value;"⟩, prog_5_method_9_code, 4, (some (.object "StepRunner$Value")), 5, 893, 892, 24, 110, 1, 2),
  (⟨"StepRunner$Progress", "takeResult", "()LStepRunner$Value;"⟩, prog_5_method_10_code, 1, (some (.object "StepRunner$Value")), 5, 897, 896, 25, 110, 0, 2),
  (⟨"StepRunner$Run", "startJobs", "()V"⟩, prog_7_method_6_code, 4, none, 3, 902, 901, 26, 107, 0, 2),
  (⟨"StepRunner$Progress", "takeReadyJob", "()LStepRunner$Job;"⟩, prog_5_method_6_code, 2, (some (.object "StepRunner$Job")), 5, 906, 904, 905, 110, 0, 2),
  (⟨"StepRunner", "finish", "(I)Z"⟩, prog_1_method_14_code, 2, (some .boolean), 0, 910, 908, 909, 100, 1, 2),
  (⟨"StepRunner$Run", "endJob", "(I)Z"⟩, prog_7_method_9_code, 6, (some .boolean), 3, 914, 912, 913, 107, 1, 2),
  (⟨"StepRunner$Run", "activeJob", "(I)LStepRunner$Job;"⟩, prog_7_method_8_code, 2, (some (.object "StepRunner$Job")), 3, 918, 916, 917, 107, 1, 2),
  (⟨"StepRunner$Job", "makeResult", "(I)LStepRunner$Value;"⟩, prog_4_method_10_code, 2, (some (.object "StepRunner$Value")), 9, 922, 920, 921, 115, 1, 2),
  (⟨"StepRunner$Job", "echoWords", "()LStepRunner$Value;"⟩, prog_4_method_11_code, 3, (some (.object "StepRunner$Value")), 9, 926, 925, 27, 115, 0, 2),
  (⟨"StepRunner$Job", "addWordTo", "(LStepRunner$Value;I)Z"⟩, prog_4_method_12_code, 5, (some .boolean), 9, 932, 931, 28, 115, 2, 2),
  (⟨"StepRunner$Job", "wordEnd", "(I)I"⟩, prog_4_method_8_code, 2, (some .int), 9, 936, 935, 29, 115, 1, 2),
  (⟨"StepRunner$Job", "wordBegin", "(I)I"⟩, prog_4_method_7_code, 2, (some .int), 9, 940, 939, 30, 115, 1, 2),
  (⟨"StepRunner$Job", "sumWords", "()LStepRunner$Value;"⟩, prog_4_method_13_code, 4, (some (.object "StepRunner$Value")), 9, 945, 944, 31, 115, 0, 2),
  (⟨"StepRunner$Job", "listWords", "()LStepRunner$Value;"⟩, prog_4_method_14_code, 4, (some (.object "StepRunner$Value")), 9, 951, 950, 32, 115, 0, 2),
  (⟨"StepRunner$Progress", "keepResult", "(ILStepRunner$Value;)V"⟩, prog_5_method_7_code, 3, none, 5, 957, 955, 956, 110, 2, 2),
  (⟨"StepRunner", "status", "()I"⟩, prog_1_method_15_code, 1, (some .int), 0, 961, 959, 960, 100, 0, 2),
  (⟨"StepRunner", "running", "()I"⟩, prog_1_method_16_code, 1, (some .int), 0, 965, 963, 964, 100, 0, 2),
  (⟨"StepRunner", "started", "()I"⟩, prog_1_method_17_code, 1, (some .int), 0, 969, 967, 968, 100, 0, 2),
  (⟨"StepRunner", "job", "(II)I"⟩, prog_1_method_18_code, 4, (some .int), 0, 973, 971, 972, 100, 2, 2),
  (⟨"StepRunner", "word", "(III)I"⟩, prog_1_method_19_code, 5, (some .int), 0, 978, 976, 977, 100, 3, 2),
  (⟨"StepRunner$Job", "letterAt", "(II)I"⟩, prog_4_method_9_code, 4, (some .int), 9, 982, 980, 981, 115, 2, 2),
  (⟨"StepRunner", "state", "(I)I"⟩, prog_1_method_20_code, 2, (some .int), 0, 986, 984, 985, 100, 1, 2),
  (⟨"StepRunner$Run", "phaseOf", "(I)I"⟩, prog_7_method_10_code, 2, (some .int), 3, 990, 988, 989, 107, 1, 2),
  (⟨"StepRunner", "output", "(II)I"⟩, prog_1_method_21_code, 4, (some .int), 0, 994, 992, 993, 100, 2, 2),
  (⟨"StepRunner$Run", "outcomeOf", "(I)LStepRunner$Value;"⟩, prog_7_method_11_code, 2, (some (.object "StepRunner$Value")), 3, 998, 996, 997, 107, 1, 2),
  (⟨"StepRunnerModel", "<init>", "()V"⟩, prog_12_method_1_code, 2, none, 10, 1005, 1004, 0, 111, 0, 1)]
def mm_me4 : List mm_MT := [
  (⟨"StepRunnerModel", "empty", "(I)V"⟩, prog_12_method_14_code, 2, none, 10, 1010, 1009, 33, 111, 1, 2),
  (⟨"StepRunnerModel", "clear", "(I)V"⟩, prog_12_method_3_code, 2, none, 10, 1014, 1013, 34, 111, 1, 2),
  (⟨"StepRunnerModel", "add", "(IIII)V"⟩, prog_12_method_12_code, 5, none, 10, 1018, 1017, 35, 111, 4, 2),
  (⟨"StepRunnerModel", "base", "(I)I"⟩, prog_12_method_2_code, 1, (some .int), 10, 1021, 1020, 0, 111, 1, 0),
  (⟨"StepRunnerModel", "write", "(C)Z"⟩, prog_12_method_27_code, 2, (some .boolean), 10, 1163, 1161, 1162, 111, 1, 2),
  (⟨"StepRunnerModel", "tool", "(I)I"⟩, prog_12_method_41_code, 2, (some .int), 10, 1167, 1165, 1166, 111, 1, 2),
  (⟨"StepRunnerModel", "builds", "()Z"⟩, prog_12_method_38_code, 1, (some .boolean), 10, 1171, 1170, 36, 111, 0, 2),
  (⟨"StepRunnerModel", "in", "(III)Z"⟩, prog_12_method_39_code, 3, (some .boolean), 10, 1174, 1173, 0, 111, 3, 0),
  (⟨"StepRunnerModel", "port", "(IICI)I"⟩, prog_12_method_42_code, 7, (some .int), 10, 1178, 1176, 1177, 111, 4, 2),
  (⟨"StepRunnerModel", "step", "(I)I"⟩, prog_12_method_43_code, 2, (some .int), 10, 1182, 1180, 1181, 111, 1, 2),
  (⟨"StepRunnerModel", "link", "(III)Z"⟩, prog_12_method_44_code, 5, (some .boolean), 10, 1186, 1184, 1185, 111, 3, 2),
  (⟨"StepRunnerModel", "isStep", "(I)Z"⟩, prog_12_method_40_code, 2, (some .boolean), 10, 1190, 1189, 37, 111, 1, 2),
  (⟨"StepRunnerModel", "gather", "(IIII)Z"⟩, prog_12_method_45_code, 5, (some .boolean), 10, 1194, 1192, 1193, 111, 4, 2),
  (⟨"StepRunnerModel", "preset", "(II)Z"⟩, prog_12_method_46_code, 5, (some .boolean), 10, 1198, 1196, 1197, 111, 2, 2),
  (⟨"StepRunnerModel", "keepValue", "(ZI)Z"⟩, prog_12_method_37_code, 4, (some .boolean), 10, 1202, 1201, 38, 111, 2, 2),
  (⟨"StepRunnerModel", "isDraftValue", "()Z"⟩, prog_12_method_30_code, 6, (some .boolean), 10, 1206, 1205, 39, 111, 0, 2),
  (⟨"StepRunnerModel", "seen", "(I)C"⟩, prog_12_method_28_code, 2, (some .char), 10, 1210, 1209, 40, 111, 1, 2),
  (⟨"StepRunnerModel", "scalar", "(II)I"⟩, prog_12_method_31_code, 6, (some .int), 10, 1214, 1213, 41, 111, 2, 2),
  (⟨"StepRunnerModel", "setSign", "(IC)V"⟩, prog_12_method_11_code, 3, none, 10, 1218, 1217, 42, 111, 2, 2),
  (⟨"StepRunnerModel", "addText", "(IIII)V"⟩, prog_12_method_13_code, 5, none, 10, 1224, 1223, 43, 111, 4, 2),
  (⟨"StepRunnerModel", "setText", "(III)V"⟩, prog_12_method_9_code, 4, none, 10, 1228, 1227, 44, 111, 3, 2),
  (⟨"StepRunnerModel", "isDigit", "(C)Z"⟩, prog_12_method_29_code, 1, (some .boolean), 10, 1232, 1231, 0, 111, 1, 0),
  (⟨"StepRunnerModel", "isValue", "(I)Z"⟩, prog_12_method_21_code, 4, (some .boolean), 10, 1236, 1235, 45, 111, 1, 2),
  (⟨"StepRunnerModel", "endOf", "(I)I"⟩, prog_12_method_16_code, 2, (some .int), 10, 1240, 1239, 46, 111, 1, 2),
  (⟨"StepRunnerModel", "kind", "(I)I"⟩, prog_12_method_4_code, 2, (some .int), 10, 1244, 1243, 47, 111, 1, 2),
  (⟨"StepRunnerModel", "level", "(I)I"⟩, prog_12_method_5_code, 2, (some .int), 10, 1249, 1248, 48, 111, 1, 2),
  (⟨"StepRunnerModel", "elements", "(II)I"⟩, prog_12_method_19_code, 6, (some .int), 10, 1254, 1253, 49, 111, 2, 2),
  (⟨"StepRunnerModel", "behind", "(II)I"⟩, prog_12_method_15_code, 4, (some .int), 10, 1258, 1257, 50, 111, 2, 2),
  (⟨"StepRunnerModel", "keep", "(I)V"⟩, prog_12_method_32_code, 4, none, 10, 1262, 1261, 51, 111, 1, 2),
  (⟨"StepRunnerModel", "copySlot", "(II)V"⟩, prog_12_method_18_code, 3, none, 10, 1266, 1265, 52, 111, 2, 2)]
def mm_me5 : List mm_MT := [
  (⟨"StepRunnerModel", "copy", "(IIII)V"⟩, prog_12_method_17_code, 7, none, 10, 1270, 1269, 53, 111, 4, 2),
  (⟨"StepRunnerModel", "num", "(I)I"⟩, prog_12_method_8_code, 2, (some .int), 10, 1274, 1273, 54, 111, 1, 2),
  (⟨"StepRunnerModel", "at", "(I)I"⟩, prog_12_method_7_code, 2, (some .int), 10, 1278, 1277, 55, 111, 1, 2),
  (⟨"StepRunnerModel", "len", "(I)I"⟩, prog_12_method_6_code, 2, (some .int), 10, 1283, 1282, 56, 111, 1, 2),
  (⟨"StepRunnerModel", "sign", "(I)C"⟩, prog_12_method_10_code, 2, (some .char), 10, 1287, 1286, 57, 111, 1, 2),
  (⟨"StepRunnerModel", "from", "(II)Z"⟩, prog_12_method_47_code, 4, (some .boolean), 10, 1292, 1290, 1291, 111, 2, 2),
  (⟨"StepRunnerModel", "keepRule", "(ZI)Z"⟩, prog_12_method_36_code, 5, (some .boolean), 10, 1296, 1295, 58, 111, 2, 2),
  (⟨"StepRunnerModel", "isDraftRule", "()Z"⟩, prog_12_method_35_code, 4, (some .boolean), 10, 1300, 1299, 59, 111, 0, 2),
  (⟨"StepRunnerModel", "reference", "(I)I"⟩, prog_12_method_33_code, 5, (some .int), 10, 1304, 1303, 60, 111, 1, 2),
  (⟨"StepRunnerModel", "isLength", "(I)Z"⟩, prog_12_method_34_code, 2, (some .boolean), 10, 1308, 1307, 61, 111, 1, 2),
  (⟨"StepRunnerModel", "when", "(I)Z"⟩, prog_12_method_48_code, 3, (some .boolean), 10, 1312, 1310, 1311, 111, 1, 2),
  (⟨"StepRunnerModel", "scatter", "(III)Z"⟩, prog_12_method_49_code, 4, (some .boolean), 10, 1316, 1314, 1315, 111, 3, 2),
  (⟨"StepRunnerModel", "input", "(I)Z"⟩, prog_12_method_50_code, 3, (some .boolean), 10, 1320, 1318, 1319, 111, 1, 2),
  (⟨"StepRunnerModel", "start", "(I)I"⟩, prog_12_method_52_code, 4, (some .int), 10, 1324, 1322, 1323, 111, 1, 2),
  (⟨"StepRunnerModel", "needs", "(II)Z"⟩, prog_12_method_51_code, 7, (some .boolean), 10, 1328, 1327, 62, 111, 2, 2),
  (⟨"StepRunnerModel", "isRound", "()Z"⟩, prog_12_method_53_code, 6, (some .boolean), 10, 1332, 1331, 63, 111, 0, 2),
  (⟨"StepRunnerModel", "goOn", "()V"⟩, prog_12_method_55_code, 3, none, 10, 1336, 1335, 64, 111, 0, 2),
  (⟨"StepRunnerModel", "next", "()I"⟩, prog_12_method_54_code, 4, (some .int), 10, 1340, 1339, 65, 111, 0, 2),
  (⟨"StepRunnerModel", "expand", "(I)V"⟩, prog_12_method_63_code, 6, none, 10, 1344, 1343, 66, 111, 1, 2),
  (⟨"StepRunnerModel", "gathered", "(II)Z"⟩, prog_12_method_57_code, 5, (some .boolean), 10, 1348, 1347, 67, 111, 2, 2),
  (⟨"StepRunnerModel", "take", "(III)V"⟩, prog_12_method_58_code, 5, none, 10, 1352, 1351, 68, 111, 3, 2),
  (⟨"StepRunnerModel", "all", "(II)V"⟩, prog_12_method_59_code, 7, none, 10, 1356, 1355, 69, 111, 2, 2),
  (⟨"StepRunnerModel", "picked", "(II)Z"⟩, prog_12_method_60_code, 5, (some .boolean), 10, 1360, 1359, 70, 111, 2, 2),
  (⟨"StepRunnerModel", "fail", "(I)V"⟩, prog_12_method_56_code, 3, none, 10, 1364, 1363, 71, 111, 1, 2),
  (⟨"StepRunnerModel", "scattered", "(I)I"⟩, prog_12_method_62_code, 2, (some .int), 10, 1368, 1367, 72, 111, 1, 2),
  (⟨"StepRunnerModel", "jobsOf", "(II)I"⟩, prog_12_method_61_code, 8, (some .int), 10, 1372, 1371, 73, 111, 2, 2),
  (⟨"StepRunnerModel", "prepared", "(III)Z"⟩, prog_12_method_65_code, 7, (some .boolean), 10, 1376, 1375, 74, 111, 3, 2),
  (⟨"StepRunnerModel", "choice", "(IIII)I"⟩, prog_12_method_64_code, 7, (some .int), 10, 1380, 1379, 75, 111, 4, 2),
  (⟨"StepRunnerModel", "element", "(III)I"⟩, prog_12_method_20_code, 6, (some .int), 10, 1384, 1383, 76, 111, 3, 2),
  (⟨"StepRunnerModel", "ruled", "(IIII)Z"⟩, prog_12_method_68_code, 8, (some .boolean), 10, 1388, 1387, 77, 111, 4, 2)]
def mm_me6 : List mm_MT := [
  (⟨"StepRunnerModel", "ruleAt", "(II)C"⟩, prog_12_method_66_code, 3, (some .char), 10, 1392, 1391, 78, 111, 2, 2),
  (⟨"StepRunnerModel", "follow", "(IIII)I"⟩, prog_12_method_67_code, 11, (some .int), 10, 1396, 1395, 79, 111, 4, 2),
  (⟨"StepRunnerModel", "putPlain", "(II)V"⟩, prog_12_method_26_code, 3, none, 10, 1400, 1399, 80, 111, 2, 2),
  (⟨"StepRunnerModel", "putText", "(II)V"⟩, prog_12_method_24_code, 4, none, 10, 1404, 1403, 81, 111, 2, 2),
  (⟨"StepRunnerModel", "put", "(C)V"⟩, prog_12_method_22_code, 2, none, 10, 1408, 1407, 82, 111, 1, 2),
  (⟨"StepRunnerModel", "putForm", "(II)V"⟩, prog_12_method_25_code, 6, none, 10, 1412, 1411, 83, 111, 2, 2),
  (⟨"StepRunnerModel", "putNumber", "(I)V"⟩, prog_12_method_23_code, 4, none, 10, 1416, 1415, 84, 111, 1, 2),
  (⟨"StepRunnerModel", "putNull", "()V"⟩, prog_12_method_69_code, 1, none, 10, 1420, 1419, 85, 111, 0, 2),
  (⟨"StepRunnerModel", "isText", "(II)Z"⟩, prog_12_method_70_code, 5, (some .boolean), 10, 1424, 1423, 86, 111, 2, 2),
  (⟨"StepRunnerModel", "commanded", "(II)Z"⟩, prog_12_method_73_code, 7, (some .boolean), 10, 1428, 1427, 87, 111, 2, 2),
  (⟨"StepRunnerModel", "worded", "(IIII)Z"⟩, prog_12_method_74_code, 9, (some .boolean), 10, 1432, 1431, 88, 111, 4, 2),
  (⟨"StepRunnerModel", "beginWord", "(I)Z"⟩, prog_12_method_71_code, 2, (some .boolean), 10, 1436, 1435, 89, 111, 1, 2),
  (⟨"StepRunnerModel", "endWord", "(I)V"⟩, prog_12_method_72_code, 2, none, 10, 1440, 1439, 90, 111, 1, 2),
  (⟨"StepRunnerModel", "isThrough", "(I)Z"⟩, prog_12_method_78_code, 4, (some .boolean), 10, 1444, 1443, 91, 111, 1, 2),
  (⟨"StepRunnerModel", "end", "(I)V"⟩, prog_12_method_79_code, 5, none, 10, 1448, 1447, 92, 111, 1, 2),
  (⟨"StepRunnerModel", "nested", "(III)V"⟩, prog_12_method_81_code, 9, none, 10, 1452, 1451, 93, 111, 3, 2),
  (⟨"StepRunnerModel", "heads", "(IIIIII)V"⟩, prog_12_method_82_code, 11, none, 10, 1456, 1455, 94, 111, 6, 2),
  (⟨"StepRunnerModel", "result", "(IIII)V"⟩, prog_12_method_80_code, 6, none, 10, 1460, 1459, 95, 111, 4, 2),
  (⟨"StepRunnerModel", "finish", "(I)Z"⟩, prog_12_method_83_code, 5, (some .boolean), 10, 1464, 1462, 1463, 111, 1, 2),
  (⟨"StepRunnerModel", "resulted", "(II)Z"⟩, prog_12_method_75_code, 8, (some .boolean), 10, 1468, 1467, 96, 111, 2, 2),
  (⟨"StepRunnerModel", "echoed", "(II)Z"⟩, prog_12_method_76_code, 8, (some .boolean), 10, 1472, 1471, 97, 111, 2, 2),
  (⟨"StepRunnerModel", "summed", "(II)Z"⟩, prog_12_method_77_code, 11, (some .boolean), 10, 1476, 1475, 98, 111, 2, 2),
  (⟨"StepRunnerModel", "status", "()I"⟩, prog_12_method_84_code, 1, (some .int), 10, 1482, 1480, 1481, 111, 0, 2),
  (⟨"StepRunnerModel", "running", "()I"⟩, prog_12_method_85_code, 1, (some .int), 10, 1486, 1484, 1485, 111, 0, 2),
  (⟨"StepRunnerModel", "started", "()I"⟩, prog_12_method_86_code, 1, (some .int), 10, 1490, 1488, 1489, 111, 0, 2),
  (⟨"StepRunnerModel", "job", "(II)I"⟩, prog_12_method_87_code, 3, (some .int), 10, 1494, 1492, 1493, 111, 2, 2),
  (⟨"StepRunnerModel", "word", "(III)I"⟩, prog_12_method_88_code, 4, (some .int), 10, 1498, 1496, 1497, 111, 3, 2),
  (⟨"StepRunnerModel", "state", "(I)I"⟩, prog_12_method_89_code, 2, (some .int), 10, 1502, 1500, 1501, 111, 1, 2),
  (⟨"StepRunnerModel", "output", "(II)I"⟩, prog_12_method_90_code, 3, (some .int), 10, 1506, 1504, 1505, 111, 2, 2),
  (⟨"StepRunnerLaw", "law", "([I)Z"⟩, code, 4, (some .boolean), 999, 0, 0, 0, 99, 1, 2)]
def mm_meth : List mm_MT := mm_me0 ++ (mm_me1 ++ (mm_me2 ++ (mm_me3 ++ (mm_me4 ++ (mm_me5 ++ (mm_me6))))))
def mm_m0 : mm_MT := (⟨"", "", ""⟩, ⟨#[]⟩, 0, none, 999, 0, 0, 0, 0, 0, 9)
def mm_mt (k : Nat) : mm_MT := mm_meth.getD k mm_m0
def mm_y (k : Nat) : MethodName := (mm_mt k).1
def mm_by (k : Nat) : ByteArray := (mm_mt k).2.1
def mm_ml (k : Nat) : Nat := (mm_mt k).2.2.1
def mm_rt (k : Nat) : Option FieldType := (mm_mt k).2.2.2.1
def mm_mc (k : Nat) : Nat := (mm_mt k).2.2.2.2.1
def mm_pc (k : Nat) : Nat := (mm_mt k).2.2.2.2.2.1
def mm_pi (k : Nat) : Nat := (mm_mt k).2.2.2.2.2.2.1
def mm_pe (k : Nat) : Nat := (mm_mt k).2.2.2.2.2.2.2.1
def mm_pz (k : Nat) : Nat := (mm_mt k).2.2.2.2.2.2.2.2.1
def mm_na (k : Nat) : Nat := (mm_mt k).2.2.2.2.2.2.2.2.2.1
def mm_kd (k : Nat) : Nat := (mm_mt k).2.2.2.2.2.2.2.2.2.2
def mm_tx : List (List Nat) := [[110, 117, 108, 108], [36, 40], [115, 101, 108, 102], [105, 110, 112, 117, 116, 115, 46], [46, 108, 101, 110, 103, 116, 104]]
