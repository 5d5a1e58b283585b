-- ===== PART A: goes FIRST, ahead of the names: the tables' words, and 'selects' of the private methods out of them =====
/-- a private method of a class that the tables say can be made, by its rows of tables_1 -/
def lw_okq (q : MethodName × Nat) : Prop := (q.1.cls ≠ "java/lang/invoke/MethodHandle" ∧ q.1.cls ≠ "java/lang/invoke/VarHandle") ∧ Cond.instantiable q.1.cls q.2 ∈ tables_1 ∧ Cond.privateMethod q.1 ∈ tables_1 ∧ Cond.instanceMethod q.1 ∈ tables_1
theorem lw_p0 : lw_okq (⟨"SendRules$Reader", "readItem", "(LSendRules$Records;)Z"⟩, 4) := ⟨⟨by decide +kernel, by decide +kernel⟩, List.mem_of_getElem? (i := 29) (by decide +kernel), List.mem_of_getElem? (i := 360) (by decide +kernel), List.mem_of_getElem? (i := 361) (by decide +kernel)⟩
theorem lw_p1 : lw_okq (⟨"SendRules$Reader", "next", "()C"⟩, 4) := ⟨⟨by decide +kernel, by decide +kernel⟩, List.mem_of_getElem? (i := 29) (by decide +kernel), List.mem_of_getElem? (i := 364) (by decide +kernel), List.mem_of_getElem? (i := 365) (by decide +kernel)⟩
theorem lw_p2 : lw_okq (⟨"SendRules$Reader", "readName", "()I"⟩, 4) := ⟨⟨by decide +kernel, by decide +kernel⟩, List.mem_of_getElem? (i := 29) (by decide +kernel), List.mem_of_getElem? (i := 368) (by decide +kernel), List.mem_of_getElem? (i := 369) (by decide +kernel)⟩
theorem lw_p3 : lw_okq (⟨"SendRules$Reader", "peek", "()C"⟩, 4) := ⟨⟨by decide +kernel, by decide +kernel⟩, List.mem_of_getElem? (i := 29) (by decide +kernel), List.mem_of_getElem? (i := 372) (by decide +kernel), List.mem_of_getElem? (i := 373) (by decide +kernel)⟩
theorem lw_p4 : lw_okq (⟨"SendRules$Reader", "take", "(C)Z"⟩, 4) := ⟨⟨by decide +kernel, by decide +kernel⟩, List.mem_of_getElem? (i := 29) (by decide +kernel), List.mem_of_getElem? (i := 388) (by decide +kernel), List.mem_of_getElem? (i := 389) (by decide +kernel)⟩
theorem lw_p5 : lw_okq (⟨"SendRules$Reader", "readPolicy", "(LSendRules$Domain;)Z"⟩, 4) := ⟨⟨by decide +kernel, by decide +kernel⟩, List.mem_of_getElem? (i := 29) (by decide +kernel), List.mem_of_getElem? (i := 416) (by decide +kernel), List.mem_of_getElem? (i := 417) (by decide +kernel)⟩
theorem lw_p6 : lw_okq (⟨"SendRules$Reader", "readRule", "(LSendRules$Rule;)Z"⟩, 4) := ⟨⟨by decide +kernel, by decide +kernel⟩, List.mem_of_getElem? (i := 29) (by decide +kernel), List.mem_of_getElem? (i := 428) (by decide +kernel), List.mem_of_getElem? (i := 429) (by decide +kernel)⟩
theorem lw_p7 : lw_okq (⟨"SendRules$Reader", "readPrefix", "(LSendRules$Rule;)Z"⟩, 4) := ⟨⟨by decide +kernel, by decide +kernel⟩, List.mem_of_getElem? (i := 29) (by decide +kernel), List.mem_of_getElem? (i := 497) (by decide +kernel), List.mem_of_getElem? (i := 498) (by decide +kernel)⟩
theorem lw_p8 : lw_okq (⟨"SendRules$Reader", "readNumber", "(I)I"⟩, 4) := ⟨⟨by decide +kernel, by decide +kernel⟩, List.mem_of_getElem? (i := 29) (by decide +kernel), List.mem_of_getElem? (i := 501) (by decide +kernel), List.mem_of_getElem? (i := 502) (by decide +kernel)⟩
theorem lw_p9 : lw_okq (⟨"SendRules$Reader", "readMacro", "(LSendRules$Rule;)Z"⟩, 4) := ⟨⟨by decide +kernel, by decide +kernel⟩, List.mem_of_getElem? (i := 29) (by decide +kernel), List.mem_of_getElem? (i := 505) (by decide +kernel), List.mem_of_getElem? (i := 506) (by decide +kernel)⟩
theorem lw_p10 : lw_okq (⟨"SendRules$Reader", "readPart", "()I"⟩, 4) := ⟨⟨by decide +kernel, by decide +kernel⟩, List.mem_of_getElem? (i := 29) (by decide +kernel), List.mem_of_getElem? (i := 509) (by decide +kernel), List.mem_of_getElem? (i := 510) (by decide +kernel)⟩
theorem lw_p11 : lw_okq (⟨"SendRules$Reader", "readHosts", "(LSendRules$Domain;)Z"⟩, 4) := ⟨⟨by decide +kernel, by decide +kernel⟩, List.mem_of_getElem? (i := 29) (by decide +kernel), List.mem_of_getElem? (i := 514) (by decide +kernel), List.mem_of_getElem? (i := 515) (by decide +kernel)⟩
theorem lw_p12 : lw_okq (⟨"SendRules$Reader", "readExchangers", "(LSendRules$Domain;)Z"⟩, 4) := ⟨⟨by decide +kernel, by decide +kernel⟩, List.mem_of_getElem? (i := 29) (by decide +kernel), List.mem_of_getElem? (i := 522) (by decide +kernel), List.mem_of_getElem? (i := 523) (by decide +kernel)⟩
theorem lw_p13 : lw_okq (⟨"SendRules", "isKnown", "(I)Z"⟩, 6) := ⟨⟨by decide +kernel, by decide +kernel⟩, List.mem_of_getElem? (i := 21) (by decide +kernel), List.mem_of_getElem? (i := 596) (by decide +kernel), List.mem_of_getElem? (i := 597) (by decide +kernel)⟩
theorem lw_p14 : lw_okq (⟨"SendRules$Evaluator", "resultOf", "(II)I"⟩, 10) := ⟨⟨by decide +kernel, by decide +kernel⟩, List.mem_of_getElem? (i := 191) (by decide +kernel), List.mem_of_getElem? (i := 611) (by decide +kernel), List.mem_of_getElem? (i := 612) (by decide +kernel)⟩
theorem lw_p15 : lw_okq (⟨"SendRules$Evaluator", "endWithError", "()I"⟩, 10) := ⟨⟨by decide +kernel, by decide +kernel⟩, List.mem_of_getElem? (i := 191) (by decide +kernel), List.mem_of_getElem? (i := 615) (by decide +kernel), List.mem_of_getElem? (i := 616) (by decide +kernel)⟩
def lw_privs_1 : List (MethodName × Nat) := [(⟨"SendRules$Reader", "readItem", "(LSendRules$Records;)Z"⟩, 4), (⟨"SendRules$Reader", "next", "()C"⟩, 4), (⟨"SendRules$Reader", "readName", "()I"⟩, 4), (⟨"SendRules$Reader", "peek", "()C"⟩, 4), (⟨"SendRules$Reader", "take", "(C)Z"⟩, 4), (⟨"SendRules$Reader", "readPolicy", "(LSendRules$Domain;)Z"⟩, 4), (⟨"SendRules$Reader", "readRule", "(LSendRules$Rule;)Z"⟩, 4), (⟨"SendRules$Reader", "readPrefix", "(LSendRules$Rule;)Z"⟩, 4), (⟨"SendRules$Reader", "readNumber", "(I)I"⟩, 4), (⟨"SendRules$Reader", "readMacro", "(LSendRules$Rule;)Z"⟩, 4), (⟨"SendRules$Reader", "readPart", "()I"⟩, 4), (⟨"SendRules$Reader", "readHosts", "(LSendRules$Domain;)Z"⟩, 4), (⟨"SendRules$Reader", "readExchangers", "(LSendRules$Domain;)Z"⟩, 4), (⟨"SendRules", "isKnown", "(I)Z"⟩, 6), (⟨"SendRules$Evaluator", "resultOf", "(II)I"⟩, 10), (⟨"SendRules$Evaluator", "endWithError", "()I"⟩, 10)]
theorem lw_r1 : ∀ q ∈ lw_privs_1, lw_okq q := List.forall_mem_cons.mpr ⟨lw_p0, List.forall_mem_cons.mpr ⟨lw_p1, List.forall_mem_cons.mpr ⟨lw_p2, List.forall_mem_cons.mpr ⟨lw_p3, List.forall_mem_cons.mpr ⟨lw_p4, List.forall_mem_cons.mpr ⟨lw_p5, List.forall_mem_cons.mpr ⟨lw_p6, List.forall_mem_cons.mpr ⟨lw_p7, List.forall_mem_cons.mpr ⟨lw_p8, List.forall_mem_cons.mpr ⟨lw_p9, List.forall_mem_cons.mpr ⟨lw_p10, List.forall_mem_cons.mpr ⟨lw_p11, List.forall_mem_cons.mpr ⟨lw_p12, List.forall_mem_cons.mpr ⟨lw_p13, List.forall_mem_cons.mpr ⟨lw_p14, List.forall_mem_cons.mpr ⟨lw_p15, fun _ h => absurd h List.not_mem_nil⟩⟩⟩⟩⟩⟩⟩⟩⟩⟩⟩⟩⟩⟩⟩⟩
theorem lw_p16 : lw_okq (⟨"SendRules$Evaluator", "matches", "(LSendRules$Rule;LSendRules$Domain;I)Z"⟩, 10) := ⟨⟨by decide +kernel, by decide +kernel⟩, List.mem_of_getElem? (i := 191) (by decide +kernel), List.mem_of_getElem? (i := 619) (by decide +kernel), List.mem_of_getElem? (i := 620) (by decide +kernel)⟩
theorem lw_p17 : lw_okq (⟨"SendRules$Evaluator", "lookUp", "()Z"⟩, 10) := ⟨⟨by decide +kernel, by decide +kernel⟩, List.mem_of_getElem? (i := 191) (by decide +kernel), List.mem_of_getElem? (i := 627) (by decide +kernel), List.mem_of_getElem? (i := 628) (by decide +kernel)⟩
theorem lw_p18 : lw_okq (⟨"SendRules$Evaluator", "includeMatches", "(LSendRules$Rule;I)Z"⟩, 10) := ⟨⟨by decide +kernel, by decide +kernel⟩, List.mem_of_getElem? (i := 191) (by decide +kernel), List.mem_of_getElem? (i := 631) (by decide +kernel), List.mem_of_getElem? (i := 632) (by decide +kernel)⟩
theorem lw_p19 : lw_okq (⟨"SendRules$Evaluator", "hostMatches", "(LSendRules$Rule;)Z"⟩, 10) := ⟨⟨by decide +kernel, by decide +kernel⟩, List.mem_of_getElem? (i := 191) (by decide +kernel), List.mem_of_getElem? (i := 636) (by decide +kernel), List.mem_of_getElem? (i := 637) (by decide +kernel)⟩
theorem lw_p20 : lw_okq (⟨"SendRules$Evaluator", "findEmpty", "()V"⟩, 10) := ⟨⟨by decide +kernel, by decide +kernel⟩, List.mem_of_getElem? (i := 191) (by decide +kernel), List.mem_of_getElem? (i := 641) (by decide +kernel), List.mem_of_getElem? (i := 642) (by decide +kernel)⟩
theorem lw_p21 : lw_okq (⟨"SendRules$Evaluator", "mailMatches", "(LSendRules$Rule;)Z"⟩, 10) := ⟨⟨by decide +kernel, by decide +kernel⟩, List.mem_of_getElem? (i := 191) (by decide +kernel), List.mem_of_getElem? (i := 649) (by decide +kernel), List.mem_of_getElem? (i := 650) (by decide +kernel)⟩
theorem lw_p22 : lw_okq (⟨"SendRules$Evaluator", "existsMatches", "(LSendRules$Rule;LSendRules$Domain;)Z"⟩, 10) := ⟨⟨by decide +kernel, by decide +kernel⟩, List.mem_of_getElem? (i := 191) (by decide +kernel), List.mem_of_getElem? (i := 653) (by decide +kernel), List.mem_of_getElem? (i := 654) (by decide +kernel)⟩
theorem lw_p23 : lw_okq (⟨"SendRules$Evaluator", "putPart", "(ILSendRules$Domain;)V"⟩, 10) := ⟨⟨by decide +kernel, by decide +kernel⟩, List.mem_of_getElem? (i := 191) (by decide +kernel), List.mem_of_getElem? (i := 658) (by decide +kernel), List.mem_of_getElem? (i := 659) (by decide +kernel)⟩
theorem lw_p24 : lw_okq (⟨"SendRules$Evaluator", "sizeOf", "(ILSendRules$Domain;)I"⟩, 10) := ⟨⟨by decide +kernel, by decide +kernel⟩, List.mem_of_getElem? (i := 191) (by decide +kernel), List.mem_of_getElem? (i := 662) (by decide +kernel), List.mem_of_getElem? (i := 663) (by decide +kernel)⟩
theorem lw_p25 : lw_okq (⟨"SendRules$Evaluator", "fromEndOf", "(ILSendRules$Domain;I)I"⟩, 10) := ⟨⟨by decide +kernel, by decide +kernel⟩, List.mem_of_getElem? (i := 191) (by decide +kernel), List.mem_of_getElem? (i := 667) (by decide +kernel), List.mem_of_getElem? (i := 668) (by decide +kernel)⟩
theorem lw_p26 : lw_okq (⟨"SendRules$Evaluator", "decide", "(III)I"⟩, 10) := ⟨⟨by decide +kernel, by decide +kernel⟩, List.mem_of_getElem? (i := 191) (by decide +kernel), List.mem_of_getElem? (i := 673) (by decide +kernel), List.mem_of_getElem? (i := 674) (by decide +kernel)⟩
theorem lw_p27 : lw_okq (⟨"SendRules$KeptChecks", "placeFor", "(III)LSendRules$KeptCheck;"⟩, 2) := ⟨⟨by decide +kernel, by decide +kernel⟩, List.mem_of_getElem? (i := 239) (by decide +kernel), List.mem_of_getElem? (i := 688) (by decide +kernel), List.mem_of_getElem? (i := 689) (by decide +kernel)⟩
theorem lw_p28 : lw_okq (⟨"SendRules", "ruleAt", "(II)LSendRules$Rule;"⟩, 6) := ⟨⟨by decide +kernel, by decide +kernel⟩, List.mem_of_getElem? (i := 21) (by decide +kernel), List.mem_of_getElem? (i := 709) (by decide +kernel), List.mem_of_getElem? (i := 710) (by decide +kernel)⟩
theorem lw_p29 : lw_okq (⟨"SendRules", "noteChange", "(IIII)V"⟩, 6) := ⟨⟨by decide +kernel, by decide +kernel⟩, List.mem_of_getElem? (i := 21) (by decide +kernel), List.mem_of_getElem? (i := 716) (by decide +kernel), List.mem_of_getElem? (i := 717) (by decide +kernel)⟩
theorem lw_p30 : lw_okq (⟨"SendRules", "takeBack", "(LSendRules$Change;)V"⟩, 6) := ⟨⟨by decide +kernel, by decide +kernel⟩, List.mem_of_getElem? (i := 21) (by decide +kernel), List.mem_of_getElem? (i := 750) (by decide +kernel), List.mem_of_getElem? (i := 751) (by decide +kernel)⟩
theorem lw_p31 : lw_okq (⟨"SendRules", "numberOrNone", "(I)I"⟩, 6) := ⟨⟨by decide +kernel, by decide +kernel⟩, List.mem_of_getElem? (i := 21) (by decide +kernel), List.mem_of_getElem? (i := 758) (by decide +kernel), List.mem_of_getElem? (i := 759) (by decide +kernel)⟩
def lw_privs_2 : List (MethodName × Nat) := [(⟨"SendRules$Evaluator", "matches", "(LSendRules$Rule;LSendRules$Domain;I)Z"⟩, 10), (⟨"SendRules$Evaluator", "lookUp", "()Z"⟩, 10), (⟨"SendRules$Evaluator", "includeMatches", "(LSendRules$Rule;I)Z"⟩, 10), (⟨"SendRules$Evaluator", "hostMatches", "(LSendRules$Rule;)Z"⟩, 10), (⟨"SendRules$Evaluator", "findEmpty", "()V"⟩, 10), (⟨"SendRules$Evaluator", "mailMatches", "(LSendRules$Rule;)Z"⟩, 10), (⟨"SendRules$Evaluator", "existsMatches", "(LSendRules$Rule;LSendRules$Domain;)Z"⟩, 10), (⟨"SendRules$Evaluator", "putPart", "(ILSendRules$Domain;)V"⟩, 10), (⟨"SendRules$Evaluator", "sizeOf", "(ILSendRules$Domain;)I"⟩, 10), (⟨"SendRules$Evaluator", "fromEndOf", "(ILSendRules$Domain;I)I"⟩, 10), (⟨"SendRules$Evaluator", "decide", "(III)I"⟩, 10), (⟨"SendRules$KeptChecks", "placeFor", "(III)LSendRules$KeptCheck;"⟩, 2), (⟨"SendRules", "ruleAt", "(II)LSendRules$Rule;"⟩, 6), (⟨"SendRules", "noteChange", "(IIII)V"⟩, 6), (⟨"SendRules", "takeBack", "(LSendRules$Change;)V"⟩, 6), (⟨"SendRules", "numberOrNone", "(I)I"⟩, 6)]
theorem lw_r2 : ∀ q ∈ lw_privs_2, lw_okq q := List.forall_mem_cons.mpr ⟨lw_p16, List.forall_mem_cons.mpr ⟨lw_p17, List.forall_mem_cons.mpr ⟨lw_p18, List.forall_mem_cons.mpr ⟨lw_p19, List.forall_mem_cons.mpr ⟨lw_p20, List.forall_mem_cons.mpr ⟨lw_p21, List.forall_mem_cons.mpr ⟨lw_p22, List.forall_mem_cons.mpr ⟨lw_p23, List.forall_mem_cons.mpr ⟨lw_p24, List.forall_mem_cons.mpr ⟨lw_p25, List.forall_mem_cons.mpr ⟨lw_p26, List.forall_mem_cons.mpr ⟨lw_p27, List.forall_mem_cons.mpr ⟨lw_p28, List.forall_mem_cons.mpr ⟨lw_p29, List.forall_mem_cons.mpr ⟨lw_p30, List.forall_mem_cons.mpr ⟨lw_p31, fun _ h => absurd h List.not_mem_nil⟩⟩⟩⟩⟩⟩⟩⟩⟩⟩⟩⟩⟩⟩⟩⟩
theorem lw_p32 : lw_okq (⟨"SendRules$Records", "bitIfPolicy", "(I)I"⟩, 2) := ⟨⟨by decide +kernel, by decide +kernel⟩, List.mem_of_getElem? (i := 63) (by decide +kernel), List.mem_of_getElem? (i := 802) (by decide +kernel), List.mem_of_getElem? (i := 803) (by decide +kernel)⟩
theorem lw_p33 : lw_okq (⟨"SendRulesModel", "tells", "(IIIII)V"⟩, 48) := ⟨⟨by decide +kernel, by decide +kernel⟩, List.mem_of_getElem? (i := 818) (by decide +kernel), List.mem_of_getElem? (i := 824) (by decide +kernel), List.mem_of_getElem? (i := 825) (by decide +kernel)⟩
theorem lw_p34 : lw_okq (⟨"SendRulesModel", "reads", "()I"⟩, 48) := ⟨⟨by decide +kernel, by decide +kernel⟩, List.mem_of_getElem? (i := 818) (by decide +kernel), List.mem_of_getElem? (i := 836) (by decide +kernel), List.mem_of_getElem? (i := 837) (by decide +kernel)⟩
theorem lw_p35 : lw_okq (⟨"SendRulesModel", "item", "()Z"⟩, 48) := ⟨⟨by decide +kernel, by decide +kernel⟩, List.mem_of_getElem? (i := 818) (by decide +kernel), List.mem_of_getElem? (i := 840) (by decide +kernel), List.mem_of_getElem? (i := 841) (by decide +kernel)⟩
theorem lw_p36 : lw_okq (⟨"SendRulesModel", "next", "()I"⟩, 48) := ⟨⟨by decide +kernel, by decide +kernel⟩, List.mem_of_getElem? (i := 818) (by decide +kernel), List.mem_of_getElem? (i := 844) (by decide +kernel), List.mem_of_getElem? (i := 845) (by decide +kernel)⟩
theorem lw_p37 : lw_okq (⟨"SendRulesModel", "readsName", "()Z"⟩, 48) := ⟨⟨by decide +kernel, by decide +kernel⟩, List.mem_of_getElem? (i := 818) (by decide +kernel), List.mem_of_getElem? (i := 848) (by decide +kernel), List.mem_of_getElem? (i := 849) (by decide +kernel)⟩
theorem lw_p38 : lw_okq (⟨"SendRulesModel", "comes", "(I)Z"⟩, 48) := ⟨⟨by decide +kernel, by decide +kernel⟩, List.mem_of_getElem? (i := 818) (by decide +kernel), List.mem_of_getElem? (i := 859) (by decide +kernel), List.mem_of_getElem? (i := 860) (by decide +kernel)⟩
theorem lw_p39 : lw_okq (⟨"SendRulesModel", "slotOf", "(I)I"⟩, 48) := ⟨⟨by decide +kernel, by decide +kernel⟩, List.mem_of_getElem? (i := 818) (by decide +kernel), List.mem_of_getElem? (i := 863) (by decide +kernel), List.mem_of_getElem? (i := 864) (by decide +kernel)⟩
theorem lw_p40 : lw_okq (⟨"SendRulesModel", "rulesOf", "(I)Z"⟩, 48) := ⟨⟨by decide +kernel, by decide +kernel⟩, List.mem_of_getElem? (i := 818) (by decide +kernel), List.mem_of_getElem? (i := 867) (by decide +kernel), List.mem_of_getElem? (i := 868) (by decide +kernel)⟩
theorem lw_p41 : lw_okq (⟨"SendRulesModel", "asks", "(I)Z"⟩, 48) := ⟨⟨by decide +kernel, by decide +kernel⟩, List.mem_of_getElem? (i := 818) (by decide +kernel), List.mem_of_getElem? (i := 874) (by decide +kernel), List.mem_of_getElem? (i := 875) (by decide +kernel)⟩
theorem lw_p42 : lw_okq (⟨"SendRulesModel", "number", "(I)Z"⟩, 48) := ⟨⟨by decide +kernel, by decide +kernel⟩, List.mem_of_getElem? (i := 818) (by decide +kernel), List.mem_of_getElem? (i := 878) (by decide +kernel), List.mem_of_getElem? (i := 879) (by decide +kernel)⟩
theorem lw_p43 : lw_okq (⟨"SendRulesModel", "macro", "(I)Z"⟩, 48) := ⟨⟨by decide +kernel, by decide +kernel⟩, List.mem_of_getElem? (i := 818) (by decide +kernel), List.mem_of_getElem? (i := 882) (by decide +kernel), List.mem_of_getElem? (i := 883) (by decide +kernel)⟩
theorem lw_p44 : lw_okq (⟨"SendRulesModel", "readsPart", "()Z"⟩, 48) := ⟨⟨by decide +kernel, by decide +kernel⟩, List.mem_of_getElem? (i := 818) (by decide +kernel), List.mem_of_getElem? (i := 886) (by decide +kernel), List.mem_of_getElem? (i := 887) (by decide +kernel)⟩
theorem lw_p45 : lw_okq (⟨"SendRulesModel", "hostsOf", "(I)Z"⟩, 48) := ⟨⟨by decide +kernel, by decide +kernel⟩, List.mem_of_getElem? (i := 818) (by decide +kernel), List.mem_of_getElem? (i := 893) (by decide +kernel), List.mem_of_getElem? (i := 894) (by decide +kernel)⟩
theorem lw_p46 : lw_okq (⟨"SendRulesModel", "exchangersOf", "(I)Z"⟩, 48) := ⟨⟨by decide +kernel, by decide +kernel⟩, List.mem_of_getElem? (i := 818) (by decide +kernel), List.mem_of_getElem? (i := 897) (by decide +kernel), List.mem_of_getElem? (i := 898) (by decide +kernel)⟩
theorem lw_p47 : lw_okq (⟨"SendRulesModel", "takes", "(II)V"⟩, 48) := ⟨⟨by decide +kernel, by decide +kernel⟩, List.mem_of_getElem? (i := 818) (by decide +kernel), List.mem_of_getElem? (i := 901) (by decide +kernel), List.mem_of_getElem? (i := 902) (by decide +kernel)⟩
def lw_privs_3 : List (MethodName × Nat) := [(⟨"SendRules$Records", "bitIfPolicy", "(I)I"⟩, 2), (⟨"SendRulesModel", "tells", "(IIIII)V"⟩, 48), (⟨"SendRulesModel", "reads", "()I"⟩, 48), (⟨"SendRulesModel", "item", "()Z"⟩, 48), (⟨"SendRulesModel", "next", "()I"⟩, 48), (⟨"SendRulesModel", "readsName", "()Z"⟩, 48), (⟨"SendRulesModel", "comes", "(I)Z"⟩, 48), (⟨"SendRulesModel", "slotOf", "(I)I"⟩, 48), (⟨"SendRulesModel", "rulesOf", "(I)Z"⟩, 48), (⟨"SendRulesModel", "asks", "(I)Z"⟩, 48), (⟨"SendRulesModel", "number", "(I)Z"⟩, 48), (⟨"SendRulesModel", "macro", "(I)Z"⟩, 48), (⟨"SendRulesModel", "readsPart", "()Z"⟩, 48), (⟨"SendRulesModel", "hostsOf", "(I)Z"⟩, 48), (⟨"SendRulesModel", "exchangersOf", "(I)Z"⟩, 48), (⟨"SendRulesModel", "takes", "(II)V"⟩, 48)]
theorem lw_r3 : ∀ q ∈ lw_privs_3, lw_okq q := List.forall_mem_cons.mpr ⟨lw_p32, List.forall_mem_cons.mpr ⟨lw_p33, List.forall_mem_cons.mpr ⟨lw_p34, List.forall_mem_cons.mpr ⟨lw_p35, List.forall_mem_cons.mpr ⟨lw_p36, List.forall_mem_cons.mpr ⟨lw_p37, List.forall_mem_cons.mpr ⟨lw_p38, List.forall_mem_cons.mpr ⟨lw_p39, List.forall_mem_cons.mpr ⟨lw_p40, List.forall_mem_cons.mpr ⟨lw_p41, List.forall_mem_cons.mpr ⟨lw_p42, List.forall_mem_cons.mpr ⟨lw_p43, List.forall_mem_cons.mpr ⟨lw_p44, List.forall_mem_cons.mpr ⟨lw_p45, List.forall_mem_cons.mpr ⟨lw_p46, List.forall_mem_cons.mpr ⟨lw_p47, fun _ h => absurd h List.not_mem_nil⟩⟩⟩⟩⟩⟩⟩⟩⟩⟩⟩⟩⟩⟩⟩⟩
theorem lw_p48 : lw_okq (⟨"SendRulesModel", "isName", "(I)Z"⟩, 48) := ⟨⟨by decide +kernel, by decide +kernel⟩, List.mem_of_getElem? (i := 818) (by decide +kernel), List.mem_of_getElem? (i := 1068) (by decide +kernel), List.mem_of_getElem? (i := 1069) (by decide +kernel)⟩
theorem lw_p49 : lw_okq (⟨"SendRulesModel", "goes", "(III)I"⟩, 48) := ⟨⟨by decide +kernel, by decide +kernel⟩, List.mem_of_getElem? (i := 818) (by decide +kernel), List.mem_of_getElem? (i := 1072) (by decide +kernel), List.mem_of_getElem? (i := 1073) (by decide +kernel)⟩
theorem lw_p50 : lw_okq (⟨"SendRulesModel", "enters", "(I)Z"⟩, 48) := ⟨⟨by decide +kernel, by decide +kernel⟩, List.mem_of_getElem? (i := 818) (by decide +kernel), List.mem_of_getElem? (i := 1076) (by decide +kernel), List.mem_of_getElem? (i := 1077) (by decide +kernel)⟩
theorem lw_p51 : lw_okq (⟨"SendRulesModel", "looks", "()Z"⟩, 48) := ⟨⟨by decide +kernel, by decide +kernel⟩, List.mem_of_getElem? (i := 818) (by decide +kernel), List.mem_of_getElem? (i := 1080) (by decide +kernel), List.mem_of_getElem? (i := 1081) (by decide +kernel)⟩
theorem lw_p52 : lw_okq (⟨"SendRulesModel", "numberOf", "(I)I"⟩, 48) := ⟨⟨by decide +kernel, by decide +kernel⟩, List.mem_of_getElem? (i := 818) (by decide +kernel), List.mem_of_getElem? (i := 1084) (by decide +kernel), List.mem_of_getElem? (i := 1085) (by decide +kernel)⟩
theorem lw_p53 : lw_okq (⟨"SendRulesModel", "error", "()I"⟩, 48) := ⟨⟨by decide +kernel, by decide +kernel⟩, List.mem_of_getElem? (i := 818) (by decide +kernel), List.mem_of_getElem? (i := 1088) (by decide +kernel), List.mem_of_getElem? (i := 1089) (by decide +kernel)⟩
theorem lw_p54 : lw_okq (⟨"SendRulesModel", "ruleAt", "(II)I"⟩, 48) := ⟨⟨by decide +kernel, by decide +kernel⟩, List.mem_of_getElem? (i := 818) (by decide +kernel), List.mem_of_getElem? (i := 1092) (by decide +kernel), List.mem_of_getElem? (i := 1093) (by decide +kernel)⟩
theorem lw_p55 : lw_okq (⟨"SendRulesModel", "fits", "(I)I"⟩, 48) := ⟨⟨by decide +kernel, by decide +kernel⟩, List.mem_of_getElem? (i := 818) (by decide +kernel), List.mem_of_getElem? (i := 1096) (by decide +kernel), List.mem_of_getElem? (i := 1097) (by decide +kernel)⟩
theorem lw_p56 : lw_okq (⟨"SendRulesModel", "macroName", "(I)I"⟩, 48) := ⟨⟨by decide +kernel, by decide +kernel⟩, List.mem_of_getElem? (i := 818) (by decide +kernel), List.mem_of_getElem? (i := 1100) (by decide +kernel), List.mem_of_getElem? (i := 1101) (by decide +kernel)⟩
theorem lw_p57 : lw_okq (⟨"SendRulesModel", "spellsPart", "(I)V"⟩, 48) := ⟨⟨by decide +kernel, by decide +kernel⟩, List.mem_of_getElem? (i := 818) (by decide +kernel), List.mem_of_getElem? (i := 1104) (by decide +kernel), List.mem_of_getElem? (i := 1105) (by decide +kernel)⟩
theorem lw_p58 : lw_okq (⟨"SendRulesModel", "spells", "(I)V"⟩, 48) := ⟨⟨by decide +kernel, by decide +kernel⟩, List.mem_of_getElem? (i := 818) (by decide +kernel), List.mem_of_getElem? (i := 1108) (by decide +kernel), List.mem_of_getElem? (i := 1109) (by decide +kernel)⟩
theorem lw_p59 : lw_okq (⟨"SendRulesModel", "hasHost", "(II)Z"⟩, 48) := ⟨⟨by decide +kernel, by decide +kernel⟩, List.mem_of_getElem? (i := 818) (by decide +kernel), List.mem_of_getElem? (i := 1118) (by decide +kernel), List.mem_of_getElem? (i := 1119) (by decide +kernel)⟩
theorem lw_p60 : lw_okq (⟨"SendRulesModel", "isEmpty", "()Z"⟩, 48) := ⟨⟨by decide +kernel, by decide +kernel⟩, List.mem_of_getElem? (i := 818) (by decide +kernel), List.mem_of_getElem? (i := 1122) (by decide +kernel), List.mem_of_getElem? (i := 1123) (by decide +kernel)⟩
theorem lw_p61 : lw_okq (⟨"SendRulesModel", "hostMany", "(I)I"⟩, 48) := ⟨⟨by decide +kernel, by decide +kernel⟩, List.mem_of_getElem? (i := 818) (by decide +kernel), List.mem_of_getElem? (i := 1126) (by decide +kernel), List.mem_of_getElem? (i := 1127) (by decide +kernel)⟩
theorem lw_p62 : lw_okq (⟨"SendRulesModel", "ends", "(II)I"⟩, 48) := ⟨⟨by decide +kernel, by decide +kernel⟩, List.mem_of_getElem? (i := 818) (by decide +kernel), List.mem_of_getElem? (i := 1130) (by decide +kernel), List.mem_of_getElem? (i := 1131) (by decide +kernel)⟩
theorem lw_p63 : lw_okq (⟨"SendRulesModel", "signAt", "(II)I"⟩, 48) := ⟨⟨by decide +kernel, by decide +kernel⟩, List.mem_of_getElem? (i := 818) (by decide +kernel), List.mem_of_getElem? (i := 1134) (by decide +kernel), List.mem_of_getElem? (i := 1135) (by decide +kernel)⟩
def lw_privs_4 : List (MethodName × Nat) := [(⟨"SendRulesModel", "isName", "(I)Z"⟩, 48), (⟨"SendRulesModel", "goes", "(III)I"⟩, 48), (⟨"SendRulesModel", "enters", "(I)Z"⟩, 48), (⟨"SendRulesModel", "looks", "()Z"⟩, 48), (⟨"SendRulesModel", "numberOf", "(I)I"⟩, 48), (⟨"SendRulesModel", "error", "()I"⟩, 48), (⟨"SendRulesModel", "ruleAt", "(II)I"⟩, 48), (⟨"SendRulesModel", "fits", "(I)I"⟩, 48), (⟨"SendRulesModel", "macroName", "(I)I"⟩, 48), (⟨"SendRulesModel", "spellsPart", "(I)V"⟩, 48), (⟨"SendRulesModel", "spells", "(I)V"⟩, 48), (⟨"SendRulesModel", "hasHost", "(II)Z"⟩, 48), (⟨"SendRulesModel", "isEmpty", "()Z"⟩, 48), (⟨"SendRulesModel", "hostMany", "(I)I"⟩, 48), (⟨"SendRulesModel", "ends", "(II)I"⟩, 48), (⟨"SendRulesModel", "signAt", "(II)I"⟩, 48)]
theorem lw_r4 : ∀ q ∈ lw_privs_4, lw_okq q := List.forall_mem_cons.mpr ⟨lw_p48, List.forall_mem_cons.mpr ⟨lw_p49, List.forall_mem_cons.mpr ⟨lw_p50, List.forall_mem_cons.mpr ⟨lw_p51, List.forall_mem_cons.mpr ⟨lw_p52, List.forall_mem_cons.mpr ⟨lw_p53, List.forall_mem_cons.mpr ⟨lw_p54, List.forall_mem_cons.mpr ⟨lw_p55, List.forall_mem_cons.mpr ⟨lw_p56, List.forall_mem_cons.mpr ⟨lw_p57, List.forall_mem_cons.mpr ⟨lw_p58, List.forall_mem_cons.mpr ⟨lw_p59, List.forall_mem_cons.mpr ⟨lw_p60, List.forall_mem_cons.mpr ⟨lw_p61, List.forall_mem_cons.mpr ⟨lw_p62, List.forall_mem_cons.mpr ⟨lw_p63, fun _ h => absurd h List.not_mem_nil⟩⟩⟩⟩⟩⟩⟩⟩⟩⟩⟩⟩⟩⟩⟩⟩
theorem lw_p64 : lw_okq (⟨"SendRulesModel", "isRule", "(II)Z"⟩, 48) := ⟨⟨by decide +kernel, by decide +kernel⟩, List.mem_of_getElem? (i := 818) (by decide +kernel), List.mem_of_getElem? (i := 1153) (by decide +kernel), List.mem_of_getElem? (i := 1154) (by decide +kernel)⟩
theorem lw_p65 : lw_okq (⟨"SendRulesModel", "keeps", "()V"⟩, 48) := ⟨⟨by decide +kernel, by decide +kernel⟩, List.mem_of_getElem? (i := 818) (by decide +kernel), List.mem_of_getElem? (i := 1157) (by decide +kernel), List.mem_of_getElem? (i := 1158) (by decide +kernel)⟩
theorem lw_p66 : lw_okq (⟨"SendRulesModel", "leadsOf", "(I)I"⟩, 48) := ⟨⟨by decide +kernel, by decide +kernel⟩, List.mem_of_getElem? (i := 818) (by decide +kernel), List.mem_of_getElem? (i := 1205) (by decide +kernel), List.mem_of_getElem? (i := 1206) (by decide +kernel)⟩
def lw_privs_5 : List (MethodName × Nat) := [(⟨"SendRulesModel", "isRule", "(II)Z"⟩, 48), (⟨"SendRulesModel", "keeps", "()V"⟩, 48), (⟨"SendRulesModel", "leadsOf", "(I)I"⟩, 48)]
theorem lw_r5 : ∀ q ∈ lw_privs_5, lw_okq q := List.forall_mem_cons.mpr ⟨lw_p64, List.forall_mem_cons.mpr ⟨lw_p65, List.forall_mem_cons.mpr ⟨lw_p66, fun _ h => absurd h List.not_mem_nil⟩⟩⟩
def lw_privs : List (MethodName × Nat) := lw_privs_1 ++ (lw_privs_2 ++ (lw_privs_3 ++ (lw_privs_4 ++ (lw_privs_5))))
def lw_tbl : List Cond := k2_sels lw_privs ++ tables_1
theorem lw_privs_ok : ∀ q ∈ lw_privs, lw_okq q := by
  show ∀ q ∈ lw_privs_1 ++ (lw_privs_2 ++ (lw_privs_3 ++ (lw_privs_4 ++ (lw_privs_5)))), lw_okq q
  exact List.forall_mem_append.mpr ⟨lw_r1, List.forall_mem_append.mpr ⟨lw_r2, List.forall_mem_append.mpr ⟨lw_r3, List.forall_mem_append.mpr ⟨lw_r4, lw_r5⟩⟩⟩⟩
def RX0 : String := "SendRules$Change"
def TX0 : u_T := fun k => match k with
  | 0 => ("SendRules$Change", "kind", "I", false)
  | 1 => ("SendRules$Change", "name", "I", false)
  | 2 => ("SendRules$Change", "place", "I", false)
  | _ => ("SendRules$Change", "value", "I", false)
def tyX0 : Nat → FieldType := fun k => match k with
  | 0 => .int
  | 1 => .int
  | 2 => .int
  | _ => .int
theorem nmX0 : ∀ a, a < 4 → ∀ b, b < 4 → a ≠ b → (TX0 a).2.1 ≠ (TX0 b).2.1 := by decide +kernel
theorem tyX0_ok : ∀ k, k < 4 → parseFieldDescriptor (TX0 k).2.2.1 = some (tyX0 k) := by decide +kernel
abbrev cX0_init : ByteArray := prog_2_method_1_code
def yX0_init : MethodName := ⟨RX0, "<init>", "()V"⟩
def RX1 : String := "SendRules$Domain"
def TX1 : u_T := fun k => match k with
  | 0 => ("SendRules$Domain", "code", "I", false)
  | 1 => ("SendRules$Domain", "fromEnd", "[I", true)
  | 2 => ("SendRules$Domain", "length", "I", false)
  | 3 => ("SendRules$Domain", "hasPolicy", "Z", false)
  | 4 => ("SendRules$Domain", "rules", "[LSendRules$Rule;", true)
  | 5 => ("SendRules$Domain", "ruleCount", "I", false)
  | 6 => ("SendRules$Domain", "redirect", "I", false)
  | 7 => ("SendRules$Domain", "hosts", "[I", true)
  | 8 => ("SendRules$Domain", "hostCount", "I", false)
  | 9 => ("SendRules$Domain", "exchangers", "[I", true)
  | _ => ("SendRules$Domain", "exchangerCount", "I", false)
def tyX1 : Nat → FieldType := fun k => match k with
  | 0 => .int
  | 1 => .array .int
  | 2 => .int
  | 3 => .boolean
  | 4 => .array (.object "SendRules$Rule")
  | 5 => .int
  | 6 => .int
  | 7 => .array .int
  | 8 => .int
  | 9 => .array .int
  | _ => .int
theorem nmX1 : ∀ a, a < 11 → ∀ b, b < 11 → a ≠ b → (TX1 a).2.1 ≠ (TX1 b).2.1 := by decide +kernel
theorem tyX1_ok : ∀ k, k < 11 → parseFieldDescriptor (TX1 k).2.2.1 = some (tyX1 k) := by decide +kernel
abbrev cX1_init : ByteArray := prog_3_method_1_code
def yX1_init : MethodName := ⟨RX1, "<init>", "()V"⟩
abbrev cX1_start : ByteArray := prog_3_method_2_code
def yX1_start : MethodName := ⟨RX1, "start", "(I)V"⟩
abbrev cX1_startPolicy : ByteArray := prog_3_method_3_code
def yX1_startPolicy : MethodName := ⟨RX1, "startPolicy", "()V"⟩
abbrev cX1_addRule : ByteArray := prog_3_method_4_code
def yX1_addRule : MethodName := ⟨RX1, "addRule", "()LSendRules$Rule;"⟩
abbrev cX1_ruleAt : ByteArray := prog_3_method_5_code
def yX1_ruleAt : MethodName := ⟨RX1, "ruleAt", "(I)LSendRules$Rule;"⟩
abbrev cX1_swapRules : ByteArray := prog_3_method_6_code
def yX1_swapRules : MethodName := ⟨RX1, "swapRules", "(I)Z"⟩
abbrev cX1_placeOfHost : ByteArray := prog_3_method_7_code
def yX1_placeOfHost : MethodName := ⟨RX1, "placeOfHost", "(I)I"⟩
abbrev cX1_insertHost : ByteArray := prog_3_method_8_code
def yX1_insertHost : MethodName := ⟨RX1, "insertHost", "(II)Z"⟩
abbrev cX1_removeHost : ByteArray := prog_3_method_9_code
def yX1_removeHost : MethodName := ⟨RX1, "removeHost", "(I)V"⟩
abbrev cX1_addExchanger : ByteArray := prog_3_method_10_code
def yX1_addExchanger : MethodName := ⟨RX1, "addExchanger", "(I)Z"⟩
def RX2 : String := "SendRules$Evaluator"
def TX2 : u_T := fun k => match k with
  | 0 => ("SendRules$Evaluator", "records", "LSendRules$Records;", false)
  | 1 => ("SendRules$Evaluator", "origin", "LSendRules$Domain;", false)
  | 2 => ("SendRules$Evaluator", "address", "I", false)
  | 3 => ("SendRules$Evaluator", "letter", "I", false)
  | 4 => ("SendRules$Evaluator", "lookupCount", "I", false)
  | 5 => ("SendRules$Evaluator", "emptyCount", "I", false)
  | 6 => ("SendRules$Evaluator", "ended", "Z", false)
  | 7 => ("SendRules$Evaluator", "decidingName", "I", false)
  | 8 => ("SendRules$Evaluator", "decidingRule", "I", false)
  | _ => ("SendRules$Evaluator", "maker", "LSendRules$NameMaker;", true)
def tyX2 : Nat → FieldType := fun k => match k with
  | 0 => .object "SendRules$Records"
  | 1 => .object "SendRules$Domain"
  | 2 => .int
  | 3 => .int
  | 4 => .int
  | 5 => .int
  | 6 => .boolean
  | 7 => .int
  | 8 => .int
  | _ => .object "SendRules$NameMaker"
theorem nmX2 : ∀ a, a < 10 → ∀ b, b < 10 → a ≠ b → (TX2 a).2.1 ≠ (TX2 b).2.1 := by decide +kernel
theorem tyX2_ok : ∀ k, k < 10 → parseFieldDescriptor (TX2 k).2.2.1 = some (tyX2 k) := by decide +kernel
abbrev cX2_init : ByteArray := prog_4_method_1_code
def yX2_init : MethodName := ⟨RX2, "<init>", "()V"⟩
abbrev cX2_evaluate : ByteArray := prog_4_method_2_code
def yX2_evaluate : MethodName := ⟨RX2, "evaluate", "(LSendRules$Records;III)I"⟩
abbrev cX2_resultOf : ByteArray := prog_4_method_3_code
def yX2_resultOf : MethodName := ⟨RX2, "resultOf", "(II)I"⟩
abbrev cX2_decide : ByteArray := prog_4_method_4_code
def yX2_decide : MethodName := ⟨RX2, "decide", "(III)I"⟩
abbrev cX2_resultOfSign : ByteArray := prog_4_method_5_code
def yX2_resultOfSign : MethodName := ⟨RX2, "resultOfSign", "(I)I"⟩
abbrev cX2_endWithError : ByteArray := prog_4_method_6_code
def yX2_endWithError : MethodName := ⟨RX2, "endWithError", "()I"⟩
abbrev cX2_lookUp : ByteArray := prog_4_method_7_code
def yX2_lookUp : MethodName := ⟨RX2, "lookUp", "()Z"⟩
abbrev cX2_findEmpty : ByteArray := prog_4_method_8_code
def yX2_findEmpty : MethodName := ⟨RX2, "findEmpty", "()V"⟩
abbrev cX2_matches : ByteArray := prog_4_method_9_code
def yX2_matches : MethodName := ⟨RX2, "matches", "(LSendRules$Rule;LSendRules$Domain;I)Z"⟩
abbrev cX2_includeMatches : ByteArray := prog_4_method_10_code
def yX2_includeMatches : MethodName := ⟨RX2, "includeMatches", "(LSendRules$Rule;I)Z"⟩
abbrev cX2_hostMatches : ByteArray := prog_4_method_11_code
def yX2_hostMatches : MethodName := ⟨RX2, "hostMatches", "(LSendRules$Rule;)Z"⟩
abbrev cX2_mailMatches : ByteArray := prog_4_method_12_code
def yX2_mailMatches : MethodName := ⟨RX2, "mailMatches", "(LSendRules$Rule;)Z"⟩
abbrev cX2_existsMatches : ByteArray := prog_4_method_13_code
def yX2_existsMatches : MethodName := ⟨RX2, "existsMatches", "(LSendRules$Rule;LSendRules$Domain;)Z"⟩
abbrev cX2_putPart : ByteArray := prog_4_method_14_code
def yX2_putPart : MethodName := ⟨RX2, "putPart", "(ILSendRules$Domain;)V"⟩
abbrev cX2_sizeOf : ByteArray := prog_4_method_15_code
def yX2_sizeOf : MethodName := ⟨RX2, "sizeOf", "(ILSendRules$Domain;)I"⟩
abbrev cX2_fromEndOf : ByteArray := prog_4_method_16_code
def yX2_fromEndOf : MethodName := ⟨RX2, "fromEndOf", "(ILSendRules$Domain;I)I"⟩
def RX3 : String := "SendRules$History"
def TX3 : u_T := fun k => match k with
  | 0 => ("SendRules$History", "changes", "[LSendRules$Change;", true)
  | _ => ("SendRules$History", "size", "I", false)
def tyX3 : Nat → FieldType := fun k => match k with
  | 0 => .array (.object "SendRules$Change")
  | _ => .int
theorem nmX3 : ∀ a, a < 2 → ∀ b, b < 2 → a ≠ b → (TX3 a).2.1 ≠ (TX3 b).2.1 := by decide +kernel
theorem tyX3_ok : ∀ k, k < 2 → parseFieldDescriptor (TX3 k).2.2.1 = some (tyX3 k) := by decide +kernel
abbrev cX3_init : ByteArray := prog_5_method_1_code
def yX3_init : MethodName := ⟨RX3, "<init>", "()V"⟩
abbrev cX3_clear : ByteArray := prog_5_method_2_code
def yX3_clear : MethodName := ⟨RX3, "clear", "()V"⟩
abbrev cX3_add : ByteArray := prog_5_method_3_code
def yX3_add : MethodName := ⟨RX3, "add", "()LSendRules$Change;"⟩
abbrev cX3_takeLatest : ByteArray := prog_5_method_4_code
def yX3_takeLatest : MethodName := ⟨RX3, "takeLatest", "()LSendRules$Change;"⟩
def RX4 : String := "SendRules$KeptCheck"
def TX4 : u_T := fun k => match k with
  | _ => ("SendRules$KeptCheck", "values", "[I", true)
def tyX4 : Nat → FieldType := fun k => match k with
  | _ => .array .int
theorem nmX4 : ∀ a, a < 1 → ∀ b, b < 1 → a ≠ b → (TX4 a).2.1 ≠ (TX4 b).2.1 := by decide +kernel
theorem tyX4_ok : ∀ k, k < 1 → parseFieldDescriptor (TX4 k).2.2.1 = some (tyX4 k) := by decide +kernel
abbrev cX4_init : ByteArray := prog_6_method_1_code
def yX4_init : MethodName := ⟨RX4, "<init>", "()V"⟩
abbrev cX4_isOf : ByteArray := prog_6_method_2_code
def yX4_isOf : MethodName := ⟨RX4, "isOf", "(III)Z"⟩
def RX5 : String := "SendRules$KeptChecks"
def TX5 : u_T := fun k => match k with
  | 0 => ("SendRules$KeptChecks", "checks", "[LSendRules$KeptCheck;", true)
  | _ => ("SendRules$KeptChecks", "size", "I", false)
def tyX5 : Nat → FieldType := fun k => match k with
  | 0 => .array (.object "SendRules$KeptCheck")
  | _ => .int
theorem nmX5 : ∀ a, a < 2 → ∀ b, b < 2 → a ≠ b → (TX5 a).2.1 ≠ (TX5 b).2.1 := by decide +kernel
theorem tyX5_ok : ∀ k, k < 2 → parseFieldDescriptor (TX5 k).2.2.1 = some (tyX5 k) := by decide +kernel
abbrev cX5_init : ByteArray := prog_7_method_1_code
def yX5_init : MethodName := ⟨RX5, "<init>", "()V"⟩
abbrev cX5_clear : ByteArray := prog_7_method_2_code
def yX5_clear : MethodName := ⟨RX5, "clear", "()V"⟩
abbrev cX5_valueOf : ByteArray := prog_7_method_3_code
def yX5_valueOf : MethodName := ⟨RX5, "valueOf", "(II)I"⟩
abbrev cX5_keep : ByteArray := prog_7_method_4_code
def yX5_keep : MethodName := ⟨RX5, "keep", "(LSendRules$Evaluator;II)V"⟩
abbrev cX5_placeFor : ByteArray := prog_7_method_5_code
def yX5_placeFor : MethodName := ⟨RX5, "placeFor", "(III)LSendRules$KeptCheck;"⟩
def RX6 : String := "SendRules$NameMaker"
def TX6 : u_T := fun k => match k with
  | 0 => ("SendRules$NameMaker", "code", "I", false)
  | _ => ("SendRules$NameMaker", "length", "I", false)
def tyX6 : Nat → FieldType := fun k => match k with
  | 0 => .int
  | _ => .int
theorem nmX6 : ∀ a, a < 2 → ∀ b, b < 2 → a ≠ b → (TX6 a).2.1 ≠ (TX6 b).2.1 := by decide +kernel
theorem tyX6_ok : ∀ k, k < 2 → parseFieldDescriptor (TX6 k).2.2.1 = some (tyX6 k) := by decide +kernel
abbrev cX6_init : ByteArray := prog_8_method_1_code
def yX6_init : MethodName := ⟨RX6, "<init>", "()V"⟩
abbrev cX6_clear : ByteArray := prog_8_method_2_code
def yX6_clear : MethodName := ⟨RX6, "clear", "()V"⟩
abbrev cX6_putBefore : ByteArray := prog_8_method_3_code
def yX6_putBefore : MethodName := ⟨RX6, "putBefore", "(I)V"⟩
abbrev cX6_finished : ByteArray := prog_8_method_4_code
def yX6_finished : MethodName := ⟨RX6, "finished", "()I"⟩
def RX7 : String := "SendRules$Reader"
def TX7 : u_T := fun k => match k with
  | 0 => ("SendRules$Reader", "text", "[C", true)
  | 1 => ("SendRules$Reader", "length", "I", false)
  | 2 => ("SendRules$Reader", "at", "I", false)
  | _ => ("SendRules$Reader", "maker", "LSendRules$NameMaker;", true)
def tyX7 : Nat → FieldType := fun k => match k with
  | 0 => .array .char
  | 1 => .int
  | 2 => .int
  | _ => .object "SendRules$NameMaker"
theorem nmX7 : ∀ a, a < 4 → ∀ b, b < 4 → a ≠ b → (TX7 a).2.1 ≠ (TX7 b).2.1 := by decide +kernel
theorem tyX7_ok : ∀ k, k < 4 → parseFieldDescriptor (TX7 k).2.2.1 = some (tyX7 k) := by decide +kernel
abbrev cX7_init : ByteArray := prog_9_method_1_code
def yX7_init : MethodName := ⟨RX7, "<init>", "()V"⟩
abbrev cX7_append : ByteArray := prog_9_method_2_code
def yX7_append : MethodName := ⟨RX7, "append", "(C)Z"⟩
abbrev cX7_empty : ByteArray := prog_9_method_3_code
def yX7_empty : MethodName := ⟨RX7, "empty", "()V"⟩
abbrev cX7_readAll : ByteArray := prog_9_method_4_code
def yX7_readAll : MethodName := ⟨RX7, "readAll", "(LSendRules$Records;)I"⟩
abbrev cX7_readWholeAsName : ByteArray := prog_9_method_5_code
def yX7_readWholeAsName : MethodName := ⟨RX7, "readWholeAsName", "()I"⟩
abbrev cX7_peek : ByteArray := prog_9_method_6_code
def yX7_peek : MethodName := ⟨RX7, "peek", "()C"⟩
abbrev cX7_next : ByteArray := prog_9_method_7_code
def yX7_next : MethodName := ⟨RX7, "next", "()C"⟩
abbrev cX7_take : ByteArray := prog_9_method_8_code
def yX7_take : MethodName := ⟨RX7, "take", "(C)Z"⟩
abbrev cX7_readItem : ByteArray := prog_9_method_9_code
def yX7_readItem : MethodName := ⟨RX7, "readItem", "(LSendRules$Records;)Z"⟩
abbrev cX7_readPolicy : ByteArray := prog_9_method_10_code
def yX7_readPolicy : MethodName := ⟨RX7, "readPolicy", "(LSendRules$Domain;)Z"⟩
abbrev cX7_readHosts : ByteArray := prog_9_method_11_code
def yX7_readHosts : MethodName := ⟨RX7, "readHosts", "(LSendRules$Domain;)Z"⟩
abbrev cX7_readExchangers : ByteArray := prog_9_method_12_code
def yX7_readExchangers : MethodName := ⟨RX7, "readExchangers", "(LSendRules$Domain;)Z"⟩
abbrev cX7_readRule : ByteArray := prog_9_method_13_code
def yX7_readRule : MethodName := ⟨RX7, "readRule", "(LSendRules$Rule;)Z"⟩
abbrev cX7_readPrefix : ByteArray := prog_9_method_14_code
def yX7_readPrefix : MethodName := ⟨RX7, "readPrefix", "(LSendRules$Rule;)Z"⟩
abbrev cX7_readMacro : ByteArray := prog_9_method_15_code
def yX7_readMacro : MethodName := ⟨RX7, "readMacro", "(LSendRules$Rule;)Z"⟩
abbrev cX7_readPart : ByteArray := prog_9_method_16_code
def yX7_readPart : MethodName := ⟨RX7, "readPart", "()I"⟩
abbrev cX7_readName : ByteArray := prog_9_method_17_code
def yX7_readName : MethodName := ⟨RX7, "readName", "()I"⟩
abbrev cX7_readNumber : ByteArray := prog_9_method_18_code
def yX7_readNumber : MethodName := ⟨RX7, "readNumber", "(I)I"⟩
def RX8 : String := "SendRules$Records"
def TX8 : u_T := fun k => match k with
  | 0 => ("SendRules$Records", "domains", "[LSendRules$Domain;", true)
  | _ => ("SendRules$Records", "size", "I", false)
def tyX8 : Nat → FieldType := fun k => match k with
  | 0 => .array (.object "SendRules$Domain")
  | _ => .int
theorem nmX8 : ∀ a, a < 2 → ∀ b, b < 2 → a ≠ b → (TX8 a).2.1 ≠ (TX8 b).2.1 := by decide +kernel
theorem tyX8_ok : ∀ k, k < 2 → parseFieldDescriptor (TX8 k).2.2.1 = some (tyX8 k) := by decide +kernel
abbrev cX8_init : ByteArray := prog_10_method_1_code
def yX8_init : MethodName := ⟨RX8, "<init>", "()V"⟩
abbrev cX8_clear : ByteArray := prog_10_method_2_code
def yX8_clear : MethodName := ⟨RX8, "clear", "()V"⟩
abbrev cX8_domainAt : ByteArray := prog_10_method_3_code
def yX8_domainAt : MethodName := ⟨RX8, "domainAt", "(I)LSendRules$Domain;"⟩
abbrev cX8_firstNotBefore : ByteArray := prog_10_method_4_code
def yX8_firstNotBefore : MethodName := ⟨RX8, "firstNotBefore", "(I)I"⟩
abbrev cX8_find : ByteArray := prog_10_method_5_code
def yX8_find : MethodName := ⟨RX8, "find", "(I)I"⟩
abbrev cX8_domainOf : ByteArray := prog_10_method_6_code
def yX8_domainOf : MethodName := ⟨RX8, "domainOf", "(I)LSendRules$Domain;"⟩
abbrev cX8_findOrAdd : ByteArray := prog_10_method_7_code
def yX8_findOrAdd : MethodName := ⟨RX8, "findOrAdd", "(I)LSendRules$Domain;"⟩
abbrev cX8_policies : ByteArray := prog_10_method_8_code
def yX8_policies : MethodName := ⟨RX8, "policies", "()I"⟩
abbrev cX8_rules : ByteArray := prog_10_method_9_code
def yX8_rules : MethodName := ⟨RX8, "rules", "()I"⟩
abbrev cX8_hosts : ByteArray := prog_10_method_10_code
def yX8_hosts : MethodName := ⟨RX8, "hosts", "()I"⟩
abbrev cX8_directlyLedTo : ByteArray := prog_10_method_11_code
def yX8_directlyLedTo : MethodName := ⟨RX8, "directlyLedTo", "(I)I"⟩
abbrev cX8_bitIfPolicy : ByteArray := prog_10_method_12_code
def yX8_bitIfPolicy : MethodName := ⟨RX8, "bitIfPolicy", "(I)I"⟩
def RX9 : String := "SendRules$Rule"
def TX9 : u_T := fun k => match k with
  | 0 => ("SendRules$Rule", "sign", "I", false)
  | 1 => ("SendRules$Rule", "kind", "I", false)
  | 2 => ("SendRules$Rule", "address", "I", false)
  | 3 => ("SendRules$Rule", "bits", "I", false)
  | 4 => ("SendRules$Rule", "target", "I", false)
  | 5 => ("SendRules$Rule", "parts", "[I", true)
  | _ => ("SendRules$Rule", "partCount", "I", false)
def tyX9 : Nat → FieldType := fun k => match k with
  | 0 => .int
  | 1 => .int
  | 2 => .int
  | 3 => .int
  | 4 => .int
  | 5 => .array .int
  | _ => .int
theorem nmX9 : ∀ a, a < 7 → ∀ b, b < 7 → a ≠ b → (TX9 a).2.1 ≠ (TX9 b).2.1 := by decide +kernel
theorem tyX9_ok : ∀ k, k < 7 → parseFieldDescriptor (TX9 k).2.2.1 = some (tyX9 k) := by decide +kernel
abbrev cX9_init : ByteArray := prog_11_method_1_code
def yX9_init : MethodName := ⟨RX9, "<init>", "()V"⟩
abbrev cX9_start : ByteArray := prog_11_method_2_code
def yX9_start : MethodName := ⟨RX9, "start", "(II)V"⟩
abbrev cX9_hasPrefixOf : ByteArray := prog_11_method_3_code
def yX9_hasPrefixOf : MethodName := ⟨RX9, "hasPrefixOf", "(I)Z"⟩
def RX10 : String := "SendRules"
def TX10 : u_T := fun k => match k with
  | 0 => ("SendRules", "reader", "LSendRules$Reader;", true)
  | 1 => ("SendRules", "present", "LSendRules$Records;", false)
  | 2 => ("SendRules", "spare", "LSendRules$Records;", false)
  | 3 => ("SendRules", "evaluator", "LSendRules$Evaluator;", true)
  | 4 => ("SendRules", "keptChecks", "LSendRules$KeptChecks;", true)
  | _ => ("SendRules", "history", "LSendRules$History;", true)
def tyX10 : Nat → FieldType := fun k => match k with
  | 0 => .object "SendRules$Reader"
  | 1 => .object "SendRules$Records"
  | 2 => .object "SendRules$Records"
  | 3 => .object "SendRules$Evaluator"
  | 4 => .object "SendRules$KeptChecks"
  | _ => .object "SendRules$History"
theorem nmX10 : ∀ a, a < 6 → ∀ b, b < 6 → a ≠ b → (TX10 a).2.1 ≠ (TX10 b).2.1 := by decide +kernel
theorem tyX10_ok : ∀ k, k < 6 → parseFieldDescriptor (TX10 k).2.2.1 = some (tyX10 k) := by decide +kernel
abbrev cX10_init : ByteArray := prog_1_method_1_code
def yX10_init : MethodName := ⟨RX10, "<init>", "()V"⟩
abbrev cX10_write : ByteArray := prog_1_method_2_code
def yX10_write : MethodName := ⟨RX10, "write", "(I)I"⟩
abbrev cX10_wipe : ByteArray := prog_1_method_3_code
def yX10_wipe : MethodName := ⟨RX10, "wipe", "()I"⟩
abbrev cX10_fault : ByteArray := prog_1_method_4_code
def yX10_fault : MethodName := ⟨RX10, "fault", "()I"⟩
abbrev cX10_lay : ByteArray := prog_1_method_5_code
def yX10_lay : MethodName := ⟨RX10, "lay", "()I"⟩
abbrev cX10_named : ByteArray := prog_1_method_6_code
def yX10_named : MethodName := ⟨RX10, "named", "(I)I"⟩
abbrev cX10_check : ByteArray := prog_1_method_7_code
def yX10_check : MethodName := ⟨RX10, "check", "(III)I"⟩
abbrev cX10_kept : ByteArray := prog_1_method_8_code
def yX10_kept : MethodName := ⟨RX10, "kept", "(II)I"⟩
abbrev cX10_sign : ByteArray := prog_1_method_9_code
def yX10_sign : MethodName := ⟨RX10, "sign", "(III)I"⟩
abbrev cX10_swap : ByteArray := prog_1_method_10_code
def yX10_swap : MethodName := ⟨RX10, "swap", "(II)I"⟩
abbrev cX10_host : ByteArray := prog_1_method_11_code
def yX10_host : MethodName := ⟨RX10, "host", "(III)I"⟩
abbrev cX10_undo : ByteArray := prog_1_method_12_code
def yX10_undo : MethodName := ⟨RX10, "undo", "()I"⟩
abbrev cX10_name : ByteArray := prog_1_method_13_code
def yX10_name : MethodName := ⟨RX10, "name", "(II)I"⟩
abbrev cX10_letter : ByteArray := prog_1_method_14_code
def yX10_letter : MethodName := ⟨RX10, "letter", "(II)I"⟩
abbrev cX10_rule : ByteArray := prog_1_method_15_code
def yX10_rule : MethodName := ⟨RX10, "rule", "(III)I"⟩
abbrev cX10_hostOf : ByteArray := prog_1_method_16_code
def yX10_hostOf : MethodName := ⟨RX10, "hostOf", "(II)I"⟩
abbrev cX10_many : ByteArray := prog_1_method_17_code
def yX10_many : MethodName := ⟨RX10, "many", "(III)I"⟩
abbrev cX10_dead : ByteArray := prog_1_method_18_code
def yX10_dead : MethodName := ⟨RX10, "dead", "(II)I"⟩
abbrev cX10_lookups : ByteArray := prog_1_method_19_code
def yX10_lookups : MethodName := ⟨RX10, "lookups", "(IIII)I"⟩
abbrev cX10_leads : ByteArray := prog_1_method_20_code
def yX10_leads : MethodName := ⟨RX10, "leads", "(I)I"⟩
abbrev cX10_count : ByteArray := prog_1_method_21_code
def yX10_count : MethodName := ⟨RX10, "count", "(I)I"⟩
abbrev cX10_isKnown : ByteArray := prog_1_method_22_code
def yX10_isKnown : MethodName := ⟨RX10, "isKnown", "(I)Z"⟩
abbrev cX10_isAddress : ByteArray := prog_1_method_23_code
def yX10_isAddress : MethodName := ⟨RX10, "isAddress", "(I)Z"⟩
abbrev cX10_isLetter : ByteArray := prog_1_method_24_code
def yX10_isLetter : MethodName := ⟨RX10, "isLetter", "(I)Z"⟩
abbrev cX10_ruleAt : ByteArray := prog_1_method_25_code
def yX10_ruleAt : MethodName := ⟨RX10, "ruleAt", "(II)LSendRules$Rule;"⟩
abbrev cX10_numberOrNone : ByteArray := prog_1_method_26_code
def yX10_numberOrNone : MethodName := ⟨RX10, "numberOrNone", "(I)I"⟩
abbrev cX10_noteChange : ByteArray := prog_1_method_27_code
def yX10_noteChange : MethodName := ⟨RX10, "noteChange", "(IIII)V"⟩
abbrev cX10_takeBack : ByteArray := prog_1_method_28_code
def yX10_takeBack : MethodName := ⟨RX10, "takeBack", "(LSendRules$Change;)V"⟩
abbrev cX10_floatBitsOfMean : ByteArray := prog_1_method_29_code
def yX10_floatBitsOfMean : MethodName := ⟨RX10, "floatBitsOfMean", "(I)I"⟩
def RX11 : String := "SendRulesModel"
def TX11 : u_T := fun k => match k with
  | 0 => ("SendRulesModel", "length", "I", false)
  | 1 => ("SendRulesModel", "text", "[I", true)
  | 2 => ("SendRulesModel", "names", "I", false)
  | 3 => ("SendRulesModel", "key", "[I", true)
  | 4 => ("SendRulesModel", "rules", "[I", true)
  | 5 => ("SendRulesModel", "another", "[I", true)
  | 6 => ("SendRulesModel", "exchangers", "[I", true)
  | 7 => ("SendRulesModel", "exchanger", "[I", true)
  | 8 => ("SendRulesModel", "kind", "[I", true)
  | 9 => ("SendRulesModel", "address", "[I", true)
  | 10 => ("SendRulesModel", "bits", "[I", true)
  | 11 => ("SendRulesModel", "nameOf", "[I", true)
  | 12 => ("SendRulesModel", "parts", "[I", true)
  | 13 => ("SendRulesModel", "part", "[I", true)
  | 14 => ("SendRulesModel", "now", "[I", true)
  | 15 => ("SendRulesModel", "was", "[I", true)
  | 16 => ("SendRulesModel", "changes", "I", false)
  | 17 => ("SendRulesModel", "readNames", "I", false)
  | 18 => ("SendRulesModel", "readKey", "[I", true)
  | 19 => ("SendRulesModel", "readRules", "[I", true)
  | 20 => ("SendRulesModel", "readAnother", "[I", true)
  | 21 => ("SendRulesModel", "readExchangers", "[I", true)
  | 22 => ("SendRulesModel", "readExchanger", "[I", true)
  | 23 => ("SendRulesModel", "readKind", "[I", true)
  | 24 => ("SendRulesModel", "readAddress", "[I", true)
  | 25 => ("SendRulesModel", "readBits", "[I", true)
  | 26 => ("SendRulesModel", "readName", "[I", true)
  | 27 => ("SendRulesModel", "readParts", "[I", true)
  | 28 => ("SendRulesModel", "readPart", "[I", true)
  | 29 => ("SendRulesModel", "readSign", "[I", true)
  | 30 => ("SendRulesModel", "readHosts", "[I", true)
  | 31 => ("SendRulesModel", "readHost", "[I", true)
  | 32 => ("SendRulesModel", "at", "I", false)
  | 33 => ("SendRulesModel", "value", "I", false)
  | 34 => ("SendRulesModel", "kept", "I", false)
  | 35 => ("SendRulesModel", "row", "[I", true)
  | 36 => ("SendRulesModel", "asked", "I", false)
  | 37 => ("SendRulesModel", "whence", "I", false)
  | 38 => ("SendRulesModel", "sign", "I", false)
  | 39 => ("SendRulesModel", "lookups", "I", false)
  | 40 => ("SendRulesModel", "empties", "I", false)
  | 41 => ("SendRulesModel", "decidedName", "I", false)
  | 42 => ("SendRulesModel", "decidedRule", "I", false)
  | 43 => ("SendRulesModel", "tried", "[I", true)
  | 44 => ("SendRulesModel", "which", "[I", true)
  | 45 => ("SendRulesModel", "deep", "I", false)
  | 46 => ("SendRulesModel", "letters", "[I", true)
  | _ => ("SendRulesModel", "letterMany", "I", false)
def tyX11 : Nat → FieldType := fun k => match k with
  | 0 => .int
  | 1 => .array .int
  | 2 => .int
  | 3 => .array .int
  | 4 => .array .int
  | 5 => .array .int
  | 6 => .array .int
  | 7 => .array .int
  | 8 => .array .int
  | 9 => .array .int
  | 10 => .array .int
  | 11 => .array .int
  | 12 => .array .int
  | 13 => .array .int
  | 14 => .array .int
  | 15 => .array .int
  | 16 => .int
  | 17 => .int
  | 18 => .array .int
  | 19 => .array .int
  | 20 => .array .int
  | 21 => .array .int
  | 22 => .array .int
  | 23 => .array .int
  | 24 => .array .int
  | 25 => .array .int
  | 26 => .array .int
  | 27 => .array .int
  | 28 => .array .int
  | 29 => .array .int
  | 30 => .array .int
  | 31 => .array .int
  | 32 => .int
  | 33 => .int
  | 34 => .int
  | 35 => .array .int
  | 36 => .int
  | 37 => .int
  | 38 => .int
  | 39 => .int
  | 40 => .int
  | 41 => .int
  | 42 => .int
  | 43 => .array .int
  | 44 => .array .int
  | 45 => .int
  | 46 => .array .int
  | _ => .int
theorem nmX11 : ∀ a, a < 48 → ∀ b, b < 48 → a ≠ b → (TX11 a).2.1 ≠ (TX11 b).2.1 := by decide +kernel
theorem tyX11_ok : ∀ k, k < 48 → parseFieldDescriptor (TX11 k).2.2.1 = some (tyX11 k) := by decide +kernel
abbrev cX11_init : ByteArray := prog_13_method_1_code
def yX11_init : MethodName := ⟨RX11, "<init>", "()V"⟩
abbrev cX11_tells : ByteArray := prog_13_method_2_code
def yX11_tells : MethodName := ⟨RX11, "tells", "(IIIII)V"⟩
abbrev cX11_isIn : ByteArray := prog_13_method_3_code
def yX11_isIn : MethodName := ⟨RX11, "isIn", "(III)Z"⟩
abbrev cX11_longer : ByteArray := prog_13_method_4_code
def yX11_longer : MethodName := ⟨RX11, "longer", "(II)I"⟩
abbrev cX11_lettersOf : ByteArray := prog_13_method_5_code
def yX11_lettersOf : MethodName := ⟨RX11, "lettersOf", "(I)I"⟩
abbrev cX11_fromLast : ByteArray := prog_13_method_6_code
def yX11_fromLast : MethodName := ⟨RX11, "fromLast", "(II)I"⟩
abbrev cX11_numberOf : ByteArray := prog_13_method_7_code
def yX11_numberOf : MethodName := ⟨RX11, "numberOf", "(I)I"⟩
abbrev cX11_next : ByteArray := prog_13_method_8_code
def yX11_next : MethodName := ⟨RX11, "next", "()I"⟩
abbrev cX11_comes : ByteArray := prog_13_method_9_code
def yX11_comes : MethodName := ⟨RX11, "comes", "(I)Z"⟩
abbrev cX11_readsName : ByteArray := prog_13_method_10_code
def yX11_readsName : MethodName := ⟨RX11, "readsName", "()Z"⟩
abbrev cX11_number : ByteArray := prog_13_method_11_code
def yX11_number : MethodName := ⟨RX11, "number", "(I)Z"⟩
abbrev cX11_slotOf : ByteArray := prog_13_method_12_code
def yX11_slotOf : MethodName := ⟨RX11, "slotOf", "(I)I"⟩
abbrev cX11_sortOf : ByteArray := prog_13_method_13_code
def yX11_sortOf : MethodName := ⟨RX11, "sortOf", "(I)I"⟩
abbrev cX11_readsPart : ByteArray := prog_13_method_14_code
def yX11_readsPart : MethodName := ⟨RX11, "readsPart", "()Z"⟩
abbrev cX11_macro : ByteArray := prog_13_method_15_code
def yX11_macro : MethodName := ⟨RX11, "macro", "(I)Z"⟩
abbrev cX11_asks : ByteArray := prog_13_method_16_code
def yX11_asks : MethodName := ⟨RX11, "asks", "(I)Z"⟩
abbrev cX11_signOf : ByteArray := prog_13_method_17_code
def yX11_signOf : MethodName := ⟨RX11, "signOf", "(I)I"⟩
abbrev cX11_rulesOf : ByteArray := prog_13_method_18_code
def yX11_rulesOf : MethodName := ⟨RX11, "rulesOf", "(I)Z"⟩
abbrev cX11_hostsOf : ByteArray := prog_13_method_19_code
def yX11_hostsOf : MethodName := ⟨RX11, "hostsOf", "(I)Z"⟩
abbrev cX11_exchangersOf : ByteArray := prog_13_method_20_code
def yX11_exchangersOf : MethodName := ⟨RX11, "exchangersOf", "(I)Z"⟩
abbrev cX11_item : ByteArray := prog_13_method_21_code
def yX11_item : MethodName := ⟨RX11, "item", "()Z"⟩
abbrev cX11_reads : ByteArray := prog_13_method_22_code
def yX11_reads : MethodName := ⟨RX11, "reads", "()I"⟩
abbrev cX11_write : ByteArray := prog_13_method_23_code
def yX11_write : MethodName := ⟨RX11, "write", "(I)I"⟩
abbrev cX11_wipe : ByteArray := prog_13_method_24_code
def yX11_wipe : MethodName := ⟨RX11, "wipe", "()I"⟩
abbrev cX11_fault : ByteArray := prog_13_method_25_code
def yX11_fault : MethodName := ⟨RX11, "fault", "()I"⟩
abbrev cX11_takes : ByteArray := prog_13_method_26_code
def yX11_takes : MethodName := ⟨RX11, "takes", "(II)V"⟩
abbrev cX11_lay : ByteArray := prog_13_method_27_code
def yX11_lay : MethodName := ⟨RX11, "lay", "()I"⟩
abbrev cX11_named : ByteArray := prog_13_method_28_code
def yX11_named : MethodName := ⟨RX11, "named", "(I)I"⟩
abbrev cX11_looks : ByteArray := prog_13_method_29_code
def yX11_looks : MethodName := ⟨RX11, "looks", "()Z"⟩
abbrev cX11_isEmpty : ByteArray := prog_13_method_30_code
def yX11_isEmpty : MethodName := ⟨RX11, "isEmpty", "()Z"⟩
abbrev cX11_hasHost : ByteArray := prog_13_method_31_code
def yX11_hasHost : MethodName := ⟨RX11, "hasHost", "(II)Z"⟩
abbrev cX11_hostMany : ByteArray := prog_13_method_32_code
def yX11_hostMany : MethodName := ⟨RX11, "hostMany", "(I)I"⟩
abbrev cX11_spells : ByteArray := prog_13_method_33_code
def yX11_spells : MethodName := ⟨RX11, "spells", "(I)V"⟩
abbrev cX11_spellsPart : ByteArray := prog_13_method_34_code
def yX11_spellsPart : MethodName := ⟨RX11, "spellsPart", "(I)V"⟩
abbrev cX11_macroName : ByteArray := prog_13_method_35_code
def yX11_macroName : MethodName := ⟨RX11, "macroName", "(I)I"⟩
abbrev cX11_fits : ByteArray := prog_13_method_36_code
def yX11_fits : MethodName := ⟨RX11, "fits", "(I)I"⟩
abbrev cX11_answerOf : ByteArray := prog_13_method_37_code
def yX11_answerOf : MethodName := ⟨RX11, "answerOf", "(I)I"⟩
abbrev cX11_ruleAt : ByteArray := prog_13_method_38_code
def yX11_ruleAt : MethodName := ⟨RX11, "ruleAt", "(II)I"⟩
abbrev cX11_signAt : ByteArray := prog_13_method_39_code
def yX11_signAt : MethodName := ⟨RX11, "signAt", "(II)I"⟩
abbrev cX11_ends : ByteArray := prog_13_method_40_code
def yX11_ends : MethodName := ⟨RX11, "ends", "(II)I"⟩
abbrev cX11_enters : ByteArray := prog_13_method_41_code
def yX11_enters : MethodName := ⟨RX11, "enters", "(I)Z"⟩
abbrev cX11_error : ByteArray := prog_13_method_42_code
def yX11_error : MethodName := ⟨RX11, "error", "()I"⟩
abbrev cX11_goes : ByteArray := prog_13_method_43_code
def yX11_goes : MethodName := ⟨RX11, "goes", "(III)I"⟩
abbrev cX11_isName : ByteArray := prog_13_method_44_code
def yX11_isName : MethodName := ⟨RX11, "isName", "(I)Z"⟩
abbrev cX11_isRule : ByteArray := prog_13_method_45_code
def yX11_isRule : MethodName := ⟨RX11, "isRule", "(II)Z"⟩
abbrev cX11_check : ByteArray := prog_13_method_46_code
def yX11_check : MethodName := ⟨RX11, "check", "(III)I"⟩
abbrev cX11_kept : ByteArray := prog_13_method_47_code
def yX11_kept : MethodName := ⟨RX11, "kept", "(II)I"⟩
abbrev cX11_keeps : ByteArray := prog_13_method_48_code
def yX11_keeps : MethodName := ⟨RX11, "keeps", "()V"⟩
abbrev cX11_undo : ByteArray := prog_13_method_49_code
def yX11_undo : MethodName := ⟨RX11, "undo", "()I"⟩
abbrev cX11_sign : ByteArray := prog_13_method_50_code
def yX11_sign : MethodName := ⟨RX11, "sign", "(III)I"⟩
abbrev cX11_swap : ByteArray := prog_13_method_51_code
def yX11_swap : MethodName := ⟨RX11, "swap", "(II)I"⟩
abbrev cX11_host : ByteArray := prog_13_method_52_code
def yX11_host : MethodName := ⟨RX11, "host", "(III)I"⟩
abbrev cX11_name : ByteArray := prog_13_method_53_code
def yX11_name : MethodName := ⟨RX11, "name", "(II)I"⟩
abbrev cX11_letter : ByteArray := prog_13_method_54_code
def yX11_letter : MethodName := ⟨RX11, "letter", "(II)I"⟩
abbrev cX11_rule : ByteArray := prog_13_method_55_code
def yX11_rule : MethodName := ⟨RX11, "rule", "(III)I"⟩
abbrev cX11_hostOf : ByteArray := prog_13_method_56_code
def yX11_hostOf : MethodName := ⟨RX11, "hostOf", "(II)I"⟩
abbrev cX11_many : ByteArray := prog_13_method_57_code
def yX11_many : MethodName := ⟨RX11, "many", "(III)I"⟩
abbrev cX11_dead : ByteArray := prog_13_method_58_code
def yX11_dead : MethodName := ⟨RX11, "dead", "(II)I"⟩
abbrev cX11_floats : ByteArray := prog_13_method_59_code
def yX11_floats : MethodName := ⟨RX11, "floats", "(I)I"⟩
abbrev cX11_lookups : ByteArray := prog_13_method_60_code
def yX11_lookups : MethodName := ⟨RX11, "lookups", "(IIII)I"⟩
abbrev cX11_leadsOf : ByteArray := prog_13_method_61_code
def yX11_leadsOf : MethodName := ⟨RX11, "leadsOf", "(I)I"⟩
abbrev cX11_leads : ByteArray := prog_13_method_62_code
def yX11_leads : MethodName := ⟨RX11, "leads", "(I)I"⟩
abbrev cX11_count : ByteArray := prog_13_method_63_code
def yX11_count : MethodName := ⟨RX11, "count", "(I)I"⟩
def RJ11 : String := "java/lang/Character"
def TJ11 : u_T := fun k => match k with
  | _ => ("", "", "", false)
def tyJ11 : Nat → FieldType := fun k => match k with
  | _ => .int
theorem nmJ11 : ∀ a, a < 0 → ∀ b, b < 0 → a ≠ b → (TJ11 a).2.1 ≠ (TJ11 b).2.1 := by decide +kernel
theorem tyJ11_ok : ∀ k, k < 0 → parseFieldDescriptor (TJ11 k).2.2.1 = some (tyJ11 k) := by decide +kernel
abbrev cJ11_isValidCodePoint_9a6ad : ByteArray := prog_14_method_11_code
def yJ11_isValidCodePoint_9a6ad : MethodName := ⟨RJ11, "isValidCodePoint", "(I)Z"⟩
abbrev cJ11_highSurrogate_5068e : ByteArray := prog_14_method_28_code
def yJ11_highSurrogate_5068e : MethodName := ⟨RJ11, "highSurrogate", "(I)C"⟩
abbrev cJ11_lowSurrogate_5068e : ByteArray := prog_14_method_29_code
def yJ11_lowSurrogate_5068e : MethodName := ⟨RJ11, "lowSurrogate", "(I)C"⟩
def RJ6 : String := "java/lang/Integer"
def TJ6 : u_T := fun k => match k with
  | _ => ("", "", "", false)
def tyJ6 : Nat → FieldType := fun k => match k with
  | _ => .int
theorem nmJ6 : ∀ a, a < 0 → ∀ b, b < 0 → a ≠ b → (TJ6 a).2.1 ≠ (TJ6 b).2.1 := by decide +kernel
theorem tyJ6_ok : ∀ k, k < 0 → parseFieldDescriptor (TJ6 k).2.2.1 = some (tyJ6 k) := by decide +kernel
abbrev cJ6_numberOfLeadingZeros_0f7a4 : ByteArray := prog_15_method_47_code
def yJ6_numberOfLeadingZeros_0f7a4 : MethodName := ⟨RJ6, "numberOfLeadingZeros", "(I)I"⟩
def RJ9 : String := "java/lang/Math"
def TJ9 : u_T := fun k => match k with
  | _ => ("", "", "", false)
def tyJ9 : Nat → FieldType := fun k => match k with
  | _ => .int
theorem nmJ9 : ∀ a, a < 0 → ∀ b, b < 0 → a ≠ b → (TJ9 a).2.1 ≠ (TJ9 b).2.1 := by decide +kernel
theorem tyJ9_ok : ∀ k, k < 0 → parseFieldDescriptor (TJ9 k).2.2.1 = some (tyJ9 k) := by decide +kernel
abbrev cJ9_max_7cf53 : ByteArray := prog_16_method_65_code
def yJ9_max_7cf53 : MethodName := ⟨RJ9, "max", "(II)I"⟩
abbrev cJ9_min_7cf53 : ByteArray := prog_16_method_69_code
def yJ9_min_7cf53 : MethodName := ⟨RJ9, "min", "(II)I"⟩
def RJ0 : String := "java/lang/String"
def TJ0 : u_T := fun k => match k with
  | _ => ("", "", "", false)
def tyJ0 : Nat → FieldType := fun k => match k with
  | _ => .int
theorem nmJ0 : ∀ a, a < 0 → ∀ b, b < 0 → a ≠ b → (TJ0 a).2.1 ≠ (TJ0 b).2.1 := by decide +kernel
theorem tyJ0_ok : ∀ k, k < 0 → parseFieldDescriptor (TJ0 k).2.2.1 = some (tyJ0 k) := by decide +kernel
abbrev cJ0_length_8abf5 : ByteArray := prog_17_method_54_code
def yJ0_length_8abf5 : MethodName := ⟨RJ0, "length", "()I"⟩
abbrev cJ0_charAt_5068e : ByteArray := prog_17_method_56_code
def yJ0_charAt_5068e : MethodName := ⟨RJ0, "charAt", "(I)C"⟩
abbrev cJ0_indexOf_0f7a4 : ByteArray := prog_17_method_79_code
def yJ0_indexOf_0f7a4 : MethodName := ⟨RJ0, "indexOf", "(I)I"⟩
abbrev cJ0_indexOf_7cf53 : ByteArray := prog_17_method_80_code
def yJ0_indexOf_7cf53 : MethodName := ⟨RJ0, "indexOf", "(II)I"⟩
abbrev cJ0_coder_7d493 : ByteArray := prog_17_method_152_code
def yJ0_coder_7d493 : MethodName := ⟨RJ0, "coder", "()B"⟩
abbrev cJ0_isLatin1_aae02 : ByteArray := prog_17_method_154_code
def yJ0_isLatin1_aae02 : MethodName := ⟨RJ0, "isLatin1", "()Z"⟩
abbrev cJ0_checkIndex_df160 : ByteArray := prog_17_method_155_code
def yJ0_checkIndex_df160 : MethodName := ⟨RJ0, "checkIndex", "(II)V"⟩
abbrev cJ0_checkBoundsBeginEnd_23922 : ByteArray := prog_17_method_158_code
def yJ0_checkBoundsBeginEnd_23922 : MethodName := ⟨RJ0, "checkBoundsBeginEnd", "(III)V"⟩
def RJ1 : String := "java/lang/StringLatin1"
def TJ1 : u_T := fun k => match k with
  | _ => ("", "", "", false)
def tyJ1 : Nat → FieldType := fun k => match k with
  | _ => .int
theorem nmJ1 : ∀ a, a < 0 → ∀ b, b < 0 → a ≠ b → (TJ1 a).2.1 ≠ (TJ1 b).2.1 := by decide +kernel
theorem tyJ1_ok : ∀ k, k < 0 → parseFieldDescriptor (TJ1 k).2.2.1 = some (tyJ1 k) := by decide +kernel
abbrev cJ1_charAt_3b067 : ByteArray := prog_18_method_2_code
def yJ1_charAt_3b067 : MethodName := ⟨RJ1, "charAt", "([BI)C"⟩
abbrev cJ1_canEncode_9a6ad : ByteArray := prog_18_method_4_code
def yJ1_canEncode_9a6ad : MethodName := ⟨RJ1, "canEncode", "(I)Z"⟩
abbrev cJ1_indexOf_4cfef : ByteArray := prog_18_method_22_code
def yJ1_indexOf_4cfef : MethodName := ⟨RJ1, "indexOf", "([BIII)I"⟩
abbrev cJ1_indexOfChar_4cfef : ByteArray := prog_18_method_23_code
def yJ1_indexOfChar_4cfef : MethodName := ⟨RJ1, "indexOfChar", "([BIII)I"⟩
def RJ2 : String := "java/lang/StringUTF16"
def TJ2 : u_T := fun k => match k with
  | _ => ("", "", "", false)
def tyJ2 : Nat → FieldType := fun k => match k with
  | _ => .int
theorem nmJ2 : ∀ a, a < 0 → ∀ b, b < 0 → a ≠ b → (TJ2 a).2.1 ≠ (TJ2 b).2.1 := by decide +kernel
theorem tyJ2_ok : ∀ k, k < 0 → parseFieldDescriptor (TJ2 k).2.2.1 = some (tyJ2 k) := by decide +kernel
abbrev cJ2_getChar_3b067 : ByteArray := prog_19_method_5_code
def yJ2_getChar_3b067 : MethodName := ⟨RJ2, "getChar", "([BI)C"⟩
abbrev cJ2_length_9d52b : ByteArray := prog_19_method_6_code
def yJ2_length_9d52b : MethodName := ⟨RJ2, "length", "([B)I"⟩
abbrev cJ2_indexOf_4cfef : ByteArray := prog_19_method_40_code
def yJ2_indexOf_4cfef : MethodName := ⟨RJ2, "indexOf", "([BIII)I"⟩
abbrev cJ2_indexOfChar_4cfef : ByteArray := prog_19_method_47_code
def yJ2_indexOfChar_4cfef : MethodName := ⟨RJ2, "indexOfChar", "([BIII)I"⟩
abbrev cJ2_indexOfCharUnsafe_4cfef : ByteArray := prog_19_method_48_code
def yJ2_indexOfCharUnsafe_4cfef : MethodName := ⟨RJ2, "indexOfCharUnsafe", "([BIII)I"⟩
abbrev cJ2_indexOfSupplementary_4cfef : ByteArray := prog_19_method_49_code
def yJ2_indexOfSupplementary_4cfef : MethodName := ⟨RJ2, "indexOfSupplementary", "([BIII)I"⟩
abbrev cJ2_charAt_3b067 : ByteArray := prog_19_method_83_code
def yJ2_charAt_3b067 : MethodName := ⟨RJ2, "charAt", "([BI)C"⟩
abbrev cJ2_checkIndex_2214a : ByteArray := prog_19_method_91_code
def yJ2_checkIndex_2214a : MethodName := ⟨RJ2, "checkIndex", "(I[B)V"⟩
abbrev cJ2_checkBoundsBeginEnd_d044e : ByteArray := prog_19_method_93_code
def yJ2_checkBoundsBeginEnd_d044e : MethodName := ⟨RJ2, "checkBoundsBeginEnd", "(II[B)V"⟩
def RJ3 : String := "jdk/internal/util/Preconditions"
def TJ3 : u_T := fun k => match k with
  | _ => ("", "", "", false)
def tyJ3 : Nat → FieldType := fun k => match k with
  | _ => .int
theorem nmJ3 : ∀ a, a < 0 → ∀ b, b < 0 → a ≠ b → (TJ3 a).2.1 ≠ (TJ3 b).2.1 := by decide +kernel
theorem tyJ3_ok : ∀ k, k < 0 → parseFieldDescriptor (TJ3 k).2.2.1 = some (tyJ3 k) := by decide +kernel
abbrev cJ3_checkIndex_8e157 : ByteArray := prog_20_method_11_code
def yJ3_checkIndex_8e157 : MethodName := ⟨RJ3, "checkIndex", "(IILjava/util/function/BiFunction;)I"⟩
abbrev cJ3_checkFromToIndex_8c36e : ByteArray := prog_20_method_12_code
def yJ3_checkFromToIndex_8c36e : MethodName := ⟨RJ3, "checkFromToIndex", "(IIILjava/util/function/BiFunction;)I"⟩
