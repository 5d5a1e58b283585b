section
-- ===== PART A: goes FIRST, ahead of the names: the tables' words, and 'selects' of the private methods out of them =====
/-- a private method of a class that the tables say can be made, by its rows of tables_1 -/
def lw_okq (q : MethodName × Nat) : Prop := (q.1.cls ≠ "java/lang/invoke/MethodHandle" ∧ q.1.cls ≠ "java/lang/invoke/VarHandle") ∧ Cond.instantiable q.1.cls q.2 ∈ tables_1 ∧ Cond.privateMethod q.1 ∈ tables_1 ∧ Cond.instanceMethod q.1 ∈ tables_1
theorem lw_p0 : lw_okq (⟨"SendRules$Reader", "readItem", "(LSendRules$Records;)Z"⟩, 4) := ⟨⟨by decide +kernel, by decide +kernel⟩, List.mem_of_getElem? (i := 29) (by decide +kernel), List.mem_of_getElem? (i := 360) (by decide +kernel), List.mem_of_getElem? (i := 361) (by decide +kernel)⟩
theorem lw_p1 : lw_okq (⟨"SendRules$Reader", "next", "()C"⟩, 4) := ⟨⟨by decide +kernel, by decide +kernel⟩, List.mem_of_getElem? (i := 29) (by decide +kernel), List.mem_of_getElem? (i := 364) (by decide +kernel), List.mem_of_getElem? (i := 365) (by decide +kernel)⟩
theorem lw_p2 : lw_okq (⟨"SendRules$Reader", "readName", "()I"⟩, 4) := ⟨⟨by decide +kernel, by decide +kernel⟩, List.mem_of_getElem? (i := 29) (by decide +kernel), List.mem_of_getElem? (i := 368) (by decide +kernel), List.mem_of_getElem? (i := 369) (by decide +kernel)⟩
theorem lw_p3 : lw_okq (⟨"SendRules$Reader", "peek", "()C"⟩, 4) := ⟨⟨by decide +kernel, by decide +kernel⟩, List.mem_of_getElem? (i := 29) (by decide +kernel), List.mem_of_getElem? (i := 372) (by decide +kernel), List.mem_of_getElem? (i := 373) (by decide +kernel)⟩
theorem lw_p4 : lw_okq (⟨"SendRules$Reader", "take", "(C)Z"⟩, 4) := ⟨⟨by decide +kernel, by decide +kernel⟩, List.mem_of_getElem? (i := 29) (by decide +kernel), List.mem_of_getElem? (i := 388) (by decide +kernel), List.mem_of_getElem? (i := 389) (by decide +kernel)⟩
theorem lw_p5 : lw_okq (⟨"SendRules$Reader", "readPolicy", "(LSendRules$Domain;)Z"⟩, 4) := ⟨⟨by decide +kernel, by decide +kernel⟩, List.mem_of_getElem? (i := 29) (by decide +kernel), List.mem_of_getElem? (i := 416) (by decide +kernel), List.mem_of_getElem? (i := 417) (by decide +kernel)⟩
theorem lw_p6 : lw_okq (⟨"SendRules$Reader", "readRule", "(LSendRules$Rule;)Z"⟩, 4) := ⟨⟨by decide +kernel, by decide +kernel⟩, List.mem_of_getElem? (i := 29) (by decide +kernel), List.mem_of_getElem? (i := 428) (by decide +kernel), List.mem_of_getElem? (i := 429) (by decide +kernel)⟩
theorem lw_p7 : lw_okq (⟨"SendRules$Reader", "readPrefix", "(LSendRules$Rule;)Z"⟩, 4) := ⟨⟨by decide +kernel, by decide +kernel⟩, List.mem_of_getElem? (i := 29) (by decide +kernel), List.mem_of_getElem? (i := 497) (by decide +kernel), List.mem_of_getElem? (i := 498) (by decide +kernel)⟩
theorem lw_p8 : lw_okq (⟨"SendRules$Reader", "readNumber", "(I)I"⟩, 4) := ⟨⟨by decide +kernel, by decide +kernel⟩, List.mem_of_getElem? (i := 29) (by decide +kernel), List.mem_of_getElem? (i := 501) (by decide +kernel), List.mem_of_getElem? (i := 502) (by decide +kernel)⟩
theorem lw_p9 : lw_okq (⟨"SendRules$Reader", "readMacro", "(LSendRules$Rule;)Z"⟩, 4) := ⟨⟨by decide +kernel, by decide +kernel⟩, List.mem_of_getElem? (i := 29) (by decide +kernel), List.mem_of_getElem? (i := 505) (by decide +kernel), List.mem_of_getElem? (i := 506) (by decide +kernel)⟩
theorem lw_p10 : lw_okq (⟨"SendRules$Reader", "readPart", "()I"⟩, 4) := ⟨⟨by decide +kernel, by decide +kernel⟩, List.mem_of_getElem? (i := 29) (by decide +kernel), List.mem_of_getElem? (i := 509) (by decide +kernel), List.mem_of_getElem? (i := 510) (by decide +kernel)⟩
theorem lw_p11 : lw_okq (⟨"SendRules$Reader", "readHosts", "(LSendRules$Domain;)Z"⟩, 4) := ⟨⟨by decide +kernel, by decide +kernel⟩, List.mem_of_getElem? (i := 29) (by decide +kernel), List.mem_of_getElem? (i := 514) (by decide +kernel), List.mem_of_getElem? (i := 515) (by decide +kernel)⟩
theorem lw_p12 : lw_okq (⟨"SendRules$Reader", "readExchangers", "(LSendRules$Domain;)Z"⟩, 4) := ⟨⟨by decide +kernel, by decide +kernel⟩, List.mem_of_getElem? (i := 29) (by decide +kernel), List.mem_of_getElem? (i := 522) (by decide +kernel), List.mem_of_getElem? (i := 523) (by decide +kernel)⟩
theorem lw_p13 : lw_okq (⟨"SendRules", "isKnown", "(I)Z"⟩, 6) := ⟨⟨by decide +kernel, by decide +kernel⟩, List.mem_of_getElem? (i := 21) (by decide +kernel), List.mem_of_getElem? (i := 596) (by decide +kernel), List.mem_of_getElem? (i := 597) (by decide +kernel)⟩
theorem lw_p14 : lw_okq (⟨"SendRules$Evaluator", "resultOf", "(II)I"⟩, 10) := ⟨⟨by decide +kernel, by decide +kernel⟩, List.mem_of_getElem? (i := 191) (by decide +kernel), List.mem_of_getElem? (i := 611) (by decide +kernel), List.mem_of_getElem? (i := 612) (by decide +kernel)⟩
theorem lw_p15 : lw_okq (⟨"SendRules$Evaluator", "endWithError", "()I"⟩, 10) := ⟨⟨by decide +kernel, by decide +kernel⟩, List.mem_of_getElem? (i := 191) (by decide +kernel), List.mem_of_getElem? (i := 615) (by decide +kernel), List.mem_of_getElem? (i := 616) (by decide +kernel)⟩
def lw_privs_1 : List (MethodName × Nat) := [(⟨"SendRules$Reader", "readItem", "(LSendRules$Records;)Z"⟩, 4), (⟨"SendRules$Reader", "next", "()C"⟩, 4), (⟨"SendRules$Reader", "readName", "()I"⟩, 4), (⟨"SendRules$Reader", "peek", "()C"⟩, 4), (⟨"SendRules$Reader", "take", "(C)Z"⟩, 4), (⟨"SendRules$Reader", "readPolicy", "(LSendRules$Domain;)Z"⟩, 4), (⟨"SendRules$Reader", "readRule", "(LSendRules$Rule;)Z"⟩, 4), (⟨"SendRules$Reader", "readPrefix", "(LSendRules$Rule;)Z"⟩, 4), (⟨"SendRules$Reader", "readNumber", "(I)I"⟩, 4), (⟨"SendRules$Reader", "readMacro", "(LSendRules$Rule;)Z"⟩, 4), (⟨"SendRules$Reader", "readPart", "()I"⟩, 4), (⟨"SendRules$Reader", "readHosts", "(LSendRules$Domain;)Z"⟩, 4), (⟨"SendRules$Reader", "readExchangers", "(LSendRules$Domain;)Z"⟩, 4), (⟨"SendRules", "isKnown", "(I)Z"⟩, 6), (⟨"SendRules$Evaluator", "resultOf", "(II)I"⟩, 10), (⟨"SendRules$Evaluator", "endWithError", "()I"⟩, 10)]
theorem lw_r1 : ∀ q ∈ lw_privs_1, lw_okq q := List.forall_mem_cons.mpr ⟨lw_p0, List.forall_mem_cons.mpr ⟨lw_p1, List.forall_mem_cons.mpr ⟨lw_p2, List.forall_mem_cons.mpr ⟨lw_p3, List.forall_mem_cons.mpr ⟨lw_p4, List.forall_mem_cons.mpr ⟨lw_p5, List.forall_mem_cons.mpr ⟨lw_p6, List.forall_mem_cons.mpr ⟨lw_p7, List.forall_mem_cons.mpr ⟨lw_p8, List.forall_mem_cons.mpr ⟨lw_p9, List.forall_mem_cons.mpr ⟨lw_p10, List.forall_mem_cons.mpr ⟨lw_p11, List.forall_mem_cons.mpr ⟨lw_p12, List.forall_mem_cons.mpr ⟨lw_p13, List.forall_mem_cons.mpr ⟨lw_p14, List.forall_mem_cons.mpr ⟨lw_p15, fun _ h => absurd h List.not_mem_nil⟩⟩⟩⟩⟩⟩⟩⟩⟩⟩⟩⟩⟩⟩⟩⟩
theorem lw_p16 : lw_okq (⟨"SendRules$Evaluator", "matches", "(LSendRules$Rule;LSendRules$Domain;I)Z"⟩, 10) := ⟨⟨by decide +kernel, by decide +kernel⟩, List.mem_of_getElem? (i := 191) (by decide +kernel), List.mem_of_getElem? (i := 619) (by decide +kernel), List.mem_of_getElem? (i := 620) (by decide +kernel)⟩
theorem lw_p17 : lw_okq (⟨"SendRules$Evaluator", "lookUp", "()Z"⟩, 10) := ⟨⟨by decide +kernel, by decide +kernel⟩, List.mem_of_getElem? (i := 191) (by decide +kernel), List.mem_of_getElem? (i := 627) (by decide +kernel), List.mem_of_getElem? (i := 628) (by decide +kernel)⟩
theorem lw_p18 : lw_okq (⟨"SendRules$Evaluator", "includeMatches", "(LSendRules$Rule;I)Z"⟩, 10) := ⟨⟨by decide +kernel, by decide +kernel⟩, List.mem_of_getElem? (i := 191) (by decide +kernel), List.mem_of_getElem? (i := 631) (by decide +kernel), List.mem_of_getElem? (i := 632) (by decide +kernel)⟩
theorem lw_p19 : lw_okq (⟨"SendRules$Evaluator", "hostMatches", "(LSendRules$Rule;)Z"⟩, 10) := ⟨⟨by decide +kernel, by decide +kernel⟩, List.mem_of_getElem? (i := 191) (by decide +kernel), List.mem_of_getElem? (i := 636) (by decide +kernel), List.mem_of_getElem? (i := 637) (by decide +kernel)⟩
theorem lw_p20 : lw_okq (⟨"SendRules$Evaluator", "findEmpty", "()V"⟩, 10) := ⟨⟨by decide +kernel, by decide +kernel⟩, List.mem_of_getElem? (i := 191) (by decide +kernel), List.mem_of_getElem? (i := 641) (by decide +kernel), List.mem_of_getElem? (i := 642) (by decide +kernel)⟩
theorem lw_p21 : lw_okq (⟨"SendRules$Evaluator", "mailMatches", "(LSendRules$Rule;)Z"⟩, 10) := ⟨⟨by decide +kernel, by decide +kernel⟩, List.mem_of_getElem? (i := 191) (by decide +kernel), List.mem_of_getElem? (i := 649) (by decide +kernel), List.mem_of_getElem? (i := 650) (by decide +kernel)⟩
theorem lw_p22 : lw_okq (⟨"SendRules$Evaluator", "existsMatches", "(LSendRules$Rule;LSendRules$Domain;)Z"⟩, 10) := ⟨⟨by decide +kernel, by decide +kernel⟩, List.mem_of_getElem? (i := 191) (by decide +kernel), List.mem_of_getElem? (i := 653) (by decide +kernel), List.mem_of_getElem? (i := 654) (by decide +kernel)⟩
theorem lw_p23 : lw_okq (⟨"SendRules$Evaluator", "putPart", "(ILSendRules$Domain;)V"⟩, 10) := ⟨⟨by decide +kernel, by decide +kernel⟩, List.mem_of_getElem? (i := 191) (by decide +kernel), List.mem_of_getElem? (i := 658) (by decide +kernel), List.mem_of_getElem? (i := 659) (by decide +kernel)⟩
theorem lw_p24 : lw_okq (⟨"SendRules$Evaluator", "sizeOf", "(ILSendRules$Domain;)I"⟩, 10) := ⟨⟨by decide +kernel, by decide +kernel⟩, List.mem_of_getElem? (i := 191) (by decide +kernel), List.mem_of_getElem? (i := 662) (by decide +kernel), List.mem_of_getElem? (i := 663) (by decide +kernel)⟩
theorem lw_p25 : lw_okq (⟨"SendRules$Evaluator", "fromEndOf", "(ILSendRules$Domain;I)I"⟩, 10) := ⟨⟨by decide +kernel, by decide +kernel⟩, List.mem_of_getElem? (i := 191) (by decide +kernel), List.mem_of_getElem? (i := 667) (by decide +kernel), List.mem_of_getElem? (i := 668) (by decide +kernel)⟩
theorem lw_p26 : lw_okq (⟨"SendRules$Evaluator", "decide", "(III)I"⟩, 10) := ⟨⟨by decide +kernel, by decide +kernel⟩, List.mem_of_getElem? (i := 191) (by decide +kernel), List.mem_of_getElem? (i := 673) (by decide +kernel), List.mem_of_getElem? (i := 674) (by decide +kernel)⟩
theorem lw_p27 : lw_okq (⟨"SendRules$KeptChecks", "placeFor", "(III)LSendRules$KeptCheck;"⟩, 2) := ⟨⟨by decide +kernel, by decide +kernel⟩, List.mem_of_getElem? (i := 239) (by decide +kernel), List.mem_of_getElem? (i := 688) (by decide +kernel), List.mem_of_getElem? (i := 689) (by decide +kernel)⟩
theorem lw_p28 : lw_okq (⟨"SendRules", "ruleAt", "(II)LSendRules$Rule;"⟩, 6) := ⟨⟨by decide +kernel, by decide +kernel⟩, List.mem_of_getElem? (i := 21) (by decide +kernel), List.mem_of_getElem? (i := 709) (by decide +kernel), List.mem_of_getElem? (i := 710) (by decide +kernel)⟩
theorem lw_p29 : lw_okq (⟨"SendRules", "noteChange", "(IIII)V"⟩, 6) := ⟨⟨by decide +kernel, by decide +kernel⟩, List.mem_of_getElem? (i := 21) (by decide +kernel), List.mem_of_getElem? (i := 716) (by decide +kernel), List.mem_of_getElem? (i := 717) (by decide +kernel)⟩
theorem lw_p30 : lw_okq (⟨"SendRules", "takeBack", "(LSendRules$Change;)V"⟩, 6) := ⟨⟨by decide +kernel, by decide +kernel⟩, List.mem_of_getElem? (i := 21) (by decide +kernel), List.mem_of_getElem? (i := 750) (by decide +kernel), List.mem_of_getElem? (i := 751) (by decide +kernel)⟩
theorem lw_p31 : lw_okq (⟨"SendRules", "numberOrNone", "(I)I"⟩, 6) := ⟨⟨by decide +kernel, by decide +kernel⟩, List.mem_of_getElem? (i := 21) (by decide +kernel), List.mem_of_getElem? (i := 758) (by decide +kernel), List.mem_of_getElem? (i := 759) (by decide +kernel)⟩
def lw_privs_2 : List (MethodName × Nat) := [(⟨"SendRules$Evaluator", "matches", "(LSendRules$Rule;LSendRules$Domain;I)Z"⟩, 10), (⟨"SendRules$Evaluator", "lookUp", "()Z"⟩, 10), (⟨"SendRules$Evaluator", "includeMatches", "(LSendRules$Rule;I)Z"⟩, 10), (⟨"SendRules$Evaluator", "hostMatches", "(LSendRules$Rule;)Z"⟩, 10), (⟨"SendRules$Evaluator", "findEmpty", "()V"⟩, 10), (⟨"SendRules$Evaluator", "mailMatches", "(LSendRules$Rule;)Z"⟩, 10), (⟨"SendRules$Evaluator", "existsMatches", "(LSendRules$Rule;LSendRules$Domain;)Z"⟩, 10), (⟨"SendRules$Evaluator", "putPart", "(ILSendRules$Domain;)V"⟩, 10), (⟨"SendRules$Evaluator", "sizeOf", "(ILSendRules$Domain;)I"⟩, 10), (⟨"SendRules$Evaluator", "fromEndOf", "(ILSendRules$Domain;I)I"⟩, 10), (⟨"SendRules$Evaluator", "decide", "(III)I"⟩, 10), (⟨"SendRules$KeptChecks", "placeFor", "(III)LSendRules$KeptCheck;"⟩, 2), (⟨"SendRules", "ruleAt", "(II)LSendRules$Rule;"⟩, 6), (⟨"SendRules", "noteChange", "(IIII)V"⟩, 6), (⟨"SendRules", "takeBack", "(LSendRules$Change;)V"⟩, 6), (⟨"SendRules", "numberOrNone", "(I)I"⟩, 6)]
theorem lw_r2 : ∀ q ∈ lw_privs_2, lw_okq q := List.forall_mem_cons.mpr ⟨lw_p16, List.forall_mem_cons.mpr ⟨lw_p17, List.forall_mem_cons.mpr ⟨lw_p18, List.forall_mem_cons.mpr ⟨lw_p19, List.forall_mem_cons.mpr ⟨lw_p20, List.forall_mem_cons.mpr ⟨lw_p21, List.forall_mem_cons.mpr ⟨lw_p22, List.forall_mem_cons.mpr ⟨lw_p23, List.forall_mem_cons.mpr ⟨lw_p24, List.forall_mem_cons.mpr ⟨lw_p25, List.forall_mem_cons.mpr ⟨lw_p26, List.forall_mem_cons.mpr ⟨lw_p27, List.forall_mem_cons.mpr ⟨lw_p28, List.forall_mem_cons.mpr ⟨lw_p29, List.forall_mem_cons.mpr ⟨lw_p30, List.forall_mem_cons.mpr ⟨lw_p31, fun _ h => absurd h List.not_mem_nil⟩⟩⟩⟩⟩⟩⟩⟩⟩⟩⟩⟩⟩⟩⟩⟩
theorem lw_p32 : lw_okq (⟨"SendRules$Records", "bitIfPolicy", "(I)I"⟩, 2) := ⟨⟨by decide +kernel, by decide +kernel⟩, List.mem_of_getElem? (i := 63) (by decide +kernel), List.mem_of_getElem? (i := 802) (by decide +kernel), List.mem_of_getElem? (i := 803) (by decide +kernel)⟩
theorem lw_p33 : lw_okq (⟨"SendRulesModel", "tells", "(IIIII)V"⟩, 48) := ⟨⟨by decide +kernel, by decide +kernel⟩, List.mem_of_getElem? (i := 818) (by decide +kernel), List.mem_of_getElem? (i := 824) (by decide +kernel), List.mem_of_getElem? (i := 825) (by decide +kernel)⟩
theorem lw_p34 : lw_okq (⟨"SendRulesModel", "reads", "()I"⟩, 48) := ⟨⟨by decide +kernel, by decide +kernel⟩, List.mem_of_getElem? (i := 818) (by decide +kernel), List.mem_of_getElem? (i := 836) (by decide +kernel), List.mem_of_getElem? (i := 837) (by decide +kernel)⟩
theorem lw_p35 : lw_okq (⟨"SendRulesModel", "item", "()Z"⟩, 48) := ⟨⟨by decide +kernel, by decide +kernel⟩, List.mem_of_getElem? (i := 818) (by decide +kernel), List.mem_of_getElem? (i := 840) (by decide +kernel), List.mem_of_getElem? (i := 841) (by decide +kernel)⟩
theorem lw_p36 : lw_okq (⟨"SendRulesModel", "next", "()I"⟩, 48) := ⟨⟨by decide +kernel, by decide +kernel⟩, List.mem_of_getElem? (i := 818) (by decide +kernel), List.mem_of_getElem? (i := 844) (by decide +kernel), List.mem_of_getElem? (i := 845) (by decide +kernel)⟩
theorem lw_p37 : lw_okq (⟨"SendRulesModel", "readsName", "()Z"⟩, 48) := ⟨⟨by decide +kernel, by decide +kernel⟩, List.mem_of_getElem? (i := 818) (by decide +kernel), List.mem_of_getElem? (i := 848) (by decide +kernel), List.mem_of_getElem? (i := 849) (by decide +kernel)⟩
theorem lw_p38 : lw_okq (⟨"SendRulesModel", "comes", "(I)Z"⟩, 48) := ⟨⟨by decide +kernel, by decide +kernel⟩, List.mem_of_getElem? (i := 818) (by decide +kernel), List.mem_of_getElem? (i := 859) (by decide +kernel), List.mem_of_getElem? (i := 860) (by decide +kernel)⟩
theorem lw_p39 : lw_okq (⟨"SendRulesModel", "slotOf", "(I)I"⟩, 48) := ⟨⟨by decide +kernel, by decide +kernel⟩, List.mem_of_getElem? (i := 818) (by decide +kernel), List.mem_of_getElem? (i := 863) (by decide +kernel), List.mem_of_getElem? (i := 864) (by decide +kernel)⟩
theorem lw_p40 : lw_okq (⟨"SendRulesModel", "rulesOf", "(I)Z"⟩, 48) := ⟨⟨by decide +kernel, by decide +kernel⟩, List.mem_of_getElem? (i := 818) (by decide +kernel), List.mem_of_getElem? (i := 867) (by decide +kernel), List.mem_of_getElem? (i := 868) (by decide +kernel)⟩
theorem lw_p41 : lw_okq (⟨"SendRulesModel", "asks", "(I)Z"⟩, 48) := ⟨⟨by decide +kernel, by decide +kernel⟩, List.mem_of_getElem? (i := 818) (by decide +kernel), List.mem_of_getElem? (i := 874) (by decide +kernel), List.mem_of_getElem? (i := 875) (by decide +kernel)⟩
theorem lw_p42 : lw_okq (⟨"SendRulesModel", "number", "(I)Z"⟩, 48) := ⟨⟨by decide +kernel, by decide +kernel⟩, List.mem_of_getElem? (i := 818) (by decide +kernel), List.mem_of_getElem? (i := 878) (by decide +kernel), List.mem_of_getElem? (i := 879) (by decide +kernel)⟩
theorem lw_p43 : lw_okq (⟨"SendRulesModel", "macro", "(I)Z"⟩, 48) := ⟨⟨by decide +kernel, by decide +kernel⟩, List.mem_of_getElem? (i := 818) (by decide +kernel), List.mem_of_getElem? (i := 882) (by decide +kernel), List.mem_of_getElem? (i := 883) (by decide +kernel)⟩
theorem lw_p44 : lw_okq (⟨"SendRulesModel", "readsPart", "()Z"⟩, 48) := ⟨⟨by decide +kernel, by decide +kernel⟩, List.mem_of_getElem? (i := 818) (by decide +kernel), List.mem_of_getElem? (i := 886) (by decide +kernel), List.mem_of_getElem? (i := 887) (by decide +kernel)⟩
theorem lw_p45 : lw_okq (⟨"SendRulesModel", "hostsOf", "(I)Z"⟩, 48) := ⟨⟨by decide +kernel, by decide +kernel⟩, List.mem_of_getElem? (i := 818) (by decide +kernel), List.mem_of_getElem? (i := 893) (by decide +kernel), List.mem_of_getElem? (i := 894) (by decide +kernel)⟩
theorem lw_p46 : lw_okq (⟨"SendRulesModel", "exchangersOf", "(I)Z"⟩, 48) := ⟨⟨by decide +kernel, by decide +kernel⟩, List.mem_of_getElem? (i := 818) (by decide +kernel), List.mem_of_getElem? (i := 897) (by decide +kernel), List.mem_of_getElem? (i := 898) (by decide +kernel)⟩
theorem lw_p47 : lw_okq (⟨"SendRulesModel", "takes", "(II)V"⟩, 48) := ⟨⟨by decide +kernel, by decide +kernel⟩, List.mem_of_getElem? (i := 818) (by decide +kernel), List.mem_of_getElem? (i := 901) (by decide +kernel), List.mem_of_getElem? (i := 902) (by decide +kernel)⟩
def lw_privs_3 : List (MethodName × Nat) := [(⟨"SendRules$Records", "bitIfPolicy", "(I)I"⟩, 2), (⟨"SendRulesModel", "tells", "(IIIII)V"⟩, 48), (⟨"SendRulesModel", "reads", "()I"⟩, 48), (⟨"SendRulesModel", "item", "()Z"⟩, 48), (⟨"SendRulesModel", "next", "()I"⟩, 48), (⟨"SendRulesModel", "readsName", "()Z"⟩, 48), (⟨"SendRulesModel", "comes", "(I)Z"⟩, 48), (⟨"SendRulesModel", "slotOf", "(I)I"⟩, 48), (⟨"SendRulesModel", "rulesOf", "(I)Z"⟩, 48), (⟨"SendRulesModel", "asks", "(I)Z"⟩, 48), (⟨"SendRulesModel", "number", "(I)Z"⟩, 48), (⟨"SendRulesModel", "macro", "(I)Z"⟩, 48), (⟨"SendRulesModel", "readsPart", "()Z"⟩, 48), (⟨"SendRulesModel", "hostsOf", "(I)Z"⟩, 48), (⟨"SendRulesModel", "exchangersOf", "(I)Z"⟩, 48), (⟨"SendRulesModel", "takes", "(II)V"⟩, 48)]
theorem lw_r3 : ∀ q ∈ lw_privs_3, lw_okq q := List.forall_mem_cons.mpr ⟨lw_p32, List.forall_mem_cons.mpr ⟨lw_p33, List.forall_mem_cons.mpr ⟨lw_p34, List.forall_mem_cons.mpr ⟨lw_p35, List.forall_mem_cons.mpr ⟨lw_p36, List.forall_mem_cons.mpr ⟨lw_p37, List.forall_mem_cons.mpr ⟨lw_p38, List.forall_mem_cons.mpr ⟨lw_p39, List.forall_mem_cons.mpr ⟨lw_p40, List.forall_mem_cons.mpr ⟨lw_p41, List.forall_mem_cons.mpr ⟨lw_p42, List.forall_mem_cons.mpr ⟨lw_p43, List.forall_mem_cons.mpr ⟨lw_p44, List.forall_mem_cons.mpr ⟨lw_p45, List.forall_mem_cons.mpr ⟨lw_p46, List.forall_mem_cons.mpr ⟨lw_p47, fun _ h => absurd h List.not_mem_nil⟩⟩⟩⟩⟩⟩⟩⟩⟩⟩⟩⟩⟩⟩⟩⟩
theorem lw_p48 : lw_okq (⟨"SendRulesModel", "isName", "(I)Z"⟩, 48) := ⟨⟨by decide +kernel, by decide +kernel⟩, List.mem_of_getElem? (i := 818) (by decide +kernel), List.mem_of_getElem? (i := 1068) (by decide +kernel), List.mem_of_getElem? (i := 1069) (by decide +kernel)⟩
theorem lw_p49 : lw_okq (⟨"SendRulesModel", "goes", "(III)I"⟩, 48) := ⟨⟨by decide +kernel, by decide +kernel⟩, List.mem_of_getElem? (i := 818) (by decide +kernel), List.mem_of_getElem? (i := 1072) (by decide +kernel), List.mem_of_getElem? (i := 1073) (by decide +kernel)⟩
theorem lw_p50 : lw_okq (⟨"SendRulesModel", "enters", "(I)Z"⟩, 48) := ⟨⟨by decide +kernel, by decide +kernel⟩, List.mem_of_getElem? (i := 818) (by decide +kernel), List.mem_of_getElem? (i := 1076) (by decide +kernel), List.mem_of_getElem? (i := 1077) (by decide +kernel)⟩
theorem lw_p51 : lw_okq (⟨"SendRulesModel", "looks", "()Z"⟩, 48) := ⟨⟨by decide +kernel, by decide +kernel⟩, List.mem_of_getElem? (i := 818) (by decide +kernel), List.mem_of_getElem? (i := 1080) (by decide +kernel), List.mem_of_getElem? (i := 1081) (by decide +kernel)⟩
theorem lw_p52 : lw_okq (⟨"SendRulesModel", "numberOf", "(I)I"⟩, 48) := ⟨⟨by decide +kernel, by decide +kernel⟩, List.mem_of_getElem? (i := 818) (by decide +kernel), List.mem_of_getElem? (i := 1084) (by decide +kernel), List.mem_of_getElem? (i := 1085) (by decide +kernel)⟩
theorem lw_p53 : lw_okq (⟨"SendRulesModel", "error", "()I"⟩, 48) := ⟨⟨by decide +kernel, by decide +kernel⟩, List.mem_of_getElem? (i := 818) (by decide +kernel), List.mem_of_getElem? (i := 1088) (by decide +kernel), List.mem_of_getElem? (i := 1089) (by decide +kernel)⟩
theorem lw_p54 : lw_okq (⟨"SendRulesModel", "ruleAt", "(II)I"⟩, 48) := ⟨⟨by decide +kernel, by decide +kernel⟩, List.mem_of_getElem? (i := 818) (by decide +kernel), List.mem_of_getElem? (i := 1092) (by decide +kernel), List.mem_of_getElem? (i := 1093) (by decide +kernel)⟩
theorem lw_p55 : lw_okq (⟨"SendRulesModel", "fits", "(I)I"⟩, 48) := ⟨⟨by decide +kernel, by decide +kernel⟩, List.mem_of_getElem? (i := 818) (by decide +kernel), List.mem_of_getElem? (i := 1096) (by decide +kernel), List.mem_of_getElem? (i := 1097) (by decide +kernel)⟩
theorem lw_p56 : lw_okq (⟨"SendRulesModel", "macroName", "(I)I"⟩, 48) := ⟨⟨by decide +kernel, by decide +kernel⟩, List.mem_of_getElem? (i := 818) (by decide +kernel), List.mem_of_getElem? (i := 1100) (by decide +kernel), List.mem_of_getElem? (i := 1101) (by decide +kernel)⟩
theorem lw_p57 : lw_okq (⟨"SendRulesModel", "spellsPart", "(I)V"⟩, 48) := ⟨⟨by decide +kernel, by decide +kernel⟩, List.mem_of_getElem? (i := 818) (by decide +kernel), List.mem_of_getElem? (i := 1104) (by decide +kernel), List.mem_of_getElem? (i := 1105) (by decide +kernel)⟩
theorem lw_p58 : lw_okq (⟨"SendRulesModel", "spells", "(I)V"⟩, 48) := ⟨⟨by decide +kernel, by decide +kernel⟩, List.mem_of_getElem? (i := 818) (by decide +kernel), List.mem_of_getElem? (i := 1108) (by decide +kernel), List.mem_of_getElem? (i := 1109) (by decide +kernel)⟩
theorem lw_p59 : lw_okq (⟨"SendRulesModel", "hasHost", "(II)Z"⟩, 48) := ⟨⟨by decide +kernel, by decide +kernel⟩, List.mem_of_getElem? (i := 818) (by decide +kernel), List.mem_of_getElem? (i := 1118) (by decide +kernel), List.mem_of_getElem? (i := 1119) (by decide +kernel)⟩
theorem lw_p60 : lw_okq (⟨"SendRulesModel", "isEmpty", "()Z"⟩, 48) := ⟨⟨by decide +kernel, by decide +kernel⟩, List.mem_of_getElem? (i := 818) (by decide +kernel), List.mem_of_getElem? (i := 1122) (by decide +kernel), List.mem_of_getElem? (i := 1123) (by decide +kernel)⟩
theorem lw_p61 : lw_okq (⟨"SendRulesModel", "hostMany", "(I)I"⟩, 48) := ⟨⟨by decide +kernel, by decide +kernel⟩, List.mem_of_getElem? (i := 818) (by decide +kernel), List.mem_of_getElem? (i := 1126) (by decide +kernel), List.mem_of_getElem? (i := 1127) (by decide +kernel)⟩
theorem lw_p62 : lw_okq (⟨"SendRulesModel", "ends", "(II)I"⟩, 48) := ⟨⟨by decide +kernel, by decide +kernel⟩, List.mem_of_getElem? (i := 818) (by decide +kernel), List.mem_of_getElem? (i := 1130) (by decide +kernel), List.mem_of_getElem? (i := 1131) (by decide +kernel)⟩
theorem lw_p63 : lw_okq (⟨"SendRulesModel", "signAt", "(II)I"⟩, 48) := ⟨⟨by decide +kernel, by decide +kernel⟩, List.mem_of_getElem? (i := 818) (by decide +kernel), List.mem_of_getElem? (i := 1134) (by decide +kernel), List.mem_of_getElem? (i := 1135) (by decide +kernel)⟩
def lw_privs_4 : List (MethodName × Nat) := [(⟨"SendRulesModel", "isName", "(I)Z"⟩, 48), (⟨"SendRulesModel", "goes", "(III)I"⟩, 48), (⟨"SendRulesModel", "enters", "(I)Z"⟩, 48), (⟨"SendRulesModel", "looks", "()Z"⟩, 48), (⟨"SendRulesModel", "numberOf", "(I)I"⟩, 48), (⟨"SendRulesModel", "error", "()I"⟩, 48), (⟨"SendRulesModel", "ruleAt", "(II)I"⟩, 48), (⟨"SendRulesModel", "fits", "(I)I"⟩, 48), (⟨"SendRulesModel", "macroName", "(I)I"⟩, 48), (⟨"SendRulesModel", "spellsPart", "(I)V"⟩, 48), (⟨"SendRulesModel", "spells", "(I)V"⟩, 48), (⟨"SendRulesModel", "hasHost", "(II)Z"⟩, 48), (⟨"SendRulesModel", "isEmpty", "()Z"⟩, 48), (⟨"SendRulesModel", "hostMany", "(I)I"⟩, 48), (⟨"SendRulesModel", "ends", "(II)I"⟩, 48), (⟨"SendRulesModel", "signAt", "(II)I"⟩, 48)]
theorem lw_r4 : ∀ q ∈ lw_privs_4, lw_okq q := List.forall_mem_cons.mpr ⟨lw_p48, List.forall_mem_cons.mpr ⟨lw_p49, List.forall_mem_cons.mpr ⟨lw_p50, List.forall_mem_cons.mpr ⟨lw_p51, List.forall_mem_cons.mpr ⟨lw_p52, List.forall_mem_cons.mpr ⟨lw_p53, List.forall_mem_cons.mpr ⟨lw_p54, List.forall_mem_cons.mpr ⟨lw_p55, List.forall_mem_cons.mpr ⟨lw_p56, List.forall_mem_cons.mpr ⟨lw_p57, List.forall_mem_cons.mpr ⟨lw_p58, List.forall_mem_cons.mpr ⟨lw_p59, List.forall_mem_cons.mpr ⟨lw_p60, List.forall_mem_cons.mpr ⟨lw_p61, List.forall_mem_cons.mpr ⟨lw_p62, List.forall_mem_cons.mpr ⟨lw_p63, fun _ h => absurd h List.not_mem_nil⟩⟩⟩⟩⟩⟩⟩⟩⟩⟩⟩⟩⟩⟩⟩⟩
theorem lw_p64 : lw_okq (⟨"SendRulesModel", "isRule", "(II)Z"⟩, 48) := ⟨⟨by decide +kernel, by decide +kernel⟩, List.mem_of_getElem? (i := 818) (by decide +kernel), List.mem_of_getElem? (i := 1153) (by decide +kernel), List.mem_of_getElem? (i := 1154) (by decide +kernel)⟩
theorem lw_p65 : lw_okq (⟨"SendRulesModel", "keeps", "()V"⟩, 48) := ⟨⟨by decide +kernel, by decide +kernel⟩, List.mem_of_getElem? (i := 818) (by decide +kernel), List.mem_of_getElem? (i := 1157) (by decide +kernel), List.mem_of_getElem? (i := 1158) (by decide +kernel)⟩
theorem lw_p66 : lw_okq (⟨"SendRulesModel", "leadsOf", "(I)I"⟩, 48) := ⟨⟨by decide +kernel, by decide +kernel⟩, List.mem_of_getElem? (i := 818) (by decide +kernel), List.mem_of_getElem? (i := 1205) (by decide +kernel), List.mem_of_getElem? (i := 1206) (by decide +kernel)⟩
def lw_privs_5 : List (MethodName × Nat) := [(⟨"SendRulesModel", "isRule", "(II)Z"⟩, 48), (⟨"SendRulesModel", "keeps", "()V"⟩, 48), (⟨"SendRulesModel", "leadsOf", "(I)I"⟩, 48)]
theorem lw_r5 : ∀ q ∈ lw_privs_5, lw_okq q := List.forall_mem_cons.mpr ⟨lw_p64, List.forall_mem_cons.mpr ⟨lw_p65, List.forall_mem_cons.mpr ⟨lw_p66, fun _ h => absurd h List.not_mem_nil⟩⟩⟩
def lw_privs : List (MethodName × Nat) := lw_privs_1 ++ (lw_privs_2 ++ (lw_privs_3 ++ (lw_privs_4 ++ (lw_privs_5))))
def lw_tbl : List Cond := k2_sels lw_privs ++ tables_1
theorem lw_privs_ok : ∀ q ∈ lw_privs, lw_okq q := by
  show ∀ q ∈ lw_privs_1 ++ (lw_privs_2 ++ (lw_privs_3 ++ (lw_privs_4 ++ (lw_privs_5)))), lw_okq q
  exact List.forall_mem_append.mpr ⟨lw_r1, List.forall_mem_append.mpr ⟨lw_r2, List.forall_mem_append.mpr ⟨lw_r3, List.forall_mem_append.mpr ⟨lw_r4, lw_r5⟩⟩⟩⟩
def RX0 : String := "SendRules$Change"
def TX0 : u_T := fun k => match k with
  | 0 => ("SendRules$Change", "kind", "I", false)
  | 1 => ("SendRules$Change", "name", "I", false)
  | 2 => ("SendRules$Change", "place", "I", false)
  | _ => ("SendRules$Change", "value", "I", false)
def tyX0 : Nat → FieldType := fun k => match k with
  | 0 => .int
  | 1 => .int
  | 2 => .int
  | _ => .int
theorem nmX0 : ∀ a, a < 4 → ∀ b, b < 4 → a ≠ b → (TX0 a).2.1 ≠ (TX0 b).2.1 := by decide +kernel
theorem tyX0_ok : ∀ k, k < 4 → parseFieldDescriptor (TX0 k).2.2.1 = some (tyX0 k) := by decide +kernel
abbrev cX0_init : ByteArray := prog_2_method_1_code
def yX0_init : MethodName := ⟨RX0, "<init>", "()V"⟩
def RX1 : String := "SendRules$Domain"
def TX1 : u_T := fun k => match k with
  | 0 => ("SendRules$Domain", "code", "I", false)
  | 1 => ("SendRules$Domain", "fromEnd", "[I", true)
  | 2 => ("SendRules$Domain", "length", "I", false)
  | 3 => ("SendRules$Domain", "hasPolicy", "Z", false)
  | 4 => ("SendRules$Domain", "rules", "[LSendRules$Rule;", true)
  | 5 => ("SendRules$Domain", "ruleCount", "I", false)
  | 6 => ("SendRules$Domain", "redirect", "I", false)
  | 7 => ("SendRules$Domain", "hosts", "[I", true)
  | 8 => ("SendRules$Domain", "hostCount", "I", false)
  | 9 => ("SendRules$Domain", "exchangers", "[I", true)
  | _ => ("SendRules$Domain", "exchangerCount", "I", false)
def tyX1 : Nat → FieldType := fun k => match k with
  | 0 => .int
  | 1 => .array .int
  | 2 => .int
  | 3 => .boolean
  | 4 => .array (.object "SendRules$Rule")
  | 5 => .int
  | 6 => .int
  | 7 => .array .int
  | 8 => .int
  | 9 => .array .int
  | _ => .int
theorem nmX1 : ∀ a, a < 11 → ∀ b, b < 11 → a ≠ b → (TX1 a).2.1 ≠ (TX1 b).2.1 := by decide +kernel
theorem tyX1_ok : ∀ k, k < 11 → parseFieldDescriptor (TX1 k).2.2.1 = some (tyX1 k) := by decide +kernel
abbrev cX1_init : ByteArray := prog_3_method_1_code
def yX1_init : MethodName := ⟨RX1, "<init>", "()V"⟩
abbrev cX1_start : ByteArray := prog_3_method_2_code
def yX1_start : MethodName := ⟨RX1, "start", "(I)V"⟩
abbrev cX1_startPolicy : ByteArray := prog_3_method_3_code
def yX1_startPolicy : MethodName := ⟨RX1, "startPolicy", "()V"⟩
abbrev cX1_addRule : ByteArray := prog_3_method_4_code
def yX1_addRule : MethodName := ⟨RX1, "addRule", "()LSendRules$Rule;"⟩
abbrev cX1_ruleAt : ByteArray := prog_3_method_5_code
def yX1_ruleAt : MethodName := ⟨RX1, "ruleAt", "(I)LSendRules$Rule;"⟩
abbrev cX1_swapRules : ByteArray := prog_3_method_6_code
def yX1_swapRules : MethodName := ⟨RX1, "swapRules", "(I)Z"⟩
abbrev cX1_placeOfHost : ByteArray := prog_3_method_7_code
def yX1_placeOfHost : MethodName := ⟨RX1, "placeOfHost", "(I)I"⟩
abbrev cX1_insertHost : ByteArray := prog_3_method_8_code
def yX1_insertHost : MethodName := ⟨RX1, "insertHost", "(II)Z"⟩
abbrev cX1_removeHost : ByteArray := prog_3_method_9_code
def yX1_removeHost : MethodName := ⟨RX1, "removeHost", "(I)V"⟩
abbrev cX1_addExchanger : ByteArray := prog_3_method_10_code
def yX1_addExchanger : MethodName := ⟨RX1, "addExchanger", "(I)Z"⟩
def RX2 : String := "SendRules$Evaluator"
def TX2 : u_T := fun k => match k with
  | 0 => ("SendRules$Evaluator", "records", "LSendRules$Records;", false)
  | 1 => ("SendRules$Evaluator", "origin", "LSendRules$Domain;", false)
  | 2 => ("SendRules$Evaluator", "address", "I", false)
  | 3 => ("SendRules$Evaluator", "letter", "I", false)
  | 4 => ("SendRules$Evaluator", "lookupCount", "I", false)
  | 5 => ("SendRules$Evaluator", "emptyCount", "I", false)
  | 6 => ("SendRules$Evaluator", "ended", "Z", false)
  | 7 => ("SendRules$Evaluator", "decidingName", "I", false)
  | 8 => ("SendRules$Evaluator", "decidingRule", "I", false)
  | _ => ("SendRules$Evaluator", "maker", "LSendRules$NameMaker;", true)
def tyX2 : Nat → FieldType := fun k => match k with
  | 0 => .object "SendRules$Records"
  | 1 => .object "SendRules$Domain"
  | 2 => .int
  | 3 => .int
  | 4 => .int
  | 5 => .int
  | 6 => .boolean
  | 7 => .int
  | 8 => .int
  | _ => .object "SendRules$NameMaker"
theorem nmX2 : ∀ a, a < 10 → ∀ b, b < 10 → a ≠ b → (TX2 a).2.1 ≠ (TX2 b).2.1 := by decide +kernel
theorem tyX2_ok : ∀ k, k < 10 → parseFieldDescriptor (TX2 k).2.2.1 = some (tyX2 k) := by decide +kernel
abbrev cX2_init : ByteArray := prog_4_method_1_code
def yX2_init : MethodName := ⟨RX2, "<init>", "()V"⟩
abbrev cX2_evaluate : ByteArray := prog_4_method_2_code
def yX2_evaluate : MethodName := ⟨RX2, "evaluate", "(LSendRules$Records;III)I"⟩
abbrev cX2_resultOf : ByteArray := prog_4_method_3_code
def yX2_resultOf : MethodName := ⟨RX2, "resultOf", "(II)I"⟩
abbrev cX2_decide : ByteArray := prog_4_method_4_code
def yX2_decide : MethodName := ⟨RX2, "decide", "(III)I"⟩
abbrev cX2_resultOfSign : ByteArray := prog_4_method_5_code
def yX2_resultOfSign : MethodName := ⟨RX2, "resultOfSign", "(I)I"⟩
abbrev cX2_endWithError : ByteArray := prog_4_method_6_code
def yX2_endWithError : MethodName := ⟨RX2, "endWithError", "()I"⟩
abbrev cX2_lookUp : ByteArray := prog_4_method_7_code
def yX2_lookUp : MethodName := ⟨RX2, "lookUp", "()Z"⟩
abbrev cX2_findEmpty : ByteArray := prog_4_method_8_code
def yX2_findEmpty : MethodName := ⟨RX2, "findEmpty", "()V"⟩
abbrev cX2_matches : ByteArray := prog_4_method_9_code
def yX2_matches : MethodName := ⟨RX2, "matches", "(LSendRules$Rule;LSendRules$Domain;I)Z"⟩
abbrev cX2_includeMatches : ByteArray := prog_4_method_10_code
def yX2_includeMatches : MethodName := ⟨RX2, "includeMatches", "(LSendRules$Rule;I)Z"⟩
abbrev cX2_hostMatches : ByteArray := prog_4_method_11_code
def yX2_hostMatches : MethodName := ⟨RX2, "hostMatches", "(LSendRules$Rule;)Z"⟩
abbrev cX2_mailMatches : ByteArray := prog_4_method_12_code
def yX2_mailMatches : MethodName := ⟨RX2, "mailMatches", "(LSendRules$Rule;)Z"⟩
abbrev cX2_existsMatches : ByteArray := prog_4_method_13_code
def yX2_existsMatches : MethodName := ⟨RX2, "existsMatches", "(LSendRules$Rule;LSendRules$Domain;)Z"⟩
abbrev cX2_putPart : ByteArray := prog_4_method_14_code
def yX2_putPart : MethodName := ⟨RX2, "putPart", "(ILSendRules$Domain;)V"⟩
abbrev cX2_sizeOf : ByteArray := prog_4_method_15_code
def yX2_sizeOf : MethodName := ⟨RX2, "sizeOf", "(ILSendRules$Domain;)I"⟩
abbrev cX2_fromEndOf : ByteArray := prog_4_method_16_code
def yX2_fromEndOf : MethodName := ⟨RX2, "fromEndOf", "(ILSendRules$Domain;I)I"⟩
def RX3 : String := "SendRules$History"
def TX3 : u_T := fun k => match k with
  | 0 => ("SendRules$History", "changes", "[LSendRules$Change;", true)
  | _ => ("SendRules$History", "size", "I", false)
def tyX3 : Nat → FieldType := fun k => match k with
  | 0 => .array (.object "SendRules$Change")
  | _ => .int
theorem nmX3 : ∀ a, a < 2 → ∀ b, b < 2 → a ≠ b → (TX3 a).2.1 ≠ (TX3 b).2.1 := by decide +kernel
theorem tyX3_ok : ∀ k, k < 2 → parseFieldDescriptor (TX3 k).2.2.1 = some (tyX3 k) := by decide +kernel
abbrev cX3_init : ByteArray := prog_5_method_1_code
def yX3_init : MethodName := ⟨RX3, "<init>", "()V"⟩
abbrev cX3_clear : ByteArray := prog_5_method_2_code
def yX3_clear : MethodName := ⟨RX3, "clear", "()V"⟩
abbrev cX3_add : ByteArray := prog_5_method_3_code
def yX3_add : MethodName := ⟨RX3, "add", "()LSendRules$Change;"⟩
abbrev cX3_takeLatest : ByteArray := prog_5_method_4_code
def yX3_takeLatest : MethodName := ⟨RX3, "takeLatest", "()LSendRules$Change;"⟩
def RX4 : String := "SendRules$KeptCheck"
def TX4 : u_T := fun k => match k with
  | _ => ("SendRules$KeptCheck", "values", "[I", true)
def tyX4 : Nat → FieldType := fun k => match k with
  | _ => .array .int
theorem nmX4 : ∀ a, a < 1 → ∀ b, b < 1 → a ≠ b → (TX4 a).2.1 ≠ (TX4 b).2.1 := by decide +kernel
theorem tyX4_ok : ∀ k, k < 1 → parseFieldDescriptor (TX4 k).2.2.1 = some (tyX4 k) := by decide +kernel
abbrev cX4_init : ByteArray := prog_6_method_1_code
def yX4_init : MethodName := ⟨RX4, "<init>", "()V"⟩
abbrev cX4_isOf : ByteArray := prog_6_method_2_code
def yX4_isOf : MethodName := ⟨RX4, "isOf", "(III)Z"⟩
def RX5 : String := "SendRules$KeptChecks"
def TX5 : u_T := fun k => match k with
  | 0 => ("SendRules$KeptChecks", "checks", "[LSendRules$KeptCheck;", true)
  | _ => ("SendRules$KeptChecks", "size", "I", false)
def tyX5 : Nat → FieldType := fun k => match k with
  | 0 => .array (.object "SendRules$KeptCheck")
  | _ => .int
theorem nmX5 : ∀ a, a < 2 → ∀ b, b < 2 → a ≠ b → (TX5 a).2.1 ≠ (TX5 b).2.1 := by decide +kernel
theorem tyX5_ok : ∀ k, k < 2 → parseFieldDescriptor (TX5 k).2.2.1 = some (tyX5 k) := by decide +kernel
abbrev cX5_init : ByteArray := prog_7_method_1_code
def yX5_init : MethodName := ⟨RX5, "<init>", "()V"⟩
abbrev cX5_clear : ByteArray := prog_7_method_2_code
def yX5_clear : MethodName := ⟨RX5, "clear", "()V"⟩
abbrev cX5_valueOf : ByteArray := prog_7_method_3_code
def yX5_valueOf : MethodName := ⟨RX5, "valueOf", "(II)I"⟩
abbrev cX5_keep : ByteArray := prog_7_method_4_code
def yX5_keep : MethodName := ⟨RX5, "keep", "(LSendRules$Evaluator;II)V"⟩
abbrev cX5_placeFor : ByteArray := prog_7_method_5_code
def yX5_placeFor : MethodName := ⟨RX5, "placeFor", "(III)LSendRules$KeptCheck;"⟩
def RX6 : String := "SendRules$NameMaker"
def TX6 : u_T := fun k => match k with
  | 0 => ("SendRules$NameMaker", "code", "I", false)
  | _ => ("SendRules$NameMaker", "length", "I", false)
def tyX6 : Nat → FieldType := fun k => match k with
  | 0 => .int
  | _ => .int
theorem nmX6 : ∀ a, a < 2 → ∀ b, b < 2 → a ≠ b → (TX6 a).2.1 ≠ (TX6 b).2.1 := by decide +kernel
theorem tyX6_ok : ∀ k, k < 2 → parseFieldDescriptor (TX6 k).2.2.1 = some (tyX6 k) := by decide +kernel
abbrev cX6_init : ByteArray := prog_8_method_1_code
def yX6_init : MethodName := ⟨RX6, "<init>", "()V"⟩
abbrev cX6_clear : ByteArray := prog_8_method_2_code
def yX6_clear : MethodName := ⟨RX6, "clear", "()V"⟩
abbrev cX6_putBefore : ByteArray := prog_8_method_3_code
def yX6_putBefore : MethodName := ⟨RX6, "putBefore", "(I)V"⟩
abbrev cX6_finished : ByteArray := prog_8_method_4_code
def yX6_finished : MethodName := ⟨RX6, "finished", "()I"⟩
def RX7 : String := "SendRules$Reader"
def TX7 : u_T := fun k => match k with
  | 0 => ("SendRules$Reader", "text", "[C", true)
  | 1 => ("SendRules$Reader", "length", "I", false)
  | 2 => ("SendRules$Reader", "at", "I", false)
  | _ => ("SendRules$Reader", "maker", "LSendRules$NameMaker;", true)
def tyX7 : Nat → FieldType := fun k => match k with
  | 0 => .array .char
  | 1 => .int
  | 2 => .int
  | _ => .object "SendRules$NameMaker"
theorem nmX7 : ∀ a, a < 4 → ∀ b, b < 4 → a ≠ b → (TX7 a).2.1 ≠ (TX7 b).2.1 := by decide +kernel
theorem tyX7_ok : ∀ k, k < 4 → parseFieldDescriptor (TX7 k).2.2.1 = some (tyX7 k) := by decide +kernel
abbrev cX7_init : ByteArray := prog_9_method_1_code
def yX7_init : MethodName := ⟨RX7, "<init>", "()V"⟩
abbrev cX7_append : ByteArray := prog_9_method_2_code
def yX7_append : MethodName := ⟨RX7, "append", "(C)Z"⟩
abbrev cX7_empty : ByteArray := prog_9_method_3_code
def yX7_empty : MethodName := ⟨RX7, "empty", "()V"⟩
abbrev cX7_readAll : ByteArray := prog_9_method_4_code
def yX7_readAll : MethodName := ⟨RX7, "readAll", "(LSendRules$Records;)I"⟩
abbrev cX7_readWholeAsName : ByteArray := prog_9_method_5_code
def yX7_readWholeAsName : MethodName := ⟨RX7, "readWholeAsName", "()I"⟩
abbrev cX7_peek : ByteArray := prog_9_method_6_code
def yX7_peek : MethodName := ⟨RX7, "peek", "()C"⟩
abbrev cX7_next : ByteArray := prog_9_method_7_code
def yX7_next : MethodName := ⟨RX7, "next", "()C"⟩
abbrev cX7_take : ByteArray := prog_9_method_8_code
def yX7_take : MethodName := ⟨RX7, "take", "(C)Z"⟩
abbrev cX7_readItem : ByteArray := prog_9_method_9_code
def yX7_readItem : MethodName := ⟨RX7, "readItem", "(LSendRules$Records;)Z"⟩
abbrev cX7_readPolicy : ByteArray := prog_9_method_10_code
def yX7_readPolicy : MethodName := ⟨RX7, "readPolicy", "(LSendRules$Domain;)Z"⟩
abbrev cX7_readHosts : ByteArray := prog_9_method_11_code
def yX7_readHosts : MethodName := ⟨RX7, "readHosts", "(LSendRules$Domain;)Z"⟩
abbrev cX7_readExchangers : ByteArray := prog_9_method_12_code
def yX7_readExchangers : MethodName := ⟨RX7, "readExchangers", "(LSendRules$Domain;)Z"⟩
abbrev cX7_readRule : ByteArray := prog_9_method_13_code
def yX7_readRule : MethodName := ⟨RX7, "readRule", "(LSendRules$Rule;)Z"⟩
abbrev cX7_readPrefix : ByteArray := prog_9_method_14_code
def yX7_readPrefix : MethodName := ⟨RX7, "readPrefix", "(LSendRules$Rule;)Z"⟩
abbrev cX7_readMacro : ByteArray := prog_9_method_15_code
def yX7_readMacro : MethodName := ⟨RX7, "readMacro", "(LSendRules$Rule;)Z"⟩
abbrev cX7_readPart : ByteArray := prog_9_method_16_code
def yX7_readPart : MethodName := ⟨RX7, "readPart", "()I"⟩
abbrev cX7_readName : ByteArray := prog_9_method_17_code
def yX7_readName : MethodName := ⟨RX7, "readName", "()I"⟩
abbrev cX7_readNumber : ByteArray := prog_9_method_18_code
def yX7_readNumber : MethodName := ⟨RX7, "readNumber", "(I)I"⟩
def RX8 : String := "SendRules$Records"
def TX8 : u_T := fun k => match k with
  | 0 => ("SendRules$Records", "domains", "[LSendRules$Domain;", true)
  | _ => ("SendRules$Records", "size", "I", false)
def tyX8 : Nat → FieldType := fun k => match k with
  | 0 => .array (.object "SendRules$Domain")
  | _ => .int
theorem nmX8 : ∀ a, a < 2 → ∀ b, b < 2 → a ≠ b → (TX8 a).2.1 ≠ (TX8 b).2.1 := by decide +kernel
theorem tyX8_ok : ∀ k, k < 2 → parseFieldDescriptor (TX8 k).2.2.1 = some (tyX8 k) := by decide +kernel
abbrev cX8_init : ByteArray := prog_10_method_1_code
def yX8_init : MethodName := ⟨RX8, "<init>", "()V"⟩
abbrev cX8_clear : ByteArray := prog_10_method_2_code
def yX8_clear : MethodName := ⟨RX8, "clear", "()V"⟩
abbrev cX8_domainAt : ByteArray := prog_10_method_3_code
def yX8_domainAt : MethodName := ⟨RX8, "domainAt", "(I)LSendRules$Domain;"⟩
abbrev cX8_firstNotBefore : ByteArray := prog_10_method_4_code
def yX8_firstNotBefore : MethodName := ⟨RX8, "firstNotBefore", "(I)I"⟩
abbrev cX8_find : ByteArray := prog_10_method_5_code
def yX8_find : MethodName := ⟨RX8, "find", "(I)I"⟩
abbrev cX8_domainOf : ByteArray := prog_10_method_6_code
def yX8_domainOf : MethodName := ⟨RX8, "domainOf", "(I)LSendRules$Domain;"⟩
abbrev cX8_findOrAdd : ByteArray := prog_10_method_7_code
def yX8_findOrAdd : MethodName := ⟨RX8, "findOrAdd", "(I)LSendRules$Domain;"⟩
abbrev cX8_policies : ByteArray := prog_10_method_8_code
def yX8_policies : MethodName := ⟨RX8, "policies", "()I"⟩
abbrev cX8_rules : ByteArray := prog_10_method_9_code
def yX8_rules : MethodName := ⟨RX8, "rules", "()I"⟩
abbrev cX8_hosts : ByteArray := prog_10_method_10_code
def yX8_hosts : MethodName := ⟨RX8, "hosts", "()I"⟩
abbrev cX8_directlyLedTo : ByteArray := prog_10_method_11_code
def yX8_directlyLedTo : MethodName := ⟨RX8, "directlyLedTo", "(I)I"⟩
abbrev cX8_bitIfPolicy : ByteArray := prog_10_method_12_code
def yX8_bitIfPolicy : MethodName := ⟨RX8, "bitIfPolicy", "(I)I"⟩
def RX9 : String := "SendRules$Rule"
def TX9 : u_T := fun k => match k with
  | 0 => ("SendRules$Rule", "sign", "I", false)
  | 1 => ("SendRules$Rule", "kind", "I", false)
  | 2 => ("SendRules$Rule", "address", "I", false)
  | 3 => ("SendRules$Rule", "bits", "I", false)
  | 4 => ("SendRules$Rule", "target", "I", false)
  | 5 => ("SendRules$Rule", "parts", "[I", true)
  | _ => ("SendRules$Rule", "partCount", "I", false)
def tyX9 : Nat → FieldType := fun k => match k with
  | 0 => .int
  | 1 => .int
  | 2 => .int
  | 3 => .int
  | 4 => .int
  | 5 => .array .int
  | _ => .int
theorem nmX9 : ∀ a, a < 7 → ∀ b, b < 7 → a ≠ b → (TX9 a).2.1 ≠ (TX9 b).2.1 := by decide +kernel
theorem tyX9_ok : ∀ k, k < 7 → parseFieldDescriptor (TX9 k).2.2.1 = some (tyX9 k) := by decide +kernel
abbrev cX9_init : ByteArray := prog_11_method_1_code
def yX9_init : MethodName := ⟨RX9, "<init>", "()V"⟩
abbrev cX9_start : ByteArray := prog_11_method_2_code
def yX9_start : MethodName := ⟨RX9, "start", "(II)V"⟩
abbrev cX9_hasPrefixOf : ByteArray := prog_11_method_3_code
def yX9_hasPrefixOf : MethodName := ⟨RX9, "hasPrefixOf", "(I)Z"⟩
def RX10 : String := "SendRules"
def TX10 : u_T := fun k => match k with
  | 0 => ("SendRules", "reader", "LSendRules$Reader;", true)
  | 1 => ("SendRules", "present", "LSendRules$Records;", false)
  | 2 => ("SendRules", "spare", "LSendRules$Records;", false)
  | 3 => ("SendRules", "evaluator", "LSendRules$Evaluator;", true)
  | 4 => ("SendRules", "keptChecks", "LSendRules$KeptChecks;", true)
  | _ => ("SendRules", "history", "LSendRules$History;", true)
def tyX10 : Nat → FieldType := fun k => match k with
  | 0 => .object "SendRules$Reader"
  | 1 => .object "SendRules$Records"
  | 2 => .object "SendRules$Records"
  | 3 => .object "SendRules$Evaluator"
  | 4 => .object "SendRules$KeptChecks"
  | _ => .object "SendRules$History"
theorem nmX10 : ∀ a, a < 6 → ∀ b, b < 6 → a ≠ b → (TX10 a).2.1 ≠ (TX10 b).2.1 := by decide +kernel
theorem tyX10_ok : ∀ k, k < 6 → parseFieldDescriptor (TX10 k).2.2.1 = some (tyX10 k) := by decide +kernel
abbrev cX10_init : ByteArray := prog_1_method_1_code
def yX10_init : MethodName := ⟨RX10, "<init>", "()V"⟩
abbrev cX10_write : ByteArray := prog_1_method_2_code
def yX10_write : MethodName := ⟨RX10, "write", "(I)I"⟩
abbrev cX10_wipe : ByteArray := prog_1_method_3_code
def yX10_wipe : MethodName := ⟨RX10, "wipe", "()I"⟩
abbrev cX10_fault : ByteArray := prog_1_method_4_code
def yX10_fault : MethodName := ⟨RX10, "fault", "()I"⟩
abbrev cX10_lay : ByteArray := prog_1_method_5_code
def yX10_lay : MethodName := ⟨RX10, "lay", "()I"⟩
abbrev cX10_named : ByteArray := prog_1_method_6_code
def yX10_named : MethodName := ⟨RX10, "named", "(I)I"⟩
abbrev cX10_check : ByteArray := prog_1_method_7_code
def yX10_check : MethodName := ⟨RX10, "check", "(III)I"⟩
abbrev cX10_kept : ByteArray := prog_1_method_8_code
def yX10_kept : MethodName := ⟨RX10, "kept", "(II)I"⟩
abbrev cX10_sign : ByteArray := prog_1_method_9_code
def yX10_sign : MethodName := ⟨RX10, "sign", "(III)I"⟩
abbrev cX10_swap : ByteArray := prog_1_method_10_code
def yX10_swap : MethodName := ⟨RX10, "swap", "(II)I"⟩
abbrev cX10_host : ByteArray := prog_1_method_11_code
def yX10_host : MethodName := ⟨RX10, "host", "(III)I"⟩
abbrev cX10_undo : ByteArray := prog_1_method_12_code
def yX10_undo : MethodName := ⟨RX10, "undo", "()I"⟩
abbrev cX10_name : ByteArray := prog_1_method_13_code
def yX10_name : MethodName := ⟨RX10, "name", "(II)I"⟩
abbrev cX10_letter : ByteArray := prog_1_method_14_code
def yX10_letter : MethodName := ⟨RX10, "letter", "(II)I"⟩
abbrev cX10_rule : ByteArray := prog_1_method_15_code
def yX10_rule : MethodName := ⟨RX10, "rule", "(III)I"⟩
abbrev cX10_hostOf : ByteArray := prog_1_method_16_code
def yX10_hostOf : MethodName := ⟨RX10, "hostOf", "(II)I"⟩
abbrev cX10_many : ByteArray := prog_1_method_17_code
def yX10_many : MethodName := ⟨RX10, "many", "(III)I"⟩
abbrev cX10_dead : ByteArray := prog_1_method_18_code
def yX10_dead : MethodName := ⟨RX10, "dead", "(II)I"⟩
abbrev cX10_lookups : ByteArray := prog_1_method_19_code
def yX10_lookups : MethodName := ⟨RX10, "lookups", "(IIII)I"⟩
abbrev cX10_leads : ByteArray := prog_1_method_20_code
def yX10_leads : MethodName := ⟨RX10, "leads", "(I)I"⟩
abbrev cX10_count : ByteArray := prog_1_method_21_code
def yX10_count : MethodName := ⟨RX10, "count", "(I)I"⟩
abbrev cX10_isKnown : ByteArray := prog_1_method_22_code
def yX10_isKnown : MethodName := ⟨RX10, "isKnown", "(I)Z"⟩
abbrev cX10_isAddress : ByteArray := prog_1_method_23_code
def yX10_isAddress : MethodName := ⟨RX10, "isAddress", "(I)Z"⟩
abbrev cX10_isLetter : ByteArray := prog_1_method_24_code
def yX10_isLetter : MethodName := ⟨RX10, "isLetter", "(I)Z"⟩
abbrev cX10_ruleAt : ByteArray := prog_1_method_25_code
def yX10_ruleAt : MethodName := ⟨RX10, "ruleAt", "(II)LSendRules$Rule;"⟩
abbrev cX10_numberOrNone : ByteArray := prog_1_method_26_code
def yX10_numberOrNone : MethodName := ⟨RX10, "numberOrNone", "(I)I"⟩
abbrev cX10_noteChange : ByteArray := prog_1_method_27_code
def yX10_noteChange : MethodName := ⟨RX10, "noteChange", "(IIII)V"⟩
abbrev cX10_takeBack : ByteArray := prog_1_method_28_code
def yX10_takeBack : MethodName := ⟨RX10, "takeBack", "(LSendRules$Change;)V"⟩
abbrev cX10_floatBitsOfMean : ByteArray := prog_1_method_29_code
def yX10_floatBitsOfMean : MethodName := ⟨RX10, "floatBitsOfMean", "(I)I"⟩
def RX11 : String := "SendRulesModel"
def TX11 : u_T := fun k => match k with
  | 0 => ("SendRulesModel", "length", "I", false)
  | 1 => ("SendRulesModel", "text", "[I", true)
  | 2 => ("SendRulesModel", "names", "I", false)
  | 3 => ("SendRulesModel", "key", "[I", true)
  | 4 => ("SendRulesModel", "rules", "[I", true)
  | 5 => ("SendRulesModel", "another", "[I", true)
  | 6 => ("SendRulesModel", "exchangers", "[I", true)
  | 7 => ("SendRulesModel", "exchanger", "[I", true)
  | 8 => ("SendRulesModel", "kind", "[I", true)
  | 9 => ("SendRulesModel", "address", "[I", true)
  | 10 => ("SendRulesModel", "bits", "[I", true)
  | 11 => ("SendRulesModel", "nameOf", "[I", true)
  | 12 => ("SendRulesModel", "parts", "[I", true)
  | 13 => ("SendRulesModel", "part", "[I", true)
  | 14 => ("SendRulesModel", "now", "[I", true)
  | 15 => ("SendRulesModel", "was", "[I", true)
  | 16 => ("SendRulesModel", "changes", "I", false)
  | 17 => ("SendRulesModel", "readNames", "I", false)
  | 18 => ("SendRulesModel", "readKey", "[I", true)
  | 19 => ("SendRulesModel", "readRules", "[I", true)
  | 20 => ("SendRulesModel", "readAnother", "[I", true)
  | 21 => ("SendRulesModel", "readExchangers", "[I", true)
  | 22 => ("SendRulesModel", "readExchanger", "[I", true)
  | 23 => ("SendRulesModel", "readKind", "[I", true)
  | 24 => ("SendRulesModel", "readAddress", "[I", true)
  | 25 => ("SendRulesModel", "readBits", "[I", true)
  | 26 => ("SendRulesModel", "readName", "[I", true)
  | 27 => ("SendRulesModel", "readParts", "[I", true)
  | 28 => ("SendRulesModel", "readPart", "[I", true)
  | 29 => ("SendRulesModel", "readSign", "[I", true)
  | 30 => ("SendRulesModel", "readHosts", "[I", true)
  | 31 => ("SendRulesModel", "readHost", "[I", true)
  | 32 => ("SendRulesModel", "at", "I", false)
  | 33 => ("SendRulesModel", "value", "I", false)
  | 34 => ("SendRulesModel", "kept", "I", false)
  | 35 => ("SendRulesModel", "row", "[I", true)
  | 36 => ("SendRulesModel", "asked", "I", false)
  | 37 => ("SendRulesModel", "whence", "I", false)
  | 38 => ("SendRulesModel", "sign", "I", false)
  | 39 => ("SendRulesModel", "lookups", "I", false)
  | 40 => ("SendRulesModel", "empties", "I", false)
  | 41 => ("SendRulesModel", "decidedName", "I", false)
  | 42 => ("SendRulesModel", "decidedRule", "I", false)
  | 43 => ("SendRulesModel", "tried", "[I", true)
  | 44 => ("SendRulesModel", "which", "[I", true)
  | 45 => ("SendRulesModel", "deep", "I", false)
  | 46 => ("SendRulesModel", "letters", "[I", true)
  | _ => ("SendRulesModel", "letterMany", "I", false)
def tyX11 : Nat → FieldType := fun k => match k with
  | 0 => .int
  | 1 => .array .int
  | 2 => .int
  | 3 => .array .int
  | 4 => .array .int
  | 5 => .array .int
  | 6 => .array .int
  | 7 => .array .int
  | 8 => .array .int
  | 9 => .array .int
  | 10 => .array .int
  | 11 => .array .int
  | 12 => .array .int
  | 13 => .array .int
  | 14 => .array .int
  | 15 => .array .int
  | 16 => .int
  | 17 => .int
  | 18 => .array .int
  | 19 => .array .int
  | 20 => .array .int
  | 21 => .array .int
  | 22 => .array .int
  | 23 => .array .int
  | 24 => .array .int
  | 25 => .array .int
  | 26 => .array .int
  | 27 => .array .int
  | 28 => .array .int
  | 29 => .array .int
  | 30 => .array .int
  | 31 => .array .int
  | 32 => .int
  | 33 => .int
  | 34 => .int
  | 35 => .array .int
  | 36 => .int
  | 37 => .int
  | 38 => .int
  | 39 => .int
  | 40 => .int
  | 41 => .int
  | 42 => .int
  | 43 => .array .int
  | 44 => .array .int
  | 45 => .int
  | 46 => .array .int
  | _ => .int
theorem nmX11 : ∀ a, a < 48 → ∀ b, b < 48 → a ≠ b → (TX11 a).2.1 ≠ (TX11 b).2.1 := by decide +kernel
theorem tyX11_ok : ∀ k, k < 48 → parseFieldDescriptor (TX11 k).2.2.1 = some (tyX11 k) := by decide +kernel
abbrev cX11_init : ByteArray := prog_13_method_1_code
def yX11_init : MethodName := ⟨RX11, "<init>", "()V"⟩
abbrev cX11_tells : ByteArray := prog_13_method_2_code
def yX11_tells : MethodName := ⟨RX11, "tells", "(IIIII)V"⟩
abbrev cX11_isIn : ByteArray := prog_13_method_3_code
def yX11_isIn : MethodName := ⟨RX11, "isIn", "(III)Z"⟩
abbrev cX11_longer : ByteArray := prog_13_method_4_code
def yX11_longer : MethodName := ⟨RX11, "longer", "(II)I"⟩
abbrev cX11_lettersOf : ByteArray := prog_13_method_5_code
def yX11_lettersOf : MethodName := ⟨RX11, "lettersOf", "(I)I"⟩
abbrev cX11_fromLast : ByteArray := prog_13_method_6_code
def yX11_fromLast : MethodName := ⟨RX11, "fromLast", "(II)I"⟩
abbrev cX11_numberOf : ByteArray := prog_13_method_7_code
def yX11_numberOf : MethodName := ⟨RX11, "numberOf", "(I)I"⟩
abbrev cX11_next : ByteArray := prog_13_method_8_code
def yX11_next : MethodName := ⟨RX11, "next", "()I"⟩
abbrev cX11_comes : ByteArray := prog_13_method_9_code
def yX11_comes : MethodName := ⟨RX11, "comes", "(I)Z"⟩
abbrev cX11_readsName : ByteArray := prog_13_method_10_code
def yX11_readsName : MethodName := ⟨RX11, "readsName", "()Z"⟩
abbrev cX11_number : ByteArray := prog_13_method_11_code
def yX11_number : MethodName := ⟨RX11, "number", "(I)Z"⟩
abbrev cX11_slotOf : ByteArray := prog_13_method_12_code
def yX11_slotOf : MethodName := ⟨RX11, "slotOf", "(I)I"⟩
abbrev cX11_sortOf : ByteArray := prog_13_method_13_code
def yX11_sortOf : MethodName := ⟨RX11, "sortOf", "(I)I"⟩
abbrev cX11_readsPart : ByteArray := prog_13_method_14_code
def yX11_readsPart : MethodName := ⟨RX11, "readsPart", "()Z"⟩
abbrev cX11_macro : ByteArray := prog_13_method_15_code
def yX11_macro : MethodName := ⟨RX11, "macro", "(I)Z"⟩
abbrev cX11_asks : ByteArray := prog_13_method_16_code
def yX11_asks : MethodName := ⟨RX11, "asks", "(I)Z"⟩
abbrev cX11_signOf : ByteArray := prog_13_method_17_code
def yX11_signOf : MethodName := ⟨RX11, "signOf", "(I)I"⟩
abbrev cX11_rulesOf : ByteArray := prog_13_method_18_code
def yX11_rulesOf : MethodName := ⟨RX11, "rulesOf", "(I)Z"⟩
abbrev cX11_hostsOf : ByteArray := prog_13_method_19_code
def yX11_hostsOf : MethodName := ⟨RX11, "hostsOf", "(I)Z"⟩
abbrev cX11_exchangersOf : ByteArray := prog_13_method_20_code
def yX11_exchangersOf : MethodName := ⟨RX11, "exchangersOf", "(I)Z"⟩
abbrev cX11_item : ByteArray := prog_13_method_21_code
def yX11_item : MethodName := ⟨RX11, "item", "()Z"⟩
abbrev cX11_reads : ByteArray := prog_13_method_22_code
def yX11_reads : MethodName := ⟨RX11, "reads", "()I"⟩
abbrev cX11_write : ByteArray := prog_13_method_23_code
def yX11_write : MethodName := ⟨RX11, "write", "(I)I"⟩
abbrev cX11_wipe : ByteArray := prog_13_method_24_code
def yX11_wipe : MethodName := ⟨RX11, "wipe", "()I"⟩
abbrev cX11_fault : ByteArray := prog_13_method_25_code
def yX11_fault : MethodName := ⟨RX11, "fault", "()I"⟩
abbrev cX11_takes : ByteArray := prog_13_method_26_code
def yX11_takes : MethodName := ⟨RX11, "takes", "(II)V"⟩
abbrev cX11_lay : ByteArray := prog_13_method_27_code
def yX11_lay : MethodName := ⟨RX11, "lay", "()I"⟩
abbrev cX11_named : ByteArray := prog_13_method_28_code
def yX11_named : MethodName := ⟨RX11, "named", "(I)I"⟩
abbrev cX11_looks : ByteArray := prog_13_method_29_code
def yX11_looks : MethodName := ⟨RX11, "looks", "()Z"⟩
abbrev cX11_isEmpty : ByteArray := prog_13_method_30_code
def yX11_isEmpty : MethodName := ⟨RX11, "isEmpty", "()Z"⟩
abbrev cX11_hasHost : ByteArray := prog_13_method_31_code
def yX11_hasHost : MethodName := ⟨RX11, "hasHost", "(II)Z"⟩
abbrev cX11_hostMany : ByteArray := prog_13_method_32_code
def yX11_hostMany : MethodName := ⟨RX11, "hostMany", "(I)I"⟩
abbrev cX11_spells : ByteArray := prog_13_method_33_code
def yX11_spells : MethodName := ⟨RX11, "spells", "(I)V"⟩
abbrev cX11_spellsPart : ByteArray := prog_13_method_34_code
def yX11_spellsPart : MethodName := ⟨RX11, "spellsPart", "(I)V"⟩
abbrev cX11_macroName : ByteArray := prog_13_method_35_code
def yX11_macroName : MethodName := ⟨RX11, "macroName", "(I)I"⟩
abbrev cX11_fits : ByteArray := prog_13_method_36_code
def yX11_fits : MethodName := ⟨RX11, "fits", "(I)I"⟩
abbrev cX11_answerOf : ByteArray := prog_13_method_37_code
def yX11_answerOf : MethodName := ⟨RX11, "answerOf", "(I)I"⟩
abbrev cX11_ruleAt : ByteArray := prog_13_method_38_code
def yX11_ruleAt : MethodName := ⟨RX11, "ruleAt", "(II)I"⟩
abbrev cX11_signAt : ByteArray := prog_13_method_39_code
def yX11_signAt : MethodName := ⟨RX11, "signAt", "(II)I"⟩
abbrev cX11_ends : ByteArray := prog_13_method_40_code
def yX11_ends : MethodName := ⟨RX11, "ends", "(II)I"⟩
abbrev cX11_enters : ByteArray := prog_13_method_41_code
def yX11_enters : MethodName := ⟨RX11, "enters", "(I)Z"⟩
abbrev cX11_error : ByteArray := prog_13_method_42_code
def yX11_error : MethodName := ⟨RX11, "error", "()I"⟩
abbrev cX11_goes : ByteArray := prog_13_method_43_code
def yX11_goes : MethodName := ⟨RX11, "goes", "(III)I"⟩
abbrev cX11_isName : ByteArray := prog_13_method_44_code
def yX11_isName : MethodName := ⟨RX11, "isName", "(I)Z"⟩
abbrev cX11_isRule : ByteArray := prog_13_method_45_code
def yX11_isRule : MethodName := ⟨RX11, "isRule", "(II)Z"⟩
abbrev cX11_check : ByteArray := prog_13_method_46_code
def yX11_check : MethodName := ⟨RX11, "check", "(III)I"⟩
abbrev cX11_kept : ByteArray := prog_13_method_47_code
def yX11_kept : MethodName := ⟨RX11, "kept", "(II)I"⟩
abbrev cX11_keeps : ByteArray := prog_13_method_48_code
def yX11_keeps : MethodName := ⟨RX11, "keeps", "()V"⟩
abbrev cX11_undo : ByteArray := prog_13_method_49_code
def yX11_undo : MethodName := ⟨RX11, "undo", "()I"⟩
abbrev cX11_sign : ByteArray := prog_13_method_50_code
def yX11_sign : MethodName := ⟨RX11, "sign", "(III)I"⟩
abbrev cX11_swap : ByteArray := prog_13_method_51_code
def yX11_swap : MethodName := ⟨RX11, "swap", "(II)I"⟩
abbrev cX11_host : ByteArray := prog_13_method_52_code
def yX11_host : MethodName := ⟨RX11, "host", "(III)I"⟩
abbrev cX11_name : ByteArray := prog_13_method_53_code
def yX11_name : MethodName := ⟨RX11, "name", "(II)I"⟩
abbrev cX11_letter : ByteArray := prog_13_method_54_code
def yX11_letter : MethodName := ⟨RX11, "letter", "(II)I"⟩
abbrev cX11_rule : ByteArray := prog_13_method_55_code
def yX11_rule : MethodName := ⟨RX11, "rule", "(III)I"⟩
abbrev cX11_hostOf : ByteArray := prog_13_method_56_code
def yX11_hostOf : MethodName := ⟨RX11, "hostOf", "(II)I"⟩
abbrev cX11_many : ByteArray := prog_13_method_57_code
def yX11_many : MethodName := ⟨RX11, "many", "(III)I"⟩
abbrev cX11_dead : ByteArray := prog_13_method_58_code
def yX11_dead : MethodName := ⟨RX11, "dead", "(II)I"⟩
abbrev cX11_floats : ByteArray := prog_13_method_59_code
def yX11_floats : MethodName := ⟨RX11, "floats", "(I)I"⟩
abbrev cX11_lookups : ByteArray := prog_13_method_60_code
def yX11_lookups : MethodName := ⟨RX11, "lookups", "(IIII)I"⟩
abbrev cX11_leadsOf : ByteArray := prog_13_method_61_code
def yX11_leadsOf : MethodName := ⟨RX11, "leadsOf", "(I)I"⟩
abbrev cX11_leads : ByteArray := prog_13_method_62_code
def yX11_leads : MethodName := ⟨RX11, "leads", "(I)I"⟩
abbrev cX11_count : ByteArray := prog_13_method_63_code
def yX11_count : MethodName := ⟨RX11, "count", "(I)I"⟩
def RJ11 : String := "java/lang/Character"
def TJ11 : u_T := fun k => match k with
  | _ => ("", "", "", false)
def tyJ11 : Nat → FieldType := fun k => match k with
  | _ => .int
theorem nmJ11 : ∀ a, a < 0 → ∀ b, b < 0 → a ≠ b → (TJ11 a).2.1 ≠ (TJ11 b).2.1 := by decide +kernel
theorem tyJ11_ok : ∀ k, k < 0 → parseFieldDescriptor (TJ11 k).2.2.1 = some (tyJ11 k) := by decide +kernel
abbrev cJ11_isValidCodePoint_9a6ad : ByteArray := prog_14_method_11_code
def yJ11_isValidCodePoint_9a6ad : MethodName := ⟨RJ11, "isValidCodePoint", "(I)Z"⟩
abbrev cJ11_highSurrogate_5068e : ByteArray := prog_14_method_28_code
def yJ11_highSurrogate_5068e : MethodName := ⟨RJ11, "highSurrogate", "(I)C"⟩
abbrev cJ11_lowSurrogate_5068e : ByteArray := prog_14_method_29_code
def yJ11_lowSurrogate_5068e : MethodName := ⟨RJ11, "lowSurrogate", "(I)C"⟩
def RJ6 : String := "java/lang/Integer"
def TJ6 : u_T := fun k => match k with
  | _ => ("", "", "", false)
def tyJ6 : Nat → FieldType := fun k => match k with
  | _ => .int
theorem nmJ6 : ∀ a, a < 0 → ∀ b, b < 0 → a ≠ b → (TJ6 a).2.1 ≠ (TJ6 b).2.1 := by decide +kernel
theorem tyJ6_ok : ∀ k, k < 0 → parseFieldDescriptor (TJ6 k).2.2.1 = some (tyJ6 k) := by decide +kernel
abbrev cJ6_numberOfLeadingZeros_0f7a4 : ByteArray := prog_15_method_47_code
def yJ6_numberOfLeadingZeros_0f7a4 : MethodName := ⟨RJ6, "numberOfLeadingZeros", "(I)I"⟩
def RJ9 : String := "java/lang/Math"
def TJ9 : u_T := fun k => match k with
  | _ => ("", "", "", false)
def tyJ9 : Nat → FieldType := fun k => match k with
  | _ => .int
theorem nmJ9 : ∀ a, a < 0 → ∀ b, b < 0 → a ≠ b → (TJ9 a).2.1 ≠ (TJ9 b).2.1 := by decide +kernel
theorem tyJ9_ok : ∀ k, k < 0 → parseFieldDescriptor (TJ9 k).2.2.1 = some (tyJ9 k) := by decide +kernel
abbrev cJ9_max_7cf53 : ByteArray := prog_16_method_65_code
def yJ9_max_7cf53 : MethodName := ⟨RJ9, "max", "(II)I"⟩
abbrev cJ9_min_7cf53 : ByteArray := prog_16_method_69_code
def yJ9_min_7cf53 : MethodName := ⟨RJ9, "min", "(II)I"⟩
def RJ0 : String := "java/lang/String"
def TJ0 : u_T := fun k => match k with
  | _ => ("", "", "", false)
def tyJ0 : Nat → FieldType := fun k => match k with
  | _ => .int
theorem nmJ0 : ∀ a, a < 0 → ∀ b, b < 0 → a ≠ b → (TJ0 a).2.1 ≠ (TJ0 b).2.1 := by decide +kernel
theorem tyJ0_ok : ∀ k, k < 0 → parseFieldDescriptor (TJ0 k).2.2.1 = some (tyJ0 k) := by decide +kernel
abbrev cJ0_length_8abf5 : ByteArray := prog_17_method_54_code
def yJ0_length_8abf5 : MethodName := ⟨RJ0, "length", "()I"⟩
abbrev cJ0_charAt_5068e : ByteArray := prog_17_method_56_code
def yJ0_charAt_5068e : MethodName := ⟨RJ0, "charAt", "(I)C"⟩
abbrev cJ0_indexOf_0f7a4 : ByteArray := prog_17_method_79_code
def yJ0_indexOf_0f7a4 : MethodName := ⟨RJ0, "indexOf", "(I)I"⟩
abbrev cJ0_indexOf_7cf53 : ByteArray := prog_17_method_80_code
def yJ0_indexOf_7cf53 : MethodName := ⟨RJ0, "indexOf", "(II)I"⟩
abbrev cJ0_coder_7d493 : ByteArray := prog_17_method_152_code
def yJ0_coder_7d493 : MethodName := ⟨RJ0, "coder", "()B"⟩
abbrev cJ0_isLatin1_aae02 : ByteArray := prog_17_method_154_code
def yJ0_isLatin1_aae02 : MethodName := ⟨RJ0, "isLatin1", "()Z"⟩
abbrev cJ0_checkIndex_df160 : ByteArray := prog_17_method_155_code
def yJ0_checkIndex_df160 : MethodName := ⟨RJ0, "checkIndex", "(II)V"⟩
abbrev cJ0_checkBoundsBeginEnd_23922 : ByteArray := prog_17_method_158_code
def yJ0_checkBoundsBeginEnd_23922 : MethodName := ⟨RJ0, "checkBoundsBeginEnd", "(III)V"⟩
def RJ1 : String := "java/lang/StringLatin1"
def TJ1 : u_T := fun k => match k with
  | _ => ("", "", "", false)
def tyJ1 : Nat → FieldType := fun k => match k with
  | _ => .int
theorem nmJ1 : ∀ a, a < 0 → ∀ b, b < 0 → a ≠ b → (TJ1 a).2.1 ≠ (TJ1 b).2.1 := by decide +kernel
theorem tyJ1_ok : ∀ k, k < 0 → parseFieldDescriptor (TJ1 k).2.2.1 = some (tyJ1 k) := by decide +kernel
abbrev cJ1_charAt_3b067 : ByteArray := prog_18_method_2_code
def yJ1_charAt_3b067 : MethodName := ⟨RJ1, "charAt", "([BI)C"⟩
abbrev cJ1_canEncode_9a6ad : ByteArray := prog_18_method_4_code
def yJ1_canEncode_9a6ad : MethodName := ⟨RJ1, "canEncode", "(I)Z"⟩
abbrev cJ1_indexOf_4cfef : ByteArray := prog_18_method_22_code
def yJ1_indexOf_4cfef : MethodName := ⟨RJ1, "indexOf", "([BIII)I"⟩
abbrev cJ1_indexOfChar_4cfef : ByteArray := prog_18_method_23_code
def yJ1_indexOfChar_4cfef : MethodName := ⟨RJ1, "indexOfChar", "([BIII)I"⟩
def RJ2 : String := "java/lang/StringUTF16"
def TJ2 : u_T := fun k => match k with
  | _ => ("", "", "", false)
def tyJ2 : Nat → FieldType := fun k => match k with
  | _ => .int
theorem nmJ2 : ∀ a, a < 0 → ∀ b, b < 0 → a ≠ b → (TJ2 a).2.1 ≠ (TJ2 b).2.1 := by decide +kernel
theorem tyJ2_ok : ∀ k, k < 0 → parseFieldDescriptor (TJ2 k).2.2.1 = some (tyJ2 k) := by decide +kernel
abbrev cJ2_getChar_3b067 : ByteArray := prog_19_method_5_code
def yJ2_getChar_3b067 : MethodName := ⟨RJ2, "getChar", "([BI)C"⟩
abbrev cJ2_length_9d52b : ByteArray := prog_19_method_6_code
def yJ2_length_9d52b : MethodName := ⟨RJ2, "length", "([B)I"⟩
abbrev cJ2_indexOf_4cfef : ByteArray := prog_19_method_40_code
def yJ2_indexOf_4cfef : MethodName := ⟨RJ2, "indexOf", "([BIII)I"⟩
abbrev cJ2_indexOfChar_4cfef : ByteArray := prog_19_method_47_code
def yJ2_indexOfChar_4cfef : MethodName := ⟨RJ2, "indexOfChar", "([BIII)I"⟩
abbrev cJ2_indexOfCharUnsafe_4cfef : ByteArray := prog_19_method_48_code
def yJ2_indexOfCharUnsafe_4cfef : MethodName := ⟨RJ2, "indexOfCharUnsafe", "([BIII)I"⟩
abbrev cJ2_indexOfSupplementary_4cfef : ByteArray := prog_19_method_49_code
def yJ2_indexOfSupplementary_4cfef : MethodName := ⟨RJ2, "indexOfSupplementary", "([BIII)I"⟩
abbrev cJ2_charAt_3b067 : ByteArray := prog_19_method_83_code
def yJ2_charAt_3b067 : MethodName := ⟨RJ2, "charAt", "([BI)C"⟩
abbrev cJ2_checkIndex_2214a : ByteArray := prog_19_method_91_code
def yJ2_checkIndex_2214a : MethodName := ⟨RJ2, "checkIndex", "(I[B)V"⟩
abbrev cJ2_checkBoundsBeginEnd_d044e : ByteArray := prog_19_method_93_code
def yJ2_checkBoundsBeginEnd_d044e : MethodName := ⟨RJ2, "checkBoundsBeginEnd", "(II[B)V"⟩
def RJ3 : String := "jdk/internal/util/Preconditions"
def TJ3 : u_T := fun k => match k with
  | _ => ("", "", "", false)
def tyJ3 : Nat → FieldType := fun k => match k with
  | _ => .int
theorem nmJ3 : ∀ a, a < 0 → ∀ b, b < 0 → a ≠ b → (TJ3 a).2.1 ≠ (TJ3 b).2.1 := by decide +kernel
theorem tyJ3_ok : ∀ k, k < 0 → parseFieldDescriptor (TJ3 k).2.2.1 = some (tyJ3 k) := by decide +kernel
abbrev cJ3_checkIndex_8e157 : ByteArray := prog_20_method_11_code
def yJ3_checkIndex_8e157 : MethodName := ⟨RJ3, "checkIndex", "(IILjava/util/function/BiFunction;)I"⟩
abbrev cJ3_checkFromToIndex_8c36e : ByteArray := prog_20_method_12_code
def yJ3_checkFromToIndex_8c36e : MethodName := ⟨RJ3, "checkFromToIndex", "(IIILjava/util/function/BiFunction;)I"⟩
end
section
theorem dX0_init_0 : decode cX0_init 0 = .ok (.aload_n 0, 1) := by decide +kernel
theorem dX0_init_1 : decode cX0_init 1 = .ok (.invokespecial 1, 3) := by decide +kernel
theorem dX0_init_4 : decode cX0_init 4 = .ok (.return_, 1) := by decide +kernel
theorem dX1_init_0 : decode cX1_init 0 = .ok (.aload_n 0, 1) := by decide +kernel
theorem dX1_init_1 : decode cX1_init 1 = .ok (.invokespecial 3, 3) := by decide +kernel
theorem dX1_init_4 : decode cX1_init 4 = .ok (.aload_n 0, 1) := by decide +kernel
theorem dX1_init_5 : decode cX1_init 5 = .ok (.bipush 7, 2) := by decide +kernel
theorem dX1_init_7 : decode cX1_init 7 = .ok (.newarray .int, 2) := by decide +kernel
theorem dX1_init_9 : decode cX1_init 9 = .ok (.putfield 9, 3) := by decide +kernel
theorem dX1_init_12 : decode cX1_init 12 = .ok (.aload_n 0, 1) := by decide +kernel
theorem dX1_init_13 : decode cX1_init 13 = .ok (.bipush 8, 2) := by decide +kernel
theorem dX1_init_15 : decode cX1_init 15 = .ok (.anewarray 15, 3) := by decide +kernel
theorem dX1_init_18 : decode cX1_init 18 = .ok (.putfield 17, 3) := by decide +kernel
theorem dX1_init_21 : decode cX1_init 21 = .ok (.aload_n 0, 1) := by decide +kernel
theorem dX1_init_22 : decode cX1_init 22 = .ok (.iconst 4, 1) := by decide +kernel
theorem dX1_init_23 : decode cX1_init 23 = .ok (.newarray .int, 2) := by decide +kernel
theorem dX1_init_25 : decode cX1_init 25 = .ok (.putfield 21, 3) := by decide +kernel
theorem dX1_init_28 : decode cX1_init 28 = .ok (.aload_n 0, 1) := by decide +kernel
theorem dX1_init_29 : decode cX1_init 29 = .ok (.iconst 3, 1) := by decide +kernel
theorem dX1_init_30 : decode cX1_init 30 = .ok (.newarray .int, 2) := by decide +kernel
theorem dX1_init_32 : decode cX1_init 32 = .ok (.putfield 24, 3) := by decide +kernel
theorem dX1_init_35 : decode cX1_init 35 = .ok (.iconst 0, 1) := by decide +kernel
theorem dX1_init_36 : decode cX1_init 36 = .ok (.istore_n 1, 1) := by decide +kernel
theorem dX1_init_37 : decode cX1_init 37 = .ok (.iload_n 1, 1) := by decide +kernel
theorem dX1_init_38 : decode cX1_init 38 = .ok (.bipush 8, 2) := by decide +kernel
theorem dX1_init_40 : decode cX1_init 40 = .ok (.if_icmp .ge 22, 3) := by decide +kernel
theorem dX1_init_43 : decode cX1_init 43 = .ok (.aload_n 0, 1) := by decide +kernel
theorem dX1_init_44 : decode cX1_init 44 = .ok (.getfield 17, 3) := by decide +kernel
theorem dX1_init_47 : decode cX1_init 47 = .ok (.iload_n 1, 1) := by decide +kernel
theorem dX1_init_48 : decode cX1_init 48 = .ok (.new 15, 3) := by decide +kernel
theorem dX1_init_51 : decode cX1_init 51 = .ok (.dup, 1) := by decide +kernel
theorem dX1_init_52 : decode cX1_init 52 = .ok (.invokespecial 27, 3) := by decide +kernel
theorem dX1_init_55 : decode cX1_init 55 = .ok (.aastore, 1) := by decide +kernel
theorem dX1_init_56 : decode cX1_init 56 = .ok (.iinc 1 1, 3) := by decide +kernel
theorem dX1_init_59 : decode cX1_init 59 = .ok (.goto (-22), 3) := by decide +kernel
theorem dX1_init_62 : decode cX1_init 62 = .ok (.return_, 1) := by decide +kernel
theorem dX1_start_0 : decode cX1_start 0 = .ok (.aload_n 0, 1) := by decide +kernel
theorem dX1_start_1 : decode cX1_start 1 = .ok (.iload_n 1, 1) := by decide +kernel
theorem dX1_start_2 : decode cX1_start 2 = .ok (.putfield 28, 3) := by decide +kernel
theorem dX1_start_5 : decode cX1_start 5 = .ok (.aload_n 0, 1) := by decide +kernel
theorem dX1_start_6 : decode cX1_start 6 = .ok (.iconst 0, 1) := by decide +kernel
theorem dX1_start_7 : decode cX1_start 7 = .ok (.putfield 32, 3) := by decide +kernel
theorem dX1_start_10 : decode cX1_start 10 = .ok (.iload_n 1, 1) := by decide +kernel
theorem dX1_start_11 : decode cX1_start 11 = .ok (.istore_n 2, 1) := by decide +kernel
theorem dX1_start_12 : decode cX1_start 12 = .ok (.bipush 6, 2) := by decide +kernel
theorem dX1_start_14 : decode cX1_start 14 = .ok (.istore_n 3, 1) := by decide +kernel
theorem dX1_start_15 : decode cX1_start 15 = .ok (.iload_n 3, 1) := by decide +kernel
theorem dX1_start_16 : decode cX1_start 16 = .ok (.ifCond .lt 45, 3) := by decide +kernel
theorem dX1_start_19 : decode cX1_start 19 = .ok (.iload_n 2, 1) := by decide +kernel
theorem dX1_start_20 : decode cX1_start 20 = .ok (.bipush 17, 2) := by decide +kernel
theorem dX1_start_22 : decode cX1_start 22 = .ok (.irem, 1) := by decide +kernel
theorem dX1_start_23 : decode cX1_start 23 = .ok (.istore 4, 2) := by decide +kernel
theorem dX1_start_25 : decode cX1_start 25 = .ok (.iload_n 2, 1) := by decide +kernel
theorem dX1_start_26 : decode cX1_start 26 = .ok (.bipush 17, 2) := by decide +kernel
theorem dX1_start_28 : decode cX1_start 28 = .ok (.idiv, 1) := by decide +kernel
theorem dX1_start_29 : decode cX1_start 29 = .ok (.istore_n 2, 1) := by decide +kernel
theorem dX1_start_30 : decode cX1_start 30 = .ok (.aload_n 0, 1) := by decide +kernel
theorem dX1_start_31 : decode cX1_start 31 = .ok (.getfield 9, 3) := by decide +kernel
theorem dX1_start_34 : decode cX1_start 34 = .ok (.iload_n 3, 1) := by decide +kernel
theorem dX1_start_35 : decode cX1_start 35 = .ok (.iload 4, 2) := by decide +kernel
theorem dX1_start_37 : decode cX1_start 37 = .ok (.iconst 1, 1) := by decide +kernel
theorem dX1_start_38 : decode cX1_start 38 = .ok (.isub, 1) := by decide +kernel
theorem dX1_start_39 : decode cX1_start 39 = .ok (.iastore, 1) := by decide +kernel
theorem dX1_start_40 : decode cX1_start 40 = .ok (.iload 4, 2) := by decide +kernel
theorem dX1_start_42 : decode cX1_start 42 = .ok (.ifCond .le 13, 3) := by decide +kernel
theorem dX1_start_45 : decode cX1_start 45 = .ok (.aload_n 0, 1) := by decide +kernel
theorem dX1_start_46 : decode cX1_start 46 = .ok (.dup, 1) := by decide +kernel
theorem dX1_start_47 : decode cX1_start 47 = .ok (.getfield 32, 3) := by decide +kernel
theorem dX1_start_50 : decode cX1_start 50 = .ok (.iconst 1, 1) := by decide +kernel
theorem dX1_start_51 : decode cX1_start 51 = .ok (.iadd, 1) := by decide +kernel
theorem dX1_start_52 : decode cX1_start 52 = .ok (.putfield 32, 3) := by decide +kernel
theorem dX1_start_55 : decode cX1_start 55 = .ok (.iinc 3 (-1), 3) := by decide +kernel
theorem dX1_start_58 : decode cX1_start 58 = .ok (.goto (-43), 3) := by decide +kernel
theorem dX1_start_61 : decode cX1_start 61 = .ok (.aload_n 0, 1) := by decide +kernel
theorem dX1_start_62 : decode cX1_start 62 = .ok (.iconst 0, 1) := by decide +kernel
theorem dX1_start_63 : decode cX1_start 63 = .ok (.putfield 35, 3) := by decide +kernel
theorem dX1_start_66 : decode cX1_start 66 = .ok (.aload_n 0, 1) := by decide +kernel
theorem dX1_start_67 : decode cX1_start 67 = .ok (.iconst 0, 1) := by decide +kernel
theorem dX1_start_68 : decode cX1_start 68 = .ok (.putfield 39, 3) := by decide +kernel
theorem dX1_start_71 : decode cX1_start 71 = .ok (.aload_n 0, 1) := by decide +kernel
theorem dX1_start_72 : decode cX1_start 72 = .ok (.iconst 0, 1) := by decide +kernel
theorem dX1_start_73 : decode cX1_start 73 = .ok (.putfield 42, 3) := by decide +kernel
theorem dX1_start_76 : decode cX1_start 76 = .ok (.aload_n 0, 1) := by decide +kernel
theorem dX1_start_77 : decode cX1_start 77 = .ok (.iconst 0, 1) := by decide +kernel
theorem dX1_start_78 : decode cX1_start 78 = .ok (.putfield 45, 3) := by decide +kernel
theorem dX1_start_81 : decode cX1_start 81 = .ok (.aload_n 0, 1) := by decide +kernel
theorem dX1_start_82 : decode cX1_start 82 = .ok (.iconst 0, 1) := by decide +kernel
theorem dX1_start_83 : decode cX1_start 83 = .ok (.putfield 48, 3) := by decide +kernel
theorem dX1_start_86 : decode cX1_start 86 = .ok (.return_, 1) := by decide +kernel
theorem dX1_startPolicy_0 : decode cX1_startPolicy 0 = .ok (.aload_n 0, 1) := by decide +kernel
theorem dX1_startPolicy_1 : decode cX1_startPolicy 1 = .ok (.iconst 1, 1) := by decide +kernel
theorem dX1_startPolicy_2 : decode cX1_startPolicy 2 = .ok (.putfield 35, 3) := by decide +kernel
theorem dX1_startPolicy_5 : decode cX1_startPolicy 5 = .ok (.aload_n 0, 1) := by decide +kernel
theorem dX1_startPolicy_6 : decode cX1_startPolicy 6 = .ok (.iconst 0, 1) := by decide +kernel
theorem dX1_startPolicy_7 : decode cX1_startPolicy 7 = .ok (.putfield 39, 3) := by decide +kernel
theorem dX1_startPolicy_10 : decode cX1_startPolicy 10 = .ok (.aload_n 0, 1) := by decide +kernel
theorem dX1_startPolicy_11 : decode cX1_startPolicy 11 = .ok (.iconst 0, 1) := by decide +kernel
theorem dX1_startPolicy_12 : decode cX1_startPolicy 12 = .ok (.putfield 42, 3) := by decide +kernel
theorem dX1_startPolicy_15 : decode cX1_startPolicy 15 = .ok (.return_, 1) := by decide +kernel
theorem dX1_addRule_0 : decode cX1_addRule 0 = .ok (.aload_n 0, 1) := by decide +kernel
theorem dX1_addRule_1 : decode cX1_addRule 1 = .ok (.getfield 39, 3) := by decide +kernel
theorem dX1_addRule_4 : decode cX1_addRule 4 = .ok (.bipush 8, 2) := by decide +kernel
theorem dX1_addRule_6 : decode cX1_addRule 6 = .ok (.if_icmp .lt 5, 3) := by decide +kernel
theorem dX1_addRule_9 : decode cX1_addRule 9 = .ok (.aconst_null, 1) := by decide +kernel
theorem dX1_addRule_10 : decode cX1_addRule 10 = .ok (.areturn, 1) := by decide +kernel
theorem dX1_addRule_11 : decode cX1_addRule 11 = .ok (.aload_n 0, 1) := by decide +kernel
theorem dX1_addRule_12 : decode cX1_addRule 12 = .ok (.dup, 1) := by decide +kernel
theorem dX1_addRule_13 : decode cX1_addRule 13 = .ok (.getfield 39, 3) := by decide +kernel
theorem dX1_addRule_16 : decode cX1_addRule 16 = .ok (.iconst 1, 1) := by decide +kernel
theorem dX1_addRule_17 : decode cX1_addRule 17 = .ok (.iadd, 1) := by decide +kernel
theorem dX1_addRule_18 : decode cX1_addRule 18 = .ok (.putfield 39, 3) := by decide +kernel
theorem dX1_addRule_21 : decode cX1_addRule 21 = .ok (.aload_n 0, 1) := by decide +kernel
theorem dX1_addRule_22 : decode cX1_addRule 22 = .ok (.getfield 17, 3) := by decide +kernel
theorem dX1_addRule_25 : decode cX1_addRule 25 = .ok (.aload_n 0, 1) := by decide +kernel
theorem dX1_addRule_26 : decode cX1_addRule 26 = .ok (.getfield 39, 3) := by decide +kernel
theorem dX1_addRule_29 : decode cX1_addRule 29 = .ok (.iconst 1, 1) := by decide +kernel
theorem dX1_addRule_30 : decode cX1_addRule 30 = .ok (.isub, 1) := by decide +kernel
theorem dX1_addRule_31 : decode cX1_addRule 31 = .ok (.aaload, 1) := by decide +kernel
theorem dX1_addRule_32 : decode cX1_addRule 32 = .ok (.areturn, 1) := by decide +kernel
theorem dX1_ruleAt_0 : decode cX1_ruleAt 0 = .ok (.iload_n 1, 1) := by decide +kernel
theorem dX1_ruleAt_1 : decode cX1_ruleAt 1 = .ok (.ifCond .lt 20, 3) := by decide +kernel
theorem dX1_ruleAt_4 : decode cX1_ruleAt 4 = .ok (.iload_n 1, 1) := by decide +kernel
theorem dX1_ruleAt_5 : decode cX1_ruleAt 5 = .ok (.aload_n 0, 1) := by decide +kernel
theorem dX1_ruleAt_6 : decode cX1_ruleAt 6 = .ok (.getfield 39, 3) := by decide +kernel
theorem dX1_ruleAt_9 : decode cX1_ruleAt 9 = .ok (.if_icmp .ge 12, 3) := by decide +kernel
theorem dX1_ruleAt_12 : decode cX1_ruleAt 12 = .ok (.aload_n 0, 1) := by decide +kernel
theorem dX1_ruleAt_13 : decode cX1_ruleAt 13 = .ok (.getfield 17, 3) := by decide +kernel
theorem dX1_ruleAt_16 : decode cX1_ruleAt 16 = .ok (.iload_n 1, 1) := by decide +kernel
theorem dX1_ruleAt_17 : decode cX1_ruleAt 17 = .ok (.aaload, 1) := by decide +kernel
theorem dX1_ruleAt_18 : decode cX1_ruleAt 18 = .ok (.goto 4, 3) := by decide +kernel
theorem dX1_ruleAt_21 : decode cX1_ruleAt 21 = .ok (.aconst_null, 1) := by decide +kernel
theorem dX1_ruleAt_22 : decode cX1_ruleAt 22 = .ok (.areturn, 1) := by decide +kernel
theorem dX1_swapRules_0 : decode cX1_swapRules 0 = .ok (.iload_n 1, 1) := by decide +kernel
theorem dX1_swapRules_1 : decode cX1_swapRules 1 = .ok (.ifCond .lt 13, 3) := by decide +kernel
theorem dX1_swapRules_4 : decode cX1_swapRules 4 = .ok (.iload_n 1, 1) := by decide +kernel
theorem dX1_swapRules_5 : decode cX1_swapRules 5 = .ok (.aload_n 0, 1) := by decide +kernel
theorem dX1_swapRules_6 : decode cX1_swapRules 6 = .ok (.getfield 39, 3) := by decide +kernel
theorem dX1_swapRules_9 : decode cX1_swapRules 9 = .ok (.iconst 1, 1) := by decide +kernel
theorem dX1_swapRules_10 : decode cX1_swapRules 10 = .ok (.isub, 1) := by decide +kernel
theorem dX1_swapRules_11 : decode cX1_swapRules 11 = .ok (.if_icmp .lt 5, 3) := by decide +kernel
theorem dX1_swapRules_14 : decode cX1_swapRules 14 = .ok (.iconst 0, 1) := by decide +kernel
theorem dX1_swapRules_15 : decode cX1_swapRules 15 = .ok (.ireturn, 1) := by decide +kernel
theorem dX1_swapRules_16 : decode cX1_swapRules 16 = .ok (.aload_n 0, 1) := by decide +kernel
theorem dX1_swapRules_17 : decode cX1_swapRules 17 = .ok (.getfield 17, 3) := by decide +kernel
theorem dX1_swapRules_20 : decode cX1_swapRules 20 = .ok (.iload_n 1, 1) := by decide +kernel
theorem dX1_swapRules_21 : decode cX1_swapRules 21 = .ok (.aaload, 1) := by decide +kernel
theorem dX1_swapRules_22 : decode cX1_swapRules 22 = .ok (.astore_n 2, 1) := by decide +kernel
theorem dX1_swapRules_23 : decode cX1_swapRules 23 = .ok (.aload_n 0, 1) := by decide +kernel
theorem dX1_swapRules_24 : decode cX1_swapRules 24 = .ok (.getfield 17, 3) := by decide +kernel
theorem dX1_swapRules_27 : decode cX1_swapRules 27 = .ok (.iload_n 1, 1) := by decide +kernel
theorem dX1_swapRules_28 : decode cX1_swapRules 28 = .ok (.aload_n 0, 1) := by decide +kernel
theorem dX1_swapRules_29 : decode cX1_swapRules 29 = .ok (.getfield 17, 3) := by decide +kernel
theorem dX1_swapRules_32 : decode cX1_swapRules 32 = .ok (.iload_n 1, 1) := by decide +kernel
theorem dX1_swapRules_33 : decode cX1_swapRules 33 = .ok (.iconst 1, 1) := by decide +kernel
theorem dX1_swapRules_34 : decode cX1_swapRules 34 = .ok (.iadd, 1) := by decide +kernel
theorem dX1_swapRules_35 : decode cX1_swapRules 35 = .ok (.aaload, 1) := by decide +kernel
theorem dX1_swapRules_36 : decode cX1_swapRules 36 = .ok (.aastore, 1) := by decide +kernel
theorem dX1_swapRules_37 : decode cX1_swapRules 37 = .ok (.aload_n 0, 1) := by decide +kernel
theorem dX1_swapRules_38 : decode cX1_swapRules 38 = .ok (.getfield 17, 3) := by decide +kernel
theorem dX1_swapRules_41 : decode cX1_swapRules 41 = .ok (.iload_n 1, 1) := by decide +kernel
theorem dX1_swapRules_42 : decode cX1_swapRules 42 = .ok (.iconst 1, 1) := by decide +kernel
theorem dX1_swapRules_43 : decode cX1_swapRules 43 = .ok (.iadd, 1) := by decide +kernel
theorem dX1_swapRules_44 : decode cX1_swapRules 44 = .ok (.aload_n 2, 1) := by decide +kernel
theorem dX1_swapRules_45 : decode cX1_swapRules 45 = .ok (.aastore, 1) := by decide +kernel
theorem dX1_swapRules_46 : decode cX1_swapRules 46 = .ok (.iconst 1, 1) := by decide +kernel
theorem dX1_swapRules_47 : decode cX1_swapRules 47 = .ok (.ireturn, 1) := by decide +kernel
theorem dX1_placeOfHost_0 : decode cX1_placeOfHost 0 = .ok (.iconst 0, 1) := by decide +kernel
theorem dX1_placeOfHost_1 : decode cX1_placeOfHost 1 = .ok (.istore_n 2, 1) := by decide +kernel
theorem dX1_placeOfHost_2 : decode cX1_placeOfHost 2 = .ok (.iload_n 2, 1) := by decide +kernel
theorem dX1_placeOfHost_3 : decode cX1_placeOfHost 3 = .ok (.aload_n 0, 1) := by decide +kernel
theorem dX1_placeOfHost_4 : decode cX1_placeOfHost 4 = .ok (.getfield 45, 3) := by decide +kernel
theorem dX1_placeOfHost_7 : decode cX1_placeOfHost 7 = .ok (.if_icmp .ge 21, 3) := by decide +kernel
theorem dX1_placeOfHost_10 : decode cX1_placeOfHost 10 = .ok (.aload_n 0, 1) := by decide +kernel
theorem dX1_placeOfHost_11 : decode cX1_placeOfHost 11 = .ok (.getfield 21, 3) := by decide +kernel
theorem dX1_placeOfHost_14 : decode cX1_placeOfHost 14 = .ok (.iload_n 2, 1) := by decide +kernel
theorem dX1_placeOfHost_15 : decode cX1_placeOfHost 15 = .ok (.iaload, 1) := by decide +kernel
theorem dX1_placeOfHost_16 : decode cX1_placeOfHost 16 = .ok (.iload_n 1, 1) := by decide +kernel
theorem dX1_placeOfHost_17 : decode cX1_placeOfHost 17 = .ok (.if_icmp .ne 5, 3) := by decide +kernel
theorem dX1_placeOfHost_20 : decode cX1_placeOfHost 20 = .ok (.iload_n 2, 1) := by decide +kernel
theorem dX1_placeOfHost_21 : decode cX1_placeOfHost 21 = .ok (.ireturn, 1) := by decide +kernel
theorem dX1_placeOfHost_22 : decode cX1_placeOfHost 22 = .ok (.iinc 2 1, 3) := by decide +kernel
theorem dX1_placeOfHost_25 : decode cX1_placeOfHost 25 = .ok (.goto (-23), 3) := by decide +kernel
theorem dX1_placeOfHost_28 : decode cX1_placeOfHost 28 = .ok (.iconst (-1), 1) := by decide +kernel
theorem dX1_placeOfHost_29 : decode cX1_placeOfHost 29 = .ok (.ireturn, 1) := by decide +kernel
theorem dX1_insertHost_0 : decode cX1_insertHost 0 = .ok (.aload_n 0, 1) := by decide +kernel
theorem dX1_insertHost_1 : decode cX1_insertHost 1 = .ok (.getfield 45, 3) := by decide +kernel
theorem dX1_insertHost_4 : decode cX1_insertHost 4 = .ok (.iconst 4, 1) := by decide +kernel
theorem dX1_insertHost_5 : decode cX1_insertHost 5 = .ok (.if_icmp .ge 15, 3) := by decide +kernel
theorem dX1_insertHost_8 : decode cX1_insertHost 8 = .ok (.iload_n 1, 1) := by decide +kernel
theorem dX1_insertHost_9 : decode cX1_insertHost 9 = .ok (.ifCond .lt 11, 3) := by decide +kernel
theorem dX1_insertHost_12 : decode cX1_insertHost 12 = .ok (.iload_n 1, 1) := by decide +kernel
theorem dX1_insertHost_13 : decode cX1_insertHost 13 = .ok (.aload_n 0, 1) := by decide +kernel
theorem dX1_insertHost_14 : decode cX1_insertHost 14 = .ok (.getfield 45, 3) := by decide +kernel
theorem dX1_insertHost_17 : decode cX1_insertHost 17 = .ok (.if_icmp .le 5, 3) := by decide +kernel
theorem dX1_insertHost_20 : decode cX1_insertHost 20 = .ok (.iconst 0, 1) := by decide +kernel
theorem dX1_insertHost_21 : decode cX1_insertHost 21 = .ok (.ireturn, 1) := by decide +kernel
theorem dX1_insertHost_22 : decode cX1_insertHost 22 = .ok (.aload_n 0, 1) := by decide +kernel
theorem dX1_insertHost_23 : decode cX1_insertHost 23 = .ok (.getfield 45, 3) := by decide +kernel
theorem dX1_insertHost_26 : decode cX1_insertHost 26 = .ok (.istore_n 3, 1) := by decide +kernel
theorem dX1_insertHost_27 : decode cX1_insertHost 27 = .ok (.iload_n 3, 1) := by decide +kernel
theorem dX1_insertHost_28 : decode cX1_insertHost 28 = .ok (.iload_n 1, 1) := by decide +kernel
theorem dX1_insertHost_29 : decode cX1_insertHost 29 = .ok (.if_icmp .le 23, 3) := by decide +kernel
theorem dX1_insertHost_32 : decode cX1_insertHost 32 = .ok (.aload_n 0, 1) := by decide +kernel
theorem dX1_insertHost_33 : decode cX1_insertHost 33 = .ok (.getfield 21, 3) := by decide +kernel
theorem dX1_insertHost_36 : decode cX1_insertHost 36 = .ok (.iload_n 3, 1) := by decide +kernel
theorem dX1_insertHost_37 : decode cX1_insertHost 37 = .ok (.aload_n 0, 1) := by decide +kernel
theorem dX1_insertHost_38 : decode cX1_insertHost 38 = .ok (.getfield 21, 3) := by decide +kernel
theorem dX1_insertHost_41 : decode cX1_insertHost 41 = .ok (.iload_n 3, 1) := by decide +kernel
theorem dX1_insertHost_42 : decode cX1_insertHost 42 = .ok (.iconst 1, 1) := by decide +kernel
theorem dX1_insertHost_43 : decode cX1_insertHost 43 = .ok (.isub, 1) := by decide +kernel
theorem dX1_insertHost_44 : decode cX1_insertHost 44 = .ok (.iaload, 1) := by decide +kernel
theorem dX1_insertHost_45 : decode cX1_insertHost 45 = .ok (.iastore, 1) := by decide +kernel
theorem dX1_insertHost_46 : decode cX1_insertHost 46 = .ok (.iinc 3 (-1), 3) := by decide +kernel
theorem dX1_insertHost_49 : decode cX1_insertHost 49 = .ok (.goto (-22), 3) := by decide +kernel
theorem dX1_insertHost_52 : decode cX1_insertHost 52 = .ok (.aload_n 0, 1) := by decide +kernel
theorem dX1_insertHost_53 : decode cX1_insertHost 53 = .ok (.getfield 21, 3) := by decide +kernel
theorem dX1_insertHost_56 : decode cX1_insertHost 56 = .ok (.iload_n 1, 1) := by decide +kernel
theorem dX1_insertHost_57 : decode cX1_insertHost 57 = .ok (.iload_n 2, 1) := by decide +kernel
theorem dX1_insertHost_58 : decode cX1_insertHost 58 = .ok (.iastore, 1) := by decide +kernel
theorem dX1_insertHost_59 : decode cX1_insertHost 59 = .ok (.aload_n 0, 1) := by decide +kernel
theorem dX1_insertHost_60 : decode cX1_insertHost 60 = .ok (.dup, 1) := by decide +kernel
theorem dX1_insertHost_61 : decode cX1_insertHost 61 = .ok (.getfield 45, 3) := by decide +kernel
theorem dX1_insertHost_64 : decode cX1_insertHost 64 = .ok (.iconst 1, 1) := by decide +kernel
theorem dX1_insertHost_65 : decode cX1_insertHost 65 = .ok (.iadd, 1) := by decide +kernel
theorem dX1_insertHost_66 : decode cX1_insertHost 66 = .ok (.putfield 45, 3) := by decide +kernel
theorem dX1_insertHost_69 : decode cX1_insertHost 69 = .ok (.iconst 1, 1) := by decide +kernel
theorem dX1_insertHost_70 : decode cX1_insertHost 70 = .ok (.ireturn, 1) := by decide +kernel
theorem dX1_removeHost_0 : decode cX1_removeHost 0 = .ok (.iload_n 1, 1) := by decide +kernel
theorem dX1_removeHost_1 : decode cX1_removeHost 1 = .ok (.ifCond .lt 11, 3) := by decide +kernel
theorem dX1_removeHost_4 : decode cX1_removeHost 4 = .ok (.iload_n 1, 1) := by decide +kernel
theorem dX1_removeHost_5 : decode cX1_removeHost 5 = .ok (.aload_n 0, 1) := by decide +kernel
theorem dX1_removeHost_6 : decode cX1_removeHost 6 = .ok (.getfield 45, 3) := by decide +kernel
theorem dX1_removeHost_9 : decode cX1_removeHost 9 = .ok (.if_icmp .lt 4, 3) := by decide +kernel
theorem dX1_removeHost_12 : decode cX1_removeHost 12 = .ok (.return_, 1) := by decide +kernel
theorem dX1_removeHost_13 : decode cX1_removeHost 13 = .ok (.iload_n 1, 1) := by decide +kernel
theorem dX1_removeHost_14 : decode cX1_removeHost 14 = .ok (.istore_n 2, 1) := by decide +kernel
theorem dX1_removeHost_15 : decode cX1_removeHost 15 = .ok (.iload_n 2, 1) := by decide +kernel
theorem dX1_removeHost_16 : decode cX1_removeHost 16 = .ok (.aload_n 0, 1) := by decide +kernel
theorem dX1_removeHost_17 : decode cX1_removeHost 17 = .ok (.getfield 45, 3) := by decide +kernel
theorem dX1_removeHost_20 : decode cX1_removeHost 20 = .ok (.iconst 1, 1) := by decide +kernel
theorem dX1_removeHost_21 : decode cX1_removeHost 21 = .ok (.isub, 1) := by decide +kernel
theorem dX1_removeHost_22 : decode cX1_removeHost 22 = .ok (.if_icmp .ge 23, 3) := by decide +kernel
theorem dX1_removeHost_25 : decode cX1_removeHost 25 = .ok (.aload_n 0, 1) := by decide +kernel
theorem dX1_removeHost_26 : decode cX1_removeHost 26 = .ok (.getfield 21, 3) := by decide +kernel
theorem dX1_removeHost_29 : decode cX1_removeHost 29 = .ok (.iload_n 2, 1) := by decide +kernel
theorem dX1_removeHost_30 : decode cX1_removeHost 30 = .ok (.aload_n 0, 1) := by decide +kernel
theorem dX1_removeHost_31 : decode cX1_removeHost 31 = .ok (.getfield 21, 3) := by decide +kernel
theorem dX1_removeHost_34 : decode cX1_removeHost 34 = .ok (.iload_n 2, 1) := by decide +kernel
theorem dX1_removeHost_35 : decode cX1_removeHost 35 = .ok (.iconst 1, 1) := by decide +kernel
theorem dX1_removeHost_36 : decode cX1_removeHost 36 = .ok (.iadd, 1) := by decide +kernel
theorem dX1_removeHost_37 : decode cX1_removeHost 37 = .ok (.iaload, 1) := by decide +kernel
theorem dX1_removeHost_38 : decode cX1_removeHost 38 = .ok (.iastore, 1) := by decide +kernel
theorem dX1_removeHost_39 : decode cX1_removeHost 39 = .ok (.iinc 2 1, 3) := by decide +kernel
theorem dX1_removeHost_42 : decode cX1_removeHost 42 = .ok (.goto (-27), 3) := by decide +kernel
theorem dX1_removeHost_45 : decode cX1_removeHost 45 = .ok (.aload_n 0, 1) := by decide +kernel
theorem dX1_removeHost_46 : decode cX1_removeHost 46 = .ok (.dup, 1) := by decide +kernel
theorem dX1_removeHost_47 : decode cX1_removeHost 47 = .ok (.getfield 45, 3) := by decide +kernel
theorem dX1_removeHost_50 : decode cX1_removeHost 50 = .ok (.iconst 1, 1) := by decide +kernel
theorem dX1_removeHost_51 : decode cX1_removeHost 51 = .ok (.isub, 1) := by decide +kernel
theorem dX1_removeHost_52 : decode cX1_removeHost 52 = .ok (.putfield 45, 3) := by decide +kernel
theorem dX1_removeHost_55 : decode cX1_removeHost 55 = .ok (.return_, 1) := by decide +kernel
theorem dX1_addExchanger_0 : decode cX1_addExchanger 0 = .ok (.aload_n 0, 1) := by decide +kernel
theorem dX1_addExchanger_1 : decode cX1_addExchanger 1 = .ok (.getfield 48, 3) := by decide +kernel
theorem dX1_addExchanger_4 : decode cX1_addExchanger 4 = .ok (.iconst 3, 1) := by decide +kernel
theorem dX1_addExchanger_5 : decode cX1_addExchanger 5 = .ok (.if_icmp .lt 5, 3) := by decide +kernel
theorem dX1_addExchanger_8 : decode cX1_addExchanger 8 = .ok (.iconst 0, 1) := by decide +kernel
theorem dX1_addExchanger_9 : decode cX1_addExchanger 9 = .ok (.ireturn, 1) := by decide +kernel
theorem dX1_addExchanger_10 : decode cX1_addExchanger 10 = .ok (.aload_n 0, 1) := by decide +kernel
theorem dX1_addExchanger_11 : decode cX1_addExchanger 11 = .ok (.getfield 24, 3) := by decide +kernel
theorem dX1_addExchanger_14 : decode cX1_addExchanger 14 = .ok (.aload_n 0, 1) := by decide +kernel
theorem dX1_addExchanger_15 : decode cX1_addExchanger 15 = .ok (.getfield 48, 3) := by decide +kernel
theorem dX1_addExchanger_18 : decode cX1_addExchanger 18 = .ok (.iload_n 1, 1) := by decide +kernel
theorem dX1_addExchanger_19 : decode cX1_addExchanger 19 = .ok (.iastore, 1) := by decide +kernel
theorem dX1_addExchanger_20 : decode cX1_addExchanger 20 = .ok (.aload_n 0, 1) := by decide +kernel
theorem dX1_addExchanger_21 : decode cX1_addExchanger 21 = .ok (.dup, 1) := by decide +kernel
theorem dX1_addExchanger_22 : decode cX1_addExchanger 22 = .ok (.getfield 48, 3) := by decide +kernel
theorem dX1_addExchanger_25 : decode cX1_addExchanger 25 = .ok (.iconst 1, 1) := by decide +kernel
theorem dX1_addExchanger_26 : decode cX1_addExchanger 26 = .ok (.iadd, 1) := by decide +kernel
theorem dX1_addExchanger_27 : decode cX1_addExchanger 27 = .ok (.putfield 48, 3) := by decide +kernel
theorem dX1_addExchanger_30 : decode cX1_addExchanger 30 = .ok (.iconst 1, 1) := by decide +kernel
theorem dX1_addExchanger_31 : decode cX1_addExchanger 31 = .ok (.ireturn, 1) := by decide +kernel
theorem dX2_init_0 : decode cX2_init 0 = .ok (.aload_n 0, 1) := by decide +kernel
theorem dX2_init_1 : decode cX2_init 1 = .ok (.invokespecial 3, 3) := by decide +kernel
theorem dX2_init_4 : decode cX2_init 4 = .ok (.aload_n 0, 1) := by decide +kernel
theorem dX2_init_5 : decode cX2_init 5 = .ok (.new 9, 3) := by decide +kernel
theorem dX2_init_8 : decode cX2_init 8 = .ok (.dup, 1) := by decide +kernel
theorem dX2_init_9 : decode cX2_init 9 = .ok (.invokespecial 11, 3) := by decide +kernel
theorem dX2_init_12 : decode cX2_init 12 = .ok (.putfield 12, 3) := by decide +kernel
theorem dX2_init_15 : decode cX2_init 15 = .ok (.return_, 1) := by decide +kernel
theorem dX2_evaluate_0 : decode cX2_evaluate 0 = .ok (.aload_n 0, 1) := by decide +kernel
theorem dX2_evaluate_1 : decode cX2_evaluate 1 = .ok (.aload_n 1, 1) := by decide +kernel
theorem dX2_evaluate_2 : decode cX2_evaluate 2 = .ok (.putfield 18, 3) := by decide +kernel
theorem dX2_evaluate_5 : decode cX2_evaluate 5 = .ok (.aload_n 0, 1) := by decide +kernel
theorem dX2_evaluate_6 : decode cX2_evaluate 6 = .ok (.aload_n 1, 1) := by decide +kernel
theorem dX2_evaluate_7 : decode cX2_evaluate 7 = .ok (.iload_n 2, 1) := by decide +kernel
theorem dX2_evaluate_8 : decode cX2_evaluate 8 = .ok (.invokevirtual 22, 3) := by decide +kernel
theorem dX2_evaluate_11 : decode cX2_evaluate 11 = .ok (.putfield 28, 3) := by decide +kernel
theorem dX2_evaluate_14 : decode cX2_evaluate 14 = .ok (.aload_n 0, 1) := by decide +kernel
theorem dX2_evaluate_15 : decode cX2_evaluate 15 = .ok (.iload_n 3, 1) := by decide +kernel
theorem dX2_evaluate_16 : decode cX2_evaluate 16 = .ok (.putfield 32, 3) := by decide +kernel
theorem dX2_evaluate_19 : decode cX2_evaluate 19 = .ok (.aload_n 0, 1) := by decide +kernel
theorem dX2_evaluate_20 : decode cX2_evaluate 20 = .ok (.iload 4, 2) := by decide +kernel
theorem dX2_evaluate_22 : decode cX2_evaluate 22 = .ok (.putfield 36, 3) := by decide +kernel
theorem dX2_evaluate_25 : decode cX2_evaluate 25 = .ok (.aload_n 0, 1) := by decide +kernel
theorem dX2_evaluate_26 : decode cX2_evaluate 26 = .ok (.iconst 0, 1) := by decide +kernel
theorem dX2_evaluate_27 : decode cX2_evaluate 27 = .ok (.putfield 39, 3) := by decide +kernel
theorem dX2_evaluate_30 : decode cX2_evaluate 30 = .ok (.aload_n 0, 1) := by decide +kernel
theorem dX2_evaluate_31 : decode cX2_evaluate 31 = .ok (.iconst 0, 1) := by decide +kernel
theorem dX2_evaluate_32 : decode cX2_evaluate 32 = .ok (.putfield 42, 3) := by decide +kernel
theorem dX2_evaluate_35 : decode cX2_evaluate 35 = .ok (.aload_n 0, 1) := by decide +kernel
theorem dX2_evaluate_36 : decode cX2_evaluate 36 = .ok (.iconst 0, 1) := by decide +kernel
theorem dX2_evaluate_37 : decode cX2_evaluate 37 = .ok (.putfield 45, 3) := by decide +kernel
theorem dX2_evaluate_40 : decode cX2_evaluate 40 = .ok (.aload_n 0, 1) := by decide +kernel
theorem dX2_evaluate_41 : decode cX2_evaluate 41 = .ok (.bipush (-4), 2) := by decide +kernel
theorem dX2_evaluate_43 : decode cX2_evaluate 43 = .ok (.putfield 49, 3) := by decide +kernel
theorem dX2_evaluate_46 : decode cX2_evaluate 46 = .ok (.aload_n 0, 1) := by decide +kernel
theorem dX2_evaluate_47 : decode cX2_evaluate 47 = .ok (.bipush (-4), 2) := by decide +kernel
theorem dX2_evaluate_49 : decode cX2_evaluate 49 = .ok (.putfield 52, 3) := by decide +kernel
theorem dX2_evaluate_52 : decode cX2_evaluate 52 = .ok (.aload_n 0, 1) := by decide +kernel
theorem dX2_evaluate_53 : decode cX2_evaluate 53 = .ok (.iload_n 2, 1) := by decide +kernel
theorem dX2_evaluate_54 : decode cX2_evaluate 54 = .ok (.iconst 0, 1) := by decide +kernel
theorem dX2_evaluate_55 : decode cX2_evaluate 55 = .ok (.invokevirtual 55, 3) := by decide +kernel
theorem dX2_evaluate_58 : decode cX2_evaluate 58 = .ok (.ireturn, 1) := by decide +kernel
theorem dX2_resultOf_0 : decode cX2_resultOf 0 = .ok (.iload_n 2, 1) := by decide +kernel
theorem dX2_resultOf_1 : decode cX2_resultOf 1 = .ok (.bipush 10, 2) := by decide +kernel
theorem dX2_resultOf_3 : decode cX2_resultOf 3 = .ok (.if_icmp .le 7, 3) := by decide +kernel
theorem dX2_resultOf_6 : decode cX2_resultOf 6 = .ok (.iconst (-1), 1) := by decide +kernel
theorem dX2_resultOf_7 : decode cX2_resultOf 7 = .ok (.goto 4, 3) := by decide +kernel
theorem dX2_resultOf_10 : decode cX2_resultOf 10 = .ok (.iload_n 1, 1) := by decide +kernel
theorem dX2_resultOf_11 : decode cX2_resultOf 11 = .ok (.istore_n 3, 1) := by decide +kernel
theorem dX2_resultOf_12 : decode cX2_resultOf 12 = .ok (.iconst 0, 1) := by decide +kernel
theorem dX2_resultOf_13 : decode cX2_resultOf 13 = .ok (.istore 4, 2) := by decide +kernel
theorem dX2_resultOf_15 : decode cX2_resultOf 15 = .ok (.iload 4, 2) := by decide +kernel
theorem dX2_resultOf_17 : decode cX2_resultOf 17 = .ok (.bipush 10, 2) := by decide +kernel
theorem dX2_resultOf_19 : decode cX2_resultOf 19 = .ok (.if_icmp .gt 140, 3) := by decide +kernel
theorem dX2_resultOf_22 : decode cX2_resultOf 22 = .ok (.aload_n 0, 1) := by decide +kernel
theorem dX2_resultOf_23 : decode cX2_resultOf 23 = .ok (.getfield 18, 3) := by decide +kernel
theorem dX2_resultOf_26 : decode cX2_resultOf 26 = .ok (.iload_n 3, 1) := by decide +kernel
theorem dX2_resultOf_27 : decode cX2_resultOf 27 = .ok (.invokevirtual 22, 3) := by decide +kernel
theorem dX2_resultOf_30 : decode cX2_resultOf 30 = .ok (.astore 5, 2) := by decide +kernel
theorem dX2_resultOf_32 : decode cX2_resultOf 32 = .ok (.aload 5, 2) := by decide +kernel
theorem dX2_resultOf_34 : decode cX2_resultOf 34 = .ok (.ifnull 11, 3) := by decide +kernel
theorem dX2_resultOf_37 : decode cX2_resultOf 37 = .ok (.aload 5, 2) := by decide +kernel
theorem dX2_resultOf_39 : decode cX2_resultOf 39 = .ok (.getfield 59, 3) := by decide +kernel
theorem dX2_resultOf_42 : decode cX2_resultOf 42 = .ok (.ifCond .ne 17, 3) := by decide +kernel
theorem dX2_resultOf_45 : decode cX2_resultOf 45 = .ok (.iload 4, 2) := by decide +kernel
theorem dX2_resultOf_47 : decode cX2_resultOf 47 = .ok (.ifCond .ne 7, 3) := by decide +kernel
theorem dX2_resultOf_50 : decode cX2_resultOf 50 = .ok (.iconst 0, 1) := by decide +kernel
theorem dX2_resultOf_51 : decode cX2_resultOf 51 = .ok (.goto 7, 3) := by decide +kernel
theorem dX2_resultOf_54 : decode cX2_resultOf 54 = .ok (.aload_n 0, 1) := by decide +kernel
theorem dX2_resultOf_55 : decode cX2_resultOf 55 = .ok (.invokevirtual 64, 3) := by decide +kernel
theorem dX2_resultOf_58 : decode cX2_resultOf 58 = .ok (.ireturn, 1) := by decide +kernel
theorem dX2_resultOf_59 : decode cX2_resultOf 59 = .ok (.iconst 0, 1) := by decide +kernel
theorem dX2_resultOf_60 : decode cX2_resultOf 60 = .ok (.istore 6, 2) := by decide +kernel
theorem dX2_resultOf_62 : decode cX2_resultOf 62 = .ok (.iload 6, 2) := by decide +kernel
theorem dX2_resultOf_64 : decode cX2_resultOf 64 = .ok (.aload 5, 2) := by decide +kernel
theorem dX2_resultOf_66 : decode cX2_resultOf 66 = .ok (.getfield 68, 3) := by decide +kernel
theorem dX2_resultOf_69 : decode cX2_resultOf 69 = .ok (.if_icmp .ge 43, 3) := by decide +kernel
theorem dX2_resultOf_72 : decode cX2_resultOf 72 = .ok (.aload_n 0, 1) := by decide +kernel
theorem dX2_resultOf_73 : decode cX2_resultOf 73 = .ok (.getfield 45, 3) := by decide +kernel
theorem dX2_resultOf_76 : decode cX2_resultOf 76 = .ok (.ifCond .ne 36, 3) := by decide +kernel
theorem dX2_resultOf_79 : decode cX2_resultOf 79 = .ok (.aload_n 0, 1) := by decide +kernel
theorem dX2_resultOf_80 : decode cX2_resultOf 80 = .ok (.aload 5, 2) := by decide +kernel
theorem dX2_resultOf_82 : decode cX2_resultOf 82 = .ok (.getfield 71, 3) := by decide +kernel
theorem dX2_resultOf_85 : decode cX2_resultOf 85 = .ok (.iload 6, 2) := by decide +kernel
theorem dX2_resultOf_87 : decode cX2_resultOf 87 = .ok (.aaload, 1) := by decide +kernel
theorem dX2_resultOf_88 : decode cX2_resultOf 88 = .ok (.aload 5, 2) := by decide +kernel
theorem dX2_resultOf_90 : decode cX2_resultOf 90 = .ok (.iload_n 2, 1) := by decide +kernel
theorem dX2_resultOf_91 : decode cX2_resultOf 91 = .ok (.invokevirtual 75, 3) := by decide +kernel
theorem dX2_resultOf_94 : decode cX2_resultOf 94 = .ok (.ifCond .eq 12, 3) := by decide +kernel
theorem dX2_resultOf_97 : decode cX2_resultOf 97 = .ok (.aload_n 0, 1) := by decide +kernel
theorem dX2_resultOf_98 : decode cX2_resultOf 98 = .ok (.iload_n 3, 1) := by decide +kernel
theorem dX2_resultOf_99 : decode cX2_resultOf 99 = .ok (.iload 6, 2) := by decide +kernel
theorem dX2_resultOf_101 : decode cX2_resultOf 101 = .ok (.iload_n 2, 1) := by decide +kernel
theorem dX2_resultOf_102 : decode cX2_resultOf 102 = .ok (.invokevirtual 79, 3) := by decide +kernel
theorem dX2_resultOf_105 : decode cX2_resultOf 105 = .ok (.ireturn, 1) := by decide +kernel
theorem dX2_resultOf_106 : decode cX2_resultOf 106 = .ok (.iinc 6 1, 3) := by decide +kernel
theorem dX2_resultOf_109 : decode cX2_resultOf 109 = .ok (.goto (-47), 3) := by decide +kernel
theorem dX2_resultOf_112 : decode cX2_resultOf 112 = .ok (.aload_n 0, 1) := by decide +kernel
theorem dX2_resultOf_113 : decode cX2_resultOf 113 = .ok (.getfield 45, 3) := by decide +kernel
theorem dX2_resultOf_116 : decode cX2_resultOf 116 = .ok (.ifCond .eq 5, 3) := by decide +kernel
theorem dX2_resultOf_119 : decode cX2_resultOf 119 = .ok (.iconst 5, 1) := by decide +kernel
theorem dX2_resultOf_120 : decode cX2_resultOf 120 = .ok (.ireturn, 1) := by decide +kernel
theorem dX2_resultOf_121 : decode cX2_resultOf 121 = .ok (.aload 5, 2) := by decide +kernel
theorem dX2_resultOf_123 : decode cX2_resultOf 123 = .ok (.getfield 83, 3) := by decide +kernel
theorem dX2_resultOf_126 : decode cX2_resultOf 126 = .ok (.ifCond .ne 5, 3) := by decide +kernel
theorem dX2_resultOf_129 : decode cX2_resultOf 129 = .ok (.iconst 1, 1) := by decide +kernel
theorem dX2_resultOf_130 : decode cX2_resultOf 130 = .ok (.ireturn, 1) := by decide +kernel
theorem dX2_resultOf_131 : decode cX2_resultOf 131 = .ok (.aload_n 0, 1) := by decide +kernel
theorem dX2_resultOf_132 : decode cX2_resultOf 132 = .ok (.invokevirtual 86, 3) := by decide +kernel
theorem dX2_resultOf_135 : decode cX2_resultOf 135 = .ok (.ifCond .ne 5, 3) := by decide +kernel
theorem dX2_resultOf_138 : decode cX2_resultOf 138 = .ok (.iconst 5, 1) := by decide +kernel
theorem dX2_resultOf_139 : decode cX2_resultOf 139 = .ok (.ireturn, 1) := by decide +kernel
theorem dX2_resultOf_140 : decode cX2_resultOf 140 = .ok (.aload_n 0, 1) := by decide +kernel
theorem dX2_resultOf_141 : decode cX2_resultOf 141 = .ok (.getfield 18, 3) := by decide +kernel
theorem dX2_resultOf_144 : decode cX2_resultOf 144 = .ok (.aload 5, 2) := by decide +kernel
theorem dX2_resultOf_146 : decode cX2_resultOf 146 = .ok (.getfield 83, 3) := by decide +kernel
theorem dX2_resultOf_149 : decode cX2_resultOf 149 = .ok (.invokevirtual 90, 3) := by decide +kernel
theorem dX2_resultOf_152 : decode cX2_resultOf 152 = .ok (.istore_n 3, 1) := by decide +kernel
theorem dX2_resultOf_153 : decode cX2_resultOf 153 = .ok (.iinc 4 1, 3) := by decide +kernel
theorem dX2_resultOf_156 : decode cX2_resultOf 156 = .ok (.goto (-141), 3) := by decide +kernel
theorem dX2_resultOf_159 : decode cX2_resultOf 159 = .ok (.aload_n 0, 1) := by decide +kernel
theorem dX2_resultOf_160 : decode cX2_resultOf 160 = .ok (.invokevirtual 64, 3) := by decide +kernel
theorem dX2_resultOf_163 : decode cX2_resultOf 163 = .ok (.ireturn, 1) := by decide +kernel
theorem dX2_decide_0 : decode cX2_decide 0 = .ok (.iload_n 3, 1) := by decide +kernel
theorem dX2_decide_1 : decode cX2_decide 1 = .ok (.ifCond .ne 13, 3) := by decide +kernel
theorem dX2_decide_4 : decode cX2_decide 4 = .ok (.aload_n 0, 1) := by decide +kernel
theorem dX2_decide_5 : decode cX2_decide 5 = .ok (.iload_n 1, 1) := by decide +kernel
theorem dX2_decide_6 : decode cX2_decide 6 = .ok (.putfield 49, 3) := by decide +kernel
theorem dX2_decide_9 : decode cX2_decide 9 = .ok (.aload_n 0, 1) := by decide +kernel
theorem dX2_decide_10 : decode cX2_decide 10 = .ok (.iload_n 2, 1) := by decide +kernel
theorem dX2_decide_11 : decode cX2_decide 11 = .ok (.putfield 52, 3) := by decide +kernel
theorem dX2_decide_14 : decode cX2_decide 14 = .ok (.aload_n 0, 1) := by decide +kernel
theorem dX2_decide_15 : decode cX2_decide 15 = .ok (.getfield 18, 3) := by decide +kernel
theorem dX2_decide_18 : decode cX2_decide 18 = .ok (.iload_n 1, 1) := by decide +kernel
theorem dX2_decide_19 : decode cX2_decide 19 = .ok (.invokevirtual 22, 3) := by decide +kernel
theorem dX2_decide_22 : decode cX2_decide 22 = .ok (.astore 4, 2) := by decide +kernel
theorem dX2_decide_24 : decode cX2_decide 24 = .ok (.aload 4, 2) := by decide +kernel
theorem dX2_decide_26 : decode cX2_decide 26 = .ok (.ifnonnull 7, 3) := by decide +kernel
theorem dX2_decide_29 : decode cX2_decide 29 = .ok (.aconst_null, 1) := by decide +kernel
theorem dX2_decide_30 : decode cX2_decide 30 = .ok (.goto 9, 3) := by decide +kernel
theorem dX2_decide_33 : decode cX2_decide 33 = .ok (.aload 4, 2) := by decide +kernel
theorem dX2_decide_35 : decode cX2_decide 35 = .ok (.iload_n 2, 1) := by decide +kernel
theorem dX2_decide_36 : decode cX2_decide 36 = .ok (.invokevirtual 94, 3) := by decide +kernel
theorem dX2_decide_39 : decode cX2_decide 39 = .ok (.astore 5, 2) := by decide +kernel
theorem dX2_decide_41 : decode cX2_decide 41 = .ok (.aload 5, 2) := by decide +kernel
theorem dX2_decide_43 : decode cX2_decide 43 = .ok (.ifnonnull 7, 3) := by decide +kernel
theorem dX2_decide_46 : decode cX2_decide 46 = .ok (.iconst 5, 1) := by decide +kernel
theorem dX2_decide_47 : decode cX2_decide 47 = .ok (.goto 11, 3) := by decide +kernel
theorem dX2_decide_50 : decode cX2_decide 50 = .ok (.aload 5, 2) := by decide +kernel
theorem dX2_decide_52 : decode cX2_decide 52 = .ok (.getfield 98, 3) := by decide +kernel
theorem dX2_decide_55 : decode cX2_decide 55 = .ok (.invokestatic 103, 3) := by decide +kernel
theorem dX2_decide_58 : decode cX2_decide 58 = .ok (.ireturn, 1) := by decide +kernel
theorem dX2_resultOfSign_0 : decode cX2_resultOfSign 0 = .ok (.iload_n 0, 1) := by decide +kernel
theorem dX2_resultOfSign_1 : decode cX2_resultOfSign 1 = .ok (.tableswitch 33 0 2 #[27, 29, 31], 27) := by decide +kernel
theorem dX2_resultOfSign_28 : decode cX2_resultOfSign 28 = .ok (.iconst 2, 1) := by decide +kernel
theorem dX2_resultOfSign_29 : decode cX2_resultOfSign 29 = .ok (.ireturn, 1) := by decide +kernel
theorem dX2_resultOfSign_30 : decode cX2_resultOfSign 30 = .ok (.iconst 3, 1) := by decide +kernel
theorem dX2_resultOfSign_31 : decode cX2_resultOfSign 31 = .ok (.ireturn, 1) := by decide +kernel
theorem dX2_resultOfSign_32 : decode cX2_resultOfSign 32 = .ok (.iconst 4, 1) := by decide +kernel
theorem dX2_resultOfSign_33 : decode cX2_resultOfSign 33 = .ok (.ireturn, 1) := by decide +kernel
theorem dX2_resultOfSign_34 : decode cX2_resultOfSign 34 = .ok (.iconst 1, 1) := by decide +kernel
theorem dX2_resultOfSign_35 : decode cX2_resultOfSign 35 = .ok (.ireturn, 1) := by decide +kernel
theorem dX2_endWithError_0 : decode cX2_endWithError 0 = .ok (.aload_n 0, 1) := by decide +kernel
theorem dX2_endWithError_1 : decode cX2_endWithError 1 = .ok (.iconst 1, 1) := by decide +kernel
theorem dX2_endWithError_2 : decode cX2_endWithError 2 = .ok (.putfield 45, 3) := by decide +kernel
theorem dX2_endWithError_5 : decode cX2_endWithError 5 = .ok (.iconst 5, 1) := by decide +kernel
theorem dX2_endWithError_6 : decode cX2_endWithError 6 = .ok (.ireturn, 1) := by decide +kernel
theorem dX2_lookUp_0 : decode cX2_lookUp 0 = .ok (.aload_n 0, 1) := by decide +kernel
theorem dX2_lookUp_1 : decode cX2_lookUp 1 = .ok (.dup, 1) := by decide +kernel
theorem dX2_lookUp_2 : decode cX2_lookUp 2 = .ok (.getfield 39, 3) := by decide +kernel
theorem dX2_lookUp_5 : decode cX2_lookUp 5 = .ok (.iconst 1, 1) := by decide +kernel
theorem dX2_lookUp_6 : decode cX2_lookUp 6 = .ok (.iadd, 1) := by decide +kernel
theorem dX2_lookUp_7 : decode cX2_lookUp 7 = .ok (.putfield 39, 3) := by decide +kernel
theorem dX2_lookUp_10 : decode cX2_lookUp 10 = .ok (.aload_n 0, 1) := by decide +kernel
theorem dX2_lookUp_11 : decode cX2_lookUp 11 = .ok (.getfield 39, 3) := by decide +kernel
theorem dX2_lookUp_14 : decode cX2_lookUp 14 = .ok (.bipush 10, 2) := by decide +kernel
theorem dX2_lookUp_16 : decode cX2_lookUp 16 = .ok (.if_icmp .le 8, 3) := by decide +kernel
theorem dX2_lookUp_19 : decode cX2_lookUp 19 = .ok (.aload_n 0, 1) := by decide +kernel
theorem dX2_lookUp_20 : decode cX2_lookUp 20 = .ok (.iconst 1, 1) := by decide +kernel
theorem dX2_lookUp_21 : decode cX2_lookUp 21 = .ok (.putfield 45, 3) := by decide +kernel
theorem dX2_lookUp_24 : decode cX2_lookUp 24 = .ok (.aload_n 0, 1) := by decide +kernel
theorem dX2_lookUp_25 : decode cX2_lookUp 25 = .ok (.getfield 45, 3) := by decide +kernel
theorem dX2_lookUp_28 : decode cX2_lookUp 28 = .ok (.ifCond .ne 7, 3) := by decide +kernel
theorem dX2_lookUp_31 : decode cX2_lookUp 31 = .ok (.iconst 1, 1) := by decide +kernel
theorem dX2_lookUp_32 : decode cX2_lookUp 32 = .ok (.goto 4, 3) := by decide +kernel
theorem dX2_lookUp_35 : decode cX2_lookUp 35 = .ok (.iconst 0, 1) := by decide +kernel
theorem dX2_lookUp_36 : decode cX2_lookUp 36 = .ok (.ireturn, 1) := by decide +kernel
theorem dX2_findEmpty_0 : decode cX2_findEmpty 0 = .ok (.aload_n 0, 1) := by decide +kernel
theorem dX2_findEmpty_1 : decode cX2_findEmpty 1 = .ok (.dup, 1) := by decide +kernel
theorem dX2_findEmpty_2 : decode cX2_findEmpty 2 = .ok (.getfield 42, 3) := by decide +kernel
theorem dX2_findEmpty_5 : decode cX2_findEmpty 5 = .ok (.iconst 1, 1) := by decide +kernel
theorem dX2_findEmpty_6 : decode cX2_findEmpty 6 = .ok (.iadd, 1) := by decide +kernel
theorem dX2_findEmpty_7 : decode cX2_findEmpty 7 = .ok (.putfield 42, 3) := by decide +kernel
theorem dX2_findEmpty_10 : decode cX2_findEmpty 10 = .ok (.aload_n 0, 1) := by decide +kernel
theorem dX2_findEmpty_11 : decode cX2_findEmpty 11 = .ok (.getfield 42, 3) := by decide +kernel
theorem dX2_findEmpty_14 : decode cX2_findEmpty 14 = .ok (.iconst 2, 1) := by decide +kernel
theorem dX2_findEmpty_15 : decode cX2_findEmpty 15 = .ok (.if_icmp .le 8, 3) := by decide +kernel
theorem dX2_findEmpty_18 : decode cX2_findEmpty 18 = .ok (.aload_n 0, 1) := by decide +kernel
theorem dX2_findEmpty_19 : decode cX2_findEmpty 19 = .ok (.iconst 1, 1) := by decide +kernel
theorem dX2_findEmpty_20 : decode cX2_findEmpty 20 = .ok (.putfield 45, 3) := by decide +kernel
theorem dX2_findEmpty_23 : decode cX2_findEmpty 23 = .ok (.return_, 1) := by decide +kernel
theorem dX2_matches_0 : decode cX2_matches 0 = .ok (.aload_n 1, 1) := by decide +kernel
theorem dX2_matches_1 : decode cX2_matches 1 = .ok (.getfield 106, 3) := by decide +kernel
theorem dX2_matches_4 : decode cX2_matches 4 = .ok (.ifCond .ne 5, 3) := by decide +kernel
theorem dX2_matches_7 : decode cX2_matches 7 = .ok (.iconst 1, 1) := by decide +kernel
theorem dX2_matches_8 : decode cX2_matches 8 = .ok (.ireturn, 1) := by decide +kernel
theorem dX2_matches_9 : decode cX2_matches 9 = .ok (.aload_n 1, 1) := by decide +kernel
theorem dX2_matches_10 : decode cX2_matches 10 = .ok (.getfield 106, 3) := by decide +kernel
theorem dX2_matches_13 : decode cX2_matches 13 = .ok (.iconst 1, 1) := by decide +kernel
theorem dX2_matches_14 : decode cX2_matches 14 = .ok (.if_icmp .ne 12, 3) := by decide +kernel
theorem dX2_matches_17 : decode cX2_matches 17 = .ok (.aload_n 1, 1) := by decide +kernel
theorem dX2_matches_18 : decode cX2_matches 18 = .ok (.aload_n 0, 1) := by decide +kernel
theorem dX2_matches_19 : decode cX2_matches 19 = .ok (.getfield 32, 3) := by decide +kernel
theorem dX2_matches_22 : decode cX2_matches 22 = .ok (.invokevirtual 109, 3) := by decide +kernel
theorem dX2_matches_25 : decode cX2_matches 25 = .ok (.ireturn, 1) := by decide +kernel
theorem dX2_matches_26 : decode cX2_matches 26 = .ok (.aload_n 0, 1) := by decide +kernel
theorem dX2_matches_27 : decode cX2_matches 27 = .ok (.invokevirtual 86, 3) := by decide +kernel
theorem dX2_matches_30 : decode cX2_matches 30 = .ok (.ifCond .ne 5, 3) := by decide +kernel
theorem dX2_matches_33 : decode cX2_matches 33 = .ok (.iconst 0, 1) := by decide +kernel
theorem dX2_matches_34 : decode cX2_matches 34 = .ok (.ireturn, 1) := by decide +kernel
theorem dX2_matches_35 : decode cX2_matches 35 = .ok (.aload_n 1, 1) := by decide +kernel
theorem dX2_matches_36 : decode cX2_matches 36 = .ok (.getfield 106, 3) := by decide +kernel
theorem dX2_matches_39 : decode cX2_matches 39 = .ok (.tableswitch 44 2 4 #[25, 32, 38], 25) := by decide +kernel
theorem dX2_matches_64 : decode cX2_matches 64 = .ok (.aload_n 0, 1) := by decide +kernel
theorem dX2_matches_65 : decode cX2_matches 65 = .ok (.aload_n 1, 1) := by decide +kernel
theorem dX2_matches_66 : decode cX2_matches 66 = .ok (.iload_n 3, 1) := by decide +kernel
theorem dX2_matches_67 : decode cX2_matches 67 = .ok (.invokevirtual 113, 3) := by decide +kernel
theorem dX2_matches_70 : decode cX2_matches 70 = .ok (.ireturn, 1) := by decide +kernel
theorem dX2_matches_71 : decode cX2_matches 71 = .ok (.aload_n 0, 1) := by decide +kernel
theorem dX2_matches_72 : decode cX2_matches 72 = .ok (.aload_n 1, 1) := by decide +kernel
theorem dX2_matches_73 : decode cX2_matches 73 = .ok (.invokevirtual 117, 3) := by decide +kernel
theorem dX2_matches_76 : decode cX2_matches 76 = .ok (.ireturn, 1) := by decide +kernel
theorem dX2_matches_77 : decode cX2_matches 77 = .ok (.aload_n 0, 1) := by decide +kernel
theorem dX2_matches_78 : decode cX2_matches 78 = .ok (.aload_n 1, 1) := by decide +kernel
theorem dX2_matches_79 : decode cX2_matches 79 = .ok (.invokevirtual 121, 3) := by decide +kernel
theorem dX2_matches_82 : decode cX2_matches 82 = .ok (.ireturn, 1) := by decide +kernel
theorem dX2_matches_83 : decode cX2_matches 83 = .ok (.aload_n 0, 1) := by decide +kernel
theorem dX2_matches_84 : decode cX2_matches 84 = .ok (.aload_n 1, 1) := by decide +kernel
theorem dX2_matches_85 : decode cX2_matches 85 = .ok (.aload_n 2, 1) := by decide +kernel
theorem dX2_matches_86 : decode cX2_matches 86 = .ok (.invokevirtual 124, 3) := by decide +kernel
theorem dX2_matches_89 : decode cX2_matches 89 = .ok (.ireturn, 1) := by decide +kernel
theorem dX2_includeMatches_0 : decode cX2_includeMatches 0 = .ok (.aload_n 0, 1) := by decide +kernel
theorem dX2_includeMatches_1 : decode cX2_includeMatches 1 = .ok (.aload_n 0, 1) := by decide +kernel
theorem dX2_includeMatches_2 : decode cX2_includeMatches 2 = .ok (.getfield 18, 3) := by decide +kernel
theorem dX2_includeMatches_5 : decode cX2_includeMatches 5 = .ok (.aload_n 1, 1) := by decide +kernel
theorem dX2_includeMatches_6 : decode cX2_includeMatches 6 = .ok (.getfield 128, 3) := by decide +kernel
theorem dX2_includeMatches_9 : decode cX2_includeMatches 9 = .ok (.invokevirtual 90, 3) := by decide +kernel
theorem dX2_includeMatches_12 : decode cX2_includeMatches 12 = .ok (.iload_n 2, 1) := by decide +kernel
theorem dX2_includeMatches_13 : decode cX2_includeMatches 13 = .ok (.iconst 1, 1) := by decide +kernel
theorem dX2_includeMatches_14 : decode cX2_includeMatches 14 = .ok (.iadd, 1) := by decide +kernel
theorem dX2_includeMatches_15 : decode cX2_includeMatches 15 = .ok (.invokevirtual 55, 3) := by decide +kernel
theorem dX2_includeMatches_18 : decode cX2_includeMatches 18 = .ok (.istore_n 3, 1) := by decide +kernel
theorem dX2_includeMatches_19 : decode cX2_includeMatches 19 = .ok (.iload_n 3, 1) := by decide +kernel
theorem dX2_includeMatches_20 : decode cX2_includeMatches 20 = .ok (.ifCond .ne 8, 3) := by decide +kernel
theorem dX2_includeMatches_23 : decode cX2_includeMatches 23 = .ok (.aload_n 0, 1) := by decide +kernel
theorem dX2_includeMatches_24 : decode cX2_includeMatches 24 = .ok (.iconst 1, 1) := by decide +kernel
theorem dX2_includeMatches_25 : decode cX2_includeMatches 25 = .ok (.putfield 45, 3) := by decide +kernel
theorem dX2_includeMatches_28 : decode cX2_includeMatches 28 = .ok (.aload_n 0, 1) := by decide +kernel
theorem dX2_includeMatches_29 : decode cX2_includeMatches 29 = .ok (.getfield 45, 3) := by decide +kernel
theorem dX2_includeMatches_32 : decode cX2_includeMatches 32 = .ok (.ifCond .ne 12, 3) := by decide +kernel
theorem dX2_includeMatches_35 : decode cX2_includeMatches 35 = .ok (.iload_n 3, 1) := by decide +kernel
theorem dX2_includeMatches_36 : decode cX2_includeMatches 36 = .ok (.iconst 2, 1) := by decide +kernel
theorem dX2_includeMatches_37 : decode cX2_includeMatches 37 = .ok (.if_icmp .ne 7, 3) := by decide +kernel
theorem dX2_includeMatches_40 : decode cX2_includeMatches 40 = .ok (.iconst 1, 1) := by decide +kernel
theorem dX2_includeMatches_41 : decode cX2_includeMatches 41 = .ok (.goto 4, 3) := by decide +kernel
theorem dX2_includeMatches_44 : decode cX2_includeMatches 44 = .ok (.iconst 0, 1) := by decide +kernel
theorem dX2_includeMatches_45 : decode cX2_includeMatches 45 = .ok (.ireturn, 1) := by decide +kernel
theorem dX2_hostMatches_0 : decode cX2_hostMatches 0 = .ok (.aload_n 0, 1) := by decide +kernel
theorem dX2_hostMatches_1 : decode cX2_hostMatches 1 = .ok (.getfield 18, 3) := by decide +kernel
theorem dX2_hostMatches_4 : decode cX2_hostMatches 4 = .ok (.aload_n 1, 1) := by decide +kernel
theorem dX2_hostMatches_5 : decode cX2_hostMatches 5 = .ok (.getfield 128, 3) := by decide +kernel
theorem dX2_hostMatches_8 : decode cX2_hostMatches 8 = .ok (.invokevirtual 131, 3) := by decide +kernel
theorem dX2_hostMatches_11 : decode cX2_hostMatches 11 = .ok (.astore_n 2, 1) := by decide +kernel
theorem dX2_hostMatches_12 : decode cX2_hostMatches 12 = .ok (.aload_n 2, 1) := by decide +kernel
theorem dX2_hostMatches_13 : decode cX2_hostMatches 13 = .ok (.ifnull 10, 3) := by decide +kernel
theorem dX2_hostMatches_16 : decode cX2_hostMatches 16 = .ok (.aload_n 2, 1) := by decide +kernel
theorem dX2_hostMatches_17 : decode cX2_hostMatches 17 = .ok (.getfield 134, 3) := by decide +kernel
theorem dX2_hostMatches_20 : decode cX2_hostMatches 20 = .ok (.ifCond .ne 9, 3) := by decide +kernel
theorem dX2_hostMatches_23 : decode cX2_hostMatches 23 = .ok (.aload_n 0, 1) := by decide +kernel
theorem dX2_hostMatches_24 : decode cX2_hostMatches 24 = .ok (.invokevirtual 137, 3) := by decide +kernel
theorem dX2_hostMatches_27 : decode cX2_hostMatches 27 = .ok (.iconst 0, 1) := by decide +kernel
theorem dX2_hostMatches_28 : decode cX2_hostMatches 28 = .ok (.ireturn, 1) := by decide +kernel
theorem dX2_hostMatches_29 : decode cX2_hostMatches 29 = .ok (.aload_n 2, 1) := by decide +kernel
theorem dX2_hostMatches_30 : decode cX2_hostMatches 30 = .ok (.aload_n 0, 1) := by decide +kernel
theorem dX2_hostMatches_31 : decode cX2_hostMatches 31 = .ok (.getfield 32, 3) := by decide +kernel
theorem dX2_hostMatches_34 : decode cX2_hostMatches 34 = .ok (.invokevirtual 140, 3) := by decide +kernel
theorem dX2_hostMatches_37 : decode cX2_hostMatches 37 = .ok (.iconst (-1), 1) := by decide +kernel
theorem dX2_hostMatches_38 : decode cX2_hostMatches 38 = .ok (.if_icmp .eq 7, 3) := by decide +kernel
theorem dX2_hostMatches_41 : decode cX2_hostMatches 41 = .ok (.iconst 1, 1) := by decide +kernel
theorem dX2_hostMatches_42 : decode cX2_hostMatches 42 = .ok (.goto 4, 3) := by decide +kernel
theorem dX2_hostMatches_45 : decode cX2_hostMatches 45 = .ok (.iconst 0, 1) := by decide +kernel
theorem dX2_hostMatches_46 : decode cX2_hostMatches 46 = .ok (.ireturn, 1) := by decide +kernel
theorem dX2_mailMatches_0 : decode cX2_mailMatches 0 = .ok (.aload_n 0, 1) := by decide +kernel
theorem dX2_mailMatches_1 : decode cX2_mailMatches 1 = .ok (.getfield 18, 3) := by decide +kernel
theorem dX2_mailMatches_4 : decode cX2_mailMatches 4 = .ok (.aload_n 1, 1) := by decide +kernel
theorem dX2_mailMatches_5 : decode cX2_mailMatches 5 = .ok (.getfield 128, 3) := by decide +kernel
theorem dX2_mailMatches_8 : decode cX2_mailMatches 8 = .ok (.invokevirtual 131, 3) := by decide +kernel
theorem dX2_mailMatches_11 : decode cX2_mailMatches 11 = .ok (.astore_n 2, 1) := by decide +kernel
theorem dX2_mailMatches_12 : decode cX2_mailMatches 12 = .ok (.aload_n 2, 1) := by decide +kernel
theorem dX2_mailMatches_13 : decode cX2_mailMatches 13 = .ok (.ifnull 10, 3) := by decide +kernel
theorem dX2_mailMatches_16 : decode cX2_mailMatches 16 = .ok (.aload_n 2, 1) := by decide +kernel
theorem dX2_mailMatches_17 : decode cX2_mailMatches 17 = .ok (.getfield 143, 3) := by decide +kernel
theorem dX2_mailMatches_20 : decode cX2_mailMatches 20 = .ok (.ifCond .ne 9, 3) := by decide +kernel
theorem dX2_mailMatches_23 : decode cX2_mailMatches 23 = .ok (.aload_n 0, 1) := by decide +kernel
theorem dX2_mailMatches_24 : decode cX2_mailMatches 24 = .ok (.invokevirtual 137, 3) := by decide +kernel
theorem dX2_mailMatches_27 : decode cX2_mailMatches 27 = .ok (.iconst 0, 1) := by decide +kernel
theorem dX2_mailMatches_28 : decode cX2_mailMatches 28 = .ok (.ireturn, 1) := by decide +kernel
theorem dX2_mailMatches_29 : decode cX2_mailMatches 29 = .ok (.iconst 0, 1) := by decide +kernel
theorem dX2_mailMatches_30 : decode cX2_mailMatches 30 = .ok (.istore_n 3, 1) := by decide +kernel
theorem dX2_mailMatches_31 : decode cX2_mailMatches 31 = .ok (.iload_n 3, 1) := by decide +kernel
theorem dX2_mailMatches_32 : decode cX2_mailMatches 32 = .ok (.aload_n 2, 1) := by decide +kernel
theorem dX2_mailMatches_33 : decode cX2_mailMatches 33 = .ok (.getfield 143, 3) := by decide +kernel
theorem dX2_mailMatches_36 : decode cX2_mailMatches 36 = .ok (.if_icmp .ge 44, 3) := by decide +kernel
theorem dX2_mailMatches_39 : decode cX2_mailMatches 39 = .ok (.aload_n 0, 1) := by decide +kernel
theorem dX2_mailMatches_40 : decode cX2_mailMatches 40 = .ok (.getfield 18, 3) := by decide +kernel
theorem dX2_mailMatches_43 : decode cX2_mailMatches 43 = .ok (.aload_n 2, 1) := by decide +kernel
theorem dX2_mailMatches_44 : decode cX2_mailMatches 44 = .ok (.getfield 146, 3) := by decide +kernel
theorem dX2_mailMatches_47 : decode cX2_mailMatches 47 = .ok (.iload_n 3, 1) := by decide +kernel
theorem dX2_mailMatches_48 : decode cX2_mailMatches 48 = .ok (.iaload, 1) := by decide +kernel
theorem dX2_mailMatches_49 : decode cX2_mailMatches 49 = .ok (.invokevirtual 131, 3) := by decide +kernel
theorem dX2_mailMatches_52 : decode cX2_mailMatches 52 = .ok (.astore 4, 2) := by decide +kernel
theorem dX2_mailMatches_54 : decode cX2_mailMatches 54 = .ok (.aload 4, 2) := by decide +kernel
theorem dX2_mailMatches_56 : decode cX2_mailMatches 56 = .ok (.ifnull 18, 3) := by decide +kernel
theorem dX2_mailMatches_59 : decode cX2_mailMatches 59 = .ok (.aload 4, 2) := by decide +kernel
theorem dX2_mailMatches_61 : decode cX2_mailMatches 61 = .ok (.aload_n 0, 1) := by decide +kernel
theorem dX2_mailMatches_62 : decode cX2_mailMatches 62 = .ok (.getfield 32, 3) := by decide +kernel
theorem dX2_mailMatches_65 : decode cX2_mailMatches 65 = .ok (.invokevirtual 140, 3) := by decide +kernel
theorem dX2_mailMatches_68 : decode cX2_mailMatches 68 = .ok (.iconst (-1), 1) := by decide +kernel
theorem dX2_mailMatches_69 : decode cX2_mailMatches 69 = .ok (.if_icmp .eq 5, 3) := by decide +kernel
theorem dX2_mailMatches_72 : decode cX2_mailMatches 72 = .ok (.iconst 1, 1) := by decide +kernel
theorem dX2_mailMatches_73 : decode cX2_mailMatches 73 = .ok (.ireturn, 1) := by decide +kernel
theorem dX2_mailMatches_74 : decode cX2_mailMatches 74 = .ok (.iinc 3 1, 3) := by decide +kernel
theorem dX2_mailMatches_77 : decode cX2_mailMatches 77 = .ok (.goto (-46), 3) := by decide +kernel
theorem dX2_mailMatches_80 : decode cX2_mailMatches 80 = .ok (.iconst 0, 1) := by decide +kernel
theorem dX2_mailMatches_81 : decode cX2_mailMatches 81 = .ok (.ireturn, 1) := by decide +kernel
theorem dX2_existsMatches_0 : decode cX2_existsMatches 0 = .ok (.aload_n 0, 1) := by decide +kernel
theorem dX2_existsMatches_1 : decode cX2_existsMatches 1 = .ok (.getfield 12, 3) := by decide +kernel
theorem dX2_existsMatches_4 : decode cX2_existsMatches 4 = .ok (.invokevirtual 150, 3) := by decide +kernel
theorem dX2_existsMatches_7 : decode cX2_existsMatches 7 = .ok (.aload_n 1, 1) := by decide +kernel
theorem dX2_existsMatches_8 : decode cX2_existsMatches 8 = .ok (.getfield 153, 3) := by decide +kernel
theorem dX2_existsMatches_11 : decode cX2_existsMatches 11 = .ok (.iconst 1, 1) := by decide +kernel
theorem dX2_existsMatches_12 : decode cX2_existsMatches 12 = .ok (.isub, 1) := by decide +kernel
theorem dX2_existsMatches_13 : decode cX2_existsMatches 13 = .ok (.istore_n 3, 1) := by decide +kernel
theorem dX2_existsMatches_14 : decode cX2_existsMatches 14 = .ok (.iload_n 3, 1) := by decide +kernel
theorem dX2_existsMatches_15 : decode cX2_existsMatches 15 = .ok (.ifCond .lt 20, 3) := by decide +kernel
theorem dX2_existsMatches_18 : decode cX2_existsMatches 18 = .ok (.aload_n 0, 1) := by decide +kernel
theorem dX2_existsMatches_19 : decode cX2_existsMatches 19 = .ok (.aload_n 1, 1) := by decide +kernel
theorem dX2_existsMatches_20 : decode cX2_existsMatches 20 = .ok (.getfield 156, 3) := by decide +kernel
theorem dX2_existsMatches_23 : decode cX2_existsMatches 23 = .ok (.iload_n 3, 1) := by decide +kernel
theorem dX2_existsMatches_24 : decode cX2_existsMatches 24 = .ok (.iaload, 1) := by decide +kernel
theorem dX2_existsMatches_25 : decode cX2_existsMatches 25 = .ok (.aload_n 2, 1) := by decide +kernel
theorem dX2_existsMatches_26 : decode cX2_existsMatches 26 = .ok (.invokevirtual 159, 3) := by decide +kernel
theorem dX2_existsMatches_29 : decode cX2_existsMatches 29 = .ok (.iinc 3 (-1), 3) := by decide +kernel
theorem dX2_existsMatches_32 : decode cX2_existsMatches 32 = .ok (.goto (-18), 3) := by decide +kernel
theorem dX2_existsMatches_35 : decode cX2_existsMatches 35 = .ok (.aload_n 0, 1) := by decide +kernel
theorem dX2_existsMatches_36 : decode cX2_existsMatches 36 = .ok (.getfield 18, 3) := by decide +kernel
theorem dX2_existsMatches_39 : decode cX2_existsMatches 39 = .ok (.aload_n 0, 1) := by decide +kernel
theorem dX2_existsMatches_40 : decode cX2_existsMatches 40 = .ok (.getfield 12, 3) := by decide +kernel
theorem dX2_existsMatches_43 : decode cX2_existsMatches 43 = .ok (.invokevirtual 163, 3) := by decide +kernel
theorem dX2_existsMatches_46 : decode cX2_existsMatches 46 = .ok (.invokevirtual 131, 3) := by decide +kernel
theorem dX2_existsMatches_49 : decode cX2_existsMatches 49 = .ok (.astore_n 3, 1) := by decide +kernel
theorem dX2_existsMatches_50 : decode cX2_existsMatches 50 = .ok (.aload_n 3, 1) := by decide +kernel
theorem dX2_existsMatches_51 : decode cX2_existsMatches 51 = .ok (.ifnull 10, 3) := by decide +kernel
theorem dX2_existsMatches_54 : decode cX2_existsMatches 54 = .ok (.aload_n 3, 1) := by decide +kernel
theorem dX2_existsMatches_55 : decode cX2_existsMatches 55 = .ok (.getfield 134, 3) := by decide +kernel
theorem dX2_existsMatches_58 : decode cX2_existsMatches 58 = .ok (.ifCond .ne 9, 3) := by decide +kernel
theorem dX2_existsMatches_61 : decode cX2_existsMatches 61 = .ok (.aload_n 0, 1) := by decide +kernel
theorem dX2_existsMatches_62 : decode cX2_existsMatches 62 = .ok (.invokevirtual 137, 3) := by decide +kernel
theorem dX2_existsMatches_65 : decode cX2_existsMatches 65 = .ok (.iconst 0, 1) := by decide +kernel
theorem dX2_existsMatches_66 : decode cX2_existsMatches 66 = .ok (.ireturn, 1) := by decide +kernel
theorem dX2_existsMatches_67 : decode cX2_existsMatches 67 = .ok (.iconst 1, 1) := by decide +kernel
theorem dX2_existsMatches_68 : decode cX2_existsMatches 68 = .ok (.ireturn, 1) := by decide +kernel
theorem dX2_putPart_0 : decode cX2_putPart 0 = .ok (.iload_n 1, 1) := by decide +kernel
theorem dX2_putPart_1 : decode cX2_putPart 1 = .ok (.iconst 4, 1) := by decide +kernel
theorem dX2_putPart_2 : decode cX2_putPart 2 = .ok (.ishr, 1) := by decide +kernel
theorem dX2_putPart_3 : decode cX2_putPart 3 = .ok (.istore_n 3, 1) := by decide +kernel
theorem dX2_putPart_4 : decode cX2_putPart 4 = .ok (.iload_n 1, 1) := by decide +kernel
theorem dX2_putPart_5 : decode cX2_putPart 5 = .ok (.iconst 1, 1) := by decide +kernel
theorem dX2_putPart_6 : decode cX2_putPart 6 = .ok (.ishr, 1) := by decide +kernel
theorem dX2_putPart_7 : decode cX2_putPart 7 = .ok (.bipush 7, 2) := by decide +kernel
theorem dX2_putPart_9 : decode cX2_putPart 9 = .ok (.iand, 1) := by decide +kernel
theorem dX2_putPart_10 : decode cX2_putPart 10 = .ok (.istore 4, 2) := by decide +kernel
theorem dX2_putPart_12 : decode cX2_putPart 12 = .ok (.iload_n 1, 1) := by decide +kernel
theorem dX2_putPart_13 : decode cX2_putPart 13 = .ok (.iconst 1, 1) := by decide +kernel
theorem dX2_putPart_14 : decode cX2_putPart 14 = .ok (.iand, 1) := by decide +kernel
theorem dX2_putPart_15 : decode cX2_putPart 15 = .ok (.iconst 1, 1) := by decide +kernel
theorem dX2_putPart_16 : decode cX2_putPart 16 = .ok (.if_icmp .ne 7, 3) := by decide +kernel
theorem dX2_putPart_19 : decode cX2_putPart 19 = .ok (.iconst 1, 1) := by decide +kernel
theorem dX2_putPart_20 : decode cX2_putPart 20 = .ok (.goto 4, 3) := by decide +kernel
theorem dX2_putPart_23 : decode cX2_putPart 23 = .ok (.iconst 0, 1) := by decide +kernel
theorem dX2_putPart_24 : decode cX2_putPart 24 = .ok (.istore 5, 2) := by decide +kernel
theorem dX2_putPart_26 : decode cX2_putPart 26 = .ok (.aload_n 0, 1) := by decide +kernel
theorem dX2_putPart_27 : decode cX2_putPart 27 = .ok (.iload_n 3, 1) := by decide +kernel
theorem dX2_putPart_28 : decode cX2_putPart 28 = .ok (.aload_n 2, 1) := by decide +kernel
theorem dX2_putPart_29 : decode cX2_putPart 29 = .ok (.invokevirtual 166, 3) := by decide +kernel
theorem dX2_putPart_32 : decode cX2_putPart 32 = .ok (.istore 6, 2) := by decide +kernel
theorem dX2_putPart_34 : decode cX2_putPart 34 = .ok (.iload 4, 2) := by decide +kernel
theorem dX2_putPart_36 : decode cX2_putPart 36 = .ok (.ifCond .ne 8, 3) := by decide +kernel
theorem dX2_putPart_39 : decode cX2_putPart 39 = .ok (.iload 6, 2) := by decide +kernel
theorem dX2_putPart_41 : decode cX2_putPart 41 = .ok (.goto 10, 3) := by decide +kernel
theorem dX2_putPart_44 : decode cX2_putPart 44 = .ok (.iload 4, 2) := by decide +kernel
theorem dX2_putPart_46 : decode cX2_putPart 46 = .ok (.iload 6, 2) := by decide +kernel
theorem dX2_putPart_48 : decode cX2_putPart 48 = .ok (.invokestatic 170, 3) := by decide +kernel
theorem dX2_putPart_51 : decode cX2_putPart 51 = .ok (.istore 7, 2) := by decide +kernel
theorem dX2_putPart_53 : decode cX2_putPart 53 = .ok (.iconst 0, 1) := by decide +kernel
theorem dX2_putPart_54 : decode cX2_putPart 54 = .ok (.istore 8, 2) := by decide +kernel
theorem dX2_putPart_56 : decode cX2_putPart 56 = .ok (.iload 8, 2) := by decide +kernel
theorem dX2_putPart_58 : decode cX2_putPart 58 = .ok (.iload 7, 2) := by decide +kernel
theorem dX2_putPart_60 : decode cX2_putPart 60 = .ok (.if_icmp .ge 39, 3) := by decide +kernel
theorem dX2_putPart_63 : decode cX2_putPart 63 = .ok (.aload_n 0, 1) := by decide +kernel
theorem dX2_putPart_64 : decode cX2_putPart 64 = .ok (.getfield 12, 3) := by decide +kernel
theorem dX2_putPart_67 : decode cX2_putPart 67 = .ok (.aload_n 0, 1) := by decide +kernel
theorem dX2_putPart_68 : decode cX2_putPart 68 = .ok (.iload_n 3, 1) := by decide +kernel
theorem dX2_putPart_69 : decode cX2_putPart 69 = .ok (.aload_n 2, 1) := by decide +kernel
theorem dX2_putPart_70 : decode cX2_putPart 70 = .ok (.iload 5, 2) := by decide +kernel
theorem dX2_putPart_72 : decode cX2_putPart 72 = .ok (.ifCond .eq 13, 3) := by decide +kernel
theorem dX2_putPart_75 : decode cX2_putPart 75 = .ok (.iload 6, 2) := by decide +kernel
theorem dX2_putPart_77 : decode cX2_putPart 77 = .ok (.iconst 1, 1) := by decide +kernel
theorem dX2_putPart_78 : decode cX2_putPart 78 = .ok (.isub, 1) := by decide +kernel
theorem dX2_putPart_79 : decode cX2_putPart 79 = .ok (.iload 8, 2) := by decide +kernel
theorem dX2_putPart_81 : decode cX2_putPart 81 = .ok (.isub, 1) := by decide +kernel
theorem dX2_putPart_82 : decode cX2_putPart 82 = .ok (.goto 5, 3) := by decide +kernel
theorem dX2_putPart_85 : decode cX2_putPart 85 = .ok (.iload 8, 2) := by decide +kernel
theorem dX2_putPart_87 : decode cX2_putPart 87 = .ok (.invokevirtual 175, 3) := by decide +kernel
theorem dX2_putPart_90 : decode cX2_putPart 90 = .ok (.invokevirtual 179, 3) := by decide +kernel
theorem dX2_putPart_93 : decode cX2_putPart 93 = .ok (.iinc 8 1, 3) := by decide +kernel
theorem dX2_putPart_96 : decode cX2_putPart 96 = .ok (.goto (-40), 3) := by decide +kernel
theorem dX2_putPart_99 : decode cX2_putPart 99 = .ok (.return_, 1) := by decide +kernel
theorem dX2_sizeOf_0 : decode cX2_sizeOf 0 = .ok (.iload_n 1, 1) := by decide +kernel
theorem dX2_sizeOf_1 : decode cX2_sizeOf 1 = .ok (.tableswitch 53 16 18 #[27, 32, 51], 27) := by decide +kernel
theorem dX2_sizeOf_28 : decode cX2_sizeOf 28 = .ok (.aload_n 2, 1) := by decide +kernel
theorem dX2_sizeOf_29 : decode cX2_sizeOf 29 = .ok (.getfield 183, 3) := by decide +kernel
theorem dX2_sizeOf_32 : decode cX2_sizeOf 32 = .ok (.ireturn, 1) := by decide +kernel
theorem dX2_sizeOf_33 : decode cX2_sizeOf 33 = .ok (.aload_n 0, 1) := by decide +kernel
theorem dX2_sizeOf_34 : decode cX2_sizeOf 34 = .ok (.getfield 28, 3) := by decide +kernel
theorem dX2_sizeOf_37 : decode cX2_sizeOf 37 = .ok (.ifnonnull 7, 3) := by decide +kernel
theorem dX2_sizeOf_40 : decode cX2_sizeOf 40 = .ok (.iconst 0, 1) := by decide +kernel
theorem dX2_sizeOf_41 : decode cX2_sizeOf 41 = .ok (.goto 10, 3) := by decide +kernel
theorem dX2_sizeOf_44 : decode cX2_sizeOf 44 = .ok (.aload_n 0, 1) := by decide +kernel
theorem dX2_sizeOf_45 : decode cX2_sizeOf 45 = .ok (.getfield 28, 3) := by decide +kernel
theorem dX2_sizeOf_48 : decode cX2_sizeOf 48 = .ok (.getfield 183, 3) := by decide +kernel
theorem dX2_sizeOf_51 : decode cX2_sizeOf 51 = .ok (.ireturn, 1) := by decide +kernel
theorem dX2_sizeOf_52 : decode cX2_sizeOf 52 = .ok (.iconst 4, 1) := by decide +kernel
theorem dX2_sizeOf_53 : decode cX2_sizeOf 53 = .ok (.ireturn, 1) := by decide +kernel
theorem dX2_sizeOf_54 : decode cX2_sizeOf 54 = .ok (.iconst 1, 1) := by decide +kernel
theorem dX2_sizeOf_55 : decode cX2_sizeOf 55 = .ok (.ireturn, 1) := by decide +kernel
theorem dX2_fromEndOf_0 : decode cX2_fromEndOf 0 = .ok (.iload_n 1, 1) := by decide +kernel
theorem dX2_fromEndOf_1 : decode cX2_fromEndOf 1 = .ok (.tableswitch 98 16 19 #[31, 50, 82, 93], 31) := by decide +kernel
theorem dX2_fromEndOf_32 : decode cX2_fromEndOf 32 = .ok (.iload_n 3, 1) := by decide +kernel
theorem dX2_fromEndOf_33 : decode cX2_fromEndOf 33 = .ok (.aload_n 2, 1) := by decide +kernel
theorem dX2_fromEndOf_34 : decode cX2_fromEndOf 34 = .ok (.getfield 183, 3) := by decide +kernel
theorem dX2_fromEndOf_37 : decode cX2_fromEndOf 37 = .ok (.if_icmp .ge 12, 3) := by decide +kernel
theorem dX2_fromEndOf_40 : decode cX2_fromEndOf 40 = .ok (.aload_n 2, 1) := by decide +kernel
theorem dX2_fromEndOf_41 : decode cX2_fromEndOf 41 = .ok (.getfield 186, 3) := by decide +kernel
theorem dX2_fromEndOf_44 : decode cX2_fromEndOf 44 = .ok (.iload_n 3, 1) := by decide +kernel
theorem dX2_fromEndOf_45 : decode cX2_fromEndOf 45 = .ok (.iaload, 1) := by decide +kernel
theorem dX2_fromEndOf_46 : decode cX2_fromEndOf 46 = .ok (.goto 4, 3) := by decide +kernel
theorem dX2_fromEndOf_49 : decode cX2_fromEndOf 49 = .ok (.iconst 0, 1) := by decide +kernel
theorem dX2_fromEndOf_50 : decode cX2_fromEndOf 50 = .ok (.ireturn, 1) := by decide +kernel
theorem dX2_fromEndOf_51 : decode cX2_fromEndOf 51 = .ok (.aload_n 0, 1) := by decide +kernel
theorem dX2_fromEndOf_52 : decode cX2_fromEndOf 52 = .ok (.getfield 28, 3) := by decide +kernel
theorem dX2_fromEndOf_55 : decode cX2_fromEndOf 55 = .ok (.ifnull 26, 3) := by decide +kernel
theorem dX2_fromEndOf_58 : decode cX2_fromEndOf 58 = .ok (.iload_n 3, 1) := by decide +kernel
theorem dX2_fromEndOf_59 : decode cX2_fromEndOf 59 = .ok (.aload_n 0, 1) := by decide +kernel
theorem dX2_fromEndOf_60 : decode cX2_fromEndOf 60 = .ok (.getfield 28, 3) := by decide +kernel
theorem dX2_fromEndOf_63 : decode cX2_fromEndOf 63 = .ok (.getfield 183, 3) := by decide +kernel
theorem dX2_fromEndOf_66 : decode cX2_fromEndOf 66 = .ok (.if_icmp .ge 15, 3) := by decide +kernel
theorem dX2_fromEndOf_69 : decode cX2_fromEndOf 69 = .ok (.aload_n 0, 1) := by decide +kernel
theorem dX2_fromEndOf_70 : decode cX2_fromEndOf 70 = .ok (.getfield 28, 3) := by decide +kernel
theorem dX2_fromEndOf_73 : decode cX2_fromEndOf 73 = .ok (.getfield 186, 3) := by decide +kernel
theorem dX2_fromEndOf_76 : decode cX2_fromEndOf 76 = .ok (.iload_n 3, 1) := by decide +kernel
theorem dX2_fromEndOf_77 : decode cX2_fromEndOf 77 = .ok (.iaload, 1) := by decide +kernel
theorem dX2_fromEndOf_78 : decode cX2_fromEndOf 78 = .ok (.goto 4, 3) := by decide +kernel
theorem dX2_fromEndOf_81 : decode cX2_fromEndOf 81 = .ok (.iconst 0, 1) := by decide +kernel
theorem dX2_fromEndOf_82 : decode cX2_fromEndOf 82 = .ok (.ireturn, 1) := by decide +kernel
theorem dX2_fromEndOf_83 : decode cX2_fromEndOf 83 = .ok (.aload_n 0, 1) := by decide +kernel
theorem dX2_fromEndOf_84 : decode cX2_fromEndOf 84 = .ok (.getfield 32, 3) := by decide +kernel
theorem dX2_fromEndOf_87 : decode cX2_fromEndOf 87 = .ok (.iconst 2, 1) := by decide +kernel
theorem dX2_fromEndOf_88 : decode cX2_fromEndOf 88 = .ok (.iload_n 3, 1) := by decide +kernel
theorem dX2_fromEndOf_89 : decode cX2_fromEndOf 89 = .ok (.imul, 1) := by decide +kernel
theorem dX2_fromEndOf_90 : decode cX2_fromEndOf 90 = .ok (.ishr, 1) := by decide +kernel
theorem dX2_fromEndOf_91 : decode cX2_fromEndOf 91 = .ok (.iconst 3, 1) := by decide +kernel
theorem dX2_fromEndOf_92 : decode cX2_fromEndOf 92 = .ok (.iand, 1) := by decide +kernel
theorem dX2_fromEndOf_93 : decode cX2_fromEndOf 93 = .ok (.ireturn, 1) := by decide +kernel
theorem dX2_fromEndOf_94 : decode cX2_fromEndOf 94 = .ok (.aload_n 0, 1) := by decide +kernel
theorem dX2_fromEndOf_95 : decode cX2_fromEndOf 95 = .ok (.getfield 36, 3) := by decide +kernel
theorem dX2_fromEndOf_98 : decode cX2_fromEndOf 98 = .ok (.ireturn, 1) := by decide +kernel
theorem dX2_fromEndOf_99 : decode cX2_fromEndOf 99 = .ok (.iload_n 1, 1) := by decide +kernel
theorem dX2_fromEndOf_100 : decode cX2_fromEndOf 100 = .ok (.ireturn, 1) := by decide +kernel
theorem dX3_init_0 : decode cX3_init 0 = .ok (.aload_n 0, 1) := by decide +kernel
theorem dX3_init_1 : decode cX3_init 1 = .ok (.invokespecial 3, 3) := by decide +kernel
theorem dX3_init_4 : decode cX3_init 4 = .ok (.aload_n 0, 1) := by decide +kernel
theorem dX3_init_5 : decode cX3_init 5 = .ok (.iconst 4, 1) := by decide +kernel
theorem dX3_init_6 : decode cX3_init 6 = .ok (.anewarray 9, 3) := by decide +kernel
theorem dX3_init_9 : decode cX3_init 9 = .ok (.putfield 11, 3) := by decide +kernel
theorem dX3_init_12 : decode cX3_init 12 = .ok (.iconst 0, 1) := by decide +kernel
theorem dX3_init_13 : decode cX3_init 13 = .ok (.istore_n 1, 1) := by decide +kernel
theorem dX3_init_14 : decode cX3_init 14 = .ok (.iload_n 1, 1) := by decide +kernel
theorem dX3_init_15 : decode cX3_init 15 = .ok (.iconst 4, 1) := by decide +kernel
theorem dX3_init_16 : decode cX3_init 16 = .ok (.if_icmp .ge 22, 3) := by decide +kernel
theorem dX3_init_19 : decode cX3_init 19 = .ok (.aload_n 0, 1) := by decide +kernel
theorem dX3_init_20 : decode cX3_init 20 = .ok (.getfield 11, 3) := by decide +kernel
theorem dX3_init_23 : decode cX3_init 23 = .ok (.iload_n 1, 1) := by decide +kernel
theorem dX3_init_24 : decode cX3_init 24 = .ok (.new 9, 3) := by decide +kernel
theorem dX3_init_27 : decode cX3_init 27 = .ok (.dup, 1) := by decide +kernel
theorem dX3_init_28 : decode cX3_init 28 = .ok (.invokespecial 17, 3) := by decide +kernel
theorem dX3_init_31 : decode cX3_init 31 = .ok (.aastore, 1) := by decide +kernel
theorem dX3_init_32 : decode cX3_init 32 = .ok (.iinc 1 1, 3) := by decide +kernel
theorem dX3_init_35 : decode cX3_init 35 = .ok (.goto (-21), 3) := by decide +kernel
theorem dX3_init_38 : decode cX3_init 38 = .ok (.return_, 1) := by decide +kernel
theorem dX3_clear_0 : decode cX3_clear 0 = .ok (.aload_n 0, 1) := by decide +kernel
theorem dX3_clear_1 : decode cX3_clear 1 = .ok (.iconst 0, 1) := by decide +kernel
theorem dX3_clear_2 : decode cX3_clear 2 = .ok (.putfield 18, 3) := by decide +kernel
theorem dX3_clear_5 : decode cX3_clear 5 = .ok (.return_, 1) := by decide +kernel
theorem dX3_add_0 : decode cX3_add 0 = .ok (.aload_n 0, 1) := by decide +kernel
theorem dX3_add_1 : decode cX3_add 1 = .ok (.getfield 18, 3) := by decide +kernel
theorem dX3_add_4 : decode cX3_add 4 = .ok (.iconst 4, 1) := by decide +kernel
theorem dX3_add_5 : decode cX3_add 5 = .ok (.if_icmp .ge 25, 3) := by decide +kernel
theorem dX3_add_8 : decode cX3_add 8 = .ok (.aload_n 0, 1) := by decide +kernel
theorem dX3_add_9 : decode cX3_add 9 = .ok (.dup, 1) := by decide +kernel
theorem dX3_add_10 : decode cX3_add 10 = .ok (.getfield 18, 3) := by decide +kernel
theorem dX3_add_13 : decode cX3_add 13 = .ok (.iconst 1, 1) := by decide +kernel
theorem dX3_add_14 : decode cX3_add 14 = .ok (.iadd, 1) := by decide +kernel
theorem dX3_add_15 : decode cX3_add 15 = .ok (.putfield 18, 3) := by decide +kernel
theorem dX3_add_18 : decode cX3_add 18 = .ok (.aload_n 0, 1) := by decide +kernel
theorem dX3_add_19 : decode cX3_add 19 = .ok (.getfield 11, 3) := by decide +kernel
theorem dX3_add_22 : decode cX3_add 22 = .ok (.aload_n 0, 1) := by decide +kernel
theorem dX3_add_23 : decode cX3_add 23 = .ok (.getfield 18, 3) := by decide +kernel
theorem dX3_add_26 : decode cX3_add 26 = .ok (.iconst 1, 1) := by decide +kernel
theorem dX3_add_27 : decode cX3_add 27 = .ok (.isub, 1) := by decide +kernel
theorem dX3_add_28 : decode cX3_add 28 = .ok (.aaload, 1) := by decide +kernel
theorem dX3_add_29 : decode cX3_add 29 = .ok (.areturn, 1) := by decide +kernel
theorem dX3_add_30 : decode cX3_add 30 = .ok (.aload_n 0, 1) := by decide +kernel
theorem dX3_add_31 : decode cX3_add 31 = .ok (.getfield 11, 3) := by decide +kernel
theorem dX3_add_34 : decode cX3_add 34 = .ok (.iconst 0, 1) := by decide +kernel
theorem dX3_add_35 : decode cX3_add 35 = .ok (.aaload, 1) := by decide +kernel
theorem dX3_add_36 : decode cX3_add 36 = .ok (.astore_n 1, 1) := by decide +kernel
theorem dX3_add_37 : decode cX3_add 37 = .ok (.iconst 0, 1) := by decide +kernel
theorem dX3_add_38 : decode cX3_add 38 = .ok (.istore_n 2, 1) := by decide +kernel
theorem dX3_add_39 : decode cX3_add 39 = .ok (.iload_n 2, 1) := by decide +kernel
theorem dX3_add_40 : decode cX3_add 40 = .ok (.iconst 3, 1) := by decide +kernel
theorem dX3_add_41 : decode cX3_add 41 = .ok (.if_icmp .ge 23, 3) := by decide +kernel
theorem dX3_add_44 : decode cX3_add 44 = .ok (.aload_n 0, 1) := by decide +kernel
theorem dX3_add_45 : decode cX3_add 45 = .ok (.getfield 11, 3) := by decide +kernel
theorem dX3_add_48 : decode cX3_add 48 = .ok (.iload_n 2, 1) := by decide +kernel
theorem dX3_add_49 : decode cX3_add 49 = .ok (.aload_n 0, 1) := by decide +kernel
theorem dX3_add_50 : decode cX3_add 50 = .ok (.getfield 11, 3) := by decide +kernel
theorem dX3_add_53 : decode cX3_add 53 = .ok (.iload_n 2, 1) := by decide +kernel
theorem dX3_add_54 : decode cX3_add 54 = .ok (.iconst 1, 1) := by decide +kernel
theorem dX3_add_55 : decode cX3_add 55 = .ok (.iadd, 1) := by decide +kernel
theorem dX3_add_56 : decode cX3_add 56 = .ok (.aaload, 1) := by decide +kernel
theorem dX3_add_57 : decode cX3_add 57 = .ok (.aastore, 1) := by decide +kernel
theorem dX3_add_58 : decode cX3_add 58 = .ok (.iinc 2 1, 3) := by decide +kernel
theorem dX3_add_61 : decode cX3_add 61 = .ok (.goto (-22), 3) := by decide +kernel
theorem dX3_add_64 : decode cX3_add 64 = .ok (.aload_n 0, 1) := by decide +kernel
theorem dX3_add_65 : decode cX3_add 65 = .ok (.getfield 11, 3) := by decide +kernel
theorem dX3_add_68 : decode cX3_add 68 = .ok (.iconst 3, 1) := by decide +kernel
theorem dX3_add_69 : decode cX3_add 69 = .ok (.aload_n 1, 1) := by decide +kernel
theorem dX3_add_70 : decode cX3_add 70 = .ok (.aastore, 1) := by decide +kernel
theorem dX3_add_71 : decode cX3_add 71 = .ok (.aload_n 1, 1) := by decide +kernel
theorem dX3_add_72 : decode cX3_add 72 = .ok (.areturn, 1) := by decide +kernel
theorem dX3_takeLatest_0 : decode cX3_takeLatest 0 = .ok (.aload_n 0, 1) := by decide +kernel
theorem dX3_takeLatest_1 : decode cX3_takeLatest 1 = .ok (.getfield 18, 3) := by decide +kernel
theorem dX3_takeLatest_4 : decode cX3_takeLatest 4 = .ok (.ifCond .ne 5, 3) := by decide +kernel
theorem dX3_takeLatest_7 : decode cX3_takeLatest 7 = .ok (.aconst_null, 1) := by decide +kernel
theorem dX3_takeLatest_8 : decode cX3_takeLatest 8 = .ok (.areturn, 1) := by decide +kernel
theorem dX3_takeLatest_9 : decode cX3_takeLatest 9 = .ok (.aload_n 0, 1) := by decide +kernel
theorem dX3_takeLatest_10 : decode cX3_takeLatest 10 = .ok (.dup, 1) := by decide +kernel
theorem dX3_takeLatest_11 : decode cX3_takeLatest 11 = .ok (.getfield 18, 3) := by decide +kernel
theorem dX3_takeLatest_14 : decode cX3_takeLatest 14 = .ok (.iconst 1, 1) := by decide +kernel
theorem dX3_takeLatest_15 : decode cX3_takeLatest 15 = .ok (.isub, 1) := by decide +kernel
theorem dX3_takeLatest_16 : decode cX3_takeLatest 16 = .ok (.putfield 18, 3) := by decide +kernel
theorem dX3_takeLatest_19 : decode cX3_takeLatest 19 = .ok (.aload_n 0, 1) := by decide +kernel
theorem dX3_takeLatest_20 : decode cX3_takeLatest 20 = .ok (.getfield 11, 3) := by decide +kernel
theorem dX3_takeLatest_23 : decode cX3_takeLatest 23 = .ok (.aload_n 0, 1) := by decide +kernel
theorem dX3_takeLatest_24 : decode cX3_takeLatest 24 = .ok (.getfield 18, 3) := by decide +kernel
theorem dX3_takeLatest_27 : decode cX3_takeLatest 27 = .ok (.aaload, 1) := by decide +kernel
theorem dX3_takeLatest_28 : decode cX3_takeLatest 28 = .ok (.areturn, 1) := by decide +kernel
theorem dX4_init_0 : decode cX4_init 0 = .ok (.aload_n 0, 1) := by decide +kernel
theorem dX4_init_1 : decode cX4_init 1 = .ok (.invokespecial 3, 3) := by decide +kernel
theorem dX4_init_4 : decode cX4_init 4 = .ok (.aload_n 0, 1) := by decide +kernel
theorem dX4_init_5 : decode cX4_init 5 = .ok (.bipush 8, 2) := by decide +kernel
theorem dX4_init_7 : decode cX4_init 7 = .ok (.newarray .int, 2) := by decide +kernel
theorem dX4_init_9 : decode cX4_init 9 = .ok (.putfield 9, 3) := by decide +kernel
theorem dX4_init_12 : decode cX4_init 12 = .ok (.return_, 1) := by decide +kernel
theorem dX4_isOf_0 : decode cX4_isOf 0 = .ok (.aload_n 0, 1) := by decide +kernel
theorem dX4_isOf_1 : decode cX4_isOf 1 = .ok (.getfield 9, 3) := by decide +kernel
theorem dX4_isOf_4 : decode cX4_isOf 4 = .ok (.iconst 0, 1) := by decide +kernel
theorem dX4_isOf_5 : decode cX4_isOf 5 = .ok (.iaload, 1) := by decide +kernel
theorem dX4_isOf_6 : decode cX4_isOf 6 = .ok (.iload_n 1, 1) := by decide +kernel
theorem dX4_isOf_7 : decode cX4_isOf 7 = .ok (.if_icmp .ne 27, 3) := by decide +kernel
theorem dX4_isOf_10 : decode cX4_isOf 10 = .ok (.aload_n 0, 1) := by decide +kernel
theorem dX4_isOf_11 : decode cX4_isOf 11 = .ok (.getfield 9, 3) := by decide +kernel
theorem dX4_isOf_14 : decode cX4_isOf 14 = .ok (.iconst 1, 1) := by decide +kernel
theorem dX4_isOf_15 : decode cX4_isOf 15 = .ok (.iaload, 1) := by decide +kernel
theorem dX4_isOf_16 : decode cX4_isOf 16 = .ok (.iload_n 2, 1) := by decide +kernel
theorem dX4_isOf_17 : decode cX4_isOf 17 = .ok (.if_icmp .ne 17, 3) := by decide +kernel
theorem dX4_isOf_20 : decode cX4_isOf 20 = .ok (.aload_n 0, 1) := by decide +kernel
theorem dX4_isOf_21 : decode cX4_isOf 21 = .ok (.getfield 9, 3) := by decide +kernel
theorem dX4_isOf_24 : decode cX4_isOf 24 = .ok (.iconst 2, 1) := by decide +kernel
theorem dX4_isOf_25 : decode cX4_isOf 25 = .ok (.iaload, 1) := by decide +kernel
theorem dX4_isOf_26 : decode cX4_isOf 26 = .ok (.iload_n 3, 1) := by decide +kernel
theorem dX4_isOf_27 : decode cX4_isOf 27 = .ok (.if_icmp .ne 7, 3) := by decide +kernel
theorem dX4_isOf_30 : decode cX4_isOf 30 = .ok (.iconst 1, 1) := by decide +kernel
theorem dX4_isOf_31 : decode cX4_isOf 31 = .ok (.goto 4, 3) := by decide +kernel
theorem dX4_isOf_34 : decode cX4_isOf 34 = .ok (.iconst 0, 1) := by decide +kernel
theorem dX4_isOf_35 : decode cX4_isOf 35 = .ok (.ireturn, 1) := by decide +kernel
theorem dX5_init_0 : decode cX5_init 0 = .ok (.aload_n 0, 1) := by decide +kernel
theorem dX5_init_1 : decode cX5_init 1 = .ok (.invokespecial 3, 3) := by decide +kernel
theorem dX5_init_4 : decode cX5_init 4 = .ok (.aload_n 0, 1) := by decide +kernel
theorem dX5_init_5 : decode cX5_init 5 = .ok (.iconst 4, 1) := by decide +kernel
theorem dX5_init_6 : decode cX5_init 6 = .ok (.anewarray 9, 3) := by decide +kernel
theorem dX5_init_9 : decode cX5_init 9 = .ok (.putfield 11, 3) := by decide +kernel
theorem dX5_init_12 : decode cX5_init 12 = .ok (.iconst 0, 1) := by decide +kernel
theorem dX5_init_13 : decode cX5_init 13 = .ok (.istore_n 1, 1) := by decide +kernel
theorem dX5_init_14 : decode cX5_init 14 = .ok (.iload_n 1, 1) := by decide +kernel
theorem dX5_init_15 : decode cX5_init 15 = .ok (.iconst 4, 1) := by decide +kernel
theorem dX5_init_16 : decode cX5_init 16 = .ok (.if_icmp .ge 22, 3) := by decide +kernel
theorem dX5_init_19 : decode cX5_init 19 = .ok (.aload_n 0, 1) := by decide +kernel
theorem dX5_init_20 : decode cX5_init 20 = .ok (.getfield 11, 3) := by decide +kernel
theorem dX5_init_23 : decode cX5_init 23 = .ok (.iload_n 1, 1) := by decide +kernel
theorem dX5_init_24 : decode cX5_init 24 = .ok (.new 9, 3) := by decide +kernel
theorem dX5_init_27 : decode cX5_init 27 = .ok (.dup, 1) := by decide +kernel
theorem dX5_init_28 : decode cX5_init 28 = .ok (.invokespecial 17, 3) := by decide +kernel
theorem dX5_init_31 : decode cX5_init 31 = .ok (.aastore, 1) := by decide +kernel
theorem dX5_init_32 : decode cX5_init 32 = .ok (.iinc 1 1, 3) := by decide +kernel
theorem dX5_init_35 : decode cX5_init 35 = .ok (.goto (-21), 3) := by decide +kernel
theorem dX5_init_38 : decode cX5_init 38 = .ok (.return_, 1) := by decide +kernel
theorem dX5_clear_0 : decode cX5_clear 0 = .ok (.aload_n 0, 1) := by decide +kernel
theorem dX5_clear_1 : decode cX5_clear 1 = .ok (.iconst 0, 1) := by decide +kernel
theorem dX5_clear_2 : decode cX5_clear 2 = .ok (.putfield 18, 3) := by decide +kernel
theorem dX5_clear_5 : decode cX5_clear 5 = .ok (.return_, 1) := by decide +kernel
theorem dX5_valueOf_0 : decode cX5_valueOf 0 = .ok (.iload_n 1, 1) := by decide +kernel
theorem dX5_valueOf_1 : decode cX5_valueOf 1 = .ok (.ifCond .lt 35, 3) := by decide +kernel
theorem dX5_valueOf_4 : decode cX5_valueOf 4 = .ok (.iload_n 1, 1) := by decide +kernel
theorem dX5_valueOf_5 : decode cX5_valueOf 5 = .ok (.aload_n 0, 1) := by decide +kernel
theorem dX5_valueOf_6 : decode cX5_valueOf 6 = .ok (.getfield 18, 3) := by decide +kernel
theorem dX5_valueOf_9 : decode cX5_valueOf 9 = .ok (.if_icmp .ge 27, 3) := by decide +kernel
theorem dX5_valueOf_12 : decode cX5_valueOf 12 = .ok (.iload_n 2, 1) := by decide +kernel
theorem dX5_valueOf_13 : decode cX5_valueOf 13 = .ok (.ifCond .lt 23, 3) := by decide +kernel
theorem dX5_valueOf_16 : decode cX5_valueOf 16 = .ok (.iload_n 2, 1) := by decide +kernel
theorem dX5_valueOf_17 : decode cX5_valueOf 17 = .ok (.bipush 8, 2) := by decide +kernel
theorem dX5_valueOf_19 : decode cX5_valueOf 19 = .ok (.if_icmp .ge 17, 3) := by decide +kernel
theorem dX5_valueOf_22 : decode cX5_valueOf 22 = .ok (.aload_n 0, 1) := by decide +kernel
theorem dX5_valueOf_23 : decode cX5_valueOf 23 = .ok (.getfield 11, 3) := by decide +kernel
theorem dX5_valueOf_26 : decode cX5_valueOf 26 = .ok (.iload_n 1, 1) := by decide +kernel
theorem dX5_valueOf_27 : decode cX5_valueOf 27 = .ok (.aaload, 1) := by decide +kernel
theorem dX5_valueOf_28 : decode cX5_valueOf 28 = .ok (.getfield 22, 3) := by decide +kernel
theorem dX5_valueOf_31 : decode cX5_valueOf 31 = .ok (.iload_n 2, 1) := by decide +kernel
theorem dX5_valueOf_32 : decode cX5_valueOf 32 = .ok (.iaload, 1) := by decide +kernel
theorem dX5_valueOf_33 : decode cX5_valueOf 33 = .ok (.goto 5, 3) := by decide +kernel
theorem dX5_valueOf_36 : decode cX5_valueOf 36 = .ok (.bipush (-4), 2) := by decide +kernel
theorem dX5_valueOf_38 : decode cX5_valueOf 38 = .ok (.ireturn, 1) := by decide +kernel
theorem dX5_keep_0 : decode cX5_keep 0 = .ok (.aload_n 0, 1) := by decide +kernel
theorem dX5_keep_1 : decode cX5_keep 1 = .ok (.iload_n 2, 1) := by decide +kernel
theorem dX5_keep_2 : decode cX5_keep 2 = .ok (.aload_n 1, 1) := by decide +kernel
theorem dX5_keep_3 : decode cX5_keep 3 = .ok (.getfield 26, 3) := by decide +kernel
theorem dX5_keep_6 : decode cX5_keep 6 = .ok (.aload_n 1, 1) := by decide +kernel
theorem dX5_keep_7 : decode cX5_keep 7 = .ok (.getfield 31, 3) := by decide +kernel
theorem dX5_keep_10 : decode cX5_keep 10 = .ok (.invokevirtual 34, 3) := by decide +kernel
theorem dX5_keep_13 : decode cX5_keep 13 = .ok (.getfield 22, 3) := by decide +kernel
theorem dX5_keep_16 : decode cX5_keep 16 = .ok (.astore 4, 2) := by decide +kernel
theorem dX5_keep_18 : decode cX5_keep 18 = .ok (.aload 4, 2) := by decide +kernel
theorem dX5_keep_20 : decode cX5_keep 20 = .ok (.iconst 0, 1) := by decide +kernel
theorem dX5_keep_21 : decode cX5_keep 21 = .ok (.iload_n 2, 1) := by decide +kernel
theorem dX5_keep_22 : decode cX5_keep 22 = .ok (.iastore, 1) := by decide +kernel
theorem dX5_keep_23 : decode cX5_keep 23 = .ok (.aload 4, 2) := by decide +kernel
theorem dX5_keep_25 : decode cX5_keep 25 = .ok (.iconst 1, 1) := by decide +kernel
theorem dX5_keep_26 : decode cX5_keep 26 = .ok (.aload_n 1, 1) := by decide +kernel
theorem dX5_keep_27 : decode cX5_keep 27 = .ok (.getfield 26, 3) := by decide +kernel
theorem dX5_keep_30 : decode cX5_keep 30 = .ok (.iastore, 1) := by decide +kernel
theorem dX5_keep_31 : decode cX5_keep 31 = .ok (.aload 4, 2) := by decide +kernel
theorem dX5_keep_33 : decode cX5_keep 33 = .ok (.iconst 2, 1) := by decide +kernel
theorem dX5_keep_34 : decode cX5_keep 34 = .ok (.aload_n 1, 1) := by decide +kernel
theorem dX5_keep_35 : decode cX5_keep 35 = .ok (.getfield 31, 3) := by decide +kernel
theorem dX5_keep_38 : decode cX5_keep 38 = .ok (.iastore, 1) := by decide +kernel
theorem dX5_keep_39 : decode cX5_keep 39 = .ok (.aload 4, 2) := by decide +kernel
theorem dX5_keep_41 : decode cX5_keep 41 = .ok (.iconst 3, 1) := by decide +kernel
theorem dX5_keep_42 : decode cX5_keep 42 = .ok (.iload_n 3, 1) := by decide +kernel
theorem dX5_keep_43 : decode cX5_keep 43 = .ok (.iastore, 1) := by decide +kernel
theorem dX5_keep_44 : decode cX5_keep 44 = .ok (.aload 4, 2) := by decide +kernel
theorem dX5_keep_46 : decode cX5_keep 46 = .ok (.iconst 4, 1) := by decide +kernel
theorem dX5_keep_47 : decode cX5_keep 47 = .ok (.aload_n 1, 1) := by decide +kernel
theorem dX5_keep_48 : decode cX5_keep 48 = .ok (.getfield 38, 3) := by decide +kernel
theorem dX5_keep_51 : decode cX5_keep 51 = .ok (.iastore, 1) := by decide +kernel
theorem dX5_keep_52 : decode cX5_keep 52 = .ok (.aload 4, 2) := by decide +kernel
theorem dX5_keep_54 : decode cX5_keep 54 = .ok (.iconst 5, 1) := by decide +kernel
theorem dX5_keep_55 : decode cX5_keep 55 = .ok (.aload_n 1, 1) := by decide +kernel
theorem dX5_keep_56 : decode cX5_keep 56 = .ok (.getfield 41, 3) := by decide +kernel
theorem dX5_keep_59 : decode cX5_keep 59 = .ok (.iastore, 1) := by decide +kernel
theorem dX5_keep_60 : decode cX5_keep 60 = .ok (.aload 4, 2) := by decide +kernel
theorem dX5_keep_62 : decode cX5_keep 62 = .ok (.bipush 6, 2) := by decide +kernel
theorem dX5_keep_64 : decode cX5_keep 64 = .ok (.aload_n 1, 1) := by decide +kernel
theorem dX5_keep_65 : decode cX5_keep 65 = .ok (.getfield 44, 3) := by decide +kernel
theorem dX5_keep_68 : decode cX5_keep 68 = .ok (.iastore, 1) := by decide +kernel
theorem dX5_keep_69 : decode cX5_keep 69 = .ok (.aload 4, 2) := by decide +kernel
theorem dX5_keep_71 : decode cX5_keep 71 = .ok (.bipush 7, 2) := by decide +kernel
theorem dX5_keep_73 : decode cX5_keep 73 = .ok (.aload_n 1, 1) := by decide +kernel
theorem dX5_keep_74 : decode cX5_keep 74 = .ok (.getfield 47, 3) := by decide +kernel
theorem dX5_keep_77 : decode cX5_keep 77 = .ok (.iastore, 1) := by decide +kernel
theorem dX5_keep_78 : decode cX5_keep 78 = .ok (.return_, 1) := by decide +kernel
theorem dX5_placeFor_0 : decode cX5_placeFor 0 = .ok (.iconst 0, 1) := by decide +kernel
theorem dX5_placeFor_1 : decode cX5_placeFor 1 = .ok (.istore 4, 2) := by decide +kernel
theorem dX5_placeFor_3 : decode cX5_placeFor 3 = .ok (.iload 4, 2) := by decide +kernel
theorem dX5_placeFor_5 : decode cX5_placeFor 5 = .ok (.aload_n 0, 1) := by decide +kernel
theorem dX5_placeFor_6 : decode cX5_placeFor 6 = .ok (.getfield 18, 3) := by decide +kernel
theorem dX5_placeFor_9 : decode cX5_placeFor 9 = .ok (.if_icmp .ge 25, 3) := by decide +kernel
theorem dX5_placeFor_12 : decode cX5_placeFor 12 = .ok (.aload_n 0, 1) := by decide +kernel
theorem dX5_placeFor_13 : decode cX5_placeFor 13 = .ok (.getfield 11, 3) := by decide +kernel
theorem dX5_placeFor_16 : decode cX5_placeFor 16 = .ok (.iload 4, 2) := by decide +kernel
theorem dX5_placeFor_18 : decode cX5_placeFor 18 = .ok (.aaload, 1) := by decide +kernel
theorem dX5_placeFor_19 : decode cX5_placeFor 19 = .ok (.iload_n 1, 1) := by decide +kernel
theorem dX5_placeFor_20 : decode cX5_placeFor 20 = .ok (.iload_n 2, 1) := by decide +kernel
theorem dX5_placeFor_21 : decode cX5_placeFor 21 = .ok (.iload_n 3, 1) := by decide +kernel
theorem dX5_placeFor_22 : decode cX5_placeFor 22 = .ok (.invokevirtual 50, 3) := by decide +kernel
theorem dX5_placeFor_25 : decode cX5_placeFor 25 = .ok (.ifCond .ne 9, 3) := by decide +kernel
theorem dX5_placeFor_28 : decode cX5_placeFor 28 = .ok (.iinc 4 1, 3) := by decide +kernel
theorem dX5_placeFor_31 : decode cX5_placeFor 31 = .ok (.goto (-28), 3) := by decide +kernel
theorem dX5_placeFor_34 : decode cX5_placeFor 34 = .ok (.iload 4, 2) := by decide +kernel
theorem dX5_placeFor_36 : decode cX5_placeFor 36 = .ok (.aload_n 0, 1) := by decide +kernel
theorem dX5_placeFor_37 : decode cX5_placeFor 37 = .ok (.getfield 18, 3) := by decide +kernel
theorem dX5_placeFor_40 : decode cX5_placeFor 40 = .ok (.if_icmp .ne 21, 3) := by decide +kernel
theorem dX5_placeFor_43 : decode cX5_placeFor 43 = .ok (.aload_n 0, 1) := by decide +kernel
theorem dX5_placeFor_44 : decode cX5_placeFor 44 = .ok (.getfield 18, 3) := by decide +kernel
theorem dX5_placeFor_47 : decode cX5_placeFor 47 = .ok (.iconst 4, 1) := by decide +kernel
theorem dX5_placeFor_48 : decode cX5_placeFor 48 = .ok (.if_icmp .ge 13, 3) := by decide +kernel
theorem dX5_placeFor_51 : decode cX5_placeFor 51 = .ok (.aload_n 0, 1) := by decide +kernel
theorem dX5_placeFor_52 : decode cX5_placeFor 52 = .ok (.dup, 1) := by decide +kernel
theorem dX5_placeFor_53 : decode cX5_placeFor 53 = .ok (.getfield 18, 3) := by decide +kernel
theorem dX5_placeFor_56 : decode cX5_placeFor 56 = .ok (.iconst 1, 1) := by decide +kernel
theorem dX5_placeFor_57 : decode cX5_placeFor 57 = .ok (.iadd, 1) := by decide +kernel
theorem dX5_placeFor_58 : decode cX5_placeFor 58 = .ok (.putfield 18, 3) := by decide +kernel
theorem dX5_placeFor_61 : decode cX5_placeFor 61 = .ok (.iload 4, 2) := by decide +kernel
theorem dX5_placeFor_63 : decode cX5_placeFor 63 = .ok (.iconst 3, 1) := by decide +kernel
theorem dX5_placeFor_64 : decode cX5_placeFor 64 = .ok (.invokestatic 54, 3) := by decide +kernel
theorem dX5_placeFor_67 : decode cX5_placeFor 67 = .ok (.istore 4, 2) := by decide +kernel
theorem dX5_placeFor_69 : decode cX5_placeFor 69 = .ok (.aload_n 0, 1) := by decide +kernel
theorem dX5_placeFor_70 : decode cX5_placeFor 70 = .ok (.getfield 11, 3) := by decide +kernel
theorem dX5_placeFor_73 : decode cX5_placeFor 73 = .ok (.iload 4, 2) := by decide +kernel
theorem dX5_placeFor_75 : decode cX5_placeFor 75 = .ok (.aaload, 1) := by decide +kernel
theorem dX5_placeFor_76 : decode cX5_placeFor 76 = .ok (.astore 5, 2) := by decide +kernel
theorem dX5_placeFor_78 : decode cX5_placeFor 78 = .ok (.iload 4, 2) := by decide +kernel
theorem dX5_placeFor_80 : decode cX5_placeFor 80 = .ok (.istore 6, 2) := by decide +kernel
theorem dX5_placeFor_82 : decode cX5_placeFor 82 = .ok (.iload 6, 2) := by decide +kernel
theorem dX5_placeFor_84 : decode cX5_placeFor 84 = .ok (.ifCond .le 25, 3) := by decide +kernel
theorem dX5_placeFor_87 : decode cX5_placeFor 87 = .ok (.aload_n 0, 1) := by decide +kernel
theorem dX5_placeFor_88 : decode cX5_placeFor 88 = .ok (.getfield 11, 3) := by decide +kernel
theorem dX5_placeFor_91 : decode cX5_placeFor 91 = .ok (.iload 6, 2) := by decide +kernel
theorem dX5_placeFor_93 : decode cX5_placeFor 93 = .ok (.aload_n 0, 1) := by decide +kernel
theorem dX5_placeFor_94 : decode cX5_placeFor 94 = .ok (.getfield 11, 3) := by decide +kernel
theorem dX5_placeFor_97 : decode cX5_placeFor 97 = .ok (.iload 6, 2) := by decide +kernel
theorem dX5_placeFor_99 : decode cX5_placeFor 99 = .ok (.iconst 1, 1) := by decide +kernel
theorem dX5_placeFor_100 : decode cX5_placeFor 100 = .ok (.isub, 1) := by decide +kernel
theorem dX5_placeFor_101 : decode cX5_placeFor 101 = .ok (.aaload, 1) := by decide +kernel
theorem dX5_placeFor_102 : decode cX5_placeFor 102 = .ok (.aastore, 1) := by decide +kernel
theorem dX5_placeFor_103 : decode cX5_placeFor 103 = .ok (.iinc 6 (-1), 3) := by decide +kernel
theorem dX5_placeFor_106 : decode cX5_placeFor 106 = .ok (.goto (-24), 3) := by decide +kernel
theorem dX5_placeFor_109 : decode cX5_placeFor 109 = .ok (.aload_n 0, 1) := by decide +kernel
theorem dX5_placeFor_110 : decode cX5_placeFor 110 = .ok (.getfield 11, 3) := by decide +kernel
theorem dX5_placeFor_113 : decode cX5_placeFor 113 = .ok (.iconst 0, 1) := by decide +kernel
theorem dX5_placeFor_114 : decode cX5_placeFor 114 = .ok (.aload 5, 2) := by decide +kernel
theorem dX5_placeFor_116 : decode cX5_placeFor 116 = .ok (.aastore, 1) := by decide +kernel
theorem dX5_placeFor_117 : decode cX5_placeFor 117 = .ok (.aload 5, 2) := by decide +kernel
theorem dX5_placeFor_119 : decode cX5_placeFor 119 = .ok (.areturn, 1) := by decide +kernel
theorem dX6_init_0 : decode cX6_init 0 = .ok (.aload_n 0, 1) := by decide +kernel
theorem dX6_init_1 : decode cX6_init 1 = .ok (.invokespecial 3, 3) := by decide +kernel
theorem dX6_init_4 : decode cX6_init 4 = .ok (.return_, 1) := by decide +kernel
theorem dX6_clear_0 : decode cX6_clear 0 = .ok (.aload_n 0, 1) := by decide +kernel
theorem dX6_clear_1 : decode cX6_clear 1 = .ok (.iconst 0, 1) := by decide +kernel
theorem dX6_clear_2 : decode cX6_clear 2 = .ok (.putfield 9, 3) := by decide +kernel
theorem dX6_clear_5 : decode cX6_clear 5 = .ok (.aload_n 0, 1) := by decide +kernel
theorem dX6_clear_6 : decode cX6_clear 6 = .ok (.iconst 0, 1) := by decide +kernel
theorem dX6_clear_7 : decode cX6_clear 7 = .ok (.putfield 15, 3) := by decide +kernel
theorem dX6_clear_10 : decode cX6_clear 10 = .ok (.return_, 1) := by decide +kernel
theorem dX6_putBefore_0 : decode cX6_putBefore 0 = .ok (.aload_n 0, 1) := by decide +kernel
theorem dX6_putBefore_1 : decode cX6_putBefore 1 = .ok (.getfield 15, 3) := by decide +kernel
theorem dX6_putBefore_4 : decode cX6_putBefore 4 = .ok (.bipush 7, 2) := by decide +kernel
theorem dX6_putBefore_6 : decode cX6_putBefore 6 = .ok (.if_icmp .ge 28, 3) := by decide +kernel
theorem dX6_putBefore_9 : decode cX6_putBefore 9 = .ok (.aload_n 0, 1) := by decide +kernel
theorem dX6_putBefore_10 : decode cX6_putBefore 10 = .ok (.aload_n 0, 1) := by decide +kernel
theorem dX6_putBefore_11 : decode cX6_putBefore 11 = .ok (.getfield 9, 3) := by decide +kernel
theorem dX6_putBefore_14 : decode cX6_putBefore 14 = .ok (.bipush 17, 2) := by decide +kernel
theorem dX6_putBefore_16 : decode cX6_putBefore 16 = .ok (.imul, 1) := by decide +kernel
theorem dX6_putBefore_17 : decode cX6_putBefore 17 = .ok (.iload_n 1, 1) := by decide +kernel
theorem dX6_putBefore_18 : decode cX6_putBefore 18 = .ok (.iadd, 1) := by decide +kernel
theorem dX6_putBefore_19 : decode cX6_putBefore 19 = .ok (.iconst 1, 1) := by decide +kernel
theorem dX6_putBefore_20 : decode cX6_putBefore 20 = .ok (.iadd, 1) := by decide +kernel
theorem dX6_putBefore_21 : decode cX6_putBefore 21 = .ok (.putfield 9, 3) := by decide +kernel
theorem dX6_putBefore_24 : decode cX6_putBefore 24 = .ok (.aload_n 0, 1) := by decide +kernel
theorem dX6_putBefore_25 : decode cX6_putBefore 25 = .ok (.dup, 1) := by decide +kernel
theorem dX6_putBefore_26 : decode cX6_putBefore 26 = .ok (.getfield 15, 3) := by decide +kernel
theorem dX6_putBefore_29 : decode cX6_putBefore 29 = .ok (.iconst 1, 1) := by decide +kernel
theorem dX6_putBefore_30 : decode cX6_putBefore 30 = .ok (.iadd, 1) := by decide +kernel
theorem dX6_putBefore_31 : decode cX6_putBefore 31 = .ok (.putfield 15, 3) := by decide +kernel
theorem dX6_putBefore_34 : decode cX6_putBefore 34 = .ok (.return_, 1) := by decide +kernel
theorem dX6_finished_0 : decode cX6_finished 0 = .ok (.aload_n 0, 1) := by decide +kernel
theorem dX6_finished_1 : decode cX6_finished 1 = .ok (.getfield 9, 3) := by decide +kernel
theorem dX6_finished_4 : decode cX6_finished 4 = .ok (.istore_n 1, 1) := by decide +kernel
theorem dX6_finished_5 : decode cX6_finished 5 = .ok (.aload_n 0, 1) := by decide +kernel
theorem dX6_finished_6 : decode cX6_finished 6 = .ok (.getfield 15, 3) := by decide +kernel
theorem dX6_finished_9 : decode cX6_finished 9 = .ok (.istore_n 2, 1) := by decide +kernel
theorem dX6_finished_10 : decode cX6_finished 10 = .ok (.iload_n 2, 1) := by decide +kernel
theorem dX6_finished_11 : decode cX6_finished 11 = .ok (.bipush 7, 2) := by decide +kernel
theorem dX6_finished_13 : decode cX6_finished 13 = .ok (.if_icmp .ge 14, 3) := by decide +kernel
theorem dX6_finished_16 : decode cX6_finished 16 = .ok (.iload_n 1, 1) := by decide +kernel
theorem dX6_finished_17 : decode cX6_finished 17 = .ok (.bipush 17, 2) := by decide +kernel
theorem dX6_finished_19 : decode cX6_finished 19 = .ok (.imul, 1) := by decide +kernel
theorem dX6_finished_20 : decode cX6_finished 20 = .ok (.istore_n 1, 1) := by decide +kernel
theorem dX6_finished_21 : decode cX6_finished 21 = .ok (.iinc 2 1, 3) := by decide +kernel
theorem dX6_finished_24 : decode cX6_finished 24 = .ok (.goto (-14), 3) := by decide +kernel
theorem dX6_finished_27 : decode cX6_finished 27 = .ok (.iload_n 1, 1) := by decide +kernel
theorem dX6_finished_28 : decode cX6_finished 28 = .ok (.ireturn, 1) := by decide +kernel
theorem dX7_init_0 : decode cX7_init 0 = .ok (.aload_n 0, 1) := by decide +kernel
theorem dX7_init_1 : decode cX7_init 1 = .ok (.invokespecial 3, 3) := by decide +kernel
theorem dX7_init_4 : decode cX7_init 4 = .ok (.aload_n 0, 1) := by decide +kernel
theorem dX7_init_5 : decode cX7_init 5 = .ok (.sipush 240, 3) := by decide +kernel
theorem dX7_init_8 : decode cX7_init 8 = .ok (.newarray .char, 2) := by decide +kernel
theorem dX7_init_10 : decode cX7_init 10 = .ok (.putfield 9, 3) := by decide +kernel
theorem dX7_init_13 : decode cX7_init 13 = .ok (.aload_n 0, 1) := by decide +kernel
theorem dX7_init_14 : decode cX7_init 14 = .ok (.new 15, 3) := by decide +kernel
theorem dX7_init_17 : decode cX7_init 17 = .ok (.dup, 1) := by decide +kernel
theorem dX7_init_18 : decode cX7_init 18 = .ok (.invokespecial 17, 3) := by decide +kernel
theorem dX7_init_21 : decode cX7_init 21 = .ok (.putfield 18, 3) := by decide +kernel
theorem dX7_init_24 : decode cX7_init 24 = .ok (.return_, 1) := by decide +kernel
theorem dX7_append_0 : decode cX7_append 0 = .ok (.aload_n 0, 1) := by decide +kernel
theorem dX7_append_1 : decode cX7_append 1 = .ok (.getfield 22, 3) := by decide +kernel
theorem dX7_append_4 : decode cX7_append 4 = .ok (.sipush 240, 3) := by decide +kernel
theorem dX7_append_7 : decode cX7_append 7 = .ok (.if_icmp .lt 5, 3) := by decide +kernel
theorem dX7_append_10 : decode cX7_append 10 = .ok (.iconst 0, 1) := by decide +kernel
theorem dX7_append_11 : decode cX7_append 11 = .ok (.ireturn, 1) := by decide +kernel
theorem dX7_append_12 : decode cX7_append 12 = .ok (.aload_n 0, 1) := by decide +kernel
theorem dX7_append_13 : decode cX7_append 13 = .ok (.getfield 9, 3) := by decide +kernel
theorem dX7_append_16 : decode cX7_append 16 = .ok (.aload_n 0, 1) := by decide +kernel
theorem dX7_append_17 : decode cX7_append 17 = .ok (.getfield 22, 3) := by decide +kernel
theorem dX7_append_20 : decode cX7_append 20 = .ok (.iload_n 1, 1) := by decide +kernel
theorem dX7_append_21 : decode cX7_append 21 = .ok (.castore, 1) := by decide +kernel
theorem dX7_append_22 : decode cX7_append 22 = .ok (.aload_n 0, 1) := by decide +kernel
theorem dX7_append_23 : decode cX7_append 23 = .ok (.dup, 1) := by decide +kernel
theorem dX7_append_24 : decode cX7_append 24 = .ok (.getfield 22, 3) := by decide +kernel
theorem dX7_append_27 : decode cX7_append 27 = .ok (.iconst 1, 1) := by decide +kernel
theorem dX7_append_28 : decode cX7_append 28 = .ok (.iadd, 1) := by decide +kernel
theorem dX7_append_29 : decode cX7_append 29 = .ok (.putfield 22, 3) := by decide +kernel
theorem dX7_append_32 : decode cX7_append 32 = .ok (.iconst 1, 1) := by decide +kernel
theorem dX7_append_33 : decode cX7_append 33 = .ok (.ireturn, 1) := by decide +kernel
theorem dX7_empty_0 : decode cX7_empty 0 = .ok (.aload_n 0, 1) := by decide +kernel
theorem dX7_empty_1 : decode cX7_empty 1 = .ok (.iconst 0, 1) := by decide +kernel
theorem dX7_empty_2 : decode cX7_empty 2 = .ok (.putfield 22, 3) := by decide +kernel
theorem dX7_empty_5 : decode cX7_empty 5 = .ok (.return_, 1) := by decide +kernel
theorem dX7_readAll_0 : decode cX7_readAll 0 = .ok (.aload_n 0, 1) := by decide +kernel
theorem dX7_readAll_1 : decode cX7_readAll 1 = .ok (.iconst 0, 1) := by decide +kernel
theorem dX7_readAll_2 : decode cX7_readAll 2 = .ok (.putfield 26, 3) := by decide +kernel
theorem dX7_readAll_5 : decode cX7_readAll 5 = .ok (.aload_n 1, 1) := by decide +kernel
theorem dX7_readAll_6 : decode cX7_readAll 6 = .ok (.invokevirtual 29, 3) := by decide +kernel
theorem dX7_readAll_9 : decode cX7_readAll 9 = .ok (.iconst 0, 1) := by decide +kernel
theorem dX7_readAll_10 : decode cX7_readAll 10 = .ok (.istore_n 2, 1) := by decide +kernel
theorem dX7_readAll_11 : decode cX7_readAll 11 = .ok (.iload_n 2, 1) := by decide +kernel
theorem dX7_readAll_12 : decode cX7_readAll 12 = .ok (.sipush 240, 3) := by decide +kernel
theorem dX7_readAll_15 : decode cX7_readAll 15 = .ok (.if_icmp .ge 35, 3) := by decide +kernel
theorem dX7_readAll_18 : decode cX7_readAll 18 = .ok (.aload_n 0, 1) := by decide +kernel
theorem dX7_readAll_19 : decode cX7_readAll 19 = .ok (.getfield 26, 3) := by decide +kernel
theorem dX7_readAll_22 : decode cX7_readAll 22 = .ok (.aload_n 0, 1) := by decide +kernel
theorem dX7_readAll_23 : decode cX7_readAll 23 = .ok (.getfield 22, 3) := by decide +kernel
theorem dX7_readAll_26 : decode cX7_readAll 26 = .ok (.if_icmp .ge 24, 3) := by decide +kernel
theorem dX7_readAll_29 : decode cX7_readAll 29 = .ok (.aload_n 0, 1) := by decide +kernel
theorem dX7_readAll_30 : decode cX7_readAll 30 = .ok (.getfield 26, 3) := by decide +kernel
theorem dX7_readAll_33 : decode cX7_readAll 33 = .ok (.istore_n 3, 1) := by decide +kernel
theorem dX7_readAll_34 : decode cX7_readAll 34 = .ok (.aload_n 0, 1) := by decide +kernel
theorem dX7_readAll_35 : decode cX7_readAll 35 = .ok (.aload_n 1, 1) := by decide +kernel
theorem dX7_readAll_36 : decode cX7_readAll 36 = .ok (.invokevirtual 34, 3) := by decide +kernel
theorem dX7_readAll_39 : decode cX7_readAll 39 = .ok (.ifCond .ne 5, 3) := by decide +kernel
theorem dX7_readAll_42 : decode cX7_readAll 42 = .ok (.iload_n 3, 1) := by decide +kernel
theorem dX7_readAll_43 : decode cX7_readAll 43 = .ok (.ireturn, 1) := by decide +kernel
theorem dX7_readAll_44 : decode cX7_readAll 44 = .ok (.iinc 2 1, 3) := by decide +kernel
theorem dX7_readAll_47 : decode cX7_readAll 47 = .ok (.goto (-36), 3) := by decide +kernel
theorem dX7_readAll_50 : decode cX7_readAll 50 = .ok (.bipush (-4), 2) := by decide +kernel
theorem dX7_readAll_52 : decode cX7_readAll 52 = .ok (.ireturn, 1) := by decide +kernel
theorem dX7_readWholeAsName_0 : decode cX7_readWholeAsName 0 = .ok (.aload_n 0, 1) := by decide +kernel
theorem dX7_readWholeAsName_1 : decode cX7_readWholeAsName 1 = .ok (.iconst 0, 1) := by decide +kernel
theorem dX7_readWholeAsName_2 : decode cX7_readWholeAsName 2 = .ok (.putfield 26, 3) := by decide +kernel
theorem dX7_readWholeAsName_5 : decode cX7_readWholeAsName 5 = .ok (.aload_n 0, 1) := by decide +kernel
theorem dX7_readWholeAsName_6 : decode cX7_readWholeAsName 6 = .ok (.invokevirtual 38, 3) := by decide +kernel
theorem dX7_readWholeAsName_9 : decode cX7_readWholeAsName 9 = .ok (.istore_n 1, 1) := by decide +kernel
theorem dX7_readWholeAsName_10 : decode cX7_readWholeAsName 10 = .ok (.aload_n 0, 1) := by decide +kernel
theorem dX7_readWholeAsName_11 : decode cX7_readWholeAsName 11 = .ok (.getfield 26, 3) := by decide +kernel
theorem dX7_readWholeAsName_14 : decode cX7_readWholeAsName 14 = .ok (.aload_n 0, 1) := by decide +kernel
theorem dX7_readWholeAsName_15 : decode cX7_readWholeAsName 15 = .ok (.getfield 22, 3) := by decide +kernel
theorem dX7_readWholeAsName_18 : decode cX7_readWholeAsName 18 = .ok (.if_icmp .ne 7, 3) := by decide +kernel
theorem dX7_readWholeAsName_21 : decode cX7_readWholeAsName 21 = .ok (.iload_n 1, 1) := by decide +kernel
theorem dX7_readWholeAsName_22 : decode cX7_readWholeAsName 22 = .ok (.goto 4, 3) := by decide +kernel
theorem dX7_readWholeAsName_25 : decode cX7_readWholeAsName 25 = .ok (.iconst 0, 1) := by decide +kernel
theorem dX7_readWholeAsName_26 : decode cX7_readWholeAsName 26 = .ok (.ireturn, 1) := by decide +kernel
theorem dX7_peek_0 : decode cX7_peek 0 = .ok (.aload_n 0, 1) := by decide +kernel
theorem dX7_peek_1 : decode cX7_peek 1 = .ok (.getfield 26, 3) := by decide +kernel
theorem dX7_peek_4 : decode cX7_peek 4 = .ok (.aload_n 0, 1) := by decide +kernel
theorem dX7_peek_5 : decode cX7_peek 5 = .ok (.getfield 22, 3) := by decide +kernel
theorem dX7_peek_8 : decode cX7_peek 8 = .ok (.if_icmp .ge 15, 3) := by decide +kernel
theorem dX7_peek_11 : decode cX7_peek 11 = .ok (.aload_n 0, 1) := by decide +kernel
theorem dX7_peek_12 : decode cX7_peek 12 = .ok (.getfield 9, 3) := by decide +kernel
theorem dX7_peek_15 : decode cX7_peek 15 = .ok (.aload_n 0, 1) := by decide +kernel
theorem dX7_peek_16 : decode cX7_peek 16 = .ok (.getfield 26, 3) := by decide +kernel
theorem dX7_peek_19 : decode cX7_peek 19 = .ok (.caload, 1) := by decide +kernel
theorem dX7_peek_20 : decode cX7_peek 20 = .ok (.goto 4, 3) := by decide +kernel
theorem dX7_peek_23 : decode cX7_peek 23 = .ok (.iconst 0, 1) := by decide +kernel
theorem dX7_peek_24 : decode cX7_peek 24 = .ok (.ireturn, 1) := by decide +kernel
theorem dX7_next_0 : decode cX7_next 0 = .ok (.aload_n 0, 1) := by decide +kernel
theorem dX7_next_1 : decode cX7_next 1 = .ok (.getfield 26, 3) := by decide +kernel
theorem dX7_next_4 : decode cX7_next 4 = .ok (.aload_n 0, 1) := by decide +kernel
theorem dX7_next_5 : decode cX7_next 5 = .ok (.getfield 22, 3) := by decide +kernel
theorem dX7_next_8 : decode cX7_next 8 = .ok (.if_icmp .lt 5, 3) := by decide +kernel
theorem dX7_next_11 : decode cX7_next 11 = .ok (.iconst 0, 1) := by decide +kernel
theorem dX7_next_12 : decode cX7_next 12 = .ok (.ireturn, 1) := by decide +kernel
theorem dX7_next_13 : decode cX7_next 13 = .ok (.aload_n 0, 1) := by decide +kernel
theorem dX7_next_14 : decode cX7_next 14 = .ok (.dup, 1) := by decide +kernel
theorem dX7_next_15 : decode cX7_next 15 = .ok (.getfield 26, 3) := by decide +kernel
theorem dX7_next_18 : decode cX7_next 18 = .ok (.iconst 1, 1) := by decide +kernel
theorem dX7_next_19 : decode cX7_next 19 = .ok (.iadd, 1) := by decide +kernel
theorem dX7_next_20 : decode cX7_next 20 = .ok (.putfield 26, 3) := by decide +kernel
theorem dX7_next_23 : decode cX7_next 23 = .ok (.aload_n 0, 1) := by decide +kernel
theorem dX7_next_24 : decode cX7_next 24 = .ok (.getfield 9, 3) := by decide +kernel
theorem dX7_next_27 : decode cX7_next 27 = .ok (.aload_n 0, 1) := by decide +kernel
theorem dX7_next_28 : decode cX7_next 28 = .ok (.getfield 26, 3) := by decide +kernel
theorem dX7_next_31 : decode cX7_next 31 = .ok (.iconst 1, 1) := by decide +kernel
theorem dX7_next_32 : decode cX7_next 32 = .ok (.isub, 1) := by decide +kernel
theorem dX7_next_33 : decode cX7_next 33 = .ok (.caload, 1) := by decide +kernel
theorem dX7_next_34 : decode cX7_next 34 = .ok (.ireturn, 1) := by decide +kernel
theorem dX7_take_0 : decode cX7_take 0 = .ok (.aload_n 0, 1) := by decide +kernel
theorem dX7_take_1 : decode cX7_take 1 = .ok (.getfield 26, 3) := by decide +kernel
theorem dX7_take_4 : decode cX7_take 4 = .ok (.aload_n 0, 1) := by decide +kernel
theorem dX7_take_5 : decode cX7_take 5 = .ok (.getfield 22, 3) := by decide +kernel
theorem dX7_take_8 : decode cX7_take 8 = .ok (.if_icmp .ge 16, 3) := by decide +kernel
theorem dX7_take_11 : decode cX7_take 11 = .ok (.aload_n 0, 1) := by decide +kernel
theorem dX7_take_12 : decode cX7_take 12 = .ok (.getfield 9, 3) := by decide +kernel
theorem dX7_take_15 : decode cX7_take 15 = .ok (.aload_n 0, 1) := by decide +kernel
theorem dX7_take_16 : decode cX7_take 16 = .ok (.getfield 26, 3) := by decide +kernel
theorem dX7_take_19 : decode cX7_take 19 = .ok (.caload, 1) := by decide +kernel
theorem dX7_take_20 : decode cX7_take 20 = .ok (.iload_n 1, 1) := by decide +kernel
theorem dX7_take_21 : decode cX7_take 21 = .ok (.if_icmp .eq 5, 3) := by decide +kernel
theorem dX7_take_24 : decode cX7_take 24 = .ok (.iconst 0, 1) := by decide +kernel
theorem dX7_take_25 : decode cX7_take 25 = .ok (.ireturn, 1) := by decide +kernel
theorem dX7_take_26 : decode cX7_take 26 = .ok (.aload_n 0, 1) := by decide +kernel
theorem dX7_take_27 : decode cX7_take 27 = .ok (.dup, 1) := by decide +kernel
theorem dX7_take_28 : decode cX7_take 28 = .ok (.getfield 26, 3) := by decide +kernel
theorem dX7_take_31 : decode cX7_take 31 = .ok (.iconst 1, 1) := by decide +kernel
theorem dX7_take_32 : decode cX7_take 32 = .ok (.iadd, 1) := by decide +kernel
theorem dX7_take_33 : decode cX7_take 33 = .ok (.putfield 26, 3) := by decide +kernel
theorem dX7_take_36 : decode cX7_take 36 = .ok (.iconst 1, 1) := by decide +kernel
theorem dX7_take_37 : decode cX7_take 37 = .ok (.ireturn, 1) := by decide +kernel
theorem dX7_readItem_0 : decode cX7_readItem 0 = .ok (.aload_n 0, 1) := by decide +kernel
theorem dX7_readItem_1 : decode cX7_readItem 1 = .ok (.invokevirtual 42, 3) := by decide +kernel
theorem dX7_readItem_4 : decode cX7_readItem 4 = .ok (.istore_n 2, 1) := by decide +kernel
theorem dX7_readItem_5 : decode cX7_readItem 5 = .ok (.aload_n 0, 1) := by decide +kernel
theorem dX7_readItem_6 : decode cX7_readItem 6 = .ok (.invokevirtual 38, 3) := by decide +kernel
theorem dX7_readItem_9 : decode cX7_readItem 9 = .ok (.istore_n 3, 1) := by decide +kernel
theorem dX7_readItem_10 : decode cX7_readItem 10 = .ok (.iload_n 3, 1) := by decide +kernel
theorem dX7_readItem_11 : decode cX7_readItem 11 = .ok (.ifCond .eq 12, 3) := by decide +kernel
theorem dX7_readItem_14 : decode cX7_readItem 14 = .ok (.aload_n 0, 1) := by decide +kernel
theorem dX7_readItem_15 : decode cX7_readItem 15 = .ok (.bipush 58, 2) := by decide +kernel
theorem dX7_readItem_17 : decode cX7_readItem 17 = .ok (.invokevirtual 46, 3) := by decide +kernel
theorem dX7_readItem_20 : decode cX7_readItem 20 = .ok (.ifCond .ne 5, 3) := by decide +kernel
theorem dX7_readItem_23 : decode cX7_readItem 23 = .ok (.iconst 0, 1) := by decide +kernel
theorem dX7_readItem_24 : decode cX7_readItem 24 = .ok (.ireturn, 1) := by decide +kernel
theorem dX7_readItem_25 : decode cX7_readItem 25 = .ok (.aload_n 1, 1) := by decide +kernel
theorem dX7_readItem_26 : decode cX7_readItem 26 = .ok (.iload_n 3, 1) := by decide +kernel
theorem dX7_readItem_27 : decode cX7_readItem 27 = .ok (.invokevirtual 50, 3) := by decide +kernel
theorem dX7_readItem_30 : decode cX7_readItem 30 = .ok (.astore 4, 2) := by decide +kernel
theorem dX7_readItem_32 : decode cX7_readItem 32 = .ok (.aload 4, 2) := by decide +kernel
theorem dX7_readItem_34 : decode cX7_readItem 34 = .ok (.ifnonnull 5, 3) := by decide +kernel
theorem dX7_readItem_37 : decode cX7_readItem 37 = .ok (.iconst 0, 1) := by decide +kernel
theorem dX7_readItem_38 : decode cX7_readItem 38 = .ok (.ireturn, 1) := by decide +kernel
theorem dX7_readItem_39 : decode cX7_readItem 39 = .ok (.iload_n 2, 1) := by decide +kernel
theorem dX7_readItem_40 : decode cX7_readItem 40 = .ok (.lookupswitch 108 #[(97, 60), (110, 36), (120, 84)], 36) := by decide +kernel
theorem dX7_readItem_76 : decode cX7_readItem 76 = .ok (.aload_n 0, 1) := by decide +kernel
theorem dX7_readItem_77 : decode cX7_readItem 77 = .ok (.aload 4, 2) := by decide +kernel
theorem dX7_readItem_79 : decode cX7_readItem 79 = .ok (.invokevirtual 54, 3) := by decide +kernel
theorem dX7_readItem_82 : decode cX7_readItem 82 = .ok (.ifCond .eq 16, 3) := by decide +kernel
theorem dX7_readItem_85 : decode cX7_readItem 85 = .ok (.aload_n 0, 1) := by decide +kernel
theorem dX7_readItem_86 : decode cX7_readItem 86 = .ok (.bipush 59, 2) := by decide +kernel
theorem dX7_readItem_88 : decode cX7_readItem 88 = .ok (.invokevirtual 46, 3) := by decide +kernel
theorem dX7_readItem_91 : decode cX7_readItem 91 = .ok (.ifCond .eq 7, 3) := by decide +kernel
theorem dX7_readItem_94 : decode cX7_readItem 94 = .ok (.iconst 1, 1) := by decide +kernel
theorem dX7_readItem_95 : decode cX7_readItem 95 = .ok (.goto 4, 3) := by decide +kernel
theorem dX7_readItem_98 : decode cX7_readItem 98 = .ok (.iconst 0, 1) := by decide +kernel
theorem dX7_readItem_99 : decode cX7_readItem 99 = .ok (.ireturn, 1) := by decide +kernel
theorem dX7_readItem_100 : decode cX7_readItem 100 = .ok (.aload_n 0, 1) := by decide +kernel
theorem dX7_readItem_101 : decode cX7_readItem 101 = .ok (.aload 4, 2) := by decide +kernel
theorem dX7_readItem_103 : decode cX7_readItem 103 = .ok (.invokevirtual 58, 3) := by decide +kernel
theorem dX7_readItem_106 : decode cX7_readItem 106 = .ok (.ifCond .eq 16, 3) := by decide +kernel
theorem dX7_readItem_109 : decode cX7_readItem 109 = .ok (.aload_n 0, 1) := by decide +kernel
theorem dX7_readItem_110 : decode cX7_readItem 110 = .ok (.bipush 59, 2) := by decide +kernel
theorem dX7_readItem_112 : decode cX7_readItem 112 = .ok (.invokevirtual 46, 3) := by decide +kernel
theorem dX7_readItem_115 : decode cX7_readItem 115 = .ok (.ifCond .eq 7, 3) := by decide +kernel
theorem dX7_readItem_118 : decode cX7_readItem 118 = .ok (.iconst 1, 1) := by decide +kernel
theorem dX7_readItem_119 : decode cX7_readItem 119 = .ok (.goto 4, 3) := by decide +kernel
theorem dX7_readItem_122 : decode cX7_readItem 122 = .ok (.iconst 0, 1) := by decide +kernel
theorem dX7_readItem_123 : decode cX7_readItem 123 = .ok (.ireturn, 1) := by decide +kernel
theorem dX7_readItem_124 : decode cX7_readItem 124 = .ok (.aload_n 0, 1) := by decide +kernel
theorem dX7_readItem_125 : decode cX7_readItem 125 = .ok (.aload 4, 2) := by decide +kernel
theorem dX7_readItem_127 : decode cX7_readItem 127 = .ok (.invokevirtual 61, 3) := by decide +kernel
theorem dX7_readItem_130 : decode cX7_readItem 130 = .ok (.ifCond .eq 16, 3) := by decide +kernel
theorem dX7_readItem_133 : decode cX7_readItem 133 = .ok (.aload_n 0, 1) := by decide +kernel
theorem dX7_readItem_134 : decode cX7_readItem 134 = .ok (.bipush 59, 2) := by decide +kernel
theorem dX7_readItem_136 : decode cX7_readItem 136 = .ok (.invokevirtual 46, 3) := by decide +kernel
theorem dX7_readItem_139 : decode cX7_readItem 139 = .ok (.ifCond .eq 7, 3) := by decide +kernel
theorem dX7_readItem_142 : decode cX7_readItem 142 = .ok (.iconst 1, 1) := by decide +kernel
theorem dX7_readItem_143 : decode cX7_readItem 143 = .ok (.goto 4, 3) := by decide +kernel
theorem dX7_readItem_146 : decode cX7_readItem 146 = .ok (.iconst 0, 1) := by decide +kernel
theorem dX7_readItem_147 : decode cX7_readItem 147 = .ok (.ireturn, 1) := by decide +kernel
theorem dX7_readItem_148 : decode cX7_readItem 148 = .ok (.iconst 0, 1) := by decide +kernel
theorem dX7_readItem_149 : decode cX7_readItem 149 = .ok (.ireturn, 1) := by decide +kernel
theorem dX7_readPolicy_0 : decode cX7_readPolicy 0 = .ok (.aload_n 1, 1) := by decide +kernel
theorem dX7_readPolicy_1 : decode cX7_readPolicy 1 = .ok (.invokevirtual 64, 3) := by decide +kernel
theorem dX7_readPolicy_4 : decode cX7_readPolicy 4 = .ok (.iconst 0, 1) := by decide +kernel
theorem dX7_readPolicy_5 : decode cX7_readPolicy 5 = .ok (.istore_n 2, 1) := by decide +kernel
theorem dX7_readPolicy_6 : decode cX7_readPolicy 6 = .ok (.iload_n 2, 1) := by decide +kernel
theorem dX7_readPolicy_7 : decode cX7_readPolicy 7 = .ok (.bipush 8, 2) := by decide +kernel
theorem dX7_readPolicy_9 : decode cX7_readPolicy 9 = .ok (.if_icmp .gt 73, 3) := by decide +kernel
theorem dX7_readPolicy_12 : decode cX7_readPolicy 12 = .ok (.iload_n 2, 1) := by decide +kernel
theorem dX7_readPolicy_13 : decode cX7_readPolicy 13 = .ok (.ifCond .le 33, 3) := by decide +kernel
theorem dX7_readPolicy_16 : decode cX7_readPolicy 16 = .ok (.aload_n 0, 1) := by decide +kernel
theorem dX7_readPolicy_17 : decode cX7_readPolicy 17 = .ok (.bipush 114, 2) := by decide +kernel
theorem dX7_readPolicy_19 : decode cX7_readPolicy 19 = .ok (.invokevirtual 46, 3) := by decide +kernel
theorem dX7_readPolicy_22 : decode cX7_readPolicy 22 = .ok (.ifCond .eq 24, 3) := by decide +kernel
theorem dX7_readPolicy_25 : decode cX7_readPolicy 25 = .ok (.aload_n 1, 1) := by decide +kernel
theorem dX7_readPolicy_26 : decode cX7_readPolicy 26 = .ok (.aload_n 0, 1) := by decide +kernel
theorem dX7_readPolicy_27 : decode cX7_readPolicy 27 = .ok (.invokevirtual 38, 3) := by decide +kernel
theorem dX7_readPolicy_30 : decode cX7_readPolicy 30 = .ok (.putfield 69, 3) := by decide +kernel
theorem dX7_readPolicy_33 : decode cX7_readPolicy 33 = .ok (.aload_n 1, 1) := by decide +kernel
theorem dX7_readPolicy_34 : decode cX7_readPolicy 34 = .ok (.getfield 69, 3) := by decide +kernel
theorem dX7_readPolicy_37 : decode cX7_readPolicy 37 = .ok (.ifCond .eq 7, 3) := by decide +kernel
theorem dX7_readPolicy_40 : decode cX7_readPolicy 40 = .ok (.iconst 1, 1) := by decide +kernel
theorem dX7_readPolicy_41 : decode cX7_readPolicy 41 = .ok (.goto 4, 3) := by decide +kernel
theorem dX7_readPolicy_44 : decode cX7_readPolicy 44 = .ok (.iconst 0, 1) := by decide +kernel
theorem dX7_readPolicy_45 : decode cX7_readPolicy 45 = .ok (.ireturn, 1) := by decide +kernel
theorem dX7_readPolicy_46 : decode cX7_readPolicy 46 = .ok (.aload_n 1, 1) := by decide +kernel
theorem dX7_readPolicy_47 : decode cX7_readPolicy 47 = .ok (.invokevirtual 72, 3) := by decide +kernel
theorem dX7_readPolicy_50 : decode cX7_readPolicy 50 = .ok (.astore_n 3, 1) := by decide +kernel
theorem dX7_readPolicy_51 : decode cX7_readPolicy 51 = .ok (.aload_n 3, 1) := by decide +kernel
theorem dX7_readPolicy_52 : decode cX7_readPolicy 52 = .ok (.ifnull 11, 3) := by decide +kernel
theorem dX7_readPolicy_55 : decode cX7_readPolicy 55 = .ok (.aload_n 0, 1) := by decide +kernel
theorem dX7_readPolicy_56 : decode cX7_readPolicy 56 = .ok (.aload_n 3, 1) := by decide +kernel
theorem dX7_readPolicy_57 : decode cX7_readPolicy 57 = .ok (.invokevirtual 76, 3) := by decide +kernel
theorem dX7_readPolicy_60 : decode cX7_readPolicy 60 = .ok (.ifCond .ne 5, 3) := by decide +kernel
theorem dX7_readPolicy_63 : decode cX7_readPolicy 63 = .ok (.iconst 0, 1) := by decide +kernel
theorem dX7_readPolicy_64 : decode cX7_readPolicy 64 = .ok (.ireturn, 1) := by decide +kernel
theorem dX7_readPolicy_65 : decode cX7_readPolicy 65 = .ok (.aload_n 0, 1) := by decide +kernel
theorem dX7_readPolicy_66 : decode cX7_readPolicy 66 = .ok (.bipush 44, 2) := by decide +kernel
theorem dX7_readPolicy_68 : decode cX7_readPolicy 68 = .ok (.invokevirtual 46, 3) := by decide +kernel
theorem dX7_readPolicy_71 : decode cX7_readPolicy 71 = .ok (.ifCond .ne 5, 3) := by decide +kernel
theorem dX7_readPolicy_74 : decode cX7_readPolicy 74 = .ok (.iconst 1, 1) := by decide +kernel
theorem dX7_readPolicy_75 : decode cX7_readPolicy 75 = .ok (.ireturn, 1) := by decide +kernel
theorem dX7_readPolicy_76 : decode cX7_readPolicy 76 = .ok (.iinc 2 1, 3) := by decide +kernel
theorem dX7_readPolicy_79 : decode cX7_readPolicy 79 = .ok (.goto (-73), 3) := by decide +kernel
theorem dX7_readPolicy_82 : decode cX7_readPolicy 82 = .ok (.iconst 0, 1) := by decide +kernel
theorem dX7_readPolicy_83 : decode cX7_readPolicy 83 = .ok (.ireturn, 1) := by decide +kernel
theorem dX7_readHosts_0 : decode cX7_readHosts 0 = .ok (.aload_n 1, 1) := by decide +kernel
theorem dX7_readHosts_1 : decode cX7_readHosts 1 = .ok (.iconst 0, 1) := by decide +kernel
theorem dX7_readHosts_2 : decode cX7_readHosts 2 = .ok (.putfield 80, 3) := by decide +kernel
theorem dX7_readHosts_5 : decode cX7_readHosts 5 = .ok (.iconst 0, 1) := by decide +kernel
theorem dX7_readHosts_6 : decode cX7_readHosts 6 = .ok (.istore_n 2, 1) := by decide +kernel
theorem dX7_readHosts_7 : decode cX7_readHosts 7 = .ok (.iload_n 2, 1) := by decide +kernel
theorem dX7_readHosts_8 : decode cX7_readHosts 8 = .ok (.iconst 4, 1) := by decide +kernel
theorem dX7_readHosts_9 : decode cX7_readHosts 9 = .ok (.if_icmp .ge 43, 3) := by decide +kernel
theorem dX7_readHosts_12 : decode cX7_readHosts 12 = .ok (.aload_n 0, 1) := by decide +kernel
theorem dX7_readHosts_13 : decode cX7_readHosts 13 = .ok (.sipush 255, 3) := by decide +kernel
theorem dX7_readHosts_16 : decode cX7_readHosts 16 = .ok (.invokevirtual 83, 3) := by decide +kernel
theorem dX7_readHosts_19 : decode cX7_readHosts 19 = .ok (.istore_n 3, 1) := by decide +kernel
theorem dX7_readHosts_20 : decode cX7_readHosts 20 = .ok (.iload_n 3, 1) := by decide +kernel
theorem dX7_readHosts_21 : decode cX7_readHosts 21 = .ok (.ifCond .lt 12, 3) := by decide +kernel
theorem dX7_readHosts_24 : decode cX7_readHosts 24 = .ok (.aload_n 1, 1) := by decide +kernel
theorem dX7_readHosts_25 : decode cX7_readHosts 25 = .ok (.iload_n 2, 1) := by decide +kernel
theorem dX7_readHosts_26 : decode cX7_readHosts 26 = .ok (.iload_n 3, 1) := by decide +kernel
theorem dX7_readHosts_27 : decode cX7_readHosts 27 = .ok (.invokevirtual 87, 3) := by decide +kernel
theorem dX7_readHosts_30 : decode cX7_readHosts 30 = .ok (.ifCond .ne 5, 3) := by decide +kernel
theorem dX7_readHosts_33 : decode cX7_readHosts 33 = .ok (.iconst 0, 1) := by decide +kernel
theorem dX7_readHosts_34 : decode cX7_readHosts 34 = .ok (.ireturn, 1) := by decide +kernel
theorem dX7_readHosts_35 : decode cX7_readHosts 35 = .ok (.aload_n 0, 1) := by decide +kernel
theorem dX7_readHosts_36 : decode cX7_readHosts 36 = .ok (.bipush 44, 2) := by decide +kernel
theorem dX7_readHosts_38 : decode cX7_readHosts 38 = .ok (.invokevirtual 46, 3) := by decide +kernel
theorem dX7_readHosts_41 : decode cX7_readHosts 41 = .ok (.ifCond .ne 5, 3) := by decide +kernel
theorem dX7_readHosts_44 : decode cX7_readHosts 44 = .ok (.iconst 1, 1) := by decide +kernel
theorem dX7_readHosts_45 : decode cX7_readHosts 45 = .ok (.ireturn, 1) := by decide +kernel
theorem dX7_readHosts_46 : decode cX7_readHosts 46 = .ok (.iinc 2 1, 3) := by decide +kernel
theorem dX7_readHosts_49 : decode cX7_readHosts 49 = .ok (.goto (-42), 3) := by decide +kernel
theorem dX7_readHosts_52 : decode cX7_readHosts 52 = .ok (.iconst 0, 1) := by decide +kernel
theorem dX7_readHosts_53 : decode cX7_readHosts 53 = .ok (.ireturn, 1) := by decide +kernel
theorem dX7_readExchangers_0 : decode cX7_readExchangers 0 = .ok (.aload_n 1, 1) := by decide +kernel
theorem dX7_readExchangers_1 : decode cX7_readExchangers 1 = .ok (.iconst 0, 1) := by decide +kernel
theorem dX7_readExchangers_2 : decode cX7_readExchangers 2 = .ok (.putfield 91, 3) := by decide +kernel
theorem dX7_readExchangers_5 : decode cX7_readExchangers 5 = .ok (.iconst 0, 1) := by decide +kernel
theorem dX7_readExchangers_6 : decode cX7_readExchangers 6 = .ok (.istore_n 2, 1) := by decide +kernel
theorem dX7_readExchangers_7 : decode cX7_readExchangers 7 = .ok (.iload_n 2, 1) := by decide +kernel
theorem dX7_readExchangers_8 : decode cX7_readExchangers 8 = .ok (.iconst 3, 1) := by decide +kernel
theorem dX7_readExchangers_9 : decode cX7_readExchangers 9 = .ok (.if_icmp .ge 39, 3) := by decide +kernel
theorem dX7_readExchangers_12 : decode cX7_readExchangers 12 = .ok (.aload_n 0, 1) := by decide +kernel
theorem dX7_readExchangers_13 : decode cX7_readExchangers 13 = .ok (.invokevirtual 38, 3) := by decide +kernel
theorem dX7_readExchangers_16 : decode cX7_readExchangers 16 = .ok (.istore_n 3, 1) := by decide +kernel
theorem dX7_readExchangers_17 : decode cX7_readExchangers 17 = .ok (.iload_n 3, 1) := by decide +kernel
theorem dX7_readExchangers_18 : decode cX7_readExchangers 18 = .ok (.ifCond .eq 11, 3) := by decide +kernel
theorem dX7_readExchangers_21 : decode cX7_readExchangers 21 = .ok (.aload_n 1, 1) := by decide +kernel
theorem dX7_readExchangers_22 : decode cX7_readExchangers 22 = .ok (.iload_n 3, 1) := by decide +kernel
theorem dX7_readExchangers_23 : decode cX7_readExchangers 23 = .ok (.invokevirtual 94, 3) := by decide +kernel
theorem dX7_readExchangers_26 : decode cX7_readExchangers 26 = .ok (.ifCond .ne 5, 3) := by decide +kernel
theorem dX7_readExchangers_29 : decode cX7_readExchangers 29 = .ok (.iconst 0, 1) := by decide +kernel
theorem dX7_readExchangers_30 : decode cX7_readExchangers 30 = .ok (.ireturn, 1) := by decide +kernel
theorem dX7_readExchangers_31 : decode cX7_readExchangers 31 = .ok (.aload_n 0, 1) := by decide +kernel
theorem dX7_readExchangers_32 : decode cX7_readExchangers 32 = .ok (.bipush 44, 2) := by decide +kernel
theorem dX7_readExchangers_34 : decode cX7_readExchangers 34 = .ok (.invokevirtual 46, 3) := by decide +kernel
theorem dX7_readExchangers_37 : decode cX7_readExchangers 37 = .ok (.ifCond .ne 5, 3) := by decide +kernel
theorem dX7_readExchangers_40 : decode cX7_readExchangers 40 = .ok (.iconst 1, 1) := by decide +kernel
theorem dX7_readExchangers_41 : decode cX7_readExchangers 41 = .ok (.ireturn, 1) := by decide +kernel
theorem dX7_readExchangers_42 : decode cX7_readExchangers 42 = .ok (.iinc 2 1, 3) := by decide +kernel
theorem dX7_readExchangers_45 : decode cX7_readExchangers 45 = .ok (.goto (-38), 3) := by decide +kernel
theorem dX7_readExchangers_48 : decode cX7_readExchangers 48 = .ok (.iconst 0, 1) := by decide +kernel
theorem dX7_readExchangers_49 : decode cX7_readExchangers 49 = .ok (.ireturn, 1) := by decide +kernel
theorem dX7_readRule_0 : decode cX7_readRule 0 = .ok (.ldc 98, 2) := by decide +kernel
theorem dX7_readRule_2 : decode cX7_readRule 2 = .ok (.aload_n 0, 1) := by decide +kernel
theorem dX7_readRule_3 : decode cX7_readRule 3 = .ok (.invokevirtual 42, 3) := by decide +kernel
theorem dX7_readRule_6 : decode cX7_readRule 6 = .ok (.invokevirtual 100, 3) := by decide +kernel
theorem dX7_readRule_9 : decode cX7_readRule 9 = .ok (.istore_n 2, 1) := by decide +kernel
theorem dX7_readRule_10 : decode cX7_readRule 10 = .ok (.ldc 105, 2) := by decide +kernel
theorem dX7_readRule_12 : decode cX7_readRule 12 = .ok (.aload_n 0, 1) := by decide +kernel
theorem dX7_readRule_13 : decode cX7_readRule 13 = .ok (.invokevirtual 42, 3) := by decide +kernel
theorem dX7_readRule_16 : decode cX7_readRule 16 = .ok (.invokevirtual 100, 3) := by decide +kernel
theorem dX7_readRule_19 : decode cX7_readRule 19 = .ok (.istore_n 3, 1) := by decide +kernel
theorem dX7_readRule_20 : decode cX7_readRule 20 = .ok (.iload_n 2, 1) := by decide +kernel
theorem dX7_readRule_21 : decode cX7_readRule 21 = .ok (.ifCond .ge 5, 3) := by decide +kernel
theorem dX7_readRule_24 : decode cX7_readRule 24 = .ok (.iconst 0, 1) := by decide +kernel
theorem dX7_readRule_25 : decode cX7_readRule 25 = .ok (.ireturn, 1) := by decide +kernel
theorem dX7_readRule_26 : decode cX7_readRule 26 = .ok (.aload_n 1, 1) := by decide +kernel
theorem dX7_readRule_27 : decode cX7_readRule 27 = .ok (.iload_n 2, 1) := by decide +kernel
theorem dX7_readRule_28 : decode cX7_readRule 28 = .ok (.iload_n 3, 1) := by decide +kernel
theorem dX7_readRule_29 : decode cX7_readRule 29 = .ok (.invokevirtual 107, 3) := by decide +kernel
theorem dX7_readRule_32 : decode cX7_readRule 32 = .ok (.iload_n 3, 1) := by decide +kernel
theorem dX7_readRule_33 : decode cX7_readRule 33 = .ok (.tableswitch 74 0 5 #[39, 41, 47, 47, 47, 68], 39) := by decide +kernel
theorem dX7_readRule_72 : decode cX7_readRule 72 = .ok (.iconst 1, 1) := by decide +kernel
theorem dX7_readRule_73 : decode cX7_readRule 73 = .ok (.ireturn, 1) := by decide +kernel
theorem dX7_readRule_74 : decode cX7_readRule 74 = .ok (.aload_n 0, 1) := by decide +kernel
theorem dX7_readRule_75 : decode cX7_readRule 75 = .ok (.aload_n 1, 1) := by decide +kernel
theorem dX7_readRule_76 : decode cX7_readRule 76 = .ok (.invokevirtual 113, 3) := by decide +kernel
theorem dX7_readRule_79 : decode cX7_readRule 79 = .ok (.ireturn, 1) := by decide +kernel
theorem dX7_readRule_80 : decode cX7_readRule 80 = .ok (.aload_n 1, 1) := by decide +kernel
theorem dX7_readRule_81 : decode cX7_readRule 81 = .ok (.aload_n 0, 1) := by decide +kernel
theorem dX7_readRule_82 : decode cX7_readRule 82 = .ok (.invokevirtual 38, 3) := by decide +kernel
theorem dX7_readRule_85 : decode cX7_readRule 85 = .ok (.putfield 116, 3) := by decide +kernel
theorem dX7_readRule_88 : decode cX7_readRule 88 = .ok (.aload_n 1, 1) := by decide +kernel
theorem dX7_readRule_89 : decode cX7_readRule 89 = .ok (.getfield 116, 3) := by decide +kernel
theorem dX7_readRule_92 : decode cX7_readRule 92 = .ok (.ifCond .eq 7, 3) := by decide +kernel
theorem dX7_readRule_95 : decode cX7_readRule 95 = .ok (.iconst 1, 1) := by decide +kernel
theorem dX7_readRule_96 : decode cX7_readRule 96 = .ok (.goto 4, 3) := by decide +kernel
theorem dX7_readRule_99 : decode cX7_readRule 99 = .ok (.iconst 0, 1) := by decide +kernel
theorem dX7_readRule_100 : decode cX7_readRule 100 = .ok (.ireturn, 1) := by decide +kernel
theorem dX7_readRule_101 : decode cX7_readRule 101 = .ok (.aload_n 0, 1) := by decide +kernel
theorem dX7_readRule_102 : decode cX7_readRule 102 = .ok (.aload_n 1, 1) := by decide +kernel
theorem dX7_readRule_103 : decode cX7_readRule 103 = .ok (.invokevirtual 119, 3) := by decide +kernel
theorem dX7_readRule_106 : decode cX7_readRule 106 = .ok (.ireturn, 1) := by decide +kernel
theorem dX7_readRule_107 : decode cX7_readRule 107 = .ok (.iconst 0, 1) := by decide +kernel
theorem dX7_readRule_108 : decode cX7_readRule 108 = .ok (.ireturn, 1) := by decide +kernel
theorem dX7_readPrefix_0 : decode cX7_readPrefix 0 = .ok (.aload_n 1, 1) := by decide +kernel
theorem dX7_readPrefix_1 : decode cX7_readPrefix 1 = .ok (.aload_n 0, 1) := by decide +kernel
theorem dX7_readPrefix_2 : decode cX7_readPrefix 2 = .ok (.sipush 255, 3) := by decide +kernel
theorem dX7_readPrefix_5 : decode cX7_readPrefix 5 = .ok (.invokevirtual 83, 3) := by decide +kernel
theorem dX7_readPrefix_8 : decode cX7_readPrefix 8 = .ok (.putfield 122, 3) := by decide +kernel
theorem dX7_readPrefix_11 : decode cX7_readPrefix 11 = .ok (.aload_n 1, 1) := by decide +kernel
theorem dX7_readPrefix_12 : decode cX7_readPrefix 12 = .ok (.getfield 122, 3) := by decide +kernel
theorem dX7_readPrefix_15 : decode cX7_readPrefix 15 = .ok (.ifCond .lt 12, 3) := by decide +kernel
theorem dX7_readPrefix_18 : decode cX7_readPrefix 18 = .ok (.aload_n 0, 1) := by decide +kernel
theorem dX7_readPrefix_19 : decode cX7_readPrefix 19 = .ok (.bipush 47, 2) := by decide +kernel
theorem dX7_readPrefix_21 : decode cX7_readPrefix 21 = .ok (.invokevirtual 46, 3) := by decide +kernel
theorem dX7_readPrefix_24 : decode cX7_readPrefix 24 = .ok (.ifCond .ne 5, 3) := by decide +kernel
theorem dX7_readPrefix_27 : decode cX7_readPrefix 27 = .ok (.iconst 0, 1) := by decide +kernel
theorem dX7_readPrefix_28 : decode cX7_readPrefix 28 = .ok (.ireturn, 1) := by decide +kernel
theorem dX7_readPrefix_29 : decode cX7_readPrefix 29 = .ok (.aload_n 1, 1) := by decide +kernel
theorem dX7_readPrefix_30 : decode cX7_readPrefix 30 = .ok (.aload_n 0, 1) := by decide +kernel
theorem dX7_readPrefix_31 : decode cX7_readPrefix 31 = .ok (.bipush 8, 2) := by decide +kernel
theorem dX7_readPrefix_33 : decode cX7_readPrefix 33 = .ok (.invokevirtual 83, 3) := by decide +kernel
theorem dX7_readPrefix_36 : decode cX7_readPrefix 36 = .ok (.putfield 125, 3) := by decide +kernel
theorem dX7_readPrefix_39 : decode cX7_readPrefix 39 = .ok (.aload_n 1, 1) := by decide +kernel
theorem dX7_readPrefix_40 : decode cX7_readPrefix 40 = .ok (.getfield 125, 3) := by decide +kernel
theorem dX7_readPrefix_43 : decode cX7_readPrefix 43 = .ok (.ifCond .lt 7, 3) := by decide +kernel
theorem dX7_readPrefix_46 : decode cX7_readPrefix 46 = .ok (.iconst 1, 1) := by decide +kernel
theorem dX7_readPrefix_47 : decode cX7_readPrefix 47 = .ok (.goto 4, 3) := by decide +kernel
theorem dX7_readPrefix_50 : decode cX7_readPrefix 50 = .ok (.iconst 0, 1) := by decide +kernel
theorem dX7_readPrefix_51 : decode cX7_readPrefix 51 = .ok (.ireturn, 1) := by decide +kernel
theorem dX7_readMacro_0 : decode cX7_readMacro 0 = .ok (.iconst 0, 1) := by decide +kernel
theorem dX7_readMacro_1 : decode cX7_readMacro 1 = .ok (.istore_n 2, 1) := by decide +kernel
theorem dX7_readMacro_2 : decode cX7_readMacro 2 = .ok (.iload_n 2, 1) := by decide +kernel
theorem dX7_readMacro_3 : decode cX7_readMacro 3 = .ok (.bipush 8, 2) := by decide +kernel
theorem dX7_readMacro_5 : decode cX7_readMacro 5 = .ok (.if_icmp .ge 63, 3) := by decide +kernel
theorem dX7_readMacro_8 : decode cX7_readMacro 8 = .ok (.aload_n 0, 1) := by decide +kernel
theorem dX7_readMacro_9 : decode cX7_readMacro 9 = .ok (.invokevirtual 128, 3) := by decide +kernel
theorem dX7_readMacro_12 : decode cX7_readMacro 12 = .ok (.istore_n 3, 1) := by decide +kernel
theorem dX7_readMacro_13 : decode cX7_readMacro 13 = .ok (.iload_n 3, 1) := by decide +kernel
theorem dX7_readMacro_14 : decode cX7_readMacro 14 = .ok (.bipush 37, 2) := by decide +kernel
theorem dX7_readMacro_16 : decode cX7_readMacro 16 = .ok (.if_icmp .eq 18, 3) := by decide +kernel
theorem dX7_readMacro_19 : decode cX7_readMacro 19 = .ok (.iload_n 3, 1) := by decide +kernel
theorem dX7_readMacro_20 : decode cX7_readMacro 20 = .ok (.bipush 97, 2) := by decide +kernel
theorem dX7_readMacro_22 : decode cX7_readMacro 22 = .ok (.if_icmp .lt 46, 3) := by decide +kernel
theorem dX7_readMacro_25 : decode cX7_readMacro 25 = .ok (.iload_n 3, 1) := by decide +kernel
theorem dX7_readMacro_26 : decode cX7_readMacro 26 = .ok (.bipush 112, 2) := by decide +kernel
theorem dX7_readMacro_28 : decode cX7_readMacro 28 = .ok (.if_icmp .le 6, 3) := by decide +kernel
theorem dX7_readMacro_31 : decode cX7_readMacro 31 = .ok (.goto 37, 3) := by decide +kernel
theorem dX7_readMacro_34 : decode cX7_readMacro 34 = .ok (.aload_n 0, 1) := by decide +kernel
theorem dX7_readMacro_35 : decode cX7_readMacro 35 = .ok (.invokevirtual 131, 3) := by decide +kernel
theorem dX7_readMacro_38 : decode cX7_readMacro 38 = .ok (.istore 4, 2) := by decide +kernel
theorem dX7_readMacro_40 : decode cX7_readMacro 40 = .ok (.iload 4, 2) := by decide +kernel
theorem dX7_readMacro_42 : decode cX7_readMacro 42 = .ok (.ifCond .ge 5, 3) := by decide +kernel
theorem dX7_readMacro_45 : decode cX7_readMacro 45 = .ok (.iconst 0, 1) := by decide +kernel
theorem dX7_readMacro_46 : decode cX7_readMacro 46 = .ok (.ireturn, 1) := by decide +kernel
theorem dX7_readMacro_47 : decode cX7_readMacro 47 = .ok (.aload_n 1, 1) := by decide +kernel
theorem dX7_readMacro_48 : decode cX7_readMacro 48 = .ok (.getfield 134, 3) := by decide +kernel
theorem dX7_readMacro_51 : decode cX7_readMacro 51 = .ok (.iload_n 2, 1) := by decide +kernel
theorem dX7_readMacro_52 : decode cX7_readMacro 52 = .ok (.iload 4, 2) := by decide +kernel
theorem dX7_readMacro_54 : decode cX7_readMacro 54 = .ok (.iastore, 1) := by decide +kernel
theorem dX7_readMacro_55 : decode cX7_readMacro 55 = .ok (.aload_n 1, 1) := by decide +kernel
theorem dX7_readMacro_56 : decode cX7_readMacro 56 = .ok (.iload_n 2, 1) := by decide +kernel
theorem dX7_readMacro_57 : decode cX7_readMacro 57 = .ok (.iconst 1, 1) := by decide +kernel
theorem dX7_readMacro_58 : decode cX7_readMacro 58 = .ok (.iadd, 1) := by decide +kernel
theorem dX7_readMacro_59 : decode cX7_readMacro 59 = .ok (.putfield 138, 3) := by decide +kernel
theorem dX7_readMacro_62 : decode cX7_readMacro 62 = .ok (.iinc 2 1, 3) := by decide +kernel
theorem dX7_readMacro_65 : decode cX7_readMacro 65 = .ok (.goto (-63), 3) := by decide +kernel
theorem dX7_readMacro_68 : decode cX7_readMacro 68 = .ok (.aload_n 1, 1) := by decide +kernel
theorem dX7_readMacro_69 : decode cX7_readMacro 69 = .ok (.getfield 138, 3) := by decide +kernel
theorem dX7_readMacro_72 : decode cX7_readMacro 72 = .ok (.ifCond .le 7, 3) := by decide +kernel
theorem dX7_readMacro_75 : decode cX7_readMacro 75 = .ok (.iconst 1, 1) := by decide +kernel
theorem dX7_readMacro_76 : decode cX7_readMacro 76 = .ok (.goto 4, 3) := by decide +kernel
theorem dX7_readMacro_79 : decode cX7_readMacro 79 = .ok (.iconst 0, 1) := by decide +kernel
theorem dX7_readMacro_80 : decode cX7_readMacro 80 = .ok (.ireturn, 1) := by decide +kernel
theorem dX7_readPart_0 : decode cX7_readPart 0 = .ok (.aload_n 0, 1) := by decide +kernel
theorem dX7_readPart_1 : decode cX7_readPart 1 = .ok (.invokevirtual 42, 3) := by decide +kernel
theorem dX7_readPart_4 : decode cX7_readPart 4 = .ok (.istore_n 1, 1) := by decide +kernel
theorem dX7_readPart_5 : decode cX7_readPart 5 = .ok (.iload_n 1, 1) := by decide +kernel
theorem dX7_readPart_6 : decode cX7_readPart 6 = .ok (.bipush 37, 2) := by decide +kernel
theorem dX7_readPart_8 : decode cX7_readPart 8 = .ok (.if_icmp .eq 10, 3) := by decide +kernel
theorem dX7_readPart_11 : decode cX7_readPart 11 = .ok (.iload_n 1, 1) := by decide +kernel
theorem dX7_readPart_12 : decode cX7_readPart 12 = .ok (.bipush 97, 2) := by decide +kernel
theorem dX7_readPart_14 : decode cX7_readPart 14 = .ok (.isub, 1) := by decide +kernel
theorem dX7_readPart_15 : decode cX7_readPart 15 = .ok (.iconst 4, 1) := by decide +kernel
theorem dX7_readPart_16 : decode cX7_readPart 16 = .ok (.ishl, 1) := by decide +kernel
theorem dX7_readPart_17 : decode cX7_readPart 17 = .ok (.ireturn, 1) := by decide +kernel
theorem dX7_readPart_18 : decode cX7_readPart 18 = .ok (.aload_n 0, 1) := by decide +kernel
theorem dX7_readPart_19 : decode cX7_readPart 19 = .ok (.bipush 45, 2) := by decide +kernel
theorem dX7_readPart_21 : decode cX7_readPart 21 = .ok (.invokevirtual 46, 3) := by decide +kernel
theorem dX7_readPart_24 : decode cX7_readPart 24 = .ok (.ifCond .eq 7, 3) := by decide +kernel
theorem dX7_readPart_27 : decode cX7_readPart 27 = .ok (.iconst 1, 1) := by decide +kernel
theorem dX7_readPart_28 : decode cX7_readPart 28 = .ok (.goto 4, 3) := by decide +kernel
theorem dX7_readPart_31 : decode cX7_readPart 31 = .ok (.iconst 0, 1) := by decide +kernel
theorem dX7_readPart_32 : decode cX7_readPart 32 = .ok (.istore_n 2, 1) := by decide +kernel
theorem dX7_readPart_33 : decode cX7_readPart 33 = .ok (.iconst 0, 1) := by decide +kernel
theorem dX7_readPart_34 : decode cX7_readPart 34 = .ok (.istore_n 3, 1) := by decide +kernel
theorem dX7_readPart_35 : decode cX7_readPart 35 = .ok (.aload_n 0, 1) := by decide +kernel
theorem dX7_readPart_36 : decode cX7_readPart 36 = .ok (.invokevirtual 128, 3) := by decide +kernel
theorem dX7_readPart_39 : decode cX7_readPart 39 = .ok (.bipush 49, 2) := by decide +kernel
theorem dX7_readPart_41 : decode cX7_readPart 41 = .ok (.if_icmp .lt 20, 3) := by decide +kernel
theorem dX7_readPart_44 : decode cX7_readPart 44 = .ok (.aload_n 0, 1) := by decide +kernel
theorem dX7_readPart_45 : decode cX7_readPart 45 = .ok (.invokevirtual 128, 3) := by decide +kernel
theorem dX7_readPart_48 : decode cX7_readPart 48 = .ok (.bipush 55, 2) := by decide +kernel
theorem dX7_readPart_50 : decode cX7_readPart 50 = .ok (.if_icmp .gt 11, 3) := by decide +kernel
theorem dX7_readPart_53 : decode cX7_readPart 53 = .ok (.aload_n 0, 1) := by decide +kernel
theorem dX7_readPart_54 : decode cX7_readPart 54 = .ok (.invokevirtual 42, 3) := by decide +kernel
theorem dX7_readPart_57 : decode cX7_readPart 57 = .ok (.bipush 48, 2) := by decide +kernel
theorem dX7_readPart_59 : decode cX7_readPart 59 = .ok (.isub, 1) := by decide +kernel
theorem dX7_readPart_60 : decode cX7_readPart 60 = .ok (.istore_n 3, 1) := by decide +kernel
theorem dX7_readPart_61 : decode cX7_readPart 61 = .ok (.ldc 141, 2) := by decide +kernel
theorem dX7_readPart_63 : decode cX7_readPart 63 = .ok (.aload_n 0, 1) := by decide +kernel
theorem dX7_readPart_64 : decode cX7_readPart 64 = .ok (.invokevirtual 42, 3) := by decide +kernel
theorem dX7_readPart_67 : decode cX7_readPart 67 = .ok (.invokevirtual 100, 3) := by decide +kernel
theorem dX7_readPart_70 : decode cX7_readPart 70 = .ok (.istore 4, 2) := by decide +kernel
theorem dX7_readPart_72 : decode cX7_readPart 72 = .ok (.iload 4, 2) := by decide +kernel
theorem dX7_readPart_74 : decode cX7_readPart 74 = .ok (.ifCond .ge 7, 3) := by decide +kernel
theorem dX7_readPart_77 : decode cX7_readPart 77 = .ok (.iconst (-1), 1) := by decide +kernel
theorem dX7_readPart_78 : decode cX7_readPart 78 = .ok (.goto 16, 3) := by decide +kernel
theorem dX7_readPart_81 : decode cX7_readPart 81 = .ok (.bipush 16, 2) := by decide +kernel
theorem dX7_readPart_83 : decode cX7_readPart 83 = .ok (.iload 4, 2) := by decide +kernel
theorem dX7_readPart_85 : decode cX7_readPart 85 = .ok (.iadd, 1) := by decide +kernel
theorem dX7_readPart_86 : decode cX7_readPart 86 = .ok (.iconst 4, 1) := by decide +kernel
theorem dX7_readPart_87 : decode cX7_readPart 87 = .ok (.ishl, 1) := by decide +kernel
theorem dX7_readPart_88 : decode cX7_readPart 88 = .ok (.iload_n 3, 1) := by decide +kernel
theorem dX7_readPart_89 : decode cX7_readPart 89 = .ok (.iconst 1, 1) := by decide +kernel
theorem dX7_readPart_90 : decode cX7_readPart 90 = .ok (.ishl, 1) := by decide +kernel
theorem dX7_readPart_91 : decode cX7_readPart 91 = .ok (.ior, 1) := by decide +kernel
theorem dX7_readPart_92 : decode cX7_readPart 92 = .ok (.iload_n 2, 1) := by decide +kernel
theorem dX7_readPart_93 : decode cX7_readPart 93 = .ok (.ior, 1) := by decide +kernel
theorem dX7_readPart_94 : decode cX7_readPart 94 = .ok (.ireturn, 1) := by decide +kernel
theorem dX7_readName_0 : decode cX7_readName 0 = .ok (.aload_n 0, 1) := by decide +kernel
theorem dX7_readName_1 : decode cX7_readName 1 = .ok (.getfield 26, 3) := by decide +kernel
theorem dX7_readName_4 : decode cX7_readName 4 = .ok (.istore_n 1, 1) := by decide +kernel
theorem dX7_readName_5 : decode cX7_readName 5 = .ok (.iconst 0, 1) := by decide +kernel
theorem dX7_readName_6 : decode cX7_readName 6 = .ok (.istore_n 2, 1) := by decide +kernel
theorem dX7_readName_7 : decode cX7_readName 7 = .ok (.iload_n 2, 1) := by decide +kernel
theorem dX7_readName_8 : decode cX7_readName 8 = .ok (.bipush 7, 2) := by decide +kernel
theorem dX7_readName_10 : decode cX7_readName 10 = .ok (.if_icmp .ge 37, 3) := by decide +kernel
theorem dX7_readName_13 : decode cX7_readName 13 = .ok (.aload_n 0, 1) := by decide +kernel
theorem dX7_readName_14 : decode cX7_readName 14 = .ok (.invokevirtual 128, 3) := by decide +kernel
theorem dX7_readName_17 : decode cX7_readName 17 = .ok (.bipush 97, 2) := by decide +kernel
theorem dX7_readName_19 : decode cX7_readName 19 = .ok (.if_icmp .lt 28, 3) := by decide +kernel
theorem dX7_readName_22 : decode cX7_readName 22 = .ok (.aload_n 0, 1) := by decide +kernel
theorem dX7_readName_23 : decode cX7_readName 23 = .ok (.invokevirtual 128, 3) := by decide +kernel
theorem dX7_readName_26 : decode cX7_readName 26 = .ok (.bipush 112, 2) := by decide +kernel
theorem dX7_readName_28 : decode cX7_readName 28 = .ok (.if_icmp .gt 19, 3) := by decide +kernel
theorem dX7_readName_31 : decode cX7_readName 31 = .ok (.aload_n 0, 1) := by decide +kernel
theorem dX7_readName_32 : decode cX7_readName 32 = .ok (.dup, 1) := by decide +kernel
theorem dX7_readName_33 : decode cX7_readName 33 = .ok (.getfield 26, 3) := by decide +kernel
theorem dX7_readName_36 : decode cX7_readName 36 = .ok (.iconst 1, 1) := by decide +kernel
theorem dX7_readName_37 : decode cX7_readName 37 = .ok (.iadd, 1) := by decide +kernel
theorem dX7_readName_38 : decode cX7_readName 38 = .ok (.putfield 26, 3) := by decide +kernel
theorem dX7_readName_41 : decode cX7_readName 41 = .ok (.iinc 2 1, 3) := by decide +kernel
theorem dX7_readName_44 : decode cX7_readName 44 = .ok (.goto (-37), 3) := by decide +kernel
theorem dX7_readName_47 : decode cX7_readName 47 = .ok (.aload_n 0, 1) := by decide +kernel
theorem dX7_readName_48 : decode cX7_readName 48 = .ok (.getfield 18, 3) := by decide +kernel
theorem dX7_readName_51 : decode cX7_readName 51 = .ok (.invokevirtual 143, 3) := by decide +kernel
theorem dX7_readName_54 : decode cX7_readName 54 = .ok (.aload_n 0, 1) := by decide +kernel
theorem dX7_readName_55 : decode cX7_readName 55 = .ok (.getfield 26, 3) := by decide +kernel
theorem dX7_readName_58 : decode cX7_readName 58 = .ok (.iconst 1, 1) := by decide +kernel
theorem dX7_readName_59 : decode cX7_readName 59 = .ok (.isub, 1) := by decide +kernel
theorem dX7_readName_60 : decode cX7_readName 60 = .ok (.istore_n 2, 1) := by decide +kernel
theorem dX7_readName_61 : decode cX7_readName 61 = .ok (.iload_n 2, 1) := by decide +kernel
theorem dX7_readName_62 : decode cX7_readName 62 = .ok (.iload_n 1, 1) := by decide +kernel
theorem dX7_readName_63 : decode cX7_readName 63 = .ok (.if_icmp .lt 25, 3) := by decide +kernel
theorem dX7_readName_66 : decode cX7_readName 66 = .ok (.aload_n 0, 1) := by decide +kernel
theorem dX7_readName_67 : decode cX7_readName 67 = .ok (.getfield 18, 3) := by decide +kernel
theorem dX7_readName_70 : decode cX7_readName 70 = .ok (.aload_n 0, 1) := by decide +kernel
theorem dX7_readName_71 : decode cX7_readName 71 = .ok (.getfield 9, 3) := by decide +kernel
theorem dX7_readName_74 : decode cX7_readName 74 = .ok (.iload_n 2, 1) := by decide +kernel
theorem dX7_readName_75 : decode cX7_readName 75 = .ok (.caload, 1) := by decide +kernel
theorem dX7_readName_76 : decode cX7_readName 76 = .ok (.bipush 97, 2) := by decide +kernel
theorem dX7_readName_78 : decode cX7_readName 78 = .ok (.isub, 1) := by decide +kernel
theorem dX7_readName_79 : decode cX7_readName 79 = .ok (.invokevirtual 144, 3) := by decide +kernel
theorem dX7_readName_82 : decode cX7_readName 82 = .ok (.iinc 2 (-1), 3) := by decide +kernel
theorem dX7_readName_85 : decode cX7_readName 85 = .ok (.goto (-24), 3) := by decide +kernel
theorem dX7_readName_88 : decode cX7_readName 88 = .ok (.aload_n 0, 1) := by decide +kernel
theorem dX7_readName_89 : decode cX7_readName 89 = .ok (.getfield 18, 3) := by decide +kernel
theorem dX7_readName_92 : decode cX7_readName 92 = .ok (.invokevirtual 148, 3) := by decide +kernel
theorem dX7_readName_95 : decode cX7_readName 95 = .ok (.ireturn, 1) := by decide +kernel
theorem dX7_readNumber_0 : decode cX7_readNumber 0 = .ok (.iconst 0, 1) := by decide +kernel
theorem dX7_readNumber_1 : decode cX7_readNumber 1 = .ok (.istore_n 2, 1) := by decide +kernel
theorem dX7_readNumber_2 : decode cX7_readNumber 2 = .ok (.iconst 0, 1) := by decide +kernel
theorem dX7_readNumber_3 : decode cX7_readNumber 3 = .ok (.istore_n 3, 1) := by decide +kernel
theorem dX7_readNumber_4 : decode cX7_readNumber 4 = .ok (.iload_n 3, 1) := by decide +kernel
theorem dX7_readNumber_5 : decode cX7_readNumber 5 = .ok (.iconst 3, 1) := by decide +kernel
theorem dX7_readNumber_6 : decode cX7_readNumber 6 = .ok (.if_icmp .ge 40, 3) := by decide +kernel
theorem dX7_readNumber_9 : decode cX7_readNumber 9 = .ok (.aload_n 0, 1) := by decide +kernel
theorem dX7_readNumber_10 : decode cX7_readNumber 10 = .ok (.invokevirtual 128, 3) := by decide +kernel
theorem dX7_readNumber_13 : decode cX7_readNumber 13 = .ok (.bipush 48, 2) := by decide +kernel
theorem dX7_readNumber_15 : decode cX7_readNumber 15 = .ok (.if_icmp .lt 31, 3) := by decide +kernel
theorem dX7_readNumber_18 : decode cX7_readNumber 18 = .ok (.aload_n 0, 1) := by decide +kernel
theorem dX7_readNumber_19 : decode cX7_readNumber 19 = .ok (.invokevirtual 128, 3) := by decide +kernel
theorem dX7_readNumber_22 : decode cX7_readNumber 22 = .ok (.bipush 57, 2) := by decide +kernel
theorem dX7_readNumber_24 : decode cX7_readNumber 24 = .ok (.if_icmp .gt 22, 3) := by decide +kernel
theorem dX7_readNumber_27 : decode cX7_readNumber 27 = .ok (.iload_n 2, 1) := by decide +kernel
theorem dX7_readNumber_28 : decode cX7_readNumber 28 = .ok (.bipush 10, 2) := by decide +kernel
theorem dX7_readNumber_30 : decode cX7_readNumber 30 = .ok (.imul, 1) := by decide +kernel
theorem dX7_readNumber_31 : decode cX7_readNumber 31 = .ok (.aload_n 0, 1) := by decide +kernel
theorem dX7_readNumber_32 : decode cX7_readNumber 32 = .ok (.invokevirtual 42, 3) := by decide +kernel
theorem dX7_readNumber_35 : decode cX7_readNumber 35 = .ok (.iadd, 1) := by decide +kernel
theorem dX7_readNumber_36 : decode cX7_readNumber 36 = .ok (.bipush 48, 2) := by decide +kernel
theorem dX7_readNumber_38 : decode cX7_readNumber 38 = .ok (.isub, 1) := by decide +kernel
theorem dX7_readNumber_39 : decode cX7_readNumber 39 = .ok (.istore_n 2, 1) := by decide +kernel
theorem dX7_readNumber_40 : decode cX7_readNumber 40 = .ok (.iinc 3 1, 3) := by decide +kernel
theorem dX7_readNumber_43 : decode cX7_readNumber 43 = .ok (.goto (-39), 3) := by decide +kernel
theorem dX7_readNumber_46 : decode cX7_readNumber 46 = .ok (.iload_n 3, 1) := by decide +kernel
theorem dX7_readNumber_47 : decode cX7_readNumber 47 = .ok (.ifCond .eq 8, 3) := by decide +kernel
theorem dX7_readNumber_50 : decode cX7_readNumber 50 = .ok (.iload_n 2, 1) := by decide +kernel
theorem dX7_readNumber_51 : decode cX7_readNumber 51 = .ok (.iload_n 1, 1) := by decide +kernel
theorem dX7_readNumber_52 : decode cX7_readNumber 52 = .ok (.if_icmp .le 7, 3) := by decide +kernel
theorem dX7_readNumber_55 : decode cX7_readNumber 55 = .ok (.iconst (-1), 1) := by decide +kernel
theorem dX7_readNumber_56 : decode cX7_readNumber 56 = .ok (.goto 4, 3) := by decide +kernel
theorem dX7_readNumber_59 : decode cX7_readNumber 59 = .ok (.iload_n 2, 1) := by decide +kernel
theorem dX7_readNumber_60 : decode cX7_readNumber 60 = .ok (.ireturn, 1) := by decide +kernel
theorem dX8_init_0 : decode cX8_init 0 = .ok (.aload_n 0, 1) := by decide +kernel
theorem dX8_init_1 : decode cX8_init 1 = .ok (.invokespecial 3, 3) := by decide +kernel
theorem dX8_init_4 : decode cX8_init 4 = .ok (.aload_n 0, 1) := by decide +kernel
theorem dX8_init_5 : decode cX8_init 5 = .ok (.bipush 12, 2) := by decide +kernel
theorem dX8_init_7 : decode cX8_init 7 = .ok (.anewarray 9, 3) := by decide +kernel
theorem dX8_init_10 : decode cX8_init 10 = .ok (.putfield 11, 3) := by decide +kernel
theorem dX8_init_13 : decode cX8_init 13 = .ok (.iconst 0, 1) := by decide +kernel
theorem dX8_init_14 : decode cX8_init 14 = .ok (.istore_n 1, 1) := by decide +kernel
theorem dX8_init_15 : decode cX8_init 15 = .ok (.iload_n 1, 1) := by decide +kernel
theorem dX8_init_16 : decode cX8_init 16 = .ok (.bipush 12, 2) := by decide +kernel
theorem dX8_init_18 : decode cX8_init 18 = .ok (.if_icmp .ge 22, 3) := by decide +kernel
theorem dX8_init_21 : decode cX8_init 21 = .ok (.aload_n 0, 1) := by decide +kernel
theorem dX8_init_22 : decode cX8_init 22 = .ok (.getfield 11, 3) := by decide +kernel
theorem dX8_init_25 : decode cX8_init 25 = .ok (.iload_n 1, 1) := by decide +kernel
theorem dX8_init_26 : decode cX8_init 26 = .ok (.new 9, 3) := by decide +kernel
theorem dX8_init_29 : decode cX8_init 29 = .ok (.dup, 1) := by decide +kernel
theorem dX8_init_30 : decode cX8_init 30 = .ok (.invokespecial 17, 3) := by decide +kernel
theorem dX8_init_33 : decode cX8_init 33 = .ok (.aastore, 1) := by decide +kernel
theorem dX8_init_34 : decode cX8_init 34 = .ok (.iinc 1 1, 3) := by decide +kernel
theorem dX8_init_37 : decode cX8_init 37 = .ok (.goto (-22), 3) := by decide +kernel
theorem dX8_init_40 : decode cX8_init 40 = .ok (.return_, 1) := by decide +kernel
theorem dX8_clear_0 : decode cX8_clear 0 = .ok (.aload_n 0, 1) := by decide +kernel
theorem dX8_clear_1 : decode cX8_clear 1 = .ok (.iconst 0, 1) := by decide +kernel
theorem dX8_clear_2 : decode cX8_clear 2 = .ok (.putfield 18, 3) := by decide +kernel
theorem dX8_clear_5 : decode cX8_clear 5 = .ok (.return_, 1) := by decide +kernel
theorem dX8_domainAt_0 : decode cX8_domainAt 0 = .ok (.iload_n 1, 1) := by decide +kernel
theorem dX8_domainAt_1 : decode cX8_domainAt 1 = .ok (.ifCond .lt 20, 3) := by decide +kernel
theorem dX8_domainAt_4 : decode cX8_domainAt 4 = .ok (.iload_n 1, 1) := by decide +kernel
theorem dX8_domainAt_5 : decode cX8_domainAt 5 = .ok (.aload_n 0, 1) := by decide +kernel
theorem dX8_domainAt_6 : decode cX8_domainAt 6 = .ok (.getfield 18, 3) := by decide +kernel
theorem dX8_domainAt_9 : decode cX8_domainAt 9 = .ok (.if_icmp .ge 12, 3) := by decide +kernel
theorem dX8_domainAt_12 : decode cX8_domainAt 12 = .ok (.aload_n 0, 1) := by decide +kernel
theorem dX8_domainAt_13 : decode cX8_domainAt 13 = .ok (.getfield 11, 3) := by decide +kernel
theorem dX8_domainAt_16 : decode cX8_domainAt 16 = .ok (.iload_n 1, 1) := by decide +kernel
theorem dX8_domainAt_17 : decode cX8_domainAt 17 = .ok (.aaload, 1) := by decide +kernel
theorem dX8_domainAt_18 : decode cX8_domainAt 18 = .ok (.goto 4, 3) := by decide +kernel
theorem dX8_domainAt_21 : decode cX8_domainAt 21 = .ok (.aconst_null, 1) := by decide +kernel
theorem dX8_domainAt_22 : decode cX8_domainAt 22 = .ok (.areturn, 1) := by decide +kernel
theorem dX8_firstNotBefore_0 : decode cX8_firstNotBefore 0 = .ok (.iconst 0, 1) := by decide +kernel
theorem dX8_firstNotBefore_1 : decode cX8_firstNotBefore 1 = .ok (.istore_n 2, 1) := by decide +kernel
theorem dX8_firstNotBefore_2 : decode cX8_firstNotBefore 2 = .ok (.iload_n 2, 1) := by decide +kernel
theorem dX8_firstNotBefore_3 : decode cX8_firstNotBefore 3 = .ok (.aload_n 0, 1) := by decide +kernel
theorem dX8_firstNotBefore_4 : decode cX8_firstNotBefore 4 = .ok (.getfield 18, 3) := by decide +kernel
theorem dX8_firstNotBefore_7 : decode cX8_firstNotBefore 7 = .ok (.if_icmp .ge 22, 3) := by decide +kernel
theorem dX8_firstNotBefore_10 : decode cX8_firstNotBefore 10 = .ok (.aload_n 0, 1) := by decide +kernel
theorem dX8_firstNotBefore_11 : decode cX8_firstNotBefore 11 = .ok (.getfield 11, 3) := by decide +kernel
theorem dX8_firstNotBefore_14 : decode cX8_firstNotBefore 14 = .ok (.iload_n 2, 1) := by decide +kernel
theorem dX8_firstNotBefore_15 : decode cX8_firstNotBefore 15 = .ok (.aaload, 1) := by decide +kernel
theorem dX8_firstNotBefore_16 : decode cX8_firstNotBefore 16 = .ok (.getfield 22, 3) := by decide +kernel
theorem dX8_firstNotBefore_19 : decode cX8_firstNotBefore 19 = .ok (.iload_n 1, 1) := by decide +kernel
theorem dX8_firstNotBefore_20 : decode cX8_firstNotBefore 20 = .ok (.if_icmp .ge 9, 3) := by decide +kernel
theorem dX8_firstNotBefore_23 : decode cX8_firstNotBefore 23 = .ok (.iinc 2 1, 3) := by decide +kernel
theorem dX8_firstNotBefore_26 : decode cX8_firstNotBefore 26 = .ok (.goto (-24), 3) := by decide +kernel
theorem dX8_firstNotBefore_29 : decode cX8_firstNotBefore 29 = .ok (.iload_n 2, 1) := by decide +kernel
theorem dX8_firstNotBefore_30 : decode cX8_firstNotBefore 30 = .ok (.ireturn, 1) := by decide +kernel
theorem dX8_find_0 : decode cX8_find 0 = .ok (.iconst 0, 1) := by decide +kernel
theorem dX8_find_1 : decode cX8_find 1 = .ok (.istore_n 2, 1) := by decide +kernel
theorem dX8_find_2 : decode cX8_find 2 = .ok (.iload_n 2, 1) := by decide +kernel
theorem dX8_find_3 : decode cX8_find 3 = .ok (.aload_n 0, 1) := by decide +kernel
theorem dX8_find_4 : decode cX8_find 4 = .ok (.getfield 18, 3) := by decide +kernel
theorem dX8_find_7 : decode cX8_find 7 = .ok (.if_icmp .ge 24, 3) := by decide +kernel
theorem dX8_find_10 : decode cX8_find 10 = .ok (.aload_n 0, 1) := by decide +kernel
theorem dX8_find_11 : decode cX8_find 11 = .ok (.getfield 11, 3) := by decide +kernel
theorem dX8_find_14 : decode cX8_find 14 = .ok (.iload_n 2, 1) := by decide +kernel
theorem dX8_find_15 : decode cX8_find 15 = .ok (.aaload, 1) := by decide +kernel
theorem dX8_find_16 : decode cX8_find 16 = .ok (.getfield 22, 3) := by decide +kernel
theorem dX8_find_19 : decode cX8_find 19 = .ok (.iload_n 1, 1) := by decide +kernel
theorem dX8_find_20 : decode cX8_find 20 = .ok (.if_icmp .ne 5, 3) := by decide +kernel
theorem dX8_find_23 : decode cX8_find 23 = .ok (.iload_n 2, 1) := by decide +kernel
theorem dX8_find_24 : decode cX8_find 24 = .ok (.ireturn, 1) := by decide +kernel
theorem dX8_find_25 : decode cX8_find 25 = .ok (.iinc 2 1, 3) := by decide +kernel
theorem dX8_find_28 : decode cX8_find 28 = .ok (.goto (-26), 3) := by decide +kernel
theorem dX8_find_31 : decode cX8_find 31 = .ok (.iconst (-1), 1) := by decide +kernel
theorem dX8_find_32 : decode cX8_find 32 = .ok (.ireturn, 1) := by decide +kernel
theorem dX8_domainOf_0 : decode cX8_domainOf 0 = .ok (.aload_n 0, 1) := by decide +kernel
theorem dX8_domainOf_1 : decode cX8_domainOf 1 = .ok (.aload_n 0, 1) := by decide +kernel
theorem dX8_domainOf_2 : decode cX8_domainOf 2 = .ok (.iload_n 1, 1) := by decide +kernel
theorem dX8_domainOf_3 : decode cX8_domainOf 3 = .ok (.invokevirtual 25, 3) := by decide +kernel
theorem dX8_domainOf_6 : decode cX8_domainOf 6 = .ok (.invokevirtual 29, 3) := by decide +kernel
theorem dX8_domainOf_9 : decode cX8_domainOf 9 = .ok (.areturn, 1) := by decide +kernel
theorem dX8_findOrAdd_0 : decode cX8_findOrAdd 0 = .ok (.aload_n 0, 1) := by decide +kernel
theorem dX8_findOrAdd_1 : decode cX8_findOrAdd 1 = .ok (.iload_n 1, 1) := by decide +kernel
theorem dX8_findOrAdd_2 : decode cX8_findOrAdd 2 = .ok (.invokevirtual 33, 3) := by decide +kernel
theorem dX8_findOrAdd_5 : decode cX8_findOrAdd 5 = .ok (.astore_n 2, 1) := by decide +kernel
theorem dX8_findOrAdd_6 : decode cX8_findOrAdd 6 = .ok (.aload_n 2, 1) := by decide +kernel
theorem dX8_findOrAdd_7 : decode cX8_findOrAdd 7 = .ok (.ifnonnull 12, 3) := by decide +kernel
theorem dX8_findOrAdd_10 : decode cX8_findOrAdd 10 = .ok (.aload_n 0, 1) := by decide +kernel
theorem dX8_findOrAdd_11 : decode cX8_findOrAdd 11 = .ok (.getfield 18, 3) := by decide +kernel
theorem dX8_findOrAdd_14 : decode cX8_findOrAdd 14 = .ok (.bipush 12, 2) := by decide +kernel
theorem dX8_findOrAdd_16 : decode cX8_findOrAdd 16 = .ok (.if_icmp .lt 5, 3) := by decide +kernel
theorem dX8_findOrAdd_19 : decode cX8_findOrAdd 19 = .ok (.aload_n 2, 1) := by decide +kernel
theorem dX8_findOrAdd_20 : decode cX8_findOrAdd 20 = .ok (.areturn, 1) := by decide +kernel
theorem dX8_findOrAdd_21 : decode cX8_findOrAdd 21 = .ok (.aload_n 0, 1) := by decide +kernel
theorem dX8_findOrAdd_22 : decode cX8_findOrAdd 22 = .ok (.iload_n 1, 1) := by decide +kernel
theorem dX8_findOrAdd_23 : decode cX8_findOrAdd 23 = .ok (.invokevirtual 36, 3) := by decide +kernel
theorem dX8_findOrAdd_26 : decode cX8_findOrAdd 26 = .ok (.istore_n 3, 1) := by decide +kernel
theorem dX8_findOrAdd_27 : decode cX8_findOrAdd 27 = .ok (.aload_n 0, 1) := by decide +kernel
theorem dX8_findOrAdd_28 : decode cX8_findOrAdd 28 = .ok (.getfield 11, 3) := by decide +kernel
theorem dX8_findOrAdd_31 : decode cX8_findOrAdd 31 = .ok (.aload_n 0, 1) := by decide +kernel
theorem dX8_findOrAdd_32 : decode cX8_findOrAdd 32 = .ok (.getfield 18, 3) := by decide +kernel
theorem dX8_findOrAdd_35 : decode cX8_findOrAdd 35 = .ok (.aaload, 1) := by decide +kernel
theorem dX8_findOrAdd_36 : decode cX8_findOrAdd 36 = .ok (.astore 4, 2) := by decide +kernel
theorem dX8_findOrAdd_38 : decode cX8_findOrAdd 38 = .ok (.aload_n 0, 1) := by decide +kernel
theorem dX8_findOrAdd_39 : decode cX8_findOrAdd 39 = .ok (.getfield 18, 3) := by decide +kernel
theorem dX8_findOrAdd_42 : decode cX8_findOrAdd 42 = .ok (.istore 5, 2) := by decide +kernel
theorem dX8_findOrAdd_44 : decode cX8_findOrAdd 44 = .ok (.iload 5, 2) := by decide +kernel
theorem dX8_findOrAdd_46 : decode cX8_findOrAdd 46 = .ok (.iload_n 3, 1) := by decide +kernel
theorem dX8_findOrAdd_47 : decode cX8_findOrAdd 47 = .ok (.if_icmp .le 25, 3) := by decide +kernel
theorem dX8_findOrAdd_50 : decode cX8_findOrAdd 50 = .ok (.aload_n 0, 1) := by decide +kernel
theorem dX8_findOrAdd_51 : decode cX8_findOrAdd 51 = .ok (.getfield 11, 3) := by decide +kernel
theorem dX8_findOrAdd_54 : decode cX8_findOrAdd 54 = .ok (.iload 5, 2) := by decide +kernel
theorem dX8_findOrAdd_56 : decode cX8_findOrAdd 56 = .ok (.aload_n 0, 1) := by decide +kernel
theorem dX8_findOrAdd_57 : decode cX8_findOrAdd 57 = .ok (.getfield 11, 3) := by decide +kernel
theorem dX8_findOrAdd_60 : decode cX8_findOrAdd 60 = .ok (.iload 5, 2) := by decide +kernel
theorem dX8_findOrAdd_62 : decode cX8_findOrAdd 62 = .ok (.iconst 1, 1) := by decide +kernel
theorem dX8_findOrAdd_63 : decode cX8_findOrAdd 63 = .ok (.isub, 1) := by decide +kernel
theorem dX8_findOrAdd_64 : decode cX8_findOrAdd 64 = .ok (.aaload, 1) := by decide +kernel
theorem dX8_findOrAdd_65 : decode cX8_findOrAdd 65 = .ok (.aastore, 1) := by decide +kernel
theorem dX8_findOrAdd_66 : decode cX8_findOrAdd 66 = .ok (.iinc 5 (-1), 3) := by decide +kernel
theorem dX8_findOrAdd_69 : decode cX8_findOrAdd 69 = .ok (.goto (-25), 3) := by decide +kernel
theorem dX8_findOrAdd_72 : decode cX8_findOrAdd 72 = .ok (.aload_n 0, 1) := by decide +kernel
theorem dX8_findOrAdd_73 : decode cX8_findOrAdd 73 = .ok (.getfield 11, 3) := by decide +kernel
theorem dX8_findOrAdd_76 : decode cX8_findOrAdd 76 = .ok (.iload_n 3, 1) := by decide +kernel
theorem dX8_findOrAdd_77 : decode cX8_findOrAdd 77 = .ok (.aload 4, 2) := by decide +kernel
theorem dX8_findOrAdd_79 : decode cX8_findOrAdd 79 = .ok (.aastore, 1) := by decide +kernel
theorem dX8_findOrAdd_80 : decode cX8_findOrAdd 80 = .ok (.aload_n 0, 1) := by decide +kernel
theorem dX8_findOrAdd_81 : decode cX8_findOrAdd 81 = .ok (.dup, 1) := by decide +kernel
theorem dX8_findOrAdd_82 : decode cX8_findOrAdd 82 = .ok (.getfield 18, 3) := by decide +kernel
theorem dX8_findOrAdd_85 : decode cX8_findOrAdd 85 = .ok (.iconst 1, 1) := by decide +kernel
theorem dX8_findOrAdd_86 : decode cX8_findOrAdd 86 = .ok (.iadd, 1) := by decide +kernel
theorem dX8_findOrAdd_87 : decode cX8_findOrAdd 87 = .ok (.putfield 18, 3) := by decide +kernel
theorem dX8_findOrAdd_90 : decode cX8_findOrAdd 90 = .ok (.aload 4, 2) := by decide +kernel
theorem dX8_findOrAdd_92 : decode cX8_findOrAdd 92 = .ok (.iload_n 1, 1) := by decide +kernel
theorem dX8_findOrAdd_93 : decode cX8_findOrAdd 93 = .ok (.invokevirtual 39, 3) := by decide +kernel
theorem dX8_findOrAdd_96 : decode cX8_findOrAdd 96 = .ok (.aload 4, 2) := by decide +kernel
theorem dX8_findOrAdd_98 : decode cX8_findOrAdd 98 = .ok (.areturn, 1) := by decide +kernel
theorem dX8_policies_0 : decode cX8_policies 0 = .ok (.iconst 0, 1) := by decide +kernel
theorem dX8_policies_1 : decode cX8_policies 1 = .ok (.istore_n 1, 1) := by decide +kernel
theorem dX8_policies_2 : decode cX8_policies 2 = .ok (.iconst 0, 1) := by decide +kernel
theorem dX8_policies_3 : decode cX8_policies 3 = .ok (.istore_n 2, 1) := by decide +kernel
theorem dX8_policies_4 : decode cX8_policies 4 = .ok (.iload_n 2, 1) := by decide +kernel
theorem dX8_policies_5 : decode cX8_policies 5 = .ok (.aload_n 0, 1) := by decide +kernel
theorem dX8_policies_6 : decode cX8_policies 6 = .ok (.getfield 18, 3) := by decide +kernel
theorem dX8_policies_9 : decode cX8_policies 9 = .ok (.if_icmp .ge 29, 3) := by decide +kernel
theorem dX8_policies_12 : decode cX8_policies 12 = .ok (.iload_n 1, 1) := by decide +kernel
theorem dX8_policies_13 : decode cX8_policies 13 = .ok (.aload_n 0, 1) := by decide +kernel
theorem dX8_policies_14 : decode cX8_policies 14 = .ok (.getfield 11, 3) := by decide +kernel
theorem dX8_policies_17 : decode cX8_policies 17 = .ok (.iload_n 2, 1) := by decide +kernel
theorem dX8_policies_18 : decode cX8_policies 18 = .ok (.aaload, 1) := by decide +kernel
theorem dX8_policies_19 : decode cX8_policies 19 = .ok (.getfield 43, 3) := by decide +kernel
theorem dX8_policies_22 : decode cX8_policies 22 = .ok (.ifCond .eq 7, 3) := by decide +kernel
theorem dX8_policies_25 : decode cX8_policies 25 = .ok (.iconst 1, 1) := by decide +kernel
theorem dX8_policies_26 : decode cX8_policies 26 = .ok (.goto 4, 3) := by decide +kernel
theorem dX8_policies_29 : decode cX8_policies 29 = .ok (.iconst 0, 1) := by decide +kernel
theorem dX8_policies_30 : decode cX8_policies 30 = .ok (.iadd, 1) := by decide +kernel
theorem dX8_policies_31 : decode cX8_policies 31 = .ok (.istore_n 1, 1) := by decide +kernel
theorem dX8_policies_32 : decode cX8_policies 32 = .ok (.iinc 2 1, 3) := by decide +kernel
theorem dX8_policies_35 : decode cX8_policies 35 = .ok (.goto (-31), 3) := by decide +kernel
theorem dX8_policies_38 : decode cX8_policies 38 = .ok (.iload_n 1, 1) := by decide +kernel
theorem dX8_policies_39 : decode cX8_policies 39 = .ok (.ireturn, 1) := by decide +kernel
theorem dX8_rules_0 : decode cX8_rules 0 = .ok (.iconst 0, 1) := by decide +kernel
theorem dX8_rules_1 : decode cX8_rules 1 = .ok (.istore_n 1, 1) := by decide +kernel
theorem dX8_rules_2 : decode cX8_rules 2 = .ok (.iconst 0, 1) := by decide +kernel
theorem dX8_rules_3 : decode cX8_rules 3 = .ok (.istore_n 2, 1) := by decide +kernel
theorem dX8_rules_4 : decode cX8_rules 4 = .ok (.iload_n 2, 1) := by decide +kernel
theorem dX8_rules_5 : decode cX8_rules 5 = .ok (.aload_n 0, 1) := by decide +kernel
theorem dX8_rules_6 : decode cX8_rules 6 = .ok (.getfield 18, 3) := by decide +kernel
theorem dX8_rules_9 : decode cX8_rules 9 = .ok (.if_icmp .ge 21, 3) := by decide +kernel
theorem dX8_rules_12 : decode cX8_rules 12 = .ok (.iload_n 1, 1) := by decide +kernel
theorem dX8_rules_13 : decode cX8_rules 13 = .ok (.aload_n 0, 1) := by decide +kernel
theorem dX8_rules_14 : decode cX8_rules 14 = .ok (.getfield 11, 3) := by decide +kernel
theorem dX8_rules_17 : decode cX8_rules 17 = .ok (.iload_n 2, 1) := by decide +kernel
theorem dX8_rules_18 : decode cX8_rules 18 = .ok (.aaload, 1) := by decide +kernel
theorem dX8_rules_19 : decode cX8_rules 19 = .ok (.getfield 47, 3) := by decide +kernel
theorem dX8_rules_22 : decode cX8_rules 22 = .ok (.iadd, 1) := by decide +kernel
theorem dX8_rules_23 : decode cX8_rules 23 = .ok (.istore_n 1, 1) := by decide +kernel
theorem dX8_rules_24 : decode cX8_rules 24 = .ok (.iinc 2 1, 3) := by decide +kernel
theorem dX8_rules_27 : decode cX8_rules 27 = .ok (.goto (-23), 3) := by decide +kernel
theorem dX8_rules_30 : decode cX8_rules 30 = .ok (.iload_n 1, 1) := by decide +kernel
theorem dX8_rules_31 : decode cX8_rules 31 = .ok (.ireturn, 1) := by decide +kernel
theorem dX8_hosts_0 : decode cX8_hosts 0 = .ok (.iconst 0, 1) := by decide +kernel
theorem dX8_hosts_1 : decode cX8_hosts 1 = .ok (.istore_n 1, 1) := by decide +kernel
theorem dX8_hosts_2 : decode cX8_hosts 2 = .ok (.iconst 0, 1) := by decide +kernel
theorem dX8_hosts_3 : decode cX8_hosts 3 = .ok (.istore_n 2, 1) := by decide +kernel
theorem dX8_hosts_4 : decode cX8_hosts 4 = .ok (.iload_n 2, 1) := by decide +kernel
theorem dX8_hosts_5 : decode cX8_hosts 5 = .ok (.aload_n 0, 1) := by decide +kernel
theorem dX8_hosts_6 : decode cX8_hosts 6 = .ok (.getfield 18, 3) := by decide +kernel
theorem dX8_hosts_9 : decode cX8_hosts 9 = .ok (.if_icmp .ge 21, 3) := by decide +kernel
theorem dX8_hosts_12 : decode cX8_hosts 12 = .ok (.iload_n 1, 1) := by decide +kernel
theorem dX8_hosts_13 : decode cX8_hosts 13 = .ok (.aload_n 0, 1) := by decide +kernel
theorem dX8_hosts_14 : decode cX8_hosts 14 = .ok (.getfield 11, 3) := by decide +kernel
theorem dX8_hosts_17 : decode cX8_hosts 17 = .ok (.iload_n 2, 1) := by decide +kernel
theorem dX8_hosts_18 : decode cX8_hosts 18 = .ok (.aaload, 1) := by decide +kernel
theorem dX8_hosts_19 : decode cX8_hosts 19 = .ok (.getfield 50, 3) := by decide +kernel
theorem dX8_hosts_22 : decode cX8_hosts 22 = .ok (.iadd, 1) := by decide +kernel
theorem dX8_hosts_23 : decode cX8_hosts 23 = .ok (.istore_n 1, 1) := by decide +kernel
theorem dX8_hosts_24 : decode cX8_hosts 24 = .ok (.iinc 2 1, 3) := by decide +kernel
theorem dX8_hosts_27 : decode cX8_hosts 27 = .ok (.goto (-23), 3) := by decide +kernel
theorem dX8_hosts_30 : decode cX8_hosts 30 = .ok (.iload_n 1, 1) := by decide +kernel
theorem dX8_hosts_31 : decode cX8_hosts 31 = .ok (.ireturn, 1) := by decide +kernel
theorem dX8_directlyLedTo_0 : decode cX8_directlyLedTo 0 = .ok (.aload_n 0, 1) := by decide +kernel
theorem dX8_directlyLedTo_1 : decode cX8_directlyLedTo 1 = .ok (.iload_n 1, 1) := by decide +kernel
theorem dX8_directlyLedTo_2 : decode cX8_directlyLedTo 2 = .ok (.invokevirtual 29, 3) := by decide +kernel
theorem dX8_directlyLedTo_5 : decode cX8_directlyLedTo 5 = .ok (.astore_n 2, 1) := by decide +kernel
theorem dX8_directlyLedTo_6 : decode cX8_directlyLedTo 6 = .ok (.aload_n 2, 1) := by decide +kernel
theorem dX8_directlyLedTo_7 : decode cX8_directlyLedTo 7 = .ok (.ifnonnull 5, 3) := by decide +kernel
theorem dX8_directlyLedTo_10 : decode cX8_directlyLedTo 10 = .ok (.iconst 0, 1) := by decide +kernel
theorem dX8_directlyLedTo_11 : decode cX8_directlyLedTo 11 = .ok (.ireturn, 1) := by decide +kernel
theorem dX8_directlyLedTo_12 : decode cX8_directlyLedTo 12 = .ok (.aload_n 0, 1) := by decide +kernel
theorem dX8_directlyLedTo_13 : decode cX8_directlyLedTo 13 = .ok (.aload_n 2, 1) := by decide +kernel
theorem dX8_directlyLedTo_14 : decode cX8_directlyLedTo 14 = .ok (.getfield 53, 3) := by decide +kernel
theorem dX8_directlyLedTo_17 : decode cX8_directlyLedTo 17 = .ok (.invokevirtual 56, 3) := by decide +kernel
theorem dX8_directlyLedTo_20 : decode cX8_directlyLedTo 20 = .ok (.istore_n 3, 1) := by decide +kernel
theorem dX8_directlyLedTo_21 : decode cX8_directlyLedTo 21 = .ok (.iconst 0, 1) := by decide +kernel
theorem dX8_directlyLedTo_22 : decode cX8_directlyLedTo 22 = .ok (.istore 4, 2) := by decide +kernel
theorem dX8_directlyLedTo_24 : decode cX8_directlyLedTo 24 = .ok (.iload 4, 2) := by decide +kernel
theorem dX8_directlyLedTo_26 : decode cX8_directlyLedTo 26 = .ok (.aload_n 2, 1) := by decide +kernel
theorem dX8_directlyLedTo_27 : decode cX8_directlyLedTo 27 = .ok (.getfield 47, 3) := by decide +kernel
theorem dX8_directlyLedTo_30 : decode cX8_directlyLedTo 30 = .ok (.if_icmp .ge 40, 3) := by decide +kernel
theorem dX8_directlyLedTo_33 : decode cX8_directlyLedTo 33 = .ok (.aload_n 2, 1) := by decide +kernel
theorem dX8_directlyLedTo_34 : decode cX8_directlyLedTo 34 = .ok (.getfield 59, 3) := by decide +kernel
theorem dX8_directlyLedTo_37 : decode cX8_directlyLedTo 37 = .ok (.iload 4, 2) := by decide +kernel
theorem dX8_directlyLedTo_39 : decode cX8_directlyLedTo 39 = .ok (.aaload, 1) := by decide +kernel
theorem dX8_directlyLedTo_40 : decode cX8_directlyLedTo 40 = .ok (.getfield 63, 3) := by decide +kernel
theorem dX8_directlyLedTo_43 : decode cX8_directlyLedTo 43 = .ok (.iconst 2, 1) := by decide +kernel
theorem dX8_directlyLedTo_44 : decode cX8_directlyLedTo 44 = .ok (.if_icmp .ne 20, 3) := by decide +kernel
theorem dX8_directlyLedTo_47 : decode cX8_directlyLedTo 47 = .ok (.iload_n 3, 1) := by decide +kernel
theorem dX8_directlyLedTo_48 : decode cX8_directlyLedTo 48 = .ok (.aload_n 0, 1) := by decide +kernel
theorem dX8_directlyLedTo_49 : decode cX8_directlyLedTo 49 = .ok (.aload_n 2, 1) := by decide +kernel
theorem dX8_directlyLedTo_50 : decode cX8_directlyLedTo 50 = .ok (.getfield 59, 3) := by decide +kernel
theorem dX8_directlyLedTo_53 : decode cX8_directlyLedTo 53 = .ok (.iload 4, 2) := by decide +kernel
theorem dX8_directlyLedTo_55 : decode cX8_directlyLedTo 55 = .ok (.aaload, 1) := by decide +kernel
theorem dX8_directlyLedTo_56 : decode cX8_directlyLedTo 56 = .ok (.getfield 68, 3) := by decide +kernel
theorem dX8_directlyLedTo_59 : decode cX8_directlyLedTo 59 = .ok (.invokevirtual 56, 3) := by decide +kernel
theorem dX8_directlyLedTo_62 : decode cX8_directlyLedTo 62 = .ok (.ior, 1) := by decide +kernel
theorem dX8_directlyLedTo_63 : decode cX8_directlyLedTo 63 = .ok (.istore_n 3, 1) := by decide +kernel
theorem dX8_directlyLedTo_64 : decode cX8_directlyLedTo 64 = .ok (.iinc 4 1, 3) := by decide +kernel
theorem dX8_directlyLedTo_67 : decode cX8_directlyLedTo 67 = .ok (.goto (-43), 3) := by decide +kernel
theorem dX8_directlyLedTo_70 : decode cX8_directlyLedTo 70 = .ok (.iload_n 3, 1) := by decide +kernel
theorem dX8_directlyLedTo_71 : decode cX8_directlyLedTo 71 = .ok (.ireturn, 1) := by decide +kernel
theorem dX8_bitIfPolicy_0 : decode cX8_bitIfPolicy 0 = .ok (.aload_n 0, 1) := by decide +kernel
theorem dX8_bitIfPolicy_1 : decode cX8_bitIfPolicy 1 = .ok (.iload_n 1, 1) := by decide +kernel
theorem dX8_bitIfPolicy_2 : decode cX8_bitIfPolicy 2 = .ok (.invokevirtual 25, 3) := by decide +kernel
theorem dX8_bitIfPolicy_5 : decode cX8_bitIfPolicy 5 = .ok (.istore_n 2, 1) := by decide +kernel
theorem dX8_bitIfPolicy_6 : decode cX8_bitIfPolicy 6 = .ok (.iload_n 2, 1) := by decide +kernel
theorem dX8_bitIfPolicy_7 : decode cX8_bitIfPolicy 7 = .ok (.iconst (-1), 1) := by decide +kernel
theorem dX8_bitIfPolicy_8 : decode cX8_bitIfPolicy 8 = .ok (.if_icmp .eq 21, 3) := by decide +kernel
theorem dX8_bitIfPolicy_11 : decode cX8_bitIfPolicy 11 = .ok (.aload_n 0, 1) := by decide +kernel
theorem dX8_bitIfPolicy_12 : decode cX8_bitIfPolicy 12 = .ok (.getfield 11, 3) := by decide +kernel
theorem dX8_bitIfPolicy_15 : decode cX8_bitIfPolicy 15 = .ok (.iload_n 2, 1) := by decide +kernel
theorem dX8_bitIfPolicy_16 : decode cX8_bitIfPolicy 16 = .ok (.aaload, 1) := by decide +kernel
theorem dX8_bitIfPolicy_17 : decode cX8_bitIfPolicy 17 = .ok (.getfield 43, 3) := by decide +kernel
theorem dX8_bitIfPolicy_20 : decode cX8_bitIfPolicy 20 = .ok (.ifCond .eq 9, 3) := by decide +kernel
theorem dX8_bitIfPolicy_23 : decode cX8_bitIfPolicy 23 = .ok (.iconst 1, 1) := by decide +kernel
theorem dX8_bitIfPolicy_24 : decode cX8_bitIfPolicy 24 = .ok (.iload_n 2, 1) := by decide +kernel
theorem dX8_bitIfPolicy_25 : decode cX8_bitIfPolicy 25 = .ok (.ishl, 1) := by decide +kernel
theorem dX8_bitIfPolicy_26 : decode cX8_bitIfPolicy 26 = .ok (.goto 4, 3) := by decide +kernel
theorem dX8_bitIfPolicy_29 : decode cX8_bitIfPolicy 29 = .ok (.iconst 0, 1) := by decide +kernel
theorem dX8_bitIfPolicy_30 : decode cX8_bitIfPolicy 30 = .ok (.ireturn, 1) := by decide +kernel
theorem dX9_init_0 : decode cX9_init 0 = .ok (.aload_n 0, 1) := by decide +kernel
theorem dX9_init_1 : decode cX9_init 1 = .ok (.invokespecial 3, 3) := by decide +kernel
theorem dX9_init_4 : decode cX9_init 4 = .ok (.aload_n 0, 1) := by decide +kernel
theorem dX9_init_5 : decode cX9_init 5 = .ok (.bipush 8, 2) := by decide +kernel
theorem dX9_init_7 : decode cX9_init 7 = .ok (.newarray .int, 2) := by decide +kernel
theorem dX9_init_9 : decode cX9_init 9 = .ok (.putfield 9, 3) := by decide +kernel
theorem dX9_init_12 : decode cX9_init 12 = .ok (.return_, 1) := by decide +kernel
theorem dX9_start_0 : decode cX9_start 0 = .ok (.aload_n 0, 1) := by decide +kernel
theorem dX9_start_1 : decode cX9_start 1 = .ok (.iload_n 1, 1) := by decide +kernel
theorem dX9_start_2 : decode cX9_start 2 = .ok (.putfield 15, 3) := by decide +kernel
theorem dX9_start_5 : decode cX9_start 5 = .ok (.aload_n 0, 1) := by decide +kernel
theorem dX9_start_6 : decode cX9_start 6 = .ok (.iload_n 2, 1) := by decide +kernel
theorem dX9_start_7 : decode cX9_start 7 = .ok (.putfield 19, 3) := by decide +kernel
theorem dX9_start_10 : decode cX9_start 10 = .ok (.aload_n 0, 1) := by decide +kernel
theorem dX9_start_11 : decode cX9_start 11 = .ok (.iconst 0, 1) := by decide +kernel
theorem dX9_start_12 : decode cX9_start 12 = .ok (.putfield 22, 3) := by decide +kernel
theorem dX9_start_15 : decode cX9_start 15 = .ok (.aload_n 0, 1) := by decide +kernel
theorem dX9_start_16 : decode cX9_start 16 = .ok (.iconst 0, 1) := by decide +kernel
theorem dX9_start_17 : decode cX9_start 17 = .ok (.putfield 25, 3) := by decide +kernel
theorem dX9_start_20 : decode cX9_start 20 = .ok (.aload_n 0, 1) := by decide +kernel
theorem dX9_start_21 : decode cX9_start 21 = .ok (.iconst 0, 1) := by decide +kernel
theorem dX9_start_22 : decode cX9_start 22 = .ok (.putfield 28, 3) := by decide +kernel
theorem dX9_start_25 : decode cX9_start 25 = .ok (.aload_n 0, 1) := by decide +kernel
theorem dX9_start_26 : decode cX9_start 26 = .ok (.iconst 0, 1) := by decide +kernel
theorem dX9_start_27 : decode cX9_start 27 = .ok (.putfield 31, 3) := by decide +kernel
theorem dX9_start_30 : decode cX9_start 30 = .ok (.return_, 1) := by decide +kernel
theorem dX9_hasPrefixOf_0 : decode cX9_hasPrefixOf 0 = .ok (.aload_n 0, 1) := by decide +kernel
theorem dX9_hasPrefixOf_1 : decode cX9_hasPrefixOf 1 = .ok (.getfield 22, 3) := by decide +kernel
theorem dX9_hasPrefixOf_4 : decode cX9_hasPrefixOf 4 = .ok (.iload_n 1, 1) := by decide +kernel
theorem dX9_hasPrefixOf_5 : decode cX9_hasPrefixOf 5 = .ok (.ixor, 1) := by decide +kernel
theorem dX9_hasPrefixOf_6 : decode cX9_hasPrefixOf 6 = .ok (.bipush 8, 2) := by decide +kernel
theorem dX9_hasPrefixOf_8 : decode cX9_hasPrefixOf 8 = .ok (.aload_n 0, 1) := by decide +kernel
theorem dX9_hasPrefixOf_9 : decode cX9_hasPrefixOf 9 = .ok (.getfield 25, 3) := by decide +kernel
theorem dX9_hasPrefixOf_12 : decode cX9_hasPrefixOf 12 = .ok (.isub, 1) := by decide +kernel
theorem dX9_hasPrefixOf_13 : decode cX9_hasPrefixOf 13 = .ok (.ishr, 1) := by decide +kernel
theorem dX9_hasPrefixOf_14 : decode cX9_hasPrefixOf 14 = .ok (.ifCond .ne 7, 3) := by decide +kernel
theorem dX9_hasPrefixOf_17 : decode cX9_hasPrefixOf 17 = .ok (.iconst 1, 1) := by decide +kernel
theorem dX9_hasPrefixOf_18 : decode cX9_hasPrefixOf 18 = .ok (.goto 4, 3) := by decide +kernel
theorem dX9_hasPrefixOf_21 : decode cX9_hasPrefixOf 21 = .ok (.iconst 0, 1) := by decide +kernel
theorem dX9_hasPrefixOf_22 : decode cX9_hasPrefixOf 22 = .ok (.ireturn, 1) := by decide +kernel
theorem dX10_init_0 : decode cX10_init 0 = .ok (.aload_n 0, 1) := by decide +kernel
theorem dX10_init_1 : decode cX10_init 1 = .ok (.invokespecial 3, 3) := by decide +kernel
theorem dX10_init_4 : decode cX10_init 4 = .ok (.aload_n 0, 1) := by decide +kernel
theorem dX10_init_5 : decode cX10_init 5 = .ok (.new 9, 3) := by decide +kernel
theorem dX10_init_8 : decode cX10_init 8 = .ok (.dup, 1) := by decide +kernel
theorem dX10_init_9 : decode cX10_init 9 = .ok (.invokespecial 11, 3) := by decide +kernel
theorem dX10_init_12 : decode cX10_init 12 = .ok (.putfield 12, 3) := by decide +kernel
theorem dX10_init_15 : decode cX10_init 15 = .ok (.aload_n 0, 1) := by decide +kernel
theorem dX10_init_16 : decode cX10_init 16 = .ok (.new 16, 3) := by decide +kernel
theorem dX10_init_19 : decode cX10_init 19 = .ok (.dup, 1) := by decide +kernel
theorem dX10_init_20 : decode cX10_init 20 = .ok (.invokespecial 18, 3) := by decide +kernel
theorem dX10_init_23 : decode cX10_init 23 = .ok (.putfield 19, 3) := by decide +kernel
theorem dX10_init_26 : decode cX10_init 26 = .ok (.aload_n 0, 1) := by decide +kernel
theorem dX10_init_27 : decode cX10_init 27 = .ok (.new 23, 3) := by decide +kernel
theorem dX10_init_30 : decode cX10_init 30 = .ok (.dup, 1) := by decide +kernel
theorem dX10_init_31 : decode cX10_init 31 = .ok (.invokespecial 25, 3) := by decide +kernel
theorem dX10_init_34 : decode cX10_init 34 = .ok (.putfield 26, 3) := by decide +kernel
theorem dX10_init_37 : decode cX10_init 37 = .ok (.aload_n 0, 1) := by decide +kernel
theorem dX10_init_38 : decode cX10_init 38 = .ok (.new 30, 3) := by decide +kernel
theorem dX10_init_41 : decode cX10_init 41 = .ok (.dup, 1) := by decide +kernel
theorem dX10_init_42 : decode cX10_init 42 = .ok (.invokespecial 32, 3) := by decide +kernel
theorem dX10_init_45 : decode cX10_init 45 = .ok (.putfield 33, 3) := by decide +kernel
theorem dX10_init_48 : decode cX10_init 48 = .ok (.aload_n 0, 1) := by decide +kernel
theorem dX10_init_49 : decode cX10_init 49 = .ok (.new 37, 3) := by decide +kernel
theorem dX10_init_52 : decode cX10_init 52 = .ok (.dup, 1) := by decide +kernel
theorem dX10_init_53 : decode cX10_init 53 = .ok (.invokespecial 39, 3) := by decide +kernel
theorem dX10_init_56 : decode cX10_init 56 = .ok (.putfield 40, 3) := by decide +kernel
theorem dX10_init_59 : decode cX10_init 59 = .ok (.new 16, 3) := by decide +kernel
theorem dX10_init_62 : decode cX10_init 62 = .ok (.dup, 1) := by decide +kernel
theorem dX10_init_63 : decode cX10_init 63 = .ok (.invokespecial 18, 3) := by decide +kernel
theorem dX10_init_66 : decode cX10_init 66 = .ok (.astore_n 1, 1) := by decide +kernel
theorem dX10_init_67 : decode cX10_init 67 = .ok (.iconst 0, 1) := by decide +kernel
theorem dX10_init_68 : decode cX10_init 68 = .ok (.istore_n 2, 1) := by decide +kernel
theorem dX10_init_69 : decode cX10_init 69 = .ok (.iload_n 2, 1) := by decide +kernel
theorem dX10_init_70 : decode cX10_init 70 = .ok (.ldc 44, 2) := by decide +kernel
theorem dX10_init_72 : decode cX10_init 72 = .ok (.invokevirtual 46, 3) := by decide +kernel
theorem dX10_init_75 : decode cX10_init 75 = .ok (.if_icmp .ge 23, 3) := by decide +kernel
theorem dX10_init_78 : decode cX10_init 78 = .ok (.aload_n 0, 1) := by decide +kernel
theorem dX10_init_79 : decode cX10_init 79 = .ok (.getfield 12, 3) := by decide +kernel
theorem dX10_init_82 : decode cX10_init 82 = .ok (.ldc 44, 2) := by decide +kernel
theorem dX10_init_84 : decode cX10_init 84 = .ok (.iload_n 2, 1) := by decide +kernel
theorem dX10_init_85 : decode cX10_init 85 = .ok (.invokevirtual 52, 3) := by decide +kernel
theorem dX10_init_88 : decode cX10_init 88 = .ok (.invokevirtual 56, 3) := by decide +kernel
theorem dX10_init_91 : decode cX10_init 91 = .ok (.pop, 1) := by decide +kernel
theorem dX10_init_92 : decode cX10_init 92 = .ok (.iinc 2 1, 3) := by decide +kernel
theorem dX10_init_95 : decode cX10_init 95 = .ok (.goto (-26), 3) := by decide +kernel
theorem dX10_init_98 : decode cX10_init 98 = .ok (.aload_n 0, 1) := by decide +kernel
theorem dX10_init_99 : decode cX10_init 99 = .ok (.getfield 12, 3) := by decide +kernel
theorem dX10_init_102 : decode cX10_init 102 = .ok (.aload_n 1, 1) := by decide +kernel
theorem dX10_init_103 : decode cX10_init 103 = .ok (.invokevirtual 60, 3) := by decide +kernel
theorem dX10_init_106 : decode cX10_init 106 = .ok (.pop, 1) := by decide +kernel
theorem dX10_init_107 : decode cX10_init 107 = .ok (.aload_n 0, 1) := by decide +kernel
theorem dX10_init_108 : decode cX10_init 108 = .ok (.getfield 12, 3) := by decide +kernel
theorem dX10_init_111 : decode cX10_init 111 = .ok (.invokevirtual 64, 3) := by decide +kernel
theorem dX10_init_114 : decode cX10_init 114 = .ok (.aload_n 0, 1) := by decide +kernel
theorem dX10_init_115 : decode cX10_init 115 = .ok (.aload_n 1, 1) := by decide +kernel
theorem dX10_init_116 : decode cX10_init 116 = .ok (.putfield 67, 3) := by decide +kernel
theorem dX10_init_119 : decode cX10_init 119 = .ok (.return_, 1) := by decide +kernel
theorem dX10_write_0 : decode cX10_write 0 = .ok (.iload_n 1, 1) := by decide +kernel
theorem dX10_write_1 : decode cX10_write 1 = .ok (.bipush 32, 2) := by decide +kernel
theorem dX10_write_3 : decode cX10_write 3 = .ok (.if_icmp .lt 9, 3) := by decide +kernel
theorem dX10_write_6 : decode cX10_write 6 = .ok (.iload_n 1, 1) := by decide +kernel
theorem dX10_write_7 : decode cX10_write 7 = .ok (.bipush 126, 2) := by decide +kernel
theorem dX10_write_9 : decode cX10_write 9 = .ok (.if_icmp .le 5, 3) := by decide +kernel
theorem dX10_write_12 : decode cX10_write 12 = .ok (.iconst (-1), 1) := by decide +kernel
theorem dX10_write_13 : decode cX10_write 13 = .ok (.ireturn, 1) := by decide +kernel
theorem dX10_write_14 : decode cX10_write 14 = .ok (.aload_n 0, 1) := by decide +kernel
theorem dX10_write_15 : decode cX10_write 15 = .ok (.getfield 12, 3) := by decide +kernel
theorem dX10_write_18 : decode cX10_write 18 = .ok (.iload_n 1, 1) := by decide +kernel
theorem dX10_write_19 : decode cX10_write 19 = .ok (.i2c, 1) := by decide +kernel
theorem dX10_write_20 : decode cX10_write 20 = .ok (.invokevirtual 56, 3) := by decide +kernel
theorem dX10_write_23 : decode cX10_write 23 = .ok (.ifCond .eq 13, 3) := by decide +kernel
theorem dX10_write_26 : decode cX10_write 26 = .ok (.aload_n 0, 1) := by decide +kernel
theorem dX10_write_27 : decode cX10_write 27 = .ok (.getfield 12, 3) := by decide +kernel
theorem dX10_write_30 : decode cX10_write 30 = .ok (.getfield 70, 3) := by decide +kernel
theorem dX10_write_33 : decode cX10_write 33 = .ok (.goto 5, 3) := by decide +kernel
theorem dX10_write_36 : decode cX10_write 36 = .ok (.bipush (-3), 2) := by decide +kernel
theorem dX10_write_38 : decode cX10_write 38 = .ok (.ireturn, 1) := by decide +kernel
theorem dX10_wipe_0 : decode cX10_wipe 0 = .ok (.aload_n 0, 1) := by decide +kernel
theorem dX10_wipe_1 : decode cX10_wipe 1 = .ok (.getfield 12, 3) := by decide +kernel
theorem dX10_wipe_4 : decode cX10_wipe 4 = .ok (.getfield 70, 3) := by decide +kernel
theorem dX10_wipe_7 : decode cX10_wipe 7 = .ok (.istore_n 1, 1) := by decide +kernel
theorem dX10_wipe_8 : decode cX10_wipe 8 = .ok (.aload_n 0, 1) := by decide +kernel
theorem dX10_wipe_9 : decode cX10_wipe 9 = .ok (.getfield 12, 3) := by decide +kernel
theorem dX10_wipe_12 : decode cX10_wipe 12 = .ok (.invokevirtual 64, 3) := by decide +kernel
theorem dX10_wipe_15 : decode cX10_wipe 15 = .ok (.iload_n 1, 1) := by decide +kernel
theorem dX10_wipe_16 : decode cX10_wipe 16 = .ok (.ireturn, 1) := by decide +kernel
theorem dX10_fault_0 : decode cX10_fault 0 = .ok (.aload_n 0, 1) := by decide +kernel
theorem dX10_fault_1 : decode cX10_fault 1 = .ok (.getfield 12, 3) := by decide +kernel
theorem dX10_fault_4 : decode cX10_fault 4 = .ok (.aload_n 0, 1) := by decide +kernel
theorem dX10_fault_5 : decode cX10_fault 5 = .ok (.getfield 19, 3) := by decide +kernel
theorem dX10_fault_8 : decode cX10_fault 8 = .ok (.invokevirtual 60, 3) := by decide +kernel
theorem dX10_fault_11 : decode cX10_fault 11 = .ok (.ireturn, 1) := by decide +kernel
theorem dX10_lay_0 : decode cX10_lay 0 = .ok (.aload_n 0, 1) := by decide +kernel
theorem dX10_lay_1 : decode cX10_lay 1 = .ok (.getfield 12, 3) := by decide +kernel
theorem dX10_lay_4 : decode cX10_lay 4 = .ok (.aload_n 0, 1) := by decide +kernel
theorem dX10_lay_5 : decode cX10_lay 5 = .ok (.getfield 19, 3) := by decide +kernel
theorem dX10_lay_8 : decode cX10_lay 8 = .ok (.invokevirtual 60, 3) := by decide +kernel
theorem dX10_lay_11 : decode cX10_lay 11 = .ok (.bipush (-4), 2) := by decide +kernel
theorem dX10_lay_13 : decode cX10_lay 13 = .ok (.if_icmp .ne 13, 3) := by decide +kernel
theorem dX10_lay_16 : decode cX10_lay 16 = .ok (.aload_n 0, 1) := by decide +kernel
theorem dX10_lay_17 : decode cX10_lay 17 = .ok (.getfield 19, 3) := by decide +kernel
theorem dX10_lay_20 : decode cX10_lay 20 = .ok (.invokevirtual 73, 3) := by decide +kernel
theorem dX10_lay_23 : decode cX10_lay 23 = .ok (.ifCond .ne 6, 3) := by decide +kernel
theorem dX10_lay_26 : decode cX10_lay 26 = .ok (.bipush (-2), 2) := by decide +kernel
theorem dX10_lay_28 : decode cX10_lay 28 = .ok (.ireturn, 1) := by decide +kernel
theorem dX10_lay_29 : decode cX10_lay 29 = .ok (.aload_n 0, 1) := by decide +kernel
theorem dX10_lay_30 : decode cX10_lay 30 = .ok (.getfield 67, 3) := by decide +kernel
theorem dX10_lay_33 : decode cX10_lay 33 = .ok (.astore_n 1, 1) := by decide +kernel
theorem dX10_lay_34 : decode cX10_lay 34 = .ok (.aload_n 0, 1) := by decide +kernel
theorem dX10_lay_35 : decode cX10_lay 35 = .ok (.aload_n 0, 1) := by decide +kernel
theorem dX10_lay_36 : decode cX10_lay 36 = .ok (.getfield 19, 3) := by decide +kernel
theorem dX10_lay_39 : decode cX10_lay 39 = .ok (.putfield 67, 3) := by decide +kernel
theorem dX10_lay_42 : decode cX10_lay 42 = .ok (.aload_n 0, 1) := by decide +kernel
theorem dX10_lay_43 : decode cX10_lay 43 = .ok (.aload_n 1, 1) := by decide +kernel
theorem dX10_lay_44 : decode cX10_lay 44 = .ok (.putfield 19, 3) := by decide +kernel
theorem dX10_lay_47 : decode cX10_lay 47 = .ok (.aload_n 0, 1) := by decide +kernel
theorem dX10_lay_48 : decode cX10_lay 48 = .ok (.getfield 33, 3) := by decide +kernel
theorem dX10_lay_51 : decode cX10_lay 51 = .ok (.invokevirtual 76, 3) := by decide +kernel
theorem dX10_lay_54 : decode cX10_lay 54 = .ok (.aload_n 0, 1) := by decide +kernel
theorem dX10_lay_55 : decode cX10_lay 55 = .ok (.getfield 40, 3) := by decide +kernel
theorem dX10_lay_58 : decode cX10_lay 58 = .ok (.invokevirtual 79, 3) := by decide +kernel
theorem dX10_lay_61 : decode cX10_lay 61 = .ok (.aload_n 0, 1) := by decide +kernel
theorem dX10_lay_62 : decode cX10_lay 62 = .ok (.getfield 67, 3) := by decide +kernel
theorem dX10_lay_65 : decode cX10_lay 65 = .ok (.getfield 80, 3) := by decide +kernel
theorem dX10_lay_68 : decode cX10_lay 68 = .ok (.ireturn, 1) := by decide +kernel
theorem dX10_named_0 : decode cX10_named 0 = .ok (.iload_n 1, 1) := by decide +kernel
theorem dX10_named_1 : decode cX10_named 1 = .ok (.ifCond .lt 8, 3) := by decide +kernel
theorem dX10_named_4 : decode cX10_named 4 = .ok (.iload_n 1, 1) := by decide +kernel
theorem dX10_named_5 : decode cX10_named 5 = .ok (.iconst 2, 1) := by decide +kernel
theorem dX10_named_6 : decode cX10_named 6 = .ok (.if_icmp .le 5, 3) := by decide +kernel
theorem dX10_named_9 : decode cX10_named 9 = .ok (.iconst (-1), 1) := by decide +kernel
theorem dX10_named_10 : decode cX10_named 10 = .ok (.ireturn, 1) := by decide +kernel
theorem dX10_named_11 : decode cX10_named 11 = .ok (.aload_n 0, 1) := by decide +kernel
theorem dX10_named_12 : decode cX10_named 12 = .ok (.getfield 12, 3) := by decide +kernel
theorem dX10_named_15 : decode cX10_named 15 = .ok (.invokevirtual 83, 3) := by decide +kernel
theorem dX10_named_18 : decode cX10_named 18 = .ok (.istore_n 2, 1) := by decide +kernel
theorem dX10_named_19 : decode cX10_named 19 = .ok (.iload_n 2, 1) := by decide +kernel
theorem dX10_named_20 : decode cX10_named 20 = .ok (.ifCond .ne 6, 3) := by decide +kernel
theorem dX10_named_23 : decode cX10_named 23 = .ok (.bipush (-2), 2) := by decide +kernel
theorem dX10_named_25 : decode cX10_named 25 = .ok (.ireturn, 1) := by decide +kernel
theorem dX10_named_26 : decode cX10_named 26 = .ok (.aload_n 0, 1) := by decide +kernel
theorem dX10_named_27 : decode cX10_named 27 = .ok (.getfield 67, 3) := by decide +kernel
theorem dX10_named_30 : decode cX10_named 30 = .ok (.iload_n 2, 1) := by decide +kernel
theorem dX10_named_31 : decode cX10_named 31 = .ok (.invokevirtual 86, 3) := by decide +kernel
theorem dX10_named_34 : decode cX10_named 34 = .ok (.istore_n 3, 1) := by decide +kernel
theorem dX10_named_35 : decode cX10_named 35 = .ok (.iload_n 1, 1) := by decide +kernel
theorem dX10_named_36 : decode cX10_named 36 = .ok (.ifCond .eq 8, 3) := by decide +kernel
theorem dX10_named_39 : decode cX10_named 39 = .ok (.iload_n 3, 1) := by decide +kernel
theorem dX10_named_40 : decode cX10_named 40 = .ok (.iconst (-1), 1) := by decide +kernel
theorem dX10_named_41 : decode cX10_named 41 = .ok (.if_icmp .eq 15, 3) := by decide +kernel
theorem dX10_named_44 : decode cX10_named 44 = .ok (.iload_n 3, 1) := by decide +kernel
theorem dX10_named_45 : decode cX10_named 45 = .ok (.iconst (-1), 1) := by decide +kernel
theorem dX10_named_46 : decode cX10_named 46 = .ok (.if_icmp .ne 8, 3) := by decide +kernel
theorem dX10_named_49 : decode cX10_named 49 = .ok (.bipush (-4), 2) := by decide +kernel
theorem dX10_named_51 : decode cX10_named 51 = .ok (.goto 4, 3) := by decide +kernel
theorem dX10_named_54 : decode cX10_named 54 = .ok (.iload_n 3, 1) := by decide +kernel
theorem dX10_named_55 : decode cX10_named 55 = .ok (.ireturn, 1) := by decide +kernel
theorem dX10_named_56 : decode cX10_named 56 = .ok (.aload_n 0, 1) := by decide +kernel
theorem dX10_named_57 : decode cX10_named 57 = .ok (.getfield 67, 3) := by decide +kernel
theorem dX10_named_60 : decode cX10_named 60 = .ok (.iload_n 2, 1) := by decide +kernel
theorem dX10_named_61 : decode cX10_named 61 = .ok (.invokevirtual 90, 3) := by decide +kernel
theorem dX10_named_64 : decode cX10_named 64 = .ok (.istore 4, 2) := by decide +kernel
theorem dX10_named_66 : decode cX10_named 66 = .ok (.iload_n 1, 1) := by decide +kernel
theorem dX10_named_67 : decode cX10_named 67 = .ok (.iconst 1, 1) := by decide +kernel
theorem dX10_named_68 : decode cX10_named 68 = .ok (.if_icmp .ne 18, 3) := by decide +kernel
theorem dX10_named_71 : decode cX10_named 71 = .ok (.iload 4, 2) := by decide +kernel
theorem dX10_named_73 : decode cX10_named 73 = .ok (.ifCond .le 10, 3) := by decide +kernel
theorem dX10_named_76 : decode cX10_named 76 = .ok (.iload 4, 2) := by decide +kernel
theorem dX10_named_78 : decode cX10_named 78 = .ok (.iconst 1, 1) := by decide +kernel
theorem dX10_named_79 : decode cX10_named 79 = .ok (.isub, 1) := by decide +kernel
theorem dX10_named_80 : decode cX10_named 80 = .ok (.goto 5, 3) := by decide +kernel
theorem dX10_named_83 : decode cX10_named 83 = .ok (.bipush (-4), 2) := by decide +kernel
theorem dX10_named_85 : decode cX10_named 85 = .ok (.ireturn, 1) := by decide +kernel
theorem dX10_named_86 : decode cX10_named 86 = .ok (.iload 4, 2) := by decide +kernel
theorem dX10_named_88 : decode cX10_named 88 = .ok (.aload_n 0, 1) := by decide +kernel
theorem dX10_named_89 : decode cX10_named 89 = .ok (.getfield 67, 3) := by decide +kernel
theorem dX10_named_92 : decode cX10_named 92 = .ok (.getfield 80, 3) := by decide +kernel
theorem dX10_named_95 : decode cX10_named 95 = .ok (.if_icmp .ge 8, 3) := by decide +kernel
theorem dX10_named_98 : decode cX10_named 98 = .ok (.iload 4, 2) := by decide +kernel
theorem dX10_named_100 : decode cX10_named 100 = .ok (.goto 5, 3) := by decide +kernel
theorem dX10_named_103 : decode cX10_named 103 = .ok (.bipush (-4), 2) := by decide +kernel
theorem dX10_named_105 : decode cX10_named 105 = .ok (.ireturn, 1) := by decide +kernel
theorem dX10_check_0 : decode cX10_check 0 = .ok (.aload_n 0, 1) := by decide +kernel
theorem dX10_check_1 : decode cX10_check 1 = .ok (.iload_n 1, 1) := by decide +kernel
theorem dX10_check_2 : decode cX10_check 2 = .ok (.invokevirtual 93, 3) := by decide +kernel
theorem dX10_check_5 : decode cX10_check 5 = .ok (.ifCond .eq 17, 3) := by decide +kernel
theorem dX10_check_8 : decode cX10_check 8 = .ok (.iload_n 2, 1) := by decide +kernel
theorem dX10_check_9 : decode cX10_check 9 = .ok (.invokestatic 97, 3) := by decide +kernel
theorem dX10_check_12 : decode cX10_check 12 = .ok (.ifCond .eq 10, 3) := by decide +kernel
theorem dX10_check_15 : decode cX10_check 15 = .ok (.iload_n 3, 1) := by decide +kernel
theorem dX10_check_16 : decode cX10_check 16 = .ok (.invokestatic 100, 3) := by decide +kernel
theorem dX10_check_19 : decode cX10_check 19 = .ok (.ifCond .ne 5, 3) := by decide +kernel
theorem dX10_check_22 : decode cX10_check 22 = .ok (.iconst (-1), 1) := by decide +kernel
theorem dX10_check_23 : decode cX10_check 23 = .ok (.ireturn, 1) := by decide +kernel
theorem dX10_check_24 : decode cX10_check 24 = .ok (.aload_n 0, 1) := by decide +kernel
theorem dX10_check_25 : decode cX10_check 25 = .ok (.getfield 26, 3) := by decide +kernel
theorem dX10_check_28 : decode cX10_check 28 = .ok (.aload_n 0, 1) := by decide +kernel
theorem dX10_check_29 : decode cX10_check 29 = .ok (.getfield 67, 3) := by decide +kernel
theorem dX10_check_32 : decode cX10_check 32 = .ok (.iload_n 1, 1) := by decide +kernel
theorem dX10_check_33 : decode cX10_check 33 = .ok (.iload_n 2, 1) := by decide +kernel
theorem dX10_check_34 : decode cX10_check 34 = .ok (.iload_n 3, 1) := by decide +kernel
theorem dX10_check_35 : decode cX10_check 35 = .ok (.invokevirtual 103, 3) := by decide +kernel
theorem dX10_check_38 : decode cX10_check 38 = .ok (.istore 4, 2) := by decide +kernel
theorem dX10_check_40 : decode cX10_check 40 = .ok (.aload_n 0, 1) := by decide +kernel
theorem dX10_check_41 : decode cX10_check 41 = .ok (.getfield 33, 3) := by decide +kernel
theorem dX10_check_44 : decode cX10_check 44 = .ok (.aload_n 0, 1) := by decide +kernel
theorem dX10_check_45 : decode cX10_check 45 = .ok (.getfield 26, 3) := by decide +kernel
theorem dX10_check_48 : decode cX10_check 48 = .ok (.iload_n 1, 1) := by decide +kernel
theorem dX10_check_49 : decode cX10_check 49 = .ok (.iload 4, 2) := by decide +kernel
theorem dX10_check_51 : decode cX10_check 51 = .ok (.invokevirtual 107, 3) := by decide +kernel
theorem dX10_check_54 : decode cX10_check 54 = .ok (.iload 4, 2) := by decide +kernel
theorem dX10_check_56 : decode cX10_check 56 = .ok (.ireturn, 1) := by decide +kernel
theorem dX10_kept_0 : decode cX10_kept 0 = .ok (.iload_n 1, 1) := by decide +kernel
theorem dX10_kept_1 : decode cX10_kept 1 = .ok (.ifCond .lt 13, 3) := by decide +kernel
theorem dX10_kept_4 : decode cX10_kept 4 = .ok (.iload_n 2, 1) := by decide +kernel
theorem dX10_kept_5 : decode cX10_kept 5 = .ok (.ifCond .lt 9, 3) := by decide +kernel
theorem dX10_kept_8 : decode cX10_kept 8 = .ok (.iload_n 2, 1) := by decide +kernel
theorem dX10_kept_9 : decode cX10_kept 9 = .ok (.bipush 8, 2) := by decide +kernel
theorem dX10_kept_11 : decode cX10_kept 11 = .ok (.if_icmp .lt 5, 3) := by decide +kernel
theorem dX10_kept_14 : decode cX10_kept 14 = .ok (.iconst (-1), 1) := by decide +kernel
theorem dX10_kept_15 : decode cX10_kept 15 = .ok (.ireturn, 1) := by decide +kernel
theorem dX10_kept_16 : decode cX10_kept 16 = .ok (.aload_n 0, 1) := by decide +kernel
theorem dX10_kept_17 : decode cX10_kept 17 = .ok (.getfield 33, 3) := by decide +kernel
theorem dX10_kept_20 : decode cX10_kept 20 = .ok (.iload_n 1, 1) := by decide +kernel
theorem dX10_kept_21 : decode cX10_kept 21 = .ok (.iload_n 2, 1) := by decide +kernel
theorem dX10_kept_22 : decode cX10_kept 22 = .ok (.invokevirtual 111, 3) := by decide +kernel
theorem dX10_kept_25 : decode cX10_kept 25 = .ok (.ireturn, 1) := by decide +kernel
theorem dX10_sign_0 : decode cX10_sign 0 = .ok (.aload_n 0, 1) := by decide +kernel
theorem dX10_sign_1 : decode cX10_sign 1 = .ok (.iload_n 1, 1) := by decide +kernel
theorem dX10_sign_2 : decode cX10_sign 2 = .ok (.iload_n 2, 1) := by decide +kernel
theorem dX10_sign_3 : decode cX10_sign 3 = .ok (.invokevirtual 115, 3) := by decide +kernel
theorem dX10_sign_6 : decode cX10_sign 6 = .ok (.astore 4, 2) := by decide +kernel
theorem dX10_sign_8 : decode cX10_sign 8 = .ok (.aload 4, 2) := by decide +kernel
theorem dX10_sign_10 : decode cX10_sign 10 = .ok (.ifnull 16, 3) := by decide +kernel
theorem dX10_sign_13 : decode cX10_sign 13 = .ok (.iload_n 3, 1) := by decide +kernel
theorem dX10_sign_14 : decode cX10_sign 14 = .ok (.ifCond .lt 12, 3) := by decide +kernel
theorem dX10_sign_17 : decode cX10_sign 17 = .ok (.iload_n 3, 1) := by decide +kernel
theorem dX10_sign_18 : decode cX10_sign 18 = .ok (.ldc 119, 2) := by decide +kernel
theorem dX10_sign_20 : decode cX10_sign 20 = .ok (.invokevirtual 46, 3) := by decide +kernel
theorem dX10_sign_23 : decode cX10_sign 23 = .ok (.if_icmp .lt 5, 3) := by decide +kernel
theorem dX10_sign_26 : decode cX10_sign 26 = .ok (.iconst (-1), 1) := by decide +kernel
theorem dX10_sign_27 : decode cX10_sign 27 = .ok (.ireturn, 1) := by decide +kernel
theorem dX10_sign_28 : decode cX10_sign 28 = .ok (.aload 4, 2) := by decide +kernel
theorem dX10_sign_30 : decode cX10_sign 30 = .ok (.getfield 121, 3) := by decide +kernel
theorem dX10_sign_33 : decode cX10_sign 33 = .ok (.istore 5, 2) := by decide +kernel
theorem dX10_sign_35 : decode cX10_sign 35 = .ok (.iload 5, 2) := by decide +kernel
theorem dX10_sign_37 : decode cX10_sign 37 = .ok (.iload_n 3, 1) := by decide +kernel
theorem dX10_sign_38 : decode cX10_sign 38 = .ok (.if_icmp .ne 6, 3) := by decide +kernel
theorem dX10_sign_41 : decode cX10_sign 41 = .ok (.bipush (-2), 2) := by decide +kernel
theorem dX10_sign_43 : decode cX10_sign 43 = .ok (.ireturn, 1) := by decide +kernel
theorem dX10_sign_44 : decode cX10_sign 44 = .ok (.aload 4, 2) := by decide +kernel
theorem dX10_sign_46 : decode cX10_sign 46 = .ok (.iload_n 3, 1) := by decide +kernel
theorem dX10_sign_47 : decode cX10_sign 47 = .ok (.putfield 121, 3) := by decide +kernel
theorem dX10_sign_50 : decode cX10_sign 50 = .ok (.aload_n 0, 1) := by decide +kernel
theorem dX10_sign_51 : decode cX10_sign 51 = .ok (.iconst 0, 1) := by decide +kernel
theorem dX10_sign_52 : decode cX10_sign 52 = .ok (.iload_n 1, 1) := by decide +kernel
theorem dX10_sign_53 : decode cX10_sign 53 = .ok (.iload_n 2, 1) := by decide +kernel
theorem dX10_sign_54 : decode cX10_sign 54 = .ok (.iload 5, 2) := by decide +kernel
theorem dX10_sign_56 : decode cX10_sign 56 = .ok (.invokevirtual 126, 3) := by decide +kernel
theorem dX10_sign_59 : decode cX10_sign 59 = .ok (.iload 5, 2) := by decide +kernel
theorem dX10_sign_61 : decode cX10_sign 61 = .ok (.ireturn, 1) := by decide +kernel
theorem dX10_swap_0 : decode cX10_swap 0 = .ok (.aload_n 0, 1) := by decide +kernel
theorem dX10_swap_1 : decode cX10_swap 1 = .ok (.getfield 67, 3) := by decide +kernel
theorem dX10_swap_4 : decode cX10_swap 4 = .ok (.iload_n 1, 1) := by decide +kernel
theorem dX10_swap_5 : decode cX10_swap 5 = .ok (.invokevirtual 130, 3) := by decide +kernel
theorem dX10_swap_8 : decode cX10_swap 8 = .ok (.astore_n 3, 1) := by decide +kernel
theorem dX10_swap_9 : decode cX10_swap 9 = .ok (.aload_n 3, 1) := by decide +kernel
theorem dX10_swap_10 : decode cX10_swap 10 = .ok (.ifnull 11, 3) := by decide +kernel
theorem dX10_swap_13 : decode cX10_swap 13 = .ok (.aload_n 3, 1) := by decide +kernel
theorem dX10_swap_14 : decode cX10_swap 14 = .ok (.iload_n 2, 1) := by decide +kernel
theorem dX10_swap_15 : decode cX10_swap 15 = .ok (.invokevirtual 134, 3) := by decide +kernel
theorem dX10_swap_18 : decode cX10_swap 18 = .ok (.ifnonnull 5, 3) := by decide +kernel
theorem dX10_swap_21 : decode cX10_swap 21 = .ok (.iconst (-1), 1) := by decide +kernel
theorem dX10_swap_22 : decode cX10_swap 22 = .ok (.ireturn, 1) := by decide +kernel
theorem dX10_swap_23 : decode cX10_swap 23 = .ok (.aload_n 3, 1) := by decide +kernel
theorem dX10_swap_24 : decode cX10_swap 24 = .ok (.iload_n 2, 1) := by decide +kernel
theorem dX10_swap_25 : decode cX10_swap 25 = .ok (.invokevirtual 139, 3) := by decide +kernel
theorem dX10_swap_28 : decode cX10_swap 28 = .ok (.ifCond .ne 6, 3) := by decide +kernel
theorem dX10_swap_31 : decode cX10_swap 31 = .ok (.bipush (-2), 2) := by decide +kernel
theorem dX10_swap_33 : decode cX10_swap 33 = .ok (.ireturn, 1) := by decide +kernel
theorem dX10_swap_34 : decode cX10_swap 34 = .ok (.aload_n 0, 1) := by decide +kernel
theorem dX10_swap_35 : decode cX10_swap 35 = .ok (.iconst 1, 1) := by decide +kernel
theorem dX10_swap_36 : decode cX10_swap 36 = .ok (.iload_n 1, 1) := by decide +kernel
theorem dX10_swap_37 : decode cX10_swap 37 = .ok (.iload_n 2, 1) := by decide +kernel
theorem dX10_swap_38 : decode cX10_swap 38 = .ok (.iconst 0, 1) := by decide +kernel
theorem dX10_swap_39 : decode cX10_swap 39 = .ok (.invokevirtual 126, 3) := by decide +kernel
theorem dX10_swap_42 : decode cX10_swap 42 = .ok (.aload_n 3, 1) := by decide +kernel
theorem dX10_swap_43 : decode cX10_swap 43 = .ok (.getfield 142, 3) := by decide +kernel
theorem dX10_swap_46 : decode cX10_swap 46 = .ok (.ireturn, 1) := by decide +kernel
theorem dX10_host_0 : decode cX10_host 0 = .ok (.aload_n 0, 1) := by decide +kernel
theorem dX10_host_1 : decode cX10_host 1 = .ok (.getfield 67, 3) := by decide +kernel
theorem dX10_host_4 : decode cX10_host 4 = .ok (.iload_n 1, 1) := by decide +kernel
theorem dX10_host_5 : decode cX10_host 5 = .ok (.invokevirtual 130, 3) := by decide +kernel
theorem dX10_host_8 : decode cX10_host 8 = .ok (.astore 4, 2) := by decide +kernel
theorem dX10_host_10 : decode cX10_host 10 = .ok (.aload 4, 2) := by decide +kernel
theorem dX10_host_12 : decode cX10_host 12 = .ok (.ifnull 19, 3) := by decide +kernel
theorem dX10_host_15 : decode cX10_host 15 = .ok (.iload_n 2, 1) := by decide +kernel
theorem dX10_host_16 : decode cX10_host 16 = .ok (.invokestatic 97, 3) := by decide +kernel
theorem dX10_host_19 : decode cX10_host 19 = .ok (.ifCond .eq 12, 3) := by decide +kernel
theorem dX10_host_22 : decode cX10_host 22 = .ok (.iload_n 3, 1) := by decide +kernel
theorem dX10_host_23 : decode cX10_host 23 = .ok (.ifCond .lt 8, 3) := by decide +kernel
theorem dX10_host_26 : decode cX10_host 26 = .ok (.iload_n 3, 1) := by decide +kernel
theorem dX10_host_27 : decode cX10_host 27 = .ok (.iconst 1, 1) := by decide +kernel
theorem dX10_host_28 : decode cX10_host 28 = .ok (.if_icmp .le 5, 3) := by decide +kernel
theorem dX10_host_31 : decode cX10_host 31 = .ok (.iconst (-1), 1) := by decide +kernel
theorem dX10_host_32 : decode cX10_host 32 = .ok (.ireturn, 1) := by decide +kernel
theorem dX10_host_33 : decode cX10_host 33 = .ok (.aload 4, 2) := by decide +kernel
theorem dX10_host_35 : decode cX10_host 35 = .ok (.iload_n 2, 1) := by decide +kernel
theorem dX10_host_36 : decode cX10_host 36 = .ok (.invokevirtual 145, 3) := by decide +kernel
theorem dX10_host_39 : decode cX10_host 39 = .ok (.istore 5, 2) := by decide +kernel
theorem dX10_host_41 : decode cX10_host 41 = .ok (.iload 5, 2) := by decide +kernel
theorem dX10_host_43 : decode cX10_host 43 = .ok (.iconst (-1), 1) := by decide +kernel
theorem dX10_host_44 : decode cX10_host 44 = .ok (.if_icmp .eq 7, 3) := by decide +kernel
theorem dX10_host_47 : decode cX10_host 47 = .ok (.iconst 1, 1) := by decide +kernel
theorem dX10_host_48 : decode cX10_host 48 = .ok (.goto 4, 3) := by decide +kernel
theorem dX10_host_51 : decode cX10_host 51 = .ok (.iconst 0, 1) := by decide +kernel
theorem dX10_host_52 : decode cX10_host 52 = .ok (.iload_n 3, 1) := by decide +kernel
theorem dX10_host_53 : decode cX10_host 53 = .ok (.iconst 1, 1) := by decide +kernel
theorem dX10_host_54 : decode cX10_host 54 = .ok (.if_icmp .ne 7, 3) := by decide +kernel
theorem dX10_host_57 : decode cX10_host 57 = .ok (.iconst 1, 1) := by decide +kernel
theorem dX10_host_58 : decode cX10_host 58 = .ok (.goto 4, 3) := by decide +kernel
theorem dX10_host_61 : decode cX10_host 61 = .ok (.iconst 0, 1) := by decide +kernel
theorem dX10_host_62 : decode cX10_host 62 = .ok (.if_icmp .ne 6, 3) := by decide +kernel
theorem dX10_host_65 : decode cX10_host 65 = .ok (.bipush (-2), 2) := by decide +kernel
theorem dX10_host_67 : decode cX10_host 67 = .ok (.ireturn, 1) := by decide +kernel
theorem dX10_host_68 : decode cX10_host 68 = .ok (.iload_n 3, 1) := by decide +kernel
theorem dX10_host_69 : decode cX10_host 69 = .ok (.ifCond .ne 25, 3) := by decide +kernel
theorem dX10_host_72 : decode cX10_host 72 = .ok (.aload 4, 2) := by decide +kernel
theorem dX10_host_74 : decode cX10_host 74 = .ok (.iload 5, 2) := by decide +kernel
theorem dX10_host_76 : decode cX10_host 76 = .ok (.invokevirtual 148, 3) := by decide +kernel
theorem dX10_host_79 : decode cX10_host 79 = .ok (.aload_n 0, 1) := by decide +kernel
theorem dX10_host_80 : decode cX10_host 80 = .ok (.iconst 3, 1) := by decide +kernel
theorem dX10_host_81 : decode cX10_host 81 = .ok (.iload_n 1, 1) := by decide +kernel
theorem dX10_host_82 : decode cX10_host 82 = .ok (.iload 5, 2) := by decide +kernel
theorem dX10_host_84 : decode cX10_host 84 = .ok (.iload_n 2, 1) := by decide +kernel
theorem dX10_host_85 : decode cX10_host 85 = .ok (.invokevirtual 126, 3) := by decide +kernel
theorem dX10_host_88 : decode cX10_host 88 = .ok (.aload 4, 2) := by decide +kernel
theorem dX10_host_90 : decode cX10_host 90 = .ok (.getfield 152, 3) := by decide +kernel
theorem dX10_host_93 : decode cX10_host 93 = .ok (.ireturn, 1) := by decide +kernel
theorem dX10_host_94 : decode cX10_host 94 = .ok (.aload 4, 2) := by decide +kernel
theorem dX10_host_96 : decode cX10_host 96 = .ok (.aload 4, 2) := by decide +kernel
theorem dX10_host_98 : decode cX10_host 98 = .ok (.getfield 152, 3) := by decide +kernel
theorem dX10_host_101 : decode cX10_host 101 = .ok (.iload_n 2, 1) := by decide +kernel
theorem dX10_host_102 : decode cX10_host 102 = .ok (.invokevirtual 155, 3) := by decide +kernel
theorem dX10_host_105 : decode cX10_host 105 = .ok (.ifCond .ne 6, 3) := by decide +kernel
theorem dX10_host_108 : decode cX10_host 108 = .ok (.bipush (-3), 2) := by decide +kernel
theorem dX10_host_110 : decode cX10_host 110 = .ok (.ireturn, 1) := by decide +kernel
theorem dX10_host_111 : decode cX10_host 111 = .ok (.aload_n 0, 1) := by decide +kernel
theorem dX10_host_112 : decode cX10_host 112 = .ok (.iconst 2, 1) := by decide +kernel
theorem dX10_host_113 : decode cX10_host 113 = .ok (.iload_n 1, 1) := by decide +kernel
theorem dX10_host_114 : decode cX10_host 114 = .ok (.aload 4, 2) := by decide +kernel
theorem dX10_host_116 : decode cX10_host 116 = .ok (.getfield 152, 3) := by decide +kernel
theorem dX10_host_119 : decode cX10_host 119 = .ok (.iconst 1, 1) := by decide +kernel
theorem dX10_host_120 : decode cX10_host 120 = .ok (.isub, 1) := by decide +kernel
theorem dX10_host_121 : decode cX10_host 121 = .ok (.iload_n 2, 1) := by decide +kernel
theorem dX10_host_122 : decode cX10_host 122 = .ok (.invokevirtual 126, 3) := by decide +kernel
theorem dX10_host_125 : decode cX10_host 125 = .ok (.aload 4, 2) := by decide +kernel
theorem dX10_host_127 : decode cX10_host 127 = .ok (.getfield 152, 3) := by decide +kernel
theorem dX10_host_130 : decode cX10_host 130 = .ok (.ireturn, 1) := by decide +kernel
theorem dX10_undo_0 : decode cX10_undo 0 = .ok (.aload_n 0, 1) := by decide +kernel
theorem dX10_undo_1 : decode cX10_undo 1 = .ok (.getfield 40, 3) := by decide +kernel
theorem dX10_undo_4 : decode cX10_undo 4 = .ok (.invokevirtual 159, 3) := by decide +kernel
theorem dX10_undo_7 : decode cX10_undo 7 = .ok (.astore_n 1, 1) := by decide +kernel
theorem dX10_undo_8 : decode cX10_undo 8 = .ok (.aload_n 1, 1) := by decide +kernel
theorem dX10_undo_9 : decode cX10_undo 9 = .ok (.ifnonnull 6, 3) := by decide +kernel
theorem dX10_undo_12 : decode cX10_undo 12 = .ok (.bipush (-2), 2) := by decide +kernel
theorem dX10_undo_14 : decode cX10_undo 14 = .ok (.ireturn, 1) := by decide +kernel
theorem dX10_undo_15 : decode cX10_undo 15 = .ok (.aload_n 0, 1) := by decide +kernel
theorem dX10_undo_16 : decode cX10_undo 16 = .ok (.aload_n 1, 1) := by decide +kernel
theorem dX10_undo_17 : decode cX10_undo 17 = .ok (.invokevirtual 163, 3) := by decide +kernel
theorem dX10_undo_20 : decode cX10_undo 20 = .ok (.aload_n 0, 1) := by decide +kernel
theorem dX10_undo_21 : decode cX10_undo 21 = .ok (.getfield 33, 3) := by decide +kernel
theorem dX10_undo_24 : decode cX10_undo 24 = .ok (.invokevirtual 76, 3) := by decide +kernel
theorem dX10_undo_27 : decode cX10_undo 27 = .ok (.aload_n 0, 1) := by decide +kernel
theorem dX10_undo_28 : decode cX10_undo 28 = .ok (.getfield 40, 3) := by decide +kernel
theorem dX10_undo_31 : decode cX10_undo 31 = .ok (.getfield 167, 3) := by decide +kernel
theorem dX10_undo_34 : decode cX10_undo 34 = .ok (.ireturn, 1) := by decide +kernel
theorem dX10_name_0 : decode cX10_name 0 = .ok (.aload_n 0, 1) := by decide +kernel
theorem dX10_name_1 : decode cX10_name 1 = .ok (.getfield 67, 3) := by decide +kernel
theorem dX10_name_4 : decode cX10_name 4 = .ok (.iload_n 1, 1) := by decide +kernel
theorem dX10_name_5 : decode cX10_name 5 = .ok (.invokevirtual 130, 3) := by decide +kernel
theorem dX10_name_8 : decode cX10_name 8 = .ok (.astore_n 3, 1) := by decide +kernel
theorem dX10_name_9 : decode cX10_name 9 = .ok (.aload_n 3, 1) := by decide +kernel
theorem dX10_name_10 : decode cX10_name 10 = .ok (.ifnonnull 5, 3) := by decide +kernel
theorem dX10_name_13 : decode cX10_name 13 = .ok (.iconst (-1), 1) := by decide +kernel
theorem dX10_name_14 : decode cX10_name 14 = .ok (.ireturn, 1) := by decide +kernel
theorem dX10_name_15 : decode cX10_name 15 = .ok (.iload_n 2, 1) := by decide +kernel
theorem dX10_name_16 : decode cX10_name 16 = .ok (.tableswitch 82 0 5 #[40, 45, 50, 55, 60, 69], 40) := by decide +kernel
theorem dX10_name_56 : decode cX10_name 56 = .ok (.aload_n 3, 1) := by decide +kernel
theorem dX10_name_57 : decode cX10_name 57 = .ok (.getfield 168, 3) := by decide +kernel
theorem dX10_name_60 : decode cX10_name 60 = .ok (.ireturn, 1) := by decide +kernel
theorem dX10_name_61 : decode cX10_name 61 = .ok (.aload_n 3, 1) := by decide +kernel
theorem dX10_name_62 : decode cX10_name 62 = .ok (.getfield 142, 3) := by decide +kernel
theorem dX10_name_65 : decode cX10_name 65 = .ok (.ireturn, 1) := by decide +kernel
theorem dX10_name_66 : decode cX10_name 66 = .ok (.aload_n 3, 1) := by decide +kernel
theorem dX10_name_67 : decode cX10_name 67 = .ok (.getfield 152, 3) := by decide +kernel
theorem dX10_name_70 : decode cX10_name 70 = .ok (.ireturn, 1) := by decide +kernel
theorem dX10_name_71 : decode cX10_name 71 = .ok (.aload_n 3, 1) := by decide +kernel
theorem dX10_name_72 : decode cX10_name 72 = .ok (.getfield 169, 3) := by decide +kernel
theorem dX10_name_75 : decode cX10_name 75 = .ok (.ireturn, 1) := by decide +kernel
theorem dX10_name_76 : decode cX10_name 76 = .ok (.aload_n 0, 1) := by decide +kernel
theorem dX10_name_77 : decode cX10_name 77 = .ok (.aload_n 3, 1) := by decide +kernel
theorem dX10_name_78 : decode cX10_name 78 = .ok (.getfield 172, 3) := by decide +kernel
theorem dX10_name_81 : decode cX10_name 81 = .ok (.invokevirtual 175, 3) := by decide +kernel
theorem dX10_name_84 : decode cX10_name 84 = .ok (.ireturn, 1) := by decide +kernel
theorem dX10_name_85 : decode cX10_name 85 = .ok (.aload_n 3, 1) := by decide +kernel
theorem dX10_name_86 : decode cX10_name 86 = .ok (.getfield 178, 3) := by decide +kernel
theorem dX10_name_89 : decode cX10_name 89 = .ok (.ifCond .eq 7, 3) := by decide +kernel
theorem dX10_name_92 : decode cX10_name 92 = .ok (.iconst 1, 1) := by decide +kernel
theorem dX10_name_93 : decode cX10_name 93 = .ok (.goto 4, 3) := by decide +kernel
theorem dX10_name_96 : decode cX10_name 96 = .ok (.iconst 0, 1) := by decide +kernel
theorem dX10_name_97 : decode cX10_name 97 = .ok (.ireturn, 1) := by decide +kernel
theorem dX10_name_98 : decode cX10_name 98 = .ok (.iconst (-1), 1) := by decide +kernel
theorem dX10_name_99 : decode cX10_name 99 = .ok (.ireturn, 1) := by decide +kernel
theorem dX10_letter_0 : decode cX10_letter 0 = .ok (.aload_n 0, 1) := by decide +kernel
theorem dX10_letter_1 : decode cX10_letter 1 = .ok (.getfield 67, 3) := by decide +kernel
theorem dX10_letter_4 : decode cX10_letter 4 = .ok (.iload_n 1, 1) := by decide +kernel
theorem dX10_letter_5 : decode cX10_letter 5 = .ok (.invokevirtual 130, 3) := by decide +kernel
theorem dX10_letter_8 : decode cX10_letter 8 = .ok (.astore_n 3, 1) := by decide +kernel
theorem dX10_letter_9 : decode cX10_letter 9 = .ok (.aload_n 3, 1) := by decide +kernel
theorem dX10_letter_10 : decode cX10_letter 10 = .ok (.ifnull 7, 3) := by decide +kernel
theorem dX10_letter_13 : decode cX10_letter 13 = .ok (.iload_n 2, 1) := by decide +kernel
theorem dX10_letter_14 : decode cX10_letter 14 = .ok (.ifCond .ge 5, 3) := by decide +kernel
theorem dX10_letter_17 : decode cX10_letter 17 = .ok (.iconst (-1), 1) := by decide +kernel
theorem dX10_letter_18 : decode cX10_letter 18 = .ok (.ireturn, 1) := by decide +kernel
theorem dX10_letter_19 : decode cX10_letter 19 = .ok (.iload_n 2, 1) := by decide +kernel
theorem dX10_letter_20 : decode cX10_letter 20 = .ok (.aload_n 3, 1) := by decide +kernel
theorem dX10_letter_21 : decode cX10_letter 21 = .ok (.getfield 168, 3) := by decide +kernel
theorem dX10_letter_24 : decode cX10_letter 24 = .ok (.if_icmp .ge 19, 3) := by decide +kernel
theorem dX10_letter_27 : decode cX10_letter 27 = .ok (.aload_n 3, 1) := by decide +kernel
theorem dX10_letter_28 : decode cX10_letter 28 = .ok (.getfield 182, 3) := by decide +kernel
theorem dX10_letter_31 : decode cX10_letter 31 = .ok (.aload_n 3, 1) := by decide +kernel
theorem dX10_letter_32 : decode cX10_letter 32 = .ok (.getfield 168, 3) := by decide +kernel
theorem dX10_letter_35 : decode cX10_letter 35 = .ok (.iconst 1, 1) := by decide +kernel
theorem dX10_letter_36 : decode cX10_letter 36 = .ok (.isub, 1) := by decide +kernel
theorem dX10_letter_37 : decode cX10_letter 37 = .ok (.iload_n 2, 1) := by decide +kernel
theorem dX10_letter_38 : decode cX10_letter 38 = .ok (.isub, 1) := by decide +kernel
theorem dX10_letter_39 : decode cX10_letter 39 = .ok (.iaload, 1) := by decide +kernel
theorem dX10_letter_40 : decode cX10_letter 40 = .ok (.goto 5, 3) := by decide +kernel
theorem dX10_letter_43 : decode cX10_letter 43 = .ok (.bipush (-4), 2) := by decide +kernel
theorem dX10_letter_45 : decode cX10_letter 45 = .ok (.ireturn, 1) := by decide +kernel
theorem dX10_rule_0 : decode cX10_rule 0 = .ok (.aload_n 0, 1) := by decide +kernel
theorem dX10_rule_1 : decode cX10_rule 1 = .ok (.iload_n 1, 1) := by decide +kernel
theorem dX10_rule_2 : decode cX10_rule 2 = .ok (.iload_n 2, 1) := by decide +kernel
theorem dX10_rule_3 : decode cX10_rule 3 = .ok (.invokevirtual 115, 3) := by decide +kernel
theorem dX10_rule_6 : decode cX10_rule 6 = .ok (.astore 4, 2) := by decide +kernel
theorem dX10_rule_8 : decode cX10_rule 8 = .ok (.aload 4, 2) := by decide +kernel
theorem dX10_rule_10 : decode cX10_rule 10 = .ok (.ifnonnull 5, 3) := by decide +kernel
theorem dX10_rule_13 : decode cX10_rule 13 = .ok (.iconst (-1), 1) := by decide +kernel
theorem dX10_rule_14 : decode cX10_rule 14 = .ok (.ireturn, 1) := by decide +kernel
theorem dX10_rule_15 : decode cX10_rule 15 = .ok (.iload_n 3, 1) := by decide +kernel
theorem dX10_rule_16 : decode cX10_rule 16 = .ok (.tableswitch 98 0 4 #[36, 42, 48, 68, 88], 36) := by decide +kernel
theorem dX10_rule_52 : decode cX10_rule 52 = .ok (.aload 4, 2) := by decide +kernel
theorem dX10_rule_54 : decode cX10_rule 54 = .ok (.getfield 121, 3) := by decide +kernel
theorem dX10_rule_57 : decode cX10_rule 57 = .ok (.ireturn, 1) := by decide +kernel
theorem dX10_rule_58 : decode cX10_rule 58 = .ok (.aload 4, 2) := by decide +kernel
theorem dX10_rule_60 : decode cX10_rule 60 = .ok (.getfield 186, 3) := by decide +kernel
theorem dX10_rule_63 : decode cX10_rule 63 = .ok (.ireturn, 1) := by decide +kernel
theorem dX10_rule_64 : decode cX10_rule 64 = .ok (.aload 4, 2) := by decide +kernel
theorem dX10_rule_66 : decode cX10_rule 66 = .ok (.getfield 186, 3) := by decide +kernel
theorem dX10_rule_69 : decode cX10_rule 69 = .ok (.iconst 1, 1) := by decide +kernel
theorem dX10_rule_70 : decode cX10_rule 70 = .ok (.if_icmp .ne 11, 3) := by decide +kernel
theorem dX10_rule_73 : decode cX10_rule 73 = .ok (.aload 4, 2) := by decide +kernel
theorem dX10_rule_75 : decode cX10_rule 75 = .ok (.getfield 189, 3) := by decide +kernel
theorem dX10_rule_78 : decode cX10_rule 78 = .ok (.goto 5, 3) := by decide +kernel
theorem dX10_rule_81 : decode cX10_rule 81 = .ok (.bipush (-4), 2) := by decide +kernel
theorem dX10_rule_83 : decode cX10_rule 83 = .ok (.ireturn, 1) := by decide +kernel
theorem dX10_rule_84 : decode cX10_rule 84 = .ok (.aload 4, 2) := by decide +kernel
theorem dX10_rule_86 : decode cX10_rule 86 = .ok (.getfield 186, 3) := by decide +kernel
theorem dX10_rule_89 : decode cX10_rule 89 = .ok (.iconst 1, 1) := by decide +kernel
theorem dX10_rule_90 : decode cX10_rule 90 = .ok (.if_icmp .ne 11, 3) := by decide +kernel
theorem dX10_rule_93 : decode cX10_rule 93 = .ok (.aload 4, 2) := by decide +kernel
theorem dX10_rule_95 : decode cX10_rule 95 = .ok (.getfield 192, 3) := by decide +kernel
theorem dX10_rule_98 : decode cX10_rule 98 = .ok (.goto 5, 3) := by decide +kernel
theorem dX10_rule_101 : decode cX10_rule 101 = .ok (.bipush (-4), 2) := by decide +kernel
theorem dX10_rule_103 : decode cX10_rule 103 = .ok (.ireturn, 1) := by decide +kernel
theorem dX10_rule_104 : decode cX10_rule 104 = .ok (.aload_n 0, 1) := by decide +kernel
theorem dX10_rule_105 : decode cX10_rule 105 = .ok (.aload 4, 2) := by decide +kernel
theorem dX10_rule_107 : decode cX10_rule 107 = .ok (.getfield 195, 3) := by decide +kernel
theorem dX10_rule_110 : decode cX10_rule 110 = .ok (.invokevirtual 175, 3) := by decide +kernel
theorem dX10_rule_113 : decode cX10_rule 113 = .ok (.ireturn, 1) := by decide +kernel
theorem dX10_rule_114 : decode cX10_rule 114 = .ok (.iconst (-1), 1) := by decide +kernel
theorem dX10_rule_115 : decode cX10_rule 115 = .ok (.ireturn, 1) := by decide +kernel
theorem dX10_hostOf_0 : decode cX10_hostOf 0 = .ok (.aload_n 0, 1) := by decide +kernel
theorem dX10_hostOf_1 : decode cX10_hostOf 1 = .ok (.getfield 67, 3) := by decide +kernel
theorem dX10_hostOf_4 : decode cX10_hostOf 4 = .ok (.iload_n 1, 1) := by decide +kernel
theorem dX10_hostOf_5 : decode cX10_hostOf 5 = .ok (.invokevirtual 130, 3) := by decide +kernel
theorem dX10_hostOf_8 : decode cX10_hostOf 8 = .ok (.astore_n 3, 1) := by decide +kernel
theorem dX10_hostOf_9 : decode cX10_hostOf 9 = .ok (.aload_n 3, 1) := by decide +kernel
theorem dX10_hostOf_10 : decode cX10_hostOf 10 = .ok (.ifnull 7, 3) := by decide +kernel
theorem dX10_hostOf_13 : decode cX10_hostOf 13 = .ok (.iload_n 2, 1) := by decide +kernel
theorem dX10_hostOf_14 : decode cX10_hostOf 14 = .ok (.ifCond .ge 5, 3) := by decide +kernel
theorem dX10_hostOf_17 : decode cX10_hostOf 17 = .ok (.iconst (-1), 1) := by decide +kernel
theorem dX10_hostOf_18 : decode cX10_hostOf 18 = .ok (.ireturn, 1) := by decide +kernel
theorem dX10_hostOf_19 : decode cX10_hostOf 19 = .ok (.iload_n 2, 1) := by decide +kernel
theorem dX10_hostOf_20 : decode cX10_hostOf 20 = .ok (.aload_n 3, 1) := by decide +kernel
theorem dX10_hostOf_21 : decode cX10_hostOf 21 = .ok (.getfield 152, 3) := by decide +kernel
theorem dX10_hostOf_24 : decode cX10_hostOf 24 = .ok (.if_icmp .ge 12, 3) := by decide +kernel
theorem dX10_hostOf_27 : decode cX10_hostOf 27 = .ok (.aload_n 3, 1) := by decide +kernel
theorem dX10_hostOf_28 : decode cX10_hostOf 28 = .ok (.getfield 198, 3) := by decide +kernel
theorem dX10_hostOf_31 : decode cX10_hostOf 31 = .ok (.iload_n 2, 1) := by decide +kernel
theorem dX10_hostOf_32 : decode cX10_hostOf 32 = .ok (.iaload, 1) := by decide +kernel
theorem dX10_hostOf_33 : decode cX10_hostOf 33 = .ok (.goto 5, 3) := by decide +kernel
theorem dX10_hostOf_36 : decode cX10_hostOf 36 = .ok (.bipush (-4), 2) := by decide +kernel
theorem dX10_hostOf_38 : decode cX10_hostOf 38 = .ok (.ireturn, 1) := by decide +kernel
theorem dX10_many_0 : decode cX10_many 0 = .ok (.aload_n 0, 1) := by decide +kernel
theorem dX10_many_1 : decode cX10_many 1 = .ok (.iload_n 1, 1) := by decide +kernel
theorem dX10_many_2 : decode cX10_many 2 = .ok (.invokevirtual 93, 3) := by decide +kernel
theorem dX10_many_5 : decode cX10_many 5 = .ok (.ifCond .eq 19, 3) := by decide +kernel
theorem dX10_many_8 : decode cX10_many 8 = .ok (.iload_n 2, 1) := by decide +kernel
theorem dX10_many_9 : decode cX10_many 9 = .ok (.invokestatic 100, 3) := by decide +kernel
theorem dX10_many_12 : decode cX10_many 12 = .ok (.ifCond .eq 12, 3) := by decide +kernel
theorem dX10_many_15 : decode cX10_many 15 = .ok (.iload_n 3, 1) := by decide +kernel
theorem dX10_many_16 : decode cX10_many 16 = .ok (.ifCond .lt 8, 3) := by decide +kernel
theorem dX10_many_19 : decode cX10_many 19 = .ok (.iload_n 3, 1) := by decide +kernel
theorem dX10_many_20 : decode cX10_many 20 = .ok (.iconst 5, 1) := by decide +kernel
theorem dX10_many_21 : decode cX10_many 21 = .ok (.if_icmp .le 5, 3) := by decide +kernel
theorem dX10_many_24 : decode cX10_many 24 = .ok (.iconst (-1), 1) := by decide +kernel
theorem dX10_many_25 : decode cX10_many 25 = .ok (.ireturn, 1) := by decide +kernel
theorem dX10_many_26 : decode cX10_many 26 = .ok (.iconst 0, 1) := by decide +kernel
theorem dX10_many_27 : decode cX10_many 27 = .ok (.istore 4, 2) := by decide +kernel
theorem dX10_many_29 : decode cX10_many 29 = .ok (.iconst 0, 1) := by decide +kernel
theorem dX10_many_30 : decode cX10_many 30 = .ok (.istore 5, 2) := by decide +kernel
theorem dX10_many_32 : decode cX10_many 32 = .ok (.iload 5, 2) := by decide +kernel
theorem dX10_many_34 : decode cX10_many 34 = .ok (.sipush 256, 3) := by decide +kernel
theorem dX10_many_37 : decode cX10_many 37 = .ok (.if_icmp .ge 31, 3) := by decide +kernel
theorem dX10_many_40 : decode cX10_many 40 = .ok (.aload_n 0, 1) := by decide +kernel
theorem dX10_many_41 : decode cX10_many 41 = .ok (.getfield 26, 3) := by decide +kernel
theorem dX10_many_44 : decode cX10_many 44 = .ok (.aload_n 0, 1) := by decide +kernel
theorem dX10_many_45 : decode cX10_many 45 = .ok (.getfield 67, 3) := by decide +kernel
theorem dX10_many_48 : decode cX10_many 48 = .ok (.iload_n 1, 1) := by decide +kernel
theorem dX10_many_49 : decode cX10_many 49 = .ok (.iload 5, 2) := by decide +kernel
theorem dX10_many_51 : decode cX10_many 51 = .ok (.iload_n 2, 1) := by decide +kernel
theorem dX10_many_52 : decode cX10_many 52 = .ok (.invokevirtual 103, 3) := by decide +kernel
theorem dX10_many_55 : decode cX10_many 55 = .ok (.iload_n 3, 1) := by decide +kernel
theorem dX10_many_56 : decode cX10_many 56 = .ok (.if_icmp .ne 6, 3) := by decide +kernel
theorem dX10_many_59 : decode cX10_many 59 = .ok (.iinc 4 1, 3) := by decide +kernel
theorem dX10_many_62 : decode cX10_many 62 = .ok (.iinc 5 1, 3) := by decide +kernel
theorem dX10_many_65 : decode cX10_many 65 = .ok (.goto (-33), 3) := by decide +kernel
theorem dX10_many_68 : decode cX10_many 68 = .ok (.iload 4, 2) := by decide +kernel
theorem dX10_many_70 : decode cX10_many 70 = .ok (.ireturn, 1) := by decide +kernel
theorem dX10_dead_0 : decode cX10_dead 0 = .ok (.aload_n 0, 1) := by decide +kernel
theorem dX10_dead_1 : decode cX10_dead 1 = .ok (.getfield 67, 3) := by decide +kernel
theorem dX10_dead_4 : decode cX10_dead 4 = .ok (.iload_n 1, 1) := by decide +kernel
theorem dX10_dead_5 : decode cX10_dead 5 = .ok (.invokevirtual 130, 3) := by decide +kernel
theorem dX10_dead_8 : decode cX10_dead 8 = .ok (.astore_n 3, 1) := by decide +kernel
theorem dX10_dead_9 : decode cX10_dead 9 = .ok (.aload_n 3, 1) := by decide +kernel
theorem dX10_dead_10 : decode cX10_dead 10 = .ok (.ifnull 10, 3) := by decide +kernel
theorem dX10_dead_13 : decode cX10_dead 13 = .ok (.iload_n 2, 1) := by decide +kernel
theorem dX10_dead_14 : decode cX10_dead 14 = .ok (.invokestatic 100, 3) := by decide +kernel
theorem dX10_dead_17 : decode cX10_dead 17 = .ok (.ifCond .ne 5, 3) := by decide +kernel
theorem dX10_dead_20 : decode cX10_dead 20 = .ok (.iconst (-1), 1) := by decide +kernel
theorem dX10_dead_21 : decode cX10_dead 21 = .ok (.ireturn, 1) := by decide +kernel
theorem dX10_dead_22 : decode cX10_dead 22 = .ok (.iconst 0, 1) := by decide +kernel
theorem dX10_dead_23 : decode cX10_dead 23 = .ok (.istore 4, 2) := by decide +kernel
theorem dX10_dead_25 : decode cX10_dead 25 = .ok (.iconst 0, 1) := by decide +kernel
theorem dX10_dead_26 : decode cX10_dead 26 = .ok (.istore 5, 2) := by decide +kernel
theorem dX10_dead_28 : decode cX10_dead 28 = .ok (.iload 5, 2) := by decide +kernel
theorem dX10_dead_30 : decode cX10_dead 30 = .ok (.sipush 256, 3) := by decide +kernel
theorem dX10_dead_33 : decode cX10_dead 33 = .ok (.if_icmp .ge 50, 3) := by decide +kernel
theorem dX10_dead_36 : decode cX10_dead 36 = .ok (.aload_n 0, 1) := by decide +kernel
theorem dX10_dead_37 : decode cX10_dead 37 = .ok (.getfield 26, 3) := by decide +kernel
theorem dX10_dead_40 : decode cX10_dead 40 = .ok (.aload_n 0, 1) := by decide +kernel
theorem dX10_dead_41 : decode cX10_dead 41 = .ok (.getfield 67, 3) := by decide +kernel
theorem dX10_dead_44 : decode cX10_dead 44 = .ok (.iload_n 1, 1) := by decide +kernel
theorem dX10_dead_45 : decode cX10_dead 45 = .ok (.iload 5, 2) := by decide +kernel
theorem dX10_dead_47 : decode cX10_dead 47 = .ok (.iload_n 2, 1) := by decide +kernel
theorem dX10_dead_48 : decode cX10_dead 48 = .ok (.invokevirtual 103, 3) := by decide +kernel
theorem dX10_dead_51 : decode cX10_dead 51 = .ok (.pop, 1) := by decide +kernel
theorem dX10_dead_52 : decode cX10_dead 52 = .ok (.aload_n 0, 1) := by decide +kernel
theorem dX10_dead_53 : decode cX10_dead 53 = .ok (.getfield 26, 3) := by decide +kernel
theorem dX10_dead_56 : decode cX10_dead 56 = .ok (.getfield 201, 3) := by decide +kernel
theorem dX10_dead_59 : decode cX10_dead 59 = .ok (.iload_n 1, 1) := by decide +kernel
theorem dX10_dead_60 : decode cX10_dead 60 = .ok (.if_icmp .ne 17, 3) := by decide +kernel
theorem dX10_dead_63 : decode cX10_dead 63 = .ok (.iload 4, 2) := by decide +kernel
theorem dX10_dead_65 : decode cX10_dead 65 = .ok (.iconst 1, 1) := by decide +kernel
theorem dX10_dead_66 : decode cX10_dead 66 = .ok (.aload_n 0, 1) := by decide +kernel
theorem dX10_dead_67 : decode cX10_dead 67 = .ok (.getfield 26, 3) := by decide +kernel
theorem dX10_dead_70 : decode cX10_dead 70 = .ok (.getfield 204, 3) := by decide +kernel
theorem dX10_dead_73 : decode cX10_dead 73 = .ok (.ishl, 1) := by decide +kernel
theorem dX10_dead_74 : decode cX10_dead 74 = .ok (.ior, 1) := by decide +kernel
theorem dX10_dead_75 : decode cX10_dead 75 = .ok (.istore 4, 2) := by decide +kernel
theorem dX10_dead_77 : decode cX10_dead 77 = .ok (.iinc 5 1, 3) := by decide +kernel
theorem dX10_dead_80 : decode cX10_dead 80 = .ok (.goto (-52), 3) := by decide +kernel
theorem dX10_dead_83 : decode cX10_dead 83 = .ok (.iconst 1, 1) := by decide +kernel
theorem dX10_dead_84 : decode cX10_dead 84 = .ok (.aload_n 3, 1) := by decide +kernel
theorem dX10_dead_85 : decode cX10_dead 85 = .ok (.getfield 142, 3) := by decide +kernel
theorem dX10_dead_88 : decode cX10_dead 88 = .ok (.ishl, 1) := by decide +kernel
theorem dX10_dead_89 : decode cX10_dead 89 = .ok (.iconst 1, 1) := by decide +kernel
theorem dX10_dead_90 : decode cX10_dead 90 = .ok (.isub, 1) := by decide +kernel
theorem dX10_dead_91 : decode cX10_dead 91 = .ok (.istore 5, 2) := by decide +kernel
theorem dX10_dead_93 : decode cX10_dead 93 = .ok (.iload 5, 2) := by decide +kernel
theorem dX10_dead_95 : decode cX10_dead 95 = .ok (.iload 4, 2) := by decide +kernel
theorem dX10_dead_97 : decode cX10_dead 97 = .ok (.iconst (-1), 1) := by decide +kernel
theorem dX10_dead_98 : decode cX10_dead 98 = .ok (.ixor, 1) := by decide +kernel
theorem dX10_dead_99 : decode cX10_dead 99 = .ok (.iand, 1) := by decide +kernel
theorem dX10_dead_100 : decode cX10_dead 100 = .ok (.ireturn, 1) := by decide +kernel
theorem dX10_lookups_0 : decode cX10_lookups 0 = .ok (.aload_n 0, 1) := by decide +kernel
theorem dX10_lookups_1 : decode cX10_lookups 1 = .ok (.iload_n 1, 1) := by decide +kernel
theorem dX10_lookups_2 : decode cX10_lookups 2 = .ok (.invokevirtual 93, 3) := by decide +kernel
theorem dX10_lookups_5 : decode cX10_lookups 5 = .ok (.ifCond .eq 30, 3) := by decide +kernel
theorem dX10_lookups_8 : decode cX10_lookups 8 = .ok (.iload_n 2, 1) := by decide +kernel
theorem dX10_lookups_9 : decode cX10_lookups 9 = .ok (.invokestatic 100, 3) := by decide +kernel
theorem dX10_lookups_12 : decode cX10_lookups 12 = .ok (.ifCond .eq 23, 3) := by decide +kernel
theorem dX10_lookups_15 : decode cX10_lookups 15 = .ok (.iload 4, 2) := by decide +kernel
theorem dX10_lookups_17 : decode cX10_lookups 17 = .ok (.ifCond .lt 18, 3) := by decide +kernel
theorem dX10_lookups_20 : decode cX10_lookups 20 = .ok (.iload 4, 2) := by decide +kernel
theorem dX10_lookups_22 : decode cX10_lookups 22 = .ok (.iconst 1, 1) := by decide +kernel
theorem dX10_lookups_23 : decode cX10_lookups 23 = .ok (.if_icmp .gt 12, 3) := by decide +kernel
theorem dX10_lookups_26 : decode cX10_lookups 26 = .ok (.iload 4, 2) := by decide +kernel
theorem dX10_lookups_28 : decode cX10_lookups 28 = .ok (.ifCond .ne 9, 3) := by decide +kernel
theorem dX10_lookups_31 : decode cX10_lookups 31 = .ok (.iload_n 3, 1) := by decide +kernel
theorem dX10_lookups_32 : decode cX10_lookups 32 = .ok (.ifCond .ge 5, 3) := by decide +kernel
theorem dX10_lookups_35 : decode cX10_lookups 35 = .ok (.iconst (-1), 1) := by decide +kernel
theorem dX10_lookups_36 : decode cX10_lookups 36 = .ok (.ireturn, 1) := by decide +kernel
theorem dX10_lookups_37 : decode cX10_lookups 37 = .ok (.iconst 0, 1) := by decide +kernel
theorem dX10_lookups_38 : decode cX10_lookups 38 = .ok (.istore 5, 2) := by decide +kernel
theorem dX10_lookups_40 : decode cX10_lookups 40 = .ok (.iconst 0, 1) := by decide +kernel
theorem dX10_lookups_41 : decode cX10_lookups 41 = .ok (.istore 6, 2) := by decide +kernel
theorem dX10_lookups_43 : decode cX10_lookups 43 = .ok (.iload 6, 2) := by decide +kernel
theorem dX10_lookups_45 : decode cX10_lookups 45 = .ok (.sipush 256, 3) := by decide +kernel
theorem dX10_lookups_48 : decode cX10_lookups 48 = .ok (.if_icmp .ge 37, 3) := by decide +kernel
theorem dX10_lookups_51 : decode cX10_lookups 51 = .ok (.aload_n 0, 1) := by decide +kernel
theorem dX10_lookups_52 : decode cX10_lookups 52 = .ok (.getfield 26, 3) := by decide +kernel
theorem dX10_lookups_55 : decode cX10_lookups 55 = .ok (.aload_n 0, 1) := by decide +kernel
theorem dX10_lookups_56 : decode cX10_lookups 56 = .ok (.getfield 67, 3) := by decide +kernel
theorem dX10_lookups_59 : decode cX10_lookups 59 = .ok (.iload_n 1, 1) := by decide +kernel
theorem dX10_lookups_60 : decode cX10_lookups 60 = .ok (.iload 6, 2) := by decide +kernel
theorem dX10_lookups_62 : decode cX10_lookups 62 = .ok (.iload_n 2, 1) := by decide +kernel
theorem dX10_lookups_63 : decode cX10_lookups 63 = .ok (.invokevirtual 103, 3) := by decide +kernel
theorem dX10_lookups_66 : decode cX10_lookups 66 = .ok (.pop, 1) := by decide +kernel
theorem dX10_lookups_67 : decode cX10_lookups 67 = .ok (.iload 5, 2) := by decide +kernel
theorem dX10_lookups_69 : decode cX10_lookups 69 = .ok (.aload_n 0, 1) := by decide +kernel
theorem dX10_lookups_70 : decode cX10_lookups 70 = .ok (.getfield 26, 3) := by decide +kernel
theorem dX10_lookups_73 : decode cX10_lookups 73 = .ok (.getfield 207, 3) := by decide +kernel
theorem dX10_lookups_76 : decode cX10_lookups 76 = .ok (.iadd, 1) := by decide +kernel
theorem dX10_lookups_77 : decode cX10_lookups 77 = .ok (.istore 5, 2) := by decide +kernel
theorem dX10_lookups_79 : decode cX10_lookups 79 = .ok (.iinc 6 1, 3) := by decide +kernel
theorem dX10_lookups_82 : decode cX10_lookups 82 = .ok (.goto (-39), 3) := by decide +kernel
theorem dX10_lookups_85 : decode cX10_lookups 85 = .ok (.iload 4, 2) := by decide +kernel
theorem dX10_lookups_87 : decode cX10_lookups 87 = .ok (.iconst 1, 1) := by decide +kernel
theorem dX10_lookups_88 : decode cX10_lookups 88 = .ok (.if_icmp .ne 9, 3) := by decide +kernel
theorem dX10_lookups_91 : decode cX10_lookups 91 = .ok (.iload 5, 2) := by decide +kernel
theorem dX10_lookups_93 : decode cX10_lookups 93 = .ok (.invokestatic 210, 3) := by decide +kernel
theorem dX10_lookups_96 : decode cX10_lookups 96 = .ok (.ireturn, 1) := by decide +kernel
theorem dX10_lookups_97 : decode cX10_lookups 97 = .ok (.iload_n 3, 1) := by decide +kernel
theorem dX10_lookups_98 : decode cX10_lookups 98 = .ok (.i2l, 1) := by decide +kernel
theorem dX10_lookups_99 : decode cX10_lookups 99 = .ok (.iload 5, 2) := by decide +kernel
theorem dX10_lookups_101 : decode cX10_lookups 101 = .ok (.i2l, 1) := by decide +kernel
theorem dX10_lookups_102 : decode cX10_lookups 102 = .ok (.lmul, 1) := by decide +kernel
theorem dX10_lookups_103 : decode cX10_lookups 103 = .ok (.lstore 6, 2) := by decide +kernel
theorem dX10_lookups_105 : decode cX10_lookups 105 = .ok (.lload 6, 2) := by decide +kernel
theorem dX10_lookups_107 : decode cX10_lookups 107 = .ok (.ldc2_w 213, 3) := by decide +kernel
theorem dX10_lookups_110 : decode cX10_lookups 110 = .ok (.lcmp, 1) := by decide +kernel
theorem dX10_lookups_111 : decode cX10_lookups 111 = .ok (.ifCond .le 8, 3) := by decide +kernel
theorem dX10_lookups_114 : decode cX10_lookups 114 = .ok (.bipush (-3), 2) := by decide +kernel
theorem dX10_lookups_116 : decode cX10_lookups 116 = .ok (.goto 6, 3) := by decide +kernel
theorem dX10_lookups_119 : decode cX10_lookups 119 = .ok (.lload 6, 2) := by decide +kernel
theorem dX10_lookups_121 : decode cX10_lookups 121 = .ok (.l2i, 1) := by decide +kernel
theorem dX10_lookups_122 : decode cX10_lookups 122 = .ok (.ireturn, 1) := by decide +kernel
theorem dX10_leads_0 : decode cX10_leads 0 = .ok (.aload_n 0, 1) := by decide +kernel
theorem dX10_leads_1 : decode cX10_leads 1 = .ok (.iload_n 1, 1) := by decide +kernel
theorem dX10_leads_2 : decode cX10_leads 2 = .ok (.invokevirtual 93, 3) := by decide +kernel
theorem dX10_leads_5 : decode cX10_leads 5 = .ok (.ifCond .ne 5, 3) := by decide +kernel
theorem dX10_leads_8 : decode cX10_leads 8 = .ok (.iconst (-1), 1) := by decide +kernel
theorem dX10_leads_9 : decode cX10_leads 9 = .ok (.ireturn, 1) := by decide +kernel
theorem dX10_leads_10 : decode cX10_leads 10 = .ok (.aload_n 0, 1) := by decide +kernel
theorem dX10_leads_11 : decode cX10_leads 11 = .ok (.getfield 67, 3) := by decide +kernel
theorem dX10_leads_14 : decode cX10_leads 14 = .ok (.iload_n 1, 1) := by decide +kernel
theorem dX10_leads_15 : decode cX10_leads 15 = .ok (.invokevirtual 215, 3) := by decide +kernel
theorem dX10_leads_18 : decode cX10_leads 18 = .ok (.istore_n 2, 1) := by decide +kernel
theorem dX10_leads_19 : decode cX10_leads 19 = .ok (.iconst 1, 1) := by decide +kernel
theorem dX10_leads_20 : decode cX10_leads 20 = .ok (.istore_n 3, 1) := by decide +kernel
theorem dX10_leads_21 : decode cX10_leads 21 = .ok (.iload_n 3, 1) := by decide +kernel
theorem dX10_leads_22 : decode cX10_leads 22 = .ok (.bipush 12, 2) := by decide +kernel
theorem dX10_leads_24 : decode cX10_leads 24 = .ok (.if_icmp .ge 59, 3) := by decide +kernel
theorem dX10_leads_27 : decode cX10_leads 27 = .ok (.iload_n 2, 1) := by decide +kernel
theorem dX10_leads_28 : decode cX10_leads 28 = .ok (.istore 4, 2) := by decide +kernel
theorem dX10_leads_30 : decode cX10_leads 30 = .ok (.iconst 0, 1) := by decide +kernel
theorem dX10_leads_31 : decode cX10_leads 31 = .ok (.istore 5, 2) := by decide +kernel
theorem dX10_leads_33 : decode cX10_leads 33 = .ok (.iload 5, 2) := by decide +kernel
theorem dX10_leads_35 : decode cX10_leads 35 = .ok (.aload_n 0, 1) := by decide +kernel
theorem dX10_leads_36 : decode cX10_leads 36 = .ok (.getfield 67, 3) := by decide +kernel
theorem dX10_leads_39 : decode cX10_leads 39 = .ok (.getfield 80, 3) := by decide +kernel
theorem dX10_leads_42 : decode cX10_leads 42 = .ok (.if_icmp .ge 32, 3) := by decide +kernel
theorem dX10_leads_45 : decode cX10_leads 45 = .ok (.iload_n 2, 1) := by decide +kernel
theorem dX10_leads_46 : decode cX10_leads 46 = .ok (.iconst 1, 1) := by decide +kernel
theorem dX10_leads_47 : decode cX10_leads 47 = .ok (.iload 5, 2) := by decide +kernel
theorem dX10_leads_49 : decode cX10_leads 49 = .ok (.ishl, 1) := by decide +kernel
theorem dX10_leads_50 : decode cX10_leads 50 = .ok (.iand, 1) := by decide +kernel
theorem dX10_leads_51 : decode cX10_leads 51 = .ok (.ifCond .eq 17, 3) := by decide +kernel
theorem dX10_leads_54 : decode cX10_leads 54 = .ok (.iload 4, 2) := by decide +kernel
theorem dX10_leads_56 : decode cX10_leads 56 = .ok (.aload_n 0, 1) := by decide +kernel
theorem dX10_leads_57 : decode cX10_leads 57 = .ok (.getfield 67, 3) := by decide +kernel
theorem dX10_leads_60 : decode cX10_leads 60 = .ok (.iload 5, 2) := by decide +kernel
theorem dX10_leads_62 : decode cX10_leads 62 = .ok (.invokevirtual 215, 3) := by decide +kernel
theorem dX10_leads_65 : decode cX10_leads 65 = .ok (.ior, 1) := by decide +kernel
theorem dX10_leads_66 : decode cX10_leads 66 = .ok (.istore 4, 2) := by decide +kernel
theorem dX10_leads_68 : decode cX10_leads 68 = .ok (.iinc 5 1, 3) := by decide +kernel
theorem dX10_leads_71 : decode cX10_leads 71 = .ok (.goto (-38), 3) := by decide +kernel
theorem dX10_leads_74 : decode cX10_leads 74 = .ok (.iload 4, 2) := by decide +kernel
theorem dX10_leads_76 : decode cX10_leads 76 = .ok (.istore_n 2, 1) := by decide +kernel
theorem dX10_leads_77 : decode cX10_leads 77 = .ok (.iinc 3 1, 3) := by decide +kernel
theorem dX10_leads_80 : decode cX10_leads 80 = .ok (.goto (-59), 3) := by decide +kernel
theorem dX10_leads_83 : decode cX10_leads 83 = .ok (.iload_n 2, 1) := by decide +kernel
theorem dX10_leads_84 : decode cX10_leads 84 = .ok (.ireturn, 1) := by decide +kernel
theorem dX10_count_0 : decode cX10_count 0 = .ok (.iload_n 1, 1) := by decide +kernel
theorem dX10_count_1 : decode cX10_count 1 = .ok (.tableswitch 99 0 6 #[43, 51, 59, 67, 75, 83, 91], 43) := by decide +kernel
theorem dX10_count_44 : decode cX10_count 44 = .ok (.aload_n 0, 1) := by decide +kernel
theorem dX10_count_45 : decode cX10_count 45 = .ok (.getfield 67, 3) := by decide +kernel
theorem dX10_count_48 : decode cX10_count 48 = .ok (.getfield 80, 3) := by decide +kernel
theorem dX10_count_51 : decode cX10_count 51 = .ok (.ireturn, 1) := by decide +kernel
theorem dX10_count_52 : decode cX10_count 52 = .ok (.aload_n 0, 1) := by decide +kernel
theorem dX10_count_53 : decode cX10_count 53 = .ok (.getfield 67, 3) := by decide +kernel
theorem dX10_count_56 : decode cX10_count 56 = .ok (.invokevirtual 73, 3) := by decide +kernel
theorem dX10_count_59 : decode cX10_count 59 = .ok (.ireturn, 1) := by decide +kernel
theorem dX10_count_60 : decode cX10_count 60 = .ok (.aload_n 0, 1) := by decide +kernel
theorem dX10_count_61 : decode cX10_count 61 = .ok (.getfield 67, 3) := by decide +kernel
theorem dX10_count_64 : decode cX10_count 64 = .ok (.invokevirtual 218, 3) := by decide +kernel
theorem dX10_count_67 : decode cX10_count 67 = .ok (.ireturn, 1) := by decide +kernel
theorem dX10_count_68 : decode cX10_count 68 = .ok (.aload_n 0, 1) := by decide +kernel
theorem dX10_count_69 : decode cX10_count 69 = .ok (.getfield 67, 3) := by decide +kernel
theorem dX10_count_72 : decode cX10_count 72 = .ok (.invokevirtual 221, 3) := by decide +kernel
theorem dX10_count_75 : decode cX10_count 75 = .ok (.ireturn, 1) := by decide +kernel
theorem dX10_count_76 : decode cX10_count 76 = .ok (.aload_n 0, 1) := by decide +kernel
theorem dX10_count_77 : decode cX10_count 77 = .ok (.getfield 33, 3) := by decide +kernel
theorem dX10_count_80 : decode cX10_count 80 = .ok (.getfield 223, 3) := by decide +kernel
theorem dX10_count_83 : decode cX10_count 83 = .ok (.ireturn, 1) := by decide +kernel
theorem dX10_count_84 : decode cX10_count 84 = .ok (.aload_n 0, 1) := by decide +kernel
theorem dX10_count_85 : decode cX10_count 85 = .ok (.getfield 40, 3) := by decide +kernel
theorem dX10_count_88 : decode cX10_count 88 = .ok (.getfield 167, 3) := by decide +kernel
theorem dX10_count_91 : decode cX10_count 91 = .ok (.ireturn, 1) := by decide +kernel
theorem dX10_count_92 : decode cX10_count 92 = .ok (.aload_n 0, 1) := by decide +kernel
theorem dX10_count_93 : decode cX10_count 93 = .ok (.getfield 12, 3) := by decide +kernel
theorem dX10_count_96 : decode cX10_count 96 = .ok (.getfield 70, 3) := by decide +kernel
theorem dX10_count_99 : decode cX10_count 99 = .ok (.ireturn, 1) := by decide +kernel
theorem dX10_count_100 : decode cX10_count 100 = .ok (.iconst (-1), 1) := by decide +kernel
theorem dX10_count_101 : decode cX10_count 101 = .ok (.ireturn, 1) := by decide +kernel
theorem dX10_isKnown_0 : decode cX10_isKnown 0 = .ok (.iload_n 1, 1) := by decide +kernel
theorem dX10_isKnown_1 : decode cX10_isKnown 1 = .ok (.ifCond .lt 18, 3) := by decide +kernel
theorem dX10_isKnown_4 : decode cX10_isKnown 4 = .ok (.iload_n 1, 1) := by decide +kernel
theorem dX10_isKnown_5 : decode cX10_isKnown 5 = .ok (.aload_n 0, 1) := by decide +kernel
theorem dX10_isKnown_6 : decode cX10_isKnown 6 = .ok (.getfield 67, 3) := by decide +kernel
theorem dX10_isKnown_9 : decode cX10_isKnown 9 = .ok (.getfield 80, 3) := by decide +kernel
theorem dX10_isKnown_12 : decode cX10_isKnown 12 = .ok (.if_icmp .ge 7, 3) := by decide +kernel
theorem dX10_isKnown_15 : decode cX10_isKnown 15 = .ok (.iconst 1, 1) := by decide +kernel
theorem dX10_isKnown_16 : decode cX10_isKnown 16 = .ok (.goto 4, 3) := by decide +kernel
theorem dX10_isKnown_19 : decode cX10_isKnown 19 = .ok (.iconst 0, 1) := by decide +kernel
theorem dX10_isKnown_20 : decode cX10_isKnown 20 = .ok (.ireturn, 1) := by decide +kernel
theorem dX10_isAddress_0 : decode cX10_isAddress 0 = .ok (.iload_n 0, 1) := by decide +kernel
theorem dX10_isAddress_1 : decode cX10_isAddress 1 = .ok (.ifCond .lt 14, 3) := by decide +kernel
theorem dX10_isAddress_4 : decode cX10_isAddress 4 = .ok (.iload_n 0, 1) := by decide +kernel
theorem dX10_isAddress_5 : decode cX10_isAddress 5 = .ok (.sipush 256, 3) := by decide +kernel
theorem dX10_isAddress_8 : decode cX10_isAddress 8 = .ok (.if_icmp .ge 7, 3) := by decide +kernel
theorem dX10_isAddress_11 : decode cX10_isAddress 11 = .ok (.iconst 1, 1) := by decide +kernel
theorem dX10_isAddress_12 : decode cX10_isAddress 12 = .ok (.goto 4, 3) := by decide +kernel
theorem dX10_isAddress_15 : decode cX10_isAddress 15 = .ok (.iconst 0, 1) := by decide +kernel
theorem dX10_isAddress_16 : decode cX10_isAddress 16 = .ok (.ireturn, 1) := by decide +kernel
theorem dX10_isLetter_0 : decode cX10_isLetter 0 = .ok (.iload_n 0, 1) := by decide +kernel
theorem dX10_isLetter_1 : decode cX10_isLetter 1 = .ok (.ifCond .lt 13, 3) := by decide +kernel
theorem dX10_isLetter_4 : decode cX10_isLetter 4 = .ok (.iload_n 0, 1) := by decide +kernel
theorem dX10_isLetter_5 : decode cX10_isLetter 5 = .ok (.bipush 16, 2) := by decide +kernel
theorem dX10_isLetter_7 : decode cX10_isLetter 7 = .ok (.if_icmp .ge 7, 3) := by decide +kernel
theorem dX10_isLetter_10 : decode cX10_isLetter 10 = .ok (.iconst 1, 1) := by decide +kernel
theorem dX10_isLetter_11 : decode cX10_isLetter 11 = .ok (.goto 4, 3) := by decide +kernel
theorem dX10_isLetter_14 : decode cX10_isLetter 14 = .ok (.iconst 0, 1) := by decide +kernel
theorem dX10_isLetter_15 : decode cX10_isLetter 15 = .ok (.ireturn, 1) := by decide +kernel
theorem dX10_ruleAt_0 : decode cX10_ruleAt 0 = .ok (.aload_n 0, 1) := by decide +kernel
theorem dX10_ruleAt_1 : decode cX10_ruleAt 1 = .ok (.getfield 67, 3) := by decide +kernel
theorem dX10_ruleAt_4 : decode cX10_ruleAt 4 = .ok (.iload_n 1, 1) := by decide +kernel
theorem dX10_ruleAt_5 : decode cX10_ruleAt 5 = .ok (.invokevirtual 130, 3) := by decide +kernel
theorem dX10_ruleAt_8 : decode cX10_ruleAt 8 = .ok (.astore_n 3, 1) := by decide +kernel
theorem dX10_ruleAt_9 : decode cX10_ruleAt 9 = .ok (.aload_n 3, 1) := by decide +kernel
theorem dX10_ruleAt_10 : decode cX10_ruleAt 10 = .ok (.ifnonnull 7, 3) := by decide +kernel
theorem dX10_ruleAt_13 : decode cX10_ruleAt 13 = .ok (.aconst_null, 1) := by decide +kernel
theorem dX10_ruleAt_14 : decode cX10_ruleAt 14 = .ok (.goto 8, 3) := by decide +kernel
theorem dX10_ruleAt_17 : decode cX10_ruleAt 17 = .ok (.aload_n 3, 1) := by decide +kernel
theorem dX10_ruleAt_18 : decode cX10_ruleAt 18 = .ok (.iload_n 2, 1) := by decide +kernel
theorem dX10_ruleAt_19 : decode cX10_ruleAt 19 = .ok (.invokevirtual 134, 3) := by decide +kernel
theorem dX10_ruleAt_22 : decode cX10_ruleAt 22 = .ok (.areturn, 1) := by decide +kernel
theorem dX10_numberOrNone_0 : decode cX10_numberOrNone 0 = .ok (.aload_n 0, 1) := by decide +kernel
theorem dX10_numberOrNone_1 : decode cX10_numberOrNone 1 = .ok (.getfield 67, 3) := by decide +kernel
theorem dX10_numberOrNone_4 : decode cX10_numberOrNone 4 = .ok (.iload_n 1, 1) := by decide +kernel
theorem dX10_numberOrNone_5 : decode cX10_numberOrNone 5 = .ok (.invokevirtual 86, 3) := by decide +kernel
theorem dX10_numberOrNone_8 : decode cX10_numberOrNone 8 = .ok (.istore_n 2, 1) := by decide +kernel
theorem dX10_numberOrNone_9 : decode cX10_numberOrNone 9 = .ok (.iload_n 2, 1) := by decide +kernel
theorem dX10_numberOrNone_10 : decode cX10_numberOrNone 10 = .ok (.iconst (-1), 1) := by decide +kernel
theorem dX10_numberOrNone_11 : decode cX10_numberOrNone 11 = .ok (.if_icmp .ne 8, 3) := by decide +kernel
theorem dX10_numberOrNone_14 : decode cX10_numberOrNone 14 = .ok (.bipush (-4), 2) := by decide +kernel
theorem dX10_numberOrNone_16 : decode cX10_numberOrNone 16 = .ok (.goto 4, 3) := by decide +kernel
theorem dX10_numberOrNone_19 : decode cX10_numberOrNone 19 = .ok (.iload_n 2, 1) := by decide +kernel
theorem dX10_numberOrNone_20 : decode cX10_numberOrNone 20 = .ok (.ireturn, 1) := by decide +kernel
theorem dX10_noteChange_0 : decode cX10_noteChange 0 = .ok (.aload_n 0, 1) := by decide +kernel
theorem dX10_noteChange_1 : decode cX10_noteChange 1 = .ok (.getfield 40, 3) := by decide +kernel
theorem dX10_noteChange_4 : decode cX10_noteChange 4 = .ok (.invokevirtual 224, 3) := by decide +kernel
theorem dX10_noteChange_7 : decode cX10_noteChange 7 = .ok (.astore 5, 2) := by decide +kernel
theorem dX10_noteChange_9 : decode cX10_noteChange 9 = .ok (.aload 5, 2) := by decide +kernel
theorem dX10_noteChange_11 : decode cX10_noteChange 11 = .ok (.iload_n 1, 1) := by decide +kernel
theorem dX10_noteChange_12 : decode cX10_noteChange 12 = .ok (.putfield 227, 3) := by decide +kernel
theorem dX10_noteChange_15 : decode cX10_noteChange 15 = .ok (.aload 5, 2) := by decide +kernel
theorem dX10_noteChange_17 : decode cX10_noteChange 17 = .ok (.iload_n 2, 1) := by decide +kernel
theorem dX10_noteChange_18 : decode cX10_noteChange 18 = .ok (.putfield 230, 3) := by decide +kernel
theorem dX10_noteChange_21 : decode cX10_noteChange 21 = .ok (.aload 5, 2) := by decide +kernel
theorem dX10_noteChange_23 : decode cX10_noteChange 23 = .ok (.iload_n 3, 1) := by decide +kernel
theorem dX10_noteChange_24 : decode cX10_noteChange 24 = .ok (.putfield 233, 3) := by decide +kernel
theorem dX10_noteChange_27 : decode cX10_noteChange 27 = .ok (.aload 5, 2) := by decide +kernel
theorem dX10_noteChange_29 : decode cX10_noteChange 29 = .ok (.iload 4, 2) := by decide +kernel
theorem dX10_noteChange_31 : decode cX10_noteChange 31 = .ok (.putfield 236, 3) := by decide +kernel
theorem dX10_noteChange_34 : decode cX10_noteChange 34 = .ok (.aload_n 0, 1) := by decide +kernel
theorem dX10_noteChange_35 : decode cX10_noteChange 35 = .ok (.getfield 33, 3) := by decide +kernel
theorem dX10_noteChange_38 : decode cX10_noteChange 38 = .ok (.invokevirtual 76, 3) := by decide +kernel
theorem dX10_noteChange_41 : decode cX10_noteChange 41 = .ok (.return_, 1) := by decide +kernel
theorem dX10_takeBack_0 : decode cX10_takeBack 0 = .ok (.aload_n 0, 1) := by decide +kernel
theorem dX10_takeBack_1 : decode cX10_takeBack 1 = .ok (.getfield 67, 3) := by decide +kernel
theorem dX10_takeBack_4 : decode cX10_takeBack 4 = .ok (.aload_n 1, 1) := by decide +kernel
theorem dX10_takeBack_5 : decode cX10_takeBack 5 = .ok (.getfield 230, 3) := by decide +kernel
theorem dX10_takeBack_8 : decode cX10_takeBack 8 = .ok (.invokevirtual 130, 3) := by decide +kernel
theorem dX10_takeBack_11 : decode cX10_takeBack 11 = .ok (.astore_n 2, 1) := by decide +kernel
theorem dX10_takeBack_12 : decode cX10_takeBack 12 = .ok (.aload_n 2, 1) := by decide +kernel
theorem dX10_takeBack_13 : decode cX10_takeBack 13 = .ok (.ifnonnull 4, 3) := by decide +kernel
theorem dX10_takeBack_16 : decode cX10_takeBack 16 = .ok (.return_, 1) := by decide +kernel
theorem dX10_takeBack_17 : decode cX10_takeBack 17 = .ok (.aload_n 1, 1) := by decide +kernel
theorem dX10_takeBack_18 : decode cX10_takeBack 18 = .ok (.getfield 227, 3) := by decide +kernel
theorem dX10_takeBack_21 : decode cX10_takeBack 21 = .ok (.tableswitch 74 0 2 #[27, 51, 63], 27) := by decide +kernel
theorem dX10_takeBack_48 : decode cX10_takeBack 48 = .ok (.aload_n 2, 1) := by decide +kernel
theorem dX10_takeBack_49 : decode cX10_takeBack 49 = .ok (.aload_n 1, 1) := by decide +kernel
theorem dX10_takeBack_50 : decode cX10_takeBack 50 = .ok (.getfield 233, 3) := by decide +kernel
theorem dX10_takeBack_53 : decode cX10_takeBack 53 = .ok (.invokevirtual 134, 3) := by decide +kernel
theorem dX10_takeBack_56 : decode cX10_takeBack 56 = .ok (.astore_n 3, 1) := by decide +kernel
theorem dX10_takeBack_57 : decode cX10_takeBack 57 = .ok (.aload_n 3, 1) := by decide +kernel
theorem dX10_takeBack_58 : decode cX10_takeBack 58 = .ok (.ifnull 50, 3) := by decide +kernel
theorem dX10_takeBack_61 : decode cX10_takeBack 61 = .ok (.aload_n 3, 1) := by decide +kernel
theorem dX10_takeBack_62 : decode cX10_takeBack 62 = .ok (.aload_n 1, 1) := by decide +kernel
theorem dX10_takeBack_63 : decode cX10_takeBack 63 = .ok (.getfield 236, 3) := by decide +kernel
theorem dX10_takeBack_66 : decode cX10_takeBack 66 = .ok (.putfield 121, 3) := by decide +kernel
theorem dX10_takeBack_69 : decode cX10_takeBack 69 = .ok (.goto 39, 3) := by decide +kernel
theorem dX10_takeBack_72 : decode cX10_takeBack 72 = .ok (.aload_n 2, 1) := by decide +kernel
theorem dX10_takeBack_73 : decode cX10_takeBack 73 = .ok (.aload_n 1, 1) := by decide +kernel
theorem dX10_takeBack_74 : decode cX10_takeBack 74 = .ok (.getfield 233, 3) := by decide +kernel
theorem dX10_takeBack_77 : decode cX10_takeBack 77 = .ok (.invokevirtual 139, 3) := by decide +kernel
theorem dX10_takeBack_80 : decode cX10_takeBack 80 = .ok (.pop, 1) := by decide +kernel
theorem dX10_takeBack_81 : decode cX10_takeBack 81 = .ok (.goto 27, 3) := by decide +kernel
theorem dX10_takeBack_84 : decode cX10_takeBack 84 = .ok (.aload_n 2, 1) := by decide +kernel
theorem dX10_takeBack_85 : decode cX10_takeBack 85 = .ok (.aload_n 1, 1) := by decide +kernel
theorem dX10_takeBack_86 : decode cX10_takeBack 86 = .ok (.getfield 233, 3) := by decide +kernel
theorem dX10_takeBack_89 : decode cX10_takeBack 89 = .ok (.invokevirtual 148, 3) := by decide +kernel
theorem dX10_takeBack_92 : decode cX10_takeBack 92 = .ok (.goto 16, 3) := by decide +kernel
theorem dX10_takeBack_95 : decode cX10_takeBack 95 = .ok (.aload_n 2, 1) := by decide +kernel
theorem dX10_takeBack_96 : decode cX10_takeBack 96 = .ok (.aload_n 1, 1) := by decide +kernel
theorem dX10_takeBack_97 : decode cX10_takeBack 97 = .ok (.getfield 233, 3) := by decide +kernel
theorem dX10_takeBack_100 : decode cX10_takeBack 100 = .ok (.aload_n 1, 1) := by decide +kernel
theorem dX10_takeBack_101 : decode cX10_takeBack 101 = .ok (.getfield 236, 3) := by decide +kernel
theorem dX10_takeBack_104 : decode cX10_takeBack 104 = .ok (.invokevirtual 155, 3) := by decide +kernel
theorem dX10_takeBack_107 : decode cX10_takeBack 107 = .ok (.pop, 1) := by decide +kernel
theorem dX10_takeBack_108 : decode cX10_takeBack 108 = .ok (.return_, 1) := by decide +kernel
theorem dX10_floatBitsOfMean_0 : decode cX10_floatBitsOfMean 0 = .ok (.iload_n 0, 1) := by decide +kernel
theorem dX10_floatBitsOfMean_1 : decode cX10_floatBitsOfMean 1 = .ok (.ifCond .gt 5, 3) := by decide +kernel
theorem dX10_floatBitsOfMean_4 : decode cX10_floatBitsOfMean 4 = .ok (.iconst 0, 1) := by decide +kernel
theorem dX10_floatBitsOfMean_5 : decode cX10_floatBitsOfMean 5 = .ok (.ireturn, 1) := by decide +kernel
theorem dX10_floatBitsOfMean_6 : decode cX10_floatBitsOfMean 6 = .ok (.bipush 31, 2) := by decide +kernel
theorem dX10_floatBitsOfMean_8 : decode cX10_floatBitsOfMean 8 = .ok (.iload_n 0, 1) := by decide +kernel
theorem dX10_floatBitsOfMean_9 : decode cX10_floatBitsOfMean 9 = .ok (.invokestatic 239, 3) := by decide +kernel
theorem dX10_floatBitsOfMean_12 : decode cX10_floatBitsOfMean 12 = .ok (.isub, 1) := by decide +kernel
theorem dX10_floatBitsOfMean_13 : decode cX10_floatBitsOfMean 13 = .ok (.istore_n 1, 1) := by decide +kernel
theorem dX10_floatBitsOfMean_14 : decode cX10_floatBitsOfMean 14 = .ok (.bipush 127, 2) := by decide +kernel
theorem dX10_floatBitsOfMean_16 : decode cX10_floatBitsOfMean 16 = .ok (.iload_n 1, 1) := by decide +kernel
theorem dX10_floatBitsOfMean_17 : decode cX10_floatBitsOfMean 17 = .ok (.iadd, 1) := by decide +kernel
theorem dX10_floatBitsOfMean_18 : decode cX10_floatBitsOfMean 18 = .ok (.bipush 8, 2) := by decide +kernel
theorem dX10_floatBitsOfMean_20 : decode cX10_floatBitsOfMean 20 = .ok (.isub, 1) := by decide +kernel
theorem dX10_floatBitsOfMean_21 : decode cX10_floatBitsOfMean 21 = .ok (.istore_n 2, 1) := by decide +kernel
theorem dX10_floatBitsOfMean_22 : decode cX10_floatBitsOfMean 22 = .ok (.iload_n 0, 1) := by decide +kernel
theorem dX10_floatBitsOfMean_23 : decode cX10_floatBitsOfMean 23 = .ok (.iconst 1, 1) := by decide +kernel
theorem dX10_floatBitsOfMean_24 : decode cX10_floatBitsOfMean 24 = .ok (.iload_n 1, 1) := by decide +kernel
theorem dX10_floatBitsOfMean_25 : decode cX10_floatBitsOfMean 25 = .ok (.ishl, 1) := by decide +kernel
theorem dX10_floatBitsOfMean_26 : decode cX10_floatBitsOfMean 26 = .ok (.isub, 1) := by decide +kernel
theorem dX10_floatBitsOfMean_27 : decode cX10_floatBitsOfMean 27 = .ok (.bipush 23, 2) := by decide +kernel
theorem dX10_floatBitsOfMean_29 : decode cX10_floatBitsOfMean 29 = .ok (.iload_n 1, 1) := by decide +kernel
theorem dX10_floatBitsOfMean_30 : decode cX10_floatBitsOfMean 30 = .ok (.isub, 1) := by decide +kernel
theorem dX10_floatBitsOfMean_31 : decode cX10_floatBitsOfMean 31 = .ok (.ishl, 1) := by decide +kernel
theorem dX10_floatBitsOfMean_32 : decode cX10_floatBitsOfMean 32 = .ok (.istore_n 3, 1) := by decide +kernel
theorem dX10_floatBitsOfMean_33 : decode cX10_floatBitsOfMean 33 = .ok (.iload_n 2, 1) := by decide +kernel
theorem dX10_floatBitsOfMean_34 : decode cX10_floatBitsOfMean 34 = .ok (.bipush 23, 2) := by decide +kernel
theorem dX10_floatBitsOfMean_36 : decode cX10_floatBitsOfMean 36 = .ok (.ishl, 1) := by decide +kernel
theorem dX10_floatBitsOfMean_37 : decode cX10_floatBitsOfMean 37 = .ok (.iload_n 3, 1) := by decide +kernel
theorem dX10_floatBitsOfMean_38 : decode cX10_floatBitsOfMean 38 = .ok (.ior, 1) := by decide +kernel
theorem dX10_floatBitsOfMean_39 : decode cX10_floatBitsOfMean 39 = .ok (.ireturn, 1) := by decide +kernel
end
section
theorem dX11_init_0 : decode cX11_init 0 = .ok (.aload_n 0, 1) := by decide +kernel
theorem dX11_init_1 : decode cX11_init 1 = .ok (.invokespecial 1, 3) := by decide +kernel
theorem dX11_init_4 : decode cX11_init 4 = .ok (.aload_n 0, 1) := by decide +kernel
theorem dX11_init_5 : decode cX11_init 5 = .ok (.sipush 240, 3) := by decide +kernel
theorem dX11_init_8 : decode cX11_init 8 = .ok (.newarray .int, 2) := by decide +kernel
theorem dX11_init_10 : decode cX11_init 10 = .ok (.putfield 7, 3) := by decide +kernel
theorem dX11_init_13 : decode cX11_init 13 = .ok (.aload_n 0, 1) := by decide +kernel
theorem dX11_init_14 : decode cX11_init 14 = .ok (.bipush 12, 2) := by decide +kernel
theorem dX11_init_16 : decode cX11_init 16 = .ok (.newarray .int, 2) := by decide +kernel
theorem dX11_init_18 : decode cX11_init 18 = .ok (.putfield 13, 3) := by decide +kernel
theorem dX11_init_21 : decode cX11_init 21 = .ok (.aload_n 0, 1) := by decide +kernel
theorem dX11_init_22 : decode cX11_init 22 = .ok (.bipush 12, 2) := by decide +kernel
theorem dX11_init_24 : decode cX11_init 24 = .ok (.newarray .int, 2) := by decide +kernel
theorem dX11_init_26 : decode cX11_init 26 = .ok (.putfield 16, 3) := by decide +kernel
theorem dX11_init_29 : decode cX11_init 29 = .ok (.aload_n 0, 1) := by decide +kernel
theorem dX11_init_30 : decode cX11_init 30 = .ok (.bipush 12, 2) := by decide +kernel
theorem dX11_init_32 : decode cX11_init 32 = .ok (.newarray .int, 2) := by decide +kernel
theorem dX11_init_34 : decode cX11_init 34 = .ok (.putfield 19, 3) := by decide +kernel
theorem dX11_init_37 : decode cX11_init 37 = .ok (.aload_n 0, 1) := by decide +kernel
theorem dX11_init_38 : decode cX11_init 38 = .ok (.bipush 12, 2) := by decide +kernel
theorem dX11_init_40 : decode cX11_init 40 = .ok (.newarray .int, 2) := by decide +kernel
theorem dX11_init_42 : decode cX11_init 42 = .ok (.putfield 22, 3) := by decide +kernel
theorem dX11_init_45 : decode cX11_init 45 = .ok (.aload_n 0, 1) := by decide +kernel
theorem dX11_init_46 : decode cX11_init 46 = .ok (.bipush 36, 2) := by decide +kernel
theorem dX11_init_48 : decode cX11_init 48 = .ok (.newarray .int, 2) := by decide +kernel
theorem dX11_init_50 : decode cX11_init 50 = .ok (.putfield 25, 3) := by decide +kernel
theorem dX11_init_53 : decode cX11_init 53 = .ok (.aload_n 0, 1) := by decide +kernel
theorem dX11_init_54 : decode cX11_init 54 = .ok (.bipush 96, 2) := by decide +kernel
theorem dX11_init_56 : decode cX11_init 56 = .ok (.newarray .int, 2) := by decide +kernel
theorem dX11_init_58 : decode cX11_init 58 = .ok (.putfield 28, 3) := by decide +kernel
theorem dX11_init_61 : decode cX11_init 61 = .ok (.aload_n 0, 1) := by decide +kernel
theorem dX11_init_62 : decode cX11_init 62 = .ok (.bipush 96, 2) := by decide +kernel
theorem dX11_init_64 : decode cX11_init 64 = .ok (.newarray .int, 2) := by decide +kernel
theorem dX11_init_66 : decode cX11_init 66 = .ok (.putfield 31, 3) := by decide +kernel
theorem dX11_init_69 : decode cX11_init 69 = .ok (.aload_n 0, 1) := by decide +kernel
theorem dX11_init_70 : decode cX11_init 70 = .ok (.bipush 96, 2) := by decide +kernel
theorem dX11_init_72 : decode cX11_init 72 = .ok (.newarray .int, 2) := by decide +kernel
theorem dX11_init_74 : decode cX11_init 74 = .ok (.putfield 34, 3) := by decide +kernel
theorem dX11_init_77 : decode cX11_init 77 = .ok (.aload_n 0, 1) := by decide +kernel
theorem dX11_init_78 : decode cX11_init 78 = .ok (.bipush 96, 2) := by decide +kernel
theorem dX11_init_80 : decode cX11_init 80 = .ok (.newarray .int, 2) := by decide +kernel
theorem dX11_init_82 : decode cX11_init 82 = .ok (.putfield 37, 3) := by decide +kernel
theorem dX11_init_85 : decode cX11_init 85 = .ok (.aload_n 0, 1) := by decide +kernel
theorem dX11_init_86 : decode cX11_init 86 = .ok (.bipush 96, 2) := by decide +kernel
theorem dX11_init_88 : decode cX11_init 88 = .ok (.newarray .int, 2) := by decide +kernel
theorem dX11_init_90 : decode cX11_init 90 = .ok (.putfield 40, 3) := by decide +kernel
theorem dX11_init_93 : decode cX11_init 93 = .ok (.aload_n 0, 1) := by decide +kernel
theorem dX11_init_94 : decode cX11_init 94 = .ok (.sipush 768, 3) := by decide +kernel
theorem dX11_init_97 : decode cX11_init 97 = .ok (.newarray .int, 2) := by decide +kernel
theorem dX11_init_99 : decode cX11_init 99 = .ok (.putfield 43, 3) := by decide +kernel
theorem dX11_init_102 : decode cX11_init 102 = .ok (.aload_n 0, 1) := by decide +kernel
theorem dX11_init_103 : decode cX11_init 103 = .ok (.sipush 252, 3) := by decide +kernel
theorem dX11_init_106 : decode cX11_init 106 = .ok (.newarray .int, 2) := by decide +kernel
theorem dX11_init_108 : decode cX11_init 108 = .ok (.putfield 46, 3) := by decide +kernel
theorem dX11_init_111 : decode cX11_init 111 = .ok (.aload_n 0, 1) := by decide +kernel
theorem dX11_init_112 : decode cX11_init 112 = .ok (.sipush 1008, 3) := by decide +kernel
theorem dX11_init_115 : decode cX11_init 115 = .ok (.newarray .int, 2) := by decide +kernel
theorem dX11_init_117 : decode cX11_init 117 = .ok (.putfield 49, 3) := by decide +kernel
theorem dX11_init_120 : decode cX11_init 120 = .ok (.aload_n 0, 1) := by decide +kernel
theorem dX11_init_121 : decode cX11_init 121 = .ok (.bipush 12, 2) := by decide +kernel
theorem dX11_init_123 : decode cX11_init 123 = .ok (.newarray .int, 2) := by decide +kernel
theorem dX11_init_125 : decode cX11_init 125 = .ok (.putfield 52, 3) := by decide +kernel
theorem dX11_init_128 : decode cX11_init 128 = .ok (.aload_n 0, 1) := by decide +kernel
theorem dX11_init_129 : decode cX11_init 129 = .ok (.bipush 12, 2) := by decide +kernel
theorem dX11_init_131 : decode cX11_init 131 = .ok (.newarray .int, 2) := by decide +kernel
theorem dX11_init_133 : decode cX11_init 133 = .ok (.putfield 55, 3) := by decide +kernel
theorem dX11_init_136 : decode cX11_init 136 = .ok (.aload_n 0, 1) := by decide +kernel
theorem dX11_init_137 : decode cX11_init 137 = .ok (.bipush 12, 2) := by decide +kernel
theorem dX11_init_139 : decode cX11_init 139 = .ok (.newarray .int, 2) := by decide +kernel
theorem dX11_init_141 : decode cX11_init 141 = .ok (.putfield 58, 3) := by decide +kernel
theorem dX11_init_144 : decode cX11_init 144 = .ok (.aload_n 0, 1) := by decide +kernel
theorem dX11_init_145 : decode cX11_init 145 = .ok (.bipush 12, 2) := by decide +kernel
theorem dX11_init_147 : decode cX11_init 147 = .ok (.newarray .int, 2) := by decide +kernel
theorem dX11_init_149 : decode cX11_init 149 = .ok (.putfield 61, 3) := by decide +kernel
theorem dX11_init_152 : decode cX11_init 152 = .ok (.aload_n 0, 1) := by decide +kernel
theorem dX11_init_153 : decode cX11_init 153 = .ok (.bipush 36, 2) := by decide +kernel
theorem dX11_init_155 : decode cX11_init 155 = .ok (.newarray .int, 2) := by decide +kernel
theorem dX11_init_157 : decode cX11_init 157 = .ok (.putfield 64, 3) := by decide +kernel
theorem dX11_init_160 : decode cX11_init 160 = .ok (.aload_n 0, 1) := by decide +kernel
theorem dX11_init_161 : decode cX11_init 161 = .ok (.bipush 96, 2) := by decide +kernel
theorem dX11_init_163 : decode cX11_init 163 = .ok (.newarray .int, 2) := by decide +kernel
theorem dX11_init_165 : decode cX11_init 165 = .ok (.putfield 67, 3) := by decide +kernel
theorem dX11_init_168 : decode cX11_init 168 = .ok (.aload_n 0, 1) := by decide +kernel
theorem dX11_init_169 : decode cX11_init 169 = .ok (.bipush 96, 2) := by decide +kernel
theorem dX11_init_171 : decode cX11_init 171 = .ok (.newarray .int, 2) := by decide +kernel
theorem dX11_init_173 : decode cX11_init 173 = .ok (.putfield 70, 3) := by decide +kernel
theorem dX11_init_176 : decode cX11_init 176 = .ok (.aload_n 0, 1) := by decide +kernel
theorem dX11_init_177 : decode cX11_init 177 = .ok (.bipush 96, 2) := by decide +kernel
theorem dX11_init_179 : decode cX11_init 179 = .ok (.newarray .int, 2) := by decide +kernel
theorem dX11_init_181 : decode cX11_init 181 = .ok (.putfield 73, 3) := by decide +kernel
theorem dX11_init_184 : decode cX11_init 184 = .ok (.aload_n 0, 1) := by decide +kernel
theorem dX11_init_185 : decode cX11_init 185 = .ok (.bipush 96, 2) := by decide +kernel
theorem dX11_init_187 : decode cX11_init 187 = .ok (.newarray .int, 2) := by decide +kernel
theorem dX11_init_189 : decode cX11_init 189 = .ok (.putfield 76, 3) := by decide +kernel
theorem dX11_init_192 : decode cX11_init 192 = .ok (.aload_n 0, 1) := by decide +kernel
theorem dX11_init_193 : decode cX11_init 193 = .ok (.bipush 96, 2) := by decide +kernel
theorem dX11_init_195 : decode cX11_init 195 = .ok (.newarray .int, 2) := by decide +kernel
theorem dX11_init_197 : decode cX11_init 197 = .ok (.putfield 79, 3) := by decide +kernel
theorem dX11_init_200 : decode cX11_init 200 = .ok (.aload_n 0, 1) := by decide +kernel
theorem dX11_init_201 : decode cX11_init 201 = .ok (.sipush 768, 3) := by decide +kernel
theorem dX11_init_204 : decode cX11_init 204 = .ok (.newarray .int, 2) := by decide +kernel
theorem dX11_init_206 : decode cX11_init 206 = .ok (.putfield 82, 3) := by decide +kernel
theorem dX11_init_209 : decode cX11_init 209 = .ok (.aload_n 0, 1) := by decide +kernel
theorem dX11_init_210 : decode cX11_init 210 = .ok (.bipush 96, 2) := by decide +kernel
theorem dX11_init_212 : decode cX11_init 212 = .ok (.newarray .int, 2) := by decide +kernel
theorem dX11_init_214 : decode cX11_init 214 = .ok (.putfield 85, 3) := by decide +kernel
theorem dX11_init_217 : decode cX11_init 217 = .ok (.aload_n 0, 1) := by decide +kernel
theorem dX11_init_218 : decode cX11_init 218 = .ok (.bipush 12, 2) := by decide +kernel
theorem dX11_init_220 : decode cX11_init 220 = .ok (.newarray .int, 2) := by decide +kernel
theorem dX11_init_222 : decode cX11_init 222 = .ok (.putfield 88, 3) := by decide +kernel
theorem dX11_init_225 : decode cX11_init 225 = .ok (.aload_n 0, 1) := by decide +kernel
theorem dX11_init_226 : decode cX11_init 226 = .ok (.bipush 48, 2) := by decide +kernel
theorem dX11_init_228 : decode cX11_init 228 = .ok (.newarray .int, 2) := by decide +kernel
theorem dX11_init_230 : decode cX11_init 230 = .ok (.putfield 91, 3) := by decide +kernel
theorem dX11_init_233 : decode cX11_init 233 = .ok (.aload_n 0, 1) := by decide +kernel
theorem dX11_init_234 : decode cX11_init 234 = .ok (.bipush 32, 2) := by decide +kernel
theorem dX11_init_236 : decode cX11_init 236 = .ok (.newarray .int, 2) := by decide +kernel
theorem dX11_init_238 : decode cX11_init 238 = .ok (.putfield 94, 3) := by decide +kernel
theorem dX11_init_241 : decode cX11_init 241 = .ok (.aload_n 0, 1) := by decide +kernel
theorem dX11_init_242 : decode cX11_init 242 = .ok (.bipush 12, 2) := by decide +kernel
theorem dX11_init_244 : decode cX11_init 244 = .ok (.newarray .int, 2) := by decide +kernel
theorem dX11_init_246 : decode cX11_init 246 = .ok (.putfield 97, 3) := by decide +kernel
theorem dX11_init_249 : decode cX11_init 249 = .ok (.aload_n 0, 1) := by decide +kernel
theorem dX11_init_250 : decode cX11_init 250 = .ok (.bipush 12, 2) := by decide +kernel
theorem dX11_init_252 : decode cX11_init 252 = .ok (.newarray .int, 2) := by decide +kernel
theorem dX11_init_254 : decode cX11_init 254 = .ok (.putfield 100, 3) := by decide +kernel
theorem dX11_init_257 : decode cX11_init 257 = .ok (.aload_n 0, 1) := by decide +kernel
theorem dX11_init_258 : decode cX11_init 258 = .ok (.bipush 7, 2) := by decide +kernel
theorem dX11_init_260 : decode cX11_init 260 = .ok (.newarray .int, 2) := by decide +kernel
theorem dX11_init_262 : decode cX11_init 262 = .ok (.putfield 103, 3) := by decide +kernel
theorem dX11_init_265 : decode cX11_init 265 = .ok (.aload_n 0, 1) := by decide +kernel
theorem dX11_init_266 : decode cX11_init 266 = .ok (.bipush 110, 2) := by decide +kernel
theorem dX11_init_268 : decode cX11_init 268 = .ok (.bipush 97, 2) := by decide +kernel
theorem dX11_init_270 : decode cX11_init 270 = .ok (.bipush 98, 2) := by decide +kernel
theorem dX11_init_272 : decode cX11_init 272 = .ok (.bipush 58, 2) := by decide +kernel
theorem dX11_init_274 : decode cX11_init 274 = .ok (.bipush 43, 2) := by decide +kernel
theorem dX11_init_276 : decode cX11_init 276 = .ok (.invokevirtual 106, 3) := by decide +kernel
theorem dX11_init_279 : decode cX11_init 279 = .ok (.aload_n 0, 1) := by decide +kernel
theorem dX11_init_280 : decode cX11_init 280 = .ok (.bipush 112, 2) := by decide +kernel
theorem dX11_init_282 : decode cX11_init 282 = .ok (.bipush 49, 2) := by decide +kernel
theorem dX11_init_284 : decode cX11_init 284 = .ok (.bipush 50, 2) := by decide +kernel
theorem dX11_init_286 : decode cX11_init 286 = .ok (.bipush 56, 2) := by decide +kernel
theorem dX11_init_288 : decode cX11_init 288 = .ok (.bipush 47, 2) := by decide +kernel
theorem dX11_init_290 : decode cX11_init 290 = .ok (.invokevirtual 106, 3) := by decide +kernel
theorem dX11_init_293 : decode cX11_init 293 = .ok (.aload_n 0, 1) := by decide +kernel
theorem dX11_init_294 : decode cX11_init 294 = .ok (.bipush 50, 2) := by decide +kernel
theorem dX11_init_296 : decode cX11_init 296 = .ok (.bipush 44, 2) := by decide +kernel
theorem dX11_init_298 : decode cX11_init 298 = .ok (.bipush 43, 2) := by decide +kernel
theorem dX11_init_300 : decode cX11_init 300 = .ok (.bipush 105, 2) := by decide +kernel
theorem dX11_init_302 : decode cX11_init 302 = .ok (.bipush 97, 2) := by decide +kernel
theorem dX11_init_304 : decode cX11_init 304 = .ok (.invokevirtual 106, 3) := by decide +kernel
theorem dX11_init_307 : decode cX11_init 307 = .ok (.aload_n 0, 1) := by decide +kernel
theorem dX11_init_308 : decode cX11_init 308 = .ok (.bipush 99, 2) := by decide +kernel
theorem dX11_init_310 : decode cX11_init 310 = .ok (.bipush 44, 2) := by decide +kernel
theorem dX11_init_312 : decode cX11_init 312 = .ok (.bipush 126, 2) := by decide +kernel
theorem dX11_init_314 : decode cX11_init 314 = .ok (.bipush 104, 2) := by decide +kernel
theorem dX11_init_316 : decode cX11_init 316 = .ok (.bipush 97, 2) := by decide +kernel
theorem dX11_init_318 : decode cX11_init 318 = .ok (.invokevirtual 106, 3) := by decide +kernel
theorem dX11_init_321 : decode cX11_init 321 = .ok (.aload_n 0, 1) := by decide +kernel
theorem dX11_init_322 : decode cX11_init 322 = .ok (.bipush 100, 2) := by decide +kernel
theorem dX11_init_324 : decode cX11_init 324 = .ok (.bipush 44, 2) := by decide +kernel
theorem dX11_init_326 : decode cX11_init 326 = .ok (.bipush 45, 2) := by decide +kernel
theorem dX11_init_328 : decode cX11_init 328 = .ok (.bipush 97, 2) := by decide +kernel
theorem dX11_init_330 : decode cX11_init 330 = .ok (.bipush 59, 2) := by decide +kernel
theorem dX11_init_332 : decode cX11_init 332 = .ok (.invokevirtual 106, 3) := by decide +kernel
theorem dX11_init_335 : decode cX11_init 335 = .ok (.aload_n 0, 1) := by decide +kernel
theorem dX11_init_336 : decode cX11_init 336 = .ok (.bipush 110, 2) := by decide +kernel
theorem dX11_init_338 : decode cX11_init 338 = .ok (.bipush 97, 2) := by decide +kernel
theorem dX11_init_340 : decode cX11_init 340 = .ok (.bipush 99, 2) := by decide +kernel
theorem dX11_init_342 : decode cX11_init 342 = .ok (.bipush 58, 2) := by decide +kernel
theorem dX11_init_344 : decode cX11_init 344 = .ok (.bipush 63, 2) := by decide +kernel
theorem dX11_init_346 : decode cX11_init 346 = .ok (.invokevirtual 106, 3) := by decide +kernel
theorem dX11_init_349 : decode cX11_init 349 = .ok (.aload_n 0, 1) := by decide +kernel
theorem dX11_init_350 : decode cX11_init 350 = .ok (.bipush 112, 2) := by decide +kernel
theorem dX11_init_352 : decode cX11_init 352 = .ok (.bipush 48, 2) := by decide +kernel
theorem dX11_init_354 : decode cX11_init 354 = .ok (.bipush 47, 2) := by decide +kernel
theorem dX11_init_356 : decode cX11_init 356 = .ok (.bipush 55, 2) := by decide +kernel
theorem dX11_init_358 : decode cX11_init 358 = .ok (.bipush 44, 2) := by decide +kernel
theorem dX11_init_360 : decode cX11_init 360 = .ok (.invokevirtual 106, 3) := by decide +kernel
theorem dX11_init_363 : decode cX11_init 363 = .ok (.aload_n 0, 1) := by decide +kernel
theorem dX11_init_364 : decode cX11_init 364 = .ok (.bipush 43, 2) := by decide +kernel
theorem dX11_init_366 : decode cX11_init 366 = .ok (.bipush 109, 2) := by decide +kernel
theorem dX11_init_368 : decode cX11_init 368 = .ok (.bipush 97, 2) := by decide +kernel
theorem dX11_init_370 : decode cX11_init 370 = .ok (.bipush 98, 2) := by decide +kernel
theorem dX11_init_372 : decode cX11_init 372 = .ok (.bipush 44, 2) := by decide +kernel
theorem dX11_init_374 : decode cX11_init 374 = .ok (.invokevirtual 106, 3) := by decide +kernel
theorem dX11_init_377 : decode cX11_init 377 = .ok (.aload_n 0, 1) := by decide +kernel
theorem dX11_init_378 : decode cX11_init 378 = .ok (.bipush 114, 2) := by decide +kernel
theorem dX11_init_380 : decode cX11_init 380 = .ok (.bipush 101, 2) := by decide +kernel
theorem dX11_init_382 : decode cX11_init 382 = .ok (.bipush 98, 2) := by decide +kernel
theorem dX11_init_384 : decode cX11_init 384 = .ok (.bipush 59, 2) := by decide +kernel
theorem dX11_init_386 : decode cX11_init 386 = .ok (.bipush 110, 2) := by decide +kernel
theorem dX11_init_388 : decode cX11_init 388 = .ok (.invokevirtual 106, 3) := by decide +kernel
theorem dX11_init_391 : decode cX11_init 391 = .ok (.aload_n 0, 1) := by decide +kernel
theorem dX11_init_392 : decode cX11_init 392 = .ok (.bipush 101, 2) := by decide +kernel
theorem dX11_init_394 : decode cX11_init 394 = .ok (.bipush 98, 2) := by decide +kernel
theorem dX11_init_396 : decode cX11_init 396 = .ok (.bipush 58, 2) := by decide +kernel
theorem dX11_init_398 : decode cX11_init 398 = .ok (.bipush 43, 2) := by decide +kernel
theorem dX11_init_400 : decode cX11_init 400 = .ok (.bipush 101, 2) := by decide +kernel
theorem dX11_init_402 : decode cX11_init 402 = .ok (.invokevirtual 106, 3) := by decide +kernel
theorem dX11_init_405 : decode cX11_init 405 = .ok (.aload_n 0, 1) := by decide +kernel
theorem dX11_init_406 : decode cX11_init 406 = .ok (.bipush 37, 2) := by decide +kernel
theorem dX11_init_408 : decode cX11_init 408 = .ok (.bipush 50, 2) := by decide +kernel
theorem dX11_init_410 : decode cX11_init 410 = .ok (.bipush 100, 2) := by decide +kernel
theorem dX11_init_412 : decode cX11_init 412 = .ok (.bipush 37, 2) := by decide +kernel
theorem dX11_init_414 : decode cX11_init 414 = .ok (.bipush 108, 2) := by decide +kernel
theorem dX11_init_416 : decode cX11_init 416 = .ok (.invokevirtual 106, 3) := by decide +kernel
theorem dX11_init_419 : decode cX11_init 419 = .ok (.aload_n 0, 1) := by decide +kernel
theorem dX11_init_420 : decode cX11_init 420 = .ok (.bipush 44, 2) := by decide +kernel
theorem dX11_init_422 : decode cX11_init 422 = .ok (.bipush 45, 2) := by decide +kernel
theorem dX11_init_424 : decode cX11_init 424 = .ok (.bipush 97, 2) := by decide +kernel
theorem dX11_init_426 : decode cX11_init 426 = .ok (.bipush 59, 2) := by decide +kernel
theorem dX11_init_428 : decode cX11_init 428 = .ok (.bipush 97, 2) := by decide +kernel
theorem dX11_init_430 : decode cX11_init 430 = .ok (.invokevirtual 106, 3) := by decide +kernel
theorem dX11_init_433 : decode cX11_init 433 = .ok (.aload_n 0, 1) := by decide +kernel
theorem dX11_init_434 : decode cX11_init 434 = .ok (.bipush 97, 2) := by decide +kernel
theorem dX11_init_436 : decode cX11_init 436 = .ok (.bipush 100, 2) := by decide +kernel
theorem dX11_init_438 : decode cX11_init 438 = .ok (.bipush 58, 2) := by decide +kernel
theorem dX11_init_440 : decode cX11_init 440 = .ok (.bipush 55, 2) := by decide +kernel
theorem dX11_init_442 : decode cX11_init 442 = .ok (.bipush 44, 2) := by decide +kernel
theorem dX11_init_444 : decode cX11_init 444 = .ok (.invokevirtual 106, 3) := by decide +kernel
theorem dX11_init_447 : decode cX11_init 447 = .ok (.aload_n 0, 1) := by decide +kernel
theorem dX11_init_448 : decode cX11_init 448 = .ok (.bipush 50, 2) := by decide +kernel
theorem dX11_init_450 : decode cX11_init 450 = .ok (.bipush 48, 2) := by decide +kernel
theorem dX11_init_452 : decode cX11_init 452 = .ok (.bipush 48, 2) := by decide +kernel
theorem dX11_init_454 : decode cX11_init 454 = .ok (.bipush 59, 2) := by decide +kernel
theorem dX11_init_456 : decode cX11_init 456 = .ok (.bipush 120, 2) := by decide +kernel
theorem dX11_init_458 : decode cX11_init 458 = .ok (.invokevirtual 106, 3) := by decide +kernel
theorem dX11_init_461 : decode cX11_init 461 = .ok (.aload_n 0, 1) := by decide +kernel
theorem dX11_init_462 : decode cX11_init 462 = .ok (.bipush 97, 2) := by decide +kernel
theorem dX11_init_464 : decode cX11_init 464 = .ok (.bipush 98, 2) := by decide +kernel
theorem dX11_init_466 : decode cX11_init 466 = .ok (.bipush 58, 2) := by decide +kernel
theorem dX11_init_468 : decode cX11_init 468 = .ok (.bipush 97, 2) := by decide +kernel
theorem dX11_init_470 : decode cX11_init 470 = .ok (.bipush 100, 2) := by decide +kernel
theorem dX11_init_472 : decode cX11_init 472 = .ok (.invokevirtual 106, 3) := by decide +kernel
theorem dX11_init_475 : decode cX11_init 475 = .ok (.aload_n 0, 1) := by decide +kernel
theorem dX11_init_476 : decode cX11_init 476 = .ok (.bipush 44, 2) := by decide +kernel
theorem dX11_init_478 : decode cX11_init 478 = .ok (.bipush 101, 2) := by decide +kernel
theorem dX11_init_480 : decode cX11_init 480 = .ok (.bipush 98, 2) := by decide +kernel
theorem dX11_init_482 : decode cX11_init 482 = .ok (.bipush 59, 2) := by decide +kernel
theorem dX11_init_484 : decode cX11_init 484 = .ok (.bipush 97, 2) := by decide +kernel
theorem dX11_init_486 : decode cX11_init 486 = .ok (.invokevirtual 106, 3) := by decide +kernel
theorem dX11_init_489 : decode cX11_init 489 = .ok (.aload_n 0, 1) := by decide +kernel
theorem dX11_init_490 : decode cX11_init 490 = .ok (.bipush 97, 2) := by decide +kernel
theorem dX11_init_492 : decode cX11_init 492 = .ok (.bipush 98, 2) := by decide +kernel
theorem dX11_init_494 : decode cX11_init 494 = .ok (.bipush 58, 2) := by decide +kernel
theorem dX11_init_496 : decode cX11_init 496 = .ok (.bipush 57, 2) := by decide +kernel
theorem dX11_init_498 : decode cX11_init 498 = .ok (.bipush 59, 2) := by decide +kernel
theorem dX11_init_500 : decode cX11_init 500 = .ok (.invokevirtual 106, 3) := by decide +kernel
theorem dX11_init_503 : decode cX11_init 503 = .ok (.aload_n 0, 1) := by decide +kernel
theorem dX11_init_504 : decode cX11_init 504 = .ok (.bipush 97, 2) := by decide +kernel
theorem dX11_init_506 : decode cX11_init 506 = .ok (.bipush 101, 2) := by decide +kernel
theorem dX11_init_508 : decode cX11_init 508 = .ok (.bipush 98, 2) := by decide +kernel
theorem dX11_init_510 : decode cX11_init 510 = .ok (.bipush 98, 2) := by decide +kernel
theorem dX11_init_512 : decode cX11_init 512 = .ok (.bipush 58, 2) := by decide +kernel
theorem dX11_init_514 : decode cX11_init 514 = .ok (.invokevirtual 106, 3) := by decide +kernel
theorem dX11_init_517 : decode cX11_init 517 = .ok (.aload_n 0, 1) := by decide +kernel
theorem dX11_init_518 : decode cX11_init 518 = .ok (.bipush 49, 2) := by decide +kernel
theorem dX11_init_520 : decode cX11_init 520 = .ok (.bipush 59, 2) := by decide +kernel
theorem dX11_init_522 : decode cX11_init 522 = .ok (.iconst 0, 1) := by decide +kernel
theorem dX11_init_523 : decode cX11_init 523 = .ok (.iconst 0, 1) := by decide +kernel
theorem dX11_init_524 : decode cX11_init 524 = .ok (.iconst 0, 1) := by decide +kernel
theorem dX11_init_525 : decode cX11_init 525 = .ok (.invokevirtual 106, 3) := by decide +kernel
theorem dX11_init_528 : decode cX11_init 528 = .ok (.aload_n 0, 1) := by decide +kernel
theorem dX11_init_529 : decode cX11_init 529 = .ok (.invokevirtual 110, 3) := by decide +kernel
theorem dX11_init_532 : decode cX11_init 532 = .ok (.pop, 1) := by decide +kernel
theorem dX11_init_533 : decode cX11_init 533 = .ok (.aload_n 0, 1) := by decide +kernel
theorem dX11_init_534 : decode cX11_init 534 = .ok (.iconst 0, 1) := by decide +kernel
theorem dX11_init_535 : decode cX11_init 535 = .ok (.putfield 114, 3) := by decide +kernel
theorem dX11_init_538 : decode cX11_init 538 = .ok (.return_, 1) := by decide +kernel
theorem dX11_tells_0 : decode cX11_tells 0 = .ok (.aload_n 0, 1) := by decide +kernel
theorem dX11_tells_1 : decode cX11_tells 1 = .ok (.iload_n 1, 1) := by decide +kernel
theorem dX11_tells_2 : decode cX11_tells 2 = .ok (.invokevirtual 118, 3) := by decide +kernel
theorem dX11_tells_5 : decode cX11_tells 5 = .ok (.pop, 1) := by decide +kernel
theorem dX11_tells_6 : decode cX11_tells 6 = .ok (.aload_n 0, 1) := by decide +kernel
theorem dX11_tells_7 : decode cX11_tells 7 = .ok (.iload_n 2, 1) := by decide +kernel
theorem dX11_tells_8 : decode cX11_tells 8 = .ok (.invokevirtual 118, 3) := by decide +kernel
theorem dX11_tells_11 : decode cX11_tells 11 = .ok (.pop, 1) := by decide +kernel
theorem dX11_tells_12 : decode cX11_tells 12 = .ok (.aload_n 0, 1) := by decide +kernel
theorem dX11_tells_13 : decode cX11_tells 13 = .ok (.iload_n 3, 1) := by decide +kernel
theorem dX11_tells_14 : decode cX11_tells 14 = .ok (.invokevirtual 118, 3) := by decide +kernel
theorem dX11_tells_17 : decode cX11_tells 17 = .ok (.pop, 1) := by decide +kernel
theorem dX11_tells_18 : decode cX11_tells 18 = .ok (.aload_n 0, 1) := by decide +kernel
theorem dX11_tells_19 : decode cX11_tells 19 = .ok (.iload 4, 2) := by decide +kernel
theorem dX11_tells_21 : decode cX11_tells 21 = .ok (.invokevirtual 118, 3) := by decide +kernel
theorem dX11_tells_24 : decode cX11_tells 24 = .ok (.pop, 1) := by decide +kernel
theorem dX11_tells_25 : decode cX11_tells 25 = .ok (.aload_n 0, 1) := by decide +kernel
theorem dX11_tells_26 : decode cX11_tells 26 = .ok (.iload 5, 2) := by decide +kernel
theorem dX11_tells_28 : decode cX11_tells 28 = .ok (.invokevirtual 118, 3) := by decide +kernel
theorem dX11_tells_31 : decode cX11_tells 31 = .ok (.pop, 1) := by decide +kernel
theorem dX11_tells_32 : decode cX11_tells 32 = .ok (.return_, 1) := by decide +kernel
theorem dX11_isIn_0 : decode cX11_isIn 0 = .ok (.iload_n 0, 1) := by decide +kernel
theorem dX11_isIn_1 : decode cX11_isIn 1 = .ok (.iload_n 1, 1) := by decide +kernel
theorem dX11_isIn_2 : decode cX11_isIn 2 = .ok (.if_icmp .lt 12, 3) := by decide +kernel
theorem dX11_isIn_5 : decode cX11_isIn 5 = .ok (.iload_n 0, 1) := by decide +kernel
theorem dX11_isIn_6 : decode cX11_isIn 6 = .ok (.iload_n 2, 1) := by decide +kernel
theorem dX11_isIn_7 : decode cX11_isIn 7 = .ok (.if_icmp .gt 7, 3) := by decide +kernel
theorem dX11_isIn_10 : decode cX11_isIn 10 = .ok (.iconst 1, 1) := by decide +kernel
theorem dX11_isIn_11 : decode cX11_isIn 11 = .ok (.goto 4, 3) := by decide +kernel
theorem dX11_isIn_14 : decode cX11_isIn 14 = .ok (.iconst 0, 1) := by decide +kernel
theorem dX11_isIn_15 : decode cX11_isIn 15 = .ok (.ireturn, 1) := by decide +kernel
theorem dX11_longer_0 : decode cX11_longer 0 = .ok (.iload_n 1, 1) := by decide +kernel
theorem dX11_longer_1 : decode cX11_longer 1 = .ok (.iconst 1, 1) := by decide +kernel
theorem dX11_longer_2 : decode cX11_longer 2 = .ok (.iadd, 1) := by decide +kernel
theorem dX11_longer_3 : decode cX11_longer 3 = .ok (.ldc 122, 2) := by decide +kernel
theorem dX11_longer_5 : decode cX11_longer 5 = .ok (.imul, 1) := by decide +kernel
theorem dX11_longer_6 : decode cX11_longer 6 = .ok (.iload_n 0, 1) := by decide +kernel
theorem dX11_longer_7 : decode cX11_longer 7 = .ok (.bipush 17, 2) := by decide +kernel
theorem dX11_longer_9 : decode cX11_longer 9 = .ok (.idiv, 1) := by decide +kernel
theorem dX11_longer_10 : decode cX11_longer 10 = .ok (.iadd, 1) := by decide +kernel
theorem dX11_longer_11 : decode cX11_longer 11 = .ok (.ireturn, 1) := by decide +kernel
theorem dX11_lettersOf_0 : decode cX11_lettersOf 0 = .ok (.iconst 0, 1) := by decide +kernel
theorem dX11_lettersOf_1 : decode cX11_lettersOf 1 = .ok (.istore_n 1, 1) := by decide +kernel
theorem dX11_lettersOf_2 : decode cX11_lettersOf 2 = .ok (.ldc 122, 2) := by decide +kernel
theorem dX11_lettersOf_4 : decode cX11_lettersOf 4 = .ok (.istore_n 2, 1) := by decide +kernel
theorem dX11_lettersOf_5 : decode cX11_lettersOf 5 = .ok (.iload_n 1, 1) := by decide +kernel
theorem dX11_lettersOf_6 : decode cX11_lettersOf 6 = .ok (.bipush 7, 2) := by decide +kernel
theorem dX11_lettersOf_8 : decode cX11_lettersOf 8 = .ok (.if_icmp .ge 32, 3) := by decide +kernel
theorem dX11_lettersOf_11 : decode cX11_lettersOf 11 = .ok (.iload_n 0, 1) := by decide +kernel
theorem dX11_lettersOf_12 : decode cX11_lettersOf 12 = .ok (.iload_n 2, 1) := by decide +kernel
theorem dX11_lettersOf_13 : decode cX11_lettersOf 13 = .ok (.idiv, 1) := by decide +kernel
theorem dX11_lettersOf_14 : decode cX11_lettersOf 14 = .ok (.bipush 17, 2) := by decide +kernel
theorem dX11_lettersOf_16 : decode cX11_lettersOf 16 = .ok (.irem, 1) := by decide +kernel
theorem dX11_lettersOf_17 : decode cX11_lettersOf 17 = .ok (.ifCond .le 23, 3) := by decide +kernel
theorem dX11_lettersOf_20 : decode cX11_lettersOf 20 = .ok (.iinc 1 1, 3) := by decide +kernel
theorem dX11_lettersOf_23 : decode cX11_lettersOf 23 = .ok (.iload_n 2, 1) := by decide +kernel
theorem dX11_lettersOf_24 : decode cX11_lettersOf 24 = .ok (.iconst 1, 1) := by decide +kernel
theorem dX11_lettersOf_25 : decode cX11_lettersOf 25 = .ok (.if_icmp .le 10, 3) := by decide +kernel
theorem dX11_lettersOf_28 : decode cX11_lettersOf 28 = .ok (.iload_n 2, 1) := by decide +kernel
theorem dX11_lettersOf_29 : decode cX11_lettersOf 29 = .ok (.bipush 17, 2) := by decide +kernel
theorem dX11_lettersOf_31 : decode cX11_lettersOf 31 = .ok (.idiv, 1) := by decide +kernel
theorem dX11_lettersOf_32 : decode cX11_lettersOf 32 = .ok (.goto 4, 3) := by decide +kernel
theorem dX11_lettersOf_35 : decode cX11_lettersOf 35 = .ok (.iconst 1, 1) := by decide +kernel
theorem dX11_lettersOf_36 : decode cX11_lettersOf 36 = .ok (.istore_n 2, 1) := by decide +kernel
theorem dX11_lettersOf_37 : decode cX11_lettersOf 37 = .ok (.goto (-32), 3) := by decide +kernel
theorem dX11_lettersOf_40 : decode cX11_lettersOf 40 = .ok (.iload_n 1, 1) := by decide +kernel
theorem dX11_lettersOf_41 : decode cX11_lettersOf 41 = .ok (.ireturn, 1) := by decide +kernel
theorem dX11_fromLast_0 : decode cX11_fromLast 0 = .ok (.ldc 122, 2) := by decide +kernel
theorem dX11_fromLast_2 : decode cX11_fromLast 2 = .ok (.istore_n 2, 1) := by decide +kernel
theorem dX11_fromLast_3 : decode cX11_fromLast 3 = .ok (.iconst 0, 1) := by decide +kernel
theorem dX11_fromLast_4 : decode cX11_fromLast 4 = .ok (.istore_n 3, 1) := by decide +kernel
theorem dX11_fromLast_5 : decode cX11_fromLast 5 = .ok (.iload_n 3, 1) := by decide +kernel
theorem dX11_fromLast_6 : decode cX11_fromLast 6 = .ok (.iload_n 1, 1) := by decide +kernel
theorem dX11_fromLast_7 : decode cX11_fromLast 7 = .ok (.if_icmp .ge 14, 3) := by decide +kernel
theorem dX11_fromLast_10 : decode cX11_fromLast 10 = .ok (.iload_n 2, 1) := by decide +kernel
theorem dX11_fromLast_11 : decode cX11_fromLast 11 = .ok (.bipush 17, 2) := by decide +kernel
theorem dX11_fromLast_13 : decode cX11_fromLast 13 = .ok (.idiv, 1) := by decide +kernel
theorem dX11_fromLast_14 : decode cX11_fromLast 14 = .ok (.istore_n 2, 1) := by decide +kernel
theorem dX11_fromLast_15 : decode cX11_fromLast 15 = .ok (.iinc 3 1, 3) := by decide +kernel
theorem dX11_fromLast_18 : decode cX11_fromLast 18 = .ok (.goto (-13), 3) := by decide +kernel
theorem dX11_fromLast_21 : decode cX11_fromLast 21 = .ok (.iload_n 0, 1) := by decide +kernel
theorem dX11_fromLast_22 : decode cX11_fromLast 22 = .ok (.iload_n 2, 1) := by decide +kernel
theorem dX11_fromLast_23 : decode cX11_fromLast 23 = .ok (.idiv, 1) := by decide +kernel
theorem dX11_fromLast_24 : decode cX11_fromLast 24 = .ok (.bipush 17, 2) := by decide +kernel
theorem dX11_fromLast_26 : decode cX11_fromLast 26 = .ok (.irem, 1) := by decide +kernel
theorem dX11_fromLast_27 : decode cX11_fromLast 27 = .ok (.iconst 1, 1) := by decide +kernel
theorem dX11_fromLast_28 : decode cX11_fromLast 28 = .ok (.isub, 1) := by decide +kernel
theorem dX11_fromLast_29 : decode cX11_fromLast 29 = .ok (.ireturn, 1) := by decide +kernel
theorem dX11_numberOf_0 : decode cX11_numberOf 0 = .ok (.iconst 0, 1) := by decide +kernel
theorem dX11_numberOf_1 : decode cX11_numberOf 1 = .ok (.istore_n 2, 1) := by decide +kernel
theorem dX11_numberOf_2 : decode cX11_numberOf 2 = .ok (.iload_n 2, 1) := by decide +kernel
theorem dX11_numberOf_3 : decode cX11_numberOf 3 = .ok (.aload_n 0, 1) := by decide +kernel
theorem dX11_numberOf_4 : decode cX11_numberOf 4 = .ok (.getfield 123, 3) := by decide +kernel
theorem dX11_numberOf_7 : decode cX11_numberOf 7 = .ok (.if_icmp .ge 21, 3) := by decide +kernel
theorem dX11_numberOf_10 : decode cX11_numberOf 10 = .ok (.aload_n 0, 1) := by decide +kernel
theorem dX11_numberOf_11 : decode cX11_numberOf 11 = .ok (.getfield 13, 3) := by decide +kernel
theorem dX11_numberOf_14 : decode cX11_numberOf 14 = .ok (.iload_n 2, 1) := by decide +kernel
theorem dX11_numberOf_15 : decode cX11_numberOf 15 = .ok (.iaload, 1) := by decide +kernel
theorem dX11_numberOf_16 : decode cX11_numberOf 16 = .ok (.iload_n 1, 1) := by decide +kernel
theorem dX11_numberOf_17 : decode cX11_numberOf 17 = .ok (.if_icmp .ne 5, 3) := by decide +kernel
theorem dX11_numberOf_20 : decode cX11_numberOf 20 = .ok (.iload_n 2, 1) := by decide +kernel
theorem dX11_numberOf_21 : decode cX11_numberOf 21 = .ok (.ireturn, 1) := by decide +kernel
theorem dX11_numberOf_22 : decode cX11_numberOf 22 = .ok (.iinc 2 1, 3) := by decide +kernel
theorem dX11_numberOf_25 : decode cX11_numberOf 25 = .ok (.goto (-23), 3) := by decide +kernel
theorem dX11_numberOf_28 : decode cX11_numberOf 28 = .ok (.bipush (-4), 2) := by decide +kernel
theorem dX11_numberOf_30 : decode cX11_numberOf 30 = .ok (.ireturn, 1) := by decide +kernel
theorem dX11_next_0 : decode cX11_next 0 = .ok (.aload_n 0, 1) := by decide +kernel
theorem dX11_next_1 : decode cX11_next 1 = .ok (.getfield 126, 3) := by decide +kernel
theorem dX11_next_4 : decode cX11_next 4 = .ok (.aload_n 0, 1) := by decide +kernel
theorem dX11_next_5 : decode cX11_next 5 = .ok (.getfield 114, 3) := by decide +kernel
theorem dX11_next_8 : decode cX11_next 8 = .ok (.if_icmp .ge 15, 3) := by decide +kernel
theorem dX11_next_11 : decode cX11_next 11 = .ok (.aload_n 0, 1) := by decide +kernel
theorem dX11_next_12 : decode cX11_next 12 = .ok (.getfield 7, 3) := by decide +kernel
theorem dX11_next_15 : decode cX11_next 15 = .ok (.aload_n 0, 1) := by decide +kernel
theorem dX11_next_16 : decode cX11_next 16 = .ok (.getfield 126, 3) := by decide +kernel
theorem dX11_next_19 : decode cX11_next 19 = .ok (.iaload, 1) := by decide +kernel
theorem dX11_next_20 : decode cX11_next 20 = .ok (.goto 4, 3) := by decide +kernel
theorem dX11_next_23 : decode cX11_next 23 = .ok (.iconst 0, 1) := by decide +kernel
theorem dX11_next_24 : decode cX11_next 24 = .ok (.ireturn, 1) := by decide +kernel
theorem dX11_comes_0 : decode cX11_comes 0 = .ok (.aload_n 0, 1) := by decide +kernel
theorem dX11_comes_1 : decode cX11_comes 1 = .ok (.invokevirtual 129, 3) := by decide +kernel
theorem dX11_comes_4 : decode cX11_comes 4 = .ok (.iload_n 1, 1) := by decide +kernel
theorem dX11_comes_5 : decode cX11_comes 5 = .ok (.if_icmp .ne 7, 3) := by decide +kernel
theorem dX11_comes_8 : decode cX11_comes 8 = .ok (.iconst 1, 1) := by decide +kernel
theorem dX11_comes_9 : decode cX11_comes 9 = .ok (.goto 4, 3) := by decide +kernel
theorem dX11_comes_12 : decode cX11_comes 12 = .ok (.iconst 0, 1) := by decide +kernel
theorem dX11_comes_13 : decode cX11_comes 13 = .ok (.istore_n 2, 1) := by decide +kernel
theorem dX11_comes_14 : decode cX11_comes 14 = .ok (.aload_n 0, 1) := by decide +kernel
theorem dX11_comes_15 : decode cX11_comes 15 = .ok (.dup, 1) := by decide +kernel
theorem dX11_comes_16 : decode cX11_comes 16 = .ok (.getfield 126, 3) := by decide +kernel
theorem dX11_comes_19 : decode cX11_comes 19 = .ok (.iload_n 2, 1) := by decide +kernel
theorem dX11_comes_20 : decode cX11_comes 20 = .ok (.ifCond .eq 7, 3) := by decide +kernel
theorem dX11_comes_23 : decode cX11_comes 23 = .ok (.iconst 1, 1) := by decide +kernel
theorem dX11_comes_24 : decode cX11_comes 24 = .ok (.goto 4, 3) := by decide +kernel
theorem dX11_comes_27 : decode cX11_comes 27 = .ok (.iconst 0, 1) := by decide +kernel
theorem dX11_comes_28 : decode cX11_comes 28 = .ok (.iadd, 1) := by decide +kernel
theorem dX11_comes_29 : decode cX11_comes 29 = .ok (.putfield 126, 3) := by decide +kernel
theorem dX11_comes_32 : decode cX11_comes 32 = .ok (.iload_n 2, 1) := by decide +kernel
theorem dX11_comes_33 : decode cX11_comes 33 = .ok (.ireturn, 1) := by decide +kernel
theorem dX11_readsName_0 : decode cX11_readsName 0 = .ok (.iconst 0, 1) := by decide +kernel
theorem dX11_readsName_1 : decode cX11_readsName 1 = .ok (.istore_n 1, 1) := by decide +kernel
theorem dX11_readsName_2 : decode cX11_readsName 2 = .ok (.aload_n 0, 1) := by decide +kernel
theorem dX11_readsName_3 : decode cX11_readsName 3 = .ok (.iconst 0, 1) := by decide +kernel
theorem dX11_readsName_4 : decode cX11_readsName 4 = .ok (.putfield 132, 3) := by decide +kernel
theorem dX11_readsName_7 : decode cX11_readsName 7 = .ok (.aload_n 0, 1) := by decide +kernel
theorem dX11_readsName_8 : decode cX11_readsName 8 = .ok (.invokevirtual 129, 3) := by decide +kernel
theorem dX11_readsName_11 : decode cX11_readsName 11 = .ok (.bipush 97, 2) := by decide +kernel
theorem dX11_readsName_13 : decode cX11_readsName 13 = .ok (.bipush 112, 2) := by decide +kernel
theorem dX11_readsName_15 : decode cX11_readsName 15 = .ok (.invokestatic 135, 3) := by decide +kernel
theorem dX11_readsName_18 : decode cX11_readsName 18 = .ok (.ifCond .eq 43, 3) := by decide +kernel
theorem dX11_readsName_21 : decode cX11_readsName 21 = .ok (.iload_n 1, 1) := by decide +kernel
theorem dX11_readsName_22 : decode cX11_readsName 22 = .ok (.bipush 8, 2) := by decide +kernel
theorem dX11_readsName_24 : decode cX11_readsName 24 = .ok (.if_icmp .ge 37, 3) := by decide +kernel
theorem dX11_readsName_27 : decode cX11_readsName 27 = .ok (.aload_n 0, 1) := by decide +kernel
theorem dX11_readsName_28 : decode cX11_readsName 28 = .ok (.aload_n 0, 1) := by decide +kernel
theorem dX11_readsName_29 : decode cX11_readsName 29 = .ok (.getfield 132, 3) := by decide +kernel
theorem dX11_readsName_32 : decode cX11_readsName 32 = .ok (.aload_n 0, 1) := by decide +kernel
theorem dX11_readsName_33 : decode cX11_readsName 33 = .ok (.invokevirtual 129, 3) := by decide +kernel
theorem dX11_readsName_36 : decode cX11_readsName 36 = .ok (.bipush 97, 2) := by decide +kernel
theorem dX11_readsName_38 : decode cX11_readsName 38 = .ok (.isub, 1) := by decide +kernel
theorem dX11_readsName_39 : decode cX11_readsName 39 = .ok (.invokestatic 139, 3) := by decide +kernel
theorem dX11_readsName_42 : decode cX11_readsName 42 = .ok (.putfield 132, 3) := by decide +kernel
theorem dX11_readsName_45 : decode cX11_readsName 45 = .ok (.aload_n 0, 1) := by decide +kernel
theorem dX11_readsName_46 : decode cX11_readsName 46 = .ok (.dup, 1) := by decide +kernel
theorem dX11_readsName_47 : decode cX11_readsName 47 = .ok (.getfield 126, 3) := by decide +kernel
theorem dX11_readsName_50 : decode cX11_readsName 50 = .ok (.iconst 1, 1) := by decide +kernel
theorem dX11_readsName_51 : decode cX11_readsName 51 = .ok (.iadd, 1) := by decide +kernel
theorem dX11_readsName_52 : decode cX11_readsName 52 = .ok (.putfield 126, 3) := by decide +kernel
theorem dX11_readsName_55 : decode cX11_readsName 55 = .ok (.iinc 1 1, 3) := by decide +kernel
theorem dX11_readsName_58 : decode cX11_readsName 58 = .ok (.goto (-51), 3) := by decide +kernel
theorem dX11_readsName_61 : decode cX11_readsName 61 = .ok (.iload_n 1, 1) := by decide +kernel
theorem dX11_readsName_62 : decode cX11_readsName 62 = .ok (.iconst 1, 1) := by decide +kernel
theorem dX11_readsName_63 : decode cX11_readsName 63 = .ok (.bipush 7, 2) := by decide +kernel
theorem dX11_readsName_65 : decode cX11_readsName 65 = .ok (.invokestatic 135, 3) := by decide +kernel
theorem dX11_readsName_68 : decode cX11_readsName 68 = .ok (.ireturn, 1) := by decide +kernel
theorem dX11_number_0 : decode cX11_number 0 = .ok (.iconst 0, 1) := by decide +kernel
theorem dX11_number_1 : decode cX11_number 1 = .ok (.istore_n 2, 1) := by decide +kernel
theorem dX11_number_2 : decode cX11_number 2 = .ok (.aload_n 0, 1) := by decide +kernel
theorem dX11_number_3 : decode cX11_number 3 = .ok (.iconst 0, 1) := by decide +kernel
theorem dX11_number_4 : decode cX11_number 4 = .ok (.putfield 132, 3) := by decide +kernel
theorem dX11_number_7 : decode cX11_number 7 = .ok (.aload_n 0, 1) := by decide +kernel
theorem dX11_number_8 : decode cX11_number 8 = .ok (.invokevirtual 129, 3) := by decide +kernel
theorem dX11_number_11 : decode cX11_number 11 = .ok (.bipush 48, 2) := by decide +kernel
theorem dX11_number_13 : decode cX11_number 13 = .ok (.bipush 57, 2) := by decide +kernel
theorem dX11_number_15 : decode cX11_number 15 = .ok (.invokestatic 135, 3) := by decide +kernel
theorem dX11_number_18 : decode cX11_number 18 = .ok (.ifCond .eq 43, 3) := by decide +kernel
theorem dX11_number_21 : decode cX11_number 21 = .ok (.iload_n 2, 1) := by decide +kernel
theorem dX11_number_22 : decode cX11_number 22 = .ok (.iconst 3, 1) := by decide +kernel
theorem dX11_number_23 : decode cX11_number 23 = .ok (.if_icmp .ge 38, 3) := by decide +kernel
theorem dX11_number_26 : decode cX11_number 26 = .ok (.aload_n 0, 1) := by decide +kernel
theorem dX11_number_27 : decode cX11_number 27 = .ok (.bipush 10, 2) := by decide +kernel
theorem dX11_number_29 : decode cX11_number 29 = .ok (.aload_n 0, 1) := by decide +kernel
theorem dX11_number_30 : decode cX11_number 30 = .ok (.getfield 132, 3) := by decide +kernel
theorem dX11_number_33 : decode cX11_number 33 = .ok (.imul, 1) := by decide +kernel
theorem dX11_number_34 : decode cX11_number 34 = .ok (.aload_n 0, 1) := by decide +kernel
theorem dX11_number_35 : decode cX11_number 35 = .ok (.invokevirtual 129, 3) := by decide +kernel
theorem dX11_number_38 : decode cX11_number 38 = .ok (.iadd, 1) := by decide +kernel
theorem dX11_number_39 : decode cX11_number 39 = .ok (.bipush 48, 2) := by decide +kernel
theorem dX11_number_41 : decode cX11_number 41 = .ok (.isub, 1) := by decide +kernel
theorem dX11_number_42 : decode cX11_number 42 = .ok (.putfield 132, 3) := by decide +kernel
theorem dX11_number_45 : decode cX11_number 45 = .ok (.aload_n 0, 1) := by decide +kernel
theorem dX11_number_46 : decode cX11_number 46 = .ok (.dup, 1) := by decide +kernel
theorem dX11_number_47 : decode cX11_number 47 = .ok (.getfield 126, 3) := by decide +kernel
theorem dX11_number_50 : decode cX11_number 50 = .ok (.iconst 1, 1) := by decide +kernel
theorem dX11_number_51 : decode cX11_number 51 = .ok (.iadd, 1) := by decide +kernel
theorem dX11_number_52 : decode cX11_number 52 = .ok (.putfield 126, 3) := by decide +kernel
theorem dX11_number_55 : decode cX11_number 55 = .ok (.iinc 2 1, 3) := by decide +kernel
theorem dX11_number_58 : decode cX11_number 58 = .ok (.goto (-51), 3) := by decide +kernel
theorem dX11_number_61 : decode cX11_number 61 = .ok (.iload_n 2, 1) := by decide +kernel
theorem dX11_number_62 : decode cX11_number 62 = .ok (.ifCond .le 15, 3) := by decide +kernel
theorem dX11_number_65 : decode cX11_number 65 = .ok (.aload_n 0, 1) := by decide +kernel
theorem dX11_number_66 : decode cX11_number 66 = .ok (.getfield 132, 3) := by decide +kernel
theorem dX11_number_69 : decode cX11_number 69 = .ok (.iload_n 1, 1) := by decide +kernel
theorem dX11_number_70 : decode cX11_number 70 = .ok (.if_icmp .gt 7, 3) := by decide +kernel
theorem dX11_number_73 : decode cX11_number 73 = .ok (.iconst 1, 1) := by decide +kernel
theorem dX11_number_74 : decode cX11_number 74 = .ok (.goto 4, 3) := by decide +kernel
theorem dX11_number_77 : decode cX11_number 77 = .ok (.iconst 0, 1) := by decide +kernel
theorem dX11_number_78 : decode cX11_number 78 = .ok (.ireturn, 1) := by decide +kernel
theorem dX11_slotOf_0 : decode cX11_slotOf 0 = .ok (.iconst 0, 1) := by decide +kernel
theorem dX11_slotOf_1 : decode cX11_slotOf 1 = .ok (.istore_n 2, 1) := by decide +kernel
theorem dX11_slotOf_2 : decode cX11_slotOf 2 = .ok (.iload_n 2, 1) := by decide +kernel
theorem dX11_slotOf_3 : decode cX11_slotOf 3 = .ok (.aload_n 0, 1) := by decide +kernel
theorem dX11_slotOf_4 : decode cX11_slotOf 4 = .ok (.getfield 143, 3) := by decide +kernel
theorem dX11_slotOf_7 : decode cX11_slotOf 7 = .ok (.if_icmp .ge 21, 3) := by decide +kernel
theorem dX11_slotOf_10 : decode cX11_slotOf 10 = .ok (.aload_n 0, 1) := by decide +kernel
theorem dX11_slotOf_11 : decode cX11_slotOf 11 = .ok (.getfield 52, 3) := by decide +kernel
theorem dX11_slotOf_14 : decode cX11_slotOf 14 = .ok (.iload_n 2, 1) := by decide +kernel
theorem dX11_slotOf_15 : decode cX11_slotOf 15 = .ok (.iaload, 1) := by decide +kernel
theorem dX11_slotOf_16 : decode cX11_slotOf 16 = .ok (.iload_n 1, 1) := by decide +kernel
theorem dX11_slotOf_17 : decode cX11_slotOf 17 = .ok (.if_icmp .ne 5, 3) := by decide +kernel
theorem dX11_slotOf_20 : decode cX11_slotOf 20 = .ok (.iload_n 2, 1) := by decide +kernel
theorem dX11_slotOf_21 : decode cX11_slotOf 21 = .ok (.ireturn, 1) := by decide +kernel
theorem dX11_slotOf_22 : decode cX11_slotOf 22 = .ok (.iinc 2 1, 3) := by decide +kernel
theorem dX11_slotOf_25 : decode cX11_slotOf 25 = .ok (.goto (-23), 3) := by decide +kernel
theorem dX11_slotOf_28 : decode cX11_slotOf 28 = .ok (.aload_n 0, 1) := by decide +kernel
theorem dX11_slotOf_29 : decode cX11_slotOf 29 = .ok (.getfield 143, 3) := by decide +kernel
theorem dX11_slotOf_32 : decode cX11_slotOf 32 = .ok (.bipush 12, 2) := by decide +kernel
theorem dX11_slotOf_34 : decode cX11_slotOf 34 = .ok (.if_icmp .ne 6, 3) := by decide +kernel
theorem dX11_slotOf_37 : decode cX11_slotOf 37 = .ok (.bipush (-4), 2) := by decide +kernel
theorem dX11_slotOf_39 : decode cX11_slotOf 39 = .ok (.ireturn, 1) := by decide +kernel
theorem dX11_slotOf_40 : decode cX11_slotOf 40 = .ok (.aload_n 0, 1) := by decide +kernel
theorem dX11_slotOf_41 : decode cX11_slotOf 41 = .ok (.getfield 52, 3) := by decide +kernel
theorem dX11_slotOf_44 : decode cX11_slotOf 44 = .ok (.aload_n 0, 1) := by decide +kernel
theorem dX11_slotOf_45 : decode cX11_slotOf 45 = .ok (.getfield 143, 3) := by decide +kernel
theorem dX11_slotOf_48 : decode cX11_slotOf 48 = .ok (.iload_n 1, 1) := by decide +kernel
theorem dX11_slotOf_49 : decode cX11_slotOf 49 = .ok (.iastore, 1) := by decide +kernel
theorem dX11_slotOf_50 : decode cX11_slotOf 50 = .ok (.aload_n 0, 1) := by decide +kernel
theorem dX11_slotOf_51 : decode cX11_slotOf 51 = .ok (.getfield 55, 3) := by decide +kernel
theorem dX11_slotOf_54 : decode cX11_slotOf 54 = .ok (.aload_n 0, 1) := by decide +kernel
theorem dX11_slotOf_55 : decode cX11_slotOf 55 = .ok (.getfield 143, 3) := by decide +kernel
theorem dX11_slotOf_58 : decode cX11_slotOf 58 = .ok (.iconst 0, 1) := by decide +kernel
theorem dX11_slotOf_59 : decode cX11_slotOf 59 = .ok (.iastore, 1) := by decide +kernel
theorem dX11_slotOf_60 : decode cX11_slotOf 60 = .ok (.aload_n 0, 1) := by decide +kernel
theorem dX11_slotOf_61 : decode cX11_slotOf 61 = .ok (.getfield 58, 3) := by decide +kernel
theorem dX11_slotOf_64 : decode cX11_slotOf 64 = .ok (.aload_n 0, 1) := by decide +kernel
theorem dX11_slotOf_65 : decode cX11_slotOf 65 = .ok (.getfield 143, 3) := by decide +kernel
theorem dX11_slotOf_68 : decode cX11_slotOf 68 = .ok (.iconst 0, 1) := by decide +kernel
theorem dX11_slotOf_69 : decode cX11_slotOf 69 = .ok (.iastore, 1) := by decide +kernel
theorem dX11_slotOf_70 : decode cX11_slotOf 70 = .ok (.aload_n 0, 1) := by decide +kernel
theorem dX11_slotOf_71 : decode cX11_slotOf 71 = .ok (.getfield 61, 3) := by decide +kernel
theorem dX11_slotOf_74 : decode cX11_slotOf 74 = .ok (.aload_n 0, 1) := by decide +kernel
theorem dX11_slotOf_75 : decode cX11_slotOf 75 = .ok (.getfield 143, 3) := by decide +kernel
theorem dX11_slotOf_78 : decode cX11_slotOf 78 = .ok (.iconst 0, 1) := by decide +kernel
theorem dX11_slotOf_79 : decode cX11_slotOf 79 = .ok (.iastore, 1) := by decide +kernel
theorem dX11_slotOf_80 : decode cX11_slotOf 80 = .ok (.aload_n 0, 1) := by decide +kernel
theorem dX11_slotOf_81 : decode cX11_slotOf 81 = .ok (.getfield 88, 3) := by decide +kernel
theorem dX11_slotOf_84 : decode cX11_slotOf 84 = .ok (.aload_n 0, 1) := by decide +kernel
theorem dX11_slotOf_85 : decode cX11_slotOf 85 = .ok (.getfield 143, 3) := by decide +kernel
theorem dX11_slotOf_88 : decode cX11_slotOf 88 = .ok (.iconst 0, 1) := by decide +kernel
theorem dX11_slotOf_89 : decode cX11_slotOf 89 = .ok (.iastore, 1) := by decide +kernel
theorem dX11_slotOf_90 : decode cX11_slotOf 90 = .ok (.aload_n 0, 1) := by decide +kernel
theorem dX11_slotOf_91 : decode cX11_slotOf 91 = .ok (.dup, 1) := by decide +kernel
theorem dX11_slotOf_92 : decode cX11_slotOf 92 = .ok (.getfield 143, 3) := by decide +kernel
theorem dX11_slotOf_95 : decode cX11_slotOf 95 = .ok (.iconst 1, 1) := by decide +kernel
theorem dX11_slotOf_96 : decode cX11_slotOf 96 = .ok (.iadd, 1) := by decide +kernel
theorem dX11_slotOf_97 : decode cX11_slotOf 97 = .ok (.putfield 143, 3) := by decide +kernel
theorem dX11_slotOf_100 : decode cX11_slotOf 100 = .ok (.aload_n 0, 1) := by decide +kernel
theorem dX11_slotOf_101 : decode cX11_slotOf 101 = .ok (.getfield 143, 3) := by decide +kernel
theorem dX11_slotOf_104 : decode cX11_slotOf 104 = .ok (.iconst 1, 1) := by decide +kernel
theorem dX11_slotOf_105 : decode cX11_slotOf 105 = .ok (.isub, 1) := by decide +kernel
theorem dX11_slotOf_106 : decode cX11_slotOf 106 = .ok (.ireturn, 1) := by decide +kernel
theorem dX11_sortOf_0 : decode cX11_sortOf 0 = .ok (.iload_n 0, 1) := by decide +kernel
theorem dX11_sortOf_1 : decode cX11_sortOf 1 = .ok (.bipush 100, 2) := by decide +kernel
theorem dX11_sortOf_3 : decode cX11_sortOf 3 = .ok (.if_icmp .ne 7, 3) := by decide +kernel
theorem dX11_sortOf_6 : decode cX11_sortOf 6 = .ok (.iconst 0, 1) := by decide +kernel
theorem dX11_sortOf_7 : decode cX11_sortOf 7 = .ok (.goto 35, 3) := by decide +kernel
theorem dX11_sortOf_10 : decode cX11_sortOf 10 = .ok (.iload_n 0, 1) := by decide +kernel
theorem dX11_sortOf_11 : decode cX11_sortOf 11 = .ok (.bipush 111, 2) := by decide +kernel
theorem dX11_sortOf_13 : decode cX11_sortOf 13 = .ok (.if_icmp .ne 7, 3) := by decide +kernel
theorem dX11_sortOf_16 : decode cX11_sortOf 16 = .ok (.iconst 1, 1) := by decide +kernel
theorem dX11_sortOf_17 : decode cX11_sortOf 17 = .ok (.goto 25, 3) := by decide +kernel
theorem dX11_sortOf_20 : decode cX11_sortOf 20 = .ok (.iload_n 0, 1) := by decide +kernel
theorem dX11_sortOf_21 : decode cX11_sortOf 21 = .ok (.bipush 115, 2) := by decide +kernel
theorem dX11_sortOf_23 : decode cX11_sortOf 23 = .ok (.if_icmp .ne 7, 3) := by decide +kernel
theorem dX11_sortOf_26 : decode cX11_sortOf 26 = .ok (.iconst 2, 1) := by decide +kernel
theorem dX11_sortOf_27 : decode cX11_sortOf 27 = .ok (.goto 15, 3) := by decide +kernel
theorem dX11_sortOf_30 : decode cX11_sortOf 30 = .ok (.iload_n 0, 1) := by decide +kernel
theorem dX11_sortOf_31 : decode cX11_sortOf 31 = .ok (.bipush 108, 2) := by decide +kernel
theorem dX11_sortOf_33 : decode cX11_sortOf 33 = .ok (.if_icmp .ne 7, 3) := by decide +kernel
theorem dX11_sortOf_36 : decode cX11_sortOf 36 = .ok (.iconst 3, 1) := by decide +kernel
theorem dX11_sortOf_37 : decode cX11_sortOf 37 = .ok (.goto 5, 3) := by decide +kernel
theorem dX11_sortOf_40 : decode cX11_sortOf 40 = .ok (.bipush (-4), 2) := by decide +kernel
theorem dX11_sortOf_42 : decode cX11_sortOf 42 = .ok (.ireturn, 1) := by decide +kernel
theorem dX11_readsPart_0 : decode cX11_readsPart 0 = .ok (.aload_n 0, 1) := by decide +kernel
theorem dX11_readsPart_1 : decode cX11_readsPart 1 = .ok (.invokevirtual 129, 3) := by decide +kernel
theorem dX11_readsPart_4 : decode cX11_readsPart 4 = .ok (.bipush 97, 2) := by decide +kernel
theorem dX11_readsPart_6 : decode cX11_readsPart 6 = .ok (.bipush 112, 2) := by decide +kernel
theorem dX11_readsPart_8 : decode cX11_readsPart 8 = .ok (.invokestatic 135, 3) := by decide +kernel
theorem dX11_readsPart_11 : decode cX11_readsPart 11 = .ok (.ifCond .eq 26, 3) := by decide +kernel
theorem dX11_readsPart_14 : decode cX11_readsPart 14 = .ok (.aload_n 0, 1) := by decide +kernel
theorem dX11_readsPart_15 : decode cX11_readsPart 15 = .ok (.aload_n 0, 1) := by decide +kernel
theorem dX11_readsPart_16 : decode cX11_readsPart 16 = .ok (.invokevirtual 129, 3) := by decide +kernel
theorem dX11_readsPart_19 : decode cX11_readsPart 19 = .ok (.bipush 97, 2) := by decide +kernel
theorem dX11_readsPart_21 : decode cX11_readsPart 21 = .ok (.isub, 1) := by decide +kernel
theorem dX11_readsPart_22 : decode cX11_readsPart 22 = .ok (.putfield 132, 3) := by decide +kernel
theorem dX11_readsPart_25 : decode cX11_readsPart 25 = .ok (.aload_n 0, 1) := by decide +kernel
theorem dX11_readsPart_26 : decode cX11_readsPart 26 = .ok (.dup, 1) := by decide +kernel
theorem dX11_readsPart_27 : decode cX11_readsPart 27 = .ok (.getfield 126, 3) := by decide +kernel
theorem dX11_readsPart_30 : decode cX11_readsPart 30 = .ok (.iconst 1, 1) := by decide +kernel
theorem dX11_readsPart_31 : decode cX11_readsPart 31 = .ok (.iadd, 1) := by decide +kernel
theorem dX11_readsPart_32 : decode cX11_readsPart 32 = .ok (.putfield 126, 3) := by decide +kernel
theorem dX11_readsPart_35 : decode cX11_readsPart 35 = .ok (.iconst 1, 1) := by decide +kernel
theorem dX11_readsPart_36 : decode cX11_readsPart 36 = .ok (.ireturn, 1) := by decide +kernel
theorem dX11_readsPart_37 : decode cX11_readsPart 37 = .ok (.aload_n 0, 1) := by decide +kernel
theorem dX11_readsPart_38 : decode cX11_readsPart 38 = .ok (.bipush 37, 2) := by decide +kernel
theorem dX11_readsPart_40 : decode cX11_readsPart 40 = .ok (.invokevirtual 146, 3) := by decide +kernel
theorem dX11_readsPart_43 : decode cX11_readsPart 43 = .ok (.ifCond .ne 5, 3) := by decide +kernel
theorem dX11_readsPart_46 : decode cX11_readsPart 46 = .ok (.iconst 0, 1) := by decide +kernel
theorem dX11_readsPart_47 : decode cX11_readsPart 47 = .ok (.ireturn, 1) := by decide +kernel
theorem dX11_readsPart_48 : decode cX11_readsPart 48 = .ok (.aload_n 0, 1) := by decide +kernel
theorem dX11_readsPart_49 : decode cX11_readsPart 49 = .ok (.bipush 16, 2) := by decide +kernel
theorem dX11_readsPart_51 : decode cX11_readsPart 51 = .ok (.aload_n 0, 1) := by decide +kernel
theorem dX11_readsPart_52 : decode cX11_readsPart 52 = .ok (.bipush 45, 2) := by decide +kernel
theorem dX11_readsPart_54 : decode cX11_readsPart 54 = .ok (.invokevirtual 146, 3) := by decide +kernel
theorem dX11_readsPart_57 : decode cX11_readsPart 57 = .ok (.ifCond .eq 7, 3) := by decide +kernel
theorem dX11_readsPart_60 : decode cX11_readsPart 60 = .ok (.iconst 4, 1) := by decide +kernel
theorem dX11_readsPart_61 : decode cX11_readsPart 61 = .ok (.goto 4, 3) := by decide +kernel
theorem dX11_readsPart_64 : decode cX11_readsPart 64 = .ok (.iconst 0, 1) := by decide +kernel
theorem dX11_readsPart_65 : decode cX11_readsPart 65 = .ok (.iadd, 1) := by decide +kernel
theorem dX11_readsPart_66 : decode cX11_readsPart 66 = .ok (.putfield 132, 3) := by decide +kernel
theorem dX11_readsPart_69 : decode cX11_readsPart 69 = .ok (.aload_n 0, 1) := by decide +kernel
theorem dX11_readsPart_70 : decode cX11_readsPart 70 = .ok (.invokevirtual 129, 3) := by decide +kernel
theorem dX11_readsPart_73 : decode cX11_readsPart 73 = .ok (.bipush 49, 2) := by decide +kernel
theorem dX11_readsPart_75 : decode cX11_readsPart 75 = .ok (.bipush 55, 2) := by decide +kernel
theorem dX11_readsPart_77 : decode cX11_readsPart 77 = .ok (.invokestatic 135, 3) := by decide +kernel
theorem dX11_readsPart_80 : decode cX11_readsPart 80 = .ok (.ifCond .eq 32, 3) := by decide +kernel
theorem dX11_readsPart_83 : decode cX11_readsPart 83 = .ok (.aload_n 0, 1) := by decide +kernel
theorem dX11_readsPart_84 : decode cX11_readsPart 84 = .ok (.dup, 1) := by decide +kernel
theorem dX11_readsPart_85 : decode cX11_readsPart 85 = .ok (.getfield 132, 3) := by decide +kernel
theorem dX11_readsPart_88 : decode cX11_readsPart 88 = .ok (.bipush 8, 2) := by decide +kernel
theorem dX11_readsPart_90 : decode cX11_readsPart 90 = .ok (.aload_n 0, 1) := by decide +kernel
theorem dX11_readsPart_91 : decode cX11_readsPart 91 = .ok (.invokevirtual 129, 3) := by decide +kernel
theorem dX11_readsPart_94 : decode cX11_readsPart 94 = .ok (.bipush 48, 2) := by decide +kernel
theorem dX11_readsPart_96 : decode cX11_readsPart 96 = .ok (.isub, 1) := by decide +kernel
theorem dX11_readsPart_97 : decode cX11_readsPart 97 = .ok (.imul, 1) := by decide +kernel
theorem dX11_readsPart_98 : decode cX11_readsPart 98 = .ok (.iadd, 1) := by decide +kernel
theorem dX11_readsPart_99 : decode cX11_readsPart 99 = .ok (.putfield 132, 3) := by decide +kernel
theorem dX11_readsPart_102 : decode cX11_readsPart 102 = .ok (.aload_n 0, 1) := by decide +kernel
theorem dX11_readsPart_103 : decode cX11_readsPart 103 = .ok (.dup, 1) := by decide +kernel
theorem dX11_readsPart_104 : decode cX11_readsPart 104 = .ok (.getfield 126, 3) := by decide +kernel
theorem dX11_readsPart_107 : decode cX11_readsPart 107 = .ok (.iconst 1, 1) := by decide +kernel
theorem dX11_readsPart_108 : decode cX11_readsPart 108 = .ok (.iadd, 1) := by decide +kernel
theorem dX11_readsPart_109 : decode cX11_readsPart 109 = .ok (.putfield 126, 3) := by decide +kernel
theorem dX11_readsPart_112 : decode cX11_readsPart 112 = .ok (.aload_n 0, 1) := by decide +kernel
theorem dX11_readsPart_113 : decode cX11_readsPart 113 = .ok (.invokevirtual 129, 3) := by decide +kernel
theorem dX11_readsPart_116 : decode cX11_readsPart 116 = .ok (.invokestatic 150, 3) := by decide +kernel
theorem dX11_readsPart_119 : decode cX11_readsPart 119 = .ok (.istore_n 1, 1) := by decide +kernel
theorem dX11_readsPart_120 : decode cX11_readsPart 120 = .ok (.aload_n 0, 1) := by decide +kernel
theorem dX11_readsPart_121 : decode cX11_readsPart 121 = .ok (.dup, 1) := by decide +kernel
theorem dX11_readsPart_122 : decode cX11_readsPart 122 = .ok (.getfield 126, 3) := by decide +kernel
theorem dX11_readsPart_125 : decode cX11_readsPart 125 = .ok (.iconst 1, 1) := by decide +kernel
theorem dX11_readsPart_126 : decode cX11_readsPart 126 = .ok (.iadd, 1) := by decide +kernel
theorem dX11_readsPart_127 : decode cX11_readsPart 127 = .ok (.putfield 126, 3) := by decide +kernel
theorem dX11_readsPart_130 : decode cX11_readsPart 130 = .ok (.aload_n 0, 1) := by decide +kernel
theorem dX11_readsPart_131 : decode cX11_readsPart 131 = .ok (.dup, 1) := by decide +kernel
theorem dX11_readsPart_132 : decode cX11_readsPart 132 = .ok (.getfield 132, 3) := by decide +kernel
theorem dX11_readsPart_135 : decode cX11_readsPart 135 = .ok (.iload_n 1, 1) := by decide +kernel
theorem dX11_readsPart_136 : decode cX11_readsPart 136 = .ok (.iadd, 1) := by decide +kernel
theorem dX11_readsPart_137 : decode cX11_readsPart 137 = .ok (.putfield 132, 3) := by decide +kernel
theorem dX11_readsPart_140 : decode cX11_readsPart 140 = .ok (.iload_n 1, 1) := by decide +kernel
theorem dX11_readsPart_141 : decode cX11_readsPart 141 = .ok (.bipush (-4), 2) := by decide +kernel
theorem dX11_readsPart_143 : decode cX11_readsPart 143 = .ok (.if_icmp .eq 7, 3) := by decide +kernel
theorem dX11_readsPart_146 : decode cX11_readsPart 146 = .ok (.iconst 1, 1) := by decide +kernel
theorem dX11_readsPart_147 : decode cX11_readsPart 147 = .ok (.goto 4, 3) := by decide +kernel
theorem dX11_readsPart_150 : decode cX11_readsPart 150 = .ok (.iconst 0, 1) := by decide +kernel
theorem dX11_readsPart_151 : decode cX11_readsPart 151 = .ok (.ireturn, 1) := by decide +kernel
theorem dX11_macro_0 : decode cX11_macro 0 = .ok (.iconst 0, 1) := by decide +kernel
theorem dX11_macro_1 : decode cX11_macro 1 = .ok (.istore_n 2, 1) := by decide +kernel
theorem dX11_macro_2 : decode cX11_macro 2 = .ok (.aload_n 0, 1) := by decide +kernel
theorem dX11_macro_3 : decode cX11_macro 3 = .ok (.invokevirtual 129, 3) := by decide +kernel
theorem dX11_macro_6 : decode cX11_macro 6 = .ok (.bipush 44, 2) := by decide +kernel
theorem dX11_macro_8 : decode cX11_macro 8 = .ok (.if_icmp .eq 48, 3) := by decide +kernel
theorem dX11_macro_11 : decode cX11_macro 11 = .ok (.aload_n 0, 1) := by decide +kernel
theorem dX11_macro_12 : decode cX11_macro 12 = .ok (.invokevirtual 129, 3) := by decide +kernel
theorem dX11_macro_15 : decode cX11_macro 15 = .ok (.bipush 59, 2) := by decide +kernel
theorem dX11_macro_17 : decode cX11_macro 17 = .ok (.if_icmp .eq 39, 3) := by decide +kernel
theorem dX11_macro_20 : decode cX11_macro 20 = .ok (.iload_n 2, 1) := by decide +kernel
theorem dX11_macro_21 : decode cX11_macro 21 = .ok (.bipush 8, 2) := by decide +kernel
theorem dX11_macro_23 : decode cX11_macro 23 = .ok (.if_icmp .eq 10, 3) := by decide +kernel
theorem dX11_macro_26 : decode cX11_macro 26 = .ok (.aload_n 0, 1) := by decide +kernel
theorem dX11_macro_27 : decode cX11_macro 27 = .ok (.invokevirtual 153, 3) := by decide +kernel
theorem dX11_macro_30 : decode cX11_macro 30 = .ok (.ifCond .ne 5, 3) := by decide +kernel
theorem dX11_macro_33 : decode cX11_macro 33 = .ok (.iconst 0, 1) := by decide +kernel
theorem dX11_macro_34 : decode cX11_macro 34 = .ok (.ireturn, 1) := by decide +kernel
theorem dX11_macro_35 : decode cX11_macro 35 = .ok (.aload_n 0, 1) := by decide +kernel
theorem dX11_macro_36 : decode cX11_macro 36 = .ok (.getfield 82, 3) := by decide +kernel
theorem dX11_macro_39 : decode cX11_macro 39 = .ok (.bipush 8, 2) := by decide +kernel
theorem dX11_macro_41 : decode cX11_macro 41 = .ok (.iload_n 1, 1) := by decide +kernel
theorem dX11_macro_42 : decode cX11_macro 42 = .ok (.imul, 1) := by decide +kernel
theorem dX11_macro_43 : decode cX11_macro 43 = .ok (.iload_n 2, 1) := by decide +kernel
theorem dX11_macro_44 : decode cX11_macro 44 = .ok (.iadd, 1) := by decide +kernel
theorem dX11_macro_45 : decode cX11_macro 45 = .ok (.aload_n 0, 1) := by decide +kernel
theorem dX11_macro_46 : decode cX11_macro 46 = .ok (.getfield 132, 3) := by decide +kernel
theorem dX11_macro_49 : decode cX11_macro 49 = .ok (.iastore, 1) := by decide +kernel
theorem dX11_macro_50 : decode cX11_macro 50 = .ok (.iinc 2 1, 3) := by decide +kernel
theorem dX11_macro_53 : decode cX11_macro 53 = .ok (.goto (-51), 3) := by decide +kernel
theorem dX11_macro_56 : decode cX11_macro 56 = .ok (.aload_n 0, 1) := by decide +kernel
theorem dX11_macro_57 : decode cX11_macro 57 = .ok (.getfield 79, 3) := by decide +kernel
theorem dX11_macro_60 : decode cX11_macro 60 = .ok (.iload_n 1, 1) := by decide +kernel
theorem dX11_macro_61 : decode cX11_macro 61 = .ok (.iload_n 2, 1) := by decide +kernel
theorem dX11_macro_62 : decode cX11_macro 62 = .ok (.iastore, 1) := by decide +kernel
theorem dX11_macro_63 : decode cX11_macro 63 = .ok (.iload_n 2, 1) := by decide +kernel
theorem dX11_macro_64 : decode cX11_macro 64 = .ok (.ifCond .le 7, 3) := by decide +kernel
theorem dX11_macro_67 : decode cX11_macro 67 = .ok (.iconst 1, 1) := by decide +kernel
theorem dX11_macro_68 : decode cX11_macro 68 = .ok (.goto 4, 3) := by decide +kernel
theorem dX11_macro_71 : decode cX11_macro 71 = .ok (.iconst 0, 1) := by decide +kernel
theorem dX11_macro_72 : decode cX11_macro 72 = .ok (.ireturn, 1) := by decide +kernel
theorem dX11_asks_0 : decode cX11_asks 0 = .ok (.aload_n 0, 1) := by decide +kernel
theorem dX11_asks_1 : decode cX11_asks 1 = .ok (.invokevirtual 129, 3) := by decide +kernel
theorem dX11_asks_4 : decode cX11_asks 4 = .ok (.istore_n 2, 1) := by decide +kernel
theorem dX11_asks_5 : decode cX11_asks 5 = .ok (.aload_n 0, 1) := by decide +kernel
theorem dX11_asks_6 : decode cX11_asks 6 = .ok (.dup, 1) := by decide +kernel
theorem dX11_asks_7 : decode cX11_asks 7 = .ok (.getfield 126, 3) := by decide +kernel
theorem dX11_asks_10 : decode cX11_asks 10 = .ok (.iconst 1, 1) := by decide +kernel
theorem dX11_asks_11 : decode cX11_asks 11 = .ok (.iadd, 1) := by decide +kernel
theorem dX11_asks_12 : decode cX11_asks 12 = .ok (.putfield 126, 3) := by decide +kernel
theorem dX11_asks_15 : decode cX11_asks 15 = .ok (.aload_n 0, 1) := by decide +kernel
theorem dX11_asks_16 : decode cX11_asks 16 = .ok (.getfield 70, 3) := by decide +kernel
theorem dX11_asks_19 : decode cX11_asks 19 = .ok (.iload_n 1, 1) := by decide +kernel
theorem dX11_asks_20 : decode cX11_asks 20 = .ok (.bipush (-4), 2) := by decide +kernel
theorem dX11_asks_22 : decode cX11_asks 22 = .ok (.iastore, 1) := by decide +kernel
theorem dX11_asks_23 : decode cX11_asks 23 = .ok (.aload_n 0, 1) := by decide +kernel
theorem dX11_asks_24 : decode cX11_asks 24 = .ok (.getfield 73, 3) := by decide +kernel
theorem dX11_asks_27 : decode cX11_asks 27 = .ok (.iload_n 1, 1) := by decide +kernel
theorem dX11_asks_28 : decode cX11_asks 28 = .ok (.bipush (-4), 2) := by decide +kernel
theorem dX11_asks_30 : decode cX11_asks 30 = .ok (.iastore, 1) := by decide +kernel
theorem dX11_asks_31 : decode cX11_asks 31 = .ok (.aload_n 0, 1) := by decide +kernel
theorem dX11_asks_32 : decode cX11_asks 32 = .ok (.getfield 76, 3) := by decide +kernel
theorem dX11_asks_35 : decode cX11_asks 35 = .ok (.iload_n 1, 1) := by decide +kernel
theorem dX11_asks_36 : decode cX11_asks 36 = .ok (.iconst 0, 1) := by decide +kernel
theorem dX11_asks_37 : decode cX11_asks 37 = .ok (.iastore, 1) := by decide +kernel
theorem dX11_asks_38 : decode cX11_asks 38 = .ok (.aload_n 0, 1) := by decide +kernel
theorem dX11_asks_39 : decode cX11_asks 39 = .ok (.getfield 79, 3) := by decide +kernel
theorem dX11_asks_42 : decode cX11_asks 42 = .ok (.iload_n 1, 1) := by decide +kernel
theorem dX11_asks_43 : decode cX11_asks 43 = .ok (.iconst 0, 1) := by decide +kernel
theorem dX11_asks_44 : decode cX11_asks 44 = .ok (.iastore, 1) := by decide +kernel
theorem dX11_asks_45 : decode cX11_asks 45 = .ok (.iload_n 2, 1) := by decide +kernel
theorem dX11_asks_46 : decode cX11_asks 46 = .ok (.lookupswitch 121 #[(97, 34), (101, 108), (112, 43)], 34) := by decide +kernel
theorem dX11_asks_80 : decode cX11_asks 80 = .ok (.aload_n 0, 1) := by decide +kernel
theorem dX11_asks_81 : decode cX11_asks 81 = .ok (.getfield 67, 3) := by decide +kernel
theorem dX11_asks_84 : decode cX11_asks 84 = .ok (.iload_n 1, 1) := by decide +kernel
theorem dX11_asks_85 : decode cX11_asks 85 = .ok (.iconst 0, 1) := by decide +kernel
theorem dX11_asks_86 : decode cX11_asks 86 = .ok (.iastore, 1) := by decide +kernel
theorem dX11_asks_87 : decode cX11_asks 87 = .ok (.iconst 1, 1) := by decide +kernel
theorem dX11_asks_88 : decode cX11_asks 88 = .ok (.ireturn, 1) := by decide +kernel
theorem dX11_asks_89 : decode cX11_asks 89 = .ok (.aload_n 0, 1) := by decide +kernel
theorem dX11_asks_90 : decode cX11_asks 90 = .ok (.getfield 67, 3) := by decide +kernel
theorem dX11_asks_93 : decode cX11_asks 93 = .ok (.iload_n 1, 1) := by decide +kernel
theorem dX11_asks_94 : decode cX11_asks 94 = .ok (.iconst 1, 1) := by decide +kernel
theorem dX11_asks_95 : decode cX11_asks 95 = .ok (.iastore, 1) := by decide +kernel
theorem dX11_asks_96 : decode cX11_asks 96 = .ok (.aload_n 0, 1) := by decide +kernel
theorem dX11_asks_97 : decode cX11_asks 97 = .ok (.sipush 255, 3) := by decide +kernel
theorem dX11_asks_100 : decode cX11_asks 100 = .ok (.invokevirtual 157, 3) := by decide +kernel
theorem dX11_asks_103 : decode cX11_asks 103 = .ok (.istore_n 3, 1) := by decide +kernel
theorem dX11_asks_104 : decode cX11_asks 104 = .ok (.aload_n 0, 1) := by decide +kernel
theorem dX11_asks_105 : decode cX11_asks 105 = .ok (.getfield 70, 3) := by decide +kernel
theorem dX11_asks_108 : decode cX11_asks 108 = .ok (.iload_n 1, 1) := by decide +kernel
theorem dX11_asks_109 : decode cX11_asks 109 = .ok (.aload_n 0, 1) := by decide +kernel
theorem dX11_asks_110 : decode cX11_asks 110 = .ok (.getfield 132, 3) := by decide +kernel
theorem dX11_asks_113 : decode cX11_asks 113 = .ok (.iastore, 1) := by decide +kernel
theorem dX11_asks_114 : decode cX11_asks 114 = .ok (.iload_n 3, 1) := by decide +kernel
theorem dX11_asks_115 : decode cX11_asks 115 = .ok (.ifCond .eq 25, 3) := by decide +kernel
theorem dX11_asks_118 : decode cX11_asks 118 = .ok (.aload_n 0, 1) := by decide +kernel
theorem dX11_asks_119 : decode cX11_asks 119 = .ok (.bipush 47, 2) := by decide +kernel
theorem dX11_asks_121 : decode cX11_asks 121 = .ok (.invokevirtual 146, 3) := by decide +kernel
theorem dX11_asks_124 : decode cX11_asks 124 = .ok (.ifCond .eq 16, 3) := by decide +kernel
theorem dX11_asks_127 : decode cX11_asks 127 = .ok (.aload_n 0, 1) := by decide +kernel
theorem dX11_asks_128 : decode cX11_asks 128 = .ok (.bipush 8, 2) := by decide +kernel
theorem dX11_asks_130 : decode cX11_asks 130 = .ok (.invokevirtual 157, 3) := by decide +kernel
theorem dX11_asks_133 : decode cX11_asks 133 = .ok (.ifCond .eq 7, 3) := by decide +kernel
theorem dX11_asks_136 : decode cX11_asks 136 = .ok (.iconst 1, 1) := by decide +kernel
theorem dX11_asks_137 : decode cX11_asks 137 = .ok (.goto 4, 3) := by decide +kernel
theorem dX11_asks_140 : decode cX11_asks 140 = .ok (.iconst 0, 1) := by decide +kernel
theorem dX11_asks_141 : decode cX11_asks 141 = .ok (.istore_n 3, 1) := by decide +kernel
theorem dX11_asks_142 : decode cX11_asks 142 = .ok (.aload_n 0, 1) := by decide +kernel
theorem dX11_asks_143 : decode cX11_asks 143 = .ok (.getfield 73, 3) := by decide +kernel
theorem dX11_asks_146 : decode cX11_asks 146 = .ok (.iload_n 1, 1) := by decide +kernel
theorem dX11_asks_147 : decode cX11_asks 147 = .ok (.aload_n 0, 1) := by decide +kernel
theorem dX11_asks_148 : decode cX11_asks 148 = .ok (.getfield 132, 3) := by decide +kernel
theorem dX11_asks_151 : decode cX11_asks 151 = .ok (.iastore, 1) := by decide +kernel
theorem dX11_asks_152 : decode cX11_asks 152 = .ok (.iload_n 3, 1) := by decide +kernel
theorem dX11_asks_153 : decode cX11_asks 153 = .ok (.ireturn, 1) := by decide +kernel
theorem dX11_asks_154 : decode cX11_asks 154 = .ok (.aload_n 0, 1) := by decide +kernel
theorem dX11_asks_155 : decode cX11_asks 155 = .ok (.getfield 67, 3) := by decide +kernel
theorem dX11_asks_158 : decode cX11_asks 158 = .ok (.iload_n 1, 1) := by decide +kernel
theorem dX11_asks_159 : decode cX11_asks 159 = .ok (.iconst 5, 1) := by decide +kernel
theorem dX11_asks_160 : decode cX11_asks 160 = .ok (.iastore, 1) := by decide +kernel
theorem dX11_asks_161 : decode cX11_asks 161 = .ok (.aload_n 0, 1) := by decide +kernel
theorem dX11_asks_162 : decode cX11_asks 162 = .ok (.iload_n 1, 1) := by decide +kernel
theorem dX11_asks_163 : decode cX11_asks 163 = .ok (.invokevirtual 160, 3) := by decide +kernel
theorem dX11_asks_166 : decode cX11_asks 166 = .ok (.ireturn, 1) := by decide +kernel
theorem dX11_asks_167 : decode cX11_asks 167 = .ok (.aload_n 0, 1) := by decide +kernel
theorem dX11_asks_168 : decode cX11_asks 168 = .ok (.getfield 67, 3) := by decide +kernel
theorem dX11_asks_171 : decode cX11_asks 171 = .ok (.iload_n 1, 1) := by decide +kernel
theorem dX11_asks_172 : decode cX11_asks 172 = .ok (.iload_n 2, 1) := by decide +kernel
theorem dX11_asks_173 : decode cX11_asks 173 = .ok (.bipush 105, 2) := by decide +kernel
theorem dX11_asks_175 : decode cX11_asks 175 = .ok (.if_icmp .ne 7, 3) := by decide +kernel
theorem dX11_asks_178 : decode cX11_asks 178 = .ok (.iconst 2, 1) := by decide +kernel
theorem dX11_asks_179 : decode cX11_asks 179 = .ok (.goto 14, 3) := by decide +kernel
theorem dX11_asks_182 : decode cX11_asks 182 = .ok (.iload_n 2, 1) := by decide +kernel
theorem dX11_asks_183 : decode cX11_asks 183 = .ok (.bipush 104, 2) := by decide +kernel
theorem dX11_asks_185 : decode cX11_asks 185 = .ok (.if_icmp .ne 7, 3) := by decide +kernel
theorem dX11_asks_188 : decode cX11_asks 188 = .ok (.iconst 3, 1) := by decide +kernel
theorem dX11_asks_189 : decode cX11_asks 189 = .ok (.goto 4, 3) := by decide +kernel
theorem dX11_asks_192 : decode cX11_asks 192 = .ok (.iconst 4, 1) := by decide +kernel
theorem dX11_asks_193 : decode cX11_asks 193 = .ok (.iastore, 1) := by decide +kernel
theorem dX11_asks_194 : decode cX11_asks 194 = .ok (.iload_n 2, 1) := by decide +kernel
theorem dX11_asks_195 : decode cX11_asks 195 = .ok (.bipush 105, 2) := by decide +kernel
theorem dX11_asks_197 : decode cX11_asks 197 = .ok (.if_icmp .eq 15, 3) := by decide +kernel
theorem dX11_asks_200 : decode cX11_asks 200 = .ok (.iload_n 2, 1) := by decide +kernel
theorem dX11_asks_201 : decode cX11_asks 201 = .ok (.bipush 104, 2) := by decide +kernel
theorem dX11_asks_203 : decode cX11_asks 203 = .ok (.if_icmp .eq 9, 3) := by decide +kernel
theorem dX11_asks_206 : decode cX11_asks 206 = .ok (.iload_n 2, 1) := by decide +kernel
theorem dX11_asks_207 : decode cX11_asks 207 = .ok (.bipush 109, 2) := by decide +kernel
theorem dX11_asks_209 : decode cX11_asks 209 = .ok (.if_icmp .ne 14, 3) := by decide +kernel
theorem dX11_asks_212 : decode cX11_asks 212 = .ok (.aload_n 0, 1) := by decide +kernel
theorem dX11_asks_213 : decode cX11_asks 213 = .ok (.invokevirtual 163, 3) := by decide +kernel
theorem dX11_asks_216 : decode cX11_asks 216 = .ok (.ifCond .eq 7, 3) := by decide +kernel
theorem dX11_asks_219 : decode cX11_asks 219 = .ok (.iconst 1, 1) := by decide +kernel
theorem dX11_asks_220 : decode cX11_asks 220 = .ok (.goto 4, 3) := by decide +kernel
theorem dX11_asks_223 : decode cX11_asks 223 = .ok (.iconst 0, 1) := by decide +kernel
theorem dX11_asks_224 : decode cX11_asks 224 = .ok (.istore 4, 2) := by decide +kernel
theorem dX11_asks_226 : decode cX11_asks 226 = .ok (.aload_n 0, 1) := by decide +kernel
theorem dX11_asks_227 : decode cX11_asks 227 = .ok (.getfield 76, 3) := by decide +kernel
theorem dX11_asks_230 : decode cX11_asks 230 = .ok (.iload_n 1, 1) := by decide +kernel
theorem dX11_asks_231 : decode cX11_asks 231 = .ok (.aload_n 0, 1) := by decide +kernel
theorem dX11_asks_232 : decode cX11_asks 232 = .ok (.getfield 132, 3) := by decide +kernel
theorem dX11_asks_235 : decode cX11_asks 235 = .ok (.iastore, 1) := by decide +kernel
theorem dX11_asks_236 : decode cX11_asks 236 = .ok (.iload 4, 2) := by decide +kernel
theorem dX11_asks_238 : decode cX11_asks 238 = .ok (.ireturn, 1) := by decide +kernel
theorem dX11_signOf_0 : decode cX11_signOf 0 = .ok (.iload_n 0, 1) := by decide +kernel
theorem dX11_signOf_1 : decode cX11_signOf 1 = .ok (.bipush 43, 2) := by decide +kernel
theorem dX11_signOf_3 : decode cX11_signOf 3 = .ok (.if_icmp .ne 7, 3) := by decide +kernel
theorem dX11_signOf_6 : decode cX11_signOf 6 = .ok (.iconst 0, 1) := by decide +kernel
theorem dX11_signOf_7 : decode cX11_signOf 7 = .ok (.goto 35, 3) := by decide +kernel
theorem dX11_signOf_10 : decode cX11_signOf 10 = .ok (.iload_n 0, 1) := by decide +kernel
theorem dX11_signOf_11 : decode cX11_signOf 11 = .ok (.bipush 45, 2) := by decide +kernel
theorem dX11_signOf_13 : decode cX11_signOf 13 = .ok (.if_icmp .ne 7, 3) := by decide +kernel
theorem dX11_signOf_16 : decode cX11_signOf 16 = .ok (.iconst 1, 1) := by decide +kernel
theorem dX11_signOf_17 : decode cX11_signOf 17 = .ok (.goto 25, 3) := by decide +kernel
theorem dX11_signOf_20 : decode cX11_signOf 20 = .ok (.iload_n 0, 1) := by decide +kernel
theorem dX11_signOf_21 : decode cX11_signOf 21 = .ok (.bipush 126, 2) := by decide +kernel
theorem dX11_signOf_23 : decode cX11_signOf 23 = .ok (.if_icmp .ne 7, 3) := by decide +kernel
theorem dX11_signOf_26 : decode cX11_signOf 26 = .ok (.iconst 2, 1) := by decide +kernel
theorem dX11_signOf_27 : decode cX11_signOf 27 = .ok (.goto 15, 3) := by decide +kernel
theorem dX11_signOf_30 : decode cX11_signOf 30 = .ok (.iload_n 0, 1) := by decide +kernel
theorem dX11_signOf_31 : decode cX11_signOf 31 = .ok (.bipush 63, 2) := by decide +kernel
theorem dX11_signOf_33 : decode cX11_signOf 33 = .ok (.if_icmp .ne 7, 3) := by decide +kernel
theorem dX11_signOf_36 : decode cX11_signOf 36 = .ok (.iconst 3, 1) := by decide +kernel
theorem dX11_signOf_37 : decode cX11_signOf 37 = .ok (.goto 5, 3) := by decide +kernel
theorem dX11_signOf_40 : decode cX11_signOf 40 = .ok (.bipush (-4), 2) := by decide +kernel
theorem dX11_signOf_42 : decode cX11_signOf 42 = .ok (.ireturn, 1) := by decide +kernel
theorem dX11_rulesOf_0 : decode cX11_rulesOf 0 = .ok (.iconst 0, 1) := by decide +kernel
theorem dX11_rulesOf_1 : decode cX11_rulesOf 1 = .ok (.istore_n 2, 1) := by decide +kernel
theorem dX11_rulesOf_2 : decode cX11_rulesOf 2 = .ok (.aload_n 0, 1) := by decide +kernel
theorem dX11_rulesOf_3 : decode cX11_rulesOf 3 = .ok (.getfield 58, 3) := by decide +kernel
theorem dX11_rulesOf_6 : decode cX11_rulesOf 6 = .ok (.iload_n 1, 1) := by decide +kernel
theorem dX11_rulesOf_7 : decode cX11_rulesOf 7 = .ok (.iconst 0, 1) := by decide +kernel
theorem dX11_rulesOf_8 : decode cX11_rulesOf 8 = .ok (.iastore, 1) := by decide +kernel
theorem dX11_rulesOf_9 : decode cX11_rulesOf 9 = .ok (.iconst 1, 1) := by decide +kernel
theorem dX11_rulesOf_10 : decode cX11_rulesOf 10 = .ok (.istore_n 3, 1) := by decide +kernel
theorem dX11_rulesOf_11 : decode cX11_rulesOf 11 = .ok (.iload_n 3, 1) := by decide +kernel
theorem dX11_rulesOf_12 : decode cX11_rulesOf 12 = .ok (.ifCond .eq 113, 3) := by decide +kernel
theorem dX11_rulesOf_15 : decode cX11_rulesOf 15 = .ok (.iload_n 2, 1) := by decide +kernel
theorem dX11_rulesOf_16 : decode cX11_rulesOf 16 = .ok (.ifCond .le 34, 3) := by decide +kernel
theorem dX11_rulesOf_19 : decode cX11_rulesOf 19 = .ok (.aload_n 0, 1) := by decide +kernel
theorem dX11_rulesOf_20 : decode cX11_rulesOf 20 = .ok (.bipush 114, 2) := by decide +kernel
theorem dX11_rulesOf_22 : decode cX11_rulesOf 22 = .ok (.invokevirtual 146, 3) := by decide +kernel
theorem dX11_rulesOf_25 : decode cX11_rulesOf 25 = .ok (.ifCond .eq 25, 3) := by decide +kernel
theorem dX11_rulesOf_28 : decode cX11_rulesOf 28 = .ok (.aload_n 0, 1) := by decide +kernel
theorem dX11_rulesOf_29 : decode cX11_rulesOf 29 = .ok (.invokevirtual 163, 3) := by decide +kernel
theorem dX11_rulesOf_32 : decode cX11_rulesOf 32 = .ok (.ifCond .ne 5, 3) := by decide +kernel
theorem dX11_rulesOf_35 : decode cX11_rulesOf 35 = .ok (.iconst 0, 1) := by decide +kernel
theorem dX11_rulesOf_36 : decode cX11_rulesOf 36 = .ok (.ireturn, 1) := by decide +kernel
theorem dX11_rulesOf_37 : decode cX11_rulesOf 37 = .ok (.aload_n 0, 1) := by decide +kernel
theorem dX11_rulesOf_38 : decode cX11_rulesOf 38 = .ok (.getfield 58, 3) := by decide +kernel
theorem dX11_rulesOf_41 : decode cX11_rulesOf 41 = .ok (.iload_n 1, 1) := by decide +kernel
theorem dX11_rulesOf_42 : decode cX11_rulesOf 42 = .ok (.aload_n 0, 1) := by decide +kernel
theorem dX11_rulesOf_43 : decode cX11_rulesOf 43 = .ok (.getfield 132, 3) := by decide +kernel
theorem dX11_rulesOf_46 : decode cX11_rulesOf 46 = .ok (.iastore, 1) := by decide +kernel
theorem dX11_rulesOf_47 : decode cX11_rulesOf 47 = .ok (.goto 78, 3) := by decide +kernel
theorem dX11_rulesOf_50 : decode cX11_rulesOf 50 = .ok (.aload_n 0, 1) := by decide +kernel
theorem dX11_rulesOf_51 : decode cX11_rulesOf 51 = .ok (.invokevirtual 129, 3) := by decide +kernel
theorem dX11_rulesOf_54 : decode cX11_rulesOf 54 = .ok (.invokestatic 166, 3) := by decide +kernel
theorem dX11_rulesOf_57 : decode cX11_rulesOf 57 = .ok (.istore 4, 2) := by decide +kernel
theorem dX11_rulesOf_59 : decode cX11_rulesOf 59 = .ok (.iload 4, 2) := by decide +kernel
theorem dX11_rulesOf_61 : decode cX11_rulesOf 61 = .ok (.bipush (-4), 2) := by decide +kernel
theorem dX11_rulesOf_63 : decode cX11_rulesOf 63 = .ok (.if_icmp .eq 9, 3) := by decide +kernel
theorem dX11_rulesOf_66 : decode cX11_rulesOf 66 = .ok (.iload_n 2, 1) := by decide +kernel
theorem dX11_rulesOf_67 : decode cX11_rulesOf 67 = .ok (.bipush 8, 2) := by decide +kernel
theorem dX11_rulesOf_69 : decode cX11_rulesOf 69 = .ok (.if_icmp .ne 5, 3) := by decide +kernel
theorem dX11_rulesOf_72 : decode cX11_rulesOf 72 = .ok (.iconst 0, 1) := by decide +kernel
theorem dX11_rulesOf_73 : decode cX11_rulesOf 73 = .ok (.ireturn, 1) := by decide +kernel
theorem dX11_rulesOf_74 : decode cX11_rulesOf 74 = .ok (.aload_n 0, 1) := by decide +kernel
theorem dX11_rulesOf_75 : decode cX11_rulesOf 75 = .ok (.dup, 1) := by decide +kernel
theorem dX11_rulesOf_76 : decode cX11_rulesOf 76 = .ok (.getfield 126, 3) := by decide +kernel
theorem dX11_rulesOf_79 : decode cX11_rulesOf 79 = .ok (.iconst 1, 1) := by decide +kernel
theorem dX11_rulesOf_80 : decode cX11_rulesOf 80 = .ok (.iadd, 1) := by decide +kernel
theorem dX11_rulesOf_81 : decode cX11_rulesOf 81 = .ok (.putfield 126, 3) := by decide +kernel
theorem dX11_rulesOf_84 : decode cX11_rulesOf 84 = .ok (.aload_n 0, 1) := by decide +kernel
theorem dX11_rulesOf_85 : decode cX11_rulesOf 85 = .ok (.getfield 85, 3) := by decide +kernel
theorem dX11_rulesOf_88 : decode cX11_rulesOf 88 = .ok (.bipush 8, 2) := by decide +kernel
theorem dX11_rulesOf_90 : decode cX11_rulesOf 90 = .ok (.iload_n 1, 1) := by decide +kernel
theorem dX11_rulesOf_91 : decode cX11_rulesOf 91 = .ok (.imul, 1) := by decide +kernel
theorem dX11_rulesOf_92 : decode cX11_rulesOf 92 = .ok (.iload_n 2, 1) := by decide +kernel
theorem dX11_rulesOf_93 : decode cX11_rulesOf 93 = .ok (.iadd, 1) := by decide +kernel
theorem dX11_rulesOf_94 : decode cX11_rulesOf 94 = .ok (.iload 4, 2) := by decide +kernel
theorem dX11_rulesOf_96 : decode cX11_rulesOf 96 = .ok (.iastore, 1) := by decide +kernel
theorem dX11_rulesOf_97 : decode cX11_rulesOf 97 = .ok (.aload_n 0, 1) := by decide +kernel
theorem dX11_rulesOf_98 : decode cX11_rulesOf 98 = .ok (.bipush 8, 2) := by decide +kernel
theorem dX11_rulesOf_100 : decode cX11_rulesOf 100 = .ok (.iload_n 1, 1) := by decide +kernel
theorem dX11_rulesOf_101 : decode cX11_rulesOf 101 = .ok (.imul, 1) := by decide +kernel
theorem dX11_rulesOf_102 : decode cX11_rulesOf 102 = .ok (.iload_n 2, 1) := by decide +kernel
theorem dX11_rulesOf_103 : decode cX11_rulesOf 103 = .ok (.iadd, 1) := by decide +kernel
theorem dX11_rulesOf_104 : decode cX11_rulesOf 104 = .ok (.invokevirtual 169, 3) := by decide +kernel
theorem dX11_rulesOf_107 : decode cX11_rulesOf 107 = .ok (.ifCond .ne 5, 3) := by decide +kernel
theorem dX11_rulesOf_110 : decode cX11_rulesOf 110 = .ok (.iconst 0, 1) := by decide +kernel
theorem dX11_rulesOf_111 : decode cX11_rulesOf 111 = .ok (.ireturn, 1) := by decide +kernel
theorem dX11_rulesOf_112 : decode cX11_rulesOf 112 = .ok (.iinc 2 1, 3) := by decide +kernel
theorem dX11_rulesOf_115 : decode cX11_rulesOf 115 = .ok (.aload_n 0, 1) := by decide +kernel
theorem dX11_rulesOf_116 : decode cX11_rulesOf 116 = .ok (.bipush 44, 2) := by decide +kernel
theorem dX11_rulesOf_118 : decode cX11_rulesOf 118 = .ok (.invokevirtual 146, 3) := by decide +kernel
theorem dX11_rulesOf_121 : decode cX11_rulesOf 121 = .ok (.istore_n 3, 1) := by decide +kernel
theorem dX11_rulesOf_122 : decode cX11_rulesOf 122 = .ok (.goto (-111), 3) := by decide +kernel
theorem dX11_rulesOf_125 : decode cX11_rulesOf 125 = .ok (.aload_n 0, 1) := by decide +kernel
theorem dX11_rulesOf_126 : decode cX11_rulesOf 126 = .ok (.getfield 55, 3) := by decide +kernel
theorem dX11_rulesOf_129 : decode cX11_rulesOf 129 = .ok (.iload_n 1, 1) := by decide +kernel
theorem dX11_rulesOf_130 : decode cX11_rulesOf 130 = .ok (.iload_n 2, 1) := by decide +kernel
theorem dX11_rulesOf_131 : decode cX11_rulesOf 131 = .ok (.iastore, 1) := by decide +kernel
theorem dX11_rulesOf_132 : decode cX11_rulesOf 132 = .ok (.iconst 1, 1) := by decide +kernel
theorem dX11_rulesOf_133 : decode cX11_rulesOf 133 = .ok (.ireturn, 1) := by decide +kernel
theorem dX11_hostsOf_0 : decode cX11_hostsOf 0 = .ok (.iconst 0, 1) := by decide +kernel
theorem dX11_hostsOf_1 : decode cX11_hostsOf 1 = .ok (.istore_n 2, 1) := by decide +kernel
theorem dX11_hostsOf_2 : decode cX11_hostsOf 2 = .ok (.iconst 1, 1) := by decide +kernel
theorem dX11_hostsOf_3 : decode cX11_hostsOf 3 = .ok (.istore_n 3, 1) := by decide +kernel
theorem dX11_hostsOf_4 : decode cX11_hostsOf 4 = .ok (.iload_n 3, 1) := by decide +kernel
theorem dX11_hostsOf_5 : decode cX11_hostsOf 5 = .ok (.ifCond .eq 47, 3) := by decide +kernel
theorem dX11_hostsOf_8 : decode cX11_hostsOf 8 = .ok (.iload_n 2, 1) := by decide +kernel
theorem dX11_hostsOf_9 : decode cX11_hostsOf 9 = .ok (.iconst 4, 1) := by decide +kernel
theorem dX11_hostsOf_10 : decode cX11_hostsOf 10 = .ok (.if_icmp .eq 13, 3) := by decide +kernel
theorem dX11_hostsOf_13 : decode cX11_hostsOf 13 = .ok (.aload_n 0, 1) := by decide +kernel
theorem dX11_hostsOf_14 : decode cX11_hostsOf 14 = .ok (.sipush 255, 3) := by decide +kernel
theorem dX11_hostsOf_17 : decode cX11_hostsOf 17 = .ok (.invokevirtual 157, 3) := by decide +kernel
theorem dX11_hostsOf_20 : decode cX11_hostsOf 20 = .ok (.ifCond .ne 5, 3) := by decide +kernel
theorem dX11_hostsOf_23 : decode cX11_hostsOf 23 = .ok (.iconst 0, 1) := by decide +kernel
theorem dX11_hostsOf_24 : decode cX11_hostsOf 24 = .ok (.ireturn, 1) := by decide +kernel
theorem dX11_hostsOf_25 : decode cX11_hostsOf 25 = .ok (.aload_n 0, 1) := by decide +kernel
theorem dX11_hostsOf_26 : decode cX11_hostsOf 26 = .ok (.getfield 91, 3) := by decide +kernel
theorem dX11_hostsOf_29 : decode cX11_hostsOf 29 = .ok (.iconst 4, 1) := by decide +kernel
theorem dX11_hostsOf_30 : decode cX11_hostsOf 30 = .ok (.iload_n 1, 1) := by decide +kernel
theorem dX11_hostsOf_31 : decode cX11_hostsOf 31 = .ok (.imul, 1) := by decide +kernel
theorem dX11_hostsOf_32 : decode cX11_hostsOf 32 = .ok (.iload_n 2, 1) := by decide +kernel
theorem dX11_hostsOf_33 : decode cX11_hostsOf 33 = .ok (.iadd, 1) := by decide +kernel
theorem dX11_hostsOf_34 : decode cX11_hostsOf 34 = .ok (.aload_n 0, 1) := by decide +kernel
theorem dX11_hostsOf_35 : decode cX11_hostsOf 35 = .ok (.getfield 132, 3) := by decide +kernel
theorem dX11_hostsOf_38 : decode cX11_hostsOf 38 = .ok (.iastore, 1) := by decide +kernel
theorem dX11_hostsOf_39 : decode cX11_hostsOf 39 = .ok (.iinc 2 1, 3) := by decide +kernel
theorem dX11_hostsOf_42 : decode cX11_hostsOf 42 = .ok (.aload_n 0, 1) := by decide +kernel
theorem dX11_hostsOf_43 : decode cX11_hostsOf 43 = .ok (.bipush 44, 2) := by decide +kernel
theorem dX11_hostsOf_45 : decode cX11_hostsOf 45 = .ok (.invokevirtual 146, 3) := by decide +kernel
theorem dX11_hostsOf_48 : decode cX11_hostsOf 48 = .ok (.istore_n 3, 1) := by decide +kernel
theorem dX11_hostsOf_49 : decode cX11_hostsOf 49 = .ok (.goto (-45), 3) := by decide +kernel
theorem dX11_hostsOf_52 : decode cX11_hostsOf 52 = .ok (.aload_n 0, 1) := by decide +kernel
theorem dX11_hostsOf_53 : decode cX11_hostsOf 53 = .ok (.getfield 88, 3) := by decide +kernel
theorem dX11_hostsOf_56 : decode cX11_hostsOf 56 = .ok (.iload_n 1, 1) := by decide +kernel
theorem dX11_hostsOf_57 : decode cX11_hostsOf 57 = .ok (.iload_n 2, 1) := by decide +kernel
theorem dX11_hostsOf_58 : decode cX11_hostsOf 58 = .ok (.iastore, 1) := by decide +kernel
theorem dX11_hostsOf_59 : decode cX11_hostsOf 59 = .ok (.iconst 1, 1) := by decide +kernel
theorem dX11_hostsOf_60 : decode cX11_hostsOf 60 = .ok (.ireturn, 1) := by decide +kernel
theorem dX11_exchangersOf_0 : decode cX11_exchangersOf 0 = .ok (.iconst 0, 1) := by decide +kernel
theorem dX11_exchangersOf_1 : decode cX11_exchangersOf 1 = .ok (.istore_n 2, 1) := by decide +kernel
theorem dX11_exchangersOf_2 : decode cX11_exchangersOf 2 = .ok (.iconst 1, 1) := by decide +kernel
theorem dX11_exchangersOf_3 : decode cX11_exchangersOf 3 = .ok (.istore_n 3, 1) := by decide +kernel
theorem dX11_exchangersOf_4 : decode cX11_exchangersOf 4 = .ok (.iload_n 3, 1) := by decide +kernel
theorem dX11_exchangersOf_5 : decode cX11_exchangersOf 5 = .ok (.ifCond .eq 44, 3) := by decide +kernel
theorem dX11_exchangersOf_8 : decode cX11_exchangersOf 8 = .ok (.iload_n 2, 1) := by decide +kernel
theorem dX11_exchangersOf_9 : decode cX11_exchangersOf 9 = .ok (.iconst 3, 1) := by decide +kernel
theorem dX11_exchangersOf_10 : decode cX11_exchangersOf 10 = .ok (.if_icmp .eq 10, 3) := by decide +kernel
theorem dX11_exchangersOf_13 : decode cX11_exchangersOf 13 = .ok (.aload_n 0, 1) := by decide +kernel
theorem dX11_exchangersOf_14 : decode cX11_exchangersOf 14 = .ok (.invokevirtual 163, 3) := by decide +kernel
theorem dX11_exchangersOf_17 : decode cX11_exchangersOf 17 = .ok (.ifCond .ne 5, 3) := by decide +kernel
theorem dX11_exchangersOf_20 : decode cX11_exchangersOf 20 = .ok (.iconst 0, 1) := by decide +kernel
theorem dX11_exchangersOf_21 : decode cX11_exchangersOf 21 = .ok (.ireturn, 1) := by decide +kernel
theorem dX11_exchangersOf_22 : decode cX11_exchangersOf 22 = .ok (.aload_n 0, 1) := by decide +kernel
theorem dX11_exchangersOf_23 : decode cX11_exchangersOf 23 = .ok (.getfield 64, 3) := by decide +kernel
theorem dX11_exchangersOf_26 : decode cX11_exchangersOf 26 = .ok (.iconst 3, 1) := by decide +kernel
theorem dX11_exchangersOf_27 : decode cX11_exchangersOf 27 = .ok (.iload_n 1, 1) := by decide +kernel
theorem dX11_exchangersOf_28 : decode cX11_exchangersOf 28 = .ok (.imul, 1) := by decide +kernel
theorem dX11_exchangersOf_29 : decode cX11_exchangersOf 29 = .ok (.iload_n 2, 1) := by decide +kernel
theorem dX11_exchangersOf_30 : decode cX11_exchangersOf 30 = .ok (.iadd, 1) := by decide +kernel
theorem dX11_exchangersOf_31 : decode cX11_exchangersOf 31 = .ok (.aload_n 0, 1) := by decide +kernel
theorem dX11_exchangersOf_32 : decode cX11_exchangersOf 32 = .ok (.getfield 132, 3) := by decide +kernel
theorem dX11_exchangersOf_35 : decode cX11_exchangersOf 35 = .ok (.iastore, 1) := by decide +kernel
theorem dX11_exchangersOf_36 : decode cX11_exchangersOf 36 = .ok (.iinc 2 1, 3) := by decide +kernel
theorem dX11_exchangersOf_39 : decode cX11_exchangersOf 39 = .ok (.aload_n 0, 1) := by decide +kernel
theorem dX11_exchangersOf_40 : decode cX11_exchangersOf 40 = .ok (.bipush 44, 2) := by decide +kernel
theorem dX11_exchangersOf_42 : decode cX11_exchangersOf 42 = .ok (.invokevirtual 146, 3) := by decide +kernel
theorem dX11_exchangersOf_45 : decode cX11_exchangersOf 45 = .ok (.istore_n 3, 1) := by decide +kernel
theorem dX11_exchangersOf_46 : decode cX11_exchangersOf 46 = .ok (.goto (-42), 3) := by decide +kernel
theorem dX11_exchangersOf_49 : decode cX11_exchangersOf 49 = .ok (.aload_n 0, 1) := by decide +kernel
theorem dX11_exchangersOf_50 : decode cX11_exchangersOf 50 = .ok (.getfield 61, 3) := by decide +kernel
theorem dX11_exchangersOf_53 : decode cX11_exchangersOf 53 = .ok (.iload_n 1, 1) := by decide +kernel
theorem dX11_exchangersOf_54 : decode cX11_exchangersOf 54 = .ok (.iload_n 2, 1) := by decide +kernel
theorem dX11_exchangersOf_55 : decode cX11_exchangersOf 55 = .ok (.iastore, 1) := by decide +kernel
theorem dX11_exchangersOf_56 : decode cX11_exchangersOf 56 = .ok (.iconst 1, 1) := by decide +kernel
theorem dX11_exchangersOf_57 : decode cX11_exchangersOf 57 = .ok (.ireturn, 1) := by decide +kernel
theorem dX11_item_0 : decode cX11_item 0 = .ok (.aload_n 0, 1) := by decide +kernel
theorem dX11_item_1 : decode cX11_item 1 = .ok (.invokevirtual 129, 3) := by decide +kernel
theorem dX11_item_4 : decode cX11_item 4 = .ok (.istore_n 1, 1) := by decide +kernel
theorem dX11_item_5 : decode cX11_item 5 = .ok (.aload_n 0, 1) := by decide +kernel
theorem dX11_item_6 : decode cX11_item 6 = .ok (.dup, 1) := by decide +kernel
theorem dX11_item_7 : decode cX11_item 7 = .ok (.getfield 126, 3) := by decide +kernel
theorem dX11_item_10 : decode cX11_item 10 = .ok (.iconst 1, 1) := by decide +kernel
theorem dX11_item_11 : decode cX11_item 11 = .ok (.iadd, 1) := by decide +kernel
theorem dX11_item_12 : decode cX11_item 12 = .ok (.putfield 126, 3) := by decide +kernel
theorem dX11_item_15 : decode cX11_item 15 = .ok (.iload_n 1, 1) := by decide +kernel
theorem dX11_item_16 : decode cX11_item 16 = .ok (.bipush 110, 2) := by decide +kernel
theorem dX11_item_18 : decode cX11_item 18 = .ok (.if_icmp .eq 15, 3) := by decide +kernel
theorem dX11_item_21 : decode cX11_item 21 = .ok (.iload_n 1, 1) := by decide +kernel
theorem dX11_item_22 : decode cX11_item 22 = .ok (.bipush 97, 2) := by decide +kernel
theorem dX11_item_24 : decode cX11_item 24 = .ok (.if_icmp .eq 9, 3) := by decide +kernel
theorem dX11_item_27 : decode cX11_item 27 = .ok (.iload_n 1, 1) := by decide +kernel
theorem dX11_item_28 : decode cX11_item 28 = .ok (.bipush 120, 2) := by decide +kernel
theorem dX11_item_30 : decode cX11_item 30 = .ok (.if_icmp .ne 19, 3) := by decide +kernel
theorem dX11_item_33 : decode cX11_item 33 = .ok (.aload_n 0, 1) := by decide +kernel
theorem dX11_item_34 : decode cX11_item 34 = .ok (.invokevirtual 163, 3) := by decide +kernel
theorem dX11_item_37 : decode cX11_item 37 = .ok (.ifCond .eq 12, 3) := by decide +kernel
theorem dX11_item_40 : decode cX11_item 40 = .ok (.aload_n 0, 1) := by decide +kernel
theorem dX11_item_41 : decode cX11_item 41 = .ok (.bipush 58, 2) := by decide +kernel
theorem dX11_item_43 : decode cX11_item 43 = .ok (.invokevirtual 146, 3) := by decide +kernel
theorem dX11_item_46 : decode cX11_item 46 = .ok (.ifCond .ne 5, 3) := by decide +kernel
theorem dX11_item_49 : decode cX11_item 49 = .ok (.iconst 0, 1) := by decide +kernel
theorem dX11_item_50 : decode cX11_item 50 = .ok (.ireturn, 1) := by decide +kernel
theorem dX11_item_51 : decode cX11_item 51 = .ok (.aload_n 0, 1) := by decide +kernel
theorem dX11_item_52 : decode cX11_item 52 = .ok (.aload_n 0, 1) := by decide +kernel
theorem dX11_item_53 : decode cX11_item 53 = .ok (.getfield 132, 3) := by decide +kernel
theorem dX11_item_56 : decode cX11_item 56 = .ok (.invokevirtual 172, 3) := by decide +kernel
theorem dX11_item_59 : decode cX11_item 59 = .ok (.istore_n 2, 1) := by decide +kernel
theorem dX11_item_60 : decode cX11_item 60 = .ok (.iload_n 2, 1) := by decide +kernel
theorem dX11_item_61 : decode cX11_item 61 = .ok (.bipush (-4), 2) := by decide +kernel
theorem dX11_item_63 : decode cX11_item 63 = .ok (.if_icmp .ne 5, 3) := by decide +kernel
theorem dX11_item_66 : decode cX11_item 66 = .ok (.iconst 0, 1) := by decide +kernel
theorem dX11_item_67 : decode cX11_item 67 = .ok (.ireturn, 1) := by decide +kernel
theorem dX11_item_68 : decode cX11_item 68 = .ok (.iload_n 1, 1) := by decide +kernel
theorem dX11_item_69 : decode cX11_item 69 = .ok (.bipush 110, 2) := by decide +kernel
theorem dX11_item_71 : decode cX11_item 71 = .ok (.if_icmp .ne 11, 3) := by decide +kernel
theorem dX11_item_74 : decode cX11_item 74 = .ok (.aload_n 0, 1) := by decide +kernel
theorem dX11_item_75 : decode cX11_item 75 = .ok (.iload_n 2, 1) := by decide +kernel
theorem dX11_item_76 : decode cX11_item 76 = .ok (.invokevirtual 175, 3) := by decide +kernel
theorem dX11_item_79 : decode cX11_item 79 = .ok (.goto 22, 3) := by decide +kernel
theorem dX11_item_82 : decode cX11_item 82 = .ok (.iload_n 1, 1) := by decide +kernel
theorem dX11_item_83 : decode cX11_item 83 = .ok (.bipush 97, 2) := by decide +kernel
theorem dX11_item_85 : decode cX11_item 85 = .ok (.if_icmp .ne 11, 3) := by decide +kernel
theorem dX11_item_88 : decode cX11_item 88 = .ok (.aload_n 0, 1) := by decide +kernel
theorem dX11_item_89 : decode cX11_item 89 = .ok (.iload_n 2, 1) := by decide +kernel
theorem dX11_item_90 : decode cX11_item 90 = .ok (.invokevirtual 178, 3) := by decide +kernel
theorem dX11_item_93 : decode cX11_item 93 = .ok (.goto 8, 3) := by decide +kernel
theorem dX11_item_96 : decode cX11_item 96 = .ok (.aload_n 0, 1) := by decide +kernel
theorem dX11_item_97 : decode cX11_item 97 = .ok (.iload_n 2, 1) := by decide +kernel
theorem dX11_item_98 : decode cX11_item 98 = .ok (.invokevirtual 181, 3) := by decide +kernel
theorem dX11_item_101 : decode cX11_item 101 = .ok (.istore_n 3, 1) := by decide +kernel
theorem dX11_item_102 : decode cX11_item 102 = .ok (.iload_n 3, 1) := by decide +kernel
theorem dX11_item_103 : decode cX11_item 103 = .ok (.ifCond .eq 16, 3) := by decide +kernel
theorem dX11_item_106 : decode cX11_item 106 = .ok (.aload_n 0, 1) := by decide +kernel
theorem dX11_item_107 : decode cX11_item 107 = .ok (.bipush 59, 2) := by decide +kernel
theorem dX11_item_109 : decode cX11_item 109 = .ok (.invokevirtual 146, 3) := by decide +kernel
theorem dX11_item_112 : decode cX11_item 112 = .ok (.ifCond .eq 7, 3) := by decide +kernel
theorem dX11_item_115 : decode cX11_item 115 = .ok (.iconst 1, 1) := by decide +kernel
theorem dX11_item_116 : decode cX11_item 116 = .ok (.goto 4, 3) := by decide +kernel
theorem dX11_item_119 : decode cX11_item 119 = .ok (.iconst 0, 1) := by decide +kernel
theorem dX11_item_120 : decode cX11_item 120 = .ok (.ireturn, 1) := by decide +kernel
theorem dX11_reads_0 : decode cX11_reads 0 = .ok (.aload_n 0, 1) := by decide +kernel
theorem dX11_reads_1 : decode cX11_reads 1 = .ok (.iconst 0, 1) := by decide +kernel
theorem dX11_reads_2 : decode cX11_reads 2 = .ok (.putfield 143, 3) := by decide +kernel
theorem dX11_reads_5 : decode cX11_reads 5 = .ok (.aload_n 0, 1) := by decide +kernel
theorem dX11_reads_6 : decode cX11_reads 6 = .ok (.iconst 0, 1) := by decide +kernel
theorem dX11_reads_7 : decode cX11_reads 7 = .ok (.putfield 126, 3) := by decide +kernel
theorem dX11_reads_10 : decode cX11_reads 10 = .ok (.aload_n 0, 1) := by decide +kernel
theorem dX11_reads_11 : decode cX11_reads 11 = .ok (.getfield 126, 3) := by decide +kernel
theorem dX11_reads_14 : decode cX11_reads 14 = .ok (.aload_n 0, 1) := by decide +kernel
theorem dX11_reads_15 : decode cX11_reads 15 = .ok (.getfield 114, 3) := by decide +kernel
theorem dX11_reads_18 : decode cX11_reads 18 = .ok (.if_icmp .ge 20, 3) := by decide +kernel
theorem dX11_reads_21 : decode cX11_reads 21 = .ok (.aload_n 0, 1) := by decide +kernel
theorem dX11_reads_22 : decode cX11_reads 22 = .ok (.getfield 126, 3) := by decide +kernel
theorem dX11_reads_25 : decode cX11_reads 25 = .ok (.istore_n 1, 1) := by decide +kernel
theorem dX11_reads_26 : decode cX11_reads 26 = .ok (.aload_n 0, 1) := by decide +kernel
theorem dX11_reads_27 : decode cX11_reads 27 = .ok (.invokevirtual 184, 3) := by decide +kernel
theorem dX11_reads_30 : decode cX11_reads 30 = .ok (.ifCond .ne 5, 3) := by decide +kernel
theorem dX11_reads_33 : decode cX11_reads 33 = .ok (.iload_n 1, 1) := by decide +kernel
theorem dX11_reads_34 : decode cX11_reads 34 = .ok (.ireturn, 1) := by decide +kernel
theorem dX11_reads_35 : decode cX11_reads 35 = .ok (.goto (-25), 3) := by decide +kernel
theorem dX11_reads_38 : decode cX11_reads 38 = .ok (.bipush (-4), 2) := by decide +kernel
theorem dX11_reads_40 : decode cX11_reads 40 = .ok (.ireturn, 1) := by decide +kernel
theorem dX11_write_0 : decode cX11_write 0 = .ok (.iload_n 1, 1) := by decide +kernel
theorem dX11_write_1 : decode cX11_write 1 = .ok (.bipush 32, 2) := by decide +kernel
theorem dX11_write_3 : decode cX11_write 3 = .ok (.if_icmp .lt 9, 3) := by decide +kernel
theorem dX11_write_6 : decode cX11_write 6 = .ok (.iload_n 1, 1) := by decide +kernel
theorem dX11_write_7 : decode cX11_write 7 = .ok (.bipush 126, 2) := by decide +kernel
theorem dX11_write_9 : decode cX11_write 9 = .ok (.if_icmp .le 5, 3) := by decide +kernel
theorem dX11_write_12 : decode cX11_write 12 = .ok (.iconst (-1), 1) := by decide +kernel
theorem dX11_write_13 : decode cX11_write 13 = .ok (.ireturn, 1) := by decide +kernel
theorem dX11_write_14 : decode cX11_write 14 = .ok (.aload_n 0, 1) := by decide +kernel
theorem dX11_write_15 : decode cX11_write 15 = .ok (.getfield 114, 3) := by decide +kernel
theorem dX11_write_18 : decode cX11_write 18 = .ok (.sipush 240, 3) := by decide +kernel
theorem dX11_write_21 : decode cX11_write 21 = .ok (.if_icmp .ne 6, 3) := by decide +kernel
theorem dX11_write_24 : decode cX11_write 24 = .ok (.bipush (-3), 2) := by decide +kernel
theorem dX11_write_26 : decode cX11_write 26 = .ok (.ireturn, 1) := by decide +kernel
theorem dX11_write_27 : decode cX11_write 27 = .ok (.aload_n 0, 1) := by decide +kernel
theorem dX11_write_28 : decode cX11_write 28 = .ok (.getfield 7, 3) := by decide +kernel
theorem dX11_write_31 : decode cX11_write 31 = .ok (.aload_n 0, 1) := by decide +kernel
theorem dX11_write_32 : decode cX11_write 32 = .ok (.getfield 114, 3) := by decide +kernel
theorem dX11_write_35 : decode cX11_write 35 = .ok (.iload_n 1, 1) := by decide +kernel
theorem dX11_write_36 : decode cX11_write 36 = .ok (.iastore, 1) := by decide +kernel
theorem dX11_write_37 : decode cX11_write 37 = .ok (.aload_n 0, 1) := by decide +kernel
theorem dX11_write_38 : decode cX11_write 38 = .ok (.dup, 1) := by decide +kernel
theorem dX11_write_39 : decode cX11_write 39 = .ok (.getfield 114, 3) := by decide +kernel
theorem dX11_write_42 : decode cX11_write 42 = .ok (.iconst 1, 1) := by decide +kernel
theorem dX11_write_43 : decode cX11_write 43 = .ok (.iadd, 1) := by decide +kernel
theorem dX11_write_44 : decode cX11_write 44 = .ok (.putfield 114, 3) := by decide +kernel
theorem dX11_write_47 : decode cX11_write 47 = .ok (.aload_n 0, 1) := by decide +kernel
theorem dX11_write_48 : decode cX11_write 48 = .ok (.getfield 114, 3) := by decide +kernel
theorem dX11_write_51 : decode cX11_write 51 = .ok (.ireturn, 1) := by decide +kernel
theorem dX11_wipe_0 : decode cX11_wipe 0 = .ok (.aload_n 0, 1) := by decide +kernel
theorem dX11_wipe_1 : decode cX11_wipe 1 = .ok (.getfield 114, 3) := by decide +kernel
theorem dX11_wipe_4 : decode cX11_wipe 4 = .ok (.istore_n 1, 1) := by decide +kernel
theorem dX11_wipe_5 : decode cX11_wipe 5 = .ok (.aload_n 0, 1) := by decide +kernel
theorem dX11_wipe_6 : decode cX11_wipe 6 = .ok (.iconst 0, 1) := by decide +kernel
theorem dX11_wipe_7 : decode cX11_wipe 7 = .ok (.putfield 114, 3) := by decide +kernel
theorem dX11_wipe_10 : decode cX11_wipe 10 = .ok (.iload_n 1, 1) := by decide +kernel
theorem dX11_wipe_11 : decode cX11_wipe 11 = .ok (.ireturn, 1) := by decide +kernel
theorem dX11_fault_0 : decode cX11_fault 0 = .ok (.aload_n 0, 1) := by decide +kernel
theorem dX11_fault_1 : decode cX11_fault 1 = .ok (.invokevirtual 187, 3) := by decide +kernel
theorem dX11_fault_4 : decode cX11_fault 4 = .ok (.ireturn, 1) := by decide +kernel
theorem dX11_takes_0 : decode cX11_takes 0 = .ok (.aload_n 0, 1) := by decide +kernel
theorem dX11_takes_1 : decode cX11_takes 1 = .ok (.getfield 13, 3) := by decide +kernel
theorem dX11_takes_4 : decode cX11_takes 4 = .ok (.iload_n 2, 1) := by decide +kernel
theorem dX11_takes_5 : decode cX11_takes 5 = .ok (.aload_n 0, 1) := by decide +kernel
theorem dX11_takes_6 : decode cX11_takes 6 = .ok (.getfield 52, 3) := by decide +kernel
theorem dX11_takes_9 : decode cX11_takes 9 = .ok (.iload_n 1, 1) := by decide +kernel
theorem dX11_takes_10 : decode cX11_takes 10 = .ok (.iaload, 1) := by decide +kernel
theorem dX11_takes_11 : decode cX11_takes 11 = .ok (.iastore, 1) := by decide +kernel
theorem dX11_takes_12 : decode cX11_takes 12 = .ok (.aload_n 0, 1) := by decide +kernel
theorem dX11_takes_13 : decode cX11_takes 13 = .ok (.getfield 16, 3) := by decide +kernel
theorem dX11_takes_16 : decode cX11_takes 16 = .ok (.iload_n 2, 1) := by decide +kernel
theorem dX11_takes_17 : decode cX11_takes 17 = .ok (.aload_n 0, 1) := by decide +kernel
theorem dX11_takes_18 : decode cX11_takes 18 = .ok (.getfield 55, 3) := by decide +kernel
theorem dX11_takes_21 : decode cX11_takes 21 = .ok (.iload_n 1, 1) := by decide +kernel
theorem dX11_takes_22 : decode cX11_takes 22 = .ok (.iaload, 1) := by decide +kernel
theorem dX11_takes_23 : decode cX11_takes 23 = .ok (.iastore, 1) := by decide +kernel
theorem dX11_takes_24 : decode cX11_takes 24 = .ok (.aload_n 0, 1) := by decide +kernel
theorem dX11_takes_25 : decode cX11_takes 25 = .ok (.getfield 19, 3) := by decide +kernel
theorem dX11_takes_28 : decode cX11_takes 28 = .ok (.iload_n 2, 1) := by decide +kernel
theorem dX11_takes_29 : decode cX11_takes 29 = .ok (.aload_n 0, 1) := by decide +kernel
theorem dX11_takes_30 : decode cX11_takes 30 = .ok (.getfield 58, 3) := by decide +kernel
theorem dX11_takes_33 : decode cX11_takes 33 = .ok (.iload_n 1, 1) := by decide +kernel
theorem dX11_takes_34 : decode cX11_takes 34 = .ok (.iaload, 1) := by decide +kernel
theorem dX11_takes_35 : decode cX11_takes 35 = .ok (.iastore, 1) := by decide +kernel
theorem dX11_takes_36 : decode cX11_takes 36 = .ok (.aload_n 0, 1) := by decide +kernel
theorem dX11_takes_37 : decode cX11_takes 37 = .ok (.getfield 22, 3) := by decide +kernel
theorem dX11_takes_40 : decode cX11_takes 40 = .ok (.iload_n 2, 1) := by decide +kernel
theorem dX11_takes_41 : decode cX11_takes 41 = .ok (.aload_n 0, 1) := by decide +kernel
theorem dX11_takes_42 : decode cX11_takes 42 = .ok (.getfield 61, 3) := by decide +kernel
theorem dX11_takes_45 : decode cX11_takes 45 = .ok (.iload_n 1, 1) := by decide +kernel
theorem dX11_takes_46 : decode cX11_takes 46 = .ok (.iaload, 1) := by decide +kernel
theorem dX11_takes_47 : decode cX11_takes 47 = .ok (.iastore, 1) := by decide +kernel
theorem dX11_takes_48 : decode cX11_takes 48 = .ok (.iconst 0, 1) := by decide +kernel
theorem dX11_takes_49 : decode cX11_takes 49 = .ok (.istore_n 3, 1) := by decide +kernel
theorem dX11_takes_50 : decode cX11_takes 50 = .ok (.iload_n 3, 1) := by decide +kernel
theorem dX11_takes_51 : decode cX11_takes 51 = .ok (.iconst 3, 1) := by decide +kernel
theorem dX11_takes_52 : decode cX11_takes 52 = .ok (.if_icmp .ge 29, 3) := by decide +kernel
theorem dX11_takes_55 : decode cX11_takes 55 = .ok (.aload_n 0, 1) := by decide +kernel
theorem dX11_takes_56 : decode cX11_takes 56 = .ok (.getfield 25, 3) := by decide +kernel
theorem dX11_takes_59 : decode cX11_takes 59 = .ok (.iconst 3, 1) := by decide +kernel
theorem dX11_takes_60 : decode cX11_takes 60 = .ok (.iload_n 2, 1) := by decide +kernel
theorem dX11_takes_61 : decode cX11_takes 61 = .ok (.imul, 1) := by decide +kernel
theorem dX11_takes_62 : decode cX11_takes 62 = .ok (.iload_n 3, 1) := by decide +kernel
theorem dX11_takes_63 : decode cX11_takes 63 = .ok (.iadd, 1) := by decide +kernel
theorem dX11_takes_64 : decode cX11_takes 64 = .ok (.aload_n 0, 1) := by decide +kernel
theorem dX11_takes_65 : decode cX11_takes 65 = .ok (.getfield 64, 3) := by decide +kernel
theorem dX11_takes_68 : decode cX11_takes 68 = .ok (.iconst 3, 1) := by decide +kernel
theorem dX11_takes_69 : decode cX11_takes 69 = .ok (.iload_n 1, 1) := by decide +kernel
theorem dX11_takes_70 : decode cX11_takes 70 = .ok (.imul, 1) := by decide +kernel
theorem dX11_takes_71 : decode cX11_takes 71 = .ok (.iload_n 3, 1) := by decide +kernel
theorem dX11_takes_72 : decode cX11_takes 72 = .ok (.iadd, 1) := by decide +kernel
theorem dX11_takes_73 : decode cX11_takes 73 = .ok (.iaload, 1) := by decide +kernel
theorem dX11_takes_74 : decode cX11_takes 74 = .ok (.iastore, 1) := by decide +kernel
theorem dX11_takes_75 : decode cX11_takes 75 = .ok (.iinc 3 1, 3) := by decide +kernel
theorem dX11_takes_78 : decode cX11_takes 78 = .ok (.goto (-28), 3) := by decide +kernel
theorem dX11_takes_81 : decode cX11_takes 81 = .ok (.aload_n 0, 1) := by decide +kernel
theorem dX11_takes_82 : decode cX11_takes 82 = .ok (.getfield 46, 3) := by decide +kernel
theorem dX11_takes_85 : decode cX11_takes 85 = .ok (.bipush 21, 2) := by decide +kernel
theorem dX11_takes_87 : decode cX11_takes 87 = .ok (.iload_n 2, 1) := by decide +kernel
theorem dX11_takes_88 : decode cX11_takes 88 = .ok (.imul, 1) := by decide +kernel
theorem dX11_takes_89 : decode cX11_takes 89 = .ok (.bipush 16, 2) := by decide +kernel
theorem dX11_takes_91 : decode cX11_takes 91 = .ok (.iadd, 1) := by decide +kernel
theorem dX11_takes_92 : decode cX11_takes 92 = .ok (.aload_n 0, 1) := by decide +kernel
theorem dX11_takes_93 : decode cX11_takes 93 = .ok (.getfield 88, 3) := by decide +kernel
theorem dX11_takes_96 : decode cX11_takes 96 = .ok (.iload_n 1, 1) := by decide +kernel
theorem dX11_takes_97 : decode cX11_takes 97 = .ok (.iaload, 1) := by decide +kernel
theorem dX11_takes_98 : decode cX11_takes 98 = .ok (.iastore, 1) := by decide +kernel
theorem dX11_takes_99 : decode cX11_takes 99 = .ok (.iconst 0, 1) := by decide +kernel
theorem dX11_takes_100 : decode cX11_takes 100 = .ok (.istore_n 3, 1) := by decide +kernel
theorem dX11_takes_101 : decode cX11_takes 101 = .ok (.iload_n 3, 1) := by decide +kernel
theorem dX11_takes_102 : decode cX11_takes 102 = .ok (.iconst 4, 1) := by decide +kernel
theorem dX11_takes_103 : decode cX11_takes 103 = .ok (.if_icmp .ge 33, 3) := by decide +kernel
theorem dX11_takes_106 : decode cX11_takes 106 = .ok (.aload_n 0, 1) := by decide +kernel
theorem dX11_takes_107 : decode cX11_takes 107 = .ok (.getfield 46, 3) := by decide +kernel
theorem dX11_takes_110 : decode cX11_takes 110 = .ok (.bipush 21, 2) := by decide +kernel
theorem dX11_takes_112 : decode cX11_takes 112 = .ok (.iload_n 2, 1) := by decide +kernel
theorem dX11_takes_113 : decode cX11_takes 113 = .ok (.imul, 1) := by decide +kernel
theorem dX11_takes_114 : decode cX11_takes 114 = .ok (.bipush 17, 2) := by decide +kernel
theorem dX11_takes_116 : decode cX11_takes 116 = .ok (.iadd, 1) := by decide +kernel
theorem dX11_takes_117 : decode cX11_takes 117 = .ok (.iload_n 3, 1) := by decide +kernel
theorem dX11_takes_118 : decode cX11_takes 118 = .ok (.iadd, 1) := by decide +kernel
theorem dX11_takes_119 : decode cX11_takes 119 = .ok (.aload_n 0, 1) := by decide +kernel
theorem dX11_takes_120 : decode cX11_takes 120 = .ok (.getfield 91, 3) := by decide +kernel
theorem dX11_takes_123 : decode cX11_takes 123 = .ok (.iconst 4, 1) := by decide +kernel
theorem dX11_takes_124 : decode cX11_takes 124 = .ok (.iload_n 1, 1) := by decide +kernel
theorem dX11_takes_125 : decode cX11_takes 125 = .ok (.imul, 1) := by decide +kernel
theorem dX11_takes_126 : decode cX11_takes 126 = .ok (.iload_n 3, 1) := by decide +kernel
theorem dX11_takes_127 : decode cX11_takes 127 = .ok (.iadd, 1) := by decide +kernel
theorem dX11_takes_128 : decode cX11_takes 128 = .ok (.iaload, 1) := by decide +kernel
theorem dX11_takes_129 : decode cX11_takes 129 = .ok (.iastore, 1) := by decide +kernel
theorem dX11_takes_130 : decode cX11_takes 130 = .ok (.iinc 3 1, 3) := by decide +kernel
theorem dX11_takes_133 : decode cX11_takes 133 = .ok (.goto (-32), 3) := by decide +kernel
theorem dX11_takes_136 : decode cX11_takes 136 = .ok (.iconst 0, 1) := by decide +kernel
theorem dX11_takes_137 : decode cX11_takes 137 = .ok (.istore_n 3, 1) := by decide +kernel
theorem dX11_takes_138 : decode cX11_takes 138 = .ok (.iload_n 3, 1) := by decide +kernel
theorem dX11_takes_139 : decode cX11_takes 139 = .ok (.bipush 8, 2) := by decide +kernel
theorem dX11_takes_141 : decode cX11_takes 141 = .ok (.if_icmp .ge 170, 3) := by decide +kernel
theorem dX11_takes_144 : decode cX11_takes 144 = .ok (.bipush 8, 2) := by decide +kernel
theorem dX11_takes_146 : decode cX11_takes 146 = .ok (.iload_n 1, 1) := by decide +kernel
theorem dX11_takes_147 : decode cX11_takes 147 = .ok (.imul, 1) := by decide +kernel
theorem dX11_takes_148 : decode cX11_takes 148 = .ok (.iload_n 3, 1) := by decide +kernel
theorem dX11_takes_149 : decode cX11_takes 149 = .ok (.iadd, 1) := by decide +kernel
theorem dX11_takes_150 : decode cX11_takes 150 = .ok (.istore 4, 2) := by decide +kernel
theorem dX11_takes_152 : decode cX11_takes 152 = .ok (.bipush 8, 2) := by decide +kernel
theorem dX11_takes_154 : decode cX11_takes 154 = .ok (.iload_n 2, 1) := by decide +kernel
theorem dX11_takes_155 : decode cX11_takes 155 = .ok (.imul, 1) := by decide +kernel
theorem dX11_takes_156 : decode cX11_takes 156 = .ok (.iload_n 3, 1) := by decide +kernel
theorem dX11_takes_157 : decode cX11_takes 157 = .ok (.iadd, 1) := by decide +kernel
theorem dX11_takes_158 : decode cX11_takes 158 = .ok (.istore 5, 2) := by decide +kernel
theorem dX11_takes_160 : decode cX11_takes 160 = .ok (.aload_n 0, 1) := by decide +kernel
theorem dX11_takes_161 : decode cX11_takes 161 = .ok (.getfield 28, 3) := by decide +kernel
theorem dX11_takes_164 : decode cX11_takes 164 = .ok (.iload 5, 2) := by decide +kernel
theorem dX11_takes_166 : decode cX11_takes 166 = .ok (.aload_n 0, 1) := by decide +kernel
theorem dX11_takes_167 : decode cX11_takes 167 = .ok (.getfield 67, 3) := by decide +kernel
theorem dX11_takes_170 : decode cX11_takes 170 = .ok (.iload 4, 2) := by decide +kernel
theorem dX11_takes_172 : decode cX11_takes 172 = .ok (.iaload, 1) := by decide +kernel
theorem dX11_takes_173 : decode cX11_takes 173 = .ok (.iastore, 1) := by decide +kernel
theorem dX11_takes_174 : decode cX11_takes 174 = .ok (.aload_n 0, 1) := by decide +kernel
theorem dX11_takes_175 : decode cX11_takes 175 = .ok (.getfield 31, 3) := by decide +kernel
theorem dX11_takes_178 : decode cX11_takes 178 = .ok (.iload 5, 2) := by decide +kernel
theorem dX11_takes_180 : decode cX11_takes 180 = .ok (.aload_n 0, 1) := by decide +kernel
theorem dX11_takes_181 : decode cX11_takes 181 = .ok (.getfield 70, 3) := by decide +kernel
theorem dX11_takes_184 : decode cX11_takes 184 = .ok (.iload 4, 2) := by decide +kernel
theorem dX11_takes_186 : decode cX11_takes 186 = .ok (.iaload, 1) := by decide +kernel
theorem dX11_takes_187 : decode cX11_takes 187 = .ok (.iastore, 1) := by decide +kernel
theorem dX11_takes_188 : decode cX11_takes 188 = .ok (.aload_n 0, 1) := by decide +kernel
theorem dX11_takes_189 : decode cX11_takes 189 = .ok (.getfield 34, 3) := by decide +kernel
theorem dX11_takes_192 : decode cX11_takes 192 = .ok (.iload 5, 2) := by decide +kernel
theorem dX11_takes_194 : decode cX11_takes 194 = .ok (.aload_n 0, 1) := by decide +kernel
theorem dX11_takes_195 : decode cX11_takes 195 = .ok (.getfield 73, 3) := by decide +kernel
theorem dX11_takes_198 : decode cX11_takes 198 = .ok (.iload 4, 2) := by decide +kernel
theorem dX11_takes_200 : decode cX11_takes 200 = .ok (.iaload, 1) := by decide +kernel
theorem dX11_takes_201 : decode cX11_takes 201 = .ok (.iastore, 1) := by decide +kernel
theorem dX11_takes_202 : decode cX11_takes 202 = .ok (.aload_n 0, 1) := by decide +kernel
theorem dX11_takes_203 : decode cX11_takes 203 = .ok (.getfield 37, 3) := by decide +kernel
theorem dX11_takes_206 : decode cX11_takes 206 = .ok (.iload 5, 2) := by decide +kernel
theorem dX11_takes_208 : decode cX11_takes 208 = .ok (.aload_n 0, 1) := by decide +kernel
theorem dX11_takes_209 : decode cX11_takes 209 = .ok (.getfield 76, 3) := by decide +kernel
theorem dX11_takes_212 : decode cX11_takes 212 = .ok (.iload 4, 2) := by decide +kernel
theorem dX11_takes_214 : decode cX11_takes 214 = .ok (.iaload, 1) := by decide +kernel
theorem dX11_takes_215 : decode cX11_takes 215 = .ok (.iastore, 1) := by decide +kernel
theorem dX11_takes_216 : decode cX11_takes 216 = .ok (.aload_n 0, 1) := by decide +kernel
theorem dX11_takes_217 : decode cX11_takes 217 = .ok (.getfield 40, 3) := by decide +kernel
theorem dX11_takes_220 : decode cX11_takes 220 = .ok (.iload 5, 2) := by decide +kernel
theorem dX11_takes_222 : decode cX11_takes 222 = .ok (.aload_n 0, 1) := by decide +kernel
theorem dX11_takes_223 : decode cX11_takes 223 = .ok (.getfield 79, 3) := by decide +kernel
theorem dX11_takes_226 : decode cX11_takes 226 = .ok (.iload 4, 2) := by decide +kernel
theorem dX11_takes_228 : decode cX11_takes 228 = .ok (.iaload, 1) := by decide +kernel
theorem dX11_takes_229 : decode cX11_takes 229 = .ok (.iastore, 1) := by decide +kernel
theorem dX11_takes_230 : decode cX11_takes 230 = .ok (.aload_n 0, 1) := by decide +kernel
theorem dX11_takes_231 : decode cX11_takes 231 = .ok (.getfield 46, 3) := by decide +kernel
theorem dX11_takes_234 : decode cX11_takes 234 = .ok (.bipush 21, 2) := by decide +kernel
theorem dX11_takes_236 : decode cX11_takes 236 = .ok (.iload_n 2, 1) := by decide +kernel
theorem dX11_takes_237 : decode cX11_takes 237 = .ok (.imul, 1) := by decide +kernel
theorem dX11_takes_238 : decode cX11_takes 238 = .ok (.iload_n 3, 1) := by decide +kernel
theorem dX11_takes_239 : decode cX11_takes 239 = .ok (.iadd, 1) := by decide +kernel
theorem dX11_takes_240 : decode cX11_takes 240 = .ok (.iload_n 3, 1) := by decide +kernel
theorem dX11_takes_241 : decode cX11_takes 241 = .ok (.iastore, 1) := by decide +kernel
theorem dX11_takes_242 : decode cX11_takes 242 = .ok (.aload_n 0, 1) := by decide +kernel
theorem dX11_takes_243 : decode cX11_takes 243 = .ok (.getfield 46, 3) := by decide +kernel
theorem dX11_takes_246 : decode cX11_takes 246 = .ok (.bipush 21, 2) := by decide +kernel
theorem dX11_takes_248 : decode cX11_takes 248 = .ok (.iload_n 2, 1) := by decide +kernel
theorem dX11_takes_249 : decode cX11_takes 249 = .ok (.imul, 1) := by decide +kernel
theorem dX11_takes_250 : decode cX11_takes 250 = .ok (.bipush 8, 2) := by decide +kernel
theorem dX11_takes_252 : decode cX11_takes 252 = .ok (.iadd, 1) := by decide +kernel
theorem dX11_takes_253 : decode cX11_takes 253 = .ok (.iload_n 3, 1) := by decide +kernel
theorem dX11_takes_254 : decode cX11_takes 254 = .ok (.iadd, 1) := by decide +kernel
theorem dX11_takes_255 : decode cX11_takes 255 = .ok (.aload_n 0, 1) := by decide +kernel
theorem dX11_takes_256 : decode cX11_takes 256 = .ok (.getfield 85, 3) := by decide +kernel
theorem dX11_takes_259 : decode cX11_takes 259 = .ok (.iload 4, 2) := by decide +kernel
theorem dX11_takes_261 : decode cX11_takes 261 = .ok (.iaload, 1) := by decide +kernel
theorem dX11_takes_262 : decode cX11_takes 262 = .ok (.iastore, 1) := by decide +kernel
theorem dX11_takes_263 : decode cX11_takes 263 = .ok (.iconst 0, 1) := by decide +kernel
theorem dX11_takes_264 : decode cX11_takes 264 = .ok (.istore 6, 2) := by decide +kernel
theorem dX11_takes_266 : decode cX11_takes 266 = .ok (.iload 6, 2) := by decide +kernel
theorem dX11_takes_268 : decode cX11_takes 268 = .ok (.bipush 8, 2) := by decide +kernel
theorem dX11_takes_270 : decode cX11_takes 270 = .ok (.if_icmp .ge 35, 3) := by decide +kernel
theorem dX11_takes_273 : decode cX11_takes 273 = .ok (.aload_n 0, 1) := by decide +kernel
theorem dX11_takes_274 : decode cX11_takes 274 = .ok (.getfield 43, 3) := by decide +kernel
theorem dX11_takes_277 : decode cX11_takes 277 = .ok (.bipush 8, 2) := by decide +kernel
theorem dX11_takes_279 : decode cX11_takes 279 = .ok (.iload 5, 2) := by decide +kernel
theorem dX11_takes_281 : decode cX11_takes 281 = .ok (.imul, 1) := by decide +kernel
theorem dX11_takes_282 : decode cX11_takes 282 = .ok (.iload 6, 2) := by decide +kernel
theorem dX11_takes_284 : decode cX11_takes 284 = .ok (.iadd, 1) := by decide +kernel
theorem dX11_takes_285 : decode cX11_takes 285 = .ok (.aload_n 0, 1) := by decide +kernel
theorem dX11_takes_286 : decode cX11_takes 286 = .ok (.getfield 82, 3) := by decide +kernel
theorem dX11_takes_289 : decode cX11_takes 289 = .ok (.bipush 8, 2) := by decide +kernel
theorem dX11_takes_291 : decode cX11_takes 291 = .ok (.iload 4, 2) := by decide +kernel
theorem dX11_takes_293 : decode cX11_takes 293 = .ok (.imul, 1) := by decide +kernel
theorem dX11_takes_294 : decode cX11_takes 294 = .ok (.iload 6, 2) := by decide +kernel
theorem dX11_takes_296 : decode cX11_takes 296 = .ok (.iadd, 1) := by decide +kernel
theorem dX11_takes_297 : decode cX11_takes 297 = .ok (.iaload, 1) := by decide +kernel
theorem dX11_takes_298 : decode cX11_takes 298 = .ok (.iastore, 1) := by decide +kernel
theorem dX11_takes_299 : decode cX11_takes 299 = .ok (.iinc 6 1, 3) := by decide +kernel
theorem dX11_takes_302 : decode cX11_takes 302 = .ok (.goto (-36), 3) := by decide +kernel
theorem dX11_takes_305 : decode cX11_takes 305 = .ok (.iinc 3 1, 3) := by decide +kernel
theorem dX11_takes_308 : decode cX11_takes 308 = .ok (.goto (-170), 3) := by decide +kernel
theorem dX11_takes_311 : decode cX11_takes 311 = .ok (.return_, 1) := by decide +kernel
theorem dX11_lay_0 : decode cX11_lay 0 = .ok (.aload_n 0, 1) := by decide +kernel
theorem dX11_lay_1 : decode cX11_lay 1 = .ok (.invokevirtual 187, 3) := by decide +kernel
theorem dX11_lay_4 : decode cX11_lay 4 = .ok (.bipush (-4), 2) := by decide +kernel
theorem dX11_lay_6 : decode cX11_lay 6 = .ok (.if_icmp .eq 6, 3) := by decide +kernel
theorem dX11_lay_9 : decode cX11_lay 9 = .ok (.bipush (-2), 2) := by decide +kernel
theorem dX11_lay_11 : decode cX11_lay 11 = .ok (.ireturn, 1) := by decide +kernel
theorem dX11_lay_12 : decode cX11_lay 12 = .ok (.iconst 0, 1) := by decide +kernel
theorem dX11_lay_13 : decode cX11_lay 13 = .ok (.istore_n 1, 1) := by decide +kernel
theorem dX11_lay_14 : decode cX11_lay 14 = .ok (.iconst 0, 1) := by decide +kernel
theorem dX11_lay_15 : decode cX11_lay 15 = .ok (.istore_n 2, 1) := by decide +kernel
theorem dX11_lay_16 : decode cX11_lay 16 = .ok (.iload_n 2, 1) := by decide +kernel
theorem dX11_lay_17 : decode cX11_lay 17 = .ok (.aload_n 0, 1) := by decide +kernel
theorem dX11_lay_18 : decode cX11_lay 18 = .ok (.getfield 143, 3) := by decide +kernel
theorem dX11_lay_21 : decode cX11_lay 21 = .ok (.if_icmp .ge 28, 3) := by decide +kernel
theorem dX11_lay_24 : decode cX11_lay 24 = .ok (.iload_n 1, 1) := by decide +kernel
theorem dX11_lay_25 : decode cX11_lay 25 = .ok (.ifCond .ne 12, 3) := by decide +kernel
theorem dX11_lay_28 : decode cX11_lay 28 = .ok (.aload_n 0, 1) := by decide +kernel
theorem dX11_lay_29 : decode cX11_lay 29 = .ok (.getfield 55, 3) := by decide +kernel
theorem dX11_lay_32 : decode cX11_lay 32 = .ok (.iload_n 2, 1) := by decide +kernel
theorem dX11_lay_33 : decode cX11_lay 33 = .ok (.iaload, 1) := by decide +kernel
theorem dX11_lay_34 : decode cX11_lay 34 = .ok (.ifCond .le 7, 3) := by decide +kernel
theorem dX11_lay_37 : decode cX11_lay 37 = .ok (.iconst 1, 1) := by decide +kernel
theorem dX11_lay_38 : decode cX11_lay 38 = .ok (.goto 4, 3) := by decide +kernel
theorem dX11_lay_41 : decode cX11_lay 41 = .ok (.iconst 0, 1) := by decide +kernel
theorem dX11_lay_42 : decode cX11_lay 42 = .ok (.istore_n 1, 1) := by decide +kernel
theorem dX11_lay_43 : decode cX11_lay 43 = .ok (.iinc 2 1, 3) := by decide +kernel
theorem dX11_lay_46 : decode cX11_lay 46 = .ok (.goto (-30), 3) := by decide +kernel
theorem dX11_lay_49 : decode cX11_lay 49 = .ok (.iload_n 1, 1) := by decide +kernel
theorem dX11_lay_50 : decode cX11_lay 50 = .ok (.ifCond .ne 6, 3) := by decide +kernel
theorem dX11_lay_53 : decode cX11_lay 53 = .ok (.bipush (-2), 2) := by decide +kernel
theorem dX11_lay_55 : decode cX11_lay 55 = .ok (.ireturn, 1) := by decide +kernel
theorem dX11_lay_56 : decode cX11_lay 56 = .ok (.aload_n 0, 1) := by decide +kernel
theorem dX11_lay_57 : decode cX11_lay 57 = .ok (.aload_n 0, 1) := by decide +kernel
theorem dX11_lay_58 : decode cX11_lay 58 = .ok (.getfield 143, 3) := by decide +kernel
theorem dX11_lay_61 : decode cX11_lay 61 = .ok (.putfield 123, 3) := by decide +kernel
theorem dX11_lay_64 : decode cX11_lay 64 = .ok (.iconst 0, 1) := by decide +kernel
theorem dX11_lay_65 : decode cX11_lay 65 = .ok (.istore_n 2, 1) := by decide +kernel
theorem dX11_lay_66 : decode cX11_lay 66 = .ok (.iconst 0, 1) := by decide +kernel
theorem dX11_lay_67 : decode cX11_lay 67 = .ok (.istore_n 3, 1) := by decide +kernel
theorem dX11_lay_68 : decode cX11_lay 68 = .ok (.iload_n 3, 1) := by decide +kernel
theorem dX11_lay_69 : decode cX11_lay 69 = .ok (.aload_n 0, 1) := by decide +kernel
theorem dX11_lay_70 : decode cX11_lay 70 = .ok (.getfield 123, 3) := by decide +kernel
theorem dX11_lay_73 : decode cX11_lay 73 = .ok (.if_icmp .ge 90, 3) := by decide +kernel
theorem dX11_lay_76 : decode cX11_lay 76 = .ok (.bipush (-4), 2) := by decide +kernel
theorem dX11_lay_78 : decode cX11_lay 78 = .ok (.istore 4, 2) := by decide +kernel
theorem dX11_lay_80 : decode cX11_lay 80 = .ok (.iconst 0, 1) := by decide +kernel
theorem dX11_lay_81 : decode cX11_lay 81 = .ok (.istore 5, 2) := by decide +kernel
theorem dX11_lay_83 : decode cX11_lay 83 = .ok (.iload 5, 2) := by decide +kernel
theorem dX11_lay_85 : decode cX11_lay 85 = .ok (.aload_n 0, 1) := by decide +kernel
theorem dX11_lay_86 : decode cX11_lay 86 = .ok (.getfield 123, 3) := by decide +kernel
theorem dX11_lay_89 : decode cX11_lay 89 = .ok (.if_icmp .ge 53, 3) := by decide +kernel
theorem dX11_lay_92 : decode cX11_lay 92 = .ok (.aload_n 0, 1) := by decide +kernel
theorem dX11_lay_93 : decode cX11_lay 93 = .ok (.getfield 52, 3) := by decide +kernel
theorem dX11_lay_96 : decode cX11_lay 96 = .ok (.iload 5, 2) := by decide +kernel
theorem dX11_lay_98 : decode cX11_lay 98 = .ok (.iaload, 1) := by decide +kernel
theorem dX11_lay_99 : decode cX11_lay 99 = .ok (.iload_n 2, 1) := by decide +kernel
theorem dX11_lay_100 : decode cX11_lay 100 = .ok (.if_icmp .le 32, 3) := by decide +kernel
theorem dX11_lay_103 : decode cX11_lay 103 = .ok (.iload 4, 2) := by decide +kernel
theorem dX11_lay_105 : decode cX11_lay 105 = .ok (.bipush (-4), 2) := by decide +kernel
theorem dX11_lay_107 : decode cX11_lay 107 = .ok (.if_icmp .eq 20, 3) := by decide +kernel
theorem dX11_lay_110 : decode cX11_lay 110 = .ok (.aload_n 0, 1) := by decide +kernel
theorem dX11_lay_111 : decode cX11_lay 111 = .ok (.getfield 52, 3) := by decide +kernel
theorem dX11_lay_114 : decode cX11_lay 114 = .ok (.iload 5, 2) := by decide +kernel
theorem dX11_lay_116 : decode cX11_lay 116 = .ok (.iaload, 1) := by decide +kernel
theorem dX11_lay_117 : decode cX11_lay 117 = .ok (.aload_n 0, 1) := by decide +kernel
theorem dX11_lay_118 : decode cX11_lay 118 = .ok (.getfield 52, 3) := by decide +kernel
theorem dX11_lay_121 : decode cX11_lay 121 = .ok (.iload 4, 2) := by decide +kernel
theorem dX11_lay_123 : decode cX11_lay 123 = .ok (.iaload, 1) := by decide +kernel
theorem dX11_lay_124 : decode cX11_lay 124 = .ok (.if_icmp .ge 8, 3) := by decide +kernel
theorem dX11_lay_127 : decode cX11_lay 127 = .ok (.iload 5, 2) := by decide +kernel
theorem dX11_lay_129 : decode cX11_lay 129 = .ok (.goto 5, 3) := by decide +kernel
theorem dX11_lay_132 : decode cX11_lay 132 = .ok (.iload 4, 2) := by decide +kernel
theorem dX11_lay_134 : decode cX11_lay 134 = .ok (.istore 4, 2) := by decide +kernel
theorem dX11_lay_136 : decode cX11_lay 136 = .ok (.iinc 5 1, 3) := by decide +kernel
theorem dX11_lay_139 : decode cX11_lay 139 = .ok (.goto (-56), 3) := by decide +kernel
theorem dX11_lay_142 : decode cX11_lay 142 = .ok (.aload_n 0, 1) := by decide +kernel
theorem dX11_lay_143 : decode cX11_lay 143 = .ok (.iload 4, 2) := by decide +kernel
theorem dX11_lay_145 : decode cX11_lay 145 = .ok (.iload_n 3, 1) := by decide +kernel
theorem dX11_lay_146 : decode cX11_lay 146 = .ok (.invokevirtual 190, 3) := by decide +kernel
theorem dX11_lay_149 : decode cX11_lay 149 = .ok (.aload_n 0, 1) := by decide +kernel
theorem dX11_lay_150 : decode cX11_lay 150 = .ok (.getfield 52, 3) := by decide +kernel
theorem dX11_lay_153 : decode cX11_lay 153 = .ok (.iload 4, 2) := by decide +kernel
theorem dX11_lay_155 : decode cX11_lay 155 = .ok (.iaload, 1) := by decide +kernel
theorem dX11_lay_156 : decode cX11_lay 156 = .ok (.istore_n 2, 1) := by decide +kernel
theorem dX11_lay_157 : decode cX11_lay 157 = .ok (.iinc 3 1, 3) := by decide +kernel
theorem dX11_lay_160 : decode cX11_lay 160 = .ok (.goto (-92), 3) := by decide +kernel
theorem dX11_lay_163 : decode cX11_lay 163 = .ok (.aload_n 0, 1) := by decide +kernel
theorem dX11_lay_164 : decode cX11_lay 164 = .ok (.iconst 0, 1) := by decide +kernel
theorem dX11_lay_165 : decode cX11_lay 165 = .ok (.putfield 194, 3) := by decide +kernel
theorem dX11_lay_168 : decode cX11_lay 168 = .ok (.aload_n 0, 1) := by decide +kernel
theorem dX11_lay_169 : decode cX11_lay 169 = .ok (.iconst 0, 1) := by decide +kernel
theorem dX11_lay_170 : decode cX11_lay 170 = .ok (.putfield 197, 3) := by decide +kernel
theorem dX11_lay_173 : decode cX11_lay 173 = .ok (.aload_n 0, 1) := by decide +kernel
theorem dX11_lay_174 : decode cX11_lay 174 = .ok (.getfield 123, 3) := by decide +kernel
theorem dX11_lay_177 : decode cX11_lay 177 = .ok (.ireturn, 1) := by decide +kernel
theorem dX11_named_0 : decode cX11_named 0 = .ok (.iload_n 1, 1) := by decide +kernel
theorem dX11_named_1 : decode cX11_named 1 = .ok (.iconst 0, 1) := by decide +kernel
theorem dX11_named_2 : decode cX11_named 2 = .ok (.iconst 2, 1) := by decide +kernel
theorem dX11_named_3 : decode cX11_named 3 = .ok (.invokestatic 135, 3) := by decide +kernel
theorem dX11_named_6 : decode cX11_named 6 = .ok (.ifCond .ne 5, 3) := by decide +kernel
theorem dX11_named_9 : decode cX11_named 9 = .ok (.iconst (-1), 1) := by decide +kernel
theorem dX11_named_10 : decode cX11_named 10 = .ok (.ireturn, 1) := by decide +kernel
theorem dX11_named_11 : decode cX11_named 11 = .ok (.aload_n 0, 1) := by decide +kernel
theorem dX11_named_12 : decode cX11_named 12 = .ok (.iconst 0, 1) := by decide +kernel
theorem dX11_named_13 : decode cX11_named 13 = .ok (.putfield 126, 3) := by decide +kernel
theorem dX11_named_16 : decode cX11_named 16 = .ok (.aload_n 0, 1) := by decide +kernel
theorem dX11_named_17 : decode cX11_named 17 = .ok (.invokevirtual 163, 3) := by decide +kernel
theorem dX11_named_20 : decode cX11_named 20 = .ok (.ifCond .eq 14, 3) := by decide +kernel
theorem dX11_named_23 : decode cX11_named 23 = .ok (.aload_n 0, 1) := by decide +kernel
theorem dX11_named_24 : decode cX11_named 24 = .ok (.getfield 126, 3) := by decide +kernel
theorem dX11_named_27 : decode cX11_named 27 = .ok (.aload_n 0, 1) := by decide +kernel
theorem dX11_named_28 : decode cX11_named 28 = .ok (.getfield 114, 3) := by decide +kernel
theorem dX11_named_31 : decode cX11_named 31 = .ok (.if_icmp .eq 6, 3) := by decide +kernel
theorem dX11_named_34 : decode cX11_named 34 = .ok (.bipush (-2), 2) := by decide +kernel
theorem dX11_named_36 : decode cX11_named 36 = .ok (.ireturn, 1) := by decide +kernel
theorem dX11_named_37 : decode cX11_named 37 = .ok (.bipush (-4), 2) := by decide +kernel
theorem dX11_named_39 : decode cX11_named 39 = .ok (.istore_n 2, 1) := by decide +kernel
theorem dX11_named_40 : decode cX11_named 40 = .ok (.iconst 0, 1) := by decide +kernel
theorem dX11_named_41 : decode cX11_named 41 = .ok (.istore_n 3, 1) := by decide +kernel
theorem dX11_named_42 : decode cX11_named 42 = .ok (.iload_n 3, 1) := by decide +kernel
theorem dX11_named_43 : decode cX11_named 43 = .ok (.aload_n 0, 1) := by decide +kernel
theorem dX11_named_44 : decode cX11_named 44 = .ok (.getfield 123, 3) := by decide +kernel
theorem dX11_named_47 : decode cX11_named 47 = .ok (.if_icmp .ge 97, 3) := by decide +kernel
theorem dX11_named_50 : decode cX11_named 50 = .ok (.iload_n 1, 1) := by decide +kernel
theorem dX11_named_51 : decode cX11_named 51 = .ok (.ifCond .ne 24, 3) := by decide +kernel
theorem dX11_named_54 : decode cX11_named 54 = .ok (.aload_n 0, 1) := by decide +kernel
theorem dX11_named_55 : decode cX11_named 55 = .ok (.getfield 13, 3) := by decide +kernel
theorem dX11_named_58 : decode cX11_named 58 = .ok (.iload_n 3, 1) := by decide +kernel
theorem dX11_named_59 : decode cX11_named 59 = .ok (.iaload, 1) := by decide +kernel
theorem dX11_named_60 : decode cX11_named 60 = .ok (.aload_n 0, 1) := by decide +kernel
theorem dX11_named_61 : decode cX11_named 61 = .ok (.getfield 132, 3) := by decide +kernel
theorem dX11_named_64 : decode cX11_named 64 = .ok (.if_icmp .ne 7, 3) := by decide +kernel
theorem dX11_named_67 : decode cX11_named 67 = .ok (.iconst 1, 1) := by decide +kernel
theorem dX11_named_68 : decode cX11_named 68 = .ok (.goto 57, 3) := by decide +kernel
theorem dX11_named_71 : decode cX11_named 71 = .ok (.iconst 0, 1) := by decide +kernel
theorem dX11_named_72 : decode cX11_named 72 = .ok (.goto 53, 3) := by decide +kernel
theorem dX11_named_75 : decode cX11_named 75 = .ok (.iload_n 1, 1) := by decide +kernel
theorem dX11_named_76 : decode cX11_named 76 = .ok (.iconst 1, 1) := by decide +kernel
theorem dX11_named_77 : decode cX11_named 77 = .ok (.if_icmp .ne 24, 3) := by decide +kernel
theorem dX11_named_80 : decode cX11_named 80 = .ok (.aload_n 0, 1) := by decide +kernel
theorem dX11_named_81 : decode cX11_named 81 = .ok (.getfield 13, 3) := by decide +kernel
theorem dX11_named_84 : decode cX11_named 84 = .ok (.iload_n 3, 1) := by decide +kernel
theorem dX11_named_85 : decode cX11_named 85 = .ok (.iaload, 1) := by decide +kernel
theorem dX11_named_86 : decode cX11_named 86 = .ok (.aload_n 0, 1) := by decide +kernel
theorem dX11_named_87 : decode cX11_named 87 = .ok (.getfield 132, 3) := by decide +kernel
theorem dX11_named_90 : decode cX11_named 90 = .ok (.if_icmp .gt 7, 3) := by decide +kernel
theorem dX11_named_93 : decode cX11_named 93 = .ok (.iconst 1, 1) := by decide +kernel
theorem dX11_named_94 : decode cX11_named 94 = .ok (.goto 31, 3) := by decide +kernel
theorem dX11_named_97 : decode cX11_named 97 = .ok (.iconst 0, 1) := by decide +kernel
theorem dX11_named_98 : decode cX11_named 98 = .ok (.goto 27, 3) := by decide +kernel
theorem dX11_named_101 : decode cX11_named 101 = .ok (.aload_n 0, 1) := by decide +kernel
theorem dX11_named_102 : decode cX11_named 102 = .ok (.getfield 13, 3) := by decide +kernel
theorem dX11_named_105 : decode cX11_named 105 = .ok (.iload_n 3, 1) := by decide +kernel
theorem dX11_named_106 : decode cX11_named 106 = .ok (.iaload, 1) := by decide +kernel
theorem dX11_named_107 : decode cX11_named 107 = .ok (.aload_n 0, 1) := by decide +kernel
theorem dX11_named_108 : decode cX11_named 108 = .ok (.getfield 132, 3) := by decide +kernel
theorem dX11_named_111 : decode cX11_named 111 = .ok (.if_icmp .lt 13, 3) := by decide +kernel
theorem dX11_named_114 : decode cX11_named 114 = .ok (.iload_n 2, 1) := by decide +kernel
theorem dX11_named_115 : decode cX11_named 115 = .ok (.bipush (-4), 2) := by decide +kernel
theorem dX11_named_117 : decode cX11_named 117 = .ok (.if_icmp .ne 7, 3) := by decide +kernel
theorem dX11_named_120 : decode cX11_named 120 = .ok (.iconst 1, 1) := by decide +kernel
theorem dX11_named_121 : decode cX11_named 121 = .ok (.goto 4, 3) := by decide +kernel
theorem dX11_named_124 : decode cX11_named 124 = .ok (.iconst 0, 1) := by decide +kernel
theorem dX11_named_125 : decode cX11_named 125 = .ok (.istore 4, 2) := by decide +kernel
theorem dX11_named_127 : decode cX11_named 127 = .ok (.iload 4, 2) := by decide +kernel
theorem dX11_named_129 : decode cX11_named 129 = .ok (.ifCond .eq 7, 3) := by decide +kernel
theorem dX11_named_132 : decode cX11_named 132 = .ok (.iload_n 3, 1) := by decide +kernel
theorem dX11_named_133 : decode cX11_named 133 = .ok (.goto 4, 3) := by decide +kernel
theorem dX11_named_136 : decode cX11_named 136 = .ok (.iload_n 2, 1) := by decide +kernel
theorem dX11_named_137 : decode cX11_named 137 = .ok (.istore_n 2, 1) := by decide +kernel
theorem dX11_named_138 : decode cX11_named 138 = .ok (.iinc 3 1, 3) := by decide +kernel
theorem dX11_named_141 : decode cX11_named 141 = .ok (.goto (-99), 3) := by decide +kernel
theorem dX11_named_144 : decode cX11_named 144 = .ok (.iload_n 2, 1) := by decide +kernel
theorem dX11_named_145 : decode cX11_named 145 = .ok (.ireturn, 1) := by decide +kernel
theorem dX11_looks_0 : decode cX11_looks 0 = .ok (.aload_n 0, 1) := by decide +kernel
theorem dX11_looks_1 : decode cX11_looks 1 = .ok (.dup, 1) := by decide +kernel
theorem dX11_looks_2 : decode cX11_looks 2 = .ok (.getfield 200, 3) := by decide +kernel
theorem dX11_looks_5 : decode cX11_looks 5 = .ok (.iconst 1, 1) := by decide +kernel
theorem dX11_looks_6 : decode cX11_looks 6 = .ok (.iadd, 1) := by decide +kernel
theorem dX11_looks_7 : decode cX11_looks 7 = .ok (.putfield 200, 3) := by decide +kernel
theorem dX11_looks_10 : decode cX11_looks 10 = .ok (.aload_n 0, 1) := by decide +kernel
theorem dX11_looks_11 : decode cX11_looks 11 = .ok (.getfield 200, 3) := by decide +kernel
theorem dX11_looks_14 : decode cX11_looks 14 = .ok (.bipush 11, 2) := by decide +kernel
theorem dX11_looks_16 : decode cX11_looks 16 = .ok (.if_icmp .ge 7, 3) := by decide +kernel
theorem dX11_looks_19 : decode cX11_looks 19 = .ok (.iconst 1, 1) := by decide +kernel
theorem dX11_looks_20 : decode cX11_looks 20 = .ok (.goto 4, 3) := by decide +kernel
theorem dX11_looks_23 : decode cX11_looks 23 = .ok (.iconst 0, 1) := by decide +kernel
theorem dX11_looks_24 : decode cX11_looks 24 = .ok (.ireturn, 1) := by decide +kernel
theorem dX11_isEmpty_0 : decode cX11_isEmpty 0 = .ok (.aload_n 0, 1) := by decide +kernel
theorem dX11_isEmpty_1 : decode cX11_isEmpty 1 = .ok (.dup, 1) := by decide +kernel
theorem dX11_isEmpty_2 : decode cX11_isEmpty 2 = .ok (.getfield 203, 3) := by decide +kernel
theorem dX11_isEmpty_5 : decode cX11_isEmpty 5 = .ok (.iconst 1, 1) := by decide +kernel
theorem dX11_isEmpty_6 : decode cX11_isEmpty 6 = .ok (.iadd, 1) := by decide +kernel
theorem dX11_isEmpty_7 : decode cX11_isEmpty 7 = .ok (.putfield 203, 3) := by decide +kernel
theorem dX11_isEmpty_10 : decode cX11_isEmpty 10 = .ok (.aload_n 0, 1) := by decide +kernel
theorem dX11_isEmpty_11 : decode cX11_isEmpty 11 = .ok (.getfield 203, 3) := by decide +kernel
theorem dX11_isEmpty_14 : decode cX11_isEmpty 14 = .ok (.iconst 3, 1) := by decide +kernel
theorem dX11_isEmpty_15 : decode cX11_isEmpty 15 = .ok (.if_icmp .ge 7, 3) := by decide +kernel
theorem dX11_isEmpty_18 : decode cX11_isEmpty 18 = .ok (.iconst 1, 1) := by decide +kernel
theorem dX11_isEmpty_19 : decode cX11_isEmpty 19 = .ok (.goto 4, 3) := by decide +kernel
theorem dX11_isEmpty_22 : decode cX11_isEmpty 22 = .ok (.iconst 0, 1) := by decide +kernel
theorem dX11_isEmpty_23 : decode cX11_isEmpty 23 = .ok (.ireturn, 1) := by decide +kernel
theorem dX11_hasHost_0 : decode cX11_hasHost 0 = .ok (.iconst 0, 1) := by decide +kernel
theorem dX11_hasHost_1 : decode cX11_hasHost 1 = .ok (.istore_n 3, 1) := by decide +kernel
theorem dX11_hasHost_2 : decode cX11_hasHost 2 = .ok (.iconst 0, 1) := by decide +kernel
theorem dX11_hasHost_3 : decode cX11_hasHost 3 = .ok (.istore 4, 2) := by decide +kernel
theorem dX11_hasHost_5 : decode cX11_hasHost 5 = .ok (.iload_n 1, 1) := by decide +kernel
theorem dX11_hasHost_6 : decode cX11_hasHost 6 = .ok (.bipush (-4), 2) := by decide +kernel
theorem dX11_hasHost_8 : decode cX11_hasHost 8 = .ok (.if_icmp .eq 55, 3) := by decide +kernel
theorem dX11_hasHost_11 : decode cX11_hasHost 11 = .ok (.iload 4, 2) := by decide +kernel
theorem dX11_hasHost_13 : decode cX11_hasHost 13 = .ok (.aload_n 0, 1) := by decide +kernel
theorem dX11_hasHost_14 : decode cX11_hasHost 14 = .ok (.getfield 46, 3) := by decide +kernel
theorem dX11_hasHost_17 : decode cX11_hasHost 17 = .ok (.bipush 21, 2) := by decide +kernel
theorem dX11_hasHost_19 : decode cX11_hasHost 19 = .ok (.iload_n 1, 1) := by decide +kernel
theorem dX11_hasHost_20 : decode cX11_hasHost 20 = .ok (.imul, 1) := by decide +kernel
theorem dX11_hasHost_21 : decode cX11_hasHost 21 = .ok (.bipush 16, 2) := by decide +kernel
theorem dX11_hasHost_23 : decode cX11_hasHost 23 = .ok (.iadd, 1) := by decide +kernel
theorem dX11_hasHost_24 : decode cX11_hasHost 24 = .ok (.iaload, 1) := by decide +kernel
theorem dX11_hasHost_25 : decode cX11_hasHost 25 = .ok (.if_icmp .ge 38, 3) := by decide +kernel
theorem dX11_hasHost_28 : decode cX11_hasHost 28 = .ok (.iload_n 3, 1) := by decide +kernel
theorem dX11_hasHost_29 : decode cX11_hasHost 29 = .ok (.ifCond .ne 22, 3) := by decide +kernel
theorem dX11_hasHost_32 : decode cX11_hasHost 32 = .ok (.aload_n 0, 1) := by decide +kernel
theorem dX11_hasHost_33 : decode cX11_hasHost 33 = .ok (.getfield 46, 3) := by decide +kernel
theorem dX11_hasHost_36 : decode cX11_hasHost 36 = .ok (.bipush 21, 2) := by decide +kernel
theorem dX11_hasHost_38 : decode cX11_hasHost 38 = .ok (.iload_n 1, 1) := by decide +kernel
theorem dX11_hasHost_39 : decode cX11_hasHost 39 = .ok (.imul, 1) := by decide +kernel
theorem dX11_hasHost_40 : decode cX11_hasHost 40 = .ok (.bipush 17, 2) := by decide +kernel
theorem dX11_hasHost_42 : decode cX11_hasHost 42 = .ok (.iadd, 1) := by decide +kernel
theorem dX11_hasHost_43 : decode cX11_hasHost 43 = .ok (.iload 4, 2) := by decide +kernel
theorem dX11_hasHost_45 : decode cX11_hasHost 45 = .ok (.iadd, 1) := by decide +kernel
theorem dX11_hasHost_46 : decode cX11_hasHost 46 = .ok (.iaload, 1) := by decide +kernel
theorem dX11_hasHost_47 : decode cX11_hasHost 47 = .ok (.iload_n 2, 1) := by decide +kernel
theorem dX11_hasHost_48 : decode cX11_hasHost 48 = .ok (.if_icmp .ne 7, 3) := by decide +kernel
theorem dX11_hasHost_51 : decode cX11_hasHost 51 = .ok (.iconst 1, 1) := by decide +kernel
theorem dX11_hasHost_52 : decode cX11_hasHost 52 = .ok (.goto 4, 3) := by decide +kernel
theorem dX11_hasHost_55 : decode cX11_hasHost 55 = .ok (.iconst 0, 1) := by decide +kernel
theorem dX11_hasHost_56 : decode cX11_hasHost 56 = .ok (.istore_n 3, 1) := by decide +kernel
theorem dX11_hasHost_57 : decode cX11_hasHost 57 = .ok (.iinc 4 1, 3) := by decide +kernel
theorem dX11_hasHost_60 : decode cX11_hasHost 60 = .ok (.goto (-55), 3) := by decide +kernel
theorem dX11_hasHost_63 : decode cX11_hasHost 63 = .ok (.iload_n 3, 1) := by decide +kernel
theorem dX11_hasHost_64 : decode cX11_hasHost 64 = .ok (.ireturn, 1) := by decide +kernel
theorem dX11_hostMany_0 : decode cX11_hostMany 0 = .ok (.iload_n 1, 1) := by decide +kernel
theorem dX11_hostMany_1 : decode cX11_hostMany 1 = .ok (.bipush (-4), 2) := by decide +kernel
theorem dX11_hostMany_3 : decode cX11_hostMany 3 = .ok (.if_icmp .ne 7, 3) := by decide +kernel
theorem dX11_hostMany_6 : decode cX11_hostMany 6 = .ok (.iconst 0, 1) := by decide +kernel
theorem dX11_hostMany_7 : decode cX11_hostMany 7 = .ok (.goto 15, 3) := by decide +kernel
theorem dX11_hostMany_10 : decode cX11_hostMany 10 = .ok (.aload_n 0, 1) := by decide +kernel
theorem dX11_hostMany_11 : decode cX11_hostMany 11 = .ok (.getfield 46, 3) := by decide +kernel
theorem dX11_hostMany_14 : decode cX11_hostMany 14 = .ok (.bipush 21, 2) := by decide +kernel
theorem dX11_hostMany_16 : decode cX11_hostMany 16 = .ok (.iload_n 1, 1) := by decide +kernel
theorem dX11_hostMany_17 : decode cX11_hostMany 17 = .ok (.imul, 1) := by decide +kernel
theorem dX11_hostMany_18 : decode cX11_hostMany 18 = .ok (.bipush 16, 2) := by decide +kernel
theorem dX11_hostMany_20 : decode cX11_hostMany 20 = .ok (.iadd, 1) := by decide +kernel
theorem dX11_hostMany_21 : decode cX11_hostMany 21 = .ok (.iaload, 1) := by decide +kernel
theorem dX11_hostMany_22 : decode cX11_hostMany 22 = .ok (.ireturn, 1) := by decide +kernel
theorem dX11_spells_0 : decode cX11_spells 0 = .ok (.aload_n 0, 1) := by decide +kernel
theorem dX11_spells_1 : decode cX11_spells 1 = .ok (.iload_n 1, 1) := by decide +kernel
theorem dX11_spells_2 : decode cX11_spells 2 = .ok (.invokestatic 206, 3) := by decide +kernel
theorem dX11_spells_5 : decode cX11_spells 5 = .ok (.putfield 209, 3) := by decide +kernel
theorem dX11_spells_8 : decode cX11_spells 8 = .ok (.iconst 0, 1) := by decide +kernel
theorem dX11_spells_9 : decode cX11_spells 9 = .ok (.istore_n 2, 1) := by decide +kernel
theorem dX11_spells_10 : decode cX11_spells 10 = .ok (.iload_n 2, 1) := by decide +kernel
theorem dX11_spells_11 : decode cX11_spells 11 = .ok (.aload_n 0, 1) := by decide +kernel
theorem dX11_spells_12 : decode cX11_spells 12 = .ok (.getfield 209, 3) := by decide +kernel
theorem dX11_spells_15 : decode cX11_spells 15 = .ok (.if_icmp .ge 27, 3) := by decide +kernel
theorem dX11_spells_18 : decode cX11_spells 18 = .ok (.aload_n 0, 1) := by decide +kernel
theorem dX11_spells_19 : decode cX11_spells 19 = .ok (.getfield 103, 3) := by decide +kernel
theorem dX11_spells_22 : decode cX11_spells 22 = .ok (.iload_n 2, 1) := by decide +kernel
theorem dX11_spells_23 : decode cX11_spells 23 = .ok (.iload_n 1, 1) := by decide +kernel
theorem dX11_spells_24 : decode cX11_spells 24 = .ok (.aload_n 0, 1) := by decide +kernel
theorem dX11_spells_25 : decode cX11_spells 25 = .ok (.getfield 209, 3) := by decide +kernel
theorem dX11_spells_28 : decode cX11_spells 28 = .ok (.iconst 1, 1) := by decide +kernel
theorem dX11_spells_29 : decode cX11_spells 29 = .ok (.isub, 1) := by decide +kernel
theorem dX11_spells_30 : decode cX11_spells 30 = .ok (.iload_n 2, 1) := by decide +kernel
theorem dX11_spells_31 : decode cX11_spells 31 = .ok (.isub, 1) := by decide +kernel
theorem dX11_spells_32 : decode cX11_spells 32 = .ok (.invokestatic 212, 3) := by decide +kernel
theorem dX11_spells_35 : decode cX11_spells 35 = .ok (.iastore, 1) := by decide +kernel
theorem dX11_spells_36 : decode cX11_spells 36 = .ok (.iinc 2 1, 3) := by decide +kernel
theorem dX11_spells_39 : decode cX11_spells 39 = .ok (.goto (-29), 3) := by decide +kernel
theorem dX11_spells_42 : decode cX11_spells 42 = .ok (.return_, 1) := by decide +kernel
theorem dX11_spellsPart_0 : decode cX11_spellsPart 0 = .ok (.iload_n 1, 1) := by decide +kernel
theorem dX11_spellsPart_1 : decode cX11_spellsPart 1 = .ok (.iconst 4, 1) := by decide +kernel
theorem dX11_spellsPart_2 : decode cX11_spellsPart 2 = .ok (.irem, 1) := by decide +kernel
theorem dX11_spellsPart_3 : decode cX11_spellsPart 3 = .ok (.istore_n 2, 1) := by decide +kernel
theorem dX11_spellsPart_4 : decode cX11_spellsPart 4 = .ok (.iload_n 1, 1) := by decide +kernel
theorem dX11_spellsPart_5 : decode cX11_spellsPart 5 = .ok (.bipush 16, 2) := by decide +kernel
theorem dX11_spellsPart_7 : decode cX11_spellsPart 7 = .ok (.if_icmp .ge 18, 3) := by decide +kernel
theorem dX11_spellsPart_10 : decode cX11_spellsPart 10 = .ok (.aload_n 0, 1) := by decide +kernel
theorem dX11_spellsPart_11 : decode cX11_spellsPart 11 = .ok (.iconst 1, 1) := by decide +kernel
theorem dX11_spellsPart_12 : decode cX11_spellsPart 12 = .ok (.putfield 209, 3) := by decide +kernel
theorem dX11_spellsPart_15 : decode cX11_spellsPart 15 = .ok (.aload_n 0, 1) := by decide +kernel
theorem dX11_spellsPart_16 : decode cX11_spellsPart 16 = .ok (.getfield 103, 3) := by decide +kernel
theorem dX11_spellsPart_19 : decode cX11_spellsPart 19 = .ok (.iconst 0, 1) := by decide +kernel
theorem dX11_spellsPart_20 : decode cX11_spellsPart 20 = .ok (.iload_n 1, 1) := by decide +kernel
theorem dX11_spellsPart_21 : decode cX11_spellsPart 21 = .ok (.iastore, 1) := by decide +kernel
theorem dX11_spellsPart_22 : decode cX11_spellsPart 22 = .ok (.goto 102, 3) := by decide +kernel
theorem dX11_spellsPart_25 : decode cX11_spellsPart 25 = .ok (.iload_n 2, 1) := by decide +kernel
theorem dX11_spellsPart_26 : decode cX11_spellsPart 26 = .ok (.iconst 2, 1) := by decide +kernel
theorem dX11_spellsPart_27 : decode cX11_spellsPart 27 = .ok (.if_icmp .ge 37, 3) := by decide +kernel
theorem dX11_spellsPart_30 : decode cX11_spellsPart 30 = .ok (.aload_n 0, 1) := by decide +kernel
theorem dX11_spellsPart_31 : decode cX11_spellsPart 31 = .ok (.aload_n 0, 1) := by decide +kernel
theorem dX11_spellsPart_32 : decode cX11_spellsPart 32 = .ok (.getfield 13, 3) := by decide +kernel
theorem dX11_spellsPart_35 : decode cX11_spellsPart 35 = .ok (.iload_n 2, 1) := by decide +kernel
theorem dX11_spellsPart_36 : decode cX11_spellsPart 36 = .ok (.ifCond .ne 17, 3) := by decide +kernel
theorem dX11_spellsPart_39 : decode cX11_spellsPart 39 = .ok (.aload_n 0, 1) := by decide +kernel
theorem dX11_spellsPart_40 : decode cX11_spellsPart 40 = .ok (.getfield 97, 3) := by decide +kernel
theorem dX11_spellsPart_43 : decode cX11_spellsPart 43 = .ok (.aload_n 0, 1) := by decide +kernel
theorem dX11_spellsPart_44 : decode cX11_spellsPart 44 = .ok (.getfield 215, 3) := by decide +kernel
theorem dX11_spellsPart_47 : decode cX11_spellsPart 47 = .ok (.iconst 1, 1) := by decide +kernel
theorem dX11_spellsPart_48 : decode cX11_spellsPart 48 = .ok (.isub, 1) := by decide +kernel
theorem dX11_spellsPart_49 : decode cX11_spellsPart 49 = .ok (.iaload, 1) := by decide +kernel
theorem dX11_spellsPart_50 : decode cX11_spellsPart 50 = .ok (.goto 7, 3) := by decide +kernel
theorem dX11_spellsPart_53 : decode cX11_spellsPart 53 = .ok (.aload_n 0, 1) := by decide +kernel
theorem dX11_spellsPart_54 : decode cX11_spellsPart 54 = .ok (.getfield 218, 3) := by decide +kernel
theorem dX11_spellsPart_57 : decode cX11_spellsPart 57 = .ok (.iaload, 1) := by decide +kernel
theorem dX11_spellsPart_58 : decode cX11_spellsPart 58 = .ok (.invokevirtual 221, 3) := by decide +kernel
theorem dX11_spellsPart_61 : decode cX11_spellsPart 61 = .ok (.goto 63, 3) := by decide +kernel
theorem dX11_spellsPart_64 : decode cX11_spellsPart 64 = .ok (.iload_n 2, 1) := by decide +kernel
theorem dX11_spellsPart_65 : decode cX11_spellsPart 65 = .ok (.iconst 2, 1) := by decide +kernel
theorem dX11_spellsPart_66 : decode cX11_spellsPart 66 = .ok (.if_icmp .ne 43, 3) := by decide +kernel
theorem dX11_spellsPart_69 : decode cX11_spellsPart 69 = .ok (.aload_n 0, 1) := by decide +kernel
theorem dX11_spellsPart_70 : decode cX11_spellsPart 70 = .ok (.iconst 4, 1) := by decide +kernel
theorem dX11_spellsPart_71 : decode cX11_spellsPart 71 = .ok (.putfield 209, 3) := by decide +kernel
theorem dX11_spellsPart_74 : decode cX11_spellsPart 74 = .ok (.iconst 0, 1) := by decide +kernel
theorem dX11_spellsPart_75 : decode cX11_spellsPart 75 = .ok (.istore_n 3, 1) := by decide +kernel
theorem dX11_spellsPart_76 : decode cX11_spellsPart 76 = .ok (.iload_n 3, 1) := by decide +kernel
theorem dX11_spellsPart_77 : decode cX11_spellsPart 77 = .ok (.iconst 4, 1) := by decide +kernel
theorem dX11_spellsPart_78 : decode cX11_spellsPart 78 = .ok (.if_icmp .ge 28, 3) := by decide +kernel
theorem dX11_spellsPart_81 : decode cX11_spellsPart 81 = .ok (.aload_n 0, 1) := by decide +kernel
theorem dX11_spellsPart_82 : decode cX11_spellsPart 82 = .ok (.getfield 103, 3) := by decide +kernel
theorem dX11_spellsPart_85 : decode cX11_spellsPart 85 = .ok (.iload_n 3, 1) := by decide +kernel
theorem dX11_spellsPart_86 : decode cX11_spellsPart 86 = .ok (.aload_n 0, 1) := by decide +kernel
theorem dX11_spellsPart_87 : decode cX11_spellsPart 87 = .ok (.getfield 225, 3) := by decide +kernel
theorem dX11_spellsPart_90 : decode cX11_spellsPart 90 = .ok (.bipush 6, 2) := by decide +kernel
theorem dX11_spellsPart_92 : decode cX11_spellsPart 92 = .ok (.iconst 2, 1) := by decide +kernel
theorem dX11_spellsPart_93 : decode cX11_spellsPart 93 = .ok (.iload_n 3, 1) := by decide +kernel
theorem dX11_spellsPart_94 : decode cX11_spellsPart 94 = .ok (.imul, 1) := by decide +kernel
theorem dX11_spellsPart_95 : decode cX11_spellsPart 95 = .ok (.isub, 1) := by decide +kernel
theorem dX11_spellsPart_96 : decode cX11_spellsPart 96 = .ok (.ishr, 1) := by decide +kernel
theorem dX11_spellsPart_97 : decode cX11_spellsPart 97 = .ok (.iconst 3, 1) := by decide +kernel
theorem dX11_spellsPart_98 : decode cX11_spellsPart 98 = .ok (.iand, 1) := by decide +kernel
theorem dX11_spellsPart_99 : decode cX11_spellsPart 99 = .ok (.iastore, 1) := by decide +kernel
theorem dX11_spellsPart_100 : decode cX11_spellsPart 100 = .ok (.iinc 3 1, 3) := by decide +kernel
theorem dX11_spellsPart_103 : decode cX11_spellsPart 103 = .ok (.goto (-27), 3) := by decide +kernel
theorem dX11_spellsPart_106 : decode cX11_spellsPart 106 = .ok (.goto 18, 3) := by decide +kernel
theorem dX11_spellsPart_109 : decode cX11_spellsPart 109 = .ok (.aload_n 0, 1) := by decide +kernel
theorem dX11_spellsPart_110 : decode cX11_spellsPart 110 = .ok (.iconst 1, 1) := by decide +kernel
theorem dX11_spellsPart_111 : decode cX11_spellsPart 111 = .ok (.putfield 209, 3) := by decide +kernel
theorem dX11_spellsPart_114 : decode cX11_spellsPart 114 = .ok (.aload_n 0, 1) := by decide +kernel
theorem dX11_spellsPart_115 : decode cX11_spellsPart 115 = .ok (.getfield 103, 3) := by decide +kernel
theorem dX11_spellsPart_118 : decode cX11_spellsPart 118 = .ok (.iconst 0, 1) := by decide +kernel
theorem dX11_spellsPart_119 : decode cX11_spellsPart 119 = .ok (.aload_n 0, 1) := by decide +kernel
theorem dX11_spellsPart_120 : decode cX11_spellsPart 120 = .ok (.getfield 228, 3) := by decide +kernel
theorem dX11_spellsPart_123 : decode cX11_spellsPart 123 = .ok (.iastore, 1) := by decide +kernel
theorem dX11_spellsPart_124 : decode cX11_spellsPart 124 = .ok (.return_, 1) := by decide +kernel
theorem dX11_macroName_0 : decode cX11_macroName 0 = .ok (.iconst 0, 1) := by decide +kernel
theorem dX11_macroName_1 : decode cX11_macroName 1 = .ok (.istore_n 2, 1) := by decide +kernel
theorem dX11_macroName_2 : decode cX11_macroName 2 = .ok (.iconst 0, 1) := by decide +kernel
theorem dX11_macroName_3 : decode cX11_macroName 3 = .ok (.istore_n 3, 1) := by decide +kernel
theorem dX11_macroName_4 : decode cX11_macroName 4 = .ok (.iload_n 3, 1) := by decide +kernel
theorem dX11_macroName_5 : decode cX11_macroName 5 = .ok (.aload_n 0, 1) := by decide +kernel
theorem dX11_macroName_6 : decode cX11_macroName 6 = .ok (.getfield 40, 3) := by decide +kernel
theorem dX11_macroName_9 : decode cX11_macroName 9 = .ok (.iload_n 1, 1) := by decide +kernel
theorem dX11_macroName_10 : decode cX11_macroName 10 = .ok (.iaload, 1) := by decide +kernel
theorem dX11_macroName_11 : decode cX11_macroName 11 = .ok (.if_icmp .ge 148, 3) := by decide +kernel
theorem dX11_macroName_14 : decode cX11_macroName 14 = .ok (.aload_n 0, 1) := by decide +kernel
theorem dX11_macroName_15 : decode cX11_macroName 15 = .ok (.getfield 43, 3) := by decide +kernel
theorem dX11_macroName_18 : decode cX11_macroName 18 = .ok (.bipush 8, 2) := by decide +kernel
theorem dX11_macroName_20 : decode cX11_macroName 20 = .ok (.iload_n 1, 1) := by decide +kernel
theorem dX11_macroName_21 : decode cX11_macroName 21 = .ok (.imul, 1) := by decide +kernel
theorem dX11_macroName_22 : decode cX11_macroName 22 = .ok (.iload_n 3, 1) := by decide +kernel
theorem dX11_macroName_23 : decode cX11_macroName 23 = .ok (.iadd, 1) := by decide +kernel
theorem dX11_macroName_24 : decode cX11_macroName 24 = .ok (.iaload, 1) := by decide +kernel
theorem dX11_macroName_25 : decode cX11_macroName 25 = .ok (.istore 4, 2) := by decide +kernel
theorem dX11_macroName_27 : decode cX11_macroName 27 = .ok (.aload_n 0, 1) := by decide +kernel
theorem dX11_macroName_28 : decode cX11_macroName 28 = .ok (.iload 4, 2) := by decide +kernel
theorem dX11_macroName_30 : decode cX11_macroName 30 = .ok (.invokevirtual 231, 3) := by decide +kernel
theorem dX11_macroName_33 : decode cX11_macroName 33 = .ok (.iload 4, 2) := by decide +kernel
theorem dX11_macroName_35 : decode cX11_macroName 35 = .ok (.bipush 16, 2) := by decide +kernel
theorem dX11_macroName_37 : decode cX11_macroName 37 = .ok (.if_icmp .lt 17, 3) := by decide +kernel
theorem dX11_macroName_40 : decode cX11_macroName 40 = .ok (.iload 4, 2) := by decide +kernel
theorem dX11_macroName_42 : decode cX11_macroName 42 = .ok (.iconst 4, 1) := by decide +kernel
theorem dX11_macroName_43 : decode cX11_macroName 43 = .ok (.idiv, 1) := by decide +kernel
theorem dX11_macroName_44 : decode cX11_macroName 44 = .ok (.iconst 1, 1) := by decide +kernel
theorem dX11_macroName_45 : decode cX11_macroName 45 = .ok (.iand, 1) := by decide +kernel
theorem dX11_macroName_46 : decode cX11_macroName 46 = .ok (.iconst 1, 1) := by decide +kernel
theorem dX11_macroName_47 : decode cX11_macroName 47 = .ok (.if_icmp .ne 7, 3) := by decide +kernel
theorem dX11_macroName_50 : decode cX11_macroName 50 = .ok (.iconst 1, 1) := by decide +kernel
theorem dX11_macroName_51 : decode cX11_macroName 51 = .ok (.goto 4, 3) := by decide +kernel
theorem dX11_macroName_54 : decode cX11_macroName 54 = .ok (.iconst 0, 1) := by decide +kernel
theorem dX11_macroName_55 : decode cX11_macroName 55 = .ok (.istore 5, 2) := by decide +kernel
theorem dX11_macroName_57 : decode cX11_macroName 57 = .ok (.iload 4, 2) := by decide +kernel
theorem dX11_macroName_59 : decode cX11_macroName 59 = .ok (.bipush 16, 2) := by decide +kernel
theorem dX11_macroName_61 : decode cX11_macroName 61 = .ok (.if_icmp .lt 14, 3) := by decide +kernel
theorem dX11_macroName_64 : decode cX11_macroName 64 = .ok (.iload 4, 2) := by decide +kernel
theorem dX11_macroName_66 : decode cX11_macroName 66 = .ok (.bipush 16, 2) := by decide +kernel
theorem dX11_macroName_68 : decode cX11_macroName 68 = .ok (.isub, 1) := by decide +kernel
theorem dX11_macroName_69 : decode cX11_macroName 69 = .ok (.bipush 8, 2) := by decide +kernel
theorem dX11_macroName_71 : decode cX11_macroName 71 = .ok (.idiv, 1) := by decide +kernel
theorem dX11_macroName_72 : decode cX11_macroName 72 = .ok (.goto 4, 3) := by decide +kernel
theorem dX11_macroName_75 : decode cX11_macroName 75 = .ok (.iconst 0, 1) := by decide +kernel
theorem dX11_macroName_76 : decode cX11_macroName 76 = .ok (.istore 6, 2) := by decide +kernel
theorem dX11_macroName_78 : decode cX11_macroName 78 = .ok (.iload 6, 2) := by decide +kernel
theorem dX11_macroName_80 : decode cX11_macroName 80 = .ok (.ifCond .le 22, 3) := by decide +kernel
theorem dX11_macroName_83 : decode cX11_macroName 83 = .ok (.iload 6, 2) := by decide +kernel
theorem dX11_macroName_85 : decode cX11_macroName 85 = .ok (.aload_n 0, 1) := by decide +kernel
theorem dX11_macroName_86 : decode cX11_macroName 86 = .ok (.getfield 209, 3) := by decide +kernel
theorem dX11_macroName_89 : decode cX11_macroName 89 = .ok (.if_icmp .ge 13, 3) := by decide +kernel
theorem dX11_macroName_92 : decode cX11_macroName 92 = .ok (.aload_n 0, 1) := by decide +kernel
theorem dX11_macroName_93 : decode cX11_macroName 93 = .ok (.getfield 209, 3) := by decide +kernel
theorem dX11_macroName_96 : decode cX11_macroName 96 = .ok (.iload 6, 2) := by decide +kernel
theorem dX11_macroName_98 : decode cX11_macroName 98 = .ok (.isub, 1) := by decide +kernel
theorem dX11_macroName_99 : decode cX11_macroName 99 = .ok (.goto 4, 3) := by decide +kernel
theorem dX11_macroName_102 : decode cX11_macroName 102 = .ok (.iconst 0, 1) := by decide +kernel
theorem dX11_macroName_103 : decode cX11_macroName 103 = .ok (.istore 7, 2) := by decide +kernel
theorem dX11_macroName_105 : decode cX11_macroName 105 = .ok (.iload 7, 2) := by decide +kernel
theorem dX11_macroName_107 : decode cX11_macroName 107 = .ok (.istore 8, 2) := by decide +kernel
theorem dX11_macroName_109 : decode cX11_macroName 109 = .ok (.iload 8, 2) := by decide +kernel
theorem dX11_macroName_111 : decode cX11_macroName 111 = .ok (.aload_n 0, 1) := by decide +kernel
theorem dX11_macroName_112 : decode cX11_macroName 112 = .ok (.getfield 209, 3) := by decide +kernel
theorem dX11_macroName_115 : decode cX11_macroName 115 = .ok (.if_icmp .ge 38, 3) := by decide +kernel
theorem dX11_macroName_118 : decode cX11_macroName 118 = .ok (.iload_n 2, 1) := by decide +kernel
theorem dX11_macroName_119 : decode cX11_macroName 119 = .ok (.aload_n 0, 1) := by decide +kernel
theorem dX11_macroName_120 : decode cX11_macroName 120 = .ok (.getfield 103, 3) := by decide +kernel
theorem dX11_macroName_123 : decode cX11_macroName 123 = .ok (.iload 5, 2) := by decide +kernel
theorem dX11_macroName_125 : decode cX11_macroName 125 = .ok (.ifCond .eq 15, 3) := by decide +kernel
theorem dX11_macroName_128 : decode cX11_macroName 128 = .ok (.aload_n 0, 1) := by decide +kernel
theorem dX11_macroName_129 : decode cX11_macroName 129 = .ok (.getfield 209, 3) := by decide +kernel
theorem dX11_macroName_132 : decode cX11_macroName 132 = .ok (.iconst 1, 1) := by decide +kernel
theorem dX11_macroName_133 : decode cX11_macroName 133 = .ok (.isub, 1) := by decide +kernel
theorem dX11_macroName_134 : decode cX11_macroName 134 = .ok (.iload 8, 2) := by decide +kernel
theorem dX11_macroName_136 : decode cX11_macroName 136 = .ok (.isub, 1) := by decide +kernel
theorem dX11_macroName_137 : decode cX11_macroName 137 = .ok (.goto 5, 3) := by decide +kernel
theorem dX11_macroName_140 : decode cX11_macroName 140 = .ok (.iload 8, 2) := by decide +kernel
theorem dX11_macroName_142 : decode cX11_macroName 142 = .ok (.iaload, 1) := by decide +kernel
theorem dX11_macroName_143 : decode cX11_macroName 143 = .ok (.invokestatic 139, 3) := by decide +kernel
theorem dX11_macroName_146 : decode cX11_macroName 146 = .ok (.istore_n 2, 1) := by decide +kernel
theorem dX11_macroName_147 : decode cX11_macroName 147 = .ok (.iinc 8 1, 3) := by decide +kernel
theorem dX11_macroName_150 : decode cX11_macroName 150 = .ok (.goto (-41), 3) := by decide +kernel
theorem dX11_macroName_153 : decode cX11_macroName 153 = .ok (.iinc 3 1, 3) := by decide +kernel
theorem dX11_macroName_156 : decode cX11_macroName 156 = .ok (.goto (-152), 3) := by decide +kernel
theorem dX11_macroName_159 : decode cX11_macroName 159 = .ok (.iload_n 2, 1) := by decide +kernel
theorem dX11_macroName_160 : decode cX11_macroName 160 = .ok (.ireturn, 1) := by decide +kernel
theorem dX11_fits_0 : decode cX11_fits 0 = .ok (.aload_n 0, 1) := by decide +kernel
theorem dX11_fits_1 : decode cX11_fits 1 = .ok (.getfield 28, 3) := by decide +kernel
theorem dX11_fits_4 : decode cX11_fits 4 = .ok (.iload_n 1, 1) := by decide +kernel
theorem dX11_fits_5 : decode cX11_fits 5 = .ok (.iaload, 1) := by decide +kernel
theorem dX11_fits_6 : decode cX11_fits 6 = .ok (.ifCond .ne 5, 3) := by decide +kernel
theorem dX11_fits_9 : decode cX11_fits 9 = .ok (.iconst 1, 1) := by decide +kernel
theorem dX11_fits_10 : decode cX11_fits 10 = .ok (.ireturn, 1) := by decide +kernel
theorem dX11_fits_11 : decode cX11_fits 11 = .ok (.aload_n 0, 1) := by decide +kernel
theorem dX11_fits_12 : decode cX11_fits 12 = .ok (.getfield 28, 3) := by decide +kernel
theorem dX11_fits_15 : decode cX11_fits 15 = .ok (.iload_n 1, 1) := by decide +kernel
theorem dX11_fits_16 : decode cX11_fits 16 = .ok (.iaload, 1) := by decide +kernel
theorem dX11_fits_17 : decode cX11_fits 17 = .ok (.iconst 1, 1) := by decide +kernel
theorem dX11_fits_18 : decode cX11_fits 18 = .ok (.if_icmp .ne 33, 3) := by decide +kernel
theorem dX11_fits_21 : decode cX11_fits 21 = .ok (.aload_n 0, 1) := by decide +kernel
theorem dX11_fits_22 : decode cX11_fits 22 = .ok (.getfield 225, 3) := by decide +kernel
theorem dX11_fits_25 : decode cX11_fits 25 = .ok (.aload_n 0, 1) := by decide +kernel
theorem dX11_fits_26 : decode cX11_fits 26 = .ok (.getfield 31, 3) := by decide +kernel
theorem dX11_fits_29 : decode cX11_fits 29 = .ok (.iload_n 1, 1) := by decide +kernel
theorem dX11_fits_30 : decode cX11_fits 30 = .ok (.iaload, 1) := by decide +kernel
theorem dX11_fits_31 : decode cX11_fits 31 = .ok (.ixor, 1) := by decide +kernel
theorem dX11_fits_32 : decode cX11_fits 32 = .ok (.bipush 8, 2) := by decide +kernel
theorem dX11_fits_34 : decode cX11_fits 34 = .ok (.aload_n 0, 1) := by decide +kernel
theorem dX11_fits_35 : decode cX11_fits 35 = .ok (.getfield 34, 3) := by decide +kernel
theorem dX11_fits_38 : decode cX11_fits 38 = .ok (.iload_n 1, 1) := by decide +kernel
theorem dX11_fits_39 : decode cX11_fits 39 = .ok (.iaload, 1) := by decide +kernel
theorem dX11_fits_40 : decode cX11_fits 40 = .ok (.isub, 1) := by decide +kernel
theorem dX11_fits_41 : decode cX11_fits 41 = .ok (.ishr, 1) := by decide +kernel
theorem dX11_fits_42 : decode cX11_fits 42 = .ok (.ifCond .ne 7, 3) := by decide +kernel
theorem dX11_fits_45 : decode cX11_fits 45 = .ok (.iconst 1, 1) := by decide +kernel
theorem dX11_fits_46 : decode cX11_fits 46 = .ok (.goto 4, 3) := by decide +kernel
theorem dX11_fits_49 : decode cX11_fits 49 = .ok (.iconst 0, 1) := by decide +kernel
theorem dX11_fits_50 : decode cX11_fits 50 = .ok (.ireturn, 1) := by decide +kernel
theorem dX11_fits_51 : decode cX11_fits 51 = .ok (.aload_n 0, 1) := by decide +kernel
theorem dX11_fits_52 : decode cX11_fits 52 = .ok (.invokevirtual 234, 3) := by decide +kernel
theorem dX11_fits_55 : decode cX11_fits 55 = .ok (.ifCond .ne 5, 3) := by decide +kernel
theorem dX11_fits_58 : decode cX11_fits 58 = .ok (.iconst 5, 1) := by decide +kernel
theorem dX11_fits_59 : decode cX11_fits 59 = .ok (.ireturn, 1) := by decide +kernel
theorem dX11_fits_60 : decode cX11_fits 60 = .ok (.aload_n 0, 1) := by decide +kernel
theorem dX11_fits_61 : decode cX11_fits 61 = .ok (.aload_n 0, 1) := by decide +kernel
theorem dX11_fits_62 : decode cX11_fits 62 = .ok (.getfield 28, 3) := by decide +kernel
theorem dX11_fits_65 : decode cX11_fits 65 = .ok (.iload_n 1, 1) := by decide +kernel
theorem dX11_fits_66 : decode cX11_fits 66 = .ok (.iaload, 1) := by decide +kernel
theorem dX11_fits_67 : decode cX11_fits 67 = .ok (.iconst 5, 1) := by decide +kernel
theorem dX11_fits_68 : decode cX11_fits 68 = .ok (.if_icmp .ne 11, 3) := by decide +kernel
theorem dX11_fits_71 : decode cX11_fits 71 = .ok (.aload_n 0, 1) := by decide +kernel
theorem dX11_fits_72 : decode cX11_fits 72 = .ok (.iload_n 1, 1) := by decide +kernel
theorem dX11_fits_73 : decode cX11_fits 73 = .ok (.invokevirtual 237, 3) := by decide +kernel
theorem dX11_fits_76 : decode cX11_fits 76 = .ok (.goto 9, 3) := by decide +kernel
theorem dX11_fits_79 : decode cX11_fits 79 = .ok (.aload_n 0, 1) := by decide +kernel
theorem dX11_fits_80 : decode cX11_fits 80 = .ok (.getfield 37, 3) := by decide +kernel
theorem dX11_fits_83 : decode cX11_fits 83 = .ok (.iload_n 1, 1) := by decide +kernel
theorem dX11_fits_84 : decode cX11_fits 84 = .ok (.iaload, 1) := by decide +kernel
theorem dX11_fits_85 : decode cX11_fits 85 = .ok (.invokevirtual 240, 3) := by decide +kernel
theorem dX11_fits_88 : decode cX11_fits 88 = .ok (.istore_n 2, 1) := by decide +kernel
theorem dX11_fits_89 : decode cX11_fits 89 = .ok (.aload_n 0, 1) := by decide +kernel
theorem dX11_fits_90 : decode cX11_fits 90 = .ok (.getfield 28, 3) := by decide +kernel
theorem dX11_fits_93 : decode cX11_fits 93 = .ok (.iload_n 1, 1) := by decide +kernel
theorem dX11_fits_94 : decode cX11_fits 94 = .ok (.iaload, 1) := by decide +kernel
theorem dX11_fits_95 : decode cX11_fits 95 = .ok (.iconst 4, 1) := by decide +kernel
theorem dX11_fits_96 : decode cX11_fits 96 = .ok (.if_icmp .ne 106, 3) := by decide +kernel
theorem dX11_fits_99 : decode cX11_fits 99 = .ok (.iload_n 2, 1) := by decide +kernel
theorem dX11_fits_100 : decode cX11_fits 100 = .ok (.bipush (-4), 2) := by decide +kernel
theorem dX11_fits_102 : decode cX11_fits 102 = .ok (.if_icmp .ne 7, 3) := by decide +kernel
theorem dX11_fits_105 : decode cX11_fits 105 = .ok (.iconst 0, 1) := by decide +kernel
theorem dX11_fits_106 : decode cX11_fits 106 = .ok (.goto 9, 3) := by decide +kernel
theorem dX11_fits_109 : decode cX11_fits 109 = .ok (.aload_n 0, 1) := by decide +kernel
theorem dX11_fits_110 : decode cX11_fits 110 = .ok (.getfield 22, 3) := by decide +kernel
theorem dX11_fits_113 : decode cX11_fits 113 = .ok (.iload_n 2, 1) := by decide +kernel
theorem dX11_fits_114 : decode cX11_fits 114 = .ok (.iaload, 1) := by decide +kernel
theorem dX11_fits_115 : decode cX11_fits 115 = .ok (.istore_n 3, 1) := by decide +kernel
theorem dX11_fits_116 : decode cX11_fits 116 = .ok (.iconst 0, 1) := by decide +kernel
theorem dX11_fits_117 : decode cX11_fits 117 = .ok (.istore 4, 2) := by decide +kernel
theorem dX11_fits_119 : decode cX11_fits 119 = .ok (.iconst 0, 1) := by decide +kernel
theorem dX11_fits_120 : decode cX11_fits 120 = .ok (.istore 5, 2) := by decide +kernel
theorem dX11_fits_122 : decode cX11_fits 122 = .ok (.iload 5, 2) := by decide +kernel
theorem dX11_fits_124 : decode cX11_fits 124 = .ok (.iload_n 3, 1) := by decide +kernel
theorem dX11_fits_125 : decode cX11_fits 125 = .ok (.if_icmp .ge 47, 3) := by decide +kernel
theorem dX11_fits_128 : decode cX11_fits 128 = .ok (.iload 4, 2) := by decide +kernel
theorem dX11_fits_130 : decode cX11_fits 130 = .ok (.ifCond .ne 29, 3) := by decide +kernel
theorem dX11_fits_133 : decode cX11_fits 133 = .ok (.aload_n 0, 1) := by decide +kernel
theorem dX11_fits_134 : decode cX11_fits 134 = .ok (.aload_n 0, 1) := by decide +kernel
theorem dX11_fits_135 : decode cX11_fits 135 = .ok (.aload_n 0, 1) := by decide +kernel
theorem dX11_fits_136 : decode cX11_fits 136 = .ok (.getfield 25, 3) := by decide +kernel
theorem dX11_fits_139 : decode cX11_fits 139 = .ok (.iconst 3, 1) := by decide +kernel
theorem dX11_fits_140 : decode cX11_fits 140 = .ok (.iload_n 2, 1) := by decide +kernel
theorem dX11_fits_141 : decode cX11_fits 141 = .ok (.imul, 1) := by decide +kernel
theorem dX11_fits_142 : decode cX11_fits 142 = .ok (.iload 5, 2) := by decide +kernel
theorem dX11_fits_144 : decode cX11_fits 144 = .ok (.iadd, 1) := by decide +kernel
theorem dX11_fits_145 : decode cX11_fits 145 = .ok (.iaload, 1) := by decide +kernel
theorem dX11_fits_146 : decode cX11_fits 146 = .ok (.invokevirtual 240, 3) := by decide +kernel
theorem dX11_fits_149 : decode cX11_fits 149 = .ok (.aload_n 0, 1) := by decide +kernel
theorem dX11_fits_150 : decode cX11_fits 150 = .ok (.getfield 225, 3) := by decide +kernel
theorem dX11_fits_153 : decode cX11_fits 153 = .ok (.invokevirtual 243, 3) := by decide +kernel
theorem dX11_fits_156 : decode cX11_fits 156 = .ok (.ifCond .eq 7, 3) := by decide +kernel
theorem dX11_fits_159 : decode cX11_fits 159 = .ok (.iconst 1, 1) := by decide +kernel
theorem dX11_fits_160 : decode cX11_fits 160 = .ok (.goto 4, 3) := by decide +kernel
theorem dX11_fits_163 : decode cX11_fits 163 = .ok (.iconst 0, 1) := by decide +kernel
theorem dX11_fits_164 : decode cX11_fits 164 = .ok (.istore 4, 2) := by decide +kernel
theorem dX11_fits_166 : decode cX11_fits 166 = .ok (.iinc 5 1, 3) := by decide +kernel
theorem dX11_fits_169 : decode cX11_fits 169 = .ok (.goto (-47), 3) := by decide +kernel
theorem dX11_fits_172 : decode cX11_fits 172 = .ok (.iload_n 3, 1) := by decide +kernel
theorem dX11_fits_173 : decode cX11_fits 173 = .ok (.ifCond .ne 18, 3) := by decide +kernel
theorem dX11_fits_176 : decode cX11_fits 176 = .ok (.aload_n 0, 1) := by decide +kernel
theorem dX11_fits_177 : decode cX11_fits 177 = .ok (.invokevirtual 247, 3) := by decide +kernel
theorem dX11_fits_180 : decode cX11_fits 180 = .ok (.ifCond .eq 7, 3) := by decide +kernel
theorem dX11_fits_183 : decode cX11_fits 183 = .ok (.iconst 0, 1) := by decide +kernel
theorem dX11_fits_184 : decode cX11_fits 184 = .ok (.goto 17, 3) := by decide +kernel
theorem dX11_fits_187 : decode cX11_fits 187 = .ok (.iconst 5, 1) := by decide +kernel
theorem dX11_fits_188 : decode cX11_fits 188 = .ok (.goto 13, 3) := by decide +kernel
theorem dX11_fits_191 : decode cX11_fits 191 = .ok (.iload 4, 2) := by decide +kernel
theorem dX11_fits_193 : decode cX11_fits 193 = .ok (.ifCond .eq 7, 3) := by decide +kernel
theorem dX11_fits_196 : decode cX11_fits 196 = .ok (.iconst 1, 1) := by decide +kernel
theorem dX11_fits_197 : decode cX11_fits 197 = .ok (.goto 4, 3) := by decide +kernel
theorem dX11_fits_200 : decode cX11_fits 200 = .ok (.iconst 0, 1) := by decide +kernel
theorem dX11_fits_201 : decode cX11_fits 201 = .ok (.ireturn, 1) := by decide +kernel
theorem dX11_fits_202 : decode cX11_fits 202 = .ok (.aload_n 0, 1) := by decide +kernel
theorem dX11_fits_203 : decode cX11_fits 203 = .ok (.iload_n 2, 1) := by decide +kernel
theorem dX11_fits_204 : decode cX11_fits 204 = .ok (.invokevirtual 250, 3) := by decide +kernel
theorem dX11_fits_207 : decode cX11_fits 207 = .ok (.ifCond .ne 16, 3) := by decide +kernel
theorem dX11_fits_210 : decode cX11_fits 210 = .ok (.aload_n 0, 1) := by decide +kernel
theorem dX11_fits_211 : decode cX11_fits 211 = .ok (.invokevirtual 247, 3) := by decide +kernel
theorem dX11_fits_214 : decode cX11_fits 214 = .ok (.ifCond .eq 7, 3) := by decide +kernel
theorem dX11_fits_217 : decode cX11_fits 217 = .ok (.iconst 0, 1) := by decide +kernel
theorem dX11_fits_218 : decode cX11_fits 218 = .ok (.goto 4, 3) := by decide +kernel
theorem dX11_fits_221 : decode cX11_fits 221 = .ok (.iconst 5, 1) := by decide +kernel
theorem dX11_fits_222 : decode cX11_fits 222 = .ok (.ireturn, 1) := by decide +kernel
theorem dX11_fits_223 : decode cX11_fits 223 = .ok (.aload_n 0, 1) := by decide +kernel
theorem dX11_fits_224 : decode cX11_fits 224 = .ok (.getfield 28, 3) := by decide +kernel
theorem dX11_fits_227 : decode cX11_fits 227 = .ok (.iload_n 1, 1) := by decide +kernel
theorem dX11_fits_228 : decode cX11_fits 228 = .ok (.iaload, 1) := by decide +kernel
theorem dX11_fits_229 : decode cX11_fits 229 = .ok (.iconst 5, 1) := by decide +kernel
theorem dX11_fits_230 : decode cX11_fits 230 = .ok (.if_icmp .eq 15, 3) := by decide +kernel
theorem dX11_fits_233 : decode cX11_fits 233 = .ok (.aload_n 0, 1) := by decide +kernel
theorem dX11_fits_234 : decode cX11_fits 234 = .ok (.iload_n 2, 1) := by decide +kernel
theorem dX11_fits_235 : decode cX11_fits 235 = .ok (.aload_n 0, 1) := by decide +kernel
theorem dX11_fits_236 : decode cX11_fits 236 = .ok (.getfield 225, 3) := by decide +kernel
theorem dX11_fits_239 : decode cX11_fits 239 = .ok (.invokevirtual 243, 3) := by decide +kernel
theorem dX11_fits_242 : decode cX11_fits 242 = .ok (.ifCond .eq 7, 3) := by decide +kernel
theorem dX11_fits_245 : decode cX11_fits 245 = .ok (.iconst 1, 1) := by decide +kernel
theorem dX11_fits_246 : decode cX11_fits 246 = .ok (.goto 4, 3) := by decide +kernel
theorem dX11_fits_249 : decode cX11_fits 249 = .ok (.iconst 0, 1) := by decide +kernel
theorem dX11_fits_250 : decode cX11_fits 250 = .ok (.ireturn, 1) := by decide +kernel
theorem dX11_answerOf_0 : decode cX11_answerOf 0 = .ok (.iload_n 0, 1) := by decide +kernel
theorem dX11_answerOf_1 : decode cX11_answerOf 1 = .ok (.ifCond .ne 7, 3) := by decide +kernel
theorem dX11_answerOf_4 : decode cX11_answerOf 4 = .ok (.iconst 2, 1) := by decide +kernel
theorem dX11_answerOf_5 : decode cX11_answerOf 5 = .ok (.goto 15, 3) := by decide +kernel
theorem dX11_answerOf_8 : decode cX11_answerOf 8 = .ok (.iload_n 0, 1) := by decide +kernel
theorem dX11_answerOf_9 : decode cX11_answerOf 9 = .ok (.iconst 3, 1) := by decide +kernel
theorem dX11_answerOf_10 : decode cX11_answerOf 10 = .ok (.if_icmp .ne 7, 3) := by decide +kernel
theorem dX11_answerOf_13 : decode cX11_answerOf 13 = .ok (.iconst 1, 1) := by decide +kernel
theorem dX11_answerOf_14 : decode cX11_answerOf 14 = .ok (.goto 6, 3) := by decide +kernel
theorem dX11_answerOf_17 : decode cX11_answerOf 17 = .ok (.iload_n 0, 1) := by decide +kernel
theorem dX11_answerOf_18 : decode cX11_answerOf 18 = .ok (.iconst 2, 1) := by decide +kernel
theorem dX11_answerOf_19 : decode cX11_answerOf 19 = .ok (.iadd, 1) := by decide +kernel
theorem dX11_answerOf_20 : decode cX11_answerOf 20 = .ok (.ireturn, 1) := by decide +kernel
theorem dX11_ruleAt_0 : decode cX11_ruleAt 0 = .ok (.bipush 8, 2) := by decide +kernel
theorem dX11_ruleAt_2 : decode cX11_ruleAt 2 = .ok (.iload_n 1, 1) := by decide +kernel
theorem dX11_ruleAt_3 : decode cX11_ruleAt 3 = .ok (.imul, 1) := by decide +kernel
theorem dX11_ruleAt_4 : decode cX11_ruleAt 4 = .ok (.aload_n 0, 1) := by decide +kernel
theorem dX11_ruleAt_5 : decode cX11_ruleAt 5 = .ok (.getfield 46, 3) := by decide +kernel
theorem dX11_ruleAt_8 : decode cX11_ruleAt 8 = .ok (.bipush 21, 2) := by decide +kernel
theorem dX11_ruleAt_10 : decode cX11_ruleAt 10 = .ok (.iload_n 1, 1) := by decide +kernel
theorem dX11_ruleAt_11 : decode cX11_ruleAt 11 = .ok (.imul, 1) := by decide +kernel
theorem dX11_ruleAt_12 : decode cX11_ruleAt 12 = .ok (.iload_n 2, 1) := by decide +kernel
theorem dX11_ruleAt_13 : decode cX11_ruleAt 13 = .ok (.iadd, 1) := by decide +kernel
theorem dX11_ruleAt_14 : decode cX11_ruleAt 14 = .ok (.iaload, 1) := by decide +kernel
theorem dX11_ruleAt_15 : decode cX11_ruleAt 15 = .ok (.iadd, 1) := by decide +kernel
theorem dX11_ruleAt_16 : decode cX11_ruleAt 16 = .ok (.ireturn, 1) := by decide +kernel
theorem dX11_signAt_0 : decode cX11_signAt 0 = .ok (.aload_n 0, 1) := by decide +kernel
theorem dX11_signAt_1 : decode cX11_signAt 1 = .ok (.getfield 46, 3) := by decide +kernel
theorem dX11_signAt_4 : decode cX11_signAt 4 = .ok (.bipush 21, 2) := by decide +kernel
theorem dX11_signAt_6 : decode cX11_signAt 6 = .ok (.iload_n 1, 1) := by decide +kernel
theorem dX11_signAt_7 : decode cX11_signAt 7 = .ok (.imul, 1) := by decide +kernel
theorem dX11_signAt_8 : decode cX11_signAt 8 = .ok (.bipush 8, 2) := by decide +kernel
theorem dX11_signAt_10 : decode cX11_signAt 10 = .ok (.iadd, 1) := by decide +kernel
theorem dX11_signAt_11 : decode cX11_signAt 11 = .ok (.aload_n 0, 1) := by decide +kernel
theorem dX11_signAt_12 : decode cX11_signAt 12 = .ok (.getfield 46, 3) := by decide +kernel
theorem dX11_signAt_15 : decode cX11_signAt 15 = .ok (.bipush 21, 2) := by decide +kernel
theorem dX11_signAt_17 : decode cX11_signAt 17 = .ok (.iload_n 1, 1) := by decide +kernel
theorem dX11_signAt_18 : decode cX11_signAt 18 = .ok (.imul, 1) := by decide +kernel
theorem dX11_signAt_19 : decode cX11_signAt 19 = .ok (.iload_n 2, 1) := by decide +kernel
theorem dX11_signAt_20 : decode cX11_signAt 20 = .ok (.iadd, 1) := by decide +kernel
theorem dX11_signAt_21 : decode cX11_signAt 21 = .ok (.iaload, 1) := by decide +kernel
theorem dX11_signAt_22 : decode cX11_signAt 22 = .ok (.iadd, 1) := by decide +kernel
theorem dX11_signAt_23 : decode cX11_signAt 23 = .ok (.iaload, 1) := by decide +kernel
theorem dX11_signAt_24 : decode cX11_signAt 24 = .ok (.ireturn, 1) := by decide +kernel
theorem dX11_ends_0 : decode cX11_ends 0 = .ok (.aload_n 0, 1) := by decide +kernel
theorem dX11_ends_1 : decode cX11_ends 1 = .ok (.getfield 215, 3) := by decide +kernel
theorem dX11_ends_4 : decode cX11_ends 4 = .ok (.iconst 1, 1) := by decide +kernel
theorem dX11_ends_5 : decode cX11_ends 5 = .ok (.if_icmp .ne 13, 3) := by decide +kernel
theorem dX11_ends_8 : decode cX11_ends 8 = .ok (.aload_n 0, 1) := by decide +kernel
theorem dX11_ends_9 : decode cX11_ends 9 = .ok (.iload_n 1, 1) := by decide +kernel
theorem dX11_ends_10 : decode cX11_ends 10 = .ok (.putfield 253, 3) := by decide +kernel
theorem dX11_ends_13 : decode cX11_ends 13 = .ok (.aload_n 0, 1) := by decide +kernel
theorem dX11_ends_14 : decode cX11_ends 14 = .ok (.iload_n 2, 1) := by decide +kernel
theorem dX11_ends_15 : decode cX11_ends 15 = .ok (.putfield 256, 3) := by decide +kernel
theorem dX11_ends_18 : decode cX11_ends 18 = .ok (.aload_n 0, 1) := by decide +kernel
theorem dX11_ends_19 : decode cX11_ends 19 = .ok (.iload_n 1, 1) := by decide +kernel
theorem dX11_ends_20 : decode cX11_ends 20 = .ok (.iload_n 2, 1) := by decide +kernel
theorem dX11_ends_21 : decode cX11_ends 21 = .ok (.invokevirtual 259, 3) := by decide +kernel
theorem dX11_ends_24 : decode cX11_ends 24 = .ok (.invokestatic 262, 3) := by decide +kernel
theorem dX11_ends_27 : decode cX11_ends 27 = .ok (.ireturn, 1) := by decide +kernel
theorem dX11_enters_0 : decode cX11_enters 0 = .ok (.iload_n 1, 1) := by decide +kernel
theorem dX11_enters_1 : decode cX11_enters 1 = .ok (.bipush (-4), 2) := by decide +kernel
theorem dX11_enters_3 : decode cX11_enters 3 = .ok (.if_icmp .eq 12, 3) := by decide +kernel
theorem dX11_enters_6 : decode cX11_enters 6 = .ok (.aload_n 0, 1) := by decide +kernel
theorem dX11_enters_7 : decode cX11_enters 7 = .ok (.getfield 16, 3) := by decide +kernel
theorem dX11_enters_10 : decode cX11_enters 10 = .ok (.iload_n 1, 1) := by decide +kernel
theorem dX11_enters_11 : decode cX11_enters 11 = .ok (.iaload, 1) := by decide +kernel
theorem dX11_enters_12 : decode cX11_enters 12 = .ok (.ifCond .ne 5, 3) := by decide +kernel
theorem dX11_enters_15 : decode cX11_enters 15 = .ok (.iconst 0, 1) := by decide +kernel
theorem dX11_enters_16 : decode cX11_enters 16 = .ok (.ireturn, 1) := by decide +kernel
theorem dX11_enters_17 : decode cX11_enters 17 = .ok (.aload_n 0, 1) := by decide +kernel
theorem dX11_enters_18 : decode cX11_enters 18 = .ok (.getfield 97, 3) := by decide +kernel
theorem dX11_enters_21 : decode cX11_enters 21 = .ok (.aload_n 0, 1) := by decide +kernel
theorem dX11_enters_22 : decode cX11_enters 22 = .ok (.getfield 215, 3) := by decide +kernel
theorem dX11_enters_25 : decode cX11_enters 25 = .ok (.iload_n 1, 1) := by decide +kernel
theorem dX11_enters_26 : decode cX11_enters 26 = .ok (.iastore, 1) := by decide +kernel
theorem dX11_enters_27 : decode cX11_enters 27 = .ok (.aload_n 0, 1) := by decide +kernel
theorem dX11_enters_28 : decode cX11_enters 28 = .ok (.getfield 100, 3) := by decide +kernel
theorem dX11_enters_31 : decode cX11_enters 31 = .ok (.aload_n 0, 1) := by decide +kernel
theorem dX11_enters_32 : decode cX11_enters 32 = .ok (.getfield 215, 3) := by decide +kernel
theorem dX11_enters_35 : decode cX11_enters 35 = .ok (.iconst 0, 1) := by decide +kernel
theorem dX11_enters_36 : decode cX11_enters 36 = .ok (.iastore, 1) := by decide +kernel
theorem dX11_enters_37 : decode cX11_enters 37 = .ok (.aload_n 0, 1) := by decide +kernel
theorem dX11_enters_38 : decode cX11_enters 38 = .ok (.dup, 1) := by decide +kernel
theorem dX11_enters_39 : decode cX11_enters 39 = .ok (.getfield 215, 3) := by decide +kernel
theorem dX11_enters_42 : decode cX11_enters 42 = .ok (.iconst 1, 1) := by decide +kernel
theorem dX11_enters_43 : decode cX11_enters 43 = .ok (.iadd, 1) := by decide +kernel
theorem dX11_enters_44 : decode cX11_enters 44 = .ok (.putfield 215, 3) := by decide +kernel
theorem dX11_enters_47 : decode cX11_enters 47 = .ok (.iconst 1, 1) := by decide +kernel
theorem dX11_enters_48 : decode cX11_enters 48 = .ok (.ireturn, 1) := by decide +kernel
theorem dX11_error_0 : decode cX11_error 0 = .ok (.aload_n 0, 1) := by decide +kernel
theorem dX11_error_1 : decode cX11_error 1 = .ok (.bipush (-4), 2) := by decide +kernel
theorem dX11_error_3 : decode cX11_error 3 = .ok (.putfield 253, 3) := by decide +kernel
theorem dX11_error_6 : decode cX11_error 6 = .ok (.aload_n 0, 1) := by decide +kernel
theorem dX11_error_7 : decode cX11_error 7 = .ok (.bipush (-4), 2) := by decide +kernel
theorem dX11_error_9 : decode cX11_error 9 = .ok (.putfield 256, 3) := by decide +kernel
theorem dX11_error_12 : decode cX11_error 12 = .ok (.iconst 5, 1) := by decide +kernel
theorem dX11_error_13 : decode cX11_error 13 = .ok (.ireturn, 1) := by decide +kernel
theorem dX11_goes_0 : decode cX11_goes 0 = .ok (.aload_n 0, 1) := by decide +kernel
theorem dX11_goes_1 : decode cX11_goes 1 = .ok (.iload_n 1, 1) := by decide +kernel
theorem dX11_goes_2 : decode cX11_goes 2 = .ok (.putfield 218, 3) := by decide +kernel
theorem dX11_goes_5 : decode cX11_goes 5 = .ok (.aload_n 0, 1) := by decide +kernel
theorem dX11_goes_6 : decode cX11_goes 6 = .ok (.iload_n 2, 1) := by decide +kernel
theorem dX11_goes_7 : decode cX11_goes 7 = .ok (.putfield 225, 3) := by decide +kernel
theorem dX11_goes_10 : decode cX11_goes 10 = .ok (.aload_n 0, 1) := by decide +kernel
theorem dX11_goes_11 : decode cX11_goes 11 = .ok (.iload_n 3, 1) := by decide +kernel
theorem dX11_goes_12 : decode cX11_goes 12 = .ok (.putfield 228, 3) := by decide +kernel
theorem dX11_goes_15 : decode cX11_goes 15 = .ok (.aload_n 0, 1) := by decide +kernel
theorem dX11_goes_16 : decode cX11_goes 16 = .ok (.iconst 0, 1) := by decide +kernel
theorem dX11_goes_17 : decode cX11_goes 17 = .ok (.putfield 200, 3) := by decide +kernel
theorem dX11_goes_20 : decode cX11_goes 20 = .ok (.aload_n 0, 1) := by decide +kernel
theorem dX11_goes_21 : decode cX11_goes 21 = .ok (.iconst 0, 1) := by decide +kernel
theorem dX11_goes_22 : decode cX11_goes 22 = .ok (.putfield 203, 3) := by decide +kernel
theorem dX11_goes_25 : decode cX11_goes 25 = .ok (.aload_n 0, 1) := by decide +kernel
theorem dX11_goes_26 : decode cX11_goes 26 = .ok (.bipush (-4), 2) := by decide +kernel
theorem dX11_goes_28 : decode cX11_goes 28 = .ok (.putfield 253, 3) := by decide +kernel
theorem dX11_goes_31 : decode cX11_goes 31 = .ok (.aload_n 0, 1) := by decide +kernel
theorem dX11_goes_32 : decode cX11_goes 32 = .ok (.bipush (-4), 2) := by decide +kernel
theorem dX11_goes_34 : decode cX11_goes 34 = .ok (.putfield 256, 3) := by decide +kernel
theorem dX11_goes_37 : decode cX11_goes 37 = .ok (.aload_n 0, 1) := by decide +kernel
theorem dX11_goes_38 : decode cX11_goes 38 = .ok (.iconst 0, 1) := by decide +kernel
theorem dX11_goes_39 : decode cX11_goes 39 = .ok (.putfield 215, 3) := by decide +kernel
theorem dX11_goes_42 : decode cX11_goes 42 = .ok (.aload_n 0, 1) := by decide +kernel
theorem dX11_goes_43 : decode cX11_goes 43 = .ok (.iload_n 1, 1) := by decide +kernel
theorem dX11_goes_44 : decode cX11_goes 44 = .ok (.invokevirtual 265, 3) := by decide +kernel
theorem dX11_goes_47 : decode cX11_goes 47 = .ok (.ifCond .ne 5, 3) := by decide +kernel
theorem dX11_goes_50 : decode cX11_goes 50 = .ok (.iconst 0, 1) := by decide +kernel
theorem dX11_goes_51 : decode cX11_goes 51 = .ok (.ireturn, 1) := by decide +kernel
theorem dX11_goes_52 : decode cX11_goes 52 = .ok (.aload_n 0, 1) := by decide +kernel
theorem dX11_goes_53 : decode cX11_goes 53 = .ok (.getfield 215, 3) := by decide +kernel
theorem dX11_goes_56 : decode cX11_goes 56 = .ok (.iconst 1, 1) := by decide +kernel
theorem dX11_goes_57 : decode cX11_goes 57 = .ok (.isub, 1) := by decide +kernel
theorem dX11_goes_58 : decode cX11_goes 58 = .ok (.istore 4, 2) := by decide +kernel
theorem dX11_goes_60 : decode cX11_goes 60 = .ok (.aload_n 0, 1) := by decide +kernel
theorem dX11_goes_61 : decode cX11_goes 61 = .ok (.getfield 97, 3) := by decide +kernel
theorem dX11_goes_64 : decode cX11_goes 64 = .ok (.iload 4, 2) := by decide +kernel
theorem dX11_goes_66 : decode cX11_goes 66 = .ok (.iaload, 1) := by decide +kernel
theorem dX11_goes_67 : decode cX11_goes 67 = .ok (.istore 5, 2) := by decide +kernel
theorem dX11_goes_69 : decode cX11_goes 69 = .ok (.aload_n 0, 1) := by decide +kernel
theorem dX11_goes_70 : decode cX11_goes 70 = .ok (.getfield 100, 3) := by decide +kernel
theorem dX11_goes_73 : decode cX11_goes 73 = .ok (.iload 4, 2) := by decide +kernel
theorem dX11_goes_75 : decode cX11_goes 75 = .ok (.iaload, 1) := by decide +kernel
theorem dX11_goes_76 : decode cX11_goes 76 = .ok (.istore 6, 2) := by decide +kernel
theorem dX11_goes_78 : decode cX11_goes 78 = .ok (.bipush (-4), 2) := by decide +kernel
theorem dX11_goes_80 : decode cX11_goes 80 = .ok (.istore 7, 2) := by decide +kernel
theorem dX11_goes_82 : decode cX11_goes 82 = .ok (.iload 6, 2) := by decide +kernel
theorem dX11_goes_84 : decode cX11_goes 84 = .ok (.aload_n 0, 1) := by decide +kernel
theorem dX11_goes_85 : decode cX11_goes 85 = .ok (.getfield 16, 3) := by decide +kernel
theorem dX11_goes_88 : decode cX11_goes 88 = .ok (.iload 5, 2) := by decide +kernel
theorem dX11_goes_90 : decode cX11_goes 90 = .ok (.iaload, 1) := by decide +kernel
theorem dX11_goes_91 : decode cX11_goes 91 = .ok (.if_icmp .ne 59, 3) := by decide +kernel
theorem dX11_goes_94 : decode cX11_goes 94 = .ok (.aload_n 0, 1) := by decide +kernel
theorem dX11_goes_95 : decode cX11_goes 95 = .ok (.getfield 19, 3) := by decide +kernel
theorem dX11_goes_98 : decode cX11_goes 98 = .ok (.iload 5, 2) := by decide +kernel
theorem dX11_goes_100 : decode cX11_goes 100 = .ok (.iaload, 1) := by decide +kernel
theorem dX11_goes_101 : decode cX11_goes 101 = .ok (.ifCond .ne 9, 3) := by decide +kernel
theorem dX11_goes_104 : decode cX11_goes 104 = .ok (.iconst 1, 1) := by decide +kernel
theorem dX11_goes_105 : decode cX11_goes 105 = .ok (.istore 7, 2) := by decide +kernel
theorem dX11_goes_107 : decode cX11_goes 107 = .ok (.goto 156, 3) := by decide +kernel
theorem dX11_goes_110 : decode cX11_goes 110 = .ok (.aload_n 0, 1) := by decide +kernel
theorem dX11_goes_111 : decode cX11_goes 111 = .ok (.dup, 1) := by decide +kernel
theorem dX11_goes_112 : decode cX11_goes 112 = .ok (.getfield 215, 3) := by decide +kernel
theorem dX11_goes_115 : decode cX11_goes 115 = .ok (.iconst 1, 1) := by decide +kernel
theorem dX11_goes_116 : decode cX11_goes 116 = .ok (.isub, 1) := by decide +kernel
theorem dX11_goes_117 : decode cX11_goes 117 = .ok (.putfield 215, 3) := by decide +kernel
theorem dX11_goes_120 : decode cX11_goes 120 = .ok (.aload_n 0, 1) := by decide +kernel
theorem dX11_goes_121 : decode cX11_goes 121 = .ok (.invokevirtual 234, 3) := by decide +kernel
theorem dX11_goes_124 : decode cX11_goes 124 = .ok (.ifCond .eq 21, 3) := by decide +kernel
theorem dX11_goes_127 : decode cX11_goes 127 = .ok (.aload_n 0, 1) := by decide +kernel
theorem dX11_goes_128 : decode cX11_goes 128 = .ok (.aload_n 0, 1) := by decide +kernel
theorem dX11_goes_129 : decode cX11_goes 129 = .ok (.aload_n 0, 1) := by decide +kernel
theorem dX11_goes_130 : decode cX11_goes 130 = .ok (.getfield 19, 3) := by decide +kernel
theorem dX11_goes_133 : decode cX11_goes 133 = .ok (.iload 5, 2) := by decide +kernel
theorem dX11_goes_135 : decode cX11_goes 135 = .ok (.iaload, 1) := by decide +kernel
theorem dX11_goes_136 : decode cX11_goes 136 = .ok (.invokevirtual 240, 3) := by decide +kernel
theorem dX11_goes_139 : decode cX11_goes 139 = .ok (.invokevirtual 265, 3) := by decide +kernel
theorem dX11_goes_142 : decode cX11_goes 142 = .ok (.ifCond .ne 121, 3) := by decide +kernel
theorem dX11_goes_145 : decode cX11_goes 145 = .ok (.aload_n 0, 1) := by decide +kernel
theorem dX11_goes_146 : decode cX11_goes 146 = .ok (.invokevirtual 268, 3) := by decide +kernel
theorem dX11_goes_149 : decode cX11_goes 149 = .ok (.ireturn, 1) := by decide +kernel
theorem dX11_goes_150 : decode cX11_goes 150 = .ok (.aload_n 0, 1) := by decide +kernel
theorem dX11_goes_151 : decode cX11_goes 151 = .ok (.getfield 28, 3) := by decide +kernel
theorem dX11_goes_154 : decode cX11_goes 154 = .ok (.aload_n 0, 1) := by decide +kernel
theorem dX11_goes_155 : decode cX11_goes 155 = .ok (.iload 5, 2) := by decide +kernel
theorem dX11_goes_157 : decode cX11_goes 157 = .ok (.iload 6, 2) := by decide +kernel
theorem dX11_goes_159 : decode cX11_goes 159 = .ok (.invokevirtual 271, 3) := by decide +kernel
theorem dX11_goes_162 : decode cX11_goes 162 = .ok (.iaload, 1) := by decide +kernel
theorem dX11_goes_163 : decode cX11_goes 163 = .ok (.iconst 2, 1) := by decide +kernel
theorem dX11_goes_164 : decode cX11_goes 164 = .ok (.if_icmp .ne 39, 3) := by decide +kernel
theorem dX11_goes_167 : decode cX11_goes 167 = .ok (.aload_n 0, 1) := by decide +kernel
theorem dX11_goes_168 : decode cX11_goes 168 = .ok (.invokevirtual 234, 3) := by decide +kernel
theorem dX11_goes_171 : decode cX11_goes 171 = .ok (.ifCond .eq 27, 3) := by decide +kernel
theorem dX11_goes_174 : decode cX11_goes 174 = .ok (.aload_n 0, 1) := by decide +kernel
theorem dX11_goes_175 : decode cX11_goes 175 = .ok (.aload_n 0, 1) := by decide +kernel
theorem dX11_goes_176 : decode cX11_goes 176 = .ok (.aload_n 0, 1) := by decide +kernel
theorem dX11_goes_177 : decode cX11_goes 177 = .ok (.getfield 37, 3) := by decide +kernel
theorem dX11_goes_180 : decode cX11_goes 180 = .ok (.aload_n 0, 1) := by decide +kernel
theorem dX11_goes_181 : decode cX11_goes 181 = .ok (.iload 5, 2) := by decide +kernel
theorem dX11_goes_183 : decode cX11_goes 183 = .ok (.iload 6, 2) := by decide +kernel
theorem dX11_goes_185 : decode cX11_goes 185 = .ok (.invokevirtual 271, 3) := by decide +kernel
theorem dX11_goes_188 : decode cX11_goes 188 = .ok (.iaload, 1) := by decide +kernel
theorem dX11_goes_189 : decode cX11_goes 189 = .ok (.invokevirtual 240, 3) := by decide +kernel
theorem dX11_goes_192 : decode cX11_goes 192 = .ok (.invokevirtual 265, 3) := by decide +kernel
theorem dX11_goes_195 : decode cX11_goes 195 = .ok (.ifCond .ne 68, 3) := by decide +kernel
theorem dX11_goes_198 : decode cX11_goes 198 = .ok (.aload_n 0, 1) := by decide +kernel
theorem dX11_goes_199 : decode cX11_goes 199 = .ok (.invokevirtual 268, 3) := by decide +kernel
theorem dX11_goes_202 : decode cX11_goes 202 = .ok (.ireturn, 1) := by decide +kernel
theorem dX11_goes_203 : decode cX11_goes 203 = .ok (.aload_n 0, 1) := by decide +kernel
theorem dX11_goes_204 : decode cX11_goes 204 = .ok (.aload_n 0, 1) := by decide +kernel
theorem dX11_goes_205 : decode cX11_goes 205 = .ok (.iload 5, 2) := by decide +kernel
theorem dX11_goes_207 : decode cX11_goes 207 = .ok (.iload 6, 2) := by decide +kernel
theorem dX11_goes_209 : decode cX11_goes 209 = .ok (.invokevirtual 271, 3) := by decide +kernel
theorem dX11_goes_212 : decode cX11_goes 212 = .ok (.invokevirtual 274, 3) := by decide +kernel
theorem dX11_goes_215 : decode cX11_goes 215 = .ok (.istore 8, 2) := by decide +kernel
theorem dX11_goes_217 : decode cX11_goes 217 = .ok (.iload 8, 2) := by decide +kernel
theorem dX11_goes_219 : decode cX11_goes 219 = .ok (.iconst 5, 1) := by decide +kernel
theorem dX11_goes_220 : decode cX11_goes 220 = .ok (.if_icmp .ne 8, 3) := by decide +kernel
theorem dX11_goes_223 : decode cX11_goes 223 = .ok (.aload_n 0, 1) := by decide +kernel
theorem dX11_goes_224 : decode cX11_goes 224 = .ok (.invokevirtual 268, 3) := by decide +kernel
theorem dX11_goes_227 : decode cX11_goes 227 = .ok (.ireturn, 1) := by decide +kernel
theorem dX11_goes_228 : decode cX11_goes 228 = .ok (.aload_n 0, 1) := by decide +kernel
theorem dX11_goes_229 : decode cX11_goes 229 = .ok (.getfield 100, 3) := by decide +kernel
theorem dX11_goes_232 : decode cX11_goes 232 = .ok (.iload 4, 2) := by decide +kernel
theorem dX11_goes_234 : decode cX11_goes 234 = .ok (.dup2, 1) := by decide +kernel
theorem dX11_goes_235 : decode cX11_goes 235 = .ok (.iaload, 1) := by decide +kernel
theorem dX11_goes_236 : decode cX11_goes 236 = .ok (.iconst 1, 1) := by decide +kernel
theorem dX11_goes_237 : decode cX11_goes 237 = .ok (.iload 8, 2) := by decide +kernel
theorem dX11_goes_239 : decode cX11_goes 239 = .ok (.isub, 1) := by decide +kernel
theorem dX11_goes_240 : decode cX11_goes 240 = .ok (.iadd, 1) := by decide +kernel
theorem dX11_goes_241 : decode cX11_goes 241 = .ok (.iastore, 1) := by decide +kernel
theorem dX11_goes_242 : decode cX11_goes 242 = .ok (.iload 8, 2) := by decide +kernel
theorem dX11_goes_244 : decode cX11_goes 244 = .ok (.iconst 1, 1) := by decide +kernel
theorem dX11_goes_245 : decode cX11_goes 245 = .ok (.if_icmp .ne 14, 3) := by decide +kernel
theorem dX11_goes_248 : decode cX11_goes 248 = .ok (.aload_n 0, 1) := by decide +kernel
theorem dX11_goes_249 : decode cX11_goes 249 = .ok (.iload 5, 2) := by decide +kernel
theorem dX11_goes_251 : decode cX11_goes 251 = .ok (.iload 6, 2) := by decide +kernel
theorem dX11_goes_253 : decode cX11_goes 253 = .ok (.invokevirtual 277, 3) := by decide +kernel
theorem dX11_goes_256 : decode cX11_goes 256 = .ok (.goto 5, 3) := by decide +kernel
theorem dX11_goes_259 : decode cX11_goes 259 = .ok (.bipush (-4), 2) := by decide +kernel
theorem dX11_goes_261 : decode cX11_goes 261 = .ok (.istore 7, 2) := by decide +kernel
theorem dX11_goes_263 : decode cX11_goes 263 = .ok (.iload 7, 2) := by decide +kernel
theorem dX11_goes_265 : decode cX11_goes 265 = .ok (.bipush (-4), 2) := by decide +kernel
theorem dX11_goes_267 : decode cX11_goes 267 = .ok (.if_icmp .eq 86, 3) := by decide +kernel
theorem dX11_goes_270 : decode cX11_goes 270 = .ok (.aload_n 0, 1) := by decide +kernel
theorem dX11_goes_271 : decode cX11_goes 271 = .ok (.dup, 1) := by decide +kernel
theorem dX11_goes_272 : decode cX11_goes 272 = .ok (.getfield 215, 3) := by decide +kernel
theorem dX11_goes_275 : decode cX11_goes 275 = .ok (.iconst 1, 1) := by decide +kernel
theorem dX11_goes_276 : decode cX11_goes 276 = .ok (.isub, 1) := by decide +kernel
theorem dX11_goes_277 : decode cX11_goes 277 = .ok (.putfield 215, 3) := by decide +kernel
theorem dX11_goes_280 : decode cX11_goes 280 = .ok (.aload_n 0, 1) := by decide +kernel
theorem dX11_goes_281 : decode cX11_goes 281 = .ok (.getfield 215, 3) := by decide +kernel
theorem dX11_goes_284 : decode cX11_goes 284 = .ok (.ifCond .ne 6, 3) := by decide +kernel
theorem dX11_goes_287 : decode cX11_goes 287 = .ok (.iload 7, 2) := by decide +kernel
theorem dX11_goes_289 : decode cX11_goes 289 = .ok (.ireturn, 1) := by decide +kernel
theorem dX11_goes_290 : decode cX11_goes 290 = .ok (.aload_n 0, 1) := by decide +kernel
theorem dX11_goes_291 : decode cX11_goes 291 = .ok (.getfield 97, 3) := by decide +kernel
theorem dX11_goes_294 : decode cX11_goes 294 = .ok (.aload_n 0, 1) := by decide +kernel
theorem dX11_goes_295 : decode cX11_goes 295 = .ok (.getfield 215, 3) := by decide +kernel
theorem dX11_goes_298 : decode cX11_goes 298 = .ok (.iconst 1, 1) := by decide +kernel
theorem dX11_goes_299 : decode cX11_goes 299 = .ok (.isub, 1) := by decide +kernel
theorem dX11_goes_300 : decode cX11_goes 300 = .ok (.iaload, 1) := by decide +kernel
theorem dX11_goes_301 : decode cX11_goes 301 = .ok (.istore 8, 2) := by decide +kernel
theorem dX11_goes_303 : decode cX11_goes 303 = .ok (.iload 7, 2) := by decide +kernel
theorem dX11_goes_305 : decode cX11_goes 305 = .ok (.iconst 2, 1) := by decide +kernel
theorem dX11_goes_306 : decode cX11_goes 306 = .ok (.if_icmp .ne 25, 3) := by decide +kernel
theorem dX11_goes_309 : decode cX11_goes 309 = .ok (.aload_n 0, 1) := by decide +kernel
theorem dX11_goes_310 : decode cX11_goes 310 = .ok (.iload 8, 2) := by decide +kernel
theorem dX11_goes_312 : decode cX11_goes 312 = .ok (.aload_n 0, 1) := by decide +kernel
theorem dX11_goes_313 : decode cX11_goes 313 = .ok (.getfield 100, 3) := by decide +kernel
theorem dX11_goes_316 : decode cX11_goes 316 = .ok (.aload_n 0, 1) := by decide +kernel
theorem dX11_goes_317 : decode cX11_goes 317 = .ok (.getfield 215, 3) := by decide +kernel
theorem dX11_goes_320 : decode cX11_goes 320 = .ok (.iconst 1, 1) := by decide +kernel
theorem dX11_goes_321 : decode cX11_goes 321 = .ok (.isub, 1) := by decide +kernel
theorem dX11_goes_322 : decode cX11_goes 322 = .ok (.iaload, 1) := by decide +kernel
theorem dX11_goes_323 : decode cX11_goes 323 = .ok (.invokevirtual 277, 3) := by decide +kernel
theorem dX11_goes_326 : decode cX11_goes 326 = .ok (.istore 7, 2) := by decide +kernel
theorem dX11_goes_328 : decode cX11_goes 328 = .ok (.goto 22, 3) := by decide +kernel
theorem dX11_goes_331 : decode cX11_goes 331 = .ok (.aload_n 0, 1) := by decide +kernel
theorem dX11_goes_332 : decode cX11_goes 332 = .ok (.getfield 100, 3) := by decide +kernel
theorem dX11_goes_335 : decode cX11_goes 335 = .ok (.aload_n 0, 1) := by decide +kernel
theorem dX11_goes_336 : decode cX11_goes 336 = .ok (.getfield 215, 3) := by decide +kernel
theorem dX11_goes_339 : decode cX11_goes 339 = .ok (.iconst 1, 1) := by decide +kernel
theorem dX11_goes_340 : decode cX11_goes 340 = .ok (.isub, 1) := by decide +kernel
theorem dX11_goes_341 : decode cX11_goes 341 = .ok (.dup2, 1) := by decide +kernel
theorem dX11_goes_342 : decode cX11_goes 342 = .ok (.iaload, 1) := by decide +kernel
theorem dX11_goes_343 : decode cX11_goes 343 = .ok (.iconst 1, 1) := by decide +kernel
theorem dX11_goes_344 : decode cX11_goes 344 = .ok (.iadd, 1) := by decide +kernel
theorem dX11_goes_345 : decode cX11_goes 345 = .ok (.iastore, 1) := by decide +kernel
theorem dX11_goes_346 : decode cX11_goes 346 = .ok (.bipush (-4), 2) := by decide +kernel
theorem dX11_goes_348 : decode cX11_goes 348 = .ok (.istore 7, 2) := by decide +kernel
theorem dX11_goes_350 : decode cX11_goes 350 = .ok (.goto (-87), 3) := by decide +kernel
theorem dX11_goes_353 : decode cX11_goes 353 = .ok (.goto (-301), 3) := by decide +kernel
theorem dX11_isName_0 : decode cX11_isName 0 = .ok (.iload_n 1, 1) := by decide +kernel
theorem dX11_isName_1 : decode cX11_isName 1 = .ok (.iconst 0, 1) := by decide +kernel
theorem dX11_isName_2 : decode cX11_isName 2 = .ok (.aload_n 0, 1) := by decide +kernel
theorem dX11_isName_3 : decode cX11_isName 3 = .ok (.getfield 123, 3) := by decide +kernel
theorem dX11_isName_6 : decode cX11_isName 6 = .ok (.iconst 1, 1) := by decide +kernel
theorem dX11_isName_7 : decode cX11_isName 7 = .ok (.isub, 1) := by decide +kernel
theorem dX11_isName_8 : decode cX11_isName 8 = .ok (.invokestatic 135, 3) := by decide +kernel
theorem dX11_isName_11 : decode cX11_isName 11 = .ok (.ireturn, 1) := by decide +kernel
theorem dX11_isRule_0 : decode cX11_isRule 0 = .ok (.aload_n 0, 1) := by decide +kernel
theorem dX11_isRule_1 : decode cX11_isRule 1 = .ok (.iload_n 1, 1) := by decide +kernel
theorem dX11_isRule_2 : decode cX11_isRule 2 = .ok (.invokevirtual 280, 3) := by decide +kernel
theorem dX11_isRule_5 : decode cX11_isRule 5 = .ok (.ifCond .eq 23, 3) := by decide +kernel
theorem dX11_isRule_8 : decode cX11_isRule 8 = .ok (.iload_n 2, 1) := by decide +kernel
theorem dX11_isRule_9 : decode cX11_isRule 9 = .ok (.iconst 0, 1) := by decide +kernel
theorem dX11_isRule_10 : decode cX11_isRule 10 = .ok (.aload_n 0, 1) := by decide +kernel
theorem dX11_isRule_11 : decode cX11_isRule 11 = .ok (.getfield 16, 3) := by decide +kernel
theorem dX11_isRule_14 : decode cX11_isRule 14 = .ok (.iload_n 1, 1) := by decide +kernel
theorem dX11_isRule_15 : decode cX11_isRule 15 = .ok (.iaload, 1) := by decide +kernel
theorem dX11_isRule_16 : decode cX11_isRule 16 = .ok (.iconst 1, 1) := by decide +kernel
theorem dX11_isRule_17 : decode cX11_isRule 17 = .ok (.isub, 1) := by decide +kernel
theorem dX11_isRule_18 : decode cX11_isRule 18 = .ok (.invokestatic 135, 3) := by decide +kernel
theorem dX11_isRule_21 : decode cX11_isRule 21 = .ok (.ifCond .eq 7, 3) := by decide +kernel
theorem dX11_isRule_24 : decode cX11_isRule 24 = .ok (.iconst 1, 1) := by decide +kernel
theorem dX11_isRule_25 : decode cX11_isRule 25 = .ok (.goto 4, 3) := by decide +kernel
theorem dX11_isRule_28 : decode cX11_isRule 28 = .ok (.iconst 0, 1) := by decide +kernel
theorem dX11_isRule_29 : decode cX11_isRule 29 = .ok (.ireturn, 1) := by decide +kernel
theorem dX11_check_0 : decode cX11_check 0 = .ok (.aload_n 0, 1) := by decide +kernel
theorem dX11_check_1 : decode cX11_check 1 = .ok (.iload_n 1, 1) := by decide +kernel
theorem dX11_check_2 : decode cX11_check 2 = .ok (.invokevirtual 280, 3) := by decide +kernel
theorem dX11_check_5 : decode cX11_check 5 = .ok (.ifCond .eq 24, 3) := by decide +kernel
theorem dX11_check_8 : decode cX11_check 8 = .ok (.iload_n 2, 1) := by decide +kernel
theorem dX11_check_9 : decode cX11_check 9 = .ok (.iconst 0, 1) := by decide +kernel
theorem dX11_check_10 : decode cX11_check 10 = .ok (.sipush 255, 3) := by decide +kernel
theorem dX11_check_13 : decode cX11_check 13 = .ok (.invokestatic 135, 3) := by decide +kernel
theorem dX11_check_16 : decode cX11_check 16 = .ok (.ifCond .eq 13, 3) := by decide +kernel
theorem dX11_check_19 : decode cX11_check 19 = .ok (.iload_n 3, 1) := by decide +kernel
theorem dX11_check_20 : decode cX11_check 20 = .ok (.iconst 0, 1) := by decide +kernel
theorem dX11_check_21 : decode cX11_check 21 = .ok (.bipush 15, 2) := by decide +kernel
theorem dX11_check_23 : decode cX11_check 23 = .ok (.invokestatic 135, 3) := by decide +kernel
theorem dX11_check_26 : decode cX11_check 26 = .ok (.ifCond .ne 5, 3) := by decide +kernel
theorem dX11_check_29 : decode cX11_check 29 = .ok (.iconst (-1), 1) := by decide +kernel
theorem dX11_check_30 : decode cX11_check 30 = .ok (.ireturn, 1) := by decide +kernel
theorem dX11_check_31 : decode cX11_check 31 = .ok (.aload_n 0, 1) := by decide +kernel
theorem dX11_check_32 : decode cX11_check 32 = .ok (.iload_n 1, 1) := by decide +kernel
theorem dX11_check_33 : decode cX11_check 33 = .ok (.iload_n 2, 1) := by decide +kernel
theorem dX11_check_34 : decode cX11_check 34 = .ok (.iload_n 3, 1) := by decide +kernel
theorem dX11_check_35 : decode cX11_check 35 = .ok (.invokevirtual 283, 3) := by decide +kernel
theorem dX11_check_38 : decode cX11_check 38 = .ok (.istore 4, 2) := by decide +kernel
theorem dX11_check_40 : decode cX11_check 40 = .ok (.iconst 0, 1) := by decide +kernel
theorem dX11_check_41 : decode cX11_check 41 = .ok (.istore 5, 2) := by decide +kernel
theorem dX11_check_43 : decode cX11_check 43 = .ok (.iload 5, 2) := by decide +kernel
theorem dX11_check_45 : decode cX11_check 45 = .ok (.aload_n 0, 1) := by decide +kernel
theorem dX11_check_46 : decode cX11_check 46 = .ok (.getfield 197, 3) := by decide +kernel
theorem dX11_check_49 : decode cX11_check 49 = .ok (.if_icmp .ge 55, 3) := by decide +kernel
theorem dX11_check_52 : decode cX11_check 52 = .ok (.aload_n 0, 1) := by decide +kernel
theorem dX11_check_53 : decode cX11_check 53 = .ok (.getfield 94, 3) := by decide +kernel
theorem dX11_check_56 : decode cX11_check 56 = .ok (.bipush 8, 2) := by decide +kernel
theorem dX11_check_58 : decode cX11_check 58 = .ok (.iload 5, 2) := by decide +kernel
theorem dX11_check_60 : decode cX11_check 60 = .ok (.imul, 1) := by decide +kernel
theorem dX11_check_61 : decode cX11_check 61 = .ok (.iaload, 1) := by decide +kernel
theorem dX11_check_62 : decode cX11_check 62 = .ok (.iload_n 1, 1) := by decide +kernel
theorem dX11_check_63 : decode cX11_check 63 = .ok (.if_icmp .ne 35, 3) := by decide +kernel
theorem dX11_check_66 : decode cX11_check 66 = .ok (.aload_n 0, 1) := by decide +kernel
theorem dX11_check_67 : decode cX11_check 67 = .ok (.getfield 94, 3) := by decide +kernel
theorem dX11_check_70 : decode cX11_check 70 = .ok (.bipush 8, 2) := by decide +kernel
theorem dX11_check_72 : decode cX11_check 72 = .ok (.iload 5, 2) := by decide +kernel
theorem dX11_check_74 : decode cX11_check 74 = .ok (.imul, 1) := by decide +kernel
theorem dX11_check_75 : decode cX11_check 75 = .ok (.iconst 1, 1) := by decide +kernel
theorem dX11_check_76 : decode cX11_check 76 = .ok (.iadd, 1) := by decide +kernel
theorem dX11_check_77 : decode cX11_check 77 = .ok (.iaload, 1) := by decide +kernel
theorem dX11_check_78 : decode cX11_check 78 = .ok (.iload_n 2, 1) := by decide +kernel
theorem dX11_check_79 : decode cX11_check 79 = .ok (.if_icmp .ne 19, 3) := by decide +kernel
theorem dX11_check_82 : decode cX11_check 82 = .ok (.aload_n 0, 1) := by decide +kernel
theorem dX11_check_83 : decode cX11_check 83 = .ok (.getfield 94, 3) := by decide +kernel
theorem dX11_check_86 : decode cX11_check 86 = .ok (.bipush 8, 2) := by decide +kernel
theorem dX11_check_88 : decode cX11_check 88 = .ok (.iload 5, 2) := by decide +kernel
theorem dX11_check_90 : decode cX11_check 90 = .ok (.imul, 1) := by decide +kernel
theorem dX11_check_91 : decode cX11_check 91 = .ok (.iconst 2, 1) := by decide +kernel
theorem dX11_check_92 : decode cX11_check 92 = .ok (.iadd, 1) := by decide +kernel
theorem dX11_check_93 : decode cX11_check 93 = .ok (.iaload, 1) := by decide +kernel
theorem dX11_check_94 : decode cX11_check 94 = .ok (.iload_n 3, 1) := by decide +kernel
theorem dX11_check_95 : decode cX11_check 95 = .ok (.if_icmp .eq 9, 3) := by decide +kernel
theorem dX11_check_98 : decode cX11_check 98 = .ok (.iinc 5 1, 3) := by decide +kernel
theorem dX11_check_101 : decode cX11_check 101 = .ok (.goto (-58), 3) := by decide +kernel
theorem dX11_check_104 : decode cX11_check 104 = .ok (.iload 5, 2) := by decide +kernel
theorem dX11_check_106 : decode cX11_check 106 = .ok (.aload_n 0, 1) := by decide +kernel
theorem dX11_check_107 : decode cX11_check 107 = .ok (.getfield 197, 3) := by decide +kernel
theorem dX11_check_110 : decode cX11_check 110 = .ok (.if_icmp .ge 8, 3) := by decide +kernel
theorem dX11_check_113 : decode cX11_check 113 = .ok (.iload 5, 2) := by decide +kernel
theorem dX11_check_115 : decode cX11_check 115 = .ok (.goto 19, 3) := by decide +kernel
theorem dX11_check_118 : decode cX11_check 118 = .ok (.aload_n 0, 1) := by decide +kernel
theorem dX11_check_119 : decode cX11_check 119 = .ok (.getfield 197, 3) := by decide +kernel
theorem dX11_check_122 : decode cX11_check 122 = .ok (.iconst 4, 1) := by decide +kernel
theorem dX11_check_123 : decode cX11_check 123 = .ok (.if_icmp .ge 10, 3) := by decide +kernel
theorem dX11_check_126 : decode cX11_check 126 = .ok (.aload_n 0, 1) := by decide +kernel
theorem dX11_check_127 : decode cX11_check 127 = .ok (.getfield 197, 3) := by decide +kernel
theorem dX11_check_130 : decode cX11_check 130 = .ok (.goto 4, 3) := by decide +kernel
theorem dX11_check_133 : decode cX11_check 133 = .ok (.iconst 3, 1) := by decide +kernel
theorem dX11_check_134 : decode cX11_check 134 = .ok (.istore 6, 2) := by decide +kernel
theorem dX11_check_136 : decode cX11_check 136 = .ok (.aload_n 0, 1) := by decide +kernel
theorem dX11_check_137 : decode cX11_check 137 = .ok (.iload 5, 2) := by decide +kernel
theorem dX11_check_139 : decode cX11_check 139 = .ok (.aload_n 0, 1) := by decide +kernel
theorem dX11_check_140 : decode cX11_check 140 = .ok (.getfield 197, 3) := by decide +kernel
theorem dX11_check_143 : decode cX11_check 143 = .ok (.if_icmp .lt 11, 3) := by decide +kernel
theorem dX11_check_146 : decode cX11_check 146 = .ok (.aload_n 0, 1) := by decide +kernel
theorem dX11_check_147 : decode cX11_check 147 = .ok (.getfield 197, 3) := by decide +kernel
theorem dX11_check_150 : decode cX11_check 150 = .ok (.iconst 4, 1) := by decide +kernel
theorem dX11_check_151 : decode cX11_check 151 = .ok (.if_icmp .ne 10, 3) := by decide +kernel
theorem dX11_check_154 : decode cX11_check 154 = .ok (.aload_n 0, 1) := by decide +kernel
theorem dX11_check_155 : decode cX11_check 155 = .ok (.getfield 197, 3) := by decide +kernel
theorem dX11_check_158 : decode cX11_check 158 = .ok (.goto 9, 3) := by decide +kernel
theorem dX11_check_161 : decode cX11_check 161 = .ok (.aload_n 0, 1) := by decide +kernel
theorem dX11_check_162 : decode cX11_check 162 = .ok (.getfield 197, 3) := by decide +kernel
theorem dX11_check_165 : decode cX11_check 165 = .ok (.iconst 1, 1) := by decide +kernel
theorem dX11_check_166 : decode cX11_check 166 = .ok (.iadd, 1) := by decide +kernel
theorem dX11_check_167 : decode cX11_check 167 = .ok (.putfield 197, 3) := by decide +kernel
theorem dX11_check_170 : decode cX11_check 170 = .ok (.bipush 8, 2) := by decide +kernel
theorem dX11_check_172 : decode cX11_check 172 = .ok (.iload 6, 2) := by decide +kernel
theorem dX11_check_174 : decode cX11_check 174 = .ok (.imul, 1) := by decide +kernel
theorem dX11_check_175 : decode cX11_check 175 = .ok (.iconst 1, 1) := by decide +kernel
theorem dX11_check_176 : decode cX11_check 176 = .ok (.isub, 1) := by decide +kernel
theorem dX11_check_177 : decode cX11_check 177 = .ok (.istore 7, 2) := by decide +kernel
theorem dX11_check_179 : decode cX11_check 179 = .ok (.iload 7, 2) := by decide +kernel
theorem dX11_check_181 : decode cX11_check 181 = .ok (.ifCond .lt 26, 3) := by decide +kernel
theorem dX11_check_184 : decode cX11_check 184 = .ok (.aload_n 0, 1) := by decide +kernel
theorem dX11_check_185 : decode cX11_check 185 = .ok (.getfield 94, 3) := by decide +kernel
theorem dX11_check_188 : decode cX11_check 188 = .ok (.iload 7, 2) := by decide +kernel
theorem dX11_check_190 : decode cX11_check 190 = .ok (.bipush 8, 2) := by decide +kernel
theorem dX11_check_192 : decode cX11_check 192 = .ok (.iadd, 1) := by decide +kernel
theorem dX11_check_193 : decode cX11_check 193 = .ok (.aload_n 0, 1) := by decide +kernel
theorem dX11_check_194 : decode cX11_check 194 = .ok (.getfield 94, 3) := by decide +kernel
theorem dX11_check_197 : decode cX11_check 197 = .ok (.iload 7, 2) := by decide +kernel
theorem dX11_check_199 : decode cX11_check 199 = .ok (.iaload, 1) := by decide +kernel
theorem dX11_check_200 : decode cX11_check 200 = .ok (.iastore, 1) := by decide +kernel
theorem dX11_check_201 : decode cX11_check 201 = .ok (.iinc 7 (-1), 3) := by decide +kernel
theorem dX11_check_204 : decode cX11_check 204 = .ok (.goto (-25), 3) := by decide +kernel
theorem dX11_check_207 : decode cX11_check 207 = .ok (.aload_n 0, 1) := by decide +kernel
theorem dX11_check_208 : decode cX11_check 208 = .ok (.getfield 94, 3) := by decide +kernel
theorem dX11_check_211 : decode cX11_check 211 = .ok (.iconst 0, 1) := by decide +kernel
theorem dX11_check_212 : decode cX11_check 212 = .ok (.iload_n 1, 1) := by decide +kernel
theorem dX11_check_213 : decode cX11_check 213 = .ok (.iastore, 1) := by decide +kernel
theorem dX11_check_214 : decode cX11_check 214 = .ok (.aload_n 0, 1) := by decide +kernel
theorem dX11_check_215 : decode cX11_check 215 = .ok (.getfield 94, 3) := by decide +kernel
theorem dX11_check_218 : decode cX11_check 218 = .ok (.iconst 1, 1) := by decide +kernel
theorem dX11_check_219 : decode cX11_check 219 = .ok (.iload_n 2, 1) := by decide +kernel
theorem dX11_check_220 : decode cX11_check 220 = .ok (.iastore, 1) := by decide +kernel
theorem dX11_check_221 : decode cX11_check 221 = .ok (.aload_n 0, 1) := by decide +kernel
theorem dX11_check_222 : decode cX11_check 222 = .ok (.getfield 94, 3) := by decide +kernel
theorem dX11_check_225 : decode cX11_check 225 = .ok (.iconst 2, 1) := by decide +kernel
theorem dX11_check_226 : decode cX11_check 226 = .ok (.iload_n 3, 1) := by decide +kernel
theorem dX11_check_227 : decode cX11_check 227 = .ok (.iastore, 1) := by decide +kernel
theorem dX11_check_228 : decode cX11_check 228 = .ok (.aload_n 0, 1) := by decide +kernel
theorem dX11_check_229 : decode cX11_check 229 = .ok (.getfield 94, 3) := by decide +kernel
theorem dX11_check_232 : decode cX11_check 232 = .ok (.iconst 3, 1) := by decide +kernel
theorem dX11_check_233 : decode cX11_check 233 = .ok (.iload 4, 2) := by decide +kernel
theorem dX11_check_235 : decode cX11_check 235 = .ok (.iastore, 1) := by decide +kernel
theorem dX11_check_236 : decode cX11_check 236 = .ok (.aload_n 0, 1) := by decide +kernel
theorem dX11_check_237 : decode cX11_check 237 = .ok (.getfield 94, 3) := by decide +kernel
theorem dX11_check_240 : decode cX11_check 240 = .ok (.iconst 4, 1) := by decide +kernel
theorem dX11_check_241 : decode cX11_check 241 = .ok (.aload_n 0, 1) := by decide +kernel
theorem dX11_check_242 : decode cX11_check 242 = .ok (.getfield 200, 3) := by decide +kernel
theorem dX11_check_245 : decode cX11_check 245 = .ok (.iastore, 1) := by decide +kernel
theorem dX11_check_246 : decode cX11_check 246 = .ok (.aload_n 0, 1) := by decide +kernel
theorem dX11_check_247 : decode cX11_check 247 = .ok (.getfield 94, 3) := by decide +kernel
theorem dX11_check_250 : decode cX11_check 250 = .ok (.iconst 5, 1) := by decide +kernel
theorem dX11_check_251 : decode cX11_check 251 = .ok (.aload_n 0, 1) := by decide +kernel
theorem dX11_check_252 : decode cX11_check 252 = .ok (.getfield 203, 3) := by decide +kernel
theorem dX11_check_255 : decode cX11_check 255 = .ok (.iastore, 1) := by decide +kernel
theorem dX11_check_256 : decode cX11_check 256 = .ok (.aload_n 0, 1) := by decide +kernel
theorem dX11_check_257 : decode cX11_check 257 = .ok (.getfield 94, 3) := by decide +kernel
theorem dX11_check_260 : decode cX11_check 260 = .ok (.bipush 6, 2) := by decide +kernel
theorem dX11_check_262 : decode cX11_check 262 = .ok (.aload_n 0, 1) := by decide +kernel
theorem dX11_check_263 : decode cX11_check 263 = .ok (.getfield 253, 3) := by decide +kernel
theorem dX11_check_266 : decode cX11_check 266 = .ok (.iastore, 1) := by decide +kernel
theorem dX11_check_267 : decode cX11_check 267 = .ok (.aload_n 0, 1) := by decide +kernel
theorem dX11_check_268 : decode cX11_check 268 = .ok (.getfield 94, 3) := by decide +kernel
theorem dX11_check_271 : decode cX11_check 271 = .ok (.bipush 7, 2) := by decide +kernel
theorem dX11_check_273 : decode cX11_check 273 = .ok (.aload_n 0, 1) := by decide +kernel
theorem dX11_check_274 : decode cX11_check 274 = .ok (.getfield 256, 3) := by decide +kernel
theorem dX11_check_277 : decode cX11_check 277 = .ok (.iastore, 1) := by decide +kernel
theorem dX11_check_278 : decode cX11_check 278 = .ok (.iload 4, 2) := by decide +kernel
theorem dX11_check_280 : decode cX11_check 280 = .ok (.ireturn, 1) := by decide +kernel
theorem dX11_kept_0 : decode cX11_kept 0 = .ok (.iload_n 1, 1) := by decide +kernel
theorem dX11_kept_1 : decode cX11_kept 1 = .ok (.ifCond .lt 13, 3) := by decide +kernel
theorem dX11_kept_4 : decode cX11_kept 4 = .ok (.iload_n 2, 1) := by decide +kernel
theorem dX11_kept_5 : decode cX11_kept 5 = .ok (.iconst 0, 1) := by decide +kernel
theorem dX11_kept_6 : decode cX11_kept 6 = .ok (.bipush 7, 2) := by decide +kernel
theorem dX11_kept_8 : decode cX11_kept 8 = .ok (.invokestatic 135, 3) := by decide +kernel
theorem dX11_kept_11 : decode cX11_kept 11 = .ok (.ifCond .ne 5, 3) := by decide +kernel
theorem dX11_kept_14 : decode cX11_kept 14 = .ok (.iconst (-1), 1) := by decide +kernel
theorem dX11_kept_15 : decode cX11_kept 15 = .ok (.ireturn, 1) := by decide +kernel
theorem dX11_kept_16 : decode cX11_kept 16 = .ok (.iload_n 1, 1) := by decide +kernel
theorem dX11_kept_17 : decode cX11_kept 17 = .ok (.aload_n 0, 1) := by decide +kernel
theorem dX11_kept_18 : decode cX11_kept 18 = .ok (.getfield 197, 3) := by decide +kernel
theorem dX11_kept_21 : decode cX11_kept 21 = .ok (.if_icmp .ge 17, 3) := by decide +kernel
theorem dX11_kept_24 : decode cX11_kept 24 = .ok (.aload_n 0, 1) := by decide +kernel
theorem dX11_kept_25 : decode cX11_kept 25 = .ok (.getfield 94, 3) := by decide +kernel
theorem dX11_kept_28 : decode cX11_kept 28 = .ok (.bipush 8, 2) := by decide +kernel
theorem dX11_kept_30 : decode cX11_kept 30 = .ok (.iload_n 1, 1) := by decide +kernel
theorem dX11_kept_31 : decode cX11_kept 31 = .ok (.imul, 1) := by decide +kernel
theorem dX11_kept_32 : decode cX11_kept 32 = .ok (.iload_n 2, 1) := by decide +kernel
theorem dX11_kept_33 : decode cX11_kept 33 = .ok (.iadd, 1) := by decide +kernel
theorem dX11_kept_34 : decode cX11_kept 34 = .ok (.iaload, 1) := by decide +kernel
theorem dX11_kept_35 : decode cX11_kept 35 = .ok (.goto 5, 3) := by decide +kernel
theorem dX11_kept_38 : decode cX11_kept 38 = .ok (.bipush (-4), 2) := by decide +kernel
theorem dX11_kept_40 : decode cX11_kept 40 = .ok (.ireturn, 1) := by decide +kernel
theorem dX11_keeps_0 : decode cX11_keeps 0 = .ok (.aload_n 0, 1) := by decide +kernel
theorem dX11_keeps_1 : decode cX11_keeps 1 = .ok (.getfield 194, 3) := by decide +kernel
theorem dX11_keeps_4 : decode cX11_keeps 4 = .ok (.iconst 4, 1) := by decide +kernel
theorem dX11_keeps_5 : decode cX11_keeps 5 = .ok (.if_icmp .ne 44, 3) := by decide +kernel
theorem dX11_keeps_8 : decode cX11_keeps 8 = .ok (.iconst 0, 1) := by decide +kernel
theorem dX11_keeps_9 : decode cX11_keeps 9 = .ok (.istore_n 1, 1) := by decide +kernel
theorem dX11_keeps_10 : decode cX11_keeps 10 = .ok (.iload_n 1, 1) := by decide +kernel
theorem dX11_keeps_11 : decode cX11_keeps 11 = .ok (.sipush 756, 3) := by decide +kernel
theorem dX11_keeps_14 : decode cX11_keeps 14 = .ok (.if_icmp .ge 25, 3) := by decide +kernel
theorem dX11_keeps_17 : decode cX11_keeps 17 = .ok (.aload_n 0, 1) := by decide +kernel
theorem dX11_keeps_18 : decode cX11_keeps 18 = .ok (.getfield 49, 3) := by decide +kernel
theorem dX11_keeps_21 : decode cX11_keeps 21 = .ok (.iload_n 1, 1) := by decide +kernel
theorem dX11_keeps_22 : decode cX11_keeps 22 = .ok (.aload_n 0, 1) := by decide +kernel
theorem dX11_keeps_23 : decode cX11_keeps 23 = .ok (.getfield 49, 3) := by decide +kernel
theorem dX11_keeps_26 : decode cX11_keeps 26 = .ok (.iload_n 1, 1) := by decide +kernel
theorem dX11_keeps_27 : decode cX11_keeps 27 = .ok (.sipush 252, 3) := by decide +kernel
theorem dX11_keeps_30 : decode cX11_keeps 30 = .ok (.iadd, 1) := by decide +kernel
theorem dX11_keeps_31 : decode cX11_keeps 31 = .ok (.iaload, 1) := by decide +kernel
theorem dX11_keeps_32 : decode cX11_keeps 32 = .ok (.iastore, 1) := by decide +kernel
theorem dX11_keeps_33 : decode cX11_keeps 33 = .ok (.iinc 1 1, 3) := by decide +kernel
theorem dX11_keeps_36 : decode cX11_keeps 36 = .ok (.goto (-26), 3) := by decide +kernel
theorem dX11_keeps_39 : decode cX11_keeps 39 = .ok (.aload_n 0, 1) := by decide +kernel
theorem dX11_keeps_40 : decode cX11_keeps 40 = .ok (.dup, 1) := by decide +kernel
theorem dX11_keeps_41 : decode cX11_keeps 41 = .ok (.getfield 194, 3) := by decide +kernel
theorem dX11_keeps_44 : decode cX11_keeps 44 = .ok (.iconst 1, 1) := by decide +kernel
theorem dX11_keeps_45 : decode cX11_keeps 45 = .ok (.isub, 1) := by decide +kernel
theorem dX11_keeps_46 : decode cX11_keeps 46 = .ok (.putfield 194, 3) := by decide +kernel
theorem dX11_keeps_49 : decode cX11_keeps 49 = .ok (.iconst 0, 1) := by decide +kernel
theorem dX11_keeps_50 : decode cX11_keeps 50 = .ok (.istore_n 1, 1) := by decide +kernel
theorem dX11_keeps_51 : decode cX11_keeps 51 = .ok (.iload_n 1, 1) := by decide +kernel
theorem dX11_keeps_52 : decode cX11_keeps 52 = .ok (.sipush 252, 3) := by decide +kernel
theorem dX11_keeps_55 : decode cX11_keeps 55 = .ok (.if_icmp .ge 30, 3) := by decide +kernel
theorem dX11_keeps_58 : decode cX11_keeps 58 = .ok (.aload_n 0, 1) := by decide +kernel
theorem dX11_keeps_59 : decode cX11_keeps 59 = .ok (.getfield 49, 3) := by decide +kernel
theorem dX11_keeps_62 : decode cX11_keeps 62 = .ok (.sipush 252, 3) := by decide +kernel
theorem dX11_keeps_65 : decode cX11_keeps 65 = .ok (.aload_n 0, 1) := by decide +kernel
theorem dX11_keeps_66 : decode cX11_keeps 66 = .ok (.getfield 194, 3) := by decide +kernel
theorem dX11_keeps_69 : decode cX11_keeps 69 = .ok (.imul, 1) := by decide +kernel
theorem dX11_keeps_70 : decode cX11_keeps 70 = .ok (.iload_n 1, 1) := by decide +kernel
theorem dX11_keeps_71 : decode cX11_keeps 71 = .ok (.iadd, 1) := by decide +kernel
theorem dX11_keeps_72 : decode cX11_keeps 72 = .ok (.aload_n 0, 1) := by decide +kernel
theorem dX11_keeps_73 : decode cX11_keeps 73 = .ok (.getfield 46, 3) := by decide +kernel
theorem dX11_keeps_76 : decode cX11_keeps 76 = .ok (.iload_n 1, 1) := by decide +kernel
theorem dX11_keeps_77 : decode cX11_keeps 77 = .ok (.iaload, 1) := by decide +kernel
theorem dX11_keeps_78 : decode cX11_keeps 78 = .ok (.iastore, 1) := by decide +kernel
theorem dX11_keeps_79 : decode cX11_keeps 79 = .ok (.iinc 1 1, 3) := by decide +kernel
theorem dX11_keeps_82 : decode cX11_keeps 82 = .ok (.goto (-31), 3) := by decide +kernel
theorem dX11_keeps_85 : decode cX11_keeps 85 = .ok (.aload_n 0, 1) := by decide +kernel
theorem dX11_keeps_86 : decode cX11_keeps 86 = .ok (.dup, 1) := by decide +kernel
theorem dX11_keeps_87 : decode cX11_keeps 87 = .ok (.getfield 194, 3) := by decide +kernel
theorem dX11_keeps_90 : decode cX11_keeps 90 = .ok (.iconst 1, 1) := by decide +kernel
theorem dX11_keeps_91 : decode cX11_keeps 91 = .ok (.iadd, 1) := by decide +kernel
theorem dX11_keeps_92 : decode cX11_keeps 92 = .ok (.putfield 194, 3) := by decide +kernel
theorem dX11_keeps_95 : decode cX11_keeps 95 = .ok (.aload_n 0, 1) := by decide +kernel
theorem dX11_keeps_96 : decode cX11_keeps 96 = .ok (.iconst 0, 1) := by decide +kernel
theorem dX11_keeps_97 : decode cX11_keeps 97 = .ok (.putfield 197, 3) := by decide +kernel
theorem dX11_keeps_100 : decode cX11_keeps 100 = .ok (.return_, 1) := by decide +kernel
theorem dX11_undo_0 : decode cX11_undo 0 = .ok (.aload_n 0, 1) := by decide +kernel
theorem dX11_undo_1 : decode cX11_undo 1 = .ok (.getfield 194, 3) := by decide +kernel
theorem dX11_undo_4 : decode cX11_undo 4 = .ok (.ifCond .ne 6, 3) := by decide +kernel
theorem dX11_undo_7 : decode cX11_undo 7 = .ok (.bipush (-2), 2) := by decide +kernel
theorem dX11_undo_9 : decode cX11_undo 9 = .ok (.ireturn, 1) := by decide +kernel
theorem dX11_undo_10 : decode cX11_undo 10 = .ok (.aload_n 0, 1) := by decide +kernel
theorem dX11_undo_11 : decode cX11_undo 11 = .ok (.dup, 1) := by decide +kernel
theorem dX11_undo_12 : decode cX11_undo 12 = .ok (.getfield 194, 3) := by decide +kernel
theorem dX11_undo_15 : decode cX11_undo 15 = .ok (.iconst 1, 1) := by decide +kernel
theorem dX11_undo_16 : decode cX11_undo 16 = .ok (.isub, 1) := by decide +kernel
theorem dX11_undo_17 : decode cX11_undo 17 = .ok (.putfield 194, 3) := by decide +kernel
theorem dX11_undo_20 : decode cX11_undo 20 = .ok (.iconst 0, 1) := by decide +kernel
theorem dX11_undo_21 : decode cX11_undo 21 = .ok (.istore_n 1, 1) := by decide +kernel
theorem dX11_undo_22 : decode cX11_undo 22 = .ok (.iload_n 1, 1) := by decide +kernel
theorem dX11_undo_23 : decode cX11_undo 23 = .ok (.sipush 252, 3) := by decide +kernel
theorem dX11_undo_26 : decode cX11_undo 26 = .ok (.if_icmp .ge 30, 3) := by decide +kernel
theorem dX11_undo_29 : decode cX11_undo 29 = .ok (.aload_n 0, 1) := by decide +kernel
theorem dX11_undo_30 : decode cX11_undo 30 = .ok (.getfield 46, 3) := by decide +kernel
theorem dX11_undo_33 : decode cX11_undo 33 = .ok (.iload_n 1, 1) := by decide +kernel
theorem dX11_undo_34 : decode cX11_undo 34 = .ok (.aload_n 0, 1) := by decide +kernel
theorem dX11_undo_35 : decode cX11_undo 35 = .ok (.getfield 49, 3) := by decide +kernel
theorem dX11_undo_38 : decode cX11_undo 38 = .ok (.sipush 252, 3) := by decide +kernel
theorem dX11_undo_41 : decode cX11_undo 41 = .ok (.aload_n 0, 1) := by decide +kernel
theorem dX11_undo_42 : decode cX11_undo 42 = .ok (.getfield 194, 3) := by decide +kernel
theorem dX11_undo_45 : decode cX11_undo 45 = .ok (.imul, 1) := by decide +kernel
theorem dX11_undo_46 : decode cX11_undo 46 = .ok (.iload_n 1, 1) := by decide +kernel
theorem dX11_undo_47 : decode cX11_undo 47 = .ok (.iadd, 1) := by decide +kernel
theorem dX11_undo_48 : decode cX11_undo 48 = .ok (.iaload, 1) := by decide +kernel
theorem dX11_undo_49 : decode cX11_undo 49 = .ok (.iastore, 1) := by decide +kernel
theorem dX11_undo_50 : decode cX11_undo 50 = .ok (.iinc 1 1, 3) := by decide +kernel
theorem dX11_undo_53 : decode cX11_undo 53 = .ok (.goto (-31), 3) := by decide +kernel
theorem dX11_undo_56 : decode cX11_undo 56 = .ok (.aload_n 0, 1) := by decide +kernel
theorem dX11_undo_57 : decode cX11_undo 57 = .ok (.iconst 0, 1) := by decide +kernel
theorem dX11_undo_58 : decode cX11_undo 58 = .ok (.putfield 197, 3) := by decide +kernel
theorem dX11_undo_61 : decode cX11_undo 61 = .ok (.aload_n 0, 1) := by decide +kernel
theorem dX11_undo_62 : decode cX11_undo 62 = .ok (.getfield 194, 3) := by decide +kernel
theorem dX11_undo_65 : decode cX11_undo 65 = .ok (.ireturn, 1) := by decide +kernel
theorem dX11_sign_0 : decode cX11_sign 0 = .ok (.aload_n 0, 1) := by decide +kernel
theorem dX11_sign_1 : decode cX11_sign 1 = .ok (.iload_n 1, 1) := by decide +kernel
theorem dX11_sign_2 : decode cX11_sign 2 = .ok (.iload_n 2, 1) := by decide +kernel
theorem dX11_sign_3 : decode cX11_sign 3 = .ok (.invokevirtual 287, 3) := by decide +kernel
theorem dX11_sign_6 : decode cX11_sign 6 = .ok (.ifCond .eq 12, 3) := by decide +kernel
theorem dX11_sign_9 : decode cX11_sign 9 = .ok (.iload_n 3, 1) := by decide +kernel
theorem dX11_sign_10 : decode cX11_sign 10 = .ok (.iconst 0, 1) := by decide +kernel
theorem dX11_sign_11 : decode cX11_sign 11 = .ok (.iconst 3, 1) := by decide +kernel
theorem dX11_sign_12 : decode cX11_sign 12 = .ok (.invokestatic 135, 3) := by decide +kernel
theorem dX11_sign_15 : decode cX11_sign 15 = .ok (.ifCond .ne 5, 3) := by decide +kernel
theorem dX11_sign_18 : decode cX11_sign 18 = .ok (.iconst (-1), 1) := by decide +kernel
theorem dX11_sign_19 : decode cX11_sign 19 = .ok (.ireturn, 1) := by decide +kernel
theorem dX11_sign_20 : decode cX11_sign 20 = .ok (.aload_n 0, 1) := by decide +kernel
theorem dX11_sign_21 : decode cX11_sign 21 = .ok (.iload_n 1, 1) := by decide +kernel
theorem dX11_sign_22 : decode cX11_sign 22 = .ok (.iload_n 2, 1) := by decide +kernel
theorem dX11_sign_23 : decode cX11_sign 23 = .ok (.invokevirtual 259, 3) := by decide +kernel
theorem dX11_sign_26 : decode cX11_sign 26 = .ok (.istore 4, 2) := by decide +kernel
theorem dX11_sign_28 : decode cX11_sign 28 = .ok (.iload 4, 2) := by decide +kernel
theorem dX11_sign_30 : decode cX11_sign 30 = .ok (.iload_n 3, 1) := by decide +kernel
theorem dX11_sign_31 : decode cX11_sign 31 = .ok (.if_icmp .ne 6, 3) := by decide +kernel
theorem dX11_sign_34 : decode cX11_sign 34 = .ok (.bipush (-2), 2) := by decide +kernel
theorem dX11_sign_36 : decode cX11_sign 36 = .ok (.ireturn, 1) := by decide +kernel
theorem dX11_sign_37 : decode cX11_sign 37 = .ok (.aload_n 0, 1) := by decide +kernel
theorem dX11_sign_38 : decode cX11_sign 38 = .ok (.invokevirtual 290, 3) := by decide +kernel
theorem dX11_sign_41 : decode cX11_sign 41 = .ok (.aload_n 0, 1) := by decide +kernel
theorem dX11_sign_42 : decode cX11_sign 42 = .ok (.getfield 46, 3) := by decide +kernel
theorem dX11_sign_45 : decode cX11_sign 45 = .ok (.bipush 21, 2) := by decide +kernel
theorem dX11_sign_47 : decode cX11_sign 47 = .ok (.iload_n 1, 1) := by decide +kernel
theorem dX11_sign_48 : decode cX11_sign 48 = .ok (.imul, 1) := by decide +kernel
theorem dX11_sign_49 : decode cX11_sign 49 = .ok (.bipush 8, 2) := by decide +kernel
theorem dX11_sign_51 : decode cX11_sign 51 = .ok (.iadd, 1) := by decide +kernel
theorem dX11_sign_52 : decode cX11_sign 52 = .ok (.aload_n 0, 1) := by decide +kernel
theorem dX11_sign_53 : decode cX11_sign 53 = .ok (.getfield 46, 3) := by decide +kernel
theorem dX11_sign_56 : decode cX11_sign 56 = .ok (.bipush 21, 2) := by decide +kernel
theorem dX11_sign_58 : decode cX11_sign 58 = .ok (.iload_n 1, 1) := by decide +kernel
theorem dX11_sign_59 : decode cX11_sign 59 = .ok (.imul, 1) := by decide +kernel
theorem dX11_sign_60 : decode cX11_sign 60 = .ok (.iload_n 2, 1) := by decide +kernel
theorem dX11_sign_61 : decode cX11_sign 61 = .ok (.iadd, 1) := by decide +kernel
theorem dX11_sign_62 : decode cX11_sign 62 = .ok (.iaload, 1) := by decide +kernel
theorem dX11_sign_63 : decode cX11_sign 63 = .ok (.iadd, 1) := by decide +kernel
theorem dX11_sign_64 : decode cX11_sign 64 = .ok (.iload_n 3, 1) := by decide +kernel
theorem dX11_sign_65 : decode cX11_sign 65 = .ok (.iastore, 1) := by decide +kernel
theorem dX11_sign_66 : decode cX11_sign 66 = .ok (.iload 4, 2) := by decide +kernel
theorem dX11_sign_68 : decode cX11_sign 68 = .ok (.ireturn, 1) := by decide +kernel
theorem dX11_swap_0 : decode cX11_swap 0 = .ok (.aload_n 0, 1) := by decide +kernel
theorem dX11_swap_1 : decode cX11_swap 1 = .ok (.iload_n 1, 1) := by decide +kernel
theorem dX11_swap_2 : decode cX11_swap 2 = .ok (.iload_n 2, 1) := by decide +kernel
theorem dX11_swap_3 : decode cX11_swap 3 = .ok (.invokevirtual 287, 3) := by decide +kernel
theorem dX11_swap_6 : decode cX11_swap 6 = .ok (.ifCond .ne 5, 3) := by decide +kernel
theorem dX11_swap_9 : decode cX11_swap 9 = .ok (.iconst (-1), 1) := by decide +kernel
theorem dX11_swap_10 : decode cX11_swap 10 = .ok (.ireturn, 1) := by decide +kernel
theorem dX11_swap_11 : decode cX11_swap 11 = .ok (.iload_n 2, 1) := by decide +kernel
theorem dX11_swap_12 : decode cX11_swap 12 = .ok (.iconst 1, 1) := by decide +kernel
theorem dX11_swap_13 : decode cX11_swap 13 = .ok (.iadd, 1) := by decide +kernel
theorem dX11_swap_14 : decode cX11_swap 14 = .ok (.aload_n 0, 1) := by decide +kernel
theorem dX11_swap_15 : decode cX11_swap 15 = .ok (.getfield 16, 3) := by decide +kernel
theorem dX11_swap_18 : decode cX11_swap 18 = .ok (.iload_n 1, 1) := by decide +kernel
theorem dX11_swap_19 : decode cX11_swap 19 = .ok (.iaload, 1) := by decide +kernel
theorem dX11_swap_20 : decode cX11_swap 20 = .ok (.if_icmp .ne 6, 3) := by decide +kernel
theorem dX11_swap_23 : decode cX11_swap 23 = .ok (.bipush (-2), 2) := by decide +kernel
theorem dX11_swap_25 : decode cX11_swap 25 = .ok (.ireturn, 1) := by decide +kernel
theorem dX11_swap_26 : decode cX11_swap 26 = .ok (.aload_n 0, 1) := by decide +kernel
theorem dX11_swap_27 : decode cX11_swap 27 = .ok (.invokevirtual 290, 3) := by decide +kernel
theorem dX11_swap_30 : decode cX11_swap 30 = .ok (.aload_n 0, 1) := by decide +kernel
theorem dX11_swap_31 : decode cX11_swap 31 = .ok (.getfield 46, 3) := by decide +kernel
theorem dX11_swap_34 : decode cX11_swap 34 = .ok (.bipush 21, 2) := by decide +kernel
theorem dX11_swap_36 : decode cX11_swap 36 = .ok (.iload_n 1, 1) := by decide +kernel
theorem dX11_swap_37 : decode cX11_swap 37 = .ok (.imul, 1) := by decide +kernel
theorem dX11_swap_38 : decode cX11_swap 38 = .ok (.iload_n 2, 1) := by decide +kernel
theorem dX11_swap_39 : decode cX11_swap 39 = .ok (.iadd, 1) := by decide +kernel
theorem dX11_swap_40 : decode cX11_swap 40 = .ok (.iaload, 1) := by decide +kernel
theorem dX11_swap_41 : decode cX11_swap 41 = .ok (.istore_n 3, 1) := by decide +kernel
theorem dX11_swap_42 : decode cX11_swap 42 = .ok (.aload_n 0, 1) := by decide +kernel
theorem dX11_swap_43 : decode cX11_swap 43 = .ok (.getfield 46, 3) := by decide +kernel
theorem dX11_swap_46 : decode cX11_swap 46 = .ok (.bipush 21, 2) := by decide +kernel
theorem dX11_swap_48 : decode cX11_swap 48 = .ok (.iload_n 1, 1) := by decide +kernel
theorem dX11_swap_49 : decode cX11_swap 49 = .ok (.imul, 1) := by decide +kernel
theorem dX11_swap_50 : decode cX11_swap 50 = .ok (.iload_n 2, 1) := by decide +kernel
theorem dX11_swap_51 : decode cX11_swap 51 = .ok (.iadd, 1) := by decide +kernel
theorem dX11_swap_52 : decode cX11_swap 52 = .ok (.aload_n 0, 1) := by decide +kernel
theorem dX11_swap_53 : decode cX11_swap 53 = .ok (.getfield 46, 3) := by decide +kernel
theorem dX11_swap_56 : decode cX11_swap 56 = .ok (.bipush 21, 2) := by decide +kernel
theorem dX11_swap_58 : decode cX11_swap 58 = .ok (.iload_n 1, 1) := by decide +kernel
theorem dX11_swap_59 : decode cX11_swap 59 = .ok (.imul, 1) := by decide +kernel
theorem dX11_swap_60 : decode cX11_swap 60 = .ok (.iload_n 2, 1) := by decide +kernel
theorem dX11_swap_61 : decode cX11_swap 61 = .ok (.iadd, 1) := by decide +kernel
theorem dX11_swap_62 : decode cX11_swap 62 = .ok (.iconst 1, 1) := by decide +kernel
theorem dX11_swap_63 : decode cX11_swap 63 = .ok (.iadd, 1) := by decide +kernel
theorem dX11_swap_64 : decode cX11_swap 64 = .ok (.iaload, 1) := by decide +kernel
theorem dX11_swap_65 : decode cX11_swap 65 = .ok (.iastore, 1) := by decide +kernel
theorem dX11_swap_66 : decode cX11_swap 66 = .ok (.aload_n 0, 1) := by decide +kernel
theorem dX11_swap_67 : decode cX11_swap 67 = .ok (.getfield 46, 3) := by decide +kernel
theorem dX11_swap_70 : decode cX11_swap 70 = .ok (.bipush 21, 2) := by decide +kernel
theorem dX11_swap_72 : decode cX11_swap 72 = .ok (.iload_n 1, 1) := by decide +kernel
theorem dX11_swap_73 : decode cX11_swap 73 = .ok (.imul, 1) := by decide +kernel
theorem dX11_swap_74 : decode cX11_swap 74 = .ok (.iload_n 2, 1) := by decide +kernel
theorem dX11_swap_75 : decode cX11_swap 75 = .ok (.iadd, 1) := by decide +kernel
theorem dX11_swap_76 : decode cX11_swap 76 = .ok (.iconst 1, 1) := by decide +kernel
theorem dX11_swap_77 : decode cX11_swap 77 = .ok (.iadd, 1) := by decide +kernel
theorem dX11_swap_78 : decode cX11_swap 78 = .ok (.iload_n 3, 1) := by decide +kernel
theorem dX11_swap_79 : decode cX11_swap 79 = .ok (.iastore, 1) := by decide +kernel
theorem dX11_swap_80 : decode cX11_swap 80 = .ok (.aload_n 0, 1) := by decide +kernel
theorem dX11_swap_81 : decode cX11_swap 81 = .ok (.getfield 16, 3) := by decide +kernel
theorem dX11_swap_84 : decode cX11_swap 84 = .ok (.iload_n 1, 1) := by decide +kernel
theorem dX11_swap_85 : decode cX11_swap 85 = .ok (.iaload, 1) := by decide +kernel
theorem dX11_swap_86 : decode cX11_swap 86 = .ok (.ireturn, 1) := by decide +kernel
theorem dX11_host_0 : decode cX11_host 0 = .ok (.aload_n 0, 1) := by decide +kernel
theorem dX11_host_1 : decode cX11_host 1 = .ok (.iload_n 1, 1) := by decide +kernel
theorem dX11_host_2 : decode cX11_host 2 = .ok (.invokevirtual 280, 3) := by decide +kernel
theorem dX11_host_5 : decode cX11_host 5 = .ok (.ifCond .eq 23, 3) := by decide +kernel
theorem dX11_host_8 : decode cX11_host 8 = .ok (.iload_n 2, 1) := by decide +kernel
theorem dX11_host_9 : decode cX11_host 9 = .ok (.iconst 0, 1) := by decide +kernel
theorem dX11_host_10 : decode cX11_host 10 = .ok (.sipush 255, 3) := by decide +kernel
theorem dX11_host_13 : decode cX11_host 13 = .ok (.invokestatic 135, 3) := by decide +kernel
theorem dX11_host_16 : decode cX11_host 16 = .ok (.ifCond .eq 12, 3) := by decide +kernel
theorem dX11_host_19 : decode cX11_host 19 = .ok (.iload_n 3, 1) := by decide +kernel
theorem dX11_host_20 : decode cX11_host 20 = .ok (.iconst 0, 1) := by decide +kernel
theorem dX11_host_21 : decode cX11_host 21 = .ok (.iconst 1, 1) := by decide +kernel
theorem dX11_host_22 : decode cX11_host 22 = .ok (.invokestatic 135, 3) := by decide +kernel
theorem dX11_host_25 : decode cX11_host 25 = .ok (.ifCond .ne 5, 3) := by decide +kernel
theorem dX11_host_28 : decode cX11_host 28 = .ok (.iconst (-1), 1) := by decide +kernel
theorem dX11_host_29 : decode cX11_host 29 = .ok (.ireturn, 1) := by decide +kernel
theorem dX11_host_30 : decode cX11_host 30 = .ok (.aload_n 0, 1) := by decide +kernel
theorem dX11_host_31 : decode cX11_host 31 = .ok (.iload_n 1, 1) := by decide +kernel
theorem dX11_host_32 : decode cX11_host 32 = .ok (.iload_n 2, 1) := by decide +kernel
theorem dX11_host_33 : decode cX11_host 33 = .ok (.invokevirtual 243, 3) := by decide +kernel
theorem dX11_host_36 : decode cX11_host 36 = .ok (.iload_n 3, 1) := by decide +kernel
theorem dX11_host_37 : decode cX11_host 37 = .ok (.iconst 1, 1) := by decide +kernel
theorem dX11_host_38 : decode cX11_host 38 = .ok (.if_icmp .ne 7, 3) := by decide +kernel
theorem dX11_host_41 : decode cX11_host 41 = .ok (.iconst 1, 1) := by decide +kernel
theorem dX11_host_42 : decode cX11_host 42 = .ok (.goto 4, 3) := by decide +kernel
theorem dX11_host_45 : decode cX11_host 45 = .ok (.iconst 0, 1) := by decide +kernel
theorem dX11_host_46 : decode cX11_host 46 = .ok (.if_icmp .ne 6, 3) := by decide +kernel
theorem dX11_host_49 : decode cX11_host 49 = .ok (.bipush (-2), 2) := by decide +kernel
theorem dX11_host_51 : decode cX11_host 51 = .ok (.ireturn, 1) := by decide +kernel
theorem dX11_host_52 : decode cX11_host 52 = .ok (.bipush 21, 2) := by decide +kernel
theorem dX11_host_54 : decode cX11_host 54 = .ok (.iload_n 1, 1) := by decide +kernel
theorem dX11_host_55 : decode cX11_host 55 = .ok (.imul, 1) := by decide +kernel
theorem dX11_host_56 : decode cX11_host 56 = .ok (.bipush 16, 2) := by decide +kernel
theorem dX11_host_58 : decode cX11_host 58 = .ok (.iadd, 1) := by decide +kernel
theorem dX11_host_59 : decode cX11_host 59 = .ok (.istore 4, 2) := by decide +kernel
theorem dX11_host_61 : decode cX11_host 61 = .ok (.iload_n 3, 1) := by decide +kernel
theorem dX11_host_62 : decode cX11_host 62 = .ok (.iconst 1, 1) := by decide +kernel
theorem dX11_host_63 : decode cX11_host 63 = .ok (.if_icmp .ne 17, 3) := by decide +kernel
theorem dX11_host_66 : decode cX11_host 66 = .ok (.aload_n 0, 1) := by decide +kernel
theorem dX11_host_67 : decode cX11_host 67 = .ok (.getfield 46, 3) := by decide +kernel
theorem dX11_host_70 : decode cX11_host 70 = .ok (.iload 4, 2) := by decide +kernel
theorem dX11_host_72 : decode cX11_host 72 = .ok (.iaload, 1) := by decide +kernel
theorem dX11_host_73 : decode cX11_host 73 = .ok (.iconst 4, 1) := by decide +kernel
theorem dX11_host_74 : decode cX11_host 74 = .ok (.if_icmp .ne 6, 3) := by decide +kernel
theorem dX11_host_77 : decode cX11_host 77 = .ok (.bipush (-3), 2) := by decide +kernel
theorem dX11_host_79 : decode cX11_host 79 = .ok (.ireturn, 1) := by decide +kernel
theorem dX11_host_80 : decode cX11_host 80 = .ok (.aload_n 0, 1) := by decide +kernel
theorem dX11_host_81 : decode cX11_host 81 = .ok (.invokevirtual 290, 3) := by decide +kernel
theorem dX11_host_84 : decode cX11_host 84 = .ok (.bipush 21, 2) := by decide +kernel
theorem dX11_host_86 : decode cX11_host 86 = .ok (.iload_n 1, 1) := by decide +kernel
theorem dX11_host_87 : decode cX11_host 87 = .ok (.imul, 1) := by decide +kernel
theorem dX11_host_88 : decode cX11_host 88 = .ok (.bipush 17, 2) := by decide +kernel
theorem dX11_host_90 : decode cX11_host 90 = .ok (.iadd, 1) := by decide +kernel
theorem dX11_host_91 : decode cX11_host 91 = .ok (.istore 5, 2) := by decide +kernel
theorem dX11_host_93 : decode cX11_host 93 = .ok (.iload_n 3, 1) := by decide +kernel
theorem dX11_host_94 : decode cX11_host 94 = .ok (.iconst 1, 1) := by decide +kernel
theorem dX11_host_95 : decode cX11_host 95 = .ok (.if_icmp .ne 38, 3) := by decide +kernel
theorem dX11_host_98 : decode cX11_host 98 = .ok (.aload_n 0, 1) := by decide +kernel
theorem dX11_host_99 : decode cX11_host 99 = .ok (.getfield 46, 3) := by decide +kernel
theorem dX11_host_102 : decode cX11_host 102 = .ok (.iload 5, 2) := by decide +kernel
theorem dX11_host_104 : decode cX11_host 104 = .ok (.aload_n 0, 1) := by decide +kernel
theorem dX11_host_105 : decode cX11_host 105 = .ok (.getfield 46, 3) := by decide +kernel
theorem dX11_host_108 : decode cX11_host 108 = .ok (.iload 4, 2) := by decide +kernel
theorem dX11_host_110 : decode cX11_host 110 = .ok (.iaload, 1) := by decide +kernel
theorem dX11_host_111 : decode cX11_host 111 = .ok (.iadd, 1) := by decide +kernel
theorem dX11_host_112 : decode cX11_host 112 = .ok (.iload_n 2, 1) := by decide +kernel
theorem dX11_host_113 : decode cX11_host 113 = .ok (.iastore, 1) := by decide +kernel
theorem dX11_host_114 : decode cX11_host 114 = .ok (.aload_n 0, 1) := by decide +kernel
theorem dX11_host_115 : decode cX11_host 115 = .ok (.getfield 46, 3) := by decide +kernel
theorem dX11_host_118 : decode cX11_host 118 = .ok (.iload 4, 2) := by decide +kernel
theorem dX11_host_120 : decode cX11_host 120 = .ok (.dup2, 1) := by decide +kernel
theorem dX11_host_121 : decode cX11_host 121 = .ok (.iaload, 1) := by decide +kernel
theorem dX11_host_122 : decode cX11_host 122 = .ok (.iconst 1, 1) := by decide +kernel
theorem dX11_host_123 : decode cX11_host 123 = .ok (.iadd, 1) := by decide +kernel
theorem dX11_host_124 : decode cX11_host 124 = .ok (.iastore, 1) := by decide +kernel
theorem dX11_host_125 : decode cX11_host 125 = .ok (.aload_n 0, 1) := by decide +kernel
theorem dX11_host_126 : decode cX11_host 126 = .ok (.getfield 46, 3) := by decide +kernel
theorem dX11_host_129 : decode cX11_host 129 = .ok (.iload 4, 2) := by decide +kernel
theorem dX11_host_131 : decode cX11_host 131 = .ok (.iaload, 1) := by decide +kernel
theorem dX11_host_132 : decode cX11_host 132 = .ok (.ireturn, 1) := by decide +kernel
theorem dX11_host_133 : decode cX11_host 133 = .ok (.iconst 0, 1) := by decide +kernel
theorem dX11_host_134 : decode cX11_host 134 = .ok (.istore 6, 2) := by decide +kernel
theorem dX11_host_136 : decode cX11_host 136 = .ok (.aload_n 0, 1) := by decide +kernel
theorem dX11_host_137 : decode cX11_host 137 = .ok (.getfield 46, 3) := by decide +kernel
theorem dX11_host_140 : decode cX11_host 140 = .ok (.iload 5, 2) := by decide +kernel
theorem dX11_host_142 : decode cX11_host 142 = .ok (.iload 6, 2) := by decide +kernel
theorem dX11_host_144 : decode cX11_host 144 = .ok (.iadd, 1) := by decide +kernel
theorem dX11_host_145 : decode cX11_host 145 = .ok (.iaload, 1) := by decide +kernel
theorem dX11_host_146 : decode cX11_host 146 = .ok (.iload_n 2, 1) := by decide +kernel
theorem dX11_host_147 : decode cX11_host 147 = .ok (.if_icmp .eq 9, 3) := by decide +kernel
theorem dX11_host_150 : decode cX11_host 150 = .ok (.iinc 6 1, 3) := by decide +kernel
theorem dX11_host_153 : decode cX11_host 153 = .ok (.goto (-17), 3) := by decide +kernel
theorem dX11_host_156 : decode cX11_host 156 = .ok (.aload_n 0, 1) := by decide +kernel
theorem dX11_host_157 : decode cX11_host 157 = .ok (.getfield 46, 3) := by decide +kernel
theorem dX11_host_160 : decode cX11_host 160 = .ok (.iload 4, 2) := by decide +kernel
theorem dX11_host_162 : decode cX11_host 162 = .ok (.dup2, 1) := by decide +kernel
theorem dX11_host_163 : decode cX11_host 163 = .ok (.iaload, 1) := by decide +kernel
theorem dX11_host_164 : decode cX11_host 164 = .ok (.iconst 1, 1) := by decide +kernel
theorem dX11_host_165 : decode cX11_host 165 = .ok (.isub, 1) := by decide +kernel
theorem dX11_host_166 : decode cX11_host 166 = .ok (.iastore, 1) := by decide +kernel
theorem dX11_host_167 : decode cX11_host 167 = .ok (.iload 6, 2) := by decide +kernel
theorem dX11_host_169 : decode cX11_host 169 = .ok (.istore 7, 2) := by decide +kernel
theorem dX11_host_171 : decode cX11_host 171 = .ok (.iload 7, 2) := by decide +kernel
theorem dX11_host_173 : decode cX11_host 173 = .ok (.aload_n 0, 1) := by decide +kernel
theorem dX11_host_174 : decode cX11_host 174 = .ok (.getfield 46, 3) := by decide +kernel
theorem dX11_host_177 : decode cX11_host 177 = .ok (.iload 4, 2) := by decide +kernel
theorem dX11_host_179 : decode cX11_host 179 = .ok (.iaload, 1) := by decide +kernel
theorem dX11_host_180 : decode cX11_host 180 = .ok (.if_icmp .ge 31, 3) := by decide +kernel
theorem dX11_host_183 : decode cX11_host 183 = .ok (.aload_n 0, 1) := by decide +kernel
theorem dX11_host_184 : decode cX11_host 184 = .ok (.getfield 46, 3) := by decide +kernel
theorem dX11_host_187 : decode cX11_host 187 = .ok (.iload 5, 2) := by decide +kernel
theorem dX11_host_189 : decode cX11_host 189 = .ok (.iload 7, 2) := by decide +kernel
theorem dX11_host_191 : decode cX11_host 191 = .ok (.iadd, 1) := by decide +kernel
theorem dX11_host_192 : decode cX11_host 192 = .ok (.aload_n 0, 1) := by decide +kernel
theorem dX11_host_193 : decode cX11_host 193 = .ok (.getfield 46, 3) := by decide +kernel
theorem dX11_host_196 : decode cX11_host 196 = .ok (.iload 5, 2) := by decide +kernel
theorem dX11_host_198 : decode cX11_host 198 = .ok (.iload 7, 2) := by decide +kernel
theorem dX11_host_200 : decode cX11_host 200 = .ok (.iadd, 1) := by decide +kernel
theorem dX11_host_201 : decode cX11_host 201 = .ok (.iconst 1, 1) := by decide +kernel
theorem dX11_host_202 : decode cX11_host 202 = .ok (.iadd, 1) := by decide +kernel
theorem dX11_host_203 : decode cX11_host 203 = .ok (.iaload, 1) := by decide +kernel
theorem dX11_host_204 : decode cX11_host 204 = .ok (.iastore, 1) := by decide +kernel
theorem dX11_host_205 : decode cX11_host 205 = .ok (.iinc 7 1, 3) := by decide +kernel
theorem dX11_host_208 : decode cX11_host 208 = .ok (.goto (-37), 3) := by decide +kernel
theorem dX11_host_211 : decode cX11_host 211 = .ok (.aload_n 0, 1) := by decide +kernel
theorem dX11_host_212 : decode cX11_host 212 = .ok (.getfield 46, 3) := by decide +kernel
theorem dX11_host_215 : decode cX11_host 215 = .ok (.iload 4, 2) := by decide +kernel
theorem dX11_host_217 : decode cX11_host 217 = .ok (.iaload, 1) := by decide +kernel
theorem dX11_host_218 : decode cX11_host 218 = .ok (.ireturn, 1) := by decide +kernel
theorem dX11_name_0 : decode cX11_name 0 = .ok (.aload_n 0, 1) := by decide +kernel
theorem dX11_name_1 : decode cX11_name 1 = .ok (.iload_n 1, 1) := by decide +kernel
theorem dX11_name_2 : decode cX11_name 2 = .ok (.invokevirtual 280, 3) := by decide +kernel
theorem dX11_name_5 : decode cX11_name 5 = .ok (.ifCond .eq 12, 3) := by decide +kernel
theorem dX11_name_8 : decode cX11_name 8 = .ok (.iload_n 2, 1) := by decide +kernel
theorem dX11_name_9 : decode cX11_name 9 = .ok (.iconst 0, 1) := by decide +kernel
theorem dX11_name_10 : decode cX11_name 10 = .ok (.iconst 5, 1) := by decide +kernel
theorem dX11_name_11 : decode cX11_name 11 = .ok (.invokestatic 135, 3) := by decide +kernel
theorem dX11_name_14 : decode cX11_name 14 = .ok (.ifCond .ne 5, 3) := by decide +kernel
theorem dX11_name_17 : decode cX11_name 17 = .ok (.iconst (-1), 1) := by decide +kernel
theorem dX11_name_18 : decode cX11_name 18 = .ok (.ireturn, 1) := by decide +kernel
theorem dX11_name_19 : decode cX11_name 19 = .ok (.iload_n 2, 1) := by decide +kernel
theorem dX11_name_20 : decode cX11_name 20 = .ok (.tableswitch 98 0 4 #[36, 46, 53, 66, 73], 36) := by decide +kernel
theorem dX11_name_56 : decode cX11_name 56 = .ok (.aload_n 0, 1) := by decide +kernel
theorem dX11_name_57 : decode cX11_name 57 = .ok (.getfield 13, 3) := by decide +kernel
theorem dX11_name_60 : decode cX11_name 60 = .ok (.iload_n 1, 1) := by decide +kernel
theorem dX11_name_61 : decode cX11_name 61 = .ok (.iaload, 1) := by decide +kernel
theorem dX11_name_62 : decode cX11_name 62 = .ok (.invokestatic 206, 3) := by decide +kernel
theorem dX11_name_65 : decode cX11_name 65 = .ok (.ireturn, 1) := by decide +kernel
theorem dX11_name_66 : decode cX11_name 66 = .ok (.aload_n 0, 1) := by decide +kernel
theorem dX11_name_67 : decode cX11_name 67 = .ok (.getfield 16, 3) := by decide +kernel
theorem dX11_name_70 : decode cX11_name 70 = .ok (.iload_n 1, 1) := by decide +kernel
theorem dX11_name_71 : decode cX11_name 71 = .ok (.iaload, 1) := by decide +kernel
theorem dX11_name_72 : decode cX11_name 72 = .ok (.ireturn, 1) := by decide +kernel
theorem dX11_name_73 : decode cX11_name 73 = .ok (.aload_n 0, 1) := by decide +kernel
theorem dX11_name_74 : decode cX11_name 74 = .ok (.getfield 46, 3) := by decide +kernel
theorem dX11_name_77 : decode cX11_name 77 = .ok (.bipush 21, 2) := by decide +kernel
theorem dX11_name_79 : decode cX11_name 79 = .ok (.iload_n 1, 1) := by decide +kernel
theorem dX11_name_80 : decode cX11_name 80 = .ok (.imul, 1) := by decide +kernel
theorem dX11_name_81 : decode cX11_name 81 = .ok (.bipush 16, 2) := by decide +kernel
theorem dX11_name_83 : decode cX11_name 83 = .ok (.iadd, 1) := by decide +kernel
theorem dX11_name_84 : decode cX11_name 84 = .ok (.iaload, 1) := by decide +kernel
theorem dX11_name_85 : decode cX11_name 85 = .ok (.ireturn, 1) := by decide +kernel
theorem dX11_name_86 : decode cX11_name 86 = .ok (.aload_n 0, 1) := by decide +kernel
theorem dX11_name_87 : decode cX11_name 87 = .ok (.getfield 22, 3) := by decide +kernel
theorem dX11_name_90 : decode cX11_name 90 = .ok (.iload_n 1, 1) := by decide +kernel
theorem dX11_name_91 : decode cX11_name 91 = .ok (.iaload, 1) := by decide +kernel
theorem dX11_name_92 : decode cX11_name 92 = .ok (.ireturn, 1) := by decide +kernel
theorem dX11_name_93 : decode cX11_name 93 = .ok (.aload_n 0, 1) := by decide +kernel
theorem dX11_name_94 : decode cX11_name 94 = .ok (.getfield 19, 3) := by decide +kernel
theorem dX11_name_97 : decode cX11_name 97 = .ok (.iload_n 1, 1) := by decide +kernel
theorem dX11_name_98 : decode cX11_name 98 = .ok (.iaload, 1) := by decide +kernel
theorem dX11_name_99 : decode cX11_name 99 = .ok (.ifCond .ne 8, 3) := by decide +kernel
theorem dX11_name_102 : decode cX11_name 102 = .ok (.bipush (-4), 2) := by decide +kernel
theorem dX11_name_104 : decode cX11_name 104 = .ok (.goto 13, 3) := by decide +kernel
theorem dX11_name_107 : decode cX11_name 107 = .ok (.aload_n 0, 1) := by decide +kernel
theorem dX11_name_108 : decode cX11_name 108 = .ok (.aload_n 0, 1) := by decide +kernel
theorem dX11_name_109 : decode cX11_name 109 = .ok (.getfield 19, 3) := by decide +kernel
theorem dX11_name_112 : decode cX11_name 112 = .ok (.iload_n 1, 1) := by decide +kernel
theorem dX11_name_113 : decode cX11_name 113 = .ok (.iaload, 1) := by decide +kernel
theorem dX11_name_114 : decode cX11_name 114 = .ok (.invokevirtual 240, 3) := by decide +kernel
theorem dX11_name_117 : decode cX11_name 117 = .ok (.ireturn, 1) := by decide +kernel
theorem dX11_name_118 : decode cX11_name 118 = .ok (.aload_n 0, 1) := by decide +kernel
theorem dX11_name_119 : decode cX11_name 119 = .ok (.getfield 16, 3) := by decide +kernel
theorem dX11_name_122 : decode cX11_name 122 = .ok (.iload_n 1, 1) := by decide +kernel
theorem dX11_name_123 : decode cX11_name 123 = .ok (.iaload, 1) := by decide +kernel
theorem dX11_name_124 : decode cX11_name 124 = .ok (.ifCond .le 7, 3) := by decide +kernel
theorem dX11_name_127 : decode cX11_name 127 = .ok (.iconst 1, 1) := by decide +kernel
theorem dX11_name_128 : decode cX11_name 128 = .ok (.goto 4, 3) := by decide +kernel
theorem dX11_name_131 : decode cX11_name 131 = .ok (.iconst 0, 1) := by decide +kernel
theorem dX11_name_132 : decode cX11_name 132 = .ok (.ireturn, 1) := by decide +kernel
theorem dX11_letter_0 : decode cX11_letter 0 = .ok (.aload_n 0, 1) := by decide +kernel
theorem dX11_letter_1 : decode cX11_letter 1 = .ok (.iload_n 1, 1) := by decide +kernel
theorem dX11_letter_2 : decode cX11_letter 2 = .ok (.invokevirtual 280, 3) := by decide +kernel
theorem dX11_letter_5 : decode cX11_letter 5 = .ok (.ifCond .eq 7, 3) := by decide +kernel
theorem dX11_letter_8 : decode cX11_letter 8 = .ok (.iload_n 2, 1) := by decide +kernel
theorem dX11_letter_9 : decode cX11_letter 9 = .ok (.ifCond .ge 5, 3) := by decide +kernel
theorem dX11_letter_12 : decode cX11_letter 12 = .ok (.iconst (-1), 1) := by decide +kernel
theorem dX11_letter_13 : decode cX11_letter 13 = .ok (.ireturn, 1) := by decide +kernel
theorem dX11_letter_14 : decode cX11_letter 14 = .ok (.aload_n 0, 1) := by decide +kernel
theorem dX11_letter_15 : decode cX11_letter 15 = .ok (.getfield 13, 3) := by decide +kernel
theorem dX11_letter_18 : decode cX11_letter 18 = .ok (.iload_n 1, 1) := by decide +kernel
theorem dX11_letter_19 : decode cX11_letter 19 = .ok (.iaload, 1) := by decide +kernel
theorem dX11_letter_20 : decode cX11_letter 20 = .ok (.invokestatic 206, 3) := by decide +kernel
theorem dX11_letter_23 : decode cX11_letter 23 = .ok (.istore_n 3, 1) := by decide +kernel
theorem dX11_letter_24 : decode cX11_letter 24 = .ok (.iload_n 2, 1) := by decide +kernel
theorem dX11_letter_25 : decode cX11_letter 25 = .ok (.iload_n 3, 1) := by decide +kernel
theorem dX11_letter_26 : decode cX11_letter 26 = .ok (.if_icmp .ge 20, 3) := by decide +kernel
theorem dX11_letter_29 : decode cX11_letter 29 = .ok (.aload_n 0, 1) := by decide +kernel
theorem dX11_letter_30 : decode cX11_letter 30 = .ok (.getfield 13, 3) := by decide +kernel
theorem dX11_letter_33 : decode cX11_letter 33 = .ok (.iload_n 1, 1) := by decide +kernel
theorem dX11_letter_34 : decode cX11_letter 34 = .ok (.iaload, 1) := by decide +kernel
theorem dX11_letter_35 : decode cX11_letter 35 = .ok (.iload_n 3, 1) := by decide +kernel
theorem dX11_letter_36 : decode cX11_letter 36 = .ok (.iconst 1, 1) := by decide +kernel
theorem dX11_letter_37 : decode cX11_letter 37 = .ok (.isub, 1) := by decide +kernel
theorem dX11_letter_38 : decode cX11_letter 38 = .ok (.iload_n 2, 1) := by decide +kernel
theorem dX11_letter_39 : decode cX11_letter 39 = .ok (.isub, 1) := by decide +kernel
theorem dX11_letter_40 : decode cX11_letter 40 = .ok (.invokestatic 212, 3) := by decide +kernel
theorem dX11_letter_43 : decode cX11_letter 43 = .ok (.goto 5, 3) := by decide +kernel
theorem dX11_letter_46 : decode cX11_letter 46 = .ok (.bipush (-4), 2) := by decide +kernel
theorem dX11_letter_48 : decode cX11_letter 48 = .ok (.ireturn, 1) := by decide +kernel
theorem dX11_rule_0 : decode cX11_rule 0 = .ok (.aload_n 0, 1) := by decide +kernel
theorem dX11_rule_1 : decode cX11_rule 1 = .ok (.iload_n 1, 1) := by decide +kernel
theorem dX11_rule_2 : decode cX11_rule 2 = .ok (.iload_n 2, 1) := by decide +kernel
theorem dX11_rule_3 : decode cX11_rule 3 = .ok (.invokevirtual 287, 3) := by decide +kernel
theorem dX11_rule_6 : decode cX11_rule 6 = .ok (.ifCond .eq 12, 3) := by decide +kernel
theorem dX11_rule_9 : decode cX11_rule 9 = .ok (.iload_n 3, 1) := by decide +kernel
theorem dX11_rule_10 : decode cX11_rule 10 = .ok (.iconst 0, 1) := by decide +kernel
theorem dX11_rule_11 : decode cX11_rule 11 = .ok (.iconst 4, 1) := by decide +kernel
theorem dX11_rule_12 : decode cX11_rule 12 = .ok (.invokestatic 135, 3) := by decide +kernel
theorem dX11_rule_15 : decode cX11_rule 15 = .ok (.ifCond .ne 5, 3) := by decide +kernel
theorem dX11_rule_18 : decode cX11_rule 18 = .ok (.iconst (-1), 1) := by decide +kernel
theorem dX11_rule_19 : decode cX11_rule 19 = .ok (.ireturn, 1) := by decide +kernel
theorem dX11_rule_20 : decode cX11_rule 20 = .ok (.aload_n 0, 1) := by decide +kernel
theorem dX11_rule_21 : decode cX11_rule 21 = .ok (.iload_n 1, 1) := by decide +kernel
theorem dX11_rule_22 : decode cX11_rule 22 = .ok (.iload_n 2, 1) := by decide +kernel
theorem dX11_rule_23 : decode cX11_rule 23 = .ok (.invokevirtual 271, 3) := by decide +kernel
theorem dX11_rule_26 : decode cX11_rule 26 = .ok (.istore 4, 2) := by decide +kernel
theorem dX11_rule_28 : decode cX11_rule 28 = .ok (.iload_n 3, 1) := by decide +kernel
theorem dX11_rule_29 : decode cX11_rule 29 = .ok (.tableswitch 94 0 3 #[31, 38, 46, 70], 31) := by decide +kernel
theorem dX11_rule_60 : decode cX11_rule 60 = .ok (.aload_n 0, 1) := by decide +kernel
theorem dX11_rule_61 : decode cX11_rule 61 = .ok (.iload_n 1, 1) := by decide +kernel
theorem dX11_rule_62 : decode cX11_rule 62 = .ok (.iload_n 2, 1) := by decide +kernel
theorem dX11_rule_63 : decode cX11_rule 63 = .ok (.invokevirtual 259, 3) := by decide +kernel
theorem dX11_rule_66 : decode cX11_rule 66 = .ok (.ireturn, 1) := by decide +kernel
theorem dX11_rule_67 : decode cX11_rule 67 = .ok (.aload_n 0, 1) := by decide +kernel
theorem dX11_rule_68 : decode cX11_rule 68 = .ok (.getfield 28, 3) := by decide +kernel
theorem dX11_rule_71 : decode cX11_rule 71 = .ok (.iload 4, 2) := by decide +kernel
theorem dX11_rule_73 : decode cX11_rule 73 = .ok (.iaload, 1) := by decide +kernel
theorem dX11_rule_74 : decode cX11_rule 74 = .ok (.ireturn, 1) := by decide +kernel
theorem dX11_rule_75 : decode cX11_rule 75 = .ok (.aload_n 0, 1) := by decide +kernel
theorem dX11_rule_76 : decode cX11_rule 76 = .ok (.getfield 28, 3) := by decide +kernel
theorem dX11_rule_79 : decode cX11_rule 79 = .ok (.iload 4, 2) := by decide +kernel
theorem dX11_rule_81 : decode cX11_rule 81 = .ok (.iaload, 1) := by decide +kernel
theorem dX11_rule_82 : decode cX11_rule 82 = .ok (.iconst 1, 1) := by decide +kernel
theorem dX11_rule_83 : decode cX11_rule 83 = .ok (.if_icmp .ne 13, 3) := by decide +kernel
theorem dX11_rule_86 : decode cX11_rule 86 = .ok (.aload_n 0, 1) := by decide +kernel
theorem dX11_rule_87 : decode cX11_rule 87 = .ok (.getfield 31, 3) := by decide +kernel
theorem dX11_rule_90 : decode cX11_rule 90 = .ok (.iload 4, 2) := by decide +kernel
theorem dX11_rule_92 : decode cX11_rule 92 = .ok (.iaload, 1) := by decide +kernel
theorem dX11_rule_93 : decode cX11_rule 93 = .ok (.goto 5, 3) := by decide +kernel
theorem dX11_rule_96 : decode cX11_rule 96 = .ok (.bipush (-4), 2) := by decide +kernel
theorem dX11_rule_98 : decode cX11_rule 98 = .ok (.ireturn, 1) := by decide +kernel
theorem dX11_rule_99 : decode cX11_rule 99 = .ok (.aload_n 0, 1) := by decide +kernel
theorem dX11_rule_100 : decode cX11_rule 100 = .ok (.getfield 28, 3) := by decide +kernel
theorem dX11_rule_103 : decode cX11_rule 103 = .ok (.iload 4, 2) := by decide +kernel
theorem dX11_rule_105 : decode cX11_rule 105 = .ok (.iaload, 1) := by decide +kernel
theorem dX11_rule_106 : decode cX11_rule 106 = .ok (.iconst 1, 1) := by decide +kernel
theorem dX11_rule_107 : decode cX11_rule 107 = .ok (.if_icmp .ne 13, 3) := by decide +kernel
theorem dX11_rule_110 : decode cX11_rule 110 = .ok (.aload_n 0, 1) := by decide +kernel
theorem dX11_rule_111 : decode cX11_rule 111 = .ok (.getfield 34, 3) := by decide +kernel
theorem dX11_rule_114 : decode cX11_rule 114 = .ok (.iload 4, 2) := by decide +kernel
theorem dX11_rule_116 : decode cX11_rule 116 = .ok (.iaload, 1) := by decide +kernel
theorem dX11_rule_117 : decode cX11_rule 117 = .ok (.goto 5, 3) := by decide +kernel
theorem dX11_rule_120 : decode cX11_rule 120 = .ok (.bipush (-4), 2) := by decide +kernel
theorem dX11_rule_122 : decode cX11_rule 122 = .ok (.ireturn, 1) := by decide +kernel
theorem dX11_rule_123 : decode cX11_rule 123 = .ok (.aload_n 0, 1) := by decide +kernel
theorem dX11_rule_124 : decode cX11_rule 124 = .ok (.getfield 28, 3) := by decide +kernel
theorem dX11_rule_127 : decode cX11_rule 127 = .ok (.iload 4, 2) := by decide +kernel
theorem dX11_rule_129 : decode cX11_rule 129 = .ok (.iaload, 1) := by decide +kernel
theorem dX11_rule_130 : decode cX11_rule 130 = .ok (.iconst 2, 1) := by decide +kernel
theorem dX11_rule_131 : decode cX11_rule 131 = .ok (.iconst 4, 1) := by decide +kernel
theorem dX11_rule_132 : decode cX11_rule 132 = .ok (.invokestatic 135, 3) := by decide +kernel
theorem dX11_rule_135 : decode cX11_rule 135 = .ok (.ifCond .eq 17, 3) := by decide +kernel
theorem dX11_rule_138 : decode cX11_rule 138 = .ok (.aload_n 0, 1) := by decide +kernel
theorem dX11_rule_139 : decode cX11_rule 139 = .ok (.aload_n 0, 1) := by decide +kernel
theorem dX11_rule_140 : decode cX11_rule 140 = .ok (.getfield 37, 3) := by decide +kernel
theorem dX11_rule_143 : decode cX11_rule 143 = .ok (.iload 4, 2) := by decide +kernel
theorem dX11_rule_145 : decode cX11_rule 145 = .ok (.iaload, 1) := by decide +kernel
theorem dX11_rule_146 : decode cX11_rule 146 = .ok (.invokevirtual 240, 3) := by decide +kernel
theorem dX11_rule_149 : decode cX11_rule 149 = .ok (.goto 5, 3) := by decide +kernel
theorem dX11_rule_152 : decode cX11_rule 152 = .ok (.bipush (-4), 2) := by decide +kernel
theorem dX11_rule_154 : decode cX11_rule 154 = .ok (.ireturn, 1) := by decide +kernel
theorem dX11_hostOf_0 : decode cX11_hostOf 0 = .ok (.aload_n 0, 1) := by decide +kernel
theorem dX11_hostOf_1 : decode cX11_hostOf 1 = .ok (.iload_n 1, 1) := by decide +kernel
theorem dX11_hostOf_2 : decode cX11_hostOf 2 = .ok (.invokevirtual 280, 3) := by decide +kernel
theorem dX11_hostOf_5 : decode cX11_hostOf 5 = .ok (.ifCond .eq 7, 3) := by decide +kernel
theorem dX11_hostOf_8 : decode cX11_hostOf 8 = .ok (.iload_n 2, 1) := by decide +kernel
theorem dX11_hostOf_9 : decode cX11_hostOf 9 = .ok (.ifCond .ge 5, 3) := by decide +kernel
theorem dX11_hostOf_12 : decode cX11_hostOf 12 = .ok (.iconst (-1), 1) := by decide +kernel
theorem dX11_hostOf_13 : decode cX11_hostOf 13 = .ok (.ireturn, 1) := by decide +kernel
theorem dX11_hostOf_14 : decode cX11_hostOf 14 = .ok (.iload_n 2, 1) := by decide +kernel
theorem dX11_hostOf_15 : decode cX11_hostOf 15 = .ok (.aload_n 0, 1) := by decide +kernel
theorem dX11_hostOf_16 : decode cX11_hostOf 16 = .ok (.getfield 46, 3) := by decide +kernel
theorem dX11_hostOf_19 : decode cX11_hostOf 19 = .ok (.bipush 21, 2) := by decide +kernel
theorem dX11_hostOf_21 : decode cX11_hostOf 21 = .ok (.iload_n 1, 1) := by decide +kernel
theorem dX11_hostOf_22 : decode cX11_hostOf 22 = .ok (.imul, 1) := by decide +kernel
theorem dX11_hostOf_23 : decode cX11_hostOf 23 = .ok (.bipush 16, 2) := by decide +kernel
theorem dX11_hostOf_25 : decode cX11_hostOf 25 = .ok (.iadd, 1) := by decide +kernel
theorem dX11_hostOf_26 : decode cX11_hostOf 26 = .ok (.iaload, 1) := by decide +kernel
theorem dX11_hostOf_27 : decode cX11_hostOf 27 = .ok (.if_icmp .ge 20, 3) := by decide +kernel
theorem dX11_hostOf_30 : decode cX11_hostOf 30 = .ok (.aload_n 0, 1) := by decide +kernel
theorem dX11_hostOf_31 : decode cX11_hostOf 31 = .ok (.getfield 46, 3) := by decide +kernel
theorem dX11_hostOf_34 : decode cX11_hostOf 34 = .ok (.bipush 21, 2) := by decide +kernel
theorem dX11_hostOf_36 : decode cX11_hostOf 36 = .ok (.iload_n 1, 1) := by decide +kernel
theorem dX11_hostOf_37 : decode cX11_hostOf 37 = .ok (.imul, 1) := by decide +kernel
theorem dX11_hostOf_38 : decode cX11_hostOf 38 = .ok (.bipush 17, 2) := by decide +kernel
theorem dX11_hostOf_40 : decode cX11_hostOf 40 = .ok (.iadd, 1) := by decide +kernel
theorem dX11_hostOf_41 : decode cX11_hostOf 41 = .ok (.iload_n 2, 1) := by decide +kernel
theorem dX11_hostOf_42 : decode cX11_hostOf 42 = .ok (.iadd, 1) := by decide +kernel
theorem dX11_hostOf_43 : decode cX11_hostOf 43 = .ok (.iaload, 1) := by decide +kernel
theorem dX11_hostOf_44 : decode cX11_hostOf 44 = .ok (.goto 5, 3) := by decide +kernel
theorem dX11_hostOf_47 : decode cX11_hostOf 47 = .ok (.bipush (-4), 2) := by decide +kernel
theorem dX11_hostOf_49 : decode cX11_hostOf 49 = .ok (.ireturn, 1) := by decide +kernel
theorem dX11_many_0 : decode cX11_many 0 = .ok (.aload_n 0, 1) := by decide +kernel
theorem dX11_many_1 : decode cX11_many 1 = .ok (.iload_n 1, 1) := by decide +kernel
theorem dX11_many_2 : decode cX11_many 2 = .ok (.invokevirtual 280, 3) := by decide +kernel
theorem dX11_many_5 : decode cX11_many 5 = .ok (.ifCond .eq 22, 3) := by decide +kernel
theorem dX11_many_8 : decode cX11_many 8 = .ok (.iload_n 2, 1) := by decide +kernel
theorem dX11_many_9 : decode cX11_many 9 = .ok (.iconst 0, 1) := by decide +kernel
theorem dX11_many_10 : decode cX11_many 10 = .ok (.bipush 15, 2) := by decide +kernel
theorem dX11_many_12 : decode cX11_many 12 = .ok (.invokestatic 135, 3) := by decide +kernel
theorem dX11_many_15 : decode cX11_many 15 = .ok (.ifCond .eq 12, 3) := by decide +kernel
theorem dX11_many_18 : decode cX11_many 18 = .ok (.iload_n 3, 1) := by decide +kernel
theorem dX11_many_19 : decode cX11_many 19 = .ok (.iconst 0, 1) := by decide +kernel
theorem dX11_many_20 : decode cX11_many 20 = .ok (.iconst 5, 1) := by decide +kernel
theorem dX11_many_21 : decode cX11_many 21 = .ok (.invokestatic 135, 3) := by decide +kernel
theorem dX11_many_24 : decode cX11_many 24 = .ok (.ifCond .ne 5, 3) := by decide +kernel
theorem dX11_many_27 : decode cX11_many 27 = .ok (.iconst (-1), 1) := by decide +kernel
theorem dX11_many_28 : decode cX11_many 28 = .ok (.ireturn, 1) := by decide +kernel
theorem dX11_many_29 : decode cX11_many 29 = .ok (.iconst 0, 1) := by decide +kernel
theorem dX11_many_30 : decode cX11_many 30 = .ok (.istore 4, 2) := by decide +kernel
theorem dX11_many_32 : decode cX11_many 32 = .ok (.iconst 0, 1) := by decide +kernel
theorem dX11_many_33 : decode cX11_many 33 = .ok (.istore 5, 2) := by decide +kernel
theorem dX11_many_35 : decode cX11_many 35 = .ok (.iload 5, 2) := by decide +kernel
theorem dX11_many_37 : decode cX11_many 37 = .ok (.sipush 256, 3) := by decide +kernel
theorem dX11_many_40 : decode cX11_many 40 = .ok (.if_icmp .ge 31, 3) := by decide +kernel
theorem dX11_many_43 : decode cX11_many 43 = .ok (.iload 4, 2) := by decide +kernel
theorem dX11_many_45 : decode cX11_many 45 = .ok (.aload_n 0, 1) := by decide +kernel
theorem dX11_many_46 : decode cX11_many 46 = .ok (.iload_n 1, 1) := by decide +kernel
theorem dX11_many_47 : decode cX11_many 47 = .ok (.iload 5, 2) := by decide +kernel
theorem dX11_many_49 : decode cX11_many 49 = .ok (.iload_n 2, 1) := by decide +kernel
theorem dX11_many_50 : decode cX11_many 50 = .ok (.invokevirtual 283, 3) := by decide +kernel
theorem dX11_many_53 : decode cX11_many 53 = .ok (.iload_n 3, 1) := by decide +kernel
theorem dX11_many_54 : decode cX11_many 54 = .ok (.if_icmp .ne 7, 3) := by decide +kernel
theorem dX11_many_57 : decode cX11_many 57 = .ok (.iconst 1, 1) := by decide +kernel
theorem dX11_many_58 : decode cX11_many 58 = .ok (.goto 4, 3) := by decide +kernel
theorem dX11_many_61 : decode cX11_many 61 = .ok (.iconst 0, 1) := by decide +kernel
theorem dX11_many_62 : decode cX11_many 62 = .ok (.iadd, 1) := by decide +kernel
theorem dX11_many_63 : decode cX11_many 63 = .ok (.istore 4, 2) := by decide +kernel
theorem dX11_many_65 : decode cX11_many 65 = .ok (.iinc 5 1, 3) := by decide +kernel
theorem dX11_many_68 : decode cX11_many 68 = .ok (.goto (-33), 3) := by decide +kernel
theorem dX11_many_71 : decode cX11_many 71 = .ok (.iload 4, 2) := by decide +kernel
theorem dX11_many_73 : decode cX11_many 73 = .ok (.ireturn, 1) := by decide +kernel
theorem dX11_dead_0 : decode cX11_dead 0 = .ok (.aload_n 0, 1) := by decide +kernel
theorem dX11_dead_1 : decode cX11_dead 1 = .ok (.iload_n 1, 1) := by decide +kernel
theorem dX11_dead_2 : decode cX11_dead 2 = .ok (.invokevirtual 280, 3) := by decide +kernel
theorem dX11_dead_5 : decode cX11_dead 5 = .ok (.ifCond .eq 13, 3) := by decide +kernel
theorem dX11_dead_8 : decode cX11_dead 8 = .ok (.iload_n 2, 1) := by decide +kernel
theorem dX11_dead_9 : decode cX11_dead 9 = .ok (.iconst 0, 1) := by decide +kernel
theorem dX11_dead_10 : decode cX11_dead 10 = .ok (.bipush 15, 2) := by decide +kernel
theorem dX11_dead_12 : decode cX11_dead 12 = .ok (.invokestatic 135, 3) := by decide +kernel
theorem dX11_dead_15 : decode cX11_dead 15 = .ok (.ifCond .ne 5, 3) := by decide +kernel
theorem dX11_dead_18 : decode cX11_dead 18 = .ok (.iconst (-1), 1) := by decide +kernel
theorem dX11_dead_19 : decode cX11_dead 19 = .ok (.ireturn, 1) := by decide +kernel
theorem dX11_dead_20 : decode cX11_dead 20 = .ok (.iconst 1, 1) := by decide +kernel
theorem dX11_dead_21 : decode cX11_dead 21 = .ok (.aload_n 0, 1) := by decide +kernel
theorem dX11_dead_22 : decode cX11_dead 22 = .ok (.getfield 16, 3) := by decide +kernel
theorem dX11_dead_25 : decode cX11_dead 25 = .ok (.iload_n 1, 1) := by decide +kernel
theorem dX11_dead_26 : decode cX11_dead 26 = .ok (.iaload, 1) := by decide +kernel
theorem dX11_dead_27 : decode cX11_dead 27 = .ok (.ishl, 1) := by decide +kernel
theorem dX11_dead_28 : decode cX11_dead 28 = .ok (.iconst 1, 1) := by decide +kernel
theorem dX11_dead_29 : decode cX11_dead 29 = .ok (.isub, 1) := by decide +kernel
theorem dX11_dead_30 : decode cX11_dead 30 = .ok (.istore_n 3, 1) := by decide +kernel
theorem dX11_dead_31 : decode cX11_dead 31 = .ok (.iconst 0, 1) := by decide +kernel
theorem dX11_dead_32 : decode cX11_dead 32 = .ok (.istore 4, 2) := by decide +kernel
theorem dX11_dead_34 : decode cX11_dead 34 = .ok (.iload 4, 2) := by decide +kernel
theorem dX11_dead_36 : decode cX11_dead 36 = .ok (.sipush 256, 3) := by decide +kernel
theorem dX11_dead_39 : decode cX11_dead 39 = .ok (.if_icmp .ge 41, 3) := by decide +kernel
theorem dX11_dead_42 : decode cX11_dead 42 = .ok (.aload_n 0, 1) := by decide +kernel
theorem dX11_dead_43 : decode cX11_dead 43 = .ok (.iload_n 1, 1) := by decide +kernel
theorem dX11_dead_44 : decode cX11_dead 44 = .ok (.iload 4, 2) := by decide +kernel
theorem dX11_dead_46 : decode cX11_dead 46 = .ok (.iload_n 2, 1) := by decide +kernel
theorem dX11_dead_47 : decode cX11_dead 47 = .ok (.invokevirtual 283, 3) := by decide +kernel
theorem dX11_dead_50 : decode cX11_dead 50 = .ok (.pop, 1) := by decide +kernel
theorem dX11_dead_51 : decode cX11_dead 51 = .ok (.iload_n 3, 1) := by decide +kernel
theorem dX11_dead_52 : decode cX11_dead 52 = .ok (.aload_n 0, 1) := by decide +kernel
theorem dX11_dead_53 : decode cX11_dead 53 = .ok (.getfield 253, 3) := by decide +kernel
theorem dX11_dead_56 : decode cX11_dead 56 = .ok (.iload_n 1, 1) := by decide +kernel
theorem dX11_dead_57 : decode cX11_dead 57 = .ok (.if_icmp .ne 14, 3) := by decide +kernel
theorem dX11_dead_60 : decode cX11_dead 60 = .ok (.iconst 1, 1) := by decide +kernel
theorem dX11_dead_61 : decode cX11_dead 61 = .ok (.aload_n 0, 1) := by decide +kernel
theorem dX11_dead_62 : decode cX11_dead 62 = .ok (.getfield 256, 3) := by decide +kernel
theorem dX11_dead_65 : decode cX11_dead 65 = .ok (.ishl, 1) := by decide +kernel
theorem dX11_dead_66 : decode cX11_dead 66 = .ok (.iconst (-1), 1) := by decide +kernel
theorem dX11_dead_67 : decode cX11_dead 67 = .ok (.ixor, 1) := by decide +kernel
theorem dX11_dead_68 : decode cX11_dead 68 = .ok (.goto 4, 3) := by decide +kernel
theorem dX11_dead_71 : decode cX11_dead 71 = .ok (.iconst (-1), 1) := by decide +kernel
theorem dX11_dead_72 : decode cX11_dead 72 = .ok (.iand, 1) := by decide +kernel
theorem dX11_dead_73 : decode cX11_dead 73 = .ok (.istore_n 3, 1) := by decide +kernel
theorem dX11_dead_74 : decode cX11_dead 74 = .ok (.iinc 4 1, 3) := by decide +kernel
theorem dX11_dead_77 : decode cX11_dead 77 = .ok (.goto (-43), 3) := by decide +kernel
theorem dX11_dead_80 : decode cX11_dead 80 = .ok (.iload_n 3, 1) := by decide +kernel
theorem dX11_dead_81 : decode cX11_dead 81 = .ok (.ireturn, 1) := by decide +kernel
theorem dX11_floats_0 : decode cX11_floats 0 = .ok (.iload_n 0, 1) := by decide +kernel
theorem dX11_floats_1 : decode cX11_floats 1 = .ok (.ifCond .ne 5, 3) := by decide +kernel
theorem dX11_floats_4 : decode cX11_floats 4 = .ok (.iconst 0, 1) := by decide +kernel
theorem dX11_floats_5 : decode cX11_floats 5 = .ok (.ireturn, 1) := by decide +kernel
theorem dX11_floats_6 : decode cX11_floats 6 = .ok (.iconst 0, 1) := by decide +kernel
theorem dX11_floats_7 : decode cX11_floats 7 = .ok (.istore_n 1, 1) := by decide +kernel
theorem dX11_floats_8 : decode cX11_floats 8 = .ok (.iload_n 0, 1) := by decide +kernel
theorem dX11_floats_9 : decode cX11_floats 9 = .ok (.iload_n 1, 1) := by decide +kernel
theorem dX11_floats_10 : decode cX11_floats 10 = .ok (.ishr, 1) := by decide +kernel
theorem dX11_floats_11 : decode cX11_floats 11 = .ok (.iconst 1, 1) := by decide +kernel
theorem dX11_floats_12 : decode cX11_floats 12 = .ok (.if_icmp .le 9, 3) := by decide +kernel
theorem dX11_floats_15 : decode cX11_floats 15 = .ok (.iinc 1 1, 3) := by decide +kernel
theorem dX11_floats_18 : decode cX11_floats 18 = .ok (.goto (-10), 3) := by decide +kernel
theorem dX11_floats_21 : decode cX11_floats 21 = .ok (.bipush 127, 2) := by decide +kernel
theorem dX11_floats_23 : decode cX11_floats 23 = .ok (.iload_n 1, 1) := by decide +kernel
theorem dX11_floats_24 : decode cX11_floats 24 = .ok (.iadd, 1) := by decide +kernel
theorem dX11_floats_25 : decode cX11_floats 25 = .ok (.bipush 8, 2) := by decide +kernel
theorem dX11_floats_27 : decode cX11_floats 27 = .ok (.isub, 1) := by decide +kernel
theorem dX11_floats_28 : decode cX11_floats 28 = .ok (.bipush 23, 2) := by decide +kernel
theorem dX11_floats_30 : decode cX11_floats 30 = .ok (.ishl, 1) := by decide +kernel
theorem dX11_floats_31 : decode cX11_floats 31 = .ok (.iload_n 0, 1) := by decide +kernel
theorem dX11_floats_32 : decode cX11_floats 32 = .ok (.iconst 1, 1) := by decide +kernel
theorem dX11_floats_33 : decode cX11_floats 33 = .ok (.iload_n 1, 1) := by decide +kernel
theorem dX11_floats_34 : decode cX11_floats 34 = .ok (.ishl, 1) := by decide +kernel
theorem dX11_floats_35 : decode cX11_floats 35 = .ok (.ixor, 1) := by decide +kernel
theorem dX11_floats_36 : decode cX11_floats 36 = .ok (.bipush 23, 2) := by decide +kernel
theorem dX11_floats_38 : decode cX11_floats 38 = .ok (.iload_n 1, 1) := by decide +kernel
theorem dX11_floats_39 : decode cX11_floats 39 = .ok (.isub, 1) := by decide +kernel
theorem dX11_floats_40 : decode cX11_floats 40 = .ok (.ishl, 1) := by decide +kernel
theorem dX11_floats_41 : decode cX11_floats 41 = .ok (.ior, 1) := by decide +kernel
theorem dX11_floats_42 : decode cX11_floats 42 = .ok (.ireturn, 1) := by decide +kernel
theorem dX11_lookups_0 : decode cX11_lookups 0 = .ok (.aload_n 0, 1) := by decide +kernel
theorem dX11_lookups_1 : decode cX11_lookups 1 = .ok (.iload_n 1, 1) := by decide +kernel
theorem dX11_lookups_2 : decode cX11_lookups 2 = .ok (.invokevirtual 280, 3) := by decide +kernel
theorem dX11_lookups_5 : decode cX11_lookups 5 = .ok (.ifCond .eq 32, 3) := by decide +kernel
theorem dX11_lookups_8 : decode cX11_lookups 8 = .ok (.iload_n 2, 1) := by decide +kernel
theorem dX11_lookups_9 : decode cX11_lookups 9 = .ok (.iconst 0, 1) := by decide +kernel
theorem dX11_lookups_10 : decode cX11_lookups 10 = .ok (.bipush 15, 2) := by decide +kernel
theorem dX11_lookups_12 : decode cX11_lookups 12 = .ok (.invokestatic 135, 3) := by decide +kernel
theorem dX11_lookups_15 : decode cX11_lookups 15 = .ok (.ifCond .eq 22, 3) := by decide +kernel
theorem dX11_lookups_18 : decode cX11_lookups 18 = .ok (.iload 4, 2) := by decide +kernel
theorem dX11_lookups_20 : decode cX11_lookups 20 = .ok (.iconst 0, 1) := by decide +kernel
theorem dX11_lookups_21 : decode cX11_lookups 21 = .ok (.iconst 1, 1) := by decide +kernel
theorem dX11_lookups_22 : decode cX11_lookups 22 = .ok (.invokestatic 135, 3) := by decide +kernel
theorem dX11_lookups_25 : decode cX11_lookups 25 = .ok (.ifCond .eq 12, 3) := by decide +kernel
theorem dX11_lookups_28 : decode cX11_lookups 28 = .ok (.iload 4, 2) := by decide +kernel
theorem dX11_lookups_30 : decode cX11_lookups 30 = .ok (.ifCond .ne 9, 3) := by decide +kernel
theorem dX11_lookups_33 : decode cX11_lookups 33 = .ok (.iload_n 3, 1) := by decide +kernel
theorem dX11_lookups_34 : decode cX11_lookups 34 = .ok (.ifCond .ge 5, 3) := by decide +kernel
theorem dX11_lookups_37 : decode cX11_lookups 37 = .ok (.iconst (-1), 1) := by decide +kernel
theorem dX11_lookups_38 : decode cX11_lookups 38 = .ok (.ireturn, 1) := by decide +kernel
theorem dX11_lookups_39 : decode cX11_lookups 39 = .ok (.iconst 0, 1) := by decide +kernel
theorem dX11_lookups_40 : decode cX11_lookups 40 = .ok (.istore 5, 2) := by decide +kernel
theorem dX11_lookups_42 : decode cX11_lookups 42 = .ok (.iconst 0, 1) := by decide +kernel
theorem dX11_lookups_43 : decode cX11_lookups 43 = .ok (.istore 6, 2) := by decide +kernel
theorem dX11_lookups_45 : decode cX11_lookups 45 = .ok (.iload 6, 2) := by decide +kernel
theorem dX11_lookups_47 : decode cX11_lookups 47 = .ok (.sipush 256, 3) := by decide +kernel
theorem dX11_lookups_50 : decode cX11_lookups 50 = .ok (.if_icmp .ge 27, 3) := by decide +kernel
theorem dX11_lookups_53 : decode cX11_lookups 53 = .ok (.aload_n 0, 1) := by decide +kernel
theorem dX11_lookups_54 : decode cX11_lookups 54 = .ok (.iload_n 1, 1) := by decide +kernel
theorem dX11_lookups_55 : decode cX11_lookups 55 = .ok (.iload 6, 2) := by decide +kernel
theorem dX11_lookups_57 : decode cX11_lookups 57 = .ok (.iload_n 2, 1) := by decide +kernel
theorem dX11_lookups_58 : decode cX11_lookups 58 = .ok (.invokevirtual 283, 3) := by decide +kernel
theorem dX11_lookups_61 : decode cX11_lookups 61 = .ok (.pop, 1) := by decide +kernel
theorem dX11_lookups_62 : decode cX11_lookups 62 = .ok (.iload 5, 2) := by decide +kernel
theorem dX11_lookups_64 : decode cX11_lookups 64 = .ok (.aload_n 0, 1) := by decide +kernel
theorem dX11_lookups_65 : decode cX11_lookups 65 = .ok (.getfield 200, 3) := by decide +kernel
theorem dX11_lookups_68 : decode cX11_lookups 68 = .ok (.iadd, 1) := by decide +kernel
theorem dX11_lookups_69 : decode cX11_lookups 69 = .ok (.istore 5, 2) := by decide +kernel
theorem dX11_lookups_71 : decode cX11_lookups 71 = .ok (.iinc 6 1, 3) := by decide +kernel
theorem dX11_lookups_74 : decode cX11_lookups 74 = .ok (.goto (-29), 3) := by decide +kernel
theorem dX11_lookups_77 : decode cX11_lookups 77 = .ok (.iload 4, 2) := by decide +kernel
theorem dX11_lookups_79 : decode cX11_lookups 79 = .ok (.iconst 1, 1) := by decide +kernel
theorem dX11_lookups_80 : decode cX11_lookups 80 = .ok (.if_icmp .ne 9, 3) := by decide +kernel
theorem dX11_lookups_83 : decode cX11_lookups 83 = .ok (.iload 5, 2) := by decide +kernel
theorem dX11_lookups_85 : decode cX11_lookups 85 = .ok (.invokestatic 293, 3) := by decide +kernel
theorem dX11_lookups_88 : decode cX11_lookups 88 = .ok (.ireturn, 1) := by decide +kernel
theorem dX11_lookups_89 : decode cX11_lookups 89 = .ok (.iload 5, 2) := by decide +kernel
theorem dX11_lookups_91 : decode cX11_lookups 91 = .ok (.i2l, 1) := by decide +kernel
theorem dX11_lookups_92 : decode cX11_lookups 92 = .ok (.iload_n 3, 1) := by decide +kernel
theorem dX11_lookups_93 : decode cX11_lookups 93 = .ok (.i2l, 1) := by decide +kernel
theorem dX11_lookups_94 : decode cX11_lookups 94 = .ok (.lmul, 1) := by decide +kernel
theorem dX11_lookups_95 : decode cX11_lookups 95 = .ok (.lstore 6, 2) := by decide +kernel
theorem dX11_lookups_97 : decode cX11_lookups 97 = .ok (.lload 6, 2) := by decide +kernel
theorem dX11_lookups_99 : decode cX11_lookups 99 = .ok (.ldc2_w 296, 3) := by decide +kernel
theorem dX11_lookups_102 : decode cX11_lookups 102 = .ok (.lcmp, 1) := by decide +kernel
theorem dX11_lookups_103 : decode cX11_lookups 103 = .ok (.ifCond .le 8, 3) := by decide +kernel
theorem dX11_lookups_106 : decode cX11_lookups 106 = .ok (.bipush (-3), 2) := by decide +kernel
theorem dX11_lookups_108 : decode cX11_lookups 108 = .ok (.goto 6, 3) := by decide +kernel
theorem dX11_lookups_111 : decode cX11_lookups 111 = .ok (.lload 6, 2) := by decide +kernel
theorem dX11_lookups_113 : decode cX11_lookups 113 = .ok (.l2i, 1) := by decide +kernel
theorem dX11_lookups_114 : decode cX11_lookups 114 = .ok (.ireturn, 1) := by decide +kernel
theorem dX11_leadsOf_0 : decode cX11_leadsOf 0 = .ok (.iconst 0, 1) := by decide +kernel
theorem dX11_leadsOf_1 : decode cX11_leadsOf 1 = .ok (.istore_n 2, 1) := by decide +kernel
theorem dX11_leadsOf_2 : decode cX11_leadsOf 2 = .ok (.aload_n 0, 1) := by decide +kernel
theorem dX11_leadsOf_3 : decode cX11_leadsOf 3 = .ok (.getfield 19, 3) := by decide +kernel
theorem dX11_leadsOf_6 : decode cX11_leadsOf 6 = .ok (.iload_n 1, 1) := by decide +kernel
theorem dX11_leadsOf_7 : decode cX11_leadsOf 7 = .ok (.iaload, 1) := by decide +kernel
theorem dX11_leadsOf_8 : decode cX11_leadsOf 8 = .ok (.ifCond .ne 8, 3) := by decide +kernel
theorem dX11_leadsOf_11 : decode cX11_leadsOf 11 = .ok (.bipush (-4), 2) := by decide +kernel
theorem dX11_leadsOf_13 : decode cX11_leadsOf 13 = .ok (.goto 13, 3) := by decide +kernel
theorem dX11_leadsOf_16 : decode cX11_leadsOf 16 = .ok (.aload_n 0, 1) := by decide +kernel
theorem dX11_leadsOf_17 : decode cX11_leadsOf 17 = .ok (.aload_n 0, 1) := by decide +kernel
theorem dX11_leadsOf_18 : decode cX11_leadsOf 18 = .ok (.getfield 19, 3) := by decide +kernel
theorem dX11_leadsOf_21 : decode cX11_leadsOf 21 = .ok (.iload_n 1, 1) := by decide +kernel
theorem dX11_leadsOf_22 : decode cX11_leadsOf 22 = .ok (.iaload, 1) := by decide +kernel
theorem dX11_leadsOf_23 : decode cX11_leadsOf 23 = .ok (.invokevirtual 240, 3) := by decide +kernel
theorem dX11_leadsOf_26 : decode cX11_leadsOf 26 = .ok (.istore_n 3, 1) := by decide +kernel
theorem dX11_leadsOf_27 : decode cX11_leadsOf 27 = .ok (.iload_n 2, 1) := by decide +kernel
theorem dX11_leadsOf_28 : decode cX11_leadsOf 28 = .ok (.iload_n 3, 1) := by decide +kernel
theorem dX11_leadsOf_29 : decode cX11_leadsOf 29 = .ok (.bipush (-4), 2) := by decide +kernel
theorem dX11_leadsOf_31 : decode cX11_leadsOf 31 = .ok (.if_icmp .eq 12, 3) := by decide +kernel
theorem dX11_leadsOf_34 : decode cX11_leadsOf 34 = .ok (.aload_n 0, 1) := by decide +kernel
theorem dX11_leadsOf_35 : decode cX11_leadsOf 35 = .ok (.getfield 16, 3) := by decide +kernel
theorem dX11_leadsOf_38 : decode cX11_leadsOf 38 = .ok (.iload_n 3, 1) := by decide +kernel
theorem dX11_leadsOf_39 : decode cX11_leadsOf 39 = .ok (.iaload, 1) := by decide +kernel
theorem dX11_leadsOf_40 : decode cX11_leadsOf 40 = .ok (.ifCond .ne 7, 3) := by decide +kernel
theorem dX11_leadsOf_43 : decode cX11_leadsOf 43 = .ok (.iconst 0, 1) := by decide +kernel
theorem dX11_leadsOf_44 : decode cX11_leadsOf 44 = .ok (.goto 6, 3) := by decide +kernel
theorem dX11_leadsOf_47 : decode cX11_leadsOf 47 = .ok (.iconst 1, 1) := by decide +kernel
theorem dX11_leadsOf_48 : decode cX11_leadsOf 48 = .ok (.iload_n 3, 1) := by decide +kernel
theorem dX11_leadsOf_49 : decode cX11_leadsOf 49 = .ok (.ishl, 1) := by decide +kernel
theorem dX11_leadsOf_50 : decode cX11_leadsOf 50 = .ok (.ior, 1) := by decide +kernel
theorem dX11_leadsOf_51 : decode cX11_leadsOf 51 = .ok (.istore_n 2, 1) := by decide +kernel
theorem dX11_leadsOf_52 : decode cX11_leadsOf 52 = .ok (.iconst 0, 1) := by decide +kernel
theorem dX11_leadsOf_53 : decode cX11_leadsOf 53 = .ok (.istore 4, 2) := by decide +kernel
theorem dX11_leadsOf_55 : decode cX11_leadsOf 55 = .ok (.iload 4, 2) := by decide +kernel
theorem dX11_leadsOf_57 : decode cX11_leadsOf 57 = .ok (.aload_n 0, 1) := by decide +kernel
theorem dX11_leadsOf_58 : decode cX11_leadsOf 58 = .ok (.getfield 16, 3) := by decide +kernel
theorem dX11_leadsOf_61 : decode cX11_leadsOf 61 = .ok (.iload_n 1, 1) := by decide +kernel
theorem dX11_leadsOf_62 : decode cX11_leadsOf 62 = .ok (.iaload, 1) := by decide +kernel
theorem dX11_leadsOf_63 : decode cX11_leadsOf 63 = .ok (.if_icmp .ge 71, 3) := by decide +kernel
theorem dX11_leadsOf_66 : decode cX11_leadsOf 66 = .ok (.bipush 8, 2) := by decide +kernel
theorem dX11_leadsOf_68 : decode cX11_leadsOf 68 = .ok (.iload_n 1, 1) := by decide +kernel
theorem dX11_leadsOf_69 : decode cX11_leadsOf 69 = .ok (.imul, 1) := by decide +kernel
theorem dX11_leadsOf_70 : decode cX11_leadsOf 70 = .ok (.iload 4, 2) := by decide +kernel
theorem dX11_leadsOf_72 : decode cX11_leadsOf 72 = .ok (.iadd, 1) := by decide +kernel
theorem dX11_leadsOf_73 : decode cX11_leadsOf 73 = .ok (.istore 5, 2) := by decide +kernel
theorem dX11_leadsOf_75 : decode cX11_leadsOf 75 = .ok (.aload_n 0, 1) := by decide +kernel
theorem dX11_leadsOf_76 : decode cX11_leadsOf 76 = .ok (.getfield 28, 3) := by decide +kernel
theorem dX11_leadsOf_79 : decode cX11_leadsOf 79 = .ok (.iload 5, 2) := by decide +kernel
theorem dX11_leadsOf_81 : decode cX11_leadsOf 81 = .ok (.iaload, 1) := by decide +kernel
theorem dX11_leadsOf_82 : decode cX11_leadsOf 82 = .ok (.iconst 2, 1) := by decide +kernel
theorem dX11_leadsOf_83 : decode cX11_leadsOf 83 = .ok (.if_icmp .ne 17, 3) := by decide +kernel
theorem dX11_leadsOf_86 : decode cX11_leadsOf 86 = .ok (.aload_n 0, 1) := by decide +kernel
theorem dX11_leadsOf_87 : decode cX11_leadsOf 87 = .ok (.aload_n 0, 1) := by decide +kernel
theorem dX11_leadsOf_88 : decode cX11_leadsOf 88 = .ok (.getfield 37, 3) := by decide +kernel
theorem dX11_leadsOf_91 : decode cX11_leadsOf 91 = .ok (.iload 5, 2) := by decide +kernel
theorem dX11_leadsOf_93 : decode cX11_leadsOf 93 = .ok (.iaload, 1) := by decide +kernel
theorem dX11_leadsOf_94 : decode cX11_leadsOf 94 = .ok (.invokevirtual 240, 3) := by decide +kernel
theorem dX11_leadsOf_97 : decode cX11_leadsOf 97 = .ok (.goto 5, 3) := by decide +kernel
theorem dX11_leadsOf_100 : decode cX11_leadsOf 100 = .ok (.bipush (-4), 2) := by decide +kernel
theorem dX11_leadsOf_102 : decode cX11_leadsOf 102 = .ok (.istore_n 3, 1) := by decide +kernel
theorem dX11_leadsOf_103 : decode cX11_leadsOf 103 = .ok (.iload_n 2, 1) := by decide +kernel
theorem dX11_leadsOf_104 : decode cX11_leadsOf 104 = .ok (.iload_n 3, 1) := by decide +kernel
theorem dX11_leadsOf_105 : decode cX11_leadsOf 105 = .ok (.bipush (-4), 2) := by decide +kernel
theorem dX11_leadsOf_107 : decode cX11_leadsOf 107 = .ok (.if_icmp .eq 12, 3) := by decide +kernel
theorem dX11_leadsOf_110 : decode cX11_leadsOf 110 = .ok (.aload_n 0, 1) := by decide +kernel
theorem dX11_leadsOf_111 : decode cX11_leadsOf 111 = .ok (.getfield 16, 3) := by decide +kernel
theorem dX11_leadsOf_114 : decode cX11_leadsOf 114 = .ok (.iload_n 3, 1) := by decide +kernel
theorem dX11_leadsOf_115 : decode cX11_leadsOf 115 = .ok (.iaload, 1) := by decide +kernel
theorem dX11_leadsOf_116 : decode cX11_leadsOf 116 = .ok (.ifCond .ne 7, 3) := by decide +kernel
theorem dX11_leadsOf_119 : decode cX11_leadsOf 119 = .ok (.iconst 0, 1) := by decide +kernel
theorem dX11_leadsOf_120 : decode cX11_leadsOf 120 = .ok (.goto 6, 3) := by decide +kernel
theorem dX11_leadsOf_123 : decode cX11_leadsOf 123 = .ok (.iconst 1, 1) := by decide +kernel
theorem dX11_leadsOf_124 : decode cX11_leadsOf 124 = .ok (.iload_n 3, 1) := by decide +kernel
theorem dX11_leadsOf_125 : decode cX11_leadsOf 125 = .ok (.ishl, 1) := by decide +kernel
theorem dX11_leadsOf_126 : decode cX11_leadsOf 126 = .ok (.ior, 1) := by decide +kernel
theorem dX11_leadsOf_127 : decode cX11_leadsOf 127 = .ok (.istore_n 2, 1) := by decide +kernel
theorem dX11_leadsOf_128 : decode cX11_leadsOf 128 = .ok (.iinc 4 1, 3) := by decide +kernel
theorem dX11_leadsOf_131 : decode cX11_leadsOf 131 = .ok (.goto (-76), 3) := by decide +kernel
theorem dX11_leadsOf_134 : decode cX11_leadsOf 134 = .ok (.iload_n 2, 1) := by decide +kernel
theorem dX11_leadsOf_135 : decode cX11_leadsOf 135 = .ok (.ireturn, 1) := by decide +kernel
theorem dX11_leads_0 : decode cX11_leads 0 = .ok (.aload_n 0, 1) := by decide +kernel
theorem dX11_leads_1 : decode cX11_leads 1 = .ok (.iload_n 1, 1) := by decide +kernel
theorem dX11_leads_2 : decode cX11_leads 2 = .ok (.invokevirtual 280, 3) := by decide +kernel
theorem dX11_leads_5 : decode cX11_leads 5 = .ok (.ifCond .ne 5, 3) := by decide +kernel
theorem dX11_leads_8 : decode cX11_leads 8 = .ok (.iconst (-1), 1) := by decide +kernel
theorem dX11_leads_9 : decode cX11_leads 9 = .ok (.ireturn, 1) := by decide +kernel
theorem dX11_leads_10 : decode cX11_leads 10 = .ok (.aload_n 0, 1) := by decide +kernel
theorem dX11_leads_11 : decode cX11_leads 11 = .ok (.iload_n 1, 1) := by decide +kernel
theorem dX11_leads_12 : decode cX11_leads 12 = .ok (.invokevirtual 298, 3) := by decide +kernel
theorem dX11_leads_15 : decode cX11_leads 15 = .ok (.istore_n 2, 1) := by decide +kernel
theorem dX11_leads_16 : decode cX11_leads 16 = .ok (.iconst 0, 1) := by decide +kernel
theorem dX11_leads_17 : decode cX11_leads 17 = .ok (.istore_n 3, 1) := by decide +kernel
theorem dX11_leads_18 : decode cX11_leads 18 = .ok (.iload_n 3, 1) := by decide +kernel
theorem dX11_leads_19 : decode cX11_leads 19 = .ok (.iload_n 2, 1) := by decide +kernel
theorem dX11_leads_20 : decode cX11_leads 20 = .ok (.if_icmp .eq 49, 3) := by decide +kernel
theorem dX11_leads_23 : decode cX11_leads 23 = .ok (.iload_n 2, 1) := by decide +kernel
theorem dX11_leads_24 : decode cX11_leads 24 = .ok (.istore_n 3, 1) := by decide +kernel
theorem dX11_leads_25 : decode cX11_leads 25 = .ok (.iconst 0, 1) := by decide +kernel
theorem dX11_leads_26 : decode cX11_leads 26 = .ok (.istore 4, 2) := by decide +kernel
theorem dX11_leads_28 : decode cX11_leads 28 = .ok (.iload 4, 2) := by decide +kernel
theorem dX11_leads_30 : decode cX11_leads 30 = .ok (.aload_n 0, 1) := by decide +kernel
theorem dX11_leads_31 : decode cX11_leads 31 = .ok (.getfield 123, 3) := by decide +kernel
theorem dX11_leads_34 : decode cX11_leads 34 = .ok (.if_icmp .ge 32, 3) := by decide +kernel
theorem dX11_leads_37 : decode cX11_leads 37 = .ok (.iload_n 2, 1) := by decide +kernel
theorem dX11_leads_38 : decode cX11_leads 38 = .ok (.iload_n 3, 1) := by decide +kernel
theorem dX11_leads_39 : decode cX11_leads 39 = .ok (.iload 4, 2) := by decide +kernel
theorem dX11_leads_41 : decode cX11_leads 41 = .ok (.ishr, 1) := by decide +kernel
theorem dX11_leads_42 : decode cX11_leads 42 = .ok (.iconst 1, 1) := by decide +kernel
theorem dX11_leads_43 : decode cX11_leads 43 = .ok (.iand, 1) := by decide +kernel
theorem dX11_leads_44 : decode cX11_leads 44 = .ok (.iconst 1, 1) := by decide +kernel
theorem dX11_leads_45 : decode cX11_leads 45 = .ok (.if_icmp .ne 12, 3) := by decide +kernel
theorem dX11_leads_48 : decode cX11_leads 48 = .ok (.aload_n 0, 1) := by decide +kernel
theorem dX11_leads_49 : decode cX11_leads 49 = .ok (.iload 4, 2) := by decide +kernel
theorem dX11_leads_51 : decode cX11_leads 51 = .ok (.invokevirtual 298, 3) := by decide +kernel
theorem dX11_leads_54 : decode cX11_leads 54 = .ok (.goto 4, 3) := by decide +kernel
theorem dX11_leads_57 : decode cX11_leads 57 = .ok (.iconst 0, 1) := by decide +kernel
theorem dX11_leads_58 : decode cX11_leads 58 = .ok (.ior, 1) := by decide +kernel
theorem dX11_leads_59 : decode cX11_leads 59 = .ok (.istore_n 2, 1) := by decide +kernel
theorem dX11_leads_60 : decode cX11_leads 60 = .ok (.iinc 4 1, 3) := by decide +kernel
theorem dX11_leads_63 : decode cX11_leads 63 = .ok (.goto (-35), 3) := by decide +kernel
theorem dX11_leads_66 : decode cX11_leads 66 = .ok (.goto (-48), 3) := by decide +kernel
theorem dX11_leads_69 : decode cX11_leads 69 = .ok (.iload_n 2, 1) := by decide +kernel
theorem dX11_leads_70 : decode cX11_leads 70 = .ok (.ireturn, 1) := by decide +kernel
theorem dX11_count_0 : decode cX11_count 0 = .ok (.iconst 0, 1) := by decide +kernel
theorem dX11_count_1 : decode cX11_count 1 = .ok (.istore_n 2, 1) := by decide +kernel
theorem dX11_count_2 : decode cX11_count 2 = .ok (.iconst 0, 1) := by decide +kernel
theorem dX11_count_3 : decode cX11_count 3 = .ok (.istore_n 3, 1) := by decide +kernel
theorem dX11_count_4 : decode cX11_count 4 = .ok (.iconst 0, 1) := by decide +kernel
theorem dX11_count_5 : decode cX11_count 5 = .ok (.istore 4, 2) := by decide +kernel
theorem dX11_count_7 : decode cX11_count 7 = .ok (.iconst 0, 1) := by decide +kernel
theorem dX11_count_8 : decode cX11_count 8 = .ok (.istore 5, 2) := by decide +kernel
theorem dX11_count_10 : decode cX11_count 10 = .ok (.iload 5, 2) := by decide +kernel
theorem dX11_count_12 : decode cX11_count 12 = .ok (.aload_n 0, 1) := by decide +kernel
theorem dX11_count_13 : decode cX11_count 13 = .ok (.getfield 123, 3) := by decide +kernel
theorem dX11_count_16 : decode cX11_count 16 = .ok (.if_icmp .ge 55, 3) := by decide +kernel
theorem dX11_count_19 : decode cX11_count 19 = .ok (.iload_n 2, 1) := by decide +kernel
theorem dX11_count_20 : decode cX11_count 20 = .ok (.aload_n 0, 1) := by decide +kernel
theorem dX11_count_21 : decode cX11_count 21 = .ok (.getfield 16, 3) := by decide +kernel
theorem dX11_count_24 : decode cX11_count 24 = .ok (.iload 5, 2) := by decide +kernel
theorem dX11_count_26 : decode cX11_count 26 = .ok (.iaload, 1) := by decide +kernel
theorem dX11_count_27 : decode cX11_count 27 = .ok (.ifCond .le 7, 3) := by decide +kernel
theorem dX11_count_30 : decode cX11_count 30 = .ok (.iconst 1, 1) := by decide +kernel
theorem dX11_count_31 : decode cX11_count 31 = .ok (.goto 4, 3) := by decide +kernel
theorem dX11_count_34 : decode cX11_count 34 = .ok (.iconst 0, 1) := by decide +kernel
theorem dX11_count_35 : decode cX11_count 35 = .ok (.iadd, 1) := by decide +kernel
theorem dX11_count_36 : decode cX11_count 36 = .ok (.istore_n 2, 1) := by decide +kernel
theorem dX11_count_37 : decode cX11_count 37 = .ok (.iload_n 3, 1) := by decide +kernel
theorem dX11_count_38 : decode cX11_count 38 = .ok (.aload_n 0, 1) := by decide +kernel
theorem dX11_count_39 : decode cX11_count 39 = .ok (.getfield 16, 3) := by decide +kernel
theorem dX11_count_42 : decode cX11_count 42 = .ok (.iload 5, 2) := by decide +kernel
theorem dX11_count_44 : decode cX11_count 44 = .ok (.iaload, 1) := by decide +kernel
theorem dX11_count_45 : decode cX11_count 45 = .ok (.iadd, 1) := by decide +kernel
theorem dX11_count_46 : decode cX11_count 46 = .ok (.istore_n 3, 1) := by decide +kernel
theorem dX11_count_47 : decode cX11_count 47 = .ok (.iload 4, 2) := by decide +kernel
theorem dX11_count_49 : decode cX11_count 49 = .ok (.aload_n 0, 1) := by decide +kernel
theorem dX11_count_50 : decode cX11_count 50 = .ok (.getfield 46, 3) := by decide +kernel
theorem dX11_count_53 : decode cX11_count 53 = .ok (.bipush 21, 2) := by decide +kernel
theorem dX11_count_55 : decode cX11_count 55 = .ok (.iload 5, 2) := by decide +kernel
theorem dX11_count_57 : decode cX11_count 57 = .ok (.imul, 1) := by decide +kernel
theorem dX11_count_58 : decode cX11_count 58 = .ok (.bipush 16, 2) := by decide +kernel
theorem dX11_count_60 : decode cX11_count 60 = .ok (.iadd, 1) := by decide +kernel
theorem dX11_count_61 : decode cX11_count 61 = .ok (.iaload, 1) := by decide +kernel
theorem dX11_count_62 : decode cX11_count 62 = .ok (.iadd, 1) := by decide +kernel
theorem dX11_count_63 : decode cX11_count 63 = .ok (.istore 4, 2) := by decide +kernel
theorem dX11_count_65 : decode cX11_count 65 = .ok (.iinc 5 1, 3) := by decide +kernel
theorem dX11_count_68 : decode cX11_count 68 = .ok (.goto (-58), 3) := by decide +kernel
theorem dX11_count_71 : decode cX11_count 71 = .ok (.iload_n 1, 1) := by decide +kernel
theorem dX11_count_72 : decode cX11_count 72 = .ok (.tableswitch 71 0 6 #[44, 49, 51, 53, 56, 61, 66], 44) := by decide +kernel
theorem dX11_count_116 : decode cX11_count 116 = .ok (.aload_n 0, 1) := by decide +kernel
theorem dX11_count_117 : decode cX11_count 117 = .ok (.getfield 123, 3) := by decide +kernel
theorem dX11_count_120 : decode cX11_count 120 = .ok (.ireturn, 1) := by decide +kernel
theorem dX11_count_121 : decode cX11_count 121 = .ok (.iload_n 2, 1) := by decide +kernel
theorem dX11_count_122 : decode cX11_count 122 = .ok (.ireturn, 1) := by decide +kernel
theorem dX11_count_123 : decode cX11_count 123 = .ok (.iload_n 3, 1) := by decide +kernel
theorem dX11_count_124 : decode cX11_count 124 = .ok (.ireturn, 1) := by decide +kernel
theorem dX11_count_125 : decode cX11_count 125 = .ok (.iload 4, 2) := by decide +kernel
theorem dX11_count_127 : decode cX11_count 127 = .ok (.ireturn, 1) := by decide +kernel
theorem dX11_count_128 : decode cX11_count 128 = .ok (.aload_n 0, 1) := by decide +kernel
theorem dX11_count_129 : decode cX11_count 129 = .ok (.getfield 197, 3) := by decide +kernel
theorem dX11_count_132 : decode cX11_count 132 = .ok (.ireturn, 1) := by decide +kernel
theorem dX11_count_133 : decode cX11_count 133 = .ok (.aload_n 0, 1) := by decide +kernel
theorem dX11_count_134 : decode cX11_count 134 = .ok (.getfield 194, 3) := by decide +kernel
theorem dX11_count_137 : decode cX11_count 137 = .ok (.ireturn, 1) := by decide +kernel
theorem dX11_count_138 : decode cX11_count 138 = .ok (.aload_n 0, 1) := by decide +kernel
theorem dX11_count_139 : decode cX11_count 139 = .ok (.getfield 114, 3) := by decide +kernel
theorem dX11_count_142 : decode cX11_count 142 = .ok (.ireturn, 1) := by decide +kernel
theorem dX11_count_143 : decode cX11_count 143 = .ok (.iconst (-1), 1) := by decide +kernel
theorem dX11_count_144 : decode cX11_count 144 = .ok (.ireturn, 1) := by decide +kernel
end
section
theorem dJ11_isValidCodePoint_9a6ad_0 : decode cJ11_isValidCodePoint_9a6ad 0 = .ok (.iload_n 0, 1) := by decide +kernel
theorem dJ11_isValidCodePoint_9a6ad_1 : decode cJ11_isValidCodePoint_9a6ad 1 = .ok (.bipush 16, 2) := by decide +kernel
theorem dJ11_isValidCodePoint_9a6ad_3 : decode cJ11_isValidCodePoint_9a6ad 3 = .ok (.iushr, 1) := by decide +kernel
theorem dJ11_isValidCodePoint_9a6ad_4 : decode cJ11_isValidCodePoint_9a6ad 4 = .ok (.istore_n 1, 1) := by decide +kernel
theorem dJ11_isValidCodePoint_9a6ad_5 : decode cJ11_isValidCodePoint_9a6ad 5 = .ok (.iload_n 1, 1) := by decide +kernel
theorem dJ11_isValidCodePoint_9a6ad_6 : decode cJ11_isValidCodePoint_9a6ad 6 = .ok (.bipush 17, 2) := by decide +kernel
theorem dJ11_isValidCodePoint_9a6ad_8 : decode cJ11_isValidCodePoint_9a6ad 8 = .ok (.if_icmp .ge 7, 3) := by decide +kernel
theorem dJ11_isValidCodePoint_9a6ad_11 : decode cJ11_isValidCodePoint_9a6ad 11 = .ok (.iconst 1, 1) := by decide +kernel
theorem dJ11_isValidCodePoint_9a6ad_12 : decode cJ11_isValidCodePoint_9a6ad 12 = .ok (.goto 4, 3) := by decide +kernel
theorem dJ11_isValidCodePoint_9a6ad_15 : decode cJ11_isValidCodePoint_9a6ad 15 = .ok (.iconst 0, 1) := by decide +kernel
theorem dJ11_isValidCodePoint_9a6ad_16 : decode cJ11_isValidCodePoint_9a6ad 16 = .ok (.ireturn, 1) := by decide +kernel
theorem dJ11_highSurrogate_5068e_0 : decode cJ11_highSurrogate_5068e 0 = .ok (.iload_n 0, 1) := by decide +kernel
theorem dJ11_highSurrogate_5068e_1 : decode cJ11_highSurrogate_5068e 1 = .ok (.bipush 10, 2) := by decide +kernel
theorem dJ11_highSurrogate_5068e_3 : decode cJ11_highSurrogate_5068e 3 = .ok (.iushr, 1) := by decide +kernel
theorem dJ11_highSurrogate_5068e_4 : decode cJ11_highSurrogate_5068e 4 = .ok (.ldc 110, 2) := by decide +kernel
theorem dJ11_highSurrogate_5068e_6 : decode cJ11_highSurrogate_5068e 6 = .ok (.iadd, 1) := by decide +kernel
theorem dJ11_highSurrogate_5068e_7 : decode cJ11_highSurrogate_5068e 7 = .ok (.i2c, 1) := by decide +kernel
theorem dJ11_highSurrogate_5068e_8 : decode cJ11_highSurrogate_5068e 8 = .ok (.ireturn, 1) := by decide +kernel
theorem dJ11_lowSurrogate_5068e_0 : decode cJ11_lowSurrogate_5068e 0 = .ok (.iload_n 0, 1) := by decide +kernel
theorem dJ11_lowSurrogate_5068e_1 : decode cJ11_lowSurrogate_5068e 1 = .ok (.sipush 1023, 3) := by decide +kernel
theorem dJ11_lowSurrogate_5068e_4 : decode cJ11_lowSurrogate_5068e 4 = .ok (.iand, 1) := by decide +kernel
theorem dJ11_lowSurrogate_5068e_5 : decode cJ11_lowSurrogate_5068e 5 = .ok (.ldc 76, 2) := by decide +kernel
theorem dJ11_lowSurrogate_5068e_7 : decode cJ11_lowSurrogate_5068e 7 = .ok (.iadd, 1) := by decide +kernel
theorem dJ11_lowSurrogate_5068e_8 : decode cJ11_lowSurrogate_5068e 8 = .ok (.i2c, 1) := by decide +kernel
theorem dJ11_lowSurrogate_5068e_9 : decode cJ11_lowSurrogate_5068e 9 = .ok (.ireturn, 1) := by decide +kernel
theorem dJ6_numberOfLeadingZeros_0f7a4_0 : decode cJ6_numberOfLeadingZeros_0f7a4 0 = .ok (.iload_n 0, 1) := by decide +kernel
theorem dJ6_numberOfLeadingZeros_0f7a4_1 : decode cJ6_numberOfLeadingZeros_0f7a4 1 = .ok (.ifCond .gt 14, 3) := by decide +kernel
theorem dJ6_numberOfLeadingZeros_0f7a4_4 : decode cJ6_numberOfLeadingZeros_0f7a4 4 = .ok (.iload_n 0, 1) := by decide +kernel
theorem dJ6_numberOfLeadingZeros_0f7a4_5 : decode cJ6_numberOfLeadingZeros_0f7a4 5 = .ok (.ifCond .ne 8, 3) := by decide +kernel
theorem dJ6_numberOfLeadingZeros_0f7a4_8 : decode cJ6_numberOfLeadingZeros_0f7a4 8 = .ok (.bipush 32, 2) := by decide +kernel
theorem dJ6_numberOfLeadingZeros_0f7a4_10 : decode cJ6_numberOfLeadingZeros_0f7a4 10 = .ok (.goto 4, 3) := by decide +kernel
theorem dJ6_numberOfLeadingZeros_0f7a4_13 : decode cJ6_numberOfLeadingZeros_0f7a4 13 = .ok (.iconst 0, 1) := by decide +kernel
theorem dJ6_numberOfLeadingZeros_0f7a4_14 : decode cJ6_numberOfLeadingZeros_0f7a4 14 = .ok (.ireturn, 1) := by decide +kernel
theorem dJ6_numberOfLeadingZeros_0f7a4_15 : decode cJ6_numberOfLeadingZeros_0f7a4 15 = .ok (.bipush 31, 2) := by decide +kernel
theorem dJ6_numberOfLeadingZeros_0f7a4_17 : decode cJ6_numberOfLeadingZeros_0f7a4 17 = .ok (.istore_n 1, 1) := by decide +kernel
theorem dJ6_numberOfLeadingZeros_0f7a4_18 : decode cJ6_numberOfLeadingZeros_0f7a4 18 = .ok (.iload_n 0, 1) := by decide +kernel
theorem dJ6_numberOfLeadingZeros_0f7a4_19 : decode cJ6_numberOfLeadingZeros_0f7a4 19 = .ok (.ldc_w 264, 3) := by decide +kernel
theorem dJ6_numberOfLeadingZeros_0f7a4_22 : decode cJ6_numberOfLeadingZeros_0f7a4 22 = .ok (.if_icmp .lt 11, 3) := by decide +kernel
theorem dJ6_numberOfLeadingZeros_0f7a4_25 : decode cJ6_numberOfLeadingZeros_0f7a4 25 = .ok (.iinc 1 (-16), 3) := by decide +kernel
theorem dJ6_numberOfLeadingZeros_0f7a4_28 : decode cJ6_numberOfLeadingZeros_0f7a4 28 = .ok (.iload_n 0, 1) := by decide +kernel
theorem dJ6_numberOfLeadingZeros_0f7a4_29 : decode cJ6_numberOfLeadingZeros_0f7a4 29 = .ok (.bipush 16, 2) := by decide +kernel
theorem dJ6_numberOfLeadingZeros_0f7a4_31 : decode cJ6_numberOfLeadingZeros_0f7a4 31 = .ok (.iushr, 1) := by decide +kernel
theorem dJ6_numberOfLeadingZeros_0f7a4_32 : decode cJ6_numberOfLeadingZeros_0f7a4 32 = .ok (.istore_n 0, 1) := by decide +kernel
theorem dJ6_numberOfLeadingZeros_0f7a4_33 : decode cJ6_numberOfLeadingZeros_0f7a4 33 = .ok (.iload_n 0, 1) := by decide +kernel
theorem dJ6_numberOfLeadingZeros_0f7a4_34 : decode cJ6_numberOfLeadingZeros_0f7a4 34 = .ok (.sipush 256, 3) := by decide +kernel
theorem dJ6_numberOfLeadingZeros_0f7a4_37 : decode cJ6_numberOfLeadingZeros_0f7a4 37 = .ok (.if_icmp .lt 11, 3) := by decide +kernel
theorem dJ6_numberOfLeadingZeros_0f7a4_40 : decode cJ6_numberOfLeadingZeros_0f7a4 40 = .ok (.iinc 1 (-8), 3) := by decide +kernel
theorem dJ6_numberOfLeadingZeros_0f7a4_43 : decode cJ6_numberOfLeadingZeros_0f7a4 43 = .ok (.iload_n 0, 1) := by decide +kernel
theorem dJ6_numberOfLeadingZeros_0f7a4_44 : decode cJ6_numberOfLeadingZeros_0f7a4 44 = .ok (.bipush 8, 2) := by decide +kernel
theorem dJ6_numberOfLeadingZeros_0f7a4_46 : decode cJ6_numberOfLeadingZeros_0f7a4 46 = .ok (.iushr, 1) := by decide +kernel
theorem dJ6_numberOfLeadingZeros_0f7a4_47 : decode cJ6_numberOfLeadingZeros_0f7a4 47 = .ok (.istore_n 0, 1) := by decide +kernel
theorem dJ6_numberOfLeadingZeros_0f7a4_48 : decode cJ6_numberOfLeadingZeros_0f7a4 48 = .ok (.iload_n 0, 1) := by decide +kernel
theorem dJ6_numberOfLeadingZeros_0f7a4_49 : decode cJ6_numberOfLeadingZeros_0f7a4 49 = .ok (.bipush 16, 2) := by decide +kernel
theorem dJ6_numberOfLeadingZeros_0f7a4_51 : decode cJ6_numberOfLeadingZeros_0f7a4 51 = .ok (.if_icmp .lt 10, 3) := by decide +kernel
theorem dJ6_numberOfLeadingZeros_0f7a4_54 : decode cJ6_numberOfLeadingZeros_0f7a4 54 = .ok (.iinc 1 (-4), 3) := by decide +kernel
theorem dJ6_numberOfLeadingZeros_0f7a4_57 : decode cJ6_numberOfLeadingZeros_0f7a4 57 = .ok (.iload_n 0, 1) := by decide +kernel
theorem dJ6_numberOfLeadingZeros_0f7a4_58 : decode cJ6_numberOfLeadingZeros_0f7a4 58 = .ok (.iconst 4, 1) := by decide +kernel
theorem dJ6_numberOfLeadingZeros_0f7a4_59 : decode cJ6_numberOfLeadingZeros_0f7a4 59 = .ok (.iushr, 1) := by decide +kernel
theorem dJ6_numberOfLeadingZeros_0f7a4_60 : decode cJ6_numberOfLeadingZeros_0f7a4 60 = .ok (.istore_n 0, 1) := by decide +kernel
theorem dJ6_numberOfLeadingZeros_0f7a4_61 : decode cJ6_numberOfLeadingZeros_0f7a4 61 = .ok (.iload_n 0, 1) := by decide +kernel
theorem dJ6_numberOfLeadingZeros_0f7a4_62 : decode cJ6_numberOfLeadingZeros_0f7a4 62 = .ok (.iconst 4, 1) := by decide +kernel
theorem dJ6_numberOfLeadingZeros_0f7a4_63 : decode cJ6_numberOfLeadingZeros_0f7a4 63 = .ok (.if_icmp .lt 10, 3) := by decide +kernel
theorem dJ6_numberOfLeadingZeros_0f7a4_66 : decode cJ6_numberOfLeadingZeros_0f7a4 66 = .ok (.iinc 1 (-2), 3) := by decide +kernel
theorem dJ6_numberOfLeadingZeros_0f7a4_69 : decode cJ6_numberOfLeadingZeros_0f7a4 69 = .ok (.iload_n 0, 1) := by decide +kernel
theorem dJ6_numberOfLeadingZeros_0f7a4_70 : decode cJ6_numberOfLeadingZeros_0f7a4 70 = .ok (.iconst 2, 1) := by decide +kernel
theorem dJ6_numberOfLeadingZeros_0f7a4_71 : decode cJ6_numberOfLeadingZeros_0f7a4 71 = .ok (.iushr, 1) := by decide +kernel
theorem dJ6_numberOfLeadingZeros_0f7a4_72 : decode cJ6_numberOfLeadingZeros_0f7a4 72 = .ok (.istore_n 0, 1) := by decide +kernel
theorem dJ6_numberOfLeadingZeros_0f7a4_73 : decode cJ6_numberOfLeadingZeros_0f7a4 73 = .ok (.iload_n 1, 1) := by decide +kernel
theorem dJ6_numberOfLeadingZeros_0f7a4_74 : decode cJ6_numberOfLeadingZeros_0f7a4 74 = .ok (.iload_n 0, 1) := by decide +kernel
theorem dJ6_numberOfLeadingZeros_0f7a4_75 : decode cJ6_numberOfLeadingZeros_0f7a4 75 = .ok (.iconst 1, 1) := by decide +kernel
theorem dJ6_numberOfLeadingZeros_0f7a4_76 : decode cJ6_numberOfLeadingZeros_0f7a4 76 = .ok (.iushr, 1) := by decide +kernel
theorem dJ6_numberOfLeadingZeros_0f7a4_77 : decode cJ6_numberOfLeadingZeros_0f7a4 77 = .ok (.isub, 1) := by decide +kernel
theorem dJ6_numberOfLeadingZeros_0f7a4_78 : decode cJ6_numberOfLeadingZeros_0f7a4 78 = .ok (.ireturn, 1) := by decide +kernel
theorem dJ9_max_7cf53_0 : decode cJ9_max_7cf53 0 = .ok (.iload_n 0, 1) := by decide +kernel
theorem dJ9_max_7cf53_1 : decode cJ9_max_7cf53 1 = .ok (.iload_n 1, 1) := by decide +kernel
theorem dJ9_max_7cf53_2 : decode cJ9_max_7cf53 2 = .ok (.if_icmp .lt 7, 3) := by decide +kernel
theorem dJ9_max_7cf53_5 : decode cJ9_max_7cf53 5 = .ok (.iload_n 0, 1) := by decide +kernel
theorem dJ9_max_7cf53_6 : decode cJ9_max_7cf53 6 = .ok (.goto 4, 3) := by decide +kernel
theorem dJ9_max_7cf53_9 : decode cJ9_max_7cf53 9 = .ok (.iload_n 1, 1) := by decide +kernel
theorem dJ9_max_7cf53_10 : decode cJ9_max_7cf53 10 = .ok (.ireturn, 1) := by decide +kernel
theorem dJ9_min_7cf53_0 : decode cJ9_min_7cf53 0 = .ok (.iload_n 0, 1) := by decide +kernel
theorem dJ9_min_7cf53_1 : decode cJ9_min_7cf53 1 = .ok (.iload_n 1, 1) := by decide +kernel
theorem dJ9_min_7cf53_2 : decode cJ9_min_7cf53 2 = .ok (.if_icmp .gt 7, 3) := by decide +kernel
theorem dJ9_min_7cf53_5 : decode cJ9_min_7cf53 5 = .ok (.iload_n 0, 1) := by decide +kernel
theorem dJ9_min_7cf53_6 : decode cJ9_min_7cf53 6 = .ok (.goto 4, 3) := by decide +kernel
theorem dJ9_min_7cf53_9 : decode cJ9_min_7cf53 9 = .ok (.iload_n 1, 1) := by decide +kernel
theorem dJ9_min_7cf53_10 : decode cJ9_min_7cf53 10 = .ok (.ireturn, 1) := by decide +kernel
theorem dJ0_length_8abf5_0 : decode cJ0_length_8abf5 0 = .ok (.aload_n 0, 1) := by decide +kernel
theorem dJ0_length_8abf5_1 : decode cJ0_length_8abf5 1 = .ok (.getfield 9, 3) := by decide +kernel
theorem dJ0_length_8abf5_4 : decode cJ0_length_8abf5 4 = .ok (.arraylength, 1) := by decide +kernel
theorem dJ0_length_8abf5_5 : decode cJ0_length_8abf5 5 = .ok (.aload_n 0, 1) := by decide +kernel
theorem dJ0_length_8abf5_6 : decode cJ0_length_8abf5 6 = .ok (.invokevirtual 335, 3) := by decide +kernel
theorem dJ0_length_8abf5_9 : decode cJ0_length_8abf5 9 = .ok (.ishr, 1) := by decide +kernel
theorem dJ0_length_8abf5_10 : decode cJ0_length_8abf5 10 = .ok (.ireturn, 1) := by decide +kernel
theorem dJ0_charAt_5068e_0 : decode cJ0_charAt_5068e 0 = .ok (.aload_n 0, 1) := by decide +kernel
theorem dJ0_charAt_5068e_1 : decode cJ0_charAt_5068e 1 = .ok (.invokevirtual 492, 3) := by decide +kernel
theorem dJ0_charAt_5068e_4 : decode cJ0_charAt_5068e 4 = .ok (.ifCond .eq 12, 3) := by decide +kernel
theorem dJ0_charAt_5068e_7 : decode cJ0_charAt_5068e 7 = .ok (.aload_n 0, 1) := by decide +kernel
theorem dJ0_charAt_5068e_8 : decode cJ0_charAt_5068e 8 = .ok (.getfield 9, 3) := by decide +kernel
theorem dJ0_charAt_5068e_11 : decode cJ0_charAt_5068e 11 = .ok (.iload_n 1, 1) := by decide +kernel
theorem dJ0_charAt_5068e_12 : decode cJ0_charAt_5068e 12 = .ok (.invokestatic 495, 3) := by decide +kernel
theorem dJ0_charAt_5068e_15 : decode cJ0_charAt_5068e 15 = .ok (.ireturn, 1) := by decide +kernel
theorem dJ0_charAt_5068e_16 : decode cJ0_charAt_5068e 16 = .ok (.aload_n 0, 1) := by decide +kernel
theorem dJ0_charAt_5068e_17 : decode cJ0_charAt_5068e 17 = .ok (.getfield 9, 3) := by decide +kernel
theorem dJ0_charAt_5068e_20 : decode cJ0_charAt_5068e 20 = .ok (.iload_n 1, 1) := by decide +kernel
theorem dJ0_charAt_5068e_21 : decode cJ0_charAt_5068e 21 = .ok (.invokestatic 498, 3) := by decide +kernel
theorem dJ0_charAt_5068e_24 : decode cJ0_charAt_5068e 24 = .ok (.ireturn, 1) := by decide +kernel
theorem dJ0_indexOf_0f7a4_0 : decode cJ0_indexOf_0f7a4 0 = .ok (.aload_n 0, 1) := by decide +kernel
theorem dJ0_indexOf_0f7a4_1 : decode cJ0_indexOf_0f7a4 1 = .ok (.iload_n 1, 1) := by decide +kernel
theorem dJ0_indexOf_0f7a4_2 : decode cJ0_indexOf_0f7a4 2 = .ok (.iconst 0, 1) := by decide +kernel
theorem dJ0_indexOf_0f7a4_3 : decode cJ0_indexOf_0f7a4 3 = .ok (.invokevirtual 633, 3) := by decide +kernel
theorem dJ0_indexOf_0f7a4_6 : decode cJ0_indexOf_0f7a4 6 = .ok (.ireturn, 1) := by decide +kernel
theorem dJ0_indexOf_7cf53_0 : decode cJ0_indexOf_7cf53 0 = .ok (.aload_n 0, 1) := by decide +kernel
theorem dJ0_indexOf_7cf53_1 : decode cJ0_indexOf_7cf53 1 = .ok (.invokevirtual 492, 3) := by decide +kernel
theorem dJ0_indexOf_7cf53_4 : decode cJ0_indexOf_7cf53 4 = .ok (.ifCond .eq 19, 3) := by decide +kernel
theorem dJ0_indexOf_7cf53_7 : decode cJ0_indexOf_7cf53 7 = .ok (.aload_n 0, 1) := by decide +kernel
theorem dJ0_indexOf_7cf53_8 : decode cJ0_indexOf_7cf53 8 = .ok (.getfield 9, 3) := by decide +kernel
theorem dJ0_indexOf_7cf53_11 : decode cJ0_indexOf_7cf53 11 = .ok (.iload_n 1, 1) := by decide +kernel
theorem dJ0_indexOf_7cf53_12 : decode cJ0_indexOf_7cf53 12 = .ok (.iload_n 2, 1) := by decide +kernel
theorem dJ0_indexOf_7cf53_13 : decode cJ0_indexOf_7cf53 13 = .ok (.aload_n 0, 1) := by decide +kernel
theorem dJ0_indexOf_7cf53_14 : decode cJ0_indexOf_7cf53 14 = .ok (.invokevirtual 505, 3) := by decide +kernel
theorem dJ0_indexOf_7cf53_17 : decode cJ0_indexOf_7cf53 17 = .ok (.invokestatic 637, 3) := by decide +kernel
theorem dJ0_indexOf_7cf53_20 : decode cJ0_indexOf_7cf53 20 = .ok (.goto 16, 3) := by decide +kernel
theorem dJ0_indexOf_7cf53_23 : decode cJ0_indexOf_7cf53 23 = .ok (.aload_n 0, 1) := by decide +kernel
theorem dJ0_indexOf_7cf53_24 : decode cJ0_indexOf_7cf53 24 = .ok (.getfield 9, 3) := by decide +kernel
theorem dJ0_indexOf_7cf53_27 : decode cJ0_indexOf_7cf53 27 = .ok (.iload_n 1, 1) := by decide +kernel
theorem dJ0_indexOf_7cf53_28 : decode cJ0_indexOf_7cf53 28 = .ok (.iload_n 2, 1) := by decide +kernel
theorem dJ0_indexOf_7cf53_29 : decode cJ0_indexOf_7cf53 29 = .ok (.aload_n 0, 1) := by decide +kernel
theorem dJ0_indexOf_7cf53_30 : decode cJ0_indexOf_7cf53 30 = .ok (.invokevirtual 505, 3) := by decide +kernel
theorem dJ0_indexOf_7cf53_33 : decode cJ0_indexOf_7cf53 33 = .ok (.invokestatic 640, 3) := by decide +kernel
theorem dJ0_indexOf_7cf53_36 : decode cJ0_indexOf_7cf53 36 = .ok (.ireturn, 1) := by decide +kernel
theorem dJ0_coder_7d493_0 : decode cJ0_coder_7d493 0 = .ok (.getstatic 38, 3) := by decide +kernel
theorem dJ0_coder_7d493_3 : decode cJ0_coder_7d493 3 = .ok (.ifCond .eq 10, 3) := by decide +kernel
theorem dJ0_coder_7d493_6 : decode cJ0_coder_7d493 6 = .ok (.aload_n 0, 1) := by decide +kernel
theorem dJ0_coder_7d493_7 : decode cJ0_coder_7d493 7 = .ok (.getfield 15, 3) := by decide +kernel
theorem dJ0_coder_7d493_10 : decode cJ0_coder_7d493 10 = .ok (.goto 4, 3) := by decide +kernel
theorem dJ0_coder_7d493_13 : decode cJ0_coder_7d493 13 = .ok (.iconst 1, 1) := by decide +kernel
theorem dJ0_coder_7d493_14 : decode cJ0_coder_7d493 14 = .ok (.ireturn, 1) := by decide +kernel
theorem dJ0_isLatin1_aae02_0 : decode cJ0_isLatin1_aae02 0 = .ok (.getstatic 38, 3) := by decide +kernel
theorem dJ0_isLatin1_aae02_3 : decode cJ0_isLatin1_aae02 3 = .ok (.ifCond .eq 14, 3) := by decide +kernel
theorem dJ0_isLatin1_aae02_6 : decode cJ0_isLatin1_aae02 6 = .ok (.aload_n 0, 1) := by decide +kernel
theorem dJ0_isLatin1_aae02_7 : decode cJ0_isLatin1_aae02 7 = .ok (.getfield 15, 3) := by decide +kernel
theorem dJ0_isLatin1_aae02_10 : decode cJ0_isLatin1_aae02 10 = .ok (.ifCond .ne 7, 3) := by decide +kernel
theorem dJ0_isLatin1_aae02_13 : decode cJ0_isLatin1_aae02 13 = .ok (.iconst 1, 1) := by decide +kernel
theorem dJ0_isLatin1_aae02_14 : decode cJ0_isLatin1_aae02 14 = .ok (.goto 4, 3) := by decide +kernel
theorem dJ0_isLatin1_aae02_17 : decode cJ0_isLatin1_aae02 17 = .ok (.iconst 0, 1) := by decide +kernel
theorem dJ0_isLatin1_aae02_18 : decode cJ0_isLatin1_aae02 18 = .ok (.ireturn, 1) := by decide +kernel
theorem dJ0_checkIndex_df160_0 : decode cJ0_checkIndex_df160 0 = .ok (.iload_n 0, 1) := by decide +kernel
theorem dJ0_checkIndex_df160_1 : decode cJ0_checkIndex_df160 1 = .ok (.iload_n 1, 1) := by decide +kernel
theorem dJ0_checkIndex_df160_2 : decode cJ0_checkIndex_df160 2 = .ok (.getstatic 1053, 3) := by decide +kernel
theorem dJ0_checkIndex_df160_5 : decode cJ0_checkIndex_df160 5 = .ok (.invokestatic 1059, 3) := by decide +kernel
theorem dJ0_checkIndex_df160_8 : decode cJ0_checkIndex_df160 8 = .ok (.pop, 1) := by decide +kernel
theorem dJ0_checkIndex_df160_9 : decode cJ0_checkIndex_df160 9 = .ok (.return_, 1) := by decide +kernel
theorem dJ0_checkBoundsBeginEnd_23922_0 : decode cJ0_checkBoundsBeginEnd_23922 0 = .ok (.iload_n 0, 1) := by decide +kernel
theorem dJ0_checkBoundsBeginEnd_23922_1 : decode cJ0_checkBoundsBeginEnd_23922 1 = .ok (.iload_n 1, 1) := by decide +kernel
theorem dJ0_checkBoundsBeginEnd_23922_2 : decode cJ0_checkBoundsBeginEnd_23922 2 = .ok (.iload_n 2, 1) := by decide +kernel
theorem dJ0_checkBoundsBeginEnd_23922_3 : decode cJ0_checkBoundsBeginEnd_23922 3 = .ok (.getstatic 1053, 3) := by decide +kernel
theorem dJ0_checkBoundsBeginEnd_23922_6 : decode cJ0_checkBoundsBeginEnd_23922 6 = .ok (.invokestatic 1062, 3) := by decide +kernel
theorem dJ0_checkBoundsBeginEnd_23922_9 : decode cJ0_checkBoundsBeginEnd_23922 9 = .ok (.pop, 1) := by decide +kernel
theorem dJ0_checkBoundsBeginEnd_23922_10 : decode cJ0_checkBoundsBeginEnd_23922 10 = .ok (.return_, 1) := by decide +kernel
theorem dJ1_charAt_3b067_0 : decode cJ1_charAt_3b067 0 = .ok (.iload_n 1, 1) := by decide +kernel
theorem dJ1_charAt_3b067_1 : decode cJ1_charAt_3b067 1 = .ok (.aload_n 0, 1) := by decide +kernel
theorem dJ1_charAt_3b067_2 : decode cJ1_charAt_3b067 2 = .ok (.arraylength, 1) := by decide +kernel
theorem dJ1_charAt_3b067_3 : decode cJ1_charAt_3b067 3 = .ok (.invokestatic 9, 3) := by decide +kernel
theorem dJ1_charAt_3b067_6 : decode cJ1_charAt_3b067 6 = .ok (.aload_n 0, 1) := by decide +kernel
theorem dJ1_charAt_3b067_7 : decode cJ1_charAt_3b067 7 = .ok (.iload_n 1, 1) := by decide +kernel
theorem dJ1_charAt_3b067_8 : decode cJ1_charAt_3b067 8 = .ok (.baload, 1) := by decide +kernel
theorem dJ1_charAt_3b067_9 : decode cJ1_charAt_3b067 9 = .ok (.sipush 255, 3) := by decide +kernel
theorem dJ1_charAt_3b067_12 : decode cJ1_charAt_3b067 12 = .ok (.iand, 1) := by decide +kernel
theorem dJ1_charAt_3b067_13 : decode cJ1_charAt_3b067 13 = .ok (.i2c, 1) := by decide +kernel
theorem dJ1_charAt_3b067_14 : decode cJ1_charAt_3b067 14 = .ok (.ireturn, 1) := by decide +kernel
theorem dJ1_canEncode_9a6ad_0 : decode cJ1_canEncode_9a6ad 0 = .ok (.iload_n 0, 1) := by decide +kernel
theorem dJ1_canEncode_9a6ad_1 : decode cJ1_canEncode_9a6ad 1 = .ok (.ifCond .lt 14, 3) := by decide +kernel
theorem dJ1_canEncode_9a6ad_4 : decode cJ1_canEncode_9a6ad 4 = .ok (.iload_n 0, 1) := by decide +kernel
theorem dJ1_canEncode_9a6ad_5 : decode cJ1_canEncode_9a6ad 5 = .ok (.sipush 255, 3) := by decide +kernel
theorem dJ1_canEncode_9a6ad_8 : decode cJ1_canEncode_9a6ad 8 = .ok (.if_icmp .gt 7, 3) := by decide +kernel
theorem dJ1_canEncode_9a6ad_11 : decode cJ1_canEncode_9a6ad 11 = .ok (.iconst 1, 1) := by decide +kernel
theorem dJ1_canEncode_9a6ad_12 : decode cJ1_canEncode_9a6ad 12 = .ok (.goto 4, 3) := by decide +kernel
theorem dJ1_canEncode_9a6ad_15 : decode cJ1_canEncode_9a6ad 15 = .ok (.iconst 0, 1) := by decide +kernel
theorem dJ1_canEncode_9a6ad_16 : decode cJ1_canEncode_9a6ad 16 = .ok (.ireturn, 1) := by decide +kernel
theorem dJ1_indexOf_4cfef_0 : decode cJ1_indexOf_4cfef 0 = .ok (.iload_n 1, 1) := by decide +kernel
theorem dJ1_indexOf_4cfef_1 : decode cJ1_indexOf_4cfef 1 = .ok (.invokestatic 88, 3) := by decide +kernel
theorem dJ1_indexOf_4cfef_4 : decode cJ1_indexOf_4cfef 4 = .ok (.ifCond .ne 5, 3) := by decide +kernel
theorem dJ1_indexOf_4cfef_7 : decode cJ1_indexOf_4cfef 7 = .ok (.iconst (-1), 1) := by decide +kernel
theorem dJ1_indexOf_4cfef_8 : decode cJ1_indexOf_4cfef 8 = .ok (.ireturn, 1) := by decide +kernel
theorem dJ1_indexOf_4cfef_9 : decode cJ1_indexOf_4cfef 9 = .ok (.iload_n 2, 1) := by decide +kernel
theorem dJ1_indexOf_4cfef_10 : decode cJ1_indexOf_4cfef 10 = .ok (.iconst 0, 1) := by decide +kernel
theorem dJ1_indexOf_4cfef_11 : decode cJ1_indexOf_4cfef 11 = .ok (.invokestatic 92, 3) := by decide +kernel
theorem dJ1_indexOf_4cfef_14 : decode cJ1_indexOf_4cfef 14 = .ok (.istore_n 2, 1) := by decide +kernel
theorem dJ1_indexOf_4cfef_15 : decode cJ1_indexOf_4cfef 15 = .ok (.iload_n 3, 1) := by decide +kernel
theorem dJ1_indexOf_4cfef_16 : decode cJ1_indexOf_4cfef 16 = .ok (.aload_n 0, 1) := by decide +kernel
theorem dJ1_indexOf_4cfef_17 : decode cJ1_indexOf_4cfef 17 = .ok (.arraylength, 1) := by decide +kernel
theorem dJ1_indexOf_4cfef_18 : decode cJ1_indexOf_4cfef 18 = .ok (.invokestatic 38, 3) := by decide +kernel
theorem dJ1_indexOf_4cfef_21 : decode cJ1_indexOf_4cfef 21 = .ok (.istore_n 3, 1) := by decide +kernel
theorem dJ1_indexOf_4cfef_22 : decode cJ1_indexOf_4cfef 22 = .ok (.iload_n 2, 1) := by decide +kernel
theorem dJ1_indexOf_4cfef_23 : decode cJ1_indexOf_4cfef 23 = .ok (.iload_n 3, 1) := by decide +kernel
theorem dJ1_indexOf_4cfef_24 : decode cJ1_indexOf_4cfef 24 = .ok (.if_icmp .lt 5, 3) := by decide +kernel
theorem dJ1_indexOf_4cfef_27 : decode cJ1_indexOf_4cfef 27 = .ok (.iconst (-1), 1) := by decide +kernel
theorem dJ1_indexOf_4cfef_28 : decode cJ1_indexOf_4cfef 28 = .ok (.ireturn, 1) := by decide +kernel
theorem dJ1_indexOf_4cfef_29 : decode cJ1_indexOf_4cfef 29 = .ok (.aload_n 0, 1) := by decide +kernel
theorem dJ1_indexOf_4cfef_30 : decode cJ1_indexOf_4cfef 30 = .ok (.iload_n 1, 1) := by decide +kernel
theorem dJ1_indexOf_4cfef_31 : decode cJ1_indexOf_4cfef 31 = .ok (.iload_n 2, 1) := by decide +kernel
theorem dJ1_indexOf_4cfef_32 : decode cJ1_indexOf_4cfef 32 = .ok (.iload_n 3, 1) := by decide +kernel
theorem dJ1_indexOf_4cfef_33 : decode cJ1_indexOf_4cfef 33 = .ok (.invokestatic 95, 3) := by decide +kernel
theorem dJ1_indexOf_4cfef_36 : decode cJ1_indexOf_4cfef 36 = .ok (.ireturn, 1) := by decide +kernel
theorem dJ1_indexOfChar_4cfef_0 : decode cJ1_indexOfChar_4cfef 0 = .ok (.iload_n 1, 1) := by decide +kernel
theorem dJ1_indexOfChar_4cfef_1 : decode cJ1_indexOfChar_4cfef 1 = .ok (.i2b, 1) := by decide +kernel
theorem dJ1_indexOfChar_4cfef_2 : decode cJ1_indexOfChar_4cfef 2 = .ok (.istore 4, 2) := by decide +kernel
theorem dJ1_indexOfChar_4cfef_4 : decode cJ1_indexOfChar_4cfef 4 = .ok (.iload_n 2, 1) := by decide +kernel
theorem dJ1_indexOfChar_4cfef_5 : decode cJ1_indexOfChar_4cfef 5 = .ok (.istore 5, 2) := by decide +kernel
theorem dJ1_indexOfChar_4cfef_7 : decode cJ1_indexOfChar_4cfef 7 = .ok (.iload 5, 2) := by decide +kernel
theorem dJ1_indexOfChar_4cfef_9 : decode cJ1_indexOfChar_4cfef 9 = .ok (.iload_n 3, 1) := by decide +kernel
theorem dJ1_indexOfChar_4cfef_10 : decode cJ1_indexOfChar_4cfef 10 = .ok (.if_icmp .ge 21, 3) := by decide +kernel
theorem dJ1_indexOfChar_4cfef_13 : decode cJ1_indexOfChar_4cfef 13 = .ok (.aload_n 0, 1) := by decide +kernel
theorem dJ1_indexOfChar_4cfef_14 : decode cJ1_indexOfChar_4cfef 14 = .ok (.iload 5, 2) := by decide +kernel
theorem dJ1_indexOfChar_4cfef_16 : decode cJ1_indexOfChar_4cfef 16 = .ok (.baload, 1) := by decide +kernel
theorem dJ1_indexOfChar_4cfef_17 : decode cJ1_indexOfChar_4cfef 17 = .ok (.iload 4, 2) := by decide +kernel
theorem dJ1_indexOfChar_4cfef_19 : decode cJ1_indexOfChar_4cfef 19 = .ok (.if_icmp .ne 6, 3) := by decide +kernel
theorem dJ1_indexOfChar_4cfef_22 : decode cJ1_indexOfChar_4cfef 22 = .ok (.iload 5, 2) := by decide +kernel
theorem dJ1_indexOfChar_4cfef_24 : decode cJ1_indexOfChar_4cfef 24 = .ok (.ireturn, 1) := by decide +kernel
theorem dJ1_indexOfChar_4cfef_25 : decode cJ1_indexOfChar_4cfef 25 = .ok (.iinc 5 1, 3) := by decide +kernel
theorem dJ1_indexOfChar_4cfef_28 : decode cJ1_indexOfChar_4cfef 28 = .ok (.goto (-21), 3) := by decide +kernel
theorem dJ1_indexOfChar_4cfef_31 : decode cJ1_indexOfChar_4cfef 31 = .ok (.iconst (-1), 1) := by decide +kernel
theorem dJ1_indexOfChar_4cfef_32 : decode cJ1_indexOfChar_4cfef 32 = .ok (.ireturn, 1) := by decide +kernel
theorem dJ2_getChar_3b067_0 : decode cJ2_getChar_3b067 0 = .ok (.getstatic 44, 3) := by decide +kernel
theorem dJ2_getChar_3b067_3 : decode cJ2_getChar_3b067 3 = .ok (.ifCond .ne 25, 3) := by decide +kernel
theorem dJ2_getChar_3b067_6 : decode cJ2_getChar_3b067 6 = .ok (.iload_n 1, 1) := by decide +kernel
theorem dJ2_getChar_3b067_7 : decode cJ2_getChar_3b067 7 = .ok (.ifCond .lt 11, 3) := by decide +kernel
theorem dJ2_getChar_3b067_10 : decode cJ2_getChar_3b067 10 = .ok (.iload_n 1, 1) := by decide +kernel
theorem dJ2_getChar_3b067_11 : decode cJ2_getChar_3b067 11 = .ok (.aload_n 0, 1) := by decide +kernel
theorem dJ2_getChar_3b067_12 : decode cJ2_getChar_3b067 12 = .ok (.invokestatic 48, 3) := by decide +kernel
theorem dJ2_getChar_3b067_15 : decode cJ2_getChar_3b067 15 = .ok (.if_icmp .lt 13, 3) := by decide +kernel
theorem dJ2_getChar_3b067_18 : decode cJ2_getChar_3b067 18 = .ok (.new 52, 3) := by decide +kernel
theorem dJ2_getChar_3b067_21 : decode cJ2_getChar_3b067 21 = .ok (.dup, 1) := by decide +kernel
theorem dJ2_getChar_3b067_22 : decode cJ2_getChar_3b067 22 = .ok (.ldc 54, 2) := by decide +kernel
theorem dJ2_getChar_3b067_24 : decode cJ2_getChar_3b067 24 = .ok (.invokespecial 56, 3) := by decide +kernel
theorem dJ2_getChar_3b067_27 : decode cJ2_getChar_3b067 27 = .ok (.athrow, 1) := by decide +kernel
theorem dJ2_getChar_3b067_28 : decode cJ2_getChar_3b067 28 = .ok (.iload_n 1, 1) := by decide +kernel
theorem dJ2_getChar_3b067_29 : decode cJ2_getChar_3b067 29 = .ok (.iconst 1, 1) := by decide +kernel
theorem dJ2_getChar_3b067_30 : decode cJ2_getChar_3b067 30 = .ok (.ishl, 1) := by decide +kernel
theorem dJ2_getChar_3b067_31 : decode cJ2_getChar_3b067 31 = .ok (.istore_n 1, 1) := by decide +kernel
theorem dJ2_getChar_3b067_32 : decode cJ2_getChar_3b067 32 = .ok (.aload_n 0, 1) := by decide +kernel
theorem dJ2_getChar_3b067_33 : decode cJ2_getChar_3b067 33 = .ok (.iload_n 1, 1) := by decide +kernel
theorem dJ2_getChar_3b067_34 : decode cJ2_getChar_3b067 34 = .ok (.iinc 1 1, 3) := by decide +kernel
theorem dJ2_getChar_3b067_37 : decode cJ2_getChar_3b067 37 = .ok (.baload, 1) := by decide +kernel
theorem dJ2_getChar_3b067_38 : decode cJ2_getChar_3b067 38 = .ok (.sipush 255, 3) := by decide +kernel
theorem dJ2_getChar_3b067_41 : decode cJ2_getChar_3b067 41 = .ok (.iand, 1) := by decide +kernel
theorem dJ2_getChar_3b067_42 : decode cJ2_getChar_3b067 42 = .ok (.getstatic 59, 3) := by decide +kernel
theorem dJ2_getChar_3b067_45 : decode cJ2_getChar_3b067 45 = .ok (.ishl, 1) := by decide +kernel
theorem dJ2_getChar_3b067_46 : decode cJ2_getChar_3b067 46 = .ok (.aload_n 0, 1) := by decide +kernel
theorem dJ2_getChar_3b067_47 : decode cJ2_getChar_3b067 47 = .ok (.iload_n 1, 1) := by decide +kernel
theorem dJ2_getChar_3b067_48 : decode cJ2_getChar_3b067 48 = .ok (.baload, 1) := by decide +kernel
theorem dJ2_getChar_3b067_49 : decode cJ2_getChar_3b067 49 = .ok (.sipush 255, 3) := by decide +kernel
theorem dJ2_getChar_3b067_52 : decode cJ2_getChar_3b067 52 = .ok (.iand, 1) := by decide +kernel
theorem dJ2_getChar_3b067_53 : decode cJ2_getChar_3b067 53 = .ok (.getstatic 63, 3) := by decide +kernel
theorem dJ2_getChar_3b067_56 : decode cJ2_getChar_3b067 56 = .ok (.ishl, 1) := by decide +kernel
theorem dJ2_getChar_3b067_57 : decode cJ2_getChar_3b067 57 = .ok (.ior, 1) := by decide +kernel
theorem dJ2_getChar_3b067_58 : decode cJ2_getChar_3b067 58 = .ok (.i2c, 1) := by decide +kernel
theorem dJ2_getChar_3b067_59 : decode cJ2_getChar_3b067 59 = .ok (.ireturn, 1) := by decide +kernel
theorem dJ2_length_9d52b_0 : decode cJ2_length_9d52b 0 = .ok (.aload_n 0, 1) := by decide +kernel
theorem dJ2_length_9d52b_1 : decode cJ2_length_9d52b 1 = .ok (.arraylength, 1) := by decide +kernel
theorem dJ2_length_9d52b_2 : decode cJ2_length_9d52b 2 = .ok (.iconst 1, 1) := by decide +kernel
theorem dJ2_length_9d52b_3 : decode cJ2_length_9d52b 3 = .ok (.ishr, 1) := by decide +kernel
theorem dJ2_length_9d52b_4 : decode cJ2_length_9d52b 4 = .ok (.ireturn, 1) := by decide +kernel
theorem dJ2_indexOf_4cfef_0 : decode cJ2_indexOf_4cfef 0 = .ok (.iload_n 2, 1) := by decide +kernel
theorem dJ2_indexOf_4cfef_1 : decode cJ2_indexOf_4cfef 1 = .ok (.iconst 0, 1) := by decide +kernel
theorem dJ2_indexOf_4cfef_2 : decode cJ2_indexOf_4cfef 2 = .ok (.invokestatic 224, 3) := by decide +kernel
theorem dJ2_indexOf_4cfef_5 : decode cJ2_indexOf_4cfef 5 = .ok (.istore_n 2, 1) := by decide +kernel
theorem dJ2_indexOf_4cfef_6 : decode cJ2_indexOf_4cfef 6 = .ok (.iload_n 3, 1) := by decide +kernel
theorem dJ2_indexOf_4cfef_7 : decode cJ2_indexOf_4cfef 7 = .ok (.aload_n 0, 1) := by decide +kernel
theorem dJ2_indexOf_4cfef_8 : decode cJ2_indexOf_4cfef 8 = .ok (.arraylength, 1) := by decide +kernel
theorem dJ2_indexOf_4cfef_9 : decode cJ2_indexOf_4cfef 9 = .ok (.iconst 1, 1) := by decide +kernel
theorem dJ2_indexOf_4cfef_10 : decode cJ2_indexOf_4cfef 10 = .ok (.ishr, 1) := by decide +kernel
theorem dJ2_indexOf_4cfef_11 : decode cJ2_indexOf_4cfef 11 = .ok (.invokestatic 183, 3) := by decide +kernel
theorem dJ2_indexOf_4cfef_14 : decode cJ2_indexOf_4cfef 14 = .ok (.istore_n 3, 1) := by decide +kernel
theorem dJ2_indexOf_4cfef_15 : decode cJ2_indexOf_4cfef 15 = .ok (.iload_n 2, 1) := by decide +kernel
theorem dJ2_indexOf_4cfef_16 : decode cJ2_indexOf_4cfef 16 = .ok (.iload_n 3, 1) := by decide +kernel
theorem dJ2_indexOf_4cfef_17 : decode cJ2_indexOf_4cfef 17 = .ok (.if_icmp .lt 5, 3) := by decide +kernel
theorem dJ2_indexOf_4cfef_20 : decode cJ2_indexOf_4cfef 20 = .ok (.iconst (-1), 1) := by decide +kernel
theorem dJ2_indexOf_4cfef_21 : decode cJ2_indexOf_4cfef 21 = .ok (.ireturn, 1) := by decide +kernel
theorem dJ2_indexOf_4cfef_22 : decode cJ2_indexOf_4cfef 22 = .ok (.iload_n 1, 1) := by decide +kernel
theorem dJ2_indexOf_4cfef_23 : decode cJ2_indexOf_4cfef 23 = .ok (.ldc 227, 2) := by decide +kernel
theorem dJ2_indexOf_4cfef_25 : decode cJ2_indexOf_4cfef 25 = .ok (.if_icmp .ge 11, 3) := by decide +kernel
theorem dJ2_indexOf_4cfef_28 : decode cJ2_indexOf_4cfef 28 = .ok (.aload_n 0, 1) := by decide +kernel
theorem dJ2_indexOf_4cfef_29 : decode cJ2_indexOf_4cfef 29 = .ok (.iload_n 1, 1) := by decide +kernel
theorem dJ2_indexOf_4cfef_30 : decode cJ2_indexOf_4cfef 30 = .ok (.iload_n 2, 1) := by decide +kernel
theorem dJ2_indexOf_4cfef_31 : decode cJ2_indexOf_4cfef 31 = .ok (.iload_n 3, 1) := by decide +kernel
theorem dJ2_indexOf_4cfef_32 : decode cJ2_indexOf_4cfef 32 = .ok (.invokestatic 228, 3) := by decide +kernel
theorem dJ2_indexOf_4cfef_35 : decode cJ2_indexOf_4cfef 35 = .ok (.ireturn, 1) := by decide +kernel
theorem dJ2_indexOf_4cfef_36 : decode cJ2_indexOf_4cfef 36 = .ok (.aload_n 0, 1) := by decide +kernel
theorem dJ2_indexOf_4cfef_37 : decode cJ2_indexOf_4cfef 37 = .ok (.iload_n 1, 1) := by decide +kernel
theorem dJ2_indexOf_4cfef_38 : decode cJ2_indexOf_4cfef 38 = .ok (.iload_n 2, 1) := by decide +kernel
theorem dJ2_indexOf_4cfef_39 : decode cJ2_indexOf_4cfef 39 = .ok (.iload_n 3, 1) := by decide +kernel
theorem dJ2_indexOf_4cfef_40 : decode cJ2_indexOf_4cfef 40 = .ok (.invokestatic 232, 3) := by decide +kernel
theorem dJ2_indexOf_4cfef_43 : decode cJ2_indexOf_4cfef 43 = .ok (.ireturn, 1) := by decide +kernel
theorem dJ2_indexOfChar_4cfef_0 : decode cJ2_indexOfChar_4cfef 0 = .ok (.iload_n 2, 1) := by decide +kernel
theorem dJ2_indexOfChar_4cfef_1 : decode cJ2_indexOfChar_4cfef 1 = .ok (.iload_n 3, 1) := by decide +kernel
theorem dJ2_indexOfChar_4cfef_2 : decode cJ2_indexOfChar_4cfef 2 = .ok (.aload_n 0, 1) := by decide +kernel
theorem dJ2_indexOfChar_4cfef_3 : decode cJ2_indexOfChar_4cfef 3 = .ok (.invokestatic 96, 3) := by decide +kernel
theorem dJ2_indexOfChar_4cfef_6 : decode cJ2_indexOfChar_4cfef 6 = .ok (.aload_n 0, 1) := by decide +kernel
theorem dJ2_indexOfChar_4cfef_7 : decode cJ2_indexOfChar_4cfef 7 = .ok (.iload_n 1, 1) := by decide +kernel
theorem dJ2_indexOfChar_4cfef_8 : decode cJ2_indexOfChar_4cfef 8 = .ok (.iload_n 2, 1) := by decide +kernel
theorem dJ2_indexOfChar_4cfef_9 : decode cJ2_indexOfChar_4cfef 9 = .ok (.iload_n 3, 1) := by decide +kernel
theorem dJ2_indexOfChar_4cfef_10 : decode cJ2_indexOfChar_4cfef 10 = .ok (.invokestatic 244, 3) := by decide +kernel
theorem dJ2_indexOfChar_4cfef_13 : decode cJ2_indexOfChar_4cfef 13 = .ok (.ireturn, 1) := by decide +kernel
theorem dJ2_indexOfCharUnsafe_4cfef_0 : decode cJ2_indexOfCharUnsafe_4cfef 0 = .ok (.iload_n 2, 1) := by decide +kernel
theorem dJ2_indexOfCharUnsafe_4cfef_1 : decode cJ2_indexOfCharUnsafe_4cfef 1 = .ok (.istore 4, 2) := by decide +kernel
theorem dJ2_indexOfCharUnsafe_4cfef_3 : decode cJ2_indexOfCharUnsafe_4cfef 3 = .ok (.iload 4, 2) := by decide +kernel
theorem dJ2_indexOfCharUnsafe_4cfef_5 : decode cJ2_indexOfCharUnsafe_4cfef 5 = .ok (.iload_n 3, 1) := by decide +kernel
theorem dJ2_indexOfCharUnsafe_4cfef_6 : decode cJ2_indexOfCharUnsafe_4cfef 6 = .ok (.if_icmp .ge 22, 3) := by decide +kernel
theorem dJ2_indexOfCharUnsafe_4cfef_9 : decode cJ2_indexOfCharUnsafe_4cfef 9 = .ok (.aload_n 0, 1) := by decide +kernel
theorem dJ2_indexOfCharUnsafe_4cfef_10 : decode cJ2_indexOfCharUnsafe_4cfef 10 = .ok (.iload 4, 2) := by decide +kernel
theorem dJ2_indexOfCharUnsafe_4cfef_12 : decode cJ2_indexOfCharUnsafe_4cfef 12 = .ok (.invokestatic 71, 3) := by decide +kernel
theorem dJ2_indexOfCharUnsafe_4cfef_15 : decode cJ2_indexOfCharUnsafe_4cfef 15 = .ok (.iload_n 1, 1) := by decide +kernel
theorem dJ2_indexOfCharUnsafe_4cfef_16 : decode cJ2_indexOfCharUnsafe_4cfef 16 = .ok (.if_icmp .ne 6, 3) := by decide +kernel
theorem dJ2_indexOfCharUnsafe_4cfef_19 : decode cJ2_indexOfCharUnsafe_4cfef 19 = .ok (.iload 4, 2) := by decide +kernel
theorem dJ2_indexOfCharUnsafe_4cfef_21 : decode cJ2_indexOfCharUnsafe_4cfef 21 = .ok (.ireturn, 1) := by decide +kernel
theorem dJ2_indexOfCharUnsafe_4cfef_22 : decode cJ2_indexOfCharUnsafe_4cfef 22 = .ok (.iinc 4 1, 3) := by decide +kernel
theorem dJ2_indexOfCharUnsafe_4cfef_25 : decode cJ2_indexOfCharUnsafe_4cfef 25 = .ok (.goto (-22), 3) := by decide +kernel
theorem dJ2_indexOfCharUnsafe_4cfef_28 : decode cJ2_indexOfCharUnsafe_4cfef 28 = .ok (.iconst (-1), 1) := by decide +kernel
theorem dJ2_indexOfCharUnsafe_4cfef_29 : decode cJ2_indexOfCharUnsafe_4cfef 29 = .ok (.ireturn, 1) := by decide +kernel
theorem dJ2_indexOfSupplementary_4cfef_0 : decode cJ2_indexOfSupplementary_4cfef 0 = .ok (.iload_n 1, 1) := by decide +kernel
theorem dJ2_indexOfSupplementary_4cfef_1 : decode cJ2_indexOfSupplementary_4cfef 1 = .ok (.invokestatic 164, 3) := by decide +kernel
theorem dJ2_indexOfSupplementary_4cfef_4 : decode cJ2_indexOfSupplementary_4cfef 4 = .ok (.ifCond .eq 65, 3) := by decide +kernel
theorem dJ2_indexOfSupplementary_4cfef_7 : decode cJ2_indexOfSupplementary_4cfef 7 = .ok (.iload_n 1, 1) := by decide +kernel
theorem dJ2_indexOfSupplementary_4cfef_8 : decode cJ2_indexOfSupplementary_4cfef 8 = .ok (.invokestatic 157, 3) := by decide +kernel
theorem dJ2_indexOfSupplementary_4cfef_11 : decode cJ2_indexOfSupplementary_4cfef 11 = .ok (.istore 4, 2) := by decide +kernel
theorem dJ2_indexOfSupplementary_4cfef_13 : decode cJ2_indexOfSupplementary_4cfef 13 = .ok (.iload_n 1, 1) := by decide +kernel
theorem dJ2_indexOfSupplementary_4cfef_14 : decode cJ2_indexOfSupplementary_4cfef 14 = .ok (.invokestatic 161, 3) := by decide +kernel
theorem dJ2_indexOfSupplementary_4cfef_17 : decode cJ2_indexOfSupplementary_4cfef 17 = .ok (.istore 5, 2) := by decide +kernel
theorem dJ2_indexOfSupplementary_4cfef_19 : decode cJ2_indexOfSupplementary_4cfef 19 = .ok (.iload_n 2, 1) := by decide +kernel
theorem dJ2_indexOfSupplementary_4cfef_20 : decode cJ2_indexOfSupplementary_4cfef 20 = .ok (.iload_n 3, 1) := by decide +kernel
theorem dJ2_indexOfSupplementary_4cfef_21 : decode cJ2_indexOfSupplementary_4cfef 21 = .ok (.aload_n 0, 1) := by decide +kernel
theorem dJ2_indexOfSupplementary_4cfef_22 : decode cJ2_indexOfSupplementary_4cfef 22 = .ok (.invokestatic 96, 3) := by decide +kernel
theorem dJ2_indexOfSupplementary_4cfef_25 : decode cJ2_indexOfSupplementary_4cfef 25 = .ok (.iload_n 2, 1) := by decide +kernel
theorem dJ2_indexOfSupplementary_4cfef_26 : decode cJ2_indexOfSupplementary_4cfef 26 = .ok (.istore 6, 2) := by decide +kernel
theorem dJ2_indexOfSupplementary_4cfef_28 : decode cJ2_indexOfSupplementary_4cfef 28 = .ok (.iload 6, 2) := by decide +kernel
theorem dJ2_indexOfSupplementary_4cfef_30 : decode cJ2_indexOfSupplementary_4cfef 30 = .ok (.iload_n 3, 1) := by decide +kernel
theorem dJ2_indexOfSupplementary_4cfef_31 : decode cJ2_indexOfSupplementary_4cfef 31 = .ok (.iconst 1, 1) := by decide +kernel
theorem dJ2_indexOfSupplementary_4cfef_32 : decode cJ2_indexOfSupplementary_4cfef 32 = .ok (.isub, 1) := by decide +kernel
theorem dJ2_indexOfSupplementary_4cfef_33 : decode cJ2_indexOfSupplementary_4cfef 33 = .ok (.if_icmp .ge 36, 3) := by decide +kernel
theorem dJ2_indexOfSupplementary_4cfef_36 : decode cJ2_indexOfSupplementary_4cfef 36 = .ok (.aload_n 0, 1) := by decide +kernel
theorem dJ2_indexOfSupplementary_4cfef_37 : decode cJ2_indexOfSupplementary_4cfef 37 = .ok (.iload 6, 2) := by decide +kernel
theorem dJ2_indexOfSupplementary_4cfef_39 : decode cJ2_indexOfSupplementary_4cfef 39 = .ok (.invokestatic 71, 3) := by decide +kernel
theorem dJ2_indexOfSupplementary_4cfef_42 : decode cJ2_indexOfSupplementary_4cfef 42 = .ok (.iload 4, 2) := by decide +kernel
theorem dJ2_indexOfSupplementary_4cfef_44 : decode cJ2_indexOfSupplementary_4cfef 44 = .ok (.if_icmp .ne 19, 3) := by decide +kernel
theorem dJ2_indexOfSupplementary_4cfef_47 : decode cJ2_indexOfSupplementary_4cfef 47 = .ok (.aload_n 0, 1) := by decide +kernel
theorem dJ2_indexOfSupplementary_4cfef_48 : decode cJ2_indexOfSupplementary_4cfef 48 = .ok (.iload 6, 2) := by decide +kernel
theorem dJ2_indexOfSupplementary_4cfef_50 : decode cJ2_indexOfSupplementary_4cfef 50 = .ok (.iconst 1, 1) := by decide +kernel
theorem dJ2_indexOfSupplementary_4cfef_51 : decode cJ2_indexOfSupplementary_4cfef 51 = .ok (.iadd, 1) := by decide +kernel
theorem dJ2_indexOfSupplementary_4cfef_52 : decode cJ2_indexOfSupplementary_4cfef 52 = .ok (.invokestatic 71, 3) := by decide +kernel
theorem dJ2_indexOfSupplementary_4cfef_55 : decode cJ2_indexOfSupplementary_4cfef 55 = .ok (.iload 5, 2) := by decide +kernel
theorem dJ2_indexOfSupplementary_4cfef_57 : decode cJ2_indexOfSupplementary_4cfef 57 = .ok (.if_icmp .ne 6, 3) := by decide +kernel
theorem dJ2_indexOfSupplementary_4cfef_60 : decode cJ2_indexOfSupplementary_4cfef 60 = .ok (.iload 6, 2) := by decide +kernel
theorem dJ2_indexOfSupplementary_4cfef_62 : decode cJ2_indexOfSupplementary_4cfef 62 = .ok (.ireturn, 1) := by decide +kernel
theorem dJ2_indexOfSupplementary_4cfef_63 : decode cJ2_indexOfSupplementary_4cfef 63 = .ok (.iinc 6 1, 3) := by decide +kernel
theorem dJ2_indexOfSupplementary_4cfef_66 : decode cJ2_indexOfSupplementary_4cfef 66 = .ok (.goto (-38), 3) := by decide +kernel
theorem dJ2_indexOfSupplementary_4cfef_69 : decode cJ2_indexOfSupplementary_4cfef 69 = .ok (.iconst (-1), 1) := by decide +kernel
theorem dJ2_indexOfSupplementary_4cfef_70 : decode cJ2_indexOfSupplementary_4cfef 70 = .ok (.ireturn, 1) := by decide +kernel
theorem dJ2_charAt_3b067_0 : decode cJ2_charAt_3b067 0 = .ok (.iload_n 1, 1) := by decide +kernel
theorem dJ2_charAt_3b067_1 : decode cJ2_charAt_3b067 1 = .ok (.aload_n 0, 1) := by decide +kernel
theorem dJ2_charAt_3b067_2 : decode cJ2_charAt_3b067 2 = .ok (.invokestatic 67, 3) := by decide +kernel
theorem dJ2_charAt_3b067_5 : decode cJ2_charAt_3b067 5 = .ok (.aload_n 0, 1) := by decide +kernel
theorem dJ2_charAt_3b067_6 : decode cJ2_charAt_3b067 6 = .ok (.iload_n 1, 1) := by decide +kernel
theorem dJ2_charAt_3b067_7 : decode cJ2_charAt_3b067 7 = .ok (.invokestatic 71, 3) := by decide +kernel
theorem dJ2_charAt_3b067_10 : decode cJ2_charAt_3b067 10 = .ok (.ireturn, 1) := by decide +kernel
theorem dJ2_checkIndex_2214a_0 : decode cJ2_checkIndex_2214a 0 = .ok (.iload_n 0, 1) := by decide +kernel
theorem dJ2_checkIndex_2214a_1 : decode cJ2_checkIndex_2214a 1 = .ok (.aload_n 1, 1) := by decide +kernel
theorem dJ2_checkIndex_2214a_2 : decode cJ2_checkIndex_2214a 2 = .ok (.invokestatic 48, 3) := by decide +kernel
theorem dJ2_checkIndex_2214a_5 : decode cJ2_checkIndex_2214a 5 = .ok (.invokestatic 414, 3) := by decide +kernel
theorem dJ2_checkIndex_2214a_8 : decode cJ2_checkIndex_2214a 8 = .ok (.return_, 1) := by decide +kernel
theorem dJ2_checkBoundsBeginEnd_d044e_0 : decode cJ2_checkBoundsBeginEnd_d044e 0 = .ok (.iload_n 0, 1) := by decide +kernel
theorem dJ2_checkBoundsBeginEnd_d044e_1 : decode cJ2_checkBoundsBeginEnd_d044e 1 = .ok (.iload_n 1, 1) := by decide +kernel
theorem dJ2_checkBoundsBeginEnd_d044e_2 : decode cJ2_checkBoundsBeginEnd_d044e 2 = .ok (.aload_n 2, 1) := by decide +kernel
theorem dJ2_checkBoundsBeginEnd_d044e_3 : decode cJ2_checkBoundsBeginEnd_d044e 3 = .ok (.invokestatic 48, 3) := by decide +kernel
theorem dJ2_checkBoundsBeginEnd_d044e_6 : decode cJ2_checkBoundsBeginEnd_d044e 6 = .ok (.invokestatic 241, 3) := by decide +kernel
theorem dJ2_checkBoundsBeginEnd_d044e_9 : decode cJ2_checkBoundsBeginEnd_d044e 9 = .ok (.return_, 1) := by decide +kernel
theorem dJ3_checkIndex_8e157_0 : decode cJ3_checkIndex_8e157 0 = .ok (.iload_n 0, 1) := by decide +kernel
theorem dJ3_checkIndex_8e157_1 : decode cJ3_checkIndex_8e157 1 = .ok (.ifCond .lt 8, 3) := by decide +kernel
theorem dJ3_checkIndex_8e157_4 : decode cJ3_checkIndex_8e157 4 = .ok (.iload_n 0, 1) := by decide +kernel
theorem dJ3_checkIndex_8e157_5 : decode cJ3_checkIndex_8e157 5 = .ok (.iload_n 1, 1) := by decide +kernel
theorem dJ3_checkIndex_8e157_6 : decode cJ3_checkIndex_8e157 6 = .ok (.if_icmp .lt 10, 3) := by decide +kernel
theorem dJ3_checkIndex_8e157_9 : decode cJ3_checkIndex_8e157 9 = .ok (.aload_n 2, 1) := by decide +kernel
theorem dJ3_checkIndex_8e157_10 : decode cJ3_checkIndex_8e157 10 = .ok (.iload_n 0, 1) := by decide +kernel
theorem dJ3_checkIndex_8e157_11 : decode cJ3_checkIndex_8e157 11 = .ok (.iload_n 1, 1) := by decide +kernel
theorem dJ3_checkIndex_8e157_12 : decode cJ3_checkIndex_8e157 12 = .ok (.invokestatic 95, 3) := by decide +kernel
theorem dJ3_checkIndex_8e157_15 : decode cJ3_checkIndex_8e157 15 = .ok (.athrow, 1) := by decide +kernel
theorem dJ3_checkIndex_8e157_16 : decode cJ3_checkIndex_8e157 16 = .ok (.iload_n 0, 1) := by decide +kernel
theorem dJ3_checkIndex_8e157_17 : decode cJ3_checkIndex_8e157 17 = .ok (.ireturn, 1) := by decide +kernel
theorem dJ3_checkFromToIndex_8c36e_0 : decode cJ3_checkFromToIndex_8c36e 0 = .ok (.iload_n 0, 1) := by decide +kernel
theorem dJ3_checkFromToIndex_8c36e_1 : decode cJ3_checkFromToIndex_8c36e 1 = .ok (.ifCond .lt 13, 3) := by decide +kernel
theorem dJ3_checkFromToIndex_8c36e_4 : decode cJ3_checkFromToIndex_8c36e 4 = .ok (.iload_n 0, 1) := by decide +kernel
theorem dJ3_checkFromToIndex_8c36e_5 : decode cJ3_checkFromToIndex_8c36e 5 = .ok (.iload_n 1, 1) := by decide +kernel
theorem dJ3_checkFromToIndex_8c36e_6 : decode cJ3_checkFromToIndex_8c36e 6 = .ok (.if_icmp .gt 8, 3) := by decide +kernel
theorem dJ3_checkFromToIndex_8c36e_9 : decode cJ3_checkFromToIndex_8c36e 9 = .ok (.iload_n 1, 1) := by decide +kernel
theorem dJ3_checkFromToIndex_8c36e_10 : decode cJ3_checkFromToIndex_8c36e 10 = .ok (.iload_n 2, 1) := by decide +kernel
theorem dJ3_checkFromToIndex_8c36e_11 : decode cJ3_checkFromToIndex_8c36e 11 = .ok (.if_icmp .le 11, 3) := by decide +kernel
theorem dJ3_checkFromToIndex_8c36e_14 : decode cJ3_checkFromToIndex_8c36e 14 = .ok (.aload_n 3, 1) := by decide +kernel
theorem dJ3_checkFromToIndex_8c36e_15 : decode cJ3_checkFromToIndex_8c36e 15 = .ok (.iload_n 0, 1) := by decide +kernel
theorem dJ3_checkFromToIndex_8c36e_16 : decode cJ3_checkFromToIndex_8c36e 16 = .ok (.iload_n 1, 1) := by decide +kernel
theorem dJ3_checkFromToIndex_8c36e_17 : decode cJ3_checkFromToIndex_8c36e 17 = .ok (.iload_n 2, 1) := by decide +kernel
theorem dJ3_checkFromToIndex_8c36e_18 : decode cJ3_checkFromToIndex_8c36e 18 = .ok (.invokestatic 99, 3) := by decide +kernel
theorem dJ3_checkFromToIndex_8c36e_21 : decode cJ3_checkFromToIndex_8c36e 21 = .ok (.athrow, 1) := by decide +kernel
theorem dJ3_checkFromToIndex_8c36e_22 : decode cJ3_checkFromToIndex_8c36e 22 = .ok (.iload_n 0, 1) := by decide +kernel
theorem dJ3_checkFromToIndex_8c36e_23 : decode cJ3_checkFromToIndex_8c36e 23 = .ok (.ireturn, 1) := by decide +kernel
abbrev cL_law : ByteArray := code
theorem dL_law_0 : decode cL_law 0 = .ok (.new 7, 3) := by decide +kernel
theorem dL_law_3 : decode cL_law 3 = .ok (.dup, 1) := by decide +kernel
theorem dL_law_4 : decode cL_law 4 = .ok (.invokespecial 9, 3) := by decide +kernel
theorem dL_law_7 : decode cL_law 7 = .ok (.astore_n 1, 1) := by decide +kernel
theorem dL_law_8 : decode cL_law 8 = .ok (.new 10, 3) := by decide +kernel
theorem dL_law_11 : decode cL_law 11 = .ok (.dup, 1) := by decide +kernel
theorem dL_law_12 : decode cL_law 12 = .ok (.invokespecial 12, 3) := by decide +kernel
theorem dL_law_15 : decode cL_law 15 = .ok (.astore_n 2, 1) := by decide +kernel
theorem dL_law_16 : decode cL_law 16 = .ok (.iconst 0, 1) := by decide +kernel
theorem dL_law_17 : decode cL_law 17 = .ok (.istore_n 3, 1) := by decide +kernel
theorem dL_law_18 : decode cL_law 18 = .ok (.iload_n 3, 1) := by decide +kernel
theorem dL_law_19 : decode cL_law 19 = .ok (.aload_n 0, 1) := by decide +kernel
theorem dL_law_20 : decode cL_law 20 = .ok (.arraylength, 1) := by decide +kernel
theorem dL_law_21 : decode cL_law 21 = .ok (.iconst 5, 1) := by decide +kernel
theorem dL_law_22 : decode cL_law 22 = .ok (.isub, 1) := by decide +kernel
theorem dL_law_23 : decode cL_law 23 = .ok (.if_icmp .gt 721, 3) := by decide +kernel
theorem dL_law_26 : decode cL_law 26 = .ok (.aload_n 0, 1) := by decide +kernel
theorem dL_law_27 : decode cL_law 27 = .ok (.iload_n 3, 1) := by decide +kernel
theorem dL_law_28 : decode cL_law 28 = .ok (.iaload, 1) := by decide +kernel
theorem dL_law_29 : decode cL_law 29 = .ok (.bipush 31, 2) := by decide +kernel
theorem dL_law_31 : decode cL_law 31 = .ok (.iand, 1) := by decide +kernel
theorem dL_law_32 : decode cL_law 32 = .ok (.tableswitch 706 0 19 #[96, 119, 132, 145, 158, 181, 224, 257, 300, 333, 376, 389, 422, 455, 498, 531, 574, 607, 660, 683], 96) := by decide +kernel
theorem dL_law_128 : decode cL_law 128 = .ok (.aload_n 1, 1) := by decide +kernel
theorem dL_law_129 : decode cL_law 129 = .ok (.aload_n 0, 1) := by decide +kernel
theorem dL_law_130 : decode cL_law 130 = .ok (.iload_n 3, 1) := by decide +kernel
theorem dL_law_131 : decode cL_law 131 = .ok (.iconst 1, 1) := by decide +kernel
theorem dL_law_132 : decode cL_law 132 = .ok (.iadd, 1) := by decide +kernel
theorem dL_law_133 : decode cL_law 133 = .ok (.iaload, 1) := by decide +kernel
theorem dL_law_134 : decode cL_law 134 = .ok (.invokevirtual 13, 3) := by decide +kernel
theorem dL_law_137 : decode cL_law 137 = .ok (.aload_n 2, 1) := by decide +kernel
theorem dL_law_138 : decode cL_law 138 = .ok (.aload_n 0, 1) := by decide +kernel
theorem dL_law_139 : decode cL_law 139 = .ok (.iload_n 3, 1) := by decide +kernel
theorem dL_law_140 : decode cL_law 140 = .ok (.iconst 1, 1) := by decide +kernel
theorem dL_law_141 : decode cL_law 141 = .ok (.iadd, 1) := by decide +kernel
theorem dL_law_142 : decode cL_law 142 = .ok (.iaload, 1) := by decide +kernel
theorem dL_law_143 : decode cL_law 143 = .ok (.invokevirtual 17, 3) := by decide +kernel
theorem dL_law_146 : decode cL_law 146 = .ok (.if_icmp .eq 592, 3) := by decide +kernel
theorem dL_law_149 : decode cL_law 149 = .ok (.iconst 0, 1) := by decide +kernel
theorem dL_law_150 : decode cL_law 150 = .ok (.ireturn, 1) := by decide +kernel
theorem dL_law_151 : decode cL_law 151 = .ok (.aload_n 1, 1) := by decide +kernel
theorem dL_law_152 : decode cL_law 152 = .ok (.invokevirtual 18, 3) := by decide +kernel
theorem dL_law_155 : decode cL_law 155 = .ok (.aload_n 2, 1) := by decide +kernel
theorem dL_law_156 : decode cL_law 156 = .ok (.invokevirtual 22, 3) := by decide +kernel
theorem dL_law_159 : decode cL_law 159 = .ok (.if_icmp .eq 579, 3) := by decide +kernel
theorem dL_law_162 : decode cL_law 162 = .ok (.iconst 0, 1) := by decide +kernel
theorem dL_law_163 : decode cL_law 163 = .ok (.ireturn, 1) := by decide +kernel
theorem dL_law_164 : decode cL_law 164 = .ok (.aload_n 1, 1) := by decide +kernel
theorem dL_law_165 : decode cL_law 165 = .ok (.invokevirtual 23, 3) := by decide +kernel
theorem dL_law_168 : decode cL_law 168 = .ok (.aload_n 2, 1) := by decide +kernel
theorem dL_law_169 : decode cL_law 169 = .ok (.invokevirtual 26, 3) := by decide +kernel
theorem dL_law_172 : decode cL_law 172 = .ok (.if_icmp .eq 566, 3) := by decide +kernel
theorem dL_law_175 : decode cL_law 175 = .ok (.iconst 0, 1) := by decide +kernel
theorem dL_law_176 : decode cL_law 176 = .ok (.ireturn, 1) := by decide +kernel
theorem dL_law_177 : decode cL_law 177 = .ok (.aload_n 1, 1) := by decide +kernel
theorem dL_law_178 : decode cL_law 178 = .ok (.invokevirtual 27, 3) := by decide +kernel
theorem dL_law_181 : decode cL_law 181 = .ok (.aload_n 2, 1) := by decide +kernel
theorem dL_law_182 : decode cL_law 182 = .ok (.invokevirtual 30, 3) := by decide +kernel
theorem dL_law_185 : decode cL_law 185 = .ok (.if_icmp .eq 553, 3) := by decide +kernel
theorem dL_law_188 : decode cL_law 188 = .ok (.iconst 0, 1) := by decide +kernel
theorem dL_law_189 : decode cL_law 189 = .ok (.ireturn, 1) := by decide +kernel
theorem dL_law_190 : decode cL_law 190 = .ok (.aload_n 1, 1) := by decide +kernel
theorem dL_law_191 : decode cL_law 191 = .ok (.aload_n 0, 1) := by decide +kernel
theorem dL_law_192 : decode cL_law 192 = .ok (.iload_n 3, 1) := by decide +kernel
theorem dL_law_193 : decode cL_law 193 = .ok (.iconst 1, 1) := by decide +kernel
theorem dL_law_194 : decode cL_law 194 = .ok (.iadd, 1) := by decide +kernel
theorem dL_law_195 : decode cL_law 195 = .ok (.iaload, 1) := by decide +kernel
theorem dL_law_196 : decode cL_law 196 = .ok (.invokevirtual 31, 3) := by decide +kernel
theorem dL_law_199 : decode cL_law 199 = .ok (.aload_n 2, 1) := by decide +kernel
theorem dL_law_200 : decode cL_law 200 = .ok (.aload_n 0, 1) := by decide +kernel
theorem dL_law_201 : decode cL_law 201 = .ok (.iload_n 3, 1) := by decide +kernel
theorem dL_law_202 : decode cL_law 202 = .ok (.iconst 1, 1) := by decide +kernel
theorem dL_law_203 : decode cL_law 203 = .ok (.iadd, 1) := by decide +kernel
theorem dL_law_204 : decode cL_law 204 = .ok (.iaload, 1) := by decide +kernel
theorem dL_law_205 : decode cL_law 205 = .ok (.invokevirtual 34, 3) := by decide +kernel
theorem dL_law_208 : decode cL_law 208 = .ok (.if_icmp .eq 530, 3) := by decide +kernel
theorem dL_law_211 : decode cL_law 211 = .ok (.iconst 0, 1) := by decide +kernel
theorem dL_law_212 : decode cL_law 212 = .ok (.ireturn, 1) := by decide +kernel
theorem dL_law_213 : decode cL_law 213 = .ok (.aload_n 1, 1) := by decide +kernel
theorem dL_law_214 : decode cL_law 214 = .ok (.aload_n 0, 1) := by decide +kernel
theorem dL_law_215 : decode cL_law 215 = .ok (.iload_n 3, 1) := by decide +kernel
theorem dL_law_216 : decode cL_law 216 = .ok (.iconst 1, 1) := by decide +kernel
theorem dL_law_217 : decode cL_law 217 = .ok (.iadd, 1) := by decide +kernel
theorem dL_law_218 : decode cL_law 218 = .ok (.iaload, 1) := by decide +kernel
theorem dL_law_219 : decode cL_law 219 = .ok (.aload_n 0, 1) := by decide +kernel
theorem dL_law_220 : decode cL_law 220 = .ok (.iload_n 3, 1) := by decide +kernel
theorem dL_law_221 : decode cL_law 221 = .ok (.iconst 2, 1) := by decide +kernel
theorem dL_law_222 : decode cL_law 222 = .ok (.iadd, 1) := by decide +kernel
theorem dL_law_223 : decode cL_law 223 = .ok (.iaload, 1) := by decide +kernel
theorem dL_law_224 : decode cL_law 224 = .ok (.aload_n 0, 1) := by decide +kernel
theorem dL_law_225 : decode cL_law 225 = .ok (.iload_n 3, 1) := by decide +kernel
theorem dL_law_226 : decode cL_law 226 = .ok (.iconst 3, 1) := by decide +kernel
theorem dL_law_227 : decode cL_law 227 = .ok (.iadd, 1) := by decide +kernel
theorem dL_law_228 : decode cL_law 228 = .ok (.iaload, 1) := by decide +kernel
theorem dL_law_229 : decode cL_law 229 = .ok (.invokevirtual 35, 3) := by decide +kernel
theorem dL_law_232 : decode cL_law 232 = .ok (.aload_n 2, 1) := by decide +kernel
theorem dL_law_233 : decode cL_law 233 = .ok (.aload_n 0, 1) := by decide +kernel
theorem dL_law_234 : decode cL_law 234 = .ok (.iload_n 3, 1) := by decide +kernel
theorem dL_law_235 : decode cL_law 235 = .ok (.iconst 1, 1) := by decide +kernel
theorem dL_law_236 : decode cL_law 236 = .ok (.iadd, 1) := by decide +kernel
theorem dL_law_237 : decode cL_law 237 = .ok (.iaload, 1) := by decide +kernel
theorem dL_law_238 : decode cL_law 238 = .ok (.aload_n 0, 1) := by decide +kernel
theorem dL_law_239 : decode cL_law 239 = .ok (.iload_n 3, 1) := by decide +kernel
theorem dL_law_240 : decode cL_law 240 = .ok (.iconst 2, 1) := by decide +kernel
theorem dL_law_241 : decode cL_law 241 = .ok (.iadd, 1) := by decide +kernel
theorem dL_law_242 : decode cL_law 242 = .ok (.iaload, 1) := by decide +kernel
theorem dL_law_243 : decode cL_law 243 = .ok (.aload_n 0, 1) := by decide +kernel
theorem dL_law_244 : decode cL_law 244 = .ok (.iload_n 3, 1) := by decide +kernel
theorem dL_law_245 : decode cL_law 245 = .ok (.iconst 3, 1) := by decide +kernel
theorem dL_law_246 : decode cL_law 246 = .ok (.iadd, 1) := by decide +kernel
theorem dL_law_247 : decode cL_law 247 = .ok (.iaload, 1) := by decide +kernel
theorem dL_law_248 : decode cL_law 248 = .ok (.invokevirtual 39, 3) := by decide +kernel
theorem dL_law_251 : decode cL_law 251 = .ok (.if_icmp .eq 487, 3) := by decide +kernel
theorem dL_law_254 : decode cL_law 254 = .ok (.iconst 0, 1) := by decide +kernel
theorem dL_law_255 : decode cL_law 255 = .ok (.ireturn, 1) := by decide +kernel
theorem dL_law_256 : decode cL_law 256 = .ok (.aload_n 1, 1) := by decide +kernel
theorem dL_law_257 : decode cL_law 257 = .ok (.aload_n 0, 1) := by decide +kernel
theorem dL_law_258 : decode cL_law 258 = .ok (.iload_n 3, 1) := by decide +kernel
theorem dL_law_259 : decode cL_law 259 = .ok (.iconst 1, 1) := by decide +kernel
theorem dL_law_260 : decode cL_law 260 = .ok (.iadd, 1) := by decide +kernel
theorem dL_law_261 : decode cL_law 261 = .ok (.iaload, 1) := by decide +kernel
theorem dL_law_262 : decode cL_law 262 = .ok (.aload_n 0, 1) := by decide +kernel
theorem dL_law_263 : decode cL_law 263 = .ok (.iload_n 3, 1) := by decide +kernel
theorem dL_law_264 : decode cL_law 264 = .ok (.iconst 2, 1) := by decide +kernel
theorem dL_law_265 : decode cL_law 265 = .ok (.iadd, 1) := by decide +kernel
theorem dL_law_266 : decode cL_law 266 = .ok (.iaload, 1) := by decide +kernel
theorem dL_law_267 : decode cL_law 267 = .ok (.invokevirtual 40, 3) := by decide +kernel
theorem dL_law_270 : decode cL_law 270 = .ok (.aload_n 2, 1) := by decide +kernel
theorem dL_law_271 : decode cL_law 271 = .ok (.aload_n 0, 1) := by decide +kernel
theorem dL_law_272 : decode cL_law 272 = .ok (.iload_n 3, 1) := by decide +kernel
theorem dL_law_273 : decode cL_law 273 = .ok (.iconst 1, 1) := by decide +kernel
theorem dL_law_274 : decode cL_law 274 = .ok (.iadd, 1) := by decide +kernel
theorem dL_law_275 : decode cL_law 275 = .ok (.iaload, 1) := by decide +kernel
theorem dL_law_276 : decode cL_law 276 = .ok (.aload_n 0, 1) := by decide +kernel
theorem dL_law_277 : decode cL_law 277 = .ok (.iload_n 3, 1) := by decide +kernel
theorem dL_law_278 : decode cL_law 278 = .ok (.iconst 2, 1) := by decide +kernel
theorem dL_law_279 : decode cL_law 279 = .ok (.iadd, 1) := by decide +kernel
theorem dL_law_280 : decode cL_law 280 = .ok (.iaload, 1) := by decide +kernel
theorem dL_law_281 : decode cL_law 281 = .ok (.invokevirtual 44, 3) := by decide +kernel
theorem dL_law_284 : decode cL_law 284 = .ok (.if_icmp .eq 454, 3) := by decide +kernel
theorem dL_law_287 : decode cL_law 287 = .ok (.iconst 0, 1) := by decide +kernel
theorem dL_law_288 : decode cL_law 288 = .ok (.ireturn, 1) := by decide +kernel
theorem dL_law_289 : decode cL_law 289 = .ok (.aload_n 1, 1) := by decide +kernel
theorem dL_law_290 : decode cL_law 290 = .ok (.aload_n 0, 1) := by decide +kernel
theorem dL_law_291 : decode cL_law 291 = .ok (.iload_n 3, 1) := by decide +kernel
theorem dL_law_292 : decode cL_law 292 = .ok (.iconst 1, 1) := by decide +kernel
theorem dL_law_293 : decode cL_law 293 = .ok (.iadd, 1) := by decide +kernel
theorem dL_law_294 : decode cL_law 294 = .ok (.iaload, 1) := by decide +kernel
theorem dL_law_295 : decode cL_law 295 = .ok (.aload_n 0, 1) := by decide +kernel
theorem dL_law_296 : decode cL_law 296 = .ok (.iload_n 3, 1) := by decide +kernel
theorem dL_law_297 : decode cL_law 297 = .ok (.iconst 2, 1) := by decide +kernel
theorem dL_law_298 : decode cL_law 298 = .ok (.iadd, 1) := by decide +kernel
theorem dL_law_299 : decode cL_law 299 = .ok (.iaload, 1) := by decide +kernel
theorem dL_law_300 : decode cL_law 300 = .ok (.aload_n 0, 1) := by decide +kernel
theorem dL_law_301 : decode cL_law 301 = .ok (.iload_n 3, 1) := by decide +kernel
theorem dL_law_302 : decode cL_law 302 = .ok (.iconst 3, 1) := by decide +kernel
theorem dL_law_303 : decode cL_law 303 = .ok (.iadd, 1) := by decide +kernel
theorem dL_law_304 : decode cL_law 304 = .ok (.iaload, 1) := by decide +kernel
theorem dL_law_305 : decode cL_law 305 = .ok (.invokevirtual 45, 3) := by decide +kernel
theorem dL_law_308 : decode cL_law 308 = .ok (.aload_n 2, 1) := by decide +kernel
theorem dL_law_309 : decode cL_law 309 = .ok (.aload_n 0, 1) := by decide +kernel
theorem dL_law_310 : decode cL_law 310 = .ok (.iload_n 3, 1) := by decide +kernel
theorem dL_law_311 : decode cL_law 311 = .ok (.iconst 1, 1) := by decide +kernel
theorem dL_law_312 : decode cL_law 312 = .ok (.iadd, 1) := by decide +kernel
theorem dL_law_313 : decode cL_law 313 = .ok (.iaload, 1) := by decide +kernel
theorem dL_law_314 : decode cL_law 314 = .ok (.aload_n 0, 1) := by decide +kernel
theorem dL_law_315 : decode cL_law 315 = .ok (.iload_n 3, 1) := by decide +kernel
theorem dL_law_316 : decode cL_law 316 = .ok (.iconst 2, 1) := by decide +kernel
theorem dL_law_317 : decode cL_law 317 = .ok (.iadd, 1) := by decide +kernel
theorem dL_law_318 : decode cL_law 318 = .ok (.iaload, 1) := by decide +kernel
theorem dL_law_319 : decode cL_law 319 = .ok (.aload_n 0, 1) := by decide +kernel
theorem dL_law_320 : decode cL_law 320 = .ok (.iload_n 3, 1) := by decide +kernel
theorem dL_law_321 : decode cL_law 321 = .ok (.iconst 3, 1) := by decide +kernel
theorem dL_law_322 : decode cL_law 322 = .ok (.iadd, 1) := by decide +kernel
theorem dL_law_323 : decode cL_law 323 = .ok (.iaload, 1) := by decide +kernel
theorem dL_law_324 : decode cL_law 324 = .ok (.invokevirtual 48, 3) := by decide +kernel
theorem dL_law_327 : decode cL_law 327 = .ok (.if_icmp .eq 411, 3) := by decide +kernel
theorem dL_law_330 : decode cL_law 330 = .ok (.iconst 0, 1) := by decide +kernel
theorem dL_law_331 : decode cL_law 331 = .ok (.ireturn, 1) := by decide +kernel
theorem dL_law_332 : decode cL_law 332 = .ok (.aload_n 1, 1) := by decide +kernel
theorem dL_law_333 : decode cL_law 333 = .ok (.aload_n 0, 1) := by decide +kernel
theorem dL_law_334 : decode cL_law 334 = .ok (.iload_n 3, 1) := by decide +kernel
theorem dL_law_335 : decode cL_law 335 = .ok (.iconst 1, 1) := by decide +kernel
theorem dL_law_336 : decode cL_law 336 = .ok (.iadd, 1) := by decide +kernel
theorem dL_law_337 : decode cL_law 337 = .ok (.iaload, 1) := by decide +kernel
theorem dL_law_338 : decode cL_law 338 = .ok (.aload_n 0, 1) := by decide +kernel
theorem dL_law_339 : decode cL_law 339 = .ok (.iload_n 3, 1) := by decide +kernel
theorem dL_law_340 : decode cL_law 340 = .ok (.iconst 2, 1) := by decide +kernel
theorem dL_law_341 : decode cL_law 341 = .ok (.iadd, 1) := by decide +kernel
theorem dL_law_342 : decode cL_law 342 = .ok (.iaload, 1) := by decide +kernel
theorem dL_law_343 : decode cL_law 343 = .ok (.invokevirtual 49, 3) := by decide +kernel
theorem dL_law_346 : decode cL_law 346 = .ok (.aload_n 2, 1) := by decide +kernel
theorem dL_law_347 : decode cL_law 347 = .ok (.aload_n 0, 1) := by decide +kernel
theorem dL_law_348 : decode cL_law 348 = .ok (.iload_n 3, 1) := by decide +kernel
theorem dL_law_349 : decode cL_law 349 = .ok (.iconst 1, 1) := by decide +kernel
theorem dL_law_350 : decode cL_law 350 = .ok (.iadd, 1) := by decide +kernel
theorem dL_law_351 : decode cL_law 351 = .ok (.iaload, 1) := by decide +kernel
theorem dL_law_352 : decode cL_law 352 = .ok (.aload_n 0, 1) := by decide +kernel
theorem dL_law_353 : decode cL_law 353 = .ok (.iload_n 3, 1) := by decide +kernel
theorem dL_law_354 : decode cL_law 354 = .ok (.iconst 2, 1) := by decide +kernel
theorem dL_law_355 : decode cL_law 355 = .ok (.iadd, 1) := by decide +kernel
theorem dL_law_356 : decode cL_law 356 = .ok (.iaload, 1) := by decide +kernel
theorem dL_law_357 : decode cL_law 357 = .ok (.invokevirtual 52, 3) := by decide +kernel
theorem dL_law_360 : decode cL_law 360 = .ok (.if_icmp .eq 378, 3) := by decide +kernel
theorem dL_law_363 : decode cL_law 363 = .ok (.iconst 0, 1) := by decide +kernel
theorem dL_law_364 : decode cL_law 364 = .ok (.ireturn, 1) := by decide +kernel
theorem dL_law_365 : decode cL_law 365 = .ok (.aload_n 1, 1) := by decide +kernel
theorem dL_law_366 : decode cL_law 366 = .ok (.aload_n 0, 1) := by decide +kernel
theorem dL_law_367 : decode cL_law 367 = .ok (.iload_n 3, 1) := by decide +kernel
theorem dL_law_368 : decode cL_law 368 = .ok (.iconst 1, 1) := by decide +kernel
theorem dL_law_369 : decode cL_law 369 = .ok (.iadd, 1) := by decide +kernel
theorem dL_law_370 : decode cL_law 370 = .ok (.iaload, 1) := by decide +kernel
theorem dL_law_371 : decode cL_law 371 = .ok (.aload_n 0, 1) := by decide +kernel
theorem dL_law_372 : decode cL_law 372 = .ok (.iload_n 3, 1) := by decide +kernel
theorem dL_law_373 : decode cL_law 373 = .ok (.iconst 2, 1) := by decide +kernel
theorem dL_law_374 : decode cL_law 374 = .ok (.iadd, 1) := by decide +kernel
theorem dL_law_375 : decode cL_law 375 = .ok (.iaload, 1) := by decide +kernel
theorem dL_law_376 : decode cL_law 376 = .ok (.aload_n 0, 1) := by decide +kernel
theorem dL_law_377 : decode cL_law 377 = .ok (.iload_n 3, 1) := by decide +kernel
theorem dL_law_378 : decode cL_law 378 = .ok (.iconst 3, 1) := by decide +kernel
theorem dL_law_379 : decode cL_law 379 = .ok (.iadd, 1) := by decide +kernel
theorem dL_law_380 : decode cL_law 380 = .ok (.iaload, 1) := by decide +kernel
theorem dL_law_381 : decode cL_law 381 = .ok (.invokevirtual 53, 3) := by decide +kernel
theorem dL_law_384 : decode cL_law 384 = .ok (.aload_n 2, 1) := by decide +kernel
theorem dL_law_385 : decode cL_law 385 = .ok (.aload_n 0, 1) := by decide +kernel
theorem dL_law_386 : decode cL_law 386 = .ok (.iload_n 3, 1) := by decide +kernel
theorem dL_law_387 : decode cL_law 387 = .ok (.iconst 1, 1) := by decide +kernel
theorem dL_law_388 : decode cL_law 388 = .ok (.iadd, 1) := by decide +kernel
theorem dL_law_389 : decode cL_law 389 = .ok (.iaload, 1) := by decide +kernel
theorem dL_law_390 : decode cL_law 390 = .ok (.aload_n 0, 1) := by decide +kernel
theorem dL_law_391 : decode cL_law 391 = .ok (.iload_n 3, 1) := by decide +kernel
theorem dL_law_392 : decode cL_law 392 = .ok (.iconst 2, 1) := by decide +kernel
theorem dL_law_393 : decode cL_law 393 = .ok (.iadd, 1) := by decide +kernel
theorem dL_law_394 : decode cL_law 394 = .ok (.iaload, 1) := by decide +kernel
theorem dL_law_395 : decode cL_law 395 = .ok (.aload_n 0, 1) := by decide +kernel
theorem dL_law_396 : decode cL_law 396 = .ok (.iload_n 3, 1) := by decide +kernel
theorem dL_law_397 : decode cL_law 397 = .ok (.iconst 3, 1) := by decide +kernel
theorem dL_law_398 : decode cL_law 398 = .ok (.iadd, 1) := by decide +kernel
theorem dL_law_399 : decode cL_law 399 = .ok (.iaload, 1) := by decide +kernel
theorem dL_law_400 : decode cL_law 400 = .ok (.invokevirtual 56, 3) := by decide +kernel
theorem dL_law_403 : decode cL_law 403 = .ok (.if_icmp .eq 335, 3) := by decide +kernel
theorem dL_law_406 : decode cL_law 406 = .ok (.iconst 0, 1) := by decide +kernel
theorem dL_law_407 : decode cL_law 407 = .ok (.ireturn, 1) := by decide +kernel
theorem dL_law_408 : decode cL_law 408 = .ok (.aload_n 1, 1) := by decide +kernel
theorem dL_law_409 : decode cL_law 409 = .ok (.invokevirtual 57, 3) := by decide +kernel
theorem dL_law_412 : decode cL_law 412 = .ok (.aload_n 2, 1) := by decide +kernel
theorem dL_law_413 : decode cL_law 413 = .ok (.invokevirtual 60, 3) := by decide +kernel
theorem dL_law_416 : decode cL_law 416 = .ok (.if_icmp .eq 322, 3) := by decide +kernel
theorem dL_law_419 : decode cL_law 419 = .ok (.iconst 0, 1) := by decide +kernel
theorem dL_law_420 : decode cL_law 420 = .ok (.ireturn, 1) := by decide +kernel
theorem dL_law_421 : decode cL_law 421 = .ok (.aload_n 1, 1) := by decide +kernel
theorem dL_law_422 : decode cL_law 422 = .ok (.aload_n 0, 1) := by decide +kernel
theorem dL_law_423 : decode cL_law 423 = .ok (.iload_n 3, 1) := by decide +kernel
theorem dL_law_424 : decode cL_law 424 = .ok (.iconst 1, 1) := by decide +kernel
theorem dL_law_425 : decode cL_law 425 = .ok (.iadd, 1) := by decide +kernel
theorem dL_law_426 : decode cL_law 426 = .ok (.iaload, 1) := by decide +kernel
theorem dL_law_427 : decode cL_law 427 = .ok (.aload_n 0, 1) := by decide +kernel
theorem dL_law_428 : decode cL_law 428 = .ok (.iload_n 3, 1) := by decide +kernel
theorem dL_law_429 : decode cL_law 429 = .ok (.iconst 2, 1) := by decide +kernel
theorem dL_law_430 : decode cL_law 430 = .ok (.iadd, 1) := by decide +kernel
theorem dL_law_431 : decode cL_law 431 = .ok (.iaload, 1) := by decide +kernel
theorem dL_law_432 : decode cL_law 432 = .ok (.invokevirtual 61, 3) := by decide +kernel
theorem dL_law_435 : decode cL_law 435 = .ok (.aload_n 2, 1) := by decide +kernel
theorem dL_law_436 : decode cL_law 436 = .ok (.aload_n 0, 1) := by decide +kernel
theorem dL_law_437 : decode cL_law 437 = .ok (.iload_n 3, 1) := by decide +kernel
theorem dL_law_438 : decode cL_law 438 = .ok (.iconst 1, 1) := by decide +kernel
theorem dL_law_439 : decode cL_law 439 = .ok (.iadd, 1) := by decide +kernel
theorem dL_law_440 : decode cL_law 440 = .ok (.iaload, 1) := by decide +kernel
theorem dL_law_441 : decode cL_law 441 = .ok (.aload_n 0, 1) := by decide +kernel
theorem dL_law_442 : decode cL_law 442 = .ok (.iload_n 3, 1) := by decide +kernel
theorem dL_law_443 : decode cL_law 443 = .ok (.iconst 2, 1) := by decide +kernel
theorem dL_law_444 : decode cL_law 444 = .ok (.iadd, 1) := by decide +kernel
theorem dL_law_445 : decode cL_law 445 = .ok (.iaload, 1) := by decide +kernel
theorem dL_law_446 : decode cL_law 446 = .ok (.invokevirtual 64, 3) := by decide +kernel
theorem dL_law_449 : decode cL_law 449 = .ok (.if_icmp .eq 289, 3) := by decide +kernel
theorem dL_law_452 : decode cL_law 452 = .ok (.iconst 0, 1) := by decide +kernel
theorem dL_law_453 : decode cL_law 453 = .ok (.ireturn, 1) := by decide +kernel
theorem dL_law_454 : decode cL_law 454 = .ok (.aload_n 1, 1) := by decide +kernel
theorem dL_law_455 : decode cL_law 455 = .ok (.aload_n 0, 1) := by decide +kernel
theorem dL_law_456 : decode cL_law 456 = .ok (.iload_n 3, 1) := by decide +kernel
theorem dL_law_457 : decode cL_law 457 = .ok (.iconst 1, 1) := by decide +kernel
theorem dL_law_458 : decode cL_law 458 = .ok (.iadd, 1) := by decide +kernel
theorem dL_law_459 : decode cL_law 459 = .ok (.iaload, 1) := by decide +kernel
theorem dL_law_460 : decode cL_law 460 = .ok (.aload_n 0, 1) := by decide +kernel
theorem dL_law_461 : decode cL_law 461 = .ok (.iload_n 3, 1) := by decide +kernel
theorem dL_law_462 : decode cL_law 462 = .ok (.iconst 2, 1) := by decide +kernel
theorem dL_law_463 : decode cL_law 463 = .ok (.iadd, 1) := by decide +kernel
theorem dL_law_464 : decode cL_law 464 = .ok (.iaload, 1) := by decide +kernel
theorem dL_law_465 : decode cL_law 465 = .ok (.invokevirtual 65, 3) := by decide +kernel
theorem dL_law_468 : decode cL_law 468 = .ok (.aload_n 2, 1) := by decide +kernel
theorem dL_law_469 : decode cL_law 469 = .ok (.aload_n 0, 1) := by decide +kernel
theorem dL_law_470 : decode cL_law 470 = .ok (.iload_n 3, 1) := by decide +kernel
theorem dL_law_471 : decode cL_law 471 = .ok (.iconst 1, 1) := by decide +kernel
theorem dL_law_472 : decode cL_law 472 = .ok (.iadd, 1) := by decide +kernel
theorem dL_law_473 : decode cL_law 473 = .ok (.iaload, 1) := by decide +kernel
theorem dL_law_474 : decode cL_law 474 = .ok (.aload_n 0, 1) := by decide +kernel
theorem dL_law_475 : decode cL_law 475 = .ok (.iload_n 3, 1) := by decide +kernel
theorem dL_law_476 : decode cL_law 476 = .ok (.iconst 2, 1) := by decide +kernel
theorem dL_law_477 : decode cL_law 477 = .ok (.iadd, 1) := by decide +kernel
theorem dL_law_478 : decode cL_law 478 = .ok (.iaload, 1) := by decide +kernel
theorem dL_law_479 : decode cL_law 479 = .ok (.invokevirtual 68, 3) := by decide +kernel
theorem dL_law_482 : decode cL_law 482 = .ok (.if_icmp .eq 256, 3) := by decide +kernel
theorem dL_law_485 : decode cL_law 485 = .ok (.iconst 0, 1) := by decide +kernel
theorem dL_law_486 : decode cL_law 486 = .ok (.ireturn, 1) := by decide +kernel
theorem dL_law_487 : decode cL_law 487 = .ok (.aload_n 1, 1) := by decide +kernel
theorem dL_law_488 : decode cL_law 488 = .ok (.aload_n 0, 1) := by decide +kernel
theorem dL_law_489 : decode cL_law 489 = .ok (.iload_n 3, 1) := by decide +kernel
theorem dL_law_490 : decode cL_law 490 = .ok (.iconst 1, 1) := by decide +kernel
theorem dL_law_491 : decode cL_law 491 = .ok (.iadd, 1) := by decide +kernel
theorem dL_law_492 : decode cL_law 492 = .ok (.iaload, 1) := by decide +kernel
theorem dL_law_493 : decode cL_law 493 = .ok (.aload_n 0, 1) := by decide +kernel
theorem dL_law_494 : decode cL_law 494 = .ok (.iload_n 3, 1) := by decide +kernel
theorem dL_law_495 : decode cL_law 495 = .ok (.iconst 2, 1) := by decide +kernel
theorem dL_law_496 : decode cL_law 496 = .ok (.iadd, 1) := by decide +kernel
theorem dL_law_497 : decode cL_law 497 = .ok (.iaload, 1) := by decide +kernel
theorem dL_law_498 : decode cL_law 498 = .ok (.aload_n 0, 1) := by decide +kernel
theorem dL_law_499 : decode cL_law 499 = .ok (.iload_n 3, 1) := by decide +kernel
theorem dL_law_500 : decode cL_law 500 = .ok (.iconst 3, 1) := by decide +kernel
theorem dL_law_501 : decode cL_law 501 = .ok (.iadd, 1) := by decide +kernel
theorem dL_law_502 : decode cL_law 502 = .ok (.iaload, 1) := by decide +kernel
theorem dL_law_503 : decode cL_law 503 = .ok (.invokevirtual 69, 3) := by decide +kernel
theorem dL_law_506 : decode cL_law 506 = .ok (.aload_n 2, 1) := by decide +kernel
theorem dL_law_507 : decode cL_law 507 = .ok (.aload_n 0, 1) := by decide +kernel
theorem dL_law_508 : decode cL_law 508 = .ok (.iload_n 3, 1) := by decide +kernel
theorem dL_law_509 : decode cL_law 509 = .ok (.iconst 1, 1) := by decide +kernel
theorem dL_law_510 : decode cL_law 510 = .ok (.iadd, 1) := by decide +kernel
theorem dL_law_511 : decode cL_law 511 = .ok (.iaload, 1) := by decide +kernel
theorem dL_law_512 : decode cL_law 512 = .ok (.aload_n 0, 1) := by decide +kernel
theorem dL_law_513 : decode cL_law 513 = .ok (.iload_n 3, 1) := by decide +kernel
theorem dL_law_514 : decode cL_law 514 = .ok (.iconst 2, 1) := by decide +kernel
theorem dL_law_515 : decode cL_law 515 = .ok (.iadd, 1) := by decide +kernel
theorem dL_law_516 : decode cL_law 516 = .ok (.iaload, 1) := by decide +kernel
theorem dL_law_517 : decode cL_law 517 = .ok (.aload_n 0, 1) := by decide +kernel
theorem dL_law_518 : decode cL_law 518 = .ok (.iload_n 3, 1) := by decide +kernel
theorem dL_law_519 : decode cL_law 519 = .ok (.iconst 3, 1) := by decide +kernel
theorem dL_law_520 : decode cL_law 520 = .ok (.iadd, 1) := by decide +kernel
theorem dL_law_521 : decode cL_law 521 = .ok (.iaload, 1) := by decide +kernel
theorem dL_law_522 : decode cL_law 522 = .ok (.invokevirtual 72, 3) := by decide +kernel
theorem dL_law_525 : decode cL_law 525 = .ok (.if_icmp .eq 213, 3) := by decide +kernel
theorem dL_law_528 : decode cL_law 528 = .ok (.iconst 0, 1) := by decide +kernel
theorem dL_law_529 : decode cL_law 529 = .ok (.ireturn, 1) := by decide +kernel
theorem dL_law_530 : decode cL_law 530 = .ok (.aload_n 1, 1) := by decide +kernel
theorem dL_law_531 : decode cL_law 531 = .ok (.aload_n 0, 1) := by decide +kernel
theorem dL_law_532 : decode cL_law 532 = .ok (.iload_n 3, 1) := by decide +kernel
theorem dL_law_533 : decode cL_law 533 = .ok (.iconst 1, 1) := by decide +kernel
theorem dL_law_534 : decode cL_law 534 = .ok (.iadd, 1) := by decide +kernel
theorem dL_law_535 : decode cL_law 535 = .ok (.iaload, 1) := by decide +kernel
theorem dL_law_536 : decode cL_law 536 = .ok (.aload_n 0, 1) := by decide +kernel
theorem dL_law_537 : decode cL_law 537 = .ok (.iload_n 3, 1) := by decide +kernel
theorem dL_law_538 : decode cL_law 538 = .ok (.iconst 2, 1) := by decide +kernel
theorem dL_law_539 : decode cL_law 539 = .ok (.iadd, 1) := by decide +kernel
theorem dL_law_540 : decode cL_law 540 = .ok (.iaload, 1) := by decide +kernel
theorem dL_law_541 : decode cL_law 541 = .ok (.invokevirtual 73, 3) := by decide +kernel
theorem dL_law_544 : decode cL_law 544 = .ok (.aload_n 2, 1) := by decide +kernel
theorem dL_law_545 : decode cL_law 545 = .ok (.aload_n 0, 1) := by decide +kernel
theorem dL_law_546 : decode cL_law 546 = .ok (.iload_n 3, 1) := by decide +kernel
theorem dL_law_547 : decode cL_law 547 = .ok (.iconst 1, 1) := by decide +kernel
theorem dL_law_548 : decode cL_law 548 = .ok (.iadd, 1) := by decide +kernel
theorem dL_law_549 : decode cL_law 549 = .ok (.iaload, 1) := by decide +kernel
theorem dL_law_550 : decode cL_law 550 = .ok (.aload_n 0, 1) := by decide +kernel
theorem dL_law_551 : decode cL_law 551 = .ok (.iload_n 3, 1) := by decide +kernel
theorem dL_law_552 : decode cL_law 552 = .ok (.iconst 2, 1) := by decide +kernel
theorem dL_law_553 : decode cL_law 553 = .ok (.iadd, 1) := by decide +kernel
theorem dL_law_554 : decode cL_law 554 = .ok (.iaload, 1) := by decide +kernel
theorem dL_law_555 : decode cL_law 555 = .ok (.invokevirtual 76, 3) := by decide +kernel
theorem dL_law_558 : decode cL_law 558 = .ok (.if_icmp .eq 180, 3) := by decide +kernel
theorem dL_law_561 : decode cL_law 561 = .ok (.iconst 0, 1) := by decide +kernel
theorem dL_law_562 : decode cL_law 562 = .ok (.ireturn, 1) := by decide +kernel
theorem dL_law_563 : decode cL_law 563 = .ok (.aload_n 1, 1) := by decide +kernel
theorem dL_law_564 : decode cL_law 564 = .ok (.aload_n 0, 1) := by decide +kernel
theorem dL_law_565 : decode cL_law 565 = .ok (.iload_n 3, 1) := by decide +kernel
theorem dL_law_566 : decode cL_law 566 = .ok (.iconst 1, 1) := by decide +kernel
theorem dL_law_567 : decode cL_law 567 = .ok (.iadd, 1) := by decide +kernel
theorem dL_law_568 : decode cL_law 568 = .ok (.iaload, 1) := by decide +kernel
theorem dL_law_569 : decode cL_law 569 = .ok (.aload_n 0, 1) := by decide +kernel
theorem dL_law_570 : decode cL_law 570 = .ok (.iload_n 3, 1) := by decide +kernel
theorem dL_law_571 : decode cL_law 571 = .ok (.iconst 2, 1) := by decide +kernel
theorem dL_law_572 : decode cL_law 572 = .ok (.iadd, 1) := by decide +kernel
theorem dL_law_573 : decode cL_law 573 = .ok (.iaload, 1) := by decide +kernel
theorem dL_law_574 : decode cL_law 574 = .ok (.aload_n 0, 1) := by decide +kernel
theorem dL_law_575 : decode cL_law 575 = .ok (.iload_n 3, 1) := by decide +kernel
theorem dL_law_576 : decode cL_law 576 = .ok (.iconst 3, 1) := by decide +kernel
theorem dL_law_577 : decode cL_law 577 = .ok (.iadd, 1) := by decide +kernel
theorem dL_law_578 : decode cL_law 578 = .ok (.iaload, 1) := by decide +kernel
theorem dL_law_579 : decode cL_law 579 = .ok (.invokevirtual 77, 3) := by decide +kernel
theorem dL_law_582 : decode cL_law 582 = .ok (.aload_n 2, 1) := by decide +kernel
theorem dL_law_583 : decode cL_law 583 = .ok (.aload_n 0, 1) := by decide +kernel
theorem dL_law_584 : decode cL_law 584 = .ok (.iload_n 3, 1) := by decide +kernel
theorem dL_law_585 : decode cL_law 585 = .ok (.iconst 1, 1) := by decide +kernel
theorem dL_law_586 : decode cL_law 586 = .ok (.iadd, 1) := by decide +kernel
theorem dL_law_587 : decode cL_law 587 = .ok (.iaload, 1) := by decide +kernel
theorem dL_law_588 : decode cL_law 588 = .ok (.aload_n 0, 1) := by decide +kernel
theorem dL_law_589 : decode cL_law 589 = .ok (.iload_n 3, 1) := by decide +kernel
theorem dL_law_590 : decode cL_law 590 = .ok (.iconst 2, 1) := by decide +kernel
theorem dL_law_591 : decode cL_law 591 = .ok (.iadd, 1) := by decide +kernel
theorem dL_law_592 : decode cL_law 592 = .ok (.iaload, 1) := by decide +kernel
theorem dL_law_593 : decode cL_law 593 = .ok (.aload_n 0, 1) := by decide +kernel
theorem dL_law_594 : decode cL_law 594 = .ok (.iload_n 3, 1) := by decide +kernel
theorem dL_law_595 : decode cL_law 595 = .ok (.iconst 3, 1) := by decide +kernel
theorem dL_law_596 : decode cL_law 596 = .ok (.iadd, 1) := by decide +kernel
theorem dL_law_597 : decode cL_law 597 = .ok (.iaload, 1) := by decide +kernel
theorem dL_law_598 : decode cL_law 598 = .ok (.invokevirtual 80, 3) := by decide +kernel
theorem dL_law_601 : decode cL_law 601 = .ok (.if_icmp .eq 137, 3) := by decide +kernel
theorem dL_law_604 : decode cL_law 604 = .ok (.iconst 0, 1) := by decide +kernel
theorem dL_law_605 : decode cL_law 605 = .ok (.ireturn, 1) := by decide +kernel
theorem dL_law_606 : decode cL_law 606 = .ok (.aload_n 1, 1) := by decide +kernel
theorem dL_law_607 : decode cL_law 607 = .ok (.aload_n 0, 1) := by decide +kernel
theorem dL_law_608 : decode cL_law 608 = .ok (.iload_n 3, 1) := by decide +kernel
theorem dL_law_609 : decode cL_law 609 = .ok (.iconst 1, 1) := by decide +kernel
theorem dL_law_610 : decode cL_law 610 = .ok (.iadd, 1) := by decide +kernel
theorem dL_law_611 : decode cL_law 611 = .ok (.iaload, 1) := by decide +kernel
theorem dL_law_612 : decode cL_law 612 = .ok (.aload_n 0, 1) := by decide +kernel
theorem dL_law_613 : decode cL_law 613 = .ok (.iload_n 3, 1) := by decide +kernel
theorem dL_law_614 : decode cL_law 614 = .ok (.iconst 2, 1) := by decide +kernel
theorem dL_law_615 : decode cL_law 615 = .ok (.iadd, 1) := by decide +kernel
theorem dL_law_616 : decode cL_law 616 = .ok (.iaload, 1) := by decide +kernel
theorem dL_law_617 : decode cL_law 617 = .ok (.invokevirtual 81, 3) := by decide +kernel
theorem dL_law_620 : decode cL_law 620 = .ok (.aload_n 2, 1) := by decide +kernel
theorem dL_law_621 : decode cL_law 621 = .ok (.aload_n 0, 1) := by decide +kernel
theorem dL_law_622 : decode cL_law 622 = .ok (.iload_n 3, 1) := by decide +kernel
theorem dL_law_623 : decode cL_law 623 = .ok (.iconst 1, 1) := by decide +kernel
theorem dL_law_624 : decode cL_law 624 = .ok (.iadd, 1) := by decide +kernel
theorem dL_law_625 : decode cL_law 625 = .ok (.iaload, 1) := by decide +kernel
theorem dL_law_626 : decode cL_law 626 = .ok (.aload_n 0, 1) := by decide +kernel
theorem dL_law_627 : decode cL_law 627 = .ok (.iload_n 3, 1) := by decide +kernel
theorem dL_law_628 : decode cL_law 628 = .ok (.iconst 2, 1) := by decide +kernel
theorem dL_law_629 : decode cL_law 629 = .ok (.iadd, 1) := by decide +kernel
theorem dL_law_630 : decode cL_law 630 = .ok (.iaload, 1) := by decide +kernel
theorem dL_law_631 : decode cL_law 631 = .ok (.invokevirtual 84, 3) := by decide +kernel
theorem dL_law_634 : decode cL_law 634 = .ok (.if_icmp .eq 104, 3) := by decide +kernel
theorem dL_law_637 : decode cL_law 637 = .ok (.iconst 0, 1) := by decide +kernel
theorem dL_law_638 : decode cL_law 638 = .ok (.ireturn, 1) := by decide +kernel
theorem dL_law_639 : decode cL_law 639 = .ok (.aload_n 1, 1) := by decide +kernel
theorem dL_law_640 : decode cL_law 640 = .ok (.aload_n 0, 1) := by decide +kernel
theorem dL_law_641 : decode cL_law 641 = .ok (.iload_n 3, 1) := by decide +kernel
theorem dL_law_642 : decode cL_law 642 = .ok (.iconst 1, 1) := by decide +kernel
theorem dL_law_643 : decode cL_law 643 = .ok (.iadd, 1) := by decide +kernel
theorem dL_law_644 : decode cL_law 644 = .ok (.iaload, 1) := by decide +kernel
theorem dL_law_645 : decode cL_law 645 = .ok (.aload_n 0, 1) := by decide +kernel
theorem dL_law_646 : decode cL_law 646 = .ok (.iload_n 3, 1) := by decide +kernel
theorem dL_law_647 : decode cL_law 647 = .ok (.iconst 2, 1) := by decide +kernel
theorem dL_law_648 : decode cL_law 648 = .ok (.iadd, 1) := by decide +kernel
theorem dL_law_649 : decode cL_law 649 = .ok (.iaload, 1) := by decide +kernel
theorem dL_law_650 : decode cL_law 650 = .ok (.aload_n 0, 1) := by decide +kernel
theorem dL_law_651 : decode cL_law 651 = .ok (.iload_n 3, 1) := by decide +kernel
theorem dL_law_652 : decode cL_law 652 = .ok (.iconst 3, 1) := by decide +kernel
theorem dL_law_653 : decode cL_law 653 = .ok (.iadd, 1) := by decide +kernel
theorem dL_law_654 : decode cL_law 654 = .ok (.iaload, 1) := by decide +kernel
theorem dL_law_655 : decode cL_law 655 = .ok (.aload_n 0, 1) := by decide +kernel
theorem dL_law_656 : decode cL_law 656 = .ok (.iload_n 3, 1) := by decide +kernel
theorem dL_law_657 : decode cL_law 657 = .ok (.iconst 4, 1) := by decide +kernel
theorem dL_law_658 : decode cL_law 658 = .ok (.iadd, 1) := by decide +kernel
theorem dL_law_659 : decode cL_law 659 = .ok (.iaload, 1) := by decide +kernel
theorem dL_law_660 : decode cL_law 660 = .ok (.invokevirtual 85, 3) := by decide +kernel
theorem dL_law_663 : decode cL_law 663 = .ok (.aload_n 2, 1) := by decide +kernel
theorem dL_law_664 : decode cL_law 664 = .ok (.aload_n 0, 1) := by decide +kernel
theorem dL_law_665 : decode cL_law 665 = .ok (.iload_n 3, 1) := by decide +kernel
theorem dL_law_666 : decode cL_law 666 = .ok (.iconst 1, 1) := by decide +kernel
theorem dL_law_667 : decode cL_law 667 = .ok (.iadd, 1) := by decide +kernel
theorem dL_law_668 : decode cL_law 668 = .ok (.iaload, 1) := by decide +kernel
theorem dL_law_669 : decode cL_law 669 = .ok (.aload_n 0, 1) := by decide +kernel
theorem dL_law_670 : decode cL_law 670 = .ok (.iload_n 3, 1) := by decide +kernel
theorem dL_law_671 : decode cL_law 671 = .ok (.iconst 2, 1) := by decide +kernel
theorem dL_law_672 : decode cL_law 672 = .ok (.iadd, 1) := by decide +kernel
theorem dL_law_673 : decode cL_law 673 = .ok (.iaload, 1) := by decide +kernel
theorem dL_law_674 : decode cL_law 674 = .ok (.aload_n 0, 1) := by decide +kernel
theorem dL_law_675 : decode cL_law 675 = .ok (.iload_n 3, 1) := by decide +kernel
theorem dL_law_676 : decode cL_law 676 = .ok (.iconst 3, 1) := by decide +kernel
theorem dL_law_677 : decode cL_law 677 = .ok (.iadd, 1) := by decide +kernel
theorem dL_law_678 : decode cL_law 678 = .ok (.iaload, 1) := by decide +kernel
theorem dL_law_679 : decode cL_law 679 = .ok (.aload_n 0, 1) := by decide +kernel
theorem dL_law_680 : decode cL_law 680 = .ok (.iload_n 3, 1) := by decide +kernel
theorem dL_law_681 : decode cL_law 681 = .ok (.iconst 4, 1) := by decide +kernel
theorem dL_law_682 : decode cL_law 682 = .ok (.iadd, 1) := by decide +kernel
theorem dL_law_683 : decode cL_law 683 = .ok (.iaload, 1) := by decide +kernel
theorem dL_law_684 : decode cL_law 684 = .ok (.invokevirtual 89, 3) := by decide +kernel
theorem dL_law_687 : decode cL_law 687 = .ok (.if_icmp .eq 51, 3) := by decide +kernel
theorem dL_law_690 : decode cL_law 690 = .ok (.iconst 0, 1) := by decide +kernel
theorem dL_law_691 : decode cL_law 691 = .ok (.ireturn, 1) := by decide +kernel
theorem dL_law_692 : decode cL_law 692 = .ok (.aload_n 1, 1) := by decide +kernel
theorem dL_law_693 : decode cL_law 693 = .ok (.aload_n 0, 1) := by decide +kernel
theorem dL_law_694 : decode cL_law 694 = .ok (.iload_n 3, 1) := by decide +kernel
theorem dL_law_695 : decode cL_law 695 = .ok (.iconst 1, 1) := by decide +kernel
theorem dL_law_696 : decode cL_law 696 = .ok (.iadd, 1) := by decide +kernel
theorem dL_law_697 : decode cL_law 697 = .ok (.iaload, 1) := by decide +kernel
theorem dL_law_698 : decode cL_law 698 = .ok (.invokevirtual 90, 3) := by decide +kernel
theorem dL_law_701 : decode cL_law 701 = .ok (.aload_n 2, 1) := by decide +kernel
theorem dL_law_702 : decode cL_law 702 = .ok (.aload_n 0, 1) := by decide +kernel
theorem dL_law_703 : decode cL_law 703 = .ok (.iload_n 3, 1) := by decide +kernel
theorem dL_law_704 : decode cL_law 704 = .ok (.iconst 1, 1) := by decide +kernel
theorem dL_law_705 : decode cL_law 705 = .ok (.iadd, 1) := by decide +kernel
theorem dL_law_706 : decode cL_law 706 = .ok (.iaload, 1) := by decide +kernel
theorem dL_law_707 : decode cL_law 707 = .ok (.invokevirtual 93, 3) := by decide +kernel
theorem dL_law_710 : decode cL_law 710 = .ok (.if_icmp .eq 28, 3) := by decide +kernel
theorem dL_law_713 : decode cL_law 713 = .ok (.iconst 0, 1) := by decide +kernel
theorem dL_law_714 : decode cL_law 714 = .ok (.ireturn, 1) := by decide +kernel
theorem dL_law_715 : decode cL_law 715 = .ok (.aload_n 1, 1) := by decide +kernel
theorem dL_law_716 : decode cL_law 716 = .ok (.aload_n 0, 1) := by decide +kernel
theorem dL_law_717 : decode cL_law 717 = .ok (.iload_n 3, 1) := by decide +kernel
theorem dL_law_718 : decode cL_law 718 = .ok (.iconst 1, 1) := by decide +kernel
theorem dL_law_719 : decode cL_law 719 = .ok (.iadd, 1) := by decide +kernel
theorem dL_law_720 : decode cL_law 720 = .ok (.iaload, 1) := by decide +kernel
theorem dL_law_721 : decode cL_law 721 = .ok (.invokevirtual 94, 3) := by decide +kernel
theorem dL_law_724 : decode cL_law 724 = .ok (.aload_n 2, 1) := by decide +kernel
theorem dL_law_725 : decode cL_law 725 = .ok (.aload_n 0, 1) := by decide +kernel
theorem dL_law_726 : decode cL_law 726 = .ok (.iload_n 3, 1) := by decide +kernel
theorem dL_law_727 : decode cL_law 727 = .ok (.iconst 1, 1) := by decide +kernel
theorem dL_law_728 : decode cL_law 728 = .ok (.iadd, 1) := by decide +kernel
theorem dL_law_729 : decode cL_law 729 = .ok (.iaload, 1) := by decide +kernel
theorem dL_law_730 : decode cL_law 730 = .ok (.invokevirtual 97, 3) := by decide +kernel
theorem dL_law_733 : decode cL_law 733 = .ok (.if_icmp .eq 5, 3) := by decide +kernel
theorem dL_law_736 : decode cL_law 736 = .ok (.iconst 0, 1) := by decide +kernel
theorem dL_law_737 : decode cL_law 737 = .ok (.ireturn, 1) := by decide +kernel
theorem dL_law_738 : decode cL_law 738 = .ok (.iinc 3 5, 3) := by decide +kernel
theorem dL_law_741 : decode cL_law 741 = .ok (.goto (-723), 3) := by decide +kernel
theorem dL_law_744 : decode cL_law 744 = .ok (.iconst 1, 1) := by decide +kernel
theorem dL_law_745 : decode cL_law 745 = .ok (.ireturn, 1) := by decide +kernel
end
section
/-! ===== the world as one memory: cells by their place behind the base; ints as integers; a judgement WP over it, a row an instruction ===== -/
def gtbl : List Cond := lw_tbl.filter goodWord
theorem gt_in {w : Cond} (h : w ∈ lw_tbl) (hg : goodWord w = true) : w ∈ gtbl := List.mem_filter.mpr ⟨h, hg⟩
theorem gt_ok : ∀ w ∈ gtbl, (w.onTables && w.keeps) = true ∨ ∃ ty, w = .arrayClass ty := fun _ h => good_of_word (List.mem_filter.mp h).2
def isNest : Cond → Bool
  | .fieldLinkNest .. => true
  | .methodLinkNest .. => true
  | _ => false
def ntbl : List Cond := tables_1.filter isNest
def Nw (U : State) : Prop := ∀ w ∈ ntbl, va_Nw w U
theorem Nw.warm {s U : State} (hW : s.WarmedH U.vm) (h : Nw s) : Nw U := by
  intro w hw
  have h1 := h w hw
  have h2 := (List.mem_filter.mp hw).2
  cases w <;> first | exact va_Nw.warmF hW h1 | exact va_Nw.warmM hW h1 | (simp [isNest] at h2)
theorem Nw.same {u U : State} (hv : u.vm = U.vm) (h : Nw u) : Nw U := by
  intro w hw
  have h1 := h w hw
  have h2 := (List.mem_filter.mp hw).2
  cases w <;> first | exact va_Nw.same rfl hv h1 | (simp [isNest] at h2)
abbrev Mem : Type := (Nat → Nat → Int) × (Nat → Nat → Nat)
abbrev Ctx : Type := Launch × Nat × va_G × (Nat → ClassId) × (Nat → Nat) × (Nat → Nat)
abbrev gl (g : Ctx) : Launch := g.1
abbrev gB (g : Ctx) : Nat := g.2.1
abbrev gD (g : Ctx) : va_G := g.2.2.1
abbrev gcy (g : Ctx) : Nat → ClassId := g.2.2.2.1
abbrev gK (g : Ctx) : Nat → Nat := g.2.2.2.2.1
abbrev gV (g : Ctx) : Nat → Nat := g.2.2.2.2.2
def gA (g : Ctx) : Nat → Prop := fun q => gB g ≤ q
def gtys (g : Ctx) : List (ClassId × FieldType) := [(gcy g 0, .int), (gcy g 1, .char), (gcy g 2, .object "SendRules$Rule"), (gcy g 3, .object "SendRules$Domain"), (gcy g 4, .object "SendRules$KeptCheck"), (gcy g 5, .object "SendRules$Change")]
abbrev classes : List vw_C := [(RX0, TX0, 4), (RX1, TX1, 11), (RX2, TX2, 10), (RX3, TX3, 2), (RX4, TX4, 1), (RX5, TX5, 2), (RX6, TX6, 2), (RX7, TX7, 4), (RX8, TX8, 2), (RX9, TX9, 7), (RX10, TX10, 6), (RX11, TX11, 48)]
def gI (M : Mem) (a k : Nat) : Int := M.1 a k
def gP (M : Mem) (a k : Nat) : Nat := M.2 a k
def sI (M : Mem) (a k : Nat) (v : Int) : Mem := (fun b j => if b = a ∧ j = k then v else M.1 b j, M.2)
def sP (M : Mem) (a k : Nat) (v : Nat) : Mem := (M.1, fun b j => if b = a ∧ j = k then v else M.2 b j)
theorem gI_sI (M : Mem) (a k : Nat) (v : Int) (b j : Nat) : gI (sI M a k v) b j = if b = a ∧ j = k then v else gI M b j := rfl
theorem gI_sP (M : Mem) (a k v b j : Nat) : gI (sP M a k v) b j = gI M b j := rfl
theorem gP_sI (M : Mem) (a k : Nat) (v : Int) (b j : Nat) : gP (sI M a k v) b j = gP M b j := rfl
theorem gP_sP (M : Mem) (a k v b j : Nat) : gP (sP M a k v) b j = if b = a ∧ j = k then v else gP M b j := rfl
abbrev InR (x : Int) : Prop := -2147483648 ≤ x ∧ x ≤ 2147483647
def vi (x : Int) : Value := .int (Int32.ofInt x)
def vr (g : Ctx) (a : Nat) : Value := .ref (gB g + a)
def oq (g : Ctx) (p : Nat) : Option Nat := if p = 0 then none else some (gB g + p)
def vq (g : Ctx) (p : Nat) : Value := va_rf (oq g p)
/-- shapes: an object (its class; a field is an int, a moving reference, or a fixed one), or an array (its kind, its length) -/
abbrev Shp : Type := (Nat × List (Option (Option Nat))) ⊕ (Nat × Nat)
def shpDom (d c : Nat) : Shp :=
  if c = 0 then .inl (1, [none, some (some (d + 1)), none, none, some (some (d + 2)), none, none, some (some (d + 3)), none, some (some (d + 4)), none])
  else if c = 1 then .inr (0, 7) else if c = 2 then .inr (2, 8) else if c = 3 then .inr (0, 4) else if c = 4 then .inr (0, 3)
  else if c % 2 = 1 then .inl (9, [none, none, none, none, none, some (some (d + c + 1)), none]) else .inr (0, 8)
def shpRec (b o : Nat) : Shp :=
  if o = 0 then .inl (8, [some (some (b + 1)), none]) else if o = 1 then .inr (3, 12)
  else shpDom (b + 2 + 21 * ((o - 2) / 21)) ((o - 2) % 21)
def mLen : List Nat := [240, 12, 12, 12, 12, 36, 96, 96, 96, 96, 96, 768, 252, 1008, 12, 12, 12, 12, 36, 96, 96, 96, 96, 96, 768, 96, 12, 48, 32, 12, 12, 7]
def mFld : List (Option (Option Nat)) := [none, some (some 531), none, some (some 532), some (some 533), some (some 534), some (some 535), some (some 536), some (some 537), some (some 538), some (some 539), some (some 540), some (some 541), some (some 542), some (some 543), some (some 544), none, none, some (some 545), some (some 546), some (some 547), some (some 548), some (some 549), some (some 550), some (some 551), some (some 552), some (some 553), some (some 554), some (some 555), some (some 556), some (some 557), some (some 558), none, none, none, some (some 559), none, none, none, none, none, none, none, some (some 560), some (some 561), none, some (some 562), none]
def shp (a : Nat) : Shp :=
  if a < 4 then (if a = 0 then .inl (10, [some (some 1), some none, some none, some (some 258), some (some 260), some (some 270)]) else if a = 1 then .inl (7, [some (some 2), none, none, some (some 3)]) else if a = 2 then .inr (1, 240) else .inl (6, [none, none]))
  else if a < 258 then shpRec 4 (a - 4)
  else if a < 276 then (if a = 258 then .inl (2, [some none, some none, none, none, none, none, none, none, none, some (some 259)]) else if a = 259 then .inl (6, [none, none]) else if a = 260 then .inl (5, [some (some 261), none]) else if a = 261 then .inr (4, 4)
    else if a < 270 then (if a % 2 = 0 then .inl (4, [some (some (a + 1))]) else .inr (0, 8)) else if a = 270 then .inl (3, [some (some 271), none]) else if a = 271 then .inr (5, 4) else .inl (0, [none, none, none, none]))
  else if a < 530 then shpRec 276 (a - 276)
  else if a = 530 then .inl (11, mFld)
  else .inr (0, mLen.getD (a - 531) 0)
def fvl (g : Ctx) (M : Mem) (a k : Nat) (kd : Option (Option Nat)) : Value := match kd with
  | none => .int (Int32.ofInt (M.1 a k))
  | some none => va_rf (oq g (M.2 a k))
  | some (some p) => .ref (gB g + p)
def arrOf (g : Ctx) (M : Mem) (a t n : Nat) : vp_A := (n, if t < 2 then .inl (fun j => Int32.ofInt (M.1 a j)) else .inr (.inr (.inr (.inr (fun j => oq g (M.2 a j))))))
def cellOf (g : Ctx) (M : Mem) (a : Nat) : va_E := match shp a with
  | .inl o => .inr (o.1, o.2.mapIdx (fvl g M a))
  | .inr r => .inl (gcy g r.1, arrOf g M a r.1 r.2)
def adr (g : Ctx) (N : Nat) : List Nat := (List.range N).map (fun a => gB g + a)
def wsN (g : Ctx) (N : Nat) (M : Mem) : va_W := va_pl (adr g N) (fun q => cellOf g M (q - gB g))
theorem adr_in {g : Ctx} {N a : Nat} (h : a < N) : gB g + a ∈ adr g N := List.mem_map.mpr ⟨a, List.mem_range.mpr h, rfl⟩
theorem ws_get (g : Ctx) (N : Nat) (M : Mem) {a : Nat} (h : a < N) : ∃ k : Nat, (wsN g N M)[k]? = some (gB g + a, cellOf g M a) := by
  obtain ⟨k, hk⟩ := va_pl_get (X := []) (f := fun q => cellOf g M (q - gB g)) (adr_in (g := g) h)
  refine ⟨k, ?_⟩
  have e : gB g + a - gB g = a := by omega
  simp only [e, List.nil_append] at hk
  exact hk
theorem ws_D (g : Ctx) (N : Nat) (M : Mem) : va_D (gA g) (wsN g N M) := by
  have key : ∀ (k : Nat) (q : Nat × va_E), (wsN g N M)[k]? = some q → q.1 = gB g + k := by
    intro k q hk
    simp only [wsN, va_pl, adr, List.getElem?_map] at hk
    by_cases hN : k < N
    · simp [List.getElem?_range hN] at hk
      rw [← hk]
    · simp [List.getElem?_eq_none (show (List.range N).length ≤ k by simp; omega)] at hk
  refine ⟨fun i j p q hi hj hpq => ?_, fun k q hk => ?_⟩
  · have h1 := key i p hi
    have h2 := key j q hj
    omega
  · have h1 := key k q hk
    show gB g ≤ q.1
    omega
theorem ws_set (g : Ctx) {N : Nat} {M M' : Mem} {a k : Nat} {e : va_E} (h : a < N) (hk : (wsN g N M)[k]? = some (gB g + a, cellOf g M a)) (he : cellOf g M' a = e) (ho : ∀ b, b ≠ a → cellOf g M' b = cellOf g M b) : (wsN g N M).set k (gB g + a, e) = wsN g N M' := by
  have e0 : gB g + a - gB g = a := by omega
  have h1 := va_pl_set (X := []) (L := adr g N) (f := fun q => cellOf g M (q - gB g)) (a := gB g + a) (k := k) (e := e) (ws_D g N M) (adr_in h) (by simp only [e0, List.nil_append]; exact hk)
  simp only [List.nil_append] at h1
  unfold wsN
  rw [h1]
  unfold va_pl adr
  refine List.map_congr_left fun q hq => ?_
  obtain ⟨b, hb, rfl⟩ := List.mem_map.mp hq
  have e1 : gB g + b - gB g = b := by omega
  by_cases hab : b = a
  · subst hab
    simp only [va_up, if_true, e1, he]
  · have hne : gB g + b ≠ gB g + a := by omega
    simp only [va_up, if_neg hne, e1, ho b hab]
theorem cell_oI (g : Ctx) (M : Mem) (a k : Nat) (v : Int) {b : Nat} (h : b ≠ a) : cellOf g (sI M a k v) b = cellOf g M b := by
  have e1 : ∀ j, (sI M a k v).1 b j = M.1 b j := fun j => by simp [sI, h]
  have e2 : fvl g (sI M a k v) b = fvl g M b := by
    funext j kd
    cases kd with
    | none => simp only [fvl, e1]
    | some q => cases q <;> rfl
  unfold cellOf
  cases shp b with
  | inl o => simp only [e2]
  | inr r => simp only [arrOf, e1]; rfl
theorem cell_oP (g : Ctx) (M : Mem) (a k v : Nat) {b : Nat} (h : b ≠ a) : cellOf g (sP M a k v) b = cellOf g M b := by
  have e1 : ∀ j, (sP M a k v).2 b j = M.2 b j := fun j => by simp [sP, h]
  have e2 : fvl g (sP M a k v) b = fvl g M b := by
    funext j kd
    cases kd with
    | none => rfl
    | some q => cases q <;> simp only [fvl, e1]
  unfold cellOf
  cases shp b with
  | inl o => simp only [e2]
  | inr r => simp only [arrOf, e1]; rfl
theorem flds_setI (g : Ctx) (M : Mem) (a k : Nat) (v : Int) (ks : List (Option (Option Nat))) (h : ks[k]? = some none) : (ks.mapIdx (fvl g M a)).set k (vi v) = ks.mapIdx (fvl g (sI M a k v) a) := by
  apply List.ext_getElem?
  intro j
  rw [List.getElem?_set]
  simp only [List.getElem?_mapIdx, List.length_mapIdx]
  by_cases hj : k = j
  · subst hj
    have hl := (List.getElem?_eq_some_iff.mp h).1
    rw [if_pos rfl, if_pos (by simpa using hl), h]
    simp [fvl, sI, vi]
  · rw [if_neg hj]
    cases ks[j]? with
    | none => rfl
    | some kd => cases kd with
      | none => simp [fvl, sI, Ne.symm hj]
      | some q => cases q <;> rfl
theorem flds_setP (g : Ctx) (M : Mem) (a k v : Nat) (ks : List (Option (Option Nat))) (h : ks[k]? = some (some none)) : (ks.mapIdx (fvl g M a)).set k (vq g v) = ks.mapIdx (fvl g (sP M a k v) a) := by
  apply List.ext_getElem?
  intro j
  rw [List.getElem?_set]
  simp only [List.getElem?_mapIdx, List.length_mapIdx]
  by_cases hj : k = j
  · subst hj
    have hl := (List.getElem?_eq_some_iff.mp h).1
    rw [if_pos rfl, if_pos (by simpa using hl), h]
    simp [fvl, sP, vq]
  · rw [if_neg hj]
    cases ks[j]? with
    | none => rfl
    | some kd => cases kd with
      | none => rfl
      | some q => cases q <;> simp [fvl, sP, Ne.symm hj]
/-- the kinds of places -/
def isRec (b : Nat) : Prop := b = 4 ∨ b = 276
def isDom (d : Nat) : Prop := ∃ b q, isRec b ∧ q < 12 ∧ d = b + 2 + 21 * q
def isRul (r : Nat) : Prop := ∃ d i, isDom d ∧ i < 8 ∧ r = d + 5 + 2 * i
def isKc (k : Nat) : Prop := ∃ i, i < 4 ∧ k = 262 + 2 * i
def isCh (c : Nat) : Prop := ∃ i, i < 4 ∧ c = 272 + i
def isMk (c : Nat) : Prop := c = 3 ∨ c = 259
/-- ints are in range, rows of references hold what they must -/
def WT (M : Mem) : Prop := (∀ a k, InR (M.1 a k)) ∧ (∀ b k, isRec b → k < 12 → isDom (M.2 (b + 1) k)) ∧ (∀ d k, isDom d → k < 8 → isRul (M.2 (d + 2) k)) ∧ (∀ k, k < 4 → isKc (M.2 261 k)) ∧ (∀ k, k < 4 → isCh (M.2 271 k))
end
section
def sTx : String := "nab:+p128/2,+iac,~had,-a;nac:?p0/7,+mab,\x72eb;neb:+e%2d%l,-a;aad:7,200;xab:ad,eb;aab:9;aebb:1;"
def sLen : List Nat := [92, 4, 6, 4]
def sByt : List (List Int32) := [[110, 97, 98, 58, 43, 112, 49, 50, 56, 47, 50, 44, 43, 105, 97, 99, 44, 126, 104, 97, 100, 44, 45, 97, 59, 110, 97, 99, 58, 63, 112, 48, 47, 55, 44, 43, 109, 97, 98, 44, 114, 101, 98, 59, 110, 101, 98, 58, 43, 101, 37, 50, 100, 37, 108, 44, 45, 97, 59, 97, 97, 100, 58, 55, 44, 50, 48, 48, 59, 120, 97, 98, 58, 97, 100, 44, 101, 98, 59, 97, 97, 98, 58, 57, 59, 97, 101, 98, 98, 58, 49, 59], [43, 45, 126, 63], [97, 112, 105, 104, 109, 101], [100, 111, 115, 108]]
/-- the text constants, and that texts are compact -/
def Str (g : Ctx) (U : State) (H : Heap) : Prop := vk_S 4 sLen sByt (gK g) (gV g) (gA g) U H ∧ (vk_R "SendRules" 44 sTx (gK g 0) U ∧ vk_R "SendRules" 119 "+-~?" (gK g 1) U ∧ vk_R "SendRules$Reader" 98 "+-~?" (gK g 1) U ∧ vk_R "SendRules$Reader" 105 "apihme" (gK g 2) U ∧ vk_R "SendRules$Reader" 141 "dosl" (gK g 3) U) ∧ va_Z "java/lang/String" "COMPACT_STRINGS" "Z" (.int 1) (gA g) U H ∧ va_Zq "jdk/internal/util/Preconditions" "SIOOBE_FORMATTER" "Ljava/util/function/BiFunction;" (gA g) U H
theorem Str.kept {g : Ctx} {U : State} {H H1 : Heap} (h : Str g U H) (hq : ∀ a : Nat, a < H.size → ¬ gA g a → H1[a]? = H[a]?) : Str g U H1 :=
  ⟨h.1.kept hq, h.2.1, h.2.2.1.kept hq, h.2.2.2.elim (fun z => Or.inl (z.kept hq)) (fun ⟨t, z⟩ => Or.inr ⟨t, z.kept hq⟩)⟩
theorem Str.warm {g : Ctx} {s U : State} {H : Heap} (hW : s.WarmedH U.vm) (h : Str g s H) : Str g U H :=
  ⟨h.1.moved hW.alike, ⟨h.2.1.1.warm hW, h.2.1.2.1.warm hW, h.2.1.2.2.1.warm hW, h.2.1.2.2.2.1.warm hW, h.2.1.2.2.2.2.warm hW⟩, h.2.2.1.moved hW.alike, h.2.2.2.elim (fun z => Or.inl (z.moved hW.alike)) (fun ⟨t, z⟩ => Or.inr ⟨t, z.moved hW.alike⟩)⟩
theorem Str.same {g : Ctx} {u U : State} {H : Heap} (hv : u.vm = U.vm) (h : Str g u H) : Str g U H := by
  have hal : u.vm.Alike U.vm := by rw [hv]; exact Vm.Alike.refl _
  exact ⟨h.1.moved hal, ⟨h.2.1.1.same hv.symm, h.2.1.2.1.same hv.symm, h.2.1.2.2.1.same hv.symm, h.2.1.2.2.2.1.same hv.symm, h.2.1.2.2.2.2.same hv.symm⟩, h.2.2.1.moved hal, h.2.2.2.elim (fun z => Or.inl (z.moved hal)) (fun ⟨t, z⟩ => Or.inr ⟨t, z.moved hal⟩)⟩
/-- what the tables and the constants say at a state -/
def Env0 (g : Ctx) (U : State) : Prop := va_K (gD g) classes (gtys g) U ∧ Nw U ∧ Str g U U.heap
theorem Env0.blind {g : Ctx} {U : State} (h : Env0 g U) (f : JFrame) (mk : MethodId) (a : Array Value) : Env0 g (U.calling f mk a) :=
  ⟨va_K.moved (u := U) (U := U.calling f mk a) (Vm.Alike.refl U.vm) h.1, Nw.same (u := U) (U := U.calling f mk a) rfl h.2.1, Str.same (u := U) (U := U.calling f mk a) rfl h.2.2⟩
theorem Env0.at {g : Ctx} {s U : State} {H : Heap} {locs : List Loc} (h : Env0 g s) (hS : va_S (gA g) s.heap H locs) (hU : U.heap = H) (hW : s.WarmedH U.vm) : Env0 g U :=
  ⟨va_K.moved hW.alike h.1, Nw.warm hW h.2.1, by rw [hU]; exact (Str.warm hW h.2.2).kept hS.2.1⟩
def Wd (g : Ctx) (N : Nat) (M : Mem) (U : State) : Prop := va_P (gD g) classes (wsN g N M) U.heap ∧ WT M ∧ Env0 g U
def QcM (g : Ctx) (N : Nat) (Q : Option Value → Mem → Prop) : Array Value → State → Outcome → State → Prop := fun _ st o t => (∃ (v : Option Value) (M : Mem), o = .returned v ∧ Q v M ∧ Wd g N M t) ∧ va_F (gA g) st t
def CallsM (g : Ctx) (y : MethodName) (cc : ByteArray) (nL : Nat) (ret : Option FieldType) (rm : Room) (N : Nat) (As : List Value) (M : Mem) (Q : Option Value → Mem → Prop) : Prop :=
  Met (gl g) y (.code y cc nL ret :: gtbl) rm (va_Pc As (Wd g N M)) (QcM g N Q) 0 0 (gA g)
def Fx (g : Ctx) (y : MethodName) (cc : ByteArray) (nL : Nat) (ret : Option FieldType) (p : Program) (s : State) (m : MethodId) (args : Array Value) (meth : Method) (c : Code) : Prop :=
  p.tables.exec = Jvm.exec ∧ c.code = cc ∧ meth.sig.returnType = ret ∧ c.maxLocals = nL ∧ s.vm.findClass y.cls = some m.cls ∧ (∀ w ∈ gtbl, w.before args s = true) ∧ meth.locks = false ∧ Env0 g s
def WP (g : Ctx) (y : MethodName) (cc : ByteArray) (nL : Nat) (ret : Option FieldType) (rm : Room) (N pc : Nat) (lv : List (Nat × Value)) (st : List Value) (M : Mem) (Q : Option Value → Mem → Prop) : Prop :=
  ∀ (p : Program) (e : Env) (s : State) (m : MethodId) (args : Array Value) (below : List Frame) (meth : Method) (c : Code) (H : Heap) (locs : List Loc) (ls : Array Slot), Fx g y cc nL ret p s m args meth c → va_P (gD g) classes (wsN g N M) H → WT M → va_S (gA g) s.heap H locs → lv_has ls nL lv → W p (gl g) e rm s m args below meth c H locs 0 0 (MQ below (QcM g N Q) args s 0 0 (gA g)) (F0 m pc ls st)
def rI (Q : Int → Mem → Prop) : Option Value → Mem → Prop := fun v M => ∃ r : Int, v = some (vi r) ∧ InR r ∧ Q r M
def rV (Q : Mem → Prop) : Option Value → Mem → Prop := fun v M => v = none ∧ Q M
def rQ (g : Ctx) (Q : Nat → Mem → Prop) : Option Value → Mem → Prop := fun v M => ∃ r : Nat, v = some (vq g r) ∧ Q r M
theorem CallsM.mono {g : Ctx} {y : MethodName} {cc : ByteArray} {nL : Nat} {ret : Option FieldType} {rm : Room} {N : Nat} {As : List Value} {M : Mem} {Q Q' : Option Value → Mem → Prop} (h : CallsM g y cc nL ret rm N As M Q) (hQ : ∀ v M', Q v M' → Q' v M') : CallsM g y cc nL ret rm N As M Q' := by
  intro p e h1 h2 h3 s m args below h4 h5 h6 h7
  obtain ⟨n, o, a1, a2, a3, ⟨⟨v, M', b1, b2, b3⟩, b4⟩, a5⟩ := h p e h1 h2 h3 s m args below h4 h5 h6 h7
  exact ⟨n, o, a1, a2, a3, ⟨⟨v, M', b1, hQ _ _ b2, b3⟩, b4⟩, a5⟩
theorem CallsM.intro {g : Ctx} {y : MethodName} {cc : ByteArray} {nL : Nat} {ret : Option FieldType} {rm : Room} {N : Nat} {As : List Value} {M : Mem} {Q : Option Value → Mem → Prop} (hy : plainName y.cls = true) (hn : (lg_sl As).length ≤ nL) (h : WP g y cc nL ret rm N 0 (lv_args 0 As) [] M Q) : CallsM g y cc nL ret rm N As M Q := by
  refine Met.ofW (cc := cc) (maxL := nL) (ret := ret) hy rfl ?_
  intro p e s m args below meth c s₁ B hml hv
  obtain ⟨rfl, hP, hT, hE⟩ := hv
  have hts := atoms_spec (ws := .code y cc nL ret :: gtbl) B.pre
  have hl := lv_entry As (n := nL) hn
  rw [lg_entry_eq]
  exact h p e s m _ below meth c s.heap [] _ ⟨B.exec, B.bytes, B.returns, hml, findClass_of_methodNamed B.named, fun w hw => hts w (List.mem_cons_of_mem _ hw), B.notSynchronized, hE⟩ hP hT va_S.rf hl
theorem vi_add (x y : Int) : Int32.ofInt x + Int32.ofInt y = Int32.ofInt (x + y) := (Int32.ofInt_add x y).symm
theorem vi_sub (x y : Int) : Int32.ofInt x - Int32.ofInt y = Int32.ofInt (x - y) := (Int32.ofInt_sub x y).symm
theorem vi_mul (x y : Int) : Int32.ofInt x * Int32.ofInt y = Int32.ofInt (x * y) := (Int32.ofInt_mul x y).symm
theorem vi_toInt {x : Int} (h : InR x) : (Int32.ofInt x).toInt = x := Int32.toInt_ofInt_of_le (by omega) (by omega)
theorem vi_eq {x y : Int} (hx : InR x) (hy : InR y) : Int32.ofInt x = Int32.ofInt y ↔ x = y := by rw [← Int32.toInt_inj, vi_toInt hx, vi_toInt hy]
theorem vi_lt {x y : Int} (hx : InR x) (hy : InR y) : Int32.ofInt x < Int32.ofInt y ↔ x < y := by rw [Int32.lt_iff_toInt_lt, vi_toInt hx, vi_toInt hy]
theorem vi_le {x y : Int} (hx : InR x) (hy : InR y) : Int32.ofInt x ≤ Int32.ofInt y ↔ x ≤ y := by rw [Int32.le_iff_toInt_le, vi_toInt hx, vi_toInt hy]
theorem vi_self (x : Int32) : Int32.ofInt x.toInt = x := Int32.ofInt_toInt x
theorem vi_InR (x : Int32) : InR x.toInt := ⟨Int32.le_toInt x, by have := Int32.toInt_lt x; omega⟩
theorem vi_0 : Int32.ofInt 0 = 0 := by decide
theorem vi_clamp {x : Int} (h0 : 0 ≤ x) (h : InR x) : (Int32.ofInt x).toNatClampNeg = x.toNat := by
  have h1 := vi_toInt h
  show (Int32.ofInt x).toInt.toNat = x.toNat
  rw [h1]
theorem vi_in {x : Int} {n : Nat} (h0 : 0 ≤ x) (h1 : x < n) (hn : n < 2147483648) : vp_in (Int32.ofInt x) n := by
  have hr : InR x := ⟨by omega, by omega⟩
  rw [vp_in_iff, vi_toInt hr]
  exact ⟨h0, h1⟩
def jand (x y : Int) : Int := (Int32.ofInt x &&& Int32.ofInt y).toInt
def jor (x y : Int) : Int := (Int32.ofInt x ||| Int32.ofInt y).toInt
def jxor (x y : Int) : Int := (Int32.ofInt x ^^^ Int32.ofInt y).toInt
def jshl (x y : Int) : Int := (Int32.ofInt x <<< (Int32.ofInt y &&& 31)).toInt
def jshr (x y : Int) : Int := (Int32.ofInt x >>> (Int32.ofInt y &&& 31)).toInt
theorem vi_div {x y : Int} (hx : InR x) (hy : InR y) (h0 : 0 ≤ x) (h1 : 0 < y) : Int32.ofInt x / Int32.ofInt y = Int32.ofInt (x / y) := by
  rw [← Int32.toInt_inj]
  have a := vi_toInt hx
  have b := vi_toInt hy
  have q0 : 0 ≤ x / y := Int.ediv_nonneg h0 (by omega)
  have q1 : x / y ≤ x := Int.ediv_le_self y h0
  rw [Int32.toInt_div_of_ne_left _ _ (fun q => by have := congrArg Int32.toInt q; rw [a] at this; rw [show (Int32.minValue).toInt = -2147483648 from by decide] at this; omega), a, b, vi_toInt ⟨by omega, by omega⟩, Int.tdiv_eq_ediv_of_nonneg h0]
theorem vi_rem {x y : Int} (hx : InR x) (hy : InR y) (h0 : 0 ≤ x) (h1 : 0 < y) : Int32.ofInt x - Int32.ofInt x / Int32.ofInt y * Int32.ofInt y = Int32.ofInt (x % y) := by
  rw [vi_div hx hy h0 h1, vi_mul, vi_sub]
  congr 1
  rw [Int.emod_def, Int.mul_comm]

section Rows
variable {g : Ctx} {y : MethodName} {cc : ByteArray} {nL : Nat} {ret : Option FieldType} {rm : Room} {N pc : Nat} {lv : List (Nat × Value)} {st : List Value} {M : Mem} {Q : Option Value → Mem → Prop}
theorem w_lv {lv' : List (Nat × Value)} (ks : List Nat) (h : lv_pick lv ks = lv') (k : WP g y cc nL ret rm N pc lv' st M Q) : WP g y cc nL ret rm N pc lv st M Q := by
  intro p e s m args below meth c H locs ls F hP hT hS hl
  exact k p e s m args below meth c H locs ls F hP hT hS (lv_sub hl ks h)
theorem w_iconst {n : Int} (hd : decode cc pc = .ok (.iconst n, 1)) (k : WP g y cc nL ret rm N (pc + 1) lv (vi n :: st) M Q) : WP g y cc nL ret rm N pc lv st M Q := by
  intro p e s m args below meth c H locs ls F hP hT hS hl
  exact lv_iconst F.1 F.2.1 hd rfl (k p e s m args below meth c H locs ls F hP hT hS hl)
theorem w_bipush {n : Int} (hd : decode cc pc = .ok (.bipush n, 2)) (hn : (Int8.ofInt n).toInt32 = Int32.ofInt n) (k : WP g y cc nL ret rm N (pc + 2) lv (vi n :: st) M Q) : WP g y cc nL ret rm N pc lv st M Q := by
  intro p e s m args below meth c H locs ls F hP hT hS hl
  exact lv_bipush F.1 F.2.1 hd hn (k p e s m args below meth c H locs ls F hP hT hS hl)
theorem w_sipush {n : Int} (hd : decode cc pc = .ok (.sipush n, 3)) (hn : (Int16.ofInt n).toInt32 = Int32.ofInt n) (k : WP g y cc nL ret rm N (pc + 3) lv (vi n :: st) M Q) : WP g y cc nL ret rm N pc lv st M Q := by
  intro p e s m args below meth c H locs ls F hP hT hS hl
  exact lv_sipush F.1 F.2.1 hd hn (k p e s m args below meth c H locs ls F hP hT hS hl)
theorem w_ldc {i : Nat} {n : Int} (hd : decode cc pc = .ok (.ldc i, 2)) (hw : Cond.constant y.cls i (Int32.ofInt n) ∈ gtbl) (k : WP g y cc nL ret rm N (pc + 2) lv (vi n :: st) M Q) : WP g y cc nL ret rm N pc lv st M Q := by
  intro p e s m args below meth c H locs ls F hP hT hS hl
  exact lv_ldc F.1 F.2.1 F.2.2.2.2.1 (F.2.2.2.2.2.1 _ hw) hd (k p e s m args below meth c H locs ls F hP hT hS hl)
theorem w_iload_n {q : Fin 4} {x : Int} (hd : decode cc pc = .ok (.iload_n q, 1)) (j : Nat) (hj : lv[j]? = some ((q : Nat), vi x)) (k : WP g y cc nL ret rm N (pc + 1) lv (vi x :: st) M Q) : WP g y cc nL ret rm N pc lv st M Q := by
  intro p e s m args below meth c H locs ls F hP hT hS hl
  exact lv_iload_n F.1 F.2.1 hd rfl (lv_at hl j hj) (k p e s m args below meth c H locs ls F hP hT hS hl)
theorem w_iload {q : Nat} {x : Int} (hd : decode cc pc = .ok (.iload q, 2)) (j : Nat) (hj : lv[j]? = some (q, vi x)) (k : WP g y cc nL ret rm N (pc + 2) lv (vi x :: st) M Q) : WP g y cc nL ret rm N pc lv st M Q := by
  intro p e s m args below meth c H locs ls F hP hT hS hl
  exact lv_iload F.1 F.2.1 hd (lv_at hl j hj) (k p e s m args below meth c H locs ls F hP hT hS hl)
theorem w_aload_n {q : Fin 4} {x : Nat} (hd : decode cc pc = .ok (.aload_n q, 1)) (j : Nat) (hj : lv[j]? = some ((q : Nat), vr g x)) (k : WP g y cc nL ret rm N (pc + 1) lv (vr g x :: st) M Q) : WP g y cc nL ret rm N pc lv st M Q := by
  intro p e s m args below meth c H locs ls F hP hT hS hl
  exact lv_aload_n F.1 F.2.1 hd rfl (lv_at hl j hj) (k p e s m args below meth c H locs ls F hP hT hS hl)
theorem w_aload {q : Nat} {x : Nat} (hd : decode cc pc = .ok (.aload q, 2)) (j : Nat) (hj : lv[j]? = some (q, vr g x)) (k : WP g y cc nL ret rm N (pc + 2) lv (vr g x :: st) M Q) : WP g y cc nL ret rm N pc lv st M Q := by
  intro p e s m args below meth c H locs ls F hP hT hS hl
  exact lv_aload F.1 F.2.1 hd (lv_at hl j hj) (k p e s m args below meth c H locs ls F hP hT hS hl)
theorem w_istore_n {q : Fin 4} {i : Nat} {x : Int} {lv' : List (Nat × Value)} (hd : decode cc pc = .ok (.istore_n q, 1)) (hi : (q : Nat) = i) (hn : i < nL) (hlv : (i, vi x) :: lv.filter (fun q => !(q.1 == i) && !(q.1 + 1 == i && q.2.category == 2)) = lv') (k : WP g y cc nL ret rm N (pc + 1) lv' st M Q) : WP g y cc nL ret rm N pc lv (vi x :: st) M Q := by
  intro p e s m args below meth c H locs ls F hP hT hS hl
  exact lv_istore_n F.1 F.2.1 hd hi hl hn hlv (fun ls' hl' => k p e s m args below meth c H locs ls' F hP hT hS hl')
theorem w_istore {i : Nat} {x : Int} {lv' : List (Nat × Value)} (hd : decode cc pc = .ok (.istore i, 2)) (hn : i < nL) (hlv : (i, vi x) :: lv.filter (fun q => !(q.1 == i) && !(q.1 + 1 == i && q.2.category == 2)) = lv') (k : WP g y cc nL ret rm N (pc + 2) lv' st M Q) : WP g y cc nL ret rm N pc lv (vi x :: st) M Q := by
  intro p e s m args below meth c H locs ls F hP hT hS hl
  exact lv_istore F.1 F.2.1 hd hl hn hlv (fun ls' hl' => k p e s m args below meth c H locs ls' F hP hT hS hl')
theorem w_astore_n {q : Fin 4} {i : Nat} {x : Nat} {lv' : List (Nat × Value)} (hd : decode cc pc = .ok (.astore_n q, 1)) (hi : (q : Nat) = i) (hn : i < nL) (hlv : (i, vr g x) :: lv.filter (fun q => !(q.1 == i) && !(q.1 + 1 == i && q.2.category == 2)) = lv') (k : WP g y cc nL ret rm N (pc + 1) lv' st M Q) : WP g y cc nL ret rm N pc lv (vr g x :: st) M Q := by
  intro p e s m args below meth c H locs ls F hP hT hS hl
  exact lv_astore_n F.1 F.2.1 hd hi hl hn hlv (fun ls' hl' => k p e s m args below meth c H locs ls' F hP hT hS hl')
theorem w_astore {i : Nat} {x : Nat} {lv' : List (Nat × Value)} (hd : decode cc pc = .ok (.astore i, 2)) (hn : i < nL) (hlv : (i, vr g x) :: lv.filter (fun q => !(q.1 == i) && !(q.1 + 1 == i && q.2.category == 2)) = lv') (k : WP g y cc nL ret rm N (pc + 2) lv' st M Q) : WP g y cc nL ret rm N pc lv (vr g x :: st) M Q := by
  intro p e s m args below meth c H locs ls F hP hT hS hl
  exact lv_astore F.1 F.2.1 hd hl hn hlv (fun ls' hl' => k p e s m args below meth c H locs ls' F hP hT hS hl')
theorem w_iinc {i : Nat} {x n : Int} {lv' : List (Nat × Value)} (hd : decode cc pc = .ok (.iinc i n, 3)) (j : Nat) (hj : lv[j]? = some (i, vi x)) (hn : i < nL) (hlv : (i, vi (x + n)) :: lv.filter (fun q => !(q.1 == i) && !(q.1 + 1 == i && q.2.category == 2)) = lv') (k : WP g y cc nL ret rm N (pc + 3) lv' st M Q) : WP g y cc nL ret rm N pc lv st M Q := by
  intro p e s m args below meth c H locs ls F hP hT hS hl
  exact lv_iinc (v := Int32.ofInt (x + n)) F.1 F.2.1 hd hl hj (vi_add x n) hn hlv (fun ls' hl' => k p e s m args below meth c H locs ls' F hP hT hS hl')
theorem w_iadd {x z : Int} (hd : decode cc pc = .ok (.iadd, 1)) (k : WP g y cc nL ret rm N (pc + 1) lv (vi (x + z) :: st) M Q) : WP g y cc nL ret rm N pc lv (vi z :: vi x :: st) M Q := by
  intro p e s m args below meth c H locs ls F hP hT hS hl
  refine lv_iadd F.1 F.2.1 hd ?_
  rw [vi_add]
  exact k p e s m args below meth c H locs ls F hP hT hS hl
theorem w_isub {x z : Int} (hd : decode cc pc = .ok (.isub, 1)) (k : WP g y cc nL ret rm N (pc + 1) lv (vi (x - z) :: st) M Q) : WP g y cc nL ret rm N pc lv (vi z :: vi x :: st) M Q := by
  intro p e s m args below meth c H locs ls F hP hT hS hl
  refine lv_isub F.1 F.2.1 hd ?_
  rw [vi_sub]
  exact k p e s m args below meth c H locs ls F hP hT hS hl
theorem w_imul {x z : Int} (hd : decode cc pc = .ok (.imul, 1)) (k : WP g y cc nL ret rm N (pc + 1) lv (vi (x * z) :: st) M Q) : WP g y cc nL ret rm N pc lv (vi z :: vi x :: st) M Q := by
  intro p e s m args below meth c H locs ls F hP hT hS hl
  refine lv_imul F.1 F.2.1 hd ?_
  rw [vi_mul]
  exact k p e s m args below meth c H locs ls F hP hT hS hl
theorem w_iand {x z : Int} (hd : decode cc pc = .ok (.iand, 1)) (k : WP g y cc nL ret rm N (pc + 1) lv (vi (jand x z) :: st) M Q) : WP g y cc nL ret rm N pc lv (vi z :: vi x :: st) M Q := by
  intro p e s m args below meth c H locs ls F hP hT hS hl
  refine lv_iand F.1 F.2.1 hd ?_
  have k1 := k p e s m args below meth c H locs ls F hP hT hS hl
  unfold vi jand at k1
  rw [vi_self] at k1
  exact k1
theorem w_ior {x z : Int} (hd : decode cc pc = .ok (.ior, 1)) (k : WP g y cc nL ret rm N (pc + 1) lv (vi (jor x z) :: st) M Q) : WP g y cc nL ret rm N pc lv (vi z :: vi x :: st) M Q := by
  intro p e s m args below meth c H locs ls F hP hT hS hl
  refine lv_ior F.1 F.2.1 hd ?_
  have k1 := k p e s m args below meth c H locs ls F hP hT hS hl
  unfold vi jor at k1
  rw [vi_self] at k1
  exact k1
theorem w_ixor {x z : Int} (hd : decode cc pc = .ok (.ixor, 1)) (k : WP g y cc nL ret rm N (pc + 1) lv (vi (jxor x z) :: st) M Q) : WP g y cc nL ret rm N pc lv (vi z :: vi x :: st) M Q := by
  intro p e s m args below meth c H locs ls F hP hT hS hl
  refine lv_ixor F.1 F.2.1 hd ?_
  have k1 := k p e s m args below meth c H locs ls F hP hT hS hl
  unfold vi jxor at k1
  rw [vi_self] at k1
  exact k1
theorem w_ishl {x z : Int} (hd : decode cc pc = .ok (.ishl, 1)) (k : WP g y cc nL ret rm N (pc + 1) lv (vi (jshl x z) :: st) M Q) : WP g y cc nL ret rm N pc lv (vi z :: vi x :: st) M Q := by
  intro p e s m args below meth c H locs ls F hP hT hS hl
  refine lv_ishl F.1 F.2.1 hd ?_
  have k1 := k p e s m args below meth c H locs ls F hP hT hS hl
  unfold vi jshl at k1
  rw [vi_self] at k1
  exact k1
theorem w_ishr {x z : Int} (hd : decode cc pc = .ok (.ishr, 1)) (k : WP g y cc nL ret rm N (pc + 1) lv (vi (jshr x z) :: st) M Q) : WP g y cc nL ret rm N pc lv (vi z :: vi x :: st) M Q := by
  intro p e s m args below meth c H locs ls F hP hT hS hl
  refine lv_ishr F.1 F.2.1 hd ?_
  have k1 := k p e s m args below meth c H locs ls F hP hT hS hl
  unfold vi jshr at k1
  rw [vi_self] at k1
  exact k1
theorem w_idiv {x z : Int} (hd : decode cc pc = .ok (.idiv, 1)) (hx : InR x) (hy : InR z) (h0 : 0 ≤ x) (h1 : 0 < z) (k : WP g y cc nL ret rm N (pc + 1) lv (vi (x / z) :: st) M Q) : WP g y cc nL ret rm N pc lv (vi z :: vi x :: st) M Q := by
  intro p e s m args below meth c H locs ls F hP hT hS hl
  refine lv_idiv F.1 F.2.1 hd (fun q => by rw [← vi_0, vi_eq hy ⟨by omega, by omega⟩] at q; omega) ?_
  rw [vi_div hx hy h0 h1]
  exact k p e s m args below meth c H locs ls F hP hT hS hl
theorem w_irem {x z : Int} (hd : decode cc pc = .ok (.irem, 1)) (hx : InR x) (hy : InR z) (h0 : 0 ≤ x) (h1 : 0 < z) (k : WP g y cc nL ret rm N (pc + 1) lv (vi (x % z) :: st) M Q) : WP g y cc nL ret rm N pc lv (vi z :: vi x :: st) M Q := by
  intro p e s m args below meth c H locs ls F hP hT hS hl
  refine lv_irem F.1 F.2.1 hd (fun q => by rw [← vi_0, vi_eq hy ⟨by omega, by omega⟩] at q; omega) ?_
  rw [vi_rem hx hy h0 h1]
  exact k p e s m args below meth c H locs ls F hP hT hS hl
theorem w_i2c {x : Int} (hd : decode cc pc = .ok (.i2c, 1)) (h0 : 0 ≤ x) (h1 : x < 65536) (k : WP g y cc nL ret rm N (pc + 1) lv (vi x :: st) M Q) : WP g y cc nL ret rm N pc lv (vi x :: st) M Q := by
  intro p e s m args below meth c H locs ls F hP hT hS hl
  refine lv_i2c F.1 F.2.1 hd (v := Int32.ofInt x) ?_ (k p e s m args below meth c H locs ls F hP hT hS hl)
  obtain ⟨n, rfl⟩ := Int.eq_ofNat_of_zero_le h0
  rw [pk_char]
  show nI _ = Int32.ofInt (n : Int)
  rw [Int32.ofInt_eq_ofNat]
  show nI _ = nI n
  have hn : n < 65536 := by omega
  rw [show (Int32.ofNat n) = nI n from rfl, pk_tn (by omega), Nat.mod_eq_of_lt hn]
theorem w_dup {v : Value} (hd : decode cc pc = .ok (.dup, 1)) (hv : v.category = 1) (k : WP g y cc nL ret rm N (pc + 1) lv (v :: v :: st) M Q) : WP g y cc nL ret rm N pc lv (v :: st) M Q := by
  intro p e s m args below meth c H locs ls F hP hT hS hl
  exact lv_dup F.1 F.2.1 hd hv (k p e s m args below meth c H locs ls F hP hT hS hl)
theorem w_pop {v : Value} (hd : decode cc pc = .ok (.pop, 1)) (hv : v.category = 1) (k : WP g y cc nL ret rm N (pc + 1) lv st M Q) : WP g y cc nL ret rm N pc lv (v :: st) M Q := by
  intro p e s m args below meth c H locs ls F hP hT hS hl
  exact lv_pop F.1 F.2.1 hd hv (k p e s m args below meth c H locs ls F hP hT hS hl)
theorem w_dup2 {v u : Value} (hd : decode cc pc = .ok (.dup2, 1)) (hv : v.category = 1) (hu : u.category = 1) (k : WP g y cc nL ret rm N (pc + 1) lv (v :: u :: v :: u :: st) M Q) : WP g y cc nL ret rm N pc lv (v :: u :: st) M Q := by
  intro p e s m args below meth c H locs ls F hP hT hS hl
  exact lv_dup2_11 F.1 F.2.1 hd hv hu (k p e s m args below meth c H locs ls F hP hT hS hl)
theorem w_goto {off : Int} {tgt : Nat} (hd : decode cc pc = .ok (.goto off, 3)) (ht : (pc : Int) + off = (tgt : Int)) (k : WP g y cc nL ret rm N tgt lv st M Q) : WP g y cc nL ret rm N pc lv st M Q := by
  intro p e s m args below meth c H locs ls F hP hT hS hl
  exact lv_goto F.1 F.2.1 hd ht (k p e s m args below meth c H locs ls F hP hT hS hl)
theorem w_icmp_eq {x z : Int} {off : Int} {tgt : Nat} (hd : decode cc pc = .ok (.if_icmp .eq off, 3)) (ht : (pc : Int) + off = (tgt : Int)) (hx : InR x) (hy : InR z) (kt : x = z → WP g y cc nL ret rm N tgt lv st M Q) (kf : ¬ (x = z) → WP g y cc nL ret rm N (pc + 3) lv st M Q) : WP g y cc nL ret rm N pc lv (vi z :: vi x :: st) M Q := by
  intro p e s m args below meth c H locs ls F hP hT hS hl
  exact lv_icmp_eq F.1 F.2.1 hd ht (fun q => (kt ((vi_eq hx hy).mp q)) p e s m args below meth c H locs ls F hP hT hS hl) (fun q => (kf ((fun z => q ((vi_eq hx hy).mpr z)))) p e s m args below meth c H locs ls F hP hT hS hl)
theorem w_if_eq {x : Int} {off : Int} {tgt : Nat} (hd : decode cc pc = .ok (.ifCond .eq off, 3)) (ht : (pc : Int) + off = (tgt : Int)) (hx : InR x) (kt : x = 0 → WP g y cc nL ret rm N tgt lv st M Q) (kf : ¬ (x = 0) → WP g y cc nL ret rm N (pc + 3) lv st M Q) : WP g y cc nL ret rm N pc lv (vi x :: st) M Q := by
  intro p e s m args below meth c H locs ls F hP hT hS hl
  have h00 : InR 0 := ⟨by decide, by decide⟩
  exact lv_if_eq F.1 F.2.1 hd ht (fun q => (kt ((vi_eq hx h00).mp (by rw [vi_0]; exact q))) p e s m args below meth c H locs ls F hP hT hS hl) (fun q => (kf ((fun z => q (by have z1 := (vi_eq hx h00).mpr z; rw [vi_0] at z1; exact z1)))) p e s m args below meth c H locs ls F hP hT hS hl)
theorem w_icmp_ne {x z : Int} {off : Int} {tgt : Nat} (hd : decode cc pc = .ok (.if_icmp .ne off, 3)) (ht : (pc : Int) + off = (tgt : Int)) (hx : InR x) (hy : InR z) (kt : ¬ x = z → WP g y cc nL ret rm N tgt lv st M Q) (kf : ¬ (¬ x = z) → WP g y cc nL ret rm N (pc + 3) lv st M Q) : WP g y cc nL ret rm N pc lv (vi z :: vi x :: st) M Q := by
  intro p e s m args below meth c H locs ls F hP hT hS hl
  exact lv_icmp_ne F.1 F.2.1 hd ht (fun q => (kt ((not_congr (vi_eq hx hy)).mp q)) p e s m args below meth c H locs ls F hP hT hS hl) (fun q => (kf ((fun z => z ((vi_eq hx hy).mp q)))) p e s m args below meth c H locs ls F hP hT hS hl)
theorem w_if_ne {x : Int} {off : Int} {tgt : Nat} (hd : decode cc pc = .ok (.ifCond .ne off, 3)) (ht : (pc : Int) + off = (tgt : Int)) (hx : InR x) (kt : ¬ x = 0 → WP g y cc nL ret rm N tgt lv st M Q) (kf : ¬ (¬ x = 0) → WP g y cc nL ret rm N (pc + 3) lv st M Q) : WP g y cc nL ret rm N pc lv (vi x :: st) M Q := by
  intro p e s m args below meth c H locs ls F hP hT hS hl
  have h00 : InR 0 := ⟨by decide, by decide⟩
  exact lv_if_ne F.1 F.2.1 hd ht (fun q => (kt ((not_congr (vi_eq hx h00)).mp (by rw [vi_0]; exact q))) p e s m args below meth c H locs ls F hP hT hS hl) (fun q => (kf ((fun z => z ((vi_eq hx h00).mp (by rw [vi_0]; exact q))))) p e s m args below meth c H locs ls F hP hT hS hl)
theorem w_icmp_lt {x z : Int} {off : Int} {tgt : Nat} (hd : decode cc pc = .ok (.if_icmp .lt off, 3)) (ht : (pc : Int) + off = (tgt : Int)) (hx : InR x) (hy : InR z) (kt : x < z → WP g y cc nL ret rm N tgt lv st M Q) (kf : ¬ (x < z) → WP g y cc nL ret rm N (pc + 3) lv st M Q) : WP g y cc nL ret rm N pc lv (vi z :: vi x :: st) M Q := by
  intro p e s m args below meth c H locs ls F hP hT hS hl
  exact lv_icmp_lt F.1 F.2.1 hd ht (fun q => (kt ((vi_lt hx hy).mp q)) p e s m args below meth c H locs ls F hP hT hS hl) (fun q => (kf ((fun z => q ((vi_lt hx hy).mpr z)))) p e s m args below meth c H locs ls F hP hT hS hl)
theorem w_if_lt {x : Int} {off : Int} {tgt : Nat} (hd : decode cc pc = .ok (.ifCond .lt off, 3)) (ht : (pc : Int) + off = (tgt : Int)) (hx : InR x) (kt : x < 0 → WP g y cc nL ret rm N tgt lv st M Q) (kf : ¬ (x < 0) → WP g y cc nL ret rm N (pc + 3) lv st M Q) : WP g y cc nL ret rm N pc lv (vi x :: st) M Q := by
  intro p e s m args below meth c H locs ls F hP hT hS hl
  have h00 : InR 0 := ⟨by decide, by decide⟩
  exact lv_if_lt F.1 F.2.1 hd ht (fun q => (kt ((vi_lt hx h00).mp (by rw [vi_0]; exact q))) p e s m args below meth c H locs ls F hP hT hS hl) (fun q => (kf ((fun z => q (by have z1 := (vi_lt hx h00).mpr z; rw [vi_0] at z1; exact z1)))) p e s m args below meth c H locs ls F hP hT hS hl)
theorem w_icmp_ge {x z : Int} {off : Int} {tgt : Nat} (hd : decode cc pc = .ok (.if_icmp .ge off, 3)) (ht : (pc : Int) + off = (tgt : Int)) (hx : InR x) (hy : InR z) (kt : z ≤ x → WP g y cc nL ret rm N tgt lv st M Q) (kf : ¬ (z ≤ x) → WP g y cc nL ret rm N (pc + 3) lv st M Q) : WP g y cc nL ret rm N pc lv (vi z :: vi x :: st) M Q := by
  intro p e s m args below meth c H locs ls F hP hT hS hl
  exact lv_icmp_ge F.1 F.2.1 hd ht (fun q => (kt ((vi_le hy hx).mp q)) p e s m args below meth c H locs ls F hP hT hS hl) (fun q => (kf ((fun z => q ((vi_le hy hx).mpr z)))) p e s m args below meth c H locs ls F hP hT hS hl)
theorem w_if_ge {x : Int} {off : Int} {tgt : Nat} (hd : decode cc pc = .ok (.ifCond .ge off, 3)) (ht : (pc : Int) + off = (tgt : Int)) (hx : InR x) (kt : 0 ≤ x → WP g y cc nL ret rm N tgt lv st M Q) (kf : ¬ (0 ≤ x) → WP g y cc nL ret rm N (pc + 3) lv st M Q) : WP g y cc nL ret rm N pc lv (vi x :: st) M Q := by
  intro p e s m args below meth c H locs ls F hP hT hS hl
  have h00 : InR 0 := ⟨by decide, by decide⟩
  exact lv_if_ge F.1 F.2.1 hd ht (fun q => (kt ((vi_le h00 hx).mp (by rw [vi_0]; exact q))) p e s m args below meth c H locs ls F hP hT hS hl) (fun q => (kf ((fun z => q (by have z1 := (vi_le h00 hx).mpr z; rw [vi_0] at z1; exact z1)))) p e s m args below meth c H locs ls F hP hT hS hl)
theorem w_icmp_gt {x z : Int} {off : Int} {tgt : Nat} (hd : decode cc pc = .ok (.if_icmp .gt off, 3)) (ht : (pc : Int) + off = (tgt : Int)) (hx : InR x) (hy : InR z) (kt : z < x → WP g y cc nL ret rm N tgt lv st M Q) (kf : ¬ (z < x) → WP g y cc nL ret rm N (pc + 3) lv st M Q) : WP g y cc nL ret rm N pc lv (vi z :: vi x :: st) M Q := by
  intro p e s m args below meth c H locs ls F hP hT hS hl
  exact lv_icmp_gt F.1 F.2.1 hd ht (fun q => (kt ((vi_lt hy hx).mp q)) p e s m args below meth c H locs ls F hP hT hS hl) (fun q => (kf ((fun z => q ((vi_lt hy hx).mpr z)))) p e s m args below meth c H locs ls F hP hT hS hl)
theorem w_if_gt {x : Int} {off : Int} {tgt : Nat} (hd : decode cc pc = .ok (.ifCond .gt off, 3)) (ht : (pc : Int) + off = (tgt : Int)) (hx : InR x) (kt : 0 < x → WP g y cc nL ret rm N tgt lv st M Q) (kf : ¬ (0 < x) → WP g y cc nL ret rm N (pc + 3) lv st M Q) : WP g y cc nL ret rm N pc lv (vi x :: st) M Q := by
  intro p e s m args below meth c H locs ls F hP hT hS hl
  have h00 : InR 0 := ⟨by decide, by decide⟩
  exact lv_if_gt F.1 F.2.1 hd ht (fun q => (kt ((vi_lt h00 hx).mp (by rw [vi_0]; exact q))) p e s m args below meth c H locs ls F hP hT hS hl) (fun q => (kf ((fun z => q (by have z1 := (vi_lt h00 hx).mpr z; rw [vi_0] at z1; exact z1)))) p e s m args below meth c H locs ls F hP hT hS hl)
theorem w_icmp_le {x z : Int} {off : Int} {tgt : Nat} (hd : decode cc pc = .ok (.if_icmp .le off, 3)) (ht : (pc : Int) + off = (tgt : Int)) (hx : InR x) (hy : InR z) (kt : x ≤ z → WP g y cc nL ret rm N tgt lv st M Q) (kf : ¬ (x ≤ z) → WP g y cc nL ret rm N (pc + 3) lv st M Q) : WP g y cc nL ret rm N pc lv (vi z :: vi x :: st) M Q := by
  intro p e s m args below meth c H locs ls F hP hT hS hl
  exact lv_icmp_le F.1 F.2.1 hd ht (fun q => (kt ((vi_le hx hy).mp q)) p e s m args below meth c H locs ls F hP hT hS hl) (fun q => (kf ((fun z => q ((vi_le hx hy).mpr z)))) p e s m args below meth c H locs ls F hP hT hS hl)
theorem w_if_le {x : Int} {off : Int} {tgt : Nat} (hd : decode cc pc = .ok (.ifCond .le off, 3)) (ht : (pc : Int) + off = (tgt : Int)) (hx : InR x) (kt : x ≤ 0 → WP g y cc nL ret rm N tgt lv st M Q) (kf : ¬ (x ≤ 0) → WP g y cc nL ret rm N (pc + 3) lv st M Q) : WP g y cc nL ret rm N pc lv (vi x :: st) M Q := by
  intro p e s m args below meth c H locs ls F hP hT hS hl
  have h00 : InR 0 := ⟨by decide, by decide⟩
  exact lv_if_le F.1 F.2.1 hd ht (fun q => (kt ((vi_le hx h00).mp (by rw [vi_0]; exact q))) p e s m args below meth c H locs ls F hP hT hS hl) (fun q => (kf ((fun z => q (by have z1 := (vi_le hx h00).mpr z; rw [vi_0] at z1; exact z1)))) p e s m args below meth c H locs ls F hP hT hS hl)
theorem w_ifnull {x : Nat} {off : Int} {tgt : Nat} (hd : decode cc pc = .ok (.ifnull off, 3)) (ht : (pc : Int) + off = (tgt : Int)) (kt : x = 0 → WP g y cc nL ret rm N tgt lv st M Q) (kf : ¬ x = 0 → WP g y cc nL ret rm N (pc + 3) lv st M Q) : WP g y cc nL ret rm N pc lv (vq g x :: st) M Q := by
  intro p e s m args below meth c H locs ls F hP hT hS hl
  by_cases hx : x = 0
  · simp only [vq, oq, if_pos hx, va_rf]
    exact lv_ifnullN F.1 F.2.1 hd ht (kt hx p e s m args below meth c H locs ls F hP hT hS hl)
  · simp only [vq, oq, if_neg hx, va_rf]
    exact lv_ifnull F.1 F.2.1 hd (kf hx p e s m args below meth c H locs ls F hP hT hS hl)
theorem w_ifnonnull {x : Nat} {off : Int} {tgt : Nat} (hd : decode cc pc = .ok (.ifnonnull off, 3)) (ht : (pc : Int) + off = (tgt : Int)) (kt : ¬ x = 0 → WP g y cc nL ret rm N tgt lv st M Q) (kf : x = 0 → WP g y cc nL ret rm N (pc + 3) lv st M Q) : WP g y cc nL ret rm N pc lv (vq g x :: st) M Q := by
  intro p e s m args below meth c H locs ls F hP hT hS hl
  by_cases hx : x = 0
  · simp only [vq, oq, if_pos hx, va_rf]
    exact lv_ifnonnullN F.1 F.2.1 hd (kf hx p e s m args below meth c H locs ls F hP hT hS hl)
  · simp only [vq, oq, if_neg hx, va_rf]
    exact lv_ifnonnull F.1 F.2.1 hd ht (kt hx p e s m args below meth c H locs ls F hP hT hS hl)
theorem w_null (hd : decode cc pc = .ok (.aconst_null, 1)) (k : WP g y cc nL ret rm N (pc + 1) lv (vq g 0 :: st) M Q) : WP g y cc nL ret rm N pc lv st M Q := by
  intro p e s m args below meth c H locs ls F hP hT hS hl
  exact lv_null F.1 F.2.1 hd (k p e s m args below meth c H locs ls F hP hT hS hl)
theorem vq_ne {x : Nat} (h : x ≠ 0) : vq g x = vr g x := by simp only [vq, oq, if_neg h, va_rf, vr]
theorem w_top {v u : Value} (h : v = u) (k : WP g y cc nL ret rm N pc lv (u :: st) M Q) : WP g y cc nL ret rm N pc lv (v :: st) M Q := by rw [h]; exact k
theorem w_iret {x : Int} (hd : decode cc pc = .ok (.ireturn, 1)) (hq : Q (some (vi x)) M) : WP g y cc nL (some .int) rm N pc lv [vi x] M Q := by
  intro p e s m args below meth c H locs ls F hP hT hS hl
  exact W.iret F.1 F.2.1 F.2.2.1 (fun t ht hW => ⟨⟨(some (vi x)), M, rfl, hq, by rw [ht]; exact hP, hT, F.2.2.2.2.2.2.2.at hS ht hW⟩, hS.F ht⟩) hS.2.2 hd F.2.2.2.2.2.2.1
theorem w_zret {x : Int} (hd : decode cc pc = .ok (.ireturn, 1)) (hx : x = 0 ∨ x = 1) (hq : Q (some (vi x)) M) : WP g y cc nL (some .boolean) rm N pc lv [vi x] M Q := by
  intro p e s m args below meth c H locs ls F hP hT hS hl
  exact W.zret F.1 F.2.1 F.2.2.1 (by rcases hx with rfl | rfl <;> rfl) (fun t ht hW => ⟨⟨(some (vi x)), M, rfl, hq, by rw [ht]; exact hP, hT, F.2.2.2.2.2.2.2.at hS ht hW⟩, hS.F ht⟩) hS.2.2 hd F.2.2.2.2.2.2.1
theorem w_cret {x : Int} (hd : decode cc pc = .ok (.ireturn, 1)) (h0 : 0 ≤ x) (h1 : x < 65536) (hq : Q (some (vi x)) M) : WP g y cc nL (some .char) rm N pc lv [vi x] M Q := by
  intro p e s m args below meth c H locs ls F hP hT hS hl
  exact W.zret F.1 F.2.1 F.2.2.1 (by obtain ⟨n, rfl⟩ := Int.eq_ofNat_of_zero_le h0; rw [Int32.ofInt_eq_ofNat]; exact (pk_charN (q := n) (by omega)).1) (fun t ht hW => ⟨⟨(some (vi x)), M, rfl, hq, by rw [ht]; exact hP, hT, F.2.2.2.2.2.2.2.at hS ht hW⟩, hS.F ht⟩) hS.2.2 hd F.2.2.2.2.2.2.1
theorem w_vret (hd : decode cc pc = .ok (.return_, 1)) (hq : Q none M) : WP g y cc nL none rm N pc lv [] M Q := by
  intro p e s m args below meth c H locs ls F hP hT hS hl
  exact W.vret F.1 F.2.1 F.2.2.1 (fun t ht hW => ⟨⟨none, M, rfl, hq, by rw [ht]; exact hP, hT, F.2.2.2.2.2.2.2.at hS ht hW⟩, hS.F ht⟩) hS.2.2 hd F.2.2.2.2.2.2.1
theorem w_aret {C : String} {x : Nat} (hd : decode cc pc = .ok (.areturn, 1)) (hq : Q (some (vq g x)) M) : WP g y cc nL (some (.object C)) rm N pc lv [vq g x] M Q := by
  intro p e s m args below meth c H locs ls F hP hT hS hl
  exact W.aret F.1 F.2.1 F.2.2.1 (Or.inl ⟨_, rfl⟩) (by simp only [vq, oq]; split; exact Or.inl rfl; exact Or.inr ⟨_, rfl⟩) (fun t ht hW => ⟨⟨(some (vq g x)), M, rfl, hq, by rw [ht]; exact hP, hT, F.2.2.2.2.2.2.2.at hS ht hW⟩, hS.F ht⟩) hS.2.2 hd F.2.2.2.2.2.2.1
end Rows
end
section
theorem sRec {b : Nat} (h : isRec b) : shp b = .inl (8, [some (some (b + 1)), none]) := by rcases h with rfl | rfl <;> rfl
theorem sRec1 {b : Nat} (h : isRec b) : shp (b + 1) = .inr (3, 12) := by rcases h with rfl | rfl <;> rfl
theorem shp_d {d c : Nat} (h : isDom d) (hc : c < 21) : shp (d + c) = shpDom d c := by
  obtain ⟨b, q, hb, hq, rfl⟩ := h
  rcases hb with rfl | rfl
  · have e1 : ¬ (4 + 2 + 21 * q + c < 4) := by omega
    have e2 : 4 + 2 + 21 * q + c < 258 := by omega
    have e3 : ¬ (4 + 2 + 21 * q + c - 4 = 0) := by omega
    have e4 : ¬ (4 + 2 + 21 * q + c - 4 = 1) := by omega
    have e5 : (4 + 2 + 21 * q + c - 4 - 2) / 21 = q := by omega
    have e6 : (4 + 2 + 21 * q + c - 4 - 2) % 21 = c := by omega
    rw [shp, if_neg e1, if_pos e2, shpRec, if_neg e3, if_neg e4, e5, e6]
  · have e1 : ¬ (276 + 2 + 21 * q + c < 4) := by omega
    have e2 : ¬ (276 + 2 + 21 * q + c < 258) := by omega
    have e2b : ¬ (276 + 2 + 21 * q + c < 276) := by omega
    have e2c : 276 + 2 + 21 * q + c < 530 := by omega
    have e3 : ¬ (276 + 2 + 21 * q + c - 276 = 0) := by omega
    have e4 : ¬ (276 + 2 + 21 * q + c - 276 = 1) := by omega
    have e5 : (276 + 2 + 21 * q + c - 276 - 2) / 21 = q := by omega
    have e6 : (276 + 2 + 21 * q + c - 276 - 2) % 21 = c := by omega
    rw [shp, if_neg e1, if_neg e2, if_neg e2b, if_pos e2c, shpRec, if_neg e3, if_neg e4, e5, e6]
theorem sDom {d : Nat} (h : isDom d) : shp d = .inl (1, [none, some (some (d + 1)), none, none, some (some (d + 2)), none, none, some (some (d + 3)), none, some (some (d + 4)), none]) := shp_d (c := 0) h (by decide)
theorem sDom1 {d : Nat} (h : isDom d) : shp (d + 1) = .inr (0, 7) := shp_d (c := 1) h (by decide)
theorem sDom2 {d : Nat} (h : isDom d) : shp (d + 2) = .inr (2, 8) := shp_d (c := 2) h (by decide)
theorem sDom3 {d : Nat} (h : isDom d) : shp (d + 3) = .inr (0, 4) := shp_d (c := 3) h (by decide)
theorem sDom4 {d : Nat} (h : isDom d) : shp (d + 4) = .inr (0, 3) := shp_d (c := 4) h (by decide)
theorem sRul {r : Nat} (h : isRul r) : shp r = .inl (9, [none, none, none, none, none, some (some (r + 1)), none]) := by
  obtain ⟨d, i, hd, hi, rfl⟩ := h
  have e := shp_d (c := 5 + 2 * i) hd (by omega)
  rw [show d + 5 + 2 * i = d + (5 + 2 * i) by omega, e]
  rcases (show i = 0 ∨ i = 1 ∨ i = 2 ∨ i = 3 ∨ i = 4 ∨ i = 5 ∨ i = 6 ∨ i = 7 by omega) with rfl | rfl | rfl | rfl | rfl | rfl | rfl | rfl <;> rfl
theorem sRul1 {r : Nat} (h : isRul r) : shp (r + 1) = .inr (0, 8) := by
  obtain ⟨d, i, hd, hi, rfl⟩ := h
  have e := shp_d (c := 6 + 2 * i) hd (by omega)
  rw [show d + 5 + 2 * i + 1 = d + (6 + 2 * i) by omega, e]
  rcases (show i = 0 ∨ i = 1 ∨ i = 2 ∨ i = 3 ∨ i = 4 ∨ i = 5 ∨ i = 6 ∨ i = 7 by omega) with rfl | rfl | rfl | rfl | rfl | rfl | rfl | rfl <;> rfl
theorem sKc {k : Nat} (h : isKc k) : shp k = .inl (4, [some (some (k + 1))]) := by
  obtain ⟨i, hi, rfl⟩ := h
  rcases (show i = 0 ∨ i = 1 ∨ i = 2 ∨ i = 3 by omega) with rfl | rfl | rfl | rfl <;> rfl
theorem sKc1 {k : Nat} (h : isKc k) : shp (k + 1) = .inr (0, 8) := by
  obtain ⟨i, hi, rfl⟩ := h
  rcases (show i = 0 ∨ i = 1 ∨ i = 2 ∨ i = 3 by omega) with rfl | rfl | rfl | rfl <;> rfl
theorem sCh {k : Nat} (h : isCh k) : shp k = .inl (0, [none, none, none, none]) := by
  obtain ⟨i, hi, rfl⟩ := h
  rcases (show i = 0 ∨ i = 1 ∨ i = 2 ∨ i = 3 by omega) with rfl | rfl | rfl | rfl <;> rfl
theorem sMk {k : Nat} (h : isMk k) : shp k = .inl (6, [none, none]) := by rcases h with rfl | rfl <;> rfl
theorem bRec {b N : Nat} (h : isRec b) (hN : 530 ≤ N) : b < N := by rcases h with rfl | rfl <;> omega
theorem bRec1 {b N : Nat} (h : isRec b) (hN : 530 ≤ N) : b + 1 < N := by rcases h with rfl | rfl <;> omega
theorem bDc {d N c : Nat} (h : isDom d) (hc : c < 21) (hN : 530 ≤ N) : d + c < N := by obtain ⟨b, q, hb, hq, rfl⟩ := h; rcases hb with rfl | rfl <;> omega
theorem bDom {d N : Nat} (h : isDom d) (hN : 530 ≤ N) : d < N := bDc (c := 0) h (by decide) hN
theorem bDom1 {d N : Nat} (h : isDom d) (hN : 530 ≤ N) : d + 1 < N := bDc h (by decide) hN
theorem bDom2 {d N : Nat} (h : isDom d) (hN : 530 ≤ N) : d + 2 < N := bDc h (by decide) hN
theorem bDom3 {d N : Nat} (h : isDom d) (hN : 530 ≤ N) : d + 3 < N := bDc h (by decide) hN
theorem bDom4 {d N : Nat} (h : isDom d) (hN : 530 ≤ N) : d + 4 < N := bDc h (by decide) hN
theorem bRul {r N : Nat} (h : isRul r) (hN : 530 ≤ N) : r < N := by obtain ⟨d, i, hd, hi, rfl⟩ := h; have := bDc (c := 5 + 2 * i) hd (by omega) hN; omega
theorem bRul1 {r N : Nat} (h : isRul r) (hN : 530 ≤ N) : r + 1 < N := by obtain ⟨d, i, hd, hi, rfl⟩ := h; have := bDc (c := 6 + 2 * i) hd (by omega) hN; omega
theorem bKc {k N : Nat} (h : isKc k) (hN : 530 ≤ N) : k < N := by obtain ⟨i, hi, rfl⟩ := h; omega
theorem bKc1 {k N : Nat} (h : isKc k) (hN : 530 ≤ N) : k + 1 < N := by obtain ⟨i, hi, rfl⟩ := h; omega
theorem bCh {k N : Nat} (h : isCh k) (hN : 530 ≤ N) : k < N := by obtain ⟨i, hi, rfl⟩ := h; omega
theorem bMk {k N : Nat} (h : isMk k) (hN : 530 ≤ N) : k < N := by rcases h with rfl | rfl <;> omega
theorem nRec {b : Nat} (h : isRec b) : b ≠ 0 := by rcases h with rfl | rfl <;> omega
theorem nDom {d : Nat} (h : isDom d) : d ≠ 0 := by obtain ⟨b, q, hb, hq, rfl⟩ := h; rcases hb with rfl | rfl <;> omega
theorem nRul {d : Nat} (h : isRul d) : d ≠ 0 := by obtain ⟨b, q, hb, hq, rfl⟩ := h; omega
theorem nKc {d : Nat} (h : isKc d) : d ≠ 0 := by obtain ⟨q, hq, rfl⟩ := h; omega
theorem nCh {d : Nat} (h : isCh d) : d ≠ 0 := by obtain ⟨q, hq, rfl⟩ := h; omega
theorem WT.int {M : Mem} (h : WT M) (a k : Nat) : InR (gI M a k) := h.1 a k
theorem WT.dom {M : Mem} (h : WT M) {b k : Nat} (hb : isRec b) (hk : k < 12) : isDom (gP M (b + 1) k) := h.2.1 b k hb hk
theorem WT.rul {M : Mem} (h : WT M) {d k : Nat} (hd : isDom d) (hk : k < 8) : isRul (gP M (d + 2) k) := h.2.2.1 d k hd hk
theorem WT.kc {M : Mem} (h : WT M) {k : Nat} (hk : k < 4) : isKc (gP M 261 k) := h.2.2.2.1 k hk
theorem WT.ch {M : Mem} (h : WT M) {k : Nat} (hk : k < 4) : isCh (gP M 271 k) := h.2.2.2.2 k hk
theorem WT.sI {M : Mem} (h : WT M) {a k : Nat} {v : Int} (hv : InR v) : WT (sI M a k v) := by
  refine ⟨fun b j => ?_, h.2⟩
  show InR (if b = a ∧ j = k then v else M.1 b j)
  split
  · exact hv
  · exact h.1 b j
theorem WT.sPgen {M : Mem} (h : WT M) {a k v : Nat} (h1 : ∀ b, isRec b → b + 1 = a → k < 12 → isDom v) (h2 : ∀ d, isDom d → d + 2 = a → k < 8 → isRul v) (h3 : a = 261 → k < 4 → isKc v) (h4 : a = 271 → k < 4 → isCh v) : WT (sP M a k v) := by
  refine ⟨h.1, fun b j hb hj => ?_, fun d j hd hj => ?_, fun j hj => ?_, fun j hj => ?_⟩
  · show isDom (if b + 1 = a ∧ j = k then v else M.2 (b + 1) j)
    split
    · rename_i q; exact h1 b hb q.1 (q.2 ▸ hj)
    · exact h.2.1 b j hb hj
  · show isRul (if d + 2 = a ∧ j = k then v else M.2 (d + 2) j)
    split
    · rename_i q; exact h2 d hd q.1 (q.2 ▸ hj)
    · exact h.2.2.1 d j hd hj
  · show isKc (if 261 = a ∧ j = k then v else M.2 261 j)
    split
    · rename_i q; exact h3 q.1.symm (q.2 ▸ hj)
    · exact h.2.2.2.1 j hj
  · show isCh (if 271 = a ∧ j = k then v else M.2 271 j)
    split
    · rename_i q; exact h4 q.1.symm (q.2 ▸ hj)
    · exact h.2.2.2.2 j hj
theorem WT.sPfld {M : Mem} (h : WT M) {a k v : Nat} (ha : a = 0 ∨ a = 258) : WT (sP M a k v) := by
  refine h.sPgen (fun b hb e => ?_) (fun d hd e => ?_) (fun e => ?_) (fun e => ?_)
  · rcases hb with rfl | rfl <;> omega
  · obtain ⟨b, q, hb, hq, rfl⟩ := hd
    rcases hb with rfl | rfl <;> omega
  · omega
  · omega
theorem WT.sPdom {M : Mem} (h : WT M) {b k v : Nat} (hb : isRec b) (hv : isDom v) : WT (sP M (b + 1) k v) := by
  refine h.sPgen (fun _ _ _ _ => hv) (fun d hd e => ?_) (fun e => ?_) (fun e => ?_)
  · obtain ⟨b', q, hb', hq, rfl⟩ := hd
    rcases hb' with rfl | rfl <;> rcases hb with rfl | rfl <;> omega
  · rcases hb with rfl | rfl <;> omega
  · rcases hb with rfl | rfl <;> omega
theorem WT.sPrul {M : Mem} (h : WT M) {d k v : Nat} (hd : isDom d) (hv : isRul v) : WT (sP M (d + 2) k v) := by
  refine h.sPgen (fun b hb e => ?_) (fun _ _ _ _ => hv) (fun e => ?_) (fun e => ?_)
  · obtain ⟨b', q, hb', hq, rfl⟩ := hd
    rcases hb' with rfl | rfl <;> rcases hb with rfl | rfl <;> omega
  · obtain ⟨b', q, hb', hq, rfl⟩ := hd
    rcases hb' with rfl | rfl <;> omega
  · obtain ⟨b', q, hb', hq, rfl⟩ := hd
    rcases hb' with rfl | rfl <;> omega
theorem WT.sPkc {M : Mem} (h : WT M) {k v : Nat} (hv : isKc v) : WT (sP M 261 k v) := by
  refine h.sPgen (fun b hb e => ?_) (fun d hd e => ?_) (fun _ _ => hv) (fun e => ?_)
  · rcases hb with rfl | rfl <;> omega
  · obtain ⟨b', q, hb', hq, rfl⟩ := hd
    rcases hb' with rfl | rfl <;> omega
  · omega
theorem WT.sPch {M : Mem} (h : WT M) {k v : Nat} (hv : isCh v) : WT (sP M 271 k v) := by
  refine h.sPgen (fun b hb e => ?_) (fun d hd e => ?_) (fun e => ?_) (fun _ _ => hv)
  · rcases hb with rfl | rfl <;> omega
  · obtain ⟨b', q, hb', hq, rfl⟩ := hd
    rcases hb' with rfl | rfl <;> omega
  · omega

theorem fi0 : ∀ w ∈ u_ws RX0 TX0 4, w ∈ gtbl := by decide +kernel
theorem fi1 : ∀ w ∈ u_ws RX1 TX1 11, w ∈ gtbl := by decide +kernel
theorem fi2 : ∀ w ∈ u_ws RX2 TX2 10, w ∈ gtbl := by decide +kernel
theorem fi3 : ∀ w ∈ u_ws RX3 TX3 2, w ∈ gtbl := by decide +kernel
theorem fi4 : ∀ w ∈ u_ws RX4 TX4 1, w ∈ gtbl := by decide +kernel
theorem fi5 : ∀ w ∈ u_ws RX5 TX5 2, w ∈ gtbl := by decide +kernel
theorem fi6 : ∀ w ∈ u_ws RX6 TX6 2, w ∈ gtbl := by decide +kernel
theorem fi7 : ∀ w ∈ u_ws RX7 TX7 4, w ∈ gtbl := by decide +kernel
theorem fi8 : ∀ w ∈ u_ws RX8 TX8 2, w ∈ gtbl := by decide +kernel
theorem fi9 : ∀ w ∈ u_ws RX9 TX9 7, w ∈ gtbl := by decide +kernel
theorem fi10 : ∀ w ∈ u_ws RX10 TX10 6, w ∈ gtbl := by decide +kernel
theorem fi11 : ∀ w ∈ u_ws RX11 TX11 48, w ∈ gtbl := by decide +kernel
section Rows
variable {g : Ctx} {y : MethodName} {cc : ByteArray} {nL : Nat} {ret : Option FieldType} {rm : Room} {N pc : Nat} {lv : List (Nat × Value)} {st : List Value} {M : Mem} {Q : Option Value → Mem → Prop}
theorem w_getI {a k ci idx : Nat} {C : String} {T : u_T} {Nf : Nat} {ks : List (Option (Option Nat))} (hd : decode cc pc = .ok (.getfield idx, 3)) (hc : classes[ci]? = some (C, T, Nf)) (hin : ∀ w ∈ u_ws C T Nf, w ∈ gtbl) (hk : k < Nf) (hlink : Cond.fieldLink y.cls idx (T k).1 (T k).2.1 (T k).2.2.1 ∈ gtbl) (hs : shp a = .inl (ci, ks)) (hkd : ks[k]? = some (none)) (ha : a < N) (kk : WP g y cc nL ret rm N (pc + 3) lv (vi (gI M a k) :: st) M Q) : WP g y cc nL ret rm N pc lv (vr g a :: st) M Q := by
  intro p e s m args below meth c H locs ls F hP hT hS hl
  obtain ⟨j, hj⟩ := ws_get g N M ha
  have hce : cellOf g M a = .inr (ci, ks.mapIdx (fvl g M a)) := by unfold cellOf; rw [hs]
  rw [hce] at hj
  exact va_get (v := vi (gI M a k)) F.1 F.2.1 F.2.2.2.2.2.1 hin F.2.2.2.2.1 F.2.2.2.2.2.2.2.1 hP j hj hc k hk (F.2.2.2.2.2.1 _ hlink) (fun _ h => h) (by rw [List.getElem?_mapIdx, hkd]; rfl) hd (kk p e s m args below meth c H locs ls F hP hT hS hl)
theorem w_getQ {a k ci idx : Nat} {C : String} {T : u_T} {Nf : Nat} {ks : List (Option (Option Nat))} (hd : decode cc pc = .ok (.getfield idx, 3)) (hc : classes[ci]? = some (C, T, Nf)) (hin : ∀ w ∈ u_ws C T Nf, w ∈ gtbl) (hk : k < Nf) (hlink : Cond.fieldLink y.cls idx (T k).1 (T k).2.1 (T k).2.2.1 ∈ gtbl) (hs : shp a = .inl (ci, ks)) (hkd : ks[k]? = some (some none)) (ha : a < N) (kk : WP g y cc nL ret rm N (pc + 3) lv (vq g (gP M a k) :: st) M Q) : WP g y cc nL ret rm N pc lv (vr g a :: st) M Q := by
  intro p e s m args below meth c H locs ls F hP hT hS hl
  obtain ⟨j, hj⟩ := ws_get g N M ha
  have hce : cellOf g M a = .inr (ci, ks.mapIdx (fvl g M a)) := by unfold cellOf; rw [hs]
  rw [hce] at hj
  exact va_get (v := vq g (gP M a k)) F.1 F.2.1 F.2.2.2.2.2.1 hin F.2.2.2.2.1 F.2.2.2.2.2.2.2.1 hP j hj hc k hk (F.2.2.2.2.2.1 _ hlink) (fun _ h => h) (by rw [List.getElem?_mapIdx, hkd]; rfl) hd (kk p e s m args below meth c H locs ls F hP hT hS hl)
theorem w_getS {a k ci idx : Nat} {C : String} {T : u_T} {Nf : Nat} {ks : List (Option (Option Nat))} {q : Nat} (hd : decode cc pc = .ok (.getfield idx, 3)) (hc : classes[ci]? = some (C, T, Nf)) (hin : ∀ w ∈ u_ws C T Nf, w ∈ gtbl) (hk : k < Nf) (hlink : Cond.fieldLink y.cls idx (T k).1 (T k).2.1 (T k).2.2.1 ∈ gtbl) (hs : shp a = .inl (ci, ks)) (hkd : ks[k]? = some (some (some q))) (ha : a < N) (kk : WP g y cc nL ret rm N (pc + 3) lv (vr g q :: st) M Q) : WP g y cc nL ret rm N pc lv (vr g a :: st) M Q := by
  intro p e s m args below meth c H locs ls F hP hT hS hl
  obtain ⟨j, hj⟩ := ws_get g N M ha
  have hce : cellOf g M a = .inr (ci, ks.mapIdx (fvl g M a)) := by unfold cellOf; rw [hs]
  rw [hce] at hj
  exact va_get (v := vr g q) F.1 F.2.1 F.2.2.2.2.2.1 hin F.2.2.2.2.1 F.2.2.2.2.2.2.2.1 hP j hj hc k hk (F.2.2.2.2.2.1 _ hlink) (fun _ h => h) (by rw [List.getElem?_mapIdx, hkd]; rfl) hd (kk p e s m args below meth c H locs ls F hP hT hS hl)
theorem w_getIN {a k ci idx : Nat} {C : String} {T : u_T} {Nf : Nat} {ks : List (Option (Option Nat))} (hd : decode cc pc = .ok (.getfield idx, 3)) (hc : classes[ci]? = some (C, T, Nf)) (hin : ∀ w ∈ u_ws C T Nf, w ∈ gtbl) (hk : k < Nf) (hlink : Cond.fieldLinkNest y.cls idx (T k).1 (T k).2.1 (T k).2.2.1 "SendRules" ∈ ntbl) (hs : shp a = .inl (ci, ks)) (hkd : ks[k]? = some (none)) (ha : a < N) (kk : WP g y cc nL ret rm N (pc + 3) lv (vi (gI M a k) :: st) M Q) : WP g y cc nL ret rm N pc lv (vr g a :: st) M Q := by
  intro p e s m args below meth c H locs ls F hP hT hS hl
  obtain ⟨j, hj⟩ := ws_get g N M ha
  have hce : cellOf g M a = .inr (ci, ks.mapIdx (fvl g M a)) := by unfold cellOf; rw [hs]
  rw [hce] at hj
  exact va_getN (v := vi (gI M a k)) F.1 F.2.1 F.2.2.2.2.2.1 hin F.2.2.2.2.1 F.2.2.2.2.2.2.2.1 hP j hj hc k hk (va_Nw.use rfl (F.2.2.2.2.2.2.2.2.1 _ hlink)) (fun _ h => h) (by rw [List.getElem?_mapIdx, hkd]; rfl) hd (kk p e s m args below meth c H locs ls F hP hT hS hl)
theorem w_getQN {a k ci idx : Nat} {C : String} {T : u_T} {Nf : Nat} {ks : List (Option (Option Nat))} (hd : decode cc pc = .ok (.getfield idx, 3)) (hc : classes[ci]? = some (C, T, Nf)) (hin : ∀ w ∈ u_ws C T Nf, w ∈ gtbl) (hk : k < Nf) (hlink : Cond.fieldLinkNest y.cls idx (T k).1 (T k).2.1 (T k).2.2.1 "SendRules" ∈ ntbl) (hs : shp a = .inl (ci, ks)) (hkd : ks[k]? = some (some none)) (ha : a < N) (kk : WP g y cc nL ret rm N (pc + 3) lv (vq g (gP M a k) :: st) M Q) : WP g y cc nL ret rm N pc lv (vr g a :: st) M Q := by
  intro p e s m args below meth c H locs ls F hP hT hS hl
  obtain ⟨j, hj⟩ := ws_get g N M ha
  have hce : cellOf g M a = .inr (ci, ks.mapIdx (fvl g M a)) := by unfold cellOf; rw [hs]
  rw [hce] at hj
  exact va_getN (v := vq g (gP M a k)) F.1 F.2.1 F.2.2.2.2.2.1 hin F.2.2.2.2.1 F.2.2.2.2.2.2.2.1 hP j hj hc k hk (va_Nw.use rfl (F.2.2.2.2.2.2.2.2.1 _ hlink)) (fun _ h => h) (by rw [List.getElem?_mapIdx, hkd]; rfl) hd (kk p e s m args below meth c H locs ls F hP hT hS hl)
theorem w_getSN {a k ci idx : Nat} {C : String} {T : u_T} {Nf : Nat} {ks : List (Option (Option Nat))} {q : Nat} (hd : decode cc pc = .ok (.getfield idx, 3)) (hc : classes[ci]? = some (C, T, Nf)) (hin : ∀ w ∈ u_ws C T Nf, w ∈ gtbl) (hk : k < Nf) (hlink : Cond.fieldLinkNest y.cls idx (T k).1 (T k).2.1 (T k).2.2.1 "SendRules" ∈ ntbl) (hs : shp a = .inl (ci, ks)) (hkd : ks[k]? = some (some (some q))) (ha : a < N) (kk : WP g y cc nL ret rm N (pc + 3) lv (vr g q :: st) M Q) : WP g y cc nL ret rm N pc lv (vr g a :: st) M Q := by
  intro p e s m args below meth c H locs ls F hP hT hS hl
  obtain ⟨j, hj⟩ := ws_get g N M ha
  have hce : cellOf g M a = .inr (ci, ks.mapIdx (fvl g M a)) := by unfold cellOf; rw [hs]
  rw [hce] at hj
  exact va_getN (v := vr g q) F.1 F.2.1 F.2.2.2.2.2.1 hin F.2.2.2.2.1 F.2.2.2.2.2.2.2.1 hP j hj hc k hk (va_Nw.use rfl (F.2.2.2.2.2.2.2.2.1 _ hlink)) (fun _ h => h) (by rw [List.getElem?_mapIdx, hkd]; rfl) hd (kk p e s m args below meth c H locs ls F hP hT hS hl)
theorem w_putI {a k ci idx : Nat} {C : String} {T : u_T} {Nf : Nat} {ks : List (Option (Option Nat))} {x : Int} (hd : decode cc pc = .ok (.putfield idx, 3)) (hc : classes[ci]? = some (C, T, Nf)) (hin : ∀ w ∈ u_ws C T Nf, w ∈ gtbl) (hk : k < Nf) (hlink : Cond.fieldLink y.cls idx (T k).1 (T k).2.1 (T k).2.2.1 ∈ gtbl) (ty : Nat → FieldType) (hty : ∀ j, j < Nf → parseFieldDescriptor (T j).2.2.1 = some (ty j)) (hnm : ∀ a, a < Nf → ∀ b, b < Nf → a ≠ b → (T a).2.1 ≠ (T b).2.1) (hf : (T k).2.2.2 = false) (hn : narrow (ty k) (vi x) = vi x) (hfit : fits (ty k) (vi x) = true) (hx : InR x) (hs : shp a = .inl (ci, ks)) (hkd : ks[k]? = some none) (ha : a < N) (kk : WP g y cc nL ret rm N (pc + 3) lv st (sI M a k x) Q) : WP g y cc nL ret rm N pc lv (vi x :: vr g a :: st) M Q := by
  intro p e s m args below meth c H locs ls F hP hT hS hl
  obtain ⟨j, hj⟩ := ws_get g N M ha
  have hj0 := hj
  have hce : ∀ M, cellOf g M a = .inr (ci, ks.mapIdx (fvl g M a)) := fun M => by unfold cellOf; rw [hs]
  rw [hce] at hj
  refine va_put (ty := ty k) F.1 F.2.1 F.2.2.2.2.2.1 hin ty hty hnm F.2.2.2.2.1 F.2.2.2.2.2.2.2.1 hP (ws_D g N M) hS j hj hc k hk (F.2.2.2.2.2.1 _ hlink) (fun _ h => h) hf (hty k hk) hn hfit (by rw [List.length_mapIdx]; exact (List.getElem?_eq_some_iff.mp hkd).1) hd (fun H1 locs1 hP1 hD1 hS1 => ?_)
  have es := ws_set g (M' := sI M a k x) (e := .inr (ci, (ks.mapIdx (fvl g M a)).set k (vi x))) ha hj0 (by rw [hce, flds_setI g M a k x ks hkd]) (fun b hb => cell_oI g M a k x hb)
  rw [es] at hP1
  exact kk p e s m args below meth c H1 locs1 ls F hP1 (hT.sI hx) hS1 hl
theorem w_putQ {a k ci idx : Nat} {C : String} {T : u_T} {Nf : Nat} {ks : List (Option (Option Nat))} {x : Nat} (hd : decode cc pc = .ok (.putfield idx, 3)) (hc : classes[ci]? = some (C, T, Nf)) (hin : ∀ w ∈ u_ws C T Nf, w ∈ gtbl) (hk : k < Nf) (hlink : Cond.fieldLink y.cls idx (T k).1 (T k).2.1 (T k).2.2.1 ∈ gtbl) (ty : Nat → FieldType) (hty : ∀ j, j < Nf → parseFieldDescriptor (T j).2.2.1 = some (ty j)) (hnm : ∀ a, a < Nf → ∀ b, b < Nf → a ≠ b → (T a).2.1 ≠ (T b).2.1) (hf : (T k).2.2.2 = false) (ht : ∃ C0, ty k = .object C0) (hx : WT M → WT (sP M a k x)) (hs : shp a = .inl (ci, ks)) (hkd : ks[k]? = some (some none)) (ha : a < N) (kk : WP g y cc nL ret rm N (pc + 3) lv st (sP M a k x) Q) : WP g y cc nL ret rm N pc lv (vq g x :: vr g a :: st) M Q := by
  intro p e s m args below meth c H locs ls F hP hT hS hl
  obtain ⟨j, hj⟩ := ws_get g N M ha
  have hj0 := hj
  have hce : ∀ M, cellOf g M a = .inr (ci, ks.mapIdx (fvl g M a)) := fun M => by unfold cellOf; rw [hs]
  rw [hce] at hj
  obtain ⟨C0, hC0⟩ := ht
  refine va_put (ty := ty k) F.1 F.2.1 F.2.2.2.2.2.1 hin ty hty hnm F.2.2.2.2.1 F.2.2.2.2.2.2.2.1 hP (ws_D g N M) hS j hj hc k hk (F.2.2.2.2.2.1 _ hlink) (fun _ h => h) hf (hty k hk) (by rw [hC0]; unfold vq oq; split <;> rfl) (by rw [hC0]; unfold vq oq; split <;> rfl) (by rw [List.length_mapIdx]; exact (List.getElem?_eq_some_iff.mp hkd).1) hd (fun H1 locs1 hP1 hD1 hS1 => ?_)
  have es := ws_set g (M' := sP M a k x) (e := .inr (ci, (ks.mapIdx (fvl g M a)).set k (vq g x))) ha hj0 (by rw [hce, flds_setP g M a k x ks hkd]) (fun b hb => cell_oP g M a k x hb)
  rw [es] at hP1
  exact kk p e s m args below meth c H1 locs1 ls F hP1 (hx hT) hS1 hl
theorem w_putIN {a k ci idx : Nat} {C : String} {T : u_T} {Nf : Nat} {ks : List (Option (Option Nat))} {x : Int} (hd : decode cc pc = .ok (.putfield idx, 3)) (hc : classes[ci]? = some (C, T, Nf)) (hin : ∀ w ∈ u_ws C T Nf, w ∈ gtbl) (hk : k < Nf) (hlink : Cond.fieldLinkNest y.cls idx (T k).1 (T k).2.1 (T k).2.2.1 "SendRules" ∈ ntbl) (ty : Nat → FieldType) (hty : ∀ j, j < Nf → parseFieldDescriptor (T j).2.2.1 = some (ty j)) (hnm : ∀ a, a < Nf → ∀ b, b < Nf → a ≠ b → (T a).2.1 ≠ (T b).2.1) (hf : (T k).2.2.2 = false) (hn : narrow (ty k) (vi x) = vi x) (hfit : fits (ty k) (vi x) = true) (hx : InR x) (hs : shp a = .inl (ci, ks)) (hkd : ks[k]? = some none) (ha : a < N) (kk : WP g y cc nL ret rm N (pc + 3) lv st (sI M a k x) Q) : WP g y cc nL ret rm N pc lv (vi x :: vr g a :: st) M Q := by
  intro p e s m args below meth c H locs ls F hP hT hS hl
  obtain ⟨j, hj⟩ := ws_get g N M ha
  have hj0 := hj
  have hce : ∀ M, cellOf g M a = .inr (ci, ks.mapIdx (fvl g M a)) := fun M => by unfold cellOf; rw [hs]
  rw [hce] at hj
  refine va_putN (ty := ty k) F.1 F.2.1 F.2.2.2.2.2.1 hin ty hty hnm F.2.2.2.2.1 F.2.2.2.2.2.2.2.1 hP (ws_D g N M) hS j hj hc k hk (va_Nw.use rfl (F.2.2.2.2.2.2.2.2.1 _ hlink)) (fun _ h => h) hf (hty k hk) hn hfit (by rw [List.length_mapIdx]; exact (List.getElem?_eq_some_iff.mp hkd).1) hd (fun H1 locs1 hP1 hD1 hS1 => ?_)
  have es := ws_set g (M' := sI M a k x) (e := .inr (ci, (ks.mapIdx (fvl g M a)).set k (vi x))) ha hj0 (by rw [hce, flds_setI g M a k x ks hkd]) (fun b hb => cell_oI g M a k x hb)
  rw [es] at hP1
  exact kk p e s m args below meth c H1 locs1 ls F hP1 (hT.sI hx) hS1 hl
theorem w_putQN {a k ci idx : Nat} {C : String} {T : u_T} {Nf : Nat} {ks : List (Option (Option Nat))} {x : Nat} (hd : decode cc pc = .ok (.putfield idx, 3)) (hc : classes[ci]? = some (C, T, Nf)) (hin : ∀ w ∈ u_ws C T Nf, w ∈ gtbl) (hk : k < Nf) (hlink : Cond.fieldLinkNest y.cls idx (T k).1 (T k).2.1 (T k).2.2.1 "SendRules" ∈ ntbl) (ty : Nat → FieldType) (hty : ∀ j, j < Nf → parseFieldDescriptor (T j).2.2.1 = some (ty j)) (hnm : ∀ a, a < Nf → ∀ b, b < Nf → a ≠ b → (T a).2.1 ≠ (T b).2.1) (hf : (T k).2.2.2 = false) (ht : ∃ C0, ty k = .object C0) (hx : WT M → WT (sP M a k x)) (hs : shp a = .inl (ci, ks)) (hkd : ks[k]? = some (some none)) (ha : a < N) (kk : WP g y cc nL ret rm N (pc + 3) lv st (sP M a k x) Q) : WP g y cc nL ret rm N pc lv (vq g x :: vr g a :: st) M Q := by
  intro p e s m args below meth c H locs ls F hP hT hS hl
  obtain ⟨j, hj⟩ := ws_get g N M ha
  have hj0 := hj
  have hce : ∀ M, cellOf g M a = .inr (ci, ks.mapIdx (fvl g M a)) := fun M => by unfold cellOf; rw [hs]
  rw [hce] at hj
  obtain ⟨C0, hC0⟩ := ht
  refine va_putN (ty := ty k) F.1 F.2.1 F.2.2.2.2.2.1 hin ty hty hnm F.2.2.2.2.1 F.2.2.2.2.2.2.2.1 hP (ws_D g N M) hS j hj hc k hk (va_Nw.use rfl (F.2.2.2.2.2.2.2.2.1 _ hlink)) (fun _ h => h) hf (hty k hk) (by rw [hC0]; unfold vq oq; split <;> rfl) (by rw [hC0]; unfold vq oq; split <;> rfl) (by rw [List.length_mapIdx]; exact (List.getElem?_eq_some_iff.mp hkd).1) hd (fun H1 locs1 hP1 hD1 hS1 => ?_)
  have es := ws_set g (M' := sP M a k x) (e := .inr (ci, (ks.mapIdx (fvl g M a)).set k (vq g x))) ha hj0 (by rw [hce, flds_setP g M a k x ks hkd]) (fun b hb => cell_oP g M a k x hb)
  rw [es] at hP1
  exact kk p e s m args below meth c H1 locs1 ls F hP1 (hx hT) hS1 hl
theorem w_iald {a n : Nat} {i : Int} (hd : decode cc pc = .ok (.iaload, 1)) (hs : shp a = .inr (0, n)) (ha : a < N) (hn : n < 2147483648) (h0 : 0 ≤ i) (h1 : i < n) (kk : WP g y cc nL ret rm N (pc + 1) lv (vi (gI M a i.toNat) :: st) M Q) : WP g y cc nL ret rm N pc lv (vi i :: vr g a :: st) M Q := by
  intro p e s m args below meth c H locs ls F hP hT hS hl
  obtain ⟨j, hj⟩ := ws_get g N M ha
  have hce : cellOf g M a = .inl (gcy g 0, n, .inl (fun j => Int32.ofInt (M.1 a j))) := by unfold cellOf; rw [hs]; rfl
  rw [hce] at hj
  refine va_iald F.1 F.2.1 F.2.2.2.2.2.2.2.1 hP j 0 hj rfl (vi_in h0 h1 hn) hd ?_
  rw [vi_clamp h0 ⟨by omega, by omega⟩]
  exact kk p e s m args below meth c H locs ls F hP hT hS hl
theorem w_cald {a n : Nat} {i : Int} (hd : decode cc pc = .ok (.caload, 1)) (hs : shp a = .inr (1, n)) (ha : a < N) (hn : n < 2147483648) (h0 : 0 ≤ i) (h1 : i < n) (kk : WP g y cc nL ret rm N (pc + 1) lv (vi (gI M a i.toNat) :: st) M Q) : WP g y cc nL ret rm N pc lv (vi i :: vr g a :: st) M Q := by
  intro p e s m args below meth c H locs ls F hP hT hS hl
  obtain ⟨j, hj⟩ := ws_get g N M ha
  have hce : cellOf g M a = .inl (gcy g 1, n, .inl (fun j => Int32.ofInt (M.1 a j))) := by unfold cellOf; rw [hs]; rfl
  rw [hce] at hj
  refine va_cald F.1 F.2.1 F.2.2.2.2.2.2.2.1 hP j 1 hj rfl (vi_in h0 h1 hn) hd ?_
  rw [vi_clamp h0 ⟨by omega, by omega⟩]
  exact kk p e s m args below meth c H locs ls F hP hT hS hl
theorem w_iast {a n : Nat} {i x : Int} (hd : decode cc pc = .ok (.iastore, 1)) (hs : shp a = .inr (0, n)) (ha : a < N) (hn : n < 2147483648) (h0 : 0 ≤ i) (h1 : i < n) (hx : InR x) (kk : WP g y cc nL ret rm N (pc + 1) lv st (sI M a i.toNat x) Q) : WP g y cc nL ret rm N pc lv (vi x :: vi i :: vr g a :: st) M Q := by
  intro p e s m args below meth c H locs ls F hP hT hS hl
  obtain ⟨j, hj⟩ := ws_get g N M ha
  have hj0 := hj
  have hce : ∀ M, cellOf g M a = .inl (gcy g 0, n, .inl (fun j => Int32.ofInt (M.1 a j))) := fun M => by unfold cellOf; rw [hs]; rfl
  rw [hce] at hj
  refine va_iast F.1 F.2.1 F.2.2.2.2.2.2.2.1 hP (ws_D g N M) hS j 0 hj rfl (vi_in h0 h1 hn) hd (fun H1 locs1 hP1 hD1 hS1 => ?_)
  rw [vi_clamp h0 ⟨by omega, by omega⟩] at hP1
  have es := ws_set g (M' := sI M a i.toNat x) (e := .inl (gcy g 0, n, .inl (upd (fun j => Int32.ofInt (M.1 a j)) i.toNat (Int32.ofInt x)))) ha hj0 (by rw [hce]; congr 4; funext q; simp only [upd, sI, true_and]; split <;> rfl) (fun b hb => cell_oI g M a _ x hb)
  rw [es] at hP1
  exact kk p e s m args below meth c H1 locs1 ls F hP1 (hT.sI hx) hS1 hl
theorem w_cast {a n : Nat} {i x : Int} (hd : decode cc pc = .ok (.castore, 1)) (hs : shp a = .inr (1, n)) (ha : a < N) (hn : n < 2147483648) (h0 : 0 ≤ i) (h1 : i < n) (hx : InR x) (hx0 : 0 ≤ x) (hx1 : x < 65536) (kk : WP g y cc nL ret rm N (pc + 1) lv st (sI M a i.toNat x) Q) : WP g y cc nL ret rm N pc lv (vi x :: vi i :: vr g a :: st) M Q := by
  intro p e s m args below meth c H locs ls F hP hT hS hl
  obtain ⟨j, hj⟩ := ws_get g N M ha
  have hj0 := hj
  have hce : ∀ M, cellOf g M a = .inl (gcy g 1, n, .inl (fun j => Int32.ofInt (M.1 a j))) := fun M => by unfold cellOf; rw [hs]; rfl
  rw [hce] at hj
  refine va_cast F.1 F.2.1 F.2.2.2.2.2.2.2.1 hP (ws_D g N M) hS j 1 hj rfl (vi_in h0 h1 hn) hd (fun H1 locs1 hP1 hD1 hS1 => ?_)
  rw [vi_clamp h0 ⟨by omega, by omega⟩] at hP1
  rw [show vp_nar .char (Int32.ofInt x) = Int32.ofInt x by obtain ⟨q, rfl⟩ := Int.eq_ofNat_of_zero_le hx0; rw [Int32.ofInt_eq_ofNat]; unfold vp_nar; have h9 := (pk_charN (q := q) (by omega)).1; unfold nI at h9; rw [h9]] at hP1
  have es := ws_set g (M' := sI M a i.toNat x) (e := .inl (gcy g 1, n, .inl (upd (fun j => Int32.ofInt (M.1 a j)) i.toNat (Int32.ofInt x)))) ha hj0 (by rw [hce]; congr 4; funext q; simp only [upd, sI, true_and]; split <;> rfl) (fun b hb => cell_oI g M a _ x hb)
  rw [es] at hP1
  exact kk p e s m args below meth c H1 locs1 ls F hP1 (hT.sI hx) hS1 hl
theorem w_aald {a t n : Nat} {i : Int} {C : String} (hd : decode cc pc = .ok (.aaload, 1)) (hs : shp a = .inr (t, n)) (ht2 : ¬ t < 2) (hty : (gtys g)[t]? = some (gcy g t, .object C)) (ha : a < N) (hn : n < 2147483648) (h0 : 0 ≤ i) (h1 : i < n) (hne : gP M a i.toNat ≠ 0) (kk : WP g y cc nL ret rm N (pc + 1) lv (vr g (gP M a i.toNat) :: st) M Q) : WP g y cc nL ret rm N pc lv (vi i :: vr g a :: st) M Q := by
  intro p e s m args below meth c H locs ls F hP hT hS hl
  obtain ⟨j, hj⟩ := ws_get g N M ha
  have hce : cellOf g M a = .inl (gcy g t, n, .inr (.inr (.inr (.inr (fun j => oq g (M.2 a j)))))) := by unfold cellOf; rw [hs]; simp only [arrOf, if_neg ht2]
  rw [hce] at hj
  refine va_aldq F.1 F.2.1 F.2.2.2.2.2.2.2.1 hP j t hj hty (vi_in h0 h1 hn) hd ?_
  rw [vi_clamp h0 ⟨by omega, by omega⟩]
  have e9 : va_rf (oq g (M.2 a i.toNat)) = vr g (gP M a i.toNat) := vq_ne hne
  rw [e9]
  exact kk p e s m args below meth c H locs ls F hP hT hS hl
theorem w_aast {a t n v ci : Nat} {i : Int} {r : vw_C} {ks : List (Option (Option Nat))} (hd : decode cc pc = .ok (.aastore, 1)) (hs : shp a = .inr (t, n)) (ht2 : ¬ t < 2) (hty : (gtys g)[t]? = some (gcy g t, .object r.1)) (ha : a < N) (hn : n < 2147483648) (h0 : 0 ≤ i) (h1 : i < n) (hv : shp v = .inl (ci, ks)) (hvN : v < N) (hv0 : v ≠ 0) (hc : classes[ci]? = some r) (hx : WT M → WT (sP M a i.toNat v)) (kk : WP g y cc nL ret rm N (pc + 1) lv st (sP M a i.toNat v) Q) : WP g y cc nL ret rm N pc lv (vr g v :: vi i :: vr g a :: st) M Q := by
  intro p e s m args below meth c H locs ls F hP hT hS hl
  obtain ⟨j, hj⟩ := ws_get g N M ha
  have hj0 := hj
  obtain ⟨j2, hj2⟩ := ws_get g N M hvN
  have hce : ∀ M, cellOf g M a = .inl (gcy g t, n, .inr (.inr (.inr (.inr (fun j => oq g (M.2 a j)))))) := fun M => by unfold cellOf; rw [hs]; simp only [arrOf, if_neg ht2]
  have hce2 : cellOf g M v = .inr (ci, ks.mapIdx (fvl g M v)) := by unfold cellOf; rw [hv]
  rw [hce] at hj
  rw [hce2] at hj2
  refine va_astq F.1 F.2.1 F.2.2.2.2.2.2.2.1 hP (ws_D g N M) hS j t j2 ci hj hty hj2 hc (vi_in h0 h1 hn) hd (fun H1 locs1 hP1 hD1 hS1 => ?_)
  rw [vi_clamp h0 ⟨by omega, by omega⟩] at hP1
  have es := ws_set g (M' := sP M a i.toNat v) (e := .inl (gcy g t, n, .inr (.inr (.inr (.inr (va_up (fun j => oq g (M.2 a j)) i.toNat (some (gB g + v)))))))) ha hj0 (by rw [hce]; congr 7; funext q; simp only [va_up, sP, true_and]; split <;> simp [oq, hv0]) (fun b hb => cell_oP g M a _ v hb)
  rw [es] at hP1
  exact kk p e s m args below meth c H1 locs1 ls F hP1 (hx hT) hS1 hl
theorem w_wt (kk : WT M → WP g y cc nL ret rm N pc lv st M Q) : WP g y cc nL ret rm N pc lv st M Q := by
  intro p e s m args below meth c H locs ls F hP hT hS hl
  exact kk hT p e s m args below meth c H locs ls F hP hT hS hl
theorem w_tabIn {x v dflt lo hi off : Int} {offs : Array Int} {len tgt : Nat} (hd : decode cc pc = .ok (.tableswitch dflt lo hi offs, len)) (hx : x = v) (hr : InR v) (h1 : ¬ v < lo) (h2 : ¬ hi < v) (ho : offs[(v - lo).toNat]? = some off) (ht : (pc : Int) + off = (tgt : Int)) (kk : WP g y cc nL ret rm N tgt lv st M Q) : WP g y cc nL ret rm N pc lv (vi x :: st) M Q := by
  intro p e s m args below meth c H locs ls F hP hT hS hl
  subst hx
  exact lv_tableIn F.1 F.2.1 hd (by rw [vi_toInt hr]; exact h1) (by rw [vi_toInt hr]; exact h2) (by rw [vi_toInt hr]; exact ho) ht (kk p e s m args below meth c H locs ls F hP hT hS hl)
theorem w_tabOut {x dflt lo hi : Int} {offs : Array Int} {len tgt : Nat} (hd : decode cc pc = .ok (.tableswitch dflt lo hi offs, len)) (hr : InR x) (h : x < lo ∨ hi < x) (ht : (pc : Int) + dflt = (tgt : Int)) (kk : WP g y cc nL ret rm N tgt lv st M Q) : WP g y cc nL ret rm N pc lv (vi x :: st) M Q := by
  intro p e s m args below meth c H locs ls F hP hT hS hl
  exact lv_tableOut F.1 F.2.1 hd (by rw [vi_toInt hr]; exact h) ht (kk p e s m args below meth c H locs ls F hP hT hS hl)
theorem w_look {x dflt off : Int} {ps : Array (Int × Int)} {len tgt : Nat} (hd : decode cc pc = .ok (.lookupswitch dflt ps, len)) (hr : InR x) (hp : (ps.toList.zip (ps.toList.drop 1)).all (fun (a, next) => a.1 < next.1) = true) (ho : Op.lookupswitch.offset ps.toList dflt x = off) (ht : (pc : Int) + off = (tgt : Int)) (kk : WP g y cc nL ret rm N tgt lv st M Q) : WP g y cc nL ret rm N pc lv (vi x :: st) M Q := by
  intro p e s m args below meth c H locs ls F hP hT hS hl
  exact lv_lookup F.1 F.2.1 hd hp (by rw [vi_toInt hr]; exact ho) ht (kk p e s m args below meth c H locs ls F hP hT hS hl)
theorem run_go {p : Program} {e : Env} {R : Room} {s : State} {m : MethodId} {args : Array Value} {below : List Frame} {meth : Method} {c : Code} {H : Heap} {locs : List Loc} {Qw : State → Prop} {ls : Array Slot} {st0 rest : List Value} {Q' : Option Value → Mem → Prop} {a : Array Value} (hr : va_Run p (gl g) e R s m args below meth c H locs 0 0 0 0 (F0 m pc ls st0) rest (QcM g N Q' a) (gA g)) (hS : va_S (gA g) s.heap H locs)
    (kk : ∀ (v : Option Value) (M' : Mem) (H1 : Heap) (locs1 : List Loc), Q' v M' → va_P (gD g) classes (wsN g N M') H1 → WT M' → va_S (gA g) s.heap H1 locs1 → W p (gl g) e R s m args below meth c H1 locs1 0 0 Qw (F0 m (pc + 3) ls (v.toList ++ rest))) : W p (gl g) e R s m args below meth c H locs 0 0 Qw (F0 m pc ls st0) := by
  intro T hT X
  obtain ⟨v, st₀, t, T', L, h0, X', hL, e1, e2, ⟨⟨v', M', hv, hQ, hW⟩, hF⟩, st⟩ := hr T hT X
  cases hv
  have hS1 : va_S (gA g) s.heap t.heap (locs ++ L) := by
    refine ⟨?_, fun q h1 h2 => ?_, fun q hq => ?_⟩
    · have := hF.1
      rw [h0] at this
      exact Nat.le_trans hS.1 this
    · rw [hF.2 q (by rw [h0]; exact Nat.lt_of_lt_of_le h1 hS.1) h2, h0]
      exact hS.2.1 q h1 h2
    · rcases List.mem_append.mp hq with h | h
      · exact hS.2.2 q h
      · exact hL q h
  obtain ⟨t2, a1, b1⟩ := kk v M' t.heap (locs ++ L) hQ hW.1 hW.2.1 hS1 T' e1 X'
  exact ⟨t2, st t2 a1, b1⟩
theorem gW {w : Cond} (h : w ∈ gtbl) : w ∈ gtbl ∧ ((w.onTables && w.keeps) = true ∨ ∃ ty, w = .arrayClass ty) := ⟨h, gt_ok w h⟩
theorem gWs {w : Cond} (h : w ∈ gtbl) : GoodIn gtbl (w :: gtbl) := fun x hx => by
  rcases List.mem_cons.mp hx with rfl | hx
  · exact gW h
  · exact gW hx
theorem w_callV {y' : MethodName} {cc' : ByteArray} {nL' idx n : Nat} {ret' : Option FieldType} {rm' : Room} {As rest st0 : List Value} {a ci : Nat} {r : vw_C} {ks : List (Option (Option Nat))} (hd : decode cc pc = .ok (.invokevirtual idx, 3)) (hlink : Cond.methodLink y.cls idx y' ∈ gtbl) (hinst : Cond.instanceMethod y' ∈ gtbl) (hsel : Cond.selects y'.cls y' y' ∈ gtbl) (hini : Cond.initialized y'.cls ∈ gtbl) (hcode : Cond.code y' cc' nL' ret' ∈ gtbl) (hn : y'.cls ≠ "java/lang/invoke/MethodHandle" ∧ y'.cls ≠ "java/lang/invoke/VarHandle" ∧ (parseMethodDescriptor y'.desc).map (fun d => d.parameters.length) = some n) (hroom : rm'.cells = 0 ∧ rm'.slots = 0 ∧ rm'.frames + 1 ≤ rm.frames ∧ 8 + (nL' + 11) + rm'.locals ≤ rm.locals) (hAs : As.length = n) (hrest : (rest.map fun v => v.category).sum ≤ 8) (hst : st0 = As.reverse ++ vr g a :: rest) (hs : shp a = .inl (ci, ks)) (ha : a < N) (hc : classes[ci]? = some r) (hr1 : r.1 = y'.cls) (kk : CallsM g y' cc' nL' ret' rm' N (vr g a :: As) M (fun v M' => WP g y cc nL ret rm N (pc + 3) lv (v.toList ++ rest) M' Q)) : WP g y cc nL ret rm N pc lv st0 M Q := by
  intro p e s m args below meth c H locs ls F hP hT hS hl
  subst hst
  obtain ⟨hr1c, hr2c, hr3c, hr4c⟩ := hroom
  obtain ⟨j, hj⟩ := ws_get g N M ha
  have hce : cellOf g M a = .inr (ci, ks.mapIdx (fvl g M a)) := by unfold cellOf; rw [hs]
  rw [hce] at hj
  have hG : GoodIn gtbl (wsV y.cls idx y'.cls y' (.code y' cc' nL' ret' :: gtbl)) := fun w hw => by
    rcases List.mem_append.mp (show w ∈ ([.methodLink y.cls idx y', .instanceMethod y', .selects y'.cls y' y', .initialized y'.cls] : List Cond) ++ (.code y' cc' nL' ret' :: gtbl) from hw) with h | h
    · simp only [List.mem_cons, List.not_mem_nil, or_false] at h
      rcases h with rfl | rfl | rfl | rfl
      · exact gW hlink
      · exact gW hinst
      · exact gW hsel
      · exact gW hini
    · exact gWs hcode w h
  refine run_go (va_runV (b := gB g + a) (As := As) (rest := rest) (nL := nL) ⟨F.1, F.2.1, F.2.2.2.1, F.2.2.2.2.1, F.2.2.2.2.2.1⟩ kk (cwV n F.2.2.2.2.2.1 hG rfl hr1c hr2c ⟨rfl, hn⟩ ⟨hr3c, hr4c⟩) ⟨fun a U f mk q => ⟨q.1, q.2.1, q.2.2.1, q.2.2.2.blind f mk a⟩, ?_, fun U hU hW => ⟨rfl, by rw [hU]; exact hP, hT, F.2.2.2.2.2.2.2.at hS hU hW⟩⟩ rfl hAs hl.1 rfl (lv_room hrest) hd ⟨Nat.zero_le _, Nat.zero_le _⟩) hS (fun v M' H1 locs1 hQ hP1 hT1 hS1 => hQ p e s m args below meth c H1 locs1 ls F hP1 hT1 hS1 hl)
  rw [← hr1]
  exact va_recv F.2.2.2.2.2.2.2.1 hP hc hj
theorem w_callS {y' : MethodName} {cc' : ByteArray} {nL' idx n : Nat} {ret' : Option FieldType} {rm' : Room} {As rest st0 : List Value} (hd : decode cc pc = .ok (.invokestatic idx, 3)) (hlink : Cond.methodLink y.cls idx y' ∈ gtbl) (hstat : Cond.static y' ∈ gtbl) (hini : Cond.initialized y'.cls ∈ gtbl) (hcode : Cond.code y' cc' nL' ret' ∈ gtbl) (hn : y'.cls ≠ "java/lang/invoke/MethodHandle" ∧ y'.cls ≠ "java/lang/invoke/VarHandle" ∧ (parseMethodDescriptor y'.desc).map (fun d => d.parameters.length) = some n) (hroom : rm'.cells = 0 ∧ rm'.slots = 0 ∧ rm'.frames + 1 ≤ rm.frames ∧ 8 + (nL' + 11) + rm'.locals ≤ rm.locals) (hAs : As.length = n) (hrest : (rest.map fun v => v.category).sum ≤ 8) (hst : st0 = As.reverse ++ rest) (kk : CallsM g y' cc' nL' ret' rm' N As M (fun v M' => WP g y cc nL ret rm N (pc + 3) lv (v.toList ++ rest) M' Q)) : WP g y cc nL ret rm N pc lv st0 M Q := by
  intro p e s m args below meth c H locs ls F hP hT hS hl
  subst hst
  obtain ⟨hr1c, hr2c, hr3c, hr4c⟩ := hroom
  have hG : GoodIn gtbl (va_wsS y.cls idx y' (.code y' cc' nL' ret' :: gtbl)) := fun w hw => by
    rcases List.mem_append.mp (show w ∈ ([.methodLink y.cls idx y', .static y', .initialized y'.cls] : List Cond) ++ (.code y' cc' nL' ret' :: gtbl) from hw) with h | h
    · simp only [List.mem_cons, List.not_mem_nil, or_false] at h
      rcases h with rfl | rfl | rfl
      · exact gW hlink
      · exact gW hstat
      · exact gW hini
    · exact gWs hcode w h
  refine run_go (va_runS (As := As) (rest := rest) (nL := nL) ⟨F.1, F.2.1, F.2.2.2.1, F.2.2.2.2.1, F.2.2.2.2.2.1⟩ kk (va_cwS n F.2.2.2.2.2.1 hG rfl hr1c hr2c hn ⟨hr3c, hr4c⟩) ⟨fun a U f mk q => ⟨q.1, q.2.1, q.2.2.1, q.2.2.2.blind f mk a⟩, fun U hU hW => ⟨rfl, by rw [hU]; exact hP, hT, F.2.2.2.2.2.2.2.at hS hU hW⟩⟩ rfl hAs hl.1 rfl (lv_room hrest) hd ⟨Nat.zero_le _, Nat.zero_le _⟩) hS (fun v M' H1 locs1 hQ hP1 hT1 hS1 => hQ p e s m args below meth c H1 locs1 ls F hP1 hT1 hS1 hl)
end Rows
end
