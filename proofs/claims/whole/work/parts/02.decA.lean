theorem dX0_init_0 : decode cX0_init 0 = .ok (.aload_n 0, 1) := by decide +kernel
theorem dX0_init_1 : decode cX0_init 1 = .ok (.invokespecial 1, 3) := by decide +kernel
theorem dX0_init_4 : decode cX0_init 4 = .ok (.return_, 1) := by decide +kernel
theorem dX1_init_0 : decode cX1_init 0 = .ok (.aload_n 0, 1) := by decide +kernel
theorem dX1_init_1 : decode cX1_init 1 = .ok (.invokespecial 3, 3) := by decide +kernel
theorem dX1_init_4 : decode cX1_init 4 = .ok (.aload_n 0, 1) := by decide +kernel
theorem dX1_init_5 : decode cX1_init 5 = .ok (.bipush 7, 2) := by decide +kernel
theorem dX1_init_7 : decode cX1_init 7 = .ok (.newarray .int, 2) := by decide +kernel
theorem dX1_init_9 : decode cX1_init 9 = .ok (.putfield 9, 3) := by decide +kernel
theorem dX1_init_12 : decode cX1_init 12 = .ok (.aload_n 0, 1) := by decide +kernel
theorem dX1_init_13 : decode cX1_init 13 = .ok (.bipush 8, 2) := by decide +kernel
theorem dX1_init_15 : decode cX1_init 15 = .ok (.anewarray 15, 3) := by decide +kernel
theorem dX1_init_18 : decode cX1_init 18 = .ok (.putfield 17, 3) := by decide +kernel
theorem dX1_init_21 : decode cX1_init 21 = .ok (.aload_n 0, 1) := by decide +kernel
theorem dX1_init_22 : decode cX1_init 22 = .ok (.iconst 4, 1) := by decide +kernel
theorem dX1_init_23 : decode cX1_init 23 = .ok (.newarray .int, 2) := by decide +kernel
theorem dX1_init_25 : decode cX1_init 25 = .ok (.putfield 21, 3) := by decide +kernel
theorem dX1_init_28 : decode cX1_init 28 = .ok (.aload_n 0, 1) := by decide +kernel
theorem dX1_init_29 : decode cX1_init 29 = .ok (.iconst 3, 1) := by decide +kernel
theorem dX1_init_30 : decode cX1_init 30 = .ok (.newarray .int, 2) := by decide +kernel
theorem dX1_init_32 : decode cX1_init 32 = .ok (.putfield 24, 3) := by decide +kernel
theorem dX1_init_35 : decode cX1_init 35 = .ok (.iconst 0, 1) := by decide +kernel
theorem dX1_init_36 : decode cX1_init 36 = .ok (.istore_n 1, 1) := by decide +kernel
theorem dX1_init_37 : decode cX1_init 37 = .ok (.iload_n 1, 1) := by decide +kernel
theorem dX1_init_38 : decode cX1_init 38 = .ok (.bipush 8, 2) := by decide +kernel
theorem dX1_init_40 : decode cX1_init 40 = .ok (.if_icmp .ge 22, 3) := by decide +kernel
theorem dX1_init_43 : decode cX1_init 43 = .ok (.aload_n 0, 1) := by decide +kernel
theorem dX1_init_44 : decode cX1_init 44 = .ok (.getfield 17, 3) := by decide +kernel
theorem dX1_init_47 : decode cX1_init 47 = .ok (.iload_n 1, 1) := by decide +kernel
theorem dX1_init_48 : decode cX1_init 48 = .ok (.new 15, 3) := by decide +kernel
theorem dX1_init_51 : decode cX1_init 51 = .ok (.dup, 1) := by decide +kernel
theorem dX1_init_52 : decode cX1_init 52 = .ok (.invokespecial 27, 3) := by decide +kernel
theorem dX1_init_55 : decode cX1_init 55 = .ok (.aastore, 1) := by decide +kernel
theorem dX1_init_56 : decode cX1_init 56 = .ok (.iinc 1 1, 3) := by decide +kernel
theorem dX1_init_59 : decode cX1_init 59 = .ok (.goto (-22), 3) := by decide +kernel
theorem dX1_init_62 : decode cX1_init 62 = .ok (.return_, 1) := by decide +kernel
theorem dX1_start_0 : decode cX1_start 0 = .ok (.aload_n 0, 1) := by decide +kernel
theorem dX1_start_1 : decode cX1_start 1 = .ok (.iload_n 1, 1) := by decide +kernel
theorem dX1_start_2 : decode cX1_start 2 = .ok (.putfield 28, 3) := by decide +kernel
theorem dX1_start_5 : decode cX1_start 5 = .ok (.aload_n 0, 1) := by decide +kernel
theorem dX1_start_6 : decode cX1_start 6 = .ok (.iconst 0, 1) := by decide +kernel
theorem dX1_start_7 : decode cX1_start 7 = .ok (.putfield 32, 3) := by decide +kernel
theorem dX1_start_10 : decode cX1_start 10 = .ok (.iload_n 1, 1) := by decide +kernel
theorem dX1_start_11 : decode cX1_start 11 = .ok (.istore_n 2, 1) := by decide +kernel
theorem dX1_start_12 : decode cX1_start 12 = .ok (.bipush 6, 2) := by decide +kernel
theorem dX1_start_14 : decode cX1_start 14 = .ok (.istore_n 3, 1) := by decide +kernel
theorem dX1_start_15 : decode cX1_start 15 = .ok (.iload_n 3, 1) := by decide +kernel
theorem dX1_start_16 : decode cX1_start 16 = .ok (.ifCond .lt 45, 3) := by decide +kernel
theorem dX1_start_19 : decode cX1_start 19 = .ok (.iload_n 2, 1) := by decide +kernel
theorem dX1_start_20 : decode cX1_start 20 = .ok (.bipush 17, 2) := by decide +kernel
theorem dX1_start_22 : decode cX1_start 22 = .ok (.irem, 1) := by decide +kernel
theorem dX1_start_23 : decode cX1_start 23 = .ok (.istore 4, 2) := by decide +kernel
theorem dX1_start_25 : decode cX1_start 25 = .ok (.iload_n 2, 1) := by decide +kernel
theorem dX1_start_26 : decode cX1_start 26 = .ok (.bipush 17, 2) := by decide +kernel
theorem dX1_start_28 : decode cX1_start 28 = .ok (.idiv, 1) := by decide +kernel
theorem dX1_start_29 : decode cX1_start 29 = .ok (.istore_n 2, 1) := by decide +kernel
theorem dX1_start_30 : decode cX1_start 30 = .ok (.aload_n 0, 1) := by decide +kernel
theorem dX1_start_31 : decode cX1_start 31 = .ok (.getfield 9, 3) := by decide +kernel
theorem dX1_start_34 : decode cX1_start 34 = .ok (.iload_n 3, 1) := by decide +kernel
theorem dX1_start_35 : decode cX1_start 35 = .ok (.iload 4, 2) := by decide +kernel
theorem dX1_start_37 : decode cX1_start 37 = .ok (.iconst 1, 1) := by decide +kernel
theorem dX1_start_38 : decode cX1_start 38 = .ok (.isub, 1) := by decide +kernel
theorem dX1_start_39 : decode cX1_start 39 = .ok (.iastore, 1) := by decide +kernel
theorem dX1_start_40 : decode cX1_start 40 = .ok (.iload 4, 2) := by decide +kernel
theorem dX1_start_42 : decode cX1_start 42 = .ok (.ifCond .le 13, 3) := by decide +kernel
theorem dX1_start_45 : decode cX1_start 45 = .ok (.aload_n 0, 1) := by decide +kernel
theorem dX1_start_46 : decode cX1_start 46 = .ok (.dup, 1) := by decide +kernel
theorem dX1_start_47 : decode cX1_start 47 = .ok (.getfield 32, 3) := by decide +kernel
theorem dX1_start_50 : decode cX1_start 50 = .ok (.iconst 1, 1) := by decide +kernel
theorem dX1_start_51 : decode cX1_start 51 = .ok (.iadd, 1) := by decide +kernel
theorem dX1_start_52 : decode cX1_start 52 = .ok (.putfield 32, 3) := by decide +kernel
theorem dX1_start_55 : decode cX1_start 55 = .ok (.iinc 3 (-1), 3) := by decide +kernel
theorem dX1_start_58 : decode cX1_start 58 = .ok (.goto (-43), 3) := by decide +kernel
theorem dX1_start_61 : decode cX1_start 61 = .ok (.aload_n 0, 1) := by decide +kernel
theorem dX1_start_62 : decode cX1_start 62 = .ok (.iconst 0, 1) := by decide +kernel
theorem dX1_start_63 : decode cX1_start 63 = .ok (.putfield 35, 3) := by decide +kernel
theorem dX1_start_66 : decode cX1_start 66 = .ok (.aload_n 0, 1) := by decide +kernel
theorem dX1_start_67 : decode cX1_start 67 = .ok (.iconst 0, 1) := by decide +kernel
theorem dX1_start_68 : decode cX1_start 68 = .ok (.putfield 39, 3) := by decide +kernel
theorem dX1_start_71 : decode cX1_start 71 = .ok (.aload_n 0, 1) := by decide +kernel
theorem dX1_start_72 : decode cX1_start 72 = .ok (.iconst 0, 1) := by decide +kernel
theorem dX1_start_73 : decode cX1_start 73 = .ok (.putfield 42, 3) := by decide +kernel
theorem dX1_start_76 : decode cX1_start 76 = .ok (.aload_n 0, 1) := by decide +kernel
theorem dX1_start_77 : decode cX1_start 77 = .ok (.iconst 0, 1) := by decide +kernel
theorem dX1_start_78 : decode cX1_start 78 = .ok (.putfield 45, 3) := by decide +kernel
theorem dX1_start_81 : decode cX1_start 81 = .ok (.aload_n 0, 1) := by decide +kernel
theorem dX1_start_82 : decode cX1_start 82 = .ok (.iconst 0, 1) := by decide +kernel
theorem dX1_start_83 : decode cX1_start 83 = .ok (.putfield 48, 3) := by decide +kernel
theorem dX1_start_86 : decode cX1_start 86 = .ok (.return_, 1) := by decide +kernel
theorem dX1_startPolicy_0 : decode cX1_startPolicy 0 = .ok (.aload_n 0, 1) := by decide +kernel
theorem dX1_startPolicy_1 : decode cX1_startPolicy 1 = .ok (.iconst 1, 1) := by decide +kernel
theorem dX1_startPolicy_2 : decode cX1_startPolicy 2 = .ok (.putfield 35, 3) := by decide +kernel
theorem dX1_startPolicy_5 : decode cX1_startPolicy 5 = .ok (.aload_n 0, 1) := by decide +kernel
theorem dX1_startPolicy_6 : decode cX1_startPolicy 6 = .ok (.iconst 0, 1) := by decide +kernel
theorem dX1_startPolicy_7 : decode cX1_startPolicy 7 = .ok (.putfield 39, 3) := by decide +kernel
theorem dX1_startPolicy_10 : decode cX1_startPolicy 10 = .ok (.aload_n 0, 1) := by decide +kernel
theorem dX1_startPolicy_11 : decode cX1_startPolicy 11 = .ok (.iconst 0, 1) := by decide +kernel
theorem dX1_startPolicy_12 : decode cX1_startPolicy 12 = .ok (.putfield 42, 3) := by decide +kernel
theorem dX1_startPolicy_15 : decode cX1_startPolicy 15 = .ok (.return_, 1) := by decide +kernel
theorem dX1_addRule_0 : decode cX1_addRule 0 = .ok (.aload_n 0, 1) := by decide +kernel
theorem dX1_addRule_1 : decode cX1_addRule 1 = .ok (.getfield 39, 3) := by decide +kernel
theorem dX1_addRule_4 : decode cX1_addRule 4 = .ok (.bipush 8, 2) := by decide +kernel
theorem dX1_addRule_6 : decode cX1_addRule 6 = .ok (.if_icmp .lt 5, 3) := by decide +kernel
theorem dX1_addRule_9 : decode cX1_addRule 9 = .ok (.aconst_null, 1) := by decide +kernel
theorem dX1_addRule_10 : decode cX1_addRule 10 = .ok (.areturn, 1) := by decide +kernel
theorem dX1_addRule_11 : decode cX1_addRule 11 = .ok (.aload_n 0, 1) := by decide +kernel
theorem dX1_addRule_12 : decode cX1_addRule 12 = .ok (.dup, 1) := by decide +kernel
theorem dX1_addRule_13 : decode cX1_addRule 13 = .ok (.getfield 39, 3) := by decide +kernel
theorem dX1_addRule_16 : decode cX1_addRule 16 = .ok (.iconst 1, 1) := by decide +kernel
theorem dX1_addRule_17 : decode cX1_addRule 17 = .ok (.iadd, 1) := by decide +kernel
theorem dX1_addRule_18 : decode cX1_addRule 18 = .ok (.putfield 39, 3) := by decide +kernel
theorem dX1_addRule_21 : decode cX1_addRule 21 = .ok (.aload_n 0, 1) := by decide +kernel
theorem dX1_addRule_22 : decode cX1_addRule 22 = .ok (.getfield 17, 3) := by decide +kernel
theorem dX1_addRule_25 : decode cX1_addRule 25 = .ok (.aload_n 0, 1) := by decide +kernel
theorem dX1_addRule_26 : decode cX1_addRule 26 = .ok (.getfield 39, 3) := by decide +kernel
theorem dX1_addRule_29 : decode cX1_addRule 29 = .ok (.iconst 1, 1) := by decide +kernel
theorem dX1_addRule_30 : decode cX1_addRule 30 = .ok (.isub, 1) := by decide +kernel
theorem dX1_addRule_31 : decode cX1_addRule 31 = .ok (.aaload, 1) := by decide +kernel
theorem dX1_addRule_32 : decode cX1_addRule 32 = .ok (.areturn, 1) := by decide +kernel
theorem dX1_ruleAt_0 : decode cX1_ruleAt 0 = .ok (.iload_n 1, 1) := by decide +kernel
theorem dX1_ruleAt_1 : decode cX1_ruleAt 1 = .ok (.ifCond .lt 20, 3) := by decide +kernel
theorem dX1_ruleAt_4 : decode cX1_ruleAt 4 = .ok (.iload_n 1, 1) := by decide +kernel
theorem dX1_ruleAt_5 : decode cX1_ruleAt 5 = .ok (.aload_n 0, 1) := by decide +kernel
theorem dX1_ruleAt_6 : decode cX1_ruleAt 6 = .ok (.getfield 39, 3) := by decide +kernel
theorem dX1_ruleAt_9 : decode cX1_ruleAt 9 = .ok (.if_icmp .ge 12, 3) := by decide +kernel
theorem dX1_ruleAt_12 : decode cX1_ruleAt 12 = .ok (.aload_n 0, 1) := by decide +kernel
theorem dX1_ruleAt_13 : decode cX1_ruleAt 13 = .ok (.getfield 17, 3) := by decide +kernel
theorem dX1_ruleAt_16 : decode cX1_ruleAt 16 = .ok (.iload_n 1, 1) := by decide +kernel
theorem dX1_ruleAt_17 : decode cX1_ruleAt 17 = .ok (.aaload, 1) := by decide +kernel
theorem dX1_ruleAt_18 : decode cX1_ruleAt 18 = .ok (.goto 4, 3) := by decide +kernel
theorem dX1_ruleAt_21 : decode cX1_ruleAt 21 = .ok (.aconst_null, 1) := by decide +kernel
theorem dX1_ruleAt_22 : decode cX1_ruleAt 22 = .ok (.areturn, 1) := by decide +kernel
theorem dX1_swapRules_0 : decode cX1_swapRules 0 = .ok (.iload_n 1, 1) := by decide +kernel
theorem dX1_swapRules_1 : decode cX1_swapRules 1 = .ok (.ifCond .lt 13, 3) := by decide +kernel
theorem dX1_swapRules_4 : decode cX1_swapRules 4 = .ok (.iload_n 1, 1) := by decide +kernel
theorem dX1_swapRules_5 : decode cX1_swapRules 5 = .ok (.aload_n 0, 1) := by decide +kernel
theorem dX1_swapRules_6 : decode cX1_swapRules 6 = .ok (.getfield 39, 3) := by decide +kernel
theorem dX1_swapRules_9 : decode cX1_swapRules 9 = .ok (.iconst 1, 1) := by decide +kernel
theorem dX1_swapRules_10 : decode cX1_swapRules 10 = .ok (.isub, 1) := by decide +kernel
theorem dX1_swapRules_11 : decode cX1_swapRules 11 = .ok (.if_icmp .lt 5, 3) := by decide +kernel
theorem dX1_swapRules_14 : decode cX1_swapRules 14 = .ok (.iconst 0, 1) := by decide +kernel
theorem dX1_swapRules_15 : decode cX1_swapRules 15 = .ok (.ireturn, 1) := by decide +kernel
theorem dX1_swapRules_16 : decode cX1_swapRules 16 = .ok (.aload_n 0, 1) := by decide +kernel
theorem dX1_swapRules_17 : decode cX1_swapRules 17 = .ok (.getfield 17, 3) := by decide +kernel
theorem dX1_swapRules_20 : decode cX1_swapRules 20 = .ok (.iload_n 1, 1) := by decide +kernel
theorem dX1_swapRules_21 : decode cX1_swapRules 21 = .ok (.aaload, 1) := by decide +kernel
theorem dX1_swapRules_22 : decode cX1_swapRules 22 = .ok (.astore_n 2, 1) := by decide +kernel
theorem dX1_swapRules_23 : decode cX1_swapRules 23 = .ok (.aload_n 0, 1) := by decide +kernel
theorem dX1_swapRules_24 : decode cX1_swapRules 24 = .ok (.getfield 17, 3) := by decide +kernel
theorem dX1_swapRules_27 : decode cX1_swapRules 27 = .ok (.iload_n 1, 1) := by decide +kernel
theorem dX1_swapRules_28 : decode cX1_swapRules 28 = .ok (.aload_n 0, 1) := by decide +kernel
theorem dX1_swapRules_29 : decode cX1_swapRules 29 = .ok (.getfield 17, 3) := by decide +kernel
theorem dX1_swapRules_32 : decode cX1_swapRules 32 = .ok (.iload_n 1, 1) := by decide +kernel
theorem dX1_swapRules_33 : decode cX1_swapRules 33 = .ok (.iconst 1, 1) := by decide +kernel
theorem dX1_swapRules_34 : decode cX1_swapRules 34 = .ok (.iadd, 1) := by decide +kernel
theorem dX1_swapRules_35 : decode cX1_swapRules 35 = .ok (.aaload, 1) := by decide +kernel
theorem dX1_swapRules_36 : decode cX1_swapRules 36 = .ok (.aastore, 1) := by decide +kernel
theorem dX1_swapRules_37 : decode cX1_swapRules 37 = .ok (.aload_n 0, 1) := by decide +kernel
theorem dX1_swapRules_38 : decode cX1_swapRules 38 = .ok (.getfield 17, 3) := by decide +kernel
theorem dX1_swapRules_41 : decode cX1_swapRules 41 = .ok (.iload_n 1, 1) := by decide +kernel
theorem dX1_swapRules_42 : decode cX1_swapRules 42 = .ok (.iconst 1, 1) := by decide +kernel
theorem dX1_swapRules_43 : decode cX1_swapRules 43 = .ok (.iadd, 1) := by decide +kernel
theorem dX1_swapRules_44 : decode cX1_swapRules 44 = .ok (.aload_n 2, 1) := by decide +kernel
theorem dX1_swapRules_45 : decode cX1_swapRules 45 = .ok (.aastore, 1) := by decide +kernel
theorem dX1_swapRules_46 : decode cX1_swapRules 46 = .ok (.iconst 1, 1) := by decide +kernel
theorem dX1_swapRules_47 : decode cX1_swapRules 47 = .ok (.ireturn, 1) := by decide +kernel
theorem dX1_placeOfHost_0 : decode cX1_placeOfHost 0 = .ok (.iconst 0, 1) := by decide +kernel
theorem dX1_placeOfHost_1 : decode cX1_placeOfHost 1 = .ok (.istore_n 2, 1) := by decide +kernel
theorem dX1_placeOfHost_2 : decode cX1_placeOfHost 2 = .ok (.iload_n 2, 1) := by decide +kernel
theorem dX1_placeOfHost_3 : decode cX1_placeOfHost 3 = .ok (.aload_n 0, 1) := by decide +kernel
theorem dX1_placeOfHost_4 : decode cX1_placeOfHost 4 = .ok (.getfield 45, 3) := by decide +kernel
theorem dX1_placeOfHost_7 : decode cX1_placeOfHost 7 = .ok (.if_icmp .ge 21, 3) := by decide +kernel
theorem dX1_placeOfHost_10 : decode cX1_placeOfHost 10 = .ok (.aload_n 0, 1) := by decide +kernel
theorem dX1_placeOfHost_11 : decode cX1_placeOfHost 11 = .ok (.getfield 21, 3) := by decide +kernel
theorem dX1_placeOfHost_14 : decode cX1_placeOfHost 14 = .ok (.iload_n 2, 1) := by decide +kernel
theorem dX1_placeOfHost_15 : decode cX1_placeOfHost 15 = .ok (.iaload, 1) := by decide +kernel
theorem dX1_placeOfHost_16 : decode cX1_placeOfHost 16 = .ok (.iload_n 1, 1) := by decide +kernel
theorem dX1_placeOfHost_17 : decode cX1_placeOfHost 17 = .ok (.if_icmp .ne 5, 3) := by decide +kernel
theorem dX1_placeOfHost_20 : decode cX1_placeOfHost 20 = .ok (.iload_n 2, 1) := by decide +kernel
theorem dX1_placeOfHost_21 : decode cX1_placeOfHost 21 = .ok (.ireturn, 1) := by decide +kernel
theorem dX1_placeOfHost_22 : decode cX1_placeOfHost 22 = .ok (.iinc 2 1, 3) := by decide +kernel
theorem dX1_placeOfHost_25 : decode cX1_placeOfHost 25 = .ok (.goto (-23), 3) := by decide +kernel
theorem dX1_placeOfHost_28 : decode cX1_placeOfHost 28 = .ok (.iconst (-1), 1) := by decide +kernel
theorem dX1_placeOfHost_29 : decode cX1_placeOfHost 29 = .ok (.ireturn, 1) := by decide +kernel
theorem dX1_insertHost_0 : decode cX1_insertHost 0 = .ok (.aload_n 0, 1) := by decide +kernel
theorem dX1_insertHost_1 : decode cX1_insertHost 1 = .ok (.getfield 45, 3) := by decide +kernel
theorem dX1_insertHost_4 : decode cX1_insertHost 4 = .ok (.iconst 4, 1) := by decide +kernel
theorem dX1_insertHost_5 : decode cX1_insertHost 5 = .ok (.if_icmp .ge 15, 3) := by decide +kernel
theorem dX1_insertHost_8 : decode cX1_insertHost 8 = .ok (.iload_n 1, 1) := by decide +kernel
theorem dX1_insertHost_9 : decode cX1_insertHost 9 = .ok (.ifCond .lt 11, 3) := by decide +kernel
theorem dX1_insertHost_12 : decode cX1_insertHost 12 = .ok (.iload_n 1, 1) := by decide +kernel
theorem dX1_insertHost_13 : decode cX1_insertHost 13 = .ok (.aload_n 0, 1) := by decide +kernel
theorem dX1_insertHost_14 : decode cX1_insertHost 14 = .ok (.getfield 45, 3) := by decide +kernel
theorem dX1_insertHost_17 : decode cX1_insertHost 17 = .ok (.if_icmp .le 5, 3) := by decide +kernel
theorem dX1_insertHost_20 : decode cX1_insertHost 20 = .ok (.iconst 0, 1) := by decide +kernel
theorem dX1_insertHost_21 : decode cX1_insertHost 21 = .ok (.ireturn, 1) := by decide +kernel
theorem dX1_insertHost_22 : decode cX1_insertHost 22 = .ok (.aload_n 0, 1) := by decide +kernel
theorem dX1_insertHost_23 : decode cX1_insertHost 23 = .ok (.getfield 45, 3) := by decide +kernel
theorem dX1_insertHost_26 : decode cX1_insertHost 26 = .ok (.istore_n 3, 1) := by decide +kernel
theorem dX1_insertHost_27 : decode cX1_insertHost 27 = .ok (.iload_n 3, 1) := by decide +kernel
theorem dX1_insertHost_28 : decode cX1_insertHost 28 = .ok (.iload_n 1, 1) := by decide +kernel
theorem dX1_insertHost_29 : decode cX1_insertHost 29 = .ok (.if_icmp .le 23, 3) := by decide +kernel
theorem dX1_insertHost_32 : decode cX1_insertHost 32 = .ok (.aload_n 0, 1) := by decide +kernel
theorem dX1_insertHost_33 : decode cX1_insertHost 33 = .ok (.getfield 21, 3) := by decide +kernel
theorem dX1_insertHost_36 : decode cX1_insertHost 36 = .ok (.iload_n 3, 1) := by decide +kernel
theorem dX1_insertHost_37 : decode cX1_insertHost 37 = .ok (.aload_n 0, 1) := by decide +kernel
theorem dX1_insertHost_38 : decode cX1_insertHost 38 = .ok (.getfield 21, 3) := by decide +kernel
theorem dX1_insertHost_41 : decode cX1_insertHost 41 = .ok (.iload_n 3, 1) := by decide +kernel
theorem dX1_insertHost_42 : decode cX1_insertHost 42 = .ok (.iconst 1, 1) := by decide +kernel
theorem dX1_insertHost_43 : decode cX1_insertHost 43 = .ok (.isub, 1) := by decide +kernel
theorem dX1_insertHost_44 : decode cX1_insertHost 44 = .ok (.iaload, 1) := by decide +kernel
theorem dX1_insertHost_45 : decode cX1_insertHost 45 = .ok (.iastore, 1) := by decide +kernel
theorem dX1_insertHost_46 : decode cX1_insertHost 46 = .ok (.iinc 3 (-1), 3) := by decide +kernel
theorem dX1_insertHost_49 : decode cX1_insertHost 49 = .ok (.goto (-22), 3) := by decide +kernel
theorem dX1_insertHost_52 : decode cX1_insertHost 52 = .ok (.aload_n 0, 1) := by decide +kernel
theorem dX1_insertHost_53 : decode cX1_insertHost 53 = .ok (.getfield 21, 3) := by decide +kernel
theorem dX1_insertHost_56 : decode cX1_insertHost 56 = .ok (.iload_n 1, 1) := by decide +kernel
theorem dX1_insertHost_57 : decode cX1_insertHost 57 = .ok (.iload_n 2, 1) := by decide +kernel
theorem dX1_insertHost_58 : decode cX1_insertHost 58 = .ok (.iastore, 1) := by decide +kernel
theorem dX1_insertHost_59 : decode cX1_insertHost 59 = .ok (.aload_n 0, 1) := by decide +kernel
theorem dX1_insertHost_60 : decode cX1_insertHost 60 = .ok (.dup, 1) := by decide +kernel
theorem dX1_insertHost_61 : decode cX1_insertHost 61 = .ok (.getfield 45, 3) := by decide +kernel
theorem dX1_insertHost_64 : decode cX1_insertHost 64 = .ok (.iconst 1, 1) := by decide +kernel
theorem dX1_insertHost_65 : decode cX1_insertHost 65 = .ok (.iadd, 1) := by decide +kernel
theorem dX1_insertHost_66 : decode cX1_insertHost 66 = .ok (.putfield 45, 3) := by decide +kernel
theorem dX1_insertHost_69 : decode cX1_insertHost 69 = .ok (.iconst 1, 1) := by decide +kernel
theorem dX1_insertHost_70 : decode cX1_insertHost 70 = .ok (.ireturn, 1) := by decide +kernel
theorem dX1_removeHost_0 : decode cX1_removeHost 0 = .ok (.iload_n 1, 1) := by decide +kernel
theorem dX1_removeHost_1 : decode cX1_removeHost 1 = .ok (.ifCond .lt 11, 3) := by decide +kernel
theorem dX1_removeHost_4 : decode cX1_removeHost 4 = .ok (.iload_n 1, 1) := by decide +kernel
theorem dX1_removeHost_5 : decode cX1_removeHost 5 = .ok (.aload_n 0, 1) := by decide +kernel
theorem dX1_removeHost_6 : decode cX1_removeHost 6 = .ok (.getfield 45, 3) := by decide +kernel
theorem dX1_removeHost_9 : decode cX1_removeHost 9 = .ok (.if_icmp .lt 4, 3) := by decide +kernel
theorem dX1_removeHost_12 : decode cX1_removeHost 12 = .ok (.return_, 1) := by decide +kernel
theorem dX1_removeHost_13 : decode cX1_removeHost 13 = .ok (.iload_n 1, 1) := by decide +kernel
theorem dX1_removeHost_14 : decode cX1_removeHost 14 = .ok (.istore_n 2, 1) := by decide +kernel
theorem dX1_removeHost_15 : decode cX1_removeHost 15 = .ok (.iload_n 2, 1) := by decide +kernel
theorem dX1_removeHost_16 : decode cX1_removeHost 16 = .ok (.aload_n 0, 1) := by decide +kernel
theorem dX1_removeHost_17 : decode cX1_removeHost 17 = .ok (.getfield 45, 3) := by decide +kernel
theorem dX1_removeHost_20 : decode cX1_removeHost 20 = .ok (.iconst 1, 1) := by decide +kernel
theorem dX1_removeHost_21 : decode cX1_removeHost 21 = .ok (.isub, 1) := by decide +kernel
theorem dX1_removeHost_22 : decode cX1_removeHost 22 = .ok (.if_icmp .ge 23, 3) := by decide +kernel
theorem dX1_removeHost_25 : decode cX1_removeHost 25 = .ok (.aload_n 0, 1) := by decide +kernel
theorem dX1_removeHost_26 : decode cX1_removeHost 26 = .ok (.getfield 21, 3) := by decide +kernel
theorem dX1_removeHost_29 : decode cX1_removeHost 29 = .ok (.iload_n 2, 1) := by decide +kernel
theorem dX1_removeHost_30 : decode cX1_removeHost 30 = .ok (.aload_n 0, 1) := by decide +kernel
theorem dX1_removeHost_31 : decode cX1_removeHost 31 = .ok (.getfield 21, 3) := by decide +kernel
theorem dX1_removeHost_34 : decode cX1_removeHost 34 = .ok (.iload_n 2, 1) := by decide +kernel
theorem dX1_removeHost_35 : decode cX1_removeHost 35 = .ok (.iconst 1, 1) := by decide +kernel
theorem dX1_removeHost_36 : decode cX1_removeHost 36 = .ok (.iadd, 1) := by decide +kernel
theorem dX1_removeHost_37 : decode cX1_removeHost 37 = .ok (.iaload, 1) := by decide +kernel
theorem dX1_removeHost_38 : decode cX1_removeHost 38 = .ok (.iastore, 1) := by decide +kernel
theorem dX1_removeHost_39 : decode cX1_removeHost 39 = .ok (.iinc 2 1, 3) := by decide +kernel
theorem dX1_removeHost_42 : decode cX1_removeHost 42 = .ok (.goto (-27), 3) := by decide +kernel
theorem dX1_removeHost_45 : decode cX1_removeHost 45 = .ok (.aload_n 0, 1) := by decide +kernel
theorem dX1_removeHost_46 : decode cX1_removeHost 46 = .ok (.dup, 1) := by decide +kernel
theorem dX1_removeHost_47 : decode cX1_removeHost 47 = .ok (.getfield 45, 3) := by decide +kernel
theorem dX1_removeHost_50 : decode cX1_removeHost 50 = .ok (.iconst 1, 1) := by decide +kernel
theorem dX1_removeHost_51 : decode cX1_removeHost 51 = .ok (.isub, 1) := by decide +kernel
theorem dX1_removeHost_52 : decode cX1_removeHost 52 = .ok (.putfield 45, 3) := by decide +kernel
theorem dX1_removeHost_55 : decode cX1_removeHost 55 = .ok (.return_, 1) := by decide +kernel
theorem dX1_addExchanger_0 : decode cX1_addExchanger 0 = .ok (.aload_n 0, 1) := by decide +kernel
theorem dX1_addExchanger_1 : decode cX1_addExchanger 1 = .ok (.getfield 48, 3) := by decide +kernel
theorem dX1_addExchanger_4 : decode cX1_addExchanger 4 = .ok (.iconst 3, 1) := by decide +kernel
theorem dX1_addExchanger_5 : decode cX1_addExchanger 5 = .ok (.if_icmp .lt 5, 3) := by decide +kernel
theorem dX1_addExchanger_8 : decode cX1_addExchanger 8 = .ok (.iconst 0, 1) := by decide +kernel
theorem dX1_addExchanger_9 : decode cX1_addExchanger 9 = .ok (.ireturn, 1) := by decide +kernel
theorem dX1_addExchanger_10 : decode cX1_addExchanger 10 = .ok (.aload_n 0, 1) := by decide +kernel
theorem dX1_addExchanger_11 : decode cX1_addExchanger 11 = .ok (.getfield 24, 3) := by decide +kernel
theorem dX1_addExchanger_14 : decode cX1_addExchanger 14 = .ok (.aload_n 0, 1) := by decide +kernel
theorem dX1_addExchanger_15 : decode cX1_addExchanger 15 = .ok (.getfield 48, 3) := by decide +kernel
theorem dX1_addExchanger_18 : decode cX1_addExchanger 18 = .ok (.iload_n 1, 1) := by decide +kernel
theorem dX1_addExchanger_19 : decode cX1_addExchanger 19 = .ok (.iastore, 1) := by decide +kernel
theorem dX1_addExchanger_20 : decode cX1_addExchanger 20 = .ok (.aload_n 0, 1) := by decide +kernel
theorem dX1_addExchanger_21 : decode cX1_addExchanger 21 = .ok (.dup, 1) := by decide +kernel
theorem dX1_addExchanger_22 : decode cX1_addExchanger 22 = .ok (.getfield 48, 3) := by decide +kernel
theorem dX1_addExchanger_25 : decode cX1_addExchanger 25 = .ok (.iconst 1, 1) := by decide +kernel
theorem dX1_addExchanger_26 : decode cX1_addExchanger 26 = .ok (.iadd, 1) := by decide +kernel
theorem dX1_addExchanger_27 : decode cX1_addExchanger 27 = .ok (.putfield 48, 3) := by decide +kernel
theorem dX1_addExchanger_30 : decode cX1_addExchanger 30 = .ok (.iconst 1, 1) := by decide +kernel
theorem dX1_addExchanger_31 : decode cX1_addExchanger 31 = .ok (.ireturn, 1) := by decide +kernel
theorem dX2_init_0 : decode cX2_init 0 = .ok (.aload_n 0, 1) := by decide +kernel
theorem dX2_init_1 : decode cX2_init 1 = .ok (.invokespecial 3, 3) := by decide +kernel
theorem dX2_init_4 : decode cX2_init 4 = .ok (.aload_n 0, 1) := by decide +kernel
theorem dX2_init_5 : decode cX2_init 5 = .ok (.new 9, 3) := by decide +kernel
theorem dX2_init_8 : decode cX2_init 8 = .ok (.dup, 1) := by decide +kernel
theorem dX2_init_9 : decode cX2_init 9 = .ok (.invokespecial 11, 3) := by decide +kernel
theorem dX2_init_12 : decode cX2_init 12 = .ok (.putfield 12, 3) := by decide +kernel
theorem dX2_init_15 : decode cX2_init 15 = .ok (.return_, 1) := by decide +kernel
theorem dX2_evaluate_0 : decode cX2_evaluate 0 = .ok (.aload_n 0, 1) := by decide +kernel
theorem dX2_evaluate_1 : decode cX2_evaluate 1 = .ok (.aload_n 1, 1) := by decide +kernel
theorem dX2_evaluate_2 : decode cX2_evaluate 2 = .ok (.putfield 18, 3) := by decide +kernel
theorem dX2_evaluate_5 : decode cX2_evaluate 5 = .ok (.aload_n 0, 1) := by decide +kernel
theorem dX2_evaluate_6 : decode cX2_evaluate 6 = .ok (.aload_n 1, 1) := by decide +kernel
theorem dX2_evaluate_7 : decode cX2_evaluate 7 = .ok (.iload_n 2, 1) := by decide +kernel
theorem dX2_evaluate_8 : decode cX2_evaluate 8 = .ok (.invokevirtual 22, 3) := by decide +kernel
theorem dX2_evaluate_11 : decode cX2_evaluate 11 = .ok (.putfield 28, 3) := by decide +kernel
theorem dX2_evaluate_14 : decode cX2_evaluate 14 = .ok (.aload_n 0, 1) := by decide +kernel
theorem dX2_evaluate_15 : decode cX2_evaluate 15 = .ok (.iload_n 3, 1) := by decide +kernel
theorem dX2_evaluate_16 : decode cX2_evaluate 16 = .ok (.putfield 32, 3) := by decide +kernel
theorem dX2_evaluate_19 : decode cX2_evaluate 19 = .ok (.aload_n 0, 1) := by decide +kernel
theorem dX2_evaluate_20 : decode cX2_evaluate 20 = .ok (.iload 4, 2) := by decide +kernel
theorem dX2_evaluate_22 : decode cX2_evaluate 22 = .ok (.putfield 36, 3) := by decide +kernel
theorem dX2_evaluate_25 : decode cX2_evaluate 25 = .ok (.aload_n 0, 1) := by decide +kernel
theorem dX2_evaluate_26 : decode cX2_evaluate 26 = .ok (.iconst 0, 1) := by decide +kernel
theorem dX2_evaluate_27 : decode cX2_evaluate 27 = .ok (.putfield 39, 3) := by decide +kernel
theorem dX2_evaluate_30 : decode cX2_evaluate 30 = .ok (.aload_n 0, 1) := by decide +kernel
theorem dX2_evaluate_31 : decode cX2_evaluate 31 = .ok (.iconst 0, 1) := by decide +kernel
theorem dX2_evaluate_32 : decode cX2_evaluate 32 = .ok (.putfield 42, 3) := by decide +kernel
theorem dX2_evaluate_35 : decode cX2_evaluate 35 = .ok (.aload_n 0, 1) := by decide +kernel
theorem dX2_evaluate_36 : decode cX2_evaluate 36 = .ok (.iconst 0, 1) := by decide +kernel
theorem dX2_evaluate_37 : decode cX2_evaluate 37 = .ok (.putfield 45, 3) := by decide +kernel
theorem dX2_evaluate_40 : decode cX2_evaluate 40 = .ok (.aload_n 0, 1) := by decide +kernel
theorem dX2_evaluate_41 : decode cX2_evaluate 41 = .ok (.bipush (-4), 2) := by decide +kernel
theorem dX2_evaluate_43 : decode cX2_evaluate 43 = .ok (.putfield 49, 3) := by decide +kernel
theorem dX2_evaluate_46 : decode cX2_evaluate 46 = .ok (.aload_n 0, 1) := by decide +kernel
theorem dX2_evaluate_47 : decode cX2_evaluate 47 = .ok (.bipush (-4), 2) := by decide +kernel
theorem dX2_evaluate_49 : decode cX2_evaluate 49 = .ok (.putfield 52, 3) := by decide +kernel
theorem dX2_evaluate_52 : decode cX2_evaluate 52 = .ok (.aload_n 0, 1) := by decide +kernel
theorem dX2_evaluate_53 : decode cX2_evaluate 53 = .ok (.iload_n 2, 1) := by decide +kernel
theorem dX2_evaluate_54 : decode cX2_evaluate 54 = .ok (.iconst 0, 1) := by decide +kernel
theorem dX2_evaluate_55 : decode cX2_evaluate 55 = .ok (.invokevirtual 55, 3) := by decide +kernel
theorem dX2_evaluate_58 : decode cX2_evaluate 58 = .ok (.ireturn, 1) := by decide +kernel
theorem dX2_resultOf_0 : decode cX2_resultOf 0 = .ok (.iload_n 2, 1) := by decide +kernel
theorem dX2_resultOf_1 : decode cX2_resultOf 1 = .ok (.bipush 10, 2) := by decide +kernel
theorem dX2_resultOf_3 : decode cX2_resultOf 3 = .ok (.if_icmp .le 7, 3) := by decide +kernel
theorem dX2_resultOf_6 : decode cX2_resultOf 6 = .ok (.iconst (-1), 1) := by decide +kernel
theorem dX2_resultOf_7 : decode cX2_resultOf 7 = .ok (.goto 4, 3) := by decide +kernel
theorem dX2_resultOf_10 : decode cX2_resultOf 10 = .ok (.iload_n 1, 1) := by decide +kernel
theorem dX2_resultOf_11 : decode cX2_resultOf 11 = .ok (.istore_n 3, 1) := by decide +kernel
theorem dX2_resultOf_12 : decode cX2_resultOf 12 = .ok (.iconst 0, 1) := by decide +kernel
theorem dX2_resultOf_13 : decode cX2_resultOf 13 = .ok (.istore 4, 2) := by decide +kernel
theorem dX2_resultOf_15 : decode cX2_resultOf 15 = .ok (.iload 4, 2) := by decide +kernel
theorem dX2_resultOf_17 : decode cX2_resultOf 17 = .ok (.bipush 10, 2) := by decide +kernel
theorem dX2_resultOf_19 : decode cX2_resultOf 19 = .ok (.if_icmp .gt 140, 3) := by decide +kernel
theorem dX2_resultOf_22 : decode cX2_resultOf 22 = .ok (.aload_n 0, 1) := by decide +kernel
theorem dX2_resultOf_23 : decode cX2_resultOf 23 = .ok (.getfield 18, 3) := by decide +kernel
theorem dX2_resultOf_26 : decode cX2_resultOf 26 = .ok (.iload_n 3, 1) := by decide +kernel
theorem dX2_resultOf_27 : decode cX2_resultOf 27 = .ok (.invokevirtual 22, 3) := by decide +kernel
theorem dX2_resultOf_30 : decode cX2_resultOf 30 = .ok (.astore 5, 2) := by decide +kernel
theorem dX2_resultOf_32 : decode cX2_resultOf 32 = .ok (.aload 5, 2) := by decide +kernel
theorem dX2_resultOf_34 : decode cX2_resultOf 34 = .ok (.ifnull 11, 3) := by decide +kernel
theorem dX2_resultOf_37 : decode cX2_resultOf 37 = .ok (.aload 5, 2) := by decide +kernel
theorem dX2_resultOf_39 : decode cX2_resultOf 39 = .ok (.getfield 59, 3) := by decide +kernel
theorem dX2_resultOf_42 : decode cX2_resultOf 42 = .ok (.ifCond .ne 17, 3) := by decide +kernel
theorem dX2_resultOf_45 : decode cX2_resultOf 45 = .ok (.iload 4, 2) := by decide +kernel
theorem dX2_resultOf_47 : decode cX2_resultOf 47 = .ok (.ifCond .ne 7, 3) := by decide +kernel
theorem dX2_resultOf_50 : decode cX2_resultOf 50 = .ok (.iconst 0, 1) := by decide +kernel
theorem dX2_resultOf_51 : decode cX2_resultOf 51 = .ok (.goto 7, 3) := by decide +kernel
theorem dX2_resultOf_54 : decode cX2_resultOf 54 = .ok (.aload_n 0, 1) := by decide +kernel
theorem dX2_resultOf_55 : decode cX2_resultOf 55 = .ok (.invokevirtual 64, 3) := by decide +kernel
theorem dX2_resultOf_58 : decode cX2_resultOf 58 = .ok (.ireturn, 1) := by decide +kernel
theorem dX2_resultOf_59 : decode cX2_resultOf 59 = .ok (.iconst 0, 1) := by decide +kernel
theorem dX2_resultOf_60 : decode cX2_resultOf 60 = .ok (.istore 6, 2) := by decide +kernel
theorem dX2_resultOf_62 : decode cX2_resultOf 62 = .ok (.iload 6, 2) := by decide +kernel
theorem dX2_resultOf_64 : decode cX2_resultOf 64 = .ok (.aload 5, 2) := by decide +kernel
theorem dX2_resultOf_66 : decode cX2_resultOf 66 = .ok (.getfield 68, 3) := by decide +kernel
theorem dX2_resultOf_69 : decode cX2_resultOf 69 = .ok (.if_icmp .ge 43, 3) := by decide +kernel
theorem dX2_resultOf_72 : decode cX2_resultOf 72 = .ok (.aload_n 0, 1) := by decide +kernel
theorem dX2_resultOf_73 : decode cX2_resultOf 73 = .ok (.getfield 45, 3) := by decide +kernel
theorem dX2_resultOf_76 : decode cX2_resultOf 76 = .ok (.ifCond .ne 36, 3) := by decide +kernel
theorem dX2_resultOf_79 : decode cX2_resultOf 79 = .ok (.aload_n 0, 1) := by decide +kernel
theorem dX2_resultOf_80 : decode cX2_resultOf 80 = .ok (.aload 5, 2) := by decide +kernel
theorem dX2_resultOf_82 : decode cX2_resultOf 82 = .ok (.getfield 71, 3) := by decide +kernel
theorem dX2_resultOf_85 : decode cX2_resultOf 85 = .ok (.iload 6, 2) := by decide +kernel
theorem dX2_resultOf_87 : decode cX2_resultOf 87 = .ok (.aaload, 1) := by decide +kernel
theorem dX2_resultOf_88 : decode cX2_resultOf 88 = .ok (.aload 5, 2) := by decide +kernel
theorem dX2_resultOf_90 : decode cX2_resultOf 90 = .ok (.iload_n 2, 1) := by decide +kernel
theorem dX2_resultOf_91 : decode cX2_resultOf 91 = .ok (.invokevirtual 75, 3) := by decide +kernel
theorem dX2_resultOf_94 : decode cX2_resultOf 94 = .ok (.ifCond .eq 12, 3) := by decide +kernel
theorem dX2_resultOf_97 : decode cX2_resultOf 97 = .ok (.aload_n 0, 1) := by decide +kernel
theorem dX2_resultOf_98 : decode cX2_resultOf 98 = .ok (.iload_n 3, 1) := by decide +kernel
theorem dX2_resultOf_99 : decode cX2_resultOf 99 = .ok (.iload 6, 2) := by decide +kernel
theorem dX2_resultOf_101 : decode cX2_resultOf 101 = .ok (.iload_n 2, 1) := by decide +kernel
theorem dX2_resultOf_102 : decode cX2_resultOf 102 = .ok (.invokevirtual 79, 3) := by decide +kernel
theorem dX2_resultOf_105 : decode cX2_resultOf 105 = .ok (.ireturn, 1) := by decide +kernel
theorem dX2_resultOf_106 : decode cX2_resultOf 106 = .ok (.iinc 6 1, 3) := by decide +kernel
theorem dX2_resultOf_109 : decode cX2_resultOf 109 = .ok (.goto (-47), 3) := by decide +kernel
theorem dX2_resultOf_112 : decode cX2_resultOf 112 = .ok (.aload_n 0, 1) := by decide +kernel
theorem dX2_resultOf_113 : decode cX2_resultOf 113 = .ok (.getfield 45, 3) := by decide +kernel
theorem dX2_resultOf_116 : decode cX2_resultOf 116 = .ok (.ifCond .eq 5, 3) := by decide +kernel
theorem dX2_resultOf_119 : decode cX2_resultOf 119 = .ok (.iconst 5, 1) := by decide +kernel
theorem dX2_resultOf_120 : decode cX2_resultOf 120 = .ok (.ireturn, 1) := by decide +kernel
theorem dX2_resultOf_121 : decode cX2_resultOf 121 = .ok (.aload 5, 2) := by decide +kernel
theorem dX2_resultOf_123 : decode cX2_resultOf 123 = .ok (.getfield 83, 3) := by decide +kernel
theorem dX2_resultOf_126 : decode cX2_resultOf 126 = .ok (.ifCond .ne 5, 3) := by decide +kernel
theorem dX2_resultOf_129 : decode cX2_resultOf 129 = .ok (.iconst 1, 1) := by decide +kernel
theorem dX2_resultOf_130 : decode cX2_resultOf 130 = .ok (.ireturn, 1) := by decide +kernel
theorem dX2_resultOf_131 : decode cX2_resultOf 131 = .ok (.aload_n 0, 1) := by decide +kernel
theorem dX2_resultOf_132 : decode cX2_resultOf 132 = .ok (.invokevirtual 86, 3) := by decide +kernel
theorem dX2_resultOf_135 : decode cX2_resultOf 135 = .ok (.ifCond .ne 5, 3) := by decide +kernel
theorem dX2_resultOf_138 : decode cX2_resultOf 138 = .ok (.iconst 5, 1) := by decide +kernel
theorem dX2_resultOf_139 : decode cX2_resultOf 139 = .ok (.ireturn, 1) := by decide +kernel
theorem dX2_resultOf_140 : decode cX2_resultOf 140 = .ok (.aload_n 0, 1) := by decide +kernel
theorem dX2_resultOf_141 : decode cX2_resultOf 141 = .ok (.getfield 18, 3) := by decide +kernel
theorem dX2_resultOf_144 : decode cX2_resultOf 144 = .ok (.aload 5, 2) := by decide +kernel
theorem dX2_resultOf_146 : decode cX2_resultOf 146 = .ok (.getfield 83, 3) := by decide +kernel
theorem dX2_resultOf_149 : decode cX2_resultOf 149 = .ok (.invokevirtual 90, 3) := by decide +kernel
theorem dX2_resultOf_152 : decode cX2_resultOf 152 = .ok (.istore_n 3, 1) := by decide +kernel
theorem dX2_resultOf_153 : decode cX2_resultOf 153 = .ok (.iinc 4 1, 3) := by decide +kernel
theorem dX2_resultOf_156 : decode cX2_resultOf 156 = .ok (.goto (-141), 3) := by decide +kernel
theorem dX2_resultOf_159 : decode cX2_resultOf 159 = .ok (.aload_n 0, 1) := by decide +kernel
theorem dX2_resultOf_160 : decode cX2_resultOf 160 = .ok (.invokevirtual 64, 3) := by decide +kernel
theorem dX2_resultOf_163 : decode cX2_resultOf 163 = .ok (.ireturn, 1) := by decide +kernel
theorem dX2_decide_0 : decode cX2_decide 0 = .ok (.iload_n 3, 1) := by decide +kernel
theorem dX2_decide_1 : decode cX2_decide 1 = .ok (.ifCond .ne 13, 3) := by decide +kernel
theorem dX2_decide_4 : decode cX2_decide 4 = .ok (.aload_n 0, 1) := by decide +kernel
theorem dX2_decide_5 : decode cX2_decide 5 = .ok (.iload_n 1, 1) := by decide +kernel
theorem dX2_decide_6 : decode cX2_decide 6 = .ok (.putfield 49, 3) := by decide +kernel
theorem dX2_decide_9 : decode cX2_decide 9 = .ok (.aload_n 0, 1) := by decide +kernel
theorem dX2_decide_10 : decode cX2_decide 10 = .ok (.iload_n 2, 1) := by decide +kernel
theorem dX2_decide_11 : decode cX2_decide 11 = .ok (.putfield 52, 3) := by decide +kernel
theorem dX2_decide_14 : decode cX2_decide 14 = .ok (.aload_n 0, 1) := by decide +kernel
theorem dX2_decide_15 : decode cX2_decide 15 = .ok (.getfield 18, 3) := by decide +kernel
theorem dX2_decide_18 : decode cX2_decide 18 = .ok (.iload_n 1, 1) := by decide +kernel
theorem dX2_decide_19 : decode cX2_decide 19 = .ok (.invokevirtual 22, 3) := by decide +kernel
theorem dX2_decide_22 : decode cX2_decide 22 = .ok (.astore 4, 2) := by decide +kernel
theorem dX2_decide_24 : decode cX2_decide 24 = .ok (.aload 4, 2) := by decide +kernel
theorem dX2_decide_26 : decode cX2_decide 26 = .ok (.ifnonnull 7, 3) := by decide +kernel
theorem dX2_decide_29 : decode cX2_decide 29 = .ok (.aconst_null, 1) := by decide +kernel
theorem dX2_decide_30 : decode cX2_decide 30 = .ok (.goto 9, 3) := by decide +kernel
theorem dX2_decide_33 : decode cX2_decide 33 = .ok (.aload 4, 2) := by decide +kernel
theorem dX2_decide_35 : decode cX2_decide 35 = .ok (.iload_n 2, 1) := by decide +kernel
theorem dX2_decide_36 : decode cX2_decide 36 = .ok (.invokevirtual 94, 3) := by decide +kernel
theorem dX2_decide_39 : decode cX2_decide 39 = .ok (.astore 5, 2) := by decide +kernel
theorem dX2_decide_41 : decode cX2_decide 41 = .ok (.aload 5, 2) := by decide +kernel
theorem dX2_decide_43 : decode cX2_decide 43 = .ok (.ifnonnull 7, 3) := by decide +kernel
theorem dX2_decide_46 : decode cX2_decide 46 = .ok (.iconst 5, 1) := by decide +kernel
theorem dX2_decide_47 : decode cX2_decide 47 = .ok (.goto 11, 3) := by decide +kernel
theorem dX2_decide_50 : decode cX2_decide 50 = .ok (.aload 5, 2) := by decide +kernel
theorem dX2_decide_52 : decode cX2_decide 52 = .ok (.getfield 98, 3) := by decide +kernel
theorem dX2_decide_55 : decode cX2_decide 55 = .ok (.invokestatic 103, 3) := by decide +kernel
theorem dX2_decide_58 : decode cX2_decide 58 = .ok (.ireturn, 1) := by decide +kernel
theorem dX2_resultOfSign_0 : decode cX2_resultOfSign 0 = .ok (.iload_n 0, 1) := by decide +kernel
theorem dX2_resultOfSign_1 : decode cX2_resultOfSign 1 = .ok (.tableswitch 33 0 2 #[27, 29, 31], 27) := by decide +kernel
theorem dX2_resultOfSign_28 : decode cX2_resultOfSign 28 = .ok (.iconst 2, 1) := by decide +kernel
theorem dX2_resultOfSign_29 : decode cX2_resultOfSign 29 = .ok (.ireturn, 1) := by decide +kernel
theorem dX2_resultOfSign_30 : decode cX2_resultOfSign 30 = .ok (.iconst 3, 1) := by decide +kernel
theorem dX2_resultOfSign_31 : decode cX2_resultOfSign 31 = .ok (.ireturn, 1) := by decide +kernel
theorem dX2_resultOfSign_32 : decode cX2_resultOfSign 32 = .ok (.iconst 4, 1) := by decide +kernel
theorem dX2_resultOfSign_33 : decode cX2_resultOfSign 33 = .ok (.ireturn, 1) := by decide +kernel
theorem dX2_resultOfSign_34 : decode cX2_resultOfSign 34 = .ok (.iconst 1, 1) := by decide +kernel
theorem dX2_resultOfSign_35 : decode cX2_resultOfSign 35 = .ok (.ireturn, 1) := by decide +kernel
theorem dX2_endWithError_0 : decode cX2_endWithError 0 = .ok (.aload_n 0, 1) := by decide +kernel
theorem dX2_endWithError_1 : decode cX2_endWithError 1 = .ok (.iconst 1, 1) := by decide +kernel
theorem dX2_endWithError_2 : decode cX2_endWithError 2 = .ok (.putfield 45, 3) := by decide +kernel
theorem dX2_endWithError_5 : decode cX2_endWithError 5 = .ok (.iconst 5, 1) := by decide +kernel
theorem dX2_endWithError_6 : decode cX2_endWithError 6 = .ok (.ireturn, 1) := by decide +kernel
theorem dX2_lookUp_0 : decode cX2_lookUp 0 = .ok (.aload_n 0, 1) := by decide +kernel
theorem dX2_lookUp_1 : decode cX2_lookUp 1 = .ok (.dup, 1) := by decide +kernel
theorem dX2_lookUp_2 : decode cX2_lookUp 2 = .ok (.getfield 39, 3) := by decide +kernel
theorem dX2_lookUp_5 : decode cX2_lookUp 5 = .ok (.iconst 1, 1) := by decide +kernel
theorem dX2_lookUp_6 : decode cX2_lookUp 6 = .ok (.iadd, 1) := by decide +kernel
theorem dX2_lookUp_7 : decode cX2_lookUp 7 = .ok (.putfield 39, 3) := by decide +kernel
theorem dX2_lookUp_10 : decode cX2_lookUp 10 = .ok (.aload_n 0, 1) := by decide +kernel
theorem dX2_lookUp_11 : decode cX2_lookUp 11 = .ok (.getfield 39, 3) := by decide +kernel
theorem dX2_lookUp_14 : decode cX2_lookUp 14 = .ok (.bipush 10, 2) := by decide +kernel
theorem dX2_lookUp_16 : decode cX2_lookUp 16 = .ok (.if_icmp .le 8, 3) := by decide +kernel
theorem dX2_lookUp_19 : decode cX2_lookUp 19 = .ok (.aload_n 0, 1) := by decide +kernel
theorem dX2_lookUp_20 : decode cX2_lookUp 20 = .ok (.iconst 1, 1) := by decide +kernel
theorem dX2_lookUp_21 : decode cX2_lookUp 21 = .ok (.putfield 45, 3) := by decide +kernel
theorem dX2_lookUp_24 : decode cX2_lookUp 24 = .ok (.aload_n 0, 1) := by decide +kernel
theorem dX2_lookUp_25 : decode cX2_lookUp 25 = .ok (.getfield 45, 3) := by decide +kernel
theorem dX2_lookUp_28 : decode cX2_lookUp 28 = .ok (.ifCond .ne 7, 3) := by decide +kernel
theorem dX2_lookUp_31 : decode cX2_lookUp 31 = .ok (.iconst 1, 1) := by decide +kernel
theorem dX2_lookUp_32 : decode cX2_lookUp 32 = .ok (.goto 4, 3) := by decide +kernel
theorem dX2_lookUp_35 : decode cX2_lookUp 35 = .ok (.iconst 0, 1) := by decide +kernel
theorem dX2_lookUp_36 : decode cX2_lookUp 36 = .ok (.ireturn, 1) := by decide +kernel
theorem dX2_findEmpty_0 : decode cX2_findEmpty 0 = .ok (.aload_n 0, 1) := by decide +kernel
theorem dX2_findEmpty_1 : decode cX2_findEmpty 1 = .ok (.dup, 1) := by decide +kernel
theorem dX2_findEmpty_2 : decode cX2_findEmpty 2 = .ok (.getfield 42, 3) := by decide +kernel
theorem dX2_findEmpty_5 : decode cX2_findEmpty 5 = .ok (.iconst 1, 1) := by decide +kernel
theorem dX2_findEmpty_6 : decode cX2_findEmpty 6 = .ok (.iadd, 1) := by decide +kernel
theorem dX2_findEmpty_7 : decode cX2_findEmpty 7 = .ok (.putfield 42, 3) := by decide +kernel
theorem dX2_findEmpty_10 : decode cX2_findEmpty 10 = .ok (.aload_n 0, 1) := by decide +kernel
theorem dX2_findEmpty_11 : decode cX2_findEmpty 11 = .ok (.getfield 42, 3) := by decide +kernel
theorem dX2_findEmpty_14 : decode cX2_findEmpty 14 = .ok (.iconst 2, 1) := by decide +kernel
theorem dX2_findEmpty_15 : decode cX2_findEmpty 15 = .ok (.if_icmp .le 8, 3) := by decide +kernel
theorem dX2_findEmpty_18 : decode cX2_findEmpty 18 = .ok (.aload_n 0, 1) := by decide +kernel
theorem dX2_findEmpty_19 : decode cX2_findEmpty 19 = .ok (.iconst 1, 1) := by decide +kernel
theorem dX2_findEmpty_20 : decode cX2_findEmpty 20 = .ok (.putfield 45, 3) := by decide +kernel
theorem dX2_findEmpty_23 : decode cX2_findEmpty 23 = .ok (.return_, 1) := by decide +kernel
theorem dX2_matches_0 : decode cX2_matches 0 = .ok (.aload_n 1, 1) := by decide +kernel
theorem dX2_matches_1 : decode cX2_matches 1 = .ok (.getfield 106, 3) := by decide +kernel
theorem dX2_matches_4 : decode cX2_matches 4 = .ok (.ifCond .ne 5, 3) := by decide +kernel
theorem dX2_matches_7 : decode cX2_matches 7 = .ok (.iconst 1, 1) := by decide +kernel
theorem dX2_matches_8 : decode cX2_matches 8 = .ok (.ireturn, 1) := by decide +kernel
theorem dX2_matches_9 : decode cX2_matches 9 = .ok (.aload_n 1, 1) := by decide +kernel
theorem dX2_matches_10 : decode cX2_matches 10 = .ok (.getfield 106, 3) := by decide +kernel
theorem dX2_matches_13 : decode cX2_matches 13 = .ok (.iconst 1, 1) := by decide +kernel
theorem dX2_matches_14 : decode cX2_matches 14 = .ok (.if_icmp .ne 12, 3) := by decide +kernel
theorem dX2_matches_17 : decode cX2_matches 17 = .ok (.aload_n 1, 1) := by decide +kernel
theorem dX2_matches_18 : decode cX2_matches 18 = .ok (.aload_n 0, 1) := by decide +kernel
theorem dX2_matches_19 : decode cX2_matches 19 = .ok (.getfield 32, 3) := by decide +kernel
theorem dX2_matches_22 : decode cX2_matches 22 = .ok (.invokevirtual 109, 3) := by decide +kernel
theorem dX2_matches_25 : decode cX2_matches 25 = .ok (.ireturn, 1) := by decide +kernel
theorem dX2_matches_26 : decode cX2_matches 26 = .ok (.aload_n 0, 1) := by decide +kernel
theorem dX2_matches_27 : decode cX2_matches 27 = .ok (.invokevirtual 86, 3) := by decide +kernel
theorem dX2_matches_30 : decode cX2_matches 30 = .ok (.ifCond .ne 5, 3) := by decide +kernel
theorem dX2_matches_33 : decode cX2_matches 33 = .ok (.iconst 0, 1) := by decide +kernel
theorem dX2_matches_34 : decode cX2_matches 34 = .ok (.ireturn, 1) := by decide +kernel
theorem dX2_matches_35 : decode cX2_matches 35 = .ok (.aload_n 1, 1) := by decide +kernel
theorem dX2_matches_36 : decode cX2_matches 36 = .ok (.getfield 106, 3) := by decide +kernel
theorem dX2_matches_39 : decode cX2_matches 39 = .ok (.tableswitch 44 2 4 #[25, 32, 38], 25) := by decide +kernel
theorem dX2_matches_64 : decode cX2_matches 64 = .ok (.aload_n 0, 1) := by decide +kernel
theorem dX2_matches_65 : decode cX2_matches 65 = .ok (.aload_n 1, 1) := by decide +kernel
theorem dX2_matches_66 : decode cX2_matches 66 = .ok (.iload_n 3, 1) := by decide +kernel
theorem dX2_matches_67 : decode cX2_matches 67 = .ok (.invokevirtual 113, 3) := by decide +kernel
theorem dX2_matches_70 : decode cX2_matches 70 = .ok (.ireturn, 1) := by decide +kernel
theorem dX2_matches_71 : decode cX2_matches 71 = .ok (.aload_n 0, 1) := by decide +kernel
theorem dX2_matches_72 : decode cX2_matches 72 = .ok (.aload_n 1, 1) := by decide +kernel
theorem dX2_matches_73 : decode cX2_matches 73 = .ok (.invokevirtual 117, 3) := by decide +kernel
theorem dX2_matches_76 : decode cX2_matches 76 = .ok (.ireturn, 1) := by decide +kernel
theorem dX2_matches_77 : decode cX2_matches 77 = .ok (.aload_n 0, 1) := by decide +kernel
theorem dX2_matches_78 : decode cX2_matches 78 = .ok (.aload_n 1, 1) := by decide +kernel
theorem dX2_matches_79 : decode cX2_matches 79 = .ok (.invokevirtual 121, 3) := by decide +kernel
theorem dX2_matches_82 : decode cX2_matches 82 = .ok (.ireturn, 1) := by decide +kernel
theorem dX2_matches_83 : decode cX2_matches 83 = .ok (.aload_n 0, 1) := by decide +kernel
theorem dX2_matches_84 : decode cX2_matches 84 = .ok (.aload_n 1, 1) := by decide +kernel
theorem dX2_matches_85 : decode cX2_matches 85 = .ok (.aload_n 2, 1) := by decide +kernel
theorem dX2_matches_86 : decode cX2_matches 86 = .ok (.invokevirtual 124, 3) := by decide +kernel
theorem dX2_matches_89 : decode cX2_matches 89 = .ok (.ireturn, 1) := by decide +kernel
theorem dX2_includeMatches_0 : decode cX2_includeMatches 0 = .ok (.aload_n 0, 1) := by decide +kernel
theorem dX2_includeMatches_1 : decode cX2_includeMatches 1 = .ok (.aload_n 0, 1) := by decide +kernel
theorem dX2_includeMatches_2 : decode cX2_includeMatches 2 = .ok (.getfield 18, 3) := by decide +kernel
theorem dX2_includeMatches_5 : decode cX2_includeMatches 5 = .ok (.aload_n 1, 1) := by decide +kernel
theorem dX2_includeMatches_6 : decode cX2_includeMatches 6 = .ok (.getfield 128, 3) := by decide +kernel
theorem dX2_includeMatches_9 : decode cX2_includeMatches 9 = .ok (.invokevirtual 90, 3) := by decide +kernel
theorem dX2_includeMatches_12 : decode cX2_includeMatches 12 = .ok (.iload_n 2, 1) := by decide +kernel
theorem dX2_includeMatches_13 : decode cX2_includeMatches 13 = .ok (.iconst 1, 1) := by decide +kernel
theorem dX2_includeMatches_14 : decode cX2_includeMatches 14 = .ok (.iadd, 1) := by decide +kernel
theorem dX2_includeMatches_15 : decode cX2_includeMatches 15 = .ok (.invokevirtual 55, 3) := by decide +kernel
theorem dX2_includeMatches_18 : decode cX2_includeMatches 18 = .ok (.istore_n 3, 1) := by decide +kernel
theorem dX2_includeMatches_19 : decode cX2_includeMatches 19 = .ok (.iload_n 3, 1) := by decide +kernel
theorem dX2_includeMatches_20 : decode cX2_includeMatches 20 = .ok (.ifCond .ne 8, 3) := by decide +kernel
theorem dX2_includeMatches_23 : decode cX2_includeMatches 23 = .ok (.aload_n 0, 1) := by decide +kernel
theorem dX2_includeMatches_24 : decode cX2_includeMatches 24 = .ok (.iconst 1, 1) := by decide +kernel
theorem dX2_includeMatches_25 : decode cX2_includeMatches 25 = .ok (.putfield 45, 3) := by decide +kernel
theorem dX2_includeMatches_28 : decode cX2_includeMatches 28 = .ok (.aload_n 0, 1) := by decide +kernel
theorem dX2_includeMatches_29 : decode cX2_includeMatches 29 = .ok (.getfield 45, 3) := by decide +kernel
theorem dX2_includeMatches_32 : decode cX2_includeMatches 32 = .ok (.ifCond .ne 12, 3) := by decide +kernel
theorem dX2_includeMatches_35 : decode cX2_includeMatches 35 = .ok (.iload_n 3, 1) := by decide +kernel
theorem dX2_includeMatches_36 : decode cX2_includeMatches 36 = .ok (.iconst 2, 1) := by decide +kernel
theorem dX2_includeMatches_37 : decode cX2_includeMatches 37 = .ok (.if_icmp .ne 7, 3) := by decide +kernel
theorem dX2_includeMatches_40 : decode cX2_includeMatches 40 = .ok (.iconst 1, 1) := by decide +kernel
theorem dX2_includeMatches_41 : decode cX2_includeMatches 41 = .ok (.goto 4, 3) := by decide +kernel
theorem dX2_includeMatches_44 : decode cX2_includeMatches 44 = .ok (.iconst 0, 1) := by decide +kernel
theorem dX2_includeMatches_45 : decode cX2_includeMatches 45 = .ok (.ireturn, 1) := by decide +kernel
theorem dX2_hostMatches_0 : decode cX2_hostMatches 0 = .ok (.aload_n 0, 1) := by decide +kernel
theorem dX2_hostMatches_1 : decode cX2_hostMatches 1 = .ok (.getfield 18, 3) := by decide +kernel
theorem dX2_hostMatches_4 : decode cX2_hostMatches 4 = .ok (.aload_n 1, 1) := by decide +kernel
theorem dX2_hostMatches_5 : decode cX2_hostMatches 5 = .ok (.getfield 128, 3) := by decide +kernel
theorem dX2_hostMatches_8 : decode cX2_hostMatches 8 = .ok (.invokevirtual 131, 3) := by decide +kernel
theorem dX2_hostMatches_11 : decode cX2_hostMatches 11 = .ok (.astore_n 2, 1) := by decide +kernel
theorem dX2_hostMatches_12 : decode cX2_hostMatches 12 = .ok (.aload_n 2, 1) := by decide +kernel
theorem dX2_hostMatches_13 : decode cX2_hostMatches 13 = .ok (.ifnull 10, 3) := by decide +kernel
theorem dX2_hostMatches_16 : decode cX2_hostMatches 16 = .ok (.aload_n 2, 1) := by decide +kernel
theorem dX2_hostMatches_17 : decode cX2_hostMatches 17 = .ok (.getfield 134, 3) := by decide +kernel
theorem dX2_hostMatches_20 : decode cX2_hostMatches 20 = .ok (.ifCond .ne 9, 3) := by decide +kernel
theorem dX2_hostMatches_23 : decode cX2_hostMatches 23 = .ok (.aload_n 0, 1) := by decide +kernel
theorem dX2_hostMatches_24 : decode cX2_hostMatches 24 = .ok (.invokevirtual 137, 3) := by decide +kernel
theorem dX2_hostMatches_27 : decode cX2_hostMatches 27 = .ok (.iconst 0, 1) := by decide +kernel
theorem dX2_hostMatches_28 : decode cX2_hostMatches 28 = .ok (.ireturn, 1) := by decide +kernel
theorem dX2_hostMatches_29 : decode cX2_hostMatches 29 = .ok (.aload_n 2, 1) := by decide +kernel
theorem dX2_hostMatches_30 : decode cX2_hostMatches 30 = .ok (.aload_n 0, 1) := by decide +kernel
theorem dX2_hostMatches_31 : decode cX2_hostMatches 31 = .ok (.getfield 32, 3) := by decide +kernel
theorem dX2_hostMatches_34 : decode cX2_hostMatches 34 = .ok (.invokevirtual 140, 3) := by decide +kernel
theorem dX2_hostMatches_37 : decode cX2_hostMatches 37 = .ok (.iconst (-1), 1) := by decide +kernel
theorem dX2_hostMatches_38 : decode cX2_hostMatches 38 = .ok (.if_icmp .eq 7, 3) := by decide +kernel
theorem dX2_hostMatches_41 : decode cX2_hostMatches 41 = .ok (.iconst 1, 1) := by decide +kernel
theorem dX2_hostMatches_42 : decode cX2_hostMatches 42 = .ok (.goto 4, 3) := by decide +kernel
theorem dX2_hostMatches_45 : decode cX2_hostMatches 45 = .ok (.iconst 0, 1) := by decide +kernel
theorem dX2_hostMatches_46 : decode cX2_hostMatches 46 = .ok (.ireturn, 1) := by decide +kernel
theorem dX2_mailMatches_0 : decode cX2_mailMatches 0 = .ok (.aload_n 0, 1) := by decide +kernel
theorem dX2_mailMatches_1 : decode cX2_mailMatches 1 = .ok (.getfield 18, 3) := by decide +kernel
theorem dX2_mailMatches_4 : decode cX2_mailMatches 4 = .ok (.aload_n 1, 1) := by decide +kernel
theorem dX2_mailMatches_5 : decode cX2_mailMatches 5 = .ok (.getfield 128, 3) := by decide +kernel
theorem dX2_mailMatches_8 : decode cX2_mailMatches 8 = .ok (.invokevirtual 131, 3) := by decide +kernel
theorem dX2_mailMatches_11 : decode cX2_mailMatches 11 = .ok (.astore_n 2, 1) := by decide +kernel
theorem dX2_mailMatches_12 : decode cX2_mailMatches 12 = .ok (.aload_n 2, 1) := by decide +kernel
theorem dX2_mailMatches_13 : decode cX2_mailMatches 13 = .ok (.ifnull 10, 3) := by decide +kernel
theorem dX2_mailMatches_16 : decode cX2_mailMatches 16 = .ok (.aload_n 2, 1) := by decide +kernel
theorem dX2_mailMatches_17 : decode cX2_mailMatches 17 = .ok (.getfield 143, 3) := by decide +kernel
theorem dX2_mailMatches_20 : decode cX2_mailMatches 20 = .ok (.ifCond .ne 9, 3) := by decide +kernel
theorem dX2_mailMatches_23 : decode cX2_mailMatches 23 = .ok (.aload_n 0, 1) := by decide +kernel
theorem dX2_mailMatches_24 : decode cX2_mailMatches 24 = .ok (.invokevirtual 137, 3) := by decide +kernel
theorem dX2_mailMatches_27 : decode cX2_mailMatches 27 = .ok (.iconst 0, 1) := by decide +kernel
theorem dX2_mailMatches_28 : decode cX2_mailMatches 28 = .ok (.ireturn, 1) := by decide +kernel
theorem dX2_mailMatches_29 : decode cX2_mailMatches 29 = .ok (.iconst 0, 1) := by decide +kernel
theorem dX2_mailMatches_30 : decode cX2_mailMatches 30 = .ok (.istore_n 3, 1) := by decide +kernel
theorem dX2_mailMatches_31 : decode cX2_mailMatches 31 = .ok (.iload_n 3, 1) := by decide +kernel
theorem dX2_mailMatches_32 : decode cX2_mailMatches 32 = .ok (.aload_n 2, 1) := by decide +kernel
theorem dX2_mailMatches_33 : decode cX2_mailMatches 33 = .ok (.getfield 143, 3) := by decide +kernel
theorem dX2_mailMatches_36 : decode cX2_mailMatches 36 = .ok (.if_icmp .ge 44, 3) := by decide +kernel
theorem dX2_mailMatches_39 : decode cX2_mailMatches 39 = .ok (.aload_n 0, 1) := by decide +kernel
theorem dX2_mailMatches_40 : decode cX2_mailMatches 40 = .ok (.getfield 18, 3) := by decide +kernel
theorem dX2_mailMatches_43 : decode cX2_mailMatches 43 = .ok (.aload_n 2, 1) := by decide +kernel
theorem dX2_mailMatches_44 : decode cX2_mailMatches 44 = .ok (.getfield 146, 3) := by decide +kernel
theorem dX2_mailMatches_47 : decode cX2_mailMatches 47 = .ok (.iload_n 3, 1) := by decide +kernel
theorem dX2_mailMatches_48 : decode cX2_mailMatches 48 = .ok (.iaload, 1) := by decide +kernel
theorem dX2_mailMatches_49 : decode cX2_mailMatches 49 = .ok (.invokevirtual 131, 3) := by decide +kernel
theorem dX2_mailMatches_52 : decode cX2_mailMatches 52 = .ok (.astore 4, 2) := by decide +kernel
theorem dX2_mailMatches_54 : decode cX2_mailMatches 54 = .ok (.aload 4, 2) := by decide +kernel
theorem dX2_mailMatches_56 : decode cX2_mailMatches 56 = .ok (.ifnull 18, 3) := by decide +kernel
theorem dX2_mailMatches_59 : decode cX2_mailMatches 59 = .ok (.aload 4, 2) := by decide +kernel
theorem dX2_mailMatches_61 : decode cX2_mailMatches 61 = .ok (.aload_n 0, 1) := by decide +kernel
theorem dX2_mailMatches_62 : decode cX2_mailMatches 62 = .ok (.getfield 32, 3) := by decide +kernel
theorem dX2_mailMatches_65 : decode cX2_mailMatches 65 = .ok (.invokevirtual 140, 3) := by decide +kernel
theorem dX2_mailMatches_68 : decode cX2_mailMatches 68 = .ok (.iconst (-1), 1) := by decide +kernel
theorem dX2_mailMatches_69 : decode cX2_mailMatches 69 = .ok (.if_icmp .eq 5, 3) := by decide +kernel
theorem dX2_mailMatches_72 : decode cX2_mailMatches 72 = .ok (.iconst 1, 1) := by decide +kernel
theorem dX2_mailMatches_73 : decode cX2_mailMatches 73 = .ok (.ireturn, 1) := by decide +kernel
theorem dX2_mailMatches_74 : decode cX2_mailMatches 74 = .ok (.iinc 3 1, 3) := by decide +kernel
theorem dX2_mailMatches_77 : decode cX2_mailMatches 77 = .ok (.goto (-46), 3) := by decide +kernel
theorem dX2_mailMatches_80 : decode cX2_mailMatches 80 = .ok (.iconst 0, 1) := by decide +kernel
theorem dX2_mailMatches_81 : decode cX2_mailMatches 81 = .ok (.ireturn, 1) := by decide +kernel
theorem dX2_existsMatches_0 : decode cX2_existsMatches 0 = .ok (.aload_n 0, 1) := by decide +kernel
theorem dX2_existsMatches_1 : decode cX2_existsMatches 1 = .ok (.getfield 12, 3) := by decide +kernel
theorem dX2_existsMatches_4 : decode cX2_existsMatches 4 = .ok (.invokevirtual 150, 3) := by decide +kernel
theorem dX2_existsMatches_7 : decode cX2_existsMatches 7 = .ok (.aload_n 1, 1) := by decide +kernel
theorem dX2_existsMatches_8 : decode cX2_existsMatches 8 = .ok (.getfield 153, 3) := by decide +kernel
theorem dX2_existsMatches_11 : decode cX2_existsMatches 11 = .ok (.iconst 1, 1) := by decide +kernel
theorem dX2_existsMatches_12 : decode cX2_existsMatches 12 = .ok (.isub, 1) := by decide +kernel
theorem dX2_existsMatches_13 : decode cX2_existsMatches 13 = .ok (.istore_n 3, 1) := by decide +kernel
theorem dX2_existsMatches_14 : decode cX2_existsMatches 14 = .ok (.iload_n 3, 1) := by decide +kernel
theorem dX2_existsMatches_15 : decode cX2_existsMatches 15 = .ok (.ifCond .lt 20, 3) := by decide +kernel
theorem dX2_existsMatches_18 : decode cX2_existsMatches 18 = .ok (.aload_n 0, 1) := by decide +kernel
theorem dX2_existsMatches_19 : decode cX2_existsMatches 19 = .ok (.aload_n 1, 1) := by decide +kernel
theorem dX2_existsMatches_20 : decode cX2_existsMatches 20 = .ok (.getfield 156, 3) := by decide +kernel
theorem dX2_existsMatches_23 : decode cX2_existsMatches 23 = .ok (.iload_n 3, 1) := by decide +kernel
theorem dX2_existsMatches_24 : decode cX2_existsMatches 24 = .ok (.iaload, 1) := by decide +kernel
theorem dX2_existsMatches_25 : decode cX2_existsMatches 25 = .ok (.aload_n 2, 1) := by decide +kernel
theorem dX2_existsMatches_26 : decode cX2_existsMatches 26 = .ok (.invokevirtual 159, 3) := by decide +kernel
theorem dX2_existsMatches_29 : decode cX2_existsMatches 29 = .ok (.iinc 3 (-1), 3) := by decide +kernel
theorem dX2_existsMatches_32 : decode cX2_existsMatches 32 = .ok (.goto (-18), 3) := by decide +kernel
theorem dX2_existsMatches_35 : decode cX2_existsMatches 35 = .ok (.aload_n 0, 1) := by decide +kernel
theorem dX2_existsMatches_36 : decode cX2_existsMatches 36 = .ok (.getfield 18, 3) := by decide +kernel
theorem dX2_existsMatches_39 : decode cX2_existsMatches 39 = .ok (.aload_n 0, 1) := by decide +kernel
theorem dX2_existsMatches_40 : decode cX2_existsMatches 40 = .ok (.getfield 12, 3) := by decide +kernel
theorem dX2_existsMatches_43 : decode cX2_existsMatches 43 = .ok (.invokevirtual 163, 3) := by decide +kernel
theorem dX2_existsMatches_46 : decode cX2_existsMatches 46 = .ok (.invokevirtual 131, 3) := by decide +kernel
theorem dX2_existsMatches_49 : decode cX2_existsMatches 49 = .ok (.astore_n 3, 1) := by decide +kernel
theorem dX2_existsMatches_50 : decode cX2_existsMatches 50 = .ok (.aload_n 3, 1) := by decide +kernel
theorem dX2_existsMatches_51 : decode cX2_existsMatches 51 = .ok (.ifnull 10, 3) := by decide +kernel
theorem dX2_existsMatches_54 : decode cX2_existsMatches 54 = .ok (.aload_n 3, 1) := by decide +kernel
theorem dX2_existsMatches_55 : decode cX2_existsMatches 55 = .ok (.getfield 134, 3) := by decide +kernel
theorem dX2_existsMatches_58 : decode cX2_existsMatches 58 = .ok (.ifCond .ne 9, 3) := by decide +kernel
theorem dX2_existsMatches_61 : decode cX2_existsMatches 61 = .ok (.aload_n 0, 1) := by decide +kernel
theorem dX2_existsMatches_62 : decode cX2_existsMatches 62 = .ok (.invokevirtual 137, 3) := by decide +kernel
theorem dX2_existsMatches_65 : decode cX2_existsMatches 65 = .ok (.iconst 0, 1) := by decide +kernel
theorem dX2_existsMatches_66 : decode cX2_existsMatches 66 = .ok (.ireturn, 1) := by decide +kernel
theorem dX2_existsMatches_67 : decode cX2_existsMatches 67 = .ok (.iconst 1, 1) := by decide +kernel
theorem dX2_existsMatches_68 : decode cX2_existsMatches 68 = .ok (.ireturn, 1) := by decide +kernel
theorem dX2_putPart_0 : decode cX2_putPart 0 = .ok (.iload_n 1, 1) := by decide +kernel
theorem dX2_putPart_1 : decode cX2_putPart 1 = .ok (.iconst 4, 1) := by decide +kernel
theorem dX2_putPart_2 : decode cX2_putPart 2 = .ok (.ishr, 1) := by decide +kernel
theorem dX2_putPart_3 : decode cX2_putPart 3 = .ok (.istore_n 3, 1) := by decide +kernel
theorem dX2_putPart_4 : decode cX2_putPart 4 = .ok (.iload_n 1, 1) := by decide +kernel
theorem dX2_putPart_5 : decode cX2_putPart 5 = .ok (.iconst 1, 1) := by decide +kernel
theorem dX2_putPart_6 : decode cX2_putPart 6 = .ok (.ishr, 1) := by decide +kernel
theorem dX2_putPart_7 : decode cX2_putPart 7 = .ok (.bipush 7, 2) := by decide +kernel
theorem dX2_putPart_9 : decode cX2_putPart 9 = .ok (.iand, 1) := by decide +kernel
theorem dX2_putPart_10 : decode cX2_putPart 10 = .ok (.istore 4, 2) := by decide +kernel
theorem dX2_putPart_12 : decode cX2_putPart 12 = .ok (.iload_n 1, 1) := by decide +kernel
theorem dX2_putPart_13 : decode cX2_putPart 13 = .ok (.iconst 1, 1) := by decide +kernel
theorem dX2_putPart_14 : decode cX2_putPart 14 = .ok (.iand, 1) := by decide +kernel
theorem dX2_putPart_15 : decode cX2_putPart 15 = .ok (.iconst 1, 1) := by decide +kernel
theorem dX2_putPart_16 : decode cX2_putPart 16 = .ok (.if_icmp .ne 7, 3) := by decide +kernel
theorem dX2_putPart_19 : decode cX2_putPart 19 = .ok (.iconst 1, 1) := by decide +kernel
theorem dX2_putPart_20 : decode cX2_putPart 20 = .ok (.goto 4, 3) := by decide +kernel
theorem dX2_putPart_23 : decode cX2_putPart 23 = .ok (.iconst 0, 1) := by decide +kernel
theorem dX2_putPart_24 : decode cX2_putPart 24 = .ok (.istore 5, 2) := by decide +kernel
theorem dX2_putPart_26 : decode cX2_putPart 26 = .ok (.aload_n 0, 1) := by decide +kernel
theorem dX2_putPart_27 : decode cX2_putPart 27 = .ok (.iload_n 3, 1) := by decide +kernel
theorem dX2_putPart_28 : decode cX2_putPart 28 = .ok (.aload_n 2, 1) := by decide +kernel
theorem dX2_putPart_29 : decode cX2_putPart 29 = .ok (.invokevirtual 166, 3) := by decide +kernel
theorem dX2_putPart_32 : decode cX2_putPart 32 = .ok (.istore 6, 2) := by decide +kernel
theorem dX2_putPart_34 : decode cX2_putPart 34 = .ok (.iload 4, 2) := by decide +kernel
theorem dX2_putPart_36 : decode cX2_putPart 36 = .ok (.ifCond .ne 8, 3) := by decide +kernel
theorem dX2_putPart_39 : decode cX2_putPart 39 = .ok (.iload 6, 2) := by decide +kernel
theorem dX2_putPart_41 : decode cX2_putPart 41 = .ok (.goto 10, 3) := by decide +kernel
theorem dX2_putPart_44 : decode cX2_putPart 44 = .ok (.iload 4, 2) := by decide +kernel
theorem dX2_putPart_46 : decode cX2_putPart 46 = .ok (.iload 6, 2) := by decide +kernel
theorem dX2_putPart_48 : decode cX2_putPart 48 = .ok (.invokestatic 170, 3) := by decide +kernel
theorem dX2_putPart_51 : decode cX2_putPart 51 = .ok (.istore 7, 2) := by decide +kernel
theorem dX2_putPart_53 : decode cX2_putPart 53 = .ok (.iconst 0, 1) := by decide +kernel
theorem dX2_putPart_54 : decode cX2_putPart 54 = .ok (.istore 8, 2) := by decide +kernel
theorem dX2_putPart_56 : decode cX2_putPart 56 = .ok (.iload 8, 2) := by decide +kernel
theorem dX2_putPart_58 : decode cX2_putPart 58 = .ok (.iload 7, 2) := by decide +kernel
theorem dX2_putPart_60 : decode cX2_putPart 60 = .ok (.if_icmp .ge 39, 3) := by decide +kernel
theorem dX2_putPart_63 : decode cX2_putPart 63 = .ok (.aload_n 0, 1) := by decide +kernel
theorem dX2_putPart_64 : decode cX2_putPart 64 = .ok (.getfield 12, 3) := by decide +kernel
theorem dX2_putPart_67 : decode cX2_putPart 67 = .ok (.aload_n 0, 1) := by decide +kernel
theorem dX2_putPart_68 : decode cX2_putPart 68 = .ok (.iload_n 3, 1) := by decide +kernel
theorem dX2_putPart_69 : decode cX2_putPart 69 = .ok (.aload_n 2, 1) := by decide +kernel
theorem dX2_putPart_70 : decode cX2_putPart 70 = .ok (.iload 5, 2) := by decide +kernel
theorem dX2_putPart_72 : decode cX2_putPart 72 = .ok (.ifCond .eq 13, 3) := by decide +kernel
theorem dX2_putPart_75 : decode cX2_putPart 75 = .ok (.iload 6, 2) := by decide +kernel
theorem dX2_putPart_77 : decode cX2_putPart 77 = .ok (.iconst 1, 1) := by decide +kernel
theorem dX2_putPart_78 : decode cX2_putPart 78 = .ok (.isub, 1) := by decide +kernel
theorem dX2_putPart_79 : decode cX2_putPart 79 = .ok (.iload 8, 2) := by decide +kernel
theorem dX2_putPart_81 : decode cX2_putPart 81 = .ok (.isub, 1) := by decide +kernel
theorem dX2_putPart_82 : decode cX2_putPart 82 = .ok (.goto 5, 3) := by decide +kernel
theorem dX2_putPart_85 : decode cX2_putPart 85 = .ok (.iload 8, 2) := by decide +kernel
theorem dX2_putPart_87 : decode cX2_putPart 87 = .ok (.invokevirtual 175, 3) := by decide +kernel
theorem dX2_putPart_90 : decode cX2_putPart 90 = .ok (.invokevirtual 179, 3) := by decide +kernel
theorem dX2_putPart_93 : decode cX2_putPart 93 = .ok (.iinc 8 1, 3) := by decide +kernel
theorem dX2_putPart_96 : decode cX2_putPart 96 = .ok (.goto (-40), 3) := by decide +kernel
theorem dX2_putPart_99 : decode cX2_putPart 99 = .ok (.return_, 1) := by decide +kernel
theorem dX2_sizeOf_0 : decode cX2_sizeOf 0 = .ok (.iload_n 1, 1) := by decide +kernel
theorem dX2_sizeOf_1 : decode cX2_sizeOf 1 = .ok (.tableswitch 53 16 18 #[27, 32, 51], 27) := by decide +kernel
theorem dX2_sizeOf_28 : decode cX2_sizeOf 28 = .ok (.aload_n 2, 1) := by decide +kernel
theorem dX2_sizeOf_29 : decode cX2_sizeOf 29 = .ok (.getfield 183, 3) := by decide +kernel
theorem dX2_sizeOf_32 : decode cX2_sizeOf 32 = .ok (.ireturn, 1) := by decide +kernel
theorem dX2_sizeOf_33 : decode cX2_sizeOf 33 = .ok (.aload_n 0, 1) := by decide +kernel
theorem dX2_sizeOf_34 : decode cX2_sizeOf 34 = .ok (.getfield 28, 3) := by decide +kernel
theorem dX2_sizeOf_37 : decode cX2_sizeOf 37 = .ok (.ifnonnull 7, 3) := by decide +kernel
theorem dX2_sizeOf_40 : decode cX2_sizeOf 40 = .ok (.iconst 0, 1) := by decide +kernel
theorem dX2_sizeOf_41 : decode cX2_sizeOf 41 = .ok (.goto 10, 3) := by decide +kernel
theorem dX2_sizeOf_44 : decode cX2_sizeOf 44 = .ok (.aload_n 0, 1) := by decide +kernel
theorem dX2_sizeOf_45 : decode cX2_sizeOf 45 = .ok (.getfield 28, 3) := by decide +kernel
theorem dX2_sizeOf_48 : decode cX2_sizeOf 48 = .ok (.getfield 183, 3) := by decide +kernel
theorem dX2_sizeOf_51 : decode cX2_sizeOf 51 = .ok (.ireturn, 1) := by decide +kernel
theorem dX2_sizeOf_52 : decode cX2_sizeOf 52 = .ok (.iconst 4, 1) := by decide +kernel
theorem dX2_sizeOf_53 : decode cX2_sizeOf 53 = .ok (.ireturn, 1) := by decide +kernel
theorem dX2_sizeOf_54 : decode cX2_sizeOf 54 = .ok (.iconst 1, 1) := by decide +kernel
theorem dX2_sizeOf_55 : decode cX2_sizeOf 55 = .ok (.ireturn, 1) := by decide +kernel
theorem dX2_fromEndOf_0 : decode cX2_fromEndOf 0 = .ok (.iload_n 1, 1) := by decide +kernel
theorem dX2_fromEndOf_1 : decode cX2_fromEndOf 1 = .ok (.tableswitch 98 16 19 #[31, 50, 82, 93], 31) := by decide +kernel
theorem dX2_fromEndOf_32 : decode cX2_fromEndOf 32 = .ok (.iload_n 3, 1) := by decide +kernel
theorem dX2_fromEndOf_33 : decode cX2_fromEndOf 33 = .ok (.aload_n 2, 1) := by decide +kernel
theorem dX2_fromEndOf_34 : decode cX2_fromEndOf 34 = .ok (.getfield 183, 3) := by decide +kernel
theorem dX2_fromEndOf_37 : decode cX2_fromEndOf 37 = .ok (.if_icmp .ge 12, 3) := by decide +kernel
theorem dX2_fromEndOf_40 : decode cX2_fromEndOf 40 = .ok (.aload_n 2, 1) := by decide +kernel
theorem dX2_fromEndOf_41 : decode cX2_fromEndOf 41 = .ok (.getfield 186, 3) := by decide +kernel
theorem dX2_fromEndOf_44 : decode cX2_fromEndOf 44 = .ok (.iload_n 3, 1) := by decide +kernel
theorem dX2_fromEndOf_45 : decode cX2_fromEndOf 45 = .ok (.iaload, 1) := by decide +kernel
theorem dX2_fromEndOf_46 : decode cX2_fromEndOf 46 = .ok (.goto 4, 3) := by decide +kernel
theorem dX2_fromEndOf_49 : decode cX2_fromEndOf 49 = .ok (.iconst 0, 1) := by decide +kernel
theorem dX2_fromEndOf_50 : decode cX2_fromEndOf 50 = .ok (.ireturn, 1) := by decide +kernel
theorem dX2_fromEndOf_51 : decode cX2_fromEndOf 51 = .ok (.aload_n 0, 1) := by decide +kernel
theorem dX2_fromEndOf_52 : decode cX2_fromEndOf 52 = .ok (.getfield 28, 3) := by decide +kernel
theorem dX2_fromEndOf_55 : decode cX2_fromEndOf 55 = .ok (.ifnull 26, 3) := by decide +kernel
theorem dX2_fromEndOf_58 : decode cX2_fromEndOf 58 = .ok (.iload_n 3, 1) := by decide +kernel
theorem dX2_fromEndOf_59 : decode cX2_fromEndOf 59 = .ok (.aload_n 0, 1) := by decide +kernel
theorem dX2_fromEndOf_60 : decode cX2_fromEndOf 60 = .ok (.getfield 28, 3) := by decide +kernel
theorem dX2_fromEndOf_63 : decode cX2_fromEndOf 63 = .ok (.getfield 183, 3) := by decide +kernel
theorem dX2_fromEndOf_66 : decode cX2_fromEndOf 66 = .ok (.if_icmp .ge 15, 3) := by decide +kernel
theorem dX2_fromEndOf_69 : decode cX2_fromEndOf 69 = .ok (.aload_n 0, 1) := by decide +kernel
theorem dX2_fromEndOf_70 : decode cX2_fromEndOf 70 = .ok (.getfield 28, 3) := by decide +kernel
theorem dX2_fromEndOf_73 : decode cX2_fromEndOf 73 = .ok (.getfield 186, 3) := by decide +kernel
theorem dX2_fromEndOf_76 : decode cX2_fromEndOf 76 = .ok (.iload_n 3, 1) := by decide +kernel
theorem dX2_fromEndOf_77 : decode cX2_fromEndOf 77 = .ok (.iaload, 1) := by decide +kernel
theorem dX2_fromEndOf_78 : decode cX2_fromEndOf 78 = .ok (.goto 4, 3) := by decide +kernel
theorem dX2_fromEndOf_81 : decode cX2_fromEndOf 81 = .ok (.iconst 0, 1) := by decide +kernel
theorem dX2_fromEndOf_82 : decode cX2_fromEndOf 82 = .ok (.ireturn, 1) := by decide +kernel
theorem dX2_fromEndOf_83 : decode cX2_fromEndOf 83 = .ok (.aload_n 0, 1) := by decide +kernel
theorem dX2_fromEndOf_84 : decode cX2_fromEndOf 84 = .ok (.getfield 32, 3) := by decide +kernel
theorem dX2_fromEndOf_87 : decode cX2_fromEndOf 87 = .ok (.iconst 2, 1) := by decide +kernel
theorem dX2_fromEndOf_88 : decode cX2_fromEndOf 88 = .ok (.iload_n 3, 1) := by decide +kernel
theorem dX2_fromEndOf_89 : decode cX2_fromEndOf 89 = .ok (.imul, 1) := by decide +kernel
theorem dX2_fromEndOf_90 : decode cX2_fromEndOf 90 = .ok (.ishr, 1) := by decide +kernel
theorem dX2_fromEndOf_91 : decode cX2_fromEndOf 91 = .ok (.iconst 3, 1) := by decide +kernel
theorem dX2_fromEndOf_92 : decode cX2_fromEndOf 92 = .ok (.iand, 1) := by decide +kernel
theorem dX2_fromEndOf_93 : decode cX2_fromEndOf 93 = .ok (.ireturn, 1) := by decide +kernel
theorem dX2_fromEndOf_94 : decode cX2_fromEndOf 94 = .ok (.aload_n 0, 1) := by decide +kernel
theorem dX2_fromEndOf_95 : decode cX2_fromEndOf 95 = .ok (.getfield 36, 3) := by decide +kernel
theorem dX2_fromEndOf_98 : decode cX2_fromEndOf 98 = .ok (.ireturn, 1) := by decide +kernel
theorem dX2_fromEndOf_99 : decode cX2_fromEndOf 99 = .ok (.iload_n 1, 1) := by decide +kernel
theorem dX2_fromEndOf_100 : decode cX2_fromEndOf 100 = .ok (.ireturn, 1) := by decide +kernel
theorem dX3_init_0 : decode cX3_init 0 = .ok (.aload_n 0, 1) := by decide +kernel
theorem dX3_init_1 : decode cX3_init 1 = .ok (.invokespecial 3, 3) := by decide +kernel
theorem dX3_init_4 : decode cX3_init 4 = .ok (.aload_n 0, 1) := by decide +kernel
theorem dX3_init_5 : decode cX3_init 5 = .ok (.iconst 4, 1) := by decide +kernel
theorem dX3_init_6 : decode cX3_init 6 = .ok (.anewarray 9, 3) := by decide +kernel
theorem dX3_init_9 : decode cX3_init 9 = .ok (.putfield 11, 3) := by decide +kernel
theorem dX3_init_12 : decode cX3_init 12 = .ok (.iconst 0, 1) := by decide +kernel
theorem dX3_init_13 : decode cX3_init 13 = .ok (.istore_n 1, 1) := by decide +kernel
theorem dX3_init_14 : decode cX3_init 14 = .ok (.iload_n 1, 1) := by decide +kernel
theorem dX3_init_15 : decode cX3_init 15 = .ok (.iconst 4, 1) := by decide +kernel
theorem dX3_init_16 : decode cX3_init 16 = .ok (.if_icmp .ge 22, 3) := by decide +kernel
theorem dX3_init_19 : decode cX3_init 19 = .ok (.aload_n 0, 1) := by decide +kernel
theorem dX3_init_20 : decode cX3_init 20 = .ok (.getfield 11, 3) := by decide +kernel
theorem dX3_init_23 : decode cX3_init 23 = .ok (.iload_n 1, 1) := by decide +kernel
theorem dX3_init_24 : decode cX3_init 24 = .ok (.new 9, 3) := by decide +kernel
theorem dX3_init_27 : decode cX3_init 27 = .ok (.dup, 1) := by decide +kernel
theorem dX3_init_28 : decode cX3_init 28 = .ok (.invokespecial 17, 3) := by decide +kernel
theorem dX3_init_31 : decode cX3_init 31 = .ok (.aastore, 1) := by decide +kernel
theorem dX3_init_32 : decode cX3_init 32 = .ok (.iinc 1 1, 3) := by decide +kernel
theorem dX3_init_35 : decode cX3_init 35 = .ok (.goto (-21), 3) := by decide +kernel
theorem dX3_init_38 : decode cX3_init 38 = .ok (.return_, 1) := by decide +kernel
theorem dX3_clear_0 : decode cX3_clear 0 = .ok (.aload_n 0, 1) := by decide +kernel
theorem dX3_clear_1 : decode cX3_clear 1 = .ok (.iconst 0, 1) := by decide +kernel
theorem dX3_clear_2 : decode cX3_clear 2 = .ok (.putfield 18, 3) := by decide +kernel
theorem dX3_clear_5 : decode cX3_clear 5 = .ok (.return_, 1) := by decide +kernel
theorem dX3_add_0 : decode cX3_add 0 = .ok (.aload_n 0, 1) := by decide +kernel
theorem dX3_add_1 : decode cX3_add 1 = .ok (.getfield 18, 3) := by decide +kernel
theorem dX3_add_4 : decode cX3_add 4 = .ok (.iconst 4, 1) := by decide +kernel
theorem dX3_add_5 : decode cX3_add 5 = .ok (.if_icmp .ge 25, 3) := by decide +kernel
theorem dX3_add_8 : decode cX3_add 8 = .ok (.aload_n 0, 1) := by decide +kernel
theorem dX3_add_9 : decode cX3_add 9 = .ok (.dup, 1) := by decide +kernel
theorem dX3_add_10 : decode cX3_add 10 = .ok (.getfield 18, 3) := by decide +kernel
theorem dX3_add_13 : decode cX3_add 13 = .ok (.iconst 1, 1) := by decide +kernel
theorem dX3_add_14 : decode cX3_add 14 = .ok (.iadd, 1) := by decide +kernel
theorem dX3_add_15 : decode cX3_add 15 = .ok (.putfield 18, 3) := by decide +kernel
theorem dX3_add_18 : decode cX3_add 18 = .ok (.aload_n 0, 1) := by decide +kernel
theorem dX3_add_19 : decode cX3_add 19 = .ok (.getfield 11, 3) := by decide +kernel
theorem dX3_add_22 : decode cX3_add 22 = .ok (.aload_n 0, 1) := by decide +kernel
theorem dX3_add_23 : decode cX3_add 23 = .ok (.getfield 18, 3) := by decide +kernel
theorem dX3_add_26 : decode cX3_add 26 = .ok (.iconst 1, 1) := by decide +kernel
theorem dX3_add_27 : decode cX3_add 27 = .ok (.isub, 1) := by decide +kernel
theorem dX3_add_28 : decode cX3_add 28 = .ok (.aaload, 1) := by decide +kernel
theorem dX3_add_29 : decode cX3_add 29 = .ok (.areturn, 1) := by decide +kernel
theorem dX3_add_30 : decode cX3_add 30 = .ok (.aload_n 0, 1) := by decide +kernel
theorem dX3_add_31 : decode cX3_add 31 = .ok (.getfield 11, 3) := by decide +kernel
theorem dX3_add_34 : decode cX3_add 34 = .ok (.iconst 0, 1) := by decide +kernel
theorem dX3_add_35 : decode cX3_add 35 = .ok (.aaload, 1) := by decide +kernel
theorem dX3_add_36 : decode cX3_add 36 = .ok (.astore_n 1, 1) := by decide +kernel
theorem dX3_add_37 : decode cX3_add 37 = .ok (.iconst 0, 1) := by decide +kernel
theorem dX3_add_38 : decode cX3_add 38 = .ok (.istore_n 2, 1) := by decide +kernel
theorem dX3_add_39 : decode cX3_add 39 = .ok (.iload_n 2, 1) := by decide +kernel
theorem dX3_add_40 : decode cX3_add 40 = .ok (.iconst 3, 1) := by decide +kernel
theorem dX3_add_41 : decode cX3_add 41 = .ok (.if_icmp .ge 23, 3) := by decide +kernel
theorem dX3_add_44 : decode cX3_add 44 = .ok (.aload_n 0, 1) := by decide +kernel
theorem dX3_add_45 : decode cX3_add 45 = .ok (.getfield 11, 3) := by decide +kernel
theorem dX3_add_48 : decode cX3_add 48 = .ok (.iload_n 2, 1) := by decide +kernel
theorem dX3_add_49 : decode cX3_add 49 = .ok (.aload_n 0, 1) := by decide +kernel
theorem dX3_add_50 : decode cX3_add 50 = .ok (.getfield 11, 3) := by decide +kernel
theorem dX3_add_53 : decode cX3_add 53 = .ok (.iload_n 2, 1) := by decide +kernel
theorem dX3_add_54 : decode cX3_add 54 = .ok (.iconst 1, 1) := by decide +kernel
theorem dX3_add_55 : decode cX3_add 55 = .ok (.iadd, 1) := by decide +kernel
theorem dX3_add_56 : decode cX3_add 56 = .ok (.aaload, 1) := by decide +kernel
theorem dX3_add_57 : decode cX3_add 57 = .ok (.aastore, 1) := by decide +kernel
theorem dX3_add_58 : decode cX3_add 58 = .ok (.iinc 2 1, 3) := by decide +kernel
theorem dX3_add_61 : decode cX3_add 61 = .ok (.goto (-22), 3) := by decide +kernel
theorem dX3_add_64 : decode cX3_add 64 = .ok (.aload_n 0, 1) := by decide +kernel
theorem dX3_add_65 : decode cX3_add 65 = .ok (.getfield 11, 3) := by decide +kernel
theorem dX3_add_68 : decode cX3_add 68 = .ok (.iconst 3, 1) := by decide +kernel
theorem dX3_add_69 : decode cX3_add 69 = .ok (.aload_n 1, 1) := by decide +kernel
theorem dX3_add_70 : decode cX3_add 70 = .ok (.aastore, 1) := by decide +kernel
theorem dX3_add_71 : decode cX3_add 71 = .ok (.aload_n 1, 1) := by decide +kernel
theorem dX3_add_72 : decode cX3_add 72 = .ok (.areturn, 1) := by decide +kernel
theorem dX3_takeLatest_0 : decode cX3_takeLatest 0 = .ok (.aload_n 0, 1) := by decide +kernel
theorem dX3_takeLatest_1 : decode cX3_takeLatest 1 = .ok (.getfield 18, 3) := by decide +kernel
theorem dX3_takeLatest_4 : decode cX3_takeLatest 4 = .ok (.ifCond .ne 5, 3) := by decide +kernel
theorem dX3_takeLatest_7 : decode cX3_takeLatest 7 = .ok (.aconst_null, 1) := by decide +kernel
theorem dX3_takeLatest_8 : decode cX3_takeLatest 8 = .ok (.areturn, 1) := by decide +kernel
theorem dX3_takeLatest_9 : decode cX3_takeLatest 9 = .ok (.aload_n 0, 1) := by decide +kernel
theorem dX3_takeLatest_10 : decode cX3_takeLatest 10 = .ok (.dup, 1) := by decide +kernel
theorem dX3_takeLatest_11 : decode cX3_takeLatest 11 = .ok (.getfield 18, 3) := by decide +kernel
theorem dX3_takeLatest_14 : decode cX3_takeLatest 14 = .ok (.iconst 1, 1) := by decide +kernel
theorem dX3_takeLatest_15 : decode cX3_takeLatest 15 = .ok (.isub, 1) := by decide +kernel
theorem dX3_takeLatest_16 : decode cX3_takeLatest 16 = .ok (.putfield 18, 3) := by decide +kernel
theorem dX3_takeLatest_19 : decode cX3_takeLatest 19 = .ok (.aload_n 0, 1) := by decide +kernel
theorem dX3_takeLatest_20 : decode cX3_takeLatest 20 = .ok (.getfield 11, 3) := by decide +kernel
theorem dX3_takeLatest_23 : decode cX3_takeLatest 23 = .ok (.aload_n 0, 1) := by decide +kernel
theorem dX3_takeLatest_24 : decode cX3_takeLatest 24 = .ok (.getfield 18, 3) := by decide +kernel
theorem dX3_takeLatest_27 : decode cX3_takeLatest 27 = .ok (.aaload, 1) := by decide +kernel
theorem dX3_takeLatest_28 : decode cX3_takeLatest 28 = .ok (.areturn, 1) := by decide +kernel
theorem dX4_init_0 : decode cX4_init 0 = .ok (.aload_n 0, 1) := by decide +kernel
theorem dX4_init_1 : decode cX4_init 1 = .ok (.invokespecial 3, 3) := by decide +kernel
theorem dX4_init_4 : decode cX4_init 4 = .ok (.aload_n 0, 1) := by decide +kernel
theorem dX4_init_5 : decode cX4_init 5 = .ok (.bipush 8, 2) := by decide +kernel
theorem dX4_init_7 : decode cX4_init 7 = .ok (.newarray .int, 2) := by decide +kernel
theorem dX4_init_9 : decode cX4_init 9 = .ok (.putfield 9, 3) := by decide +kernel
theorem dX4_init_12 : decode cX4_init 12 = .ok (.return_, 1) := by decide +kernel
theorem dX4_isOf_0 : decode cX4_isOf 0 = .ok (.aload_n 0, 1) := by decide +kernel
theorem dX4_isOf_1 : decode cX4_isOf 1 = .ok (.getfield 9, 3) := by decide +kernel
theorem dX4_isOf_4 : decode cX4_isOf 4 = .ok (.iconst 0, 1) := by decide +kernel
theorem dX4_isOf_5 : decode cX4_isOf 5 = .ok (.iaload, 1) := by decide +kernel
theorem dX4_isOf_6 : decode cX4_isOf 6 = .ok (.iload_n 1, 1) := by decide +kernel
theorem dX4_isOf_7 : decode cX4_isOf 7 = .ok (.if_icmp .ne 27, 3) := by decide +kernel
theorem dX4_isOf_10 : decode cX4_isOf 10 = .ok (.aload_n 0, 1) := by decide +kernel
theorem dX4_isOf_11 : decode cX4_isOf 11 = .ok (.getfield 9, 3) := by decide +kernel
theorem dX4_isOf_14 : decode cX4_isOf 14 = .ok (.iconst 1, 1) := by decide +kernel
theorem dX4_isOf_15 : decode cX4_isOf 15 = .ok (.iaload, 1) := by decide +kernel
theorem dX4_isOf_16 : decode cX4_isOf 16 = .ok (.iload_n 2, 1) := by decide +kernel
theorem dX4_isOf_17 : decode cX4_isOf 17 = .ok (.if_icmp .ne 17, 3) := by decide +kernel
theorem dX4_isOf_20 : decode cX4_isOf 20 = .ok (.aload_n 0, 1) := by decide +kernel
theorem dX4_isOf_21 : decode cX4_isOf 21 = .ok (.getfield 9, 3) := by decide +kernel
theorem dX4_isOf_24 : decode cX4_isOf 24 = .ok (.iconst 2, 1) := by decide +kernel
theorem dX4_isOf_25 : decode cX4_isOf 25 = .ok (.iaload, 1) := by decide +kernel
theorem dX4_isOf_26 : decode cX4_isOf 26 = .ok (.iload_n 3, 1) := by decide +kernel
theorem dX4_isOf_27 : decode cX4_isOf 27 = .ok (.if_icmp .ne 7, 3) := by decide +kernel
theorem dX4_isOf_30 : decode cX4_isOf 30 = .ok (.iconst 1, 1) := by decide +kernel
theorem dX4_isOf_31 : decode cX4_isOf 31 = .ok (.goto 4, 3) := by decide +kernel
theorem dX4_isOf_34 : decode cX4_isOf 34 = .ok (.iconst 0, 1) := by decide +kernel
theorem dX4_isOf_35 : decode cX4_isOf 35 = .ok (.ireturn, 1) := by decide +kernel
theorem dX5_init_0 : decode cX5_init 0 = .ok (.aload_n 0, 1) := by decide +kernel
theorem dX5_init_1 : decode cX5_init 1 = .ok (.invokespecial 3, 3) := by decide +kernel
theorem dX5_init_4 : decode cX5_init 4 = .ok (.aload_n 0, 1) := by decide +kernel
theorem dX5_init_5 : decode cX5_init 5 = .ok (.iconst 4, 1) := by decide +kernel
theorem dX5_init_6 : decode cX5_init 6 = .ok (.anewarray 9, 3) := by decide +kernel
theorem dX5_init_9 : decode cX5_init 9 = .ok (.putfield 11, 3) := by decide +kernel
theorem dX5_init_12 : decode cX5_init 12 = .ok (.iconst 0, 1) := by decide +kernel
theorem dX5_init_13 : decode cX5_init 13 = .ok (.istore_n 1, 1) := by decide +kernel
theorem dX5_init_14 : decode cX5_init 14 = .ok (.iload_n 1, 1) := by decide +kernel
theorem dX5_init_15 : decode cX5_init 15 = .ok (.iconst 4, 1) := by decide +kernel
theorem dX5_init_16 : decode cX5_init 16 = .ok (.if_icmp .ge 22, 3) := by decide +kernel
theorem dX5_init_19 : decode cX5_init 19 = .ok (.aload_n 0, 1) := by decide +kernel
theorem dX5_init_20 : decode cX5_init 20 = .ok (.getfield 11, 3) := by decide +kernel
theorem dX5_init_23 : decode cX5_init 23 = .ok (.iload_n 1, 1) := by decide +kernel
theorem dX5_init_24 : decode cX5_init 24 = .ok (.new 9, 3) := by decide +kernel
theorem dX5_init_27 : decode cX5_init 27 = .ok (.dup, 1) := by decide +kernel
theorem dX5_init_28 : decode cX5_init 28 = .ok (.invokespecial 17, 3) := by decide +kernel
theorem dX5_init_31 : decode cX5_init 31 = .ok (.aastore, 1) := by decide +kernel
theorem dX5_init_32 : decode cX5_init 32 = .ok (.iinc 1 1, 3) := by decide +kernel
theorem dX5_init_35 : decode cX5_init 35 = .ok (.goto (-21), 3) := by decide +kernel
theorem dX5_init_38 : decode cX5_init 38 = .ok (.return_, 1) := by decide +kernel
theorem dX5_clear_0 : decode cX5_clear 0 = .ok (.aload_n 0, 1) := by decide +kernel
theorem dX5_clear_1 : decode cX5_clear 1 = .ok (.iconst 0, 1) := by decide +kernel
theorem dX5_clear_2 : decode cX5_clear 2 = .ok (.putfield 18, 3) := by decide +kernel
theorem dX5_clear_5 : decode cX5_clear 5 = .ok (.return_, 1) := by decide +kernel
theorem dX5_valueOf_0 : decode cX5_valueOf 0 = .ok (.iload_n 1, 1) := by decide +kernel
theorem dX5_valueOf_1 : decode cX5_valueOf 1 = .ok (.ifCond .lt 35, 3) := by decide +kernel
theorem dX5_valueOf_4 : decode cX5_valueOf 4 = .ok (.iload_n 1, 1) := by decide +kernel
theorem dX5_valueOf_5 : decode cX5_valueOf 5 = .ok (.aload_n 0, 1) := by decide +kernel
theorem dX5_valueOf_6 : decode cX5_valueOf 6 = .ok (.getfield 18, 3) := by decide +kernel
theorem dX5_valueOf_9 : decode cX5_valueOf 9 = .ok (.if_icmp .ge 27, 3) := by decide +kernel
theorem dX5_valueOf_12 : decode cX5_valueOf 12 = .ok (.iload_n 2, 1) := by decide +kernel
theorem dX5_valueOf_13 : decode cX5_valueOf 13 = .ok (.ifCond .lt 23, 3) := by decide +kernel
theorem dX5_valueOf_16 : decode cX5_valueOf 16 = .ok (.iload_n 2, 1) := by decide +kernel
theorem dX5_valueOf_17 : decode cX5_valueOf 17 = .ok (.bipush 8, 2) := by decide +kernel
theorem dX5_valueOf_19 : decode cX5_valueOf 19 = .ok (.if_icmp .ge 17, 3) := by decide +kernel
theorem dX5_valueOf_22 : decode cX5_valueOf 22 = .ok (.aload_n 0, 1) := by decide +kernel
theorem dX5_valueOf_23 : decode cX5_valueOf 23 = .ok (.getfield 11, 3) := by decide +kernel
theorem dX5_valueOf_26 : decode cX5_valueOf 26 = .ok (.iload_n 1, 1) := by decide +kernel
theorem dX5_valueOf_27 : decode cX5_valueOf 27 = .ok (.aaload, 1) := by decide +kernel
theorem dX5_valueOf_28 : decode cX5_valueOf 28 = .ok (.getfield 22, 3) := by decide +kernel
theorem dX5_valueOf_31 : decode cX5_valueOf 31 = .ok (.iload_n 2, 1) := by decide +kernel
theorem dX5_valueOf_32 : decode cX5_valueOf 32 = .ok (.iaload, 1) := by decide +kernel
theorem dX5_valueOf_33 : decode cX5_valueOf 33 = .ok (.goto 5, 3) := by decide +kernel
theorem dX5_valueOf_36 : decode cX5_valueOf 36 = .ok (.bipush (-4), 2) := by decide +kernel
theorem dX5_valueOf_38 : decode cX5_valueOf 38 = .ok (.ireturn, 1) := by decide +kernel
theorem dX5_keep_0 : decode cX5_keep 0 = .ok (.aload_n 0, 1) := by decide +kernel
theorem dX5_keep_1 : decode cX5_keep 1 = .ok (.iload_n 2, 1) := by decide +kernel
theorem dX5_keep_2 : decode cX5_keep 2 = .ok (.aload_n 1, 1) := by decide +kernel
theorem dX5_keep_3 : decode cX5_keep 3 = .ok (.getfield 26, 3) := by decide +kernel
theorem dX5_keep_6 : decode cX5_keep 6 = .ok (.aload_n 1, 1) := by decide +kernel
theorem dX5_keep_7 : decode cX5_keep 7 = .ok (.getfield 31, 3) := by decide +kernel
theorem dX5_keep_10 : decode cX5_keep 10 = .ok (.invokevirtual 34, 3) := by decide +kernel
theorem dX5_keep_13 : decode cX5_keep 13 = .ok (.getfield 22, 3) := by decide +kernel
theorem dX5_keep_16 : decode cX5_keep 16 = .ok (.astore 4, 2) := by decide +kernel
theorem dX5_keep_18 : decode cX5_keep 18 = .ok (.aload 4, 2) := by decide +kernel
theorem dX5_keep_20 : decode cX5_keep 20 = .ok (.iconst 0, 1) := by decide +kernel
theorem dX5_keep_21 : decode cX5_keep 21 = .ok (.iload_n 2, 1) := by decide +kernel
theorem dX5_keep_22 : decode cX5_keep 22 = .ok (.iastore, 1) := by decide +kernel
theorem dX5_keep_23 : decode cX5_keep 23 = .ok (.aload 4, 2) := by decide +kernel
theorem dX5_keep_25 : decode cX5_keep 25 = .ok (.iconst 1, 1) := by decide +kernel
theorem dX5_keep_26 : decode cX5_keep 26 = .ok (.aload_n 1, 1) := by decide +kernel
theorem dX5_keep_27 : decode cX5_keep 27 = .ok (.getfield 26, 3) := by decide +kernel
theorem dX5_keep_30 : decode cX5_keep 30 = .ok (.iastore, 1) := by decide +kernel
theorem dX5_keep_31 : decode cX5_keep 31 = .ok (.aload 4, 2) := by decide +kernel
theorem dX5_keep_33 : decode cX5_keep 33 = .ok (.iconst 2, 1) := by decide +kernel
theorem dX5_keep_34 : decode cX5_keep 34 = .ok (.aload_n 1, 1) := by decide +kernel
theorem dX5_keep_35 : decode cX5_keep 35 = .ok (.getfield 31, 3) := by decide +kernel
theorem dX5_keep_38 : decode cX5_keep 38 = .ok (.iastore, 1) := by decide +kernel
theorem dX5_keep_39 : decode cX5_keep 39 = .ok (.aload 4, 2) := by decide +kernel
theorem dX5_keep_41 : decode cX5_keep 41 = .ok (.iconst 3, 1) := by decide +kernel
theorem dX5_keep_42 : decode cX5_keep 42 = .ok (.iload_n 3, 1) := by decide +kernel
theorem dX5_keep_43 : decode cX5_keep 43 = .ok (.iastore, 1) := by decide +kernel
theorem dX5_keep_44 : decode cX5_keep 44 = .ok (.aload 4, 2) := by decide +kernel
theorem dX5_keep_46 : decode cX5_keep 46 = .ok (.iconst 4, 1) := by decide +kernel
theorem dX5_keep_47 : decode cX5_keep 47 = .ok (.aload_n 1, 1) := by decide +kernel
theorem dX5_keep_48 : decode cX5_keep 48 = .ok (.getfield 38, 3) := by decide +kernel
theorem dX5_keep_51 : decode cX5_keep 51 = .ok (.iastore, 1) := by decide +kernel
theorem dX5_keep_52 : decode cX5_keep 52 = .ok (.aload 4, 2) := by decide +kernel
theorem dX5_keep_54 : decode cX5_keep 54 = .ok (.iconst 5, 1) := by decide +kernel
theorem dX5_keep_55 : decode cX5_keep 55 = .ok (.aload_n 1, 1) := by decide +kernel
theorem dX5_keep_56 : decode cX5_keep 56 = .ok (.getfield 41, 3) := by decide +kernel
theorem dX5_keep_59 : decode cX5_keep 59 = .ok (.iastore, 1) := by decide +kernel
theorem dX5_keep_60 : decode cX5_keep 60 = .ok (.aload 4, 2) := by decide +kernel
theorem dX5_keep_62 : decode cX5_keep 62 = .ok (.bipush 6, 2) := by decide +kernel
theorem dX5_keep_64 : decode cX5_keep 64 = .ok (.aload_n 1, 1) := by decide +kernel
theorem dX5_keep_65 : decode cX5_keep 65 = .ok (.getfield 44, 3) := by decide +kernel
theorem dX5_keep_68 : decode cX5_keep 68 = .ok (.iastore, 1) := by decide +kernel
theorem dX5_keep_69 : decode cX5_keep 69 = .ok (.aload 4, 2) := by decide +kernel
theorem dX5_keep_71 : decode cX5_keep 71 = .ok (.bipush 7, 2) := by decide +kernel
theorem dX5_keep_73 : decode cX5_keep 73 = .ok (.aload_n 1, 1) := by decide +kernel
theorem dX5_keep_74 : decode cX5_keep 74 = .ok (.getfield 47, 3) := by decide +kernel
theorem dX5_keep_77 : decode cX5_keep 77 = .ok (.iastore, 1) := by decide +kernel
theorem dX5_keep_78 : decode cX5_keep 78 = .ok (.return_, 1) := by decide +kernel
theorem dX5_placeFor_0 : decode cX5_placeFor 0 = .ok (.iconst 0, 1) := by decide +kernel
theorem dX5_placeFor_1 : decode cX5_placeFor 1 = .ok (.istore 4, 2) := by decide +kernel
theorem dX5_placeFor_3 : decode cX5_placeFor 3 = .ok (.iload 4, 2) := by decide +kernel
theorem dX5_placeFor_5 : decode cX5_placeFor 5 = .ok (.aload_n 0, 1) := by decide +kernel
theorem dX5_placeFor_6 : decode cX5_placeFor 6 = .ok (.getfield 18, 3) := by decide +kernel
theorem dX5_placeFor_9 : decode cX5_placeFor 9 = .ok (.if_icmp .ge 25, 3) := by decide +kernel
theorem dX5_placeFor_12 : decode cX5_placeFor 12 = .ok (.aload_n 0, 1) := by decide +kernel
theorem dX5_placeFor_13 : decode cX5_placeFor 13 = .ok (.getfield 11, 3) := by decide +kernel
theorem dX5_placeFor_16 : decode cX5_placeFor 16 = .ok (.iload 4, 2) := by decide +kernel
theorem dX5_placeFor_18 : decode cX5_placeFor 18 = .ok (.aaload, 1) := by decide +kernel
theorem dX5_placeFor_19 : decode cX5_placeFor 19 = .ok (.iload_n 1, 1) := by decide +kernel
theorem dX5_placeFor_20 : decode cX5_placeFor 20 = .ok (.iload_n 2, 1) := by decide +kernel
theorem dX5_placeFor_21 : decode cX5_placeFor 21 = .ok (.iload_n 3, 1) := by decide +kernel
theorem dX5_placeFor_22 : decode cX5_placeFor 22 = .ok (.invokevirtual 50, 3) := by decide +kernel
theorem dX5_placeFor_25 : decode cX5_placeFor 25 = .ok (.ifCond .ne 9, 3) := by decide +kernel
theorem dX5_placeFor_28 : decode cX5_placeFor 28 = .ok (.iinc 4 1, 3) := by decide +kernel
theorem dX5_placeFor_31 : decode cX5_placeFor 31 = .ok (.goto (-28), 3) := by decide +kernel
theorem dX5_placeFor_34 : decode cX5_placeFor 34 = .ok (.iload 4, 2) := by decide +kernel
theorem dX5_placeFor_36 : decode cX5_placeFor 36 = .ok (.aload_n 0, 1) := by decide +kernel
theorem dX5_placeFor_37 : decode cX5_placeFor 37 = .ok (.getfield 18, 3) := by decide +kernel
theorem dX5_placeFor_40 : decode cX5_placeFor 40 = .ok (.if_icmp .ne 21, 3) := by decide +kernel
theorem dX5_placeFor_43 : decode cX5_placeFor 43 = .ok (.aload_n 0, 1) := by decide +kernel
theorem dX5_placeFor_44 : decode cX5_placeFor 44 = .ok (.getfield 18, 3) := by decide +kernel
theorem dX5_placeFor_47 : decode cX5_placeFor 47 = .ok (.iconst 4, 1) := by decide +kernel
theorem dX5_placeFor_48 : decode cX5_placeFor 48 = .ok (.if_icmp .ge 13, 3) := by decide +kernel
theorem dX5_placeFor_51 : decode cX5_placeFor 51 = .ok (.aload_n 0, 1) := by decide +kernel
theorem dX5_placeFor_52 : decode cX5_placeFor 52 = .ok (.dup, 1) := by decide +kernel
theorem dX5_placeFor_53 : decode cX5_placeFor 53 = .ok (.getfield 18, 3) := by decide +kernel
theorem dX5_placeFor_56 : decode cX5_placeFor 56 = .ok (.iconst 1, 1) := by decide +kernel
theorem dX5_placeFor_57 : decode cX5_placeFor 57 = .ok (.iadd, 1) := by decide +kernel
theorem dX5_placeFor_58 : decode cX5_placeFor 58 = .ok (.putfield 18, 3) := by decide +kernel
theorem dX5_placeFor_61 : decode cX5_placeFor 61 = .ok (.iload 4, 2) := by decide +kernel
theorem dX5_placeFor_63 : decode cX5_placeFor 63 = .ok (.iconst 3, 1) := by decide +kernel
theorem dX5_placeFor_64 : decode cX5_placeFor 64 = .ok (.invokestatic 54, 3) := by decide +kernel
theorem dX5_placeFor_67 : decode cX5_placeFor 67 = .ok (.istore 4, 2) := by decide +kernel
theorem dX5_placeFor_69 : decode cX5_placeFor 69 = .ok (.aload_n 0, 1) := by decide +kernel
theorem dX5_placeFor_70 : decode cX5_placeFor 70 = .ok (.getfield 11, 3) := by decide +kernel
theorem dX5_placeFor_73 : decode cX5_placeFor 73 = .ok (.iload 4, 2) := by decide +kernel
theorem dX5_placeFor_75 : decode cX5_placeFor 75 = .ok (.aaload, 1) := by decide +kernel
theorem dX5_placeFor_76 : decode cX5_placeFor 76 = .ok (.astore 5, 2) := by decide +kernel
theorem dX5_placeFor_78 : decode cX5_placeFor 78 = .ok (.iload 4, 2) := by decide +kernel
theorem dX5_placeFor_80 : decode cX5_placeFor 80 = .ok (.istore 6, 2) := by decide +kernel
theorem dX5_placeFor_82 : decode cX5_placeFor 82 = .ok (.iload 6, 2) := by decide +kernel
theorem dX5_placeFor_84 : decode cX5_placeFor 84 = .ok (.ifCond .le 25, 3) := by decide +kernel
theorem dX5_placeFor_87 : decode cX5_placeFor 87 = .ok (.aload_n 0, 1) := by decide +kernel
theorem dX5_placeFor_88 : decode cX5_placeFor 88 = .ok (.getfield 11, 3) := by decide +kernel
theorem dX5_placeFor_91 : decode cX5_placeFor 91 = .ok (.iload 6, 2) := by decide +kernel
theorem dX5_placeFor_93 : decode cX5_placeFor 93 = .ok (.aload_n 0, 1) := by decide +kernel
theorem dX5_placeFor_94 : decode cX5_placeFor 94 = .ok (.getfield 11, 3) := by decide +kernel
theorem dX5_placeFor_97 : decode cX5_placeFor 97 = .ok (.iload 6, 2) := by decide +kernel
theorem dX5_placeFor_99 : decode cX5_placeFor 99 = .ok (.iconst 1, 1) := by decide +kernel
theorem dX5_placeFor_100 : decode cX5_placeFor 100 = .ok (.isub, 1) := by decide +kernel
theorem dX5_placeFor_101 : decode cX5_placeFor 101 = .ok (.aaload, 1) := by decide +kernel
theorem dX5_placeFor_102 : decode cX5_placeFor 102 = .ok (.aastore, 1) := by decide +kernel
theorem dX5_placeFor_103 : decode cX5_placeFor 103 = .ok (.iinc 6 (-1), 3) := by decide +kernel
theorem dX5_placeFor_106 : decode cX5_placeFor 106 = .ok (.goto (-24), 3) := by decide +kernel
theorem dX5_placeFor_109 : decode cX5_placeFor 109 = .ok (.aload_n 0, 1) := by decide +kernel
theorem dX5_placeFor_110 : decode cX5_placeFor 110 = .ok (.getfield 11, 3) := by decide +kernel
theorem dX5_placeFor_113 : decode cX5_placeFor 113 = .ok (.iconst 0, 1) := by decide +kernel
theorem dX5_placeFor_114 : decode cX5_placeFor 114 = .ok (.aload 5, 2) := by decide +kernel
theorem dX5_placeFor_116 : decode cX5_placeFor 116 = .ok (.aastore, 1) := by decide +kernel
theorem dX5_placeFor_117 : decode cX5_placeFor 117 = .ok (.aload 5, 2) := by decide +kernel
theorem dX5_placeFor_119 : decode cX5_placeFor 119 = .ok (.areturn, 1) := by decide +kernel
theorem dX6_init_0 : decode cX6_init 0 = .ok (.aload_n 0, 1) := by decide +kernel
theorem dX6_init_1 : decode cX6_init 1 = .ok (.invokespecial 3, 3) := by decide +kernel
theorem dX6_init_4 : decode cX6_init 4 = .ok (.return_, 1) := by decide +kernel
theorem dX6_clear_0 : decode cX6_clear 0 = .ok (.aload_n 0, 1) := by decide +kernel
theorem dX6_clear_1 : decode cX6_clear 1 = .ok (.iconst 0, 1) := by decide +kernel
theorem dX6_clear_2 : decode cX6_clear 2 = .ok (.putfield 9, 3) := by decide +kernel
theorem dX6_clear_5 : decode cX6_clear 5 = .ok (.aload_n 0, 1) := by decide +kernel
theorem dX6_clear_6 : decode cX6_clear 6 = .ok (.iconst 0, 1) := by decide +kernel
theorem dX6_clear_7 : decode cX6_clear 7 = .ok (.putfield 15, 3) := by decide +kernel
theorem dX6_clear_10 : decode cX6_clear 10 = .ok (.return_, 1) := by decide +kernel
theorem dX6_putBefore_0 : decode cX6_putBefore 0 = .ok (.aload_n 0, 1) := by decide +kernel
theorem dX6_putBefore_1 : decode cX6_putBefore 1 = .ok (.getfield 15, 3) := by decide +kernel
theorem dX6_putBefore_4 : decode cX6_putBefore 4 = .ok (.bipush 7, 2) := by decide +kernel
theorem dX6_putBefore_6 : decode cX6_putBefore 6 = .ok (.if_icmp .ge 28, 3) := by decide +kernel
theorem dX6_putBefore_9 : decode cX6_putBefore 9 = .ok (.aload_n 0, 1) := by decide +kernel
theorem dX6_putBefore_10 : decode cX6_putBefore 10 = .ok (.aload_n 0, 1) := by decide +kernel
theorem dX6_putBefore_11 : decode cX6_putBefore 11 = .ok (.getfield 9, 3) := by decide +kernel
theorem dX6_putBefore_14 : decode cX6_putBefore 14 = .ok (.bipush 17, 2) := by decide +kernel
theorem dX6_putBefore_16 : decode cX6_putBefore 16 = .ok (.imul, 1) := by decide +kernel
theorem dX6_putBefore_17 : decode cX6_putBefore 17 = .ok (.iload_n 1, 1) := by decide +kernel
theorem dX6_putBefore_18 : decode cX6_putBefore 18 = .ok (.iadd, 1) := by decide +kernel
theorem dX6_putBefore_19 : decode cX6_putBefore 19 = .ok (.iconst 1, 1) := by decide +kernel
theorem dX6_putBefore_20 : decode cX6_putBefore 20 = .ok (.iadd, 1) := by decide +kernel
theorem dX6_putBefore_21 : decode cX6_putBefore 21 = .ok (.putfield 9, 3) := by decide +kernel
theorem dX6_putBefore_24 : decode cX6_putBefore 24 = .ok (.aload_n 0, 1) := by decide +kernel
theorem dX6_putBefore_25 : decode cX6_putBefore 25 = .ok (.dup, 1) := by decide +kernel
theorem dX6_putBefore_26 : decode cX6_putBefore 26 = .ok (.getfield 15, 3) := by decide +kernel
theorem dX6_putBefore_29 : decode cX6_putBefore 29 = .ok (.iconst 1, 1) := by decide +kernel
theorem dX6_putBefore_30 : decode cX6_putBefore 30 = .ok (.iadd, 1) := by decide +kernel
theorem dX6_putBefore_31 : decode cX6_putBefore 31 = .ok (.putfield 15, 3) := by decide +kernel
theorem dX6_putBefore_34 : decode cX6_putBefore 34 = .ok (.return_, 1) := by decide +kernel
theorem dX6_finished_0 : decode cX6_finished 0 = .ok (.aload_n 0, 1) := by decide +kernel
theorem dX6_finished_1 : decode cX6_finished 1 = .ok (.getfield 9, 3) := by decide +kernel
theorem dX6_finished_4 : decode cX6_finished 4 = .ok (.istore_n 1, 1) := by decide +kernel
theorem dX6_finished_5 : decode cX6_finished 5 = .ok (.aload_n 0, 1) := by decide +kernel
theorem dX6_finished_6 : decode cX6_finished 6 = .ok (.getfield 15, 3) := by decide +kernel
theorem dX6_finished_9 : decode cX6_finished 9 = .ok (.istore_n 2, 1) := by decide +kernel
theorem dX6_finished_10 : decode cX6_finished 10 = .ok (.iload_n 2, 1) := by decide +kernel
theorem dX6_finished_11 : decode cX6_finished 11 = .ok (.bipush 7, 2) := by decide +kernel
theorem dX6_finished_13 : decode cX6_finished 13 = .ok (.if_icmp .ge 14, 3) := by decide +kernel
theorem dX6_finished_16 : decode cX6_finished 16 = .ok (.iload_n 1, 1) := by decide +kernel
theorem dX6_finished_17 : decode cX6_finished 17 = .ok (.bipush 17, 2) := by decide +kernel
theorem dX6_finished_19 : decode cX6_finished 19 = .ok (.imul, 1) := by decide +kernel
theorem dX6_finished_20 : decode cX6_finished 20 = .ok (.istore_n 1, 1) := by decide +kernel
theorem dX6_finished_21 : decode cX6_finished 21 = .ok (.iinc 2 1, 3) := by decide +kernel
theorem dX6_finished_24 : decode cX6_finished 24 = .ok (.goto (-14), 3) := by decide +kernel
theorem dX6_finished_27 : decode cX6_finished 27 = .ok (.iload_n 1, 1) := by decide +kernel
theorem dX6_finished_28 : decode cX6_finished 28 = .ok (.ireturn, 1) := by decide +kernel
theorem dX7_init_0 : decode cX7_init 0 = .ok (.aload_n 0, 1) := by decide +kernel
theorem dX7_init_1 : decode cX7_init 1 = .ok (.invokespecial 3, 3) := by decide +kernel
theorem dX7_init_4 : decode cX7_init 4 = .ok (.aload_n 0, 1) := by decide +kernel
theorem dX7_init_5 : decode cX7_init 5 = .ok (.sipush 240, 3) := by decide +kernel
theorem dX7_init_8 : decode cX7_init 8 = .ok (.newarray .char, 2) := by decide +kernel
theorem dX7_init_10 : decode cX7_init 10 = .ok (.putfield 9, 3) := by decide +kernel
theorem dX7_init_13 : decode cX7_init 13 = .ok (.aload_n 0, 1) := by decide +kernel
theorem dX7_init_14 : decode cX7_init 14 = .ok (.new 15, 3) := by decide +kernel
theorem dX7_init_17 : decode cX7_init 17 = .ok (.dup, 1) := by decide +kernel
theorem dX7_init_18 : decode cX7_init 18 = .ok (.invokespecial 17, 3) := by decide +kernel
theorem dX7_init_21 : decode cX7_init 21 = .ok (.putfield 18, 3) := by decide +kernel
theorem dX7_init_24 : decode cX7_init 24 = .ok (.return_, 1) := by decide +kernel
theorem dX7_append_0 : decode cX7_append 0 = .ok (.aload_n 0, 1) := by decide +kernel
theorem dX7_append_1 : decode cX7_append 1 = .ok (.getfield 22, 3) := by decide +kernel
theorem dX7_append_4 : decode cX7_append 4 = .ok (.sipush 240, 3) := by decide +kernel
theorem dX7_append_7 : decode cX7_append 7 = .ok (.if_icmp .lt 5, 3) := by decide +kernel
theorem dX7_append_10 : decode cX7_append 10 = .ok (.iconst 0, 1) := by decide +kernel
theorem dX7_append_11 : decode cX7_append 11 = .ok (.ireturn, 1) := by decide +kernel
theorem dX7_append_12 : decode cX7_append 12 = .ok (.aload_n 0, 1) := by decide +kernel
theorem dX7_append_13 : decode cX7_append 13 = .ok (.getfield 9, 3) := by decide +kernel
theorem dX7_append_16 : decode cX7_append 16 = .ok (.aload_n 0, 1) := by decide +kernel
theorem dX7_append_17 : decode cX7_append 17 = .ok (.getfield 22, 3) := by decide +kernel
theorem dX7_append_20 : decode cX7_append 20 = .ok (.iload_n 1, 1) := by decide +kernel
theorem dX7_append_21 : decode cX7_append 21 = .ok (.castore, 1) := by decide +kernel
theorem dX7_append_22 : decode cX7_append 22 = .ok (.aload_n 0, 1) := by decide +kernel
theorem dX7_append_23 : decode cX7_append 23 = .ok (.dup, 1) := by decide +kernel
theorem dX7_append_24 : decode cX7_append 24 = .ok (.getfield 22, 3) := by decide +kernel
theorem dX7_append_27 : decode cX7_append 27 = .ok (.iconst 1, 1) := by decide +kernel
theorem dX7_append_28 : decode cX7_append 28 = .ok (.iadd, 1) := by decide +kernel
theorem dX7_append_29 : decode cX7_append 29 = .ok (.putfield 22, 3) := by decide +kernel
theorem dX7_append_32 : decode cX7_append 32 = .ok (.iconst 1, 1) := by decide +kernel
theorem dX7_append_33 : decode cX7_append 33 = .ok (.ireturn, 1) := by decide +kernel
theorem dX7_empty_0 : decode cX7_empty 0 = .ok (.aload_n 0, 1) := by decide +kernel
theorem dX7_empty_1 : decode cX7_empty 1 = .ok (.iconst 0, 1) := by decide +kernel
theorem dX7_empty_2 : decode cX7_empty 2 = .ok (.putfield 22, 3) := by decide +kernel
theorem dX7_empty_5 : decode cX7_empty 5 = .ok (.return_, 1) := by decide +kernel
theorem dX7_readAll_0 : decode cX7_readAll 0 = .ok (.aload_n 0, 1) := by decide +kernel
theorem dX7_readAll_1 : decode cX7_readAll 1 = .ok (.iconst 0, 1) := by decide +kernel
theorem dX7_readAll_2 : decode cX7_readAll 2 = .ok (.putfield 26, 3) := by decide +kernel
theorem dX7_readAll_5 : decode cX7_readAll 5 = .ok (.aload_n 1, 1) := by decide +kernel
theorem dX7_readAll_6 : decode cX7_readAll 6 = .ok (.invokevirtual 29, 3) := by decide +kernel
theorem dX7_readAll_9 : decode cX7_readAll 9 = .ok (.iconst 0, 1) := by decide +kernel
theorem dX7_readAll_10 : decode cX7_readAll 10 = .ok (.istore_n 2, 1) := by decide +kernel
theorem dX7_readAll_11 : decode cX7_readAll 11 = .ok (.iload_n 2, 1) := by decide +kernel
theorem dX7_readAll_12 : decode cX7_readAll 12 = .ok (.sipush 240, 3) := by decide +kernel
theorem dX7_readAll_15 : decode cX7_readAll 15 = .ok (.if_icmp .ge 35, 3) := by decide +kernel
theorem dX7_readAll_18 : decode cX7_readAll 18 = .ok (.aload_n 0, 1) := by decide +kernel
theorem dX7_readAll_19 : decode cX7_readAll 19 = .ok (.getfield 26, 3) := by decide +kernel
theorem dX7_readAll_22 : decode cX7_readAll 22 = .ok (.aload_n 0, 1) := by decide +kernel
theorem dX7_readAll_23 : decode cX7_readAll 23 = .ok (.getfield 22, 3) := by decide +kernel
theorem dX7_readAll_26 : decode cX7_readAll 26 = .ok (.if_icmp .ge 24, 3) := by decide +kernel
theorem dX7_readAll_29 : decode cX7_readAll 29 = .ok (.aload_n 0, 1) := by decide +kernel
theorem dX7_readAll_30 : decode cX7_readAll 30 = .ok (.getfield 26, 3) := by decide +kernel
theorem dX7_readAll_33 : decode cX7_readAll 33 = .ok (.istore_n 3, 1) := by decide +kernel
theorem dX7_readAll_34 : decode cX7_readAll 34 = .ok (.aload_n 0, 1) := by decide +kernel
theorem dX7_readAll_35 : decode cX7_readAll 35 = .ok (.aload_n 1, 1) := by decide +kernel
theorem dX7_readAll_36 : decode cX7_readAll 36 = .ok (.invokevirtual 34, 3) := by decide +kernel
theorem dX7_readAll_39 : decode cX7_readAll 39 = .ok (.ifCond .ne 5, 3) := by decide +kernel
theorem dX7_readAll_42 : decode cX7_readAll 42 = .ok (.iload_n 3, 1) := by decide +kernel
theorem dX7_readAll_43 : decode cX7_readAll 43 = .ok (.ireturn, 1) := by decide +kernel
theorem dX7_readAll_44 : decode cX7_readAll 44 = .ok (.iinc 2 1, 3) := by decide +kernel
theorem dX7_readAll_47 : decode cX7_readAll 47 = .ok (.goto (-36), 3) := by decide +kernel
theorem dX7_readAll_50 : decode cX7_readAll 50 = .ok (.bipush (-4), 2) := by decide +kernel
theorem dX7_readAll_52 : decode cX7_readAll 52 = .ok (.ireturn, 1) := by decide +kernel
theorem dX7_readWholeAsName_0 : decode cX7_readWholeAsName 0 = .ok (.aload_n 0, 1) := by decide +kernel
theorem dX7_readWholeAsName_1 : decode cX7_readWholeAsName 1 = .ok (.iconst 0, 1) := by decide +kernel
theorem dX7_readWholeAsName_2 : decode cX7_readWholeAsName 2 = .ok (.putfield 26, 3) := by decide +kernel
theorem dX7_readWholeAsName_5 : decode cX7_readWholeAsName 5 = .ok (.aload_n 0, 1) := by decide +kernel
theorem dX7_readWholeAsName_6 : decode cX7_readWholeAsName 6 = .ok (.invokevirtual 38, 3) := by decide +kernel
theorem dX7_readWholeAsName_9 : decode cX7_readWholeAsName 9 = .ok (.istore_n 1, 1) := by decide +kernel
theorem dX7_readWholeAsName_10 : decode cX7_readWholeAsName 10 = .ok (.aload_n 0, 1) := by decide +kernel
theorem dX7_readWholeAsName_11 : decode cX7_readWholeAsName 11 = .ok (.getfield 26, 3) := by decide +kernel
theorem dX7_readWholeAsName_14 : decode cX7_readWholeAsName 14 = .ok (.aload_n 0, 1) := by decide +kernel
theorem dX7_readWholeAsName_15 : decode cX7_readWholeAsName 15 = .ok (.getfield 22, 3) := by decide +kernel
theorem dX7_readWholeAsName_18 : decode cX7_readWholeAsName 18 = .ok (.if_icmp .ne 7, 3) := by decide +kernel
theorem dX7_readWholeAsName_21 : decode cX7_readWholeAsName 21 = .ok (.iload_n 1, 1) := by decide +kernel
theorem dX7_readWholeAsName_22 : decode cX7_readWholeAsName 22 = .ok (.goto 4, 3) := by decide +kernel
theorem dX7_readWholeAsName_25 : decode cX7_readWholeAsName 25 = .ok (.iconst 0, 1) := by decide +kernel
theorem dX7_readWholeAsName_26 : decode cX7_readWholeAsName 26 = .ok (.ireturn, 1) := by decide +kernel
theorem dX7_peek_0 : decode cX7_peek 0 = .ok (.aload_n 0, 1) := by decide +kernel
theorem dX7_peek_1 : decode cX7_peek 1 = .ok (.getfield 26, 3) := by decide +kernel
theorem dX7_peek_4 : decode cX7_peek 4 = .ok (.aload_n 0, 1) := by decide +kernel
theorem dX7_peek_5 : decode cX7_peek 5 = .ok (.getfield 22, 3) := by decide +kernel
theorem dX7_peek_8 : decode cX7_peek 8 = .ok (.if_icmp .ge 15, 3) := by decide +kernel
theorem dX7_peek_11 : decode cX7_peek 11 = .ok (.aload_n 0, 1) := by decide +kernel
theorem dX7_peek_12 : decode cX7_peek 12 = .ok (.getfield 9, 3) := by decide +kernel
theorem dX7_peek_15 : decode cX7_peek 15 = .ok (.aload_n 0, 1) := by decide +kernel
theorem dX7_peek_16 : decode cX7_peek 16 = .ok (.getfield 26, 3) := by decide +kernel
theorem dX7_peek_19 : decode cX7_peek 19 = .ok (.caload, 1) := by decide +kernel
theorem dX7_peek_20 : decode cX7_peek 20 = .ok (.goto 4, 3) := by decide +kernel
theorem dX7_peek_23 : decode cX7_peek 23 = .ok (.iconst 0, 1) := by decide +kernel
theorem dX7_peek_24 : decode cX7_peek 24 = .ok (.ireturn, 1) := by decide +kernel
theorem dX7_next_0 : decode cX7_next 0 = .ok (.aload_n 0, 1) := by decide +kernel
theorem dX7_next_1 : decode cX7_next 1 = .ok (.getfield 26, 3) := by decide +kernel
theorem dX7_next_4 : decode cX7_next 4 = .ok (.aload_n 0, 1) := by decide +kernel
theorem dX7_next_5 : decode cX7_next 5 = .ok (.getfield 22, 3) := by decide +kernel
theorem dX7_next_8 : decode cX7_next 8 = .ok (.if_icmp .lt 5, 3) := by decide +kernel
theorem dX7_next_11 : decode cX7_next 11 = .ok (.iconst 0, 1) := by decide +kernel
theorem dX7_next_12 : decode cX7_next 12 = .ok (.ireturn, 1) := by decide +kernel
theorem dX7_next_13 : decode cX7_next 13 = .ok (.aload_n 0, 1) := by decide +kernel
theorem dX7_next_14 : decode cX7_next 14 = .ok (.dup, 1) := by decide +kernel
theorem dX7_next_15 : decode cX7_next 15 = .ok (.getfield 26, 3) := by decide +kernel
theorem dX7_next_18 : decode cX7_next 18 = .ok (.iconst 1, 1) := by decide +kernel
theorem dX7_next_19 : decode cX7_next 19 = .ok (.iadd, 1) := by decide +kernel
theorem dX7_next_20 : decode cX7_next 20 = .ok (.putfield 26, 3) := by decide +kernel
theorem dX7_next_23 : decode cX7_next 23 = .ok (.aload_n 0, 1) := by decide +kernel
theorem dX7_next_24 : decode cX7_next 24 = .ok (.getfield 9, 3) := by decide +kernel
theorem dX7_next_27 : decode cX7_next 27 = .ok (.aload_n 0, 1) := by decide +kernel
theorem dX7_next_28 : decode cX7_next 28 = .ok (.getfield 26, 3) := by decide +kernel
theorem dX7_next_31 : decode cX7_next 31 = .ok (.iconst 1, 1) := by decide +kernel
theorem dX7_next_32 : decode cX7_next 32 = .ok (.isub, 1) := by decide +kernel
theorem dX7_next_33 : decode cX7_next 33 = .ok (.caload, 1) := by decide +kernel
theorem dX7_next_34 : decode cX7_next 34 = .ok (.ireturn, 1) := by decide +kernel
theorem dX7_take_0 : decode cX7_take 0 = .ok (.aload_n 0, 1) := by decide +kernel
theorem dX7_take_1 : decode cX7_take 1 = .ok (.getfield 26, 3) := by decide +kernel
theorem dX7_take_4 : decode cX7_take 4 = .ok (.aload_n 0, 1) := by decide +kernel
theorem dX7_take_5 : decode cX7_take 5 = .ok (.getfield 22, 3) := by decide +kernel
theorem dX7_take_8 : decode cX7_take 8 = .ok (.if_icmp .ge 16, 3) := by decide +kernel
theorem dX7_take_11 : decode cX7_take 11 = .ok (.aload_n 0, 1) := by decide +kernel
theorem dX7_take_12 : decode cX7_take 12 = .ok (.getfield 9, 3) := by decide +kernel
theorem dX7_take_15 : decode cX7_take 15 = .ok (.aload_n 0, 1) := by decide +kernel
theorem dX7_take_16 : decode cX7_take 16 = .ok (.getfield 26, 3) := by decide +kernel
theorem dX7_take_19 : decode cX7_take 19 = .ok (.caload, 1) := by decide +kernel
theorem dX7_take_20 : decode cX7_take 20 = .ok (.iload_n 1, 1) := by decide +kernel
theorem dX7_take_21 : decode cX7_take 21 = .ok (.if_icmp .eq 5, 3) := by decide +kernel
theorem dX7_take_24 : decode cX7_take 24 = .ok (.iconst 0, 1) := by decide +kernel
theorem dX7_take_25 : decode cX7_take 25 = .ok (.ireturn, 1) := by decide +kernel
theorem dX7_take_26 : decode cX7_take 26 = .ok (.aload_n 0, 1) := by decide +kernel
theorem dX7_take_27 : decode cX7_take 27 = .ok (.dup, 1) := by decide +kernel
theorem dX7_take_28 : decode cX7_take 28 = .ok (.getfield 26, 3) := by decide +kernel
theorem dX7_take_31 : decode cX7_take 31 = .ok (.iconst 1, 1) := by decide +kernel
theorem dX7_take_32 : decode cX7_take 32 = .ok (.iadd, 1) := by decide +kernel
theorem dX7_take_33 : decode cX7_take 33 = .ok (.putfield 26, 3) := by decide +kernel
theorem dX7_take_36 : decode cX7_take 36 = .ok (.iconst 1, 1) := by decide +kernel
theorem dX7_take_37 : decode cX7_take 37 = .ok (.ireturn, 1) := by decide +kernel
theorem dX7_readItem_0 : decode cX7_readItem 0 = .ok (.aload_n 0, 1) := by decide +kernel
theorem dX7_readItem_1 : decode cX7_readItem 1 = .ok (.invokevirtual 42, 3) := by decide +kernel
theorem dX7_readItem_4 : decode cX7_readItem 4 = .ok (.istore_n 2, 1) := by decide +kernel
theorem dX7_readItem_5 : decode cX7_readItem 5 = .ok (.aload_n 0, 1) := by decide +kernel
theorem dX7_readItem_6 : decode cX7_readItem 6 = .ok (.invokevirtual 38, 3) := by decide +kernel
theorem dX7_readItem_9 : decode cX7_readItem 9 = .ok (.istore_n 3, 1) := by decide +kernel
theorem dX7_readItem_10 : decode cX7_readItem 10 = .ok (.iload_n 3, 1) := by decide +kernel
theorem dX7_readItem_11 : decode cX7_readItem 11 = .ok (.ifCond .eq 12, 3) := by decide +kernel
theorem dX7_readItem_14 : decode cX7_readItem 14 = .ok (.aload_n 0, 1) := by decide +kernel
theorem dX7_readItem_15 : decode cX7_readItem 15 = .ok (.bipush 58, 2) := by decide +kernel
theorem dX7_readItem_17 : decode cX7_readItem 17 = .ok (.invokevirtual 46, 3) := by decide +kernel
theorem dX7_readItem_20 : decode cX7_readItem 20 = .ok (.ifCond .ne 5, 3) := by decide +kernel
theorem dX7_readItem_23 : decode cX7_readItem 23 = .ok (.iconst 0, 1) := by decide +kernel
theorem dX7_readItem_24 : decode cX7_readItem 24 = .ok (.ireturn, 1) := by decide +kernel
theorem dX7_readItem_25 : decode cX7_readItem 25 = .ok (.aload_n 1, 1) := by decide +kernel
theorem dX7_readItem_26 : decode cX7_readItem 26 = .ok (.iload_n 3, 1) := by decide +kernel
theorem dX7_readItem_27 : decode cX7_readItem 27 = .ok (.invokevirtual 50, 3) := by decide +kernel
theorem dX7_readItem_30 : decode cX7_readItem 30 = .ok (.astore 4, 2) := by decide +kernel
theorem dX7_readItem_32 : decode cX7_readItem 32 = .ok (.aload 4, 2) := by decide +kernel
theorem dX7_readItem_34 : decode cX7_readItem 34 = .ok (.ifnonnull 5, 3) := by decide +kernel
theorem dX7_readItem_37 : decode cX7_readItem 37 = .ok (.iconst 0, 1) := by decide +kernel
theorem dX7_readItem_38 : decode cX7_readItem 38 = .ok (.ireturn, 1) := by decide +kernel
theorem dX7_readItem_39 : decode cX7_readItem 39 = .ok (.iload_n 2, 1) := by decide +kernel
theorem dX7_readItem_40 : decode cX7_readItem 40 = .ok (.lookupswitch 108 #[(97, 60), (110, 36), (120, 84)], 36) := by decide +kernel
theorem dX7_readItem_76 : decode cX7_readItem 76 = .ok (.aload_n 0, 1) := by decide +kernel
theorem dX7_readItem_77 : decode cX7_readItem 77 = .ok (.aload 4, 2) := by decide +kernel
theorem dX7_readItem_79 : decode cX7_readItem 79 = .ok (.invokevirtual 54, 3) := by decide +kernel
theorem dX7_readItem_82 : decode cX7_readItem 82 = .ok (.ifCond .eq 16, 3) := by decide +kernel
theorem dX7_readItem_85 : decode cX7_readItem 85 = .ok (.aload_n 0, 1) := by decide +kernel
theorem dX7_readItem_86 : decode cX7_readItem 86 = .ok (.bipush 59, 2) := by decide +kernel
theorem dX7_readItem_88 : decode cX7_readItem 88 = .ok (.invokevirtual 46, 3) := by decide +kernel
theorem dX7_readItem_91 : decode cX7_readItem 91 = .ok (.ifCond .eq 7, 3) := by decide +kernel
theorem dX7_readItem_94 : decode cX7_readItem 94 = .ok (.iconst 1, 1) := by decide +kernel
theorem dX7_readItem_95 : decode cX7_readItem 95 = .ok (.goto 4, 3) := by decide +kernel
theorem dX7_readItem_98 : decode cX7_readItem 98 = .ok (.iconst 0, 1) := by decide +kernel
theorem dX7_readItem_99 : decode cX7_readItem 99 = .ok (.ireturn, 1) := by decide +kernel
theorem dX7_readItem_100 : decode cX7_readItem 100 = .ok (.aload_n 0, 1) := by decide +kernel
theorem dX7_readItem_101 : decode cX7_readItem 101 = .ok (.aload 4, 2) := by decide +kernel
theorem dX7_readItem_103 : decode cX7_readItem 103 = .ok (.invokevirtual 58, 3) := by decide +kernel
theorem dX7_readItem_106 : decode cX7_readItem 106 = .ok (.ifCond .eq 16, 3) := by decide +kernel
theorem dX7_readItem_109 : decode cX7_readItem 109 = .ok (.aload_n 0, 1) := by decide +kernel
theorem dX7_readItem_110 : decode cX7_readItem 110 = .ok (.bipush 59, 2) := by decide +kernel
theorem dX7_readItem_112 : decode cX7_readItem 112 = .ok (.invokevirtual 46, 3) := by decide +kernel
theorem dX7_readItem_115 : decode cX7_readItem 115 = .ok (.ifCond .eq 7, 3) := by decide +kernel
theorem dX7_readItem_118 : decode cX7_readItem 118 = .ok (.iconst 1, 1) := by decide +kernel
theorem dX7_readItem_119 : decode cX7_readItem 119 = .ok (.goto 4, 3) := by decide +kernel
theorem dX7_readItem_122 : decode cX7_readItem 122 = .ok (.iconst 0, 1) := by decide +kernel
theorem dX7_readItem_123 : decode cX7_readItem 123 = .ok (.ireturn, 1) := by decide +kernel
theorem dX7_readItem_124 : decode cX7_readItem 124 = .ok (.aload_n 0, 1) := by decide +kernel
theorem dX7_readItem_125 : decode cX7_readItem 125 = .ok (.aload 4, 2) := by decide +kernel
theorem dX7_readItem_127 : decode cX7_readItem 127 = .ok (.invokevirtual 61, 3) := by decide +kernel
theorem dX7_readItem_130 : decode cX7_readItem 130 = .ok (.ifCond .eq 16, 3) := by decide +kernel
theorem dX7_readItem_133 : decode cX7_readItem 133 = .ok (.aload_n 0, 1) := by decide +kernel
theorem dX7_readItem_134 : decode cX7_readItem 134 = .ok (.bipush 59, 2) := by decide +kernel
theorem dX7_readItem_136 : decode cX7_readItem 136 = .ok (.invokevirtual 46, 3) := by decide +kernel
theorem dX7_readItem_139 : decode cX7_readItem 139 = .ok (.ifCond .eq 7, 3) := by decide +kernel
theorem dX7_readItem_142 : decode cX7_readItem 142 = .ok (.iconst 1, 1) := by decide +kernel
theorem dX7_readItem_143 : decode cX7_readItem 143 = .ok (.goto 4, 3) := by decide +kernel
theorem dX7_readItem_146 : decode cX7_readItem 146 = .ok (.iconst 0, 1) := by decide +kernel
theorem dX7_readItem_147 : decode cX7_readItem 147 = .ok (.ireturn, 1) := by decide +kernel
theorem dX7_readItem_148 : decode cX7_readItem 148 = .ok (.iconst 0, 1) := by decide +kernel
theorem dX7_readItem_149 : decode cX7_readItem 149 = .ok (.ireturn, 1) := by decide +kernel
theorem dX7_readPolicy_0 : decode cX7_readPolicy 0 = .ok (.aload_n 1, 1) := by decide +kernel
theorem dX7_readPolicy_1 : decode cX7_readPolicy 1 = .ok (.invokevirtual 64, 3) := by decide +kernel
theorem dX7_readPolicy_4 : decode cX7_readPolicy 4 = .ok (.iconst 0, 1) := by decide +kernel
theorem dX7_readPolicy_5 : decode cX7_readPolicy 5 = .ok (.istore_n 2, 1) := by decide +kernel
theorem dX7_readPolicy_6 : decode cX7_readPolicy 6 = .ok (.iload_n 2, 1) := by decide +kernel
theorem dX7_readPolicy_7 : decode cX7_readPolicy 7 = .ok (.bipush 8, 2) := by decide +kernel
theorem dX7_readPolicy_9 : decode cX7_readPolicy 9 = .ok (.if_icmp .gt 73, 3) := by decide +kernel
theorem dX7_readPolicy_12 : decode cX7_readPolicy 12 = .ok (.iload_n 2, 1) := by decide +kernel
theorem dX7_readPolicy_13 : decode cX7_readPolicy 13 = .ok (.ifCond .le 33, 3) := by decide +kernel
theorem dX7_readPolicy_16 : decode cX7_readPolicy 16 = .ok (.aload_n 0, 1) := by decide +kernel
theorem dX7_readPolicy_17 : decode cX7_readPolicy 17 = .ok (.bipush 114, 2) := by decide +kernel
theorem dX7_readPolicy_19 : decode cX7_readPolicy 19 = .ok (.invokevirtual 46, 3) := by decide +kernel
theorem dX7_readPolicy_22 : decode cX7_readPolicy 22 = .ok (.ifCond .eq 24, 3) := by decide +kernel
theorem dX7_readPolicy_25 : decode cX7_readPolicy 25 = .ok (.aload_n 1, 1) := by decide +kernel
theorem dX7_readPolicy_26 : decode cX7_readPolicy 26 = .ok (.aload_n 0, 1) := by decide +kernel
theorem dX7_readPolicy_27 : decode cX7_readPolicy 27 = .ok (.invokevirtual 38, 3) := by decide +kernel
theorem dX7_readPolicy_30 : decode cX7_readPolicy 30 = .ok (.putfield 69, 3) := by decide +kernel
theorem dX7_readPolicy_33 : decode cX7_readPolicy 33 = .ok (.aload_n 1, 1) := by decide +kernel
theorem dX7_readPolicy_34 : decode cX7_readPolicy 34 = .ok (.getfield 69, 3) := by decide +kernel
theorem dX7_readPolicy_37 : decode cX7_readPolicy 37 = .ok (.ifCond .eq 7, 3) := by decide +kernel
theorem dX7_readPolicy_40 : decode cX7_readPolicy 40 = .ok (.iconst 1, 1) := by decide +kernel
theorem dX7_readPolicy_41 : decode cX7_readPolicy 41 = .ok (.goto 4, 3) := by decide +kernel
theorem dX7_readPolicy_44 : decode cX7_readPolicy 44 = .ok (.iconst 0, 1) := by decide +kernel
theorem dX7_readPolicy_45 : decode cX7_readPolicy 45 = .ok (.ireturn, 1) := by decide +kernel
theorem dX7_readPolicy_46 : decode cX7_readPolicy 46 = .ok (.aload_n 1, 1) := by decide +kernel
theorem dX7_readPolicy_47 : decode cX7_readPolicy 47 = .ok (.invokevirtual 72, 3) := by decide +kernel
theorem dX7_readPolicy_50 : decode cX7_readPolicy 50 = .ok (.astore_n 3, 1) := by decide +kernel
theorem dX7_readPolicy_51 : decode cX7_readPolicy 51 = .ok (.aload_n 3, 1) := by decide +kernel
theorem dX7_readPolicy_52 : decode cX7_readPolicy 52 = .ok (.ifnull 11, 3) := by decide +kernel
theorem dX7_readPolicy_55 : decode cX7_readPolicy 55 = .ok (.aload_n 0, 1) := by decide +kernel
theorem dX7_readPolicy_56 : decode cX7_readPolicy 56 = .ok (.aload_n 3, 1) := by decide +kernel
theorem dX7_readPolicy_57 : decode cX7_readPolicy 57 = .ok (.invokevirtual 76, 3) := by decide +kernel
theorem dX7_readPolicy_60 : decode cX7_readPolicy 60 = .ok (.ifCond .ne 5, 3) := by decide +kernel
theorem dX7_readPolicy_63 : decode cX7_readPolicy 63 = .ok (.iconst 0, 1) := by decide +kernel
theorem dX7_readPolicy_64 : decode cX7_readPolicy 64 = .ok (.ireturn, 1) := by decide +kernel
theorem dX7_readPolicy_65 : decode cX7_readPolicy 65 = .ok (.aload_n 0, 1) := by decide +kernel
theorem dX7_readPolicy_66 : decode cX7_readPolicy 66 = .ok (.bipush 44, 2) := by decide +kernel
theorem dX7_readPolicy_68 : decode cX7_readPolicy 68 = .ok (.invokevirtual 46, 3) := by decide +kernel
theorem dX7_readPolicy_71 : decode cX7_readPolicy 71 = .ok (.ifCond .ne 5, 3) := by decide +kernel
theorem dX7_readPolicy_74 : decode cX7_readPolicy 74 = .ok (.iconst 1, 1) := by decide +kernel
theorem dX7_readPolicy_75 : decode cX7_readPolicy 75 = .ok (.ireturn, 1) := by decide +kernel
theorem dX7_readPolicy_76 : decode cX7_readPolicy 76 = .ok (.iinc 2 1, 3) := by decide +kernel
theorem dX7_readPolicy_79 : decode cX7_readPolicy 79 = .ok (.goto (-73), 3) := by decide +kernel
theorem dX7_readPolicy_82 : decode cX7_readPolicy 82 = .ok (.iconst 0, 1) := by decide +kernel
theorem dX7_readPolicy_83 : decode cX7_readPolicy 83 = .ok (.ireturn, 1) := by decide +kernel
theorem dX7_readHosts_0 : decode cX7_readHosts 0 = .ok (.aload_n 1, 1) := by decide +kernel
theorem dX7_readHosts_1 : decode cX7_readHosts 1 = .ok (.iconst 0, 1) := by decide +kernel
theorem dX7_readHosts_2 : decode cX7_readHosts 2 = .ok (.putfield 80, 3) := by decide +kernel
theorem dX7_readHosts_5 : decode cX7_readHosts 5 = .ok (.iconst 0, 1) := by decide +kernel
theorem dX7_readHosts_6 : decode cX7_readHosts 6 = .ok (.istore_n 2, 1) := by decide +kernel
theorem dX7_readHosts_7 : decode cX7_readHosts 7 = .ok (.iload_n 2, 1) := by decide +kernel
theorem dX7_readHosts_8 : decode cX7_readHosts 8 = .ok (.iconst 4, 1) := by decide +kernel
theorem dX7_readHosts_9 : decode cX7_readHosts 9 = .ok (.if_icmp .ge 43, 3) := by decide +kernel
theorem dX7_readHosts_12 : decode cX7_readHosts 12 = .ok (.aload_n 0, 1) := by decide +kernel
theorem dX7_readHosts_13 : decode cX7_readHosts 13 = .ok (.sipush 255, 3) := by decide +kernel
theorem dX7_readHosts_16 : decode cX7_readHosts 16 = .ok (.invokevirtual 83, 3) := by decide +kernel
theorem dX7_readHosts_19 : decode cX7_readHosts 19 = .ok (.istore_n 3, 1) := by decide +kernel
theorem dX7_readHosts_20 : decode cX7_readHosts 20 = .ok (.iload_n 3, 1) := by decide +kernel
theorem dX7_readHosts_21 : decode cX7_readHosts 21 = .ok (.ifCond .lt 12, 3) := by decide +kernel
theorem dX7_readHosts_24 : decode cX7_readHosts 24 = .ok (.aload_n 1, 1) := by decide +kernel
theorem dX7_readHosts_25 : decode cX7_readHosts 25 = .ok (.iload_n 2, 1) := by decide +kernel
theorem dX7_readHosts_26 : decode cX7_readHosts 26 = .ok (.iload_n 3, 1) := by decide +kernel
theorem dX7_readHosts_27 : decode cX7_readHosts 27 = .ok (.invokevirtual 87, 3) := by decide +kernel
theorem dX7_readHosts_30 : decode cX7_readHosts 30 = .ok (.ifCond .ne 5, 3) := by decide +kernel
theorem dX7_readHosts_33 : decode cX7_readHosts 33 = .ok (.iconst 0, 1) := by decide +kernel
theorem dX7_readHosts_34 : decode cX7_readHosts 34 = .ok (.ireturn, 1) := by decide +kernel
theorem dX7_readHosts_35 : decode cX7_readHosts 35 = .ok (.aload_n 0, 1) := by decide +kernel
theorem dX7_readHosts_36 : decode cX7_readHosts 36 = .ok (.bipush 44, 2) := by decide +kernel
theorem dX7_readHosts_38 : decode cX7_readHosts 38 = .ok (.invokevirtual 46, 3) := by decide +kernel
theorem dX7_readHosts_41 : decode cX7_readHosts 41 = .ok (.ifCond .ne 5, 3) := by decide +kernel
theorem dX7_readHosts_44 : decode cX7_readHosts 44 = .ok (.iconst 1, 1) := by decide +kernel
theorem dX7_readHosts_45 : decode cX7_readHosts 45 = .ok (.ireturn, 1) := by decide +kernel
theorem dX7_readHosts_46 : decode cX7_readHosts 46 = .ok (.iinc 2 1, 3) := by decide +kernel
theorem dX7_readHosts_49 : decode cX7_readHosts 49 = .ok (.goto (-42), 3) := by decide +kernel
theorem dX7_readHosts_52 : decode cX7_readHosts 52 = .ok (.iconst 0, 1) := by decide +kernel
theorem dX7_readHosts_53 : decode cX7_readHosts 53 = .ok (.ireturn, 1) := by decide +kernel
theorem dX7_readExchangers_0 : decode cX7_readExchangers 0 = .ok (.aload_n 1, 1) := by decide +kernel
theorem dX7_readExchangers_1 : decode cX7_readExchangers 1 = .ok (.iconst 0, 1) := by decide +kernel
theorem dX7_readExchangers_2 : decode cX7_readExchangers 2 = .ok (.putfield 91, 3) := by decide +kernel
theorem dX7_readExchangers_5 : decode cX7_readExchangers 5 = .ok (.iconst 0, 1) := by decide +kernel
theorem dX7_readExchangers_6 : decode cX7_readExchangers 6 = .ok (.istore_n 2, 1) := by decide +kernel
theorem dX7_readExchangers_7 : decode cX7_readExchangers 7 = .ok (.iload_n 2, 1) := by decide +kernel
theorem dX7_readExchangers_8 : decode cX7_readExchangers 8 = .ok (.iconst 3, 1) := by decide +kernel
theorem dX7_readExchangers_9 : decode cX7_readExchangers 9 = .ok (.if_icmp .ge 39, 3) := by decide +kernel
theorem dX7_readExchangers_12 : decode cX7_readExchangers 12 = .ok (.aload_n 0, 1) := by decide +kernel
theorem dX7_readExchangers_13 : decode cX7_readExchangers 13 = .ok (.invokevirtual 38, 3) := by decide +kernel
theorem dX7_readExchangers_16 : decode cX7_readExchangers 16 = .ok (.istore_n 3, 1) := by decide +kernel
theorem dX7_readExchangers_17 : decode cX7_readExchangers 17 = .ok (.iload_n 3, 1) := by decide +kernel
theorem dX7_readExchangers_18 : decode cX7_readExchangers 18 = .ok (.ifCond .eq 11, 3) := by decide +kernel
theorem dX7_readExchangers_21 : decode cX7_readExchangers 21 = .ok (.aload_n 1, 1) := by decide +kernel
theorem dX7_readExchangers_22 : decode cX7_readExchangers 22 = .ok (.iload_n 3, 1) := by decide +kernel
theorem dX7_readExchangers_23 : decode cX7_readExchangers 23 = .ok (.invokevirtual 94, 3) := by decide +kernel
theorem dX7_readExchangers_26 : decode cX7_readExchangers 26 = .ok (.ifCond .ne 5, 3) := by decide +kernel
theorem dX7_readExchangers_29 : decode cX7_readExchangers 29 = .ok (.iconst 0, 1) := by decide +kernel
theorem dX7_readExchangers_30 : decode cX7_readExchangers 30 = .ok (.ireturn, 1) := by decide +kernel
theorem dX7_readExchangers_31 : decode cX7_readExchangers 31 = .ok (.aload_n 0, 1) := by decide +kernel
theorem dX7_readExchangers_32 : decode cX7_readExchangers 32 = .ok (.bipush 44, 2) := by decide +kernel
theorem dX7_readExchangers_34 : decode cX7_readExchangers 34 = .ok (.invokevirtual 46, 3) := by decide +kernel
theorem dX7_readExchangers_37 : decode cX7_readExchangers 37 = .ok (.ifCond .ne 5, 3) := by decide +kernel
theorem dX7_readExchangers_40 : decode cX7_readExchangers 40 = .ok (.iconst 1, 1) := by decide +kernel
theorem dX7_readExchangers_41 : decode cX7_readExchangers 41 = .ok (.ireturn, 1) := by decide +kernel
theorem dX7_readExchangers_42 : decode cX7_readExchangers 42 = .ok (.iinc 2 1, 3) := by decide +kernel
theorem dX7_readExchangers_45 : decode cX7_readExchangers 45 = .ok (.goto (-38), 3) := by decide +kernel
theorem dX7_readExchangers_48 : decode cX7_readExchangers 48 = .ok (.iconst 0, 1) := by decide +kernel
theorem dX7_readExchangers_49 : decode cX7_readExchangers 49 = .ok (.ireturn, 1) := by decide +kernel
theorem dX7_readRule_0 : decode cX7_readRule 0 = .ok (.ldc 98, 2) := by decide +kernel
theorem dX7_readRule_2 : decode cX7_readRule 2 = .ok (.aload_n 0, 1) := by decide +kernel
theorem dX7_readRule_3 : decode cX7_readRule 3 = .ok (.invokevirtual 42, 3) := by decide +kernel
theorem dX7_readRule_6 : decode cX7_readRule 6 = .ok (.invokevirtual 100, 3) := by decide +kernel
theorem dX7_readRule_9 : decode cX7_readRule 9 = .ok (.istore_n 2, 1) := by decide +kernel
theorem dX7_readRule_10 : decode cX7_readRule 10 = .ok (.ldc 105, 2) := by decide +kernel
theorem dX7_readRule_12 : decode cX7_readRule 12 = .ok (.aload_n 0, 1) := by decide +kernel
theorem dX7_readRule_13 : decode cX7_readRule 13 = .ok (.invokevirtual 42, 3) := by decide +kernel
theorem dX7_readRule_16 : decode cX7_readRule 16 = .ok (.invokevirtual 100, 3) := by decide +kernel
theorem dX7_readRule_19 : decode cX7_readRule 19 = .ok (.istore_n 3, 1) := by decide +kernel
theorem dX7_readRule_20 : decode cX7_readRule 20 = .ok (.iload_n 2, 1) := by decide +kernel
theorem dX7_readRule_21 : decode cX7_readRule 21 = .ok (.ifCond .ge 5, 3) := by decide +kernel
theorem dX7_readRule_24 : decode cX7_readRule 24 = .ok (.iconst 0, 1) := by decide +kernel
theorem dX7_readRule_25 : decode cX7_readRule 25 = .ok (.ireturn, 1) := by decide +kernel
theorem dX7_readRule_26 : decode cX7_readRule 26 = .ok (.aload_n 1, 1) := by decide +kernel
theorem dX7_readRule_27 : decode cX7_readRule 27 = .ok (.iload_n 2, 1) := by decide +kernel
theorem dX7_readRule_28 : decode cX7_readRule 28 = .ok (.iload_n 3, 1) := by decide +kernel
theorem dX7_readRule_29 : decode cX7_readRule 29 = .ok (.invokevirtual 107, 3) := by decide +kernel
theorem dX7_readRule_32 : decode cX7_readRule 32 = .ok (.iload_n 3, 1) := by decide +kernel
theorem dX7_readRule_33 : decode cX7_readRule 33 = .ok (.tableswitch 74 0 5 #[39, 41, 47, 47, 47, 68], 39) := by decide +kernel
theorem dX7_readRule_72 : decode cX7_readRule 72 = .ok (.iconst 1, 1) := by decide +kernel
theorem dX7_readRule_73 : decode cX7_readRule 73 = .ok (.ireturn, 1) := by decide +kernel
theorem dX7_readRule_74 : decode cX7_readRule 74 = .ok (.aload_n 0, 1) := by decide +kernel
theorem dX7_readRule_75 : decode cX7_readRule 75 = .ok (.aload_n 1, 1) := by decide +kernel
theorem dX7_readRule_76 : decode cX7_readRule 76 = .ok (.invokevirtual 113, 3) := by decide +kernel
theorem dX7_readRule_79 : decode cX7_readRule 79 = .ok (.ireturn, 1) := by decide +kernel
theorem dX7_readRule_80 : decode cX7_readRule 80 = .ok (.aload_n 1, 1) := by decide +kernel
theorem dX7_readRule_81 : decode cX7_readRule 81 = .ok (.aload_n 0, 1) := by decide +kernel
theorem dX7_readRule_82 : decode cX7_readRule 82 = .ok (.invokevirtual 38, 3) := by decide +kernel
theorem dX7_readRule_85 : decode cX7_readRule 85 = .ok (.putfield 116, 3) := by decide +kernel
theorem dX7_readRule_88 : decode cX7_readRule 88 = .ok (.aload_n 1, 1) := by decide +kernel
theorem dX7_readRule_89 : decode cX7_readRule 89 = .ok (.getfield 116, 3) := by decide +kernel
theorem dX7_readRule_92 : decode cX7_readRule 92 = .ok (.ifCond .eq 7, 3) := by decide +kernel
theorem dX7_readRule_95 : decode cX7_readRule 95 = .ok (.iconst 1, 1) := by decide +kernel
theorem dX7_readRule_96 : decode cX7_readRule 96 = .ok (.goto 4, 3) := by decide +kernel
theorem dX7_readRule_99 : decode cX7_readRule 99 = .ok (.iconst 0, 1) := by decide +kernel
theorem dX7_readRule_100 : decode cX7_readRule 100 = .ok (.ireturn, 1) := by decide +kernel
theorem dX7_readRule_101 : decode cX7_readRule 101 = .ok (.aload_n 0, 1) := by decide +kernel
theorem dX7_readRule_102 : decode cX7_readRule 102 = .ok (.aload_n 1, 1) := by decide +kernel
theorem dX7_readRule_103 : decode cX7_readRule 103 = .ok (.invokevirtual 119, 3) := by decide +kernel
theorem dX7_readRule_106 : decode cX7_readRule 106 = .ok (.ireturn, 1) := by decide +kernel
theorem dX7_readRule_107 : decode cX7_readRule 107 = .ok (.iconst 0, 1) := by decide +kernel
theorem dX7_readRule_108 : decode cX7_readRule 108 = .ok (.ireturn, 1) := by decide +kernel
theorem dX7_readPrefix_0 : decode cX7_readPrefix 0 = .ok (.aload_n 1, 1) := by decide +kernel
theorem dX7_readPrefix_1 : decode cX7_readPrefix 1 = .ok (.aload_n 0, 1) := by decide +kernel
theorem dX7_readPrefix_2 : decode cX7_readPrefix 2 = .ok (.sipush 255, 3) := by decide +kernel
theorem dX7_readPrefix_5 : decode cX7_readPrefix 5 = .ok (.invokevirtual 83, 3) := by decide +kernel
theorem dX7_readPrefix_8 : decode cX7_readPrefix 8 = .ok (.putfield 122, 3) := by decide +kernel
theorem dX7_readPrefix_11 : decode cX7_readPrefix 11 = .ok (.aload_n 1, 1) := by decide +kernel
theorem dX7_readPrefix_12 : decode cX7_readPrefix 12 = .ok (.getfield 122, 3) := by decide +kernel
theorem dX7_readPrefix_15 : decode cX7_readPrefix 15 = .ok (.ifCond .lt 12, 3) := by decide +kernel
theorem dX7_readPrefix_18 : decode cX7_readPrefix 18 = .ok (.aload_n 0, 1) := by decide +kernel
theorem dX7_readPrefix_19 : decode cX7_readPrefix 19 = .ok (.bipush 47, 2) := by decide +kernel
theorem dX7_readPrefix_21 : decode cX7_readPrefix 21 = .ok (.invokevirtual 46, 3) := by decide +kernel
theorem dX7_readPrefix_24 : decode cX7_readPrefix 24 = .ok (.ifCond .ne 5, 3) := by decide +kernel
theorem dX7_readPrefix_27 : decode cX7_readPrefix 27 = .ok (.iconst 0, 1) := by decide +kernel
theorem dX7_readPrefix_28 : decode cX7_readPrefix 28 = .ok (.ireturn, 1) := by decide +kernel
theorem dX7_readPrefix_29 : decode cX7_readPrefix 29 = .ok (.aload_n 1, 1) := by decide +kernel
theorem dX7_readPrefix_30 : decode cX7_readPrefix 30 = .ok (.aload_n 0, 1) := by decide +kernel
theorem dX7_readPrefix_31 : decode cX7_readPrefix 31 = .ok (.bipush 8, 2) := by decide +kernel
theorem dX7_readPrefix_33 : decode cX7_readPrefix 33 = .ok (.invokevirtual 83, 3) := by decide +kernel
theorem dX7_readPrefix_36 : decode cX7_readPrefix 36 = .ok (.putfield 125, 3) := by decide +kernel
theorem dX7_readPrefix_39 : decode cX7_readPrefix 39 = .ok (.aload_n 1, 1) := by decide +kernel
theorem dX7_readPrefix_40 : decode cX7_readPrefix 40 = .ok (.getfield 125, 3) := by decide +kernel
theorem dX7_readPrefix_43 : decode cX7_readPrefix 43 = .ok (.ifCond .lt 7, 3) := by decide +kernel
theorem dX7_readPrefix_46 : decode cX7_readPrefix 46 = .ok (.iconst 1, 1) := by decide +kernel
theorem dX7_readPrefix_47 : decode cX7_readPrefix 47 = .ok (.goto 4, 3) := by decide +kernel
theorem dX7_readPrefix_50 : decode cX7_readPrefix 50 = .ok (.iconst 0, 1) := by decide +kernel
theorem dX7_readPrefix_51 : decode cX7_readPrefix 51 = .ok (.ireturn, 1) := by decide +kernel
theorem dX7_readMacro_0 : decode cX7_readMacro 0 = .ok (.iconst 0, 1) := by decide +kernel
theorem dX7_readMacro_1 : decode cX7_readMacro 1 = .ok (.istore_n 2, 1) := by decide +kernel
theorem dX7_readMacro_2 : decode cX7_readMacro 2 = .ok (.iload_n 2, 1) := by decide +kernel
theorem dX7_readMacro_3 : decode cX7_readMacro 3 = .ok (.bipush 8, 2) := by decide +kernel
theorem dX7_readMacro_5 : decode cX7_readMacro 5 = .ok (.if_icmp .ge 63, 3) := by decide +kernel
theorem dX7_readMacro_8 : decode cX7_readMacro 8 = .ok (.aload_n 0, 1) := by decide +kernel
theorem dX7_readMacro_9 : decode cX7_readMacro 9 = .ok (.invokevirtual 128, 3) := by decide +kernel
theorem dX7_readMacro_12 : decode cX7_readMacro 12 = .ok (.istore_n 3, 1) := by decide +kernel
theorem dX7_readMacro_13 : decode cX7_readMacro 13 = .ok (.iload_n 3, 1) := by decide +kernel
theorem dX7_readMacro_14 : decode cX7_readMacro 14 = .ok (.bipush 37, 2) := by decide +kernel
theorem dX7_readMacro_16 : decode cX7_readMacro 16 = .ok (.if_icmp .eq 18, 3) := by decide +kernel
theorem dX7_readMacro_19 : decode cX7_readMacro 19 = .ok (.iload_n 3, 1) := by decide +kernel
theorem dX7_readMacro_20 : decode cX7_readMacro 20 = .ok (.bipush 97, 2) := by decide +kernel
theorem dX7_readMacro_22 : decode cX7_readMacro 22 = .ok (.if_icmp .lt 46, 3) := by decide +kernel
theorem dX7_readMacro_25 : decode cX7_readMacro 25 = .ok (.iload_n 3, 1) := by decide +kernel
theorem dX7_readMacro_26 : decode cX7_readMacro 26 = .ok (.bipush 112, 2) := by decide +kernel
theorem dX7_readMacro_28 : decode cX7_readMacro 28 = .ok (.if_icmp .le 6, 3) := by decide +kernel
theorem dX7_readMacro_31 : decode cX7_readMacro 31 = .ok (.goto 37, 3) := by decide +kernel
theorem dX7_readMacro_34 : decode cX7_readMacro 34 = .ok (.aload_n 0, 1) := by decide +kernel
theorem dX7_readMacro_35 : decode cX7_readMacro 35 = .ok (.invokevirtual 131, 3) := by decide +kernel
theorem dX7_readMacro_38 : decode cX7_readMacro 38 = .ok (.istore 4, 2) := by decide +kernel
theorem dX7_readMacro_40 : decode cX7_readMacro 40 = .ok (.iload 4, 2) := by decide +kernel
theorem dX7_readMacro_42 : decode cX7_readMacro 42 = .ok (.ifCond .ge 5, 3) := by decide +kernel
theorem dX7_readMacro_45 : decode cX7_readMacro 45 = .ok (.iconst 0, 1) := by decide +kernel
theorem dX7_readMacro_46 : decode cX7_readMacro 46 = .ok (.ireturn, 1) := by decide +kernel
theorem dX7_readMacro_47 : decode cX7_readMacro 47 = .ok (.aload_n 1, 1) := by decide +kernel
theorem dX7_readMacro_48 : decode cX7_readMacro 48 = .ok (.getfield 134, 3) := by decide +kernel
theorem dX7_readMacro_51 : decode cX7_readMacro 51 = .ok (.iload_n 2, 1) := by decide +kernel
theorem dX7_readMacro_52 : decode cX7_readMacro 52 = .ok (.iload 4, 2) := by decide +kernel
theorem dX7_readMacro_54 : decode cX7_readMacro 54 = .ok (.iastore, 1) := by decide +kernel
theorem dX7_readMacro_55 : decode cX7_readMacro 55 = .ok (.aload_n 1, 1) := by decide +kernel
theorem dX7_readMacro_56 : decode cX7_readMacro 56 = .ok (.iload_n 2, 1) := by decide +kernel
theorem dX7_readMacro_57 : decode cX7_readMacro 57 = .ok (.iconst 1, 1) := by decide +kernel
theorem dX7_readMacro_58 : decode cX7_readMacro 58 = .ok (.iadd, 1) := by decide +kernel
theorem dX7_readMacro_59 : decode cX7_readMacro 59 = .ok (.putfield 138, 3) := by decide +kernel
theorem dX7_readMacro_62 : decode cX7_readMacro 62 = .ok (.iinc 2 1, 3) := by decide +kernel
theorem dX7_readMacro_65 : decode cX7_readMacro 65 = .ok (.goto (-63), 3) := by decide +kernel
theorem dX7_readMacro_68 : decode cX7_readMacro 68 = .ok (.aload_n 1, 1) := by decide +kernel
theorem dX7_readMacro_69 : decode cX7_readMacro 69 = .ok (.getfield 138, 3) := by decide +kernel
theorem dX7_readMacro_72 : decode cX7_readMacro 72 = .ok (.ifCond .le 7, 3) := by decide +kernel
theorem dX7_readMacro_75 : decode cX7_readMacro 75 = .ok (.iconst 1, 1) := by decide +kernel
theorem dX7_readMacro_76 : decode cX7_readMacro 76 = .ok (.goto 4, 3) := by decide +kernel
theorem dX7_readMacro_79 : decode cX7_readMacro 79 = .ok (.iconst 0, 1) := by decide +kernel
theorem dX7_readMacro_80 : decode cX7_readMacro 80 = .ok (.ireturn, 1) := by decide +kernel
theorem dX7_readPart_0 : decode cX7_readPart 0 = .ok (.aload_n 0, 1) := by decide +kernel
theorem dX7_readPart_1 : decode cX7_readPart 1 = .ok (.invokevirtual 42, 3) := by decide +kernel
theorem dX7_readPart_4 : decode cX7_readPart 4 = .ok (.istore_n 1, 1) := by decide +kernel
theorem dX7_readPart_5 : decode cX7_readPart 5 = .ok (.iload_n 1, 1) := by decide +kernel
theorem dX7_readPart_6 : decode cX7_readPart 6 = .ok (.bipush 37, 2) := by decide +kernel
theorem dX7_readPart_8 : decode cX7_readPart 8 = .ok (.if_icmp .eq 10, 3) := by decide +kernel
theorem dX7_readPart_11 : decode cX7_readPart 11 = .ok (.iload_n 1, 1) := by decide +kernel
theorem dX7_readPart_12 : decode cX7_readPart 12 = .ok (.bipush 97, 2) := by decide +kernel
theorem dX7_readPart_14 : decode cX7_readPart 14 = .ok (.isub, 1) := by decide +kernel
theorem dX7_readPart_15 : decode cX7_readPart 15 = .ok (.iconst 4, 1) := by decide +kernel
theorem dX7_readPart_16 : decode cX7_readPart 16 = .ok (.ishl, 1) := by decide +kernel
theorem dX7_readPart_17 : decode cX7_readPart 17 = .ok (.ireturn, 1) := by decide +kernel
theorem dX7_readPart_18 : decode cX7_readPart 18 = .ok (.aload_n 0, 1) := by decide +kernel
theorem dX7_readPart_19 : decode cX7_readPart 19 = .ok (.bipush 45, 2) := by decide +kernel
theorem dX7_readPart_21 : decode cX7_readPart 21 = .ok (.invokevirtual 46, 3) := by decide +kernel
theorem dX7_readPart_24 : decode cX7_readPart 24 = .ok (.ifCond .eq 7, 3) := by decide +kernel
theorem dX7_readPart_27 : decode cX7_readPart 27 = .ok (.iconst 1, 1) := by decide +kernel
theorem dX7_readPart_28 : decode cX7_readPart 28 = .ok (.goto 4, 3) := by decide +kernel
theorem dX7_readPart_31 : decode cX7_readPart 31 = .ok (.iconst 0, 1) := by decide +kernel
theorem dX7_readPart_32 : decode cX7_readPart 32 = .ok (.istore_n 2, 1) := by decide +kernel
theorem dX7_readPart_33 : decode cX7_readPart 33 = .ok (.iconst 0, 1) := by decide +kernel
theorem dX7_readPart_34 : decode cX7_readPart 34 = .ok (.istore_n 3, 1) := by decide +kernel
theorem dX7_readPart_35 : decode cX7_readPart 35 = .ok (.aload_n 0, 1) := by decide +kernel
theorem dX7_readPart_36 : decode cX7_readPart 36 = .ok (.invokevirtual 128, 3) := by decide +kernel
theorem dX7_readPart_39 : decode cX7_readPart 39 = .ok (.bipush 49, 2) := by decide +kernel
theorem dX7_readPart_41 : decode cX7_readPart 41 = .ok (.if_icmp .lt 20, 3) := by decide +kernel
theorem dX7_readPart_44 : decode cX7_readPart 44 = .ok (.aload_n 0, 1) := by decide +kernel
theorem dX7_readPart_45 : decode cX7_readPart 45 = .ok (.invokevirtual 128, 3) := by decide +kernel
theorem dX7_readPart_48 : decode cX7_readPart 48 = .ok (.bipush 55, 2) := by decide +kernel
theorem dX7_readPart_50 : decode cX7_readPart 50 = .ok (.if_icmp .gt 11, 3) := by decide +kernel
theorem dX7_readPart_53 : decode cX7_readPart 53 = .ok (.aload_n 0, 1) := by decide +kernel
theorem dX7_readPart_54 : decode cX7_readPart 54 = .ok (.invokevirtual 42, 3) := by decide +kernel
theorem dX7_readPart_57 : decode cX7_readPart 57 = .ok (.bipush 48, 2) := by decide +kernel
theorem dX7_readPart_59 : decode cX7_readPart 59 = .ok (.isub, 1) := by decide +kernel
theorem dX7_readPart_60 : decode cX7_readPart 60 = .ok (.istore_n 3, 1) := by decide +kernel
theorem dX7_readPart_61 : decode cX7_readPart 61 = .ok (.ldc 141, 2) := by decide +kernel
theorem dX7_readPart_63 : decode cX7_readPart 63 = .ok (.aload_n 0, 1) := by decide +kernel
theorem dX7_readPart_64 : decode cX7_readPart 64 = .ok (.invokevirtual 42, 3) := by decide +kernel
theorem dX7_readPart_67 : decode cX7_readPart 67 = .ok (.invokevirtual 100, 3) := by decide +kernel
theorem dX7_readPart_70 : decode cX7_readPart 70 = .ok (.istore 4, 2) := by decide +kernel
theorem dX7_readPart_72 : decode cX7_readPart 72 = .ok (.iload 4, 2) := by decide +kernel
theorem dX7_readPart_74 : decode cX7_readPart 74 = .ok (.ifCond .ge 7, 3) := by decide +kernel
theorem dX7_readPart_77 : decode cX7_readPart 77 = .ok (.iconst (-1), 1) := by decide +kernel
theorem dX7_readPart_78 : decode cX7_readPart 78 = .ok (.goto 16, 3) := by decide +kernel
theorem dX7_readPart_81 : decode cX7_readPart 81 = .ok (.bipush 16, 2) := by decide +kernel
theorem dX7_readPart_83 : decode cX7_readPart 83 = .ok (.iload 4, 2) := by decide +kernel
theorem dX7_readPart_85 : decode cX7_readPart 85 = .ok (.iadd, 1) := by decide +kernel
theorem dX7_readPart_86 : decode cX7_readPart 86 = .ok (.iconst 4, 1) := by decide +kernel
theorem dX7_readPart_87 : decode cX7_readPart 87 = .ok (.ishl, 1) := by decide +kernel
theorem dX7_readPart_88 : decode cX7_readPart 88 = .ok (.iload_n 3, 1) := by decide +kernel
theorem dX7_readPart_89 : decode cX7_readPart 89 = .ok (.iconst 1, 1) := by decide +kernel
theorem dX7_readPart_90 : decode cX7_readPart 90 = .ok (.ishl, 1) := by decide +kernel
theorem dX7_readPart_91 : decode cX7_readPart 91 = .ok (.ior, 1) := by decide +kernel
theorem dX7_readPart_92 : decode cX7_readPart 92 = .ok (.iload_n 2, 1) := by decide +kernel
theorem dX7_readPart_93 : decode cX7_readPart 93 = .ok (.ior, 1) := by decide +kernel
theorem dX7_readPart_94 : decode cX7_readPart 94 = .ok (.ireturn, 1) := by decide +kernel
theorem dX7_readName_0 : decode cX7_readName 0 = .ok (.aload_n 0, 1) := by decide +kernel
theorem dX7_readName_1 : decode cX7_readName 1 = .ok (.getfield 26, 3) := by decide +kernel
theorem dX7_readName_4 : decode cX7_readName 4 = .ok (.istore_n 1, 1) := by decide +kernel
theorem dX7_readName_5 : decode cX7_readName 5 = .ok (.iconst 0, 1) := by decide +kernel
theorem dX7_readName_6 : decode cX7_readName 6 = .ok (.istore_n 2, 1) := by decide +kernel
theorem dX7_readName_7 : decode cX7_readName 7 = .ok (.iload_n 2, 1) := by decide +kernel
theorem dX7_readName_8 : decode cX7_readName 8 = .ok (.bipush 7, 2) := by decide +kernel
theorem dX7_readName_10 : decode cX7_readName 10 = .ok (.if_icmp .ge 37, 3) := by decide +kernel
theorem dX7_readName_13 : decode cX7_readName 13 = .ok (.aload_n 0, 1) := by decide +kernel
theorem dX7_readName_14 : decode cX7_readName 14 = .ok (.invokevirtual 128, 3) := by decide +kernel
theorem dX7_readName_17 : decode cX7_readName 17 = .ok (.bipush 97, 2) := by decide +kernel
theorem dX7_readName_19 : decode cX7_readName 19 = .ok (.if_icmp .lt 28, 3) := by decide +kernel
theorem dX7_readName_22 : decode cX7_readName 22 = .ok (.aload_n 0, 1) := by decide +kernel
theorem dX7_readName_23 : decode cX7_readName 23 = .ok (.invokevirtual 128, 3) := by decide +kernel
theorem dX7_readName_26 : decode cX7_readName 26 = .ok (.bipush 112, 2) := by decide +kernel
theorem dX7_readName_28 : decode cX7_readName 28 = .ok (.if_icmp .gt 19, 3) := by decide +kernel
theorem dX7_readName_31 : decode cX7_readName 31 = .ok (.aload_n 0, 1) := by decide +kernel
theorem dX7_readName_32 : decode cX7_readName 32 = .ok (.dup, 1) := by decide +kernel
theorem dX7_readName_33 : decode cX7_readName 33 = .ok (.getfield 26, 3) := by decide +kernel
theorem dX7_readName_36 : decode cX7_readName 36 = .ok (.iconst 1, 1) := by decide +kernel
theorem dX7_readName_37 : decode cX7_readName 37 = .ok (.iadd, 1) := by decide +kernel
theorem dX7_readName_38 : decode cX7_readName 38 = .ok (.putfield 26, 3) := by decide +kernel
theorem dX7_readName_41 : decode cX7_readName 41 = .ok (.iinc 2 1, 3) := by decide +kernel
theorem dX7_readName_44 : decode cX7_readName 44 = .ok (.goto (-37), 3) := by decide +kernel
theorem dX7_readName_47 : decode cX7_readName 47 = .ok (.aload_n 0, 1) := by decide +kernel
theorem dX7_readName_48 : decode cX7_readName 48 = .ok (.getfield 18, 3) := by decide +kernel
theorem dX7_readName_51 : decode cX7_readName 51 = .ok (.invokevirtual 143, 3) := by decide +kernel
theorem dX7_readName_54 : decode cX7_readName 54 = .ok (.aload_n 0, 1) := by decide +kernel
theorem dX7_readName_55 : decode cX7_readName 55 = .ok (.getfield 26, 3) := by decide +kernel
theorem dX7_readName_58 : decode cX7_readName 58 = .ok (.iconst 1, 1) := by decide +kernel
theorem dX7_readName_59 : decode cX7_readName 59 = .ok (.isub, 1) := by decide +kernel
theorem dX7_readName_60 : decode cX7_readName 60 = .ok (.istore_n 2, 1) := by decide +kernel
theorem dX7_readName_61 : decode cX7_readName 61 = .ok (.iload_n 2, 1) := by decide +kernel
theorem dX7_readName_62 : decode cX7_readName 62 = .ok (.iload_n 1, 1) := by decide +kernel
theorem dX7_readName_63 : decode cX7_readName 63 = .ok (.if_icmp .lt 25, 3) := by decide +kernel
theorem dX7_readName_66 : decode cX7_readName 66 = .ok (.aload_n 0, 1) := by decide +kernel
theorem dX7_readName_67 : decode cX7_readName 67 = .ok (.getfield 18, 3) := by decide +kernel
theorem dX7_readName_70 : decode cX7_readName 70 = .ok (.aload_n 0, 1) := by decide +kernel
theorem dX7_readName_71 : decode cX7_readName 71 = .ok (.getfield 9, 3) := by decide +kernel
theorem dX7_readName_74 : decode cX7_readName 74 = .ok (.iload_n 2, 1) := by decide +kernel
theorem dX7_readName_75 : decode cX7_readName 75 = .ok (.caload, 1) := by decide +kernel
theorem dX7_readName_76 : decode cX7_readName 76 = .ok (.bipush 97, 2) := by decide +kernel
theorem dX7_readName_78 : decode cX7_readName 78 = .ok (.isub, 1) := by decide +kernel
theorem dX7_readName_79 : decode cX7_readName 79 = .ok (.invokevirtual 144, 3) := by decide +kernel
theorem dX7_readName_82 : decode cX7_readName 82 = .ok (.iinc 2 (-1), 3) := by decide +kernel
theorem dX7_readName_85 : decode cX7_readName 85 = .ok (.goto (-24), 3) := by decide +kernel
theorem dX7_readName_88 : decode cX7_readName 88 = .ok (.aload_n 0, 1) := by decide +kernel
theorem dX7_readName_89 : decode cX7_readName 89 = .ok (.getfield 18, 3) := by decide +kernel
theorem dX7_readName_92 : decode cX7_readName 92 = .ok (.invokevirtual 148, 3) := by decide +kernel
theorem dX7_readName_95 : decode cX7_readName 95 = .ok (.ireturn, 1) := by decide +kernel
theorem dX7_readNumber_0 : decode cX7_readNumber 0 = .ok (.iconst 0, 1) := by decide +kernel
theorem dX7_readNumber_1 : decode cX7_readNumber 1 = .ok (.istore_n 2, 1) := by decide +kernel
theorem dX7_readNumber_2 : decode cX7_readNumber 2 = .ok (.iconst 0, 1) := by decide +kernel
theorem dX7_readNumber_3 : decode cX7_readNumber 3 = .ok (.istore_n 3, 1) := by decide +kernel
theorem dX7_readNumber_4 : decode cX7_readNumber 4 = .ok (.iload_n 3, 1) := by decide +kernel
theorem dX7_readNumber_5 : decode cX7_readNumber 5 = .ok (.iconst 3, 1) := by decide +kernel
theorem dX7_readNumber_6 : decode cX7_readNumber 6 = .ok (.if_icmp .ge 40, 3) := by decide +kernel
theorem dX7_readNumber_9 : decode cX7_readNumber 9 = .ok (.aload_n 0, 1) := by decide +kernel
theorem dX7_readNumber_10 : decode cX7_readNumber 10 = .ok (.invokevirtual 128, 3) := by decide +kernel
theorem dX7_readNumber_13 : decode cX7_readNumber 13 = .ok (.bipush 48, 2) := by decide +kernel
theorem dX7_readNumber_15 : decode cX7_readNumber 15 = .ok (.if_icmp .lt 31, 3) := by decide +kernel
theorem dX7_readNumber_18 : decode cX7_readNumber 18 = .ok (.aload_n 0, 1) := by decide +kernel
theorem dX7_readNumber_19 : decode cX7_readNumber 19 = .ok (.invokevirtual 128, 3) := by decide +kernel
theorem dX7_readNumber_22 : decode cX7_readNumber 22 = .ok (.bipush 57, 2) := by decide +kernel
theorem dX7_readNumber_24 : decode cX7_readNumber 24 = .ok (.if_icmp .gt 22, 3) := by decide +kernel
theorem dX7_readNumber_27 : decode cX7_readNumber 27 = .ok (.iload_n 2, 1) := by decide +kernel
theorem dX7_readNumber_28 : decode cX7_readNumber 28 = .ok (.bipush 10, 2) := by decide +kernel
theorem dX7_readNumber_30 : decode cX7_readNumber 30 = .ok (.imul, 1) := by decide +kernel
theorem dX7_readNumber_31 : decode cX7_readNumber 31 = .ok (.aload_n 0, 1) := by decide +kernel
theorem dX7_readNumber_32 : decode cX7_readNumber 32 = .ok (.invokevirtual 42, 3) := by decide +kernel
theorem dX7_readNumber_35 : decode cX7_readNumber 35 = .ok (.iadd, 1) := by decide +kernel
theorem dX7_readNumber_36 : decode cX7_readNumber 36 = .ok (.bipush 48, 2) := by decide +kernel
theorem dX7_readNumber_38 : decode cX7_readNumber 38 = .ok (.isub, 1) := by decide +kernel
theorem dX7_readNumber_39 : decode cX7_readNumber 39 = .ok (.istore_n 2, 1) := by decide +kernel
theorem dX7_readNumber_40 : decode cX7_readNumber 40 = .ok (.iinc 3 1, 3) := by decide +kernel
theorem dX7_readNumber_43 : decode cX7_readNumber 43 = .ok (.goto (-39), 3) := by decide +kernel
theorem dX7_readNumber_46 : decode cX7_readNumber 46 = .ok (.iload_n 3, 1) := by decide +kernel
theorem dX7_readNumber_47 : decode cX7_readNumber 47 = .ok (.ifCond .eq 8, 3) := by decide +kernel
theorem dX7_readNumber_50 : decode cX7_readNumber 50 = .ok (.iload_n 2, 1) := by decide +kernel
theorem dX7_readNumber_51 : decode cX7_readNumber 51 = .ok (.iload_n 1, 1) := by decide +kernel
theorem dX7_readNumber_52 : decode cX7_readNumber 52 = .ok (.if_icmp .le 7, 3) := by decide +kernel
theorem dX7_readNumber_55 : decode cX7_readNumber 55 = .ok (.iconst (-1), 1) := by decide +kernel
theorem dX7_readNumber_56 : decode cX7_readNumber 56 = .ok (.goto 4, 3) := by decide +kernel
theorem dX7_readNumber_59 : decode cX7_readNumber 59 = .ok (.iload_n 2, 1) := by decide +kernel
theorem dX7_readNumber_60 : decode cX7_readNumber 60 = .ok (.ireturn, 1) := by decide +kernel
theorem dX8_init_0 : decode cX8_init 0 = .ok (.aload_n 0, 1) := by decide +kernel
theorem dX8_init_1 : decode cX8_init 1 = .ok (.invokespecial 3, 3) := by decide +kernel
theorem dX8_init_4 : decode cX8_init 4 = .ok (.aload_n 0, 1) := by decide +kernel
theorem dX8_init_5 : decode cX8_init 5 = .ok (.bipush 12, 2) := by decide +kernel
theorem dX8_init_7 : decode cX8_init 7 = .ok (.anewarray 9, 3) := by decide +kernel
theorem dX8_init_10 : decode cX8_init 10 = .ok (.putfield 11, 3) := by decide +kernel
theorem dX8_init_13 : decode cX8_init 13 = .ok (.iconst 0, 1) := by decide +kernel
theorem dX8_init_14 : decode cX8_init 14 = .ok (.istore_n 1, 1) := by decide +kernel
theorem dX8_init_15 : decode cX8_init 15 = .ok (.iload_n 1, 1) := by decide +kernel
theorem dX8_init_16 : decode cX8_init 16 = .ok (.bipush 12, 2) := by decide +kernel
theorem dX8_init_18 : decode cX8_init 18 = .ok (.if_icmp .ge 22, 3) := by decide +kernel
theorem dX8_init_21 : decode cX8_init 21 = .ok (.aload_n 0, 1) := by decide +kernel
theorem dX8_init_22 : decode cX8_init 22 = .ok (.getfield 11, 3) := by decide +kernel
theorem dX8_init_25 : decode cX8_init 25 = .ok (.iload_n 1, 1) := by decide +kernel
theorem dX8_init_26 : decode cX8_init 26 = .ok (.new 9, 3) := by decide +kernel
theorem dX8_init_29 : decode cX8_init 29 = .ok (.dup, 1) := by decide +kernel
theorem dX8_init_30 : decode cX8_init 30 = .ok (.invokespecial 17, 3) := by decide +kernel
theorem dX8_init_33 : decode cX8_init 33 = .ok (.aastore, 1) := by decide +kernel
theorem dX8_init_34 : decode cX8_init 34 = .ok (.iinc 1 1, 3) := by decide +kernel
theorem dX8_init_37 : decode cX8_init 37 = .ok (.goto (-22), 3) := by decide +kernel
theorem dX8_init_40 : decode cX8_init 40 = .ok (.return_, 1) := by decide +kernel
theorem dX8_clear_0 : decode cX8_clear 0 = .ok (.aload_n 0, 1) := by decide +kernel
theorem dX8_clear_1 : decode cX8_clear 1 = .ok (.iconst 0, 1) := by decide +kernel
theorem dX8_clear_2 : decode cX8_clear 2 = .ok (.putfield 18, 3) := by decide +kernel
theorem dX8_clear_5 : decode cX8_clear 5 = .ok (.return_, 1) := by decide +kernel
theorem dX8_domainAt_0 : decode cX8_domainAt 0 = .ok (.iload_n 1, 1) := by decide +kernel
theorem dX8_domainAt_1 : decode cX8_domainAt 1 = .ok (.ifCond .lt 20, 3) := by decide +kernel
theorem dX8_domainAt_4 : decode cX8_domainAt 4 = .ok (.iload_n 1, 1) := by decide +kernel
theorem dX8_domainAt_5 : decode cX8_domainAt 5 = .ok (.aload_n 0, 1) := by decide +kernel
theorem dX8_domainAt_6 : decode cX8_domainAt 6 = .ok (.getfield 18, 3) := by decide +kernel
theorem dX8_domainAt_9 : decode cX8_domainAt 9 = .ok (.if_icmp .ge 12, 3) := by decide +kernel
theorem dX8_domainAt_12 : decode cX8_domainAt 12 = .ok (.aload_n 0, 1) := by decide +kernel
theorem dX8_domainAt_13 : decode cX8_domainAt 13 = .ok (.getfield 11, 3) := by decide +kernel
theorem dX8_domainAt_16 : decode cX8_domainAt 16 = .ok (.iload_n 1, 1) := by decide +kernel
theorem dX8_domainAt_17 : decode cX8_domainAt 17 = .ok (.aaload, 1) := by decide +kernel
theorem dX8_domainAt_18 : decode cX8_domainAt 18 = .ok (.goto 4, 3) := by decide +kernel
theorem dX8_domainAt_21 : decode cX8_domainAt 21 = .ok (.aconst_null, 1) := by decide +kernel
theorem dX8_domainAt_22 : decode cX8_domainAt 22 = .ok (.areturn, 1) := by decide +kernel
theorem dX8_firstNotBefore_0 : decode cX8_firstNotBefore 0 = .ok (.iconst 0, 1) := by decide +kernel
theorem dX8_firstNotBefore_1 : decode cX8_firstNotBefore 1 = .ok (.istore_n 2, 1) := by decide +kernel
theorem dX8_firstNotBefore_2 : decode cX8_firstNotBefore 2 = .ok (.iload_n 2, 1) := by decide +kernel
theorem dX8_firstNotBefore_3 : decode cX8_firstNotBefore 3 = .ok (.aload_n 0, 1) := by decide +kernel
theorem dX8_firstNotBefore_4 : decode cX8_firstNotBefore 4 = .ok (.getfield 18, 3) := by decide +kernel
theorem dX8_firstNotBefore_7 : decode cX8_firstNotBefore 7 = .ok (.if_icmp .ge 22, 3) := by decide +kernel
theorem dX8_firstNotBefore_10 : decode cX8_firstNotBefore 10 = .ok (.aload_n 0, 1) := by decide +kernel
theorem dX8_firstNotBefore_11 : decode cX8_firstNotBefore 11 = .ok (.getfield 11, 3) := by decide +kernel
theorem dX8_firstNotBefore_14 : decode cX8_firstNotBefore 14 = .ok (.iload_n 2, 1) := by decide +kernel
theorem dX8_firstNotBefore_15 : decode cX8_firstNotBefore 15 = .ok (.aaload, 1) := by decide +kernel
theorem dX8_firstNotBefore_16 : decode cX8_firstNotBefore 16 = .ok (.getfield 22, 3) := by decide +kernel
theorem dX8_firstNotBefore_19 : decode cX8_firstNotBefore 19 = .ok (.iload_n 1, 1) := by decide +kernel
theorem dX8_firstNotBefore_20 : decode cX8_firstNotBefore 20 = .ok (.if_icmp .ge 9, 3) := by decide +kernel
theorem dX8_firstNotBefore_23 : decode cX8_firstNotBefore 23 = .ok (.iinc 2 1, 3) := by decide +kernel
theorem dX8_firstNotBefore_26 : decode cX8_firstNotBefore 26 = .ok (.goto (-24), 3) := by decide +kernel
theorem dX8_firstNotBefore_29 : decode cX8_firstNotBefore 29 = .ok (.iload_n 2, 1) := by decide +kernel
theorem dX8_firstNotBefore_30 : decode cX8_firstNotBefore 30 = .ok (.ireturn, 1) := by decide +kernel
theorem dX8_find_0 : decode cX8_find 0 = .ok (.iconst 0, 1) := by decide +kernel
theorem dX8_find_1 : decode cX8_find 1 = .ok (.istore_n 2, 1) := by decide +kernel
theorem dX8_find_2 : decode cX8_find 2 = .ok (.iload_n 2, 1) := by decide +kernel
theorem dX8_find_3 : decode cX8_find 3 = .ok (.aload_n 0, 1) := by decide +kernel
theorem dX8_find_4 : decode cX8_find 4 = .ok (.getfield 18, 3) := by decide +kernel
theorem dX8_find_7 : decode cX8_find 7 = .ok (.if_icmp .ge 24, 3) := by decide +kernel
theorem dX8_find_10 : decode cX8_find 10 = .ok (.aload_n 0, 1) := by decide +kernel
theorem dX8_find_11 : decode cX8_find 11 = .ok (.getfield 11, 3) := by decide +kernel
theorem dX8_find_14 : decode cX8_find 14 = .ok (.iload_n 2, 1) := by decide +kernel
theorem dX8_find_15 : decode cX8_find 15 = .ok (.aaload, 1) := by decide +kernel
theorem dX8_find_16 : decode cX8_find 16 = .ok (.getfield 22, 3) := by decide +kernel
theorem dX8_find_19 : decode cX8_find 19 = .ok (.iload_n 1, 1) := by decide +kernel
theorem dX8_find_20 : decode cX8_find 20 = .ok (.if_icmp .ne 5, 3) := by decide +kernel
theorem dX8_find_23 : decode cX8_find 23 = .ok (.iload_n 2, 1) := by decide +kernel
theorem dX8_find_24 : decode cX8_find 24 = .ok (.ireturn, 1) := by decide +kernel
theorem dX8_find_25 : decode cX8_find 25 = .ok (.iinc 2 1, 3) := by decide +kernel
theorem dX8_find_28 : decode cX8_find 28 = .ok (.goto (-26), 3) := by decide +kernel
theorem dX8_find_31 : decode cX8_find 31 = .ok (.iconst (-1), 1) := by decide +kernel
theorem dX8_find_32 : decode cX8_find 32 = .ok (.ireturn, 1) := by decide +kernel
theorem dX8_domainOf_0 : decode cX8_domainOf 0 = .ok (.aload_n 0, 1) := by decide +kernel
theorem dX8_domainOf_1 : decode cX8_domainOf 1 = .ok (.aload_n 0, 1) := by decide +kernel
theorem dX8_domainOf_2 : decode cX8_domainOf 2 = .ok (.iload_n 1, 1) := by decide +kernel
theorem dX8_domainOf_3 : decode cX8_domainOf 3 = .ok (.invokevirtual 25, 3) := by decide +kernel
theorem dX8_domainOf_6 : decode cX8_domainOf 6 = .ok (.invokevirtual 29, 3) := by decide +kernel
theorem dX8_domainOf_9 : decode cX8_domainOf 9 = .ok (.areturn, 1) := by decide +kernel
theorem dX8_findOrAdd_0 : decode cX8_findOrAdd 0 = .ok (.aload_n 0, 1) := by decide +kernel
theorem dX8_findOrAdd_1 : decode cX8_findOrAdd 1 = .ok (.iload_n 1, 1) := by decide +kernel
theorem dX8_findOrAdd_2 : decode cX8_findOrAdd 2 = .ok (.invokevirtual 33, 3) := by decide +kernel
theorem dX8_findOrAdd_5 : decode cX8_findOrAdd 5 = .ok (.astore_n 2, 1) := by decide +kernel
theorem dX8_findOrAdd_6 : decode cX8_findOrAdd 6 = .ok (.aload_n 2, 1) := by decide +kernel
theorem dX8_findOrAdd_7 : decode cX8_findOrAdd 7 = .ok (.ifnonnull 12, 3) := by decide +kernel
theorem dX8_findOrAdd_10 : decode cX8_findOrAdd 10 = .ok (.aload_n 0, 1) := by decide +kernel
theorem dX8_findOrAdd_11 : decode cX8_findOrAdd 11 = .ok (.getfield 18, 3) := by decide +kernel
theorem dX8_findOrAdd_14 : decode cX8_findOrAdd 14 = .ok (.bipush 12, 2) := by decide +kernel
theorem dX8_findOrAdd_16 : decode cX8_findOrAdd 16 = .ok (.if_icmp .lt 5, 3) := by decide +kernel
theorem dX8_findOrAdd_19 : decode cX8_findOrAdd 19 = .ok (.aload_n 2, 1) := by decide +kernel
theorem dX8_findOrAdd_20 : decode cX8_findOrAdd 20 = .ok (.areturn, 1) := by decide +kernel
theorem dX8_findOrAdd_21 : decode cX8_findOrAdd 21 = .ok (.aload_n 0, 1) := by decide +kernel
theorem dX8_findOrAdd_22 : decode cX8_findOrAdd 22 = .ok (.iload_n 1, 1) := by decide +kernel
theorem dX8_findOrAdd_23 : decode cX8_findOrAdd 23 = .ok (.invokevirtual 36, 3) := by decide +kernel
theorem dX8_findOrAdd_26 : decode cX8_findOrAdd 26 = .ok (.istore_n 3, 1) := by decide +kernel
theorem dX8_findOrAdd_27 : decode cX8_findOrAdd 27 = .ok (.aload_n 0, 1) := by decide +kernel
theorem dX8_findOrAdd_28 : decode cX8_findOrAdd 28 = .ok (.getfield 11, 3) := by decide +kernel
theorem dX8_findOrAdd_31 : decode cX8_findOrAdd 31 = .ok (.aload_n 0, 1) := by decide +kernel
theorem dX8_findOrAdd_32 : decode cX8_findOrAdd 32 = .ok (.getfield 18, 3) := by decide +kernel
theorem dX8_findOrAdd_35 : decode cX8_findOrAdd 35 = .ok (.aaload, 1) := by decide +kernel
theorem dX8_findOrAdd_36 : decode cX8_findOrAdd 36 = .ok (.astore 4, 2) := by decide +kernel
theorem dX8_findOrAdd_38 : decode cX8_findOrAdd 38 = .ok (.aload_n 0, 1) := by decide +kernel
theorem dX8_findOrAdd_39 : decode cX8_findOrAdd 39 = .ok (.getfield 18, 3) := by decide +kernel
theorem dX8_findOrAdd_42 : decode cX8_findOrAdd 42 = .ok (.istore 5, 2) := by decide +kernel
theorem dX8_findOrAdd_44 : decode cX8_findOrAdd 44 = .ok (.iload 5, 2) := by decide +kernel
theorem dX8_findOrAdd_46 : decode cX8_findOrAdd 46 = .ok (.iload_n 3, 1) := by decide +kernel
theorem dX8_findOrAdd_47 : decode cX8_findOrAdd 47 = .ok (.if_icmp .le 25, 3) := by decide +kernel
theorem dX8_findOrAdd_50 : decode cX8_findOrAdd 50 = .ok (.aload_n 0, 1) := by decide +kernel
theorem dX8_findOrAdd_51 : decode cX8_findOrAdd 51 = .ok (.getfield 11, 3) := by decide +kernel
theorem dX8_findOrAdd_54 : decode cX8_findOrAdd 54 = .ok (.iload 5, 2) := by decide +kernel
theorem dX8_findOrAdd_56 : decode cX8_findOrAdd 56 = .ok (.aload_n 0, 1) := by decide +kernel
theorem dX8_findOrAdd_57 : decode cX8_findOrAdd 57 = .ok (.getfield 11, 3) := by decide +kernel
theorem dX8_findOrAdd_60 : decode cX8_findOrAdd 60 = .ok (.iload 5, 2) := by decide +kernel
theorem dX8_findOrAdd_62 : decode cX8_findOrAdd 62 = .ok (.iconst 1, 1) := by decide +kernel
theorem dX8_findOrAdd_63 : decode cX8_findOrAdd 63 = .ok (.isub, 1) := by decide +kernel
theorem dX8_findOrAdd_64 : decode cX8_findOrAdd 64 = .ok (.aaload, 1) := by decide +kernel
theorem dX8_findOrAdd_65 : decode cX8_findOrAdd 65 = .ok (.aastore, 1) := by decide +kernel
theorem dX8_findOrAdd_66 : decode cX8_findOrAdd 66 = .ok (.iinc 5 (-1), 3) := by decide +kernel
theorem dX8_findOrAdd_69 : decode cX8_findOrAdd 69 = .ok (.goto (-25), 3) := by decide +kernel
theorem dX8_findOrAdd_72 : decode cX8_findOrAdd 72 = .ok (.aload_n 0, 1) := by decide +kernel
theorem dX8_findOrAdd_73 : decode cX8_findOrAdd 73 = .ok (.getfield 11, 3) := by decide +kernel
theorem dX8_findOrAdd_76 : decode cX8_findOrAdd 76 = .ok (.iload_n 3, 1) := by decide +kernel
theorem dX8_findOrAdd_77 : decode cX8_findOrAdd 77 = .ok (.aload 4, 2) := by decide +kernel
theorem dX8_findOrAdd_79 : decode cX8_findOrAdd 79 = .ok (.aastore, 1) := by decide +kernel
theorem dX8_findOrAdd_80 : decode cX8_findOrAdd 80 = .ok (.aload_n 0, 1) := by decide +kernel
theorem dX8_findOrAdd_81 : decode cX8_findOrAdd 81 = .ok (.dup, 1) := by decide +kernel
theorem dX8_findOrAdd_82 : decode cX8_findOrAdd 82 = .ok (.getfield 18, 3) := by decide +kernel
theorem dX8_findOrAdd_85 : decode cX8_findOrAdd 85 = .ok (.iconst 1, 1) := by decide +kernel
theorem dX8_findOrAdd_86 : decode cX8_findOrAdd 86 = .ok (.iadd, 1) := by decide +kernel
theorem dX8_findOrAdd_87 : decode cX8_findOrAdd 87 = .ok (.putfield 18, 3) := by decide +kernel
theorem dX8_findOrAdd_90 : decode cX8_findOrAdd 90 = .ok (.aload 4, 2) := by decide +kernel
theorem dX8_findOrAdd_92 : decode cX8_findOrAdd 92 = .ok (.iload_n 1, 1) := by decide +kernel
theorem dX8_findOrAdd_93 : decode cX8_findOrAdd 93 = .ok (.invokevirtual 39, 3) := by decide +kernel
theorem dX8_findOrAdd_96 : decode cX8_findOrAdd 96 = .ok (.aload 4, 2) := by decide +kernel
theorem dX8_findOrAdd_98 : decode cX8_findOrAdd 98 = .ok (.areturn, 1) := by decide +kernel
theorem dX8_policies_0 : decode cX8_policies 0 = .ok (.iconst 0, 1) := by decide +kernel
theorem dX8_policies_1 : decode cX8_policies 1 = .ok (.istore_n 1, 1) := by decide +kernel
theorem dX8_policies_2 : decode cX8_policies 2 = .ok (.iconst 0, 1) := by decide +kernel
theorem dX8_policies_3 : decode cX8_policies 3 = .ok (.istore_n 2, 1) := by decide +kernel
theorem dX8_policies_4 : decode cX8_policies 4 = .ok (.iload_n 2, 1) := by decide +kernel
theorem dX8_policies_5 : decode cX8_policies 5 = .ok (.aload_n 0, 1) := by decide +kernel
theorem dX8_policies_6 : decode cX8_policies 6 = .ok (.getfield 18, 3) := by decide +kernel
theorem dX8_policies_9 : decode cX8_policies 9 = .ok (.if_icmp .ge 29, 3) := by decide +kernel
theorem dX8_policies_12 : decode cX8_policies 12 = .ok (.iload_n 1, 1) := by decide +kernel
theorem dX8_policies_13 : decode cX8_policies 13 = .ok (.aload_n 0, 1) := by decide +kernel
theorem dX8_policies_14 : decode cX8_policies 14 = .ok (.getfield 11, 3) := by decide +kernel
theorem dX8_policies_17 : decode cX8_policies 17 = .ok (.iload_n 2, 1) := by decide +kernel
theorem dX8_policies_18 : decode cX8_policies 18 = .ok (.aaload, 1) := by decide +kernel
theorem dX8_policies_19 : decode cX8_policies 19 = .ok (.getfield 43, 3) := by decide +kernel
theorem dX8_policies_22 : decode cX8_policies 22 = .ok (.ifCond .eq 7, 3) := by decide +kernel
theorem dX8_policies_25 : decode cX8_policies 25 = .ok (.iconst 1, 1) := by decide +kernel
theorem dX8_policies_26 : decode cX8_policies 26 = .ok (.goto 4, 3) := by decide +kernel
theorem dX8_policies_29 : decode cX8_policies 29 = .ok (.iconst 0, 1) := by decide +kernel
theorem dX8_policies_30 : decode cX8_policies 30 = .ok (.iadd, 1) := by decide +kernel
theorem dX8_policies_31 : decode cX8_policies 31 = .ok (.istore_n 1, 1) := by decide +kernel
theorem dX8_policies_32 : decode cX8_policies 32 = .ok (.iinc 2 1, 3) := by decide +kernel
theorem dX8_policies_35 : decode cX8_policies 35 = .ok (.goto (-31), 3) := by decide +kernel
theorem dX8_policies_38 : decode cX8_policies 38 = .ok (.iload_n 1, 1) := by decide +kernel
theorem dX8_policies_39 : decode cX8_policies 39 = .ok (.ireturn, 1) := by decide +kernel
theorem dX8_rules_0 : decode cX8_rules 0 = .ok (.iconst 0, 1) := by decide +kernel
theorem dX8_rules_1 : decode cX8_rules 1 = .ok (.istore_n 1, 1) := by decide +kernel
theorem dX8_rules_2 : decode cX8_rules 2 = .ok (.iconst 0, 1) := by decide +kernel
theorem dX8_rules_3 : decode cX8_rules 3 = .ok (.istore_n 2, 1) := by decide +kernel
theorem dX8_rules_4 : decode cX8_rules 4 = .ok (.iload_n 2, 1) := by decide +kernel
theorem dX8_rules_5 : decode cX8_rules 5 = .ok (.aload_n 0, 1) := by decide +kernel
theorem dX8_rules_6 : decode cX8_rules 6 = .ok (.getfield 18, 3) := by decide +kernel
theorem dX8_rules_9 : decode cX8_rules 9 = .ok (.if_icmp .ge 21, 3) := by decide +kernel
theorem dX8_rules_12 : decode cX8_rules 12 = .ok (.iload_n 1, 1) := by decide +kernel
theorem dX8_rules_13 : decode cX8_rules 13 = .ok (.aload_n 0, 1) := by decide +kernel
theorem dX8_rules_14 : decode cX8_rules 14 = .ok (.getfield 11, 3) := by decide +kernel
theorem dX8_rules_17 : decode cX8_rules 17 = .ok (.iload_n 2, 1) := by decide +kernel
theorem dX8_rules_18 : decode cX8_rules 18 = .ok (.aaload, 1) := by decide +kernel
theorem dX8_rules_19 : decode cX8_rules 19 = .ok (.getfield 47, 3) := by decide +kernel
theorem dX8_rules_22 : decode cX8_rules 22 = .ok (.iadd, 1) := by decide +kernel
theorem dX8_rules_23 : decode cX8_rules 23 = .ok (.istore_n 1, 1) := by decide +kernel
theorem dX8_rules_24 : decode cX8_rules 24 = .ok (.iinc 2 1, 3) := by decide +kernel
theorem dX8_rules_27 : decode cX8_rules 27 = .ok (.goto (-23), 3) := by decide +kernel
theorem dX8_rules_30 : decode cX8_rules 30 = .ok (.iload_n 1, 1) := by decide +kernel
theorem dX8_rules_31 : decode cX8_rules 31 = .ok (.ireturn, 1) := by decide +kernel
theorem dX8_hosts_0 : decode cX8_hosts 0 = .ok (.iconst 0, 1) := by decide +kernel
theorem dX8_hosts_1 : decode cX8_hosts 1 = .ok (.istore_n 1, 1) := by decide +kernel
theorem dX8_hosts_2 : decode cX8_hosts 2 = .ok (.iconst 0, 1) := by decide +kernel
theorem dX8_hosts_3 : decode cX8_hosts 3 = .ok (.istore_n 2, 1) := by decide +kernel
theorem dX8_hosts_4 : decode cX8_hosts 4 = .ok (.iload_n 2, 1) := by decide +kernel
theorem dX8_hosts_5 : decode cX8_hosts 5 = .ok (.aload_n 0, 1) := by decide +kernel
theorem dX8_hosts_6 : decode cX8_hosts 6 = .ok (.getfield 18, 3) := by decide +kernel
theorem dX8_hosts_9 : decode cX8_hosts 9 = .ok (.if_icmp .ge 21, 3) := by decide +kernel
theorem dX8_hosts_12 : decode cX8_hosts 12 = .ok (.iload_n 1, 1) := by decide +kernel
theorem dX8_hosts_13 : decode cX8_hosts 13 = .ok (.aload_n 0, 1) := by decide +kernel
theorem dX8_hosts_14 : decode cX8_hosts 14 = .ok (.getfield 11, 3) := by decide +kernel
theorem dX8_hosts_17 : decode cX8_hosts 17 = .ok (.iload_n 2, 1) := by decide +kernel
theorem dX8_hosts_18 : decode cX8_hosts 18 = .ok (.aaload, 1) := by decide +kernel
theorem dX8_hosts_19 : decode cX8_hosts 19 = .ok (.getfield 50, 3) := by decide +kernel
theorem dX8_hosts_22 : decode cX8_hosts 22 = .ok (.iadd, 1) := by decide +kernel
theorem dX8_hosts_23 : decode cX8_hosts 23 = .ok (.istore_n 1, 1) := by decide +kernel
theorem dX8_hosts_24 : decode cX8_hosts 24 = .ok (.iinc 2 1, 3) := by decide +kernel
theorem dX8_hosts_27 : decode cX8_hosts 27 = .ok (.goto (-23), 3) := by decide +kernel
theorem dX8_hosts_30 : decode cX8_hosts 30 = .ok (.iload_n 1, 1) := by decide +kernel
theorem dX8_hosts_31 : decode cX8_hosts 31 = .ok (.ireturn, 1) := by decide +kernel
theorem dX8_directlyLedTo_0 : decode cX8_directlyLedTo 0 = .ok (.aload_n 0, 1) := by decide +kernel
theorem dX8_directlyLedTo_1 : decode cX8_directlyLedTo 1 = .ok (.iload_n 1, 1) := by decide +kernel
theorem dX8_directlyLedTo_2 : decode cX8_directlyLedTo 2 = .ok (.invokevirtual 29, 3) := by decide +kernel
theorem dX8_directlyLedTo_5 : decode cX8_directlyLedTo 5 = .ok (.astore_n 2, 1) := by decide +kernel
theorem dX8_directlyLedTo_6 : decode cX8_directlyLedTo 6 = .ok (.aload_n 2, 1) := by decide +kernel
theorem dX8_directlyLedTo_7 : decode cX8_directlyLedTo 7 = .ok (.ifnonnull 5, 3) := by decide +kernel
theorem dX8_directlyLedTo_10 : decode cX8_directlyLedTo 10 = .ok (.iconst 0, 1) := by decide +kernel
theorem dX8_directlyLedTo_11 : decode cX8_directlyLedTo 11 = .ok (.ireturn, 1) := by decide +kernel
theorem dX8_directlyLedTo_12 : decode cX8_directlyLedTo 12 = .ok (.aload_n 0, 1) := by decide +kernel
theorem dX8_directlyLedTo_13 : decode cX8_directlyLedTo 13 = .ok (.aload_n 2, 1) := by decide +kernel
theorem dX8_directlyLedTo_14 : decode cX8_directlyLedTo 14 = .ok (.getfield 53, 3) := by decide +kernel
theorem dX8_directlyLedTo_17 : decode cX8_directlyLedTo 17 = .ok (.invokevirtual 56, 3) := by decide +kernel
theorem dX8_directlyLedTo_20 : decode cX8_directlyLedTo 20 = .ok (.istore_n 3, 1) := by decide +kernel
theorem dX8_directlyLedTo_21 : decode cX8_directlyLedTo 21 = .ok (.iconst 0, 1) := by decide +kernel
theorem dX8_directlyLedTo_22 : decode cX8_directlyLedTo 22 = .ok (.istore 4, 2) := by decide +kernel
theorem dX8_directlyLedTo_24 : decode cX8_directlyLedTo 24 = .ok (.iload 4, 2) := by decide +kernel
theorem dX8_directlyLedTo_26 : decode cX8_directlyLedTo 26 = .ok (.aload_n 2, 1) := by decide +kernel
theorem dX8_directlyLedTo_27 : decode cX8_directlyLedTo 27 = .ok (.getfield 47, 3) := by decide +kernel
theorem dX8_directlyLedTo_30 : decode cX8_directlyLedTo 30 = .ok (.if_icmp .ge 40, 3) := by decide +kernel
theorem dX8_directlyLedTo_33 : decode cX8_directlyLedTo 33 = .ok (.aload_n 2, 1) := by decide +kernel
theorem dX8_directlyLedTo_34 : decode cX8_directlyLedTo 34 = .ok (.getfield 59, 3) := by decide +kernel
theorem dX8_directlyLedTo_37 : decode cX8_directlyLedTo 37 = .ok (.iload 4, 2) := by decide +kernel
theorem dX8_directlyLedTo_39 : decode cX8_directlyLedTo 39 = .ok (.aaload, 1) := by decide +kernel
theorem dX8_directlyLedTo_40 : decode cX8_directlyLedTo 40 = .ok (.getfield 63, 3) := by decide +kernel
theorem dX8_directlyLedTo_43 : decode cX8_directlyLedTo 43 = .ok (.iconst 2, 1) := by decide +kernel
theorem dX8_directlyLedTo_44 : decode cX8_directlyLedTo 44 = .ok (.if_icmp .ne 20, 3) := by decide +kernel
theorem dX8_directlyLedTo_47 : decode cX8_directlyLedTo 47 = .ok (.iload_n 3, 1) := by decide +kernel
theorem dX8_directlyLedTo_48 : decode cX8_directlyLedTo 48 = .ok (.aload_n 0, 1) := by decide +kernel
theorem dX8_directlyLedTo_49 : decode cX8_directlyLedTo 49 = .ok (.aload_n 2, 1) := by decide +kernel
theorem dX8_directlyLedTo_50 : decode cX8_directlyLedTo 50 = .ok (.getfield 59, 3) := by decide +kernel
theorem dX8_directlyLedTo_53 : decode cX8_directlyLedTo 53 = .ok (.iload 4, 2) := by decide +kernel
theorem dX8_directlyLedTo_55 : decode cX8_directlyLedTo 55 = .ok (.aaload, 1) := by decide +kernel
theorem dX8_directlyLedTo_56 : decode cX8_directlyLedTo 56 = .ok (.getfield 68, 3) := by decide +kernel
theorem dX8_directlyLedTo_59 : decode cX8_directlyLedTo 59 = .ok (.invokevirtual 56, 3) := by decide +kernel
theorem dX8_directlyLedTo_62 : decode cX8_directlyLedTo 62 = .ok (.ior, 1) := by decide +kernel
theorem dX8_directlyLedTo_63 : decode cX8_directlyLedTo 63 = .ok (.istore_n 3, 1) := by decide +kernel
theorem dX8_directlyLedTo_64 : decode cX8_directlyLedTo 64 = .ok (.iinc 4 1, 3) := by decide +kernel
theorem dX8_directlyLedTo_67 : decode cX8_directlyLedTo 67 = .ok (.goto (-43), 3) := by decide +kernel
theorem dX8_directlyLedTo_70 : decode cX8_directlyLedTo 70 = .ok (.iload_n 3, 1) := by decide +kernel
theorem dX8_directlyLedTo_71 : decode cX8_directlyLedTo 71 = .ok (.ireturn, 1) := by decide +kernel
theorem dX8_bitIfPolicy_0 : decode cX8_bitIfPolicy 0 = .ok (.aload_n 0, 1) := by decide +kernel
theorem dX8_bitIfPolicy_1 : decode cX8_bitIfPolicy 1 = .ok (.iload_n 1, 1) := by decide +kernel
theorem dX8_bitIfPolicy_2 : decode cX8_bitIfPolicy 2 = .ok (.invokevirtual 25, 3) := by decide +kernel
theorem dX8_bitIfPolicy_5 : decode cX8_bitIfPolicy 5 = .ok (.istore_n 2, 1) := by decide +kernel
theorem dX8_bitIfPolicy_6 : decode cX8_bitIfPolicy 6 = .ok (.iload_n 2, 1) := by decide +kernel
theorem dX8_bitIfPolicy_7 : decode cX8_bitIfPolicy 7 = .ok (.iconst (-1), 1) := by decide +kernel
theorem dX8_bitIfPolicy_8 : decode cX8_bitIfPolicy 8 = .ok (.if_icmp .eq 21, 3) := by decide +kernel
theorem dX8_bitIfPolicy_11 : decode cX8_bitIfPolicy 11 = .ok (.aload_n 0, 1) := by decide +kernel
theorem dX8_bitIfPolicy_12 : decode cX8_bitIfPolicy 12 = .ok (.getfield 11, 3) := by decide +kernel
theorem dX8_bitIfPolicy_15 : decode cX8_bitIfPolicy 15 = .ok (.iload_n 2, 1) := by decide +kernel
theorem dX8_bitIfPolicy_16 : decode cX8_bitIfPolicy 16 = .ok (.aaload, 1) := by decide +kernel
theorem dX8_bitIfPolicy_17 : decode cX8_bitIfPolicy 17 = .ok (.getfield 43, 3) := by decide +kernel
theorem dX8_bitIfPolicy_20 : decode cX8_bitIfPolicy 20 = .ok (.ifCond .eq 9, 3) := by decide +kernel
theorem dX8_bitIfPolicy_23 : decode cX8_bitIfPolicy 23 = .ok (.iconst 1, 1) := by decide +kernel
theorem dX8_bitIfPolicy_24 : decode cX8_bitIfPolicy 24 = .ok (.iload_n 2, 1) := by decide +kernel
theorem dX8_bitIfPolicy_25 : decode cX8_bitIfPolicy 25 = .ok (.ishl, 1) := by decide +kernel
theorem dX8_bitIfPolicy_26 : decode cX8_bitIfPolicy 26 = .ok (.goto 4, 3) := by decide +kernel
theorem dX8_bitIfPolicy_29 : decode cX8_bitIfPolicy 29 = .ok (.iconst 0, 1) := by decide +kernel
theorem dX8_bitIfPolicy_30 : decode cX8_bitIfPolicy 30 = .ok (.ireturn, 1) := by decide +kernel
theorem dX9_init_0 : decode cX9_init 0 = .ok (.aload_n 0, 1) := by decide +kernel
theorem dX9_init_1 : decode cX9_init 1 = .ok (.invokespecial 3, 3) := by decide +kernel
theorem dX9_init_4 : decode cX9_init 4 = .ok (.aload_n 0, 1) := by decide +kernel
theorem dX9_init_5 : decode cX9_init 5 = .ok (.bipush 8, 2) := by decide +kernel
theorem dX9_init_7 : decode cX9_init 7 = .ok (.newarray .int, 2) := by decide +kernel
theorem dX9_init_9 : decode cX9_init 9 = .ok (.putfield 9, 3) := by decide +kernel
theorem dX9_init_12 : decode cX9_init 12 = .ok (.return_, 1) := by decide +kernel
theorem dX9_start_0 : decode cX9_start 0 = .ok (.aload_n 0, 1) := by decide +kernel
theorem dX9_start_1 : decode cX9_start 1 = .ok (.iload_n 1, 1) := by decide +kernel
theorem dX9_start_2 : decode cX9_start 2 = .ok (.putfield 15, 3) := by decide +kernel
theorem dX9_start_5 : decode cX9_start 5 = .ok (.aload_n 0, 1) := by decide +kernel
theorem dX9_start_6 : decode cX9_start 6 = .ok (.iload_n 2, 1) := by decide +kernel
theorem dX9_start_7 : decode cX9_start 7 = .ok (.putfield 19, 3) := by decide +kernel
theorem dX9_start_10 : decode cX9_start 10 = .ok (.aload_n 0, 1) := by decide +kernel
theorem dX9_start_11 : decode cX9_start 11 = .ok (.iconst 0, 1) := by decide +kernel
theorem dX9_start_12 : decode cX9_start 12 = .ok (.putfield 22, 3) := by decide +kernel
theorem dX9_start_15 : decode cX9_start 15 = .ok (.aload_n 0, 1) := by decide +kernel
theorem dX9_start_16 : decode cX9_start 16 = .ok (.iconst 0, 1) := by decide +kernel
theorem dX9_start_17 : decode cX9_start 17 = .ok (.putfield 25, 3) := by decide +kernel
theorem dX9_start_20 : decode cX9_start 20 = .ok (.aload_n 0, 1) := by decide +kernel
theorem dX9_start_21 : decode cX9_start 21 = .ok (.iconst 0, 1) := by decide +kernel
theorem dX9_start_22 : decode cX9_start 22 = .ok (.putfield 28, 3) := by decide +kernel
theorem dX9_start_25 : decode cX9_start 25 = .ok (.aload_n 0, 1) := by decide +kernel
theorem dX9_start_26 : decode cX9_start 26 = .ok (.iconst 0, 1) := by decide +kernel
theorem dX9_start_27 : decode cX9_start 27 = .ok (.putfield 31, 3) := by decide +kernel
theorem dX9_start_30 : decode cX9_start 30 = .ok (.return_, 1) := by decide +kernel
theorem dX9_hasPrefixOf_0 : decode cX9_hasPrefixOf 0 = .ok (.aload_n 0, 1) := by decide +kernel
theorem dX9_hasPrefixOf_1 : decode cX9_hasPrefixOf 1 = .ok (.getfield 22, 3) := by decide +kernel
theorem dX9_hasPrefixOf_4 : decode cX9_hasPrefixOf 4 = .ok (.iload_n 1, 1) := by decide +kernel
theorem dX9_hasPrefixOf_5 : decode cX9_hasPrefixOf 5 = .ok (.ixor, 1) := by decide +kernel
theorem dX9_hasPrefixOf_6 : decode cX9_hasPrefixOf 6 = .ok (.bipush 8, 2) := by decide +kernel
theorem dX9_hasPrefixOf_8 : decode cX9_hasPrefixOf 8 = .ok (.aload_n 0, 1) := by decide +kernel
theorem dX9_hasPrefixOf_9 : decode cX9_hasPrefixOf 9 = .ok (.getfield 25, 3) := by decide +kernel
theorem dX9_hasPrefixOf_12 : decode cX9_hasPrefixOf 12 = .ok (.isub, 1) := by decide +kernel
theorem dX9_hasPrefixOf_13 : decode cX9_hasPrefixOf 13 = .ok (.ishr, 1) := by decide +kernel
theorem dX9_hasPrefixOf_14 : decode cX9_hasPrefixOf 14 = .ok (.ifCond .ne 7, 3) := by decide +kernel
theorem dX9_hasPrefixOf_17 : decode cX9_hasPrefixOf 17 = .ok (.iconst 1, 1) := by decide +kernel
theorem dX9_hasPrefixOf_18 : decode cX9_hasPrefixOf 18 = .ok (.goto 4, 3) := by decide +kernel
theorem dX9_hasPrefixOf_21 : decode cX9_hasPrefixOf 21 = .ok (.iconst 0, 1) := by decide +kernel
theorem dX9_hasPrefixOf_22 : decode cX9_hasPrefixOf 22 = .ok (.ireturn, 1) := by decide +kernel
theorem dX10_init_0 : decode cX10_init 0 = .ok (.aload_n 0, 1) := by decide +kernel
theorem dX10_init_1 : decode cX10_init 1 = .ok (.invokespecial 3, 3) := by decide +kernel
theorem dX10_init_4 : decode cX10_init 4 = .ok (.aload_n 0, 1) := by decide +kernel
theorem dX10_init_5 : decode cX10_init 5 = .ok (.new 9, 3) := by decide +kernel
theorem dX10_init_8 : decode cX10_init 8 = .ok (.dup, 1) := by decide +kernel
theorem dX10_init_9 : decode cX10_init 9 = .ok (.invokespecial 11, 3) := by decide +kernel
theorem dX10_init_12 : decode cX10_init 12 = .ok (.putfield 12, 3) := by decide +kernel
theorem dX10_init_15 : decode cX10_init 15 = .ok (.aload_n 0, 1) := by decide +kernel
theorem dX10_init_16 : decode cX10_init 16 = .ok (.new 16, 3) := by decide +kernel
theorem dX10_init_19 : decode cX10_init 19 = .ok (.dup, 1) := by decide +kernel
theorem dX10_init_20 : decode cX10_init 20 = .ok (.invokespecial 18, 3) := by decide +kernel
theorem dX10_init_23 : decode cX10_init 23 = .ok (.putfield 19, 3) := by decide +kernel
theorem dX10_init_26 : decode cX10_init 26 = .ok (.aload_n 0, 1) := by decide +kernel
theorem dX10_init_27 : decode cX10_init 27 = .ok (.new 23, 3) := by decide +kernel
theorem dX10_init_30 : decode cX10_init 30 = .ok (.dup, 1) := by decide +kernel
theorem dX10_init_31 : decode cX10_init 31 = .ok (.invokespecial 25, 3) := by decide +kernel
theorem dX10_init_34 : decode cX10_init 34 = .ok (.putfield 26, 3) := by decide +kernel
theorem dX10_init_37 : decode cX10_init 37 = .ok (.aload_n 0, 1) := by decide +kernel
theorem dX10_init_38 : decode cX10_init 38 = .ok (.new 30, 3) := by decide +kernel
theorem dX10_init_41 : decode cX10_init 41 = .ok (.dup, 1) := by decide +kernel
theorem dX10_init_42 : decode cX10_init 42 = .ok (.invokespecial 32, 3) := by decide +kernel
theorem dX10_init_45 : decode cX10_init 45 = .ok (.putfield 33, 3) := by decide +kernel
theorem dX10_init_48 : decode cX10_init 48 = .ok (.aload_n 0, 1) := by decide +kernel
theorem dX10_init_49 : decode cX10_init 49 = .ok (.new 37, 3) := by decide +kernel
theorem dX10_init_52 : decode cX10_init 52 = .ok (.dup, 1) := by decide +kernel
theorem dX10_init_53 : decode cX10_init 53 = .ok (.invokespecial 39, 3) := by decide +kernel
theorem dX10_init_56 : decode cX10_init 56 = .ok (.putfield 40, 3) := by decide +kernel
theorem dX10_init_59 : decode cX10_init 59 = .ok (.new 16, 3) := by decide +kernel
theorem dX10_init_62 : decode cX10_init 62 = .ok (.dup, 1) := by decide +kernel
theorem dX10_init_63 : decode cX10_init 63 = .ok (.invokespecial 18, 3) := by decide +kernel
theorem dX10_init_66 : decode cX10_init 66 = .ok (.astore_n 1, 1) := by decide +kernel
theorem dX10_init_67 : decode cX10_init 67 = .ok (.iconst 0, 1) := by decide +kernel
theorem dX10_init_68 : decode cX10_init 68 = .ok (.istore_n 2, 1) := by decide +kernel
theorem dX10_init_69 : decode cX10_init 69 = .ok (.iload_n 2, 1) := by decide +kernel
theorem dX10_init_70 : decode cX10_init 70 = .ok (.ldc 44, 2) := by decide +kernel
theorem dX10_init_72 : decode cX10_init 72 = .ok (.invokevirtual 46, 3) := by decide +kernel
theorem dX10_init_75 : decode cX10_init 75 = .ok (.if_icmp .ge 23, 3) := by decide +kernel
theorem dX10_init_78 : decode cX10_init 78 = .ok (.aload_n 0, 1) := by decide +kernel
theorem dX10_init_79 : decode cX10_init 79 = .ok (.getfield 12, 3) := by decide +kernel
theorem dX10_init_82 : decode cX10_init 82 = .ok (.ldc 44, 2) := by decide +kernel
theorem dX10_init_84 : decode cX10_init 84 = .ok (.iload_n 2, 1) := by decide +kernel
theorem dX10_init_85 : decode cX10_init 85 = .ok (.invokevirtual 52, 3) := by decide +kernel
theorem dX10_init_88 : decode cX10_init 88 = .ok (.invokevirtual 56, 3) := by decide +kernel
theorem dX10_init_91 : decode cX10_init 91 = .ok (.pop, 1) := by decide +kernel
theorem dX10_init_92 : decode cX10_init 92 = .ok (.iinc 2 1, 3) := by decide +kernel
theorem dX10_init_95 : decode cX10_init 95 = .ok (.goto (-26), 3) := by decide +kernel
theorem dX10_init_98 : decode cX10_init 98 = .ok (.aload_n 0, 1) := by decide +kernel
theorem dX10_init_99 : decode cX10_init 99 = .ok (.getfield 12, 3) := by decide +kernel
theorem dX10_init_102 : decode cX10_init 102 = .ok (.aload_n 1, 1) := by decide +kernel
theorem dX10_init_103 : decode cX10_init 103 = .ok (.invokevirtual 60, 3) := by decide +kernel
theorem dX10_init_106 : decode cX10_init 106 = .ok (.pop, 1) := by decide +kernel
theorem dX10_init_107 : decode cX10_init 107 = .ok (.aload_n 0, 1) := by decide +kernel
theorem dX10_init_108 : decode cX10_init 108 = .ok (.getfield 12, 3) := by decide +kernel
theorem dX10_init_111 : decode cX10_init 111 = .ok (.invokevirtual 64, 3) := by decide +kernel
theorem dX10_init_114 : decode cX10_init 114 = .ok (.aload_n 0, 1) := by decide +kernel
theorem dX10_init_115 : decode cX10_init 115 = .ok (.aload_n 1, 1) := by decide +kernel
theorem dX10_init_116 : decode cX10_init 116 = .ok (.putfield 67, 3) := by decide +kernel
theorem dX10_init_119 : decode cX10_init 119 = .ok (.return_, 1) := by decide +kernel
theorem dX10_write_0 : decode cX10_write 0 = .ok (.iload_n 1, 1) := by decide +kernel
theorem dX10_write_1 : decode cX10_write 1 = .ok (.bipush 32, 2) := by decide +kernel
theorem dX10_write_3 : decode cX10_write 3 = .ok (.if_icmp .lt 9, 3) := by decide +kernel
theorem dX10_write_6 : decode cX10_write 6 = .ok (.iload_n 1, 1) := by decide +kernel
theorem dX10_write_7 : decode cX10_write 7 = .ok (.bipush 126, 2) := by decide +kernel
theorem dX10_write_9 : decode cX10_write 9 = .ok (.if_icmp .le 5, 3) := by decide +kernel
theorem dX10_write_12 : decode cX10_write 12 = .ok (.iconst (-1), 1) := by decide +kernel
theorem dX10_write_13 : decode cX10_write 13 = .ok (.ireturn, 1) := by decide +kernel
theorem dX10_write_14 : decode cX10_write 14 = .ok (.aload_n 0, 1) := by decide +kernel
theorem dX10_write_15 : decode cX10_write 15 = .ok (.getfield 12, 3) := by decide +kernel
theorem dX10_write_18 : decode cX10_write 18 = .ok (.iload_n 1, 1) := by decide +kernel
theorem dX10_write_19 : decode cX10_write 19 = .ok (.i2c, 1) := by decide +kernel
theorem dX10_write_20 : decode cX10_write 20 = .ok (.invokevirtual 56, 3) := by decide +kernel
theorem dX10_write_23 : decode cX10_write 23 = .ok (.ifCond .eq 13, 3) := by decide +kernel
theorem dX10_write_26 : decode cX10_write 26 = .ok (.aload_n 0, 1) := by decide +kernel
theorem dX10_write_27 : decode cX10_write 27 = .ok (.getfield 12, 3) := by decide +kernel
theorem dX10_write_30 : decode cX10_write 30 = .ok (.getfield 70, 3) := by decide +kernel
theorem dX10_write_33 : decode cX10_write 33 = .ok (.goto 5, 3) := by decide +kernel
theorem dX10_write_36 : decode cX10_write 36 = .ok (.bipush (-3), 2) := by decide +kernel
theorem dX10_write_38 : decode cX10_write 38 = .ok (.ireturn, 1) := by decide +kernel
theorem dX10_wipe_0 : decode cX10_wipe 0 = .ok (.aload_n 0, 1) := by decide +kernel
theorem dX10_wipe_1 : decode cX10_wipe 1 = .ok (.getfield 12, 3) := by decide +kernel
theorem dX10_wipe_4 : decode cX10_wipe 4 = .ok (.getfield 70, 3) := by decide +kernel
theorem dX10_wipe_7 : decode cX10_wipe 7 = .ok (.istore_n 1, 1) := by decide +kernel
theorem dX10_wipe_8 : decode cX10_wipe 8 = .ok (.aload_n 0, 1) := by decide +kernel
theorem dX10_wipe_9 : decode cX10_wipe 9 = .ok (.getfield 12, 3) := by decide +kernel
theorem dX10_wipe_12 : decode cX10_wipe 12 = .ok (.invokevirtual 64, 3) := by decide +kernel
theorem dX10_wipe_15 : decode cX10_wipe 15 = .ok (.iload_n 1, 1) := by decide +kernel
theorem dX10_wipe_16 : decode cX10_wipe 16 = .ok (.ireturn, 1) := by decide +kernel
theorem dX10_fault_0 : decode cX10_fault 0 = .ok (.aload_n 0, 1) := by decide +kernel
theorem dX10_fault_1 : decode cX10_fault 1 = .ok (.getfield 12, 3) := by decide +kernel
theorem dX10_fault_4 : decode cX10_fault 4 = .ok (.aload_n 0, 1) := by decide +kernel
theorem dX10_fault_5 : decode cX10_fault 5 = .ok (.getfield 19, 3) := by decide +kernel
theorem dX10_fault_8 : decode cX10_fault 8 = .ok (.invokevirtual 60, 3) := by decide +kernel
theorem dX10_fault_11 : decode cX10_fault 11 = .ok (.ireturn, 1) := by decide +kernel
theorem dX10_lay_0 : decode cX10_lay 0 = .ok (.aload_n 0, 1) := by decide +kernel
theorem dX10_lay_1 : decode cX10_lay 1 = .ok (.getfield 12, 3) := by decide +kernel
theorem dX10_lay_4 : decode cX10_lay 4 = .ok (.aload_n 0, 1) := by decide +kernel
theorem dX10_lay_5 : decode cX10_lay 5 = .ok (.getfield 19, 3) := by decide +kernel
theorem dX10_lay_8 : decode cX10_lay 8 = .ok (.invokevirtual 60, 3) := by decide +kernel
theorem dX10_lay_11 : decode cX10_lay 11 = .ok (.bipush (-4), 2) := by decide +kernel
theorem dX10_lay_13 : decode cX10_lay 13 = .ok (.if_icmp .ne 13, 3) := by decide +kernel
theorem dX10_lay_16 : decode cX10_lay 16 = .ok (.aload_n 0, 1) := by decide +kernel
theorem dX10_lay_17 : decode cX10_lay 17 = .ok (.getfield 19, 3) := by decide +kernel
theorem dX10_lay_20 : decode cX10_lay 20 = .ok (.invokevirtual 73, 3) := by decide +kernel
theorem dX10_lay_23 : decode cX10_lay 23 = .ok (.ifCond .ne 6, 3) := by decide +kernel
theorem dX10_lay_26 : decode cX10_lay 26 = .ok (.bipush (-2), 2) := by decide +kernel
theorem dX10_lay_28 : decode cX10_lay 28 = .ok (.ireturn, 1) := by decide +kernel
theorem dX10_lay_29 : decode cX10_lay 29 = .ok (.aload_n 0, 1) := by decide +kernel
theorem dX10_lay_30 : decode cX10_lay 30 = .ok (.getfield 67, 3) := by decide +kernel
theorem dX10_lay_33 : decode cX10_lay 33 = .ok (.astore_n 1, 1) := by decide +kernel
theorem dX10_lay_34 : decode cX10_lay 34 = .ok (.aload_n 0, 1) := by decide +kernel
theorem dX10_lay_35 : decode cX10_lay 35 = .ok (.aload_n 0, 1) := by decide +kernel
theorem dX10_lay_36 : decode cX10_lay 36 = .ok (.getfield 19, 3) := by decide +kernel
theorem dX10_lay_39 : decode cX10_lay 39 = .ok (.putfield 67, 3) := by decide +kernel
theorem dX10_lay_42 : decode cX10_lay 42 = .ok (.aload_n 0, 1) := by decide +kernel
theorem dX10_lay_43 : decode cX10_lay 43 = .ok (.aload_n 1, 1) := by decide +kernel
theorem dX10_lay_44 : decode cX10_lay 44 = .ok (.putfield 19, 3) := by decide +kernel
theorem dX10_lay_47 : decode cX10_lay 47 = .ok (.aload_n 0, 1) := by decide +kernel
theorem dX10_lay_48 : decode cX10_lay 48 = .ok (.getfield 33, 3) := by decide +kernel
theorem dX10_lay_51 : decode cX10_lay 51 = .ok (.invokevirtual 76, 3) := by decide +kernel
theorem dX10_lay_54 : decode cX10_lay 54 = .ok (.aload_n 0, 1) := by decide +kernel
theorem dX10_lay_55 : decode cX10_lay 55 = .ok (.getfield 40, 3) := by decide +kernel
theorem dX10_lay_58 : decode cX10_lay 58 = .ok (.invokevirtual 79, 3) := by decide +kernel
theorem dX10_lay_61 : decode cX10_lay 61 = .ok (.aload_n 0, 1) := by decide +kernel
theorem dX10_lay_62 : decode cX10_lay 62 = .ok (.getfield 67, 3) := by decide +kernel
theorem dX10_lay_65 : decode cX10_lay 65 = .ok (.getfield 80, 3) := by decide +kernel
theorem dX10_lay_68 : decode cX10_lay 68 = .ok (.ireturn, 1) := by decide +kernel
theorem dX10_named_0 : decode cX10_named 0 = .ok (.iload_n 1, 1) := by decide +kernel
theorem dX10_named_1 : decode cX10_named 1 = .ok (.ifCond .lt 8, 3) := by decide +kernel
theorem dX10_named_4 : decode cX10_named 4 = .ok (.iload_n 1, 1) := by decide +kernel
theorem dX10_named_5 : decode cX10_named 5 = .ok (.iconst 2, 1) := by decide +kernel
theorem dX10_named_6 : decode cX10_named 6 = .ok (.if_icmp .le 5, 3) := by decide +kernel
theorem dX10_named_9 : decode cX10_named 9 = .ok (.iconst (-1), 1) := by decide +kernel
theorem dX10_named_10 : decode cX10_named 10 = .ok (.ireturn, 1) := by decide +kernel
theorem dX10_named_11 : decode cX10_named 11 = .ok (.aload_n 0, 1) := by decide +kernel
theorem dX10_named_12 : decode cX10_named 12 = .ok (.getfield 12, 3) := by decide +kernel
theorem dX10_named_15 : decode cX10_named 15 = .ok (.invokevirtual 83, 3) := by decide +kernel
theorem dX10_named_18 : decode cX10_named 18 = .ok (.istore_n 2, 1) := by decide +kernel
theorem dX10_named_19 : decode cX10_named 19 = .ok (.iload_n 2, 1) := by decide +kernel
theorem dX10_named_20 : decode cX10_named 20 = .ok (.ifCond .ne 6, 3) := by decide +kernel
theorem dX10_named_23 : decode cX10_named 23 = .ok (.bipush (-2), 2) := by decide +kernel
theorem dX10_named_25 : decode cX10_named 25 = .ok (.ireturn, 1) := by decide +kernel
theorem dX10_named_26 : decode cX10_named 26 = .ok (.aload_n 0, 1) := by decide +kernel
theorem dX10_named_27 : decode cX10_named 27 = .ok (.getfield 67, 3) := by decide +kernel
theorem dX10_named_30 : decode cX10_named 30 = .ok (.iload_n 2, 1) := by decide +kernel
theorem dX10_named_31 : decode cX10_named 31 = .ok (.invokevirtual 86, 3) := by decide +kernel
theorem dX10_named_34 : decode cX10_named 34 = .ok (.istore_n 3, 1) := by decide +kernel
theorem dX10_named_35 : decode cX10_named 35 = .ok (.iload_n 1, 1) := by decide +kernel
theorem dX10_named_36 : decode cX10_named 36 = .ok (.ifCond .eq 8, 3) := by decide +kernel
theorem dX10_named_39 : decode cX10_named 39 = .ok (.iload_n 3, 1) := by decide +kernel
theorem dX10_named_40 : decode cX10_named 40 = .ok (.iconst (-1), 1) := by decide +kernel
theorem dX10_named_41 : decode cX10_named 41 = .ok (.if_icmp .eq 15, 3) := by decide +kernel
theorem dX10_named_44 : decode cX10_named 44 = .ok (.iload_n 3, 1) := by decide +kernel
theorem dX10_named_45 : decode cX10_named 45 = .ok (.iconst (-1), 1) := by decide +kernel
theorem dX10_named_46 : decode cX10_named 46 = .ok (.if_icmp .ne 8, 3) := by decide +kernel
theorem dX10_named_49 : decode cX10_named 49 = .ok (.bipush (-4), 2) := by decide +kernel
theorem dX10_named_51 : decode cX10_named 51 = .ok (.goto 4, 3) := by decide +kernel
theorem dX10_named_54 : decode cX10_named 54 = .ok (.iload_n 3, 1) := by decide +kernel
theorem dX10_named_55 : decode cX10_named 55 = .ok (.ireturn, 1) := by decide +kernel
theorem dX10_named_56 : decode cX10_named 56 = .ok (.aload_n 0, 1) := by decide +kernel
theorem dX10_named_57 : decode cX10_named 57 = .ok (.getfield 67, 3) := by decide +kernel
theorem dX10_named_60 : decode cX10_named 60 = .ok (.iload_n 2, 1) := by decide +kernel
theorem dX10_named_61 : decode cX10_named 61 = .ok (.invokevirtual 90, 3) := by decide +kernel
theorem dX10_named_64 : decode cX10_named 64 = .ok (.istore 4, 2) := by decide +kernel
theorem dX10_named_66 : decode cX10_named 66 = .ok (.iload_n 1, 1) := by decide +kernel
theorem dX10_named_67 : decode cX10_named 67 = .ok (.iconst 1, 1) := by decide +kernel
theorem dX10_named_68 : decode cX10_named 68 = .ok (.if_icmp .ne 18, 3) := by decide +kernel
theorem dX10_named_71 : decode cX10_named 71 = .ok (.iload 4, 2) := by decide +kernel
theorem dX10_named_73 : decode cX10_named 73 = .ok (.ifCond .le 10, 3) := by decide +kernel
theorem dX10_named_76 : decode cX10_named 76 = .ok (.iload 4, 2) := by decide +kernel
theorem dX10_named_78 : decode cX10_named 78 = .ok (.iconst 1, 1) := by decide +kernel
theorem dX10_named_79 : decode cX10_named 79 = .ok (.isub, 1) := by decide +kernel
theorem dX10_named_80 : decode cX10_named 80 = .ok (.goto 5, 3) := by decide +kernel
theorem dX10_named_83 : decode cX10_named 83 = .ok (.bipush (-4), 2) := by decide +kernel
theorem dX10_named_85 : decode cX10_named 85 = .ok (.ireturn, 1) := by decide +kernel
theorem dX10_named_86 : decode cX10_named 86 = .ok (.iload 4, 2) := by decide +kernel
theorem dX10_named_88 : decode cX10_named 88 = .ok (.aload_n 0, 1) := by decide +kernel
theorem dX10_named_89 : decode cX10_named 89 = .ok (.getfield 67, 3) := by decide +kernel
theorem dX10_named_92 : decode cX10_named 92 = .ok (.getfield 80, 3) := by decide +kernel
theorem dX10_named_95 : decode cX10_named 95 = .ok (.if_icmp .ge 8, 3) := by decide +kernel
theorem dX10_named_98 : decode cX10_named 98 = .ok (.iload 4, 2) := by decide +kernel
theorem dX10_named_100 : decode cX10_named 100 = .ok (.goto 5, 3) := by decide +kernel
theorem dX10_named_103 : decode cX10_named 103 = .ok (.bipush (-4), 2) := by decide +kernel
theorem dX10_named_105 : decode cX10_named 105 = .ok (.ireturn, 1) := by decide +kernel
theorem dX10_check_0 : decode cX10_check 0 = .ok (.aload_n 0, 1) := by decide +kernel
theorem dX10_check_1 : decode cX10_check 1 = .ok (.iload_n 1, 1) := by decide +kernel
theorem dX10_check_2 : decode cX10_check 2 = .ok (.invokevirtual 93, 3) := by decide +kernel
theorem dX10_check_5 : decode cX10_check 5 = .ok (.ifCond .eq 17, 3) := by decide +kernel
theorem dX10_check_8 : decode cX10_check 8 = .ok (.iload_n 2, 1) := by decide +kernel
theorem dX10_check_9 : decode cX10_check 9 = .ok (.invokestatic 97, 3) := by decide +kernel
theorem dX10_check_12 : decode cX10_check 12 = .ok (.ifCond .eq 10, 3) := by decide +kernel
theorem dX10_check_15 : decode cX10_check 15 = .ok (.iload_n 3, 1) := by decide +kernel
theorem dX10_check_16 : decode cX10_check 16 = .ok (.invokestatic 100, 3) := by decide +kernel
theorem dX10_check_19 : decode cX10_check 19 = .ok (.ifCond .ne 5, 3) := by decide +kernel
theorem dX10_check_22 : decode cX10_check 22 = .ok (.iconst (-1), 1) := by decide +kernel
theorem dX10_check_23 : decode cX10_check 23 = .ok (.ireturn, 1) := by decide +kernel
theorem dX10_check_24 : decode cX10_check 24 = .ok (.aload_n 0, 1) := by decide +kernel
theorem dX10_check_25 : decode cX10_check 25 = .ok (.getfield 26, 3) := by decide +kernel
theorem dX10_check_28 : decode cX10_check 28 = .ok (.aload_n 0, 1) := by decide +kernel
theorem dX10_check_29 : decode cX10_check 29 = .ok (.getfield 67, 3) := by decide +kernel
theorem dX10_check_32 : decode cX10_check 32 = .ok (.iload_n 1, 1) := by decide +kernel
theorem dX10_check_33 : decode cX10_check 33 = .ok (.iload_n 2, 1) := by decide +kernel
theorem dX10_check_34 : decode cX10_check 34 = .ok (.iload_n 3, 1) := by decide +kernel
theorem dX10_check_35 : decode cX10_check 35 = .ok (.invokevirtual 103, 3) := by decide +kernel
theorem dX10_check_38 : decode cX10_check 38 = .ok (.istore 4, 2) := by decide +kernel
theorem dX10_check_40 : decode cX10_check 40 = .ok (.aload_n 0, 1) := by decide +kernel
theorem dX10_check_41 : decode cX10_check 41 = .ok (.getfield 33, 3) := by decide +kernel
theorem dX10_check_44 : decode cX10_check 44 = .ok (.aload_n 0, 1) := by decide +kernel
theorem dX10_check_45 : decode cX10_check 45 = .ok (.getfield 26, 3) := by decide +kernel
theorem dX10_check_48 : decode cX10_check 48 = .ok (.iload_n 1, 1) := by decide +kernel
theorem dX10_check_49 : decode cX10_check 49 = .ok (.iload 4, 2) := by decide +kernel
theorem dX10_check_51 : decode cX10_check 51 = .ok (.invokevirtual 107, 3) := by decide +kernel
theorem dX10_check_54 : decode cX10_check 54 = .ok (.iload 4, 2) := by decide +kernel
theorem dX10_check_56 : decode cX10_check 56 = .ok (.ireturn, 1) := by decide +kernel
theorem dX10_kept_0 : decode cX10_kept 0 = .ok (.iload_n 1, 1) := by decide +kernel
theorem dX10_kept_1 : decode cX10_kept 1 = .ok (.ifCond .lt 13, 3) := by decide +kernel
theorem dX10_kept_4 : decode cX10_kept 4 = .ok (.iload_n 2, 1) := by decide +kernel
theorem dX10_kept_5 : decode cX10_kept 5 = .ok (.ifCond .lt 9, 3) := by decide +kernel
theorem dX10_kept_8 : decode cX10_kept 8 = .ok (.iload_n 2, 1) := by decide +kernel
theorem dX10_kept_9 : decode cX10_kept 9 = .ok (.bipush 8, 2) := by decide +kernel
theorem dX10_kept_11 : decode cX10_kept 11 = .ok (.if_icmp .lt 5, 3) := by decide +kernel
theorem dX10_kept_14 : decode cX10_kept 14 = .ok (.iconst (-1), 1) := by decide +kernel
theorem dX10_kept_15 : decode cX10_kept 15 = .ok (.ireturn, 1) := by decide +kernel
theorem dX10_kept_16 : decode cX10_kept 16 = .ok (.aload_n 0, 1) := by decide +kernel
theorem dX10_kept_17 : decode cX10_kept 17 = .ok (.getfield 33, 3) := by decide +kernel
theorem dX10_kept_20 : decode cX10_kept 20 = .ok (.iload_n 1, 1) := by decide +kernel
theorem dX10_kept_21 : decode cX10_kept 21 = .ok (.iload_n 2, 1) := by decide +kernel
theorem dX10_kept_22 : decode cX10_kept 22 = .ok (.invokevirtual 111, 3) := by decide +kernel
theorem dX10_kept_25 : decode cX10_kept 25 = .ok (.ireturn, 1) := by decide +kernel
theorem dX10_sign_0 : decode cX10_sign 0 = .ok (.aload_n 0, 1) := by decide +kernel
theorem dX10_sign_1 : decode cX10_sign 1 = .ok (.iload_n 1, 1) := by decide +kernel
theorem dX10_sign_2 : decode cX10_sign 2 = .ok (.iload_n 2, 1) := by decide +kernel
theorem dX10_sign_3 : decode cX10_sign 3 = .ok (.invokevirtual 115, 3) := by decide +kernel
theorem dX10_sign_6 : decode cX10_sign 6 = .ok (.astore 4, 2) := by decide +kernel
theorem dX10_sign_8 : decode cX10_sign 8 = .ok (.aload 4, 2) := by decide +kernel
theorem dX10_sign_10 : decode cX10_sign 10 = .ok (.ifnull 16, 3) := by decide +kernel
theorem dX10_sign_13 : decode cX10_sign 13 = .ok (.iload_n 3, 1) := by decide +kernel
theorem dX10_sign_14 : decode cX10_sign 14 = .ok (.ifCond .lt 12, 3) := by decide +kernel
theorem dX10_sign_17 : decode cX10_sign 17 = .ok (.iload_n 3, 1) := by decide +kernel
theorem dX10_sign_18 : decode cX10_sign 18 = .ok (.ldc 119, 2) := by decide +kernel
theorem dX10_sign_20 : decode cX10_sign 20 = .ok (.invokevirtual 46, 3) := by decide +kernel
theorem dX10_sign_23 : decode cX10_sign 23 = .ok (.if_icmp .lt 5, 3) := by decide +kernel
theorem dX10_sign_26 : decode cX10_sign 26 = .ok (.iconst (-1), 1) := by decide +kernel
theorem dX10_sign_27 : decode cX10_sign 27 = .ok (.ireturn, 1) := by decide +kernel
theorem dX10_sign_28 : decode cX10_sign 28 = .ok (.aload 4, 2) := by decide +kernel
theorem dX10_sign_30 : decode cX10_sign 30 = .ok (.getfield 121, 3) := by decide +kernel
theorem dX10_sign_33 : decode cX10_sign 33 = .ok (.istore 5, 2) := by decide +kernel
theorem dX10_sign_35 : decode cX10_sign 35 = .ok (.iload 5, 2) := by decide +kernel
theorem dX10_sign_37 : decode cX10_sign 37 = .ok (.iload_n 3, 1) := by decide +kernel
theorem dX10_sign_38 : decode cX10_sign 38 = .ok (.if_icmp .ne 6, 3) := by decide +kernel
theorem dX10_sign_41 : decode cX10_sign 41 = .ok (.bipush (-2), 2) := by decide +kernel
theorem dX10_sign_43 : decode cX10_sign 43 = .ok (.ireturn, 1) := by decide +kernel
theorem dX10_sign_44 : decode cX10_sign 44 = .ok (.aload 4, 2) := by decide +kernel
theorem dX10_sign_46 : decode cX10_sign 46 = .ok (.iload_n 3, 1) := by decide +kernel
theorem dX10_sign_47 : decode cX10_sign 47 = .ok (.putfield 121, 3) := by decide +kernel
theorem dX10_sign_50 : decode cX10_sign 50 = .ok (.aload_n 0, 1) := by decide +kernel
theorem dX10_sign_51 : decode cX10_sign 51 = .ok (.iconst 0, 1) := by decide +kernel
theorem dX10_sign_52 : decode cX10_sign 52 = .ok (.iload_n 1, 1) := by decide +kernel
theorem dX10_sign_53 : decode cX10_sign 53 = .ok (.iload_n 2, 1) := by decide +kernel
theorem dX10_sign_54 : decode cX10_sign 54 = .ok (.iload 5, 2) := by decide +kernel
theorem dX10_sign_56 : decode cX10_sign 56 = .ok (.invokevirtual 126, 3) := by decide +kernel
theorem dX10_sign_59 : decode cX10_sign 59 = .ok (.iload 5, 2) := by decide +kernel
theorem dX10_sign_61 : decode cX10_sign 61 = .ok (.ireturn, 1) := by decide +kernel
theorem dX10_swap_0 : decode cX10_swap 0 = .ok (.aload_n 0, 1) := by decide +kernel
theorem dX10_swap_1 : decode cX10_swap 1 = .ok (.getfield 67, 3) := by decide +kernel
theorem dX10_swap_4 : decode cX10_swap 4 = .ok (.iload_n 1, 1) := by decide +kernel
theorem dX10_swap_5 : decode cX10_swap 5 = .ok (.invokevirtual 130, 3) := by decide +kernel
theorem dX10_swap_8 : decode cX10_swap 8 = .ok (.astore_n 3, 1) := by decide +kernel
theorem dX10_swap_9 : decode cX10_swap 9 = .ok (.aload_n 3, 1) := by decide +kernel
theorem dX10_swap_10 : decode cX10_swap 10 = .ok (.ifnull 11, 3) := by decide +kernel
theorem dX10_swap_13 : decode cX10_swap 13 = .ok (.aload_n 3, 1) := by decide +kernel
theorem dX10_swap_14 : decode cX10_swap 14 = .ok (.iload_n 2, 1) := by decide +kernel
theorem dX10_swap_15 : decode cX10_swap 15 = .ok (.invokevirtual 134, 3) := by decide +kernel
theorem dX10_swap_18 : decode cX10_swap 18 = .ok (.ifnonnull 5, 3) := by decide +kernel
theorem dX10_swap_21 : decode cX10_swap 21 = .ok (.iconst (-1), 1) := by decide +kernel
theorem dX10_swap_22 : decode cX10_swap 22 = .ok (.ireturn, 1) := by decide +kernel
theorem dX10_swap_23 : decode cX10_swap 23 = .ok (.aload_n 3, 1) := by decide +kernel
theorem dX10_swap_24 : decode cX10_swap 24 = .ok (.iload_n 2, 1) := by decide +kernel
theorem dX10_swap_25 : decode cX10_swap 25 = .ok (.invokevirtual 139, 3) := by decide +kernel
theorem dX10_swap_28 : decode cX10_swap 28 = .ok (.ifCond .ne 6, 3) := by decide +kernel
theorem dX10_swap_31 : decode cX10_swap 31 = .ok (.bipush (-2), 2) := by decide +kernel
theorem dX10_swap_33 : decode cX10_swap 33 = .ok (.ireturn, 1) := by decide +kernel
theorem dX10_swap_34 : decode cX10_swap 34 = .ok (.aload_n 0, 1) := by decide +kernel
theorem dX10_swap_35 : decode cX10_swap 35 = .ok (.iconst 1, 1) := by decide +kernel
theorem dX10_swap_36 : decode cX10_swap 36 = .ok (.iload_n 1, 1) := by decide +kernel
theorem dX10_swap_37 : decode cX10_swap 37 = .ok (.iload_n 2, 1) := by decide +kernel
theorem dX10_swap_38 : decode cX10_swap 38 = .ok (.iconst 0, 1) := by decide +kernel
theorem dX10_swap_39 : decode cX10_swap 39 = .ok (.invokevirtual 126, 3) := by decide +kernel
theorem dX10_swap_42 : decode cX10_swap 42 = .ok (.aload_n 3, 1) := by decide +kernel
theorem dX10_swap_43 : decode cX10_swap 43 = .ok (.getfield 142, 3) := by decide +kernel
theorem dX10_swap_46 : decode cX10_swap 46 = .ok (.ireturn, 1) := by decide +kernel
theorem dX10_host_0 : decode cX10_host 0 = .ok (.aload_n 0, 1) := by decide +kernel
theorem dX10_host_1 : decode cX10_host 1 = .ok (.getfield 67, 3) := by decide +kernel
theorem dX10_host_4 : decode cX10_host 4 = .ok (.iload_n 1, 1) := by decide +kernel
theorem dX10_host_5 : decode cX10_host 5 = .ok (.invokevirtual 130, 3) := by decide +kernel
theorem dX10_host_8 : decode cX10_host 8 = .ok (.astore 4, 2) := by decide +kernel
theorem dX10_host_10 : decode cX10_host 10 = .ok (.aload 4, 2) := by decide +kernel
theorem dX10_host_12 : decode cX10_host 12 = .ok (.ifnull 19, 3) := by decide +kernel
theorem dX10_host_15 : decode cX10_host 15 = .ok (.iload_n 2, 1) := by decide +kernel
theorem dX10_host_16 : decode cX10_host 16 = .ok (.invokestatic 97, 3) := by decide +kernel
theorem dX10_host_19 : decode cX10_host 19 = .ok (.ifCond .eq 12, 3) := by decide +kernel
theorem dX10_host_22 : decode cX10_host 22 = .ok (.iload_n 3, 1) := by decide +kernel
theorem dX10_host_23 : decode cX10_host 23 = .ok (.ifCond .lt 8, 3) := by decide +kernel
theorem dX10_host_26 : decode cX10_host 26 = .ok (.iload_n 3, 1) := by decide +kernel
theorem dX10_host_27 : decode cX10_host 27 = .ok (.iconst 1, 1) := by decide +kernel
theorem dX10_host_28 : decode cX10_host 28 = .ok (.if_icmp .le 5, 3) := by decide +kernel
theorem dX10_host_31 : decode cX10_host 31 = .ok (.iconst (-1), 1) := by decide +kernel
theorem dX10_host_32 : decode cX10_host 32 = .ok (.ireturn, 1) := by decide +kernel
theorem dX10_host_33 : decode cX10_host 33 = .ok (.aload 4, 2) := by decide +kernel
theorem dX10_host_35 : decode cX10_host 35 = .ok (.iload_n 2, 1) := by decide +kernel
theorem dX10_host_36 : decode cX10_host 36 = .ok (.invokevirtual 145, 3) := by decide +kernel
theorem dX10_host_39 : decode cX10_host 39 = .ok (.istore 5, 2) := by decide +kernel
theorem dX10_host_41 : decode cX10_host 41 = .ok (.iload 5, 2) := by decide +kernel
theorem dX10_host_43 : decode cX10_host 43 = .ok (.iconst (-1), 1) := by decide +kernel
theorem dX10_host_44 : decode cX10_host 44 = .ok (.if_icmp .eq 7, 3) := by decide +kernel
theorem dX10_host_47 : decode cX10_host 47 = .ok (.iconst 1, 1) := by decide +kernel
theorem dX10_host_48 : decode cX10_host 48 = .ok (.goto 4, 3) := by decide +kernel
theorem dX10_host_51 : decode cX10_host 51 = .ok (.iconst 0, 1) := by decide +kernel
theorem dX10_host_52 : decode cX10_host 52 = .ok (.iload_n 3, 1) := by decide +kernel
theorem dX10_host_53 : decode cX10_host 53 = .ok (.iconst 1, 1) := by decide +kernel
theorem dX10_host_54 : decode cX10_host 54 = .ok (.if_icmp .ne 7, 3) := by decide +kernel
theorem dX10_host_57 : decode cX10_host 57 = .ok (.iconst 1, 1) := by decide +kernel
theorem dX10_host_58 : decode cX10_host 58 = .ok (.goto 4, 3) := by decide +kernel
theorem dX10_host_61 : decode cX10_host 61 = .ok (.iconst 0, 1) := by decide +kernel
theorem dX10_host_62 : decode cX10_host 62 = .ok (.if_icmp .ne 6, 3) := by decide +kernel
theorem dX10_host_65 : decode cX10_host 65 = .ok (.bipush (-2), 2) := by decide +kernel
theorem dX10_host_67 : decode cX10_host 67 = .ok (.ireturn, 1) := by decide +kernel
theorem dX10_host_68 : decode cX10_host 68 = .ok (.iload_n 3, 1) := by decide +kernel
theorem dX10_host_69 : decode cX10_host 69 = .ok (.ifCond .ne 25, 3) := by decide +kernel
theorem dX10_host_72 : decode cX10_host 72 = .ok (.aload 4, 2) := by decide +kernel
theorem dX10_host_74 : decode cX10_host 74 = .ok (.iload 5, 2) := by decide +kernel
theorem dX10_host_76 : decode cX10_host 76 = .ok (.invokevirtual 148, 3) := by decide +kernel
theorem dX10_host_79 : decode cX10_host 79 = .ok (.aload_n 0, 1) := by decide +kernel
theorem dX10_host_80 : decode cX10_host 80 = .ok (.iconst 3, 1) := by decide +kernel
theorem dX10_host_81 : decode cX10_host 81 = .ok (.iload_n 1, 1) := by decide +kernel
theorem dX10_host_82 : decode cX10_host 82 = .ok (.iload 5, 2) := by decide +kernel
theorem dX10_host_84 : decode cX10_host 84 = .ok (.iload_n 2, 1) := by decide +kernel
theorem dX10_host_85 : decode cX10_host 85 = .ok (.invokevirtual 126, 3) := by decide +kernel
theorem dX10_host_88 : decode cX10_host 88 = .ok (.aload 4, 2) := by decide +kernel
theorem dX10_host_90 : decode cX10_host 90 = .ok (.getfield 152, 3) := by decide +kernel
theorem dX10_host_93 : decode cX10_host 93 = .ok (.ireturn, 1) := by decide +kernel
theorem dX10_host_94 : decode cX10_host 94 = .ok (.aload 4, 2) := by decide +kernel
theorem dX10_host_96 : decode cX10_host 96 = .ok (.aload 4, 2) := by decide +kernel
theorem dX10_host_98 : decode cX10_host 98 = .ok (.getfield 152, 3) := by decide +kernel
theorem dX10_host_101 : decode cX10_host 101 = .ok (.iload_n 2, 1) := by decide +kernel
theorem dX10_host_102 : decode cX10_host 102 = .ok (.invokevirtual 155, 3) := by decide +kernel
theorem dX10_host_105 : decode cX10_host 105 = .ok (.ifCond .ne 6, 3) := by decide +kernel
theorem dX10_host_108 : decode cX10_host 108 = .ok (.bipush (-3), 2) := by decide +kernel
theorem dX10_host_110 : decode cX10_host 110 = .ok (.ireturn, 1) := by decide +kernel
theorem dX10_host_111 : decode cX10_host 111 = .ok (.aload_n 0, 1) := by decide +kernel
theorem dX10_host_112 : decode cX10_host 112 = .ok (.iconst 2, 1) := by decide +kernel
theorem dX10_host_113 : decode cX10_host 113 = .ok (.iload_n 1, 1) := by decide +kernel
theorem dX10_host_114 : decode cX10_host 114 = .ok (.aload 4, 2) := by decide +kernel
theorem dX10_host_116 : decode cX10_host 116 = .ok (.getfield 152, 3) := by decide +kernel
theorem dX10_host_119 : decode cX10_host 119 = .ok (.iconst 1, 1) := by decide +kernel
theorem dX10_host_120 : decode cX10_host 120 = .ok (.isub, 1) := by decide +kernel
theorem dX10_host_121 : decode cX10_host 121 = .ok (.iload_n 2, 1) := by decide +kernel
theorem dX10_host_122 : decode cX10_host 122 = .ok (.invokevirtual 126, 3) := by decide +kernel
theorem dX10_host_125 : decode cX10_host 125 = .ok (.aload 4, 2) := by decide +kernel
theorem dX10_host_127 : decode cX10_host 127 = .ok (.getfield 152, 3) := by decide +kernel
theorem dX10_host_130 : decode cX10_host 130 = .ok (.ireturn, 1) := by decide +kernel
theorem dX10_undo_0 : decode cX10_undo 0 = .ok (.aload_n 0, 1) := by decide +kernel
theorem dX10_undo_1 : decode cX10_undo 1 = .ok (.getfield 40, 3) := by decide +kernel
theorem dX10_undo_4 : decode cX10_undo 4 = .ok (.invokevirtual 159, 3) := by decide +kernel
theorem dX10_undo_7 : decode cX10_undo 7 = .ok (.astore_n 1, 1) := by decide +kernel
theorem dX10_undo_8 : decode cX10_undo 8 = .ok (.aload_n 1, 1) := by decide +kernel
theorem dX10_undo_9 : decode cX10_undo 9 = .ok (.ifnonnull 6, 3) := by decide +kernel
theorem dX10_undo_12 : decode cX10_undo 12 = .ok (.bipush (-2), 2) := by decide +kernel
theorem dX10_undo_14 : decode cX10_undo 14 = .ok (.ireturn, 1) := by decide +kernel
theorem dX10_undo_15 : decode cX10_undo 15 = .ok (.aload_n 0, 1) := by decide +kernel
theorem dX10_undo_16 : decode cX10_undo 16 = .ok (.aload_n 1, 1) := by decide +kernel
theorem dX10_undo_17 : decode cX10_undo 17 = .ok (.invokevirtual 163, 3) := by decide +kernel
theorem dX10_undo_20 : decode cX10_undo 20 = .ok (.aload_n 0, 1) := by decide +kernel
theorem dX10_undo_21 : decode cX10_undo 21 = .ok (.getfield 33, 3) := by decide +kernel
theorem dX10_undo_24 : decode cX10_undo 24 = .ok (.invokevirtual 76, 3) := by decide +kernel
theorem dX10_undo_27 : decode cX10_undo 27 = .ok (.aload_n 0, 1) := by decide +kernel
theorem dX10_undo_28 : decode cX10_undo 28 = .ok (.getfield 40, 3) := by decide +kernel
theorem dX10_undo_31 : decode cX10_undo 31 = .ok (.getfield 167, 3) := by decide +kernel
theorem dX10_undo_34 : decode cX10_undo 34 = .ok (.ireturn, 1) := by decide +kernel
theorem dX10_name_0 : decode cX10_name 0 = .ok (.aload_n 0, 1) := by decide +kernel
theorem dX10_name_1 : decode cX10_name 1 = .ok (.getfield 67, 3) := by decide +kernel
theorem dX10_name_4 : decode cX10_name 4 = .ok (.iload_n 1, 1) := by decide +kernel
theorem dX10_name_5 : decode cX10_name 5 = .ok (.invokevirtual 130, 3) := by decide +kernel
theorem dX10_name_8 : decode cX10_name 8 = .ok (.astore_n 3, 1) := by decide +kernel
theorem dX10_name_9 : decode cX10_name 9 = .ok (.aload_n 3, 1) := by decide +kernel
theorem dX10_name_10 : decode cX10_name 10 = .ok (.ifnonnull 5, 3) := by decide +kernel
theorem dX10_name_13 : decode cX10_name 13 = .ok (.iconst (-1), 1) := by decide +kernel
theorem dX10_name_14 : decode cX10_name 14 = .ok (.ireturn, 1) := by decide +kernel
theorem dX10_name_15 : decode cX10_name 15 = .ok (.iload_n 2, 1) := by decide +kernel
theorem dX10_name_16 : decode cX10_name 16 = .ok (.tableswitch 82 0 5 #[40, 45, 50, 55, 60, 69], 40) := by decide +kernel
theorem dX10_name_56 : decode cX10_name 56 = .ok (.aload_n 3, 1) := by decide +kernel
theorem dX10_name_57 : decode cX10_name 57 = .ok (.getfield 168, 3) := by decide +kernel
theorem dX10_name_60 : decode cX10_name 60 = .ok (.ireturn, 1) := by decide +kernel
theorem dX10_name_61 : decode cX10_name 61 = .ok (.aload_n 3, 1) := by decide +kernel
theorem dX10_name_62 : decode cX10_name 62 = .ok (.getfield 142, 3) := by decide +kernel
theorem dX10_name_65 : decode cX10_name 65 = .ok (.ireturn, 1) := by decide +kernel
theorem dX10_name_66 : decode cX10_name 66 = .ok (.aload_n 3, 1) := by decide +kernel
theorem dX10_name_67 : decode cX10_name 67 = .ok (.getfield 152, 3) := by decide +kernel
theorem dX10_name_70 : decode cX10_name 70 = .ok (.ireturn, 1) := by decide +kernel
theorem dX10_name_71 : decode cX10_name 71 = .ok (.aload_n 3, 1) := by decide +kernel
theorem dX10_name_72 : decode cX10_name 72 = .ok (.getfield 169, 3) := by decide +kernel
theorem dX10_name_75 : decode cX10_name 75 = .ok (.ireturn, 1) := by decide +kernel
theorem dX10_name_76 : decode cX10_name 76 = .ok (.aload_n 0, 1) := by decide +kernel
theorem dX10_name_77 : decode cX10_name 77 = .ok (.aload_n 3, 1) := by decide +kernel
theorem dX10_name_78 : decode cX10_name 78 = .ok (.getfield 172, 3) := by decide +kernel
theorem dX10_name_81 : decode cX10_name 81 = .ok (.invokevirtual 175, 3) := by decide +kernel
theorem dX10_name_84 : decode cX10_name 84 = .ok (.ireturn, 1) := by decide +kernel
theorem dX10_name_85 : decode cX10_name 85 = .ok (.aload_n 3, 1) := by decide +kernel
theorem dX10_name_86 : decode cX10_name 86 = .ok (.getfield 178, 3) := by decide +kernel
theorem dX10_name_89 : decode cX10_name 89 = .ok (.ifCond .eq 7, 3) := by decide +kernel
theorem dX10_name_92 : decode cX10_name 92 = .ok (.iconst 1, 1) := by decide +kernel
theorem dX10_name_93 : decode cX10_name 93 = .ok (.goto 4, 3) := by decide +kernel
theorem dX10_name_96 : decode cX10_name 96 = .ok (.iconst 0, 1) := by decide +kernel
theorem dX10_name_97 : decode cX10_name 97 = .ok (.ireturn, 1) := by decide +kernel
theorem dX10_name_98 : decode cX10_name 98 = .ok (.iconst (-1), 1) := by decide +kernel
theorem dX10_name_99 : decode cX10_name 99 = .ok (.ireturn, 1) := by decide +kernel
theorem dX10_letter_0 : decode cX10_letter 0 = .ok (.aload_n 0, 1) := by decide +kernel
theorem dX10_letter_1 : decode cX10_letter 1 = .ok (.getfield 67, 3) := by decide +kernel
theorem dX10_letter_4 : decode cX10_letter 4 = .ok (.iload_n 1, 1) := by decide +kernel
theorem dX10_letter_5 : decode cX10_letter 5 = .ok (.invokevirtual 130, 3) := by decide +kernel
theorem dX10_letter_8 : decode cX10_letter 8 = .ok (.astore_n 3, 1) := by decide +kernel
theorem dX10_letter_9 : decode cX10_letter 9 = .ok (.aload_n 3, 1) := by decide +kernel
theorem dX10_letter_10 : decode cX10_letter 10 = .ok (.ifnull 7, 3) := by decide +kernel
theorem dX10_letter_13 : decode cX10_letter 13 = .ok (.iload_n 2, 1) := by decide +kernel
theorem dX10_letter_14 : decode cX10_letter 14 = .ok (.ifCond .ge 5, 3) := by decide +kernel
theorem dX10_letter_17 : decode cX10_letter 17 = .ok (.iconst (-1), 1) := by decide +kernel
theorem dX10_letter_18 : decode cX10_letter 18 = .ok (.ireturn, 1) := by decide +kernel
theorem dX10_letter_19 : decode cX10_letter 19 = .ok (.iload_n 2, 1) := by decide +kernel
theorem dX10_letter_20 : decode cX10_letter 20 = .ok (.aload_n 3, 1) := by decide +kernel
theorem dX10_letter_21 : decode cX10_letter 21 = .ok (.getfield 168, 3) := by decide +kernel
theorem dX10_letter_24 : decode cX10_letter 24 = .ok (.if_icmp .ge 19, 3) := by decide +kernel
theorem dX10_letter_27 : decode cX10_letter 27 = .ok (.aload_n 3, 1) := by decide +kernel
theorem dX10_letter_28 : decode cX10_letter 28 = .ok (.getfield 182, 3) := by decide +kernel
theorem dX10_letter_31 : decode cX10_letter 31 = .ok (.aload_n 3, 1) := by decide +kernel
theorem dX10_letter_32 : decode cX10_letter 32 = .ok (.getfield 168, 3) := by decide +kernel
theorem dX10_letter_35 : decode cX10_letter 35 = .ok (.iconst 1, 1) := by decide +kernel
theorem dX10_letter_36 : decode cX10_letter 36 = .ok (.isub, 1) := by decide +kernel
theorem dX10_letter_37 : decode cX10_letter 37 = .ok (.iload_n 2, 1) := by decide +kernel
theorem dX10_letter_38 : decode cX10_letter 38 = .ok (.isub, 1) := by decide +kernel
theorem dX10_letter_39 : decode cX10_letter 39 = .ok (.iaload, 1) := by decide +kernel
theorem dX10_letter_40 : decode cX10_letter 40 = .ok (.goto 5, 3) := by decide +kernel
theorem dX10_letter_43 : decode cX10_letter 43 = .ok (.bipush (-4), 2) := by decide +kernel
theorem dX10_letter_45 : decode cX10_letter 45 = .ok (.ireturn, 1) := by decide +kernel
theorem dX10_rule_0 : decode cX10_rule 0 = .ok (.aload_n 0, 1) := by decide +kernel
theorem dX10_rule_1 : decode cX10_rule 1 = .ok (.iload_n 1, 1) := by decide +kernel
theorem dX10_rule_2 : decode cX10_rule 2 = .ok (.iload_n 2, 1) := by decide +kernel
theorem dX10_rule_3 : decode cX10_rule 3 = .ok (.invokevirtual 115, 3) := by decide +kernel
theorem dX10_rule_6 : decode cX10_rule 6 = .ok (.astore 4, 2) := by decide +kernel
theorem dX10_rule_8 : decode cX10_rule 8 = .ok (.aload 4, 2) := by decide +kernel
theorem dX10_rule_10 : decode cX10_rule 10 = .ok (.ifnonnull 5, 3) := by decide +kernel
theorem dX10_rule_13 : decode cX10_rule 13 = .ok (.iconst (-1), 1) := by decide +kernel
theorem dX10_rule_14 : decode cX10_rule 14 = .ok (.ireturn, 1) := by decide +kernel
theorem dX10_rule_15 : decode cX10_rule 15 = .ok (.iload_n 3, 1) := by decide +kernel
theorem dX10_rule_16 : decode cX10_rule 16 = .ok (.tableswitch 98 0 4 #[36, 42, 48, 68, 88], 36) := by decide +kernel
theorem dX10_rule_52 : decode cX10_rule 52 = .ok (.aload 4, 2) := by decide +kernel
theorem dX10_rule_54 : decode cX10_rule 54 = .ok (.getfield 121, 3) := by decide +kernel
theorem dX10_rule_57 : decode cX10_rule 57 = .ok (.ireturn, 1) := by decide +kernel
theorem dX10_rule_58 : decode cX10_rule 58 = .ok (.aload 4, 2) := by decide +kernel
theorem dX10_rule_60 : decode cX10_rule 60 = .ok (.getfield 186, 3) := by decide +kernel
theorem dX10_rule_63 : decode cX10_rule 63 = .ok (.ireturn, 1) := by decide +kernel
theorem dX10_rule_64 : decode cX10_rule 64 = .ok (.aload 4, 2) := by decide +kernel
theorem dX10_rule_66 : decode cX10_rule 66 = .ok (.getfield 186, 3) := by decide +kernel
theorem dX10_rule_69 : decode cX10_rule 69 = .ok (.iconst 1, 1) := by decide +kernel
theorem dX10_rule_70 : decode cX10_rule 70 = .ok (.if_icmp .ne 11, 3) := by decide +kernel
theorem dX10_rule_73 : decode cX10_rule 73 = .ok (.aload 4, 2) := by decide +kernel
theorem dX10_rule_75 : decode cX10_rule 75 = .ok (.getfield 189, 3) := by decide +kernel
theorem dX10_rule_78 : decode cX10_rule 78 = .ok (.goto 5, 3) := by decide +kernel
theorem dX10_rule_81 : decode cX10_rule 81 = .ok (.bipush (-4), 2) := by decide +kernel
theorem dX10_rule_83 : decode cX10_rule 83 = .ok (.ireturn, 1) := by decide +kernel
theorem dX10_rule_84 : decode cX10_rule 84 = .ok (.aload 4, 2) := by decide +kernel
theorem dX10_rule_86 : decode cX10_rule 86 = .ok (.getfield 186, 3) := by decide +kernel
theorem dX10_rule_89 : decode cX10_rule 89 = .ok (.iconst 1, 1) := by decide +kernel
theorem dX10_rule_90 : decode cX10_rule 90 = .ok (.if_icmp .ne 11, 3) := by decide +kernel
theorem dX10_rule_93 : decode cX10_rule 93 = .ok (.aload 4, 2) := by decide +kernel
theorem dX10_rule_95 : decode cX10_rule 95 = .ok (.getfield 192, 3) := by decide +kernel
theorem dX10_rule_98 : decode cX10_rule 98 = .ok (.goto 5, 3) := by decide +kernel
theorem dX10_rule_101 : decode cX10_rule 101 = .ok (.bipush (-4), 2) := by decide +kernel
theorem dX10_rule_103 : decode cX10_rule 103 = .ok (.ireturn, 1) := by decide +kernel
theorem dX10_rule_104 : decode cX10_rule 104 = .ok (.aload_n 0, 1) := by decide +kernel
theorem dX10_rule_105 : decode cX10_rule 105 = .ok (.aload 4, 2) := by decide +kernel
theorem dX10_rule_107 : decode cX10_rule 107 = .ok (.getfield 195, 3) := by decide +kernel
theorem dX10_rule_110 : decode cX10_rule 110 = .ok (.invokevirtual 175, 3) := by decide +kernel
theorem dX10_rule_113 : decode cX10_rule 113 = .ok (.ireturn, 1) := by decide +kernel
theorem dX10_rule_114 : decode cX10_rule 114 = .ok (.iconst (-1), 1) := by decide +kernel
theorem dX10_rule_115 : decode cX10_rule 115 = .ok (.ireturn, 1) := by decide +kernel
theorem dX10_hostOf_0 : decode cX10_hostOf 0 = .ok (.aload_n 0, 1) := by decide +kernel
theorem dX10_hostOf_1 : decode cX10_hostOf 1 = .ok (.getfield 67, 3) := by decide +kernel
theorem dX10_hostOf_4 : decode cX10_hostOf 4 = .ok (.iload_n 1, 1) := by decide +kernel
theorem dX10_hostOf_5 : decode cX10_hostOf 5 = .ok (.invokevirtual 130, 3) := by decide +kernel
theorem dX10_hostOf_8 : decode cX10_hostOf 8 = .ok (.astore_n 3, 1) := by decide +kernel
theorem dX10_hostOf_9 : decode cX10_hostOf 9 = .ok (.aload_n 3, 1) := by decide +kernel
theorem dX10_hostOf_10 : decode cX10_hostOf 10 = .ok (.ifnull 7, 3) := by decide +kernel
theorem dX10_hostOf_13 : decode cX10_hostOf 13 = .ok (.iload_n 2, 1) := by decide +kernel
theorem dX10_hostOf_14 : decode cX10_hostOf 14 = .ok (.ifCond .ge 5, 3) := by decide +kernel
theorem dX10_hostOf_17 : decode cX10_hostOf 17 = .ok (.iconst (-1), 1) := by decide +kernel
theorem dX10_hostOf_18 : decode cX10_hostOf 18 = .ok (.ireturn, 1) := by decide +kernel
theorem dX10_hostOf_19 : decode cX10_hostOf 19 = .ok (.iload_n 2, 1) := by decide +kernel
theorem dX10_hostOf_20 : decode cX10_hostOf 20 = .ok (.aload_n 3, 1) := by decide +kernel
theorem dX10_hostOf_21 : decode cX10_hostOf 21 = .ok (.getfield 152, 3) := by decide +kernel
theorem dX10_hostOf_24 : decode cX10_hostOf 24 = .ok (.if_icmp .ge 12, 3) := by decide +kernel
theorem dX10_hostOf_27 : decode cX10_hostOf 27 = .ok (.aload_n 3, 1) := by decide +kernel
theorem dX10_hostOf_28 : decode cX10_hostOf 28 = .ok (.getfield 198, 3) := by decide +kernel
theorem dX10_hostOf_31 : decode cX10_hostOf 31 = .ok (.iload_n 2, 1) := by decide +kernel
theorem dX10_hostOf_32 : decode cX10_hostOf 32 = .ok (.iaload, 1) := by decide +kernel
theorem dX10_hostOf_33 : decode cX10_hostOf 33 = .ok (.goto 5, 3) := by decide +kernel
theorem dX10_hostOf_36 : decode cX10_hostOf 36 = .ok (.bipush (-4), 2) := by decide +kernel
theorem dX10_hostOf_38 : decode cX10_hostOf 38 = .ok (.ireturn, 1) := by decide +kernel
theorem dX10_many_0 : decode cX10_many 0 = .ok (.aload_n 0, 1) := by decide +kernel
theorem dX10_many_1 : decode cX10_many 1 = .ok (.iload_n 1, 1) := by decide +kernel
theorem dX10_many_2 : decode cX10_many 2 = .ok (.invokevirtual 93, 3) := by decide +kernel
theorem dX10_many_5 : decode cX10_many 5 = .ok (.ifCond .eq 19, 3) := by decide +kernel
theorem dX10_many_8 : decode cX10_many 8 = .ok (.iload_n 2, 1) := by decide +kernel
theorem dX10_many_9 : decode cX10_many 9 = .ok (.invokestatic 100, 3) := by decide +kernel
theorem dX10_many_12 : decode cX10_many 12 = .ok (.ifCond .eq 12, 3) := by decide +kernel
theorem dX10_many_15 : decode cX10_many 15 = .ok (.iload_n 3, 1) := by decide +kernel
theorem dX10_many_16 : decode cX10_many 16 = .ok (.ifCond .lt 8, 3) := by decide +kernel
theorem dX10_many_19 : decode cX10_many 19 = .ok (.iload_n 3, 1) := by decide +kernel
theorem dX10_many_20 : decode cX10_many 20 = .ok (.iconst 5, 1) := by decide +kernel
theorem dX10_many_21 : decode cX10_many 21 = .ok (.if_icmp .le 5, 3) := by decide +kernel
theorem dX10_many_24 : decode cX10_many 24 = .ok (.iconst (-1), 1) := by decide +kernel
theorem dX10_many_25 : decode cX10_many 25 = .ok (.ireturn, 1) := by decide +kernel
theorem dX10_many_26 : decode cX10_many 26 = .ok (.iconst 0, 1) := by decide +kernel
theorem dX10_many_27 : decode cX10_many 27 = .ok (.istore 4, 2) := by decide +kernel
theorem dX10_many_29 : decode cX10_many 29 = .ok (.iconst 0, 1) := by decide +kernel
theorem dX10_many_30 : decode cX10_many 30 = .ok (.istore 5, 2) := by decide +kernel
theorem dX10_many_32 : decode cX10_many 32 = .ok (.iload 5, 2) := by decide +kernel
theorem dX10_many_34 : decode cX10_many 34 = .ok (.sipush 256, 3) := by decide +kernel
theorem dX10_many_37 : decode cX10_many 37 = .ok (.if_icmp .ge 31, 3) := by decide +kernel
theorem dX10_many_40 : decode cX10_many 40 = .ok (.aload_n 0, 1) := by decide +kernel
theorem dX10_many_41 : decode cX10_many 41 = .ok (.getfield 26, 3) := by decide +kernel
theorem dX10_many_44 : decode cX10_many 44 = .ok (.aload_n 0, 1) := by decide +kernel
theorem dX10_many_45 : decode cX10_many 45 = .ok (.getfield 67, 3) := by decide +kernel
theorem dX10_many_48 : decode cX10_many 48 = .ok (.iload_n 1, 1) := by decide +kernel
theorem dX10_many_49 : decode cX10_many 49 = .ok (.iload 5, 2) := by decide +kernel
theorem dX10_many_51 : decode cX10_many 51 = .ok (.iload_n 2, 1) := by decide +kernel
theorem dX10_many_52 : decode cX10_many 52 = .ok (.invokevirtual 103, 3) := by decide +kernel
theorem dX10_many_55 : decode cX10_many 55 = .ok (.iload_n 3, 1) := by decide +kernel
theorem dX10_many_56 : decode cX10_many 56 = .ok (.if_icmp .ne 6, 3) := by decide +kernel
theorem dX10_many_59 : decode cX10_many 59 = .ok (.iinc 4 1, 3) := by decide +kernel
theorem dX10_many_62 : decode cX10_many 62 = .ok (.iinc 5 1, 3) := by decide +kernel
theorem dX10_many_65 : decode cX10_many 65 = .ok (.goto (-33), 3) := by decide +kernel
theorem dX10_many_68 : decode cX10_many 68 = .ok (.iload 4, 2) := by decide +kernel
theorem dX10_many_70 : decode cX10_many 70 = .ok (.ireturn, 1) := by decide +kernel
theorem dX10_dead_0 : decode cX10_dead 0 = .ok (.aload_n 0, 1) := by decide +kernel
theorem dX10_dead_1 : decode cX10_dead 1 = .ok (.getfield 67, 3) := by decide +kernel
theorem dX10_dead_4 : decode cX10_dead 4 = .ok (.iload_n 1, 1) := by decide +kernel
theorem dX10_dead_5 : decode cX10_dead 5 = .ok (.invokevirtual 130, 3) := by decide +kernel
theorem dX10_dead_8 : decode cX10_dead 8 = .ok (.astore_n 3, 1) := by decide +kernel
theorem dX10_dead_9 : decode cX10_dead 9 = .ok (.aload_n 3, 1) := by decide +kernel
theorem dX10_dead_10 : decode cX10_dead 10 = .ok (.ifnull 10, 3) := by decide +kernel
theorem dX10_dead_13 : decode cX10_dead 13 = .ok (.iload_n 2, 1) := by decide +kernel
theorem dX10_dead_14 : decode cX10_dead 14 = .ok (.invokestatic 100, 3) := by decide +kernel
theorem dX10_dead_17 : decode cX10_dead 17 = .ok (.ifCond .ne 5, 3) := by decide +kernel
theorem dX10_dead_20 : decode cX10_dead 20 = .ok (.iconst (-1), 1) := by decide +kernel
theorem dX10_dead_21 : decode cX10_dead 21 = .ok (.ireturn, 1) := by decide +kernel
theorem dX10_dead_22 : decode cX10_dead 22 = .ok (.iconst 0, 1) := by decide +kernel
theorem dX10_dead_23 : decode cX10_dead 23 = .ok (.istore 4, 2) := by decide +kernel
theorem dX10_dead_25 : decode cX10_dead 25 = .ok (.iconst 0, 1) := by decide +kernel
theorem dX10_dead_26 : decode cX10_dead 26 = .ok (.istore 5, 2) := by decide +kernel
theorem dX10_dead_28 : decode cX10_dead 28 = .ok (.iload 5, 2) := by decide +kernel
theorem dX10_dead_30 : decode cX10_dead 30 = .ok (.sipush 256, 3) := by decide +kernel
theorem dX10_dead_33 : decode cX10_dead 33 = .ok (.if_icmp .ge 50, 3) := by decide +kernel
theorem dX10_dead_36 : decode cX10_dead 36 = .ok (.aload_n 0, 1) := by decide +kernel
theorem dX10_dead_37 : decode cX10_dead 37 = .ok (.getfield 26, 3) := by decide +kernel
theorem dX10_dead_40 : decode cX10_dead 40 = .ok (.aload_n 0, 1) := by decide +kernel
theorem dX10_dead_41 : decode cX10_dead 41 = .ok (.getfield 67, 3) := by decide +kernel
theorem dX10_dead_44 : decode cX10_dead 44 = .ok (.iload_n 1, 1) := by decide +kernel
theorem dX10_dead_45 : decode cX10_dead 45 = .ok (.iload 5, 2) := by decide +kernel
theorem dX10_dead_47 : decode cX10_dead 47 = .ok (.iload_n 2, 1) := by decide +kernel
theorem dX10_dead_48 : decode cX10_dead 48 = .ok (.invokevirtual 103, 3) := by decide +kernel
theorem dX10_dead_51 : decode cX10_dead 51 = .ok (.pop, 1) := by decide +kernel
theorem dX10_dead_52 : decode cX10_dead 52 = .ok (.aload_n 0, 1) := by decide +kernel
theorem dX10_dead_53 : decode cX10_dead 53 = .ok (.getfield 26, 3) := by decide +kernel
theorem dX10_dead_56 : decode cX10_dead 56 = .ok (.getfield 201, 3) := by decide +kernel
theorem dX10_dead_59 : decode cX10_dead 59 = .ok (.iload_n 1, 1) := by decide +kernel
theorem dX10_dead_60 : decode cX10_dead 60 = .ok (.if_icmp .ne 17, 3) := by decide +kernel
theorem dX10_dead_63 : decode cX10_dead 63 = .ok (.iload 4, 2) := by decide +kernel
theorem dX10_dead_65 : decode cX10_dead 65 = .ok (.iconst 1, 1) := by decide +kernel
theorem dX10_dead_66 : decode cX10_dead 66 = .ok (.aload_n 0, 1) := by decide +kernel
theorem dX10_dead_67 : decode cX10_dead 67 = .ok (.getfield 26, 3) := by decide +kernel
theorem dX10_dead_70 : decode cX10_dead 70 = .ok (.getfield 204, 3) := by decide +kernel
theorem dX10_dead_73 : decode cX10_dead 73 = .ok (.ishl, 1) := by decide +kernel
theorem dX10_dead_74 : decode cX10_dead 74 = .ok (.ior, 1) := by decide +kernel
theorem dX10_dead_75 : decode cX10_dead 75 = .ok (.istore 4, 2) := by decide +kernel
theorem dX10_dead_77 : decode cX10_dead 77 = .ok (.iinc 5 1, 3) := by decide +kernel
theorem dX10_dead_80 : decode cX10_dead 80 = .ok (.goto (-52), 3) := by decide +kernel
theorem dX10_dead_83 : decode cX10_dead 83 = .ok (.iconst 1, 1) := by decide +kernel
theorem dX10_dead_84 : decode cX10_dead 84 = .ok (.aload_n 3, 1) := by decide +kernel
theorem dX10_dead_85 : decode cX10_dead 85 = .ok (.getfield 142, 3) := by decide +kernel
theorem dX10_dead_88 : decode cX10_dead 88 = .ok (.ishl, 1) := by decide +kernel
theorem dX10_dead_89 : decode cX10_dead 89 = .ok (.iconst 1, 1) := by decide +kernel
theorem dX10_dead_90 : decode cX10_dead 90 = .ok (.isub, 1) := by decide +kernel
theorem dX10_dead_91 : decode cX10_dead 91 = .ok (.istore 5, 2) := by decide +kernel
theorem dX10_dead_93 : decode cX10_dead 93 = .ok (.iload 5, 2) := by decide +kernel
theorem dX10_dead_95 : decode cX10_dead 95 = .ok (.iload 4, 2) := by decide +kernel
theorem dX10_dead_97 : decode cX10_dead 97 = .ok (.iconst (-1), 1) := by decide +kernel
theorem dX10_dead_98 : decode cX10_dead 98 = .ok (.ixor, 1) := by decide +kernel
theorem dX10_dead_99 : decode cX10_dead 99 = .ok (.iand, 1) := by decide +kernel
theorem dX10_dead_100 : decode cX10_dead 100 = .ok (.ireturn, 1) := by decide +kernel
theorem dX10_lookups_0 : decode cX10_lookups 0 = .ok (.aload_n 0, 1) := by decide +kernel
theorem dX10_lookups_1 : decode cX10_lookups 1 = .ok (.iload_n 1, 1) := by decide +kernel
theorem dX10_lookups_2 : decode cX10_lookups 2 = .ok (.invokevirtual 93, 3) := by decide +kernel
theorem dX10_lookups_5 : decode cX10_lookups 5 = .ok (.ifCond .eq 30, 3) := by decide +kernel
theorem dX10_lookups_8 : decode cX10_lookups 8 = .ok (.iload_n 2, 1) := by decide +kernel
theorem dX10_lookups_9 : decode cX10_lookups 9 = .ok (.invokestatic 100, 3) := by decide +kernel
theorem dX10_lookups_12 : decode cX10_lookups 12 = .ok (.ifCond .eq 23, 3) := by decide +kernel
theorem dX10_lookups_15 : decode cX10_lookups 15 = .ok (.iload 4, 2) := by decide +kernel
theorem dX10_lookups_17 : decode cX10_lookups 17 = .ok (.ifCond .lt 18, 3) := by decide +kernel
theorem dX10_lookups_20 : decode cX10_lookups 20 = .ok (.iload 4, 2) := by decide +kernel
theorem dX10_lookups_22 : decode cX10_lookups 22 = .ok (.iconst 1, 1) := by decide +kernel
theorem dX10_lookups_23 : decode cX10_lookups 23 = .ok (.if_icmp .gt 12, 3) := by decide +kernel
theorem dX10_lookups_26 : decode cX10_lookups 26 = .ok (.iload 4, 2) := by decide +kernel
theorem dX10_lookups_28 : decode cX10_lookups 28 = .ok (.ifCond .ne 9, 3) := by decide +kernel
theorem dX10_lookups_31 : decode cX10_lookups 31 = .ok (.iload_n 3, 1) := by decide +kernel
theorem dX10_lookups_32 : decode cX10_lookups 32 = .ok (.ifCond .ge 5, 3) := by decide +kernel
theorem dX10_lookups_35 : decode cX10_lookups 35 = .ok (.iconst (-1), 1) := by decide +kernel
theorem dX10_lookups_36 : decode cX10_lookups 36 = .ok (.ireturn, 1) := by decide +kernel
theorem dX10_lookups_37 : decode cX10_lookups 37 = .ok (.iconst 0, 1) := by decide +kernel
theorem dX10_lookups_38 : decode cX10_lookups 38 = .ok (.istore 5, 2) := by decide +kernel
theorem dX10_lookups_40 : decode cX10_lookups 40 = .ok (.iconst 0, 1) := by decide +kernel
theorem dX10_lookups_41 : decode cX10_lookups 41 = .ok (.istore 6, 2) := by decide +kernel
theorem dX10_lookups_43 : decode cX10_lookups 43 = .ok (.iload 6, 2) := by decide +kernel
theorem dX10_lookups_45 : decode cX10_lookups 45 = .ok (.sipush 256, 3) := by decide +kernel
theorem dX10_lookups_48 : decode cX10_lookups 48 = .ok (.if_icmp .ge 37, 3) := by decide +kernel
theorem dX10_lookups_51 : decode cX10_lookups 51 = .ok (.aload_n 0, 1) := by decide +kernel
theorem dX10_lookups_52 : decode cX10_lookups 52 = .ok (.getfield 26, 3) := by decide +kernel
theorem dX10_lookups_55 : decode cX10_lookups 55 = .ok (.aload_n 0, 1) := by decide +kernel
theorem dX10_lookups_56 : decode cX10_lookups 56 = .ok (.getfield 67, 3) := by decide +kernel
theorem dX10_lookups_59 : decode cX10_lookups 59 = .ok (.iload_n 1, 1) := by decide +kernel
theorem dX10_lookups_60 : decode cX10_lookups 60 = .ok (.iload 6, 2) := by decide +kernel
theorem dX10_lookups_62 : decode cX10_lookups 62 = .ok (.iload_n 2, 1) := by decide +kernel
theorem dX10_lookups_63 : decode cX10_lookups 63 = .ok (.invokevirtual 103, 3) := by decide +kernel
theorem dX10_lookups_66 : decode cX10_lookups 66 = .ok (.pop, 1) := by decide +kernel
theorem dX10_lookups_67 : decode cX10_lookups 67 = .ok (.iload 5, 2) := by decide +kernel
theorem dX10_lookups_69 : decode cX10_lookups 69 = .ok (.aload_n 0, 1) := by decide +kernel
theorem dX10_lookups_70 : decode cX10_lookups 70 = .ok (.getfield 26, 3) := by decide +kernel
theorem dX10_lookups_73 : decode cX10_lookups 73 = .ok (.getfield 207, 3) := by decide +kernel
theorem dX10_lookups_76 : decode cX10_lookups 76 = .ok (.iadd, 1) := by decide +kernel
theorem dX10_lookups_77 : decode cX10_lookups 77 = .ok (.istore 5, 2) := by decide +kernel
theorem dX10_lookups_79 : decode cX10_lookups 79 = .ok (.iinc 6 1, 3) := by decide +kernel
theorem dX10_lookups_82 : decode cX10_lookups 82 = .ok (.goto (-39), 3) := by decide +kernel
theorem dX10_lookups_85 : decode cX10_lookups 85 = .ok (.iload 4, 2) := by decide +kernel
theorem dX10_lookups_87 : decode cX10_lookups 87 = .ok (.iconst 1, 1) := by decide +kernel
theorem dX10_lookups_88 : decode cX10_lookups 88 = .ok (.if_icmp .ne 9, 3) := by decide +kernel
theorem dX10_lookups_91 : decode cX10_lookups 91 = .ok (.iload 5, 2) := by decide +kernel
theorem dX10_lookups_93 : decode cX10_lookups 93 = .ok (.invokestatic 210, 3) := by decide +kernel
theorem dX10_lookups_96 : decode cX10_lookups 96 = .ok (.ireturn, 1) := by decide +kernel
theorem dX10_lookups_97 : decode cX10_lookups 97 = .ok (.iload_n 3, 1) := by decide +kernel
theorem dX10_lookups_98 : decode cX10_lookups 98 = .ok (.i2l, 1) := by decide +kernel
theorem dX10_lookups_99 : decode cX10_lookups 99 = .ok (.iload 5, 2) := by decide +kernel
theorem dX10_lookups_101 : decode cX10_lookups 101 = .ok (.i2l, 1) := by decide +kernel
theorem dX10_lookups_102 : decode cX10_lookups 102 = .ok (.lmul, 1) := by decide +kernel
theorem dX10_lookups_103 : decode cX10_lookups 103 = .ok (.lstore 6, 2) := by decide +kernel
theorem dX10_lookups_105 : decode cX10_lookups 105 = .ok (.lload 6, 2) := by decide +kernel
theorem dX10_lookups_107 : decode cX10_lookups 107 = .ok (.ldc2_w 213, 3) := by decide +kernel
theorem dX10_lookups_110 : decode cX10_lookups 110 = .ok (.lcmp, 1) := by decide +kernel
theorem dX10_lookups_111 : decode cX10_lookups 111 = .ok (.ifCond .le 8, 3) := by decide +kernel
theorem dX10_lookups_114 : decode cX10_lookups 114 = .ok (.bipush (-3), 2) := by decide +kernel
theorem dX10_lookups_116 : decode cX10_lookups 116 = .ok (.goto 6, 3) := by decide +kernel
theorem dX10_lookups_119 : decode cX10_lookups 119 = .ok (.lload 6, 2) := by decide +kernel
theorem dX10_lookups_121 : decode cX10_lookups 121 = .ok (.l2i, 1) := by decide +kernel
theorem dX10_lookups_122 : decode cX10_lookups 122 = .ok (.ireturn, 1) := by decide +kernel
theorem dX10_leads_0 : decode cX10_leads 0 = .ok (.aload_n 0, 1) := by decide +kernel
theorem dX10_leads_1 : decode cX10_leads 1 = .ok (.iload_n 1, 1) := by decide +kernel
theorem dX10_leads_2 : decode cX10_leads 2 = .ok (.invokevirtual 93, 3) := by decide +kernel
theorem dX10_leads_5 : decode cX10_leads 5 = .ok (.ifCond .ne 5, 3) := by decide +kernel
theorem dX10_leads_8 : decode cX10_leads 8 = .ok (.iconst (-1), 1) := by decide +kernel
theorem dX10_leads_9 : decode cX10_leads 9 = .ok (.ireturn, 1) := by decide +kernel
theorem dX10_leads_10 : decode cX10_leads 10 = .ok (.aload_n 0, 1) := by decide +kernel
theorem dX10_leads_11 : decode cX10_leads 11 = .ok (.getfield 67, 3) := by decide +kernel
theorem dX10_leads_14 : decode cX10_leads 14 = .ok (.iload_n 1, 1) := by decide +kernel
theorem dX10_leads_15 : decode cX10_leads 15 = .ok (.invokevirtual 215, 3) := by decide +kernel
theorem dX10_leads_18 : decode cX10_leads 18 = .ok (.istore_n 2, 1) := by decide +kernel
theorem dX10_leads_19 : decode cX10_leads 19 = .ok (.iconst 1, 1) := by decide +kernel
theorem dX10_leads_20 : decode cX10_leads 20 = .ok (.istore_n 3, 1) := by decide +kernel
theorem dX10_leads_21 : decode cX10_leads 21 = .ok (.iload_n 3, 1) := by decide +kernel
theorem dX10_leads_22 : decode cX10_leads 22 = .ok (.bipush 12, 2) := by decide +kernel
theorem dX10_leads_24 : decode cX10_leads 24 = .ok (.if_icmp .ge 59, 3) := by decide +kernel
theorem dX10_leads_27 : decode cX10_leads 27 = .ok (.iload_n 2, 1) := by decide +kernel
theorem dX10_leads_28 : decode cX10_leads 28 = .ok (.istore 4, 2) := by decide +kernel
theorem dX10_leads_30 : decode cX10_leads 30 = .ok (.iconst 0, 1) := by decide +kernel
theorem dX10_leads_31 : decode cX10_leads 31 = .ok (.istore 5, 2) := by decide +kernel
theorem dX10_leads_33 : decode cX10_leads 33 = .ok (.iload 5, 2) := by decide +kernel
theorem dX10_leads_35 : decode cX10_leads 35 = .ok (.aload_n 0, 1) := by decide +kernel
theorem dX10_leads_36 : decode cX10_leads 36 = .ok (.getfield 67, 3) := by decide +kernel
theorem dX10_leads_39 : decode cX10_leads 39 = .ok (.getfield 80, 3) := by decide +kernel
theorem dX10_leads_42 : decode cX10_leads 42 = .ok (.if_icmp .ge 32, 3) := by decide +kernel
theorem dX10_leads_45 : decode cX10_leads 45 = .ok (.iload_n 2, 1) := by decide +kernel
theorem dX10_leads_46 : decode cX10_leads 46 = .ok (.iconst 1, 1) := by decide +kernel
theorem dX10_leads_47 : decode cX10_leads 47 = .ok (.iload 5, 2) := by decide +kernel
theorem dX10_leads_49 : decode cX10_leads 49 = .ok (.ishl, 1) := by decide +kernel
theorem dX10_leads_50 : decode cX10_leads 50 = .ok (.iand, 1) := by decide +kernel
theorem dX10_leads_51 : decode cX10_leads 51 = .ok (.ifCond .eq 17, 3) := by decide +kernel
theorem dX10_leads_54 : decode cX10_leads 54 = .ok (.iload 4, 2) := by decide +kernel
theorem dX10_leads_56 : decode cX10_leads 56 = .ok (.aload_n 0, 1) := by decide +kernel
theorem dX10_leads_57 : decode cX10_leads 57 = .ok (.getfield 67, 3) := by decide +kernel
theorem dX10_leads_60 : decode cX10_leads 60 = .ok (.iload 5, 2) := by decide +kernel
theorem dX10_leads_62 : decode cX10_leads 62 = .ok (.invokevirtual 215, 3) := by decide +kernel
theorem dX10_leads_65 : decode cX10_leads 65 = .ok (.ior, 1) := by decide +kernel
theorem dX10_leads_66 : decode cX10_leads 66 = .ok (.istore 4, 2) := by decide +kernel
theorem dX10_leads_68 : decode cX10_leads 68 = .ok (.iinc 5 1, 3) := by decide +kernel
theorem dX10_leads_71 : decode cX10_leads 71 = .ok (.goto (-38), 3) := by decide +kernel
theorem dX10_leads_74 : decode cX10_leads 74 = .ok (.iload 4, 2) := by decide +kernel
theorem dX10_leads_76 : decode cX10_leads 76 = .ok (.istore_n 2, 1) := by decide +kernel
theorem dX10_leads_77 : decode cX10_leads 77 = .ok (.iinc 3 1, 3) := by decide +kernel
theorem dX10_leads_80 : decode cX10_leads 80 = .ok (.goto (-59), 3) := by decide +kernel
theorem dX10_leads_83 : decode cX10_leads 83 = .ok (.iload_n 2, 1) := by decide +kernel
theorem dX10_leads_84 : decode cX10_leads 84 = .ok (.ireturn, 1) := by decide +kernel
theorem dX10_count_0 : decode cX10_count 0 = .ok (.iload_n 1, 1) := by decide +kernel
theorem dX10_count_1 : decode cX10_count 1 = .ok (.tableswitch 99 0 6 #[43, 51, 59, 67, 75, 83, 91], 43) := by decide +kernel
theorem dX10_count_44 : decode cX10_count 44 = .ok (.aload_n 0, 1) := by decide +kernel
theorem dX10_count_45 : decode cX10_count 45 = .ok (.getfield 67, 3) := by decide +kernel
theorem dX10_count_48 : decode cX10_count 48 = .ok (.getfield 80, 3) := by decide +kernel
theorem dX10_count_51 : decode cX10_count 51 = .ok (.ireturn, 1) := by decide +kernel
theorem dX10_count_52 : decode cX10_count 52 = .ok (.aload_n 0, 1) := by decide +kernel
theorem dX10_count_53 : decode cX10_count 53 = .ok (.getfield 67, 3) := by decide +kernel
theorem dX10_count_56 : decode cX10_count 56 = .ok (.invokevirtual 73, 3) := by decide +kernel
theorem dX10_count_59 : decode cX10_count 59 = .ok (.ireturn, 1) := by decide +kernel
theorem dX10_count_60 : decode cX10_count 60 = .ok (.aload_n 0, 1) := by decide +kernel
theorem dX10_count_61 : decode cX10_count 61 = .ok (.getfield 67, 3) := by decide +kernel
theorem dX10_count_64 : decode cX10_count 64 = .ok (.invokevirtual 218, 3) := by decide +kernel
theorem dX10_count_67 : decode cX10_count 67 = .ok (.ireturn, 1) := by decide +kernel
theorem dX10_count_68 : decode cX10_count 68 = .ok (.aload_n 0, 1) := by decide +kernel
theorem dX10_count_69 : decode cX10_count 69 = .ok (.getfield 67, 3) := by decide +kernel
theorem dX10_count_72 : decode cX10_count 72 = .ok (.invokevirtual 221, 3) := by decide +kernel
theorem dX10_count_75 : decode cX10_count 75 = .ok (.ireturn, 1) := by decide +kernel
theorem dX10_count_76 : decode cX10_count 76 = .ok (.aload_n 0, 1) := by decide +kernel
theorem dX10_count_77 : decode cX10_count 77 = .ok (.getfield 33, 3) := by decide +kernel
theorem dX10_count_80 : decode cX10_count 80 = .ok (.getfield 223, 3) := by decide +kernel
theorem dX10_count_83 : decode cX10_count 83 = .ok (.ireturn, 1) := by decide +kernel
theorem dX10_count_84 : decode cX10_count 84 = .ok (.aload_n 0, 1) := by decide +kernel
theorem dX10_count_85 : decode cX10_count 85 = .ok (.getfield 40, 3) := by decide +kernel
theorem dX10_count_88 : decode cX10_count 88 = .ok (.getfield 167, 3) := by decide +kernel
theorem dX10_count_91 : decode cX10_count 91 = .ok (.ireturn, 1) := by decide +kernel
theorem dX10_count_92 : decode cX10_count 92 = .ok (.aload_n 0, 1) := by decide +kernel
theorem dX10_count_93 : decode cX10_count 93 = .ok (.getfield 12, 3) := by decide +kernel
theorem dX10_count_96 : decode cX10_count 96 = .ok (.getfield 70, 3) := by decide +kernel
theorem dX10_count_99 : decode cX10_count 99 = .ok (.ireturn, 1) := by decide +kernel
theorem dX10_count_100 : decode cX10_count 100 = .ok (.iconst (-1), 1) := by decide +kernel
theorem dX10_count_101 : decode cX10_count 101 = .ok (.ireturn, 1) := by decide +kernel
theorem dX10_isKnown_0 : decode cX10_isKnown 0 = .ok (.iload_n 1, 1) := by decide +kernel
theorem dX10_isKnown_1 : decode cX10_isKnown 1 = .ok (.ifCond .lt 18, 3) := by decide +kernel
theorem dX10_isKnown_4 : decode cX10_isKnown 4 = .ok (.iload_n 1, 1) := by decide +kernel
theorem dX10_isKnown_5 : decode cX10_isKnown 5 = .ok (.aload_n 0, 1) := by decide +kernel
theorem dX10_isKnown_6 : decode cX10_isKnown 6 = .ok (.getfield 67, 3) := by decide +kernel
theorem dX10_isKnown_9 : decode cX10_isKnown 9 = .ok (.getfield 80, 3) := by decide +kernel
theorem dX10_isKnown_12 : decode cX10_isKnown 12 = .ok (.if_icmp .ge 7, 3) := by decide +kernel
theorem dX10_isKnown_15 : decode cX10_isKnown 15 = .ok (.iconst 1, 1) := by decide +kernel
theorem dX10_isKnown_16 : decode cX10_isKnown 16 = .ok (.goto 4, 3) := by decide +kernel
theorem dX10_isKnown_19 : decode cX10_isKnown 19 = .ok (.iconst 0, 1) := by decide +kernel
theorem dX10_isKnown_20 : decode cX10_isKnown 20 = .ok (.ireturn, 1) := by decide +kernel
theorem dX10_isAddress_0 : decode cX10_isAddress 0 = .ok (.iload_n 0, 1) := by decide +kernel
theorem dX10_isAddress_1 : decode cX10_isAddress 1 = .ok (.ifCond .lt 14, 3) := by decide +kernel
theorem dX10_isAddress_4 : decode cX10_isAddress 4 = .ok (.iload_n 0, 1) := by decide +kernel
theorem dX10_isAddress_5 : decode cX10_isAddress 5 = .ok (.sipush 256, 3) := by decide +kernel
theorem dX10_isAddress_8 : decode cX10_isAddress 8 = .ok (.if_icmp .ge 7, 3) := by decide +kernel
theorem dX10_isAddress_11 : decode cX10_isAddress 11 = .ok (.iconst 1, 1) := by decide +kernel
theorem dX10_isAddress_12 : decode cX10_isAddress 12 = .ok (.goto 4, 3) := by decide +kernel
theorem dX10_isAddress_15 : decode cX10_isAddress 15 = .ok (.iconst 0, 1) := by decide +kernel
theorem dX10_isAddress_16 : decode cX10_isAddress 16 = .ok (.ireturn, 1) := by decide +kernel
theorem dX10_isLetter_0 : decode cX10_isLetter 0 = .ok (.iload_n 0, 1) := by decide +kernel
theorem dX10_isLetter_1 : decode cX10_isLetter 1 = .ok (.ifCond .lt 13, 3) := by decide +kernel
theorem dX10_isLetter_4 : decode cX10_isLetter 4 = .ok (.iload_n 0, 1) := by decide +kernel
theorem dX10_isLetter_5 : decode cX10_isLetter 5 = .ok (.bipush 16, 2) := by decide +kernel
theorem dX10_isLetter_7 : decode cX10_isLetter 7 = .ok (.if_icmp .ge 7, 3) := by decide +kernel
theorem dX10_isLetter_10 : decode cX10_isLetter 10 = .ok (.iconst 1, 1) := by decide +kernel
theorem dX10_isLetter_11 : decode cX10_isLetter 11 = .ok (.goto 4, 3) := by decide +kernel
theorem dX10_isLetter_14 : decode cX10_isLetter 14 = .ok (.iconst 0, 1) := by decide +kernel
theorem dX10_isLetter_15 : decode cX10_isLetter 15 = .ok (.ireturn, 1) := by decide +kernel
theorem dX10_ruleAt_0 : decode cX10_ruleAt 0 = .ok (.aload_n 0, 1) := by decide +kernel
theorem dX10_ruleAt_1 : decode cX10_ruleAt 1 = .ok (.getfield 67, 3) := by decide +kernel
theorem dX10_ruleAt_4 : decode cX10_ruleAt 4 = .ok (.iload_n 1, 1) := by decide +kernel
theorem dX10_ruleAt_5 : decode cX10_ruleAt 5 = .ok (.invokevirtual 130, 3) := by decide +kernel
theorem dX10_ruleAt_8 : decode cX10_ruleAt 8 = .ok (.astore_n 3, 1) := by decide +kernel
theorem dX10_ruleAt_9 : decode cX10_ruleAt 9 = .ok (.aload_n 3, 1) := by decide +kernel
theorem dX10_ruleAt_10 : decode cX10_ruleAt 10 = .ok (.ifnonnull 7, 3) := by decide +kernel
theorem dX10_ruleAt_13 : decode cX10_ruleAt 13 = .ok (.aconst_null, 1) := by decide +kernel
theorem dX10_ruleAt_14 : decode cX10_ruleAt 14 = .ok (.goto 8, 3) := by decide +kernel
theorem dX10_ruleAt_17 : decode cX10_ruleAt 17 = .ok (.aload_n 3, 1) := by decide +kernel
theorem dX10_ruleAt_18 : decode cX10_ruleAt 18 = .ok (.iload_n 2, 1) := by decide +kernel
theorem dX10_ruleAt_19 : decode cX10_ruleAt 19 = .ok (.invokevirtual 134, 3) := by decide +kernel
theorem dX10_ruleAt_22 : decode cX10_ruleAt 22 = .ok (.areturn, 1) := by decide +kernel
theorem dX10_numberOrNone_0 : decode cX10_numberOrNone 0 = .ok (.aload_n 0, 1) := by decide +kernel
theorem dX10_numberOrNone_1 : decode cX10_numberOrNone 1 = .ok (.getfield 67, 3) := by decide +kernel
theorem dX10_numberOrNone_4 : decode cX10_numberOrNone 4 = .ok (.iload_n 1, 1) := by decide +kernel
theorem dX10_numberOrNone_5 : decode cX10_numberOrNone 5 = .ok (.invokevirtual 86, 3) := by decide +kernel
theorem dX10_numberOrNone_8 : decode cX10_numberOrNone 8 = .ok (.istore_n 2, 1) := by decide +kernel
theorem dX10_numberOrNone_9 : decode cX10_numberOrNone 9 = .ok (.iload_n 2, 1) := by decide +kernel
theorem dX10_numberOrNone_10 : decode cX10_numberOrNone 10 = .ok (.iconst (-1), 1) := by decide +kernel
theorem dX10_numberOrNone_11 : decode cX10_numberOrNone 11 = .ok (.if_icmp .ne 8, 3) := by decide +kernel
theorem dX10_numberOrNone_14 : decode cX10_numberOrNone 14 = .ok (.bipush (-4), 2) := by decide +kernel
theorem dX10_numberOrNone_16 : decode cX10_numberOrNone 16 = .ok (.goto 4, 3) := by decide +kernel
theorem dX10_numberOrNone_19 : decode cX10_numberOrNone 19 = .ok (.iload_n 2, 1) := by decide +kernel
theorem dX10_numberOrNone_20 : decode cX10_numberOrNone 20 = .ok (.ireturn, 1) := by decide +kernel
theorem dX10_noteChange_0 : decode cX10_noteChange 0 = .ok (.aload_n 0, 1) := by decide +kernel
theorem dX10_noteChange_1 : decode cX10_noteChange 1 = .ok (.getfield 40, 3) := by decide +kernel
theorem dX10_noteChange_4 : decode cX10_noteChange 4 = .ok (.invokevirtual 224, 3) := by decide +kernel
theorem dX10_noteChange_7 : decode cX10_noteChange 7 = .ok (.astore 5, 2) := by decide +kernel
theorem dX10_noteChange_9 : decode cX10_noteChange 9 = .ok (.aload 5, 2) := by decide +kernel
theorem dX10_noteChange_11 : decode cX10_noteChange 11 = .ok (.iload_n 1, 1) := by decide +kernel
theorem dX10_noteChange_12 : decode cX10_noteChange 12 = .ok (.putfield 227, 3) := by decide +kernel
theorem dX10_noteChange_15 : decode cX10_noteChange 15 = .ok (.aload 5, 2) := by decide +kernel
theorem dX10_noteChange_17 : decode cX10_noteChange 17 = .ok (.iload_n 2, 1) := by decide +kernel
theorem dX10_noteChange_18 : decode cX10_noteChange 18 = .ok (.putfield 230, 3) := by decide +kernel
theorem dX10_noteChange_21 : decode cX10_noteChange 21 = .ok (.aload 5, 2) := by decide +kernel
theorem dX10_noteChange_23 : decode cX10_noteChange 23 = .ok (.iload_n 3, 1) := by decide +kernel
theorem dX10_noteChange_24 : decode cX10_noteChange 24 = .ok (.putfield 233, 3) := by decide +kernel
theorem dX10_noteChange_27 : decode cX10_noteChange 27 = .ok (.aload 5, 2) := by decide +kernel
theorem dX10_noteChange_29 : decode cX10_noteChange 29 = .ok (.iload 4, 2) := by decide +kernel
theorem dX10_noteChange_31 : decode cX10_noteChange 31 = .ok (.putfield 236, 3) := by decide +kernel
theorem dX10_noteChange_34 : decode cX10_noteChange 34 = .ok (.aload_n 0, 1) := by decide +kernel
theorem dX10_noteChange_35 : decode cX10_noteChange 35 = .ok (.getfield 33, 3) := by decide +kernel
theorem dX10_noteChange_38 : decode cX10_noteChange 38 = .ok (.invokevirtual 76, 3) := by decide +kernel
theorem dX10_noteChange_41 : decode cX10_noteChange 41 = .ok (.return_, 1) := by decide +kernel
theorem dX10_takeBack_0 : decode cX10_takeBack 0 = .ok (.aload_n 0, 1) := by decide +kernel
theorem dX10_takeBack_1 : decode cX10_takeBack 1 = .ok (.getfield 67, 3) := by decide +kernel
theorem dX10_takeBack_4 : decode cX10_takeBack 4 = .ok (.aload_n 1, 1) := by decide +kernel
theorem dX10_takeBack_5 : decode cX10_takeBack 5 = .ok (.getfield 230, 3) := by decide +kernel
theorem dX10_takeBack_8 : decode cX10_takeBack 8 = .ok (.invokevirtual 130, 3) := by decide +kernel
theorem dX10_takeBack_11 : decode cX10_takeBack 11 = .ok (.astore_n 2, 1) := by decide +kernel
theorem dX10_takeBack_12 : decode cX10_takeBack 12 = .ok (.aload_n 2, 1) := by decide +kernel
theorem dX10_takeBack_13 : decode cX10_takeBack 13 = .ok (.ifnonnull 4, 3) := by decide +kernel
theorem dX10_takeBack_16 : decode cX10_takeBack 16 = .ok (.return_, 1) := by decide +kernel
theorem dX10_takeBack_17 : decode cX10_takeBack 17 = .ok (.aload_n 1, 1) := by decide +kernel
theorem dX10_takeBack_18 : decode cX10_takeBack 18 = .ok (.getfield 227, 3) := by decide +kernel
theorem dX10_takeBack_21 : decode cX10_takeBack 21 = .ok (.tableswitch 74 0 2 #[27, 51, 63], 27) := by decide +kernel
theorem dX10_takeBack_48 : decode cX10_takeBack 48 = .ok (.aload_n 2, 1) := by decide +kernel
theorem dX10_takeBack_49 : decode cX10_takeBack 49 = .ok (.aload_n 1, 1) := by decide +kernel
theorem dX10_takeBack_50 : decode cX10_takeBack 50 = .ok (.getfield 233, 3) := by decide +kernel
theorem dX10_takeBack_53 : decode cX10_takeBack 53 = .ok (.invokevirtual 134, 3) := by decide +kernel
theorem dX10_takeBack_56 : decode cX10_takeBack 56 = .ok (.astore_n 3, 1) := by decide +kernel
theorem dX10_takeBack_57 : decode cX10_takeBack 57 = .ok (.aload_n 3, 1) := by decide +kernel
theorem dX10_takeBack_58 : decode cX10_takeBack 58 = .ok (.ifnull 50, 3) := by decide +kernel
theorem dX10_takeBack_61 : decode cX10_takeBack 61 = .ok (.aload_n 3, 1) := by decide +kernel
theorem dX10_takeBack_62 : decode cX10_takeBack 62 = .ok (.aload_n 1, 1) := by decide +kernel
theorem dX10_takeBack_63 : decode cX10_takeBack 63 = .ok (.getfield 236, 3) := by decide +kernel
theorem dX10_takeBack_66 : decode cX10_takeBack 66 = .ok (.putfield 121, 3) := by decide +kernel
theorem dX10_takeBack_69 : decode cX10_takeBack 69 = .ok (.goto 39, 3) := by decide +kernel
theorem dX10_takeBack_72 : decode cX10_takeBack 72 = .ok (.aload_n 2, 1) := by decide +kernel
theorem dX10_takeBack_73 : decode cX10_takeBack 73 = .ok (.aload_n 1, 1) := by decide +kernel
theorem dX10_takeBack_74 : decode cX10_takeBack 74 = .ok (.getfield 233, 3) := by decide +kernel
theorem dX10_takeBack_77 : decode cX10_takeBack 77 = .ok (.invokevirtual 139, 3) := by decide +kernel
theorem dX10_takeBack_80 : decode cX10_takeBack 80 = .ok (.pop, 1) := by decide +kernel
theorem dX10_takeBack_81 : decode cX10_takeBack 81 = .ok (.goto 27, 3) := by decide +kernel
theorem dX10_takeBack_84 : decode cX10_takeBack 84 = .ok (.aload_n 2, 1) := by decide +kernel
theorem dX10_takeBack_85 : decode cX10_takeBack 85 = .ok (.aload_n 1, 1) := by decide +kernel
theorem dX10_takeBack_86 : decode cX10_takeBack 86 = .ok (.getfield 233, 3) := by decide +kernel
theorem dX10_takeBack_89 : decode cX10_takeBack 89 = .ok (.invokevirtual 148, 3) := by decide +kernel
theorem dX10_takeBack_92 : decode cX10_takeBack 92 = .ok (.goto 16, 3) := by decide +kernel
theorem dX10_takeBack_95 : decode cX10_takeBack 95 = .ok (.aload_n 2, 1) := by decide +kernel
theorem dX10_takeBack_96 : decode cX10_takeBack 96 = .ok (.aload_n 1, 1) := by decide +kernel
theorem dX10_takeBack_97 : decode cX10_takeBack 97 = .ok (.getfield 233, 3) := by decide +kernel
theorem dX10_takeBack_100 : decode cX10_takeBack 100 = .ok (.aload_n 1, 1) := by decide +kernel
theorem dX10_takeBack_101 : decode cX10_takeBack 101 = .ok (.getfield 236, 3) := by decide +kernel
theorem dX10_takeBack_104 : decode cX10_takeBack 104 = .ok (.invokevirtual 155, 3) := by decide +kernel
theorem dX10_takeBack_107 : decode cX10_takeBack 107 = .ok (.pop, 1) := by decide +kernel
theorem dX10_takeBack_108 : decode cX10_takeBack 108 = .ok (.return_, 1) := by decide +kernel
theorem dX10_floatBitsOfMean_0 : decode cX10_floatBitsOfMean 0 = .ok (.iload_n 0, 1) := by decide +kernel
theorem dX10_floatBitsOfMean_1 : decode cX10_floatBitsOfMean 1 = .ok (.ifCond .gt 5, 3) := by decide +kernel
theorem dX10_floatBitsOfMean_4 : decode cX10_floatBitsOfMean 4 = .ok (.iconst 0, 1) := by decide +kernel
theorem dX10_floatBitsOfMean_5 : decode cX10_floatBitsOfMean 5 = .ok (.ireturn, 1) := by decide +kernel
theorem dX10_floatBitsOfMean_6 : decode cX10_floatBitsOfMean 6 = .ok (.bipush 31, 2) := by decide +kernel
theorem dX10_floatBitsOfMean_8 : decode cX10_floatBitsOfMean 8 = .ok (.iload_n 0, 1) := by decide +kernel
theorem dX10_floatBitsOfMean_9 : decode cX10_floatBitsOfMean 9 = .ok (.invokestatic 239, 3) := by decide +kernel
theorem dX10_floatBitsOfMean_12 : decode cX10_floatBitsOfMean 12 = .ok (.isub, 1) := by decide +kernel
theorem dX10_floatBitsOfMean_13 : decode cX10_floatBitsOfMean 13 = .ok (.istore_n 1, 1) := by decide +kernel
theorem dX10_floatBitsOfMean_14 : decode cX10_floatBitsOfMean 14 = .ok (.bipush 127, 2) := by decide +kernel
theorem dX10_floatBitsOfMean_16 : decode cX10_floatBitsOfMean 16 = .ok (.iload_n 1, 1) := by decide +kernel
theorem dX10_floatBitsOfMean_17 : decode cX10_floatBitsOfMean 17 = .ok (.iadd, 1) := by decide +kernel
theorem dX10_floatBitsOfMean_18 : decode cX10_floatBitsOfMean 18 = .ok (.bipush 8, 2) := by decide +kernel
theorem dX10_floatBitsOfMean_20 : decode cX10_floatBitsOfMean 20 = .ok (.isub, 1) := by decide +kernel
theorem dX10_floatBitsOfMean_21 : decode cX10_floatBitsOfMean 21 = .ok (.istore_n 2, 1) := by decide +kernel
theorem dX10_floatBitsOfMean_22 : decode cX10_floatBitsOfMean 22 = .ok (.iload_n 0, 1) := by decide +kernel
theorem dX10_floatBitsOfMean_23 : decode cX10_floatBitsOfMean 23 = .ok (.iconst 1, 1) := by decide +kernel
theorem dX10_floatBitsOfMean_24 : decode cX10_floatBitsOfMean 24 = .ok (.iload_n 1, 1) := by decide +kernel
theorem dX10_floatBitsOfMean_25 : decode cX10_floatBitsOfMean 25 = .ok (.ishl, 1) := by decide +kernel
theorem dX10_floatBitsOfMean_26 : decode cX10_floatBitsOfMean 26 = .ok (.isub, 1) := by decide +kernel
theorem dX10_floatBitsOfMean_27 : decode cX10_floatBitsOfMean 27 = .ok (.bipush 23, 2) := by decide +kernel
theorem dX10_floatBitsOfMean_29 : decode cX10_floatBitsOfMean 29 = .ok (.iload_n 1, 1) := by decide +kernel
theorem dX10_floatBitsOfMean_30 : decode cX10_floatBitsOfMean 30 = .ok (.isub, 1) := by decide +kernel
theorem dX10_floatBitsOfMean_31 : decode cX10_floatBitsOfMean 31 = .ok (.ishl, 1) := by decide +kernel
theorem dX10_floatBitsOfMean_32 : decode cX10_floatBitsOfMean 32 = .ok (.istore_n 3, 1) := by decide +kernel
theorem dX10_floatBitsOfMean_33 : decode cX10_floatBitsOfMean 33 = .ok (.iload_n 2, 1) := by decide +kernel
theorem dX10_floatBitsOfMean_34 : decode cX10_floatBitsOfMean 34 = .ok (.bipush 23, 2) := by decide +kernel
theorem dX10_floatBitsOfMean_36 : decode cX10_floatBitsOfMean 36 = .ok (.ishl, 1) := by decide +kernel
theorem dX10_floatBitsOfMean_37 : decode cX10_floatBitsOfMean 37 = .ok (.iload_n 3, 1) := by decide +kernel
theorem dX10_floatBitsOfMean_38 : decode cX10_floatBitsOfMean 38 = .ok (.ior, 1) := by decide +kernel
theorem dX10_floatBitsOfMean_39 : decode cX10_floatBitsOfMean 39 = .ok (.ireturn, 1) := by decide +kernel
