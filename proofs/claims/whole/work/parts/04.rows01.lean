theorem dX0_init_0 : decode cX0_init 0 = .ok (.aload_n 0, 1) := by decide +kernel
theorem dX0_init_1 : decode cX0_init 1 = .ok (.invokespecial 3, 3) := by decide +kernel
theorem dX0_init_4 : decode cX0_init 4 = .ok (.aload_n 0, 1) := by decide +kernel
theorem dX0_init_5 : decode cX0_init 5 = .ok (.sipush 572, 3) := by decide +kernel
theorem dX0_init_8 : decode cX0_init 8 = .ok (.newarray .int, 2) := by decide +kernel
theorem dX0_init_10 : decode cX0_init 10 = .ok (.putfield 9, 3) := by decide +kernel
theorem dX0_init_13 : decode cX0_init 13 = .ok (.aload_n 0, 1) := by decide +kernel
theorem dX0_init_14 : decode cX0_init 14 = .ok (.bipush 12, 2) := by decide +kernel
theorem dX0_init_16 : decode cX0_init 16 = .ok (.newarray .int, 2) := by decide +kernel
theorem dX0_init_18 : decode cX0_init 18 = .ok (.putfield 15, 3) := by decide +kernel
theorem dX0_init_21 : decode cX0_init 21 = .ok (.return_, 1) := by decide +kernel
theorem dX0_learn_0 : decode cX0_learn 0 = .ok (.aload_n 0, 1) := by decide +kernel
theorem dX0_learn_1 : decode cX0_learn 1 = .ok (.iconst 0, 1) := by decide +kernel
theorem dX0_learn_2 : decode cX0_learn 2 = .ok (.putfield 18, 3) := by decide +kernel
theorem dX0_learn_5 : decode cX0_learn 5 = .ok (.aload_n 0, 1) := by decide +kernel
theorem dX0_learn_6 : decode cX0_learn 6 = .ok (.iconst 0, 1) := by decide +kernel
theorem dX0_learn_7 : decode cX0_learn 7 = .ok (.putfield 22, 3) := by decide +kernel
theorem dX0_learn_10 : decode cX0_learn 10 = .ok (.iconst 2, 1) := by decide +kernel
theorem dX0_learn_11 : decode cX0_learn 11 = .ok (.istore_n 2, 1) := by decide +kernel
theorem dX0_learn_12 : decode cX0_learn 12 = .ok (.iload_n 2, 1) := by decide +kernel
theorem dX0_learn_13 : decode cX0_learn 13 = .ok (.bipush 12, 2) := by decide +kernel
theorem dX0_learn_15 : decode cX0_learn 15 = .ok (.if_icmp .gt 65, 3) := by decide +kernel
theorem dX0_learn_18 : decode cX0_learn 18 = .ok (.iconst 1, 1) := by decide +kernel
theorem dX0_learn_19 : decode cX0_learn 19 = .ok (.istore_n 3, 1) := by decide +kernel
theorem dX0_learn_20 : decode cX0_learn 20 = .ok (.iload_n 3, 1) := by decide +kernel
theorem dX0_learn_21 : decode cX0_learn 21 = .ok (.iload_n 2, 1) := by decide +kernel
theorem dX0_learn_22 : decode cX0_learn 22 = .ok (.if_icmp .ge 52, 3) := by decide +kernel
theorem dX0_learn_25 : decode cX0_learn 25 = .ok (.iconst 0, 1) := by decide +kernel
theorem dX0_learn_26 : decode cX0_learn 26 = .ok (.istore 4, 2) := by decide +kernel
theorem dX0_learn_28 : decode cX0_learn 28 = .ok (.iload 4, 2) := by decide +kernel
theorem dX0_learn_30 : decode cX0_learn 30 = .ok (.iload_n 2, 1) := by decide +kernel
theorem dX0_learn_31 : decode cX0_learn 31 = .ok (.if_icmp .ge 37, 3) := by decide +kernel
theorem dX0_learn_34 : decode cX0_learn 34 = .ok (.aload_n 1, 1) := by decide +kernel
theorem dX0_learn_35 : decode cX0_learn 35 = .ok (.iload_n 2, 1) := by decide +kernel
theorem dX0_learn_36 : decode cX0_learn 36 = .ok (.iload_n 3, 1) := by decide +kernel
theorem dX0_learn_37 : decode cX0_learn 37 = .ok (.iload 4, 2) := by decide +kernel
theorem dX0_learn_39 : decode cX0_learn 39 = .ok (.invokevirtual 26, 3) := by decide +kernel
theorem dX0_learn_42 : decode cX0_learn 42 = .ok (.ifCond .eq 20, 3) := by decide +kernel
theorem dX0_learn_45 : decode cX0_learn 45 = .ok (.aload_n 0, 1) := by decide +kernel
theorem dX0_learn_46 : decode cX0_learn 46 = .ok (.sipush 10000, 3) := by decide +kernel
theorem dX0_learn_49 : decode cX0_learn 49 = .ok (.iload_n 2, 1) := by decide +kernel
theorem dX0_learn_50 : decode cX0_learn 50 = .ok (.imul, 1) := by decide +kernel
theorem dX0_learn_51 : decode cX0_learn 51 = .ok (.bipush 100, 2) := by decide +kernel
theorem dX0_learn_53 : decode cX0_learn 53 = .ok (.iload_n 3, 1) := by decide +kernel
theorem dX0_learn_54 : decode cX0_learn 54 = .ok (.imul, 1) := by decide +kernel
theorem dX0_learn_55 : decode cX0_learn 55 = .ok (.iadd, 1) := by decide +kernel
theorem dX0_learn_56 : decode cX0_learn 56 = .ok (.iload 4, 2) := by decide +kernel
theorem dX0_learn_58 : decode cX0_learn 58 = .ok (.iadd, 1) := by decide +kernel
theorem dX0_learn_59 : decode cX0_learn 59 = .ok (.invokevirtual 32, 3) := by decide +kernel
theorem dX0_learn_62 : decode cX0_learn 62 = .ok (.iinc 4 1, 3) := by decide +kernel
theorem dX0_learn_65 : decode cX0_learn 65 = .ok (.goto (-37), 3) := by decide +kernel
theorem dX0_learn_68 : decode cX0_learn 68 = .ok (.iinc 3 1, 3) := by decide +kernel
theorem dX0_learn_71 : decode cX0_learn 71 = .ok (.goto (-51), 3) := by decide +kernel
theorem dX0_learn_74 : decode cX0_learn 74 = .ok (.iinc 2 1, 3) := by decide +kernel
theorem dX0_learn_77 : decode cX0_learn 77 = .ok (.goto (-65), 3) := by decide +kernel
theorem dX0_learn_80 : decode cX0_learn 80 = .ok (.return_, 1) := by decide +kernel
theorem dX0_add_0 : decode cX0_add 0 = .ok (.aload_n 0, 1) := by decide +kernel
theorem dX0_add_1 : decode cX0_add 1 = .ok (.getfield 18, 3) := by decide +kernel
theorem dX0_add_4 : decode cX0_add 4 = .ok (.ifCond .lt 33, 3) := by decide +kernel
theorem dX0_add_7 : decode cX0_add 7 = .ok (.aload_n 0, 1) := by decide +kernel
theorem dX0_add_8 : decode cX0_add 8 = .ok (.getfield 18, 3) := by decide +kernel
theorem dX0_add_11 : decode cX0_add 11 = .ok (.sipush 572, 3) := by decide +kernel
theorem dX0_add_14 : decode cX0_add 14 = .ok (.if_icmp .ge 23, 3) := by decide +kernel
theorem dX0_add_17 : decode cX0_add 17 = .ok (.aload_n 0, 1) := by decide +kernel
theorem dX0_add_18 : decode cX0_add 18 = .ok (.getfield 9, 3) := by decide +kernel
theorem dX0_add_21 : decode cX0_add 21 = .ok (.aload_n 0, 1) := by decide +kernel
theorem dX0_add_22 : decode cX0_add 22 = .ok (.getfield 18, 3) := by decide +kernel
theorem dX0_add_25 : decode cX0_add 25 = .ok (.iload_n 1, 1) := by decide +kernel
theorem dX0_add_26 : decode cX0_add 26 = .ok (.iastore, 1) := by decide +kernel
theorem dX0_add_27 : decode cX0_add 27 = .ok (.aload_n 0, 1) := by decide +kernel
theorem dX0_add_28 : decode cX0_add 28 = .ok (.dup, 1) := by decide +kernel
theorem dX0_add_29 : decode cX0_add 29 = .ok (.getfield 18, 3) := by decide +kernel
theorem dX0_add_32 : decode cX0_add 32 = .ok (.iconst 1, 1) := by decide +kernel
theorem dX0_add_33 : decode cX0_add 33 = .ok (.iadd, 1) := by decide +kernel
theorem dX0_add_34 : decode cX0_add 34 = .ok (.putfield 18, 3) := by decide +kernel
theorem dX0_add_37 : decode cX0_add 37 = .ok (.return_, 1) := by decide +kernel
theorem dX0_count_0 : decode cX0_count 0 = .ok (.aload_n 0, 1) := by decide +kernel
theorem dX0_count_1 : decode cX0_count 1 = .ok (.getfield 18, 3) := by decide +kernel
theorem dX0_count_4 : decode cX0_count 4 = .ok (.ireturn, 1) := by decide +kernel
theorem dX0_ruleNumber_0 : decode cX0_ruleNumber 0 = .ok (.iload_n 1, 1) := by decide +kernel
theorem dX0_ruleNumber_1 : decode cX0_ruleNumber 1 = .ok (.ifCond .lt 27, 3) := by decide +kernel
theorem dX0_ruleNumber_4 : decode cX0_ruleNumber 4 = .ok (.iload_n 1, 1) := by decide +kernel
theorem dX0_ruleNumber_5 : decode cX0_ruleNumber 5 = .ok (.aload_n 0, 1) := by decide +kernel
theorem dX0_ruleNumber_6 : decode cX0_ruleNumber 6 = .ok (.getfield 18, 3) := by decide +kernel
theorem dX0_ruleNumber_9 : decode cX0_ruleNumber 9 = .ok (.if_icmp .ge 19, 3) := by decide +kernel
theorem dX0_ruleNumber_12 : decode cX0_ruleNumber 12 = .ok (.iload_n 1, 1) := by decide +kernel
theorem dX0_ruleNumber_13 : decode cX0_ruleNumber 13 = .ok (.sipush 572, 3) := by decide +kernel
theorem dX0_ruleNumber_16 : decode cX0_ruleNumber 16 = .ok (.if_icmp .ge 12, 3) := by decide +kernel
theorem dX0_ruleNumber_19 : decode cX0_ruleNumber 19 = .ok (.aload_n 0, 1) := by decide +kernel
theorem dX0_ruleNumber_20 : decode cX0_ruleNumber 20 = .ok (.getfield 9, 3) := by decide +kernel
theorem dX0_ruleNumber_23 : decode cX0_ruleNumber 23 = .ok (.iload_n 1, 1) := by decide +kernel
theorem dX0_ruleNumber_24 : decode cX0_ruleNumber 24 = .ok (.iaload, 1) := by decide +kernel
theorem dX0_ruleNumber_25 : decode cX0_ruleNumber 25 = .ok (.goto 4, 3) := by decide +kernel
theorem dX0_ruleNumber_28 : decode cX0_ruleNumber 28 = .ok (.iconst 0, 1) := by decide +kernel
theorem dX0_ruleNumber_29 : decode cX0_ruleNumber 29 = .ok (.ireturn, 1) := by decide +kernel
theorem dX0_placeBy_0 : decode cX0_placeBy 0 = .ok (.iload_n 0, 1) := by decide +kernel
theorem dX0_placeBy_1 : decode cX0_placeBy 1 = .ok (.sipush 10000, 3) := by decide +kernel
theorem dX0_placeBy_4 : decode cX0_placeBy 4 = .ok (.idiv, 1) := by decide +kernel
theorem dX0_placeBy_5 : decode cX0_placeBy 5 = .ok (.istore_n 2, 1) := by decide +kernel
theorem dX0_placeBy_6 : decode cX0_placeBy 6 = .ok (.iload_n 2, 1) := by decide +kernel
theorem dX0_placeBy_7 : decode cX0_placeBy 7 = .ok (.ifCond .gt 5, 3) := by decide +kernel
theorem dX0_placeBy_10 : decode cX0_placeBy 10 = .ok (.iconst 0, 1) := by decide +kernel
theorem dX0_placeBy_11 : decode cX0_placeBy 11 = .ok (.ireturn, 1) := by decide +kernel
theorem dX0_placeBy_12 : decode cX0_placeBy 12 = .ok (.iload_n 0, 1) := by decide +kernel
theorem dX0_placeBy_13 : decode cX0_placeBy 13 = .ok (.bipush 100, 2) := by decide +kernel
theorem dX0_placeBy_15 : decode cX0_placeBy 15 = .ok (.irem, 1) := by decide +kernel
theorem dX0_placeBy_16 : decode cX0_placeBy 16 = .ok (.iload_n 0, 1) := by decide +kernel
theorem dX0_placeBy_17 : decode cX0_placeBy 17 = .ok (.bipush 100, 2) := by decide +kernel
theorem dX0_placeBy_19 : decode cX0_placeBy 19 = .ok (.idiv, 1) := by decide +kernel
theorem dX0_placeBy_20 : decode cX0_placeBy 20 = .ok (.bipush 100, 2) := by decide +kernel
theorem dX0_placeBy_22 : decode cX0_placeBy 22 = .ok (.irem, 1) := by decide +kernel
theorem dX0_placeBy_23 : decode cX0_placeBy 23 = .ok (.iload_n 1, 1) := by decide +kernel
theorem dX0_placeBy_24 : decode cX0_placeBy 24 = .ok (.imul, 1) := by decide +kernel
theorem dX0_placeBy_25 : decode cX0_placeBy 25 = .ok (.iadd, 1) := by decide +kernel
theorem dX0_placeBy_26 : decode cX0_placeBy 26 = .ok (.iload_n 2, 1) := by decide +kernel
theorem dX0_placeBy_27 : decode cX0_placeBy 27 = .ok (.irem, 1) := by decide +kernel
theorem dX0_placeBy_28 : decode cX0_placeBy 28 = .ok (.ireturn, 1) := by decide +kernel
theorem dX0_countAt_0 : decode cX0_countAt 0 = .ok (.iconst 0, 1) := by decide +kernel
theorem dX0_countAt_1 : decode cX0_countAt 1 = .ok (.istore_n 3, 1) := by decide +kernel
theorem dX0_countAt_2 : decode cX0_countAt 2 = .ok (.iconst 0, 1) := by decide +kernel
theorem dX0_countAt_3 : decode cX0_countAt 3 = .ok (.istore 4, 2) := by decide +kernel
theorem dX0_countAt_5 : decode cX0_countAt 5 = .ok (.iload 4, 2) := by decide +kernel
theorem dX0_countAt_7 : decode cX0_countAt 7 = .ok (.aload_n 0, 1) := by decide +kernel
theorem dX0_countAt_8 : decode cX0_countAt 8 = .ok (.getfield 18, 3) := by decide +kernel
theorem dX0_countAt_11 : decode cX0_countAt 11 = .ok (.if_icmp .ge 31, 3) := by decide +kernel
theorem dX0_countAt_14 : decode cX0_countAt 14 = .ok (.iload_n 3, 1) := by decide +kernel
theorem dX0_countAt_15 : decode cX0_countAt 15 = .ok (.aload_n 0, 1) := by decide +kernel
theorem dX0_countAt_16 : decode cX0_countAt 16 = .ok (.iload 4, 2) := by decide +kernel
theorem dX0_countAt_18 : decode cX0_countAt 18 = .ok (.invokevirtual 36, 3) := by decide +kernel
theorem dX0_countAt_21 : decode cX0_countAt 21 = .ok (.iload_n 1, 1) := by decide +kernel
theorem dX0_countAt_22 : decode cX0_countAt 22 = .ok (.invokestatic 40, 3) := by decide +kernel
theorem dX0_countAt_25 : decode cX0_countAt 25 = .ok (.iload_n 2, 1) := by decide +kernel
theorem dX0_countAt_26 : decode cX0_countAt 26 = .ok (.if_icmp .ne 7, 3) := by decide +kernel
theorem dX0_countAt_29 : decode cX0_countAt 29 = .ok (.iconst 1, 1) := by decide +kernel
theorem dX0_countAt_30 : decode cX0_countAt 30 = .ok (.goto 4, 3) := by decide +kernel
theorem dX0_countAt_33 : decode cX0_countAt 33 = .ok (.iconst 0, 1) := by decide +kernel
theorem dX0_countAt_34 : decode cX0_countAt 34 = .ok (.iadd, 1) := by decide +kernel
theorem dX0_countAt_35 : decode cX0_countAt 35 = .ok (.istore_n 3, 1) := by decide +kernel
theorem dX0_countAt_36 : decode cX0_countAt 36 = .ok (.iinc 4 1, 3) := by decide +kernel
theorem dX0_countAt_39 : decode cX0_countAt 39 = .ok (.goto (-34), 3) := by decide +kernel
theorem dX0_countAt_42 : decode cX0_countAt 42 = .ok (.iload_n 3, 1) := by decide +kernel
theorem dX0_countAt_43 : decode cX0_countAt 43 = .ok (.ireturn, 1) := by decide +kernel
theorem dX0_firstSure_0 : decode cX0_firstSure 0 = .ok (.iload_n 1, 1) := by decide +kernel
theorem dX0_firstSure_1 : decode cX0_firstSure 1 = .ok (.istore_n 2, 1) := by decide +kernel
theorem dX0_firstSure_2 : decode cX0_firstSure 2 = .ok (.iload_n 2, 1) := by decide +kernel
theorem dX0_firstSure_3 : decode cX0_firstSure 3 = .ok (.bipush 100, 2) := by decide +kernel
theorem dX0_firstSure_5 : decode cX0_firstSure 5 = .ok (.if_icmp .ge 26, 3) := by decide +kernel
theorem dX0_firstSure_8 : decode cX0_firstSure 8 = .ok (.aload_n 0, 1) := by decide +kernel
theorem dX0_firstSure_9 : decode cX0_firstSure 9 = .ok (.getfield 18, 3) := by decide +kernel
theorem dX0_firstSure_12 : decode cX0_firstSure 12 = .ok (.ifCond .le 19, 3) := by decide +kernel
theorem dX0_firstSure_15 : decode cX0_firstSure 15 = .ok (.aload_n 0, 1) := by decide +kernel
theorem dX0_firstSure_16 : decode cX0_firstSure 16 = .ok (.iload_n 2, 1) := by decide +kernel
theorem dX0_firstSure_17 : decode cX0_firstSure 17 = .ok (.invokevirtual 44, 3) := by decide +kernel
theorem dX0_firstSure_20 : decode cX0_firstSure 20 = .ok (.ifCond .eq 5, 3) := by decide +kernel
theorem dX0_firstSure_23 : decode cX0_firstSure 23 = .ok (.iload_n 2, 1) := by decide +kernel
theorem dX0_firstSure_24 : decode cX0_firstSure 24 = .ok (.ireturn, 1) := by decide +kernel
theorem dX0_firstSure_25 : decode cX0_firstSure 25 = .ok (.iinc 2 1, 3) := by decide +kernel
theorem dX0_firstSure_28 : decode cX0_firstSure 28 = .ok (.goto (-26), 3) := by decide +kernel
theorem dX0_firstSure_31 : decode cX0_firstSure 31 = .ok (.bipush (-2), 2) := by decide +kernel
theorem dX0_firstSure_33 : decode cX0_firstSure 33 = .ok (.ireturn, 1) := by decide +kernel
theorem dX0_isSure_0 : decode cX0_isSure 0 = .ok (.iconst 0, 1) := by decide +kernel
theorem dX0_isSure_1 : decode cX0_isSure 1 = .ok (.istore_n 2, 1) := by decide +kernel
theorem dX0_isSure_2 : decode cX0_isSure 2 = .ok (.iload_n 2, 1) := by decide +kernel
theorem dX0_isSure_3 : decode cX0_isSure 3 = .ok (.aload_n 0, 1) := by decide +kernel
theorem dX0_isSure_4 : decode cX0_isSure 4 = .ok (.getfield 18, 3) := by decide +kernel
theorem dX0_isSure_7 : decode cX0_isSure 7 = .ok (.if_icmp .ge 23, 3) := by decide +kernel
theorem dX0_isSure_10 : decode cX0_isSure 10 = .ok (.aload_n 0, 1) := by decide +kernel
theorem dX0_isSure_11 : decode cX0_isSure 11 = .ok (.iload_n 2, 1) := by decide +kernel
theorem dX0_isSure_12 : decode cX0_isSure 12 = .ok (.invokevirtual 36, 3) := by decide +kernel
theorem dX0_isSure_15 : decode cX0_isSure 15 = .ok (.iload_n 1, 1) := by decide +kernel
theorem dX0_isSure_16 : decode cX0_isSure 16 = .ok (.invokestatic 40, 3) := by decide +kernel
theorem dX0_isSure_19 : decode cX0_isSure 19 = .ok (.ifCond .eq 5, 3) := by decide +kernel
theorem dX0_isSure_22 : decode cX0_isSure 22 = .ok (.iconst 0, 1) := by decide +kernel
theorem dX0_isSure_23 : decode cX0_isSure 23 = .ok (.ireturn, 1) := by decide +kernel
theorem dX0_isSure_24 : decode cX0_isSure 24 = .ok (.iinc 2 1, 3) := by decide +kernel
theorem dX0_isSure_27 : decode cX0_isSure 27 = .ok (.goto (-25), 3) := by decide +kernel
theorem dX0_isSure_30 : decode cX0_isSure 30 = .ok (.iconst 1, 1) := by decide +kernel
theorem dX0_isSure_31 : decode cX0_isSure 31 = .ok (.ireturn, 1) := by decide +kernel
theorem dX0_bestLook_0 : decode cX0_bestLook 0 = .ok (.aload_n 0, 1) := by decide +kernel
theorem dX0_bestLook_1 : decode cX0_bestLook 1 = .ok (.invokevirtual 48, 3) := by decide +kernel
theorem dX0_bestLook_4 : decode cX0_bestLook 4 = .ok (.aload_n 0, 1) := by decide +kernel
theorem dX0_bestLook_5 : decode cX0_bestLook 5 = .ok (.getfield 51, 3) := by decide +kernel
theorem dX0_bestLook_8 : decode cX0_bestLook 8 = .ok (.ireturn, 1) := by decide +kernel
theorem dX0_leftByLook_0 : decode cX0_leftByLook 0 = .ok (.aload_n 0, 1) := by decide +kernel
theorem dX0_leftByLook_1 : decode cX0_leftByLook 1 = .ok (.invokevirtual 48, 3) := by decide +kernel
theorem dX0_leftByLook_4 : decode cX0_leftByLook 4 = .ok (.aload_n 0, 1) := by decide +kernel
theorem dX0_leftByLook_5 : decode cX0_leftByLook 5 = .ok (.getfield 54, 3) := by decide +kernel
theorem dX0_leftByLook_8 : decode cX0_leftByLook 8 = .ok (.ireturn, 1) := by decide +kernel
theorem dX0_lookOnce_0 : decode cX0_lookOnce 0 = .ok (.aload_n 0, 1) := by decide +kernel
theorem dX0_lookOnce_1 : decode cX0_lookOnce 1 = .ok (.getfield 22, 3) := by decide +kernel
theorem dX0_lookOnce_4 : decode cX0_lookOnce 4 = .ok (.ifCond .eq 4, 3) := by decide +kernel
theorem dX0_lookOnce_7 : decode cX0_lookOnce 7 = .ok (.return_, 1) := by decide +kernel
theorem dX0_lookOnce_8 : decode cX0_lookOnce 8 = .ok (.aload_n 0, 1) := by decide +kernel
theorem dX0_lookOnce_9 : decode cX0_lookOnce 9 = .ok (.iconst 1, 1) := by decide +kernel
theorem dX0_lookOnce_10 : decode cX0_lookOnce 10 = .ok (.putfield 22, 3) := by decide +kernel
theorem dX0_lookOnce_13 : decode cX0_lookOnce 13 = .ok (.aload_n 0, 1) := by decide +kernel
theorem dX0_lookOnce_14 : decode cX0_lookOnce 14 = .ok (.bipush (-2), 2) := by decide +kernel
theorem dX0_lookOnce_16 : decode cX0_lookOnce 16 = .ok (.putfield 51, 3) := by decide +kernel
theorem dX0_lookOnce_19 : decode cX0_lookOnce 19 = .ok (.aload_n 0, 1) := by decide +kernel
theorem dX0_lookOnce_20 : decode cX0_lookOnce 20 = .ok (.bipush (-2), 2) := by decide +kernel
theorem dX0_lookOnce_22 : decode cX0_lookOnce 22 = .ok (.putfield 54, 3) := by decide +kernel
theorem dX0_lookOnce_25 : decode cX0_lookOnce 25 = .ok (.iconst 0, 1) := by decide +kernel
theorem dX0_lookOnce_26 : decode cX0_lookOnce 26 = .ok (.istore_n 1, 1) := by decide +kernel
theorem dX0_lookOnce_27 : decode cX0_lookOnce 27 = .ok (.iload_n 1, 1) := by decide +kernel
theorem dX0_lookOnce_28 : decode cX0_lookOnce 28 = .ok (.bipush 100, 2) := by decide +kernel
theorem dX0_lookOnce_30 : decode cX0_lookOnce 30 = .ok (.if_icmp .ge 88, 3) := by decide +kernel
theorem dX0_lookOnce_33 : decode cX0_lookOnce 33 = .ok (.aload_n 0, 1) := by decide +kernel
theorem dX0_lookOnce_34 : decode cX0_lookOnce 34 = .ok (.getfield 18, 3) := by decide +kernel
theorem dX0_lookOnce_37 : decode cX0_lookOnce 37 = .ok (.ifCond .le 81, 3) := by decide +kernel
theorem dX0_lookOnce_40 : decode cX0_lookOnce 40 = .ok (.aload_n 0, 1) := by decide +kernel
theorem dX0_lookOnce_41 : decode cX0_lookOnce 41 = .ok (.iload_n 1, 1) := by decide +kernel
theorem dX0_lookOnce_42 : decode cX0_lookOnce 42 = .ok (.invokevirtual 57, 3) := by decide +kernel
theorem dX0_lookOnce_45 : decode cX0_lookOnce 45 = .ok (.iconst 0, 1) := by decide +kernel
theorem dX0_lookOnce_46 : decode cX0_lookOnce 46 = .ok (.istore_n 2, 1) := by decide +kernel
theorem dX0_lookOnce_47 : decode cX0_lookOnce 47 = .ok (.iload_n 2, 1) := by decide +kernel
theorem dX0_lookOnce_48 : decode cX0_lookOnce 48 = .ok (.bipush 12, 2) := by decide +kernel
theorem dX0_lookOnce_50 : decode cX0_lookOnce 50 = .ok (.if_icmp .ge 62, 3) := by decide +kernel
theorem dX0_lookOnce_53 : decode cX0_lookOnce 53 = .ok (.aload_n 0, 1) := by decide +kernel
theorem dX0_lookOnce_54 : decode cX0_lookOnce 54 = .ok (.getfield 15, 3) := by decide +kernel
theorem dX0_lookOnce_57 : decode cX0_lookOnce 57 = .ok (.iload_n 2, 1) := by decide +kernel
theorem dX0_lookOnce_58 : decode cX0_lookOnce 58 = .ok (.iaload, 1) := by decide +kernel
theorem dX0_lookOnce_59 : decode cX0_lookOnce 59 = .ok (.aload_n 0, 1) := by decide +kernel
theorem dX0_lookOnce_60 : decode cX0_lookOnce 60 = .ok (.getfield 18, 3) := by decide +kernel
theorem dX0_lookOnce_63 : decode cX0_lookOnce 63 = .ok (.aload_n 0, 1) := by decide +kernel
theorem dX0_lookOnce_64 : decode cX0_lookOnce 64 = .ok (.getfield 15, 3) := by decide +kernel
theorem dX0_lookOnce_67 : decode cX0_lookOnce 67 = .ok (.iload_n 2, 1) := by decide +kernel
theorem dX0_lookOnce_68 : decode cX0_lookOnce 68 = .ok (.iaload, 1) := by decide +kernel
theorem dX0_lookOnce_69 : decode cX0_lookOnce 69 = .ok (.isub, 1) := by decide +kernel
theorem dX0_lookOnce_70 : decode cX0_lookOnce 70 = .ok (.invokestatic 60, 3) := by decide +kernel
theorem dX0_lookOnce_73 : decode cX0_lookOnce 73 = .ok (.istore_n 3, 1) := by decide +kernel
theorem dX0_lookOnce_74 : decode cX0_lookOnce 74 = .ok (.aload_n 0, 1) := by decide +kernel
theorem dX0_lookOnce_75 : decode cX0_lookOnce 75 = .ok (.getfield 51, 3) := by decide +kernel
theorem dX0_lookOnce_78 : decode cX0_lookOnce 78 = .ok (.bipush (-2), 2) := by decide +kernel
theorem dX0_lookOnce_80 : decode cX0_lookOnce 80 = .ok (.if_icmp .eq 11, 3) := by decide +kernel
theorem dX0_lookOnce_83 : decode cX0_lookOnce 83 = .ok (.iload_n 3, 1) := by decide +kernel
theorem dX0_lookOnce_84 : decode cX0_lookOnce 84 = .ok (.aload_n 0, 1) := by decide +kernel
theorem dX0_lookOnce_85 : decode cX0_lookOnce 85 = .ok (.getfield 54, 3) := by decide +kernel
theorem dX0_lookOnce_88 : decode cX0_lookOnce 88 = .ok (.if_icmp .ge 18, 3) := by decide +kernel
theorem dX0_lookOnce_91 : decode cX0_lookOnce 91 = .ok (.aload_n 0, 1) := by decide +kernel
theorem dX0_lookOnce_92 : decode cX0_lookOnce 92 = .ok (.bipush 100, 2) := by decide +kernel
theorem dX0_lookOnce_94 : decode cX0_lookOnce 94 = .ok (.iload_n 1, 1) := by decide +kernel
theorem dX0_lookOnce_95 : decode cX0_lookOnce 95 = .ok (.imul, 1) := by decide +kernel
theorem dX0_lookOnce_96 : decode cX0_lookOnce 96 = .ok (.iload_n 2, 1) := by decide +kernel
theorem dX0_lookOnce_97 : decode cX0_lookOnce 97 = .ok (.iadd, 1) := by decide +kernel
theorem dX0_lookOnce_98 : decode cX0_lookOnce 98 = .ok (.putfield 51, 3) := by decide +kernel
theorem dX0_lookOnce_101 : decode cX0_lookOnce 101 = .ok (.aload_n 0, 1) := by decide +kernel
theorem dX0_lookOnce_102 : decode cX0_lookOnce 102 = .ok (.iload_n 3, 1) := by decide +kernel
theorem dX0_lookOnce_103 : decode cX0_lookOnce 103 = .ok (.putfield 54, 3) := by decide +kernel
theorem dX0_lookOnce_106 : decode cX0_lookOnce 106 = .ok (.iinc 2 1, 3) := by decide +kernel
theorem dX0_lookOnce_109 : decode cX0_lookOnce 109 = .ok (.goto (-62), 3) := by decide +kernel
theorem dX0_lookOnce_112 : decode cX0_lookOnce 112 = .ok (.iinc 1 1, 3) := by decide +kernel
theorem dX0_lookOnce_115 : decode cX0_lookOnce 115 = .ok (.goto (-88), 3) := by decide +kernel
theorem dX0_lookOnce_118 : decode cX0_lookOnce 118 = .ok (.return_, 1) := by decide +kernel
theorem dX0_countSeen_0 : decode cX0_countSeen 0 = .ok (.aload_n 0, 1) := by decide +kernel
theorem dX0_countSeen_1 : decode cX0_countSeen 1 = .ok (.getfield 15, 3) := by decide +kernel
theorem dX0_countSeen_4 : decode cX0_countSeen 4 = .ok (.iconst 0, 1) := by decide +kernel
theorem dX0_countSeen_5 : decode cX0_countSeen 5 = .ok (.invokestatic 65, 3) := by decide +kernel
theorem dX0_countSeen_8 : decode cX0_countSeen 8 = .ok (.iconst 0, 1) := by decide +kernel
theorem dX0_countSeen_9 : decode cX0_countSeen 9 = .ok (.istore_n 2, 1) := by decide +kernel
theorem dX0_countSeen_10 : decode cX0_countSeen 10 = .ok (.iload_n 2, 1) := by decide +kernel
theorem dX0_countSeen_11 : decode cX0_countSeen 11 = .ok (.aload_n 0, 1) := by decide +kernel
theorem dX0_countSeen_12 : decode cX0_countSeen 12 = .ok (.getfield 18, 3) := by decide +kernel
theorem dX0_countSeen_15 : decode cX0_countSeen 15 = .ok (.if_icmp .ge 39, 3) := by decide +kernel
theorem dX0_countSeen_18 : decode cX0_countSeen 18 = .ok (.aload_n 0, 1) := by decide +kernel
theorem dX0_countSeen_19 : decode cX0_countSeen 19 = .ok (.iload_n 2, 1) := by decide +kernel
theorem dX0_countSeen_20 : decode cX0_countSeen 20 = .ok (.invokevirtual 36, 3) := by decide +kernel
theorem dX0_countSeen_23 : decode cX0_countSeen 23 = .ok (.iload_n 1, 1) := by decide +kernel
theorem dX0_countSeen_24 : decode cX0_countSeen 24 = .ok (.invokestatic 40, 3) := by decide +kernel
theorem dX0_countSeen_27 : decode cX0_countSeen 27 = .ok (.istore_n 3, 1) := by decide +kernel
theorem dX0_countSeen_28 : decode cX0_countSeen 28 = .ok (.iload_n 3, 1) := by decide +kernel
theorem dX0_countSeen_29 : decode cX0_countSeen 29 = .ok (.ifCond .lt 19, 3) := by decide +kernel
theorem dX0_countSeen_32 : decode cX0_countSeen 32 = .ok (.iload_n 3, 1) := by decide +kernel
theorem dX0_countSeen_33 : decode cX0_countSeen 33 = .ok (.bipush 12, 2) := by decide +kernel
theorem dX0_countSeen_35 : decode cX0_countSeen 35 = .ok (.if_icmp .ge 13, 3) := by decide +kernel
theorem dX0_countSeen_38 : decode cX0_countSeen 38 = .ok (.aload_n 0, 1) := by decide +kernel
theorem dX0_countSeen_39 : decode cX0_countSeen 39 = .ok (.getfield 15, 3) := by decide +kernel
theorem dX0_countSeen_42 : decode cX0_countSeen 42 = .ok (.iload_n 3, 1) := by decide +kernel
theorem dX0_countSeen_43 : decode cX0_countSeen 43 = .ok (.dup2, 1) := by decide +kernel
theorem dX0_countSeen_44 : decode cX0_countSeen 44 = .ok (.iaload, 1) := by decide +kernel
theorem dX0_countSeen_45 : decode cX0_countSeen 45 = .ok (.iconst 1, 1) := by decide +kernel
theorem dX0_countSeen_46 : decode cX0_countSeen 46 = .ok (.iadd, 1) := by decide +kernel
theorem dX0_countSeen_47 : decode cX0_countSeen 47 = .ok (.iastore, 1) := by decide +kernel
theorem dX0_countSeen_48 : decode cX0_countSeen 48 = .ok (.iinc 2 1, 3) := by decide +kernel
theorem dX0_countSeen_51 : decode cX0_countSeen 51 = .ok (.goto (-41), 3) := by decide +kernel
theorem dX0_countSeen_54 : decode cX0_countSeen 54 = .ok (.return_, 1) := by decide +kernel
theorem dX1_init_0 : decode cX1_init 0 = .ok (.aload_n 0, 1) := by decide +kernel
theorem dX1_init_1 : decode cX1_init 1 = .ok (.invokespecial 3, 3) := by decide +kernel
theorem dX1_init_4 : decode cX1_init 4 = .ok (.aload_n 0, 1) := by decide +kernel
theorem dX1_init_5 : decode cX1_init 5 = .ok (.bipush 9, 2) := by decide +kernel
theorem dX1_init_7 : decode cX1_init 7 = .ok (.newarray .int, 2) := by decide +kernel
theorem dX1_init_9 : decode cX1_init 9 = .ok (.putfield 11, 3) := by decide +kernel
theorem dX1_init_12 : decode cX1_init 12 = .ok (.aload_n 0, 1) := by decide +kernel
theorem dX1_init_13 : decode cX1_init 13 = .ok (.bipush 16, 2) := by decide +kernel
theorem dX1_init_15 : decode cX1_init 15 = .ok (.bipush 9, 2) := by decide +kernel
theorem dX1_init_17 : decode cX1_init 17 = .ok (.multianewarray 15 2, 4) := by decide +kernel
theorem dX1_init_21 : decode cX1_init 21 = .ok (.putfield 17, 3) := by decide +kernel
theorem dX1_init_24 : decode cX1_init 24 = .ok (.aload_n 0, 1) := by decide +kernel
theorem dX1_init_25 : decode cX1_init 25 = .ok (.iconst 3, 1) := by decide +kernel
theorem dX1_init_26 : decode cX1_init 26 = .ok (.bipush 9, 2) := by decide +kernel
theorem dX1_init_28 : decode cX1_init 28 = .ok (.multianewarray 15 2, 4) := by decide +kernel
theorem dX1_init_32 : decode cX1_init 32 = .ok (.putfield 20, 3) := by decide +kernel
theorem dX1_init_35 : decode cX1_init 35 = .ok (.return_, 1) := by decide +kernel
theorem dX1_begin_0 : decode cX1_begin 0 = .ok (.aload_n 0, 1) := by decide +kernel
theorem dX1_begin_1 : decode cX1_begin 1 = .ok (.getfield 11, 3) := by decide +kernel
theorem dX1_begin_4 : decode cX1_begin 4 = .ok (.iconst 0, 1) := by decide +kernel
theorem dX1_begin_5 : decode cX1_begin 5 = .ok (.invokestatic 23, 3) := by decide +kernel
theorem dX1_begin_8 : decode cX1_begin 8 = .ok (.iconst 0, 1) := by decide +kernel
theorem dX1_begin_9 : decode cX1_begin 9 = .ok (.istore_n 2, 1) := by decide +kernel
theorem dX1_begin_10 : decode cX1_begin 10 = .ok (.iload_n 2, 1) := by decide +kernel
theorem dX1_begin_11 : decode cX1_begin 11 = .ok (.bipush 7, 2) := by decide +kernel
theorem dX1_begin_13 : decode cX1_begin 13 = .ok (.if_icmp .ge 20, 3) := by decide +kernel
theorem dX1_begin_16 : decode cX1_begin 16 = .ok (.aload_n 0, 1) := by decide +kernel
theorem dX1_begin_17 : decode cX1_begin 17 = .ok (.getfield 11, 3) := by decide +kernel
theorem dX1_begin_20 : decode cX1_begin 20 = .ok (.iload_n 2, 1) := by decide +kernel
theorem dX1_begin_21 : decode cX1_begin 21 = .ok (.aload_n 1, 1) := by decide +kernel
theorem dX1_begin_22 : decode cX1_begin 22 = .ok (.iload_n 2, 1) := by decide +kernel
theorem dX1_begin_23 : decode cX1_begin 23 = .ok (.invokevirtual 29, 3) := by decide +kernel
theorem dX1_begin_26 : decode cX1_begin 26 = .ok (.iastore, 1) := by decide +kernel
theorem dX1_begin_27 : decode cX1_begin 27 = .ok (.iinc 2 1, 3) := by decide +kernel
theorem dX1_begin_30 : decode cX1_begin 30 = .ok (.goto (-20), 3) := by decide +kernel
theorem dX1_begin_33 : decode cX1_begin 33 = .ok (.aload_n 0, 1) := by decide +kernel
theorem dX1_begin_34 : decode cX1_begin 34 = .ok (.iconst 0, 1) := by decide +kernel
theorem dX1_begin_35 : decode cX1_begin 35 = .ok (.putfield 35, 3) := by decide +kernel
theorem dX1_begin_38 : decode cX1_begin 38 = .ok (.aload_n 0, 1) := by decide +kernel
theorem dX1_begin_39 : decode cX1_begin 39 = .ok (.iconst 0, 1) := by decide +kernel
theorem dX1_begin_40 : decode cX1_begin 40 = .ok (.putfield 39, 3) := by decide +kernel
theorem dX1_begin_43 : decode cX1_begin 43 = .ok (.return_, 1) := by decide +kernel
theorem dX1_cellOf_0 : decode cX1_cellOf 0 = .ok (.iload_n 1, 1) := by decide +kernel
theorem dX1_cellOf_1 : decode cX1_cellOf 1 = .ok (.ifCond .lt 18, 3) := by decide +kernel
theorem dX1_cellOf_4 : decode cX1_cellOf 4 = .ok (.iload_n 1, 1) := by decide +kernel
theorem dX1_cellOf_5 : decode cX1_cellOf 5 = .ok (.bipush 7, 2) := by decide +kernel
theorem dX1_cellOf_7 : decode cX1_cellOf 7 = .ok (.if_icmp .ge 12, 3) := by decide +kernel
theorem dX1_cellOf_10 : decode cX1_cellOf 10 = .ok (.aload_n 0, 1) := by decide +kernel
theorem dX1_cellOf_11 : decode cX1_cellOf 11 = .ok (.getfield 11, 3) := by decide +kernel
theorem dX1_cellOf_14 : decode cX1_cellOf 14 = .ok (.iload_n 1, 1) := by decide +kernel
theorem dX1_cellOf_15 : decode cX1_cellOf 15 = .ok (.iaload, 1) := by decide +kernel
theorem dX1_cellOf_16 : decode cX1_cellOf 16 = .ok (.goto 4, 3) := by decide +kernel
theorem dX1_cellOf_19 : decode cX1_cellOf 19 = .ok (.iconst 0, 1) := by decide +kernel
theorem dX1_cellOf_20 : decode cX1_cellOf 20 = .ok (.ireturn, 1) := by decide +kernel
theorem dX1_heldBits_0 : decode cX1_heldBits 0 = .ok (.aload_n 0, 1) := by decide +kernel
theorem dX1_heldBits_1 : decode cX1_heldBits 1 = .ok (.getfield 11, 3) := by decide +kernel
theorem dX1_heldBits_4 : decode cX1_heldBits 4 = .ok (.bipush 7, 2) := by decide +kernel
theorem dX1_heldBits_6 : decode cX1_heldBits 6 = .ok (.iaload, 1) := by decide +kernel
theorem dX1_heldBits_7 : decode cX1_heldBits 7 = .ok (.ireturn, 1) := by decide +kernel
theorem dX1_isHeld_0 : decode cX1_isHeld 0 = .ok (.aload_n 0, 1) := by decide +kernel
theorem dX1_isHeld_1 : decode cX1_isHeld 1 = .ok (.getfield 11, 3) := by decide +kernel
theorem dX1_isHeld_4 : decode cX1_isHeld 4 = .ok (.bipush 7, 2) := by decide +kernel
theorem dX1_isHeld_6 : decode cX1_isHeld 6 = .ok (.iaload, 1) := by decide +kernel
theorem dX1_isHeld_7 : decode cX1_isHeld 7 = .ok (.iload_n 1, 1) := by decide +kernel
theorem dX1_isHeld_8 : decode cX1_isHeld 8 = .ok (.ishr, 1) := by decide +kernel
theorem dX1_isHeld_9 : decode cX1_isHeld 9 = .ok (.iconst 1, 1) := by decide +kernel
theorem dX1_isHeld_10 : decode cX1_isHeld 10 = .ok (.iand, 1) := by decide +kernel
theorem dX1_isHeld_11 : decode cX1_isHeld 11 = .ok (.ifCond .eq 7, 3) := by decide +kernel
theorem dX1_isHeld_14 : decode cX1_isHeld 14 = .ok (.iconst 1, 1) := by decide +kernel
theorem dX1_isHeld_15 : decode cX1_isHeld 15 = .ok (.goto 4, 3) := by decide +kernel
theorem dX1_isHeld_18 : decode cX1_isHeld 18 = .ok (.iconst 0, 1) := by decide +kernel
theorem dX1_isHeld_19 : decode cX1_isHeld 19 = .ok (.ireturn, 1) := by decide +kernel
theorem dX1_nightNow_0 : decode cX1_nightNow 0 = .ok (.aload_n 0, 1) := by decide +kernel
theorem dX1_nightNow_1 : decode cX1_nightNow 1 = .ok (.getfield 11, 3) := by decide +kernel
theorem dX1_nightNow_4 : decode cX1_nightNow 4 = .ok (.bipush 8, 2) := by decide +kernel
theorem dX1_nightNow_6 : decode cX1_nightNow 6 = .ok (.iaload, 1) := by decide +kernel
theorem dX1_nightNow_7 : decode cX1_nightNow 7 = .ok (.ireturn, 1) := by decide +kernel
theorem dX1_countKept_0 : decode cX1_countKept 0 = .ok (.aload_n 0, 1) := by decide +kernel
theorem dX1_countKept_1 : decode cX1_countKept 1 = .ok (.getfield 35, 3) := by decide +kernel
theorem dX1_countKept_4 : decode cX1_countKept 4 = .ok (.ireturn, 1) := by decide +kernel
theorem dX1_countImages_0 : decode cX1_countImages 0 = .ok (.aload_n 0, 1) := by decide +kernel
theorem dX1_countImages_1 : decode cX1_countImages 1 = .ok (.getfield 39, 3) := by decide +kernel
theorem dX1_countImages_4 : decode cX1_countImages 4 = .ok (.ireturn, 1) := by decide +kernel
theorem dX1_thingAt_0 : decode cX1_thingAt 0 = .ok (.iconst 0, 1) := by decide +kernel
theorem dX1_thingAt_1 : decode cX1_thingAt 1 = .ok (.istore_n 3, 1) := by decide +kernel
theorem dX1_thingAt_2 : decode cX1_thingAt 2 = .ok (.iload_n 3, 1) := by decide +kernel
theorem dX1_thingAt_3 : decode cX1_thingAt 3 = .ok (.iload_n 2, 1) := by decide +kernel
theorem dX1_thingAt_4 : decode cX1_thingAt 4 = .ok (.if_icmp .ge 27, 3) := by decide +kernel
theorem dX1_thingAt_7 : decode cX1_thingAt 7 = .ok (.iload_n 3, 1) := by decide +kernel
theorem dX1_thingAt_8 : decode cX1_thingAt 8 = .ok (.bipush 7, 2) := by decide +kernel
theorem dX1_thingAt_10 : decode cX1_thingAt 10 = .ok (.if_icmp .ge 21, 3) := by decide +kernel
theorem dX1_thingAt_13 : decode cX1_thingAt 13 = .ok (.aload_n 0, 1) := by decide +kernel
theorem dX1_thingAt_14 : decode cX1_thingAt 14 = .ok (.getfield 11, 3) := by decide +kernel
theorem dX1_thingAt_17 : decode cX1_thingAt 17 = .ok (.iload_n 3, 1) := by decide +kernel
theorem dX1_thingAt_18 : decode cX1_thingAt 18 = .ok (.iaload, 1) := by decide +kernel
theorem dX1_thingAt_19 : decode cX1_thingAt 19 = .ok (.iload_n 1, 1) := by decide +kernel
theorem dX1_thingAt_20 : decode cX1_thingAt 20 = .ok (.if_icmp .ne 5, 3) := by decide +kernel
theorem dX1_thingAt_23 : decode cX1_thingAt 23 = .ok (.iload_n 3, 1) := by decide +kernel
theorem dX1_thingAt_24 : decode cX1_thingAt 24 = .ok (.ireturn, 1) := by decide +kernel
theorem dX1_thingAt_25 : decode cX1_thingAt 25 = .ok (.iinc 3 1, 3) := by decide +kernel
theorem dX1_thingAt_28 : decode cX1_thingAt 28 = .ok (.goto (-26), 3) := by decide +kernel
theorem dX1_thingAt_31 : decode cX1_thingAt 31 = .ok (.iconst (-1), 1) := by decide +kernel
theorem dX1_thingAt_32 : decode cX1_thingAt 32 = .ok (.ireturn, 1) := by decide +kernel
theorem dX1_thingsIn_0 : decode cX1_thingsIn 0 = .ok (.iconst 0, 1) := by decide +kernel
theorem dX1_thingsIn_1 : decode cX1_thingsIn 1 = .ok (.istore_n 3, 1) := by decide +kernel
theorem dX1_thingsIn_2 : decode cX1_thingsIn 2 = .ok (.iconst 0, 1) := by decide +kernel
theorem dX1_thingsIn_3 : decode cX1_thingsIn 3 = .ok (.istore 4, 2) := by decide +kernel
theorem dX1_thingsIn_5 : decode cX1_thingsIn 5 = .ok (.iload 4, 2) := by decide +kernel
theorem dX1_thingsIn_7 : decode cX1_thingsIn 7 = .ok (.iload_n 2, 1) := by decide +kernel
theorem dX1_thingsIn_8 : decode cX1_thingsIn 8 = .ok (.if_icmp .ge 37, 3) := by decide +kernel
theorem dX1_thingsIn_11 : decode cX1_thingsIn 11 = .ok (.iload 4, 2) := by decide +kernel
theorem dX1_thingsIn_13 : decode cX1_thingsIn 13 = .ok (.bipush 7, 2) := by decide +kernel
theorem dX1_thingsIn_15 : decode cX1_thingsIn 15 = .ok (.if_icmp .ge 30, 3) := by decide +kernel
theorem dX1_thingsIn_18 : decode cX1_thingsIn 18 = .ok (.aload_n 0, 1) := by decide +kernel
theorem dX1_thingsIn_19 : decode cX1_thingsIn 19 = .ok (.getfield 11, 3) := by decide +kernel
theorem dX1_thingsIn_22 : decode cX1_thingsIn 22 = .ok (.iload 4, 2) := by decide +kernel
theorem dX1_thingsIn_24 : decode cX1_thingsIn 24 = .ok (.iaload, 1) := by decide +kernel
theorem dX1_thingsIn_25 : decode cX1_thingsIn 25 = .ok (.invokestatic 42, 3) := by decide +kernel
theorem dX1_thingsIn_28 : decode cX1_thingsIn 28 = .ok (.iload_n 1, 1) := by decide +kernel
theorem dX1_thingsIn_29 : decode cX1_thingsIn 29 = .ok (.if_icmp .ne 10, 3) := by decide +kernel
theorem dX1_thingsIn_32 : decode cX1_thingsIn 32 = .ok (.iload_n 3, 1) := by decide +kernel
theorem dX1_thingsIn_33 : decode cX1_thingsIn 33 = .ok (.iconst 1, 1) := by decide +kernel
theorem dX1_thingsIn_34 : decode cX1_thingsIn 34 = .ok (.iload 4, 2) := by decide +kernel
theorem dX1_thingsIn_36 : decode cX1_thingsIn 36 = .ok (.ishl, 1) := by decide +kernel
theorem dX1_thingsIn_37 : decode cX1_thingsIn 37 = .ok (.ior, 1) := by decide +kernel
theorem dX1_thingsIn_38 : decode cX1_thingsIn 38 = .ok (.istore_n 3, 1) := by decide +kernel
theorem dX1_thingsIn_39 : decode cX1_thingsIn 39 = .ok (.iinc 4 1, 3) := by decide +kernel
theorem dX1_thingsIn_42 : decode cX1_thingsIn 42 = .ok (.goto (-37), 3) := by decide +kernel
theorem dX1_thingsIn_45 : decode cX1_thingsIn 45 = .ok (.iload_n 3, 1) := by decide +kernel
theorem dX1_thingsIn_46 : decode cX1_thingsIn 46 = .ok (.ireturn, 1) := by decide +kernel
theorem dX1_turnHeld_0 : decode cX1_turnHeld 0 = .ok (.aload_n 0, 1) := by decide +kernel
theorem dX1_turnHeld_1 : decode cX1_turnHeld 1 = .ok (.getfield 11, 3) := by decide +kernel
theorem dX1_turnHeld_4 : decode cX1_turnHeld 4 = .ok (.bipush 7, 2) := by decide +kernel
theorem dX1_turnHeld_6 : decode cX1_turnHeld 6 = .ok (.dup2, 1) := by decide +kernel
theorem dX1_turnHeld_7 : decode cX1_turnHeld 7 = .ok (.iaload, 1) := by decide +kernel
theorem dX1_turnHeld_8 : decode cX1_turnHeld 8 = .ok (.iconst 1, 1) := by decide +kernel
theorem dX1_turnHeld_9 : decode cX1_turnHeld 9 = .ok (.iload_n 1, 1) := by decide +kernel
theorem dX1_turnHeld_10 : decode cX1_turnHeld 10 = .ok (.ishl, 1) := by decide +kernel
theorem dX1_turnHeld_11 : decode cX1_turnHeld 11 = .ok (.ixor, 1) := by decide +kernel
theorem dX1_turnHeld_12 : decode cX1_turnHeld 12 = .ok (.iastore, 1) := by decide +kernel
theorem dX1_turnHeld_13 : decode cX1_turnHeld 13 = .ok (.return_, 1) := by decide +kernel
theorem dX1_move_0 : decode cX1_move 0 = .ok (.iload_n 1, 1) := by decide +kernel
theorem dX1_move_1 : decode cX1_move 1 = .ok (.ifCond .lt 16, 3) := by decide +kernel
theorem dX1_move_4 : decode cX1_move 4 = .ok (.iload_n 1, 1) := by decide +kernel
theorem dX1_move_5 : decode cX1_move 5 = .ok (.bipush 7, 2) := by decide +kernel
theorem dX1_move_7 : decode cX1_move 7 = .ok (.if_icmp .ge 10, 3) := by decide +kernel
theorem dX1_move_10 : decode cX1_move 10 = .ok (.aload_n 0, 1) := by decide +kernel
theorem dX1_move_11 : decode cX1_move 11 = .ok (.getfield 11, 3) := by decide +kernel
theorem dX1_move_14 : decode cX1_move 14 = .ok (.iload_n 1, 1) := by decide +kernel
theorem dX1_move_15 : decode cX1_move 15 = .ok (.iload_n 2, 1) := by decide +kernel
theorem dX1_move_16 : decode cX1_move 16 = .ok (.iastore, 1) := by decide +kernel
theorem dX1_move_17 : decode cX1_move 17 = .ok (.return_, 1) := by decide +kernel
theorem dX1_nextNight_0 : decode cX1_nextNight 0 = .ok (.aload_n 0, 1) := by decide +kernel
theorem dX1_nextNight_1 : decode cX1_nextNight 1 = .ok (.getfield 11, 3) := by decide +kernel
theorem dX1_nextNight_4 : decode cX1_nextNight 4 = .ok (.bipush 8, 2) := by decide +kernel
theorem dX1_nextNight_6 : decode cX1_nextNight 6 = .ok (.dup2, 1) := by decide +kernel
theorem dX1_nextNight_7 : decode cX1_nextNight 7 = .ok (.iaload, 1) := by decide +kernel
theorem dX1_nextNight_8 : decode cX1_nextNight 8 = .ok (.iconst 1, 1) := by decide +kernel
theorem dX1_nextNight_9 : decode cX1_nextNight 9 = .ok (.iadd, 1) := by decide +kernel
theorem dX1_nextNight_10 : decode cX1_nextNight 10 = .ok (.iastore, 1) := by decide +kernel
theorem dX1_nextNight_11 : decode cX1_nextNight 11 = .ok (.return_, 1) := by decide +kernel
theorem dX1_keep_0 : decode cX1_keep 0 = .ok (.aload_n 0, 1) := by decide +kernel
theorem dX1_keep_1 : decode cX1_keep 1 = .ok (.getfield 45, 3) := by decide +kernel
theorem dX1_keep_4 : decode cX1_keep 4 = .ok (.ifCond .lt 12, 3) := by decide +kernel
theorem dX1_keep_7 : decode cX1_keep 7 = .ok (.aload_n 0, 1) := by decide +kernel
theorem dX1_keep_8 : decode cX1_keep 8 = .ok (.getfield 45, 3) := by decide +kernel
theorem dX1_keep_11 : decode cX1_keep 11 = .ok (.bipush 16, 2) := by decide +kernel
theorem dX1_keep_13 : decode cX1_keep 13 = .ok (.if_icmp .lt 8, 3) := by decide +kernel
theorem dX1_keep_16 : decode cX1_keep 16 = .ok (.aload_n 0, 1) := by decide +kernel
theorem dX1_keep_17 : decode cX1_keep 17 = .ok (.iconst 0, 1) := by decide +kernel
theorem dX1_keep_18 : decode cX1_keep 18 = .ok (.putfield 45, 3) := by decide +kernel
theorem dX1_keep_21 : decode cX1_keep 21 = .ok (.aload_n 0, 1) := by decide +kernel
theorem dX1_keep_22 : decode cX1_keep 22 = .ok (.getfield 11, 3) := by decide +kernel
theorem dX1_keep_25 : decode cX1_keep 25 = .ok (.iconst 0, 1) := by decide +kernel
theorem dX1_keep_26 : decode cX1_keep 26 = .ok (.aload_n 0, 1) := by decide +kernel
theorem dX1_keep_27 : decode cX1_keep 27 = .ok (.getfield 17, 3) := by decide +kernel
theorem dX1_keep_30 : decode cX1_keep 30 = .ok (.aload_n 0, 1) := by decide +kernel
theorem dX1_keep_31 : decode cX1_keep 31 = .ok (.getfield 45, 3) := by decide +kernel
theorem dX1_keep_34 : decode cX1_keep 34 = .ok (.aaload, 1) := by decide +kernel
theorem dX1_keep_35 : decode cX1_keep 35 = .ok (.iconst 0, 1) := by decide +kernel
theorem dX1_keep_36 : decode cX1_keep 36 = .ok (.bipush 9, 2) := by decide +kernel
theorem dX1_keep_38 : decode cX1_keep 38 = .ok (.invokestatic 48, 3) := by decide +kernel
theorem dX1_keep_41 : decode cX1_keep 41 = .ok (.aload_n 0, 1) := by decide +kernel
theorem dX1_keep_42 : decode cX1_keep 42 = .ok (.aload_n 0, 1) := by decide +kernel
theorem dX1_keep_43 : decode cX1_keep 43 = .ok (.getfield 45, 3) := by decide +kernel
theorem dX1_keep_46 : decode cX1_keep 46 = .ok (.iconst 1, 1) := by decide +kernel
theorem dX1_keep_47 : decode cX1_keep 47 = .ok (.iadd, 1) := by decide +kernel
theorem dX1_keep_48 : decode cX1_keep 48 = .ok (.bipush 16, 2) := by decide +kernel
theorem dX1_keep_50 : decode cX1_keep 50 = .ok (.if_icmp .ge 12, 3) := by decide +kernel
theorem dX1_keep_53 : decode cX1_keep 53 = .ok (.aload_n 0, 1) := by decide +kernel
theorem dX1_keep_54 : decode cX1_keep 54 = .ok (.getfield 45, 3) := by decide +kernel
theorem dX1_keep_57 : decode cX1_keep 57 = .ok (.iconst 1, 1) := by decide +kernel
theorem dX1_keep_58 : decode cX1_keep 58 = .ok (.iadd, 1) := by decide +kernel
theorem dX1_keep_59 : decode cX1_keep 59 = .ok (.goto 4, 3) := by decide +kernel
theorem dX1_keep_62 : decode cX1_keep 62 = .ok (.iconst 0, 1) := by decide +kernel
theorem dX1_keep_63 : decode cX1_keep 63 = .ok (.putfield 45, 3) := by decide +kernel
theorem dX1_keep_66 : decode cX1_keep 66 = .ok (.aload_n 0, 1) := by decide +kernel
theorem dX1_keep_67 : decode cX1_keep 67 = .ok (.aload_n 0, 1) := by decide +kernel
theorem dX1_keep_68 : decode cX1_keep 68 = .ok (.getfield 35, 3) := by decide +kernel
theorem dX1_keep_71 : decode cX1_keep 71 = .ok (.bipush 16, 2) := by decide +kernel
theorem dX1_keep_73 : decode cX1_keep 73 = .ok (.if_icmp .ge 12, 3) := by decide +kernel
theorem dX1_keep_76 : decode cX1_keep 76 = .ok (.aload_n 0, 1) := by decide +kernel
theorem dX1_keep_77 : decode cX1_keep 77 = .ok (.getfield 35, 3) := by decide +kernel
theorem dX1_keep_80 : decode cX1_keep 80 = .ok (.iconst 1, 1) := by decide +kernel
theorem dX1_keep_81 : decode cX1_keep 81 = .ok (.iadd, 1) := by decide +kernel
theorem dX1_keep_82 : decode cX1_keep 82 = .ok (.goto 5, 3) := by decide +kernel
theorem dX1_keep_85 : decode cX1_keep 85 = .ok (.bipush 16, 2) := by decide +kernel
theorem dX1_keep_87 : decode cX1_keep 87 = .ok (.putfield 35, 3) := by decide +kernel
theorem dX1_keep_90 : decode cX1_keep 90 = .ok (.return_, 1) := by decide +kernel
theorem dX1_takeBack_0 : decode cX1_takeBack 0 = .ok (.aload_n 0, 1) := by decide +kernel
theorem dX1_takeBack_1 : decode cX1_takeBack 1 = .ok (.getfield 35, 3) := by decide +kernel
theorem dX1_takeBack_4 : decode cX1_takeBack 4 = .ok (.ifCond .gt 5, 3) := by decide +kernel
theorem dX1_takeBack_7 : decode cX1_takeBack 7 = .ok (.iconst 0, 1) := by decide +kernel
theorem dX1_takeBack_8 : decode cX1_takeBack 8 = .ok (.ireturn, 1) := by decide +kernel
theorem dX1_takeBack_9 : decode cX1_takeBack 9 = .ok (.aload_n 0, 1) := by decide +kernel
theorem dX1_takeBack_10 : decode cX1_takeBack 10 = .ok (.aload_n 0, 1) := by decide +kernel
theorem dX1_takeBack_11 : decode cX1_takeBack 11 = .ok (.getfield 45, 3) := by decide +kernel
theorem dX1_takeBack_14 : decode cX1_takeBack 14 = .ok (.ifCond .le 21, 3) := by decide +kernel
theorem dX1_takeBack_17 : decode cX1_takeBack 17 = .ok (.aload_n 0, 1) := by decide +kernel
theorem dX1_takeBack_18 : decode cX1_takeBack 18 = .ok (.getfield 45, 3) := by decide +kernel
theorem dX1_takeBack_21 : decode cX1_takeBack 21 = .ok (.bipush 16, 2) := by decide +kernel
theorem dX1_takeBack_23 : decode cX1_takeBack 23 = .ok (.if_icmp .ge 12, 3) := by decide +kernel
theorem dX1_takeBack_26 : decode cX1_takeBack 26 = .ok (.aload_n 0, 1) := by decide +kernel
theorem dX1_takeBack_27 : decode cX1_takeBack 27 = .ok (.getfield 45, 3) := by decide +kernel
theorem dX1_takeBack_30 : decode cX1_takeBack 30 = .ok (.iconst 1, 1) := by decide +kernel
theorem dX1_takeBack_31 : decode cX1_takeBack 31 = .ok (.isub, 1) := by decide +kernel
theorem dX1_takeBack_32 : decode cX1_takeBack 32 = .ok (.goto 5, 3) := by decide +kernel
theorem dX1_takeBack_35 : decode cX1_takeBack 35 = .ok (.bipush 15, 2) := by decide +kernel
theorem dX1_takeBack_37 : decode cX1_takeBack 37 = .ok (.putfield 45, 3) := by decide +kernel
theorem dX1_takeBack_40 : decode cX1_takeBack 40 = .ok (.aload_n 0, 1) := by decide +kernel
theorem dX1_takeBack_41 : decode cX1_takeBack 41 = .ok (.getfield 17, 3) := by decide +kernel
theorem dX1_takeBack_44 : decode cX1_takeBack 44 = .ok (.aload_n 0, 1) := by decide +kernel
theorem dX1_takeBack_45 : decode cX1_takeBack 45 = .ok (.getfield 45, 3) := by decide +kernel
theorem dX1_takeBack_48 : decode cX1_takeBack 48 = .ok (.aaload, 1) := by decide +kernel
theorem dX1_takeBack_49 : decode cX1_takeBack 49 = .ok (.iconst 0, 1) := by decide +kernel
theorem dX1_takeBack_50 : decode cX1_takeBack 50 = .ok (.aload_n 0, 1) := by decide +kernel
theorem dX1_takeBack_51 : decode cX1_takeBack 51 = .ok (.getfield 11, 3) := by decide +kernel
theorem dX1_takeBack_54 : decode cX1_takeBack 54 = .ok (.iconst 0, 1) := by decide +kernel
theorem dX1_takeBack_55 : decode cX1_takeBack 55 = .ok (.bipush 9, 2) := by decide +kernel
theorem dX1_takeBack_57 : decode cX1_takeBack 57 = .ok (.invokestatic 48, 3) := by decide +kernel
theorem dX1_takeBack_60 : decode cX1_takeBack 60 = .ok (.aload_n 0, 1) := by decide +kernel
theorem dX1_takeBack_61 : decode cX1_takeBack 61 = .ok (.dup, 1) := by decide +kernel
theorem dX1_takeBack_62 : decode cX1_takeBack 62 = .ok (.getfield 35, 3) := by decide +kernel
theorem dX1_takeBack_65 : decode cX1_takeBack 65 = .ok (.iconst 1, 1) := by decide +kernel
theorem dX1_takeBack_66 : decode cX1_takeBack 66 = .ok (.isub, 1) := by decide +kernel
theorem dX1_takeBack_67 : decode cX1_takeBack 67 = .ok (.putfield 35, 3) := by decide +kernel
theorem dX1_takeBack_70 : decode cX1_takeBack 70 = .ok (.iconst 1, 1) := by decide +kernel
theorem dX1_takeBack_71 : decode cX1_takeBack 71 = .ok (.ireturn, 1) := by decide +kernel
theorem dX1_takeImage_0 : decode cX1_takeImage 0 = .ok (.aload_n 0, 1) := by decide +kernel
theorem dX1_takeImage_1 : decode cX1_takeImage 1 = .ok (.getfield 39, 3) := by decide +kernel
theorem dX1_takeImage_4 : decode cX1_takeImage 4 = .ok (.ifCond .lt 11, 3) := by decide +kernel
theorem dX1_takeImage_7 : decode cX1_takeImage 7 = .ok (.aload_n 0, 1) := by decide +kernel
theorem dX1_takeImage_8 : decode cX1_takeImage 8 = .ok (.getfield 39, 3) := by decide +kernel
theorem dX1_takeImage_11 : decode cX1_takeImage 11 = .ok (.iconst 3, 1) := by decide +kernel
theorem dX1_takeImage_12 : decode cX1_takeImage 12 = .ok (.if_icmp .lt 5, 3) := by decide +kernel
theorem dX1_takeImage_15 : decode cX1_takeImage 15 = .ok (.iconst (-1), 1) := by decide +kernel
theorem dX1_takeImage_16 : decode cX1_takeImage 16 = .ok (.ireturn, 1) := by decide +kernel
theorem dX1_takeImage_17 : decode cX1_takeImage 17 = .ok (.aload_n 0, 1) := by decide +kernel
theorem dX1_takeImage_18 : decode cX1_takeImage 18 = .ok (.getfield 11, 3) := by decide +kernel
theorem dX1_takeImage_21 : decode cX1_takeImage 21 = .ok (.iconst 0, 1) := by decide +kernel
theorem dX1_takeImage_22 : decode cX1_takeImage 22 = .ok (.aload_n 0, 1) := by decide +kernel
theorem dX1_takeImage_23 : decode cX1_takeImage 23 = .ok (.getfield 20, 3) := by decide +kernel
theorem dX1_takeImage_26 : decode cX1_takeImage 26 = .ok (.aload_n 0, 1) := by decide +kernel
theorem dX1_takeImage_27 : decode cX1_takeImage 27 = .ok (.getfield 39, 3) := by decide +kernel
theorem dX1_takeImage_30 : decode cX1_takeImage 30 = .ok (.aaload, 1) := by decide +kernel
theorem dX1_takeImage_31 : decode cX1_takeImage 31 = .ok (.iconst 0, 1) := by decide +kernel
theorem dX1_takeImage_32 : decode cX1_takeImage 32 = .ok (.bipush 9, 2) := by decide +kernel
theorem dX1_takeImage_34 : decode cX1_takeImage 34 = .ok (.invokestatic 48, 3) := by decide +kernel
theorem dX1_takeImage_37 : decode cX1_takeImage 37 = .ok (.aload_n 0, 1) := by decide +kernel
theorem dX1_takeImage_38 : decode cX1_takeImage 38 = .ok (.dup, 1) := by decide +kernel
theorem dX1_takeImage_39 : decode cX1_takeImage 39 = .ok (.getfield 39, 3) := by decide +kernel
theorem dX1_takeImage_42 : decode cX1_takeImage 42 = .ok (.iconst 1, 1) := by decide +kernel
theorem dX1_takeImage_43 : decode cX1_takeImage 43 = .ok (.iadd, 1) := by decide +kernel
theorem dX1_takeImage_44 : decode cX1_takeImage 44 = .ok (.putfield 39, 3) := by decide +kernel
theorem dX1_takeImage_47 : decode cX1_takeImage 47 = .ok (.aload_n 0, 1) := by decide +kernel
theorem dX1_takeImage_48 : decode cX1_takeImage 48 = .ok (.getfield 39, 3) := by decide +kernel
theorem dX1_takeImage_51 : decode cX1_takeImage 51 = .ok (.iconst 1, 1) := by decide +kernel
theorem dX1_takeImage_52 : decode cX1_takeImage 52 = .ok (.isub, 1) := by decide +kernel
theorem dX1_takeImage_53 : decode cX1_takeImage 53 = .ok (.ireturn, 1) := by decide +kernel
theorem dX1_returnTo_0 : decode cX1_returnTo 0 = .ok (.iload_n 1, 1) := by decide +kernel
theorem dX1_returnTo_1 : decode cX1_returnTo 1 = .ok (.ifCond .lt 16, 3) := by decide +kernel
theorem dX1_returnTo_4 : decode cX1_returnTo 4 = .ok (.iload_n 1, 1) := by decide +kernel
theorem dX1_returnTo_5 : decode cX1_returnTo 5 = .ok (.aload_n 0, 1) := by decide +kernel
theorem dX1_returnTo_6 : decode cX1_returnTo 6 = .ok (.getfield 39, 3) := by decide +kernel
theorem dX1_returnTo_9 : decode cX1_returnTo 9 = .ok (.if_icmp .ge 8, 3) := by decide +kernel
theorem dX1_returnTo_12 : decode cX1_returnTo 12 = .ok (.iload_n 1, 1) := by decide +kernel
theorem dX1_returnTo_13 : decode cX1_returnTo 13 = .ok (.iconst 3, 1) := by decide +kernel
theorem dX1_returnTo_14 : decode cX1_returnTo 14 = .ok (.if_icmp .lt 5, 3) := by decide +kernel
theorem dX1_returnTo_17 : decode cX1_returnTo 17 = .ok (.iconst 0, 1) := by decide +kernel
theorem dX1_returnTo_18 : decode cX1_returnTo 18 = .ok (.ireturn, 1) := by decide +kernel
theorem dX1_returnTo_19 : decode cX1_returnTo 19 = .ok (.aload_n 0, 1) := by decide +kernel
theorem dX1_returnTo_20 : decode cX1_returnTo 20 = .ok (.getfield 20, 3) := by decide +kernel
theorem dX1_returnTo_23 : decode cX1_returnTo 23 = .ok (.iload_n 1, 1) := by decide +kernel
theorem dX1_returnTo_24 : decode cX1_returnTo 24 = .ok (.aaload, 1) := by decide +kernel
theorem dX1_returnTo_25 : decode cX1_returnTo 25 = .ok (.iconst 0, 1) := by decide +kernel
theorem dX1_returnTo_26 : decode cX1_returnTo 26 = .ok (.aload_n 0, 1) := by decide +kernel
theorem dX1_returnTo_27 : decode cX1_returnTo 27 = .ok (.getfield 11, 3) := by decide +kernel
theorem dX1_returnTo_30 : decode cX1_returnTo 30 = .ok (.iconst 0, 1) := by decide +kernel
theorem dX1_returnTo_31 : decode cX1_returnTo 31 = .ok (.bipush 9, 2) := by decide +kernel
theorem dX1_returnTo_33 : decode cX1_returnTo 33 = .ok (.invokestatic 48, 3) := by decide +kernel
theorem dX1_returnTo_36 : decode cX1_returnTo 36 = .ok (.aload_n 0, 1) := by decide +kernel
theorem dX1_returnTo_37 : decode cX1_returnTo 37 = .ok (.iconst 0, 1) := by decide +kernel
theorem dX1_returnTo_38 : decode cX1_returnTo 38 = .ok (.putfield 35, 3) := by decide +kernel
theorem dX1_returnTo_41 : decode cX1_returnTo 41 = .ok (.iconst 1, 1) := by decide +kernel
theorem dX1_returnTo_42 : decode cX1_returnTo 42 = .ok (.ireturn, 1) := by decide +kernel
theorem dX2_gain_0 : decode cX2_gain 0 = .ok (.iconst 0, 1) := by decide +kernel
theorem dX2_gain_1 : decode cX2_gain 1 = .ok (.istore_n 3, 1) := by decide +kernel
theorem dX2_gain_2 : decode cX2_gain 2 = .ok (.iload_n 1, 1) := by decide +kernel
theorem dX2_gain_3 : decode cX2_gain 3 = .ok (.iload_n 2, 1) := by decide +kernel
theorem dX2_gain_4 : decode cX2_gain 4 = .ok (.if_icmp .le 8, 3) := by decide +kernel
theorem dX2_gain_7 : decode cX2_gain 7 = .ok (.iload_n 0, 1) := by decide +kernel
theorem dX2_gain_8 : decode cX2_gain 8 = .ok (.istore_n 3, 1) := by decide +kernel
theorem dX2_gain_9 : decode cX2_gain 9 = .ok (.goto 12, 3) := by decide +kernel
theorem dX2_gain_12 : decode cX2_gain 12 = .ok (.iload_n 1, 1) := by decide +kernel
theorem dX2_gain_13 : decode cX2_gain 13 = .ok (.iload_n 2, 1) := by decide +kernel
theorem dX2_gain_14 : decode cX2_gain 14 = .ok (.if_icmp .ne 7, 3) := by decide +kernel
theorem dX2_gain_17 : decode cX2_gain 17 = .ok (.iload_n 0, 1) := by decide +kernel
theorem dX2_gain_18 : decode cX2_gain 18 = .ok (.iconst 2, 1) := by decide +kernel
theorem dX2_gain_19 : decode cX2_gain 19 = .ok (.idiv, 1) := by decide +kernel
theorem dX2_gain_20 : decode cX2_gain 20 = .ok (.istore_n 3, 1) := by decide +kernel
theorem dX2_gain_21 : decode cX2_gain 21 = .ok (.iload_n 3, 1) := by decide +kernel
theorem dX2_gain_22 : decode cX2_gain 22 = .ok (.iload_n 1, 1) := by decide +kernel
theorem dX2_gain_23 : decode cX2_gain 23 = .ok (.iload_n 1, 1) := by decide +kernel
theorem dX2_gain_24 : decode cX2_gain 24 = .ok (.imul, 1) := by decide +kernel
theorem dX2_gain_25 : decode cX2_gain 25 = .ok (.isub, 1) := by decide +kernel
theorem dX2_gain_26 : decode cX2_gain 26 = .ok (.ireturn, 1) := by decide +kernel
theorem dX2_areAtRest_0 : decode cX2_areAtRest 0 = .ok (.iload_n 0, 1) := by decide +kernel
theorem dX2_areAtRest_1 : decode cX2_areAtRest 1 = .ok (.iload_n 1, 1) := by decide +kernel
theorem dX2_areAtRest_2 : decode cX2_areAtRest 2 = .ok (.iload_n 2, 1) := by decide +kernel
theorem dX2_areAtRest_3 : decode cX2_areAtRest 3 = .ok (.invokestatic 9, 3) := by decide +kernel
theorem dX2_areAtRest_6 : decode cX2_areAtRest 6 = .ok (.istore_n 3, 1) := by decide +kernel
theorem dX2_areAtRest_7 : decode cX2_areAtRest 7 = .ok (.iload_n 0, 1) := by decide +kernel
theorem dX2_areAtRest_8 : decode cX2_areAtRest 8 = .ok (.iload_n 2, 1) := by decide +kernel
theorem dX2_areAtRest_9 : decode cX2_areAtRest 9 = .ok (.iload_n 1, 1) := by decide +kernel
theorem dX2_areAtRest_10 : decode cX2_areAtRest 10 = .ok (.invokestatic 9, 3) := by decide +kernel
theorem dX2_areAtRest_13 : decode cX2_areAtRest 13 = .ok (.istore 4, 2) := by decide +kernel
theorem dX2_areAtRest_15 : decode cX2_areAtRest 15 = .ok (.iconst 0, 1) := by decide +kernel
theorem dX2_areAtRest_16 : decode cX2_areAtRest 16 = .ok (.istore 5, 2) := by decide +kernel
theorem dX2_areAtRest_18 : decode cX2_areAtRest 18 = .ok (.iload 5, 2) := by decide +kernel
theorem dX2_areAtRest_20 : decode cX2_areAtRest 20 = .ok (.bipush 6, 2) := by decide +kernel
theorem dX2_areAtRest_22 : decode cX2_areAtRest 22 = .ok (.if_icmp .gt 34, 3) := by decide +kernel
theorem dX2_areAtRest_25 : decode cX2_areAtRest 25 = .ok (.iload_n 0, 1) := by decide +kernel
theorem dX2_areAtRest_26 : decode cX2_areAtRest 26 = .ok (.iload 5, 2) := by decide +kernel
theorem dX2_areAtRest_28 : decode cX2_areAtRest 28 = .ok (.iload_n 2, 1) := by decide +kernel
theorem dX2_areAtRest_29 : decode cX2_areAtRest 29 = .ok (.invokestatic 9, 3) := by decide +kernel
theorem dX2_areAtRest_32 : decode cX2_areAtRest 32 = .ok (.iload_n 3, 1) := by decide +kernel
theorem dX2_areAtRest_33 : decode cX2_areAtRest 33 = .ok (.if_icmp .gt 15, 3) := by decide +kernel
theorem dX2_areAtRest_36 : decode cX2_areAtRest 36 = .ok (.iload_n 0, 1) := by decide +kernel
theorem dX2_areAtRest_37 : decode cX2_areAtRest 37 = .ok (.iload 5, 2) := by decide +kernel
theorem dX2_areAtRest_39 : decode cX2_areAtRest 39 = .ok (.iload_n 1, 1) := by decide +kernel
theorem dX2_areAtRest_40 : decode cX2_areAtRest 40 = .ok (.invokestatic 9, 3) := by decide +kernel
theorem dX2_areAtRest_43 : decode cX2_areAtRest 43 = .ok (.iload 4, 2) := by decide +kernel
theorem dX2_areAtRest_45 : decode cX2_areAtRest 45 = .ok (.if_icmp .le 5, 3) := by decide +kernel
theorem dX2_areAtRest_48 : decode cX2_areAtRest 48 = .ok (.iconst 0, 1) := by decide +kernel
theorem dX2_areAtRest_49 : decode cX2_areAtRest 49 = .ok (.ireturn, 1) := by decide +kernel
theorem dX2_areAtRest_50 : decode cX2_areAtRest 50 = .ok (.iinc 5 1, 3) := by decide +kernel
theorem dX2_areAtRest_53 : decode cX2_areAtRest 53 = .ok (.goto (-35), 3) := by decide +kernel
theorem dX2_areAtRest_56 : decode cX2_areAtRest 56 = .ok (.iconst 1, 1) := by decide +kernel
theorem dX2_areAtRest_57 : decode cX2_areAtRest 57 = .ok (.ireturn, 1) := by decide +kernel
theorem dX3_init_0 : decode cX3_init 0 = .ok (.aload_n 0, 1) := by decide +kernel
theorem dX3_init_1 : decode cX3_init 1 = .ok (.invokespecial 3, 3) := by decide +kernel
theorem dX3_init_4 : decode cX3_init 4 = .ok (.aload_n 0, 1) := by decide +kernel
theorem dX3_init_5 : decode cX3_init 5 = .ok (.new 9, 3) := by decide +kernel
theorem dX3_init_8 : decode cX3_init 8 = .ok (.dup, 1) := by decide +kernel
theorem dX3_init_9 : decode cX3_init 9 = .ok (.invokespecial 11, 3) := by decide +kernel
theorem dX3_init_12 : decode cX3_init 12 = .ok (.putfield 12, 3) := by decide +kernel
theorem dX3_init_15 : decode cX3_init 15 = .ok (.return_, 1) := by decide +kernel
theorem dX3_freeIn_0 : decode cX3_freeIn 0 = .ok (.iconst 0, 1) := by decide +kernel
theorem dX3_freeIn_1 : decode cX3_freeIn 1 = .ok (.istore_n 3, 1) := by decide +kernel
theorem dX3_freeIn_2 : decode cX3_freeIn 2 = .ok (.iconst 0, 1) := by decide +kernel
theorem dX3_freeIn_3 : decode cX3_freeIn 3 = .ok (.istore 4, 2) := by decide +kernel
theorem dX3_freeIn_5 : decode cX3_freeIn 5 = .ok (.iload 4, 2) := by decide +kernel
theorem dX3_freeIn_7 : decode cX3_freeIn 7 = .ok (.aload_n 0, 1) := by decide +kernel
theorem dX3_freeIn_8 : decode cX3_freeIn 8 = .ok (.getfield 18, 3) := by decide +kernel
theorem dX3_freeIn_11 : decode cX3_freeIn 11 = .ok (.if_icmp .ge 63, 3) := by decide +kernel
theorem dX3_freeIn_14 : decode cX3_freeIn 14 = .ok (.iload_n 2, 1) := by decide +kernel
theorem dX3_freeIn_15 : decode cX3_freeIn 15 = .ok (.aload_n 1, 1) := by decide +kernel
theorem dX3_freeIn_16 : decode cX3_freeIn 16 = .ok (.iload 4, 2) := by decide +kernel
theorem dX3_freeIn_18 : decode cX3_freeIn 18 = .ok (.invokevirtual 24, 3) := by decide +kernel
theorem dX3_freeIn_21 : decode cX3_freeIn 21 = .ok (.invokestatic 30, 3) := by decide +kernel
theorem dX3_freeIn_24 : decode cX3_freeIn 24 = .ok (.ishr, 1) := by decide +kernel
theorem dX3_freeIn_25 : decode cX3_freeIn 25 = .ok (.iconst 1, 1) := by decide +kernel
theorem dX3_freeIn_26 : decode cX3_freeIn 26 = .ok (.iand, 1) := by decide +kernel
theorem dX3_freeIn_27 : decode cX3_freeIn 27 = .ok (.ifCond .eq 7, 3) := by decide +kernel
theorem dX3_freeIn_30 : decode cX3_freeIn 30 = .ok (.iconst 1, 1) := by decide +kernel
theorem dX3_freeIn_31 : decode cX3_freeIn 31 = .ok (.goto 4, 3) := by decide +kernel
theorem dX3_freeIn_34 : decode cX3_freeIn 34 = .ok (.iconst 0, 1) := by decide +kernel
theorem dX3_freeIn_35 : decode cX3_freeIn 35 = .ok (.istore 5, 2) := by decide +kernel
theorem dX3_freeIn_37 : decode cX3_freeIn 37 = .ok (.iload 5, 2) := by decide +kernel
theorem dX3_freeIn_39 : decode cX3_freeIn 39 = .ok (.ifCond .eq 29, 3) := by decide +kernel
theorem dX3_freeIn_42 : decode cX3_freeIn 42 = .ok (.aload_n 1, 1) := by decide +kernel
theorem dX3_freeIn_43 : decode cX3_freeIn 43 = .ok (.iload 4, 2) := by decide +kernel
theorem dX3_freeIn_45 : decode cX3_freeIn 45 = .ok (.invokevirtual 33, 3) := by decide +kernel
theorem dX3_freeIn_48 : decode cX3_freeIn 48 = .ok (.ifCond .ne 20, 3) := by decide +kernel
theorem dX3_freeIn_51 : decode cX3_freeIn 51 = .ok (.aload_n 0, 1) := by decide +kernel
theorem dX3_freeIn_52 : decode cX3_freeIn 52 = .ok (.iload 4, 2) := by decide +kernel
theorem dX3_freeIn_54 : decode cX3_freeIn 54 = .ok (.invokevirtual 37, 3) := by decide +kernel
theorem dX3_freeIn_57 : decode cX3_freeIn 57 = .ok (.iconst 2, 1) := by decide +kernel
theorem dX3_freeIn_58 : decode cX3_freeIn 58 = .ok (.if_icmp .eq 10, 3) := by decide +kernel
theorem dX3_freeIn_61 : decode cX3_freeIn 61 = .ok (.iload_n 3, 1) := by decide +kernel
theorem dX3_freeIn_62 : decode cX3_freeIn 62 = .ok (.iconst 1, 1) := by decide +kernel
theorem dX3_freeIn_63 : decode cX3_freeIn 63 = .ok (.iload 4, 2) := by decide +kernel
theorem dX3_freeIn_65 : decode cX3_freeIn 65 = .ok (.ishl, 1) := by decide +kernel
theorem dX3_freeIn_66 : decode cX3_freeIn 66 = .ok (.ior, 1) := by decide +kernel
theorem dX3_freeIn_67 : decode cX3_freeIn 67 = .ok (.istore_n 3, 1) := by decide +kernel
theorem dX3_freeIn_68 : decode cX3_freeIn 68 = .ok (.iinc 4 1, 3) := by decide +kernel
theorem dX3_freeIn_71 : decode cX3_freeIn 71 = .ok (.goto (-66), 3) := by decide +kernel
theorem dX3_freeIn_74 : decode cX3_freeIn 74 = .ok (.iload_n 3, 1) := by decide +kernel
theorem dX3_freeIn_75 : decode cX3_freeIn 75 = .ok (.ireturn, 1) := by decide +kernel
theorem dX3_isOfThese_0 : decode cX3_isOfThese 0 = .ok (.iload_n 0, 1) := by decide +kernel
theorem dX3_isOfThese_1 : decode cX3_isOfThese 1 = .ok (.iload_n 2, 1) := by decide +kernel
theorem dX3_isOfThese_2 : decode cX3_isOfThese 2 = .ok (.iconst (-1), 1) := by decide +kernel
theorem dX3_isOfThese_3 : decode cX3_isOfThese 3 = .ok (.ixor, 1) := by decide +kernel
theorem dX3_isOfThese_4 : decode cX3_isOfThese 4 = .ok (.iand, 1) := by decide +kernel
theorem dX3_isOfThese_5 : decode cX3_isOfThese 5 = .ok (.ifCond .ne 15, 3) := by decide +kernel
theorem dX3_isOfThese_8 : decode cX3_isOfThese 8 = .ok (.iload_n 0, 1) := by decide +kernel
theorem dX3_isOfThese_9 : decode cX3_isOfThese 9 = .ok (.invokestatic 40, 3) := by decide +kernel
theorem dX3_isOfThese_12 : decode cX3_isOfThese 12 = .ok (.iload_n 1, 1) := by decide +kernel
theorem dX3_isOfThese_13 : decode cX3_isOfThese 13 = .ok (.if_icmp .ne 7, 3) := by decide +kernel
theorem dX3_isOfThese_16 : decode cX3_isOfThese 16 = .ok (.iconst 1, 1) := by decide +kernel
theorem dX3_isOfThese_17 : decode cX3_isOfThese 17 = .ok (.goto 4, 3) := by decide +kernel
theorem dX3_isOfThese_20 : decode cX3_isOfThese 20 = .ok (.iconst 0, 1) := by decide +kernel
theorem dX3_isOfThese_21 : decode cX3_isOfThese 21 = .ok (.ireturn, 1) := by decide +kernel
theorem dX3_fewestForPlace_0 : decode cX3_fewestForPlace 0 = .ok (.aload_n 0, 1) := by decide +kernel
theorem dX3_fewestForPlace_1 : decode cX3_fewestForPlace 1 = .ok (.aload_n 1, 1) := by decide +kernel
theorem dX3_fewestForPlace_2 : decode cX3_fewestForPlace 2 = .ok (.aload_n 2, 1) := by decide +kernel
theorem dX3_fewestForPlace_3 : decode cX3_fewestForPlace 3 = .ok (.iload_n 3, 1) := by decide +kernel
theorem dX3_fewestForPlace_4 : decode cX3_fewestForPlace 4 = .ok (.iload_n 3, 1) := by decide +kernel
theorem dX3_fewestForPlace_5 : decode cX3_fewestForPlace 5 = .ok (.iload 4, 2) := by decide +kernel
theorem dX3_fewestForPlace_7 : decode cX3_fewestForPlace 7 = .ok (.iload 5, 2) := by decide +kernel
theorem dX3_fewestForPlace_9 : decode cX3_fewestForPlace 9 = .ok (.invokevirtual 45, 3) := by decide +kernel
theorem dX3_fewestForPlace_12 : decode cX3_fewestForPlace 12 = .ok (.ireturn, 1) := by decide +kernel
theorem dX3_fewestToMeet_0 : decode cX3_fewestToMeet 0 = .ok (.aload_n 0, 1) := by decide +kernel
theorem dX3_fewestToMeet_1 : decode cX3_fewestToMeet 1 = .ok (.aload_n 1, 1) := by decide +kernel
theorem dX3_fewestToMeet_2 : decode cX3_fewestToMeet 2 = .ok (.aload_n 2, 1) := by decide +kernel
theorem dX3_fewestToMeet_3 : decode cX3_fewestToMeet 3 = .ok (.iload_n 3, 1) := by decide +kernel
theorem dX3_fewestToMeet_4 : decode cX3_fewestToMeet 4 = .ok (.iload 4, 2) := by decide +kernel
theorem dX3_fewestToMeet_6 : decode cX3_fewestToMeet 6 = .ok (.iconst (-1), 1) := by decide +kernel
theorem dX3_fewestToMeet_7 : decode cX3_fewestToMeet 7 = .ok (.iload 5, 2) := by decide +kernel
theorem dX3_fewestToMeet_9 : decode cX3_fewestToMeet 9 = .ok (.invokevirtual 45, 3) := by decide +kernel
theorem dX3_fewestToMeet_12 : decode cX3_fewestToMeet 12 = .ok (.ireturn, 1) := by decide +kernel
theorem dX3_fewest_0 : decode cX3_fewest 0 = .ok (.iconst 1, 1) := by decide +kernel
theorem dX3_fewest_1 : decode cX3_fewest 1 = .ok (.aload_n 2, 1) := by decide +kernel
theorem dX3_fewest_2 : decode cX3_fewest 2 = .ok (.iload_n 3, 1) := by decide +kernel
theorem dX3_fewest_3 : decode cX3_fewest 3 = .ok (.invokevirtual 24, 3) := by decide +kernel
theorem dX3_fewest_6 : decode cX3_fewest 6 = .ok (.invokestatic 30, 3) := by decide +kernel
theorem dX3_fewest_9 : decode cX3_fewest 9 = .ok (.ishl, 1) := by decide +kernel
theorem dX3_fewest_10 : decode cX3_fewest 10 = .ok (.iconst 1, 1) := by decide +kernel
theorem dX3_fewest_11 : decode cX3_fewest 11 = .ok (.aload_n 2, 1) := by decide +kernel
theorem dX3_fewest_12 : decode cX3_fewest 12 = .ok (.iload 4, 2) := by decide +kernel
theorem dX3_fewest_14 : decode cX3_fewest 14 = .ok (.invokevirtual 24, 3) := by decide +kernel
theorem dX3_fewest_17 : decode cX3_fewest 17 = .ok (.invokestatic 30, 3) := by decide +kernel
theorem dX3_fewest_20 : decode cX3_fewest 20 = .ok (.ishl, 1) := by decide +kernel
theorem dX3_fewest_21 : decode cX3_fewest 21 = .ok (.ior, 1) := by decide +kernel
theorem dX3_fewest_22 : decode cX3_fewest 22 = .ok (.istore 7, 2) := by decide +kernel
theorem dX3_fewest_24 : decode cX3_fewest 24 = .ok (.aload_n 1, 1) := by decide +kernel
theorem dX3_fewest_25 : decode cX3_fewest 25 = .ok (.aload_n 2, 1) := by decide +kernel
theorem dX3_fewest_26 : decode cX3_fewest 26 = .ok (.iload 7, 2) := by decide +kernel
theorem dX3_fewest_28 : decode cX3_fewest 28 = .ok (.invokestatic 49, 3) := by decide +kernel
theorem dX3_fewest_31 : decode cX3_fewest 31 = .ok (.istore 8, 2) := by decide +kernel
theorem dX3_fewest_33 : decode cX3_fewest 33 = .ok (.iconst 0, 1) := by decide +kernel
theorem dX3_fewest_34 : decode cX3_fewest 34 = .ok (.istore 9, 2) := by decide +kernel
theorem dX3_fewest_36 : decode cX3_fewest 36 = .ok (.iload 9, 2) := by decide +kernel
theorem dX3_fewest_38 : decode cX3_fewest 38 = .ok (.iload 8, 2) := by decide +kernel
theorem dX3_fewest_40 : decode cX3_fewest 40 = .ok (.invokestatic 40, 3) := by decide +kernel
theorem dX3_fewest_43 : decode cX3_fewest 43 = .ok (.if_icmp .gt 73, 3) := by decide +kernel
theorem dX3_fewest_46 : decode cX3_fewest 46 = .ok (.iconst 0, 1) := by decide +kernel
theorem dX3_fewest_47 : decode cX3_fewest 47 = .ok (.istore 10, 2) := by decide +kernel
theorem dX3_fewest_49 : decode cX3_fewest 49 = .ok (.iload 10, 2) := by decide +kernel
theorem dX3_fewest_51 : decode cX3_fewest 51 = .ok (.iload 8, 2) := by decide +kernel
theorem dX3_fewest_53 : decode cX3_fewest 53 = .ok (.if_icmp .gt 57, 3) := by decide +kernel
theorem dX3_fewest_56 : decode cX3_fewest 56 = .ok (.iload 10, 2) := by decide +kernel
theorem dX3_fewest_58 : decode cX3_fewest 58 = .ok (.iload 9, 2) := by decide +kernel
theorem dX3_fewest_60 : decode cX3_fewest 60 = .ok (.iload 8, 2) := by decide +kernel
theorem dX3_fewest_62 : decode cX3_fewest 62 = .ok (.invokestatic 53, 3) := by decide +kernel
theorem dX3_fewest_65 : decode cX3_fewest 65 = .ok (.ifCond .eq 39, 3) := by decide +kernel
theorem dX3_fewest_68 : decode cX3_fewest 68 = .ok (.aload_n 0, 1) := by decide +kernel
theorem dX3_fewest_69 : decode cX3_fewest 69 = .ok (.getfield 12, 3) := by decide +kernel
theorem dX3_fewest_72 : decode cX3_fewest 72 = .ok (.aload_n 1, 1) := by decide +kernel
theorem dX3_fewest_73 : decode cX3_fewest 73 = .ok (.aload_n 2, 1) := by decide +kernel
theorem dX3_fewest_74 : decode cX3_fewest 74 = .ok (.iload 10, 2) := by decide +kernel
theorem dX3_fewest_76 : decode cX3_fewest 76 = .ok (.invokevirtual 57, 3) := by decide +kernel
theorem dX3_fewest_79 : decode cX3_fewest 79 = .ok (.aload_n 0, 1) := by decide +kernel
theorem dX3_fewest_80 : decode cX3_fewest 80 = .ok (.getfield 12, 3) := by decide +kernel
theorem dX3_fewest_83 : decode cX3_fewest 83 = .ok (.iload 6, 2) := by decide +kernel
theorem dX3_fewest_85 : decode cX3_fewest 85 = .ok (.invokevirtual 61, 3) := by decide +kernel
theorem dX3_fewest_88 : decode cX3_fewest 88 = .ok (.pop, 1) := by decide +kernel
theorem dX3_fewest_89 : decode cX3_fewest 89 = .ok (.aload_n 0, 1) := by decide +kernel
theorem dX3_fewest_90 : decode cX3_fewest 90 = .ok (.iload_n 3, 1) := by decide +kernel
theorem dX3_fewest_91 : decode cX3_fewest 91 = .ok (.iload 4, 2) := by decide +kernel
theorem dX3_fewest_93 : decode cX3_fewest 93 = .ok (.iload 5, 2) := by decide +kernel
theorem dX3_fewest_95 : decode cX3_fewest 95 = .ok (.invokevirtual 64, 3) := by decide +kernel
theorem dX3_fewest_98 : decode cX3_fewest 98 = .ok (.ifCond .eq 6, 3) := by decide +kernel
theorem dX3_fewest_101 : decode cX3_fewest 101 = .ok (.iload 10, 2) := by decide +kernel
theorem dX3_fewest_103 : decode cX3_fewest 103 = .ok (.ireturn, 1) := by decide +kernel
theorem dX3_fewest_104 : decode cX3_fewest 104 = .ok (.iinc 10 1, 3) := by decide +kernel
theorem dX3_fewest_107 : decode cX3_fewest 107 = .ok (.goto (-58), 3) := by decide +kernel
theorem dX3_fewest_110 : decode cX3_fewest 110 = .ok (.iinc 9 1, 3) := by decide +kernel
theorem dX3_fewest_113 : decode cX3_fewest 113 = .ok (.goto (-77), 3) := by decide +kernel
theorem dX3_fewest_116 : decode cX3_fewest 116 = .ok (.bipush (-2), 2) := by decide +kernel
theorem dX3_fewest_118 : decode cX3_fewest 118 = .ok (.ireturn, 1) := by decide +kernel
theorem dX3_isReached_0 : decode cX3_isReached 0 = .ok (.iload_n 1, 1) := by decide +kernel
theorem dX3_isReached_1 : decode cX3_isReached 1 = .ok (.iload_n 2, 1) := by decide +kernel
theorem dX3_isReached_2 : decode cX3_isReached 2 = .ok (.if_icmp .ne 23, 3) := by decide +kernel
theorem dX3_isReached_5 : decode cX3_isReached 5 = .ok (.aload_n 0, 1) := by decide +kernel
theorem dX3_isReached_6 : decode cX3_isReached 6 = .ok (.getfield 12, 3) := by decide +kernel
theorem dX3_isReached_9 : decode cX3_isReached 9 = .ok (.iload_n 1, 1) := by decide +kernel
theorem dX3_isReached_10 : decode cX3_isReached 10 = .ok (.invokevirtual 67, 3) := by decide +kernel
theorem dX3_isReached_13 : decode cX3_isReached 13 = .ok (.iload_n 3, 1) := by decide +kernel
theorem dX3_isReached_14 : decode cX3_isReached 14 = .ok (.if_icmp .ne 7, 3) := by decide +kernel
theorem dX3_isReached_17 : decode cX3_isReached 17 = .ok (.iconst 1, 1) := by decide +kernel
theorem dX3_isReached_18 : decode cX3_isReached 18 = .ok (.goto 16, 3) := by decide +kernel
theorem dX3_isReached_21 : decode cX3_isReached 21 = .ok (.iconst 0, 1) := by decide +kernel
theorem dX3_isReached_22 : decode cX3_isReached 22 = .ok (.goto 12, 3) := by decide +kernel
theorem dX3_isReached_25 : decode cX3_isReached 25 = .ok (.aload_n 0, 1) := by decide +kernel
theorem dX3_isReached_26 : decode cX3_isReached 26 = .ok (.getfield 12, 3) := by decide +kernel
theorem dX3_isReached_29 : decode cX3_isReached 29 = .ok (.iload_n 1, 1) := by decide +kernel
theorem dX3_isReached_30 : decode cX3_isReached 30 = .ok (.iload_n 2, 1) := by decide +kernel
theorem dX3_isReached_31 : decode cX3_isReached 31 = .ok (.invokevirtual 68, 3) := by decide +kernel
theorem dX3_isReached_34 : decode cX3_isReached 34 = .ok (.ireturn, 1) := by decide +kernel
theorem dX3_bestFor_0 : decode cX3_bestFor 0 = .ok (.aload_n 1, 1) := by decide +kernel
theorem dX3_bestFor_1 : decode cX3_bestFor 1 = .ok (.getfield 72, 3) := by decide +kernel
theorem dX3_bestFor_4 : decode cX3_bestFor 4 = .ok (.aload_n 2, 1) := by decide +kernel
theorem dX3_bestFor_5 : decode cX3_bestFor 5 = .ok (.iload_n 3, 1) := by decide +kernel
theorem dX3_bestFor_6 : decode cX3_bestFor 6 = .ok (.invokevirtual 76, 3) := by decide +kernel
theorem dX3_bestFor_9 : decode cX3_bestFor 9 = .ok (.istore 4, 2) := by decide +kernel
theorem dX3_bestFor_11 : decode cX3_bestFor 11 = .ok (.iconst 0, 1) := by decide +kernel
theorem dX3_bestFor_12 : decode cX3_bestFor 12 = .ok (.istore 5, 2) := by decide +kernel
theorem dX3_bestFor_14 : decode cX3_bestFor 14 = .ok (.iconst 0, 1) := by decide +kernel
theorem dX3_bestFor_15 : decode cX3_bestFor 15 = .ok (.istore 6, 2) := by decide +kernel
theorem dX3_bestFor_17 : decode cX3_bestFor 17 = .ok (.iload 6, 2) := by decide +kernel
theorem dX3_bestFor_19 : decode cX3_bestFor 19 = .ok (.aload_n 1, 1) := by decide +kernel
theorem dX3_bestFor_20 : decode cX3_bestFor 20 = .ok (.getfield 82, 3) := by decide +kernel
theorem dX3_bestFor_23 : decode cX3_bestFor 23 = .ok (.if_icmp .ge 33, 3) := by decide +kernel
theorem dX3_bestFor_26 : decode cX3_bestFor 26 = .ok (.iload 5, 2) := by decide +kernel
theorem dX3_bestFor_28 : decode cX3_bestFor 28 = .ok (.aload_n 0, 1) := by decide +kernel
theorem dX3_bestFor_29 : decode cX3_bestFor 29 = .ok (.aload_n 1, 1) := by decide +kernel
theorem dX3_bestFor_30 : decode cX3_bestFor 30 = .ok (.aload_n 2, 1) := by decide +kernel
theorem dX3_bestFor_31 : decode cX3_bestFor 31 = .ok (.aload_n 1, 1) := by decide +kernel
theorem dX3_bestFor_32 : decode cX3_bestFor 32 = .ok (.getfield 72, 3) := by decide +kernel
theorem dX3_bestFor_35 : decode cX3_bestFor 35 = .ok (.iload 4, 2) := by decide +kernel
theorem dX3_bestFor_37 : decode cX3_bestFor 37 = .ok (.iload 6, 2) := by decide +kernel
theorem dX3_bestFor_39 : decode cX3_bestFor 39 = .ok (.invokevirtual 85, 3) := by decide +kernel
theorem dX3_bestFor_42 : decode cX3_bestFor 42 = .ok (.iload 6, 2) := by decide +kernel
theorem dX3_bestFor_44 : decode cX3_bestFor 44 = .ok (.invokevirtual 89, 3) := by decide +kernel
theorem dX3_bestFor_47 : decode cX3_bestFor 47 = .ok (.ior, 1) := by decide +kernel
theorem dX3_bestFor_48 : decode cX3_bestFor 48 = .ok (.istore 5, 2) := by decide +kernel
theorem dX3_bestFor_50 : decode cX3_bestFor 50 = .ok (.iinc 6 1, 3) := by decide +kernel
theorem dX3_bestFor_53 : decode cX3_bestFor 53 = .ok (.goto (-36), 3) := by decide +kernel
theorem dX3_bestFor_56 : decode cX3_bestFor 56 = .ok (.iload 5, 2) := by decide +kernel
theorem dX3_bestFor_58 : decode cX3_bestFor 58 = .ok (.ireturn, 1) := by decide +kernel
theorem dX3_bestInRing_0 : decode cX3_bestInRing 0 = .ok (.aload_n 1, 1) := by decide +kernel
theorem dX3_bestInRing_1 : decode cX3_bestInRing 1 = .ok (.getfield 72, 3) := by decide +kernel
theorem dX3_bestInRing_4 : decode cX3_bestInRing 4 = .ok (.iload_n 3, 1) := by decide +kernel
theorem dX3_bestInRing_5 : decode cX3_bestInRing 5 = .ok (.invokevirtual 93, 3) := by decide +kernel
theorem dX3_bestInRing_8 : decode cX3_bestInRing 8 = .ok (.istore 5, 2) := by decide +kernel
theorem dX3_bestInRing_10 : decode cX3_bestInRing 10 = .ok (.aload_n 1, 1) := by decide +kernel
theorem dX3_bestInRing_11 : decode cX3_bestInRing 11 = .ok (.aload_n 2, 1) := by decide +kernel
theorem dX3_bestInRing_12 : decode cX3_bestInRing 12 = .ok (.iconst 1, 1) := by decide +kernel
theorem dX3_bestInRing_13 : decode cX3_bestInRing 13 = .ok (.iload 4, 2) := by decide +kernel
theorem dX3_bestInRing_15 : decode cX3_bestInRing 15 = .ok (.ishl, 1) := by decide +kernel
theorem dX3_bestInRing_16 : decode cX3_bestInRing 16 = .ok (.invokestatic 49, 3) := by decide +kernel
theorem dX3_bestInRing_19 : decode cX3_bestInRing 19 = .ok (.istore 6, 2) := by decide +kernel
theorem dX3_bestInRing_21 : decode cX3_bestInRing 21 = .ok (.iconst (-1), 1) := by decide +kernel
theorem dX3_bestInRing_22 : decode cX3_bestInRing 22 = .ok (.istore 7, 2) := by decide +kernel
theorem dX3_bestInRing_24 : decode cX3_bestInRing 24 = .ok (.iconst 0, 1) := by decide +kernel
theorem dX3_bestInRing_25 : decode cX3_bestInRing 25 = .ok (.istore 8, 2) := by decide +kernel
theorem dX3_bestInRing_27 : decode cX3_bestInRing 27 = .ok (.iconst 0, 1) := by decide +kernel
theorem dX3_bestInRing_28 : decode cX3_bestInRing 28 = .ok (.istore 9, 2) := by decide +kernel
theorem dX3_bestInRing_30 : decode cX3_bestInRing 30 = .ok (.iload 9, 2) := by decide +kernel
theorem dX3_bestInRing_32 : decode cX3_bestInRing 32 = .ok (.iload 6, 2) := by decide +kernel
theorem dX3_bestInRing_34 : decode cX3_bestInRing 34 = .ok (.invokestatic 40, 3) := by decide +kernel
theorem dX3_bestInRing_37 : decode cX3_bestInRing 37 = .ok (.if_icmp .gt 77, 3) := by decide +kernel
theorem dX3_bestInRing_40 : decode cX3_bestInRing 40 = .ok (.iconst 0, 1) := by decide +kernel
theorem dX3_bestInRing_41 : decode cX3_bestInRing 41 = .ok (.istore 10, 2) := by decide +kernel
theorem dX3_bestInRing_43 : decode cX3_bestInRing 43 = .ok (.iload 10, 2) := by decide +kernel
theorem dX3_bestInRing_45 : decode cX3_bestInRing 45 = .ok (.iload 6, 2) := by decide +kernel
theorem dX3_bestInRing_47 : decode cX3_bestInRing 47 = .ok (.if_icmp .gt 61, 3) := by decide +kernel
theorem dX3_bestInRing_50 : decode cX3_bestInRing 50 = .ok (.iload 7, 2) := by decide +kernel
theorem dX3_bestInRing_52 : decode cX3_bestInRing 52 = .ok (.iload 5, 2) := by decide +kernel
theorem dX3_bestInRing_54 : decode cX3_bestInRing 54 = .ok (.if_icmp .ge 54, 3) := by decide +kernel
theorem dX3_bestInRing_57 : decode cX3_bestInRing 57 = .ok (.iload 10, 2) := by decide +kernel
theorem dX3_bestInRing_59 : decode cX3_bestInRing 59 = .ok (.iload 9, 2) := by decide +kernel
theorem dX3_bestInRing_61 : decode cX3_bestInRing 61 = .ok (.iload 6, 2) := by decide +kernel
theorem dX3_bestInRing_63 : decode cX3_bestInRing 63 = .ok (.invokestatic 53, 3) := by decide +kernel
theorem dX3_bestInRing_66 : decode cX3_bestInRing 66 = .ok (.ifCond .eq 36, 3) := by decide +kernel
theorem dX3_bestInRing_69 : decode cX3_bestInRing 69 = .ok (.aload_n 1, 1) := by decide +kernel
theorem dX3_bestInRing_70 : decode cX3_bestInRing 70 = .ok (.getfield 72, 3) := by decide +kernel
theorem dX3_bestInRing_73 : decode cX3_bestInRing 73 = .ok (.aload_n 0, 1) := by decide +kernel
theorem dX3_bestInRing_74 : decode cX3_bestInRing 74 = .ok (.iload_n 3, 1) := by decide +kernel
theorem dX3_bestInRing_75 : decode cX3_bestInRing 75 = .ok (.aload_n 1, 1) := by decide +kernel
theorem dX3_bestInRing_76 : decode cX3_bestInRing 76 = .ok (.aload_n 2, 1) := by decide +kernel
theorem dX3_bestInRing_77 : decode cX3_bestInRing 77 = .ok (.iload 10, 2) := by decide +kernel
theorem dX3_bestInRing_79 : decode cX3_bestInRing 79 = .ok (.invokevirtual 96, 3) := by decide +kernel
theorem dX3_bestInRing_82 : decode cX3_bestInRing 82 = .ok (.invokevirtual 93, 3) := by decide +kernel
theorem dX3_bestInRing_85 : decode cX3_bestInRing 85 = .ok (.istore 11, 2) := by decide +kernel
theorem dX3_bestInRing_87 : decode cX3_bestInRing 87 = .ok (.iload 11, 2) := by decide +kernel
theorem dX3_bestInRing_89 : decode cX3_bestInRing 89 = .ok (.iload 7, 2) := by decide +kernel
theorem dX3_bestInRing_91 : decode cX3_bestInRing 91 = .ok (.if_icmp .le 11, 3) := by decide +kernel
theorem dX3_bestInRing_94 : decode cX3_bestInRing 94 = .ok (.iload 11, 2) := by decide +kernel
theorem dX3_bestInRing_96 : decode cX3_bestInRing 96 = .ok (.istore 7, 2) := by decide +kernel
theorem dX3_bestInRing_98 : decode cX3_bestInRing 98 = .ok (.iload 10, 2) := by decide +kernel
theorem dX3_bestInRing_100 : decode cX3_bestInRing 100 = .ok (.istore 8, 2) := by decide +kernel
theorem dX3_bestInRing_102 : decode cX3_bestInRing 102 = .ok (.iinc 10 1, 3) := by decide +kernel
theorem dX3_bestInRing_105 : decode cX3_bestInRing 105 = .ok (.goto (-62), 3) := by decide +kernel
theorem dX3_bestInRing_108 : decode cX3_bestInRing 108 = .ok (.iinc 9 1, 3) := by decide +kernel
theorem dX3_bestInRing_111 : decode cX3_bestInRing 111 = .ok (.goto (-81), 3) := by decide +kernel
theorem dX3_bestInRing_114 : decode cX3_bestInRing 114 = .ok (.iload 8, 2) := by decide +kernel
theorem dX3_bestInRing_116 : decode cX3_bestInRing 116 = .ok (.ireturn, 1) := by decide +kernel
theorem dX3_paidWithin_0 : decode cX3_paidWithin 0 = .ok (.aload_n 0, 1) := by decide +kernel
theorem dX3_paidWithin_1 : decode cX3_paidWithin 1 = .ok (.aload_n 1, 1) := by decide +kernel
theorem dX3_paidWithin_2 : decode cX3_paidWithin 2 = .ok (.getfield 72, 3) := by decide +kernel
theorem dX3_paidWithin_5 : decode cX3_paidWithin 5 = .ok (.aload_n 2, 1) := by decide +kernel
theorem dX3_paidWithin_6 : decode cX3_paidWithin 6 = .ok (.iload 4, 2) := by decide +kernel
theorem dX3_paidWithin_8 : decode cX3_paidWithin 8 = .ok (.invokevirtual 76, 3) := by decide +kernel
theorem dX3_paidWithin_11 : decode cX3_paidWithin 11 = .ok (.aload_n 1, 1) := by decide +kernel
theorem dX3_paidWithin_12 : decode cX3_paidWithin 12 = .ok (.aload_n 2, 1) := by decide +kernel
theorem dX3_paidWithin_13 : decode cX3_paidWithin 13 = .ok (.iload_n 3, 1) := by decide +kernel
theorem dX3_paidWithin_14 : decode cX3_paidWithin 14 = .ok (.invokevirtual 96, 3) := by decide +kernel
theorem dX3_paidWithin_17 : decode cX3_paidWithin 17 = .ok (.ireturn, 1) := by decide +kernel
theorem dX3_paidOf_0 : decode cX3_paidOf 0 = .ok (.aload_n 2, 1) := by decide +kernel
theorem dX3_paidOf_1 : decode cX3_paidOf 1 = .ok (.getfield 72, 3) := by decide +kernel
theorem dX3_paidOf_4 : decode cX3_paidOf 4 = .ok (.iload_n 1, 1) := by decide +kernel
theorem dX3_paidOf_5 : decode cX3_paidOf 5 = .ok (.invokevirtual 100, 3) := by decide +kernel
theorem dX3_paidOf_8 : decode cX3_paidOf 8 = .ok (.istore 5, 2) := by decide +kernel
theorem dX3_paidOf_10 : decode cX3_paidOf 10 = .ok (.iconst 0, 1) := by decide +kernel
theorem dX3_paidOf_11 : decode cX3_paidOf 11 = .ok (.istore 6, 2) := by decide +kernel
theorem dX3_paidOf_13 : decode cX3_paidOf 13 = .ok (.aload_n 0, 1) := by decide +kernel
theorem dX3_paidOf_14 : decode cX3_paidOf 14 = .ok (.getfield 12, 3) := by decide +kernel
theorem dX3_paidOf_17 : decode cX3_paidOf 17 = .ok (.aload_n 2, 1) := by decide +kernel
theorem dX3_paidOf_18 : decode cX3_paidOf 18 = .ok (.aload_n 3, 1) := by decide +kernel
theorem dX3_paidOf_19 : decode cX3_paidOf 19 = .ok (.iload 4, 2) := by decide +kernel
theorem dX3_paidOf_21 : decode cX3_paidOf 21 = .ok (.invokevirtual 57, 3) := by decide +kernel
theorem dX3_paidOf_24 : decode cX3_paidOf 24 = .ok (.iconst 0, 1) := by decide +kernel
theorem dX3_paidOf_25 : decode cX3_paidOf 25 = .ok (.istore 7, 2) := by decide +kernel
theorem dX3_paidOf_27 : decode cX3_paidOf 27 = .ok (.iload 7, 2) := by decide +kernel
theorem dX3_paidOf_29 : decode cX3_paidOf 29 = .ok (.bipush 60, 2) := by decide +kernel
theorem dX3_paidOf_31 : decode cX3_paidOf 31 = .ok (.if_icmp .ge 45, 3) := by decide +kernel
theorem dX3_paidOf_34 : decode cX3_paidOf 34 = .ok (.aload_n 0, 1) := by decide +kernel
theorem dX3_paidOf_35 : decode cX3_paidOf 35 = .ok (.getfield 12, 3) := by decide +kernel
theorem dX3_paidOf_38 : decode cX3_paidOf 38 = .ok (.invokevirtual 103, 3) := by decide +kernel
theorem dX3_paidOf_41 : decode cX3_paidOf 41 = .ok (.iload 5, 2) := by decide +kernel
theorem dX3_paidOf_43 : decode cX3_paidOf 43 = .ok (.if_icmp .ge 33, 3) := by decide +kernel
theorem dX3_paidOf_46 : decode cX3_paidOf 46 = .ok (.aload_n 0, 1) := by decide +kernel
theorem dX3_paidOf_47 : decode cX3_paidOf 47 = .ok (.getfield 12, 3) := by decide +kernel
theorem dX3_paidOf_50 : decode cX3_paidOf 50 = .ok (.iconst 0, 1) := by decide +kernel
theorem dX3_paidOf_51 : decode cX3_paidOf 51 = .ok (.invokevirtual 107, 3) := by decide +kernel
theorem dX3_paidOf_54 : decode cX3_paidOf 54 = .ok (.iload 6, 2) := by decide +kernel
theorem dX3_paidOf_56 : decode cX3_paidOf 56 = .ok (.aload_n 2, 1) := by decide +kernel
theorem dX3_paidOf_57 : decode cX3_paidOf 57 = .ok (.getfield 72, 3) := by decide +kernel
theorem dX3_paidOf_60 : decode cX3_paidOf 60 = .ok (.aload_n 0, 1) := by decide +kernel
theorem dX3_paidOf_61 : decode cX3_paidOf 61 = .ok (.getfield 12, 3) := by decide +kernel
theorem dX3_paidOf_64 : decode cX3_paidOf 64 = .ok (.invokevirtual 111, 3) := by decide +kernel
theorem dX3_paidOf_67 : decode cX3_paidOf 67 = .ok (.ior, 1) := by decide +kernel
theorem dX3_paidOf_68 : decode cX3_paidOf 68 = .ok (.istore 6, 2) := by decide +kernel
theorem dX3_paidOf_70 : decode cX3_paidOf 70 = .ok (.iinc 7 1, 3) := by decide +kernel
theorem dX3_paidOf_73 : decode cX3_paidOf 73 = .ok (.goto (-46), 3) := by decide +kernel
theorem dX3_paidOf_76 : decode cX3_paidOf 76 = .ok (.iload 6, 2) := by decide +kernel
theorem dX3_paidOf_78 : decode cX3_paidOf 78 = .ok (.iload_n 1, 1) := by decide +kernel
theorem dX3_paidOf_79 : decode cX3_paidOf 79 = .ok (.iand, 1) := by decide +kernel
theorem dX3_paidOf_80 : decode cX3_paidOf 80 = .ok (.ireturn, 1) := by decide +kernel
theorem dX4_init_0 : decode cX4_init 0 = .ok (.aload_n 0, 1) := by decide +kernel
theorem dX4_init_1 : decode cX4_init 1 = .ok (.invokespecial 3, 3) := by decide +kernel
theorem dX4_init_4 : decode cX4_init 4 = .ok (.aload_n 0, 1) := by decide +kernel
theorem dX4_init_5 : decode cX4_init 5 = .ok (.new 9, 3) := by decide +kernel
theorem dX4_init_8 : decode cX4_init 8 = .ok (.dup, 1) := by decide +kernel
theorem dX4_init_9 : decode cX4_init 9 = .ok (.invokespecial 11, 3) := by decide +kernel
theorem dX4_init_12 : decode cX4_init 12 = .ok (.putfield 12, 3) := by decide +kernel
theorem dX4_init_15 : decode cX4_init 15 = .ok (.aload_n 0, 1) := by decide +kernel
theorem dX4_init_16 : decode cX4_init 16 = .ok (.iconst 4, 1) := by decide +kernel
theorem dX4_init_17 : decode cX4_init 17 = .ok (.newarray .int, 2) := by decide +kernel
theorem dX4_init_19 : decode cX4_init 19 = .ok (.putfield 18, 3) := by decide +kernel
theorem dX4_init_22 : decode cX4_init 22 = .ok (.aload_n 0, 1) := by decide +kernel
theorem dX4_init_23 : decode cX4_init 23 = .ok (.iconst 4, 1) := by decide +kernel
theorem dX4_init_24 : decode cX4_init 24 = .ok (.newarray .int, 2) := by decide +kernel
theorem dX4_init_26 : decode cX4_init 26 = .ok (.putfield 22, 3) := by decide +kernel
theorem dX4_init_29 : decode cX4_init 29 = .ok (.aload_n 0, 1) := by decide +kernel
theorem dX4_init_30 : decode cX4_init 30 = .ok (.bipush 36, 2) := by decide +kernel
theorem dX4_init_32 : decode cX4_init 32 = .ok (.newarray .int, 2) := by decide +kernel
theorem dX4_init_34 : decode cX4_init 34 = .ok (.putfield 25, 3) := by decide +kernel
theorem dX4_init_37 : decode cX4_init 37 = .ok (.aload_n 0, 1) := by decide +kernel
theorem dX4_init_38 : decode cX4_init 38 = .ok (.bipush 36, 2) := by decide +kernel
theorem dX4_init_40 : decode cX4_init 40 = .ok (.newarray .int, 2) := by decide +kernel
theorem dX4_init_42 : decode cX4_init 42 = .ok (.putfield 28, 3) := by decide +kernel
theorem dX4_init_45 : decode cX4_init 45 = .ok (.aload_n 0, 1) := by decide +kernel
theorem dX4_init_46 : decode cX4_init 46 = .ok (.iconst 5, 1) := by decide +kernel
theorem dX4_init_47 : decode cX4_init 47 = .ok (.newarray .int, 2) := by decide +kernel
theorem dX4_init_49 : decode cX4_init 49 = .ok (.putfield 31, 3) := by decide +kernel
theorem dX4_init_52 : decode cX4_init 52 = .ok (.aload_n 0, 1) := by decide +kernel
theorem dX4_init_53 : decode cX4_init 53 = .ok (.iconst 5, 1) := by decide +kernel
theorem dX4_init_54 : decode cX4_init 54 = .ok (.newarray .int, 2) := by decide +kernel
theorem dX4_init_56 : decode cX4_init 56 = .ok (.putfield 34, 3) := by decide +kernel
theorem dX4_init_59 : decode cX4_init 59 = .ok (.aload_n 0, 1) := by decide +kernel
theorem dX4_init_60 : decode cX4_init 60 = .ok (.bipush 7, 2) := by decide +kernel
theorem dX4_init_62 : decode cX4_init 62 = .ok (.newarray .int, 2) := by decide +kernel
theorem dX4_init_64 : decode cX4_init 64 = .ok (.putfield 37, 3) := by decide +kernel
theorem dX4_init_67 : decode cX4_init 67 = .ok (.aload_n 0, 1) := by decide +kernel
theorem dX4_init_68 : decode cX4_init 68 = .ok (.bipush 7, 2) := by decide +kernel
theorem dX4_init_70 : decode cX4_init 70 = .ok (.newarray .int, 2) := by decide +kernel
theorem dX4_init_72 : decode cX4_init 72 = .ok (.putfield 40, 3) := by decide +kernel
theorem dX4_init_75 : decode cX4_init 75 = .ok (.aload_n 0, 1) := by decide +kernel
theorem dX4_init_76 : decode cX4_init 76 = .ok (.bipush 7, 2) := by decide +kernel
theorem dX4_init_78 : decode cX4_init 78 = .ok (.newarray .int, 2) := by decide +kernel
theorem dX4_init_80 : decode cX4_init 80 = .ok (.putfield 43, 3) := by decide +kernel
theorem dX4_init_83 : decode cX4_init 83 = .ok (.aload_n 0, 1) := by decide +kernel
theorem dX4_init_84 : decode cX4_init 84 = .ok (.bipush 6, 2) := by decide +kernel
theorem dX4_init_86 : decode cX4_init 86 = .ok (.newarray .int, 2) := by decide +kernel
theorem dX4_init_88 : decode cX4_init 88 = .ok (.putfield 46, 3) := by decide +kernel
theorem dX4_init_91 : decode cX4_init 91 = .ok (.aload_n 0, 1) := by decide +kernel
theorem dX4_init_92 : decode cX4_init 92 = .ok (.bipush 6, 2) := by decide +kernel
theorem dX4_init_94 : decode cX4_init 94 = .ok (.newarray .int, 2) := by decide +kernel
theorem dX4_init_96 : decode cX4_init 96 = .ok (.putfield 49, 3) := by decide +kernel
theorem dX4_init_99 : decode cX4_init 99 = .ok (.aload_n 0, 1) := by decide +kernel
theorem dX4_init_100 : decode cX4_init 100 = .ok (.bipush 6, 2) := by decide +kernel
theorem dX4_init_102 : decode cX4_init 102 = .ok (.newarray .boolean, 2) := by decide +kernel
theorem dX4_init_104 : decode cX4_init 104 = .ok (.putfield 52, 3) := by decide +kernel
theorem dX4_init_107 : decode cX4_init 107 = .ok (.aload_n 0, 1) := by decide +kernel
theorem dX4_init_108 : decode cX4_init 108 = .ok (.getfield 28, 3) := by decide +kernel
theorem dX4_init_111 : decode cX4_init 111 = .ok (.bipush 10, 2) := by decide +kernel
theorem dX4_init_113 : decode cX4_init 113 = .ok (.invokestatic 56, 3) := by decide +kernel
theorem dX4_init_116 : decode cX4_init 116 = .ok (.return_, 1) := by decide +kernel
theorem dX4_clear_0 : decode cX4_clear 0 = .ok (.aload_n 0, 1) := by decide +kernel
theorem dX4_clear_1 : decode cX4_clear 1 = .ok (.iconst 0, 1) := by decide +kernel
theorem dX4_clear_2 : decode cX4_clear 2 = .ok (.putfield 62, 3) := by decide +kernel
theorem dX4_clear_5 : decode cX4_clear 5 = .ok (.aload_n 0, 1) := by decide +kernel
theorem dX4_clear_6 : decode cX4_clear 6 = .ok (.iconst 0, 1) := by decide +kernel
theorem dX4_clear_7 : decode cX4_clear 7 = .ok (.putfield 66, 3) := by decide +kernel
theorem dX4_clear_10 : decode cX4_clear 10 = .ok (.aload_n 0, 1) := by decide +kernel
theorem dX4_clear_11 : decode cX4_clear 11 = .ok (.iconst 0, 1) := by decide +kernel
theorem dX4_clear_12 : decode cX4_clear 12 = .ok (.putfield 69, 3) := by decide +kernel
theorem dX4_clear_15 : decode cX4_clear 15 = .ok (.aload_n 0, 1) := by decide +kernel
theorem dX4_clear_16 : decode cX4_clear 16 = .ok (.iconst 0, 1) := by decide +kernel
theorem dX4_clear_17 : decode cX4_clear 17 = .ok (.putfield 72, 3) := by decide +kernel
theorem dX4_clear_20 : decode cX4_clear 20 = .ok (.aload_n 0, 1) := by decide +kernel
theorem dX4_clear_21 : decode cX4_clear 21 = .ok (.iconst 0, 1) := by decide +kernel
theorem dX4_clear_22 : decode cX4_clear 22 = .ok (.putfield 75, 3) := by decide +kernel
theorem dX4_clear_25 : decode cX4_clear 25 = .ok (.aload_n 0, 1) := by decide +kernel
theorem dX4_clear_26 : decode cX4_clear 26 = .ok (.iconst 0, 1) := by decide +kernel
theorem dX4_clear_27 : decode cX4_clear 27 = .ok (.putfield 78, 3) := by decide +kernel
theorem dX4_clear_30 : decode cX4_clear 30 = .ok (.aload_n 0, 1) := by decide +kernel
theorem dX4_clear_31 : decode cX4_clear 31 = .ok (.iconst 0, 1) := by decide +kernel
theorem dX4_clear_32 : decode cX4_clear 32 = .ok (.putfield 81, 3) := by decide +kernel
theorem dX4_clear_35 : decode cX4_clear 35 = .ok (.aload_n 0, 1) := by decide +kernel
theorem dX4_clear_36 : decode cX4_clear 36 = .ok (.getfield 12, 3) := by decide +kernel
theorem dX4_clear_39 : decode cX4_clear 39 = .ok (.invokevirtual 84, 3) := by decide +kernel
theorem dX4_clear_42 : decode cX4_clear 42 = .ok (.aload_n 0, 1) := by decide +kernel
theorem dX4_clear_43 : decode cX4_clear 43 = .ok (.getfield 25, 3) := by decide +kernel
theorem dX4_clear_46 : decode cX4_clear 46 = .ok (.iconst 0, 1) := by decide +kernel
theorem dX4_clear_47 : decode cX4_clear 47 = .ok (.invokestatic 56, 3) := by decide +kernel
theorem dX4_clear_50 : decode cX4_clear 50 = .ok (.aload_n 0, 1) := by decide +kernel
theorem dX4_clear_51 : decode cX4_clear 51 = .ok (.getfield 28, 3) := by decide +kernel
theorem dX4_clear_54 : decode cX4_clear 54 = .ok (.bipush 10, 2) := by decide +kernel
theorem dX4_clear_56 : decode cX4_clear 56 = .ok (.invokestatic 56, 3) := by decide +kernel
theorem dX4_clear_59 : decode cX4_clear 59 = .ok (.return_, 1) := by decide +kernel
theorem dX4_stands_0 : decode cX4_stands 0 = .ok (.aload_n 0, 1) := by decide +kernel
theorem dX4_stands_1 : decode cX4_stands 1 = .ok (.getfield 69, 3) := by decide +kernel
theorem dX4_stands_4 : decode cX4_stands 4 = .ok (.ifCond .le 7, 3) := by decide +kernel
theorem dX4_stands_7 : decode cX4_stands 7 = .ok (.iconst 1, 1) := by decide +kernel
theorem dX4_stands_8 : decode cX4_stands 8 = .ok (.goto 4, 3) := by decide +kernel
theorem dX4_stands_11 : decode cX4_stands 11 = .ok (.iconst 0, 1) := by decide +kernel
theorem dX4_stands_12 : decode cX4_stands 12 = .ok (.ireturn, 1) := by decide +kernel
theorem dX4_hasRing_0 : decode cX4_hasRing 0 = .ok (.iload_n 1, 1) := by decide +kernel
theorem dX4_hasRing_1 : decode cX4_hasRing 1 = .ok (.ifCond .lt 20, 3) := by decide +kernel
theorem dX4_hasRing_4 : decode cX4_hasRing 4 = .ok (.iload_n 1, 1) := by decide +kernel
theorem dX4_hasRing_5 : decode cX4_hasRing 5 = .ok (.aload_n 0, 1) := by decide +kernel
theorem dX4_hasRing_6 : decode cX4_hasRing 6 = .ok (.getfield 69, 3) := by decide +kernel
theorem dX4_hasRing_9 : decode cX4_hasRing 9 = .ok (.if_icmp .ge 12, 3) := by decide +kernel
theorem dX4_hasRing_12 : decode cX4_hasRing 12 = .ok (.iload_n 1, 1) := by decide +kernel
theorem dX4_hasRing_13 : decode cX4_hasRing 13 = .ok (.iconst 4, 1) := by decide +kernel
theorem dX4_hasRing_14 : decode cX4_hasRing 14 = .ok (.if_icmp .ge 7, 3) := by decide +kernel
theorem dX4_hasRing_17 : decode cX4_hasRing 17 = .ok (.iconst 1, 1) := by decide +kernel
theorem dX4_hasRing_18 : decode cX4_hasRing 18 = .ok (.goto 4, 3) := by decide +kernel
theorem dX4_hasRing_21 : decode cX4_hasRing 21 = .ok (.iconst 0, 1) := by decide +kernel
theorem dX4_hasRing_22 : decode cX4_hasRing 22 = .ok (.ireturn, 1) := by decide +kernel
theorem dX4_hasPlace_0 : decode cX4_hasPlace 0 = .ok (.aload_n 0, 1) := by decide +kernel
theorem dX4_hasPlace_1 : decode cX4_hasPlace 1 = .ok (.iload_n 1, 1) := by decide +kernel
theorem dX4_hasPlace_2 : decode cX4_hasPlace 2 = .ok (.invokevirtual 87, 3) := by decide +kernel
theorem dX4_hasPlace_5 : decode cX4_hasPlace 5 = .ok (.ifCond .eq 21, 3) := by decide +kernel
theorem dX4_hasPlace_8 : decode cX4_hasPlace 8 = .ok (.iload_n 2, 1) := by decide +kernel
theorem dX4_hasPlace_9 : decode cX4_hasPlace 9 = .ok (.ifCond .lt 17, 3) := by decide +kernel
theorem dX4_hasPlace_12 : decode cX4_hasPlace 12 = .ok (.iload_n 2, 1) := by decide +kernel
theorem dX4_hasPlace_13 : decode cX4_hasPlace 13 = .ok (.aload_n 0, 1) := by decide +kernel
theorem dX4_hasPlace_14 : decode cX4_hasPlace 14 = .ok (.getfield 22, 3) := by decide +kernel
theorem dX4_hasPlace_17 : decode cX4_hasPlace 17 = .ok (.iload_n 1, 1) := by decide +kernel
theorem dX4_hasPlace_18 : decode cX4_hasPlace 18 = .ok (.iaload, 1) := by decide +kernel
theorem dX4_hasPlace_19 : decode cX4_hasPlace 19 = .ok (.if_icmp .ge 7, 3) := by decide +kernel
theorem dX4_hasPlace_22 : decode cX4_hasPlace 22 = .ok (.iconst 1, 1) := by decide +kernel
theorem dX4_hasPlace_23 : decode cX4_hasPlace 23 = .ok (.goto 4, 3) := by decide +kernel
theorem dX4_hasPlace_26 : decode cX4_hasPlace 26 = .ok (.iconst 0, 1) := by decide +kernel
theorem dX4_hasPlace_27 : decode cX4_hasPlace 27 = .ok (.ireturn, 1) := by decide +kernel
theorem dX4_hasThing_0 : decode cX4_hasThing 0 = .ok (.iload_n 1, 1) := by decide +kernel
theorem dX4_hasThing_1 : decode cX4_hasThing 1 = .ok (.ifCond .lt 21, 3) := by decide +kernel
theorem dX4_hasThing_4 : decode cX4_hasThing 4 = .ok (.iload_n 1, 1) := by decide +kernel
theorem dX4_hasThing_5 : decode cX4_hasThing 5 = .ok (.aload_n 0, 1) := by decide +kernel
theorem dX4_hasThing_6 : decode cX4_hasThing 6 = .ok (.getfield 78, 3) := by decide +kernel
theorem dX4_hasThing_9 : decode cX4_hasThing 9 = .ok (.if_icmp .ge 13, 3) := by decide +kernel
theorem dX4_hasThing_12 : decode cX4_hasThing 12 = .ok (.iload_n 1, 1) := by decide +kernel
theorem dX4_hasThing_13 : decode cX4_hasThing 13 = .ok (.bipush 7, 2) := by decide +kernel
theorem dX4_hasThing_15 : decode cX4_hasThing 15 = .ok (.if_icmp .ge 7, 3) := by decide +kernel
theorem dX4_hasThing_18 : decode cX4_hasThing 18 = .ok (.iconst 1, 1) := by decide +kernel
theorem dX4_hasThing_19 : decode cX4_hasThing 19 = .ok (.goto 4, 3) := by decide +kernel
theorem dX4_hasThing_22 : decode cX4_hasThing 22 = .ok (.iconst 0, 1) := by decide +kernel
theorem dX4_hasThing_23 : decode cX4_hasThing 23 = .ok (.ireturn, 1) := by decide +kernel
theorem dX4_sortOf_0 : decode cX4_sortOf 0 = .ok (.aload_n 0, 1) := by decide +kernel
theorem dX4_sortOf_1 : decode cX4_sortOf 1 = .ok (.iload_n 1, 1) := by decide +kernel
theorem dX4_sortOf_2 : decode cX4_sortOf 2 = .ok (.invokevirtual 87, 3) := by decide +kernel
theorem dX4_sortOf_5 : decode cX4_sortOf 5 = .ok (.ifCond .eq 12, 3) := by decide +kernel
theorem dX4_sortOf_8 : decode cX4_sortOf 8 = .ok (.aload_n 0, 1) := by decide +kernel
theorem dX4_sortOf_9 : decode cX4_sortOf 9 = .ok (.getfield 18, 3) := by decide +kernel
theorem dX4_sortOf_12 : decode cX4_sortOf 12 = .ok (.iload_n 1, 1) := by decide +kernel
theorem dX4_sortOf_13 : decode cX4_sortOf 13 = .ok (.iaload, 1) := by decide +kernel
theorem dX4_sortOf_14 : decode cX4_sortOf 14 = .ok (.goto 4, 3) := by decide +kernel
theorem dX4_sortOf_17 : decode cX4_sortOf 17 = .ok (.iconst 0, 1) := by decide +kernel
theorem dX4_sortOf_18 : decode cX4_sortOf 18 = .ok (.ireturn, 1) := by decide +kernel
theorem dX4_placesOf_0 : decode cX4_placesOf 0 = .ok (.aload_n 0, 1) := by decide +kernel
theorem dX4_placesOf_1 : decode cX4_placesOf 1 = .ok (.iload_n 1, 1) := by decide +kernel
theorem dX4_placesOf_2 : decode cX4_placesOf 2 = .ok (.invokevirtual 87, 3) := by decide +kernel
theorem dX4_placesOf_5 : decode cX4_placesOf 5 = .ok (.ifCond .eq 12, 3) := by decide +kernel
theorem dX4_placesOf_8 : decode cX4_placesOf 8 = .ok (.aload_n 0, 1) := by decide +kernel
theorem dX4_placesOf_9 : decode cX4_placesOf 9 = .ok (.getfield 22, 3) := by decide +kernel
theorem dX4_placesOf_12 : decode cX4_placesOf 12 = .ok (.iload_n 1, 1) := by decide +kernel
theorem dX4_placesOf_13 : decode cX4_placesOf 13 = .ok (.iaload, 1) := by decide +kernel
theorem dX4_placesOf_14 : decode cX4_placesOf 14 = .ok (.goto 4, 3) := by decide +kernel
theorem dX4_placesOf_17 : decode cX4_placesOf 17 = .ok (.iconst 0, 1) := by decide +kernel
theorem dX4_placesOf_18 : decode cX4_placesOf 18 = .ok (.ireturn, 1) := by decide +kernel
theorem dX4_placesOfAll_0 : decode cX4_placesOfAll 0 = .ok (.iconst 0, 1) := by decide +kernel
theorem dX4_placesOfAll_1 : decode cX4_placesOfAll 1 = .ok (.istore_n 1, 1) := by decide +kernel
theorem dX4_placesOfAll_2 : decode cX4_placesOfAll 2 = .ok (.iconst 0, 1) := by decide +kernel
theorem dX4_placesOfAll_3 : decode cX4_placesOfAll 3 = .ok (.istore_n 2, 1) := by decide +kernel
theorem dX4_placesOfAll_4 : decode cX4_placesOfAll 4 = .ok (.iload_n 2, 1) := by decide +kernel
theorem dX4_placesOfAll_5 : decode cX4_placesOfAll 5 = .ok (.aload_n 0, 1) := by decide +kernel
theorem dX4_placesOfAll_6 : decode cX4_placesOfAll 6 = .ok (.getfield 69, 3) := by decide +kernel
theorem dX4_placesOfAll_9 : decode cX4_placesOfAll 9 = .ok (.if_icmp .ge 17, 3) := by decide +kernel
theorem dX4_placesOfAll_12 : decode cX4_placesOfAll 12 = .ok (.iload_n 1, 1) := by decide +kernel
theorem dX4_placesOfAll_13 : decode cX4_placesOfAll 13 = .ok (.aload_n 0, 1) := by decide +kernel
theorem dX4_placesOfAll_14 : decode cX4_placesOfAll 14 = .ok (.iload_n 2, 1) := by decide +kernel
theorem dX4_placesOfAll_15 : decode cX4_placesOfAll 15 = .ok (.invokevirtual 91, 3) := by decide +kernel
theorem dX4_placesOfAll_18 : decode cX4_placesOfAll 18 = .ok (.iadd, 1) := by decide +kernel
theorem dX4_placesOfAll_19 : decode cX4_placesOfAll 19 = .ok (.istore_n 1, 1) := by decide +kernel
theorem dX4_placesOfAll_20 : decode cX4_placesOfAll 20 = .ok (.iinc 2 1, 3) := by decide +kernel
theorem dX4_placesOfAll_23 : decode cX4_placesOfAll 23 = .ok (.goto (-19), 3) := by decide +kernel
theorem dX4_placesOfAll_26 : decode cX4_placesOfAll 26 = .ok (.iload_n 1, 1) := by decide +kernel
theorem dX4_placesOfAll_27 : decode cX4_placesOfAll 27 = .ok (.ireturn, 1) := by decide +kernel
theorem dX4_nextOf_0 : decode cX4_nextOf 0 = .ok (.iload_n 1, 1) := by decide +kernel
theorem dX4_nextOf_1 : decode cX4_nextOf 1 = .ok (.ifCond .lt 18, 3) := by decide +kernel
theorem dX4_nextOf_4 : decode cX4_nextOf 4 = .ok (.iload_n 1, 1) := by decide +kernel
theorem dX4_nextOf_5 : decode cX4_nextOf 5 = .ok (.bipush 36, 2) := by decide +kernel
theorem dX4_nextOf_7 : decode cX4_nextOf 7 = .ok (.if_icmp .ge 12, 3) := by decide +kernel
theorem dX4_nextOf_10 : decode cX4_nextOf 10 = .ok (.aload_n 0, 1) := by decide +kernel
theorem dX4_nextOf_11 : decode cX4_nextOf 11 = .ok (.getfield 25, 3) := by decide +kernel
theorem dX4_nextOf_14 : decode cX4_nextOf 14 = .ok (.iload_n 1, 1) := by decide +kernel
theorem dX4_nextOf_15 : decode cX4_nextOf 15 = .ok (.iaload, 1) := by decide +kernel
theorem dX4_nextOf_16 : decode cX4_nextOf 16 = .ok (.goto 4, 3) := by decide +kernel
theorem dX4_nextOf_19 : decode cX4_nextOf 19 = .ok (.iconst 0, 1) := by decide +kernel
theorem dX4_nextOf_20 : decode cX4_nextOf 20 = .ok (.ireturn, 1) := by decide +kernel
theorem dX4_widthOf_0 : decode cX4_widthOf 0 = .ok (.iload_n 1, 1) := by decide +kernel
theorem dX4_widthOf_1 : decode cX4_widthOf 1 = .ok (.ifCond .lt 18, 3) := by decide +kernel
theorem dX4_widthOf_4 : decode cX4_widthOf 4 = .ok (.iload_n 1, 1) := by decide +kernel
theorem dX4_widthOf_5 : decode cX4_widthOf 5 = .ok (.bipush 36, 2) := by decide +kernel
theorem dX4_widthOf_7 : decode cX4_widthOf 7 = .ok (.if_icmp .ge 12, 3) := by decide +kernel
theorem dX4_widthOf_10 : decode cX4_widthOf 10 = .ok (.aload_n 0, 1) := by decide +kernel
theorem dX4_widthOf_11 : decode cX4_widthOf 11 = .ok (.getfield 28, 3) := by decide +kernel
theorem dX4_widthOf_14 : decode cX4_widthOf 14 = .ok (.iload_n 1, 1) := by decide +kernel
theorem dX4_widthOf_15 : decode cX4_widthOf 15 = .ok (.iaload, 1) := by decide +kernel
theorem dX4_widthOf_16 : decode cX4_widthOf 16 = .ok (.goto 5, 3) := by decide +kernel
theorem dX4_widthOf_19 : decode cX4_widthOf 19 = .ok (.bipush 10, 2) := by decide +kernel
theorem dX4_widthOf_21 : decode cX4_widthOf 21 = .ok (.ireturn, 1) := by decide +kernel
theorem dX4_isTooLarge_0 : decode cX4_isTooLarge 0 = .ok (.iload_n 1, 1) := by decide +kernel
theorem dX4_isTooLarge_1 : decode cX4_isTooLarge 1 = .ok (.ifCond .lt 19, 3) := by decide +kernel
theorem dX4_isTooLarge_4 : decode cX4_isTooLarge 4 = .ok (.iload_n 1, 1) := by decide +kernel
theorem dX4_isTooLarge_5 : decode cX4_isTooLarge 5 = .ok (.bipush 7, 2) := by decide +kernel
theorem dX4_isTooLarge_7 : decode cX4_isTooLarge 7 = .ok (.if_icmp .ge 13, 3) := by decide +kernel
theorem dX4_isTooLarge_10 : decode cX4_isTooLarge 10 = .ok (.iload_n 2, 1) := by decide +kernel
theorem dX4_isTooLarge_11 : decode cX4_isTooLarge 11 = .ok (.ifCond .lt 9, 3) := by decide +kernel
theorem dX4_isTooLarge_14 : decode cX4_isTooLarge 14 = .ok (.iload_n 2, 1) := by decide +kernel
theorem dX4_isTooLarge_15 : decode cX4_isTooLarge 15 = .ok (.bipush 36, 2) := by decide +kernel
theorem dX4_isTooLarge_17 : decode cX4_isTooLarge 17 = .ok (.if_icmp .lt 5, 3) := by decide +kernel
theorem dX4_isTooLarge_20 : decode cX4_isTooLarge 20 = .ok (.iconst 0, 1) := by decide +kernel
theorem dX4_isTooLarge_21 : decode cX4_isTooLarge 21 = .ok (.ireturn, 1) := by decide +kernel
theorem dX4_isTooLarge_22 : decode cX4_isTooLarge 22 = .ok (.aload_n 0, 1) := by decide +kernel
theorem dX4_isTooLarge_23 : decode cX4_isTooLarge 23 = .ok (.getfield 40, 3) := by decide +kernel
theorem dX4_isTooLarge_26 : decode cX4_isTooLarge 26 = .ok (.iload_n 1, 1) := by decide +kernel
theorem dX4_isTooLarge_27 : decode cX4_isTooLarge 27 = .ok (.iaload, 1) := by decide +kernel
theorem dX4_isTooLarge_28 : decode cX4_isTooLarge 28 = .ok (.aload_n 0, 1) := by decide +kernel
theorem dX4_isTooLarge_29 : decode cX4_isTooLarge 29 = .ok (.getfield 28, 3) := by decide +kernel
theorem dX4_isTooLarge_32 : decode cX4_isTooLarge 32 = .ok (.iload_n 2, 1) := by decide +kernel
theorem dX4_isTooLarge_33 : decode cX4_isTooLarge 33 = .ok (.iaload, 1) := by decide +kernel
theorem dX4_isTooLarge_34 : decode cX4_isTooLarge 34 = .ok (.if_icmp .le 17, 3) := by decide +kernel
theorem dX4_isTooLarge_37 : decode cX4_isTooLarge 37 = .ok (.aload_n 0, 1) := by decide +kernel
theorem dX4_isTooLarge_38 : decode cX4_isTooLarge 38 = .ok (.getfield 37, 3) := by decide +kernel
theorem dX4_isTooLarge_41 : decode cX4_isTooLarge 41 = .ok (.iload_n 1, 1) := by decide +kernel
theorem dX4_isTooLarge_42 : decode cX4_isTooLarge 42 = .ok (.iaload, 1) := by decide +kernel
theorem dX4_isTooLarge_43 : decode cX4_isTooLarge 43 = .ok (.iconst 3, 1) := by decide +kernel
theorem dX4_isTooLarge_44 : decode cX4_isTooLarge 44 = .ok (.if_icmp .eq 7, 3) := by decide +kernel
theorem dX4_isTooLarge_47 : decode cX4_isTooLarge 47 = .ok (.iconst 1, 1) := by decide +kernel
theorem dX4_isTooLarge_48 : decode cX4_isTooLarge 48 = .ok (.goto 4, 3) := by decide +kernel
theorem dX4_isTooLarge_51 : decode cX4_isTooLarge 51 = .ok (.iconst 0, 1) := by decide +kernel
theorem dX4_isTooLarge_52 : decode cX4_isTooLarge 52 = .ok (.ireturn, 1) := by decide +kernel
theorem dX4_kindOf_0 : decode cX4_kindOf 0 = .ok (.iload_n 1, 1) := by decide +kernel
theorem dX4_kindOf_1 : decode cX4_kindOf 1 = .ok (.ifCond .lt 18, 3) := by decide +kernel
theorem dX4_kindOf_4 : decode cX4_kindOf 4 = .ok (.iload_n 1, 1) := by decide +kernel
theorem dX4_kindOf_5 : decode cX4_kindOf 5 = .ok (.bipush 7, 2) := by decide +kernel
theorem dX4_kindOf_7 : decode cX4_kindOf 7 = .ok (.if_icmp .ge 12, 3) := by decide +kernel
theorem dX4_kindOf_10 : decode cX4_kindOf 10 = .ok (.aload_n 0, 1) := by decide +kernel
theorem dX4_kindOf_11 : decode cX4_kindOf 11 = .ok (.getfield 37, 3) := by decide +kernel
theorem dX4_kindOf_14 : decode cX4_kindOf 14 = .ok (.iload_n 1, 1) := by decide +kernel
theorem dX4_kindOf_15 : decode cX4_kindOf 15 = .ok (.iaload, 1) := by decide +kernel
theorem dX4_kindOf_16 : decode cX4_kindOf 16 = .ok (.goto 4, 3) := by decide +kernel
theorem dX4_kindOf_19 : decode cX4_kindOf 19 = .ok (.iconst 0, 1) := by decide +kernel
theorem dX4_kindOf_20 : decode cX4_kindOf 20 = .ok (.ireturn, 1) := by decide +kernel
theorem dX4_sizeOf_0 : decode cX4_sizeOf 0 = .ok (.iload_n 1, 1) := by decide +kernel
theorem dX4_sizeOf_1 : decode cX4_sizeOf 1 = .ok (.ifCond .lt 18, 3) := by decide +kernel
theorem dX4_sizeOf_4 : decode cX4_sizeOf 4 = .ok (.iload_n 1, 1) := by decide +kernel
theorem dX4_sizeOf_5 : decode cX4_sizeOf 5 = .ok (.bipush 7, 2) := by decide +kernel
theorem dX4_sizeOf_7 : decode cX4_sizeOf 7 = .ok (.if_icmp .ge 12, 3) := by decide +kernel
theorem dX4_sizeOf_10 : decode cX4_sizeOf 10 = .ok (.aload_n 0, 1) := by decide +kernel
theorem dX4_sizeOf_11 : decode cX4_sizeOf 11 = .ok (.getfield 40, 3) := by decide +kernel
theorem dX4_sizeOf_14 : decode cX4_sizeOf 14 = .ok (.iload_n 1, 1) := by decide +kernel
theorem dX4_sizeOf_15 : decode cX4_sizeOf 15 = .ok (.iaload, 1) := by decide +kernel
theorem dX4_sizeOf_16 : decode cX4_sizeOf 16 = .ok (.goto 4, 3) := by decide +kernel
theorem dX4_sizeOf_19 : decode cX4_sizeOf 19 = .ok (.iconst 0, 1) := by decide +kernel
theorem dX4_sizeOf_20 : decode cX4_sizeOf 20 = .ok (.ireturn, 1) := by decide +kernel
theorem dX4_firstCellOf_0 : decode cX4_firstCellOf 0 = .ok (.iload_n 1, 1) := by decide +kernel
theorem dX4_firstCellOf_1 : decode cX4_firstCellOf 1 = .ok (.ifCond .lt 18, 3) := by decide +kernel
theorem dX4_firstCellOf_4 : decode cX4_firstCellOf 4 = .ok (.iload_n 1, 1) := by decide +kernel
theorem dX4_firstCellOf_5 : decode cX4_firstCellOf 5 = .ok (.bipush 7, 2) := by decide +kernel
theorem dX4_firstCellOf_7 : decode cX4_firstCellOf 7 = .ok (.if_icmp .ge 12, 3) := by decide +kernel
theorem dX4_firstCellOf_10 : decode cX4_firstCellOf 10 = .ok (.aload_n 0, 1) := by decide +kernel
theorem dX4_firstCellOf_11 : decode cX4_firstCellOf 11 = .ok (.getfield 43, 3) := by decide +kernel
theorem dX4_firstCellOf_14 : decode cX4_firstCellOf 14 = .ok (.iload_n 1, 1) := by decide +kernel
theorem dX4_firstCellOf_15 : decode cX4_firstCellOf 15 = .ok (.iaload, 1) := by decide +kernel
theorem dX4_firstCellOf_16 : decode cX4_firstCellOf 16 = .ok (.goto 4, 3) := by decide +kernel
theorem dX4_firstCellOf_19 : decode cX4_firstCellOf 19 = .ok (.iconst 0, 1) := by decide +kernel
theorem dX4_firstCellOf_20 : decode cX4_firstCellOf 20 = .ok (.ireturn, 1) := by decide +kernel
theorem dX4_doorSide_0 : decode cX4_doorSide 0 = .ok (.iload_n 1, 1) := by decide +kernel
theorem dX4_doorSide_1 : decode cX4_doorSide 1 = .ok (.ifCond .lt 16, 3) := by decide +kernel
theorem dX4_doorSide_4 : decode cX4_doorSide 4 = .ok (.iload_n 1, 1) := by decide +kernel
theorem dX4_doorSide_5 : decode cX4_doorSide 5 = .ok (.aload_n 0, 1) := by decide +kernel
theorem dX4_doorSide_6 : decode cX4_doorSide 6 = .ok (.getfield 75, 3) := by decide +kernel
theorem dX4_doorSide_9 : decode cX4_doorSide 9 = .ok (.if_icmp .ge 8, 3) := by decide +kernel
theorem dX4_doorSide_12 : decode cX4_doorSide 12 = .ok (.iload_n 1, 1) := by decide +kernel
theorem dX4_doorSide_13 : decode cX4_doorSide 13 = .ok (.iconst 5, 1) := by decide +kernel
theorem dX4_doorSide_14 : decode cX4_doorSide 14 = .ok (.if_icmp .lt 5, 3) := by decide +kernel
theorem dX4_doorSide_17 : decode cX4_doorSide 17 = .ok (.iconst 0, 1) := by decide +kernel
theorem dX4_doorSide_18 : decode cX4_doorSide 18 = .ok (.ireturn, 1) := by decide +kernel
theorem dX4_doorSide_19 : decode cX4_doorSide 19 = .ok (.iload_n 2, 1) := by decide +kernel
theorem dX4_doorSide_20 : decode cX4_doorSide 20 = .ok (.ifCond .eq 12, 3) := by decide +kernel
theorem dX4_doorSide_23 : decode cX4_doorSide 23 = .ok (.aload_n 0, 1) := by decide +kernel
theorem dX4_doorSide_24 : decode cX4_doorSide 24 = .ok (.getfield 34, 3) := by decide +kernel
theorem dX4_doorSide_27 : decode cX4_doorSide 27 = .ok (.iload_n 1, 1) := by decide +kernel
theorem dX4_doorSide_28 : decode cX4_doorSide 28 = .ok (.iaload, 1) := by decide +kernel
theorem dX4_doorSide_29 : decode cX4_doorSide 29 = .ok (.goto 9, 3) := by decide +kernel
theorem dX4_doorSide_32 : decode cX4_doorSide 32 = .ok (.aload_n 0, 1) := by decide +kernel
theorem dX4_doorSide_33 : decode cX4_doorSide 33 = .ok (.getfield 31, 3) := by decide +kernel
theorem dX4_doorSide_36 : decode cX4_doorSide 36 = .ok (.iload_n 1, 1) := by decide +kernel
theorem dX4_doorSide_37 : decode cX4_doorSide 37 = .ok (.iaload, 1) := by decide +kernel
theorem dX4_doorSide_38 : decode cX4_doorSide 38 = .ok (.ireturn, 1) := by decide +kernel
theorem dX4_hasDoor_0 : decode cX4_hasDoor 0 = .ok (.iconst 0, 1) := by decide +kernel
theorem dX4_hasDoor_1 : decode cX4_hasDoor 1 = .ok (.istore_n 3, 1) := by decide +kernel
theorem dX4_hasDoor_2 : decode cX4_hasDoor 2 = .ok (.iload_n 3, 1) := by decide +kernel
theorem dX4_hasDoor_3 : decode cX4_hasDoor 3 = .ok (.aload_n 0, 1) := by decide +kernel
theorem dX4_hasDoor_4 : decode cX4_hasDoor 4 = .ok (.getfield 75, 3) := by decide +kernel
theorem dX4_hasDoor_7 : decode cX4_hasDoor 7 = .ok (.if_icmp .ge 80, 3) := by decide +kernel
theorem dX4_hasDoor_10 : decode cX4_hasDoor 10 = .ok (.iload_n 3, 1) := by decide +kernel
theorem dX4_hasDoor_11 : decode cX4_hasDoor 11 = .ok (.iconst 5, 1) := by decide +kernel
theorem dX4_hasDoor_12 : decode cX4_hasDoor 12 = .ok (.if_icmp .ge 75, 3) := by decide +kernel
theorem dX4_hasDoor_15 : decode cX4_hasDoor 15 = .ok (.aload_n 0, 1) := by decide +kernel
theorem dX4_hasDoor_16 : decode cX4_hasDoor 16 = .ok (.getfield 31, 3) := by decide +kernel
theorem dX4_hasDoor_19 : decode cX4_hasDoor 19 = .ok (.iload_n 3, 1) := by decide +kernel
theorem dX4_hasDoor_20 : decode cX4_hasDoor 20 = .ok (.iaload, 1) := by decide +kernel
theorem dX4_hasDoor_21 : decode cX4_hasDoor 21 = .ok (.iload_n 1, 1) := by decide +kernel
theorem dX4_hasDoor_22 : decode cX4_hasDoor 22 = .ok (.if_icmp .ne 17, 3) := by decide +kernel
theorem dX4_hasDoor_25 : decode cX4_hasDoor 25 = .ok (.aload_n 0, 1) := by decide +kernel
theorem dX4_hasDoor_26 : decode cX4_hasDoor 26 = .ok (.getfield 34, 3) := by decide +kernel
theorem dX4_hasDoor_29 : decode cX4_hasDoor 29 = .ok (.iload_n 3, 1) := by decide +kernel
theorem dX4_hasDoor_30 : decode cX4_hasDoor 30 = .ok (.iaload, 1) := by decide +kernel
theorem dX4_hasDoor_31 : decode cX4_hasDoor 31 = .ok (.iload_n 2, 1) := by decide +kernel
theorem dX4_hasDoor_32 : decode cX4_hasDoor 32 = .ok (.if_icmp .ne 7, 3) := by decide +kernel
theorem dX4_hasDoor_35 : decode cX4_hasDoor 35 = .ok (.iconst 1, 1) := by decide +kernel
theorem dX4_hasDoor_36 : decode cX4_hasDoor 36 = .ok (.goto 4, 3) := by decide +kernel
theorem dX4_hasDoor_39 : decode cX4_hasDoor 39 = .ok (.iconst 0, 1) := by decide +kernel
theorem dX4_hasDoor_40 : decode cX4_hasDoor 40 = .ok (.istore 4, 2) := by decide +kernel
theorem dX4_hasDoor_42 : decode cX4_hasDoor 42 = .ok (.aload_n 0, 1) := by decide +kernel
theorem dX4_hasDoor_43 : decode cX4_hasDoor 43 = .ok (.getfield 31, 3) := by decide +kernel
theorem dX4_hasDoor_46 : decode cX4_hasDoor 46 = .ok (.iload_n 3, 1) := by decide +kernel
theorem dX4_hasDoor_47 : decode cX4_hasDoor 47 = .ok (.iaload, 1) := by decide +kernel
theorem dX4_hasDoor_48 : decode cX4_hasDoor 48 = .ok (.iload_n 2, 1) := by decide +kernel
theorem dX4_hasDoor_49 : decode cX4_hasDoor 49 = .ok (.if_icmp .ne 17, 3) := by decide +kernel
theorem dX4_hasDoor_52 : decode cX4_hasDoor 52 = .ok (.aload_n 0, 1) := by decide +kernel
theorem dX4_hasDoor_53 : decode cX4_hasDoor 53 = .ok (.getfield 34, 3) := by decide +kernel
theorem dX4_hasDoor_56 : decode cX4_hasDoor 56 = .ok (.iload_n 3, 1) := by decide +kernel
theorem dX4_hasDoor_57 : decode cX4_hasDoor 57 = .ok (.iaload, 1) := by decide +kernel
theorem dX4_hasDoor_58 : decode cX4_hasDoor 58 = .ok (.iload_n 1, 1) := by decide +kernel
theorem dX4_hasDoor_59 : decode cX4_hasDoor 59 = .ok (.if_icmp .ne 7, 3) := by decide +kernel
theorem dX4_hasDoor_62 : decode cX4_hasDoor 62 = .ok (.iconst 1, 1) := by decide +kernel
theorem dX4_hasDoor_63 : decode cX4_hasDoor 63 = .ok (.goto 4, 3) := by decide +kernel
theorem dX4_hasDoor_66 : decode cX4_hasDoor 66 = .ok (.iconst 0, 1) := by decide +kernel
theorem dX4_hasDoor_67 : decode cX4_hasDoor 67 = .ok (.istore 5, 2) := by decide +kernel
theorem dX4_hasDoor_69 : decode cX4_hasDoor 69 = .ok (.iload 4, 2) := by decide +kernel
theorem dX4_hasDoor_71 : decode cX4_hasDoor 71 = .ok (.ifCond .ne 8, 3) := by decide +kernel
theorem dX4_hasDoor_74 : decode cX4_hasDoor 74 = .ok (.iload 5, 2) := by decide +kernel
theorem dX4_hasDoor_76 : decode cX4_hasDoor 76 = .ok (.ifCond .eq 5, 3) := by decide +kernel
theorem dX4_hasDoor_79 : decode cX4_hasDoor 79 = .ok (.iconst 1, 1) := by decide +kernel
theorem dX4_hasDoor_80 : decode cX4_hasDoor 80 = .ok (.ireturn, 1) := by decide +kernel
theorem dX4_hasDoor_81 : decode cX4_hasDoor 81 = .ok (.iinc 3 1, 3) := by decide +kernel
theorem dX4_hasDoor_84 : decode cX4_hasDoor 84 = .ok (.goto (-82), 3) := by decide +kernel
theorem dX4_hasDoor_87 : decode cX4_hasDoor 87 = .ok (.iconst 0, 1) := by decide +kernel
theorem dX4_hasDoor_88 : decode cX4_hasDoor 88 = .ok (.ireturn, 1) := by decide +kernel
theorem dX4_isTaken_0 : decode cX4_isTaken 0 = .ok (.iconst 0, 1) := by decide +kernel
theorem dX4_isTaken_1 : decode cX4_isTaken 1 = .ok (.istore_n 2, 1) := by decide +kernel
theorem dX4_isTaken_2 : decode cX4_isTaken 2 = .ok (.iload_n 2, 1) := by decide +kernel
theorem dX4_isTaken_3 : decode cX4_isTaken 3 = .ok (.aload_n 0, 1) := by decide +kernel
theorem dX4_isTaken_4 : decode cX4_isTaken 4 = .ok (.getfield 78, 3) := by decide +kernel
theorem dX4_isTaken_7 : decode cX4_isTaken 7 = .ok (.if_icmp .ge 27, 3) := by decide +kernel
theorem dX4_isTaken_10 : decode cX4_isTaken 10 = .ok (.iload_n 2, 1) := by decide +kernel
theorem dX4_isTaken_11 : decode cX4_isTaken 11 = .ok (.bipush 7, 2) := by decide +kernel
theorem dX4_isTaken_13 : decode cX4_isTaken 13 = .ok (.if_icmp .ge 21, 3) := by decide +kernel
theorem dX4_isTaken_16 : decode cX4_isTaken 16 = .ok (.aload_n 0, 1) := by decide +kernel
theorem dX4_isTaken_17 : decode cX4_isTaken 17 = .ok (.getfield 43, 3) := by decide +kernel
theorem dX4_isTaken_20 : decode cX4_isTaken 20 = .ok (.iload_n 2, 1) := by decide +kernel
theorem dX4_isTaken_21 : decode cX4_isTaken 21 = .ok (.iaload, 1) := by decide +kernel
theorem dX4_isTaken_22 : decode cX4_isTaken 22 = .ok (.iload_n 1, 1) := by decide +kernel
theorem dX4_isTaken_23 : decode cX4_isTaken 23 = .ok (.if_icmp .ne 5, 3) := by decide +kernel
theorem dX4_isTaken_26 : decode cX4_isTaken 26 = .ok (.iconst 1, 1) := by decide +kernel
theorem dX4_isTaken_27 : decode cX4_isTaken 27 = .ok (.ireturn, 1) := by decide +kernel
theorem dX4_isTaken_28 : decode cX4_isTaken 28 = .ok (.iinc 2 1, 3) := by decide +kernel
theorem dX4_isTaken_31 : decode cX4_isTaken 31 = .ok (.goto (-29), 3) := by decide +kernel
theorem dX4_isTaken_34 : decode cX4_isTaken 34 = .ok (.iconst 0, 1) := by decide +kernel
theorem dX4_isTaken_35 : decode cX4_isTaken 35 = .ok (.ireturn, 1) := by decide +kernel
theorem dX4_hasMark_0 : decode cX4_hasMark 0 = .ok (.iconst 0, 1) := by decide +kernel
theorem dX4_hasMark_1 : decode cX4_hasMark 1 = .ok (.istore_n 2, 1) := by decide +kernel
theorem dX4_hasMark_2 : decode cX4_hasMark 2 = .ok (.iload_n 2, 1) := by decide +kernel
theorem dX4_hasMark_3 : decode cX4_hasMark 3 = .ok (.aload_n 0, 1) := by decide +kernel
theorem dX4_hasMark_4 : decode cX4_hasMark 4 = .ok (.getfield 81, 3) := by decide +kernel
theorem dX4_hasMark_7 : decode cX4_hasMark 7 = .ok (.if_icmp .ge 27, 3) := by decide +kernel
theorem dX4_hasMark_10 : decode cX4_hasMark 10 = .ok (.iload_n 2, 1) := by decide +kernel
theorem dX4_hasMark_11 : decode cX4_hasMark 11 = .ok (.bipush 6, 2) := by decide +kernel
theorem dX4_hasMark_13 : decode cX4_hasMark 13 = .ok (.if_icmp .ge 21, 3) := by decide +kernel
theorem dX4_hasMark_16 : decode cX4_hasMark 16 = .ok (.aload_n 0, 1) := by decide +kernel
theorem dX4_hasMark_17 : decode cX4_hasMark 17 = .ok (.getfield 46, 3) := by decide +kernel
theorem dX4_hasMark_20 : decode cX4_hasMark 20 = .ok (.iload_n 2, 1) := by decide +kernel
theorem dX4_hasMark_21 : decode cX4_hasMark 21 = .ok (.iaload, 1) := by decide +kernel
theorem dX4_hasMark_22 : decode cX4_hasMark 22 = .ok (.iload_n 1, 1) := by decide +kernel
theorem dX4_hasMark_23 : decode cX4_hasMark 23 = .ok (.if_icmp .ne 5, 3) := by decide +kernel
theorem dX4_hasMark_26 : decode cX4_hasMark 26 = .ok (.iconst 1, 1) := by decide +kernel
theorem dX4_hasMark_27 : decode cX4_hasMark 27 = .ok (.ireturn, 1) := by decide +kernel
theorem dX4_hasMark_28 : decode cX4_hasMark 28 = .ok (.iinc 2 1, 3) := by decide +kernel
theorem dX4_hasMark_31 : decode cX4_hasMark 31 = .ok (.goto (-29), 3) := by decide +kernel
theorem dX4_hasMark_34 : decode cX4_hasMark 34 = .ok (.iconst 0, 1) := by decide +kernel
theorem dX4_hasMark_35 : decode cX4_hasMark 35 = .ok (.ireturn, 1) := by decide +kernel
theorem dX4_allowsRule_0 : decode cX4_allowsRule 0 = .ok (.iload_n 1, 1) := by decide +kernel
theorem dX4_allowsRule_1 : decode cX4_allowsRule 1 = .ok (.ifCond .gt 5, 3) := by decide +kernel
theorem dX4_allowsRule_4 : decode cX4_allowsRule 4 = .ok (.iconst 0, 1) := by decide +kernel
theorem dX4_allowsRule_5 : decode cX4_allowsRule 5 = .ok (.ireturn, 1) := by decide +kernel
theorem dX4_allowsRule_6 : decode cX4_allowsRule 6 = .ok (.iconst 0, 1) := by decide +kernel
theorem dX4_allowsRule_7 : decode cX4_allowsRule 7 = .ok (.istore 4, 2) := by decide +kernel
theorem dX4_allowsRule_9 : decode cX4_allowsRule 9 = .ok (.iload 4, 2) := by decide +kernel
theorem dX4_allowsRule_11 : decode cX4_allowsRule 11 = .ok (.aload_n 0, 1) := by decide +kernel
theorem dX4_allowsRule_12 : decode cX4_allowsRule 12 = .ok (.getfield 81, 3) := by decide +kernel
theorem dX4_allowsRule_15 : decode cX4_allowsRule 15 = .ok (.if_icmp .ge 60, 3) := by decide +kernel
theorem dX4_allowsRule_18 : decode cX4_allowsRule 18 = .ok (.iload 4, 2) := by decide +kernel
theorem dX4_allowsRule_20 : decode cX4_allowsRule 20 = .ok (.bipush 6, 2) := by decide +kernel
theorem dX4_allowsRule_22 : decode cX4_allowsRule 22 = .ok (.if_icmp .ge 53, 3) := by decide +kernel
theorem dX4_allowsRule_25 : decode cX4_allowsRule 25 = .ok (.iload_n 3, 1) := by decide +kernel
theorem dX4_allowsRule_26 : decode cX4_allowsRule 26 = .ok (.iload_n 2, 1) := by decide +kernel
theorem dX4_allowsRule_27 : decode cX4_allowsRule 27 = .ok (.aload_n 0, 1) := by decide +kernel
theorem dX4_allowsRule_28 : decode cX4_allowsRule 28 = .ok (.getfield 46, 3) := by decide +kernel
theorem dX4_allowsRule_31 : decode cX4_allowsRule 31 = .ok (.iload 4, 2) := by decide +kernel
theorem dX4_allowsRule_33 : decode cX4_allowsRule 33 = .ok (.iaload, 1) := by decide +kernel
theorem dX4_allowsRule_34 : decode cX4_allowsRule 34 = .ok (.imul, 1) := by decide +kernel
theorem dX4_allowsRule_35 : decode cX4_allowsRule 35 = .ok (.iadd, 1) := by decide +kernel
theorem dX4_allowsRule_36 : decode cX4_allowsRule 36 = .ok (.iload_n 1, 1) := by decide +kernel
theorem dX4_allowsRule_37 : decode cX4_allowsRule 37 = .ok (.irem, 1) := by decide +kernel
theorem dX4_allowsRule_38 : decode cX4_allowsRule 38 = .ok (.istore 5, 2) := by decide +kernel
theorem dX4_allowsRule_40 : decode cX4_allowsRule 40 = .ok (.iload 5, 2) := by decide +kernel
theorem dX4_allowsRule_42 : decode cX4_allowsRule 42 = .ok (.aload_n 0, 1) := by decide +kernel
theorem dX4_allowsRule_43 : decode cX4_allowsRule 43 = .ok (.getfield 49, 3) := by decide +kernel
theorem dX4_allowsRule_46 : decode cX4_allowsRule 46 = .ok (.iload 4, 2) := by decide +kernel
theorem dX4_allowsRule_48 : decode cX4_allowsRule 48 = .ok (.iaload, 1) := by decide +kernel
theorem dX4_allowsRule_49 : decode cX4_allowsRule 49 = .ok (.if_icmp .ne 7, 3) := by decide +kernel
theorem dX4_allowsRule_52 : decode cX4_allowsRule 52 = .ok (.iconst 1, 1) := by decide +kernel
theorem dX4_allowsRule_53 : decode cX4_allowsRule 53 = .ok (.goto 4, 3) := by decide +kernel
theorem dX4_allowsRule_56 : decode cX4_allowsRule 56 = .ok (.iconst 0, 1) := by decide +kernel
theorem dX4_allowsRule_57 : decode cX4_allowsRule 57 = .ok (.aload_n 0, 1) := by decide +kernel
theorem dX4_allowsRule_58 : decode cX4_allowsRule 58 = .ok (.getfield 52, 3) := by decide +kernel
theorem dX4_allowsRule_61 : decode cX4_allowsRule 61 = .ok (.iload 4, 2) := by decide +kernel
theorem dX4_allowsRule_63 : decode cX4_allowsRule 63 = .ok (.baload, 1) := by decide +kernel
theorem dX4_allowsRule_64 : decode cX4_allowsRule 64 = .ok (.if_icmp .eq 5, 3) := by decide +kernel
theorem dX4_allowsRule_67 : decode cX4_allowsRule 67 = .ok (.iconst 0, 1) := by decide +kernel
theorem dX4_allowsRule_68 : decode cX4_allowsRule 68 = .ok (.ireturn, 1) := by decide +kernel
theorem dX4_allowsRule_69 : decode cX4_allowsRule 69 = .ok (.iinc 4 1, 3) := by decide +kernel
theorem dX4_allowsRule_72 : decode cX4_allowsRule 72 = .ok (.goto (-63), 3) := by decide +kernel
theorem dX4_allowsRule_75 : decode cX4_allowsRule 75 = .ok (.iconst 1, 1) := by decide +kernel
theorem dX4_allowsRule_76 : decode cX4_allowsRule 76 = .ok (.ireturn, 1) := by decide +kernel
theorem dX4_addRing_0 : decode cX4_addRing 0 = .ok (.aload_n 0, 1) := by decide +kernel
theorem dX4_addRing_1 : decode cX4_addRing 1 = .ok (.getfield 69, 3) := by decide +kernel
theorem dX4_addRing_4 : decode cX4_addRing 4 = .ok (.ifCond .lt 22, 3) := by decide +kernel
theorem dX4_addRing_7 : decode cX4_addRing 7 = .ok (.aload_n 0, 1) := by decide +kernel
theorem dX4_addRing_8 : decode cX4_addRing 8 = .ok (.getfield 69, 3) := by decide +kernel
theorem dX4_addRing_11 : decode cX4_addRing 11 = .ok (.iconst 4, 1) := by decide +kernel
theorem dX4_addRing_12 : decode cX4_addRing 12 = .ok (.if_icmp .ge 14, 3) := by decide +kernel
theorem dX4_addRing_15 : decode cX4_addRing 15 = .ok (.iload_n 2, 1) := by decide +kernel
theorem dX4_addRing_16 : decode cX4_addRing 16 = .ok (.iconst 1, 1) := by decide +kernel
theorem dX4_addRing_17 : decode cX4_addRing 17 = .ok (.if_icmp .lt 9, 3) := by decide +kernel
theorem dX4_addRing_20 : decode cX4_addRing 20 = .ok (.iload_n 2, 1) := by decide +kernel
theorem dX4_addRing_21 : decode cX4_addRing 21 = .ok (.bipush 9, 2) := by decide +kernel
theorem dX4_addRing_23 : decode cX4_addRing 23 = .ok (.if_icmp .le 4, 3) := by decide +kernel
theorem dX4_addRing_26 : decode cX4_addRing 26 = .ok (.return_, 1) := by decide +kernel
theorem dX4_addRing_27 : decode cX4_addRing 27 = .ok (.iconst 0, 1) := by decide +kernel
theorem dX4_addRing_28 : decode cX4_addRing 28 = .ok (.istore_n 3, 1) := by decide +kernel
theorem dX4_addRing_29 : decode cX4_addRing 29 = .ok (.iload_n 3, 1) := by decide +kernel
theorem dX4_addRing_30 : decode cX4_addRing 30 = .ok (.iload_n 2, 1) := by decide +kernel
theorem dX4_addRing_31 : decode cX4_addRing 31 = .ok (.if_icmp .ge 72, 3) := by decide +kernel
theorem dX4_addRing_34 : decode cX4_addRing 34 = .ok (.iload_n 3, 1) := by decide +kernel
theorem dX4_addRing_35 : decode cX4_addRing 35 = .ok (.iconst 1, 1) := by decide +kernel
theorem dX4_addRing_36 : decode cX4_addRing 36 = .ok (.iadd, 1) := by decide +kernel
theorem dX4_addRing_37 : decode cX4_addRing 37 = .ok (.iload_n 2, 1) := by decide +kernel
theorem dX4_addRing_38 : decode cX4_addRing 38 = .ok (.if_icmp .ge 9, 3) := by decide +kernel
theorem dX4_addRing_41 : decode cX4_addRing 41 = .ok (.iload_n 3, 1) := by decide +kernel
theorem dX4_addRing_42 : decode cX4_addRing 42 = .ok (.iconst 1, 1) := by decide +kernel
theorem dX4_addRing_43 : decode cX4_addRing 43 = .ok (.iadd, 1) := by decide +kernel
theorem dX4_addRing_44 : decode cX4_addRing 44 = .ok (.goto 4, 3) := by decide +kernel
theorem dX4_addRing_47 : decode cX4_addRing 47 = .ok (.iconst 0, 1) := by decide +kernel
theorem dX4_addRing_48 : decode cX4_addRing 48 = .ok (.istore 4, 2) := by decide +kernel
theorem dX4_addRing_50 : decode cX4_addRing 50 = .ok (.iload_n 3, 1) := by decide +kernel
theorem dX4_addRing_51 : decode cX4_addRing 51 = .ok (.ifCond .le 9, 3) := by decide +kernel
theorem dX4_addRing_54 : decode cX4_addRing 54 = .ok (.iload_n 3, 1) := by decide +kernel
theorem dX4_addRing_55 : decode cX4_addRing 55 = .ok (.iconst 1, 1) := by decide +kernel
theorem dX4_addRing_56 : decode cX4_addRing 56 = .ok (.isub, 1) := by decide +kernel
theorem dX4_addRing_57 : decode cX4_addRing 57 = .ok (.goto 6, 3) := by decide +kernel
theorem dX4_addRing_60 : decode cX4_addRing 60 = .ok (.iload_n 2, 1) := by decide +kernel
theorem dX4_addRing_61 : decode cX4_addRing 61 = .ok (.iconst 1, 1) := by decide +kernel
theorem dX4_addRing_62 : decode cX4_addRing 62 = .ok (.isub, 1) := by decide +kernel
theorem dX4_addRing_63 : decode cX4_addRing 63 = .ok (.istore 5, 2) := by decide +kernel
theorem dX4_addRing_65 : decode cX4_addRing 65 = .ok (.aload_n 0, 1) := by decide +kernel
theorem dX4_addRing_66 : decode cX4_addRing 66 = .ok (.getfield 25, 3) := by decide +kernel
theorem dX4_addRing_69 : decode cX4_addRing 69 = .ok (.aload_n 0, 1) := by decide +kernel
theorem dX4_addRing_70 : decode cX4_addRing 70 = .ok (.getfield 69, 3) := by decide +kernel
theorem dX4_addRing_73 : decode cX4_addRing 73 = .ok (.iload_n 3, 1) := by decide +kernel
theorem dX4_addRing_74 : decode cX4_addRing 74 = .ok (.invokestatic 95, 3) := by decide +kernel
theorem dX4_addRing_77 : decode cX4_addRing 77 = .ok (.aload_n 0, 1) := by decide +kernel
theorem dX4_addRing_78 : decode cX4_addRing 78 = .ok (.getfield 69, 3) := by decide +kernel
theorem dX4_addRing_81 : decode cX4_addRing 81 = .ok (.iload_n 1, 1) := by decide +kernel
theorem dX4_addRing_82 : decode cX4_addRing 82 = .ok (.iconst 2, 1) := by decide +kernel
theorem dX4_addRing_83 : decode cX4_addRing 83 = .ok (.if_icmp .ne 8, 3) := by decide +kernel
theorem dX4_addRing_86 : decode cX4_addRing 86 = .ok (.iload 5, 2) := by decide +kernel
theorem dX4_addRing_88 : decode cX4_addRing 88 = .ok (.goto 5, 3) := by decide +kernel
theorem dX4_addRing_91 : decode cX4_addRing 91 = .ok (.iload 4, 2) := by decide +kernel
theorem dX4_addRing_93 : decode cX4_addRing 93 = .ok (.invokestatic 95, 3) := by decide +kernel
theorem dX4_addRing_96 : decode cX4_addRing 96 = .ok (.iastore, 1) := by decide +kernel
theorem dX4_addRing_97 : decode cX4_addRing 97 = .ok (.iinc 3 1, 3) := by decide +kernel
theorem dX4_addRing_100 : decode cX4_addRing 100 = .ok (.goto (-71), 3) := by decide +kernel
theorem dX4_addRing_103 : decode cX4_addRing 103 = .ok (.aload_n 0, 1) := by decide +kernel
theorem dX4_addRing_104 : decode cX4_addRing 104 = .ok (.getfield 18, 3) := by decide +kernel
theorem dX4_addRing_107 : decode cX4_addRing 107 = .ok (.aload_n 0, 1) := by decide +kernel
theorem dX4_addRing_108 : decode cX4_addRing 108 = .ok (.getfield 69, 3) := by decide +kernel
theorem dX4_addRing_111 : decode cX4_addRing 111 = .ok (.iload_n 1, 1) := by decide +kernel
theorem dX4_addRing_112 : decode cX4_addRing 112 = .ok (.iastore, 1) := by decide +kernel
theorem dX4_addRing_113 : decode cX4_addRing 113 = .ok (.aload_n 0, 1) := by decide +kernel
theorem dX4_addRing_114 : decode cX4_addRing 114 = .ok (.getfield 22, 3) := by decide +kernel
theorem dX4_addRing_117 : decode cX4_addRing 117 = .ok (.aload_n 0, 1) := by decide +kernel
theorem dX4_addRing_118 : decode cX4_addRing 118 = .ok (.getfield 69, 3) := by decide +kernel
theorem dX4_addRing_121 : decode cX4_addRing 121 = .ok (.iload_n 2, 1) := by decide +kernel
theorem dX4_addRing_122 : decode cX4_addRing 122 = .ok (.iastore, 1) := by decide +kernel
theorem dX4_addRing_123 : decode cX4_addRing 123 = .ok (.aload_n 0, 1) := by decide +kernel
theorem dX4_addRing_124 : decode cX4_addRing 124 = .ok (.dup, 1) := by decide +kernel
theorem dX4_addRing_125 : decode cX4_addRing 125 = .ok (.getfield 69, 3) := by decide +kernel
theorem dX4_addRing_128 : decode cX4_addRing 128 = .ok (.iconst 1, 1) := by decide +kernel
theorem dX4_addRing_129 : decode cX4_addRing 129 = .ok (.iadd, 1) := by decide +kernel
theorem dX4_addRing_130 : decode cX4_addRing 130 = .ok (.putfield 69, 3) := by decide +kernel
theorem dX4_addRing_133 : decode cX4_addRing 133 = .ok (.return_, 1) := by decide +kernel
theorem dX4_addNarrow_0 : decode cX4_addNarrow 0 = .ok (.iload_n 1, 1) := by decide +kernel
theorem dX4_addNarrow_1 : decode cX4_addNarrow 1 = .ok (.ifCond .lt 18, 3) := by decide +kernel
theorem dX4_addNarrow_4 : decode cX4_addNarrow 4 = .ok (.iload_n 1, 1) := by decide +kernel
theorem dX4_addNarrow_5 : decode cX4_addNarrow 5 = .ok (.bipush 36, 2) := by decide +kernel
theorem dX4_addNarrow_7 : decode cX4_addNarrow 7 = .ok (.if_icmp .ge 12, 3) := by decide +kernel
theorem dX4_addNarrow_10 : decode cX4_addNarrow 10 = .ok (.aload_n 0, 1) := by decide +kernel
theorem dX4_addNarrow_11 : decode cX4_addNarrow 11 = .ok (.getfield 72, 3) := by decide +kernel
theorem dX4_addNarrow_14 : decode cX4_addNarrow 14 = .ok (.bipush 6, 2) := by decide +kernel
theorem dX4_addNarrow_16 : decode cX4_addNarrow 16 = .ok (.if_icmp .lt 4, 3) := by decide +kernel
theorem dX4_addNarrow_19 : decode cX4_addNarrow 19 = .ok (.return_, 1) := by decide +kernel
theorem dX4_addNarrow_20 : decode cX4_addNarrow 20 = .ok (.aload_n 0, 1) := by decide +kernel
theorem dX4_addNarrow_21 : decode cX4_addNarrow 21 = .ok (.getfield 28, 3) := by decide +kernel
theorem dX4_addNarrow_24 : decode cX4_addNarrow 24 = .ok (.iload_n 1, 1) := by decide +kernel
theorem dX4_addNarrow_25 : decode cX4_addNarrow 25 = .ok (.iload_n 2, 1) := by decide +kernel
theorem dX4_addNarrow_26 : decode cX4_addNarrow 26 = .ok (.iastore, 1) := by decide +kernel
theorem dX4_addNarrow_27 : decode cX4_addNarrow 27 = .ok (.aload_n 0, 1) := by decide +kernel
theorem dX4_addNarrow_28 : decode cX4_addNarrow 28 = .ok (.dup, 1) := by decide +kernel
theorem dX4_addNarrow_29 : decode cX4_addNarrow 29 = .ok (.getfield 72, 3) := by decide +kernel
theorem dX4_addNarrow_32 : decode cX4_addNarrow 32 = .ok (.iconst 1, 1) := by decide +kernel
theorem dX4_addNarrow_33 : decode cX4_addNarrow 33 = .ok (.iadd, 1) := by decide +kernel
theorem dX4_addNarrow_34 : decode cX4_addNarrow 34 = .ok (.putfield 72, 3) := by decide +kernel
theorem dX4_addNarrow_37 : decode cX4_addNarrow 37 = .ok (.return_, 1) := by decide +kernel
theorem dX4_addDoor_0 : decode cX4_addDoor 0 = .ok (.aload_n 0, 1) := by decide +kernel
theorem dX4_addDoor_1 : decode cX4_addDoor 1 = .ok (.getfield 75, 3) := by decide +kernel
theorem dX4_addDoor_4 : decode cX4_addDoor 4 = .ok (.ifCond .lt 11, 3) := by decide +kernel
theorem dX4_addDoor_7 : decode cX4_addDoor 7 = .ok (.aload_n 0, 1) := by decide +kernel
theorem dX4_addDoor_8 : decode cX4_addDoor 8 = .ok (.getfield 75, 3) := by decide +kernel
theorem dX4_addDoor_11 : decode cX4_addDoor 11 = .ok (.iconst 5, 1) := by decide +kernel
theorem dX4_addDoor_12 : decode cX4_addDoor 12 = .ok (.if_icmp .lt 4, 3) := by decide +kernel
theorem dX4_addDoor_15 : decode cX4_addDoor 15 = .ok (.return_, 1) := by decide +kernel
theorem dX4_addDoor_16 : decode cX4_addDoor 16 = .ok (.aload_n 0, 1) := by decide +kernel
theorem dX4_addDoor_17 : decode cX4_addDoor 17 = .ok (.getfield 31, 3) := by decide +kernel
theorem dX4_addDoor_20 : decode cX4_addDoor 20 = .ok (.aload_n 0, 1) := by decide +kernel
theorem dX4_addDoor_21 : decode cX4_addDoor 21 = .ok (.getfield 75, 3) := by decide +kernel
theorem dX4_addDoor_24 : decode cX4_addDoor 24 = .ok (.iload_n 1, 1) := by decide +kernel
theorem dX4_addDoor_25 : decode cX4_addDoor 25 = .ok (.iastore, 1) := by decide +kernel
theorem dX4_addDoor_26 : decode cX4_addDoor 26 = .ok (.aload_n 0, 1) := by decide +kernel
theorem dX4_addDoor_27 : decode cX4_addDoor 27 = .ok (.getfield 34, 3) := by decide +kernel
theorem dX4_addDoor_30 : decode cX4_addDoor 30 = .ok (.aload_n 0, 1) := by decide +kernel
theorem dX4_addDoor_31 : decode cX4_addDoor 31 = .ok (.getfield 75, 3) := by decide +kernel
theorem dX4_addDoor_34 : decode cX4_addDoor 34 = .ok (.iload_n 2, 1) := by decide +kernel
theorem dX4_addDoor_35 : decode cX4_addDoor 35 = .ok (.iastore, 1) := by decide +kernel
theorem dX4_addDoor_36 : decode cX4_addDoor 36 = .ok (.aload_n 0, 1) := by decide +kernel
theorem dX4_addDoor_37 : decode cX4_addDoor 37 = .ok (.dup, 1) := by decide +kernel
theorem dX4_addDoor_38 : decode cX4_addDoor 38 = .ok (.getfield 75, 3) := by decide +kernel
theorem dX4_addDoor_41 : decode cX4_addDoor 41 = .ok (.iconst 1, 1) := by decide +kernel
theorem dX4_addDoor_42 : decode cX4_addDoor 42 = .ok (.iadd, 1) := by decide +kernel
theorem dX4_addDoor_43 : decode cX4_addDoor 43 = .ok (.putfield 75, 3) := by decide +kernel
theorem dX4_addDoor_46 : decode cX4_addDoor 46 = .ok (.return_, 1) := by decide +kernel
theorem dX4_addThing_0 : decode cX4_addThing 0 = .ok (.aload_n 0, 1) := by decide +kernel
theorem dX4_addThing_1 : decode cX4_addThing 1 = .ok (.getfield 78, 3) := by decide +kernel
theorem dX4_addThing_4 : decode cX4_addThing 4 = .ok (.ifCond .lt 12, 3) := by decide +kernel
theorem dX4_addThing_7 : decode cX4_addThing 7 = .ok (.aload_n 0, 1) := by decide +kernel
theorem dX4_addThing_8 : decode cX4_addThing 8 = .ok (.getfield 78, 3) := by decide +kernel
theorem dX4_addThing_11 : decode cX4_addThing 11 = .ok (.bipush 7, 2) := by decide +kernel
theorem dX4_addThing_13 : decode cX4_addThing 13 = .ok (.if_icmp .lt 4, 3) := by decide +kernel
theorem dX4_addThing_16 : decode cX4_addThing 16 = .ok (.return_, 1) := by decide +kernel
theorem dX4_addThing_17 : decode cX4_addThing 17 = .ok (.aload_n 0, 1) := by decide +kernel
theorem dX4_addThing_18 : decode cX4_addThing 18 = .ok (.getfield 37, 3) := by decide +kernel
theorem dX4_addThing_21 : decode cX4_addThing 21 = .ok (.aload_n 0, 1) := by decide +kernel
theorem dX4_addThing_22 : decode cX4_addThing 22 = .ok (.getfield 78, 3) := by decide +kernel
theorem dX4_addThing_25 : decode cX4_addThing 25 = .ok (.iload_n 1, 1) := by decide +kernel
theorem dX4_addThing_26 : decode cX4_addThing 26 = .ok (.iastore, 1) := by decide +kernel
theorem dX4_addThing_27 : decode cX4_addThing 27 = .ok (.aload_n 0, 1) := by decide +kernel
theorem dX4_addThing_28 : decode cX4_addThing 28 = .ok (.getfield 43, 3) := by decide +kernel
theorem dX4_addThing_31 : decode cX4_addThing 31 = .ok (.aload_n 0, 1) := by decide +kernel
theorem dX4_addThing_32 : decode cX4_addThing 32 = .ok (.getfield 78, 3) := by decide +kernel
theorem dX4_addThing_35 : decode cX4_addThing 35 = .ok (.iload_n 2, 1) := by decide +kernel
theorem dX4_addThing_36 : decode cX4_addThing 36 = .ok (.iastore, 1) := by decide +kernel
theorem dX4_addThing_37 : decode cX4_addThing 37 = .ok (.aload_n 0, 1) := by decide +kernel
theorem dX4_addThing_38 : decode cX4_addThing 38 = .ok (.getfield 40, 3) := by decide +kernel
theorem dX4_addThing_41 : decode cX4_addThing 41 = .ok (.aload_n 0, 1) := by decide +kernel
theorem dX4_addThing_42 : decode cX4_addThing 42 = .ok (.getfield 78, 3) := by decide +kernel
theorem dX4_addThing_45 : decode cX4_addThing 45 = .ok (.iload_n 3, 1) := by decide +kernel
theorem dX4_addThing_46 : decode cX4_addThing 46 = .ok (.iastore, 1) := by decide +kernel
theorem dX4_addThing_47 : decode cX4_addThing 47 = .ok (.aload_n 0, 1) := by decide +kernel
theorem dX4_addThing_48 : decode cX4_addThing 48 = .ok (.dup, 1) := by decide +kernel
theorem dX4_addThing_49 : decode cX4_addThing 49 = .ok (.getfield 78, 3) := by decide +kernel
theorem dX4_addThing_52 : decode cX4_addThing 52 = .ok (.iconst 1, 1) := by decide +kernel
theorem dX4_addThing_53 : decode cX4_addThing 53 = .ok (.iadd, 1) := by decide +kernel
theorem dX4_addThing_54 : decode cX4_addThing 54 = .ok (.putfield 78, 3) := by decide +kernel
theorem dX4_addThing_57 : decode cX4_addThing 57 = .ok (.return_, 1) := by decide +kernel
theorem dX4_addMark_0 : decode cX4_addMark 0 = .ok (.aload_n 0, 1) := by decide +kernel
theorem dX4_addMark_1 : decode cX4_addMark 1 = .ok (.getfield 81, 3) := by decide +kernel
theorem dX4_addMark_4 : decode cX4_addMark 4 = .ok (.ifCond .lt 12, 3) := by decide +kernel
theorem dX4_addMark_7 : decode cX4_addMark 7 = .ok (.aload_n 0, 1) := by decide +kernel
theorem dX4_addMark_8 : decode cX4_addMark 8 = .ok (.getfield 81, 3) := by decide +kernel
theorem dX4_addMark_11 : decode cX4_addMark 11 = .ok (.bipush 6, 2) := by decide +kernel
theorem dX4_addMark_13 : decode cX4_addMark 13 = .ok (.if_icmp .lt 4, 3) := by decide +kernel
theorem dX4_addMark_16 : decode cX4_addMark 16 = .ok (.return_, 1) := by decide +kernel
theorem dX4_addMark_17 : decode cX4_addMark 17 = .ok (.aload_n 0, 1) := by decide +kernel
theorem dX4_addMark_18 : decode cX4_addMark 18 = .ok (.getfield 46, 3) := by decide +kernel
theorem dX4_addMark_21 : decode cX4_addMark 21 = .ok (.aload_n 0, 1) := by decide +kernel
theorem dX4_addMark_22 : decode cX4_addMark 22 = .ok (.getfield 81, 3) := by decide +kernel
theorem dX4_addMark_25 : decode cX4_addMark 25 = .ok (.iload_n 1, 1) := by decide +kernel
theorem dX4_addMark_26 : decode cX4_addMark 26 = .ok (.iastore, 1) := by decide +kernel
theorem dX4_addMark_27 : decode cX4_addMark 27 = .ok (.aload_n 0, 1) := by decide +kernel
theorem dX4_addMark_28 : decode cX4_addMark 28 = .ok (.getfield 49, 3) := by decide +kernel
theorem dX4_addMark_31 : decode cX4_addMark 31 = .ok (.aload_n 0, 1) := by decide +kernel
theorem dX4_addMark_32 : decode cX4_addMark 32 = .ok (.getfield 81, 3) := by decide +kernel
theorem dX4_addMark_35 : decode cX4_addMark 35 = .ok (.iload_n 2, 1) := by decide +kernel
theorem dX4_addMark_36 : decode cX4_addMark 36 = .ok (.iastore, 1) := by decide +kernel
theorem dX4_addMark_37 : decode cX4_addMark 37 = .ok (.aload_n 0, 1) := by decide +kernel
theorem dX4_addMark_38 : decode cX4_addMark 38 = .ok (.getfield 52, 3) := by decide +kernel
theorem dX4_addMark_41 : decode cX4_addMark 41 = .ok (.aload_n 0, 1) := by decide +kernel
theorem dX4_addMark_42 : decode cX4_addMark 42 = .ok (.getfield 81, 3) := by decide +kernel
theorem dX4_addMark_45 : decode cX4_addMark 45 = .ok (.iload_n 3, 1) := by decide +kernel
theorem dX4_addMark_46 : decode cX4_addMark 46 = .ok (.bastore, 1) := by decide +kernel
theorem dX4_addMark_47 : decode cX4_addMark 47 = .ok (.aload_n 0, 1) := by decide +kernel
theorem dX4_addMark_48 : decode cX4_addMark 48 = .ok (.dup, 1) := by decide +kernel
theorem dX4_addMark_49 : decode cX4_addMark 49 = .ok (.getfield 81, 3) := by decide +kernel
theorem dX4_addMark_52 : decode cX4_addMark 52 = .ok (.iconst 1, 1) := by decide +kernel
theorem dX4_addMark_53 : decode cX4_addMark 53 = .ok (.iadd, 1) := by decide +kernel
theorem dX4_addMark_54 : decode cX4_addMark 54 = .ok (.putfield 81, 3) := by decide +kernel
theorem dX4_addMark_57 : decode cX4_addMark 57 = .ok (.return_, 1) := by decide +kernel
theorem dX5_init_0 : decode cX5_init 0 = .ok (.aload_n 0, 1) := by decide +kernel
theorem dX5_init_1 : decode cX5_init 1 = .ok (.invokespecial 3, 3) := by decide +kernel
theorem dX5_init_4 : decode cX5_init 4 = .ok (.aload_n 0, 1) := by decide +kernel
theorem dX5_init_5 : decode cX5_init 5 = .ok (.sipush 900, 3) := by decide +kernel
theorem dX5_init_8 : decode cX5_init 8 = .ok (.newarray .byte, 2) := by decide +kernel
theorem dX5_init_10 : decode cX5_init 10 = .ok (.putfield 11, 3) := by decide +kernel
theorem dX5_init_13 : decode cX5_init 13 = .ok (.aload_n 0, 1) := by decide +kernel
theorem dX5_init_14 : decode cX5_init 14 = .ok (.new 15, 3) := by decide +kernel
theorem dX5_init_17 : decode cX5_init 17 = .ok (.dup, 1) := by decide +kernel
theorem dX5_init_18 : decode cX5_init 18 = .ok (.invokespecial 17, 3) := by decide +kernel
theorem dX5_init_21 : decode cX5_init 21 = .ok (.putfield 18, 3) := by decide +kernel
theorem dX5_init_24 : decode cX5_init 24 = .ok (.aload_n 0, 1) := by decide +kernel
theorem dX5_init_25 : decode cX5_init 25 = .ok (.iconst 4, 1) := by decide +kernel
theorem dX5_init_26 : decode cX5_init 26 = .ok (.newarray .long, 2) := by decide +kernel
theorem dX5_init_28 : decode cX5_init 28 = .ok (.putfield 22, 3) := by decide +kernel
theorem dX5_init_31 : decode cX5_init 31 = .ok (.aload_n 0, 1) := by decide +kernel
theorem dX5_init_32 : decode cX5_init 32 = .ok (.bipush 7, 2) := by decide +kernel
theorem dX5_init_34 : decode cX5_init 34 = .ok (.newarray .long, 2) := by decide +kernel
theorem dX5_init_36 : decode cX5_init 36 = .ok (.putfield 26, 3) := by decide +kernel
theorem dX5_init_39 : decode cX5_init 39 = .ok (.return_, 1) := by decide +kernel
theorem dX5_hasRoom_0 : decode cX5_hasRoom 0 = .ok (.aload_n 0, 1) := by decide +kernel
theorem dX5_hasRoom_1 : decode cX5_hasRoom 1 = .ok (.getfield 29, 3) := by decide +kernel
theorem dX5_hasRoom_4 : decode cX5_hasRoom 4 = .ok (.iload_n 1, 1) := by decide +kernel
theorem dX5_hasRoom_5 : decode cX5_hasRoom 5 = .ok (.iadd, 1) := by decide +kernel
theorem dX5_hasRoom_6 : decode cX5_hasRoom 6 = .ok (.sipush 900, 3) := by decide +kernel
theorem dX5_hasRoom_9 : decode cX5_hasRoom 9 = .ok (.if_icmp .gt 7, 3) := by decide +kernel
theorem dX5_hasRoom_12 : decode cX5_hasRoom 12 = .ok (.iconst 1, 1) := by decide +kernel
theorem dX5_hasRoom_13 : decode cX5_hasRoom 13 = .ok (.goto 4, 3) := by decide +kernel
theorem dX5_hasRoom_16 : decode cX5_hasRoom 16 = .ok (.iconst 0, 1) := by decide +kernel
theorem dX5_hasRoom_17 : decode cX5_hasRoom 17 = .ok (.ireturn, 1) := by decide +kernel
theorem dX5_count_0 : decode cX5_count 0 = .ok (.aload_n 0, 1) := by decide +kernel
theorem dX5_count_1 : decode cX5_count 1 = .ok (.getfield 29, 3) := by decide +kernel
theorem dX5_count_4 : decode cX5_count 4 = .ok (.ireturn, 1) := by decide +kernel
theorem dX5_append_0 : decode cX5_append 0 = .ok (.bipush 24, 2) := by decide +kernel
theorem dX5_append_2 : decode cX5_append 2 = .ok (.istore_n 2, 1) := by decide +kernel
theorem dX5_append_3 : decode cX5_append 3 = .ok (.iload_n 2, 1) := by decide +kernel
theorem dX5_append_4 : decode cX5_append 4 = .ok (.ifCond .lt 49, 3) := by decide +kernel
theorem dX5_append_7 : decode cX5_append 7 = .ok (.aload_n 0, 1) := by decide +kernel
theorem dX5_append_8 : decode cX5_append 8 = .ok (.getfield 29, 3) := by decide +kernel
theorem dX5_append_11 : decode cX5_append 11 = .ok (.ifCond .lt 36, 3) := by decide +kernel
theorem dX5_append_14 : decode cX5_append 14 = .ok (.aload_n 0, 1) := by decide +kernel
theorem dX5_append_15 : decode cX5_append 15 = .ok (.getfield 29, 3) := by decide +kernel
theorem dX5_append_18 : decode cX5_append 18 = .ok (.sipush 900, 3) := by decide +kernel
theorem dX5_append_21 : decode cX5_append 21 = .ok (.if_icmp .ge 26, 3) := by decide +kernel
theorem dX5_append_24 : decode cX5_append 24 = .ok (.aload_n 0, 1) := by decide +kernel
theorem dX5_append_25 : decode cX5_append 25 = .ok (.getfield 11, 3) := by decide +kernel
theorem dX5_append_28 : decode cX5_append 28 = .ok (.aload_n 0, 1) := by decide +kernel
theorem dX5_append_29 : decode cX5_append 29 = .ok (.getfield 29, 3) := by decide +kernel
theorem dX5_append_32 : decode cX5_append 32 = .ok (.iload_n 1, 1) := by decide +kernel
theorem dX5_append_33 : decode cX5_append 33 = .ok (.iload_n 2, 1) := by decide +kernel
theorem dX5_append_34 : decode cX5_append 34 = .ok (.ishr, 1) := by decide +kernel
theorem dX5_append_35 : decode cX5_append 35 = .ok (.i2b, 1) := by decide +kernel
theorem dX5_append_36 : decode cX5_append 36 = .ok (.bastore, 1) := by decide +kernel
theorem dX5_append_37 : decode cX5_append 37 = .ok (.aload_n 0, 1) := by decide +kernel
theorem dX5_append_38 : decode cX5_append 38 = .ok (.dup, 1) := by decide +kernel
theorem dX5_append_39 : decode cX5_append 39 = .ok (.getfield 29, 3) := by decide +kernel
theorem dX5_append_42 : decode cX5_append 42 = .ok (.iconst 1, 1) := by decide +kernel
theorem dX5_append_43 : decode cX5_append 43 = .ok (.iadd, 1) := by decide +kernel
theorem dX5_append_44 : decode cX5_append 44 = .ok (.putfield 29, 3) := by decide +kernel
theorem dX5_append_47 : decode cX5_append 47 = .ok (.iinc 2 (-8), 3) := by decide +kernel
theorem dX5_append_50 : decode cX5_append 50 = .ok (.goto (-47), 3) := by decide +kernel
theorem dX5_append_53 : decode cX5_append 53 = .ok (.return_, 1) := by decide +kernel
theorem dX5_faultFound_0 : decode cX5_faultFound 0 = .ok (.aload_n 0, 1) := by decide +kernel
theorem dX5_faultFound_1 : decode cX5_faultFound 1 = .ok (.getfield 33, 3) := by decide +kernel
theorem dX5_faultFound_4 : decode cX5_faultFound 4 = .ok (.ireturn, 1) := by decide +kernel
theorem dX5_faultStart_0 : decode cX5_faultStart 0 = .ok (.aload_n 0, 1) := by decide +kernel
theorem dX5_faultStart_1 : decode cX5_faultStart 1 = .ok (.getfield 36, 3) := by decide +kernel
theorem dX5_faultStart_4 : decode cX5_faultStart 4 = .ok (.ireturn, 1) := by decide +kernel
theorem dX5_exchange_0 : decode cX5_exchange 0 = .ok (.aload_n 0, 1) := by decide +kernel
theorem dX5_exchange_1 : decode cX5_exchange 1 = .ok (.getfield 18, 3) := by decide +kernel
theorem dX5_exchange_4 : decode cX5_exchange 4 = .ok (.astore_n 2, 1) := by decide +kernel
theorem dX5_exchange_5 : decode cX5_exchange 5 = .ok (.aload_n 0, 1) := by decide +kernel
theorem dX5_exchange_6 : decode cX5_exchange 6 = .ok (.aload_n 1, 1) := by decide +kernel
theorem dX5_exchange_7 : decode cX5_exchange 7 = .ok (.putfield 18, 3) := by decide +kernel
theorem dX5_exchange_10 : decode cX5_exchange 10 = .ok (.aload_n 2, 1) := by decide +kernel
theorem dX5_exchange_11 : decode cX5_exchange 11 = .ok (.areturn, 1) := by decide +kernel
theorem dX5_read_0 : decode cX5_read 0 = .ok (.aload_n 0, 1) := by decide +kernel
theorem dX5_read_1 : decode cX5_read 1 = .ok (.iload_n 1, 1) := by decide +kernel
theorem dX5_read_2 : decode cX5_read 2 = .ok (.putfield 39, 3) := by decide +kernel
theorem dX5_read_5 : decode cX5_read 5 = .ok (.aload_n 0, 1) := by decide +kernel
theorem dX5_read_6 : decode cX5_read 6 = .ok (.iconst 0, 1) := by decide +kernel
theorem dX5_read_7 : decode cX5_read 7 = .ok (.putfield 42, 3) := by decide +kernel
theorem dX5_read_10 : decode cX5_read 10 = .ok (.aload_n 0, 1) := by decide +kernel
theorem dX5_read_11 : decode cX5_read 11 = .ok (.iconst 0, 1) := by decide +kernel
theorem dX5_read_12 : decode cX5_read 12 = .ok (.putfield 33, 3) := by decide +kernel
theorem dX5_read_15 : decode cX5_read 15 = .ok (.aload_n 0, 1) := by decide +kernel
theorem dX5_read_16 : decode cX5_read 16 = .ok (.iconst 0, 1) := by decide +kernel
theorem dX5_read_17 : decode cX5_read 17 = .ok (.putfield 45, 3) := by decide +kernel
theorem dX5_read_20 : decode cX5_read 20 = .ok (.aload_n 0, 1) := by decide +kernel
theorem dX5_read_21 : decode cX5_read 21 = .ok (.getfield 18, 3) := by decide +kernel
theorem dX5_read_24 : decode cX5_read 24 = .ok (.invokevirtual 49, 3) := by decide +kernel
theorem dX5_read_27 : decode cX5_read 27 = .ok (.aload_n 0, 1) := by decide +kernel
theorem dX5_read_28 : decode cX5_read 28 = .ok (.iconst 0, 1) := by decide +kernel
theorem dX5_read_29 : decode cX5_read 29 = .ok (.putfield 29, 3) := by decide +kernel
theorem dX5_read_32 : decode cX5_read 32 = .ok (.aload_n 0, 1) := by decide +kernel
theorem dX5_read_33 : decode cX5_read 33 = .ok (.invokevirtual 52, 3) := by decide +kernel
theorem dX5_read_36 : decode cX5_read 36 = .ok (.aload_n 0, 1) := by decide +kernel
theorem dX5_read_37 : decode cX5_read 37 = .ok (.invokevirtual 55, 3) := by decide +kernel
theorem dX5_read_40 : decode cX5_read 40 = .ok (.istore_n 2, 1) := by decide +kernel
theorem dX5_read_41 : decode cX5_read 41 = .ok (.iconst 0, 1) := by decide +kernel
theorem dX5_read_42 : decode cX5_read 42 = .ok (.istore_n 3, 1) := by decide +kernel
theorem dX5_read_43 : decode cX5_read 43 = .ok (.iload_n 3, 1) := by decide +kernel
theorem dX5_read_44 : decode cX5_read 44 = .ok (.sipush 900, 3) := by decide +kernel
theorem dX5_read_47 : decode cX5_read 47 = .ok (.if_icmp .ge 30, 3) := by decide +kernel
theorem dX5_read_50 : decode cX5_read 50 = .ok (.iload_n 2, 1) := by decide +kernel
theorem dX5_read_51 : decode cX5_read 51 = .ok (.ifCond .eq 26, 3) := by decide +kernel
theorem dX5_read_54 : decode cX5_read 54 = .ok (.aload_n 0, 1) := by decide +kernel
theorem dX5_read_55 : decode cX5_read 55 = .ok (.getfield 59, 3) := by decide +kernel
theorem dX5_read_58 : decode cX5_read 58 = .ok (.iconst 3, 1) := by decide +kernel
theorem dX5_read_59 : decode cX5_read 59 = .ok (.if_icmp .ne 18, 3) := by decide +kernel
theorem dX5_read_62 : decode cX5_read 62 = .ok (.aload_n 0, 1) := by decide +kernel
theorem dX5_read_63 : decode cX5_read 63 = .ok (.invokevirtual 52, 3) := by decide +kernel
theorem dX5_read_66 : decode cX5_read 66 = .ok (.aload_n 0, 1) := by decide +kernel
theorem dX5_read_67 : decode cX5_read 67 = .ok (.invokevirtual 55, 3) := by decide +kernel
theorem dX5_read_70 : decode cX5_read 70 = .ok (.istore_n 2, 1) := by decide +kernel
theorem dX5_read_71 : decode cX5_read 71 = .ok (.iinc 3 1, 3) := by decide +kernel
theorem dX5_read_74 : decode cX5_read 74 = .ok (.goto (-31), 3) := by decide +kernel
theorem dX5_read_77 : decode cX5_read 77 = .ok (.iload_n 2, 1) := by decide +kernel
theorem dX5_read_78 : decode cX5_read 78 = .ok (.ifCond .ne 5, 3) := by decide +kernel
theorem dX5_read_81 : decode cX5_read 81 = .ok (.iconst 0, 1) := by decide +kernel
theorem dX5_read_82 : decode cX5_read 82 = .ok (.ireturn, 1) := by decide +kernel
theorem dX5_read_83 : decode cX5_read 83 = .ok (.aload_n 0, 1) := by decide +kernel
theorem dX5_read_84 : decode cX5_read 84 = .ok (.getfield 59, 3) := by decide +kernel
theorem dX5_read_87 : decode cX5_read 87 = .ok (.ifCond .eq 9, 3) := by decide +kernel
theorem dX5_read_90 : decode cX5_read 90 = .ok (.aload_n 0, 1) := by decide +kernel
theorem dX5_read_91 : decode cX5_read 91 = .ok (.iconst 1, 1) := by decide +kernel
theorem dX5_read_92 : decode cX5_read 92 = .ok (.invokevirtual 62, 3) := by decide +kernel
theorem dX5_read_95 : decode cX5_read 95 = .ok (.ireturn, 1) := by decide +kernel
theorem dX5_read_96 : decode cX5_read 96 = .ok (.aload_n 0, 1) := by decide +kernel
theorem dX5_read_97 : decode cX5_read 97 = .ok (.getfield 18, 3) := by decide +kernel
theorem dX5_read_100 : decode cX5_read 100 = .ok (.invokevirtual 66, 3) := by decide +kernel
theorem dX5_read_103 : decode cX5_read 103 = .ok (.ifCond .ne 12, 3) := by decide +kernel
theorem dX5_read_106 : decode cX5_read 106 = .ok (.aload_n 0, 1) := by decide +kernel
theorem dX5_read_107 : decode cX5_read 107 = .ok (.bipush 6, 2) := by decide +kernel
theorem dX5_read_109 : decode cX5_read 109 = .ok (.invokevirtual 62, 3) := by decide +kernel
theorem dX5_read_112 : decode cX5_read 112 = .ok (.ifCond .eq 7, 3) := by decide +kernel
theorem dX5_read_115 : decode cX5_read 115 = .ok (.iconst 1, 1) := by decide +kernel
theorem dX5_read_116 : decode cX5_read 116 = .ok (.goto 4, 3) := by decide +kernel
theorem dX5_read_119 : decode cX5_read 119 = .ok (.iconst 0, 1) := by decide +kernel
theorem dX5_read_120 : decode cX5_read 120 = .ok (.ireturn, 1) := by decide +kernel
theorem dX5_fails_0 : decode cX5_fails 0 = .ok (.aload_n 0, 1) := by decide +kernel
theorem dX5_fails_1 : decode cX5_fails 1 = .ok (.iload_n 1, 1) := by decide +kernel
theorem dX5_fails_2 : decode cX5_fails 2 = .ok (.putfield 33, 3) := by decide +kernel
theorem dX5_fails_5 : decode cX5_fails 5 = .ok (.iconst 0, 1) := by decide +kernel
theorem dX5_fails_6 : decode cX5_fails 6 = .ok (.ireturn, 1) := by decide +kernel
theorem dX5_byteAt_0 : decode cX5_byteAt 0 = .ok (.iload_n 1, 1) := by decide +kernel
theorem dX5_byteAt_1 : decode cX5_byteAt 1 = .ok (.ifCond .lt 31, 3) := by decide +kernel
theorem dX5_byteAt_4 : decode cX5_byteAt 4 = .ok (.iload_n 1, 1) := by decide +kernel
theorem dX5_byteAt_5 : decode cX5_byteAt 5 = .ok (.aload_n 0, 1) := by decide +kernel
theorem dX5_byteAt_6 : decode cX5_byteAt 6 = .ok (.getfield 39, 3) := by decide +kernel
theorem dX5_byteAt_9 : decode cX5_byteAt 9 = .ok (.if_icmp .ge 23, 3) := by decide +kernel
theorem dX5_byteAt_12 : decode cX5_byteAt 12 = .ok (.iload_n 1, 1) := by decide +kernel
theorem dX5_byteAt_13 : decode cX5_byteAt 13 = .ok (.sipush 900, 3) := by decide +kernel
theorem dX5_byteAt_16 : decode cX5_byteAt 16 = .ok (.if_icmp .ge 16, 3) := by decide +kernel
theorem dX5_byteAt_19 : decode cX5_byteAt 19 = .ok (.aload_n 0, 1) := by decide +kernel
theorem dX5_byteAt_20 : decode cX5_byteAt 20 = .ok (.getfield 11, 3) := by decide +kernel
theorem dX5_byteAt_23 : decode cX5_byteAt 23 = .ok (.iload_n 1, 1) := by decide +kernel
theorem dX5_byteAt_24 : decode cX5_byteAt 24 = .ok (.baload, 1) := by decide +kernel
theorem dX5_byteAt_25 : decode cX5_byteAt 25 = .ok (.sipush 255, 3) := by decide +kernel
theorem dX5_byteAt_28 : decode cX5_byteAt 28 = .ok (.iand, 1) := by decide +kernel
theorem dX5_byteAt_29 : decode cX5_byteAt 29 = .ok (.goto 4, 3) := by decide +kernel
theorem dX5_byteAt_32 : decode cX5_byteAt 32 = .ok (.iconst (-1), 1) := by decide +kernel
theorem dX5_byteAt_33 : decode cX5_byteAt 33 = .ok (.ireturn, 1) := by decide +kernel
theorem dX5_step_0 : decode cX5_step 0 = .ok (.aload_n 0, 1) := by decide +kernel
theorem dX5_step_1 : decode cX5_step 1 = .ok (.getfield 42, 3) := by decide +kernel
theorem dX5_step_4 : decode cX5_step 4 = .ok (.istore_n 1, 1) := by decide +kernel
theorem dX5_step_5 : decode cX5_step 5 = .ok (.iload_n 1, 1) := by decide +kernel
theorem dX5_step_6 : decode cX5_step 6 = .ok (.aload_n 0, 1) := by decide +kernel
theorem dX5_step_7 : decode cX5_step 7 = .ok (.getfield 39, 3) := by decide +kernel
theorem dX5_step_10 : decode cX5_step 10 = .ok (.if_icmp .ge 19, 3) := by decide +kernel
theorem dX5_step_13 : decode cX5_step 13 = .ok (.aload_n 0, 1) := by decide +kernel
theorem dX5_step_14 : decode cX5_step 14 = .ok (.iload_n 1, 1) := by decide +kernel
theorem dX5_step_15 : decode cX5_step 15 = .ok (.invokevirtual 69, 3) := by decide +kernel
theorem dX5_step_18 : decode cX5_step 18 = .ok (.bipush 32, 2) := by decide +kernel
theorem dX5_step_20 : decode cX5_step 20 = .ok (.if_icmp .ne 9, 3) := by decide +kernel
theorem dX5_step_23 : decode cX5_step 23 = .ok (.iinc 1 1, 3) := by decide +kernel
theorem dX5_step_26 : decode cX5_step 26 = .ok (.goto (-21), 3) := by decide +kernel
theorem dX5_step_29 : decode cX5_step 29 = .ok (.aload_n 0, 1) := by decide +kernel
theorem dX5_step_30 : decode cX5_step 30 = .ok (.iload_n 1, 1) := by decide +kernel
theorem dX5_step_31 : decode cX5_step 31 = .ok (.putfield 36, 3) := by decide +kernel
theorem dX5_step_34 : decode cX5_step 34 = .ok (.aload_n 0, 1) := by decide +kernel
theorem dX5_step_35 : decode cX5_step 35 = .ok (.iload_n 1, 1) := by decide +kernel
theorem dX5_step_36 : decode cX5_step 36 = .ok (.putfield 42, 3) := by decide +kernel
theorem dX5_step_39 : decode cX5_step 39 = .ok (.aload_n 0, 1) := by decide +kernel
theorem dX5_step_40 : decode cX5_step 40 = .ok (.iload_n 1, 1) := by decide +kernel
theorem dX5_step_41 : decode cX5_step 41 = .ok (.invokevirtual 69, 3) := by decide +kernel
theorem dX5_step_44 : decode cX5_step 44 = .ok (.istore_n 2, 1) := by decide +kernel
theorem dX5_step_45 : decode cX5_step 45 = .ok (.iload_n 2, 1) := by decide +kernel
theorem dX5_step_46 : decode cX5_step 46 = .ok (.ifCond .ge 11, 3) := by decide +kernel
theorem dX5_step_49 : decode cX5_step 49 = .ok (.aload_n 0, 1) := by decide +kernel
theorem dX5_step_50 : decode cX5_step 50 = .ok (.iconst 0, 1) := by decide +kernel
theorem dX5_step_51 : decode cX5_step 51 = .ok (.putfield 59, 3) := by decide +kernel
theorem dX5_step_54 : decode cX5_step 54 = .ok (.goto 63, 3) := by decide +kernel
theorem dX5_step_57 : decode cX5_step 57 = .ok (.iload_n 2, 1) := by decide +kernel
theorem dX5_step_58 : decode cX5_step 58 = .ok (.bipush 97, 2) := by decide +kernel
theorem dX5_step_60 : decode cX5_step 60 = .ok (.if_icmp .lt 16, 3) := by decide +kernel
theorem dX5_step_63 : decode cX5_step 63 = .ok (.iload_n 2, 1) := by decide +kernel
theorem dX5_step_64 : decode cX5_step 64 = .ok (.bipush 122, 2) := by decide +kernel
theorem dX5_step_66 : decode cX5_step 66 = .ok (.if_icmp .gt 10, 3) := by decide +kernel
theorem dX5_step_69 : decode cX5_step 69 = .ok (.aload_n 0, 1) := by decide +kernel
theorem dX5_step_70 : decode cX5_step 70 = .ok (.invokevirtual 73, 3) := by decide +kernel
theorem dX5_step_73 : decode cX5_step 73 = .ok (.goto 44, 3) := by decide +kernel
theorem dX5_step_76 : decode cX5_step 76 = .ok (.iload_n 2, 1) := by decide +kernel
theorem dX5_step_77 : decode cX5_step 77 = .ok (.bipush 48, 2) := by decide +kernel
theorem dX5_step_79 : decode cX5_step 79 = .ok (.if_icmp .lt 16, 3) := by decide +kernel
theorem dX5_step_82 : decode cX5_step 82 = .ok (.iload_n 2, 1) := by decide +kernel
theorem dX5_step_83 : decode cX5_step 83 = .ok (.bipush 57, 2) := by decide +kernel
theorem dX5_step_85 : decode cX5_step 85 = .ok (.if_icmp .gt 10, 3) := by decide +kernel
theorem dX5_step_88 : decode cX5_step 88 = .ok (.aload_n 0, 1) := by decide +kernel
theorem dX5_step_89 : decode cX5_step 89 = .ok (.invokevirtual 76, 3) := by decide +kernel
theorem dX5_step_92 : decode cX5_step 92 = .ok (.goto 25, 3) := by decide +kernel
theorem dX5_step_95 : decode cX5_step 95 = .ok (.aload_n 0, 1) := by decide +kernel
theorem dX5_step_96 : decode cX5_step 96 = .ok (.iload_n 2, 1) := by decide +kernel
theorem dX5_step_97 : decode cX5_step 97 = .ok (.bipush 59, 2) := by decide +kernel
theorem dX5_step_99 : decode cX5_step 99 = .ok (.if_icmp .ne 7, 3) := by decide +kernel
theorem dX5_step_102 : decode cX5_step 102 = .ok (.iconst 3, 1) := by decide +kernel
theorem dX5_step_103 : decode cX5_step 103 = .ok (.goto 4, 3) := by decide +kernel
theorem dX5_step_106 : decode cX5_step 106 = .ok (.iconst 4, 1) := by decide +kernel
theorem dX5_step_107 : decode cX5_step 107 = .ok (.putfield 59, 3) := by decide +kernel
theorem dX5_step_110 : decode cX5_step 110 = .ok (.aload_n 0, 1) := by decide +kernel
theorem dX5_step_111 : decode cX5_step 111 = .ok (.iload_n 1, 1) := by decide +kernel
theorem dX5_step_112 : decode cX5_step 112 = .ok (.iconst 1, 1) := by decide +kernel
theorem dX5_step_113 : decode cX5_step 113 = .ok (.iadd, 1) := by decide +kernel
theorem dX5_step_114 : decode cX5_step 114 = .ok (.putfield 42, 3) := by decide +kernel
theorem dX5_step_117 : decode cX5_step 117 = .ok (.return_, 1) := by decide +kernel
theorem dX5_takeLetters_0 : decode cX5_takeLetters 0 = .ok (.aload_n 0, 1) := by decide +kernel
theorem dX5_takeLetters_1 : decode cX5_takeLetters 1 = .ok (.lconst 0, 1) := by decide +kernel
theorem dX5_takeLetters_2 : decode cX5_takeLetters 2 = .ok (.putfield 79, 3) := by decide +kernel
theorem dX5_takeLetters_5 : decode cX5_takeLetters 5 = .ok (.aload_n 0, 1) := by decide +kernel
theorem dX5_takeLetters_6 : decode cX5_takeLetters 6 = .ok (.getfield 36, 3) := by decide +kernel
theorem dX5_takeLetters_9 : decode cX5_takeLetters 9 = .ok (.istore_n 1, 1) := by decide +kernel
theorem dX5_takeLetters_10 : decode cX5_takeLetters 10 = .ok (.iload_n 1, 1) := by decide +kernel
theorem dX5_takeLetters_11 : decode cX5_takeLetters 11 = .ok (.ifCond .lt 81, 3) := by decide +kernel
theorem dX5_takeLetters_14 : decode cX5_takeLetters 14 = .ok (.iload_n 1, 1) := by decide +kernel
theorem dX5_takeLetters_15 : decode cX5_takeLetters 15 = .ok (.aload_n 0, 1) := by decide +kernel
theorem dX5_takeLetters_16 : decode cX5_takeLetters 16 = .ok (.getfield 39, 3) := by decide +kernel
theorem dX5_takeLetters_19 : decode cX5_takeLetters 19 = .ok (.if_icmp .ge 73, 3) := by decide +kernel
theorem dX5_takeLetters_22 : decode cX5_takeLetters 22 = .ok (.iload_n 1, 1) := by decide +kernel
theorem dX5_takeLetters_23 : decode cX5_takeLetters 23 = .ok (.sipush 900, 3) := by decide +kernel
theorem dX5_takeLetters_26 : decode cX5_takeLetters 26 = .ok (.if_icmp .ge 66, 3) := by decide +kernel
theorem dX5_takeLetters_29 : decode cX5_takeLetters 29 = .ok (.aload_n 0, 1) := by decide +kernel
theorem dX5_takeLetters_30 : decode cX5_takeLetters 30 = .ok (.getfield 11, 3) := by decide +kernel
theorem dX5_takeLetters_33 : decode cX5_takeLetters 33 = .ok (.iload_n 1, 1) := by decide +kernel
theorem dX5_takeLetters_34 : decode cX5_takeLetters 34 = .ok (.baload, 1) := by decide +kernel
theorem dX5_takeLetters_35 : decode cX5_takeLetters 35 = .ok (.bipush 97, 2) := by decide +kernel
theorem dX5_takeLetters_37 : decode cX5_takeLetters 37 = .ok (.if_icmp .lt 55, 3) := by decide +kernel
theorem dX5_takeLetters_40 : decode cX5_takeLetters 40 = .ok (.aload_n 0, 1) := by decide +kernel
theorem dX5_takeLetters_41 : decode cX5_takeLetters 41 = .ok (.getfield 11, 3) := by decide +kernel
theorem dX5_takeLetters_44 : decode cX5_takeLetters 44 = .ok (.iload_n 1, 1) := by decide +kernel
theorem dX5_takeLetters_45 : decode cX5_takeLetters 45 = .ok (.baload, 1) := by decide +kernel
theorem dX5_takeLetters_46 : decode cX5_takeLetters 46 = .ok (.bipush 122, 2) := by decide +kernel
theorem dX5_takeLetters_48 : decode cX5_takeLetters 48 = .ok (.if_icmp .le 6, 3) := by decide +kernel
theorem dX5_takeLetters_51 : decode cX5_takeLetters 51 = .ok (.goto 41, 3) := by decide +kernel
theorem dX5_takeLetters_54 : decode cX5_takeLetters 54 = .ok (.aload_n 0, 1) := by decide +kernel
theorem dX5_takeLetters_55 : decode cX5_takeLetters 55 = .ok (.aload_n 0, 1) := by decide +kernel
theorem dX5_takeLetters_56 : decode cX5_takeLetters 56 = .ok (.getfield 79, 3) := by decide +kernel
theorem dX5_takeLetters_59 : decode cX5_takeLetters 59 = .ok (.ldc2_w 83, 3) := by decide +kernel
theorem dX5_takeLetters_62 : decode cX5_takeLetters 62 = .ok (.lmul, 1) := by decide +kernel
theorem dX5_takeLetters_63 : decode cX5_takeLetters 63 = .ok (.aload_n 0, 1) := by decide +kernel
theorem dX5_takeLetters_64 : decode cX5_takeLetters 64 = .ok (.getfield 11, 3) := by decide +kernel
theorem dX5_takeLetters_67 : decode cX5_takeLetters 67 = .ok (.iload_n 1, 1) := by decide +kernel
theorem dX5_takeLetters_68 : decode cX5_takeLetters 68 = .ok (.baload, 1) := by decide +kernel
theorem dX5_takeLetters_69 : decode cX5_takeLetters 69 = .ok (.bipush 97, 2) := by decide +kernel
theorem dX5_takeLetters_71 : decode cX5_takeLetters 71 = .ok (.isub, 1) := by decide +kernel
theorem dX5_takeLetters_72 : decode cX5_takeLetters 72 = .ok (.iconst 1, 1) := by decide +kernel
theorem dX5_takeLetters_73 : decode cX5_takeLetters 73 = .ok (.iadd, 1) := by decide +kernel
theorem dX5_takeLetters_74 : decode cX5_takeLetters 74 = .ok (.i2l, 1) := by decide +kernel
theorem dX5_takeLetters_75 : decode cX5_takeLetters 75 = .ok (.ladd, 1) := by decide +kernel
theorem dX5_takeLetters_76 : decode cX5_takeLetters 76 = .ok (.putfield 79, 3) := by decide +kernel
theorem dX5_takeLetters_79 : decode cX5_takeLetters 79 = .ok (.aload_n 0, 1) := by decide +kernel
theorem dX5_takeLetters_80 : decode cX5_takeLetters 80 = .ok (.iload_n 1, 1) := by decide +kernel
theorem dX5_takeLetters_81 : decode cX5_takeLetters 81 = .ok (.iconst 1, 1) := by decide +kernel
theorem dX5_takeLetters_82 : decode cX5_takeLetters 82 = .ok (.iadd, 1) := by decide +kernel
theorem dX5_takeLetters_83 : decode cX5_takeLetters 83 = .ok (.putfield 42, 3) := by decide +kernel
theorem dX5_takeLetters_86 : decode cX5_takeLetters 86 = .ok (.iinc 1 1, 3) := by decide +kernel
theorem dX5_takeLetters_89 : decode cX5_takeLetters 89 = .ok (.goto (-79), 3) := by decide +kernel
theorem dX5_takeLetters_92 : decode cX5_takeLetters 92 = .ok (.aload_n 0, 1) := by decide +kernel
theorem dX5_takeLetters_93 : decode cX5_takeLetters 93 = .ok (.aload_n 0, 1) := by decide +kernel
theorem dX5_takeLetters_94 : decode cX5_takeLetters 94 = .ok (.getfield 42, 3) := by decide +kernel
theorem dX5_takeLetters_97 : decode cX5_takeLetters 97 = .ok (.aload_n 0, 1) := by decide +kernel
theorem dX5_takeLetters_98 : decode cX5_takeLetters 98 = .ok (.getfield 36, 3) := by decide +kernel
theorem dX5_takeLetters_101 : decode cX5_takeLetters 101 = .ok (.isub, 1) := by decide +kernel
theorem dX5_takeLetters_102 : decode cX5_takeLetters 102 = .ok (.bipush 8, 2) := by decide +kernel
theorem dX5_takeLetters_104 : decode cX5_takeLetters 104 = .ok (.if_icmp .gt 7, 3) := by decide +kernel
theorem dX5_takeLetters_107 : decode cX5_takeLetters 107 = .ok (.iconst 1, 1) := by decide +kernel
theorem dX5_takeLetters_108 : decode cX5_takeLetters 108 = .ok (.goto 4, 3) := by decide +kernel
theorem dX5_takeLetters_111 : decode cX5_takeLetters 111 = .ok (.iconst 4, 1) := by decide +kernel
theorem dX5_takeLetters_112 : decode cX5_takeLetters 112 = .ok (.putfield 59, 3) := by decide +kernel
theorem dX5_takeLetters_115 : decode cX5_takeLetters 115 = .ok (.return_, 1) := by decide +kernel
theorem dX5_takeDigits_0 : decode cX5_takeDigits 0 = .ok (.aload_n 0, 1) := by decide +kernel
theorem dX5_takeDigits_1 : decode cX5_takeDigits 1 = .ok (.iconst 0, 1) := by decide +kernel
theorem dX5_takeDigits_2 : decode cX5_takeDigits 2 = .ok (.putfield 85, 3) := by decide +kernel
theorem dX5_takeDigits_5 : decode cX5_takeDigits 5 = .ok (.aload_n 0, 1) := by decide +kernel
theorem dX5_takeDigits_6 : decode cX5_takeDigits 6 = .ok (.getfield 36, 3) := by decide +kernel
theorem dX5_takeDigits_9 : decode cX5_takeDigits 9 = .ok (.istore_n 1, 1) := by decide +kernel
theorem dX5_takeDigits_10 : decode cX5_takeDigits 10 = .ok (.iload_n 1, 1) := by decide +kernel
theorem dX5_takeDigits_11 : decode cX5_takeDigits 11 = .ok (.ifCond .lt 77, 3) := by decide +kernel
theorem dX5_takeDigits_14 : decode cX5_takeDigits 14 = .ok (.iload_n 1, 1) := by decide +kernel
theorem dX5_takeDigits_15 : decode cX5_takeDigits 15 = .ok (.aload_n 0, 1) := by decide +kernel
theorem dX5_takeDigits_16 : decode cX5_takeDigits 16 = .ok (.getfield 39, 3) := by decide +kernel
theorem dX5_takeDigits_19 : decode cX5_takeDigits 19 = .ok (.if_icmp .ge 69, 3) := by decide +kernel
theorem dX5_takeDigits_22 : decode cX5_takeDigits 22 = .ok (.iload_n 1, 1) := by decide +kernel
theorem dX5_takeDigits_23 : decode cX5_takeDigits 23 = .ok (.sipush 900, 3) := by decide +kernel
theorem dX5_takeDigits_26 : decode cX5_takeDigits 26 = .ok (.if_icmp .ge 62, 3) := by decide +kernel
theorem dX5_takeDigits_29 : decode cX5_takeDigits 29 = .ok (.aload_n 0, 1) := by decide +kernel
theorem dX5_takeDigits_30 : decode cX5_takeDigits 30 = .ok (.getfield 11, 3) := by decide +kernel
theorem dX5_takeDigits_33 : decode cX5_takeDigits 33 = .ok (.iload_n 1, 1) := by decide +kernel
theorem dX5_takeDigits_34 : decode cX5_takeDigits 34 = .ok (.baload, 1) := by decide +kernel
theorem dX5_takeDigits_35 : decode cX5_takeDigits 35 = .ok (.bipush 48, 2) := by decide +kernel
theorem dX5_takeDigits_37 : decode cX5_takeDigits 37 = .ok (.if_icmp .lt 51, 3) := by decide +kernel
theorem dX5_takeDigits_40 : decode cX5_takeDigits 40 = .ok (.aload_n 0, 1) := by decide +kernel
theorem dX5_takeDigits_41 : decode cX5_takeDigits 41 = .ok (.getfield 11, 3) := by decide +kernel
theorem dX5_takeDigits_44 : decode cX5_takeDigits 44 = .ok (.iload_n 1, 1) := by decide +kernel
theorem dX5_takeDigits_45 : decode cX5_takeDigits 45 = .ok (.baload, 1) := by decide +kernel
theorem dX5_takeDigits_46 : decode cX5_takeDigits 46 = .ok (.bipush 57, 2) := by decide +kernel
theorem dX5_takeDigits_48 : decode cX5_takeDigits 48 = .ok (.if_icmp .le 6, 3) := by decide +kernel
theorem dX5_takeDigits_51 : decode cX5_takeDigits 51 = .ok (.goto 37, 3) := by decide +kernel
theorem dX5_takeDigits_54 : decode cX5_takeDigits 54 = .ok (.aload_n 0, 1) := by decide +kernel
theorem dX5_takeDigits_55 : decode cX5_takeDigits 55 = .ok (.aload_n 0, 1) := by decide +kernel
theorem dX5_takeDigits_56 : decode cX5_takeDigits 56 = .ok (.getfield 85, 3) := by decide +kernel
theorem dX5_takeDigits_59 : decode cX5_takeDigits 59 = .ok (.bipush 10, 2) := by decide +kernel
theorem dX5_takeDigits_61 : decode cX5_takeDigits 61 = .ok (.imul, 1) := by decide +kernel
theorem dX5_takeDigits_62 : decode cX5_takeDigits 62 = .ok (.aload_n 0, 1) := by decide +kernel
theorem dX5_takeDigits_63 : decode cX5_takeDigits 63 = .ok (.getfield 11, 3) := by decide +kernel
theorem dX5_takeDigits_66 : decode cX5_takeDigits 66 = .ok (.iload_n 1, 1) := by decide +kernel
theorem dX5_takeDigits_67 : decode cX5_takeDigits 67 = .ok (.baload, 1) := by decide +kernel
theorem dX5_takeDigits_68 : decode cX5_takeDigits 68 = .ok (.bipush 48, 2) := by decide +kernel
theorem dX5_takeDigits_70 : decode cX5_takeDigits 70 = .ok (.isub, 1) := by decide +kernel
theorem dX5_takeDigits_71 : decode cX5_takeDigits 71 = .ok (.iadd, 1) := by decide +kernel
theorem dX5_takeDigits_72 : decode cX5_takeDigits 72 = .ok (.putfield 85, 3) := by decide +kernel
theorem dX5_takeDigits_75 : decode cX5_takeDigits 75 = .ok (.aload_n 0, 1) := by decide +kernel
theorem dX5_takeDigits_76 : decode cX5_takeDigits 76 = .ok (.iload_n 1, 1) := by decide +kernel
theorem dX5_takeDigits_77 : decode cX5_takeDigits 77 = .ok (.iconst 1, 1) := by decide +kernel
theorem dX5_takeDigits_78 : decode cX5_takeDigits 78 = .ok (.iadd, 1) := by decide +kernel
theorem dX5_takeDigits_79 : decode cX5_takeDigits 79 = .ok (.putfield 42, 3) := by decide +kernel
theorem dX5_takeDigits_82 : decode cX5_takeDigits 82 = .ok (.iinc 1 1, 3) := by decide +kernel
theorem dX5_takeDigits_85 : decode cX5_takeDigits 85 = .ok (.goto (-75), 3) := by decide +kernel
theorem dX5_takeDigits_88 : decode cX5_takeDigits 88 = .ok (.aload_n 0, 1) := by decide +kernel
theorem dX5_takeDigits_89 : decode cX5_takeDigits 89 = .ok (.aload_n 0, 1) := by decide +kernel
theorem dX5_takeDigits_90 : decode cX5_takeDigits 90 = .ok (.getfield 42, 3) := by decide +kernel
theorem dX5_takeDigits_93 : decode cX5_takeDigits 93 = .ok (.aload_n 0, 1) := by decide +kernel
theorem dX5_takeDigits_94 : decode cX5_takeDigits 94 = .ok (.getfield 36, 3) := by decide +kernel
theorem dX5_takeDigits_97 : decode cX5_takeDigits 97 = .ok (.isub, 1) := by decide +kernel
theorem dX5_takeDigits_98 : decode cX5_takeDigits 98 = .ok (.iconst 3, 1) := by decide +kernel
theorem dX5_takeDigits_99 : decode cX5_takeDigits 99 = .ok (.if_icmp .gt 7, 3) := by decide +kernel
theorem dX5_takeDigits_102 : decode cX5_takeDigits 102 = .ok (.iconst 2, 1) := by decide +kernel
theorem dX5_takeDigits_103 : decode cX5_takeDigits 103 = .ok (.goto 4, 3) := by decide +kernel
theorem dX5_takeDigits_106 : decode cX5_takeDigits 106 = .ok (.iconst 4, 1) := by decide +kernel
theorem dX5_takeDigits_107 : decode cX5_takeDigits 107 = .ok (.putfield 59, 3) := by decide +kernel
theorem dX5_takeDigits_110 : decode cX5_takeDigits 110 = .ok (.return_, 1) := by decide +kernel
theorem dX5_says_0 : decode cX5_says 0 = .ok (.aload_n 0, 1) := by decide +kernel
theorem dX5_says_1 : decode cX5_says 1 = .ok (.getfield 59, 3) := by decide +kernel
theorem dX5_says_4 : decode cX5_says 4 = .ok (.iconst 1, 1) := by decide +kernel
theorem dX5_says_5 : decode cX5_says 5 = .ok (.if_icmp .ne 19, 3) := by decide +kernel
theorem dX5_says_8 : decode cX5_says 8 = .ok (.aload_n 0, 1) := by decide +kernel
theorem dX5_says_9 : decode cX5_says 9 = .ok (.getfield 42, 3) := by decide +kernel
theorem dX5_says_12 : decode cX5_says 12 = .ok (.aload_n 0, 1) := by decide +kernel
theorem dX5_says_13 : decode cX5_says 13 = .ok (.getfield 36, 3) := by decide +kernel
theorem dX5_says_16 : decode cX5_says 16 = .ok (.isub, 1) := by decide +kernel
theorem dX5_says_17 : decode cX5_says 17 = .ok (.aload_n 1, 1) := by decide +kernel
theorem dX5_says_18 : decode cX5_says 18 = .ok (.invokevirtual 88, 3) := by decide +kernel
theorem dX5_says_21 : decode cX5_says 21 = .ok (.if_icmp .eq 5, 3) := by decide +kernel
theorem dX5_says_24 : decode cX5_says 24 = .ok (.iconst 0, 1) := by decide +kernel
theorem dX5_says_25 : decode cX5_says 25 = .ok (.ireturn, 1) := by decide +kernel
theorem dX5_says_26 : decode cX5_says 26 = .ok (.iconst 0, 1) := by decide +kernel
theorem dX5_says_27 : decode cX5_says 27 = .ok (.istore_n 2, 1) := by decide +kernel
theorem dX5_says_28 : decode cX5_says 28 = .ok (.iload_n 2, 1) := by decide +kernel
theorem dX5_says_29 : decode cX5_says 29 = .ok (.aload_n 1, 1) := by decide +kernel
theorem dX5_says_30 : decode cX5_says 30 = .ok (.invokevirtual 88, 3) := by decide +kernel
theorem dX5_says_33 : decode cX5_says 33 = .ok (.if_icmp .ge 43, 3) := by decide +kernel
theorem dX5_says_36 : decode cX5_says 36 = .ok (.aload_n 0, 1) := by decide +kernel
theorem dX5_says_37 : decode cX5_says 37 = .ok (.getfield 36, 3) := by decide +kernel
theorem dX5_says_40 : decode cX5_says 40 = .ok (.iload_n 2, 1) := by decide +kernel
theorem dX5_says_41 : decode cX5_says 41 = .ok (.iadd, 1) := by decide +kernel
theorem dX5_says_42 : decode cX5_says 42 = .ok (.istore_n 3, 1) := by decide +kernel
theorem dX5_says_43 : decode cX5_says 43 = .ok (.iload_n 3, 1) := by decide +kernel
theorem dX5_says_44 : decode cX5_says 44 = .ok (.ifCond .lt 24, 3) := by decide +kernel
theorem dX5_says_47 : decode cX5_says 47 = .ok (.iload_n 3, 1) := by decide +kernel
theorem dX5_says_48 : decode cX5_says 48 = .ok (.sipush 900, 3) := by decide +kernel
theorem dX5_says_51 : decode cX5_says 51 = .ok (.if_icmp .ge 17, 3) := by decide +kernel
theorem dX5_says_54 : decode cX5_says 54 = .ok (.aload_n 0, 1) := by decide +kernel
theorem dX5_says_55 : decode cX5_says 55 = .ok (.getfield 11, 3) := by decide +kernel
theorem dX5_says_58 : decode cX5_says 58 = .ok (.iload_n 3, 1) := by decide +kernel
theorem dX5_says_59 : decode cX5_says 59 = .ok (.baload, 1) := by decide +kernel
theorem dX5_says_60 : decode cX5_says 60 = .ok (.aload_n 1, 1) := by decide +kernel
theorem dX5_says_61 : decode cX5_says 61 = .ok (.iload_n 2, 1) := by decide +kernel
theorem dX5_says_62 : decode cX5_says 62 = .ok (.invokevirtual 94, 3) := by decide +kernel
theorem dX5_says_65 : decode cX5_says 65 = .ok (.if_icmp .eq 5, 3) := by decide +kernel
theorem dX5_says_68 : decode cX5_says 68 = .ok (.iconst 0, 1) := by decide +kernel
theorem dX5_says_69 : decode cX5_says 69 = .ok (.ireturn, 1) := by decide +kernel
theorem dX5_says_70 : decode cX5_says 70 = .ok (.iinc 2 1, 3) := by decide +kernel
theorem dX5_says_73 : decode cX5_says 73 = .ok (.goto (-45), 3) := by decide +kernel
theorem dX5_says_76 : decode cX5_says 76 = .ok (.iconst 1, 1) := by decide +kernel
theorem dX5_says_77 : decode cX5_says 77 = .ok (.ireturn, 1) := by decide +kernel
theorem dX5_passes_0 : decode cX5_passes 0 = .ok (.aload_n 0, 1) := by decide +kernel
theorem dX5_passes_1 : decode cX5_passes 1 = .ok (.aload_n 1, 1) := by decide +kernel
theorem dX5_passes_2 : decode cX5_passes 2 = .ok (.invokevirtual 98, 3) := by decide +kernel
theorem dX5_passes_5 : decode cX5_passes 5 = .ok (.ifCond .ne 9, 3) := by decide +kernel
theorem dX5_passes_8 : decode cX5_passes 8 = .ok (.aload_n 0, 1) := by decide +kernel
theorem dX5_passes_9 : decode cX5_passes 9 = .ok (.iconst 1, 1) := by decide +kernel
theorem dX5_passes_10 : decode cX5_passes 10 = .ok (.invokevirtual 62, 3) := by decide +kernel
theorem dX5_passes_13 : decode cX5_passes 13 = .ok (.ireturn, 1) := by decide +kernel
theorem dX5_passes_14 : decode cX5_passes 14 = .ok (.aload_n 0, 1) := by decide +kernel
theorem dX5_passes_15 : decode cX5_passes 15 = .ok (.invokevirtual 52, 3) := by decide +kernel
theorem dX5_passes_18 : decode cX5_passes 18 = .ok (.iconst 1, 1) := by decide +kernel
theorem dX5_passes_19 : decode cX5_passes 19 = .ok (.ireturn, 1) := by decide +kernel
theorem dX5_isName_0 : decode cX5_isName 0 = .ok (.aload_n 0, 1) := by decide +kernel
theorem dX5_isName_1 : decode cX5_isName 1 = .ok (.ldc 102, 2) := by decide +kernel
theorem dX5_isName_3 : decode cX5_isName 3 = .ok (.invokevirtual 98, 3) := by decide +kernel
theorem dX5_isName_6 : decode cX5_isName 6 = .ok (.ifCond .ne 30, 3) := by decide +kernel
theorem dX5_isName_9 : decode cX5_isName 9 = .ok (.aload_n 0, 1) := by decide +kernel
theorem dX5_isName_10 : decode cX5_isName 10 = .ok (.ldc 104, 2) := by decide +kernel
theorem dX5_isName_12 : decode cX5_isName 12 = .ok (.invokevirtual 98, 3) := by decide +kernel
theorem dX5_isName_15 : decode cX5_isName 15 = .ok (.ifCond .ne 21, 3) := by decide +kernel
theorem dX5_isName_18 : decode cX5_isName 18 = .ok (.aload_n 0, 1) := by decide +kernel
theorem dX5_isName_19 : decode cX5_isName 19 = .ok (.ldc 106, 2) := by decide +kernel
theorem dX5_isName_21 : decode cX5_isName 21 = .ok (.invokevirtual 98, 3) := by decide +kernel
theorem dX5_isName_24 : decode cX5_isName 24 = .ok (.ifCond .ne 12, 3) := by decide +kernel
theorem dX5_isName_27 : decode cX5_isName 27 = .ok (.aload_n 0, 1) := by decide +kernel
theorem dX5_isName_28 : decode cX5_isName 28 = .ok (.ldc 108, 2) := by decide +kernel
theorem dX5_isName_30 : decode cX5_isName 30 = .ok (.invokevirtual 98, 3) := by decide +kernel
theorem dX5_isName_33 : decode cX5_isName 33 = .ok (.ifCond .eq 7, 3) := by decide +kernel
theorem dX5_isName_36 : decode cX5_isName 36 = .ok (.iconst 1, 1) := by decide +kernel
theorem dX5_isName_37 : decode cX5_isName 37 = .ok (.goto 4, 3) := by decide +kernel
theorem dX5_isName_40 : decode cX5_isName 40 = .ok (.iconst 0, 1) := by decide +kernel
theorem dX5_isName_41 : decode cX5_isName 41 = .ok (.istore_n 1, 1) := by decide +kernel
theorem dX5_isName_42 : decode cX5_isName 42 = .ok (.aload_n 0, 1) := by decide +kernel
theorem dX5_isName_43 : decode cX5_isName 43 = .ok (.ldc 110, 2) := by decide +kernel
theorem dX5_isName_45 : decode cX5_isName 45 = .ok (.invokevirtual 98, 3) := by decide +kernel
theorem dX5_isName_48 : decode cX5_isName 48 = .ok (.ifCond .ne 30, 3) := by decide +kernel
theorem dX5_isName_51 : decode cX5_isName 51 = .ok (.aload_n 0, 1) := by decide +kernel
theorem dX5_isName_52 : decode cX5_isName 52 = .ok (.ldc 112, 2) := by decide +kernel
theorem dX5_isName_54 : decode cX5_isName 54 = .ok (.invokevirtual 98, 3) := by decide +kernel
theorem dX5_isName_57 : decode cX5_isName 57 = .ok (.ifCond .ne 21, 3) := by decide +kernel
theorem dX5_isName_60 : decode cX5_isName 60 = .ok (.aload_n 0, 1) := by decide +kernel
theorem dX5_isName_61 : decode cX5_isName 61 = .ok (.ldc 114, 2) := by decide +kernel
theorem dX5_isName_63 : decode cX5_isName 63 = .ok (.invokevirtual 98, 3) := by decide +kernel
theorem dX5_isName_66 : decode cX5_isName 66 = .ok (.ifCond .ne 12, 3) := by decide +kernel
theorem dX5_isName_69 : decode cX5_isName 69 = .ok (.aload_n 0, 1) := by decide +kernel
theorem dX5_isName_70 : decode cX5_isName 70 = .ok (.ldc 115, 2) := by decide +kernel
theorem dX5_isName_72 : decode cX5_isName 72 = .ok (.invokevirtual 98, 3) := by decide +kernel
theorem dX5_isName_75 : decode cX5_isName 75 = .ok (.ifCond .eq 7, 3) := by decide +kernel
theorem dX5_isName_78 : decode cX5_isName 78 = .ok (.iconst 1, 1) := by decide +kernel
theorem dX5_isName_79 : decode cX5_isName 79 = .ok (.goto 4, 3) := by decide +kernel
theorem dX5_isName_82 : decode cX5_isName 82 = .ok (.iconst 0, 1) := by decide +kernel
theorem dX5_isName_83 : decode cX5_isName 83 = .ok (.istore_n 2, 1) := by decide +kernel
theorem dX5_isName_84 : decode cX5_isName 84 = .ok (.aload_n 0, 1) := by decide +kernel
theorem dX5_isName_85 : decode cX5_isName 85 = .ok (.getfield 59, 3) := by decide +kernel
theorem dX5_isName_88 : decode cX5_isName 88 = .ok (.iconst 1, 1) := by decide +kernel
theorem dX5_isName_89 : decode cX5_isName 89 = .ok (.if_icmp .ne 15, 3) := by decide +kernel
theorem dX5_isName_92 : decode cX5_isName 92 = .ok (.iload_n 1, 1) := by decide +kernel
theorem dX5_isName_93 : decode cX5_isName 93 = .ok (.ifCond .ne 11, 3) := by decide +kernel
theorem dX5_isName_96 : decode cX5_isName 96 = .ok (.iload_n 2, 1) := by decide +kernel
theorem dX5_isName_97 : decode cX5_isName 97 = .ok (.ifCond .ne 7, 3) := by decide +kernel
theorem dX5_isName_100 : decode cX5_isName 100 = .ok (.iconst 1, 1) := by decide +kernel
theorem dX5_isName_101 : decode cX5_isName 101 = .ok (.goto 4, 3) := by decide +kernel
theorem dX5_isName_104 : decode cX5_isName 104 = .ok (.iconst 0, 1) := by decide +kernel
theorem dX5_isName_105 : decode cX5_isName 105 = .ok (.ireturn, 1) := by decide +kernel
theorem dX5_placeOfName_0 : decode cX5_placeOfName 0 = .ok (.iconst 0, 1) := by decide +kernel
theorem dX5_placeOfName_1 : decode cX5_placeOfName 1 = .ok (.istore 4, 2) := by decide +kernel
theorem dX5_placeOfName_3 : decode cX5_placeOfName 3 = .ok (.iload 4, 2) := by decide +kernel
theorem dX5_placeOfName_5 : decode cX5_placeOfName 5 = .ok (.iload_n 3, 1) := by decide +kernel
theorem dX5_placeOfName_6 : decode cX5_placeOfName 6 = .ok (.if_icmp .ge 28, 3) := by decide +kernel
theorem dX5_placeOfName_9 : decode cX5_placeOfName 9 = .ok (.iload 4, 2) := by decide +kernel
theorem dX5_placeOfName_11 : decode cX5_placeOfName 11 = .ok (.aload_n 2, 1) := by decide +kernel
theorem dX5_placeOfName_12 : decode cX5_placeOfName 12 = .ok (.arraylength, 1) := by decide +kernel
theorem dX5_placeOfName_13 : decode cX5_placeOfName 13 = .ok (.if_icmp .ge 21, 3) := by decide +kernel
theorem dX5_placeOfName_16 : decode cX5_placeOfName 16 = .ok (.aload_n 2, 1) := by decide +kernel
theorem dX5_placeOfName_17 : decode cX5_placeOfName 17 = .ok (.iload 4, 2) := by decide +kernel
theorem dX5_placeOfName_19 : decode cX5_placeOfName 19 = .ok (.laload, 1) := by decide +kernel
theorem dX5_placeOfName_20 : decode cX5_placeOfName 20 = .ok (.lload_n 0, 1) := by decide +kernel
theorem dX5_placeOfName_21 : decode cX5_placeOfName 21 = .ok (.lcmp, 1) := by decide +kernel
theorem dX5_placeOfName_22 : decode cX5_placeOfName 22 = .ok (.ifCond .ne 6, 3) := by decide +kernel
theorem dX5_placeOfName_25 : decode cX5_placeOfName 25 = .ok (.iload 4, 2) := by decide +kernel
theorem dX5_placeOfName_27 : decode cX5_placeOfName 27 = .ok (.ireturn, 1) := by decide +kernel
theorem dX5_placeOfName_28 : decode cX5_placeOfName 28 = .ok (.iinc 4 1, 3) := by decide +kernel
theorem dX5_placeOfName_31 : decode cX5_placeOfName 31 = .ok (.goto (-28), 3) := by decide +kernel
theorem dX5_placeOfName_34 : decode cX5_placeOfName 34 = .ok (.iconst (-1), 1) := by decide +kernel
theorem dX5_placeOfName_35 : decode cX5_placeOfName 35 = .ok (.ireturn, 1) := by decide +kernel
theorem dX5_takeNewName_0 : decode cX5_takeNewName 0 = .ok (.aload_n 0, 1) := by decide +kernel
theorem dX5_takeNewName_1 : decode cX5_takeNewName 1 = .ok (.invokevirtual 117, 3) := by decide +kernel
theorem dX5_takeNewName_4 : decode cX5_takeNewName 4 = .ok (.ifCond .ne 13, 3) := by decide +kernel
theorem dX5_takeNewName_7 : decode cX5_takeNewName 7 = .ok (.aload_n 0, 1) := by decide +kernel
theorem dX5_takeNewName_8 : decode cX5_takeNewName 8 = .ok (.iconst 1, 1) := by decide +kernel
theorem dX5_takeNewName_9 : decode cX5_takeNewName 9 = .ok (.invokevirtual 62, 3) := by decide +kernel
theorem dX5_takeNewName_12 : decode cX5_takeNewName 12 = .ok (.pop, 1) := by decide +kernel
theorem dX5_takeNewName_13 : decode cX5_takeNewName 13 = .ok (.ldc2_w 120, 3) := by decide +kernel
theorem dX5_takeNewName_16 : decode cX5_takeNewName 16 = .ok (.lreturn, 1) := by decide +kernel
theorem dX5_takeNewName_17 : decode cX5_takeNewName 17 = .ok (.aload_n 0, 1) := by decide +kernel
theorem dX5_takeNewName_18 : decode cX5_takeNewName 18 = .ok (.getfield 79, 3) := by decide +kernel
theorem dX5_takeNewName_21 : decode cX5_takeNewName 21 = .ok (.aload_n 0, 1) := by decide +kernel
theorem dX5_takeNewName_22 : decode cX5_takeNewName 22 = .ok (.getfield 22, 3) := by decide +kernel
theorem dX5_takeNewName_25 : decode cX5_takeNewName 25 = .ok (.aload_n 0, 1) := by decide +kernel
theorem dX5_takeNewName_26 : decode cX5_takeNewName 26 = .ok (.getfield 18, 3) := by decide +kernel
theorem dX5_takeNewName_29 : decode cX5_takeNewName 29 = .ok (.getfield 122, 3) := by decide +kernel
theorem dX5_takeNewName_32 : decode cX5_takeNewName 32 = .ok (.invokestatic 125, 3) := by decide +kernel
theorem dX5_takeNewName_35 : decode cX5_takeNewName 35 = .ok (.ifCond .lt 7, 3) := by decide +kernel
theorem dX5_takeNewName_38 : decode cX5_takeNewName 38 = .ok (.iconst 1, 1) := by decide +kernel
theorem dX5_takeNewName_39 : decode cX5_takeNewName 39 = .ok (.goto 4, 3) := by decide +kernel
theorem dX5_takeNewName_42 : decode cX5_takeNewName 42 = .ok (.iconst 0, 1) := by decide +kernel
theorem dX5_takeNewName_43 : decode cX5_takeNewName 43 = .ok (.istore_n 1, 1) := by decide +kernel
theorem dX5_takeNewName_44 : decode cX5_takeNewName 44 = .ok (.iload_n 1, 1) := by decide +kernel
theorem dX5_takeNewName_45 : decode cX5_takeNewName 45 = .ok (.ifCond .ne 24, 3) := by decide +kernel
theorem dX5_takeNewName_48 : decode cX5_takeNewName 48 = .ok (.aload_n 0, 1) := by decide +kernel
theorem dX5_takeNewName_49 : decode cX5_takeNewName 49 = .ok (.getfield 79, 3) := by decide +kernel
theorem dX5_takeNewName_52 : decode cX5_takeNewName 52 = .ok (.aload_n 0, 1) := by decide +kernel
theorem dX5_takeNewName_53 : decode cX5_takeNewName 53 = .ok (.getfield 26, 3) := by decide +kernel
theorem dX5_takeNewName_56 : decode cX5_takeNewName 56 = .ok (.aload_n 0, 1) := by decide +kernel
theorem dX5_takeNewName_57 : decode cX5_takeNewName 57 = .ok (.getfield 18, 3) := by decide +kernel
theorem dX5_takeNewName_60 : decode cX5_takeNewName 60 = .ok (.getfield 129, 3) := by decide +kernel
theorem dX5_takeNewName_63 : decode cX5_takeNewName 63 = .ok (.invokestatic 125, 3) := by decide +kernel
theorem dX5_takeNewName_66 : decode cX5_takeNewName 66 = .ok (.ifCond .lt 13, 3) := by decide +kernel
theorem dX5_takeNewName_69 : decode cX5_takeNewName 69 = .ok (.aload_n 0, 1) := by decide +kernel
theorem dX5_takeNewName_70 : decode cX5_takeNewName 70 = .ok (.iconst 3, 1) := by decide +kernel
theorem dX5_takeNewName_71 : decode cX5_takeNewName 71 = .ok (.invokevirtual 62, 3) := by decide +kernel
theorem dX5_takeNewName_74 : decode cX5_takeNewName 74 = .ok (.pop, 1) := by decide +kernel
theorem dX5_takeNewName_75 : decode cX5_takeNewName 75 = .ok (.ldc2_w 120, 3) := by decide +kernel
theorem dX5_takeNewName_78 : decode cX5_takeNewName 78 = .ok (.lreturn, 1) := by decide +kernel
theorem dX5_takeNewName_79 : decode cX5_takeNewName 79 = .ok (.aload_n 0, 1) := by decide +kernel
theorem dX5_takeNewName_80 : decode cX5_takeNewName 80 = .ok (.getfield 79, 3) := by decide +kernel
theorem dX5_takeNewName_83 : decode cX5_takeNewName 83 = .ok (.lstore_n 2, 1) := by decide +kernel
theorem dX5_takeNewName_84 : decode cX5_takeNewName 84 = .ok (.aload_n 0, 1) := by decide +kernel
theorem dX5_takeNewName_85 : decode cX5_takeNewName 85 = .ok (.invokevirtual 52, 3) := by decide +kernel
theorem dX5_takeNewName_88 : decode cX5_takeNewName 88 = .ok (.lload_n 2, 1) := by decide +kernel
theorem dX5_takeNewName_89 : decode cX5_takeNewName 89 = .ok (.lreturn, 1) := by decide +kernel
theorem dX5_takeToldName_0 : decode cX5_takeToldName 0 = .ok (.aload_n 0, 1) := by decide +kernel
theorem dX5_takeToldName_1 : decode cX5_takeToldName 1 = .ok (.invokevirtual 117, 3) := by decide +kernel
theorem dX5_takeToldName_4 : decode cX5_takeToldName 4 = .ok (.ifCond .ne 11, 3) := by decide +kernel
theorem dX5_takeToldName_7 : decode cX5_takeToldName 7 = .ok (.aload_n 0, 1) := by decide +kernel
theorem dX5_takeToldName_8 : decode cX5_takeToldName 8 = .ok (.iconst 1, 1) := by decide +kernel
theorem dX5_takeToldName_9 : decode cX5_takeToldName 9 = .ok (.invokevirtual 62, 3) := by decide +kernel
theorem dX5_takeToldName_12 : decode cX5_takeToldName 12 = .ok (.pop, 1) := by decide +kernel
theorem dX5_takeToldName_13 : decode cX5_takeToldName 13 = .ok (.iconst (-1), 1) := by decide +kernel
theorem dX5_takeToldName_14 : decode cX5_takeToldName 14 = .ok (.ireturn, 1) := by decide +kernel
theorem dX5_takeToldName_15 : decode cX5_takeToldName 15 = .ok (.aload_n 0, 1) := by decide +kernel
theorem dX5_takeToldName_16 : decode cX5_takeToldName 16 = .ok (.getfield 79, 3) := by decide +kernel
theorem dX5_takeToldName_19 : decode cX5_takeToldName 19 = .ok (.aload_n 1, 1) := by decide +kernel
theorem dX5_takeToldName_20 : decode cX5_takeToldName 20 = .ok (.iload_n 2, 1) := by decide +kernel
theorem dX5_takeToldName_21 : decode cX5_takeToldName 21 = .ok (.invokestatic 125, 3) := by decide +kernel
theorem dX5_takeToldName_24 : decode cX5_takeToldName 24 = .ok (.istore_n 3, 1) := by decide +kernel
theorem dX5_takeToldName_25 : decode cX5_takeToldName 25 = .ok (.iload_n 3, 1) := by decide +kernel
theorem dX5_takeToldName_26 : decode cX5_takeToldName 26 = .ok (.ifCond .ge 11, 3) := by decide +kernel
theorem dX5_takeToldName_29 : decode cX5_takeToldName 29 = .ok (.aload_n 0, 1) := by decide +kernel
theorem dX5_takeToldName_30 : decode cX5_takeToldName 30 = .ok (.iconst 2, 1) := by decide +kernel
theorem dX5_takeToldName_31 : decode cX5_takeToldName 31 = .ok (.invokevirtual 62, 3) := by decide +kernel
theorem dX5_takeToldName_34 : decode cX5_takeToldName 34 = .ok (.pop, 1) := by decide +kernel
theorem dX5_takeToldName_35 : decode cX5_takeToldName 35 = .ok (.iconst (-1), 1) := by decide +kernel
theorem dX5_takeToldName_36 : decode cX5_takeToldName 36 = .ok (.ireturn, 1) := by decide +kernel
theorem dX5_takeToldName_37 : decode cX5_takeToldName 37 = .ok (.aload_n 0, 1) := by decide +kernel
theorem dX5_takeToldName_38 : decode cX5_takeToldName 38 = .ok (.invokevirtual 52, 3) := by decide +kernel
theorem dX5_takeToldName_41 : decode cX5_takeToldName 41 = .ok (.iload_n 3, 1) := by decide +kernel
theorem dX5_takeToldName_42 : decode cX5_takeToldName 42 = .ok (.ireturn, 1) := by decide +kernel
theorem dX5_isWhole_0 : decode cX5_isWhole 0 = .ok (.aload_n 0, 1) := by decide +kernel
theorem dX5_isWhole_1 : decode cX5_isWhole 1 = .ok (.getfield 59, 3) := by decide +kernel
theorem dX5_isWhole_4 : decode cX5_isWhole 4 = .ok (.iconst 2, 1) := by decide +kernel
theorem dX5_isWhole_5 : decode cX5_isWhole 5 = .ok (.if_icmp .eq 9, 3) := by decide +kernel
theorem dX5_isWhole_8 : decode cX5_isWhole 8 = .ok (.aload_n 0, 1) := by decide +kernel
theorem dX5_isWhole_9 : decode cX5_isWhole 9 = .ok (.iconst 1, 1) := by decide +kernel
theorem dX5_isWhole_10 : decode cX5_isWhole 10 = .ok (.invokevirtual 62, 3) := by decide +kernel
theorem dX5_isWhole_13 : decode cX5_isWhole 13 = .ok (.ireturn, 1) := by decide +kernel
theorem dX5_isWhole_14 : decode cX5_isWhole 14 = .ok (.aload_n 0, 1) := by decide +kernel
theorem dX5_isWhole_15 : decode cX5_isWhole 15 = .ok (.getfield 85, 3) := by decide +kernel
theorem dX5_isWhole_18 : decode cX5_isWhole 18 = .ok (.iload_n 1, 1) := by decide +kernel
theorem dX5_isWhole_19 : decode cX5_isWhole 19 = .ok (.if_icmp .lt 11, 3) := by decide +kernel
theorem dX5_isWhole_22 : decode cX5_isWhole 22 = .ok (.aload_n 0, 1) := by decide +kernel
theorem dX5_isWhole_23 : decode cX5_isWhole 23 = .ok (.getfield 85, 3) := by decide +kernel
theorem dX5_isWhole_26 : decode cX5_isWhole 26 = .ok (.iload_n 2, 1) := by decide +kernel
theorem dX5_isWhole_27 : decode cX5_isWhole 27 = .ok (.if_icmp .le 11, 3) := by decide +kernel
theorem dX5_isWhole_30 : decode cX5_isWhole 30 = .ok (.aload_n 0, 1) := by decide +kernel
theorem dX5_isWhole_31 : decode cX5_isWhole 31 = .ok (.iconst 4, 1) := by decide +kernel
theorem dX5_isWhole_32 : decode cX5_isWhole 32 = .ok (.invokevirtual 62, 3) := by decide +kernel
theorem dX5_isWhole_35 : decode cX5_isWhole 35 = .ok (.ifCond .eq 7, 3) := by decide +kernel
theorem dX5_isWhole_38 : decode cX5_isWhole 38 = .ok (.iconst 1, 1) := by decide +kernel
theorem dX5_isWhole_39 : decode cX5_isWhole 39 = .ok (.goto 4, 3) := by decide +kernel
theorem dX5_isWhole_42 : decode cX5_isWhole 42 = .ok (.iconst 0, 1) := by decide +kernel
theorem dX5_isWhole_43 : decode cX5_isWhole 43 = .ok (.ireturn, 1) := by decide +kernel
theorem dX5_takeWhole_0 : decode cX5_takeWhole 0 = .ok (.aload_n 0, 1) := by decide +kernel
theorem dX5_takeWhole_1 : decode cX5_takeWhole 1 = .ok (.iload_n 1, 1) := by decide +kernel
theorem dX5_takeWhole_2 : decode cX5_takeWhole 2 = .ok (.iload_n 2, 1) := by decide +kernel
theorem dX5_takeWhole_3 : decode cX5_takeWhole 3 = .ok (.invokevirtual 132, 3) := by decide +kernel
theorem dX5_takeWhole_6 : decode cX5_takeWhole 6 = .ok (.ifCond .ne 5, 3) := by decide +kernel
theorem dX5_takeWhole_9 : decode cX5_takeWhole 9 = .ok (.iconst (-1), 1) := by decide +kernel
theorem dX5_takeWhole_10 : decode cX5_takeWhole 10 = .ok (.ireturn, 1) := by decide +kernel
theorem dX5_takeWhole_11 : decode cX5_takeWhole 11 = .ok (.aload_n 0, 1) := by decide +kernel
theorem dX5_takeWhole_12 : decode cX5_takeWhole 12 = .ok (.getfield 85, 3) := by decide +kernel
theorem dX5_takeWhole_15 : decode cX5_takeWhole 15 = .ok (.istore_n 3, 1) := by decide +kernel
theorem dX5_takeWhole_16 : decode cX5_takeWhole 16 = .ok (.aload_n 0, 1) := by decide +kernel
theorem dX5_takeWhole_17 : decode cX5_takeWhole 17 = .ok (.invokevirtual 52, 3) := by decide +kernel
theorem dX5_takeWhole_20 : decode cX5_takeWhole 20 = .ok (.iload_n 3, 1) := by decide +kernel
theorem dX5_takeWhole_21 : decode cX5_takeWhole 21 = .ok (.ireturn, 1) := by decide +kernel
theorem dX5_takeChoice_0 : decode cX5_takeChoice 0 = .ok (.iload_n 1, 1) := by decide +kernel
theorem dX5_takeChoice_1 : decode cX5_takeChoice 1 = .ok (.ifCond .ge 11, 3) := by decide +kernel
theorem dX5_takeChoice_4 : decode cX5_takeChoice 4 = .ok (.aload_n 0, 1) := by decide +kernel
theorem dX5_takeChoice_5 : decode cX5_takeChoice 5 = .ok (.iconst 1, 1) := by decide +kernel
theorem dX5_takeChoice_6 : decode cX5_takeChoice 6 = .ok (.invokevirtual 62, 3) := by decide +kernel
theorem dX5_takeChoice_9 : decode cX5_takeChoice 9 = .ok (.pop, 1) := by decide +kernel
theorem dX5_takeChoice_10 : decode cX5_takeChoice 10 = .ok (.iconst (-1), 1) := by decide +kernel
theorem dX5_takeChoice_11 : decode cX5_takeChoice 11 = .ok (.ireturn, 1) := by decide +kernel
theorem dX5_takeChoice_12 : decode cX5_takeChoice 12 = .ok (.aload_n 0, 1) := by decide +kernel
theorem dX5_takeChoice_13 : decode cX5_takeChoice 13 = .ok (.invokevirtual 52, 3) := by decide +kernel
theorem dX5_takeChoice_16 : decode cX5_takeChoice 16 = .ok (.iload_n 1, 1) := by decide +kernel
theorem dX5_takeChoice_17 : decode cX5_takeChoice 17 = .ok (.ireturn, 1) := by decide +kernel
theorem dX5_sortSaid_0 : decode cX5_sortSaid 0 = .ok (.aload_n 0, 1) := by decide +kernel
theorem dX5_sortSaid_1 : decode cX5_sortSaid 1 = .ok (.ldc 136, 2) := by decide +kernel
theorem dX5_sortSaid_3 : decode cX5_sortSaid 3 = .ok (.invokevirtual 98, 3) := by decide +kernel
theorem dX5_sortSaid_6 : decode cX5_sortSaid 6 = .ok (.ifCond .eq 5, 3) := by decide +kernel
theorem dX5_sortSaid_9 : decode cX5_sortSaid 9 = .ok (.iconst 0, 1) := by decide +kernel
theorem dX5_sortSaid_10 : decode cX5_sortSaid 10 = .ok (.ireturn, 1) := by decide +kernel
theorem dX5_sortSaid_11 : decode cX5_sortSaid 11 = .ok (.aload_n 0, 1) := by decide +kernel
theorem dX5_sortSaid_12 : decode cX5_sortSaid 12 = .ok (.ldc 138, 2) := by decide +kernel
theorem dX5_sortSaid_14 : decode cX5_sortSaid 14 = .ok (.invokevirtual 98, 3) := by decide +kernel
theorem dX5_sortSaid_17 : decode cX5_sortSaid 17 = .ok (.ifCond .eq 5, 3) := by decide +kernel
theorem dX5_sortSaid_20 : decode cX5_sortSaid 20 = .ok (.iconst 1, 1) := by decide +kernel
theorem dX5_sortSaid_21 : decode cX5_sortSaid 21 = .ok (.ireturn, 1) := by decide +kernel
theorem dX5_sortSaid_22 : decode cX5_sortSaid 22 = .ok (.aload_n 0, 1) := by decide +kernel
theorem dX5_sortSaid_23 : decode cX5_sortSaid 23 = .ok (.ldc 140, 2) := by decide +kernel
theorem dX5_sortSaid_25 : decode cX5_sortSaid 25 = .ok (.invokevirtual 98, 3) := by decide +kernel
theorem dX5_sortSaid_28 : decode cX5_sortSaid 28 = .ok (.ifCond .eq 7, 3) := by decide +kernel
theorem dX5_sortSaid_31 : decode cX5_sortSaid 31 = .ok (.iconst 2, 1) := by decide +kernel
theorem dX5_sortSaid_32 : decode cX5_sortSaid 32 = .ok (.goto 4, 3) := by decide +kernel
theorem dX5_sortSaid_35 : decode cX5_sortSaid 35 = .ok (.iconst (-1), 1) := by decide +kernel
theorem dX5_sortSaid_36 : decode cX5_sortSaid 36 = .ok (.ireturn, 1) := by decide +kernel
theorem dX5_kindSaid_0 : decode cX5_kindSaid 0 = .ok (.aload_n 0, 1) := by decide +kernel
theorem dX5_kindSaid_1 : decode cX5_kindSaid 1 = .ok (.ldc 136, 2) := by decide +kernel
theorem dX5_kindSaid_3 : decode cX5_kindSaid 3 = .ok (.invokevirtual 98, 3) := by decide +kernel
theorem dX5_kindSaid_6 : decode cX5_kindSaid 6 = .ok (.ifCond .eq 5, 3) := by decide +kernel
theorem dX5_kindSaid_9 : decode cX5_kindSaid 9 = .ok (.iconst 0, 1) := by decide +kernel
theorem dX5_kindSaid_10 : decode cX5_kindSaid 10 = .ok (.ireturn, 1) := by decide +kernel
theorem dX5_kindSaid_11 : decode cX5_kindSaid 11 = .ok (.aload_n 0, 1) := by decide +kernel
