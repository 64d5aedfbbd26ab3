theorem dX0_init_0 : decode cX0_init 0 = .ok (.aload_n 0, 1) := by decide +kernel
theorem dX0_init_1 : decode cX0_init 1 = .ok (.invokespecial 3, 3) := by decide +kernel
theorem dX0_init_4 : decode cX0_init 4 = .ok (.aload_n 0, 1) := by decide +kernel
theorem dX0_init_5 : decode cX0_init 5 = .ok (.sipush 572, 3) := by decide +kernel
theorem dX0_init_8 : decode cX0_init 8 = .ok (.newarray .int, 2) := by decide +kernel
theorem dX0_init_10 : decode cX0_init 10 = .ok (.putfield 9, 3) := by decide +kernel
theorem dX0_init_13 : decode cX0_init 13 = .ok (.aload_n 0, 1) := by decide +kernel
theorem dX0_init_14 : decode cX0_init 14 = .ok (.bipush 12, 2) := by decide +kernel
theorem dX0_init_16 : decode cX0_init 16 = .ok (.newarray .int, 2) := by decide +kernel
theorem dX0_init_18 : decode cX0_init 18 = .ok (.putfield 15, 3) := by decide +kernel
theorem dX0_init_21 : decode cX0_init 21 = .ok (.return_, 1) := by decide +kernel
set_option maxRecDepth 20000 in
theorem ggX0_learn_X4_allowsRule : GoodIn wsX0_learn wsX4_allowsRule := goodIn_r _ [7, 8, 9, 10, 11, 24, 25, 26, 27, 28, 29, 30, 31, 32, 33, 34, 35, 36, 37, 38, 39, 40, 41, 42, 43] (by decide +kernel) (by decide +kernel)
set_option maxRecDepth 20000 in
theorem gX0_learn_X4_allowsRule : GoodIn wsX0_learn (wsV RX0 26 RX4 yX4_allowsRule wsX4_allowsRule) := goodIn_app (goodIn_of _ (by decide +kernel)) ggX0_learn_X4_allowsRule
set_option maxRecDepth 20000 in
theorem ggX0_learn_X0_add : GoodIn wsX0_learn wsX0_add := goodIn_r _ [16, 1, 17, 18, 19, 20, 21, 22, 23] (by decide +kernel) (by decide +kernel)
set_option maxRecDepth 20000 in
theorem gX0_learn_X0_add : GoodIn wsX0_learn (wsV RX0 32 RX0 yX0_add wsX0_add) := goodIn_app (goodIn_of _ (by decide +kernel)) ggX0_learn_X0_add
theorem dX0_learn_0 : decode cX0_learn 0 = .ok (.aload_n 0, 1) := by decide +kernel
theorem dX0_learn_1 : decode cX0_learn 1 = .ok (.iconst 0, 1) := by decide +kernel
theorem dX0_learn_2 : decode cX0_learn 2 = .ok (.putfield 18, 3) := by decide +kernel
theorem dX0_learn_5 : decode cX0_learn 5 = .ok (.aload_n 0, 1) := by decide +kernel
theorem dX0_learn_6 : decode cX0_learn 6 = .ok (.iconst 0, 1) := by decide +kernel
theorem dX0_learn_7 : decode cX0_learn 7 = .ok (.putfield 22, 3) := by decide +kernel
theorem dX0_learn_10 : decode cX0_learn 10 = .ok (.iconst 2, 1) := by decide +kernel
theorem dX0_learn_11 : decode cX0_learn 11 = .ok (.istore_n 2, 1) := by decide +kernel
theorem dX0_learn_12 : decode cX0_learn 12 = .ok (.iload_n 2, 1) := by decide +kernel
theorem dX0_learn_13 : decode cX0_learn 13 = .ok (.bipush 12, 2) := by decide +kernel
theorem dX0_learn_15 : decode cX0_learn 15 = .ok (.if_icmp .gt 65, 3) := by decide +kernel
theorem dX0_learn_18 : decode cX0_learn 18 = .ok (.iconst 1, 1) := by decide +kernel
theorem dX0_learn_19 : decode cX0_learn 19 = .ok (.istore_n 3, 1) := by decide +kernel
theorem dX0_learn_20 : decode cX0_learn 20 = .ok (.iload_n 3, 1) := by decide +kernel
theorem dX0_learn_21 : decode cX0_learn 21 = .ok (.iload_n 2, 1) := by decide +kernel
theorem dX0_learn_22 : decode cX0_learn 22 = .ok (.if_icmp .ge 52, 3) := by decide +kernel
theorem dX0_learn_25 : decode cX0_learn 25 = .ok (.iconst 0, 1) := by decide +kernel
theorem dX0_learn_26 : decode cX0_learn 26 = .ok (.istore 4, 2) := by decide +kernel
theorem dX0_learn_28 : decode cX0_learn 28 = .ok (.iload 4, 2) := by decide +kernel
theorem dX0_learn_30 : decode cX0_learn 30 = .ok (.iload_n 2, 1) := by decide +kernel
theorem dX0_learn_31 : decode cX0_learn 31 = .ok (.if_icmp .ge 37, 3) := by decide +kernel
theorem dX0_learn_34 : decode cX0_learn 34 = .ok (.aload_n 1, 1) := by decide +kernel
theorem dX0_learn_35 : decode cX0_learn 35 = .ok (.iload_n 2, 1) := by decide +kernel
theorem dX0_learn_36 : decode cX0_learn 36 = .ok (.iload_n 3, 1) := by decide +kernel
theorem dX0_learn_37 : decode cX0_learn 37 = .ok (.iload 4, 2) := by decide +kernel
theorem dX0_learn_39 : decode cX0_learn 39 = .ok (.invokevirtual 26, 3) := by decide +kernel
theorem dX0_learn_42 : decode cX0_learn 42 = .ok (.ifCond .eq 20, 3) := by decide +kernel
theorem dX0_learn_45 : decode cX0_learn 45 = .ok (.aload_n 0, 1) := by decide +kernel
theorem dX0_learn_46 : decode cX0_learn 46 = .ok (.sipush 10000, 3) := by decide +kernel
theorem dX0_learn_49 : decode cX0_learn 49 = .ok (.iload_n 2, 1) := by decide +kernel
theorem dX0_learn_50 : decode cX0_learn 50 = .ok (.imul, 1) := by decide +kernel
theorem dX0_learn_51 : decode cX0_learn 51 = .ok (.bipush 100, 2) := by decide +kernel
theorem dX0_learn_53 : decode cX0_learn 53 = .ok (.iload_n 3, 1) := by decide +kernel
theorem dX0_learn_54 : decode cX0_learn 54 = .ok (.imul, 1) := by decide +kernel
theorem dX0_learn_55 : decode cX0_learn 55 = .ok (.iadd, 1) := by decide +kernel
theorem dX0_learn_56 : decode cX0_learn 56 = .ok (.iload 4, 2) := by decide +kernel
theorem dX0_learn_58 : decode cX0_learn 58 = .ok (.iadd, 1) := by decide +kernel
theorem dX0_learn_59 : decode cX0_learn 59 = .ok (.invokevirtual 32, 3) := by decide +kernel
theorem dX0_learn_62 : decode cX0_learn 62 = .ok (.iinc 4 1, 3) := by decide +kernel
theorem dX0_learn_65 : decode cX0_learn 65 = .ok (.goto (-37), 3) := by decide +kernel
theorem dX0_learn_68 : decode cX0_learn 68 = .ok (.iinc 3 1, 3) := by decide +kernel
theorem dX0_learn_71 : decode cX0_learn 71 = .ok (.goto (-51), 3) := by decide +kernel
theorem dX0_learn_74 : decode cX0_learn 74 = .ok (.iinc 2 1, 3) := by decide +kernel
theorem dX0_learn_77 : decode cX0_learn 77 = .ok (.goto (-65), 3) := by decide +kernel
theorem dX0_learn_80 : decode cX0_learn 80 = .ok (.return_, 1) := by decide +kernel
theorem dX0_add_0 : decode cX0_add 0 = .ok (.aload_n 0, 1) := by decide +kernel
theorem dX0_add_1 : decode cX0_add 1 = .ok (.getfield 18, 3) := by decide +kernel
theorem dX0_add_4 : decode cX0_add 4 = .ok (.ifCond .lt 33, 3) := by decide +kernel
theorem dX0_add_7 : decode cX0_add 7 = .ok (.aload_n 0, 1) := by decide +kernel
theorem dX0_add_8 : decode cX0_add 8 = .ok (.getfield 18, 3) := by decide +kernel
theorem dX0_add_11 : decode cX0_add 11 = .ok (.sipush 572, 3) := by decide +kernel
theorem dX0_add_14 : decode cX0_add 14 = .ok (.if_icmp .ge 23, 3) := by decide +kernel
theorem dX0_add_17 : decode cX0_add 17 = .ok (.aload_n 0, 1) := by decide +kernel
theorem dX0_add_18 : decode cX0_add 18 = .ok (.getfield 9, 3) := by decide +kernel
theorem dX0_add_21 : decode cX0_add 21 = .ok (.aload_n 0, 1) := by decide +kernel
theorem dX0_add_22 : decode cX0_add 22 = .ok (.getfield 18, 3) := by decide +kernel
theorem dX0_add_25 : decode cX0_add 25 = .ok (.iload_n 1, 1) := by decide +kernel
theorem dX0_add_26 : decode cX0_add 26 = .ok (.iastore, 1) := by decide +kernel
theorem dX0_add_27 : decode cX0_add 27 = .ok (.aload_n 0, 1) := by decide +kernel
theorem dX0_add_28 : decode cX0_add 28 = .ok (.dup, 1) := by decide +kernel
theorem dX0_add_29 : decode cX0_add 29 = .ok (.getfield 18, 3) := by decide +kernel
theorem dX0_add_32 : decode cX0_add 32 = .ok (.iconst 1, 1) := by decide +kernel
theorem dX0_add_33 : decode cX0_add 33 = .ok (.iadd, 1) := by decide +kernel
theorem dX0_add_34 : decode cX0_add 34 = .ok (.putfield 18, 3) := by decide +kernel
theorem dX0_add_37 : decode cX0_add 37 = .ok (.return_, 1) := by decide +kernel
theorem dX0_count_0 : decode cX0_count 0 = .ok (.aload_n 0, 1) := by decide +kernel
theorem dX0_count_1 : decode cX0_count 1 = .ok (.getfield 18, 3) := by decide +kernel
theorem dX0_count_4 : decode cX0_count 4 = .ok (.ireturn, 1) := by decide +kernel
theorem dX0_ruleNumber_0 : decode cX0_ruleNumber 0 = .ok (.iload_n 1, 1) := by decide +kernel
theorem dX0_ruleNumber_1 : decode cX0_ruleNumber 1 = .ok (.ifCond .lt 27, 3) := by decide +kernel
theorem dX0_ruleNumber_4 : decode cX0_ruleNumber 4 = .ok (.iload_n 1, 1) := by decide +kernel
theorem dX0_ruleNumber_5 : decode cX0_ruleNumber 5 = .ok (.aload_n 0, 1) := by decide +kernel
theorem dX0_ruleNumber_6 : decode cX0_ruleNumber 6 = .ok (.getfield 18, 3) := by decide +kernel
theorem dX0_ruleNumber_9 : decode cX0_ruleNumber 9 = .ok (.if_icmp .ge 19, 3) := by decide +kernel
theorem dX0_ruleNumber_12 : decode cX0_ruleNumber 12 = .ok (.iload_n 1, 1) := by decide +kernel
theorem dX0_ruleNumber_13 : decode cX0_ruleNumber 13 = .ok (.sipush 572, 3) := by decide +kernel
theorem dX0_ruleNumber_16 : decode cX0_ruleNumber 16 = .ok (.if_icmp .ge 12, 3) := by decide +kernel
theorem dX0_ruleNumber_19 : decode cX0_ruleNumber 19 = .ok (.aload_n 0, 1) := by decide +kernel
theorem dX0_ruleNumber_20 : decode cX0_ruleNumber 20 = .ok (.getfield 9, 3) := by decide +kernel
theorem dX0_ruleNumber_23 : decode cX0_ruleNumber 23 = .ok (.iload_n 1, 1) := by decide +kernel
theorem dX0_ruleNumber_24 : decode cX0_ruleNumber 24 = .ok (.iaload, 1) := by decide +kernel
theorem dX0_ruleNumber_25 : decode cX0_ruleNumber 25 = .ok (.goto 4, 3) := by decide +kernel
theorem dX0_ruleNumber_28 : decode cX0_ruleNumber 28 = .ok (.iconst 0, 1) := by decide +kernel
theorem dX0_ruleNumber_29 : decode cX0_ruleNumber 29 = .ok (.ireturn, 1) := by decide +kernel
theorem dX0_placeBy_0 : decode cX0_placeBy 0 = .ok (.iload_n 0, 1) := by decide +kernel
theorem dX0_placeBy_1 : decode cX0_placeBy 1 = .ok (.sipush 10000, 3) := by decide +kernel
theorem dX0_placeBy_4 : decode cX0_placeBy 4 = .ok (.idiv, 1) := by decide +kernel
theorem dX0_placeBy_5 : decode cX0_placeBy 5 = .ok (.istore_n 2, 1) := by decide +kernel
theorem dX0_placeBy_6 : decode cX0_placeBy 6 = .ok (.iload_n 2, 1) := by decide +kernel
theorem dX0_placeBy_7 : decode cX0_placeBy 7 = .ok (.ifCond .gt 5, 3) := by decide +kernel
theorem dX0_placeBy_10 : decode cX0_placeBy 10 = .ok (.iconst 0, 1) := by decide +kernel
theorem dX0_placeBy_11 : decode cX0_placeBy 11 = .ok (.ireturn, 1) := by decide +kernel
theorem dX0_placeBy_12 : decode cX0_placeBy 12 = .ok (.iload_n 0, 1) := by decide +kernel
theorem dX0_placeBy_13 : decode cX0_placeBy 13 = .ok (.bipush 100, 2) := by decide +kernel
theorem dX0_placeBy_15 : decode cX0_placeBy 15 = .ok (.irem, 1) := by decide +kernel
theorem dX0_placeBy_16 : decode cX0_placeBy 16 = .ok (.iload_n 0, 1) := by decide +kernel
theorem dX0_placeBy_17 : decode cX0_placeBy 17 = .ok (.bipush 100, 2) := by decide +kernel
theorem dX0_placeBy_19 : decode cX0_placeBy 19 = .ok (.idiv, 1) := by decide +kernel
theorem dX0_placeBy_20 : decode cX0_placeBy 20 = .ok (.bipush 100, 2) := by decide +kernel
theorem dX0_placeBy_22 : decode cX0_placeBy 22 = .ok (.irem, 1) := by decide +kernel
theorem dX0_placeBy_23 : decode cX0_placeBy 23 = .ok (.iload_n 1, 1) := by decide +kernel
theorem dX0_placeBy_24 : decode cX0_placeBy 24 = .ok (.imul, 1) := by decide +kernel
theorem dX0_placeBy_25 : decode cX0_placeBy 25 = .ok (.iadd, 1) := by decide +kernel
theorem dX0_placeBy_26 : decode cX0_placeBy 26 = .ok (.iload_n 2, 1) := by decide +kernel
theorem dX0_placeBy_27 : decode cX0_placeBy 27 = .ok (.irem, 1) := by decide +kernel
theorem dX0_placeBy_28 : decode cX0_placeBy 28 = .ok (.ireturn, 1) := by decide +kernel
set_option maxRecDepth 20000 in
theorem ggX0_countAt_X0_ruleNumber : GoodIn wsX0_countAt wsX0_ruleNumber := goodIn_r _ [6, 1, 7, 11, 12, 13, 14, 15, 16] (by decide +kernel) (by decide +kernel)
set_option maxRecDepth 20000 in
theorem gX0_countAt_X0_ruleNumber : GoodIn wsX0_countAt (wsV RX0 36 RX0 yX0_ruleNumber wsX0_ruleNumber) := goodIn_app (goodIn_of _ (by decide +kernel)) ggX0_countAt_X0_ruleNumber
set_option maxRecDepth 20000 in
theorem ggX0_countAt_X0_placeBy : GoodIn wsX0_countAt wsX0_placeBy := goodIn_r _ [10] (by decide +kernel) (by decide +kernel)
set_option maxRecDepth 20000 in
theorem gX0_countAt_X0_placeBy : GoodIn wsX0_countAt (va_wsS RX0 40 yX0_placeBy wsX0_placeBy) := goodIn_app (goodIn_of _ (by decide +kernel)) ggX0_countAt_X0_placeBy
theorem dX0_countAt_0 : decode cX0_countAt 0 = .ok (.iconst 0, 1) := by decide +kernel
theorem dX0_countAt_1 : decode cX0_countAt 1 = .ok (.istore_n 3, 1) := by decide +kernel
theorem dX0_countAt_2 : decode cX0_countAt 2 = .ok (.iconst 0, 1) := by decide +kernel
theorem dX0_countAt_3 : decode cX0_countAt 3 = .ok (.istore 4, 2) := by decide +kernel
theorem dX0_countAt_5 : decode cX0_countAt 5 = .ok (.iload 4, 2) := by decide +kernel
theorem dX0_countAt_7 : decode cX0_countAt 7 = .ok (.aload_n 0, 1) := by decide +kernel
theorem dX0_countAt_8 : decode cX0_countAt 8 = .ok (.getfield 18, 3) := by decide +kernel
theorem dX0_countAt_11 : decode cX0_countAt 11 = .ok (.if_icmp .ge 31, 3) := by decide +kernel
theorem dX0_countAt_14 : decode cX0_countAt 14 = .ok (.iload_n 3, 1) := by decide +kernel
theorem dX0_countAt_15 : decode cX0_countAt 15 = .ok (.aload_n 0, 1) := by decide +kernel
theorem dX0_countAt_16 : decode cX0_countAt 16 = .ok (.iload 4, 2) := by decide +kernel
theorem dX0_countAt_18 : decode cX0_countAt 18 = .ok (.invokevirtual 36, 3) := by decide +kernel
theorem dX0_countAt_21 : decode cX0_countAt 21 = .ok (.iload_n 1, 1) := by decide +kernel
theorem dX0_countAt_22 : decode cX0_countAt 22 = .ok (.invokestatic 40, 3) := by decide +kernel
theorem dX0_countAt_25 : decode cX0_countAt 25 = .ok (.iload_n 2, 1) := by decide +kernel
theorem dX0_countAt_26 : decode cX0_countAt 26 = .ok (.if_icmp .ne 7, 3) := by decide +kernel
theorem dX0_countAt_29 : decode cX0_countAt 29 = .ok (.iconst 1, 1) := by decide +kernel
theorem dX0_countAt_30 : decode cX0_countAt 30 = .ok (.goto 4, 3) := by decide +kernel
theorem dX0_countAt_33 : decode cX0_countAt 33 = .ok (.iconst 0, 1) := by decide +kernel
theorem dX0_countAt_34 : decode cX0_countAt 34 = .ok (.iadd, 1) := by decide +kernel
theorem dX0_countAt_35 : decode cX0_countAt 35 = .ok (.istore_n 3, 1) := by decide +kernel
theorem dX0_countAt_36 : decode cX0_countAt 36 = .ok (.iinc 4 1, 3) := by decide +kernel
theorem dX0_countAt_39 : decode cX0_countAt 39 = .ok (.goto (-34), 3) := by decide +kernel
theorem dX0_countAt_42 : decode cX0_countAt 42 = .ok (.iload_n 3, 1) := by decide +kernel
theorem dX0_countAt_43 : decode cX0_countAt 43 = .ok (.ireturn, 1) := by decide +kernel
set_option maxRecDepth 20000 in
theorem ggX0_firstSure_X0_isSure : GoodIn wsX0_firstSure wsX0_isSure := goodIn_r _ [6, 1, 7, 8, 9, 5, 10, 11, 12, 13, 14, 15, 16, 17, 18, 19, 20] (by decide +kernel) (by decide +kernel)
set_option maxRecDepth 20000 in
theorem gX0_firstSure_X0_isSure : GoodIn wsX0_firstSure (wsV RX0 44 RX0 yX0_isSure wsX0_isSure) := goodIn_app (goodIn_of _ (by decide +kernel)) ggX0_firstSure_X0_isSure
theorem dX0_firstSure_0 : decode cX0_firstSure 0 = .ok (.iload_n 1, 1) := by decide +kernel
theorem dX0_firstSure_1 : decode cX0_firstSure 1 = .ok (.istore_n 2, 1) := by decide +kernel
theorem dX0_firstSure_2 : decode cX0_firstSure 2 = .ok (.iload_n 2, 1) := by decide +kernel
theorem dX0_firstSure_3 : decode cX0_firstSure 3 = .ok (.bipush 100, 2) := by decide +kernel
theorem dX0_firstSure_5 : decode cX0_firstSure 5 = .ok (.if_icmp .ge 26, 3) := by decide +kernel
theorem dX0_firstSure_8 : decode cX0_firstSure 8 = .ok (.aload_n 0, 1) := by decide +kernel
theorem dX0_firstSure_9 : decode cX0_firstSure 9 = .ok (.getfield 18, 3) := by decide +kernel
theorem dX0_firstSure_12 : decode cX0_firstSure 12 = .ok (.ifCond .le 19, 3) := by decide +kernel
theorem dX0_firstSure_15 : decode cX0_firstSure 15 = .ok (.aload_n 0, 1) := by decide +kernel
theorem dX0_firstSure_16 : decode cX0_firstSure 16 = .ok (.iload_n 2, 1) := by decide +kernel
theorem dX0_firstSure_17 : decode cX0_firstSure 17 = .ok (.invokevirtual 44, 3) := by decide +kernel
theorem dX0_firstSure_20 : decode cX0_firstSure 20 = .ok (.ifCond .eq 5, 3) := by decide +kernel
theorem dX0_firstSure_23 : decode cX0_firstSure 23 = .ok (.iload_n 2, 1) := by decide +kernel
theorem dX0_firstSure_24 : decode cX0_firstSure 24 = .ok (.ireturn, 1) := by decide +kernel
theorem dX0_firstSure_25 : decode cX0_firstSure 25 = .ok (.iinc 2 1, 3) := by decide +kernel
theorem dX0_firstSure_28 : decode cX0_firstSure 28 = .ok (.goto (-26), 3) := by decide +kernel
theorem dX0_firstSure_31 : decode cX0_firstSure 31 = .ok (.bipush (-2), 2) := by decide +kernel
theorem dX0_firstSure_33 : decode cX0_firstSure 33 = .ok (.ireturn, 1) := by decide +kernel
set_option maxRecDepth 20000 in
theorem ggX0_isSure_X0_ruleNumber : GoodIn wsX0_isSure wsX0_ruleNumber := goodIn_r _ [6, 1, 7, 11, 12, 13, 14, 15, 16] (by decide +kernel) (by decide +kernel)
set_option maxRecDepth 20000 in
theorem gX0_isSure_X0_ruleNumber : GoodIn wsX0_isSure (wsV RX0 36 RX0 yX0_ruleNumber wsX0_ruleNumber) := goodIn_app (goodIn_of _ (by decide +kernel)) ggX0_isSure_X0_ruleNumber
set_option maxRecDepth 20000 in
theorem ggX0_isSure_X0_placeBy : GoodIn wsX0_isSure wsX0_placeBy := goodIn_r _ [10] (by decide +kernel) (by decide +kernel)
set_option maxRecDepth 20000 in
theorem gX0_isSure_X0_placeBy : GoodIn wsX0_isSure (va_wsS RX0 40 yX0_placeBy wsX0_placeBy) := goodIn_app (goodIn_of _ (by decide +kernel)) ggX0_isSure_X0_placeBy
theorem dX0_isSure_0 : decode cX0_isSure 0 = .ok (.iconst 0, 1) := by decide +kernel
theorem dX0_isSure_1 : decode cX0_isSure 1 = .ok (.istore_n 2, 1) := by decide +kernel
theorem dX0_isSure_2 : decode cX0_isSure 2 = .ok (.iload_n 2, 1) := by decide +kernel
theorem dX0_isSure_3 : decode cX0_isSure 3 = .ok (.aload_n 0, 1) := by decide +kernel
theorem dX0_isSure_4 : decode cX0_isSure 4 = .ok (.getfield 18, 3) := by decide +kernel
theorem dX0_isSure_7 : decode cX0_isSure 7 = .ok (.if_icmp .ge 23, 3) := by decide +kernel
theorem dX0_isSure_10 : decode cX0_isSure 10 = .ok (.aload_n 0, 1) := by decide +kernel
theorem dX0_isSure_11 : decode cX0_isSure 11 = .ok (.iload_n 2, 1) := by decide +kernel
theorem dX0_isSure_12 : decode cX0_isSure 12 = .ok (.invokevirtual 36, 3) := by decide +kernel
theorem dX0_isSure_15 : decode cX0_isSure 15 = .ok (.iload_n 1, 1) := by decide +kernel
theorem dX0_isSure_16 : decode cX0_isSure 16 = .ok (.invokestatic 40, 3) := by decide +kernel
theorem dX0_isSure_19 : decode cX0_isSure 19 = .ok (.ifCond .eq 5, 3) := by decide +kernel
theorem dX0_isSure_22 : decode cX0_isSure 22 = .ok (.iconst 0, 1) := by decide +kernel
theorem dX0_isSure_23 : decode cX0_isSure 23 = .ok (.ireturn, 1) := by decide +kernel
theorem dX0_isSure_24 : decode cX0_isSure 24 = .ok (.iinc 2 1, 3) := by decide +kernel
theorem dX0_isSure_27 : decode cX0_isSure 27 = .ok (.goto (-25), 3) := by decide +kernel
theorem dX0_isSure_30 : decode cX0_isSure 30 = .ok (.iconst 1, 1) := by decide +kernel
theorem dX0_isSure_31 : decode cX0_isSure 31 = .ok (.ireturn, 1) := by decide +kernel
set_option maxRecDepth 20000 in
theorem ggX0_bestLook_X0_lookOnce : GoodIn wsX0_bestLook wsX0_lookOnce := goodIn_r _ [6, 7, 1, 8, 9, 10, 11, 12, 13, 14, 15, 16, 17, 5, 18, 19, 20, 21, 22, 23, 24, 25, 26, 27, 28, 29, 30, 31, 32, 33, 34, 35, 36] (by decide +kernel) (by decide +kernel)
set_option maxRecDepth 20000 in
theorem gX0_bestLook_X0_lookOnce : GoodIn wsX0_bestLook (wsV RX0 48 RX0 yX0_lookOnce wsX0_lookOnce) := goodIn_app (goodIn_of _ (by decide +kernel)) ggX0_bestLook_X0_lookOnce
theorem dX0_bestLook_0 : decode cX0_bestLook 0 = .ok (.aload_n 0, 1) := by decide +kernel
theorem dX0_bestLook_1 : decode cX0_bestLook 1 = .ok (.invokevirtual 48, 3) := by decide +kernel
theorem dX0_bestLook_4 : decode cX0_bestLook 4 = .ok (.aload_n 0, 1) := by decide +kernel
theorem dX0_bestLook_5 : decode cX0_bestLook 5 = .ok (.getfield 51, 3) := by decide +kernel
theorem dX0_bestLook_8 : decode cX0_bestLook 8 = .ok (.ireturn, 1) := by decide +kernel
set_option maxRecDepth 20000 in
theorem ggX0_leftByLook_X0_lookOnce : GoodIn wsX0_leftByLook wsX0_lookOnce := goodIn_r _ [6, 7, 8, 1, 9, 10, 11, 12, 13, 14, 15, 16, 17, 5, 18, 19, 20, 21, 22, 23, 24, 25, 26, 27, 28, 29, 30, 31, 32, 33, 34, 35, 36] (by decide +kernel) (by decide +kernel)
set_option maxRecDepth 20000 in
theorem gX0_leftByLook_X0_lookOnce : GoodIn wsX0_leftByLook (wsV RX0 48 RX0 yX0_lookOnce wsX0_lookOnce) := goodIn_app (goodIn_of _ (by decide +kernel)) ggX0_leftByLook_X0_lookOnce
theorem dX0_leftByLook_0 : decode cX0_leftByLook 0 = .ok (.aload_n 0, 1) := by decide +kernel
theorem dX0_leftByLook_1 : decode cX0_leftByLook 1 = .ok (.invokevirtual 48, 3) := by decide +kernel
theorem dX0_leftByLook_4 : decode cX0_leftByLook 4 = .ok (.aload_n 0, 1) := by decide +kernel
theorem dX0_leftByLook_5 : decode cX0_leftByLook 5 = .ok (.getfield 54, 3) := by decide +kernel
theorem dX0_leftByLook_8 : decode cX0_leftByLook 8 = .ok (.ireturn, 1) := by decide +kernel
set_option maxRecDepth 20000 in
theorem ggX0_lookOnce_X0_countSeen : GoodIn wsX0_lookOnce wsX0_countSeen := goodIn_r _ [14, 5, 4, 15, 16, 17, 18, 19, 20, 21, 13, 22, 23, 24, 25, 26, 27, 28, 29, 30, 31, 32] (by decide +kernel) (by decide +kernel)
set_option maxRecDepth 20000 in
theorem gX0_lookOnce_X0_countSeen : GoodIn wsX0_lookOnce (wsV RX0 57 RX0 yX0_countSeen wsX0_countSeen) := goodIn_app (goodIn_of _ (by decide +kernel)) ggX0_lookOnce_X0_countSeen
theorem dX0_lookOnce_0 : decode cX0_lookOnce 0 = .ok (.aload_n 0, 1) := by decide +kernel
theorem dX0_lookOnce_1 : decode cX0_lookOnce 1 = .ok (.getfield 22, 3) := by decide +kernel
theorem dX0_lookOnce_4 : decode cX0_lookOnce 4 = .ok (.ifCond .eq 4, 3) := by decide +kernel
theorem dX0_lookOnce_7 : decode cX0_lookOnce 7 = .ok (.return_, 1) := by decide +kernel
theorem dX0_lookOnce_8 : decode cX0_lookOnce 8 = .ok (.aload_n 0, 1) := by decide +kernel
theorem dX0_lookOnce_9 : decode cX0_lookOnce 9 = .ok (.iconst 1, 1) := by decide +kernel
theorem dX0_lookOnce_10 : decode cX0_lookOnce 10 = .ok (.putfield 22, 3) := by decide +kernel
theorem dX0_lookOnce_13 : decode cX0_lookOnce 13 = .ok (.aload_n 0, 1) := by decide +kernel
theorem dX0_lookOnce_14 : decode cX0_lookOnce 14 = .ok (.bipush (-2), 2) := by decide +kernel
theorem dX0_lookOnce_16 : decode cX0_lookOnce 16 = .ok (.putfield 51, 3) := by decide +kernel
theorem dX0_lookOnce_19 : decode cX0_lookOnce 19 = .ok (.aload_n 0, 1) := by decide +kernel
theorem dX0_lookOnce_20 : decode cX0_lookOnce 20 = .ok (.bipush (-2), 2) := by decide +kernel
theorem dX0_lookOnce_22 : decode cX0_lookOnce 22 = .ok (.putfield 54, 3) := by decide +kernel
theorem dX0_lookOnce_25 : decode cX0_lookOnce 25 = .ok (.iconst 0, 1) := by decide +kernel
theorem dX0_lookOnce_26 : decode cX0_lookOnce 26 = .ok (.istore_n 1, 1) := by decide +kernel
theorem dX0_lookOnce_27 : decode cX0_lookOnce 27 = .ok (.iload_n 1, 1) := by decide +kernel
theorem dX0_lookOnce_28 : decode cX0_lookOnce 28 = .ok (.bipush 100, 2) := by decide +kernel
theorem dX0_lookOnce_30 : decode cX0_lookOnce 30 = .ok (.if_icmp .ge 88, 3) := by decide +kernel
theorem dX0_lookOnce_33 : decode cX0_lookOnce 33 = .ok (.aload_n 0, 1) := by decide +kernel
theorem dX0_lookOnce_34 : decode cX0_lookOnce 34 = .ok (.getfield 18, 3) := by decide +kernel
theorem dX0_lookOnce_37 : decode cX0_lookOnce 37 = .ok (.ifCond .le 81, 3) := by decide +kernel
theorem dX0_lookOnce_40 : decode cX0_lookOnce 40 = .ok (.aload_n 0, 1) := by decide +kernel
theorem dX0_lookOnce_41 : decode cX0_lookOnce 41 = .ok (.iload_n 1, 1) := by decide +kernel
theorem dX0_lookOnce_42 : decode cX0_lookOnce 42 = .ok (.invokevirtual 57, 3) := by decide +kernel
theorem dX0_lookOnce_45 : decode cX0_lookOnce 45 = .ok (.iconst 0, 1) := by decide +kernel
theorem dX0_lookOnce_46 : decode cX0_lookOnce 46 = .ok (.istore_n 2, 1) := by decide +kernel
theorem dX0_lookOnce_47 : decode cX0_lookOnce 47 = .ok (.iload_n 2, 1) := by decide +kernel
theorem dX0_lookOnce_48 : decode cX0_lookOnce 48 = .ok (.bipush 12, 2) := by decide +kernel
theorem dX0_lookOnce_50 : decode cX0_lookOnce 50 = .ok (.if_icmp .ge 62, 3) := by decide +kernel
theorem dX0_lookOnce_53 : decode cX0_lookOnce 53 = .ok (.aload_n 0, 1) := by decide +kernel
theorem dX0_lookOnce_54 : decode cX0_lookOnce 54 = .ok (.getfield 15, 3) := by decide +kernel
theorem dX0_lookOnce_57 : decode cX0_lookOnce 57 = .ok (.iload_n 2, 1) := by decide +kernel
theorem dX0_lookOnce_58 : decode cX0_lookOnce 58 = .ok (.iaload, 1) := by decide +kernel
theorem dX0_lookOnce_59 : decode cX0_lookOnce 59 = .ok (.aload_n 0, 1) := by decide +kernel
theorem dX0_lookOnce_60 : decode cX0_lookOnce 60 = .ok (.getfield 18, 3) := by decide +kernel
theorem dX0_lookOnce_63 : decode cX0_lookOnce 63 = .ok (.aload_n 0, 1) := by decide +kernel
theorem dX0_lookOnce_64 : decode cX0_lookOnce 64 = .ok (.getfield 15, 3) := by decide +kernel
theorem dX0_lookOnce_67 : decode cX0_lookOnce 67 = .ok (.iload_n 2, 1) := by decide +kernel
theorem dX0_lookOnce_68 : decode cX0_lookOnce 68 = .ok (.iaload, 1) := by decide +kernel
theorem dX0_lookOnce_69 : decode cX0_lookOnce 69 = .ok (.isub, 1) := by decide +kernel
theorem dX0_lookOnce_70 : decode cX0_lookOnce 70 = .ok (.invokestatic 60, 3) := by decide +kernel
theorem dX0_lookOnce_73 : decode cX0_lookOnce 73 = .ok (.istore_n 3, 1) := by decide +kernel
theorem dX0_lookOnce_74 : decode cX0_lookOnce 74 = .ok (.aload_n 0, 1) := by decide +kernel
theorem dX0_lookOnce_75 : decode cX0_lookOnce 75 = .ok (.getfield 51, 3) := by decide +kernel
theorem dX0_lookOnce_78 : decode cX0_lookOnce 78 = .ok (.bipush (-2), 2) := by decide +kernel
theorem dX0_lookOnce_80 : decode cX0_lookOnce 80 = .ok (.if_icmp .eq 11, 3) := by decide +kernel
theorem dX0_lookOnce_83 : decode cX0_lookOnce 83 = .ok (.iload_n 3, 1) := by decide +kernel
theorem dX0_lookOnce_84 : decode cX0_lookOnce 84 = .ok (.aload_n 0, 1) := by decide +kernel
theorem dX0_lookOnce_85 : decode cX0_lookOnce 85 = .ok (.getfield 54, 3) := by decide +kernel
theorem dX0_lookOnce_88 : decode cX0_lookOnce 88 = .ok (.if_icmp .ge 18, 3) := by decide +kernel
theorem dX0_lookOnce_91 : decode cX0_lookOnce 91 = .ok (.aload_n 0, 1) := by decide +kernel
theorem dX0_lookOnce_92 : decode cX0_lookOnce 92 = .ok (.bipush 100, 2) := by decide +kernel
theorem dX0_lookOnce_94 : decode cX0_lookOnce 94 = .ok (.iload_n 1, 1) := by decide +kernel
theorem dX0_lookOnce_95 : decode cX0_lookOnce 95 = .ok (.imul, 1) := by decide +kernel
theorem dX0_lookOnce_96 : decode cX0_lookOnce 96 = .ok (.iload_n 2, 1) := by decide +kernel
theorem dX0_lookOnce_97 : decode cX0_lookOnce 97 = .ok (.iadd, 1) := by decide +kernel
theorem dX0_lookOnce_98 : decode cX0_lookOnce 98 = .ok (.putfield 51, 3) := by decide +kernel
theorem dX0_lookOnce_101 : decode cX0_lookOnce 101 = .ok (.aload_n 0, 1) := by decide +kernel
theorem dX0_lookOnce_102 : decode cX0_lookOnce 102 = .ok (.iload_n 3, 1) := by decide +kernel
theorem dX0_lookOnce_103 : decode cX0_lookOnce 103 = .ok (.putfield 54, 3) := by decide +kernel
theorem dX0_lookOnce_106 : decode cX0_lookOnce 106 = .ok (.iinc 2 1, 3) := by decide +kernel
theorem dX0_lookOnce_109 : decode cX0_lookOnce 109 = .ok (.goto (-62), 3) := by decide +kernel
theorem dX0_lookOnce_112 : decode cX0_lookOnce 112 = .ok (.iinc 1 1, 3) := by decide +kernel
theorem dX0_lookOnce_115 : decode cX0_lookOnce 115 = .ok (.goto (-88), 3) := by decide +kernel
theorem dX0_lookOnce_118 : decode cX0_lookOnce 118 = .ok (.return_, 1) := by decide +kernel
set_option maxRecDepth 20000 in
theorem ggX0_countSeen_J7_fill_53178 : GoodIn wsX0_countSeen wsJ7_fill_53178 := goodIn_r _ [6] (by decide +kernel) (by decide +kernel)
set_option maxRecDepth 20000 in
theorem gX0_countSeen_J7_fill_53178 : GoodIn wsX0_countSeen (va_wsS RX0 65 yJ7_fill_53178 wsJ7_fill_53178) := goodIn_app (goodIn_of _ (by decide +kernel)) ggX0_countSeen_J7_fill_53178
set_option maxRecDepth 20000 in
theorem ggX0_countSeen_X0_ruleNumber : GoodIn wsX0_countSeen wsX0_ruleNumber := goodIn_r _ [11, 2, 12, 16, 17, 18, 19, 20, 21] (by decide +kernel) (by decide +kernel)
set_option maxRecDepth 20000 in
theorem gX0_countSeen_X0_ruleNumber : GoodIn wsX0_countSeen (wsV RX0 36 RX0 yX0_ruleNumber wsX0_ruleNumber) := goodIn_app (goodIn_of _ (by decide +kernel)) ggX0_countSeen_X0_ruleNumber
set_option maxRecDepth 20000 in
theorem ggX0_countSeen_X0_placeBy : GoodIn wsX0_countSeen wsX0_placeBy := goodIn_r _ [15] (by decide +kernel) (by decide +kernel)
set_option maxRecDepth 20000 in
theorem gX0_countSeen_X0_placeBy : GoodIn wsX0_countSeen (va_wsS RX0 40 yX0_placeBy wsX0_placeBy) := goodIn_app (goodIn_of _ (by decide +kernel)) ggX0_countSeen_X0_placeBy
theorem dX0_countSeen_0 : decode cX0_countSeen 0 = .ok (.aload_n 0, 1) := by decide +kernel
theorem dX0_countSeen_1 : decode cX0_countSeen 1 = .ok (.getfield 15, 3) := by decide +kernel
theorem dX0_countSeen_4 : decode cX0_countSeen 4 = .ok (.iconst 0, 1) := by decide +kernel
theorem dX0_countSeen_5 : decode cX0_countSeen 5 = .ok (.invokestatic 65, 3) := by decide +kernel
theorem dX0_countSeen_8 : decode cX0_countSeen 8 = .ok (.iconst 0, 1) := by decide +kernel
theorem dX0_countSeen_9 : decode cX0_countSeen 9 = .ok (.istore_n 2, 1) := by decide +kernel
theorem dX0_countSeen_10 : decode cX0_countSeen 10 = .ok (.iload_n 2, 1) := by decide +kernel
theorem dX0_countSeen_11 : decode cX0_countSeen 11 = .ok (.aload_n 0, 1) := by decide +kernel
theorem dX0_countSeen_12 : decode cX0_countSeen 12 = .ok (.getfield 18, 3) := by decide +kernel
theorem dX0_countSeen_15 : decode cX0_countSeen 15 = .ok (.if_icmp .ge 39, 3) := by decide +kernel
theorem dX0_countSeen_18 : decode cX0_countSeen 18 = .ok (.aload_n 0, 1) := by decide +kernel
theorem dX0_countSeen_19 : decode cX0_countSeen 19 = .ok (.iload_n 2, 1) := by decide +kernel
theorem dX0_countSeen_20 : decode cX0_countSeen 20 = .ok (.invokevirtual 36, 3) := by decide +kernel
theorem dX0_countSeen_23 : decode cX0_countSeen 23 = .ok (.iload_n 1, 1) := by decide +kernel
theorem dX0_countSeen_24 : decode cX0_countSeen 24 = .ok (.invokestatic 40, 3) := by decide +kernel
theorem dX0_countSeen_27 : decode cX0_countSeen 27 = .ok (.istore_n 3, 1) := by decide +kernel
theorem dX0_countSeen_28 : decode cX0_countSeen 28 = .ok (.iload_n 3, 1) := by decide +kernel
theorem dX0_countSeen_29 : decode cX0_countSeen 29 = .ok (.ifCond .lt 19, 3) := by decide +kernel
theorem dX0_countSeen_32 : decode cX0_countSeen 32 = .ok (.iload_n 3, 1) := by decide +kernel
theorem dX0_countSeen_33 : decode cX0_countSeen 33 = .ok (.bipush 12, 2) := by decide +kernel
theorem dX0_countSeen_35 : decode cX0_countSeen 35 = .ok (.if_icmp .ge 13, 3) := by decide +kernel
theorem dX0_countSeen_38 : decode cX0_countSeen 38 = .ok (.aload_n 0, 1) := by decide +kernel
theorem dX0_countSeen_39 : decode cX0_countSeen 39 = .ok (.getfield 15, 3) := by decide +kernel
theorem dX0_countSeen_42 : decode cX0_countSeen 42 = .ok (.iload_n 3, 1) := by decide +kernel
theorem dX0_countSeen_43 : decode cX0_countSeen 43 = .ok (.dup2, 1) := by decide +kernel
theorem dX0_countSeen_44 : decode cX0_countSeen 44 = .ok (.iaload, 1) := by decide +kernel
theorem dX0_countSeen_45 : decode cX0_countSeen 45 = .ok (.iconst 1, 1) := by decide +kernel
theorem dX0_countSeen_46 : decode cX0_countSeen 46 = .ok (.iadd, 1) := by decide +kernel
theorem dX0_countSeen_47 : decode cX0_countSeen 47 = .ok (.iastore, 1) := by decide +kernel
theorem dX0_countSeen_48 : decode cX0_countSeen 48 = .ok (.iinc 2 1, 3) := by decide +kernel
theorem dX0_countSeen_51 : decode cX0_countSeen 51 = .ok (.goto (-41), 3) := by decide +kernel
theorem dX0_countSeen_54 : decode cX0_countSeen 54 = .ok (.return_, 1) := by decide +kernel
theorem dX1_init_0 : decode cX1_init 0 = .ok (.aload_n 0, 1) := by decide +kernel
theorem dX1_init_1 : decode cX1_init 1 = .ok (.invokespecial 3, 3) := by decide +kernel
theorem dX1_init_4 : decode cX1_init 4 = .ok (.aload_n 0, 1) := by decide +kernel
theorem dX1_init_5 : decode cX1_init 5 = .ok (.bipush 9, 2) := by decide +kernel
theorem dX1_init_7 : decode cX1_init 7 = .ok (.newarray .int, 2) := by decide +kernel
theorem dX1_init_9 : decode cX1_init 9 = .ok (.putfield 11, 3) := by decide +kernel
theorem dX1_init_12 : decode cX1_init 12 = .ok (.aload_n 0, 1) := by decide +kernel
theorem dX1_init_13 : decode cX1_init 13 = .ok (.bipush 16, 2) := by decide +kernel
theorem dX1_init_15 : decode cX1_init 15 = .ok (.bipush 9, 2) := by decide +kernel
theorem dX1_init_17 : decode cX1_init 17 = .ok (.multianewarray 15 2, 4) := by decide +kernel
theorem dX1_init_21 : decode cX1_init 21 = .ok (.putfield 17, 3) := by decide +kernel
theorem dX1_init_24 : decode cX1_init 24 = .ok (.aload_n 0, 1) := by decide +kernel
theorem dX1_init_25 : decode cX1_init 25 = .ok (.iconst 3, 1) := by decide +kernel
theorem dX1_init_26 : decode cX1_init 26 = .ok (.bipush 9, 2) := by decide +kernel
theorem dX1_init_28 : decode cX1_init 28 = .ok (.multianewarray 15 2, 4) := by decide +kernel
theorem dX1_init_32 : decode cX1_init 32 = .ok (.putfield 20, 3) := by decide +kernel
theorem dX1_init_35 : decode cX1_init 35 = .ok (.return_, 1) := by decide +kernel
set_option maxRecDepth 20000 in
theorem ggX1_begin_J7_fill_53178 : GoodIn wsX1_begin wsJ7_fill_53178 := goodIn_r _ [7] (by decide +kernel) (by decide +kernel)
set_option maxRecDepth 20000 in
theorem gX1_begin_J7_fill_53178 : GoodIn wsX1_begin (va_wsS RX1 23 yJ7_fill_53178 wsJ7_fill_53178) := goodIn_app (goodIn_of _ (by decide +kernel)) ggX1_begin_J7_fill_53178
set_option maxRecDepth 20000 in
theorem ggX1_begin_X4_firstCellOf : GoodIn wsX1_begin wsX4_firstCellOf := goodIn_r _ [12, 13, 20, 21, 22, 23, 24, 25, 26, 27, 28, 29, 30, 31, 32, 33, 34, 35, 36, 37, 38, 39] (by decide +kernel) (by decide +kernel)
set_option maxRecDepth 20000 in
theorem gX1_begin_X4_firstCellOf : GoodIn wsX1_begin (wsV RX1 29 RX4 yX4_firstCellOf wsX4_firstCellOf) := goodIn_app (goodIn_of _ (by decide +kernel)) ggX1_begin_X4_firstCellOf
theorem dX1_begin_0 : decode cX1_begin 0 = .ok (.aload_n 0, 1) := by decide +kernel
theorem dX1_begin_1 : decode cX1_begin 1 = .ok (.getfield 11, 3) := by decide +kernel
theorem dX1_begin_4 : decode cX1_begin 4 = .ok (.iconst 0, 1) := by decide +kernel
theorem dX1_begin_5 : decode cX1_begin 5 = .ok (.invokestatic 23, 3) := by decide +kernel
theorem dX1_begin_8 : decode cX1_begin 8 = .ok (.iconst 0, 1) := by decide +kernel
theorem dX1_begin_9 : decode cX1_begin 9 = .ok (.istore_n 2, 1) := by decide +kernel
theorem dX1_begin_10 : decode cX1_begin 10 = .ok (.iload_n 2, 1) := by decide +kernel
theorem dX1_begin_11 : decode cX1_begin 11 = .ok (.bipush 7, 2) := by decide +kernel
theorem dX1_begin_13 : decode cX1_begin 13 = .ok (.if_icmp .ge 20, 3) := by decide +kernel
theorem dX1_begin_16 : decode cX1_begin 16 = .ok (.aload_n 0, 1) := by decide +kernel
theorem dX1_begin_17 : decode cX1_begin 17 = .ok (.getfield 11, 3) := by decide +kernel
theorem dX1_begin_20 : decode cX1_begin 20 = .ok (.iload_n 2, 1) := by decide +kernel
theorem dX1_begin_21 : decode cX1_begin 21 = .ok (.aload_n 1, 1) := by decide +kernel
theorem dX1_begin_22 : decode cX1_begin 22 = .ok (.iload_n 2, 1) := by decide +kernel
theorem dX1_begin_23 : decode cX1_begin 23 = .ok (.invokevirtual 29, 3) := by decide +kernel
theorem dX1_begin_26 : decode cX1_begin 26 = .ok (.iastore, 1) := by decide +kernel
theorem dX1_begin_27 : decode cX1_begin 27 = .ok (.iinc 2 1, 3) := by decide +kernel
theorem dX1_begin_30 : decode cX1_begin 30 = .ok (.goto (-20), 3) := by decide +kernel
theorem dX1_begin_33 : decode cX1_begin 33 = .ok (.aload_n 0, 1) := by decide +kernel
theorem dX1_begin_34 : decode cX1_begin 34 = .ok (.iconst 0, 1) := by decide +kernel
theorem dX1_begin_35 : decode cX1_begin 35 = .ok (.putfield 35, 3) := by decide +kernel
theorem dX1_begin_38 : decode cX1_begin 38 = .ok (.aload_n 0, 1) := by decide +kernel
theorem dX1_begin_39 : decode cX1_begin 39 = .ok (.iconst 0, 1) := by decide +kernel
theorem dX1_begin_40 : decode cX1_begin 40 = .ok (.putfield 39, 3) := by decide +kernel
theorem dX1_begin_43 : decode cX1_begin 43 = .ok (.return_, 1) := by decide +kernel
theorem dX1_cellOf_0 : decode cX1_cellOf 0 = .ok (.iload_n 1, 1) := by decide +kernel
theorem dX1_cellOf_1 : decode cX1_cellOf 1 = .ok (.ifCond .lt 18, 3) := by decide +kernel
theorem dX1_cellOf_4 : decode cX1_cellOf 4 = .ok (.iload_n 1, 1) := by decide +kernel
theorem dX1_cellOf_5 : decode cX1_cellOf 5 = .ok (.bipush 7, 2) := by decide +kernel
theorem dX1_cellOf_7 : decode cX1_cellOf 7 = .ok (.if_icmp .ge 12, 3) := by decide +kernel
theorem dX1_cellOf_10 : decode cX1_cellOf 10 = .ok (.aload_n 0, 1) := by decide +kernel
theorem dX1_cellOf_11 : decode cX1_cellOf 11 = .ok (.getfield 11, 3) := by decide +kernel
theorem dX1_cellOf_14 : decode cX1_cellOf 14 = .ok (.iload_n 1, 1) := by decide +kernel
theorem dX1_cellOf_15 : decode cX1_cellOf 15 = .ok (.iaload, 1) := by decide +kernel
theorem dX1_cellOf_16 : decode cX1_cellOf 16 = .ok (.goto 4, 3) := by decide +kernel
theorem dX1_cellOf_19 : decode cX1_cellOf 19 = .ok (.iconst 0, 1) := by decide +kernel
theorem dX1_cellOf_20 : decode cX1_cellOf 20 = .ok (.ireturn, 1) := by decide +kernel
theorem dX1_heldBits_0 : decode cX1_heldBits 0 = .ok (.aload_n 0, 1) := by decide +kernel
theorem dX1_heldBits_1 : decode cX1_heldBits 1 = .ok (.getfield 11, 3) := by decide +kernel
theorem dX1_heldBits_4 : decode cX1_heldBits 4 = .ok (.bipush 7, 2) := by decide +kernel
theorem dX1_heldBits_6 : decode cX1_heldBits 6 = .ok (.iaload, 1) := by decide +kernel
theorem dX1_heldBits_7 : decode cX1_heldBits 7 = .ok (.ireturn, 1) := by decide +kernel
theorem dX1_isHeld_0 : decode cX1_isHeld 0 = .ok (.aload_n 0, 1) := by decide +kernel
theorem dX1_isHeld_1 : decode cX1_isHeld 1 = .ok (.getfield 11, 3) := by decide +kernel
theorem dX1_isHeld_4 : decode cX1_isHeld 4 = .ok (.bipush 7, 2) := by decide +kernel
theorem dX1_isHeld_6 : decode cX1_isHeld 6 = .ok (.iaload, 1) := by decide +kernel
theorem dX1_isHeld_7 : decode cX1_isHeld 7 = .ok (.iload_n 1, 1) := by decide +kernel
theorem dX1_isHeld_8 : decode cX1_isHeld 8 = .ok (.ishr, 1) := by decide +kernel
theorem dX1_isHeld_9 : decode cX1_isHeld 9 = .ok (.iconst 1, 1) := by decide +kernel
theorem dX1_isHeld_10 : decode cX1_isHeld 10 = .ok (.iand, 1) := by decide +kernel
theorem dX1_isHeld_11 : decode cX1_isHeld 11 = .ok (.ifCond .eq 7, 3) := by decide +kernel
theorem dX1_isHeld_14 : decode cX1_isHeld 14 = .ok (.iconst 1, 1) := by decide +kernel
theorem dX1_isHeld_15 : decode cX1_isHeld 15 = .ok (.goto 4, 3) := by decide +kernel
theorem dX1_isHeld_18 : decode cX1_isHeld 18 = .ok (.iconst 0, 1) := by decide +kernel
theorem dX1_isHeld_19 : decode cX1_isHeld 19 = .ok (.ireturn, 1) := by decide +kernel
theorem dX1_nightNow_0 : decode cX1_nightNow 0 = .ok (.aload_n 0, 1) := by decide +kernel
theorem dX1_nightNow_1 : decode cX1_nightNow 1 = .ok (.getfield 11, 3) := by decide +kernel
theorem dX1_nightNow_4 : decode cX1_nightNow 4 = .ok (.bipush 8, 2) := by decide +kernel
theorem dX1_nightNow_6 : decode cX1_nightNow 6 = .ok (.iaload, 1) := by decide +kernel
theorem dX1_nightNow_7 : decode cX1_nightNow 7 = .ok (.ireturn, 1) := by decide +kernel
theorem dX1_countKept_0 : decode cX1_countKept 0 = .ok (.aload_n 0, 1) := by decide +kernel
theorem dX1_countKept_1 : decode cX1_countKept 1 = .ok (.getfield 35, 3) := by decide +kernel
theorem dX1_countKept_4 : decode cX1_countKept 4 = .ok (.ireturn, 1) := by decide +kernel
theorem dX1_countImages_0 : decode cX1_countImages 0 = .ok (.aload_n 0, 1) := by decide +kernel
theorem dX1_countImages_1 : decode cX1_countImages 1 = .ok (.getfield 39, 3) := by decide +kernel
theorem dX1_countImages_4 : decode cX1_countImages 4 = .ok (.ireturn, 1) := by decide +kernel
theorem dX1_thingAt_0 : decode cX1_thingAt 0 = .ok (.iconst 0, 1) := by decide +kernel
theorem dX1_thingAt_1 : decode cX1_thingAt 1 = .ok (.istore_n 3, 1) := by decide +kernel
theorem dX1_thingAt_2 : decode cX1_thingAt 2 = .ok (.iload_n 3, 1) := by decide +kernel
theorem dX1_thingAt_3 : decode cX1_thingAt 3 = .ok (.iload_n 2, 1) := by decide +kernel
theorem dX1_thingAt_4 : decode cX1_thingAt 4 = .ok (.if_icmp .ge 27, 3) := by decide +kernel
theorem dX1_thingAt_7 : decode cX1_thingAt 7 = .ok (.iload_n 3, 1) := by decide +kernel
theorem dX1_thingAt_8 : decode cX1_thingAt 8 = .ok (.bipush 7, 2) := by decide +kernel
theorem dX1_thingAt_10 : decode cX1_thingAt 10 = .ok (.if_icmp .ge 21, 3) := by decide +kernel
theorem dX1_thingAt_13 : decode cX1_thingAt 13 = .ok (.aload_n 0, 1) := by decide +kernel
theorem dX1_thingAt_14 : decode cX1_thingAt 14 = .ok (.getfield 11, 3) := by decide +kernel
theorem dX1_thingAt_17 : decode cX1_thingAt 17 = .ok (.iload_n 3, 1) := by decide +kernel
theorem dX1_thingAt_18 : decode cX1_thingAt 18 = .ok (.iaload, 1) := by decide +kernel
theorem dX1_thingAt_19 : decode cX1_thingAt 19 = .ok (.iload_n 1, 1) := by decide +kernel
theorem dX1_thingAt_20 : decode cX1_thingAt 20 = .ok (.if_icmp .ne 5, 3) := by decide +kernel
theorem dX1_thingAt_23 : decode cX1_thingAt 23 = .ok (.iload_n 3, 1) := by decide +kernel
theorem dX1_thingAt_24 : decode cX1_thingAt 24 = .ok (.ireturn, 1) := by decide +kernel
theorem dX1_thingAt_25 : decode cX1_thingAt 25 = .ok (.iinc 3 1, 3) := by decide +kernel
theorem dX1_thingAt_28 : decode cX1_thingAt 28 = .ok (.goto (-26), 3) := by decide +kernel
theorem dX1_thingAt_31 : decode cX1_thingAt 31 = .ok (.iconst (-1), 1) := by decide +kernel
theorem dX1_thingAt_32 : decode cX1_thingAt 32 = .ok (.ireturn, 1) := by decide +kernel
set_option maxRecDepth 20000 in
theorem ggX1_thingsIn_X8_ringOfCell : GoodIn wsX1_thingsIn wsX8_ringOfCell := goodIn_r _ [4] (by decide +kernel) (by decide +kernel)
set_option maxRecDepth 20000 in
theorem gX1_thingsIn_X8_ringOfCell_n42 : GoodIn wsX1_thingsIn (wsX8_ringOfCell) := ggX1_thingsIn_X8_ringOfCell
theorem dX1_thingsIn_0 : decode cX1_thingsIn 0 = .ok (.iconst 0, 1) := by decide +kernel
theorem dX1_thingsIn_1 : decode cX1_thingsIn 1 = .ok (.istore_n 3, 1) := by decide +kernel
theorem dX1_thingsIn_2 : decode cX1_thingsIn 2 = .ok (.iconst 0, 1) := by decide +kernel
theorem dX1_thingsIn_3 : decode cX1_thingsIn 3 = .ok (.istore 4, 2) := by decide +kernel
theorem dX1_thingsIn_5 : decode cX1_thingsIn 5 = .ok (.iload 4, 2) := by decide +kernel
theorem dX1_thingsIn_7 : decode cX1_thingsIn 7 = .ok (.iload_n 2, 1) := by decide +kernel
theorem dX1_thingsIn_8 : decode cX1_thingsIn 8 = .ok (.if_icmp .ge 37, 3) := by decide +kernel
theorem dX1_thingsIn_11 : decode cX1_thingsIn 11 = .ok (.iload 4, 2) := by decide +kernel
theorem dX1_thingsIn_13 : decode cX1_thingsIn 13 = .ok (.bipush 7, 2) := by decide +kernel
theorem dX1_thingsIn_15 : decode cX1_thingsIn 15 = .ok (.if_icmp .ge 30, 3) := by decide +kernel
theorem dX1_thingsIn_18 : decode cX1_thingsIn 18 = .ok (.aload_n 0, 1) := by decide +kernel
theorem dX1_thingsIn_19 : decode cX1_thingsIn 19 = .ok (.getfield 11, 3) := by decide +kernel
theorem dX1_thingsIn_22 : decode cX1_thingsIn 22 = .ok (.iload 4, 2) := by decide +kernel
theorem dX1_thingsIn_24 : decode cX1_thingsIn 24 = .ok (.iaload, 1) := by decide +kernel
theorem dX1_thingsIn_25 : decode cX1_thingsIn 25 = .ok (.invokestatic 42, 3) := by decide +kernel
theorem dX1_thingsIn_28 : decode cX1_thingsIn 28 = .ok (.iload_n 1, 1) := by decide +kernel
theorem dX1_thingsIn_29 : decode cX1_thingsIn 29 = .ok (.if_icmp .ne 10, 3) := by decide +kernel
theorem dX1_thingsIn_32 : decode cX1_thingsIn 32 = .ok (.iload_n 3, 1) := by decide +kernel
theorem dX1_thingsIn_33 : decode cX1_thingsIn 33 = .ok (.iconst 1, 1) := by decide +kernel
theorem dX1_thingsIn_34 : decode cX1_thingsIn 34 = .ok (.iload 4, 2) := by decide +kernel
theorem dX1_thingsIn_36 : decode cX1_thingsIn 36 = .ok (.ishl, 1) := by decide +kernel
theorem dX1_thingsIn_37 : decode cX1_thingsIn 37 = .ok (.ior, 1) := by decide +kernel
theorem dX1_thingsIn_38 : decode cX1_thingsIn 38 = .ok (.istore_n 3, 1) := by decide +kernel
theorem dX1_thingsIn_39 : decode cX1_thingsIn 39 = .ok (.iinc 4 1, 3) := by decide +kernel
theorem dX1_thingsIn_42 : decode cX1_thingsIn 42 = .ok (.goto (-37), 3) := by decide +kernel
theorem dX1_thingsIn_45 : decode cX1_thingsIn 45 = .ok (.iload_n 3, 1) := by decide +kernel
theorem dX1_thingsIn_46 : decode cX1_thingsIn 46 = .ok (.ireturn, 1) := by decide +kernel
theorem dX1_turnHeld_0 : decode cX1_turnHeld 0 = .ok (.aload_n 0, 1) := by decide +kernel
theorem dX1_turnHeld_1 : decode cX1_turnHeld 1 = .ok (.getfield 11, 3) := by decide +kernel
theorem dX1_turnHeld_4 : decode cX1_turnHeld 4 = .ok (.bipush 7, 2) := by decide +kernel
theorem dX1_turnHeld_6 : decode cX1_turnHeld 6 = .ok (.dup2, 1) := by decide +kernel
theorem dX1_turnHeld_7 : decode cX1_turnHeld 7 = .ok (.iaload, 1) := by decide +kernel
theorem dX1_turnHeld_8 : decode cX1_turnHeld 8 = .ok (.iconst 1, 1) := by decide +kernel
theorem dX1_turnHeld_9 : decode cX1_turnHeld 9 = .ok (.iload_n 1, 1) := by decide +kernel
theorem dX1_turnHeld_10 : decode cX1_turnHeld 10 = .ok (.ishl, 1) := by decide +kernel
theorem dX1_turnHeld_11 : decode cX1_turnHeld 11 = .ok (.ixor, 1) := by decide +kernel
theorem dX1_turnHeld_12 : decode cX1_turnHeld 12 = .ok (.iastore, 1) := by decide +kernel
theorem dX1_turnHeld_13 : decode cX1_turnHeld 13 = .ok (.return_, 1) := by decide +kernel
theorem dX1_move_0 : decode cX1_move 0 = .ok (.iload_n 1, 1) := by decide +kernel
theorem dX1_move_1 : decode cX1_move 1 = .ok (.ifCond .lt 16, 3) := by decide +kernel
theorem dX1_move_4 : decode cX1_move 4 = .ok (.iload_n 1, 1) := by decide +kernel
theorem dX1_move_5 : decode cX1_move 5 = .ok (.bipush 7, 2) := by decide +kernel
theorem dX1_move_7 : decode cX1_move 7 = .ok (.if_icmp .ge 10, 3) := by decide +kernel
theorem dX1_move_10 : decode cX1_move 10 = .ok (.aload_n 0, 1) := by decide +kernel
theorem dX1_move_11 : decode cX1_move 11 = .ok (.getfield 11, 3) := by decide +kernel
theorem dX1_move_14 : decode cX1_move 14 = .ok (.iload_n 1, 1) := by decide +kernel
theorem dX1_move_15 : decode cX1_move 15 = .ok (.iload_n 2, 1) := by decide +kernel
theorem dX1_move_16 : decode cX1_move 16 = .ok (.iastore, 1) := by decide +kernel
theorem dX1_move_17 : decode cX1_move 17 = .ok (.return_, 1) := by decide +kernel
theorem dX1_nextNight_0 : decode cX1_nextNight 0 = .ok (.aload_n 0, 1) := by decide +kernel
theorem dX1_nextNight_1 : decode cX1_nextNight 1 = .ok (.getfield 11, 3) := by decide +kernel
theorem dX1_nextNight_4 : decode cX1_nextNight 4 = .ok (.bipush 8, 2) := by decide +kernel
theorem dX1_nextNight_6 : decode cX1_nextNight 6 = .ok (.dup2, 1) := by decide +kernel
theorem dX1_nextNight_7 : decode cX1_nextNight 7 = .ok (.iaload, 1) := by decide +kernel
theorem dX1_nextNight_8 : decode cX1_nextNight 8 = .ok (.iconst 1, 1) := by decide +kernel
theorem dX1_nextNight_9 : decode cX1_nextNight 9 = .ok (.iadd, 1) := by decide +kernel
theorem dX1_nextNight_10 : decode cX1_nextNight 10 = .ok (.iastore, 1) := by decide +kernel
theorem dX1_nextNight_11 : decode cX1_nextNight 11 = .ok (.return_, 1) := by decide +kernel
theorem dX1_keep_0 : decode cX1_keep 0 = .ok (.aload_n 0, 1) := by decide +kernel
theorem dX1_keep_1 : decode cX1_keep 1 = .ok (.getfield 45, 3) := by decide +kernel
theorem dX1_keep_4 : decode cX1_keep 4 = .ok (.ifCond .lt 12, 3) := by decide +kernel
theorem dX1_keep_7 : decode cX1_keep 7 = .ok (.aload_n 0, 1) := by decide +kernel
theorem dX1_keep_8 : decode cX1_keep 8 = .ok (.getfield 45, 3) := by decide +kernel
theorem dX1_keep_11 : decode cX1_keep 11 = .ok (.bipush 16, 2) := by decide +kernel
theorem dX1_keep_13 : decode cX1_keep 13 = .ok (.if_icmp .lt 8, 3) := by decide +kernel
theorem dX1_keep_16 : decode cX1_keep 16 = .ok (.aload_n 0, 1) := by decide +kernel
theorem dX1_keep_17 : decode cX1_keep 17 = .ok (.iconst 0, 1) := by decide +kernel
theorem dX1_keep_18 : decode cX1_keep 18 = .ok (.putfield 45, 3) := by decide +kernel
theorem dX1_keep_21 : decode cX1_keep 21 = .ok (.aload_n 0, 1) := by decide +kernel
theorem dX1_keep_22 : decode cX1_keep 22 = .ok (.getfield 11, 3) := by decide +kernel
theorem dX1_keep_25 : decode cX1_keep 25 = .ok (.iconst 0, 1) := by decide +kernel
theorem dX1_keep_26 : decode cX1_keep 26 = .ok (.aload_n 0, 1) := by decide +kernel
theorem dX1_keep_27 : decode cX1_keep 27 = .ok (.getfield 17, 3) := by decide +kernel
theorem dX1_keep_30 : decode cX1_keep 30 = .ok (.aload_n 0, 1) := by decide +kernel
theorem dX1_keep_31 : decode cX1_keep 31 = .ok (.getfield 45, 3) := by decide +kernel
theorem dX1_keep_34 : decode cX1_keep 34 = .ok (.aaload, 1) := by decide +kernel
theorem dX1_keep_35 : decode cX1_keep 35 = .ok (.iconst 0, 1) := by decide +kernel
theorem dX1_keep_36 : decode cX1_keep 36 = .ok (.bipush 9, 2) := by decide +kernel
theorem dX1_keep_38 : decode cX1_keep 38 = .ok (.invokestatic 48, 3) := by decide +kernel
theorem dX1_keep_41 : decode cX1_keep 41 = .ok (.aload_n 0, 1) := by decide +kernel
theorem dX1_keep_42 : decode cX1_keep 42 = .ok (.aload_n 0, 1) := by decide +kernel
theorem dX1_keep_43 : decode cX1_keep 43 = .ok (.getfield 45, 3) := by decide +kernel
theorem dX1_keep_46 : decode cX1_keep 46 = .ok (.iconst 1, 1) := by decide +kernel
theorem dX1_keep_47 : decode cX1_keep 47 = .ok (.iadd, 1) := by decide +kernel
theorem dX1_keep_48 : decode cX1_keep 48 = .ok (.bipush 16, 2) := by decide +kernel
theorem dX1_keep_50 : decode cX1_keep 50 = .ok (.if_icmp .ge 12, 3) := by decide +kernel
theorem dX1_keep_53 : decode cX1_keep 53 = .ok (.aload_n 0, 1) := by decide +kernel
theorem dX1_keep_54 : decode cX1_keep 54 = .ok (.getfield 45, 3) := by decide +kernel
theorem dX1_keep_57 : decode cX1_keep 57 = .ok (.iconst 1, 1) := by decide +kernel
theorem dX1_keep_58 : decode cX1_keep 58 = .ok (.iadd, 1) := by decide +kernel
theorem dX1_keep_59 : decode cX1_keep 59 = .ok (.goto 4, 3) := by decide +kernel
theorem dX1_keep_62 : decode cX1_keep 62 = .ok (.iconst 0, 1) := by decide +kernel
theorem dX1_keep_63 : decode cX1_keep 63 = .ok (.putfield 45, 3) := by decide +kernel
theorem dX1_keep_66 : decode cX1_keep 66 = .ok (.aload_n 0, 1) := by decide +kernel
theorem dX1_keep_67 : decode cX1_keep 67 = .ok (.aload_n 0, 1) := by decide +kernel
theorem dX1_keep_68 : decode cX1_keep 68 = .ok (.getfield 35, 3) := by decide +kernel
theorem dX1_keep_71 : decode cX1_keep 71 = .ok (.bipush 16, 2) := by decide +kernel
theorem dX1_keep_73 : decode cX1_keep 73 = .ok (.if_icmp .ge 12, 3) := by decide +kernel
theorem dX1_keep_76 : decode cX1_keep 76 = .ok (.aload_n 0, 1) := by decide +kernel
theorem dX1_keep_77 : decode cX1_keep 77 = .ok (.getfield 35, 3) := by decide +kernel
theorem dX1_keep_80 : decode cX1_keep 80 = .ok (.iconst 1, 1) := by decide +kernel
theorem dX1_keep_81 : decode cX1_keep 81 = .ok (.iadd, 1) := by decide +kernel
theorem dX1_keep_82 : decode cX1_keep 82 = .ok (.goto 5, 3) := by decide +kernel
theorem dX1_keep_85 : decode cX1_keep 85 = .ok (.bipush 16, 2) := by decide +kernel
theorem dX1_keep_87 : decode cX1_keep 87 = .ok (.putfield 35, 3) := by decide +kernel
theorem dX1_keep_90 : decode cX1_keep 90 = .ok (.return_, 1) := by decide +kernel
theorem dX1_takeBack_0 : decode cX1_takeBack 0 = .ok (.aload_n 0, 1) := by decide +kernel
theorem dX1_takeBack_1 : decode cX1_takeBack 1 = .ok (.getfield 35, 3) := by decide +kernel
theorem dX1_takeBack_4 : decode cX1_takeBack 4 = .ok (.ifCond .gt 5, 3) := by decide +kernel
theorem dX1_takeBack_7 : decode cX1_takeBack 7 = .ok (.iconst 0, 1) := by decide +kernel
theorem dX1_takeBack_8 : decode cX1_takeBack 8 = .ok (.ireturn, 1) := by decide +kernel
theorem dX1_takeBack_9 : decode cX1_takeBack 9 = .ok (.aload_n 0, 1) := by decide +kernel
theorem dX1_takeBack_10 : decode cX1_takeBack 10 = .ok (.aload_n 0, 1) := by decide +kernel
theorem dX1_takeBack_11 : decode cX1_takeBack 11 = .ok (.getfield 45, 3) := by decide +kernel
theorem dX1_takeBack_14 : decode cX1_takeBack 14 = .ok (.ifCond .le 21, 3) := by decide +kernel
theorem dX1_takeBack_17 : decode cX1_takeBack 17 = .ok (.aload_n 0, 1) := by decide +kernel
theorem dX1_takeBack_18 : decode cX1_takeBack 18 = .ok (.getfield 45, 3) := by decide +kernel
theorem dX1_takeBack_21 : decode cX1_takeBack 21 = .ok (.bipush 16, 2) := by decide +kernel
theorem dX1_takeBack_23 : decode cX1_takeBack 23 = .ok (.if_icmp .ge 12, 3) := by decide +kernel
theorem dX1_takeBack_26 : decode cX1_takeBack 26 = .ok (.aload_n 0, 1) := by decide +kernel
theorem dX1_takeBack_27 : decode cX1_takeBack 27 = .ok (.getfield 45, 3) := by decide +kernel
theorem dX1_takeBack_30 : decode cX1_takeBack 30 = .ok (.iconst 1, 1) := by decide +kernel
theorem dX1_takeBack_31 : decode cX1_takeBack 31 = .ok (.isub, 1) := by decide +kernel
theorem dX1_takeBack_32 : decode cX1_takeBack 32 = .ok (.goto 5, 3) := by decide +kernel
theorem dX1_takeBack_35 : decode cX1_takeBack 35 = .ok (.bipush 15, 2) := by decide +kernel
theorem dX1_takeBack_37 : decode cX1_takeBack 37 = .ok (.putfield 45, 3) := by decide +kernel
theorem dX1_takeBack_40 : decode cX1_takeBack 40 = .ok (.aload_n 0, 1) := by decide +kernel
theorem dX1_takeBack_41 : decode cX1_takeBack 41 = .ok (.getfield 17, 3) := by decide +kernel
theorem dX1_takeBack_44 : decode cX1_takeBack 44 = .ok (.aload_n 0, 1) := by decide +kernel
theorem dX1_takeBack_45 : decode cX1_takeBack 45 = .ok (.getfield 45, 3) := by decide +kernel
theorem dX1_takeBack_48 : decode cX1_takeBack 48 = .ok (.aaload, 1) := by decide +kernel
theorem dX1_takeBack_49 : decode cX1_takeBack 49 = .ok (.iconst 0, 1) := by decide +kernel
theorem dX1_takeBack_50 : decode cX1_takeBack 50 = .ok (.aload_n 0, 1) := by decide +kernel
theorem dX1_takeBack_51 : decode cX1_takeBack 51 = .ok (.getfield 11, 3) := by decide +kernel
theorem dX1_takeBack_54 : decode cX1_takeBack 54 = .ok (.iconst 0, 1) := by decide +kernel
theorem dX1_takeBack_55 : decode cX1_takeBack 55 = .ok (.bipush 9, 2) := by decide +kernel
theorem dX1_takeBack_57 : decode cX1_takeBack 57 = .ok (.invokestatic 48, 3) := by decide +kernel
theorem dX1_takeBack_60 : decode cX1_takeBack 60 = .ok (.aload_n 0, 1) := by decide +kernel
theorem dX1_takeBack_61 : decode cX1_takeBack 61 = .ok (.dup, 1) := by decide +kernel
theorem dX1_takeBack_62 : decode cX1_takeBack 62 = .ok (.getfield 35, 3) := by decide +kernel
theorem dX1_takeBack_65 : decode cX1_takeBack 65 = .ok (.iconst 1, 1) := by decide +kernel
theorem dX1_takeBack_66 : decode cX1_takeBack 66 = .ok (.isub, 1) := by decide +kernel
theorem dX1_takeBack_67 : decode cX1_takeBack 67 = .ok (.putfield 35, 3) := by decide +kernel
theorem dX1_takeBack_70 : decode cX1_takeBack 70 = .ok (.iconst 1, 1) := by decide +kernel
theorem dX1_takeBack_71 : decode cX1_takeBack 71 = .ok (.ireturn, 1) := by decide +kernel
theorem dX1_takeImage_0 : decode cX1_takeImage 0 = .ok (.aload_n 0, 1) := by decide +kernel
theorem dX1_takeImage_1 : decode cX1_takeImage 1 = .ok (.getfield 39, 3) := by decide +kernel
theorem dX1_takeImage_4 : decode cX1_takeImage 4 = .ok (.ifCond .lt 11, 3) := by decide +kernel
theorem dX1_takeImage_7 : decode cX1_takeImage 7 = .ok (.aload_n 0, 1) := by decide +kernel
theorem dX1_takeImage_8 : decode cX1_takeImage 8 = .ok (.getfield 39, 3) := by decide +kernel
theorem dX1_takeImage_11 : decode cX1_takeImage 11 = .ok (.iconst 3, 1) := by decide +kernel
theorem dX1_takeImage_12 : decode cX1_takeImage 12 = .ok (.if_icmp .lt 5, 3) := by decide +kernel
theorem dX1_takeImage_15 : decode cX1_takeImage 15 = .ok (.iconst (-1), 1) := by decide +kernel
theorem dX1_takeImage_16 : decode cX1_takeImage 16 = .ok (.ireturn, 1) := by decide +kernel
theorem dX1_takeImage_17 : decode cX1_takeImage 17 = .ok (.aload_n 0, 1) := by decide +kernel
theorem dX1_takeImage_18 : decode cX1_takeImage 18 = .ok (.getfield 11, 3) := by decide +kernel
theorem dX1_takeImage_21 : decode cX1_takeImage 21 = .ok (.iconst 0, 1) := by decide +kernel
theorem dX1_takeImage_22 : decode cX1_takeImage 22 = .ok (.aload_n 0, 1) := by decide +kernel
theorem dX1_takeImage_23 : decode cX1_takeImage 23 = .ok (.getfield 20, 3) := by decide +kernel
theorem dX1_takeImage_26 : decode cX1_takeImage 26 = .ok (.aload_n 0, 1) := by decide +kernel
theorem dX1_takeImage_27 : decode cX1_takeImage 27 = .ok (.getfield 39, 3) := by decide +kernel
theorem dX1_takeImage_30 : decode cX1_takeImage 30 = .ok (.aaload, 1) := by decide +kernel
theorem dX1_takeImage_31 : decode cX1_takeImage 31 = .ok (.iconst 0, 1) := by decide +kernel
theorem dX1_takeImage_32 : decode cX1_takeImage 32 = .ok (.bipush 9, 2) := by decide +kernel
theorem dX1_takeImage_34 : decode cX1_takeImage 34 = .ok (.invokestatic 48, 3) := by decide +kernel
theorem dX1_takeImage_37 : decode cX1_takeImage 37 = .ok (.aload_n 0, 1) := by decide +kernel
theorem dX1_takeImage_38 : decode cX1_takeImage 38 = .ok (.dup, 1) := by decide +kernel
theorem dX1_takeImage_39 : decode cX1_takeImage 39 = .ok (.getfield 39, 3) := by decide +kernel
theorem dX1_takeImage_42 : decode cX1_takeImage 42 = .ok (.iconst 1, 1) := by decide +kernel
theorem dX1_takeImage_43 : decode cX1_takeImage 43 = .ok (.iadd, 1) := by decide +kernel
theorem dX1_takeImage_44 : decode cX1_takeImage 44 = .ok (.putfield 39, 3) := by decide +kernel
theorem dX1_takeImage_47 : decode cX1_takeImage 47 = .ok (.aload_n 0, 1) := by decide +kernel
theorem dX1_takeImage_48 : decode cX1_takeImage 48 = .ok (.getfield 39, 3) := by decide +kernel
theorem dX1_takeImage_51 : decode cX1_takeImage 51 = .ok (.iconst 1, 1) := by decide +kernel
theorem dX1_takeImage_52 : decode cX1_takeImage 52 = .ok (.isub, 1) := by decide +kernel
theorem dX1_takeImage_53 : decode cX1_takeImage 53 = .ok (.ireturn, 1) := by decide +kernel
theorem dX1_returnTo_0 : decode cX1_returnTo 0 = .ok (.iload_n 1, 1) := by decide +kernel
theorem dX1_returnTo_1 : decode cX1_returnTo 1 = .ok (.ifCond .lt 16, 3) := by decide +kernel
theorem dX1_returnTo_4 : decode cX1_returnTo 4 = .ok (.iload_n 1, 1) := by decide +kernel
theorem dX1_returnTo_5 : decode cX1_returnTo 5 = .ok (.aload_n 0, 1) := by decide +kernel
theorem dX1_returnTo_6 : decode cX1_returnTo 6 = .ok (.getfield 39, 3) := by decide +kernel
theorem dX1_returnTo_9 : decode cX1_returnTo 9 = .ok (.if_icmp .ge 8, 3) := by decide +kernel
theorem dX1_returnTo_12 : decode cX1_returnTo 12 = .ok (.iload_n 1, 1) := by decide +kernel
theorem dX1_returnTo_13 : decode cX1_returnTo 13 = .ok (.iconst 3, 1) := by decide +kernel
theorem dX1_returnTo_14 : decode cX1_returnTo 14 = .ok (.if_icmp .lt 5, 3) := by decide +kernel
theorem dX1_returnTo_17 : decode cX1_returnTo 17 = .ok (.iconst 0, 1) := by decide +kernel
theorem dX1_returnTo_18 : decode cX1_returnTo 18 = .ok (.ireturn, 1) := by decide +kernel
theorem dX1_returnTo_19 : decode cX1_returnTo 19 = .ok (.aload_n 0, 1) := by decide +kernel
theorem dX1_returnTo_20 : decode cX1_returnTo 20 = .ok (.getfield 20, 3) := by decide +kernel
theorem dX1_returnTo_23 : decode cX1_returnTo 23 = .ok (.iload_n 1, 1) := by decide +kernel
theorem dX1_returnTo_24 : decode cX1_returnTo 24 = .ok (.aaload, 1) := by decide +kernel
theorem dX1_returnTo_25 : decode cX1_returnTo 25 = .ok (.iconst 0, 1) := by decide +kernel
theorem dX1_returnTo_26 : decode cX1_returnTo 26 = .ok (.aload_n 0, 1) := by decide +kernel
theorem dX1_returnTo_27 : decode cX1_returnTo 27 = .ok (.getfield 11, 3) := by decide +kernel
theorem dX1_returnTo_30 : decode cX1_returnTo 30 = .ok (.iconst 0, 1) := by decide +kernel
theorem dX1_returnTo_31 : decode cX1_returnTo 31 = .ok (.bipush 9, 2) := by decide +kernel
theorem dX1_returnTo_33 : decode cX1_returnTo 33 = .ok (.invokestatic 48, 3) := by decide +kernel
theorem dX1_returnTo_36 : decode cX1_returnTo 36 = .ok (.aload_n 0, 1) := by decide +kernel
theorem dX1_returnTo_37 : decode cX1_returnTo 37 = .ok (.iconst 0, 1) := by decide +kernel
theorem dX1_returnTo_38 : decode cX1_returnTo 38 = .ok (.putfield 35, 3) := by decide +kernel
theorem dX1_returnTo_41 : decode cX1_returnTo 41 = .ok (.iconst 1, 1) := by decide +kernel
theorem dX1_returnTo_42 : decode cX1_returnTo 42 = .ok (.ireturn, 1) := by decide +kernel
theorem dX2_gain_0 : decode cX2_gain 0 = .ok (.iconst 0, 1) := by decide +kernel
theorem dX2_gain_1 : decode cX2_gain 1 = .ok (.istore_n 3, 1) := by decide +kernel
theorem dX2_gain_2 : decode cX2_gain 2 = .ok (.iload_n 1, 1) := by decide +kernel
theorem dX2_gain_3 : decode cX2_gain 3 = .ok (.iload_n 2, 1) := by decide +kernel
theorem dX2_gain_4 : decode cX2_gain 4 = .ok (.if_icmp .le 8, 3) := by decide +kernel
theorem dX2_gain_7 : decode cX2_gain 7 = .ok (.iload_n 0, 1) := by decide +kernel
theorem dX2_gain_8 : decode cX2_gain 8 = .ok (.istore_n 3, 1) := by decide +kernel
theorem dX2_gain_9 : decode cX2_gain 9 = .ok (.goto 12, 3) := by decide +kernel
theorem dX2_gain_12 : decode cX2_gain 12 = .ok (.iload_n 1, 1) := by decide +kernel
theorem dX2_gain_13 : decode cX2_gain 13 = .ok (.iload_n 2, 1) := by decide +kernel
theorem dX2_gain_14 : decode cX2_gain 14 = .ok (.if_icmp .ne 7, 3) := by decide +kernel
theorem dX2_gain_17 : decode cX2_gain 17 = .ok (.iload_n 0, 1) := by decide +kernel
theorem dX2_gain_18 : decode cX2_gain 18 = .ok (.iconst 2, 1) := by decide +kernel
theorem dX2_gain_19 : decode cX2_gain 19 = .ok (.idiv, 1) := by decide +kernel
theorem dX2_gain_20 : decode cX2_gain 20 = .ok (.istore_n 3, 1) := by decide +kernel
theorem dX2_gain_21 : decode cX2_gain 21 = .ok (.iload_n 3, 1) := by decide +kernel
theorem dX2_gain_22 : decode cX2_gain 22 = .ok (.iload_n 1, 1) := by decide +kernel
theorem dX2_gain_23 : decode cX2_gain 23 = .ok (.iload_n 1, 1) := by decide +kernel
theorem dX2_gain_24 : decode cX2_gain 24 = .ok (.imul, 1) := by decide +kernel
theorem dX2_gain_25 : decode cX2_gain 25 = .ok (.isub, 1) := by decide +kernel
theorem dX2_gain_26 : decode cX2_gain 26 = .ok (.ireturn, 1) := by decide +kernel
set_option maxRecDepth 20000 in
theorem ggX2_areAtRest_X2_gain : GoodIn wsX2_areAtRest wsX2_gain := goodIn_r _ [4] (by decide +kernel) (by decide +kernel)
set_option maxRecDepth 20000 in
theorem gX2_areAtRest_X2_gain : GoodIn wsX2_areAtRest (va_wsS RX2 9 yX2_gain wsX2_gain) := goodIn_app (goodIn_of _ (by decide +kernel)) ggX2_areAtRest_X2_gain
theorem dX2_areAtRest_0 : decode cX2_areAtRest 0 = .ok (.iload_n 0, 1) := by decide +kernel
theorem dX2_areAtRest_1 : decode cX2_areAtRest 1 = .ok (.iload_n 1, 1) := by decide +kernel
theorem dX2_areAtRest_2 : decode cX2_areAtRest 2 = .ok (.iload_n 2, 1) := by decide +kernel
theorem dX2_areAtRest_3 : decode cX2_areAtRest 3 = .ok (.invokestatic 9, 3) := by decide +kernel
theorem dX2_areAtRest_6 : decode cX2_areAtRest 6 = .ok (.istore_n 3, 1) := by decide +kernel
theorem dX2_areAtRest_7 : decode cX2_areAtRest 7 = .ok (.iload_n 0, 1) := by decide +kernel
theorem dX2_areAtRest_8 : decode cX2_areAtRest 8 = .ok (.iload_n 2, 1) := by decide +kernel
theorem dX2_areAtRest_9 : decode cX2_areAtRest 9 = .ok (.iload_n 1, 1) := by decide +kernel
theorem dX2_areAtRest_10 : decode cX2_areAtRest 10 = .ok (.invokestatic 9, 3) := by decide +kernel
theorem dX2_areAtRest_13 : decode cX2_areAtRest 13 = .ok (.istore 4, 2) := by decide +kernel
theorem dX2_areAtRest_15 : decode cX2_areAtRest 15 = .ok (.iconst 0, 1) := by decide +kernel
theorem dX2_areAtRest_16 : decode cX2_areAtRest 16 = .ok (.istore 5, 2) := by decide +kernel
theorem dX2_areAtRest_18 : decode cX2_areAtRest 18 = .ok (.iload 5, 2) := by decide +kernel
theorem dX2_areAtRest_20 : decode cX2_areAtRest 20 = .ok (.bipush 6, 2) := by decide +kernel
theorem dX2_areAtRest_22 : decode cX2_areAtRest 22 = .ok (.if_icmp .gt 34, 3) := by decide +kernel
theorem dX2_areAtRest_25 : decode cX2_areAtRest 25 = .ok (.iload_n 0, 1) := by decide +kernel
theorem dX2_areAtRest_26 : decode cX2_areAtRest 26 = .ok (.iload 5, 2) := by decide +kernel
theorem dX2_areAtRest_28 : decode cX2_areAtRest 28 = .ok (.iload_n 2, 1) := by decide +kernel
theorem dX2_areAtRest_29 : decode cX2_areAtRest 29 = .ok (.invokestatic 9, 3) := by decide +kernel
theorem dX2_areAtRest_32 : decode cX2_areAtRest 32 = .ok (.iload_n 3, 1) := by decide +kernel
theorem dX2_areAtRest_33 : decode cX2_areAtRest 33 = .ok (.if_icmp .gt 15, 3) := by decide +kernel
theorem dX2_areAtRest_36 : decode cX2_areAtRest 36 = .ok (.iload_n 0, 1) := by decide +kernel
theorem dX2_areAtRest_37 : decode cX2_areAtRest 37 = .ok (.iload 5, 2) := by decide +kernel
theorem dX2_areAtRest_39 : decode cX2_areAtRest 39 = .ok (.iload_n 1, 1) := by decide +kernel
theorem dX2_areAtRest_40 : decode cX2_areAtRest 40 = .ok (.invokestatic 9, 3) := by decide +kernel
theorem dX2_areAtRest_43 : decode cX2_areAtRest 43 = .ok (.iload 4, 2) := by decide +kernel
theorem dX2_areAtRest_45 : decode cX2_areAtRest 45 = .ok (.if_icmp .le 5, 3) := by decide +kernel
theorem dX2_areAtRest_48 : decode cX2_areAtRest 48 = .ok (.iconst 0, 1) := by decide +kernel
theorem dX2_areAtRest_49 : decode cX2_areAtRest 49 = .ok (.ireturn, 1) := by decide +kernel
theorem dX2_areAtRest_50 : decode cX2_areAtRest 50 = .ok (.iinc 5 1, 3) := by decide +kernel
theorem dX2_areAtRest_53 : decode cX2_areAtRest 53 = .ok (.goto (-35), 3) := by decide +kernel
theorem dX2_areAtRest_56 : decode cX2_areAtRest 56 = .ok (.iconst 1, 1) := by decide +kernel
theorem dX2_areAtRest_57 : decode cX2_areAtRest 57 = .ok (.ireturn, 1) := by decide +kernel
set_option maxRecDepth 20000 in
theorem ggX3_init_X6_init : GoodIn wsX3_init wsX6_init := goodIn_r _ [9, 10, 2, 3, 11, 12, 13, 14, 15, 16, 17, 18, 19, 20, 21, 22, 23, 24, 25, 26, 27, 28, 29, 30, 31, 32, 33, 34, 35, 36, 37, 38, 39, 40, 41, 42, 43, 44, 45, 46, 47, 48, 49, 50, 51, 52, 53, 54, 55, 56, 57, 58, 59, 60, 61, 62, 63, 64, 66, 67, 68, 69, 70, 71, 72, 73, 74, 75, 76, 77, 78, 79, 80, 81, 82, 83, 84, 85, 86, 87, 88, 89, 90] (by decide +kernel) (by decide +kernel)
set_option maxRecDepth 20000 in
theorem gX3_init_X6_init_n11 : GoodIn wsX3_init (wsX6_init) := ggX3_init_X6_init
theorem dX3_init_0 : decode cX3_init 0 = .ok (.aload_n 0, 1) := by decide +kernel
theorem dX3_init_1 : decode cX3_init 1 = .ok (.invokespecial 3, 3) := by decide +kernel
theorem dX3_init_4 : decode cX3_init 4 = .ok (.aload_n 0, 1) := by decide +kernel
theorem dX3_init_5 : decode cX3_init 5 = .ok (.new 9, 3) := by decide +kernel
theorem dX3_init_8 : decode cX3_init 8 = .ok (.dup, 1) := by decide +kernel
theorem dX3_init_9 : decode cX3_init 9 = .ok (.invokespecial 11, 3) := by decide +kernel
theorem dX3_init_12 : decode cX3_init 12 = .ok (.putfield 12, 3) := by decide +kernel
theorem dX3_init_15 : decode cX3_init 15 = .ok (.return_, 1) := by decide +kernel
set_option maxRecDepth 20000 in
theorem ggX3_freeIn_X1_cellOf : GoodIn wsX3_freeIn wsX1_cellOf := goodIn_r _ [6, 7, 41, 42, 43, 44, 45, 46] (by decide +kernel) (by decide +kernel)
set_option maxRecDepth 20000 in
theorem gX3_freeIn_X1_cellOf : GoodIn wsX3_freeIn (wsV RX3 24 RX1 yX1_cellOf wsX1_cellOf) := goodIn_app (goodIn_of _ (by decide +kernel)) ggX3_freeIn_X1_cellOf
set_option maxRecDepth 20000 in
theorem ggX3_freeIn_X8_ringOfCell : GoodIn wsX3_freeIn wsX8_ringOfCell := goodIn_r _ [10] (by decide +kernel) (by decide +kernel)
set_option maxRecDepth 20000 in
theorem gX3_freeIn_X8_ringOfCell_n30 : GoodIn wsX3_freeIn (wsX8_ringOfCell) := ggX3_freeIn_X8_ringOfCell
set_option maxRecDepth 20000 in
theorem ggX3_freeIn_X1_isHeld : GoodIn wsX3_freeIn wsX1_isHeld := goodIn_r _ [14, 7, 41, 42, 43, 44, 45, 46] (by decide +kernel) (by decide +kernel)
set_option maxRecDepth 20000 in
theorem gX3_freeIn_X1_isHeld : GoodIn wsX3_freeIn (wsV RX3 33 RX1 yX1_isHeld wsX1_isHeld) := goodIn_app (goodIn_of _ (by decide +kernel)) ggX3_freeIn_X1_isHeld
set_option maxRecDepth 20000 in
theorem ggX3_freeIn_X4_kindOf : GoodIn wsX3_freeIn wsX4_kindOf := goodIn_r _ [19, 20, 21, 22, 23, 24, 25, 26, 27, 28, 29, 30, 31, 32, 33, 34, 35, 36, 37, 38, 39, 40] (by decide +kernel) (by decide +kernel)
set_option maxRecDepth 20000 in
theorem gX3_freeIn_X4_kindOf : GoodIn wsX3_freeIn (wsV RX3 37 RX4 yX4_kindOf wsX4_kindOf) := goodIn_app (goodIn_of _ (by decide +kernel)) ggX3_freeIn_X4_kindOf
theorem dX3_freeIn_0 : decode cX3_freeIn 0 = .ok (.iconst 0, 1) := by decide +kernel
theorem dX3_freeIn_1 : decode cX3_freeIn 1 = .ok (.istore_n 3, 1) := by decide +kernel
theorem dX3_freeIn_2 : decode cX3_freeIn 2 = .ok (.iconst 0, 1) := by decide +kernel
theorem dX3_freeIn_3 : decode cX3_freeIn 3 = .ok (.istore 4, 2) := by decide +kernel
theorem dX3_freeIn_5 : decode cX3_freeIn 5 = .ok (.iload 4, 2) := by decide +kernel
theorem dX3_freeIn_7 : decode cX3_freeIn 7 = .ok (.aload_n 0, 1) := by decide +kernel
theorem dX3_freeIn_8 : decode cX3_freeIn 8 = .ok (.getfield 18, 3) := by decide +kernel
theorem dX3_freeIn_11 : decode cX3_freeIn 11 = .ok (.if_icmp .ge 63, 3) := by decide +kernel
theorem dX3_freeIn_14 : decode cX3_freeIn 14 = .ok (.iload_n 2, 1) := by decide +kernel
theorem dX3_freeIn_15 : decode cX3_freeIn 15 = .ok (.aload_n 1, 1) := by decide +kernel
theorem dX3_freeIn_16 : decode cX3_freeIn 16 = .ok (.iload 4, 2) := by decide +kernel
theorem dX3_freeIn_18 : decode cX3_freeIn 18 = .ok (.invokevirtual 24, 3) := by decide +kernel
theorem dX3_freeIn_21 : decode cX3_freeIn 21 = .ok (.invokestatic 30, 3) := by decide +kernel
theorem dX3_freeIn_24 : decode cX3_freeIn 24 = .ok (.ishr, 1) := by decide +kernel
theorem dX3_freeIn_25 : decode cX3_freeIn 25 = .ok (.iconst 1, 1) := by decide +kernel
theorem dX3_freeIn_26 : decode cX3_freeIn 26 = .ok (.iand, 1) := by decide +kernel
theorem dX3_freeIn_27 : decode cX3_freeIn 27 = .ok (.ifCond .eq 7, 3) := by decide +kernel
theorem dX3_freeIn_30 : decode cX3_freeIn 30 = .ok (.iconst 1, 1) := by decide +kernel
theorem dX3_freeIn_31 : decode cX3_freeIn 31 = .ok (.goto 4, 3) := by decide +kernel
theorem dX3_freeIn_34 : decode cX3_freeIn 34 = .ok (.iconst 0, 1) := by decide +kernel
theorem dX3_freeIn_35 : decode cX3_freeIn 35 = .ok (.istore 5, 2) := by decide +kernel
theorem dX3_freeIn_37 : decode cX3_freeIn 37 = .ok (.iload 5, 2) := by decide +kernel
theorem dX3_freeIn_39 : decode cX3_freeIn 39 = .ok (.ifCond .eq 29, 3) := by decide +kernel
theorem dX3_freeIn_42 : decode cX3_freeIn 42 = .ok (.aload_n 1, 1) := by decide +kernel
theorem dX3_freeIn_43 : decode cX3_freeIn 43 = .ok (.iload 4, 2) := by decide +kernel
theorem dX3_freeIn_45 : decode cX3_freeIn 45 = .ok (.invokevirtual 33, 3) := by decide +kernel
theorem dX3_freeIn_48 : decode cX3_freeIn 48 = .ok (.ifCond .ne 20, 3) := by decide +kernel
theorem dX3_freeIn_51 : decode cX3_freeIn 51 = .ok (.aload_n 0, 1) := by decide +kernel
theorem dX3_freeIn_52 : decode cX3_freeIn 52 = .ok (.iload 4, 2) := by decide +kernel
theorem dX3_freeIn_54 : decode cX3_freeIn 54 = .ok (.invokevirtual 37, 3) := by decide +kernel
theorem dX3_freeIn_57 : decode cX3_freeIn 57 = .ok (.iconst 2, 1) := by decide +kernel
theorem dX3_freeIn_58 : decode cX3_freeIn 58 = .ok (.if_icmp .eq 10, 3) := by decide +kernel
theorem dX3_freeIn_61 : decode cX3_freeIn 61 = .ok (.iload_n 3, 1) := by decide +kernel
theorem dX3_freeIn_62 : decode cX3_freeIn 62 = .ok (.iconst 1, 1) := by decide +kernel
theorem dX3_freeIn_63 : decode cX3_freeIn 63 = .ok (.iload 4, 2) := by decide +kernel
theorem dX3_freeIn_65 : decode cX3_freeIn 65 = .ok (.ishl, 1) := by decide +kernel
theorem dX3_freeIn_66 : decode cX3_freeIn 66 = .ok (.ior, 1) := by decide +kernel
theorem dX3_freeIn_67 : decode cX3_freeIn 67 = .ok (.istore_n 3, 1) := by decide +kernel
theorem dX3_freeIn_68 : decode cX3_freeIn 68 = .ok (.iinc 4 1, 3) := by decide +kernel
theorem dX3_freeIn_71 : decode cX3_freeIn 71 = .ok (.goto (-66), 3) := by decide +kernel
theorem dX3_freeIn_74 : decode cX3_freeIn 74 = .ok (.iload_n 3, 1) := by decide +kernel
theorem dX3_freeIn_75 : decode cX3_freeIn 75 = .ok (.ireturn, 1) := by decide +kernel
set_option maxRecDepth 20000 in
theorem ggX3_isOfThese_J6_bitCount_0f7a4 : GoodIn wsX3_isOfThese wsJ6_bitCount_0f7a4 := goodIn_r _ [4, 5, 6, 7] (by decide +kernel) (by decide +kernel)
set_option maxRecDepth 20000 in
theorem gX3_isOfThese_J6_bitCount_0f7a4 : GoodIn wsX3_isOfThese (va_wsS RX3 40 yJ6_bitCount_0f7a4 wsJ6_bitCount_0f7a4) := goodIn_app (goodIn_of _ (by decide +kernel)) ggX3_isOfThese_J6_bitCount_0f7a4
theorem dX3_isOfThese_0 : decode cX3_isOfThese 0 = .ok (.iload_n 0, 1) := by decide +kernel
theorem dX3_isOfThese_1 : decode cX3_isOfThese 1 = .ok (.iload_n 2, 1) := by decide +kernel
theorem dX3_isOfThese_2 : decode cX3_isOfThese 2 = .ok (.iconst (-1), 1) := by decide +kernel
theorem dX3_isOfThese_3 : decode cX3_isOfThese 3 = .ok (.ixor, 1) := by decide +kernel
theorem dX3_isOfThese_4 : decode cX3_isOfThese 4 = .ok (.iand, 1) := by decide +kernel
theorem dX3_isOfThese_5 : decode cX3_isOfThese 5 = .ok (.ifCond .ne 15, 3) := by decide +kernel
theorem dX3_isOfThese_8 : decode cX3_isOfThese 8 = .ok (.iload_n 0, 1) := by decide +kernel
theorem dX3_isOfThese_9 : decode cX3_isOfThese 9 = .ok (.invokestatic 40, 3) := by decide +kernel
theorem dX3_isOfThese_12 : decode cX3_isOfThese 12 = .ok (.iload_n 1, 1) := by decide +kernel
theorem dX3_isOfThese_13 : decode cX3_isOfThese 13 = .ok (.if_icmp .ne 7, 3) := by decide +kernel
theorem dX3_isOfThese_16 : decode cX3_isOfThese 16 = .ok (.iconst 1, 1) := by decide +kernel
theorem dX3_isOfThese_17 : decode cX3_isOfThese 17 = .ok (.goto 4, 3) := by decide +kernel
theorem dX3_isOfThese_20 : decode cX3_isOfThese 20 = .ok (.iconst 0, 1) := by decide +kernel
theorem dX3_isOfThese_21 : decode cX3_isOfThese 21 = .ok (.ireturn, 1) := by decide +kernel
set_option maxRecDepth 20000 in
theorem ggX3_fewestForPlace_X3_fewest : GoodIn wsX3_fewestForPlace wsX3_fewest := goodIn_r _ [5, 6, 7, 8, 9, 10, 11, 12, 13, 14, 15, 16, 17, 4, 18, 19, 20, 21, 22, 23, 24, 25, 26, 27, 28, 29, 30, 31, 32, 33, 34, 35, 36, 37, 38, 39, 40, 41, 42, 43, 44, 45, 46, 47, 48, 49, 50, 51, 52, 53, 54, 55, 56, 57, 58, 59, 60, 61, 62, 63, 64, 65, 66, 67, 68, 69, 70, 71, 72, 73, 74, 75, 76, 77, 78, 79, 80, 81, 82, 83, 84, 85, 86, 87, 88, 89, 90, 91, 92, 93, 94, 95, 96, 97, 98, 99, 100, 101, 102, 103, 104, 105, 106, 107, 108, 109, 110, 111, 112, 113, 114, 115, 116, 117, 118, 119, 120, 121, 122, 123, 124, 125, 126, 127, 128, 129, 130, 131, 132, 133, 134, 135, 136, 137, 138, 139, 140, 141, 142, 143, 144, 145, 146, 147, 148, 149, 150, 151, 152, 153, 154, 155, 156, 157, 158, 159, 160, 161, 162, 163, 164, 165, 166, 167, 168, 169, 170, 171, 172, 173, 174, 175, 176, 177] (by decide +kernel) (by decide +kernel)
set_option maxRecDepth 20000 in
theorem gX3_fewestForPlace_X3_fewest : GoodIn wsX3_fewestForPlace (wsV RX3 45 RX3 yX3_fewest wsX3_fewest) := goodIn_app (goodIn_of _ (by decide +kernel)) ggX3_fewestForPlace_X3_fewest
theorem dX3_fewestForPlace_0 : decode cX3_fewestForPlace 0 = .ok (.aload_n 0, 1) := by decide +kernel
theorem dX3_fewestForPlace_1 : decode cX3_fewestForPlace 1 = .ok (.aload_n 1, 1) := by decide +kernel
theorem dX3_fewestForPlace_2 : decode cX3_fewestForPlace 2 = .ok (.aload_n 2, 1) := by decide +kernel
theorem dX3_fewestForPlace_3 : decode cX3_fewestForPlace 3 = .ok (.iload_n 3, 1) := by decide +kernel
theorem dX3_fewestForPlace_4 : decode cX3_fewestForPlace 4 = .ok (.iload_n 3, 1) := by decide +kernel
theorem dX3_fewestForPlace_5 : decode cX3_fewestForPlace 5 = .ok (.iload 4, 2) := by decide +kernel
theorem dX3_fewestForPlace_7 : decode cX3_fewestForPlace 7 = .ok (.iload 5, 2) := by decide +kernel
theorem dX3_fewestForPlace_9 : decode cX3_fewestForPlace 9 = .ok (.invokevirtual 45, 3) := by decide +kernel
theorem dX3_fewestForPlace_12 : decode cX3_fewestForPlace 12 = .ok (.ireturn, 1) := by decide +kernel
set_option maxRecDepth 20000 in
theorem ggX3_fewestToMeet_X3_fewest : GoodIn wsX3_fewestToMeet wsX3_fewest := goodIn_r _ [5, 6, 7, 8, 9, 10, 11, 12, 13, 14, 15, 16, 17, 4, 18, 19, 20, 21, 22, 23, 24, 25, 26, 27, 28, 29, 30, 31, 32, 33, 34, 35, 36, 37, 38, 39, 40, 41, 42, 43, 44, 45, 46, 47, 48, 49, 50, 51, 52, 53, 54, 55, 56, 57, 58, 59, 60, 61, 62, 63, 64, 65, 66, 67, 68, 69, 70, 71, 72, 73, 74, 75, 76, 77, 78, 79, 80, 81, 82, 83, 84, 85, 86, 87, 88, 89, 90, 91, 92, 93, 94, 95, 96, 97, 98, 99, 100, 101, 102, 103, 104, 105, 106, 107, 108, 109, 110, 111, 112, 113, 114, 115, 116, 117, 118, 119, 120, 121, 122, 123, 124, 125, 126, 127, 128, 129, 130, 131, 132, 133, 134, 135, 136, 137, 138, 139, 140, 141, 142, 143, 144, 145, 146, 147, 148, 149, 150, 151, 152, 153, 154, 155, 156, 157, 158, 159, 160, 161, 162, 163, 164, 165, 166, 167, 168, 169, 170, 171, 172, 173, 174, 175, 176, 177] (by decide +kernel) (by decide +kernel)
set_option maxRecDepth 20000 in
theorem gX3_fewestToMeet_X3_fewest : GoodIn wsX3_fewestToMeet (wsV RX3 45 RX3 yX3_fewest wsX3_fewest) := goodIn_app (goodIn_of _ (by decide +kernel)) ggX3_fewestToMeet_X3_fewest
theorem dX3_fewestToMeet_0 : decode cX3_fewestToMeet 0 = .ok (.aload_n 0, 1) := by decide +kernel
theorem dX3_fewestToMeet_1 : decode cX3_fewestToMeet 1 = .ok (.aload_n 1, 1) := by decide +kernel
theorem dX3_fewestToMeet_2 : decode cX3_fewestToMeet 2 = .ok (.aload_n 2, 1) := by decide +kernel
theorem dX3_fewestToMeet_3 : decode cX3_fewestToMeet 3 = .ok (.iload_n 3, 1) := by decide +kernel
theorem dX3_fewestToMeet_4 : decode cX3_fewestToMeet 4 = .ok (.iload 4, 2) := by decide +kernel
theorem dX3_fewestToMeet_6 : decode cX3_fewestToMeet 6 = .ok (.iconst (-1), 1) := by decide +kernel
theorem dX3_fewestToMeet_7 : decode cX3_fewestToMeet 7 = .ok (.iload 5, 2) := by decide +kernel
theorem dX3_fewestToMeet_9 : decode cX3_fewestToMeet 9 = .ok (.invokevirtual 45, 3) := by decide +kernel
theorem dX3_fewestToMeet_12 : decode cX3_fewestToMeet 12 = .ok (.ireturn, 1) := by decide +kernel
set_option maxRecDepth 20000 in
theorem ggX3_fewest_X1_cellOf : GoodIn wsX3_fewest wsX1_cellOf := goodIn_r _ [6, 7, 135, 136, 137, 138, 139, 140] (by decide +kernel) (by decide +kernel)
set_option maxRecDepth 20000 in
theorem gX3_fewest_X1_cellOf : GoodIn wsX3_fewest (wsV RX3 24 RX1 yX1_cellOf wsX1_cellOf) := goodIn_app (goodIn_of _ (by decide +kernel)) ggX3_fewest_X1_cellOf
set_option maxRecDepth 20000 in
theorem ggX3_fewest_X8_ringOfCell : GoodIn wsX3_fewest wsX8_ringOfCell := goodIn_r _ [10] (by decide +kernel) (by decide +kernel)
set_option maxRecDepth 20000 in
theorem gX3_fewest_X8_ringOfCell_n30 : GoodIn wsX3_fewest (wsX8_ringOfCell) := ggX3_fewest_X8_ringOfCell
set_option maxRecDepth 20000 in
theorem ggX3_fewest_X3_freeIn : GoodIn wsX3_fewest wsX3_freeIn := goodIn_r _ [14, 15, 2, 3, 4, 5, 6, 7, 8, 9, 10, 16, 17, 18, 19, 20, 21, 22, 23, 24, 25, 141, 142, 143, 144, 145, 146, 147, 148, 149, 150, 151, 152, 153, 154, 155, 156, 157, 158, 159, 160, 135, 136, 137, 138, 139, 140] (by decide +kernel) (by decide +kernel)
set_option maxRecDepth 20000 in
theorem gX3_fewest_X3_freeIn : GoodIn wsX3_fewest (va_wsS RX3 49 yX3_freeIn wsX3_freeIn) := goodIn_app (goodIn_of _ (by decide +kernel)) ggX3_fewest_X3_freeIn
set_option maxRecDepth 20000 in
theorem ggX3_fewest_J6_bitCount_0f7a4 : GoodIn wsX3_fewest wsJ6_bitCount_0f7a4 := goodIn_r _ [29, 30, 31, 32] (by decide +kernel) (by decide +kernel)
set_option maxRecDepth 20000 in
theorem gX3_fewest_J6_bitCount_0f7a4 : GoodIn wsX3_fewest (va_wsS RX3 40 yJ6_bitCount_0f7a4 wsJ6_bitCount_0f7a4) := goodIn_app (goodIn_of _ (by decide +kernel)) ggX3_fewest_J6_bitCount_0f7a4
set_option maxRecDepth 20000 in
theorem ggX3_fewest_X3_isOfThese : GoodIn wsX3_fewest wsX3_isOfThese := goodIn_r _ [35, 26, 27, 28, 29, 30, 31, 32] (by decide +kernel) (by decide +kernel)
set_option maxRecDepth 20000 in
theorem gX3_fewest_X3_isOfThese : GoodIn wsX3_fewest (va_wsS RX3 53 yX3_isOfThese wsX3_isOfThese) := goodIn_app (goodIn_of _ (by decide +kernel)) ggX3_fewest_X3_isOfThese
set_option maxRecDepth 20000 in
theorem ggX3_fewest_X6_start : GoodIn wsX3_fewest wsX6_start := goodIn_r _ [40, 41, 42, 43, 44, 45, 46, 47, 48, 49, 50, 51, 52, 5, 53, 7, 54, 55, 56, 57, 58, 59, 60, 61, 62, 3, 4, 6, 63, 21, 22, 23, 24, 25, 64, 65, 66, 39, 67, 8, 9, 10, 68, 69, 70, 71, 72, 73, 74, 75, 76, 77, 161, 162, 163, 164, 165, 166, 167, 168, 169, 170, 171, 172, 173, 141, 142, 143, 144, 145, 146, 147, 148, 149, 150, 151, 152, 153, 154, 155, 156, 157, 158, 159, 160, 135, 136, 137, 138, 139, 140] (by decide +kernel) (by decide +kernel)
set_option maxRecDepth 20000 in
theorem gX3_fewest_X6_start : GoodIn wsX3_fewest (wsV RX3 57 RX6 yX6_start wsX6_start) := goodIn_app (goodIn_of _ (by decide +kernel)) ggX3_fewest_X6_start
set_option maxRecDepth 20000 in
theorem ggX3_fewest_X6_goOn : GoodIn wsX3_fewest wsX6_goOn := goodIn_r _ [81, 82, 83, 84, 85, 39, 86, 42, 41, 48, 49, 87, 88, 89, 90, 43, 91, 46, 44, 92, 45, 93, 94, 95, 96, 23, 97, 98, 99, 100, 101, 102, 47, 103, 104, 105, 106, 107, 108, 25, 109, 110, 111, 112, 64, 65, 66, 67, 113, 27, 28, 29, 30, 31, 32, 161, 162, 163, 164, 165, 166, 167, 168, 169, 170, 171, 172, 173, 141, 142, 143, 144, 145, 146, 147, 148, 149, 150, 151, 152, 153, 154, 155, 156, 157, 158, 159, 160] (by decide +kernel) (by decide +kernel)
set_option maxRecDepth 20000 in
theorem gX3_fewest_X6_goOn : GoodIn wsX3_fewest (wsV RX3 61 RX6 yX6_goOn wsX6_goOn) := goodIn_app (goodIn_of _ (by decide +kernel)) ggX3_fewest_X6_goOn
set_option maxRecDepth 20000 in
theorem ggX3_fewest_X3_isReached : GoodIn wsX3_fewest wsX3_isReached := goodIn_r _ [117, 1, 118, 119, 120, 39, 121, 49, 122, 123, 124, 125, 41, 126, 127, 128, 129, 23, 130, 131, 132, 133, 134, 161, 162, 163, 164, 165, 166, 167, 168, 169, 170, 171, 172, 173, 141, 142, 143, 144, 145, 146, 147, 148, 149, 150, 151, 152, 153, 154, 155, 156, 157, 158, 159, 160] (by decide +kernel) (by decide +kernel)
set_option maxRecDepth 20000 in
theorem gX3_fewest_X3_isReached : GoodIn wsX3_fewest (wsV RX3 64 RX3 yX3_isReached wsX3_isReached) := goodIn_app (goodIn_of _ (by decide +kernel)) ggX3_fewest_X3_isReached
theorem dX3_fewest_0 : decode cX3_fewest 0 = .ok (.iconst 1, 1) := by decide +kernel
theorem dX3_fewest_1 : decode cX3_fewest 1 = .ok (.aload_n 2, 1) := by decide +kernel
theorem dX3_fewest_2 : decode cX3_fewest 2 = .ok (.iload_n 3, 1) := by decide +kernel
theorem dX3_fewest_3 : decode cX3_fewest 3 = .ok (.invokevirtual 24, 3) := by decide +kernel
theorem dX3_fewest_6 : decode cX3_fewest 6 = .ok (.invokestatic 30, 3) := by decide +kernel
theorem dX3_fewest_9 : decode cX3_fewest 9 = .ok (.ishl, 1) := by decide +kernel
theorem dX3_fewest_10 : decode cX3_fewest 10 = .ok (.iconst 1, 1) := by decide +kernel
theorem dX3_fewest_11 : decode cX3_fewest 11 = .ok (.aload_n 2, 1) := by decide +kernel
theorem dX3_fewest_12 : decode cX3_fewest 12 = .ok (.iload 4, 2) := by decide +kernel
theorem dX3_fewest_14 : decode cX3_fewest 14 = .ok (.invokevirtual 24, 3) := by decide +kernel
theorem dX3_fewest_17 : decode cX3_fewest 17 = .ok (.invokestatic 30, 3) := by decide +kernel
theorem dX3_fewest_20 : decode cX3_fewest 20 = .ok (.ishl, 1) := by decide +kernel
theorem dX3_fewest_21 : decode cX3_fewest 21 = .ok (.ior, 1) := by decide +kernel
theorem dX3_fewest_22 : decode cX3_fewest 22 = .ok (.istore 7, 2) := by decide +kernel
theorem dX3_fewest_24 : decode cX3_fewest 24 = .ok (.aload_n 1, 1) := by decide +kernel
theorem dX3_fewest_25 : decode cX3_fewest 25 = .ok (.aload_n 2, 1) := by decide +kernel
theorem dX3_fewest_26 : decode cX3_fewest 26 = .ok (.iload 7, 2) := by decide +kernel
theorem dX3_fewest_28 : decode cX3_fewest 28 = .ok (.invokestatic 49, 3) := by decide +kernel
theorem dX3_fewest_31 : decode cX3_fewest 31 = .ok (.istore 8, 2) := by decide +kernel
theorem dX3_fewest_33 : decode cX3_fewest 33 = .ok (.iconst 0, 1) := by decide +kernel
theorem dX3_fewest_34 : decode cX3_fewest 34 = .ok (.istore 9, 2) := by decide +kernel
theorem dX3_fewest_36 : decode cX3_fewest 36 = .ok (.iload 9, 2) := by decide +kernel
theorem dX3_fewest_38 : decode cX3_fewest 38 = .ok (.iload 8, 2) := by decide +kernel
theorem dX3_fewest_40 : decode cX3_fewest 40 = .ok (.invokestatic 40, 3) := by decide +kernel
theorem dX3_fewest_43 : decode cX3_fewest 43 = .ok (.if_icmp .gt 73, 3) := by decide +kernel
theorem dX3_fewest_46 : decode cX3_fewest 46 = .ok (.iconst 0, 1) := by decide +kernel
theorem dX3_fewest_47 : decode cX3_fewest 47 = .ok (.istore 10, 2) := by decide +kernel
theorem dX3_fewest_49 : decode cX3_fewest 49 = .ok (.iload 10, 2) := by decide +kernel
theorem dX3_fewest_51 : decode cX3_fewest 51 = .ok (.iload 8, 2) := by decide +kernel
theorem dX3_fewest_53 : decode cX3_fewest 53 = .ok (.if_icmp .gt 57, 3) := by decide +kernel
theorem dX3_fewest_56 : decode cX3_fewest 56 = .ok (.iload 10, 2) := by decide +kernel
theorem dX3_fewest_58 : decode cX3_fewest 58 = .ok (.iload 9, 2) := by decide +kernel
theorem dX3_fewest_60 : decode cX3_fewest 60 = .ok (.iload 8, 2) := by decide +kernel
theorem dX3_fewest_62 : decode cX3_fewest 62 = .ok (.invokestatic 53, 3) := by decide +kernel
theorem dX3_fewest_65 : decode cX3_fewest 65 = .ok (.ifCond .eq 39, 3) := by decide +kernel
theorem dX3_fewest_68 : decode cX3_fewest 68 = .ok (.aload_n 0, 1) := by decide +kernel
theorem dX3_fewest_69 : decode cX3_fewest 69 = .ok (.getfield 12, 3) := by decide +kernel
theorem dX3_fewest_72 : decode cX3_fewest 72 = .ok (.aload_n 1, 1) := by decide +kernel
theorem dX3_fewest_73 : decode cX3_fewest 73 = .ok (.aload_n 2, 1) := by decide +kernel
theorem dX3_fewest_74 : decode cX3_fewest 74 = .ok (.iload 10, 2) := by decide +kernel
theorem dX3_fewest_76 : decode cX3_fewest 76 = .ok (.invokevirtual 57, 3) := by decide +kernel
theorem dX3_fewest_79 : decode cX3_fewest 79 = .ok (.aload_n 0, 1) := by decide +kernel
theorem dX3_fewest_80 : decode cX3_fewest 80 = .ok (.getfield 12, 3) := by decide +kernel
theorem dX3_fewest_83 : decode cX3_fewest 83 = .ok (.iload 6, 2) := by decide +kernel
theorem dX3_fewest_85 : decode cX3_fewest 85 = .ok (.invokevirtual 61, 3) := by decide +kernel
theorem dX3_fewest_88 : decode cX3_fewest 88 = .ok (.pop, 1) := by decide +kernel
theorem dX3_fewest_89 : decode cX3_fewest 89 = .ok (.aload_n 0, 1) := by decide +kernel
theorem dX3_fewest_90 : decode cX3_fewest 90 = .ok (.iload_n 3, 1) := by decide +kernel
theorem dX3_fewest_91 : decode cX3_fewest 91 = .ok (.iload 4, 2) := by decide +kernel
theorem dX3_fewest_93 : decode cX3_fewest 93 = .ok (.iload 5, 2) := by decide +kernel
theorem dX3_fewest_95 : decode cX3_fewest 95 = .ok (.invokevirtual 64, 3) := by decide +kernel
theorem dX3_fewest_98 : decode cX3_fewest 98 = .ok (.ifCond .eq 6, 3) := by decide +kernel
theorem dX3_fewest_101 : decode cX3_fewest 101 = .ok (.iload 10, 2) := by decide +kernel
theorem dX3_fewest_103 : decode cX3_fewest 103 = .ok (.ireturn, 1) := by decide +kernel
theorem dX3_fewest_104 : decode cX3_fewest 104 = .ok (.iinc 10 1, 3) := by decide +kernel
theorem dX3_fewest_107 : decode cX3_fewest 107 = .ok (.goto (-58), 3) := by decide +kernel
theorem dX3_fewest_110 : decode cX3_fewest 110 = .ok (.iinc 9 1, 3) := by decide +kernel
theorem dX3_fewest_113 : decode cX3_fewest 113 = .ok (.goto (-77), 3) := by decide +kernel
theorem dX3_fewest_116 : decode cX3_fewest 116 = .ok (.bipush (-2), 2) := by decide +kernel
theorem dX3_fewest_118 : decode cX3_fewest 118 = .ok (.ireturn, 1) := by decide +kernel
set_option maxRecDepth 20000 in
theorem ggX3_isReached_X6_cellOf : GoodIn wsX3_isReached wsX6_cellOf := goodIn_r _ [6, 7, 23, 24, 25, 26, 27, 28, 29, 30, 31, 32, 33, 34, 35] (by decide +kernel) (by decide +kernel)
set_option maxRecDepth 20000 in
theorem gX3_isReached_X6_cellOf : GoodIn wsX3_isReached (wsV RX3 67 RX6 yX6_cellOf wsX6_cellOf) := goodIn_app (goodIn_of _ (by decide +kernel)) ggX3_isReached_X6_cellOf
set_option maxRecDepth 20000 in
theorem ggX3_isReached_X6_atDoor : GoodIn wsX3_isReached wsX6_atDoor := goodIn_r _ [11, 12, 13, 3, 4, 5, 6, 7, 14, 15, 16, 17, 18, 19, 20, 21, 23, 24, 25, 26, 27, 28, 29, 30, 31, 32, 33, 34, 35, 36, 37, 38, 39, 40, 41, 42, 43, 44, 45, 46, 47, 48, 49, 50, 51, 52, 53, 54, 55] (by decide +kernel) (by decide +kernel)
set_option maxRecDepth 20000 in
theorem gX3_isReached_X6_atDoor : GoodIn wsX3_isReached (wsV RX3 68 RX6 yX6_atDoor wsX6_atDoor) := goodIn_app (goodIn_of _ (by decide +kernel)) ggX3_isReached_X6_atDoor
theorem dX3_isReached_0 : decode cX3_isReached 0 = .ok (.iload_n 1, 1) := by decide +kernel
theorem dX3_isReached_1 : decode cX3_isReached 1 = .ok (.iload_n 2, 1) := by decide +kernel
theorem dX3_isReached_2 : decode cX3_isReached 2 = .ok (.if_icmp .ne 23, 3) := by decide +kernel
theorem dX3_isReached_5 : decode cX3_isReached 5 = .ok (.aload_n 0, 1) := by decide +kernel
theorem dX3_isReached_6 : decode cX3_isReached 6 = .ok (.getfield 12, 3) := by decide +kernel
theorem dX3_isReached_9 : decode cX3_isReached 9 = .ok (.iload_n 1, 1) := by decide +kernel
theorem dX3_isReached_10 : decode cX3_isReached 10 = .ok (.invokevirtual 67, 3) := by decide +kernel
theorem dX3_isReached_13 : decode cX3_isReached 13 = .ok (.iload_n 3, 1) := by decide +kernel
theorem dX3_isReached_14 : decode cX3_isReached 14 = .ok (.if_icmp .ne 7, 3) := by decide +kernel
theorem dX3_isReached_17 : decode cX3_isReached 17 = .ok (.iconst 1, 1) := by decide +kernel
theorem dX3_isReached_18 : decode cX3_isReached 18 = .ok (.goto 16, 3) := by decide +kernel
theorem dX3_isReached_21 : decode cX3_isReached 21 = .ok (.iconst 0, 1) := by decide +kernel
theorem dX3_isReached_22 : decode cX3_isReached 22 = .ok (.goto 12, 3) := by decide +kernel
theorem dX3_isReached_25 : decode cX3_isReached 25 = .ok (.aload_n 0, 1) := by decide +kernel
theorem dX3_isReached_26 : decode cX3_isReached 26 = .ok (.getfield 12, 3) := by decide +kernel
theorem dX3_isReached_29 : decode cX3_isReached 29 = .ok (.iload_n 1, 1) := by decide +kernel
theorem dX3_isReached_30 : decode cX3_isReached 30 = .ok (.iload_n 2, 1) := by decide +kernel
theorem dX3_isReached_31 : decode cX3_isReached 31 = .ok (.invokevirtual 68, 3) := by decide +kernel
theorem dX3_isReached_34 : decode cX3_isReached 34 = .ok (.ireturn, 1) := by decide +kernel
set_option maxRecDepth 20000 in
theorem ggX3_bestFor_X7_withinReach : GoodIn wsX3_bestFor wsX7_withinReach := goodIn_r _ [7, 8, 9, 10, 11, 12, 13, 14, 15, 16, 17, 18, 19, 20, 21, 22, 23, 24, 180, 181, 182, 183, 184, 185, 186, 187, 188, 189, 190] (by decide +kernel) (by decide +kernel)
set_option maxRecDepth 20000 in
theorem gX3_bestFor_X7_withinReach : GoodIn wsX3_bestFor (wsV RX3 76 RX7 yX7_withinReach wsX7_withinReach) := goodIn_app (goodIn_of _ (by decide +kernel)) ggX3_bestFor_X7_withinReach
set_option maxRecDepth 20000 in
theorem ggX3_bestFor_X7_ofRing : GoodIn wsX3_bestFor wsX7_ofRing := goodIn_r _ [28, 8, 11, 22, 23, 24, 180, 181, 182, 183, 184] (by decide +kernel) (by decide +kernel)
set_option maxRecDepth 20000 in
theorem gX3_bestFor_X7_ofRing : GoodIn wsX3_bestFor (wsV RX3 85 RX7 yX7_ofRing wsX7_ofRing) := goodIn_app (goodIn_of _ (by decide +kernel)) ggX3_bestFor_X7_ofRing
set_option maxRecDepth 20000 in
theorem ggX3_bestFor_X3_bestInRing : GoodIn wsX3_bestFor wsX3_bestInRing := goodIn_r _ [33, 1, 34, 35, 36, 6, 37, 8, 38, 39, 40, 32, 41, 42, 43, 19, 20, 15, 21, 17, 22, 23, 24, 44, 45, 46, 47, 48, 49, 50, 51, 52, 53, 54, 55, 56, 57, 58, 59, 60, 61, 62, 63, 64, 65, 66, 67, 68, 69, 70, 71, 72, 9, 73, 74, 75, 76, 77, 78, 79, 80, 81, 82, 83, 84, 85, 86, 87, 88, 89, 90, 91, 13, 14, 16, 92, 93, 94, 95, 96, 97, 98, 99, 100, 101, 102, 103, 104, 105, 106, 107, 108, 109, 110, 111, 112, 113, 114, 115, 116, 117, 118, 119, 120, 121, 122, 123, 124, 125, 126, 127, 128, 129, 130, 131, 132, 133, 134, 135, 136, 137, 138, 139, 140, 141, 142, 143, 144, 145, 146, 147, 148, 149, 150, 151, 152, 153, 154, 10, 11, 155, 156, 157, 158, 159, 160, 161, 162, 163, 164, 165, 166, 167, 168, 169, 170, 171, 172, 173, 174, 175, 176, 177, 178, 179, 180, 181, 182, 183, 184, 185, 186, 187, 188, 189, 190, 191, 192, 193, 194, 195, 196, 197, 198, 199, 200, 201, 202, 203, 204] (by decide +kernel) (by decide +kernel)
set_option maxRecDepth 20000 in
theorem gX3_bestFor_X3_bestInRing : GoodIn wsX3_bestFor (wsV RX3 89 RX3 yX3_bestInRing wsX3_bestInRing) := goodIn_app (goodIn_of _ (by decide +kernel)) ggX3_bestFor_X3_bestInRing
theorem dX3_bestFor_0 : decode cX3_bestFor 0 = .ok (.aload_n 1, 1) := by decide +kernel
theorem dX3_bestFor_1 : decode cX3_bestFor 1 = .ok (.getfield 72, 3) := by decide +kernel
theorem dX3_bestFor_4 : decode cX3_bestFor 4 = .ok (.aload_n 2, 1) := by decide +kernel
theorem dX3_bestFor_5 : decode cX3_bestFor 5 = .ok (.iload_n 3, 1) := by decide +kernel
theorem dX3_bestFor_6 : decode cX3_bestFor 6 = .ok (.invokevirtual 76, 3) := by decide +kernel
theorem dX3_bestFor_9 : decode cX3_bestFor 9 = .ok (.istore 4, 2) := by decide +kernel
theorem dX3_bestFor_11 : decode cX3_bestFor 11 = .ok (.iconst 0, 1) := by decide +kernel
theorem dX3_bestFor_12 : decode cX3_bestFor 12 = .ok (.istore 5, 2) := by decide +kernel
theorem dX3_bestFor_14 : decode cX3_bestFor 14 = .ok (.iconst 0, 1) := by decide +kernel
theorem dX3_bestFor_15 : decode cX3_bestFor 15 = .ok (.istore 6, 2) := by decide +kernel
theorem dX3_bestFor_17 : decode cX3_bestFor 17 = .ok (.iload 6, 2) := by decide +kernel
theorem dX3_bestFor_19 : decode cX3_bestFor 19 = .ok (.aload_n 1, 1) := by decide +kernel
theorem dX3_bestFor_20 : decode cX3_bestFor 20 = .ok (.getfield 82, 3) := by decide +kernel
theorem dX3_bestFor_23 : decode cX3_bestFor 23 = .ok (.if_icmp .ge 33, 3) := by decide +kernel
theorem dX3_bestFor_26 : decode cX3_bestFor 26 = .ok (.iload 5, 2) := by decide +kernel
theorem dX3_bestFor_28 : decode cX3_bestFor 28 = .ok (.aload_n 0, 1) := by decide +kernel
theorem dX3_bestFor_29 : decode cX3_bestFor 29 = .ok (.aload_n 1, 1) := by decide +kernel
theorem dX3_bestFor_30 : decode cX3_bestFor 30 = .ok (.aload_n 2, 1) := by decide +kernel
theorem dX3_bestFor_31 : decode cX3_bestFor 31 = .ok (.aload_n 1, 1) := by decide +kernel
theorem dX3_bestFor_32 : decode cX3_bestFor 32 = .ok (.getfield 72, 3) := by decide +kernel
theorem dX3_bestFor_35 : decode cX3_bestFor 35 = .ok (.iload 4, 2) := by decide +kernel
theorem dX3_bestFor_37 : decode cX3_bestFor 37 = .ok (.iload 6, 2) := by decide +kernel
theorem dX3_bestFor_39 : decode cX3_bestFor 39 = .ok (.invokevirtual 85, 3) := by decide +kernel
theorem dX3_bestFor_42 : decode cX3_bestFor 42 = .ok (.iload 6, 2) := by decide +kernel
theorem dX3_bestFor_44 : decode cX3_bestFor 44 = .ok (.invokevirtual 89, 3) := by decide +kernel
theorem dX3_bestFor_47 : decode cX3_bestFor 47 = .ok (.ior, 1) := by decide +kernel
theorem dX3_bestFor_48 : decode cX3_bestFor 48 = .ok (.istore 5, 2) := by decide +kernel
theorem dX3_bestFor_50 : decode cX3_bestFor 50 = .ok (.iinc 6 1, 3) := by decide +kernel
theorem dX3_bestFor_53 : decode cX3_bestFor 53 = .ok (.goto (-36), 3) := by decide +kernel
theorem dX3_bestFor_56 : decode cX3_bestFor 56 = .ok (.iload 5, 2) := by decide +kernel
theorem dX3_bestFor_58 : decode cX3_bestFor 58 = .ok (.ireturn, 1) := by decide +kernel
set_option maxRecDepth 20000 in
theorem ggX3_bestInRing_X7_worthOf : GoodIn wsX3_bestInRing wsX7_worthOf := goodIn_r _ [6, 7, 8, 165, 166, 167, 168, 169] (by decide +kernel) (by decide +kernel)
set_option maxRecDepth 20000 in
theorem gX3_bestInRing_X7_worthOf : GoodIn wsX3_bestInRing (wsV RX3 93 RX7 yX7_worthOf wsX7_worthOf) := goodIn_app (goodIn_of _ (by decide +kernel)) ggX3_bestInRing_X7_worthOf
set_option maxRecDepth 20000 in
theorem ggX3_bestInRing_X3_freeIn : GoodIn wsX3_bestInRing wsX3_freeIn := goodIn_r _ [12, 13, 14, 15, 16, 17, 18, 19, 20, 21, 22, 23, 24, 25, 26, 27, 28, 29, 30, 31, 32, 145, 146, 147, 148, 149, 150, 151, 152, 153, 154, 155, 156, 157, 158, 159, 160, 161, 162, 163, 164, 170, 171, 172, 173, 174, 175] (by decide +kernel) (by decide +kernel)
set_option maxRecDepth 20000 in
theorem gX3_bestInRing_X3_freeIn : GoodIn wsX3_bestInRing (va_wsS RX3 49 yX3_freeIn wsX3_freeIn) := goodIn_app (goodIn_of _ (by decide +kernel)) ggX3_bestInRing_X3_freeIn
set_option maxRecDepth 20000 in
theorem ggX3_bestInRing_J6_bitCount_0f7a4 : GoodIn wsX3_bestInRing wsJ6_bitCount_0f7a4 := goodIn_r _ [36, 37, 38, 39] (by decide +kernel) (by decide +kernel)
set_option maxRecDepth 20000 in
theorem gX3_bestInRing_J6_bitCount_0f7a4 : GoodIn wsX3_bestInRing (va_wsS RX3 40 yJ6_bitCount_0f7a4 wsJ6_bitCount_0f7a4) := goodIn_app (goodIn_of _ (by decide +kernel)) ggX3_bestInRing_J6_bitCount_0f7a4
set_option maxRecDepth 20000 in
theorem ggX3_bestInRing_X3_isOfThese : GoodIn wsX3_bestInRing wsX3_isOfThese := goodIn_r _ [42, 33, 34, 35, 36, 37, 38, 39] (by decide +kernel) (by decide +kernel)
set_option maxRecDepth 20000 in
theorem gX3_bestInRing_X3_isOfThese : GoodIn wsX3_bestInRing (va_wsS RX3 53 yX3_isOfThese wsX3_isOfThese) := goodIn_app (goodIn_of _ (by decide +kernel)) ggX3_bestInRing_X3_isOfThese
set_option maxRecDepth 20000 in
theorem ggX3_bestInRing_X3_paidOf : GoodIn wsX3_bestInRing wsX3_paidOf := goodIn_r _ [46, 1, 47, 48, 49, 50, 5, 51, 7, 52, 53, 54, 55, 56, 57, 58, 59, 60, 61, 62, 63, 64, 65, 66, 67, 68, 69, 70, 71, 72, 73, 17, 74, 19, 75, 76, 77, 78, 79, 80, 81, 82, 83, 15, 16, 18, 84, 28, 29, 30, 31, 32, 85, 86, 87, 88, 20, 21, 22, 89, 90, 91, 92, 93, 94, 95, 96, 97, 98, 99, 100, 101, 102, 103, 104, 105, 106, 107, 108, 109, 110, 111, 112, 113, 114, 115, 116, 117, 118, 119, 120, 121, 122, 123, 124, 125, 126, 127, 128, 129, 130, 131, 132, 133, 134, 135, 136, 137, 138, 139, 140, 141, 142, 143, 144, 145, 146, 147, 148, 149, 150, 151, 152, 153, 154, 155, 156, 157, 158, 159, 160, 161, 162, 163, 164, 176, 165, 166, 167, 168, 169, 177, 178, 179, 180, 181, 182, 183, 184, 185, 186, 187, 188, 189, 170, 171, 172, 173, 174, 175] (by decide +kernel) (by decide +kernel)
set_option maxRecDepth 20000 in
theorem gX3_bestInRing_X3_paidOf : GoodIn wsX3_bestInRing (wsV RX3 96 RX3 yX3_paidOf wsX3_paidOf) := goodIn_app (goodIn_of _ (by decide +kernel)) ggX3_bestInRing_X3_paidOf
theorem dX3_bestInRing_0 : decode cX3_bestInRing 0 = .ok (.aload_n 1, 1) := by decide +kernel
theorem dX3_bestInRing_1 : decode cX3_bestInRing 1 = .ok (.getfield 72, 3) := by decide +kernel
theorem dX3_bestInRing_4 : decode cX3_bestInRing 4 = .ok (.iload_n 3, 1) := by decide +kernel
theorem dX3_bestInRing_5 : decode cX3_bestInRing 5 = .ok (.invokevirtual 93, 3) := by decide +kernel
theorem dX3_bestInRing_8 : decode cX3_bestInRing 8 = .ok (.istore 5, 2) := by decide +kernel
theorem dX3_bestInRing_10 : decode cX3_bestInRing 10 = .ok (.aload_n 1, 1) := by decide +kernel
theorem dX3_bestInRing_11 : decode cX3_bestInRing 11 = .ok (.aload_n 2, 1) := by decide +kernel
theorem dX3_bestInRing_12 : decode cX3_bestInRing 12 = .ok (.iconst 1, 1) := by decide +kernel
theorem dX3_bestInRing_13 : decode cX3_bestInRing 13 = .ok (.iload 4, 2) := by decide +kernel
theorem dX3_bestInRing_15 : decode cX3_bestInRing 15 = .ok (.ishl, 1) := by decide +kernel
theorem dX3_bestInRing_16 : decode cX3_bestInRing 16 = .ok (.invokestatic 49, 3) := by decide +kernel
theorem dX3_bestInRing_19 : decode cX3_bestInRing 19 = .ok (.istore 6, 2) := by decide +kernel
theorem dX3_bestInRing_21 : decode cX3_bestInRing 21 = .ok (.iconst (-1), 1) := by decide +kernel
theorem dX3_bestInRing_22 : decode cX3_bestInRing 22 = .ok (.istore 7, 2) := by decide +kernel
theorem dX3_bestInRing_24 : decode cX3_bestInRing 24 = .ok (.iconst 0, 1) := by decide +kernel
theorem dX3_bestInRing_25 : decode cX3_bestInRing 25 = .ok (.istore 8, 2) := by decide +kernel
theorem dX3_bestInRing_27 : decode cX3_bestInRing 27 = .ok (.iconst 0, 1) := by decide +kernel
theorem dX3_bestInRing_28 : decode cX3_bestInRing 28 = .ok (.istore 9, 2) := by decide +kernel
theorem dX3_bestInRing_30 : decode cX3_bestInRing 30 = .ok (.iload 9, 2) := by decide +kernel
theorem dX3_bestInRing_32 : decode cX3_bestInRing 32 = .ok (.iload 6, 2) := by decide +kernel
theorem dX3_bestInRing_34 : decode cX3_bestInRing 34 = .ok (.invokestatic 40, 3) := by decide +kernel
theorem dX3_bestInRing_37 : decode cX3_bestInRing 37 = .ok (.if_icmp .gt 77, 3) := by decide +kernel
theorem dX3_bestInRing_40 : decode cX3_bestInRing 40 = .ok (.iconst 0, 1) := by decide +kernel
theorem dX3_bestInRing_41 : decode cX3_bestInRing 41 = .ok (.istore 10, 2) := by decide +kernel
theorem dX3_bestInRing_43 : decode cX3_bestInRing 43 = .ok (.iload 10, 2) := by decide +kernel
theorem dX3_bestInRing_45 : decode cX3_bestInRing 45 = .ok (.iload 6, 2) := by decide +kernel
theorem dX3_bestInRing_47 : decode cX3_bestInRing 47 = .ok (.if_icmp .gt 61, 3) := by decide +kernel
theorem dX3_bestInRing_50 : decode cX3_bestInRing 50 = .ok (.iload 7, 2) := by decide +kernel
theorem dX3_bestInRing_52 : decode cX3_bestInRing 52 = .ok (.iload 5, 2) := by decide +kernel
theorem dX3_bestInRing_54 : decode cX3_bestInRing 54 = .ok (.if_icmp .ge 54, 3) := by decide +kernel
theorem dX3_bestInRing_57 : decode cX3_bestInRing 57 = .ok (.iload 10, 2) := by decide +kernel
theorem dX3_bestInRing_59 : decode cX3_bestInRing 59 = .ok (.iload 9, 2) := by decide +kernel
theorem dX3_bestInRing_61 : decode cX3_bestInRing 61 = .ok (.iload 6, 2) := by decide +kernel
theorem dX3_bestInRing_63 : decode cX3_bestInRing 63 = .ok (.invokestatic 53, 3) := by decide +kernel
theorem dX3_bestInRing_66 : decode cX3_bestInRing 66 = .ok (.ifCond .eq 36, 3) := by decide +kernel
theorem dX3_bestInRing_69 : decode cX3_bestInRing 69 = .ok (.aload_n 1, 1) := by decide +kernel
theorem dX3_bestInRing_70 : decode cX3_bestInRing 70 = .ok (.getfield 72, 3) := by decide +kernel
theorem dX3_bestInRing_73 : decode cX3_bestInRing 73 = .ok (.aload_n 0, 1) := by decide +kernel
theorem dX3_bestInRing_74 : decode cX3_bestInRing 74 = .ok (.iload_n 3, 1) := by decide +kernel
theorem dX3_bestInRing_75 : decode cX3_bestInRing 75 = .ok (.aload_n 1, 1) := by decide +kernel
theorem dX3_bestInRing_76 : decode cX3_bestInRing 76 = .ok (.aload_n 2, 1) := by decide +kernel
theorem dX3_bestInRing_77 : decode cX3_bestInRing 77 = .ok (.iload 10, 2) := by decide +kernel
theorem dX3_bestInRing_79 : decode cX3_bestInRing 79 = .ok (.invokevirtual 96, 3) := by decide +kernel
theorem dX3_bestInRing_82 : decode cX3_bestInRing 82 = .ok (.invokevirtual 93, 3) := by decide +kernel
theorem dX3_bestInRing_85 : decode cX3_bestInRing 85 = .ok (.istore 11, 2) := by decide +kernel
theorem dX3_bestInRing_87 : decode cX3_bestInRing 87 = .ok (.iload 11, 2) := by decide +kernel
theorem dX3_bestInRing_89 : decode cX3_bestInRing 89 = .ok (.iload 7, 2) := by decide +kernel
theorem dX3_bestInRing_91 : decode cX3_bestInRing 91 = .ok (.if_icmp .le 11, 3) := by decide +kernel
theorem dX3_bestInRing_94 : decode cX3_bestInRing 94 = .ok (.iload 11, 2) := by decide +kernel
theorem dX3_bestInRing_96 : decode cX3_bestInRing 96 = .ok (.istore 7, 2) := by decide +kernel
theorem dX3_bestInRing_98 : decode cX3_bestInRing 98 = .ok (.iload 10, 2) := by decide +kernel
theorem dX3_bestInRing_100 : decode cX3_bestInRing 100 = .ok (.istore 8, 2) := by decide +kernel
theorem dX3_bestInRing_102 : decode cX3_bestInRing 102 = .ok (.iinc 10 1, 3) := by decide +kernel
theorem dX3_bestInRing_105 : decode cX3_bestInRing 105 = .ok (.goto (-62), 3) := by decide +kernel
theorem dX3_bestInRing_108 : decode cX3_bestInRing 108 = .ok (.iinc 9 1, 3) := by decide +kernel
theorem dX3_bestInRing_111 : decode cX3_bestInRing 111 = .ok (.goto (-81), 3) := by decide +kernel
theorem dX3_bestInRing_114 : decode cX3_bestInRing 114 = .ok (.iload 8, 2) := by decide +kernel
theorem dX3_bestInRing_116 : decode cX3_bestInRing 116 = .ok (.ireturn, 1) := by decide +kernel
set_option maxRecDepth 20000 in
theorem ggX3_paidWithin_X7_withinReach : GoodIn wsX3_paidWithin wsX7_withinReach := goodIn_r _ [6, 7, 8, 9, 10, 11, 12, 13, 14, 15, 16, 17, 18, 19, 20, 21, 22, 23, 146, 147, 148, 149, 150, 151, 152, 153, 154, 155, 156] (by decide +kernel) (by decide +kernel)
set_option maxRecDepth 20000 in
theorem gX3_paidWithin_X7_withinReach : GoodIn wsX3_paidWithin (wsV RX3 76 RX7 yX7_withinReach wsX7_withinReach) := goodIn_app (goodIn_of _ (by decide +kernel)) ggX3_paidWithin_X7_withinReach
set_option maxRecDepth 20000 in
theorem ggX3_paidWithin_X3_paidOf : GoodIn wsX3_paidWithin wsX3_paidOf := goodIn_r _ [28, 1, 29, 30, 31, 32, 5, 33, 7, 8, 34, 35, 36, 37, 38, 39, 40, 41, 42, 43, 44, 45, 46, 47, 48, 49, 50, 51, 52, 12, 13, 14, 15, 16, 53, 54, 55, 56, 57, 58, 59, 60, 61, 18, 19, 20, 62, 63, 64, 65, 66, 67, 68, 69, 70, 71, 21, 22, 23, 72, 73, 74, 75, 76, 77, 78, 79, 80, 81, 82, 83, 84, 85, 86, 87, 88, 89, 90, 91, 92, 93, 94, 95, 96, 97, 98, 99, 100, 101, 102, 103, 104, 105, 106, 107, 108, 109, 110, 111, 112, 113, 114, 115, 116, 117, 118, 119, 120, 9, 10, 121, 122, 123, 124, 125, 126, 127, 128, 129, 130, 131, 132, 133, 134, 135, 136, 137, 138, 139, 140, 141, 142, 143, 144, 145, 157, 146, 147, 148, 149, 150, 158, 159, 160, 161, 162, 163, 164, 165, 166, 167, 168, 169, 170, 151, 152, 153, 154, 155, 156] (by decide +kernel) (by decide +kernel)
set_option maxRecDepth 20000 in
theorem gX3_paidWithin_X3_paidOf : GoodIn wsX3_paidWithin (wsV RX3 96 RX3 yX3_paidOf wsX3_paidOf) := goodIn_app (goodIn_of _ (by decide +kernel)) ggX3_paidWithin_X3_paidOf
theorem dX3_paidWithin_0 : decode cX3_paidWithin 0 = .ok (.aload_n 0, 1) := by decide +kernel
theorem dX3_paidWithin_1 : decode cX3_paidWithin 1 = .ok (.aload_n 1, 1) := by decide +kernel
theorem dX3_paidWithin_2 : decode cX3_paidWithin 2 = .ok (.getfield 72, 3) := by decide +kernel
theorem dX3_paidWithin_5 : decode cX3_paidWithin 5 = .ok (.aload_n 2, 1) := by decide +kernel
theorem dX3_paidWithin_6 : decode cX3_paidWithin 6 = .ok (.iload 4, 2) := by decide +kernel
theorem dX3_paidWithin_8 : decode cX3_paidWithin 8 = .ok (.invokevirtual 76, 3) := by decide +kernel
theorem dX3_paidWithin_11 : decode cX3_paidWithin 11 = .ok (.aload_n 1, 1) := by decide +kernel
theorem dX3_paidWithin_12 : decode cX3_paidWithin 12 = .ok (.aload_n 2, 1) := by decide +kernel
theorem dX3_paidWithin_13 : decode cX3_paidWithin 13 = .ok (.iload_n 3, 1) := by decide +kernel
theorem dX3_paidWithin_14 : decode cX3_paidWithin 14 = .ok (.invokevirtual 96, 3) := by decide +kernel
theorem dX3_paidWithin_17 : decode cX3_paidWithin 17 = .ok (.ireturn, 1) := by decide +kernel
set_option maxRecDepth 20000 in
theorem ggX3_paidOf_X7_lastNightOf : GoodIn wsX3_paidOf wsX7_lastNightOf := goodIn_r _ [7, 8, 9, 10, 11, 12, 13, 136, 137, 138, 139, 140] (by decide +kernel) (by decide +kernel)
set_option maxRecDepth 20000 in
theorem gX3_paidOf_X7_lastNightOf : GoodIn wsX3_paidOf (wsV RX3 100 RX7 yX7_lastNightOf wsX7_lastNightOf) := goodIn_app (goodIn_of _ (by decide +kernel)) ggX3_paidOf_X7_lastNightOf
set_option maxRecDepth 20000 in
theorem ggX3_paidOf_X6_start : GoodIn wsX3_paidOf wsX6_start := goodIn_r _ [18, 19, 20, 21, 22, 23, 24, 25, 26, 27, 28, 29, 30, 31, 32, 33, 34, 35, 36, 37, 38, 39, 40, 41, 42, 43, 44, 45, 46, 47, 48, 49, 50, 51, 52, 53, 54, 17, 55, 56, 57, 58, 59, 60, 61, 62, 63, 64, 65, 66, 67, 68, 141, 142, 143, 144, 145, 146, 147, 148, 149, 150, 151, 152, 153, 115, 116, 117, 118, 119, 120, 121, 122, 123, 124, 125, 126, 127, 128, 129, 130, 131, 132, 133, 134, 154, 155, 156, 157, 158, 159] (by decide +kernel) (by decide +kernel)
set_option maxRecDepth 20000 in
theorem gX3_paidOf_X6_start : GoodIn wsX3_paidOf (wsV RX3 57 RX6 yX6_start wsX6_start) := goodIn_app (goodIn_of _ (by decide +kernel)) ggX3_paidOf_X6_start
set_option maxRecDepth 20000 in
theorem ggX3_paidOf_X6_nightNow : GoodIn wsX3_paidOf wsX6_nightNow := goodIn_r _ [72, 20, 141, 142, 143, 144, 145, 146, 147, 148, 149, 150, 151, 152, 153] (by decide +kernel) (by decide +kernel)
set_option maxRecDepth 20000 in
theorem gX3_paidOf_X6_nightNow : GoodIn wsX3_paidOf (wsV RX3 103 RX6 yX6_nightNow wsX6_nightNow) := goodIn_app (goodIn_of _ (by decide +kernel)) ggX3_paidOf_X6_nightNow
set_option maxRecDepth 20000 in
theorem ggX3_paidOf_X6_pass : GoodIn wsX3_paidOf wsX6_pass := goodIn_r _ [76, 20, 19, 26, 77, 27, 78, 79, 80, 17, 81, 21, 82, 24, 22, 83, 23, 84, 85, 86, 87, 49, 88, 89, 90, 91, 92, 93, 25, 94, 95, 96, 97, 98, 99, 51, 100, 101, 102, 103, 52, 53, 54, 55, 141, 142, 143, 144, 145, 146, 147, 148, 149, 150, 151, 152, 153, 115, 116, 117, 118, 119, 120, 121, 122, 123, 124, 125, 126, 127, 128, 129, 130, 131, 132, 133, 134] (by decide +kernel) (by decide +kernel)
set_option maxRecDepth 20000 in
theorem gX3_paidOf_X6_pass : GoodIn wsX3_paidOf (wsV RX3 107 RX6 yX6_pass wsX6_pass) := goodIn_app (goodIn_of _ (by decide +kernel)) ggX3_paidOf_X6_pass
set_option maxRecDepth 20000 in
theorem ggX3_paidOf_X7_paidBy : GoodIn wsX3_paidOf wsX7_paidBy := goodIn_r _ [107, 8, 9, 108, 109, 110, 70, 71, 17, 72, 20, 111, 112, 113, 114, 27, 136, 137, 138, 139, 140, 141, 142, 143, 144, 145, 146, 147, 148, 149, 150, 151, 152, 153] (by decide +kernel) (by decide +kernel)
set_option maxRecDepth 20000 in
theorem gX3_paidOf_X7_paidBy : GoodIn wsX3_paidOf (wsV RX3 111 RX7 yX7_paidBy wsX7_paidBy) := goodIn_app (goodIn_of _ (by decide +kernel)) ggX3_paidOf_X7_paidBy
theorem dX3_paidOf_0 : decode cX3_paidOf 0 = .ok (.aload_n 2, 1) := by decide +kernel
theorem dX3_paidOf_1 : decode cX3_paidOf 1 = .ok (.getfield 72, 3) := by decide +kernel
theorem dX3_paidOf_4 : decode cX3_paidOf 4 = .ok (.iload_n 1, 1) := by decide +kernel
theorem dX3_paidOf_5 : decode cX3_paidOf 5 = .ok (.invokevirtual 100, 3) := by decide +kernel
theorem dX3_paidOf_8 : decode cX3_paidOf 8 = .ok (.istore 5, 2) := by decide +kernel
theorem dX3_paidOf_10 : decode cX3_paidOf 10 = .ok (.iconst 0, 1) := by decide +kernel
theorem dX3_paidOf_11 : decode cX3_paidOf 11 = .ok (.istore 6, 2) := by decide +kernel
theorem dX3_paidOf_13 : decode cX3_paidOf 13 = .ok (.aload_n 0, 1) := by decide +kernel
theorem dX3_paidOf_14 : decode cX3_paidOf 14 = .ok (.getfield 12, 3) := by decide +kernel
theorem dX3_paidOf_17 : decode cX3_paidOf 17 = .ok (.aload_n 2, 1) := by decide +kernel
theorem dX3_paidOf_18 : decode cX3_paidOf 18 = .ok (.aload_n 3, 1) := by decide +kernel
theorem dX3_paidOf_19 : decode cX3_paidOf 19 = .ok (.iload 4, 2) := by decide +kernel
theorem dX3_paidOf_21 : decode cX3_paidOf 21 = .ok (.invokevirtual 57, 3) := by decide +kernel
theorem dX3_paidOf_24 : decode cX3_paidOf 24 = .ok (.iconst 0, 1) := by decide +kernel
theorem dX3_paidOf_25 : decode cX3_paidOf 25 = .ok (.istore 7, 2) := by decide +kernel
theorem dX3_paidOf_27 : decode cX3_paidOf 27 = .ok (.iload 7, 2) := by decide +kernel
theorem dX3_paidOf_29 : decode cX3_paidOf 29 = .ok (.bipush 60, 2) := by decide +kernel
theorem dX3_paidOf_31 : decode cX3_paidOf 31 = .ok (.if_icmp .ge 45, 3) := by decide +kernel
theorem dX3_paidOf_34 : decode cX3_paidOf 34 = .ok (.aload_n 0, 1) := by decide +kernel
theorem dX3_paidOf_35 : decode cX3_paidOf 35 = .ok (.getfield 12, 3) := by decide +kernel
theorem dX3_paidOf_38 : decode cX3_paidOf 38 = .ok (.invokevirtual 103, 3) := by decide +kernel
theorem dX3_paidOf_41 : decode cX3_paidOf 41 = .ok (.iload 5, 2) := by decide +kernel
theorem dX3_paidOf_43 : decode cX3_paidOf 43 = .ok (.if_icmp .ge 33, 3) := by decide +kernel
theorem dX3_paidOf_46 : decode cX3_paidOf 46 = .ok (.aload_n 0, 1) := by decide +kernel
theorem dX3_paidOf_47 : decode cX3_paidOf 47 = .ok (.getfield 12, 3) := by decide +kernel
theorem dX3_paidOf_50 : decode cX3_paidOf 50 = .ok (.iconst 0, 1) := by decide +kernel
theorem dX3_paidOf_51 : decode cX3_paidOf 51 = .ok (.invokevirtual 107, 3) := by decide +kernel
theorem dX3_paidOf_54 : decode cX3_paidOf 54 = .ok (.iload 6, 2) := by decide +kernel
theorem dX3_paidOf_56 : decode cX3_paidOf 56 = .ok (.aload_n 2, 1) := by decide +kernel
theorem dX3_paidOf_57 : decode cX3_paidOf 57 = .ok (.getfield 72, 3) := by decide +kernel
theorem dX3_paidOf_60 : decode cX3_paidOf 60 = .ok (.aload_n 0, 1) := by decide +kernel
theorem dX3_paidOf_61 : decode cX3_paidOf 61 = .ok (.getfield 12, 3) := by decide +kernel
theorem dX3_paidOf_64 : decode cX3_paidOf 64 = .ok (.invokevirtual 111, 3) := by decide +kernel
theorem dX3_paidOf_67 : decode cX3_paidOf 67 = .ok (.ior, 1) := by decide +kernel
theorem dX3_paidOf_68 : decode cX3_paidOf 68 = .ok (.istore 6, 2) := by decide +kernel
theorem dX3_paidOf_70 : decode cX3_paidOf 70 = .ok (.iinc 7 1, 3) := by decide +kernel
theorem dX3_paidOf_73 : decode cX3_paidOf 73 = .ok (.goto (-46), 3) := by decide +kernel
theorem dX3_paidOf_76 : decode cX3_paidOf 76 = .ok (.iload 6, 2) := by decide +kernel
theorem dX3_paidOf_78 : decode cX3_paidOf 78 = .ok (.iload_n 1, 1) := by decide +kernel
theorem dX3_paidOf_79 : decode cX3_paidOf 79 = .ok (.iand, 1) := by decide +kernel
theorem dX3_paidOf_80 : decode cX3_paidOf 80 = .ok (.ireturn, 1) := by decide +kernel
set_option maxRecDepth 20000 in
theorem ggX4_init_X7_init : GoodIn wsX4_init wsX7_init := goodIn_r _ [23, 24, 2, 3, 8, 25, 26, 27, 28, 33, 34, 35, 36, 37] (by decide +kernel) (by decide +kernel)
set_option maxRecDepth 20000 in
theorem gX4_init_X7_init_n11 : GoodIn wsX4_init (wsX7_init) := ggX4_init_X7_init
set_option maxRecDepth 20000 in
theorem ggX4_init_J7_fill_53178 : GoodIn wsX4_init wsJ7_fill_53178 := goodIn_r _ [32] (by decide +kernel) (by decide +kernel)
set_option maxRecDepth 20000 in
theorem gX4_init_J7_fill_53178 : GoodIn wsX4_init (va_wsS RX4 56 yJ7_fill_53178 wsJ7_fill_53178) := goodIn_app (goodIn_of _ (by decide +kernel)) ggX4_init_J7_fill_53178
theorem dX4_init_0 : decode cX4_init 0 = .ok (.aload_n 0, 1) := by decide +kernel
theorem dX4_init_1 : decode cX4_init 1 = .ok (.invokespecial 3, 3) := by decide +kernel
theorem dX4_init_4 : decode cX4_init 4 = .ok (.aload_n 0, 1) := by decide +kernel
theorem dX4_init_5 : decode cX4_init 5 = .ok (.new 9, 3) := by decide +kernel
theorem dX4_init_8 : decode cX4_init 8 = .ok (.dup, 1) := by decide +kernel
theorem dX4_init_9 : decode cX4_init 9 = .ok (.invokespecial 11, 3) := by decide +kernel
theorem dX4_init_12 : decode cX4_init 12 = .ok (.putfield 12, 3) := by decide +kernel
theorem dX4_init_15 : decode cX4_init 15 = .ok (.aload_n 0, 1) := by decide +kernel
theorem dX4_init_16 : decode cX4_init 16 = .ok (.iconst 4, 1) := by decide +kernel
theorem dX4_init_17 : decode cX4_init 17 = .ok (.newarray .int, 2) := by decide +kernel
theorem dX4_init_19 : decode cX4_init 19 = .ok (.putfield 18, 3) := by decide +kernel
theorem dX4_init_22 : decode cX4_init 22 = .ok (.aload_n 0, 1) := by decide +kernel
theorem dX4_init_23 : decode cX4_init 23 = .ok (.iconst 4, 1) := by decide +kernel
theorem dX4_init_24 : decode cX4_init 24 = .ok (.newarray .int, 2) := by decide +kernel
theorem dX4_init_26 : decode cX4_init 26 = .ok (.putfield 22, 3) := by decide +kernel
theorem dX4_init_29 : decode cX4_init 29 = .ok (.aload_n 0, 1) := by decide +kernel
theorem dX4_init_30 : decode cX4_init 30 = .ok (.bipush 36, 2) := by decide +kernel
theorem dX4_init_32 : decode cX4_init 32 = .ok (.newarray .int, 2) := by decide +kernel
theorem dX4_init_34 : decode cX4_init 34 = .ok (.putfield 25, 3) := by decide +kernel
theorem dX4_init_37 : decode cX4_init 37 = .ok (.aload_n 0, 1) := by decide +kernel
theorem dX4_init_38 : decode cX4_init 38 = .ok (.bipush 36, 2) := by decide +kernel
theorem dX4_init_40 : decode cX4_init 40 = .ok (.newarray .int, 2) := by decide +kernel
theorem dX4_init_42 : decode cX4_init 42 = .ok (.putfield 28, 3) := by decide +kernel
theorem dX4_init_45 : decode cX4_init 45 = .ok (.aload_n 0, 1) := by decide +kernel
theorem dX4_init_46 : decode cX4_init 46 = .ok (.iconst 5, 1) := by decide +kernel
theorem dX4_init_47 : decode cX4_init 47 = .ok (.newarray .int, 2) := by decide +kernel
theorem dX4_init_49 : decode cX4_init 49 = .ok (.putfield 31, 3) := by decide +kernel
theorem dX4_init_52 : decode cX4_init 52 = .ok (.aload_n 0, 1) := by decide +kernel
theorem dX4_init_53 : decode cX4_init 53 = .ok (.iconst 5, 1) := by decide +kernel
theorem dX4_init_54 : decode cX4_init 54 = .ok (.newarray .int, 2) := by decide +kernel
theorem dX4_init_56 : decode cX4_init 56 = .ok (.putfield 34, 3) := by decide +kernel
theorem dX4_init_59 : decode cX4_init 59 = .ok (.aload_n 0, 1) := by decide +kernel
theorem dX4_init_60 : decode cX4_init 60 = .ok (.bipush 7, 2) := by decide +kernel
theorem dX4_init_62 : decode cX4_init 62 = .ok (.newarray .int, 2) := by decide +kernel
theorem dX4_init_64 : decode cX4_init 64 = .ok (.putfield 37, 3) := by decide +kernel
theorem dX4_init_67 : decode cX4_init 67 = .ok (.aload_n 0, 1) := by decide +kernel
theorem dX4_init_68 : decode cX4_init 68 = .ok (.bipush 7, 2) := by decide +kernel
theorem dX4_init_70 : decode cX4_init 70 = .ok (.newarray .int, 2) := by decide +kernel
theorem dX4_init_72 : decode cX4_init 72 = .ok (.putfield 40, 3) := by decide +kernel
theorem dX4_init_75 : decode cX4_init 75 = .ok (.aload_n 0, 1) := by decide +kernel
theorem dX4_init_76 : decode cX4_init 76 = .ok (.bipush 7, 2) := by decide +kernel
theorem dX4_init_78 : decode cX4_init 78 = .ok (.newarray .int, 2) := by decide +kernel
theorem dX4_init_80 : decode cX4_init 80 = .ok (.putfield 43, 3) := by decide +kernel
theorem dX4_init_83 : decode cX4_init 83 = .ok (.aload_n 0, 1) := by decide +kernel
theorem dX4_init_84 : decode cX4_init 84 = .ok (.bipush 6, 2) := by decide +kernel
theorem dX4_init_86 : decode cX4_init 86 = .ok (.newarray .int, 2) := by decide +kernel
theorem dX4_init_88 : decode cX4_init 88 = .ok (.putfield 46, 3) := by decide +kernel
theorem dX4_init_91 : decode cX4_init 91 = .ok (.aload_n 0, 1) := by decide +kernel
theorem dX4_init_92 : decode cX4_init 92 = .ok (.bipush 6, 2) := by decide +kernel
theorem dX4_init_94 : decode cX4_init 94 = .ok (.newarray .int, 2) := by decide +kernel
theorem dX4_init_96 : decode cX4_init 96 = .ok (.putfield 49, 3) := by decide +kernel
theorem dX4_init_99 : decode cX4_init 99 = .ok (.aload_n 0, 1) := by decide +kernel
theorem dX4_init_100 : decode cX4_init 100 = .ok (.bipush 6, 2) := by decide +kernel
theorem dX4_init_102 : decode cX4_init 102 = .ok (.newarray .boolean, 2) := by decide +kernel
theorem dX4_init_104 : decode cX4_init 104 = .ok (.putfield 52, 3) := by decide +kernel
theorem dX4_init_107 : decode cX4_init 107 = .ok (.aload_n 0, 1) := by decide +kernel
theorem dX4_init_108 : decode cX4_init 108 = .ok (.getfield 28, 3) := by decide +kernel
theorem dX4_init_111 : decode cX4_init 111 = .ok (.bipush 10, 2) := by decide +kernel
theorem dX4_init_113 : decode cX4_init 113 = .ok (.invokestatic 56, 3) := by decide +kernel
theorem dX4_init_116 : decode cX4_init 116 = .ok (.return_, 1) := by decide +kernel
set_option maxRecDepth 20000 in
theorem ggX4_clear_X7_clear : GoodIn wsX4_clear wsX7_clear := goodIn_r _ [15, 16, 41, 42, 43, 44, 45] (by decide +kernel) (by decide +kernel)
set_option maxRecDepth 20000 in
theorem gX4_clear_X7_clear : GoodIn wsX4_clear (wsV RX4 84 RX7 yX7_clear wsX7_clear) := goodIn_app (goodIn_of _ (by decide +kernel)) ggX4_clear_X7_clear
set_option maxRecDepth 20000 in
theorem ggX4_clear_J7_fill_53178 : GoodIn wsX4_clear wsJ7_fill_53178 := goodIn_r _ [20] (by decide +kernel) (by decide +kernel)
set_option maxRecDepth 20000 in
theorem gX4_clear_J7_fill_53178 : GoodIn wsX4_clear (va_wsS RX4 56 yJ7_fill_53178 wsJ7_fill_53178) := goodIn_app (goodIn_of _ (by decide +kernel)) ggX4_clear_J7_fill_53178
theorem dX4_clear_0 : decode cX4_clear 0 = .ok (.aload_n 0, 1) := by decide +kernel
theorem dX4_clear_1 : decode cX4_clear 1 = .ok (.iconst 0, 1) := by decide +kernel
theorem dX4_clear_2 : decode cX4_clear 2 = .ok (.putfield 62, 3) := by decide +kernel
theorem dX4_clear_5 : decode cX4_clear 5 = .ok (.aload_n 0, 1) := by decide +kernel
theorem dX4_clear_6 : decode cX4_clear 6 = .ok (.iconst 0, 1) := by decide +kernel
theorem dX4_clear_7 : decode cX4_clear 7 = .ok (.putfield 66, 3) := by decide +kernel
theorem dX4_clear_10 : decode cX4_clear 10 = .ok (.aload_n 0, 1) := by decide +kernel
theorem dX4_clear_11 : decode cX4_clear 11 = .ok (.iconst 0, 1) := by decide +kernel
theorem dX4_clear_12 : decode cX4_clear 12 = .ok (.putfield 69, 3) := by decide +kernel
theorem dX4_clear_15 : decode cX4_clear 15 = .ok (.aload_n 0, 1) := by decide +kernel
theorem dX4_clear_16 : decode cX4_clear 16 = .ok (.iconst 0, 1) := by decide +kernel
theorem dX4_clear_17 : decode cX4_clear 17 = .ok (.putfield 72, 3) := by decide +kernel
theorem dX4_clear_20 : decode cX4_clear 20 = .ok (.aload_n 0, 1) := by decide +kernel
theorem dX4_clear_21 : decode cX4_clear 21 = .ok (.iconst 0, 1) := by decide +kernel
theorem dX4_clear_22 : decode cX4_clear 22 = .ok (.putfield 75, 3) := by decide +kernel
theorem dX4_clear_25 : decode cX4_clear 25 = .ok (.aload_n 0, 1) := by decide +kernel
theorem dX4_clear_26 : decode cX4_clear 26 = .ok (.iconst 0, 1) := by decide +kernel
theorem dX4_clear_27 : decode cX4_clear 27 = .ok (.putfield 78, 3) := by decide +kernel
theorem dX4_clear_30 : decode cX4_clear 30 = .ok (.aload_n 0, 1) := by decide +kernel
theorem dX4_clear_31 : decode cX4_clear 31 = .ok (.iconst 0, 1) := by decide +kernel
theorem dX4_clear_32 : decode cX4_clear 32 = .ok (.putfield 81, 3) := by decide +kernel
theorem dX4_clear_35 : decode cX4_clear 35 = .ok (.aload_n 0, 1) := by decide +kernel
theorem dX4_clear_36 : decode cX4_clear 36 = .ok (.getfield 12, 3) := by decide +kernel
theorem dX4_clear_39 : decode cX4_clear 39 = .ok (.invokevirtual 84, 3) := by decide +kernel
theorem dX4_clear_42 : decode cX4_clear 42 = .ok (.aload_n 0, 1) := by decide +kernel
theorem dX4_clear_43 : decode cX4_clear 43 = .ok (.getfield 25, 3) := by decide +kernel
theorem dX4_clear_46 : decode cX4_clear 46 = .ok (.iconst 0, 1) := by decide +kernel
theorem dX4_clear_47 : decode cX4_clear 47 = .ok (.invokestatic 56, 3) := by decide +kernel
theorem dX4_clear_50 : decode cX4_clear 50 = .ok (.aload_n 0, 1) := by decide +kernel
theorem dX4_clear_51 : decode cX4_clear 51 = .ok (.getfield 28, 3) := by decide +kernel
theorem dX4_clear_54 : decode cX4_clear 54 = .ok (.bipush 10, 2) := by decide +kernel
theorem dX4_clear_56 : decode cX4_clear 56 = .ok (.invokestatic 56, 3) := by decide +kernel
theorem dX4_clear_59 : decode cX4_clear 59 = .ok (.return_, 1) := by decide +kernel
theorem dX4_stands_0 : decode cX4_stands 0 = .ok (.aload_n 0, 1) := by decide +kernel
theorem dX4_stands_1 : decode cX4_stands 1 = .ok (.getfield 69, 3) := by decide +kernel
theorem dX4_stands_4 : decode cX4_stands 4 = .ok (.ifCond .le 7, 3) := by decide +kernel
theorem dX4_stands_7 : decode cX4_stands 7 = .ok (.iconst 1, 1) := by decide +kernel
theorem dX4_stands_8 : decode cX4_stands 8 = .ok (.goto 4, 3) := by decide +kernel
theorem dX4_stands_11 : decode cX4_stands 11 = .ok (.iconst 0, 1) := by decide +kernel
theorem dX4_stands_12 : decode cX4_stands 12 = .ok (.ireturn, 1) := by decide +kernel
theorem dX4_hasRing_0 : decode cX4_hasRing 0 = .ok (.iload_n 1, 1) := by decide +kernel
theorem dX4_hasRing_1 : decode cX4_hasRing 1 = .ok (.ifCond .lt 20, 3) := by decide +kernel
theorem dX4_hasRing_4 : decode cX4_hasRing 4 = .ok (.iload_n 1, 1) := by decide +kernel
theorem dX4_hasRing_5 : decode cX4_hasRing 5 = .ok (.aload_n 0, 1) := by decide +kernel
theorem dX4_hasRing_6 : decode cX4_hasRing 6 = .ok (.getfield 69, 3) := by decide +kernel
theorem dX4_hasRing_9 : decode cX4_hasRing 9 = .ok (.if_icmp .ge 12, 3) := by decide +kernel
theorem dX4_hasRing_12 : decode cX4_hasRing 12 = .ok (.iload_n 1, 1) := by decide +kernel
theorem dX4_hasRing_13 : decode cX4_hasRing 13 = .ok (.iconst 4, 1) := by decide +kernel
theorem dX4_hasRing_14 : decode cX4_hasRing 14 = .ok (.if_icmp .ge 7, 3) := by decide +kernel
theorem dX4_hasRing_17 : decode cX4_hasRing 17 = .ok (.iconst 1, 1) := by decide +kernel
theorem dX4_hasRing_18 : decode cX4_hasRing 18 = .ok (.goto 4, 3) := by decide +kernel
theorem dX4_hasRing_21 : decode cX4_hasRing 21 = .ok (.iconst 0, 1) := by decide +kernel
theorem dX4_hasRing_22 : decode cX4_hasRing 22 = .ok (.ireturn, 1) := by decide +kernel
set_option maxRecDepth 20000 in
theorem ggX4_hasPlace_X4_hasRing : GoodIn wsX4_hasPlace wsX4_hasRing := goodIn_r _ [6, 7, 8, 9, 10, 11, 12, 13, 14, 15, 16, 17, 18, 19, 20, 21, 22, 23, 24, 25, 26, 27] (by decide +kernel) (by decide +kernel)
set_option maxRecDepth 20000 in
theorem gX4_hasPlace_X4_hasRing : GoodIn wsX4_hasPlace (wsV RX4 87 RX4 yX4_hasRing wsX4_hasRing) := goodIn_app (goodIn_of _ (by decide +kernel)) ggX4_hasPlace_X4_hasRing
theorem dX4_hasPlace_0 : decode cX4_hasPlace 0 = .ok (.aload_n 0, 1) := by decide +kernel
theorem dX4_hasPlace_1 : decode cX4_hasPlace 1 = .ok (.iload_n 1, 1) := by decide +kernel
theorem dX4_hasPlace_2 : decode cX4_hasPlace 2 = .ok (.invokevirtual 87, 3) := by decide +kernel
theorem dX4_hasPlace_5 : decode cX4_hasPlace 5 = .ok (.ifCond .eq 21, 3) := by decide +kernel
theorem dX4_hasPlace_8 : decode cX4_hasPlace 8 = .ok (.iload_n 2, 1) := by decide +kernel
theorem dX4_hasPlace_9 : decode cX4_hasPlace 9 = .ok (.ifCond .lt 17, 3) := by decide +kernel
theorem dX4_hasPlace_12 : decode cX4_hasPlace 12 = .ok (.iload_n 2, 1) := by decide +kernel
theorem dX4_hasPlace_13 : decode cX4_hasPlace 13 = .ok (.aload_n 0, 1) := by decide +kernel
theorem dX4_hasPlace_14 : decode cX4_hasPlace 14 = .ok (.getfield 22, 3) := by decide +kernel
theorem dX4_hasPlace_17 : decode cX4_hasPlace 17 = .ok (.iload_n 1, 1) := by decide +kernel
theorem dX4_hasPlace_18 : decode cX4_hasPlace 18 = .ok (.iaload, 1) := by decide +kernel
theorem dX4_hasPlace_19 : decode cX4_hasPlace 19 = .ok (.if_icmp .ge 7, 3) := by decide +kernel
theorem dX4_hasPlace_22 : decode cX4_hasPlace 22 = .ok (.iconst 1, 1) := by decide +kernel
theorem dX4_hasPlace_23 : decode cX4_hasPlace 23 = .ok (.goto 4, 3) := by decide +kernel
theorem dX4_hasPlace_26 : decode cX4_hasPlace 26 = .ok (.iconst 0, 1) := by decide +kernel
theorem dX4_hasPlace_27 : decode cX4_hasPlace 27 = .ok (.ireturn, 1) := by decide +kernel
theorem dX4_hasThing_0 : decode cX4_hasThing 0 = .ok (.iload_n 1, 1) := by decide +kernel
theorem dX4_hasThing_1 : decode cX4_hasThing 1 = .ok (.ifCond .lt 21, 3) := by decide +kernel
theorem dX4_hasThing_4 : decode cX4_hasThing 4 = .ok (.iload_n 1, 1) := by decide +kernel
theorem dX4_hasThing_5 : decode cX4_hasThing 5 = .ok (.aload_n 0, 1) := by decide +kernel
theorem dX4_hasThing_6 : decode cX4_hasThing 6 = .ok (.getfield 78, 3) := by decide +kernel
theorem dX4_hasThing_9 : decode cX4_hasThing 9 = .ok (.if_icmp .ge 13, 3) := by decide +kernel
theorem dX4_hasThing_12 : decode cX4_hasThing 12 = .ok (.iload_n 1, 1) := by decide +kernel
theorem dX4_hasThing_13 : decode cX4_hasThing 13 = .ok (.bipush 7, 2) := by decide +kernel
theorem dX4_hasThing_15 : decode cX4_hasThing 15 = .ok (.if_icmp .ge 7, 3) := by decide +kernel
theorem dX4_hasThing_18 : decode cX4_hasThing 18 = .ok (.iconst 1, 1) := by decide +kernel
theorem dX4_hasThing_19 : decode cX4_hasThing 19 = .ok (.goto 4, 3) := by decide +kernel
theorem dX4_hasThing_22 : decode cX4_hasThing 22 = .ok (.iconst 0, 1) := by decide +kernel
theorem dX4_hasThing_23 : decode cX4_hasThing 23 = .ok (.ireturn, 1) := by decide +kernel
set_option maxRecDepth 20000 in
theorem ggX4_sortOf_X4_hasRing : GoodIn wsX4_sortOf wsX4_hasRing := goodIn_r _ [6, 7, 8, 9, 10, 11, 12, 13, 14, 15, 16, 17, 18, 19, 20, 21, 22, 23, 24, 25, 26, 27] (by decide +kernel) (by decide +kernel)
set_option maxRecDepth 20000 in
theorem gX4_sortOf_X4_hasRing : GoodIn wsX4_sortOf (wsV RX4 87 RX4 yX4_hasRing wsX4_hasRing) := goodIn_app (goodIn_of _ (by decide +kernel)) ggX4_sortOf_X4_hasRing
theorem dX4_sortOf_0 : decode cX4_sortOf 0 = .ok (.aload_n 0, 1) := by decide +kernel
theorem dX4_sortOf_1 : decode cX4_sortOf 1 = .ok (.iload_n 1, 1) := by decide +kernel
theorem dX4_sortOf_2 : decode cX4_sortOf 2 = .ok (.invokevirtual 87, 3) := by decide +kernel
theorem dX4_sortOf_5 : decode cX4_sortOf 5 = .ok (.ifCond .eq 12, 3) := by decide +kernel
theorem dX4_sortOf_8 : decode cX4_sortOf 8 = .ok (.aload_n 0, 1) := by decide +kernel
theorem dX4_sortOf_9 : decode cX4_sortOf 9 = .ok (.getfield 18, 3) := by decide +kernel
theorem dX4_sortOf_12 : decode cX4_sortOf 12 = .ok (.iload_n 1, 1) := by decide +kernel
theorem dX4_sortOf_13 : decode cX4_sortOf 13 = .ok (.iaload, 1) := by decide +kernel
theorem dX4_sortOf_14 : decode cX4_sortOf 14 = .ok (.goto 4, 3) := by decide +kernel
theorem dX4_sortOf_17 : decode cX4_sortOf 17 = .ok (.iconst 0, 1) := by decide +kernel
theorem dX4_sortOf_18 : decode cX4_sortOf 18 = .ok (.ireturn, 1) := by decide +kernel
set_option maxRecDepth 20000 in
theorem ggX4_placesOf_X4_hasRing : GoodIn wsX4_placesOf wsX4_hasRing := goodIn_r _ [6, 7, 8, 9, 10, 11, 12, 13, 14, 15, 16, 17, 18, 19, 20, 21, 22, 23, 24, 25, 26, 27] (by decide +kernel) (by decide +kernel)
set_option maxRecDepth 20000 in
theorem gX4_placesOf_X4_hasRing : GoodIn wsX4_placesOf (wsV RX4 87 RX4 yX4_hasRing wsX4_hasRing) := goodIn_app (goodIn_of _ (by decide +kernel)) ggX4_placesOf_X4_hasRing
theorem dX4_placesOf_0 : decode cX4_placesOf 0 = .ok (.aload_n 0, 1) := by decide +kernel
theorem dX4_placesOf_1 : decode cX4_placesOf 1 = .ok (.iload_n 1, 1) := by decide +kernel
theorem dX4_placesOf_2 : decode cX4_placesOf 2 = .ok (.invokevirtual 87, 3) := by decide +kernel
theorem dX4_placesOf_5 : decode cX4_placesOf 5 = .ok (.ifCond .eq 12, 3) := by decide +kernel
theorem dX4_placesOf_8 : decode cX4_placesOf 8 = .ok (.aload_n 0, 1) := by decide +kernel
theorem dX4_placesOf_9 : decode cX4_placesOf 9 = .ok (.getfield 22, 3) := by decide +kernel
theorem dX4_placesOf_12 : decode cX4_placesOf 12 = .ok (.iload_n 1, 1) := by decide +kernel
theorem dX4_placesOf_13 : decode cX4_placesOf 13 = .ok (.iaload, 1) := by decide +kernel
theorem dX4_placesOf_14 : decode cX4_placesOf 14 = .ok (.goto 4, 3) := by decide +kernel
theorem dX4_placesOf_17 : decode cX4_placesOf 17 = .ok (.iconst 0, 1) := by decide +kernel
theorem dX4_placesOf_18 : decode cX4_placesOf 18 = .ok (.ireturn, 1) := by decide +kernel
set_option maxRecDepth 20000 in
theorem ggX4_placesOfAll_X4_placesOf : GoodIn wsX4_placesOfAll wsX4_placesOf := goodIn_r _ [6, 7, 8, 9, 10, 5, 11, 1, 12, 13, 14, 15, 16, 17, 18, 19, 20, 21, 22, 23, 24, 25, 26, 27, 28, 29, 30, 31] (by decide +kernel) (by decide +kernel)
set_option maxRecDepth 20000 in
theorem gX4_placesOfAll_X4_placesOf : GoodIn wsX4_placesOfAll (wsV RX4 91 RX4 yX4_placesOf wsX4_placesOf) := goodIn_app (goodIn_of _ (by decide +kernel)) ggX4_placesOfAll_X4_placesOf
theorem dX4_placesOfAll_0 : decode cX4_placesOfAll 0 = .ok (.iconst 0, 1) := by decide +kernel
theorem dX4_placesOfAll_1 : decode cX4_placesOfAll 1 = .ok (.istore_n 1, 1) := by decide +kernel
theorem dX4_placesOfAll_2 : decode cX4_placesOfAll 2 = .ok (.iconst 0, 1) := by decide +kernel
theorem dX4_placesOfAll_3 : decode cX4_placesOfAll 3 = .ok (.istore_n 2, 1) := by decide +kernel
theorem dX4_placesOfAll_4 : decode cX4_placesOfAll 4 = .ok (.iload_n 2, 1) := by decide +kernel
theorem dX4_placesOfAll_5 : decode cX4_placesOfAll 5 = .ok (.aload_n 0, 1) := by decide +kernel
theorem dX4_placesOfAll_6 : decode cX4_placesOfAll 6 = .ok (.getfield 69, 3) := by decide +kernel
theorem dX4_placesOfAll_9 : decode cX4_placesOfAll 9 = .ok (.if_icmp .ge 17, 3) := by decide +kernel
theorem dX4_placesOfAll_12 : decode cX4_placesOfAll 12 = .ok (.iload_n 1, 1) := by decide +kernel
theorem dX4_placesOfAll_13 : decode cX4_placesOfAll 13 = .ok (.aload_n 0, 1) := by decide +kernel
theorem dX4_placesOfAll_14 : decode cX4_placesOfAll 14 = .ok (.iload_n 2, 1) := by decide +kernel
theorem dX4_placesOfAll_15 : decode cX4_placesOfAll 15 = .ok (.invokevirtual 91, 3) := by decide +kernel
theorem dX4_placesOfAll_18 : decode cX4_placesOfAll 18 = .ok (.iadd, 1) := by decide +kernel
theorem dX4_placesOfAll_19 : decode cX4_placesOfAll 19 = .ok (.istore_n 1, 1) := by decide +kernel
theorem dX4_placesOfAll_20 : decode cX4_placesOfAll 20 = .ok (.iinc 2 1, 3) := by decide +kernel
theorem dX4_placesOfAll_23 : decode cX4_placesOfAll 23 = .ok (.goto (-19), 3) := by decide +kernel
theorem dX4_placesOfAll_26 : decode cX4_placesOfAll 26 = .ok (.iload_n 1, 1) := by decide +kernel
theorem dX4_placesOfAll_27 : decode cX4_placesOfAll 27 = .ok (.ireturn, 1) := by decide +kernel
theorem dX4_nextOf_0 : decode cX4_nextOf 0 = .ok (.iload_n 1, 1) := by decide +kernel
theorem dX4_nextOf_1 : decode cX4_nextOf 1 = .ok (.ifCond .lt 18, 3) := by decide +kernel
theorem dX4_nextOf_4 : decode cX4_nextOf 4 = .ok (.iload_n 1, 1) := by decide +kernel
theorem dX4_nextOf_5 : decode cX4_nextOf 5 = .ok (.bipush 36, 2) := by decide +kernel
theorem dX4_nextOf_7 : decode cX4_nextOf 7 = .ok (.if_icmp .ge 12, 3) := by decide +kernel
theorem dX4_nextOf_10 : decode cX4_nextOf 10 = .ok (.aload_n 0, 1) := by decide +kernel
theorem dX4_nextOf_11 : decode cX4_nextOf 11 = .ok (.getfield 25, 3) := by decide +kernel
theorem dX4_nextOf_14 : decode cX4_nextOf 14 = .ok (.iload_n 1, 1) := by decide +kernel
theorem dX4_nextOf_15 : decode cX4_nextOf 15 = .ok (.iaload, 1) := by decide +kernel
theorem dX4_nextOf_16 : decode cX4_nextOf 16 = .ok (.goto 4, 3) := by decide +kernel
theorem dX4_nextOf_19 : decode cX4_nextOf 19 = .ok (.iconst 0, 1) := by decide +kernel
theorem dX4_nextOf_20 : decode cX4_nextOf 20 = .ok (.ireturn, 1) := by decide +kernel
theorem dX4_widthOf_0 : decode cX4_widthOf 0 = .ok (.iload_n 1, 1) := by decide +kernel
theorem dX4_widthOf_1 : decode cX4_widthOf 1 = .ok (.ifCond .lt 18, 3) := by decide +kernel
theorem dX4_widthOf_4 : decode cX4_widthOf 4 = .ok (.iload_n 1, 1) := by decide +kernel
theorem dX4_widthOf_5 : decode cX4_widthOf 5 = .ok (.bipush 36, 2) := by decide +kernel
theorem dX4_widthOf_7 : decode cX4_widthOf 7 = .ok (.if_icmp .ge 12, 3) := by decide +kernel
theorem dX4_widthOf_10 : decode cX4_widthOf 10 = .ok (.aload_n 0, 1) := by decide +kernel
theorem dX4_widthOf_11 : decode cX4_widthOf 11 = .ok (.getfield 28, 3) := by decide +kernel
theorem dX4_widthOf_14 : decode cX4_widthOf 14 = .ok (.iload_n 1, 1) := by decide +kernel
theorem dX4_widthOf_15 : decode cX4_widthOf 15 = .ok (.iaload, 1) := by decide +kernel
theorem dX4_widthOf_16 : decode cX4_widthOf 16 = .ok (.goto 5, 3) := by decide +kernel
theorem dX4_widthOf_19 : decode cX4_widthOf 19 = .ok (.bipush 10, 2) := by decide +kernel
theorem dX4_widthOf_21 : decode cX4_widthOf 21 = .ok (.ireturn, 1) := by decide +kernel
theorem dX4_isTooLarge_0 : decode cX4_isTooLarge 0 = .ok (.iload_n 1, 1) := by decide +kernel
theorem dX4_isTooLarge_1 : decode cX4_isTooLarge 1 = .ok (.ifCond .lt 19, 3) := by decide +kernel
theorem dX4_isTooLarge_4 : decode cX4_isTooLarge 4 = .ok (.iload_n 1, 1) := by decide +kernel
theorem dX4_isTooLarge_5 : decode cX4_isTooLarge 5 = .ok (.bipush 7, 2) := by decide +kernel
theorem dX4_isTooLarge_7 : decode cX4_isTooLarge 7 = .ok (.if_icmp .ge 13, 3) := by decide +kernel
theorem dX4_isTooLarge_10 : decode cX4_isTooLarge 10 = .ok (.iload_n 2, 1) := by decide +kernel
theorem dX4_isTooLarge_11 : decode cX4_isTooLarge 11 = .ok (.ifCond .lt 9, 3) := by decide +kernel
theorem dX4_isTooLarge_14 : decode cX4_isTooLarge 14 = .ok (.iload_n 2, 1) := by decide +kernel
theorem dX4_isTooLarge_15 : decode cX4_isTooLarge 15 = .ok (.bipush 36, 2) := by decide +kernel
theorem dX4_isTooLarge_17 : decode cX4_isTooLarge 17 = .ok (.if_icmp .lt 5, 3) := by decide +kernel
theorem dX4_isTooLarge_20 : decode cX4_isTooLarge 20 = .ok (.iconst 0, 1) := by decide +kernel
theorem dX4_isTooLarge_21 : decode cX4_isTooLarge 21 = .ok (.ireturn, 1) := by decide +kernel
theorem dX4_isTooLarge_22 : decode cX4_isTooLarge 22 = .ok (.aload_n 0, 1) := by decide +kernel
theorem dX4_isTooLarge_23 : decode cX4_isTooLarge 23 = .ok (.getfield 40, 3) := by decide +kernel
theorem dX4_isTooLarge_26 : decode cX4_isTooLarge 26 = .ok (.iload_n 1, 1) := by decide +kernel
theorem dX4_isTooLarge_27 : decode cX4_isTooLarge 27 = .ok (.iaload, 1) := by decide +kernel
theorem dX4_isTooLarge_28 : decode cX4_isTooLarge 28 = .ok (.aload_n 0, 1) := by decide +kernel
theorem dX4_isTooLarge_29 : decode cX4_isTooLarge 29 = .ok (.getfield 28, 3) := by decide +kernel
theorem dX4_isTooLarge_32 : decode cX4_isTooLarge 32 = .ok (.iload_n 2, 1) := by decide +kernel
theorem dX4_isTooLarge_33 : decode cX4_isTooLarge 33 = .ok (.iaload, 1) := by decide +kernel
theorem dX4_isTooLarge_34 : decode cX4_isTooLarge 34 = .ok (.if_icmp .le 17, 3) := by decide +kernel
theorem dX4_isTooLarge_37 : decode cX4_isTooLarge 37 = .ok (.aload_n 0, 1) := by decide +kernel
theorem dX4_isTooLarge_38 : decode cX4_isTooLarge 38 = .ok (.getfield 37, 3) := by decide +kernel
theorem dX4_isTooLarge_41 : decode cX4_isTooLarge 41 = .ok (.iload_n 1, 1) := by decide +kernel
theorem dX4_isTooLarge_42 : decode cX4_isTooLarge 42 = .ok (.iaload, 1) := by decide +kernel
theorem dX4_isTooLarge_43 : decode cX4_isTooLarge 43 = .ok (.iconst 3, 1) := by decide +kernel
theorem dX4_isTooLarge_44 : decode cX4_isTooLarge 44 = .ok (.if_icmp .eq 7, 3) := by decide +kernel
theorem dX4_isTooLarge_47 : decode cX4_isTooLarge 47 = .ok (.iconst 1, 1) := by decide +kernel
theorem dX4_isTooLarge_48 : decode cX4_isTooLarge 48 = .ok (.goto 4, 3) := by decide +kernel
theorem dX4_isTooLarge_51 : decode cX4_isTooLarge 51 = .ok (.iconst 0, 1) := by decide +kernel
theorem dX4_isTooLarge_52 : decode cX4_isTooLarge 52 = .ok (.ireturn, 1) := by decide +kernel
theorem dX4_kindOf_0 : decode cX4_kindOf 0 = .ok (.iload_n 1, 1) := by decide +kernel
theorem dX4_kindOf_1 : decode cX4_kindOf 1 = .ok (.ifCond .lt 18, 3) := by decide +kernel
theorem dX4_kindOf_4 : decode cX4_kindOf 4 = .ok (.iload_n 1, 1) := by decide +kernel
theorem dX4_kindOf_5 : decode cX4_kindOf 5 = .ok (.bipush 7, 2) := by decide +kernel
theorem dX4_kindOf_7 : decode cX4_kindOf 7 = .ok (.if_icmp .ge 12, 3) := by decide +kernel
theorem dX4_kindOf_10 : decode cX4_kindOf 10 = .ok (.aload_n 0, 1) := by decide +kernel
theorem dX4_kindOf_11 : decode cX4_kindOf 11 = .ok (.getfield 37, 3) := by decide +kernel
theorem dX4_kindOf_14 : decode cX4_kindOf 14 = .ok (.iload_n 1, 1) := by decide +kernel
theorem dX4_kindOf_15 : decode cX4_kindOf 15 = .ok (.iaload, 1) := by decide +kernel
theorem dX4_kindOf_16 : decode cX4_kindOf 16 = .ok (.goto 4, 3) := by decide +kernel
theorem dX4_kindOf_19 : decode cX4_kindOf 19 = .ok (.iconst 0, 1) := by decide +kernel
theorem dX4_kindOf_20 : decode cX4_kindOf 20 = .ok (.ireturn, 1) := by decide +kernel
theorem dX4_sizeOf_0 : decode cX4_sizeOf 0 = .ok (.iload_n 1, 1) := by decide +kernel
theorem dX4_sizeOf_1 : decode cX4_sizeOf 1 = .ok (.ifCond .lt 18, 3) := by decide +kernel
theorem dX4_sizeOf_4 : decode cX4_sizeOf 4 = .ok (.iload_n 1, 1) := by decide +kernel
theorem dX4_sizeOf_5 : decode cX4_sizeOf 5 = .ok (.bipush 7, 2) := by decide +kernel
theorem dX4_sizeOf_7 : decode cX4_sizeOf 7 = .ok (.if_icmp .ge 12, 3) := by decide +kernel
theorem dX4_sizeOf_10 : decode cX4_sizeOf 10 = .ok (.aload_n 0, 1) := by decide +kernel
theorem dX4_sizeOf_11 : decode cX4_sizeOf 11 = .ok (.getfield 40, 3) := by decide +kernel
theorem dX4_sizeOf_14 : decode cX4_sizeOf 14 = .ok (.iload_n 1, 1) := by decide +kernel
theorem dX4_sizeOf_15 : decode cX4_sizeOf 15 = .ok (.iaload, 1) := by decide +kernel
theorem dX4_sizeOf_16 : decode cX4_sizeOf 16 = .ok (.goto 4, 3) := by decide +kernel
theorem dX4_sizeOf_19 : decode cX4_sizeOf 19 = .ok (.iconst 0, 1) := by decide +kernel
theorem dX4_sizeOf_20 : decode cX4_sizeOf 20 = .ok (.ireturn, 1) := by decide +kernel
theorem dX4_firstCellOf_0 : decode cX4_firstCellOf 0 = .ok (.iload_n 1, 1) := by decide +kernel
theorem dX4_firstCellOf_1 : decode cX4_firstCellOf 1 = .ok (.ifCond .lt 18, 3) := by decide +kernel
theorem dX4_firstCellOf_4 : decode cX4_firstCellOf 4 = .ok (.iload_n 1, 1) := by decide +kernel
theorem dX4_firstCellOf_5 : decode cX4_firstCellOf 5 = .ok (.bipush 7, 2) := by decide +kernel
theorem dX4_firstCellOf_7 : decode cX4_firstCellOf 7 = .ok (.if_icmp .ge 12, 3) := by decide +kernel
theorem dX4_firstCellOf_10 : decode cX4_firstCellOf 10 = .ok (.aload_n 0, 1) := by decide +kernel
theorem dX4_firstCellOf_11 : decode cX4_firstCellOf 11 = .ok (.getfield 43, 3) := by decide +kernel
theorem dX4_firstCellOf_14 : decode cX4_firstCellOf 14 = .ok (.iload_n 1, 1) := by decide +kernel
theorem dX4_firstCellOf_15 : decode cX4_firstCellOf 15 = .ok (.iaload, 1) := by decide +kernel
theorem dX4_firstCellOf_16 : decode cX4_firstCellOf 16 = .ok (.goto 4, 3) := by decide +kernel
theorem dX4_firstCellOf_19 : decode cX4_firstCellOf 19 = .ok (.iconst 0, 1) := by decide +kernel
theorem dX4_firstCellOf_20 : decode cX4_firstCellOf 20 = .ok (.ireturn, 1) := by decide +kernel
theorem dX4_doorSide_0 : decode cX4_doorSide 0 = .ok (.iload_n 1, 1) := by decide +kernel
theorem dX4_doorSide_1 : decode cX4_doorSide 1 = .ok (.ifCond .lt 16, 3) := by decide +kernel
theorem dX4_doorSide_4 : decode cX4_doorSide 4 = .ok (.iload_n 1, 1) := by decide +kernel
theorem dX4_doorSide_5 : decode cX4_doorSide 5 = .ok (.aload_n 0, 1) := by decide +kernel
theorem dX4_doorSide_6 : decode cX4_doorSide 6 = .ok (.getfield 75, 3) := by decide +kernel
theorem dX4_doorSide_9 : decode cX4_doorSide 9 = .ok (.if_icmp .ge 8, 3) := by decide +kernel
theorem dX4_doorSide_12 : decode cX4_doorSide 12 = .ok (.iload_n 1, 1) := by decide +kernel
theorem dX4_doorSide_13 : decode cX4_doorSide 13 = .ok (.iconst 5, 1) := by decide +kernel
theorem dX4_doorSide_14 : decode cX4_doorSide 14 = .ok (.if_icmp .lt 5, 3) := by decide +kernel
theorem dX4_doorSide_17 : decode cX4_doorSide 17 = .ok (.iconst 0, 1) := by decide +kernel
theorem dX4_doorSide_18 : decode cX4_doorSide 18 = .ok (.ireturn, 1) := by decide +kernel
theorem dX4_doorSide_19 : decode cX4_doorSide 19 = .ok (.iload_n 2, 1) := by decide +kernel
theorem dX4_doorSide_20 : decode cX4_doorSide 20 = .ok (.ifCond .eq 12, 3) := by decide +kernel
theorem dX4_doorSide_23 : decode cX4_doorSide 23 = .ok (.aload_n 0, 1) := by decide +kernel
theorem dX4_doorSide_24 : decode cX4_doorSide 24 = .ok (.getfield 34, 3) := by decide +kernel
theorem dX4_doorSide_27 : decode cX4_doorSide 27 = .ok (.iload_n 1, 1) := by decide +kernel
theorem dX4_doorSide_28 : decode cX4_doorSide 28 = .ok (.iaload, 1) := by decide +kernel
theorem dX4_doorSide_29 : decode cX4_doorSide 29 = .ok (.goto 9, 3) := by decide +kernel
theorem dX4_doorSide_32 : decode cX4_doorSide 32 = .ok (.aload_n 0, 1) := by decide +kernel
theorem dX4_doorSide_33 : decode cX4_doorSide 33 = .ok (.getfield 31, 3) := by decide +kernel
theorem dX4_doorSide_36 : decode cX4_doorSide 36 = .ok (.iload_n 1, 1) := by decide +kernel
theorem dX4_doorSide_37 : decode cX4_doorSide 37 = .ok (.iaload, 1) := by decide +kernel
theorem dX4_doorSide_38 : decode cX4_doorSide 38 = .ok (.ireturn, 1) := by decide +kernel
theorem dX4_hasDoor_0 : decode cX4_hasDoor 0 = .ok (.iconst 0, 1) := by decide +kernel
theorem dX4_hasDoor_1 : decode cX4_hasDoor 1 = .ok (.istore_n 3, 1) := by decide +kernel
theorem dX4_hasDoor_2 : decode cX4_hasDoor 2 = .ok (.iload_n 3, 1) := by decide +kernel
theorem dX4_hasDoor_3 : decode cX4_hasDoor 3 = .ok (.aload_n 0, 1) := by decide +kernel
theorem dX4_hasDoor_4 : decode cX4_hasDoor 4 = .ok (.getfield 75, 3) := by decide +kernel
theorem dX4_hasDoor_7 : decode cX4_hasDoor 7 = .ok (.if_icmp .ge 80, 3) := by decide +kernel
theorem dX4_hasDoor_10 : decode cX4_hasDoor 10 = .ok (.iload_n 3, 1) := by decide +kernel
theorem dX4_hasDoor_11 : decode cX4_hasDoor 11 = .ok (.iconst 5, 1) := by decide +kernel
theorem dX4_hasDoor_12 : decode cX4_hasDoor 12 = .ok (.if_icmp .ge 75, 3) := by decide +kernel
theorem dX4_hasDoor_15 : decode cX4_hasDoor 15 = .ok (.aload_n 0, 1) := by decide +kernel
theorem dX4_hasDoor_16 : decode cX4_hasDoor 16 = .ok (.getfield 31, 3) := by decide +kernel
theorem dX4_hasDoor_19 : decode cX4_hasDoor 19 = .ok (.iload_n 3, 1) := by decide +kernel
theorem dX4_hasDoor_20 : decode cX4_hasDoor 20 = .ok (.iaload, 1) := by decide +kernel
theorem dX4_hasDoor_21 : decode cX4_hasDoor 21 = .ok (.iload_n 1, 1) := by decide +kernel
theorem dX4_hasDoor_22 : decode cX4_hasDoor 22 = .ok (.if_icmp .ne 17, 3) := by decide +kernel
theorem dX4_hasDoor_25 : decode cX4_hasDoor 25 = .ok (.aload_n 0, 1) := by decide +kernel
theorem dX4_hasDoor_26 : decode cX4_hasDoor 26 = .ok (.getfield 34, 3) := by decide +kernel
theorem dX4_hasDoor_29 : decode cX4_hasDoor 29 = .ok (.iload_n 3, 1) := by decide +kernel
theorem dX4_hasDoor_30 : decode cX4_hasDoor 30 = .ok (.iaload, 1) := by decide +kernel
theorem dX4_hasDoor_31 : decode cX4_hasDoor 31 = .ok (.iload_n 2, 1) := by decide +kernel
theorem dX4_hasDoor_32 : decode cX4_hasDoor 32 = .ok (.if_icmp .ne 7, 3) := by decide +kernel
theorem dX4_hasDoor_35 : decode cX4_hasDoor 35 = .ok (.iconst 1, 1) := by decide +kernel
theorem dX4_hasDoor_36 : decode cX4_hasDoor 36 = .ok (.goto 4, 3) := by decide +kernel
theorem dX4_hasDoor_39 : decode cX4_hasDoor 39 = .ok (.iconst 0, 1) := by decide +kernel
theorem dX4_hasDoor_40 : decode cX4_hasDoor 40 = .ok (.istore 4, 2) := by decide +kernel
theorem dX4_hasDoor_42 : decode cX4_hasDoor 42 = .ok (.aload_n 0, 1) := by decide +kernel
theorem dX4_hasDoor_43 : decode cX4_hasDoor 43 = .ok (.getfield 31, 3) := by decide +kernel
theorem dX4_hasDoor_46 : decode cX4_hasDoor 46 = .ok (.iload_n 3, 1) := by decide +kernel
theorem dX4_hasDoor_47 : decode cX4_hasDoor 47 = .ok (.iaload, 1) := by decide +kernel
theorem dX4_hasDoor_48 : decode cX4_hasDoor 48 = .ok (.iload_n 2, 1) := by decide +kernel
theorem dX4_hasDoor_49 : decode cX4_hasDoor 49 = .ok (.if_icmp .ne 17, 3) := by decide +kernel
theorem dX4_hasDoor_52 : decode cX4_hasDoor 52 = .ok (.aload_n 0, 1) := by decide +kernel
theorem dX4_hasDoor_53 : decode cX4_hasDoor 53 = .ok (.getfield 34, 3) := by decide +kernel
theorem dX4_hasDoor_56 : decode cX4_hasDoor 56 = .ok (.iload_n 3, 1) := by decide +kernel
theorem dX4_hasDoor_57 : decode cX4_hasDoor 57 = .ok (.iaload, 1) := by decide +kernel
theorem dX4_hasDoor_58 : decode cX4_hasDoor 58 = .ok (.iload_n 1, 1) := by decide +kernel
theorem dX4_hasDoor_59 : decode cX4_hasDoor 59 = .ok (.if_icmp .ne 7, 3) := by decide +kernel
theorem dX4_hasDoor_62 : decode cX4_hasDoor 62 = .ok (.iconst 1, 1) := by decide +kernel
theorem dX4_hasDoor_63 : decode cX4_hasDoor 63 = .ok (.goto 4, 3) := by decide +kernel
theorem dX4_hasDoor_66 : decode cX4_hasDoor 66 = .ok (.iconst 0, 1) := by decide +kernel
theorem dX4_hasDoor_67 : decode cX4_hasDoor 67 = .ok (.istore 5, 2) := by decide +kernel
theorem dX4_hasDoor_69 : decode cX4_hasDoor 69 = .ok (.iload 4, 2) := by decide +kernel
theorem dX4_hasDoor_71 : decode cX4_hasDoor 71 = .ok (.ifCond .ne 8, 3) := by decide +kernel
theorem dX4_hasDoor_74 : decode cX4_hasDoor 74 = .ok (.iload 5, 2) := by decide +kernel
theorem dX4_hasDoor_76 : decode cX4_hasDoor 76 = .ok (.ifCond .eq 5, 3) := by decide +kernel
theorem dX4_hasDoor_79 : decode cX4_hasDoor 79 = .ok (.iconst 1, 1) := by decide +kernel
theorem dX4_hasDoor_80 : decode cX4_hasDoor 80 = .ok (.ireturn, 1) := by decide +kernel
theorem dX4_hasDoor_81 : decode cX4_hasDoor 81 = .ok (.iinc 3 1, 3) := by decide +kernel
theorem dX4_hasDoor_84 : decode cX4_hasDoor 84 = .ok (.goto (-82), 3) := by decide +kernel
theorem dX4_hasDoor_87 : decode cX4_hasDoor 87 = .ok (.iconst 0, 1) := by decide +kernel
theorem dX4_hasDoor_88 : decode cX4_hasDoor 88 = .ok (.ireturn, 1) := by decide +kernel
theorem dX4_isTaken_0 : decode cX4_isTaken 0 = .ok (.iconst 0, 1) := by decide +kernel
theorem dX4_isTaken_1 : decode cX4_isTaken 1 = .ok (.istore_n 2, 1) := by decide +kernel
theorem dX4_isTaken_2 : decode cX4_isTaken 2 = .ok (.iload_n 2, 1) := by decide +kernel
theorem dX4_isTaken_3 : decode cX4_isTaken 3 = .ok (.aload_n 0, 1) := by decide +kernel
theorem dX4_isTaken_4 : decode cX4_isTaken 4 = .ok (.getfield 78, 3) := by decide +kernel
theorem dX4_isTaken_7 : decode cX4_isTaken 7 = .ok (.if_icmp .ge 27, 3) := by decide +kernel
theorem dX4_isTaken_10 : decode cX4_isTaken 10 = .ok (.iload_n 2, 1) := by decide +kernel
theorem dX4_isTaken_11 : decode cX4_isTaken 11 = .ok (.bipush 7, 2) := by decide +kernel
theorem dX4_isTaken_13 : decode cX4_isTaken 13 = .ok (.if_icmp .ge 21, 3) := by decide +kernel
theorem dX4_isTaken_16 : decode cX4_isTaken 16 = .ok (.aload_n 0, 1) := by decide +kernel
theorem dX4_isTaken_17 : decode cX4_isTaken 17 = .ok (.getfield 43, 3) := by decide +kernel
theorem dX4_isTaken_20 : decode cX4_isTaken 20 = .ok (.iload_n 2, 1) := by decide +kernel
theorem dX4_isTaken_21 : decode cX4_isTaken 21 = .ok (.iaload, 1) := by decide +kernel
theorem dX4_isTaken_22 : decode cX4_isTaken 22 = .ok (.iload_n 1, 1) := by decide +kernel
theorem dX4_isTaken_23 : decode cX4_isTaken 23 = .ok (.if_icmp .ne 5, 3) := by decide +kernel
theorem dX4_isTaken_26 : decode cX4_isTaken 26 = .ok (.iconst 1, 1) := by decide +kernel
theorem dX4_isTaken_27 : decode cX4_isTaken 27 = .ok (.ireturn, 1) := by decide +kernel
theorem dX4_isTaken_28 : decode cX4_isTaken 28 = .ok (.iinc 2 1, 3) := by decide +kernel
theorem dX4_isTaken_31 : decode cX4_isTaken 31 = .ok (.goto (-29), 3) := by decide +kernel
theorem dX4_isTaken_34 : decode cX4_isTaken 34 = .ok (.iconst 0, 1) := by decide +kernel
theorem dX4_isTaken_35 : decode cX4_isTaken 35 = .ok (.ireturn, 1) := by decide +kernel
theorem dX4_hasMark_0 : decode cX4_hasMark 0 = .ok (.iconst 0, 1) := by decide +kernel
theorem dX4_hasMark_1 : decode cX4_hasMark 1 = .ok (.istore_n 2, 1) := by decide +kernel
theorem dX4_hasMark_2 : decode cX4_hasMark 2 = .ok (.iload_n 2, 1) := by decide +kernel
theorem dX4_hasMark_3 : decode cX4_hasMark 3 = .ok (.aload_n 0, 1) := by decide +kernel
theorem dX4_hasMark_4 : decode cX4_hasMark 4 = .ok (.getfield 81, 3) := by decide +kernel
theorem dX4_hasMark_7 : decode cX4_hasMark 7 = .ok (.if_icmp .ge 27, 3) := by decide +kernel
theorem dX4_hasMark_10 : decode cX4_hasMark 10 = .ok (.iload_n 2, 1) := by decide +kernel
theorem dX4_hasMark_11 : decode cX4_hasMark 11 = .ok (.bipush 6, 2) := by decide +kernel
theorem dX4_hasMark_13 : decode cX4_hasMark 13 = .ok (.if_icmp .ge 21, 3) := by decide +kernel
theorem dX4_hasMark_16 : decode cX4_hasMark 16 = .ok (.aload_n 0, 1) := by decide +kernel
theorem dX4_hasMark_17 : decode cX4_hasMark 17 = .ok (.getfield 46, 3) := by decide +kernel
theorem dX4_hasMark_20 : decode cX4_hasMark 20 = .ok (.iload_n 2, 1) := by decide +kernel
theorem dX4_hasMark_21 : decode cX4_hasMark 21 = .ok (.iaload, 1) := by decide +kernel
theorem dX4_hasMark_22 : decode cX4_hasMark 22 = .ok (.iload_n 1, 1) := by decide +kernel
theorem dX4_hasMark_23 : decode cX4_hasMark 23 = .ok (.if_icmp .ne 5, 3) := by decide +kernel
theorem dX4_hasMark_26 : decode cX4_hasMark 26 = .ok (.iconst 1, 1) := by decide +kernel
theorem dX4_hasMark_27 : decode cX4_hasMark 27 = .ok (.ireturn, 1) := by decide +kernel
theorem dX4_hasMark_28 : decode cX4_hasMark 28 = .ok (.iinc 2 1, 3) := by decide +kernel
theorem dX4_hasMark_31 : decode cX4_hasMark 31 = .ok (.goto (-29), 3) := by decide +kernel
theorem dX4_hasMark_34 : decode cX4_hasMark 34 = .ok (.iconst 0, 1) := by decide +kernel
theorem dX4_hasMark_35 : decode cX4_hasMark 35 = .ok (.ireturn, 1) := by decide +kernel
theorem dX4_allowsRule_0 : decode cX4_allowsRule 0 = .ok (.iload_n 1, 1) := by decide +kernel
theorem dX4_allowsRule_1 : decode cX4_allowsRule 1 = .ok (.ifCond .gt 5, 3) := by decide +kernel
theorem dX4_allowsRule_4 : decode cX4_allowsRule 4 = .ok (.iconst 0, 1) := by decide +kernel
theorem dX4_allowsRule_5 : decode cX4_allowsRule 5 = .ok (.ireturn, 1) := by decide +kernel
theorem dX4_allowsRule_6 : decode cX4_allowsRule 6 = .ok (.iconst 0, 1) := by decide +kernel
theorem dX4_allowsRule_7 : decode cX4_allowsRule 7 = .ok (.istore 4, 2) := by decide +kernel
theorem dX4_allowsRule_9 : decode cX4_allowsRule 9 = .ok (.iload 4, 2) := by decide +kernel
theorem dX4_allowsRule_11 : decode cX4_allowsRule 11 = .ok (.aload_n 0, 1) := by decide +kernel
theorem dX4_allowsRule_12 : decode cX4_allowsRule 12 = .ok (.getfield 81, 3) := by decide +kernel
theorem dX4_allowsRule_15 : decode cX4_allowsRule 15 = .ok (.if_icmp .ge 60, 3) := by decide +kernel
theorem dX4_allowsRule_18 : decode cX4_allowsRule 18 = .ok (.iload 4, 2) := by decide +kernel
theorem dX4_allowsRule_20 : decode cX4_allowsRule 20 = .ok (.bipush 6, 2) := by decide +kernel
theorem dX4_allowsRule_22 : decode cX4_allowsRule 22 = .ok (.if_icmp .ge 53, 3) := by decide +kernel
theorem dX4_allowsRule_25 : decode cX4_allowsRule 25 = .ok (.iload_n 3, 1) := by decide +kernel
theorem dX4_allowsRule_26 : decode cX4_allowsRule 26 = .ok (.iload_n 2, 1) := by decide +kernel
theorem dX4_allowsRule_27 : decode cX4_allowsRule 27 = .ok (.aload_n 0, 1) := by decide +kernel
theorem dX4_allowsRule_28 : decode cX4_allowsRule 28 = .ok (.getfield 46, 3) := by decide +kernel
theorem dX4_allowsRule_31 : decode cX4_allowsRule 31 = .ok (.iload 4, 2) := by decide +kernel
theorem dX4_allowsRule_33 : decode cX4_allowsRule 33 = .ok (.iaload, 1) := by decide +kernel
theorem dX4_allowsRule_34 : decode cX4_allowsRule 34 = .ok (.imul, 1) := by decide +kernel
theorem dX4_allowsRule_35 : decode cX4_allowsRule 35 = .ok (.iadd, 1) := by decide +kernel
theorem dX4_allowsRule_36 : decode cX4_allowsRule 36 = .ok (.iload_n 1, 1) := by decide +kernel
theorem dX4_allowsRule_37 : decode cX4_allowsRule 37 = .ok (.irem, 1) := by decide +kernel
theorem dX4_allowsRule_38 : decode cX4_allowsRule 38 = .ok (.istore 5, 2) := by decide +kernel
theorem dX4_allowsRule_40 : decode cX4_allowsRule 40 = .ok (.iload 5, 2) := by decide +kernel
theorem dX4_allowsRule_42 : decode cX4_allowsRule 42 = .ok (.aload_n 0, 1) := by decide +kernel
theorem dX4_allowsRule_43 : decode cX4_allowsRule 43 = .ok (.getfield 49, 3) := by decide +kernel
theorem dX4_allowsRule_46 : decode cX4_allowsRule 46 = .ok (.iload 4, 2) := by decide +kernel
theorem dX4_allowsRule_48 : decode cX4_allowsRule 48 = .ok (.iaload, 1) := by decide +kernel
theorem dX4_allowsRule_49 : decode cX4_allowsRule 49 = .ok (.if_icmp .ne 7, 3) := by decide +kernel
theorem dX4_allowsRule_52 : decode cX4_allowsRule 52 = .ok (.iconst 1, 1) := by decide +kernel
theorem dX4_allowsRule_53 : decode cX4_allowsRule 53 = .ok (.goto 4, 3) := by decide +kernel
theorem dX4_allowsRule_56 : decode cX4_allowsRule 56 = .ok (.iconst 0, 1) := by decide +kernel
theorem dX4_allowsRule_57 : decode cX4_allowsRule 57 = .ok (.aload_n 0, 1) := by decide +kernel
theorem dX4_allowsRule_58 : decode cX4_allowsRule 58 = .ok (.getfield 52, 3) := by decide +kernel
theorem dX4_allowsRule_61 : decode cX4_allowsRule 61 = .ok (.iload 4, 2) := by decide +kernel
theorem dX4_allowsRule_63 : decode cX4_allowsRule 63 = .ok (.baload, 1) := by decide +kernel
theorem dX4_allowsRule_64 : decode cX4_allowsRule 64 = .ok (.if_icmp .eq 5, 3) := by decide +kernel
theorem dX4_allowsRule_67 : decode cX4_allowsRule 67 = .ok (.iconst 0, 1) := by decide +kernel
theorem dX4_allowsRule_68 : decode cX4_allowsRule 68 = .ok (.ireturn, 1) := by decide +kernel
theorem dX4_allowsRule_69 : decode cX4_allowsRule 69 = .ok (.iinc 4 1, 3) := by decide +kernel
theorem dX4_allowsRule_72 : decode cX4_allowsRule 72 = .ok (.goto (-63), 3) := by decide +kernel
theorem dX4_allowsRule_75 : decode cX4_allowsRule 75 = .ok (.iconst 1, 1) := by decide +kernel
theorem dX4_allowsRule_76 : decode cX4_allowsRule 76 = .ok (.ireturn, 1) := by decide +kernel
set_option maxRecDepth 20000 in
theorem ggX4_addRing_X8_cellAt : GoodIn wsX4_addRing wsX8_cellAt := goodIn_r _ [7] (by decide +kernel) (by decide +kernel)
set_option maxRecDepth 20000 in
theorem gX4_addRing_X8_cellAt_n95 : GoodIn wsX4_addRing (wsX8_cellAt) := ggX4_addRing_X8_cellAt
theorem dX4_addRing_0 : decode cX4_addRing 0 = .ok (.aload_n 0, 1) := by decide +kernel
theorem dX4_addRing_1 : decode cX4_addRing 1 = .ok (.getfield 69, 3) := by decide +kernel
theorem dX4_addRing_4 : decode cX4_addRing 4 = .ok (.ifCond .lt 22, 3) := by decide +kernel
theorem dX4_addRing_7 : decode cX4_addRing 7 = .ok (.aload_n 0, 1) := by decide +kernel
theorem dX4_addRing_8 : decode cX4_addRing 8 = .ok (.getfield 69, 3) := by decide +kernel
theorem dX4_addRing_11 : decode cX4_addRing 11 = .ok (.iconst 4, 1) := by decide +kernel
theorem dX4_addRing_12 : decode cX4_addRing 12 = .ok (.if_icmp .ge 14, 3) := by decide +kernel
theorem dX4_addRing_15 : decode cX4_addRing 15 = .ok (.iload_n 2, 1) := by decide +kernel
theorem dX4_addRing_16 : decode cX4_addRing 16 = .ok (.iconst 1, 1) := by decide +kernel
theorem dX4_addRing_17 : decode cX4_addRing 17 = .ok (.if_icmp .lt 9, 3) := by decide +kernel
theorem dX4_addRing_20 : decode cX4_addRing 20 = .ok (.iload_n 2, 1) := by decide +kernel
theorem dX4_addRing_21 : decode cX4_addRing 21 = .ok (.bipush 9, 2) := by decide +kernel
theorem dX4_addRing_23 : decode cX4_addRing 23 = .ok (.if_icmp .le 4, 3) := by decide +kernel
theorem dX4_addRing_26 : decode cX4_addRing 26 = .ok (.return_, 1) := by decide +kernel
theorem dX4_addRing_27 : decode cX4_addRing 27 = .ok (.iconst 0, 1) := by decide +kernel
theorem dX4_addRing_28 : decode cX4_addRing 28 = .ok (.istore_n 3, 1) := by decide +kernel
theorem dX4_addRing_29 : decode cX4_addRing 29 = .ok (.iload_n 3, 1) := by decide +kernel
theorem dX4_addRing_30 : decode cX4_addRing 30 = .ok (.iload_n 2, 1) := by decide +kernel
theorem dX4_addRing_31 : decode cX4_addRing 31 = .ok (.if_icmp .ge 72, 3) := by decide +kernel
theorem dX4_addRing_34 : decode cX4_addRing 34 = .ok (.iload_n 3, 1) := by decide +kernel
theorem dX4_addRing_35 : decode cX4_addRing 35 = .ok (.iconst 1, 1) := by decide +kernel
theorem dX4_addRing_36 : decode cX4_addRing 36 = .ok (.iadd, 1) := by decide +kernel
theorem dX4_addRing_37 : decode cX4_addRing 37 = .ok (.iload_n 2, 1) := by decide +kernel
theorem dX4_addRing_38 : decode cX4_addRing 38 = .ok (.if_icmp .ge 9, 3) := by decide +kernel
theorem dX4_addRing_41 : decode cX4_addRing 41 = .ok (.iload_n 3, 1) := by decide +kernel
theorem dX4_addRing_42 : decode cX4_addRing 42 = .ok (.iconst 1, 1) := by decide +kernel
theorem dX4_addRing_43 : decode cX4_addRing 43 = .ok (.iadd, 1) := by decide +kernel
theorem dX4_addRing_44 : decode cX4_addRing 44 = .ok (.goto 4, 3) := by decide +kernel
theorem dX4_addRing_47 : decode cX4_addRing 47 = .ok (.iconst 0, 1) := by decide +kernel
theorem dX4_addRing_48 : decode cX4_addRing 48 = .ok (.istore 4, 2) := by decide +kernel
theorem dX4_addRing_50 : decode cX4_addRing 50 = .ok (.iload_n 3, 1) := by decide +kernel
theorem dX4_addRing_51 : decode cX4_addRing 51 = .ok (.ifCond .le 9, 3) := by decide +kernel
theorem dX4_addRing_54 : decode cX4_addRing 54 = .ok (.iload_n 3, 1) := by decide +kernel
theorem dX4_addRing_55 : decode cX4_addRing 55 = .ok (.iconst 1, 1) := by decide +kernel
theorem dX4_addRing_56 : decode cX4_addRing 56 = .ok (.isub, 1) := by decide +kernel
theorem dX4_addRing_57 : decode cX4_addRing 57 = .ok (.goto 6, 3) := by decide +kernel
theorem dX4_addRing_60 : decode cX4_addRing 60 = .ok (.iload_n 2, 1) := by decide +kernel
theorem dX4_addRing_61 : decode cX4_addRing 61 = .ok (.iconst 1, 1) := by decide +kernel
theorem dX4_addRing_62 : decode cX4_addRing 62 = .ok (.isub, 1) := by decide +kernel
theorem dX4_addRing_63 : decode cX4_addRing 63 = .ok (.istore 5, 2) := by decide +kernel
theorem dX4_addRing_65 : decode cX4_addRing 65 = .ok (.aload_n 0, 1) := by decide +kernel
theorem dX4_addRing_66 : decode cX4_addRing 66 = .ok (.getfield 25, 3) := by decide +kernel
theorem dX4_addRing_69 : decode cX4_addRing 69 = .ok (.aload_n 0, 1) := by decide +kernel
theorem dX4_addRing_70 : decode cX4_addRing 70 = .ok (.getfield 69, 3) := by decide +kernel
theorem dX4_addRing_73 : decode cX4_addRing 73 = .ok (.iload_n 3, 1) := by decide +kernel
theorem dX4_addRing_74 : decode cX4_addRing 74 = .ok (.invokestatic 95, 3) := by decide +kernel
theorem dX4_addRing_77 : decode cX4_addRing 77 = .ok (.aload_n 0, 1) := by decide +kernel
theorem dX4_addRing_78 : decode cX4_addRing 78 = .ok (.getfield 69, 3) := by decide +kernel
theorem dX4_addRing_81 : decode cX4_addRing 81 = .ok (.iload_n 1, 1) := by decide +kernel
theorem dX4_addRing_82 : decode cX4_addRing 82 = .ok (.iconst 2, 1) := by decide +kernel
theorem dX4_addRing_83 : decode cX4_addRing 83 = .ok (.if_icmp .ne 8, 3) := by decide +kernel
theorem dX4_addRing_86 : decode cX4_addRing 86 = .ok (.iload 5, 2) := by decide +kernel
theorem dX4_addRing_88 : decode cX4_addRing 88 = .ok (.goto 5, 3) := by decide +kernel
theorem dX4_addRing_91 : decode cX4_addRing 91 = .ok (.iload 4, 2) := by decide +kernel
theorem dX4_addRing_93 : decode cX4_addRing 93 = .ok (.invokestatic 95, 3) := by decide +kernel
theorem dX4_addRing_96 : decode cX4_addRing 96 = .ok (.iastore, 1) := by decide +kernel
theorem dX4_addRing_97 : decode cX4_addRing 97 = .ok (.iinc 3 1, 3) := by decide +kernel
theorem dX4_addRing_100 : decode cX4_addRing 100 = .ok (.goto (-71), 3) := by decide +kernel
theorem dX4_addRing_103 : decode cX4_addRing 103 = .ok (.aload_n 0, 1) := by decide +kernel
theorem dX4_addRing_104 : decode cX4_addRing 104 = .ok (.getfield 18, 3) := by decide +kernel
theorem dX4_addRing_107 : decode cX4_addRing 107 = .ok (.aload_n 0, 1) := by decide +kernel
theorem dX4_addRing_108 : decode cX4_addRing 108 = .ok (.getfield 69, 3) := by decide +kernel
theorem dX4_addRing_111 : decode cX4_addRing 111 = .ok (.iload_n 1, 1) := by decide +kernel
theorem dX4_addRing_112 : decode cX4_addRing 112 = .ok (.iastore, 1) := by decide +kernel
theorem dX4_addRing_113 : decode cX4_addRing 113 = .ok (.aload_n 0, 1) := by decide +kernel
theorem dX4_addRing_114 : decode cX4_addRing 114 = .ok (.getfield 22, 3) := by decide +kernel
theorem dX4_addRing_117 : decode cX4_addRing 117 = .ok (.aload_n 0, 1) := by decide +kernel
theorem dX4_addRing_118 : decode cX4_addRing 118 = .ok (.getfield 69, 3) := by decide +kernel
theorem dX4_addRing_121 : decode cX4_addRing 121 = .ok (.iload_n 2, 1) := by decide +kernel
theorem dX4_addRing_122 : decode cX4_addRing 122 = .ok (.iastore, 1) := by decide +kernel
theorem dX4_addRing_123 : decode cX4_addRing 123 = .ok (.aload_n 0, 1) := by decide +kernel
theorem dX4_addRing_124 : decode cX4_addRing 124 = .ok (.dup, 1) := by decide +kernel
theorem dX4_addRing_125 : decode cX4_addRing 125 = .ok (.getfield 69, 3) := by decide +kernel
theorem dX4_addRing_128 : decode cX4_addRing 128 = .ok (.iconst 1, 1) := by decide +kernel
theorem dX4_addRing_129 : decode cX4_addRing 129 = .ok (.iadd, 1) := by decide +kernel
theorem dX4_addRing_130 : decode cX4_addRing 130 = .ok (.putfield 69, 3) := by decide +kernel
theorem dX4_addRing_133 : decode cX4_addRing 133 = .ok (.return_, 1) := by decide +kernel
theorem dX4_addNarrow_0 : decode cX4_addNarrow 0 = .ok (.iload_n 1, 1) := by decide +kernel
theorem dX4_addNarrow_1 : decode cX4_addNarrow 1 = .ok (.ifCond .lt 18, 3) := by decide +kernel
theorem dX4_addNarrow_4 : decode cX4_addNarrow 4 = .ok (.iload_n 1, 1) := by decide +kernel
theorem dX4_addNarrow_5 : decode cX4_addNarrow 5 = .ok (.bipush 36, 2) := by decide +kernel
theorem dX4_addNarrow_7 : decode cX4_addNarrow 7 = .ok (.if_icmp .ge 12, 3) := by decide +kernel
theorem dX4_addNarrow_10 : decode cX4_addNarrow 10 = .ok (.aload_n 0, 1) := by decide +kernel
theorem dX4_addNarrow_11 : decode cX4_addNarrow 11 = .ok (.getfield 72, 3) := by decide +kernel
theorem dX4_addNarrow_14 : decode cX4_addNarrow 14 = .ok (.bipush 6, 2) := by decide +kernel
theorem dX4_addNarrow_16 : decode cX4_addNarrow 16 = .ok (.if_icmp .lt 4, 3) := by decide +kernel
theorem dX4_addNarrow_19 : decode cX4_addNarrow 19 = .ok (.return_, 1) := by decide +kernel
theorem dX4_addNarrow_20 : decode cX4_addNarrow 20 = .ok (.aload_n 0, 1) := by decide +kernel
theorem dX4_addNarrow_21 : decode cX4_addNarrow 21 = .ok (.getfield 28, 3) := by decide +kernel
theorem dX4_addNarrow_24 : decode cX4_addNarrow 24 = .ok (.iload_n 1, 1) := by decide +kernel
theorem dX4_addNarrow_25 : decode cX4_addNarrow 25 = .ok (.iload_n 2, 1) := by decide +kernel
theorem dX4_addNarrow_26 : decode cX4_addNarrow 26 = .ok (.iastore, 1) := by decide +kernel
theorem dX4_addNarrow_27 : decode cX4_addNarrow 27 = .ok (.aload_n 0, 1) := by decide +kernel
theorem dX4_addNarrow_28 : decode cX4_addNarrow 28 = .ok (.dup, 1) := by decide +kernel
theorem dX4_addNarrow_29 : decode cX4_addNarrow 29 = .ok (.getfield 72, 3) := by decide +kernel
theorem dX4_addNarrow_32 : decode cX4_addNarrow 32 = .ok (.iconst 1, 1) := by decide +kernel
theorem dX4_addNarrow_33 : decode cX4_addNarrow 33 = .ok (.iadd, 1) := by decide +kernel
theorem dX4_addNarrow_34 : decode cX4_addNarrow 34 = .ok (.putfield 72, 3) := by decide +kernel
theorem dX4_addNarrow_37 : decode cX4_addNarrow 37 = .ok (.return_, 1) := by decide +kernel
theorem dX4_addDoor_0 : decode cX4_addDoor 0 = .ok (.aload_n 0, 1) := by decide +kernel
theorem dX4_addDoor_1 : decode cX4_addDoor 1 = .ok (.getfield 75, 3) := by decide +kernel
theorem dX4_addDoor_4 : decode cX4_addDoor 4 = .ok (.ifCond .lt 11, 3) := by decide +kernel
theorem dX4_addDoor_7 : decode cX4_addDoor 7 = .ok (.aload_n 0, 1) := by decide +kernel
