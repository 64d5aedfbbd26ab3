theorem dX9_heir_19 : decode cX9_heir 19 = .ok (.ifCond .ne 26, 3) := by decide +kernel
theorem dX9_heir_22 : decode cX9_heir 22 = .ok (.iload_n 2, 1) := by decide +kernel
theorem dX9_heir_23 : decode cX9_heir 23 = .ok (.iconst 0, 1) := by decide +kernel
theorem dX9_heir_24 : decode cX9_heir 24 = .ok (.bipush 6, 2) := by decide +kernel
theorem dX9_heir_26 : decode cX9_heir 26 = .ok (.invokestatic 135, 3) := by decide +kernel
theorem dX9_heir_29 : decode cX9_heir 29 = .ok (.ifCond .eq 13, 3) := by decide +kernel
theorem dX9_heir_32 : decode cX9_heir 32 = .ok (.iload_n 3, 1) := by decide +kernel
theorem dX9_heir_33 : decode cX9_heir 33 = .ok (.iconst 0, 1) := by decide +kernel
theorem dX9_heir_34 : decode cX9_heir 34 = .ok (.bipush 6, 2) := by decide +kernel
theorem dX9_heir_36 : decode cX9_heir 36 = .ok (.invokestatic 135, 3) := by decide +kernel
theorem dX9_heir_39 : decode cX9_heir 39 = .ok (.ifCond .ne 6, 3) := by decide +kernel
theorem dX9_heir_42 : decode cX9_heir 42 = .ok (.iconst 2, 1) := by decide +kernel
theorem dX9_heir_43 : decode cX9_heir 43 = .ok (.istore 5, 2) := by decide +kernel
theorem dX9_heir_45 : decode cX9_heir 45 = .ok (.iload 5, 2) := by decide +kernel
theorem dX9_heir_47 : decode cX9_heir 47 = .ok (.ifCond .ne 24, 3) := by decide +kernel
theorem dX9_heir_50 : decode cX9_heir 50 = .ok (.iload 4, 2) := by decide +kernel
theorem dX9_heir_52 : decode cX9_heir 52 = .ok (.ifCond .eq 12, 3) := by decide +kernel
theorem dX9_heir_55 : decode cX9_heir 55 = .ok (.iload_n 1, 1) := by decide +kernel
theorem dX9_heir_56 : decode cX9_heir 56 = .ok (.iload_n 3, 1) := by decide +kernel
theorem dX9_heir_57 : decode cX9_heir 57 = .ok (.iload_n 2, 1) := by decide +kernel
theorem dX9_heir_58 : decode cX9_heir 58 = .ok (.invokestatic 343, 3) := by decide +kernel
theorem dX9_heir_61 : decode cX9_heir 61 = .ok (.goto 9, 3) := by decide +kernel
theorem dX9_heir_64 : decode cX9_heir 64 = .ok (.iload_n 1, 1) := by decide +kernel
theorem dX9_heir_65 : decode cX9_heir 65 = .ok (.iload_n 2, 1) := by decide +kernel
theorem dX9_heir_66 : decode cX9_heir 66 = .ok (.iload_n 3, 1) := by decide +kernel
theorem dX9_heir_67 : decode cX9_heir 67 = .ok (.invokestatic 343, 3) := by decide +kernel
theorem dX9_heir_70 : decode cX9_heir 70 = .ok (.ireturn, 1) := by decide +kernel
theorem dX9_heir_71 : decode cX9_heir 71 = .ok (.aload_n 0, 1) := by decide +kernel
theorem dX9_heir_72 : decode cX9_heir 72 = .ok (.iload 5, 2) := by decide +kernel
theorem dX9_heir_74 : decode cX9_heir 74 = .ok (.putfield 47, 3) := by decide +kernel
theorem dX9_heir_77 : decode cX9_heir 77 = .ok (.bipush (-100), 2) := by decide +kernel
theorem dX9_heir_79 : decode cX9_heir 79 = .ok (.ireturn, 1) := by decide +kernel
set_option maxRecDepth 20000 in
theorem ggX9_isRest_X9_heirOf : GoodIn wsX9_isRest wsX9_heirOf := goodIn_r _ [4] (by decide +kernel) (by decide +kernel)
set_option maxRecDepth 20000 in
theorem gX9_isRest_X9_heirOf : GoodIn wsX9_isRest (va_wsS RX9 343 yX9_heirOf wsX9_heirOf) := goodIn_app (goodIn_of _ (by decide +kernel)) ggX9_isRest_X9_heirOf
theorem dX9_isRest_0 : decode cX9_isRest 0 = .ok (.iconst 1, 1) := by decide +kernel
theorem dX9_isRest_1 : decode cX9_isRest 1 = .ok (.istore_n 3, 1) := by decide +kernel
theorem dX9_isRest_2 : decode cX9_isRest 2 = .ok (.iconst 0, 1) := by decide +kernel
theorem dX9_isRest_3 : decode cX9_isRest 3 = .ok (.istore 4, 2) := by decide +kernel
theorem dX9_isRest_5 : decode cX9_isRest 5 = .ok (.iload 4, 2) := by decide +kernel
theorem dX9_isRest_7 : decode cX9_isRest 7 = .ok (.bipush 6, 2) := by decide +kernel
theorem dX9_isRest_9 : decode cX9_isRest 9 = .ok (.if_icmp .gt 51, 3) := by decide +kernel
theorem dX9_isRest_12 : decode cX9_isRest 12 = .ok (.iload_n 3, 1) := by decide +kernel
theorem dX9_isRest_13 : decode cX9_isRest 13 = .ok (.ifCond .eq 39, 3) := by decide +kernel
theorem dX9_isRest_16 : decode cX9_isRest 16 = .ok (.iload_n 0, 1) := by decide +kernel
theorem dX9_isRest_17 : decode cX9_isRest 17 = .ok (.iload 4, 2) := by decide +kernel
theorem dX9_isRest_19 : decode cX9_isRest 19 = .ok (.iload_n 2, 1) := by decide +kernel
theorem dX9_isRest_20 : decode cX9_isRest 20 = .ok (.invokestatic 343, 3) := by decide +kernel
theorem dX9_isRest_23 : decode cX9_isRest 23 = .ok (.iload_n 0, 1) := by decide +kernel
theorem dX9_isRest_24 : decode cX9_isRest 24 = .ok (.iload_n 1, 1) := by decide +kernel
theorem dX9_isRest_25 : decode cX9_isRest 25 = .ok (.iload_n 2, 1) := by decide +kernel
theorem dX9_isRest_26 : decode cX9_isRest 26 = .ok (.invokestatic 343, 3) := by decide +kernel
theorem dX9_isRest_29 : decode cX9_isRest 29 = .ok (.if_icmp .gt 23, 3) := by decide +kernel
theorem dX9_isRest_32 : decode cX9_isRest 32 = .ok (.iload_n 0, 1) := by decide +kernel
theorem dX9_isRest_33 : decode cX9_isRest 33 = .ok (.iload 4, 2) := by decide +kernel
theorem dX9_isRest_35 : decode cX9_isRest 35 = .ok (.iload_n 1, 1) := by decide +kernel
theorem dX9_isRest_36 : decode cX9_isRest 36 = .ok (.invokestatic 343, 3) := by decide +kernel
theorem dX9_isRest_39 : decode cX9_isRest 39 = .ok (.iload_n 0, 1) := by decide +kernel
theorem dX9_isRest_40 : decode cX9_isRest 40 = .ok (.iload_n 2, 1) := by decide +kernel
theorem dX9_isRest_41 : decode cX9_isRest 41 = .ok (.iload_n 1, 1) := by decide +kernel
theorem dX9_isRest_42 : decode cX9_isRest 42 = .ok (.invokestatic 343, 3) := by decide +kernel
theorem dX9_isRest_45 : decode cX9_isRest 45 = .ok (.if_icmp .gt 7, 3) := by decide +kernel
theorem dX9_isRest_48 : decode cX9_isRest 48 = .ok (.iconst 1, 1) := by decide +kernel
theorem dX9_isRest_49 : decode cX9_isRest 49 = .ok (.goto 4, 3) := by decide +kernel
theorem dX9_isRest_52 : decode cX9_isRest 52 = .ok (.iconst 0, 1) := by decide +kernel
theorem dX9_isRest_53 : decode cX9_isRest 53 = .ok (.istore_n 3, 1) := by decide +kernel
theorem dX9_isRest_54 : decode cX9_isRest 54 = .ok (.iinc 4 1, 3) := by decide +kernel
theorem dX9_isRest_57 : decode cX9_isRest 57 = .ok (.goto (-52), 3) := by decide +kernel
theorem dX9_isRest_60 : decode cX9_isRest 60 = .ok (.iload_n 3, 1) := by decide +kernel
theorem dX9_isRest_61 : decode cX9_isRest 61 = .ok (.ireturn, 1) := by decide +kernel
set_option maxRecDepth 20000 in
theorem ggX9_seekRests_X9_isRest : GoodIn wsX9_seekRests wsX9_isRest := goodIn_r _ [5, 6, 7, 4, 8] (by decide +kernel) (by decide +kernel)
set_option maxRecDepth 20000 in
theorem gX9_seekRests_X9_isRest : GoodIn wsX9_seekRests (va_wsS RX9 350 yX9_isRest wsX9_isRest) := goodIn_app (goodIn_of _ (by decide +kernel)) ggX9_seekRests_X9_isRest
theorem dX9_seekRests_0 : decode cX9_seekRests 0 = .ok (.iconst 0, 1) := by decide +kernel
theorem dX9_seekRests_1 : decode cX9_seekRests 1 = .ok (.istore_n 2, 1) := by decide +kernel
theorem dX9_seekRests_2 : decode cX9_seekRests 2 = .ok (.aload_n 0, 1) := by decide +kernel
theorem dX9_seekRests_3 : decode cX9_seekRests 3 = .ok (.bipush (-2), 2) := by decide +kernel
theorem dX9_seekRests_5 : decode cX9_seekRests 5 = .ok (.putfield 347, 3) := by decide +kernel
theorem dX9_seekRests_8 : decode cX9_seekRests 8 = .ok (.iconst 0, 1) := by decide +kernel
theorem dX9_seekRests_9 : decode cX9_seekRests 9 = .ok (.istore_n 3, 1) := by decide +kernel
theorem dX9_seekRests_10 : decode cX9_seekRests 10 = .ok (.iload_n 3, 1) := by decide +kernel
theorem dX9_seekRests_11 : decode cX9_seekRests 11 = .ok (.bipush 6, 2) := by decide +kernel
theorem dX9_seekRests_13 : decode cX9_seekRests 13 = .ok (.if_icmp .gt 56, 3) := by decide +kernel
theorem dX9_seekRests_16 : decode cX9_seekRests 16 = .ok (.iconst 0, 1) := by decide +kernel
theorem dX9_seekRests_17 : decode cX9_seekRests 17 = .ok (.istore 4, 2) := by decide +kernel
theorem dX9_seekRests_19 : decode cX9_seekRests 19 = .ok (.iload 4, 2) := by decide +kernel
theorem dX9_seekRests_21 : decode cX9_seekRests 21 = .ok (.bipush 6, 2) := by decide +kernel
theorem dX9_seekRests_23 : decode cX9_seekRests 23 = .ok (.if_icmp .gt 40, 3) := by decide +kernel
theorem dX9_seekRests_26 : decode cX9_seekRests 26 = .ok (.iload_n 1, 1) := by decide +kernel
theorem dX9_seekRests_27 : decode cX9_seekRests 27 = .ok (.iload_n 3, 1) := by decide +kernel
theorem dX9_seekRests_28 : decode cX9_seekRests 28 = .ok (.iload 4, 2) := by decide +kernel
theorem dX9_seekRests_30 : decode cX9_seekRests 30 = .ok (.invokestatic 350, 3) := by decide +kernel
theorem dX9_seekRests_33 : decode cX9_seekRests 33 = .ok (.ifCond .ne 6, 3) := by decide +kernel
theorem dX9_seekRests_36 : decode cX9_seekRests 36 = .ok (.goto 21, 3) := by decide +kernel
theorem dX9_seekRests_39 : decode cX9_seekRests 39 = .ok (.iload_n 2, 1) := by decide +kernel
theorem dX9_seekRests_40 : decode cX9_seekRests 40 = .ok (.ifCond .ne 14, 3) := by decide +kernel
theorem dX9_seekRests_43 : decode cX9_seekRests 43 = .ok (.aload_n 0, 1) := by decide +kernel
theorem dX9_seekRests_44 : decode cX9_seekRests 44 = .ok (.bipush 10, 2) := by decide +kernel
theorem dX9_seekRests_46 : decode cX9_seekRests 46 = .ok (.iload_n 3, 1) := by decide +kernel
theorem dX9_seekRests_47 : decode cX9_seekRests 47 = .ok (.imul, 1) := by decide +kernel
theorem dX9_seekRests_48 : decode cX9_seekRests 48 = .ok (.iload 4, 2) := by decide +kernel
theorem dX9_seekRests_50 : decode cX9_seekRests 50 = .ok (.iadd, 1) := by decide +kernel
theorem dX9_seekRests_51 : decode cX9_seekRests 51 = .ok (.putfield 347, 3) := by decide +kernel
theorem dX9_seekRests_54 : decode cX9_seekRests 54 = .ok (.iinc 2 1, 3) := by decide +kernel
theorem dX9_seekRests_57 : decode cX9_seekRests 57 = .ok (.iinc 4 1, 3) := by decide +kernel
theorem dX9_seekRests_60 : decode cX9_seekRests 60 = .ok (.goto (-41), 3) := by decide +kernel
theorem dX9_seekRests_63 : decode cX9_seekRests 63 = .ok (.iinc 3 1, 3) := by decide +kernel
theorem dX9_seekRests_66 : decode cX9_seekRests 66 = .ok (.goto (-56), 3) := by decide +kernel
theorem dX9_seekRests_69 : decode cX9_seekRests 69 = .ok (.iload_n 2, 1) := by decide +kernel
theorem dX9_seekRests_70 : decode cX9_seekRests 70 = .ok (.ireturn, 1) := by decide +kernel
set_option maxRecDepth 20000 in
theorem ggX9_rests_X9_good : GoodIn wsX9_rests wsX9_good := goodIn_r _ [6, 7, 8, 31, 32, 33, 34, 35, 36, 37, 38, 39, 40, 41, 42, 43, 44, 45, 46, 47, 48, 49, 50, 51, 52, 53, 54, 55, 56, 57, 58, 59] (by decide +kernel) (by decide +kernel)
set_option maxRecDepth 20000 in
theorem gX9_rests_X9_good : GoodIn wsX9_rests (wsV RX9 153 RX9 yX9_good wsX9_good) := goodIn_app (goodIn_of _ (by decide +kernel)) ggX9_rests_X9_good
set_option maxRecDepth 20000 in
theorem ggX9_rests_X9_why : GoodIn wsX9_rests wsX9_why := goodIn_r _ [12, 13, 14, 5, 15] (by decide +kernel) (by decide +kernel)
set_option maxRecDepth 20000 in
theorem gX9_rests_X9_why : GoodIn wsX9_rests (wsV RX9 292 RX9 yX9_why wsX9_why) := goodIn_app (goodIn_of _ (by decide +kernel)) ggX9_rests_X9_why
set_option maxRecDepth 20000 in
theorem ggX9_rests_X9_no : GoodIn wsX9_rests wsX9_no := goodIn_r _ [19, 8, 31, 32, 33, 34, 35, 36, 37, 38, 39, 40, 41, 42, 43, 44, 45, 46, 47, 48, 49, 50, 51, 52, 53, 54, 55, 56, 57, 58, 59] (by decide +kernel) (by decide +kernel)
set_option maxRecDepth 20000 in
theorem gX9_rests_X9_no : GoodIn wsX9_rests (wsV RX9 156 RX9 yX9_no wsX9_no) := goodIn_app (goodIn_of _ (by decide +kernel)) ggX9_rests_X9_no
set_option maxRecDepth 20000 in
theorem ggX9_rests_X9_seekRests : GoodIn wsX9_rests wsX9_seekRests := goodIn_r _ [23, 24, 25, 26, 5, 27, 28, 29, 30, 31, 32, 33, 34, 35, 36, 37, 38, 39, 40, 41, 42, 43, 44, 45, 46, 47, 48, 49, 50, 51, 52, 53, 54, 55, 56, 57, 58, 59] (by decide +kernel) (by decide +kernel)
set_option maxRecDepth 20000 in
theorem gX9_rests_X9_seekRests : GoodIn wsX9_rests (wsV RX9 353 RX9 yX9_seekRests wsX9_seekRests) := goodIn_app (goodIn_of _ (by decide +kernel)) ggX9_rests_X9_seekRests
theorem dX9_rests_0 : decode cX9_rests 0 = .ok (.aload_n 0, 1) := by decide +kernel
theorem dX9_rests_1 : decode cX9_rests 1 = .ok (.invokevirtual 153, 3) := by decide +kernel
theorem dX9_rests_4 : decode cX9_rests 4 = .ok (.aload_n 0, 1) := by decide +kernel
theorem dX9_rests_5 : decode cX9_rests 5 = .ok (.aload_n 0, 1) := by decide +kernel
theorem dX9_rests_6 : decode cX9_rests 6 = .ok (.getfield 166, 3) := by decide +kernel
theorem dX9_rests_9 : decode cX9_rests 9 = .ok (.iload_n 1, 1) := by decide +kernel
theorem dX9_rests_10 : decode cX9_rests 10 = .ok (.bipush 99, 2) := by decide +kernel
theorem dX9_rests_12 : decode cX9_rests 12 = .ok (.invokevirtual 292, 3) := by decide +kernel
theorem dX9_rests_15 : decode cX9_rests 15 = .ok (.istore_n 2, 1) := by decide +kernel
theorem dX9_rests_16 : decode cX9_rests 16 = .ok (.iload_n 2, 1) := by decide +kernel
theorem dX9_rests_17 : decode cX9_rests 17 = .ok (.ifCond .eq 11, 3) := by decide +kernel
theorem dX9_rests_20 : decode cX9_rests 20 = .ok (.aload_n 0, 1) := by decide +kernel
theorem dX9_rests_21 : decode cX9_rests 21 = .ok (.iload_n 2, 1) := by decide +kernel
theorem dX9_rests_22 : decode cX9_rests 22 = .ok (.invokevirtual 156, 3) := by decide +kernel
theorem dX9_rests_25 : decode cX9_rests 25 = .ok (.goto 8, 3) := by decide +kernel
theorem dX9_rests_28 : decode cX9_rests 28 = .ok (.aload_n 0, 1) := by decide +kernel
theorem dX9_rests_29 : decode cX9_rests 29 = .ok (.iload_n 1, 1) := by decide +kernel
theorem dX9_rests_30 : decode cX9_rests 30 = .ok (.invokevirtual 353, 3) := by decide +kernel
theorem dX9_rests_33 : decode cX9_rests 33 = .ok (.ireturn, 1) := by decide +kernel
set_option maxRecDepth 20000 in
theorem ggX9_rest_X9_good : GoodIn wsX9_rest wsX9_good := goodIn_r _ [7, 8, 9, 31, 32, 33, 34, 35, 36, 37, 38, 39, 40, 41, 42, 43, 44, 45, 46, 47, 48, 49, 50, 51, 52, 53, 54, 55, 56, 57, 58, 59] (by decide +kernel) (by decide +kernel)
set_option maxRecDepth 20000 in
theorem gX9_rest_X9_good : GoodIn wsX9_rest (wsV RX9 153 RX9 yX9_good wsX9_good) := goodIn_app (goodIn_of _ (by decide +kernel)) ggX9_rest_X9_good
set_option maxRecDepth 20000 in
theorem ggX9_rest_X9_why : GoodIn wsX9_rest wsX9_why := goodIn_r _ [13, 14, 15, 6, 16] (by decide +kernel) (by decide +kernel)
set_option maxRecDepth 20000 in
theorem gX9_rest_X9_why : GoodIn wsX9_rest (wsV RX9 292 RX9 yX9_why wsX9_why) := goodIn_app (goodIn_of _ (by decide +kernel)) ggX9_rest_X9_why
set_option maxRecDepth 20000 in
theorem ggX9_rest_X9_no : GoodIn wsX9_rest wsX9_no := goodIn_r _ [20, 9, 31, 32, 33, 34, 35, 36, 37, 38, 39, 40, 41, 42, 43, 44, 45, 46, 47, 48, 49, 50, 51, 52, 53, 54, 55, 56, 57, 58, 59] (by decide +kernel) (by decide +kernel)
set_option maxRecDepth 20000 in
theorem gX9_rest_X9_no : GoodIn wsX9_rest (wsV RX9 156 RX9 yX9_no wsX9_no) := goodIn_app (goodIn_of _ (by decide +kernel)) ggX9_rest_X9_no
set_option maxRecDepth 20000 in
theorem ggX9_rest_X9_seekRests : GoodIn wsX9_rest wsX9_seekRests := goodIn_r _ [24, 2, 25, 26, 6, 27, 28, 29, 30, 31, 32, 33, 34, 35, 36, 37, 38, 39, 40, 41, 42, 43, 44, 45, 46, 47, 48, 49, 50, 51, 52, 53, 54, 55, 56, 57, 58, 59] (by decide +kernel) (by decide +kernel)
set_option maxRecDepth 20000 in
theorem gX9_rest_X9_seekRests : GoodIn wsX9_rest (wsV RX9 353 RX9 yX9_seekRests wsX9_seekRests) := goodIn_app (goodIn_of _ (by decide +kernel)) ggX9_rest_X9_seekRests
theorem dX9_rest_0 : decode cX9_rest 0 = .ok (.aload_n 0, 1) := by decide +kernel
theorem dX9_rest_1 : decode cX9_rest 1 = .ok (.invokevirtual 153, 3) := by decide +kernel
theorem dX9_rest_4 : decode cX9_rest 4 = .ok (.aload_n 0, 1) := by decide +kernel
theorem dX9_rest_5 : decode cX9_rest 5 = .ok (.aload_n 0, 1) := by decide +kernel
theorem dX9_rest_6 : decode cX9_rest 6 = .ok (.getfield 166, 3) := by decide +kernel
theorem dX9_rest_9 : decode cX9_rest 9 = .ok (.iload_n 1, 1) := by decide +kernel
theorem dX9_rest_10 : decode cX9_rest 10 = .ok (.bipush 99, 2) := by decide +kernel
theorem dX9_rest_12 : decode cX9_rest 12 = .ok (.invokevirtual 292, 3) := by decide +kernel
theorem dX9_rest_15 : decode cX9_rest 15 = .ok (.istore_n 2, 1) := by decide +kernel
theorem dX9_rest_16 : decode cX9_rest 16 = .ok (.iload_n 2, 1) := by decide +kernel
theorem dX9_rest_17 : decode cX9_rest 17 = .ok (.ifCond .eq 9, 3) := by decide +kernel
theorem dX9_rest_20 : decode cX9_rest 20 = .ok (.aload_n 0, 1) := by decide +kernel
theorem dX9_rest_21 : decode cX9_rest 21 = .ok (.iload_n 2, 1) := by decide +kernel
theorem dX9_rest_22 : decode cX9_rest 22 = .ok (.invokevirtual 156, 3) := by decide +kernel
theorem dX9_rest_25 : decode cX9_rest 25 = .ok (.ireturn, 1) := by decide +kernel
theorem dX9_rest_26 : decode cX9_rest 26 = .ok (.aload_n 0, 1) := by decide +kernel
theorem dX9_rest_27 : decode cX9_rest 27 = .ok (.iload_n 1, 1) := by decide +kernel
theorem dX9_rest_28 : decode cX9_rest 28 = .ok (.invokevirtual 353, 3) := by decide +kernel
theorem dX9_rest_31 : decode cX9_rest 31 = .ok (.pop, 1) := by decide +kernel
theorem dX9_rest_32 : decode cX9_rest 32 = .ok (.aload_n 0, 1) := by decide +kernel
theorem dX9_rest_33 : decode cX9_rest 33 = .ok (.getfield 347, 3) := by decide +kernel
theorem dX9_rest_36 : decode cX9_rest 36 = .ok (.ireturn, 1) := by decide +kernel
set_option maxRecDepth 20000 in
theorem ggX9_dampWhy_X9_in : GoodIn wsX9_dampWhy wsX9_in := goodIn_r _ [10] (by decide +kernel) (by decide +kernel)
set_option maxRecDepth 20000 in
theorem gX9_dampWhy_X9_in : GoodIn wsX9_dampWhy (va_wsS RX9 135 yX9_in wsX9_in) := goodIn_app (goodIn_of _ (by decide +kernel)) ggX9_dampWhy_X9_in
set_option maxRecDepth 20000 in
theorem ggX9_dampWhy_X9_begin : GoodIn wsX9_dampWhy wsX9_begin := goodIn_r _ [14, 15, 4, 16, 17, 9, 18, 61, 62, 63, 64, 65, 66, 67, 68, 69, 70, 71, 72, 73, 74, 75, 76, 77, 78, 79, 80, 81, 82, 83, 84, 85, 86, 87, 88, 89] (by decide +kernel) (by decide +kernel)
set_option maxRecDepth 20000 in
theorem gX9_dampWhy_X9_begin : GoodIn wsX9_dampWhy (wsV RX9 296 RX9 yX9_begin wsX9_begin) := goodIn_app (goodIn_of _ (by decide +kernel)) ggX9_dampWhy_X9_begin
set_option maxRecDepth 20000 in
theorem ggX9_dampWhy_X9_fixed : GoodIn wsX9_dampWhy wsX9_fixed := goodIn_r _ [22, 5, 23, 24, 25, 9, 26, 27, 28, 29, 30, 31, 32, 33, 34, 35, 36, 37, 38, 39, 40, 41, 61, 62, 63, 64, 65, 66, 67, 68, 69, 70, 71, 72, 73, 74, 75, 76, 77, 78, 79, 80, 81, 82, 83, 84, 85, 86, 87, 88, 89] (by decide +kernel) (by decide +kernel)
set_option maxRecDepth 20000 in
theorem gX9_dampWhy_X9_fixed : GoodIn wsX9_dampWhy (wsV RX9 266 RX9 yX9_fixed wsX9_fixed) := goodIn_app (goodIn_of _ (by decide +kernel)) ggX9_dampWhy_X9_fixed
set_option maxRecDepth 20000 in
theorem ggX9_dampWhy_X9_goingBy : GoodIn wsX9_dampWhy wsX9_goingBy := goodIn_r _ [45, 5, 23, 24, 25, 9, 26, 27, 28, 29, 30, 31, 32, 33, 34, 46, 47, 48, 49, 35, 36, 37, 50, 51, 52, 53, 61, 62, 63, 64, 65, 66, 67, 68, 69, 70, 71, 72, 73, 74, 75, 76, 77, 78, 79, 80, 81, 82, 83, 84, 85, 86, 87, 88, 89] (by decide +kernel) (by decide +kernel)
set_option maxRecDepth 20000 in
theorem gX9_dampWhy_X9_goingBy : GoodIn wsX9_dampWhy (wsV RX9 270 RX9 yX9_goingBy wsX9_goingBy) := goodIn_app (goodIn_of _ (by decide +kernel)) ggX9_dampWhy_X9_goingBy
set_option maxRecDepth 20000 in
theorem ggX9_dampWhy_X9_goOver : GoodIn wsX9_dampWhy wsX9_goOver := goodIn_r _ [57, 5, 35, 36, 9, 37, 23, 24, 25, 26, 27, 28, 29, 30, 31, 32, 33, 34, 61, 62, 63, 64, 65, 66, 67, 68, 69, 70, 71, 72, 73, 74, 75, 76, 77, 78, 79, 80, 81, 82, 83, 84, 85, 86, 87, 88, 89] (by decide +kernel) (by decide +kernel)
set_option maxRecDepth 20000 in
theorem gX9_dampWhy_X9_goOver : GoodIn wsX9_dampWhy (wsV RX9 276 RX9 yX9_goOver wsX9_goOver) := goodIn_app (goodIn_of _ (by decide +kernel)) ggX9_dampWhy_X9_goOver
set_option maxRecDepth 20000 in
theorem ggX9_dampWhy_X9_ones : GoodIn wsX9_dampWhy wsX9_ones := goodIn_r _ [60] (by decide +kernel) (by decide +kernel)
set_option maxRecDepth 20000 in
theorem gX9_dampWhy_X9_ones : GoodIn wsX9_dampWhy (va_wsS RX9 280 yX9_ones wsX9_ones) := goodIn_app (goodIn_of _ (by decide +kernel)) ggX9_dampWhy_X9_ones
theorem dX9_dampWhy_0 : decode cX9_dampWhy 0 = .ok (.iload_n 1, 1) := by decide +kernel
theorem dX9_dampWhy_1 : decode cX9_dampWhy 1 = .ok (.ifCond .ne 5, 3) := by decide +kernel
theorem dX9_dampWhy_4 : decode cX9_dampWhy 4 = .ok (.iconst 1, 1) := by decide +kernel
theorem dX9_dampWhy_5 : decode cX9_dampWhy 5 = .ok (.ireturn, 1) := by decide +kernel
theorem dX9_dampWhy_6 : decode cX9_dampWhy 6 = .ok (.iload_n 2, 1) := by decide +kernel
theorem dX9_dampWhy_7 : decode cX9_dampWhy 7 = .ok (.iconst 0, 1) := by decide +kernel
theorem dX9_dampWhy_8 : decode cX9_dampWhy 8 = .ok (.ldc_w 356, 3) := by decide +kernel
theorem dX9_dampWhy_11 : decode cX9_dampWhy 11 = .ok (.invokestatic 135, 3) := by decide +kernel
theorem dX9_dampWhy_14 : decode cX9_dampWhy 14 = .ok (.ifCond .eq 13, 3) := by decide +kernel
theorem dX9_dampWhy_17 : decode cX9_dampWhy 17 = .ok (.iload_n 3, 1) := by decide +kernel
theorem dX9_dampWhy_18 : decode cX9_dampWhy 18 = .ok (.iconst 0, 1) := by decide +kernel
theorem dX9_dampWhy_19 : decode cX9_dampWhy 19 = .ok (.bipush 60, 2) := by decide +kernel
theorem dX9_dampWhy_21 : decode cX9_dampWhy 21 = .ok (.invokestatic 135, 3) := by decide +kernel
theorem dX9_dampWhy_24 : decode cX9_dampWhy 24 = .ok (.ifCond .ne 5, 3) := by decide +kernel
theorem dX9_dampWhy_27 : decode cX9_dampWhy 27 = .ok (.iconst 2, 1) := by decide +kernel
theorem dX9_dampWhy_28 : decode cX9_dampWhy 28 = .ok (.ireturn, 1) := by decide +kernel
theorem dX9_dampWhy_29 : decode cX9_dampWhy 29 = .ok (.aload_n 0, 1) := by decide +kernel
theorem dX9_dampWhy_30 : decode cX9_dampWhy 30 = .ok (.invokevirtual 296, 3) := by decide +kernel
theorem dX9_dampWhy_33 : decode cX9_dampWhy 33 = .ok (.aload_n 0, 1) := by decide +kernel
theorem dX9_dampWhy_34 : decode cX9_dampWhy 34 = .ok (.iconst 0, 1) := by decide +kernel
theorem dX9_dampWhy_35 : decode cX9_dampWhy 35 = .ok (.putfield 357, 3) := by decide +kernel
theorem dX9_dampWhy_38 : decode cX9_dampWhy 38 = .ok (.aload_n 0, 1) := by decide +kernel
theorem dX9_dampWhy_39 : decode cX9_dampWhy 39 = .ok (.iconst 0, 1) := by decide +kernel
theorem dX9_dampWhy_40 : decode cX9_dampWhy 40 = .ok (.putfield 360, 3) := by decide +kernel
theorem dX9_dampWhy_43 : decode cX9_dampWhy 43 = .ok (.iload_n 2, 1) := by decide +kernel
theorem dX9_dampWhy_44 : decode cX9_dampWhy 44 = .ok (.istore 6, 2) := by decide +kernel
theorem dX9_dampWhy_46 : decode cX9_dampWhy 46 = .ok (.iconst 1, 1) := by decide +kernel
theorem dX9_dampWhy_47 : decode cX9_dampWhy 47 = .ok (.istore 7, 2) := by decide +kernel
theorem dX9_dampWhy_49 : decode cX9_dampWhy 49 = .ok (.iload 7, 2) := by decide +kernel
theorem dX9_dampWhy_51 : decode cX9_dampWhy 51 = .ok (.iload_n 3, 1) := by decide +kernel
theorem dX9_dampWhy_52 : decode cX9_dampWhy 52 = .ok (.if_icmp .gt 146, 3) := by decide +kernel
theorem dX9_dampWhy_55 : decode cX9_dampWhy 55 = .ok (.aload_n 0, 1) := by decide +kernel
theorem dX9_dampWhy_56 : decode cX9_dampWhy 56 = .ok (.aload_n 0, 1) := by decide +kernel
theorem dX9_dampWhy_57 : decode cX9_dampWhy 57 = .ok (.getfield 35, 3) := by decide +kernel
theorem dX9_dampWhy_60 : decode cX9_dampWhy 60 = .ok (.invokevirtual 266, 3) := by decide +kernel
theorem dX9_dampWhy_63 : decode cX9_dampWhy 63 = .ok (.istore 8, 2) := by decide +kernel
theorem dX9_dampWhy_65 : decode cX9_dampWhy 65 = .ok (.iconst 0, 1) := by decide +kernel
theorem dX9_dampWhy_66 : decode cX9_dampWhy 66 = .ok (.istore 9, 2) := by decide +kernel
theorem dX9_dampWhy_68 : decode cX9_dampWhy 68 = .ok (.iload 9, 2) := by decide +kernel
theorem dX9_dampWhy_70 : decode cX9_dampWhy 70 = .ok (.aload_n 0, 1) := by decide +kernel
theorem dX9_dampWhy_71 : decode cX9_dampWhy 71 = .ok (.getfield 20, 3) := by decide +kernel
theorem dX9_dampWhy_74 : decode cX9_dampWhy 74 = .ok (.iconst 3, 1) := by decide +kernel
theorem dX9_dampWhy_75 : decode cX9_dampWhy 75 = .ok (.iaload, 1) := by decide +kernel
theorem dX9_dampWhy_76 : decode cX9_dampWhy 76 = .ok (.if_icmp .ge 50, 3) := by decide +kernel
theorem dX9_dampWhy_79 : decode cX9_dampWhy 79 = .ok (.bipush 75, 2) := by decide +kernel
theorem dX9_dampWhy_81 : decode cX9_dampWhy 81 = .ok (.iload 6, 2) := by decide +kernel
theorem dX9_dampWhy_83 : decode cX9_dampWhy 83 = .ok (.imul, 1) := by decide +kernel
theorem dX9_dampWhy_84 : decode cX9_dampWhy 84 = .ok (.bipush 74, 2) := by decide +kernel
theorem dX9_dampWhy_86 : decode cX9_dampWhy 86 = .ok (.iadd, 1) := by decide +kernel
theorem dX9_dampWhy_87 : decode cX9_dampWhy 87 = .ok (.ldc_w 363, 3) := by decide +kernel
theorem dX9_dampWhy_90 : decode cX9_dampWhy 90 = .ok (.irem, 1) := by decide +kernel
theorem dX9_dampWhy_91 : decode cX9_dampWhy 91 = .ok (.istore 6, 2) := by decide +kernel
theorem dX9_dampWhy_93 : decode cX9_dampWhy 93 = .ok (.iload 8, 2) := by decide +kernel
theorem dX9_dampWhy_95 : decode cX9_dampWhy 95 = .ok (.iload 6, 2) := by decide +kernel
theorem dX9_dampWhy_97 : decode cX9_dampWhy 97 = .ok (.bipush 100, 2) := by decide +kernel
theorem dX9_dampWhy_99 : decode cX9_dampWhy 99 = .ok (.irem, 1) := by decide +kernel
theorem dX9_dampWhy_100 : decode cX9_dampWhy 100 = .ok (.aload_n 0, 1) := by decide +kernel
theorem dX9_dampWhy_101 : decode cX9_dampWhy 101 = .ok (.getfield 20, 3) := by decide +kernel
theorem dX9_dampWhy_104 : decode cX9_dampWhy 104 = .ok (.iconst 1, 1) := by decide +kernel
theorem dX9_dampWhy_105 : decode cX9_dampWhy 105 = .ok (.iaload, 1) := by decide +kernel
theorem dX9_dampWhy_106 : decode cX9_dampWhy 106 = .ok (.if_icmp .ge 10, 3) := by decide +kernel
theorem dX9_dampWhy_109 : decode cX9_dampWhy 109 = .ok (.iconst 1, 1) := by decide +kernel
theorem dX9_dampWhy_110 : decode cX9_dampWhy 110 = .ok (.iload 9, 2) := by decide +kernel
theorem dX9_dampWhy_112 : decode cX9_dampWhy 112 = .ok (.ishl, 1) := by decide +kernel
theorem dX9_dampWhy_113 : decode cX9_dampWhy 113 = .ok (.goto 4, 3) := by decide +kernel
theorem dX9_dampWhy_116 : decode cX9_dampWhy 116 = .ok (.iconst 0, 1) := by decide +kernel
theorem dX9_dampWhy_117 : decode cX9_dampWhy 117 = .ok (.ior, 1) := by decide +kernel
theorem dX9_dampWhy_118 : decode cX9_dampWhy 118 = .ok (.istore 8, 2) := by decide +kernel
theorem dX9_dampWhy_120 : decode cX9_dampWhy 120 = .ok (.iinc 9 1, 3) := by decide +kernel
theorem dX9_dampWhy_123 : decode cX9_dampWhy 123 = .ok (.goto (-55), 3) := by decide +kernel
theorem dX9_dampWhy_126 : decode cX9_dampWhy 126 = .ok (.aload_n 0, 1) := by decide +kernel
theorem dX9_dampWhy_127 : decode cX9_dampWhy 127 = .ok (.aload_n 0, 1) := by decide +kernel
theorem dX9_dampWhy_128 : decode cX9_dampWhy 128 = .ok (.getfield 35, 3) := by decide +kernel
theorem dX9_dampWhy_131 : decode cX9_dampWhy 131 = .ok (.iload 8, 2) := by decide +kernel
theorem dX9_dampWhy_133 : decode cX9_dampWhy 133 = .ok (.invokevirtual 270, 3) := by decide +kernel
theorem dX9_dampWhy_136 : decode cX9_dampWhy 136 = .ok (.istore 9, 2) := by decide +kernel
theorem dX9_dampWhy_138 : decode cX9_dampWhy 138 = .ok (.aload_n 0, 1) := by decide +kernel
theorem dX9_dampWhy_139 : decode cX9_dampWhy 139 = .ok (.aload_n 0, 1) := by decide +kernel
theorem dX9_dampWhy_140 : decode cX9_dampWhy 140 = .ok (.getfield 35, 3) := by decide +kernel
theorem dX9_dampWhy_143 : decode cX9_dampWhy 143 = .ok (.iload 9, 2) := by decide +kernel
theorem dX9_dampWhy_145 : decode cX9_dampWhy 145 = .ok (.invokevirtual 276, 3) := by decide +kernel
theorem dX9_dampWhy_148 : decode cX9_dampWhy 148 = .ok (.aload_n 0, 1) := by decide +kernel
theorem dX9_dampWhy_149 : decode cX9_dampWhy 149 = .ok (.dup, 1) := by decide +kernel
theorem dX9_dampWhy_150 : decode cX9_dampWhy 150 = .ok (.getfield 357, 3) := by decide +kernel
theorem dX9_dampWhy_153 : decode cX9_dampWhy 153 = .ok (.iload 9, 2) := by decide +kernel
theorem dX9_dampWhy_155 : decode cX9_dampWhy 155 = .ok (.invokestatic 280, 3) := by decide +kernel
theorem dX9_dampWhy_158 : decode cX9_dampWhy 158 = .ok (.iadd, 1) := by decide +kernel
theorem dX9_dampWhy_159 : decode cX9_dampWhy 159 = .ok (.putfield 357, 3) := by decide +kernel
theorem dX9_dampWhy_162 : decode cX9_dampWhy 162 = .ok (.iload 4, 2) := by decide +kernel
theorem dX9_dampWhy_164 : decode cX9_dampWhy 164 = .ok (.ifCond .lt 28, 3) := by decide +kernel
theorem dX9_dampWhy_167 : decode cX9_dampWhy 167 = .ok (.aload_n 0, 1) := by decide +kernel
theorem dX9_dampWhy_168 : decode cX9_dampWhy 168 = .ok (.getfield 360, 3) := by decide +kernel
theorem dX9_dampWhy_171 : decode cX9_dampWhy 171 = .ok (.ifCond .ne 21, 3) := by decide +kernel
theorem dX9_dampWhy_174 : decode cX9_dampWhy 174 = .ok (.aload_n 0, 1) := by decide +kernel
theorem dX9_dampWhy_175 : decode cX9_dampWhy 175 = .ok (.getfield 35, 3) := by decide +kernel
theorem dX9_dampWhy_178 : decode cX9_dampWhy 178 = .ok (.iload 4, 2) := by decide +kernel
theorem dX9_dampWhy_180 : decode cX9_dampWhy 180 = .ok (.iaload, 1) := by decide +kernel
theorem dX9_dampWhy_181 : decode cX9_dampWhy 181 = .ok (.iload 5, 2) := by decide +kernel
theorem dX9_dampWhy_183 : decode cX9_dampWhy 183 = .ok (.if_icmp .ne 9, 3) := by decide +kernel
theorem dX9_dampWhy_186 : decode cX9_dampWhy 186 = .ok (.aload_n 0, 1) := by decide +kernel
theorem dX9_dampWhy_187 : decode cX9_dampWhy 187 = .ok (.iload 7, 2) := by decide +kernel
theorem dX9_dampWhy_189 : decode cX9_dampWhy 189 = .ok (.putfield 360, 3) := by decide +kernel
theorem dX9_dampWhy_192 : decode cX9_dampWhy 192 = .ok (.iinc 7 1, 3) := by decide +kernel
theorem dX9_dampWhy_195 : decode cX9_dampWhy 195 = .ok (.goto (-146), 3) := by decide +kernel
theorem dX9_dampWhy_198 : decode cX9_dampWhy 198 = .ok (.iconst 0, 1) := by decide +kernel
theorem dX9_dampWhy_199 : decode cX9_dampWhy 199 = .ok (.ireturn, 1) := by decide +kernel
set_option maxRecDepth 20000 in
theorem ggX9_damp_X9_good : GoodIn wsX9_damp wsX9_good := goodIn_r _ [6, 7, 8, 83, 84, 85, 86, 87, 88, 89, 90, 91, 92, 93, 94, 95, 96, 97, 98, 99, 100, 101, 102, 103, 104, 105, 106, 107, 108, 109, 110, 111] (by decide +kernel) (by decide +kernel)
set_option maxRecDepth 20000 in
theorem gX9_damp_X9_good : GoodIn wsX9_damp (wsV RX9 153 RX9 yX9_good wsX9_good) := goodIn_app (goodIn_of _ (by decide +kernel)) ggX9_damp_X9_good
set_option maxRecDepth 20000 in
theorem ggX9_damp_X9_isThing : GoodIn wsX9_damp wsX9_isThing := goodIn_r _ [12, 13, 14, 15, 16, 5, 17, 83, 84, 85, 86, 87, 88, 89, 90, 91, 92, 93, 94, 95, 96, 97, 98, 99, 100, 101, 102, 103, 104, 105, 106, 107, 108, 109, 110, 111] (by decide +kernel) (by decide +kernel)
set_option maxRecDepth 20000 in
theorem gX9_damp_X9_isThing : GoodIn wsX9_damp (wsV RX9 283 RX9 yX9_isThing wsX9_isThing) := goodIn_app (goodIn_of _ (by decide +kernel)) ggX9_damp_X9_isThing
set_option maxRecDepth 20000 in
theorem ggX9_damp_X9_dampWhy : GoodIn wsX9_damp wsX9_dampWhy := goodIn_r _ [21, 22, 23, 24, 1, 14, 25, 15, 16, 5, 17, 26, 27, 28, 29, 30, 31, 32, 33, 34, 35, 36, 37, 38, 39, 40, 41, 42, 43, 44, 45, 46, 47, 48, 49, 50, 51, 52, 53, 54, 55, 56, 57, 58, 59, 60, 61, 62, 63, 64, 65, 66, 67, 68, 69, 70, 71, 72, 73, 74, 75, 83, 84, 85, 86, 87, 88, 89, 90, 91, 92, 93, 94, 95, 96, 97, 98, 99, 100, 101, 102, 103, 104, 105, 106, 107, 108, 109, 110, 111] (by decide +kernel) (by decide +kernel)
set_option maxRecDepth 20000 in
theorem gX9_damp_X9_dampWhy : GoodIn wsX9_damp (wsV RX9 364 RX9 yX9_dampWhy wsX9_dampWhy) := goodIn_app (goodIn_of _ (by decide +kernel)) ggX9_damp_X9_dampWhy
set_option maxRecDepth 20000 in
theorem ggX9_damp_X9_no : GoodIn wsX9_damp wsX9_no := goodIn_r _ [79, 8, 83, 84, 85, 86, 87, 88, 89, 90, 91, 92, 93, 94, 95, 96, 97, 98, 99, 100, 101, 102, 103, 104, 105, 106, 107, 108, 109, 110, 111] (by decide +kernel) (by decide +kernel)
set_option maxRecDepth 20000 in
theorem gX9_damp_X9_no : GoodIn wsX9_damp (wsV RX9 156 RX9 yX9_no wsX9_no) := goodIn_app (goodIn_of _ (by decide +kernel)) ggX9_damp_X9_no
set_option maxRecDepth 20000 in
theorem ggX9_damp_X9_coded : GoodIn wsX9_damp wsX9_coded := goodIn_r _ [82] (by decide +kernel) (by decide +kernel)
set_option maxRecDepth 20000 in
theorem gX9_damp_X9_coded : GoodIn wsX9_damp (va_wsS RX9 302 yX9_coded wsX9_coded) := goodIn_app (goodIn_of _ (by decide +kernel)) ggX9_damp_X9_coded
theorem dX9_damp_0 : decode cX9_damp 0 = .ok (.aload_n 0, 1) := by decide +kernel
theorem dX9_damp_1 : decode cX9_damp 1 = .ok (.invokevirtual 153, 3) := by decide +kernel
theorem dX9_damp_4 : decode cX9_damp 4 = .ok (.aload_n 0, 1) := by decide +kernel
theorem dX9_damp_5 : decode cX9_damp 5 = .ok (.aload_n 0, 1) := by decide +kernel
theorem dX9_damp_6 : decode cX9_damp 6 = .ok (.iload_n 1, 1) := by decide +kernel
theorem dX9_damp_7 : decode cX9_damp 7 = .ok (.invokevirtual 283, 3) := by decide +kernel
theorem dX9_damp_10 : decode cX9_damp 10 = .ok (.iload_n 2, 1) := by decide +kernel
theorem dX9_damp_11 : decode cX9_damp 11 = .ok (.iload_n 3, 1) := by decide +kernel
theorem dX9_damp_12 : decode cX9_damp 12 = .ok (.iconst (-1), 1) := by decide +kernel
theorem dX9_damp_13 : decode cX9_damp 13 = .ok (.iconst 0, 1) := by decide +kernel
theorem dX9_damp_14 : decode cX9_damp 14 = .ok (.invokevirtual 364, 3) := by decide +kernel
theorem dX9_damp_17 : decode cX9_damp 17 = .ok (.istore 4, 2) := by decide +kernel
theorem dX9_damp_19 : decode cX9_damp 19 = .ok (.iload 4, 2) := by decide +kernel
theorem dX9_damp_21 : decode cX9_damp 21 = .ok (.ifCond .eq 12, 3) := by decide +kernel
theorem dX9_damp_24 : decode cX9_damp 24 = .ok (.aload_n 0, 1) := by decide +kernel
theorem dX9_damp_25 : decode cX9_damp 25 = .ok (.iload 4, 2) := by decide +kernel
theorem dX9_damp_27 : decode cX9_damp 27 = .ok (.invokevirtual 156, 3) := by decide +kernel
theorem dX9_damp_30 : decode cX9_damp 30 = .ok (.goto 12, 3) := by decide +kernel
theorem dX9_damp_33 : decode cX9_damp 33 = .ok (.aload_n 0, 1) := by decide +kernel
theorem dX9_damp_34 : decode cX9_damp 34 = .ok (.getfield 35, 3) := by decide +kernel
theorem dX9_damp_37 : decode cX9_damp 37 = .ok (.iload_n 1, 1) := by decide +kernel
theorem dX9_damp_38 : decode cX9_damp 38 = .ok (.iaload, 1) := by decide +kernel
theorem dX9_damp_39 : decode cX9_damp 39 = .ok (.invokestatic 302, 3) := by decide +kernel
theorem dX9_damp_42 : decode cX9_damp 42 = .ok (.ireturn, 1) := by decide +kernel
set_option maxRecDepth 20000 in
theorem ggX9_dampSteps_X9_good : GoodIn wsX9_dampSteps wsX9_good := goodIn_r _ [7, 8, 9, 76, 77, 78, 79, 80, 81, 82, 83, 84, 85, 86, 87, 88, 89, 90, 91, 92, 93, 94, 95, 96, 97, 98, 99, 100, 101, 102, 103, 104] (by decide +kernel) (by decide +kernel)
set_option maxRecDepth 20000 in
theorem gX9_dampSteps_X9_good : GoodIn wsX9_dampSteps (wsV RX9 153 RX9 yX9_good wsX9_good) := goodIn_app (goodIn_of _ (by decide +kernel)) ggX9_dampSteps_X9_good
set_option maxRecDepth 20000 in
theorem ggX9_dampSteps_X9_dampWhy : GoodIn wsX9_dampSteps wsX9_dampWhy := goodIn_r _ [13, 14, 2, 15, 16, 17, 18, 19, 20, 6, 21, 22, 23, 24, 25, 26, 27, 28, 29, 30, 31, 32, 33, 34, 35, 36, 37, 38, 39, 40, 41, 42, 43, 44, 45, 46, 47, 48, 49, 50, 51, 52, 53, 54, 55, 56, 57, 58, 59, 60, 61, 62, 63, 64, 65, 66, 67, 68, 69, 70, 71, 76, 77, 78, 79, 80, 81, 82, 83, 84, 85, 86, 87, 88, 89, 90, 91, 92, 93, 94, 95, 96, 97, 98, 99, 100, 101, 102, 103, 104] (by decide +kernel) (by decide +kernel)
set_option maxRecDepth 20000 in
theorem gX9_dampSteps_X9_dampWhy : GoodIn wsX9_dampSteps (wsV RX9 364 RX9 yX9_dampWhy wsX9_dampWhy) := goodIn_app (goodIn_of _ (by decide +kernel)) ggX9_dampSteps_X9_dampWhy
set_option maxRecDepth 20000 in
theorem ggX9_dampSteps_X9_no : GoodIn wsX9_dampSteps wsX9_no := goodIn_r _ [75, 9, 76, 77, 78, 79, 80, 81, 82, 83, 84, 85, 86, 87, 88, 89, 90, 91, 92, 93, 94, 95, 96, 97, 98, 99, 100, 101, 102, 103, 104] (by decide +kernel) (by decide +kernel)
set_option maxRecDepth 20000 in
theorem gX9_dampSteps_X9_no : GoodIn wsX9_dampSteps (wsV RX9 156 RX9 yX9_no wsX9_no) := goodIn_app (goodIn_of _ (by decide +kernel)) ggX9_dampSteps_X9_no
theorem dX9_dampSteps_0 : decode cX9_dampSteps 0 = .ok (.aload_n 0, 1) := by decide +kernel
theorem dX9_dampSteps_1 : decode cX9_dampSteps 1 = .ok (.invokevirtual 153, 3) := by decide +kernel
theorem dX9_dampSteps_4 : decode cX9_dampSteps 4 = .ok (.aload_n 0, 1) := by decide +kernel
theorem dX9_dampSteps_5 : decode cX9_dampSteps 5 = .ok (.aload_n 0, 1) := by decide +kernel
theorem dX9_dampSteps_6 : decode cX9_dampSteps 6 = .ok (.getfield 166, 3) := by decide +kernel
theorem dX9_dampSteps_9 : decode cX9_dampSteps 9 = .ok (.iload_n 1, 1) := by decide +kernel
theorem dX9_dampSteps_10 : decode cX9_dampSteps 10 = .ok (.iload_n 2, 1) := by decide +kernel
theorem dX9_dampSteps_11 : decode cX9_dampSteps 11 = .ok (.iconst (-1), 1) := by decide +kernel
theorem dX9_dampSteps_12 : decode cX9_dampSteps 12 = .ok (.iconst 0, 1) := by decide +kernel
theorem dX9_dampSteps_13 : decode cX9_dampSteps 13 = .ok (.invokevirtual 364, 3) := by decide +kernel
theorem dX9_dampSteps_16 : decode cX9_dampSteps 16 = .ok (.istore_n 3, 1) := by decide +kernel
theorem dX9_dampSteps_17 : decode cX9_dampSteps 17 = .ok (.iload_n 3, 1) := by decide +kernel
theorem dX9_dampSteps_18 : decode cX9_dampSteps 18 = .ok (.ifCond .eq 11, 3) := by decide +kernel
theorem dX9_dampSteps_21 : decode cX9_dampSteps 21 = .ok (.aload_n 0, 1) := by decide +kernel
theorem dX9_dampSteps_22 : decode cX9_dampSteps 22 = .ok (.iload_n 3, 1) := by decide +kernel
theorem dX9_dampSteps_23 : decode cX9_dampSteps 23 = .ok (.invokevirtual 156, 3) := by decide +kernel
theorem dX9_dampSteps_26 : decode cX9_dampSteps 26 = .ok (.goto 7, 3) := by decide +kernel
theorem dX9_dampSteps_29 : decode cX9_dampSteps 29 = .ok (.aload_n 0, 1) := by decide +kernel
theorem dX9_dampSteps_30 : decode cX9_dampSteps 30 = .ok (.getfield 357, 3) := by decide +kernel
theorem dX9_dampSteps_33 : decode cX9_dampSteps 33 = .ok (.ireturn, 1) := by decide +kernel
set_option maxRecDepth 20000 in
theorem ggX9_dampWhen_X9_good : GoodIn wsX9_dampWhen wsX9_good := goodIn_r _ [7, 8, 9, 88, 89, 90, 91, 92, 93, 94, 95, 96, 97, 98, 99, 100, 101, 102, 103, 104, 105, 106, 107, 108, 109, 110, 111, 112, 113, 114, 115, 116] (by decide +kernel) (by decide +kernel)
set_option maxRecDepth 20000 in
theorem gX9_dampWhen_X9_good : GoodIn wsX9_dampWhen (wsV RX9 153 RX9 yX9_good wsX9_good) := goodIn_app (goodIn_of _ (by decide +kernel)) ggX9_dampWhen_X9_good
set_option maxRecDepth 20000 in
theorem ggX9_dampWhen_X9_isThing : GoodIn wsX9_dampWhen wsX9_isThing := goodIn_r _ [13, 14, 15, 16, 17, 6, 18, 88, 89, 90, 91, 92, 93, 94, 95, 96, 97, 98, 99, 100, 101, 102, 103, 104, 105, 106, 107, 108, 109, 110, 111, 112, 113, 114, 115, 116] (by decide +kernel) (by decide +kernel)
set_option maxRecDepth 20000 in
theorem gX9_dampWhen_X9_isThing : GoodIn wsX9_dampWhen (wsV RX9 283 RX9 yX9_isThing wsX9_isThing) := goodIn_app (goodIn_of _ (by decide +kernel)) ggX9_dampWhen_X9_isThing
set_option maxRecDepth 20000 in
theorem ggX9_dampWhen_X9_isPlace : GoodIn wsX9_dampWhen wsX9_isPlace := goodIn_r _ [22, 15, 23, 24, 25, 6, 26, 14, 16, 17, 18, 88, 89, 90, 91, 92, 93, 94, 95, 96, 97, 98, 99, 100, 101, 102, 103, 104, 105, 106, 107, 108, 109, 110, 111, 112, 113, 114, 115, 116] (by decide +kernel) (by decide +kernel)
set_option maxRecDepth 20000 in
theorem gX9_dampWhen_X9_isPlace : GoodIn wsX9_dampWhen (wsV RX9 286 RX9 yX9_isPlace wsX9_isPlace) := goodIn_app (goodIn_of _ (by decide +kernel)) ggX9_dampWhen_X9_isPlace
set_option maxRecDepth 20000 in
theorem ggX9_dampWhen_X9_no : GoodIn wsX9_dampWhen wsX9_no := goodIn_r _ [30, 9, 88, 89, 90, 91, 92, 93, 94, 95, 96, 97, 98, 99, 100, 101, 102, 103, 104, 105, 106, 107, 108, 109, 110, 111, 112, 113, 114, 115, 116] (by decide +kernel) (by decide +kernel)
set_option maxRecDepth 20000 in
theorem gX9_dampWhen_X9_no : GoodIn wsX9_dampWhen (wsV RX9 156 RX9 yX9_no wsX9_no) := goodIn_app (goodIn_of _ (by decide +kernel)) ggX9_dampWhen_X9_no
set_option maxRecDepth 20000 in
theorem ggX9_dampWhen_X9_dampWhy : GoodIn wsX9_dampWhen wsX9_dampWhy := goodIn_r _ [34, 35, 36, 2, 37, 15, 38, 16, 17, 6, 18, 39, 40, 41, 42, 1, 43, 44, 45, 46, 47, 48, 49, 50, 51, 52, 53, 54, 55, 56, 57, 58, 59, 60, 61, 62, 63, 64, 65, 66, 67, 68, 69, 70, 71, 72, 73, 74, 75, 76, 77, 78, 79, 80, 81, 82, 83, 84, 85, 86, 87, 88, 89, 90, 91, 92, 93, 94, 95, 96, 97, 98, 99, 100, 101, 102, 103, 104, 105, 106, 107, 108, 109, 110, 111, 112, 113, 114, 115, 116] (by decide +kernel) (by decide +kernel)
set_option maxRecDepth 20000 in
theorem gX9_dampWhen_X9_dampWhy : GoodIn wsX9_dampWhen (wsV RX9 364 RX9 yX9_dampWhy wsX9_dampWhy) := goodIn_app (goodIn_of _ (by decide +kernel)) ggX9_dampWhen_X9_dampWhy
theorem dX9_dampWhen_0 : decode cX9_dampWhen 0 = .ok (.aload_n 0, 1) := by decide +kernel
theorem dX9_dampWhen_1 : decode cX9_dampWhen 1 = .ok (.invokevirtual 153, 3) := by decide +kernel
theorem dX9_dampWhen_4 : decode cX9_dampWhen 4 = .ok (.aload_n 0, 1) := by decide +kernel
theorem dX9_dampWhen_5 : decode cX9_dampWhen 5 = .ok (.iload_n 1, 1) := by decide +kernel
theorem dX9_dampWhen_6 : decode cX9_dampWhen 6 = .ok (.invokevirtual 283, 3) := by decide +kernel
theorem dX9_dampWhen_9 : decode cX9_dampWhen 9 = .ok (.ifCond .eq 20, 3) := by decide +kernel
theorem dX9_dampWhen_12 : decode cX9_dampWhen 12 = .ok (.aload_n 0, 1) := by decide +kernel
theorem dX9_dampWhen_13 : decode cX9_dampWhen 13 = .ok (.aload_n 0, 1) := by decide +kernel
theorem dX9_dampWhen_14 : decode cX9_dampWhen 14 = .ok (.getfield 26, 3) := by decide +kernel
theorem dX9_dampWhen_17 : decode cX9_dampWhen 17 = .ok (.iload_n 1, 1) := by decide +kernel
theorem dX9_dampWhen_18 : decode cX9_dampWhen 18 = .ok (.iaload, 1) := by decide +kernel
theorem dX9_dampWhen_19 : decode cX9_dampWhen 19 = .ok (.bipush 9, 2) := by decide +kernel
theorem dX9_dampWhen_21 : decode cX9_dampWhen 21 = .ok (.idiv, 1) := by decide +kernel
theorem dX9_dampWhen_22 : decode cX9_dampWhen 22 = .ok (.iload_n 2, 1) := by decide +kernel
theorem dX9_dampWhen_23 : decode cX9_dampWhen 23 = .ok (.invokevirtual 286, 3) := by decide +kernel
theorem dX9_dampWhen_26 : decode cX9_dampWhen 26 = .ok (.ifCond .ne 9, 3) := by decide +kernel
theorem dX9_dampWhen_29 : decode cX9_dampWhen 29 = .ok (.aload_n 0, 1) := by decide +kernel
theorem dX9_dampWhen_30 : decode cX9_dampWhen 30 = .ok (.iconst 1, 1) := by decide +kernel
theorem dX9_dampWhen_31 : decode cX9_dampWhen 31 = .ok (.invokevirtual 156, 3) := by decide +kernel
theorem dX9_dampWhen_34 : decode cX9_dampWhen 34 = .ok (.ireturn, 1) := by decide +kernel
theorem dX9_dampWhen_35 : decode cX9_dampWhen 35 = .ok (.aload_n 0, 1) := by decide +kernel
theorem dX9_dampWhen_36 : decode cX9_dampWhen 36 = .ok (.iconst 1, 1) := by decide +kernel
theorem dX9_dampWhen_37 : decode cX9_dampWhen 37 = .ok (.iload_n 3, 1) := by decide +kernel
theorem dX9_dampWhen_38 : decode cX9_dampWhen 38 = .ok (.iload 4, 2) := by decide +kernel
theorem dX9_dampWhen_40 : decode cX9_dampWhen 40 = .ok (.iload_n 1, 1) := by decide +kernel
theorem dX9_dampWhen_41 : decode cX9_dampWhen 41 = .ok (.bipush 9, 2) := by decide +kernel
theorem dX9_dampWhen_43 : decode cX9_dampWhen 43 = .ok (.aload_n 0, 1) := by decide +kernel
theorem dX9_dampWhen_44 : decode cX9_dampWhen 44 = .ok (.getfield 26, 3) := by decide +kernel
theorem dX9_dampWhen_47 : decode cX9_dampWhen 47 = .ok (.iload_n 1, 1) := by decide +kernel
theorem dX9_dampWhen_48 : decode cX9_dampWhen 48 = .ok (.iaload, 1) := by decide +kernel
theorem dX9_dampWhen_49 : decode cX9_dampWhen 49 = .ok (.bipush 9, 2) := by decide +kernel
theorem dX9_dampWhen_51 : decode cX9_dampWhen 51 = .ok (.idiv, 1) := by decide +kernel
theorem dX9_dampWhen_52 : decode cX9_dampWhen 52 = .ok (.imul, 1) := by decide +kernel
theorem dX9_dampWhen_53 : decode cX9_dampWhen 53 = .ok (.iload_n 2, 1) := by decide +kernel
theorem dX9_dampWhen_54 : decode cX9_dampWhen 54 = .ok (.iadd, 1) := by decide +kernel
theorem dX9_dampWhen_55 : decode cX9_dampWhen 55 = .ok (.invokevirtual 364, 3) := by decide +kernel
theorem dX9_dampWhen_58 : decode cX9_dampWhen 58 = .ok (.istore 5, 2) := by decide +kernel
theorem dX9_dampWhen_60 : decode cX9_dampWhen 60 = .ok (.iload 5, 2) := by decide +kernel
theorem dX9_dampWhen_62 : decode cX9_dampWhen 62 = .ok (.ifCond .eq 12, 3) := by decide +kernel
theorem dX9_dampWhen_65 : decode cX9_dampWhen 65 = .ok (.aload_n 0, 1) := by decide +kernel
theorem dX9_dampWhen_66 : decode cX9_dampWhen 66 = .ok (.iload 5, 2) := by decide +kernel
theorem dX9_dampWhen_68 : decode cX9_dampWhen 68 = .ok (.invokevirtual 156, 3) := by decide +kernel
theorem dX9_dampWhen_71 : decode cX9_dampWhen 71 = .ok (.goto 7, 3) := by decide +kernel
theorem dX9_dampWhen_74 : decode cX9_dampWhen 74 = .ok (.aload_n 0, 1) := by decide +kernel
theorem dX9_dampWhen_75 : decode cX9_dampWhen 75 = .ok (.getfield 360, 3) := by decide +kernel
theorem dX9_dampWhen_78 : decode cX9_dampWhen 78 = .ok (.ireturn, 1) := by decide +kernel
set_option maxRecDepth 20000 in
theorem ggX9_note_X9_copy : GoodIn wsX9_note wsX9_copy := goodIn_r _ [7] (by decide +kernel) (by decide +kernel)
set_option maxRecDepth 20000 in
theorem gX9_note_X9_copy : GoodIn wsX9_note (va_wsS RX9 162 yX9_copy wsX9_copy) := goodIn_app (goodIn_of _ (by decide +kernel)) ggX9_note_X9_copy
theorem dX9_note_0 : decode cX9_note 0 = .ok (.aload_n 0, 1) := by decide +kernel
theorem dX9_note_1 : decode cX9_note 1 = .ok (.getfield 169, 3) := by decide +kernel
theorem dX9_note_4 : decode cX9_note 4 = .ok (.bipush 16, 2) := by decide +kernel
theorem dX9_note_6 : decode cX9_note 6 = .ok (.if_icmp .ne 43, 3) := by decide +kernel
theorem dX9_note_9 : decode cX9_note 9 = .ok (.iconst 0, 1) := by decide +kernel
theorem dX9_note_10 : decode cX9_note 10 = .ok (.istore_n 1, 1) := by decide +kernel
theorem dX9_note_11 : decode cX9_note 11 = .ok (.iload_n 1, 1) := by decide +kernel
theorem dX9_note_12 : decode cX9_note 12 = .ok (.sipush 135, 3) := by decide +kernel
theorem dX9_note_15 : decode cX9_note 15 = .ok (.if_icmp .ge 24, 3) := by decide +kernel
theorem dX9_note_18 : decode cX9_note 18 = .ok (.aload_n 0, 1) := by decide +kernel
theorem dX9_note_19 : decode cX9_note 19 = .ok (.getfield 29, 3) := by decide +kernel
theorem dX9_note_22 : decode cX9_note 22 = .ok (.iload_n 1, 1) := by decide +kernel
theorem dX9_note_23 : decode cX9_note 23 = .ok (.aload_n 0, 1) := by decide +kernel
theorem dX9_note_24 : decode cX9_note 24 = .ok (.getfield 29, 3) := by decide +kernel
theorem dX9_note_27 : decode cX9_note 27 = .ok (.iload_n 1, 1) := by decide +kernel
theorem dX9_note_28 : decode cX9_note 28 = .ok (.bipush 9, 2) := by decide +kernel
theorem dX9_note_30 : decode cX9_note 30 = .ok (.iadd, 1) := by decide +kernel
theorem dX9_note_31 : decode cX9_note 31 = .ok (.iaload, 1) := by decide +kernel
theorem dX9_note_32 : decode cX9_note 32 = .ok (.iastore, 1) := by decide +kernel
theorem dX9_note_33 : decode cX9_note 33 = .ok (.iinc 1 1, 3) := by decide +kernel
theorem dX9_note_36 : decode cX9_note 36 = .ok (.goto (-25), 3) := by decide +kernel
theorem dX9_note_39 : decode cX9_note 39 = .ok (.aload_n 0, 1) := by decide +kernel
theorem dX9_note_40 : decode cX9_note 40 = .ok (.dup, 1) := by decide +kernel
theorem dX9_note_41 : decode cX9_note 41 = .ok (.getfield 169, 3) := by decide +kernel
theorem dX9_note_44 : decode cX9_note 44 = .ok (.iconst 1, 1) := by decide +kernel
theorem dX9_note_45 : decode cX9_note 45 = .ok (.isub, 1) := by decide +kernel
theorem dX9_note_46 : decode cX9_note 46 = .ok (.putfield 169, 3) := by decide +kernel
theorem dX9_note_49 : decode cX9_note 49 = .ok (.aload_n 0, 1) := by decide +kernel
theorem dX9_note_50 : decode cX9_note 50 = .ok (.getfield 26, 3) := by decide +kernel
theorem dX9_note_53 : decode cX9_note 53 = .ok (.iconst 0, 1) := by decide +kernel
theorem dX9_note_54 : decode cX9_note 54 = .ok (.aload_n 0, 1) := by decide +kernel
theorem dX9_note_55 : decode cX9_note 55 = .ok (.getfield 29, 3) := by decide +kernel
theorem dX9_note_58 : decode cX9_note 58 = .ok (.bipush 9, 2) := by decide +kernel
theorem dX9_note_60 : decode cX9_note 60 = .ok (.aload_n 0, 1) := by decide +kernel
theorem dX9_note_61 : decode cX9_note 61 = .ok (.getfield 169, 3) := by decide +kernel
theorem dX9_note_64 : decode cX9_note 64 = .ok (.imul, 1) := by decide +kernel
theorem dX9_note_65 : decode cX9_note 65 = .ok (.bipush 9, 2) := by decide +kernel
theorem dX9_note_67 : decode cX9_note 67 = .ok (.invokestatic 162, 3) := by decide +kernel
theorem dX9_note_70 : decode cX9_note 70 = .ok (.aload_n 0, 1) := by decide +kernel
theorem dX9_note_71 : decode cX9_note 71 = .ok (.dup, 1) := by decide +kernel
theorem dX9_note_72 : decode cX9_note 72 = .ok (.getfield 169, 3) := by decide +kernel
theorem dX9_note_75 : decode cX9_note 75 = .ok (.iconst 1, 1) := by decide +kernel
theorem dX9_note_76 : decode cX9_note 76 = .ok (.iadd, 1) := by decide +kernel
theorem dX9_note_77 : decode cX9_note 77 = .ok (.putfield 169, 3) := by decide +kernel
theorem dX9_note_80 : decode cX9_note 80 = .ok (.return_, 1) := by decide +kernel
set_option maxRecDepth 20000 in
theorem ggX9_turnsTo_X9_isThing : GoodIn wsX9_turnsTo wsX9_isThing := goodIn_r _ [6, 7, 8, 9, 10, 5, 11, 29, 30, 31, 32, 33, 34, 35, 36, 37, 38, 39, 40, 41, 42, 43, 44, 45, 46, 47, 48, 49, 50, 51, 52, 53, 54, 55, 56, 57] (by decide +kernel) (by decide +kernel)
set_option maxRecDepth 20000 in
theorem gX9_turnsTo_X9_isThing : GoodIn wsX9_turnsTo (wsV RX9 283 RX9 yX9_isThing wsX9_isThing) := goodIn_app (goodIn_of _ (by decide +kernel)) ggX9_turnsTo_X9_isThing
set_option maxRecDepth 20000 in
theorem ggX9_turnsTo_X9_isNot : GoodIn wsX9_turnsTo wsX9_isNot := goodIn_r _ [15, 16, 29, 30, 31, 32, 33, 34, 35, 36, 37, 38, 39, 40, 41, 42, 43, 44, 45, 46, 47, 48, 49, 50, 51, 52, 53, 54, 55, 56, 57] (by decide +kernel) (by decide +kernel)
set_option maxRecDepth 20000 in
theorem gX9_turnsTo_X9_isNot : GoodIn wsX9_turnsTo (wsV RX9 368 RX9 yX9_isNot wsX9_isNot) := goodIn_app (goodIn_of _ (by decide +kernel)) ggX9_turnsTo_X9_isNot
set_option maxRecDepth 20000 in
theorem ggX9_turnsTo_X9_hasBit : GoodIn wsX9_turnsTo wsX9_hasBit := goodIn_r _ [19] (by decide +kernel) (by decide +kernel)
set_option maxRecDepth 20000 in
theorem gX9_turnsTo_X9_hasBit : GoodIn wsX9_turnsTo (va_wsS RX9 251 yX9_hasBit wsX9_hasBit) := goodIn_app (goodIn_of _ (by decide +kernel)) ggX9_turnsTo_X9_hasBit
set_option maxRecDepth 20000 in
theorem ggX9_turnsTo_X9_note : GoodIn wsX9_turnsTo wsX9_note := goodIn_r _ [23, 24, 25, 1, 26, 27, 5, 28, 29, 30, 31, 32, 33, 34, 35, 36, 37, 38, 39, 40, 41, 42, 43, 44, 45, 46, 47, 48, 49, 50, 51, 52, 53, 54, 55, 56, 57] (by decide +kernel) (by decide +kernel)
set_option maxRecDepth 20000 in
theorem gX9_turnsTo_X9_note : GoodIn wsX9_turnsTo (wsV RX9 371 RX9 yX9_note wsX9_note) := goodIn_app (goodIn_of _ (by decide +kernel)) ggX9_turnsTo_X9_note
theorem dX9_turnsTo_0 : decode cX9_turnsTo 0 = .ok (.aload_n 0, 1) := by decide +kernel
theorem dX9_turnsTo_1 : decode cX9_turnsTo 1 = .ok (.iload_n 1, 1) := by decide +kernel
theorem dX9_turnsTo_2 : decode cX9_turnsTo 2 = .ok (.invokevirtual 283, 3) := by decide +kernel
theorem dX9_turnsTo_5 : decode cX9_turnsTo 5 = .ok (.ifCond .ne 9, 3) := by decide +kernel
theorem dX9_turnsTo_8 : decode cX9_turnsTo 8 = .ok (.aload_n 0, 1) := by decide +kernel
theorem dX9_turnsTo_9 : decode cX9_turnsTo 9 = .ok (.iconst 1, 1) := by decide +kernel
theorem dX9_turnsTo_10 : decode cX9_turnsTo 10 = .ok (.invokevirtual 368, 3) := by decide +kernel
theorem dX9_turnsTo_13 : decode cX9_turnsTo 13 = .ok (.ireturn, 1) := by decide +kernel
theorem dX9_turnsTo_14 : decode cX9_turnsTo 14 = .ok (.aload_n 0, 1) := by decide +kernel
theorem dX9_turnsTo_15 : decode cX9_turnsTo 15 = .ok (.getfield 26, 3) := by decide +kernel
theorem dX9_turnsTo_18 : decode cX9_turnsTo 18 = .ok (.bipush 7, 2) := by decide +kernel
theorem dX9_turnsTo_20 : decode cX9_turnsTo 20 = .ok (.iaload, 1) := by decide +kernel
theorem dX9_turnsTo_21 : decode cX9_turnsTo 21 = .ok (.iload_n 1, 1) := by decide +kernel
theorem dX9_turnsTo_22 : decode cX9_turnsTo 22 = .ok (.invokestatic 251, 3) := by decide +kernel
theorem dX9_turnsTo_25 : decode cX9_turnsTo 25 = .ok (.iload_n 2, 1) := by decide +kernel
theorem dX9_turnsTo_26 : decode cX9_turnsTo 26 = .ok (.if_icmp .ne 9, 3) := by decide +kernel
theorem dX9_turnsTo_29 : decode cX9_turnsTo 29 = .ok (.aload_n 0, 1) := by decide +kernel
theorem dX9_turnsTo_30 : decode cX9_turnsTo 30 = .ok (.iconst 5, 1) := by decide +kernel
theorem dX9_turnsTo_31 : decode cX9_turnsTo 31 = .ok (.invokevirtual 368, 3) := by decide +kernel
theorem dX9_turnsTo_34 : decode cX9_turnsTo 34 = .ok (.ireturn, 1) := by decide +kernel
theorem dX9_turnsTo_35 : decode cX9_turnsTo 35 = .ok (.aload_n 0, 1) := by decide +kernel
theorem dX9_turnsTo_36 : decode cX9_turnsTo 36 = .ok (.invokevirtual 371, 3) := by decide +kernel
theorem dX9_turnsTo_39 : decode cX9_turnsTo 39 = .ok (.aload_n 0, 1) := by decide +kernel
theorem dX9_turnsTo_40 : decode cX9_turnsTo 40 = .ok (.getfield 26, 3) := by decide +kernel
theorem dX9_turnsTo_43 : decode cX9_turnsTo 43 = .ok (.bipush 7, 2) := by decide +kernel
theorem dX9_turnsTo_45 : decode cX9_turnsTo 45 = .ok (.dup2, 1) := by decide +kernel
theorem dX9_turnsTo_46 : decode cX9_turnsTo 46 = .ok (.iaload, 1) := by decide +kernel
theorem dX9_turnsTo_47 : decode cX9_turnsTo 47 = .ok (.iconst 1, 1) := by decide +kernel
theorem dX9_turnsTo_48 : decode cX9_turnsTo 48 = .ok (.iload_n 1, 1) := by decide +kernel
theorem dX9_turnsTo_49 : decode cX9_turnsTo 49 = .ok (.ishl, 1) := by decide +kernel
theorem dX9_turnsTo_50 : decode cX9_turnsTo 50 = .ok (.ixor, 1) := by decide +kernel
theorem dX9_turnsTo_51 : decode cX9_turnsTo 51 = .ok (.iastore, 1) := by decide +kernel
theorem dX9_turnsTo_52 : decode cX9_turnsTo 52 = .ok (.iconst 1, 1) := by decide +kernel
theorem dX9_turnsTo_53 : decode cX9_turnsTo 53 = .ok (.ireturn, 1) := by decide +kernel
set_option maxRecDepth 20000 in
theorem ggX9_hold_X9_good : GoodIn wsX9_hold wsX9_good := goodIn_r _ [5, 6, 7, 38, 39, 40, 41, 42, 43, 44, 45, 46, 47, 48, 49, 50, 51, 52, 53, 54, 55, 56, 57, 58, 59, 60, 61, 62, 63, 64, 65, 66] (by decide +kernel) (by decide +kernel)
set_option maxRecDepth 20000 in
theorem gX9_hold_X9_good : GoodIn wsX9_hold (wsV RX9 153 RX9 yX9_good wsX9_good) := goodIn_app (goodIn_of _ (by decide +kernel)) ggX9_hold_X9_good
set_option maxRecDepth 20000 in
theorem ggX9_hold_X9_turnsTo : GoodIn wsX9_hold wsX9_turnsTo := goodIn_r _ [11, 12, 13, 14, 15, 4, 16, 17, 18, 19, 20, 21, 22, 23, 24, 25, 7, 26, 27, 28, 29, 30, 31, 32, 33, 34, 35, 36, 37, 38, 39, 40, 41, 42, 43, 44, 45, 46, 47, 48, 49, 50, 51, 52, 53, 54, 55, 56, 57, 58, 59, 60, 61, 62, 63, 64, 65, 66] (by decide +kernel) (by decide +kernel)
set_option maxRecDepth 20000 in
theorem gX9_hold_X9_turnsTo : GoodIn wsX9_hold (wsV RX9 374 RX9 yX9_turnsTo wsX9_turnsTo) := goodIn_app (goodIn_of _ (by decide +kernel)) ggX9_hold_X9_turnsTo
theorem dX9_hold_0 : decode cX9_hold 0 = .ok (.aload_n 0, 1) := by decide +kernel
theorem dX9_hold_1 : decode cX9_hold 1 = .ok (.invokevirtual 153, 3) := by decide +kernel
theorem dX9_hold_4 : decode cX9_hold 4 = .ok (.aload_n 0, 1) := by decide +kernel
theorem dX9_hold_5 : decode cX9_hold 5 = .ok (.iload_n 1, 1) := by decide +kernel
theorem dX9_hold_6 : decode cX9_hold 6 = .ok (.iconst 1, 1) := by decide +kernel
theorem dX9_hold_7 : decode cX9_hold 7 = .ok (.invokevirtual 374, 3) := by decide +kernel
theorem dX9_hold_10 : decode cX9_hold 10 = .ok (.ireturn, 1) := by decide +kernel
set_option maxRecDepth 20000 in
theorem ggX9_let_X9_good : GoodIn wsX9_let wsX9_good := goodIn_r _ [5, 6, 7, 38, 39, 40, 41, 42, 43, 44, 45, 46, 47, 48, 49, 50, 51, 52, 53, 54, 55, 56, 57, 58, 59, 60, 61, 62, 63, 64, 65, 66] (by decide +kernel) (by decide +kernel)
set_option maxRecDepth 20000 in
theorem gX9_let_X9_good : GoodIn wsX9_let (wsV RX9 153 RX9 yX9_good wsX9_good) := goodIn_app (goodIn_of _ (by decide +kernel)) ggX9_let_X9_good
set_option maxRecDepth 20000 in
theorem ggX9_let_X9_turnsTo : GoodIn wsX9_let wsX9_turnsTo := goodIn_r _ [11, 12, 13, 14, 15, 4, 16, 17, 18, 19, 20, 21, 22, 23, 24, 25, 7, 26, 27, 28, 29, 30, 31, 32, 33, 34, 35, 36, 37, 38, 39, 40, 41, 42, 43, 44, 45, 46, 47, 48, 49, 50, 51, 52, 53, 54, 55, 56, 57, 58, 59, 60, 61, 62, 63, 64, 65, 66] (by decide +kernel) (by decide +kernel)
set_option maxRecDepth 20000 in
theorem gX9_let_X9_turnsTo : GoodIn wsX9_let (wsV RX9 374 RX9 yX9_turnsTo wsX9_turnsTo) := goodIn_app (goodIn_of _ (by decide +kernel)) ggX9_let_X9_turnsTo
theorem dX9_let_0 : decode cX9_let 0 = .ok (.aload_n 0, 1) := by decide +kernel
theorem dX9_let_1 : decode cX9_let 1 = .ok (.invokevirtual 153, 3) := by decide +kernel
theorem dX9_let_4 : decode cX9_let 4 = .ok (.aload_n 0, 1) := by decide +kernel
theorem dX9_let_5 : decode cX9_let 5 = .ok (.iload_n 1, 1) := by decide +kernel
theorem dX9_let_6 : decode cX9_let 6 = .ok (.iconst 0, 1) := by decide +kernel
theorem dX9_let_7 : decode cX9_let 7 = .ok (.invokevirtual 374, 3) := by decide +kernel
theorem dX9_let_10 : decode cX9_let 10 = .ok (.ireturn, 1) := by decide +kernel
set_option maxRecDepth 20000 in
theorem ggX9_put_X9_good : GoodIn wsX9_put wsX9_good := goodIn_r _ [6, 7, 8, 46, 47, 48, 49, 50, 51, 52, 53, 54, 55, 56, 57, 58, 59, 60, 61, 62, 63, 64, 65, 66, 67, 68, 69, 70, 71, 72, 73, 74] (by decide +kernel) (by decide +kernel)
set_option maxRecDepth 20000 in
theorem gX9_put_X9_good : GoodIn wsX9_put (wsV RX9 153 RX9 yX9_good wsX9_good) := goodIn_app (goodIn_of _ (by decide +kernel)) ggX9_put_X9_good
set_option maxRecDepth 20000 in
theorem ggX9_put_X9_isThing : GoodIn wsX9_put wsX9_isThing := goodIn_r _ [12, 13, 14, 15, 16, 5, 17, 46, 47, 48, 49, 50, 51, 52, 53, 54, 55, 56, 57, 58, 59, 60, 61, 62, 63, 64, 65, 66, 67, 68, 69, 70, 71, 72, 73, 74] (by decide +kernel) (by decide +kernel)
set_option maxRecDepth 20000 in
theorem gX9_put_X9_isThing : GoodIn wsX9_put (wsV RX9 283 RX9 yX9_isThing wsX9_isThing) := goodIn_app (goodIn_of _ (by decide +kernel)) ggX9_put_X9_isThing
set_option maxRecDepth 20000 in
theorem ggX9_put_X9_isPlace : GoodIn wsX9_put wsX9_isPlace := goodIn_r _ [21, 14, 22, 23, 24, 5, 25, 13, 15, 16, 17, 46, 47, 48, 49, 50, 51, 52, 53, 54, 55, 56, 57, 58, 59, 60, 61, 62, 63, 64, 65, 66, 67, 68, 69, 70, 71, 72, 73, 74] (by decide +kernel) (by decide +kernel)
set_option maxRecDepth 20000 in
theorem gX9_put_X9_isPlace : GoodIn wsX9_put (wsV RX9 286 RX9 yX9_isPlace wsX9_isPlace) := goodIn_app (goodIn_of _ (by decide +kernel)) ggX9_put_X9_isPlace
set_option maxRecDepth 20000 in
theorem ggX9_put_X9_isNot : GoodIn wsX9_put wsX9_isNot := goodIn_r _ [29, 8, 46, 47, 48, 49, 50, 51, 52, 53, 54, 55, 56, 57, 58, 59, 60, 61, 62, 63, 64, 65, 66, 67, 68, 69, 70, 71, 72, 73, 74] (by decide +kernel) (by decide +kernel)
set_option maxRecDepth 20000 in
theorem gX9_put_X9_isNot : GoodIn wsX9_put (wsV RX9 368 RX9 yX9_isNot wsX9_isNot) := goodIn_app (goodIn_of _ (by decide +kernel)) ggX9_put_X9_isNot
set_option maxRecDepth 20000 in
theorem ggX9_put_X9_hasBit : GoodIn wsX9_put wsX9_hasBit := goodIn_r _ [32] (by decide +kernel) (by decide +kernel)
set_option maxRecDepth 20000 in
theorem gX9_put_X9_hasBit : GoodIn wsX9_put (va_wsS RX9 251 yX9_hasBit wsX9_hasBit) := goodIn_app (goodIn_of _ (by decide +kernel)) ggX9_put_X9_hasBit
set_option maxRecDepth 20000 in
theorem ggX9_put_X9_thingAt : GoodIn wsX9_put wsX9_thingAt := goodIn_r _ [36, 14, 46, 47, 48, 49, 50, 51, 52, 53, 54, 55, 56, 57, 58, 59, 60, 61, 62, 63, 64, 65, 66, 67, 68, 69, 70, 71, 72, 73, 74] (by decide +kernel) (by decide +kernel)
set_option maxRecDepth 20000 in
theorem gX9_put_X9_thingAt : GoodIn wsX9_put (wsV RX9 258 RX9 yX9_thingAt wsX9_thingAt) := goodIn_app (goodIn_of _ (by decide +kernel)) ggX9_put_X9_thingAt
set_option maxRecDepth 20000 in
theorem ggX9_put_X9_note : GoodIn wsX9_put wsX9_note := goodIn_r _ [40, 41, 42, 1, 43, 44, 5, 45, 46, 47, 48, 49, 50, 51, 52, 53, 54, 55, 56, 57, 58, 59, 60, 61, 62, 63, 64, 65, 66, 67, 68, 69, 70, 71, 72, 73, 74] (by decide +kernel) (by decide +kernel)
set_option maxRecDepth 20000 in
theorem gX9_put_X9_note : GoodIn wsX9_put (wsV RX9 371 RX9 yX9_note wsX9_note) := goodIn_app (goodIn_of _ (by decide +kernel)) ggX9_put_X9_note
theorem dX9_put_0 : decode cX9_put 0 = .ok (.aload_n 0, 1) := by decide +kernel
theorem dX9_put_1 : decode cX9_put 1 = .ok (.invokevirtual 153, 3) := by decide +kernel
theorem dX9_put_4 : decode cX9_put 4 = .ok (.aload_n 0, 1) := by decide +kernel
theorem dX9_put_5 : decode cX9_put 5 = .ok (.iload_n 1, 1) := by decide +kernel
theorem dX9_put_6 : decode cX9_put 6 = .ok (.invokevirtual 283, 3) := by decide +kernel
theorem dX9_put_9 : decode cX9_put 9 = .ok (.ifCond .eq 12, 3) := by decide +kernel
theorem dX9_put_12 : decode cX9_put 12 = .ok (.aload_n 0, 1) := by decide +kernel
theorem dX9_put_13 : decode cX9_put 13 = .ok (.iload_n 2, 1) := by decide +kernel
theorem dX9_put_14 : decode cX9_put 14 = .ok (.iload_n 3, 1) := by decide +kernel
theorem dX9_put_15 : decode cX9_put 15 = .ok (.invokevirtual 286, 3) := by decide +kernel
theorem dX9_put_18 : decode cX9_put 18 = .ok (.ifCond .ne 9, 3) := by decide +kernel
theorem dX9_put_21 : decode cX9_put 21 = .ok (.aload_n 0, 1) := by decide +kernel
theorem dX9_put_22 : decode cX9_put 22 = .ok (.iconst 1, 1) := by decide +kernel
theorem dX9_put_23 : decode cX9_put 23 = .ok (.invokevirtual 368, 3) := by decide +kernel
theorem dX9_put_26 : decode cX9_put 26 = .ok (.ireturn, 1) := by decide +kernel
theorem dX9_put_27 : decode cX9_put 27 = .ok (.aload_n 0, 1) := by decide +kernel
theorem dX9_put_28 : decode cX9_put 28 = .ok (.getfield 26, 3) := by decide +kernel
theorem dX9_put_31 : decode cX9_put 31 = .ok (.bipush 7, 2) := by decide +kernel
theorem dX9_put_33 : decode cX9_put 33 = .ok (.iaload, 1) := by decide +kernel
theorem dX9_put_34 : decode cX9_put 34 = .ok (.iload_n 1, 1) := by decide +kernel
theorem dX9_put_35 : decode cX9_put 35 = .ok (.invokestatic 251, 3) := by decide +kernel
theorem dX9_put_38 : decode cX9_put 38 = .ok (.ifCond .ne 20, 3) := by decide +kernel
theorem dX9_put_41 : decode cX9_put 41 = .ok (.aload_n 0, 1) := by decide +kernel
theorem dX9_put_42 : decode cX9_put 42 = .ok (.aload_n 0, 1) := by decide +kernel
theorem dX9_put_43 : decode cX9_put 43 = .ok (.getfield 26, 3) := by decide +kernel
theorem dX9_put_46 : decode cX9_put 46 = .ok (.bipush 9, 2) := by decide +kernel
theorem dX9_put_48 : decode cX9_put 48 = .ok (.iload_n 2, 1) := by decide +kernel
theorem dX9_put_49 : decode cX9_put 49 = .ok (.imul, 1) := by decide +kernel
theorem dX9_put_50 : decode cX9_put 50 = .ok (.iload_n 3, 1) := by decide +kernel
theorem dX9_put_51 : decode cX9_put 51 = .ok (.iadd, 1) := by decide +kernel
theorem dX9_put_52 : decode cX9_put 52 = .ok (.invokevirtual 258, 3) := by decide +kernel
theorem dX9_put_55 : decode cX9_put 55 = .ok (.ifCond .lt 9, 3) := by decide +kernel
theorem dX9_put_58 : decode cX9_put 58 = .ok (.aload_n 0, 1) := by decide +kernel
theorem dX9_put_59 : decode cX9_put 59 = .ok (.iconst 5, 1) := by decide +kernel
theorem dX9_put_60 : decode cX9_put 60 = .ok (.invokevirtual 368, 3) := by decide +kernel
theorem dX9_put_63 : decode cX9_put 63 = .ok (.ireturn, 1) := by decide +kernel
theorem dX9_put_64 : decode cX9_put 64 = .ok (.aload_n 0, 1) := by decide +kernel
theorem dX9_put_65 : decode cX9_put 65 = .ok (.invokevirtual 371, 3) := by decide +kernel
theorem dX9_put_68 : decode cX9_put 68 = .ok (.aload_n 0, 1) := by decide +kernel
theorem dX9_put_69 : decode cX9_put 69 = .ok (.getfield 26, 3) := by decide +kernel
theorem dX9_put_72 : decode cX9_put 72 = .ok (.iload_n 1, 1) := by decide +kernel
theorem dX9_put_73 : decode cX9_put 73 = .ok (.bipush 9, 2) := by decide +kernel
theorem dX9_put_75 : decode cX9_put 75 = .ok (.iload_n 2, 1) := by decide +kernel
theorem dX9_put_76 : decode cX9_put 76 = .ok (.imul, 1) := by decide +kernel
theorem dX9_put_77 : decode cX9_put 77 = .ok (.iload_n 3, 1) := by decide +kernel
theorem dX9_put_78 : decode cX9_put 78 = .ok (.iadd, 1) := by decide +kernel
theorem dX9_put_79 : decode cX9_put 79 = .ok (.iastore, 1) := by decide +kernel
theorem dX9_put_80 : decode cX9_put 80 = .ok (.iconst 1, 1) := by decide +kernel
theorem dX9_put_81 : decode cX9_put 81 = .ok (.ireturn, 1) := by decide +kernel
set_option maxRecDepth 20000 in
theorem ggX9_night_X9_good : GoodIn wsX9_night wsX9_good := goodIn_r _ [7, 8, 9, 71, 72, 73, 74, 75, 76, 77, 78, 79, 80, 81, 82, 83, 84, 85, 86, 87, 88, 89, 90, 91, 92, 93, 94, 95, 96, 97, 98, 99] (by decide +kernel) (by decide +kernel)
set_option maxRecDepth 20000 in
theorem gX9_night_X9_good : GoodIn wsX9_night (wsV RX9 153 RX9 yX9_good wsX9_good) := goodIn_app (goodIn_of _ (by decide +kernel)) ggX9_night_X9_good
set_option maxRecDepth 20000 in
theorem ggX9_night_X9_no : GoodIn wsX9_night wsX9_no := goodIn_r _ [13, 9, 71, 72, 73, 74, 75, 76, 77, 78, 79, 80, 81, 82, 83, 84, 85, 86, 87, 88, 89, 90, 91, 92, 93, 94, 95, 96, 97, 98, 99] (by decide +kernel) (by decide +kernel)
set_option maxRecDepth 20000 in
theorem gX9_night_X9_no : GoodIn wsX9_night (wsV RX9 156 RX9 yX9_no wsX9_no) := goodIn_app (goodIn_of _ (by decide +kernel)) ggX9_night_X9_no
set_option maxRecDepth 20000 in
theorem ggX9_night_X9_note : GoodIn wsX9_night wsX9_note := goodIn_r _ [17, 18, 19, 2, 20, 21, 6, 22, 71, 72, 73, 74, 75, 76, 77, 78, 79, 80, 81, 82, 83, 84, 85, 86, 87, 88, 89, 90, 91, 92, 93, 94, 95, 96, 97, 98, 99] (by decide +kernel) (by decide +kernel)
set_option maxRecDepth 20000 in
theorem gX9_night_X9_note : GoodIn wsX9_night (wsV RX9 371 RX9 yX9_note wsX9_note) := goodIn_app (goodIn_of _ (by decide +kernel)) ggX9_night_X9_note
set_option maxRecDepth 20000 in
theorem ggX9_night_X9_nightOf : GoodIn wsX9_night wsX9_nightOf := goodIn_r _ [26, 27, 28, 29, 6, 30, 31, 32, 33, 34, 35, 36, 37, 38, 39, 40, 41, 42, 43, 44, 45, 46, 47, 48, 49, 50, 51, 52, 53, 54, 55, 56, 57, 58, 59, 60, 61, 62, 63, 64, 65, 66, 67, 68, 69, 70, 71, 72, 73, 74, 75, 76, 77, 78, 79, 80, 81, 82, 83, 84, 85, 86, 87, 88, 89, 90, 91, 92, 93, 94, 95, 96, 97, 98, 99] (by decide +kernel) (by decide +kernel)
set_option maxRecDepth 20000 in
theorem gX9_night_X9_nightOf : GoodIn wsX9_night (wsV RX9 299 RX9 yX9_nightOf wsX9_nightOf) := goodIn_app (goodIn_of _ (by decide +kernel)) ggX9_night_X9_nightOf
theorem dX9_night_0 : decode cX9_night 0 = .ok (.aload_n 0, 1) := by decide +kernel
theorem dX9_night_1 : decode cX9_night 1 = .ok (.invokevirtual 153, 3) := by decide +kernel
theorem dX9_night_4 : decode cX9_night 4 = .ok (.aload_n 0, 1) := by decide +kernel
theorem dX9_night_5 : decode cX9_night 5 = .ok (.getfield 166, 3) := by decide +kernel
theorem dX9_night_8 : decode cX9_night 8 = .ok (.ifCond .ne 9, 3) := by decide +kernel
theorem dX9_night_11 : decode cX9_night 11 = .ok (.aload_n 0, 1) := by decide +kernel
theorem dX9_night_12 : decode cX9_night 12 = .ok (.iconst 1, 1) := by decide +kernel
theorem dX9_night_13 : decode cX9_night 13 = .ok (.invokevirtual 156, 3) := by decide +kernel
theorem dX9_night_16 : decode cX9_night 16 = .ok (.ireturn, 1) := by decide +kernel
theorem dX9_night_17 : decode cX9_night 17 = .ok (.aload_n 0, 1) := by decide +kernel
theorem dX9_night_18 : decode cX9_night 18 = .ok (.getfield 26, 3) := by decide +kernel
theorem dX9_night_21 : decode cX9_night 21 = .ok (.bipush 8, 2) := by decide +kernel
theorem dX9_night_23 : decode cX9_night 23 = .ok (.iaload, 1) := by decide +kernel
theorem dX9_night_24 : decode cX9_night 24 = .ok (.sipush 999, 3) := by decide +kernel
theorem dX9_night_27 : decode cX9_night 27 = .ok (.if_icmp .ne 9, 3) := by decide +kernel
theorem dX9_night_30 : decode cX9_night 30 = .ok (.aload_n 0, 1) := by decide +kernel
theorem dX9_night_31 : decode cX9_night 31 = .ok (.iconst 3, 1) := by decide +kernel
theorem dX9_night_32 : decode cX9_night 32 = .ok (.invokevirtual 156, 3) := by decide +kernel
theorem dX9_night_35 : decode cX9_night 35 = .ok (.ireturn, 1) := by decide +kernel
theorem dX9_night_36 : decode cX9_night 36 = .ok (.aload_n 0, 1) := by decide +kernel
theorem dX9_night_37 : decode cX9_night 37 = .ok (.invokevirtual 371, 3) := by decide +kernel
theorem dX9_night_40 : decode cX9_night 40 = .ok (.aload_n 0, 1) := by decide +kernel
theorem dX9_night_41 : decode cX9_night 41 = .ok (.aload_n 0, 1) := by decide +kernel
theorem dX9_night_42 : decode cX9_night 42 = .ok (.getfield 26, 3) := by decide +kernel
theorem dX9_night_45 : decode cX9_night 45 = .ok (.invokevirtual 299, 3) := by decide +kernel
theorem dX9_night_48 : decode cX9_night 48 = .ok (.ireturn, 1) := by decide +kernel
set_option maxRecDepth 20000 in
theorem ggX9_undo_X9_good : GoodIn wsX9_undo wsX9_good := goodIn_r _ [8, 9, 10, 18, 19, 20, 21, 22, 23, 24, 25, 26, 27, 28, 29, 30, 31, 32, 33, 34, 35, 36, 37, 38, 39, 40, 41, 42, 43, 44, 45, 46] (by decide +kernel) (by decide +kernel)
set_option maxRecDepth 20000 in
theorem gX9_undo_X9_good : GoodIn wsX9_undo (wsV RX9 153 RX9 yX9_good wsX9_good) := goodIn_app (goodIn_of _ (by decide +kernel)) ggX9_undo_X9_good
set_option maxRecDepth 20000 in
theorem ggX9_undo_X9_isNot : GoodIn wsX9_undo wsX9_isNot := goodIn_r _ [14, 10, 18, 19, 20, 21, 22, 23, 24, 25, 26, 27, 28, 29, 30, 31, 32, 33, 34, 35, 36, 37, 38, 39, 40, 41, 42, 43, 44, 45, 46] (by decide +kernel) (by decide +kernel)
set_option maxRecDepth 20000 in
theorem gX9_undo_X9_isNot : GoodIn wsX9_undo (wsV RX9 368 RX9 yX9_isNot wsX9_isNot) := goodIn_app (goodIn_of _ (by decide +kernel)) ggX9_undo_X9_isNot
set_option maxRecDepth 20000 in
theorem ggX9_undo_X9_copy : GoodIn wsX9_undo wsX9_copy := goodIn_r _ [17] (by decide +kernel) (by decide +kernel)
set_option maxRecDepth 20000 in
theorem gX9_undo_X9_copy : GoodIn wsX9_undo (va_wsS RX9 162 yX9_copy wsX9_copy) := goodIn_app (goodIn_of _ (by decide +kernel)) ggX9_undo_X9_copy
theorem dX9_undo_0 : decode cX9_undo 0 = .ok (.aload_n 0, 1) := by decide +kernel
theorem dX9_undo_1 : decode cX9_undo 1 = .ok (.invokevirtual 153, 3) := by decide +kernel
theorem dX9_undo_4 : decode cX9_undo 4 = .ok (.aload_n 0, 1) := by decide +kernel
theorem dX9_undo_5 : decode cX9_undo 5 = .ok (.getfield 169, 3) := by decide +kernel
theorem dX9_undo_8 : decode cX9_undo 8 = .ok (.ifCond .ne 10, 3) := by decide +kernel
theorem dX9_undo_11 : decode cX9_undo 11 = .ok (.aload_n 0, 1) := by decide +kernel
theorem dX9_undo_12 : decode cX9_undo 12 = .ok (.bipush 6, 2) := by decide +kernel
theorem dX9_undo_14 : decode cX9_undo 14 = .ok (.invokevirtual 368, 3) := by decide +kernel
theorem dX9_undo_17 : decode cX9_undo 17 = .ok (.ireturn, 1) := by decide +kernel
theorem dX9_undo_18 : decode cX9_undo 18 = .ok (.aload_n 0, 1) := by decide +kernel
theorem dX9_undo_19 : decode cX9_undo 19 = .ok (.dup, 1) := by decide +kernel
theorem dX9_undo_20 : decode cX9_undo 20 = .ok (.getfield 169, 3) := by decide +kernel
theorem dX9_undo_23 : decode cX9_undo 23 = .ok (.iconst 1, 1) := by decide +kernel
theorem dX9_undo_24 : decode cX9_undo 24 = .ok (.isub, 1) := by decide +kernel
theorem dX9_undo_25 : decode cX9_undo 25 = .ok (.putfield 169, 3) := by decide +kernel
theorem dX9_undo_28 : decode cX9_undo 28 = .ok (.aload_n 0, 1) := by decide +kernel
theorem dX9_undo_29 : decode cX9_undo 29 = .ok (.getfield 29, 3) := by decide +kernel
theorem dX9_undo_32 : decode cX9_undo 32 = .ok (.bipush 9, 2) := by decide +kernel
theorem dX9_undo_34 : decode cX9_undo 34 = .ok (.aload_n 0, 1) := by decide +kernel
theorem dX9_undo_35 : decode cX9_undo 35 = .ok (.getfield 169, 3) := by decide +kernel
theorem dX9_undo_38 : decode cX9_undo 38 = .ok (.imul, 1) := by decide +kernel
theorem dX9_undo_39 : decode cX9_undo 39 = .ok (.aload_n 0, 1) := by decide +kernel
theorem dX9_undo_40 : decode cX9_undo 40 = .ok (.getfield 26, 3) := by decide +kernel
theorem dX9_undo_43 : decode cX9_undo 43 = .ok (.iconst 0, 1) := by decide +kernel
theorem dX9_undo_44 : decode cX9_undo 44 = .ok (.bipush 9, 2) := by decide +kernel
theorem dX9_undo_46 : decode cX9_undo 46 = .ok (.invokestatic 162, 3) := by decide +kernel
theorem dX9_undo_49 : decode cX9_undo 49 = .ok (.iconst 1, 1) := by decide +kernel
theorem dX9_undo_50 : decode cX9_undo 50 = .ok (.ireturn, 1) := by decide +kernel
set_option maxRecDepth 20000 in
theorem ggX9_image_X9_good : GoodIn wsX9_image wsX9_good := goodIn_r _ [9, 10, 11, 19, 20, 21, 22, 23, 24, 25, 26, 27, 28, 29, 30, 31, 32, 33, 34, 35, 36, 37, 38, 39, 40, 41, 42, 43, 44, 45, 46, 47] (by decide +kernel) (by decide +kernel)
set_option maxRecDepth 20000 in
theorem gX9_image_X9_good : GoodIn wsX9_image (wsV RX9 153 RX9 yX9_good wsX9_good) := goodIn_app (goodIn_of _ (by decide +kernel)) ggX9_image_X9_good
set_option maxRecDepth 20000 in
theorem ggX9_image_X9_no : GoodIn wsX9_image wsX9_no := goodIn_r _ [15, 11, 19, 20, 21, 22, 23, 24, 25, 26, 27, 28, 29, 30, 31, 32, 33, 34, 35, 36, 37, 38, 39, 40, 41, 42, 43, 44, 45, 46, 47] (by decide +kernel) (by decide +kernel)
set_option maxRecDepth 20000 in
theorem gX9_image_X9_no : GoodIn wsX9_image (wsV RX9 156 RX9 yX9_no wsX9_no) := goodIn_app (goodIn_of _ (by decide +kernel)) ggX9_image_X9_no
set_option maxRecDepth 20000 in
theorem ggX9_image_X9_copy : GoodIn wsX9_image wsX9_copy := goodIn_r _ [18] (by decide +kernel) (by decide +kernel)
set_option maxRecDepth 20000 in
theorem gX9_image_X9_copy : GoodIn wsX9_image (va_wsS RX9 162 yX9_copy wsX9_copy) := goodIn_app (goodIn_of _ (by decide +kernel)) ggX9_image_X9_copy
theorem dX9_image_0 : decode cX9_image 0 = .ok (.aload_n 0, 1) := by decide +kernel
theorem dX9_image_1 : decode cX9_image 1 = .ok (.invokevirtual 153, 3) := by decide +kernel
theorem dX9_image_4 : decode cX9_image 4 = .ok (.aload_n 0, 1) := by decide +kernel
theorem dX9_image_5 : decode cX9_image 5 = .ok (.getfield 166, 3) := by decide +kernel
theorem dX9_image_8 : decode cX9_image 8 = .ok (.ifCond .ne 9, 3) := by decide +kernel
theorem dX9_image_11 : decode cX9_image 11 = .ok (.aload_n 0, 1) := by decide +kernel
theorem dX9_image_12 : decode cX9_image 12 = .ok (.iconst 1, 1) := by decide +kernel
theorem dX9_image_13 : decode cX9_image 13 = .ok (.invokevirtual 156, 3) := by decide +kernel
theorem dX9_image_16 : decode cX9_image 16 = .ok (.ireturn, 1) := by decide +kernel
theorem dX9_image_17 : decode cX9_image 17 = .ok (.aload_n 0, 1) := by decide +kernel
theorem dX9_image_18 : decode cX9_image 18 = .ok (.getfield 172, 3) := by decide +kernel
theorem dX9_image_21 : decode cX9_image 21 = .ok (.iconst 3, 1) := by decide +kernel
theorem dX9_image_22 : decode cX9_image 22 = .ok (.if_icmp .ne 9, 3) := by decide +kernel
theorem dX9_image_25 : decode cX9_image 25 = .ok (.aload_n 0, 1) := by decide +kernel
theorem dX9_image_26 : decode cX9_image 26 = .ok (.iconst 3, 1) := by decide +kernel
theorem dX9_image_27 : decode cX9_image 27 = .ok (.invokevirtual 156, 3) := by decide +kernel
theorem dX9_image_30 : decode cX9_image 30 = .ok (.ireturn, 1) := by decide +kernel
theorem dX9_image_31 : decode cX9_image 31 = .ok (.aload_n 0, 1) := by decide +kernel
theorem dX9_image_32 : decode cX9_image 32 = .ok (.getfield 26, 3) := by decide +kernel
theorem dX9_image_35 : decode cX9_image 35 = .ok (.iconst 0, 1) := by decide +kernel
theorem dX9_image_36 : decode cX9_image 36 = .ok (.aload_n 0, 1) := by decide +kernel
theorem dX9_image_37 : decode cX9_image 37 = .ok (.getfield 32, 3) := by decide +kernel
theorem dX9_image_40 : decode cX9_image 40 = .ok (.bipush 9, 2) := by decide +kernel
theorem dX9_image_42 : decode cX9_image 42 = .ok (.aload_n 0, 1) := by decide +kernel
theorem dX9_image_43 : decode cX9_image 43 = .ok (.getfield 172, 3) := by decide +kernel
theorem dX9_image_46 : decode cX9_image 46 = .ok (.imul, 1) := by decide +kernel
theorem dX9_image_47 : decode cX9_image 47 = .ok (.bipush 9, 2) := by decide +kernel
theorem dX9_image_49 : decode cX9_image 49 = .ok (.invokestatic 162, 3) := by decide +kernel
theorem dX9_image_52 : decode cX9_image 52 = .ok (.aload_n 0, 1) := by decide +kernel
theorem dX9_image_53 : decode cX9_image 53 = .ok (.dup, 1) := by decide +kernel
theorem dX9_image_54 : decode cX9_image 54 = .ok (.getfield 172, 3) := by decide +kernel
theorem dX9_image_57 : decode cX9_image 57 = .ok (.iconst 1, 1) := by decide +kernel
theorem dX9_image_58 : decode cX9_image 58 = .ok (.iadd, 1) := by decide +kernel
theorem dX9_image_59 : decode cX9_image 59 = .ok (.putfield 172, 3) := by decide +kernel
theorem dX9_image_62 : decode cX9_image 62 = .ok (.aload_n 0, 1) := by decide +kernel
theorem dX9_image_63 : decode cX9_image 63 = .ok (.getfield 172, 3) := by decide +kernel
theorem dX9_image_66 : decode cX9_image 66 = .ok (.iconst 1, 1) := by decide +kernel
theorem dX9_image_67 : decode cX9_image 67 = .ok (.isub, 1) := by decide +kernel
theorem dX9_image_68 : decode cX9_image 68 = .ok (.ireturn, 1) := by decide +kernel
set_option maxRecDepth 20000 in
theorem ggX9_back_X9_good : GoodIn wsX9_back wsX9_good := goodIn_r _ [9, 10, 11, 22, 23, 24, 25, 26, 27, 28, 29, 30, 31, 32, 33, 34, 35, 36, 37, 38, 39, 40, 41, 42, 43, 44, 45, 46, 47, 48, 49, 50] (by decide +kernel) (by decide +kernel)
set_option maxRecDepth 20000 in
theorem gX9_back_X9_good : GoodIn wsX9_back (wsV RX9 153 RX9 yX9_good wsX9_good) := goodIn_app (goodIn_of _ (by decide +kernel)) ggX9_back_X9_good
set_option maxRecDepth 20000 in
theorem ggX9_back_X9_in : GoodIn wsX9_back wsX9_in := goodIn_r _ [14] (by decide +kernel) (by decide +kernel)
set_option maxRecDepth 20000 in
theorem gX9_back_X9_in : GoodIn wsX9_back (va_wsS RX9 135 yX9_in wsX9_in) := goodIn_app (goodIn_of _ (by decide +kernel)) ggX9_back_X9_in
set_option maxRecDepth 20000 in
theorem ggX9_back_X9_isNot : GoodIn wsX9_back wsX9_isNot := goodIn_r _ [18, 11, 22, 23, 24, 25, 26, 27, 28, 29, 30, 31, 32, 33, 34, 35, 36, 37, 38, 39, 40, 41, 42, 43, 44, 45, 46, 47, 48, 49, 50] (by decide +kernel) (by decide +kernel)
set_option maxRecDepth 20000 in
theorem gX9_back_X9_isNot : GoodIn wsX9_back (wsV RX9 368 RX9 yX9_isNot wsX9_isNot) := goodIn_app (goodIn_of _ (by decide +kernel)) ggX9_back_X9_isNot
set_option maxRecDepth 20000 in
theorem ggX9_back_X9_copy : GoodIn wsX9_back wsX9_copy := goodIn_r _ [21] (by decide +kernel) (by decide +kernel)
set_option maxRecDepth 20000 in
theorem gX9_back_X9_copy : GoodIn wsX9_back (va_wsS RX9 162 yX9_copy wsX9_copy) := goodIn_app (goodIn_of _ (by decide +kernel)) ggX9_back_X9_copy
theorem dX9_back_0 : decode cX9_back 0 = .ok (.aload_n 0, 1) := by decide +kernel
theorem dX9_back_1 : decode cX9_back 1 = .ok (.invokevirtual 153, 3) := by decide +kernel
theorem dX9_back_4 : decode cX9_back 4 = .ok (.iload_n 1, 1) := by decide +kernel
theorem dX9_back_5 : decode cX9_back 5 = .ok (.iconst 0, 1) := by decide +kernel
theorem dX9_back_6 : decode cX9_back 6 = .ok (.aload_n 0, 1) := by decide +kernel
theorem dX9_back_7 : decode cX9_back 7 = .ok (.getfield 172, 3) := by decide +kernel
theorem dX9_back_10 : decode cX9_back 10 = .ok (.iconst 1, 1) := by decide +kernel
theorem dX9_back_11 : decode cX9_back 11 = .ok (.isub, 1) := by decide +kernel
theorem dX9_back_12 : decode cX9_back 12 = .ok (.invokestatic 135, 3) := by decide +kernel
theorem dX9_back_15 : decode cX9_back 15 = .ok (.ifCond .ne 9, 3) := by decide +kernel
theorem dX9_back_18 : decode cX9_back 18 = .ok (.aload_n 0, 1) := by decide +kernel
theorem dX9_back_19 : decode cX9_back 19 = .ok (.iconst 1, 1) := by decide +kernel
theorem dX9_back_20 : decode cX9_back 20 = .ok (.invokevirtual 368, 3) := by decide +kernel
theorem dX9_back_23 : decode cX9_back 23 = .ok (.ireturn, 1) := by decide +kernel
theorem dX9_back_24 : decode cX9_back 24 = .ok (.aload_n 0, 1) := by decide +kernel
theorem dX9_back_25 : decode cX9_back 25 = .ok (.getfield 32, 3) := by decide +kernel
theorem dX9_back_28 : decode cX9_back 28 = .ok (.bipush 9, 2) := by decide +kernel
theorem dX9_back_30 : decode cX9_back 30 = .ok (.iload_n 1, 1) := by decide +kernel
theorem dX9_back_31 : decode cX9_back 31 = .ok (.imul, 1) := by decide +kernel
theorem dX9_back_32 : decode cX9_back 32 = .ok (.aload_n 0, 1) := by decide +kernel
theorem dX9_back_33 : decode cX9_back 33 = .ok (.getfield 26, 3) := by decide +kernel
theorem dX9_back_36 : decode cX9_back 36 = .ok (.iconst 0, 1) := by decide +kernel
theorem dX9_back_37 : decode cX9_back 37 = .ok (.bipush 9, 2) := by decide +kernel
theorem dX9_back_39 : decode cX9_back 39 = .ok (.invokestatic 162, 3) := by decide +kernel
theorem dX9_back_42 : decode cX9_back 42 = .ok (.aload_n 0, 1) := by decide +kernel
theorem dX9_back_43 : decode cX9_back 43 = .ok (.iconst 0, 1) := by decide +kernel
theorem dX9_back_44 : decode cX9_back 44 = .ok (.putfield 169, 3) := by decide +kernel
theorem dX9_back_47 : decode cX9_back 47 = .ok (.iconst 1, 1) := by decide +kernel
theorem dX9_back_48 : decode cX9_back 48 = .ok (.ireturn, 1) := by decide +kernel
set_option maxRecDepth 20000 in
theorem ggX9_led_X9_hasBit : GoodIn wsX9_led wsX9_hasBit := goodIn_r _ [8] (by decide +kernel) (by decide +kernel)
set_option maxRecDepth 20000 in
theorem gX9_led_X9_hasBit : GoodIn wsX9_led (va_wsS RX9 251 yX9_hasBit wsX9_hasBit) := goodIn_app (goodIn_of _ (by decide +kernel)) ggX9_led_X9_hasBit
theorem dX9_led_0 : decode cX9_led 0 = .ok (.iconst 0, 1) := by decide +kernel
theorem dX9_led_1 : decode cX9_led 1 = .ok (.istore_n 2, 1) := by decide +kernel
theorem dX9_led_2 : decode cX9_led 2 = .ok (.iconst 0, 1) := by decide +kernel
theorem dX9_led_3 : decode cX9_led 3 = .ok (.istore_n 3, 1) := by decide +kernel
theorem dX9_led_4 : decode cX9_led 4 = .ok (.aload_n 0, 1) := by decide +kernel
theorem dX9_led_5 : decode cX9_led 5 = .ok (.getfield 166, 3) := by decide +kernel
theorem dX9_led_8 : decode cX9_led 8 = .ok (.ifCond .eq 51, 3) := by decide +kernel
theorem dX9_led_11 : decode cX9_led 11 = .ok (.iload_n 3, 1) := by decide +kernel
theorem dX9_led_12 : decode cX9_led 12 = .ok (.aload_n 0, 1) := by decide +kernel
theorem dX9_led_13 : decode cX9_led 13 = .ok (.getfield 20, 3) := by decide +kernel
theorem dX9_led_16 : decode cX9_led 16 = .ok (.iconst 3, 1) := by decide +kernel
theorem dX9_led_17 : decode cX9_led 17 = .ok (.iaload, 1) := by decide +kernel
theorem dX9_led_18 : decode cX9_led 18 = .ok (.if_icmp .ge 41, 3) := by decide +kernel
theorem dX9_led_21 : decode cX9_led 21 = .ok (.aload_n 0, 1) := by decide +kernel
theorem dX9_led_22 : decode cX9_led 22 = .ok (.getfield 26, 3) := by decide +kernel
theorem dX9_led_25 : decode cX9_led 25 = .ok (.bipush 7, 2) := by decide +kernel
theorem dX9_led_27 : decode cX9_led 27 = .ok (.iaload, 1) := by decide +kernel
theorem dX9_led_28 : decode cX9_led 28 = .ok (.iload_n 3, 1) := by decide +kernel
theorem dX9_led_29 : decode cX9_led 29 = .ok (.invokestatic 251, 3) := by decide +kernel
theorem dX9_led_32 : decode cX9_led 32 = .ok (.ifCond .ne 6, 3) := by decide +kernel
theorem dX9_led_35 : decode cX9_led 35 = .ok (.goto 18, 3) := by decide +kernel
theorem dX9_led_38 : decode cX9_led 38 = .ok (.iload_n 2, 1) := by decide +kernel
theorem dX9_led_39 : decode cX9_led 39 = .ok (.iload_n 1, 1) := by decide +kernel
theorem dX9_led_40 : decode cX9_led 40 = .ok (.if_icmp .ne 10, 3) := by decide +kernel
theorem dX9_led_43 : decode cX9_led 43 = .ok (.aload_n 0, 1) := by decide +kernel
theorem dX9_led_44 : decode cX9_led 44 = .ok (.iconst 0, 1) := by decide +kernel
theorem dX9_led_45 : decode cX9_led 45 = .ok (.putfield 44, 3) := by decide +kernel
theorem dX9_led_48 : decode cX9_led 48 = .ok (.iload_n 3, 1) := by decide +kernel
theorem dX9_led_49 : decode cX9_led 49 = .ok (.ireturn, 1) := by decide +kernel
theorem dX9_led_50 : decode cX9_led 50 = .ok (.iinc 2 1, 3) := by decide +kernel
theorem dX9_led_53 : decode cX9_led 53 = .ok (.iinc 3 1, 3) := by decide +kernel
theorem dX9_led_56 : decode cX9_led 56 = .ok (.goto (-52), 3) := by decide +kernel
theorem dX9_led_59 : decode cX9_led 59 = .ok (.aload_n 0, 1) := by decide +kernel
theorem dX9_led_60 : decode cX9_led 60 = .ok (.iconst 1, 1) := by decide +kernel
theorem dX9_led_61 : decode cX9_led 61 = .ok (.putfield 44, 3) := by decide +kernel
theorem dX9_led_64 : decode cX9_led 64 = .ok (.iconst 0, 1) := by decide +kernel
theorem dX9_led_65 : decode cX9_led 65 = .ok (.ireturn, 1) := by decide +kernel
set_option maxRecDepth 20000 in
theorem ggX9_allPlaces_X9_placesOf : GoodIn wsX9_allPlaces wsX9_placesOf := goodIn_r _ [6, 1, 7, 8, 9, 10, 11, 12, 13, 14, 15, 16, 17, 18, 19, 20, 21, 22, 23, 24, 25, 26, 27, 28, 29, 30, 31, 32, 33, 34, 35] (by decide +kernel) (by decide +kernel)
set_option maxRecDepth 20000 in
theorem gX9_allPlaces_X9_placesOf : GoodIn wsX9_allPlaces (wsV RX9 242 RX9 yX9_placesOf wsX9_placesOf) := goodIn_app (goodIn_of _ (by decide +kernel)) ggX9_allPlaces_X9_placesOf
theorem dX9_allPlaces_0 : decode cX9_allPlaces 0 = .ok (.iconst 0, 1) := by decide +kernel
theorem dX9_allPlaces_1 : decode cX9_allPlaces 1 = .ok (.istore_n 1, 1) := by decide +kernel
theorem dX9_allPlaces_2 : decode cX9_allPlaces 2 = .ok (.iconst 0, 1) := by decide +kernel
theorem dX9_allPlaces_3 : decode cX9_allPlaces 3 = .ok (.istore_n 2, 1) := by decide +kernel
theorem dX9_allPlaces_4 : decode cX9_allPlaces 4 = .ok (.iload_n 2, 1) := by decide +kernel
theorem dX9_allPlaces_5 : decode cX9_allPlaces 5 = .ok (.aload_n 0, 1) := by decide +kernel
theorem dX9_allPlaces_6 : decode cX9_allPlaces 6 = .ok (.getfield 20, 3) := by decide +kernel
theorem dX9_allPlaces_9 : decode cX9_allPlaces 9 = .ok (.iconst 2, 1) := by decide +kernel
theorem dX9_allPlaces_10 : decode cX9_allPlaces 10 = .ok (.iaload, 1) := by decide +kernel
theorem dX9_allPlaces_11 : decode cX9_allPlaces 11 = .ok (.if_icmp .ge 17, 3) := by decide +kernel
theorem dX9_allPlaces_14 : decode cX9_allPlaces 14 = .ok (.iload_n 1, 1) := by decide +kernel
theorem dX9_allPlaces_15 : decode cX9_allPlaces 15 = .ok (.aload_n 0, 1) := by decide +kernel
theorem dX9_allPlaces_16 : decode cX9_allPlaces 16 = .ok (.iload_n 2, 1) := by decide +kernel
theorem dX9_allPlaces_17 : decode cX9_allPlaces 17 = .ok (.invokevirtual 242, 3) := by decide +kernel
theorem dX9_allPlaces_20 : decode cX9_allPlaces 20 = .ok (.iadd, 1) := by decide +kernel
theorem dX9_allPlaces_21 : decode cX9_allPlaces 21 = .ok (.istore_n 1, 1) := by decide +kernel
theorem dX9_allPlaces_22 : decode cX9_allPlaces 22 = .ok (.iinc 2 1, 3) := by decide +kernel
theorem dX9_allPlaces_25 : decode cX9_allPlaces 25 = .ok (.goto (-21), 3) := by decide +kernel
theorem dX9_allPlaces_28 : decode cX9_allPlaces 28 = .ok (.iload_n 1, 1) := by decide +kernel
theorem dX9_allPlaces_29 : decode cX9_allPlaces 29 = .ok (.ireturn, 1) := by decide +kernel
set_option maxRecDepth 20000 in
theorem ggX9_size_X9_in : GoodIn wsX9_size wsX9_in := goodIn_r _ [11] (by decide +kernel) (by decide +kernel)
set_option maxRecDepth 20000 in
theorem gX9_size_X9_in : GoodIn wsX9_size (va_wsS RX9 135 yX9_in wsX9_in) := goodIn_app (goodIn_of _ (by decide +kernel)) ggX9_size_X9_in
set_option maxRecDepth 20000 in
theorem ggX9_size_X9_allPlaces : GoodIn wsX9_size wsX9_allPlaces := goodIn_r _ [15, 4, 16, 17, 18, 10, 19, 20, 21, 22, 23, 24, 25, 26, 27, 28, 29, 30, 31, 32, 33, 34, 35, 36, 37, 38, 39, 40, 41, 42, 43, 44, 45, 46, 47, 48] (by decide +kernel) (by decide +kernel)
set_option maxRecDepth 20000 in
theorem gX9_size_X9_allPlaces : GoodIn wsX9_size (wsV RX9 378 RX9 yX9_allPlaces wsX9_allPlaces) := goodIn_app (goodIn_of _ (by decide +kernel)) ggX9_size_X9_allPlaces
theorem dX9_size_0 : decode cX9_size 0 = .ok (.aload_n 0, 1) := by decide +kernel
theorem dX9_size_1 : decode cX9_size 1 = .ok (.iconst 0, 1) := by decide +kernel
theorem dX9_size_2 : decode cX9_size 2 = .ok (.putfield 44, 3) := by decide +kernel
theorem dX9_size_5 : decode cX9_size 5 = .ok (.iload_n 1, 1) := by decide +kernel
theorem dX9_size_6 : decode cX9_size 6 = .ok (.bipush 12, 2) := by decide +kernel
theorem dX9_size_8 : decode cX9_size 8 = .ok (.if_icmp .ne 8, 3) := by decide +kernel
theorem dX9_size_11 : decode cX9_size 11 = .ok (.aload_n 0, 1) := by decide +kernel
theorem dX9_size_12 : decode cX9_size 12 = .ok (.getfield 50, 3) := by decide +kernel
theorem dX9_size_15 : decode cX9_size 15 = .ok (.ireturn, 1) := by decide +kernel
theorem dX9_size_16 : decode cX9_size 16 = .ok (.aload_n 0, 1) := by decide +kernel
theorem dX9_size_17 : decode cX9_size 17 = .ok (.getfield 166, 3) := by decide +kernel
theorem dX9_size_20 : decode cX9_size 20 = .ok (.ifCond .ne 19, 3) := by decide +kernel
theorem dX9_size_23 : decode cX9_size 23 = .ok (.iload_n 1, 1) := by decide +kernel
theorem dX9_size_24 : decode cX9_size 24 = .ok (.iconst 0, 1) := by decide +kernel
theorem dX9_size_25 : decode cX9_size 25 = .ok (.bipush 11, 2) := by decide +kernel
theorem dX9_size_27 : decode cX9_size 27 = .ok (.invokestatic 135, 3) := by decide +kernel
theorem dX9_size_30 : decode cX9_size 30 = .ok (.ifCond .eq 7, 3) := by decide +kernel
theorem dX9_size_33 : decode cX9_size 33 = .ok (.iconst 0, 1) := by decide +kernel
theorem dX9_size_34 : decode cX9_size 34 = .ok (.goto 4, 3) := by decide +kernel
theorem dX9_size_37 : decode cX9_size 37 = .ok (.iconst (-1), 1) := by decide +kernel
theorem dX9_size_38 : decode cX9_size 38 = .ok (.ireturn, 1) := by decide +kernel
theorem dX9_size_39 : decode cX9_size 39 = .ok (.iload_n 1, 1) := by decide +kernel
theorem dX9_size_40 : decode cX9_size 40 = .ok (.tableswitch 145 0 11 #[64, 71, 78, 85, 90, 97, 104, 111, 119, 127, 135, 140], 64) := by decide +kernel
theorem dX9_size_104 : decode cX9_size 104 = .ok (.aload_n 0, 1) := by decide +kernel
theorem dX9_size_105 : decode cX9_size 105 = .ok (.getfield 20, 3) := by decide +kernel
theorem dX9_size_108 : decode cX9_size 108 = .ok (.iconst 0, 1) := by decide +kernel
theorem dX9_size_109 : decode cX9_size 109 = .ok (.iaload, 1) := by decide +kernel
theorem dX9_size_110 : decode cX9_size 110 = .ok (.ireturn, 1) := by decide +kernel
theorem dX9_size_111 : decode cX9_size 111 = .ok (.aload_n 0, 1) := by decide +kernel
theorem dX9_size_112 : decode cX9_size 112 = .ok (.getfield 20, 3) := by decide +kernel
theorem dX9_size_115 : decode cX9_size 115 = .ok (.iconst 1, 1) := by decide +kernel
theorem dX9_size_116 : decode cX9_size 116 = .ok (.iaload, 1) := by decide +kernel
theorem dX9_size_117 : decode cX9_size 117 = .ok (.ireturn, 1) := by decide +kernel
theorem dX9_size_118 : decode cX9_size 118 = .ok (.aload_n 0, 1) := by decide +kernel
theorem dX9_size_119 : decode cX9_size 119 = .ok (.getfield 20, 3) := by decide +kernel
theorem dX9_size_122 : decode cX9_size 122 = .ok (.iconst 2, 1) := by decide +kernel
theorem dX9_size_123 : decode cX9_size 123 = .ok (.iaload, 1) := by decide +kernel
theorem dX9_size_124 : decode cX9_size 124 = .ok (.ireturn, 1) := by decide +kernel
theorem dX9_size_125 : decode cX9_size 125 = .ok (.aload_n 0, 1) := by decide +kernel
theorem dX9_size_126 : decode cX9_size 126 = .ok (.invokevirtual 378, 3) := by decide +kernel
theorem dX9_size_129 : decode cX9_size 129 = .ok (.ireturn, 1) := by decide +kernel
theorem dX9_size_130 : decode cX9_size 130 = .ok (.aload_n 0, 1) := by decide +kernel
theorem dX9_size_131 : decode cX9_size 131 = .ok (.getfield 20, 3) := by decide +kernel
theorem dX9_size_134 : decode cX9_size 134 = .ok (.iconst 3, 1) := by decide +kernel
theorem dX9_size_135 : decode cX9_size 135 = .ok (.iaload, 1) := by decide +kernel
theorem dX9_size_136 : decode cX9_size 136 = .ok (.ireturn, 1) := by decide +kernel
theorem dX9_size_137 : decode cX9_size 137 = .ok (.aload_n 0, 1) := by decide +kernel
theorem dX9_size_138 : decode cX9_size 138 = .ok (.getfield 20, 3) := by decide +kernel
theorem dX9_size_141 : decode cX9_size 141 = .ok (.iconst 4, 1) := by decide +kernel
theorem dX9_size_142 : decode cX9_size 142 = .ok (.iaload, 1) := by decide +kernel
theorem dX9_size_143 : decode cX9_size 143 = .ok (.ireturn, 1) := by decide +kernel
theorem dX9_size_144 : decode cX9_size 144 = .ok (.aload_n 0, 1) := by decide +kernel
theorem dX9_size_145 : decode cX9_size 145 = .ok (.getfield 20, 3) := by decide +kernel
theorem dX9_size_148 : decode cX9_size 148 = .ok (.iconst 5, 1) := by decide +kernel
theorem dX9_size_149 : decode cX9_size 149 = .ok (.iaload, 1) := by decide +kernel
theorem dX9_size_150 : decode cX9_size 150 = .ok (.ireturn, 1) := by decide +kernel
theorem dX9_size_151 : decode cX9_size 151 = .ok (.aload_n 0, 1) := by decide +kernel
theorem dX9_size_152 : decode cX9_size 152 = .ok (.getfield 20, 3) := by decide +kernel
theorem dX9_size_155 : decode cX9_size 155 = .ok (.bipush 6, 2) := by decide +kernel
theorem dX9_size_157 : decode cX9_size 157 = .ok (.iaload, 1) := by decide +kernel
theorem dX9_size_158 : decode cX9_size 158 = .ok (.ireturn, 1) := by decide +kernel
theorem dX9_size_159 : decode cX9_size 159 = .ok (.aload_n 0, 1) := by decide +kernel
theorem dX9_size_160 : decode cX9_size 160 = .ok (.getfield 20, 3) := by decide +kernel
theorem dX9_size_163 : decode cX9_size 163 = .ok (.bipush 7, 2) := by decide +kernel
theorem dX9_size_165 : decode cX9_size 165 = .ok (.iaload, 1) := by decide +kernel
theorem dX9_size_166 : decode cX9_size 166 = .ok (.ireturn, 1) := by decide +kernel
theorem dX9_size_167 : decode cX9_size 167 = .ok (.aload_n 0, 1) := by decide +kernel
theorem dX9_size_168 : decode cX9_size 168 = .ok (.getfield 26, 3) := by decide +kernel
theorem dX9_size_171 : decode cX9_size 171 = .ok (.bipush 8, 2) := by decide +kernel
theorem dX9_size_173 : decode cX9_size 173 = .ok (.iaload, 1) := by decide +kernel
theorem dX9_size_174 : decode cX9_size 174 = .ok (.ireturn, 1) := by decide +kernel
theorem dX9_size_175 : decode cX9_size 175 = .ok (.aload_n 0, 1) := by decide +kernel
theorem dX9_size_176 : decode cX9_size 176 = .ok (.getfield 169, 3) := by decide +kernel
theorem dX9_size_179 : decode cX9_size 179 = .ok (.ireturn, 1) := by decide +kernel
theorem dX9_size_180 : decode cX9_size 180 = .ok (.aload_n 0, 1) := by decide +kernel
theorem dX9_size_181 : decode cX9_size 181 = .ok (.getfield 172, 3) := by decide +kernel
theorem dX9_size_184 : decode cX9_size 184 = .ok (.ireturn, 1) := by decide +kernel
theorem dX9_size_185 : decode cX9_size 185 = .ok (.iconst (-1), 1) := by decide +kernel
theorem dX9_size_186 : decode cX9_size 186 = .ok (.ireturn, 1) := by decide +kernel
theorem dX9_trouble_0 : decode cX9_trouble 0 = .ok (.aload_n 0, 1) := by decide +kernel
theorem dX9_trouble_1 : decode cX9_trouble 1 = .ok (.iconst 0, 1) := by decide +kernel
theorem dX9_trouble_2 : decode cX9_trouble 2 = .ok (.putfield 44, 3) := by decide +kernel
theorem dX9_trouble_5 : decode cX9_trouble 5 = .ok (.aload_n 0, 1) := by decide +kernel
theorem dX9_trouble_6 : decode cX9_trouble 6 = .ok (.getfield 47, 3) := by decide +kernel
theorem dX9_trouble_9 : decode cX9_trouble 9 = .ok (.ireturn, 1) := by decide +kernel
theorem dJ6_bitCount_0f7a4_0 : decode cJ6_bitCount_0f7a4 0 = .ok (.iload_n 0, 1) := by decide +kernel
theorem dJ6_bitCount_0f7a4_1 : decode cJ6_bitCount_0f7a4 1 = .ok (.iload_n 0, 1) := by decide +kernel
theorem dJ6_bitCount_0f7a4_2 : decode cJ6_bitCount_0f7a4 2 = .ok (.iconst 1, 1) := by decide +kernel
theorem dJ6_bitCount_0f7a4_3 : decode cJ6_bitCount_0f7a4 3 = .ok (.iushr, 1) := by decide +kernel
theorem dJ6_bitCount_0f7a4_4 : decode cJ6_bitCount_0f7a4 4 = .ok (.ldc_w 265, 3) := by decide +kernel
theorem dJ6_bitCount_0f7a4_7 : decode cJ6_bitCount_0f7a4 7 = .ok (.iand, 1) := by decide +kernel
theorem dJ6_bitCount_0f7a4_8 : decode cJ6_bitCount_0f7a4 8 = .ok (.isub, 1) := by decide +kernel
theorem dJ6_bitCount_0f7a4_9 : decode cJ6_bitCount_0f7a4 9 = .ok (.istore_n 0, 1) := by decide +kernel
theorem dJ6_bitCount_0f7a4_10 : decode cJ6_bitCount_0f7a4 10 = .ok (.iload_n 0, 1) := by decide +kernel
theorem dJ6_bitCount_0f7a4_11 : decode cJ6_bitCount_0f7a4 11 = .ok (.ldc_w 266, 3) := by decide +kernel
theorem dJ6_bitCount_0f7a4_14 : decode cJ6_bitCount_0f7a4 14 = .ok (.iand, 1) := by decide +kernel
theorem dJ6_bitCount_0f7a4_15 : decode cJ6_bitCount_0f7a4 15 = .ok (.iload_n 0, 1) := by decide +kernel
theorem dJ6_bitCount_0f7a4_16 : decode cJ6_bitCount_0f7a4 16 = .ok (.iconst 2, 1) := by decide +kernel
theorem dJ6_bitCount_0f7a4_17 : decode cJ6_bitCount_0f7a4 17 = .ok (.iushr, 1) := by decide +kernel
theorem dJ6_bitCount_0f7a4_18 : decode cJ6_bitCount_0f7a4 18 = .ok (.ldc_w 266, 3) := by decide +kernel
theorem dJ6_bitCount_0f7a4_21 : decode cJ6_bitCount_0f7a4 21 = .ok (.iand, 1) := by decide +kernel
theorem dJ6_bitCount_0f7a4_22 : decode cJ6_bitCount_0f7a4 22 = .ok (.iadd, 1) := by decide +kernel
theorem dJ6_bitCount_0f7a4_23 : decode cJ6_bitCount_0f7a4 23 = .ok (.istore_n 0, 1) := by decide +kernel
theorem dJ6_bitCount_0f7a4_24 : decode cJ6_bitCount_0f7a4 24 = .ok (.iload_n 0, 1) := by decide +kernel
theorem dJ6_bitCount_0f7a4_25 : decode cJ6_bitCount_0f7a4 25 = .ok (.iload_n 0, 1) := by decide +kernel
theorem dJ6_bitCount_0f7a4_26 : decode cJ6_bitCount_0f7a4 26 = .ok (.iconst 4, 1) := by decide +kernel
theorem dJ6_bitCount_0f7a4_27 : decode cJ6_bitCount_0f7a4 27 = .ok (.iushr, 1) := by decide +kernel
theorem dJ6_bitCount_0f7a4_28 : decode cJ6_bitCount_0f7a4 28 = .ok (.iadd, 1) := by decide +kernel
theorem dJ6_bitCount_0f7a4_29 : decode cJ6_bitCount_0f7a4 29 = .ok (.ldc_w 267, 3) := by decide +kernel
theorem dJ6_bitCount_0f7a4_32 : decode cJ6_bitCount_0f7a4 32 = .ok (.iand, 1) := by decide +kernel
theorem dJ6_bitCount_0f7a4_33 : decode cJ6_bitCount_0f7a4 33 = .ok (.istore_n 0, 1) := by decide +kernel
theorem dJ6_bitCount_0f7a4_34 : decode cJ6_bitCount_0f7a4 34 = .ok (.iload_n 0, 1) := by decide +kernel
theorem dJ6_bitCount_0f7a4_35 : decode cJ6_bitCount_0f7a4 35 = .ok (.iload_n 0, 1) := by decide +kernel
theorem dJ6_bitCount_0f7a4_36 : decode cJ6_bitCount_0f7a4 36 = .ok (.bipush 8, 2) := by decide +kernel
theorem dJ6_bitCount_0f7a4_38 : decode cJ6_bitCount_0f7a4 38 = .ok (.iushr, 1) := by decide +kernel
theorem dJ6_bitCount_0f7a4_39 : decode cJ6_bitCount_0f7a4 39 = .ok (.iadd, 1) := by decide +kernel
theorem dJ6_bitCount_0f7a4_40 : decode cJ6_bitCount_0f7a4 40 = .ok (.istore_n 0, 1) := by decide +kernel
theorem dJ6_bitCount_0f7a4_41 : decode cJ6_bitCount_0f7a4 41 = .ok (.iload_n 0, 1) := by decide +kernel
theorem dJ6_bitCount_0f7a4_42 : decode cJ6_bitCount_0f7a4 42 = .ok (.iload_n 0, 1) := by decide +kernel
theorem dJ6_bitCount_0f7a4_43 : decode cJ6_bitCount_0f7a4 43 = .ok (.bipush 16, 2) := by decide +kernel
theorem dJ6_bitCount_0f7a4_45 : decode cJ6_bitCount_0f7a4 45 = .ok (.iushr, 1) := by decide +kernel
theorem dJ6_bitCount_0f7a4_46 : decode cJ6_bitCount_0f7a4 46 = .ok (.iadd, 1) := by decide +kernel
theorem dJ6_bitCount_0f7a4_47 : decode cJ6_bitCount_0f7a4 47 = .ok (.istore_n 0, 1) := by decide +kernel
theorem dJ6_bitCount_0f7a4_48 : decode cJ6_bitCount_0f7a4 48 = .ok (.iload_n 0, 1) := by decide +kernel
theorem dJ6_bitCount_0f7a4_49 : decode cJ6_bitCount_0f7a4 49 = .ok (.bipush 63, 2) := by decide +kernel
theorem dJ6_bitCount_0f7a4_51 : decode cJ6_bitCount_0f7a4 51 = .ok (.iand, 1) := by decide +kernel
theorem dJ6_bitCount_0f7a4_52 : decode cJ6_bitCount_0f7a4 52 = .ok (.ireturn, 1) := by decide +kernel
theorem dJ9_max_7cf53_0 : decode cJ9_max_7cf53 0 = .ok (.iload_n 0, 1) := by decide +kernel
theorem dJ9_max_7cf53_1 : decode cJ9_max_7cf53 1 = .ok (.iload_n 1, 1) := by decide +kernel
theorem dJ9_max_7cf53_2 : decode cJ9_max_7cf53 2 = .ok (.if_icmp .lt 7, 3) := by decide +kernel
theorem dJ9_max_7cf53_5 : decode cJ9_max_7cf53 5 = .ok (.iload_n 0, 1) := by decide +kernel
theorem dJ9_max_7cf53_6 : decode cJ9_max_7cf53 6 = .ok (.goto 4, 3) := by decide +kernel
theorem dJ9_max_7cf53_9 : decode cJ9_max_7cf53 9 = .ok (.iload_n 1, 1) := by decide +kernel
theorem dJ9_max_7cf53_10 : decode cJ9_max_7cf53 10 = .ok (.ireturn, 1) := by decide +kernel
theorem dJ9_min_7cf53_0 : decode cJ9_min_7cf53 0 = .ok (.iload_n 0, 1) := by decide +kernel
theorem dJ9_min_7cf53_1 : decode cJ9_min_7cf53 1 = .ok (.iload_n 1, 1) := by decide +kernel
theorem dJ9_min_7cf53_2 : decode cJ9_min_7cf53 2 = .ok (.if_icmp .gt 7, 3) := by decide +kernel
theorem dJ9_min_7cf53_5 : decode cJ9_min_7cf53 5 = .ok (.iload_n 0, 1) := by decide +kernel
theorem dJ9_min_7cf53_6 : decode cJ9_min_7cf53 6 = .ok (.goto 4, 3) := by decide +kernel
theorem dJ9_min_7cf53_9 : decode cJ9_min_7cf53 9 = .ok (.iload_n 1, 1) := by decide +kernel
theorem dJ9_min_7cf53_10 : decode cJ9_min_7cf53 10 = .ok (.ireturn, 1) := by decide +kernel
set_option maxRecDepth 20000 in
theorem ggJ0_length_8abf5_J0_coder_7d493 : GoodIn wsJ0_length_8abf5 wsJ0_coder_7d493 := goodIn_r _ [6, 7, 8] (by decide +kernel) (by decide +kernel)
set_option maxRecDepth 20000 in
theorem gJ0_length_8abf5_J0_coder_7d493 : GoodIn wsJ0_length_8abf5 (wsV RJ0 335 RJ0 yJ0_coder_7d493 wsJ0_coder_7d493) := goodIn_app (goodIn_of _ (by decide +kernel)) ggJ0_length_8abf5_J0_coder_7d493
theorem dJ0_length_8abf5_0 : decode cJ0_length_8abf5 0 = .ok (.aload_n 0, 1) := by decide +kernel
theorem dJ0_length_8abf5_1 : decode cJ0_length_8abf5 1 = .ok (.getfield 9, 3) := by decide +kernel
theorem dJ0_length_8abf5_4 : decode cJ0_length_8abf5 4 = .ok (.arraylength, 1) := by decide +kernel
theorem dJ0_length_8abf5_5 : decode cJ0_length_8abf5 5 = .ok (.aload_n 0, 1) := by decide +kernel
theorem dJ0_length_8abf5_6 : decode cJ0_length_8abf5 6 = .ok (.invokevirtual 335, 3) := by decide +kernel
theorem dJ0_length_8abf5_9 : decode cJ0_length_8abf5 9 = .ok (.ishr, 1) := by decide +kernel
theorem dJ0_length_8abf5_10 : decode cJ0_length_8abf5 10 = .ok (.ireturn, 1) := by decide +kernel
set_option maxRecDepth 20000 in
theorem ggJ0_charAt_5068e_J0_isLatin1_aae02 : GoodIn wsJ0_charAt_5068e wsJ0_isLatin1_aae02 := goodIn_r _ [6, 7, 8] (by decide +kernel) (by decide +kernel)
set_option maxRecDepth 20000 in
theorem gJ0_charAt_5068e_J0_isLatin1_aae02 : GoodIn wsJ0_charAt_5068e (wsV RJ0 492 RJ0 yJ0_isLatin1_aae02 wsJ0_isLatin1_aae02) := goodIn_app (goodIn_of _ (by decide +kernel)) ggJ0_charAt_5068e_J0_isLatin1_aae02
set_option maxRecDepth 20000 in
theorem ggJ0_charAt_5068e_J1_charAt_3b067 : GoodIn wsJ0_charAt_5068e wsJ1_charAt_3b067 := goodIn_r _ [12, 13, 14, 5, 15, 16, 17, 18, 19, 20] (by decide +kernel) (by decide +kernel)
set_option maxRecDepth 20000 in
theorem gJ0_charAt_5068e_J1_charAt_3b067 : GoodIn wsJ0_charAt_5068e (va_wsS RJ0 495 yJ1_charAt_3b067 wsJ1_charAt_3b067) := goodIn_app (goodIn_of _ (by decide +kernel)) ggJ0_charAt_5068e_J1_charAt_3b067
set_option maxRecDepth 20000 in
theorem ggJ0_charAt_5068e_J2_charAt_3b067 : GoodIn wsJ0_charAt_5068e wsJ2_charAt_3b067 := goodIn_r _ [24, 25, 26, 23, 27, 28, 29, 30, 31, 14, 5, 15, 16, 17, 18, 19, 20, 32, 33, 34, 35, 36, 37] (by decide +kernel) (by decide +kernel)
set_option maxRecDepth 20000 in
theorem gJ0_charAt_5068e_J2_charAt_3b067 : GoodIn wsJ0_charAt_5068e (va_wsS RJ0 498 yJ2_charAt_3b067 wsJ2_charAt_3b067) := goodIn_app (goodIn_of _ (by decide +kernel)) ggJ0_charAt_5068e_J2_charAt_3b067
theorem dJ0_charAt_5068e_0 : decode cJ0_charAt_5068e 0 = .ok (.aload_n 0, 1) := by decide +kernel
theorem dJ0_charAt_5068e_1 : decode cJ0_charAt_5068e 1 = .ok (.invokevirtual 492, 3) := by decide +kernel
theorem dJ0_charAt_5068e_4 : decode cJ0_charAt_5068e 4 = .ok (.ifCond .eq 12, 3) := by decide +kernel
theorem dJ0_charAt_5068e_7 : decode cJ0_charAt_5068e 7 = .ok (.aload_n 0, 1) := by decide +kernel
theorem dJ0_charAt_5068e_8 : decode cJ0_charAt_5068e 8 = .ok (.getfield 9, 3) := by decide +kernel
theorem dJ0_charAt_5068e_11 : decode cJ0_charAt_5068e 11 = .ok (.iload_n 1, 1) := by decide +kernel
theorem dJ0_charAt_5068e_12 : decode cJ0_charAt_5068e 12 = .ok (.invokestatic 495, 3) := by decide +kernel
theorem dJ0_charAt_5068e_15 : decode cJ0_charAt_5068e 15 = .ok (.ireturn, 1) := by decide +kernel
theorem dJ0_charAt_5068e_16 : decode cJ0_charAt_5068e 16 = .ok (.aload_n 0, 1) := by decide +kernel
theorem dJ0_charAt_5068e_17 : decode cJ0_charAt_5068e 17 = .ok (.getfield 9, 3) := by decide +kernel
theorem dJ0_charAt_5068e_20 : decode cJ0_charAt_5068e 20 = .ok (.iload_n 1, 1) := by decide +kernel
theorem dJ0_charAt_5068e_21 : decode cJ0_charAt_5068e 21 = .ok (.invokestatic 498, 3) := by decide +kernel
theorem dJ0_charAt_5068e_24 : decode cJ0_charAt_5068e 24 = .ok (.ireturn, 1) := by decide +kernel
theorem dJ0_coder_7d493_0 : decode cJ0_coder_7d493 0 = .ok (.getstatic 38, 3) := by decide +kernel
theorem dJ0_coder_7d493_3 : decode cJ0_coder_7d493 3 = .ok (.ifCond .eq 10, 3) := by decide +kernel
theorem dJ0_coder_7d493_6 : decode cJ0_coder_7d493 6 = .ok (.aload_n 0, 1) := by decide +kernel
theorem dJ0_coder_7d493_7 : decode cJ0_coder_7d493 7 = .ok (.getfield 15, 3) := by decide +kernel
theorem dJ0_coder_7d493_10 : decode cJ0_coder_7d493 10 = .ok (.goto 4, 3) := by decide +kernel
theorem dJ0_coder_7d493_13 : decode cJ0_coder_7d493 13 = .ok (.iconst 1, 1) := by decide +kernel
theorem dJ0_coder_7d493_14 : decode cJ0_coder_7d493 14 = .ok (.ireturn, 1) := by decide +kernel
theorem dJ0_isLatin1_aae02_0 : decode cJ0_isLatin1_aae02 0 = .ok (.getstatic 38, 3) := by decide +kernel
theorem dJ0_isLatin1_aae02_3 : decode cJ0_isLatin1_aae02 3 = .ok (.ifCond .eq 14, 3) := by decide +kernel
theorem dJ0_isLatin1_aae02_6 : decode cJ0_isLatin1_aae02 6 = .ok (.aload_n 0, 1) := by decide +kernel
theorem dJ0_isLatin1_aae02_7 : decode cJ0_isLatin1_aae02 7 = .ok (.getfield 15, 3) := by decide +kernel
theorem dJ0_isLatin1_aae02_10 : decode cJ0_isLatin1_aae02 10 = .ok (.ifCond .ne 7, 3) := by decide +kernel
theorem dJ0_isLatin1_aae02_13 : decode cJ0_isLatin1_aae02 13 = .ok (.iconst 1, 1) := by decide +kernel
theorem dJ0_isLatin1_aae02_14 : decode cJ0_isLatin1_aae02 14 = .ok (.goto 4, 3) := by decide +kernel
theorem dJ0_isLatin1_aae02_17 : decode cJ0_isLatin1_aae02 17 = .ok (.iconst 0, 1) := by decide +kernel
theorem dJ0_isLatin1_aae02_18 : decode cJ0_isLatin1_aae02 18 = .ok (.ireturn, 1) := by decide +kernel
set_option maxRecDepth 20000 in
theorem ggJ0_checkIndex_df160_J3_checkIndex_8e157 : GoodIn wsJ0_checkIndex_df160 wsJ3_checkIndex_8e157 := goodIn_r _ [5] (by decide +kernel) (by decide +kernel)
set_option maxRecDepth 20000 in
theorem gJ0_checkIndex_df160_J3_checkIndex_8e157 : GoodIn wsJ0_checkIndex_df160 (va_wsS RJ0 1059 yJ3_checkIndex_8e157 wsJ3_checkIndex_8e157) := goodIn_app (goodIn_of _ (by decide +kernel)) ggJ0_checkIndex_df160_J3_checkIndex_8e157
theorem dJ0_checkIndex_df160_0 : decode cJ0_checkIndex_df160 0 = .ok (.iload_n 0, 1) := by decide +kernel
theorem dJ0_checkIndex_df160_1 : decode cJ0_checkIndex_df160 1 = .ok (.iload_n 1, 1) := by decide +kernel
theorem dJ0_checkIndex_df160_2 : decode cJ0_checkIndex_df160 2 = .ok (.getstatic 1053, 3) := by decide +kernel
theorem dJ0_checkIndex_df160_5 : decode cJ0_checkIndex_df160 5 = .ok (.invokestatic 1059, 3) := by decide +kernel
theorem dJ0_checkIndex_df160_8 : decode cJ0_checkIndex_df160 8 = .ok (.pop, 1) := by decide +kernel
theorem dJ0_checkIndex_df160_9 : decode cJ0_checkIndex_df160 9 = .ok (.return_, 1) := by decide +kernel
set_option maxRecDepth 20000 in
theorem ggJ1_charAt_3b067_J0_checkIndex_df160 : GoodIn wsJ1_charAt_3b067 wsJ0_checkIndex_df160 := goodIn_r _ [4, 5, 6, 7, 8, 9] (by decide +kernel) (by decide +kernel)
set_option maxRecDepth 20000 in
theorem gJ1_charAt_3b067_J0_checkIndex_df160 : GoodIn wsJ1_charAt_3b067 (va_wsS RJ1 9 yJ0_checkIndex_df160 wsJ0_checkIndex_df160) := goodIn_app (goodIn_of _ (by decide +kernel)) ggJ1_charAt_3b067_J0_checkIndex_df160
theorem dJ1_charAt_3b067_0 : decode cJ1_charAt_3b067 0 = .ok (.iload_n 1, 1) := by decide +kernel
theorem dJ1_charAt_3b067_1 : decode cJ1_charAt_3b067 1 = .ok (.aload_n 0, 1) := by decide +kernel
theorem dJ1_charAt_3b067_2 : decode cJ1_charAt_3b067 2 = .ok (.arraylength, 1) := by decide +kernel
theorem dJ1_charAt_3b067_3 : decode cJ1_charAt_3b067 3 = .ok (.invokestatic 9, 3) := by decide +kernel
theorem dJ1_charAt_3b067_6 : decode cJ1_charAt_3b067 6 = .ok (.aload_n 0, 1) := by decide +kernel
theorem dJ1_charAt_3b067_7 : decode cJ1_charAt_3b067 7 = .ok (.iload_n 1, 1) := by decide +kernel
theorem dJ1_charAt_3b067_8 : decode cJ1_charAt_3b067 8 = .ok (.baload, 1) := by decide +kernel
theorem dJ1_charAt_3b067_9 : decode cJ1_charAt_3b067 9 = .ok (.sipush 255, 3) := by decide +kernel
theorem dJ1_charAt_3b067_12 : decode cJ1_charAt_3b067 12 = .ok (.iand, 1) := by decide +kernel
theorem dJ1_charAt_3b067_13 : decode cJ1_charAt_3b067 13 = .ok (.i2c, 1) := by decide +kernel
theorem dJ1_charAt_3b067_14 : decode cJ1_charAt_3b067 14 = .ok (.ireturn, 1) := by decide +kernel
set_option maxRecDepth 20000 in
theorem ggJ2_getChar_3b067_J2_length_9d52b : GoodIn wsJ2_getChar_3b067 wsJ2_length_9d52b := goodIn_r _ [7] (by decide +kernel) (by decide +kernel)
set_option maxRecDepth 20000 in
theorem gJ2_getChar_3b067_J2_length_9d52b : GoodIn wsJ2_getChar_3b067 (va_wsS RJ2 48 yJ2_length_9d52b wsJ2_length_9d52b) := goodIn_app (goodIn_of _ (by decide +kernel)) ggJ2_getChar_3b067_J2_length_9d52b
theorem dJ2_getChar_3b067_0 : decode cJ2_getChar_3b067 0 = .ok (.getstatic 44, 3) := by decide +kernel
theorem dJ2_getChar_3b067_3 : decode cJ2_getChar_3b067 3 = .ok (.ifCond .ne 25, 3) := by decide +kernel
theorem dJ2_getChar_3b067_6 : decode cJ2_getChar_3b067 6 = .ok (.iload_n 1, 1) := by decide +kernel
theorem dJ2_getChar_3b067_7 : decode cJ2_getChar_3b067 7 = .ok (.ifCond .lt 11, 3) := by decide +kernel
theorem dJ2_getChar_3b067_10 : decode cJ2_getChar_3b067 10 = .ok (.iload_n 1, 1) := by decide +kernel
theorem dJ2_getChar_3b067_11 : decode cJ2_getChar_3b067 11 = .ok (.aload_n 0, 1) := by decide +kernel
theorem dJ2_getChar_3b067_12 : decode cJ2_getChar_3b067 12 = .ok (.invokestatic 48, 3) := by decide +kernel
theorem dJ2_getChar_3b067_15 : decode cJ2_getChar_3b067 15 = .ok (.if_icmp .lt 13, 3) := by decide +kernel
theorem dJ2_getChar_3b067_18 : decode cJ2_getChar_3b067 18 = .ok (.new 52, 3) := by decide +kernel
theorem dJ2_getChar_3b067_21 : decode cJ2_getChar_3b067 21 = .ok (.dup, 1) := by decide +kernel
theorem dJ2_getChar_3b067_22 : decode cJ2_getChar_3b067 22 = .ok (.ldc 54, 2) := by decide +kernel
theorem dJ2_getChar_3b067_24 : decode cJ2_getChar_3b067 24 = .ok (.invokespecial 56, 3) := by decide +kernel
theorem dJ2_getChar_3b067_27 : decode cJ2_getChar_3b067 27 = .ok (.athrow, 1) := by decide +kernel
theorem dJ2_getChar_3b067_28 : decode cJ2_getChar_3b067 28 = .ok (.iload_n 1, 1) := by decide +kernel
theorem dJ2_getChar_3b067_29 : decode cJ2_getChar_3b067 29 = .ok (.iconst 1, 1) := by decide +kernel
theorem dJ2_getChar_3b067_30 : decode cJ2_getChar_3b067 30 = .ok (.ishl, 1) := by decide +kernel
theorem dJ2_getChar_3b067_31 : decode cJ2_getChar_3b067 31 = .ok (.istore_n 1, 1) := by decide +kernel
theorem dJ2_getChar_3b067_32 : decode cJ2_getChar_3b067 32 = .ok (.aload_n 0, 1) := by decide +kernel
theorem dJ2_getChar_3b067_33 : decode cJ2_getChar_3b067 33 = .ok (.iload_n 1, 1) := by decide +kernel
theorem dJ2_getChar_3b067_34 : decode cJ2_getChar_3b067 34 = .ok (.iinc 1 1, 3) := by decide +kernel
theorem dJ2_getChar_3b067_37 : decode cJ2_getChar_3b067 37 = .ok (.baload, 1) := by decide +kernel
theorem dJ2_getChar_3b067_38 : decode cJ2_getChar_3b067 38 = .ok (.sipush 255, 3) := by decide +kernel
theorem dJ2_getChar_3b067_41 : decode cJ2_getChar_3b067 41 = .ok (.iand, 1) := by decide +kernel
theorem dJ2_getChar_3b067_42 : decode cJ2_getChar_3b067 42 = .ok (.getstatic 59, 3) := by decide +kernel
theorem dJ2_getChar_3b067_45 : decode cJ2_getChar_3b067 45 = .ok (.ishl, 1) := by decide +kernel
theorem dJ2_getChar_3b067_46 : decode cJ2_getChar_3b067 46 = .ok (.aload_n 0, 1) := by decide +kernel
theorem dJ2_getChar_3b067_47 : decode cJ2_getChar_3b067 47 = .ok (.iload_n 1, 1) := by decide +kernel
theorem dJ2_getChar_3b067_48 : decode cJ2_getChar_3b067 48 = .ok (.baload, 1) := by decide +kernel
theorem dJ2_getChar_3b067_49 : decode cJ2_getChar_3b067 49 = .ok (.sipush 255, 3) := by decide +kernel
theorem dJ2_getChar_3b067_52 : decode cJ2_getChar_3b067 52 = .ok (.iand, 1) := by decide +kernel
theorem dJ2_getChar_3b067_53 : decode cJ2_getChar_3b067 53 = .ok (.getstatic 63, 3) := by decide +kernel
theorem dJ2_getChar_3b067_56 : decode cJ2_getChar_3b067 56 = .ok (.ishl, 1) := by decide +kernel
theorem dJ2_getChar_3b067_57 : decode cJ2_getChar_3b067 57 = .ok (.ior, 1) := by decide +kernel
theorem dJ2_getChar_3b067_58 : decode cJ2_getChar_3b067 58 = .ok (.i2c, 1) := by decide +kernel
theorem dJ2_getChar_3b067_59 : decode cJ2_getChar_3b067 59 = .ok (.ireturn, 1) := by decide +kernel
theorem dJ2_length_9d52b_0 : decode cJ2_length_9d52b 0 = .ok (.aload_n 0, 1) := by decide +kernel
theorem dJ2_length_9d52b_1 : decode cJ2_length_9d52b 1 = .ok (.arraylength, 1) := by decide +kernel
theorem dJ2_length_9d52b_2 : decode cJ2_length_9d52b 2 = .ok (.iconst 1, 1) := by decide +kernel
theorem dJ2_length_9d52b_3 : decode cJ2_length_9d52b 3 = .ok (.ishr, 1) := by decide +kernel
theorem dJ2_length_9d52b_4 : decode cJ2_length_9d52b 4 = .ok (.ireturn, 1) := by decide +kernel
set_option maxRecDepth 20000 in
theorem ggJ2_charAt_3b067_J2_checkIndex_2214a : GoodIn wsJ2_charAt_3b067 wsJ2_checkIndex_2214a := goodIn_r _ [4, 5, 6, 3, 7, 8, 9, 10, 11, 12, 13, 14, 15, 16] (by decide +kernel) (by decide +kernel)
set_option maxRecDepth 20000 in
theorem gJ2_charAt_3b067_J2_checkIndex_2214a : GoodIn wsJ2_charAt_3b067 (va_wsS RJ2 67 yJ2_checkIndex_2214a wsJ2_checkIndex_2214a) := goodIn_app (goodIn_of _ (by decide +kernel)) ggJ2_charAt_3b067_J2_checkIndex_2214a
set_option maxRecDepth 20000 in
theorem ggJ2_charAt_3b067_J2_getChar_3b067 : GoodIn wsJ2_charAt_3b067 wsJ2_getChar_3b067 := goodIn_r _ [19, 20, 21, 22, 5, 6, 3, 7] (by decide +kernel) (by decide +kernel)
set_option maxRecDepth 20000 in
theorem gJ2_charAt_3b067_J2_getChar_3b067 : GoodIn wsJ2_charAt_3b067 (va_wsS RJ2 71 yJ2_getChar_3b067 wsJ2_getChar_3b067) := goodIn_app (goodIn_of _ (by decide +kernel)) ggJ2_charAt_3b067_J2_getChar_3b067
theorem dJ2_charAt_3b067_0 : decode cJ2_charAt_3b067 0 = .ok (.iload_n 1, 1) := by decide +kernel
theorem dJ2_charAt_3b067_1 : decode cJ2_charAt_3b067 1 = .ok (.aload_n 0, 1) := by decide +kernel
theorem dJ2_charAt_3b067_2 : decode cJ2_charAt_3b067 2 = .ok (.invokestatic 67, 3) := by decide +kernel
theorem dJ2_charAt_3b067_5 : decode cJ2_charAt_3b067 5 = .ok (.aload_n 0, 1) := by decide +kernel
theorem dJ2_charAt_3b067_6 : decode cJ2_charAt_3b067 6 = .ok (.iload_n 1, 1) := by decide +kernel
theorem dJ2_charAt_3b067_7 : decode cJ2_charAt_3b067 7 = .ok (.invokestatic 71, 3) := by decide +kernel
theorem dJ2_charAt_3b067_10 : decode cJ2_charAt_3b067 10 = .ok (.ireturn, 1) := by decide +kernel
set_option maxRecDepth 20000 in
theorem ggJ2_checkIndex_2214a_J2_length_9d52b : GoodIn wsJ2_checkIndex_2214a wsJ2_length_9d52b := goodIn_r _ [4] (by decide +kernel) (by decide +kernel)
set_option maxRecDepth 20000 in
theorem gJ2_checkIndex_2214a_J2_length_9d52b : GoodIn wsJ2_checkIndex_2214a (va_wsS RJ2 48 yJ2_length_9d52b wsJ2_length_9d52b) := goodIn_app (goodIn_of _ (by decide +kernel)) ggJ2_checkIndex_2214a_J2_length_9d52b
set_option maxRecDepth 20000 in
theorem ggJ2_checkIndex_2214a_J0_checkIndex_df160 : GoodIn wsJ2_checkIndex_2214a wsJ0_checkIndex_df160 := goodIn_r _ [8, 9, 10, 11, 12, 13] (by decide +kernel) (by decide +kernel)
set_option maxRecDepth 20000 in
theorem gJ2_checkIndex_2214a_J0_checkIndex_df160 : GoodIn wsJ2_checkIndex_2214a (va_wsS RJ2 414 yJ0_checkIndex_df160 wsJ0_checkIndex_df160) := goodIn_app (goodIn_of _ (by decide +kernel)) ggJ2_checkIndex_2214a_J0_checkIndex_df160
theorem dJ2_checkIndex_2214a_0 : decode cJ2_checkIndex_2214a 0 = .ok (.iload_n 0, 1) := by decide +kernel
theorem dJ2_checkIndex_2214a_1 : decode cJ2_checkIndex_2214a 1 = .ok (.aload_n 1, 1) := by decide +kernel
theorem dJ2_checkIndex_2214a_2 : decode cJ2_checkIndex_2214a 2 = .ok (.invokestatic 48, 3) := by decide +kernel
theorem dJ2_checkIndex_2214a_5 : decode cJ2_checkIndex_2214a 5 = .ok (.invokestatic 414, 3) := by decide +kernel
theorem dJ2_checkIndex_2214a_8 : decode cJ2_checkIndex_2214a 8 = .ok (.return_, 1) := by decide +kernel
theorem dJ7_fill_53178_0 : decode cJ7_fill_53178 0 = .ok (.iconst 0, 1) := by decide +kernel
theorem dJ7_fill_53178_1 : decode cJ7_fill_53178 1 = .ok (.istore_n 2, 1) := by decide +kernel
theorem dJ7_fill_53178_2 : decode cJ7_fill_53178 2 = .ok (.aload_n 0, 1) := by decide +kernel
theorem dJ7_fill_53178_3 : decode cJ7_fill_53178 3 = .ok (.arraylength, 1) := by decide +kernel
theorem dJ7_fill_53178_4 : decode cJ7_fill_53178 4 = .ok (.istore_n 3, 1) := by decide +kernel
theorem dJ7_fill_53178_5 : decode cJ7_fill_53178 5 = .ok (.iload_n 2, 1) := by decide +kernel
theorem dJ7_fill_53178_6 : decode cJ7_fill_53178 6 = .ok (.iload_n 3, 1) := by decide +kernel
theorem dJ7_fill_53178_7 : decode cJ7_fill_53178 7 = .ok (.if_icmp .ge 13, 3) := by decide +kernel
theorem dJ7_fill_53178_10 : decode cJ7_fill_53178 10 = .ok (.aload_n 0, 1) := by decide +kernel
theorem dJ7_fill_53178_11 : decode cJ7_fill_53178 11 = .ok (.iload_n 2, 1) := by decide +kernel
theorem dJ7_fill_53178_12 : decode cJ7_fill_53178 12 = .ok (.iload_n 1, 1) := by decide +kernel
theorem dJ7_fill_53178_13 : decode cJ7_fill_53178 13 = .ok (.iastore, 1) := by decide +kernel
theorem dJ7_fill_53178_14 : decode cJ7_fill_53178 14 = .ok (.iinc 2 1, 3) := by decide +kernel
theorem dJ7_fill_53178_17 : decode cJ7_fill_53178 17 = .ok (.goto (-12), 3) := by decide +kernel
theorem dJ7_fill_53178_20 : decode cJ7_fill_53178 20 = .ok (.return_, 1) := by decide +kernel
theorem dJ3_checkIndex_8e157_0 : decode cJ3_checkIndex_8e157 0 = .ok (.iload_n 0, 1) := by decide +kernel
theorem dJ3_checkIndex_8e157_1 : decode cJ3_checkIndex_8e157 1 = .ok (.ifCond .lt 8, 3) := by decide +kernel
theorem dJ3_checkIndex_8e157_4 : decode cJ3_checkIndex_8e157 4 = .ok (.iload_n 0, 1) := by decide +kernel
theorem dJ3_checkIndex_8e157_5 : decode cJ3_checkIndex_8e157 5 = .ok (.iload_n 1, 1) := by decide +kernel
theorem dJ3_checkIndex_8e157_6 : decode cJ3_checkIndex_8e157 6 = .ok (.if_icmp .lt 10, 3) := by decide +kernel
theorem dJ3_checkIndex_8e157_9 : decode cJ3_checkIndex_8e157 9 = .ok (.aload_n 2, 1) := by decide +kernel
theorem dJ3_checkIndex_8e157_10 : decode cJ3_checkIndex_8e157 10 = .ok (.iload_n 0, 1) := by decide +kernel
theorem dJ3_checkIndex_8e157_11 : decode cJ3_checkIndex_8e157 11 = .ok (.iload_n 1, 1) := by decide +kernel
theorem dJ3_checkIndex_8e157_12 : decode cJ3_checkIndex_8e157 12 = .ok (.invokestatic 95, 3) := by decide +kernel
theorem dJ3_checkIndex_8e157_15 : decode cJ3_checkIndex_8e157 15 = .ok (.athrow, 1) := by decide +kernel
theorem dJ3_checkIndex_8e157_16 : decode cJ3_checkIndex_8e157 16 = .ok (.iload_n 0, 1) := by decide +kernel
theorem dJ3_checkIndex_8e157_17 : decode cJ3_checkIndex_8e157 17 = .ok (.ireturn, 1) := by decide +kernel
