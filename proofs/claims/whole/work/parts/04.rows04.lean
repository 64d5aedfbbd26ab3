theorem dX8_when_98 : decode cX8_when 98 = .ok (.bipush (-2), 2) := by decide +kernel
theorem dX8_when_100 : decode cX8_when 100 = .ok (.invokevirtual 97, 3) := by decide +kernel
theorem dX8_when_103 : decode cX8_when 103 = .ok (.ireturn, 1) := by decide +kernel
set_option maxRecDepth 20000 in
theorem ggX8_meets_X8_areTwo : GoodIn wsX8_meets wsX8_areTwo := goodIn_r _ [8, 2, 9, 10, 11, 12, 13, 14, 123, 124, 125, 126, 127, 128, 129, 130, 131, 132, 133, 134, 135, 136, 137, 138, 139, 140, 141, 142, 143, 144, 145, 146, 147, 148, 149, 150, 151] (by decide +kernel) (by decide +kernel)
set_option maxRecDepth 20000 in
theorem gX8_meets_X8_areTwo : GoodIn wsX8_meets (wsV RX8 191 RX8 yX8_areTwo wsX8_areTwo) := goodIn_app (goodIn_of _ (by decide +kernel)) ggX8_meets_X8_areTwo
set_option maxRecDepth 20000 in
theorem ggX8_meets_X8_refuse : GoodIn wsX8_meets wsX8_refuse := goodIn_r _ [18, 19, 123, 124, 125, 126, 127, 128, 129, 130, 131] (by decide +kernel) (by decide +kernel)
set_option maxRecDepth 20000 in
theorem gX8_meets_X8_refuse : GoodIn wsX8_meets (wsV RX8 63 RX8 yX8_refuse wsX8_refuse) := goodIn_app (goodIn_of _ (by decide +kernel)) ggX8_meets_X8_refuse
set_option maxRecDepth 20000 in
theorem ggX8_meets_X6_start : GoodIn wsX8_meets wsX6_start := goodIn_r _ [24, 25, 26, 27, 28, 29, 30, 31, 32, 33, 34, 35, 36, 37, 38, 39, 40, 41, 42, 43, 44, 45, 46, 47, 48, 49, 50, 51, 52, 53, 54, 12, 55, 56, 57, 58, 59, 23, 60, 61, 7, 62, 63, 64, 65, 66, 67, 68, 69, 70, 71, 72, 152, 153, 154, 155, 156, 157, 158, 159, 160, 161, 162, 163, 164, 132, 133, 134, 135, 136, 137, 138, 139, 140, 141, 142, 143, 144, 145, 146, 147, 148, 149, 150, 151, 165, 166, 167, 168, 169, 170] (by decide +kernel) (by decide +kernel)
set_option maxRecDepth 20000 in
theorem gX8_meets_X6_start : GoodIn wsX8_meets (wsV RX8 165 RX6 yX6_start wsX6_start) := goodIn_app (goodIn_of _ (by decide +kernel)) ggX8_meets_X6_start
set_option maxRecDepth 20000 in
theorem ggX8_meets_X6_atDoor : GoodIn wsX8_meets wsX6_atDoor := goodIn_r _ [76, 25, 77, 78, 79, 23, 80, 33, 81, 82, 83, 12, 84, 85, 86, 87, 152, 153, 154, 155, 156, 157, 158, 159, 160, 161, 162, 163, 164, 132, 133, 134, 135, 136, 137, 138, 139, 140, 141, 142, 143, 144, 145, 146, 147, 148, 149, 150, 151] (by decide +kernel) (by decide +kernel)
set_option maxRecDepth 20000 in
theorem gX8_meets_X6_atDoor : GoodIn wsX8_meets (wsV RX8 194 RX6 yX6_atDoor wsX6_atDoor) := goodIn_app (goodIn_of _ (by decide +kernel)) ggX8_meets_X6_atDoor
set_option maxRecDepth 20000 in
theorem ggX8_meets_X8_answer : GoodIn wsX8_meets wsX8_answer := goodIn_r _ [91, 19, 123, 124, 125, 126, 127, 128, 129, 130, 131] (by decide +kernel) (by decide +kernel)
set_option maxRecDepth 20000 in
theorem gX8_meets_X8_answer : GoodIn wsX8_meets (wsV RX8 97 RX8 yX8_answer wsX8_answer) := goodIn_app (goodIn_of _ (by decide +kernel)) ggX8_meets_X8_answer
set_option maxRecDepth 20000 in
theorem ggX8_meets_X6_pass : GoodIn wsX8_meets wsX6_pass := goodIn_r _ [95, 26, 25, 32, 96, 33, 97, 98, 99, 23, 100, 27, 101, 30, 28, 102, 29, 103, 104, 105, 106, 12, 107, 108, 109, 110, 111, 112, 31, 113, 114, 115, 116, 117, 118, 56, 119, 120, 121, 122, 57, 58, 59, 60, 152, 153, 154, 155, 156, 157, 158, 159, 160, 161, 162, 163, 164, 132, 133, 134, 135, 136, 137, 138, 139, 140, 141, 142, 143, 144, 145, 146, 147, 148, 149, 150, 151] (by decide +kernel) (by decide +kernel)
set_option maxRecDepth 20000 in
theorem gX8_meets_X6_pass : GoodIn wsX8_meets (wsV RX8 188 RX6 yX6_pass wsX6_pass) := goodIn_app (goodIn_of _ (by decide +kernel)) ggX8_meets_X6_pass
theorem dX8_meets_0 : decode cX8_meets 0 = .ok (.aload_n 0, 1) := by decide +kernel
theorem dX8_meets_1 : decode cX8_meets 1 = .ok (.iload_n 1, 1) := by decide +kernel
theorem dX8_meets_2 : decode cX8_meets 2 = .ok (.iload_n 2, 1) := by decide +kernel
theorem dX8_meets_3 : decode cX8_meets 3 = .ok (.invokevirtual 191, 3) := by decide +kernel
theorem dX8_meets_6 : decode cX8_meets 6 = .ok (.ifCond .ne 9, 3) := by decide +kernel
theorem dX8_meets_9 : decode cX8_meets 9 = .ok (.aload_n 0, 1) := by decide +kernel
theorem dX8_meets_10 : decode cX8_meets 10 = .ok (.iconst 1, 1) := by decide +kernel
theorem dX8_meets_11 : decode cX8_meets 11 = .ok (.invokevirtual 63, 3) := by decide +kernel
theorem dX8_meets_14 : decode cX8_meets 14 = .ok (.ireturn, 1) := by decide +kernel
theorem dX8_meets_15 : decode cX8_meets 15 = .ok (.aload_n 0, 1) := by decide +kernel
theorem dX8_meets_16 : decode cX8_meets 16 = .ok (.getfield 26, 3) := by decide +kernel
theorem dX8_meets_19 : decode cX8_meets 19 = .ok (.aload_n 0, 1) := by decide +kernel
theorem dX8_meets_20 : decode cX8_meets 20 = .ok (.getfield 47, 3) := by decide +kernel
theorem dX8_meets_23 : decode cX8_meets 23 = .ok (.aload_n 0, 1) := by decide +kernel
theorem dX8_meets_24 : decode cX8_meets 24 = .ok (.getfield 19, 3) := by decide +kernel
theorem dX8_meets_27 : decode cX8_meets 27 = .ok (.iconst 0, 1) := by decide +kernel
theorem dX8_meets_28 : decode cX8_meets 28 = .ok (.invokevirtual 165, 3) := by decide +kernel
theorem dX8_meets_31 : decode cX8_meets 31 = .ok (.iconst 0, 1) := by decide +kernel
theorem dX8_meets_32 : decode cX8_meets 32 = .ok (.istore_n 3, 1) := by decide +kernel
theorem dX8_meets_33 : decode cX8_meets 33 = .ok (.iload_n 3, 1) := by decide +kernel
theorem dX8_meets_34 : decode cX8_meets 34 = .ok (.sipush 200, 3) := by decide +kernel
theorem dX8_meets_37 : decode cX8_meets 37 = .ok (.if_icmp .gt 35, 3) := by decide +kernel
theorem dX8_meets_40 : decode cX8_meets 40 = .ok (.aload_n 0, 1) := by decide +kernel
theorem dX8_meets_41 : decode cX8_meets 41 = .ok (.getfield 26, 3) := by decide +kernel
theorem dX8_meets_44 : decode cX8_meets 44 = .ok (.iload_n 1, 1) := by decide +kernel
theorem dX8_meets_45 : decode cX8_meets 45 = .ok (.iload_n 2, 1) := by decide +kernel
theorem dX8_meets_46 : decode cX8_meets 46 = .ok (.invokevirtual 194, 3) := by decide +kernel
theorem dX8_meets_49 : decode cX8_meets 49 = .ok (.ifCond .eq 9, 3) := by decide +kernel
theorem dX8_meets_52 : decode cX8_meets 52 = .ok (.aload_n 0, 1) := by decide +kernel
theorem dX8_meets_53 : decode cX8_meets 53 = .ok (.iload_n 3, 1) := by decide +kernel
theorem dX8_meets_54 : decode cX8_meets 54 = .ok (.invokevirtual 97, 3) := by decide +kernel
theorem dX8_meets_57 : decode cX8_meets 57 = .ok (.ireturn, 1) := by decide +kernel
theorem dX8_meets_58 : decode cX8_meets 58 = .ok (.aload_n 0, 1) := by decide +kernel
theorem dX8_meets_59 : decode cX8_meets 59 = .ok (.getfield 26, 3) := by decide +kernel
theorem dX8_meets_62 : decode cX8_meets 62 = .ok (.iconst 0, 1) := by decide +kernel
theorem dX8_meets_63 : decode cX8_meets 63 = .ok (.invokevirtual 188, 3) := by decide +kernel
theorem dX8_meets_66 : decode cX8_meets 66 = .ok (.iinc 3 1, 3) := by decide +kernel
theorem dX8_meets_69 : decode cX8_meets 69 = .ok (.goto (-36), 3) := by decide +kernel
theorem dX8_meets_72 : decode cX8_meets 72 = .ok (.aload_n 0, 1) := by decide +kernel
theorem dX8_meets_73 : decode cX8_meets 73 = .ok (.bipush (-2), 2) := by decide +kernel
theorem dX8_meets_75 : decode cX8_meets 75 = .ok (.invokevirtual 97, 3) := by decide +kernel
theorem dX8_meets_78 : decode cX8_meets 78 = .ok (.ireturn, 1) := by decide +kernel
set_option maxRecDepth 20000 in
theorem ggX8_still_X4_stands : GoodIn wsX8_still wsX4_stands := goodIn_r _ [8, 9, 116, 117, 118, 119, 120, 121, 122, 123, 124, 125, 126, 127, 128, 129, 130, 131, 132, 133, 134, 135] (by decide +kernel) (by decide +kernel)
set_option maxRecDepth 20000 in
theorem gX8_still_X4_stands : GoodIn wsX8_still (wsV RX8 161 RX4 yX4_stands wsX4_stands) := goodIn_app (goodIn_of _ (by decide +kernel)) ggX8_still_X4_stands
set_option maxRecDepth 20000 in
theorem ggX8_still_X8_refuse : GoodIn wsX8_still wsX8_refuse := goodIn_r _ [14, 15, 107, 108, 109, 110, 111, 112, 113, 114, 115] (by decide +kernel) (by decide +kernel)
set_option maxRecDepth 20000 in
theorem gX8_still_X8_refuse : GoodIn wsX8_still (wsV RX8 63 RX8 yX8_refuse wsX8_refuse) := goodIn_app (goodIn_of _ (by decide +kernel)) ggX8_still_X8_refuse
set_option maxRecDepth 20000 in
theorem ggX8_still_X6_start : GoodIn wsX8_still wsX6_start := goodIn_r _ [20, 21, 22, 23, 24, 25, 26, 27, 28, 29, 30, 31, 32, 33, 34, 35, 36, 37, 38, 39, 40, 41, 42, 43, 44, 45, 46, 47, 48, 49, 50, 7, 51, 52, 53, 54, 55, 19, 56, 57, 13, 58, 59, 60, 61, 62, 63, 64, 65, 66, 67, 9, 136, 137, 138, 139, 140, 141, 142, 143, 144, 145, 146, 147, 148, 116, 117, 118, 119, 120, 121, 122, 123, 124, 125, 126, 127, 128, 129, 130, 131, 132, 133, 134, 135, 149, 150, 151, 152, 153, 154] (by decide +kernel) (by decide +kernel)
set_option maxRecDepth 20000 in
theorem gX8_still_X6_start : GoodIn wsX8_still (wsV RX8 165 RX6 yX6_start wsX6_start) := goodIn_app (goodIn_of _ (by decide +kernel)) ggX8_still_X6_start
set_option maxRecDepth 20000 in
theorem ggX8_still_X6_pass : GoodIn wsX8_still wsX6_pass := goodIn_r _ [71, 22, 21, 28, 72, 29, 73, 74, 75, 19, 76, 23, 77, 26, 24, 78, 25, 79, 80, 81, 82, 7, 83, 84, 85, 86, 87, 88, 27, 89, 90, 91, 92, 93, 94, 52, 95, 96, 97, 98, 53, 54, 55, 56, 136, 137, 138, 139, 140, 141, 142, 143, 144, 145, 146, 147, 148, 116, 117, 118, 119, 120, 121, 122, 123, 124, 125, 126, 127, 128, 129, 130, 131, 132, 133, 134, 135] (by decide +kernel) (by decide +kernel)
set_option maxRecDepth 20000 in
theorem gX8_still_X6_pass : GoodIn wsX8_still (wsV RX8 188 RX6 yX6_pass wsX6_pass) := goodIn_app (goodIn_of _ (by decide +kernel)) ggX8_still_X6_pass
set_option maxRecDepth 20000 in
theorem ggX8_still_X6_went : GoodIn wsX8_still wsX6_went := goodIn_r _ [102, 72, 136, 137, 138, 139, 140, 141, 142, 143, 144, 145, 146, 147, 148] (by decide +kernel) (by decide +kernel)
set_option maxRecDepth 20000 in
theorem gX8_still_X6_went : GoodIn wsX8_still (wsV RX8 172 RX6 yX6_went wsX6_went) := goodIn_app (goodIn_of _ (by decide +kernel)) ggX8_still_X6_went
set_option maxRecDepth 20000 in
theorem ggX8_still_X8_answer : GoodIn wsX8_still wsX8_answer := goodIn_r _ [106, 15, 107, 108, 109, 110, 111, 112, 113, 114, 115] (by decide +kernel) (by decide +kernel)
set_option maxRecDepth 20000 in
theorem gX8_still_X8_answer : GoodIn wsX8_still (wsV RX8 97 RX8 yX8_answer wsX8_answer) := goodIn_app (goodIn_of _ (by decide +kernel)) ggX8_still_X8_answer
theorem dX8_still_0 : decode cX8_still 0 = .ok (.aload_n 0, 1) := by decide +kernel
theorem dX8_still_1 : decode cX8_still 1 = .ok (.getfield 47, 3) := by decide +kernel
theorem dX8_still_4 : decode cX8_still 4 = .ok (.invokevirtual 161, 3) := by decide +kernel
theorem dX8_still_7 : decode cX8_still 7 = .ok (.ifCond .ne 9, 3) := by decide +kernel
theorem dX8_still_10 : decode cX8_still 10 = .ok (.aload_n 0, 1) := by decide +kernel
theorem dX8_still_11 : decode cX8_still 11 = .ok (.iconst 1, 1) := by decide +kernel
theorem dX8_still_12 : decode cX8_still 12 = .ok (.invokevirtual 63, 3) := by decide +kernel
theorem dX8_still_15 : decode cX8_still 15 = .ok (.ireturn, 1) := by decide +kernel
theorem dX8_still_16 : decode cX8_still 16 = .ok (.aload_n 0, 1) := by decide +kernel
theorem dX8_still_17 : decode cX8_still 17 = .ok (.getfield 26, 3) := by decide +kernel
theorem dX8_still_20 : decode cX8_still 20 = .ok (.aload_n 0, 1) := by decide +kernel
theorem dX8_still_21 : decode cX8_still 21 = .ok (.getfield 47, 3) := by decide +kernel
theorem dX8_still_24 : decode cX8_still 24 = .ok (.aload_n 0, 1) := by decide +kernel
theorem dX8_still_25 : decode cX8_still 25 = .ok (.getfield 19, 3) := by decide +kernel
theorem dX8_still_28 : decode cX8_still 28 = .ok (.iconst 0, 1) := by decide +kernel
theorem dX8_still_29 : decode cX8_still 29 = .ok (.invokevirtual 165, 3) := by decide +kernel
theorem dX8_still_32 : decode cX8_still 32 = .ok (.iconst 0, 1) := by decide +kernel
theorem dX8_still_33 : decode cX8_still 33 = .ok (.istore_n 1, 1) := by decide +kernel
theorem dX8_still_34 : decode cX8_still 34 = .ok (.iload_n 1, 1) := by decide +kernel
theorem dX8_still_35 : decode cX8_still 35 = .ok (.sipush 200, 3) := by decide +kernel
theorem dX8_still_38 : decode cX8_still 38 = .ok (.if_icmp .gt 33, 3) := by decide +kernel
theorem dX8_still_41 : decode cX8_still 41 = .ok (.aload_n 0, 1) := by decide +kernel
theorem dX8_still_42 : decode cX8_still 42 = .ok (.getfield 26, 3) := by decide +kernel
theorem dX8_still_45 : decode cX8_still 45 = .ok (.iconst 0, 1) := by decide +kernel
theorem dX8_still_46 : decode cX8_still 46 = .ok (.invokevirtual 188, 3) := by decide +kernel
theorem dX8_still_49 : decode cX8_still 49 = .ok (.aload_n 0, 1) := by decide +kernel
theorem dX8_still_50 : decode cX8_still 50 = .ok (.getfield 26, 3) := by decide +kernel
theorem dX8_still_53 : decode cX8_still 53 = .ok (.invokevirtual 172, 3) := by decide +kernel
theorem dX8_still_56 : decode cX8_still 56 = .ok (.ifCond .ne 9, 3) := by decide +kernel
theorem dX8_still_59 : decode cX8_still 59 = .ok (.aload_n 0, 1) := by decide +kernel
theorem dX8_still_60 : decode cX8_still 60 = .ok (.iload_n 1, 1) := by decide +kernel
theorem dX8_still_61 : decode cX8_still 61 = .ok (.invokevirtual 97, 3) := by decide +kernel
theorem dX8_still_64 : decode cX8_still 64 = .ok (.ireturn, 1) := by decide +kernel
theorem dX8_still_65 : decode cX8_still 65 = .ok (.iinc 1 1, 3) := by decide +kernel
theorem dX8_still_68 : decode cX8_still 68 = .ok (.goto (-34), 3) := by decide +kernel
theorem dX8_still_71 : decode cX8_still 71 = .ok (.aload_n 0, 1) := by decide +kernel
theorem dX8_still_72 : decode cX8_still 72 = .ok (.bipush (-2), 2) := by decide +kernel
theorem dX8_still_74 : decode cX8_still 74 = .ok (.invokevirtual 97, 3) := by decide +kernel
theorem dX8_still_77 : decode cX8_still 77 = .ok (.ireturn, 1) := by decide +kernel
set_option maxRecDepth 20000 in
theorem ggX8_period_X4_stands : GoodIn wsX8_period wsX4_stands := goodIn_r _ [8, 9, 116, 117, 118, 119, 120, 121, 122, 123, 124, 125, 126, 127, 128, 129, 130, 131, 132, 133, 134, 135] (by decide +kernel) (by decide +kernel)
set_option maxRecDepth 20000 in
theorem gX8_period_X4_stands : GoodIn wsX8_period (wsV RX8 161 RX4 yX4_stands wsX4_stands) := goodIn_app (goodIn_of _ (by decide +kernel)) ggX8_period_X4_stands
set_option maxRecDepth 20000 in
theorem ggX8_period_X8_refuse : GoodIn wsX8_period wsX8_refuse := goodIn_r _ [14, 15, 107, 108, 109, 110, 111, 112, 113, 114, 115] (by decide +kernel) (by decide +kernel)
set_option maxRecDepth 20000 in
theorem gX8_period_X8_refuse : GoodIn wsX8_period (wsV RX8 63 RX8 yX8_refuse wsX8_refuse) := goodIn_app (goodIn_of _ (by decide +kernel)) ggX8_period_X8_refuse
set_option maxRecDepth 20000 in
theorem ggX8_period_X6_start : GoodIn wsX8_period wsX6_start := goodIn_r _ [20, 21, 22, 23, 24, 25, 26, 27, 28, 29, 30, 31, 32, 33, 34, 35, 36, 37, 38, 39, 40, 41, 42, 43, 44, 45, 46, 47, 48, 49, 50, 7, 51, 52, 53, 54, 55, 19, 56, 57, 13, 58, 59, 60, 61, 62, 63, 64, 65, 66, 67, 9, 136, 137, 138, 139, 140, 141, 142, 143, 144, 145, 146, 147, 148, 116, 117, 118, 119, 120, 121, 122, 123, 124, 125, 126, 127, 128, 129, 130, 131, 132, 133, 134, 135, 149, 150, 151, 152, 153, 154] (by decide +kernel) (by decide +kernel)
set_option maxRecDepth 20000 in
theorem gX8_period_X6_start : GoodIn wsX8_period (wsV RX8 165 RX6 yX6_start wsX6_start) := goodIn_app (goodIn_of _ (by decide +kernel)) ggX8_period_X6_start
set_option maxRecDepth 20000 in
theorem ggX8_period_X6_pass : GoodIn wsX8_period wsX6_pass := goodIn_r _ [71, 22, 21, 28, 72, 29, 73, 74, 75, 19, 76, 23, 77, 26, 24, 78, 25, 79, 80, 81, 82, 7, 83, 84, 85, 86, 87, 88, 27, 89, 90, 91, 92, 93, 94, 52, 95, 96, 97, 98, 53, 54, 55, 56, 136, 137, 138, 139, 140, 141, 142, 143, 144, 145, 146, 147, 148, 116, 117, 118, 119, 120, 121, 122, 123, 124, 125, 126, 127, 128, 129, 130, 131, 132, 133, 134, 135] (by decide +kernel) (by decide +kernel)
set_option maxRecDepth 20000 in
theorem gX8_period_X6_pass : GoodIn wsX8_period (wsV RX8 188 RX6 yX6_pass wsX6_pass) := goodIn_app (goodIn_of _ (by decide +kernel)) ggX8_period_X6_pass
set_option maxRecDepth 20000 in
theorem ggX8_period_X6_isAsIn : GoodIn wsX8_period wsX6_isAsIn := goodIn_r _ [102, 21, 28, 29, 44, 45, 46, 33, 47, 35, 136, 137, 138, 139, 140, 141, 142, 143, 144, 145, 146, 147, 148, 116, 117, 118, 119, 120, 121, 122, 123, 124, 125, 126, 127, 128, 129, 130, 131, 132, 133, 134, 135, 149, 150, 151, 152, 153, 154] (by decide +kernel) (by decide +kernel)
set_option maxRecDepth 20000 in
theorem gX8_period_X6_isAsIn : GoodIn wsX8_period (wsV RX8 197 RX6 yX6_isAsIn wsX6_isAsIn) := goodIn_app (goodIn_of _ (by decide +kernel)) ggX8_period_X6_isAsIn
set_option maxRecDepth 20000 in
theorem ggX8_period_X8_answer : GoodIn wsX8_period wsX8_answer := goodIn_r _ [106, 15, 107, 108, 109, 110, 111, 112, 113, 114, 115] (by decide +kernel) (by decide +kernel)
set_option maxRecDepth 20000 in
theorem gX8_period_X8_answer : GoodIn wsX8_period (wsV RX8 97 RX8 yX8_answer wsX8_answer) := goodIn_app (goodIn_of _ (by decide +kernel)) ggX8_period_X8_answer
theorem dX8_period_0 : decode cX8_period 0 = .ok (.aload_n 0, 1) := by decide +kernel
theorem dX8_period_1 : decode cX8_period 1 = .ok (.getfield 47, 3) := by decide +kernel
theorem dX8_period_4 : decode cX8_period 4 = .ok (.invokevirtual 161, 3) := by decide +kernel
theorem dX8_period_7 : decode cX8_period 7 = .ok (.ifCond .ne 9, 3) := by decide +kernel
theorem dX8_period_10 : decode cX8_period 10 = .ok (.aload_n 0, 1) := by decide +kernel
theorem dX8_period_11 : decode cX8_period 11 = .ok (.iconst 1, 1) := by decide +kernel
theorem dX8_period_12 : decode cX8_period 12 = .ok (.invokevirtual 63, 3) := by decide +kernel
theorem dX8_period_15 : decode cX8_period 15 = .ok (.ireturn, 1) := by decide +kernel
theorem dX8_period_16 : decode cX8_period 16 = .ok (.aload_n 0, 1) := by decide +kernel
theorem dX8_period_17 : decode cX8_period 17 = .ok (.getfield 26, 3) := by decide +kernel
theorem dX8_period_20 : decode cX8_period 20 = .ok (.aload_n 0, 1) := by decide +kernel
theorem dX8_period_21 : decode cX8_period 21 = .ok (.getfield 47, 3) := by decide +kernel
theorem dX8_period_24 : decode cX8_period 24 = .ok (.aload_n 0, 1) := by decide +kernel
theorem dX8_period_25 : decode cX8_period 25 = .ok (.getfield 19, 3) := by decide +kernel
theorem dX8_period_28 : decode cX8_period 28 = .ok (.iconst 0, 1) := by decide +kernel
theorem dX8_period_29 : decode cX8_period 29 = .ok (.invokevirtual 165, 3) := by decide +kernel
theorem dX8_period_32 : decode cX8_period 32 = .ok (.iconst 1, 1) := by decide +kernel
theorem dX8_period_33 : decode cX8_period 33 = .ok (.istore_n 1, 1) := by decide +kernel
theorem dX8_period_34 : decode cX8_period 34 = .ok (.iload_n 1, 1) := by decide +kernel
theorem dX8_period_35 : decode cX8_period 35 = .ok (.sipush 200, 3) := by decide +kernel
theorem dX8_period_38 : decode cX8_period 38 = .ok (.if_icmp .gt 37, 3) := by decide +kernel
theorem dX8_period_41 : decode cX8_period 41 = .ok (.aload_n 0, 1) := by decide +kernel
theorem dX8_period_42 : decode cX8_period 42 = .ok (.getfield 26, 3) := by decide +kernel
theorem dX8_period_45 : decode cX8_period 45 = .ok (.iconst 0, 1) := by decide +kernel
theorem dX8_period_46 : decode cX8_period 46 = .ok (.invokevirtual 188, 3) := by decide +kernel
theorem dX8_period_49 : decode cX8_period 49 = .ok (.aload_n 0, 1) := by decide +kernel
theorem dX8_period_50 : decode cX8_period 50 = .ok (.getfield 26, 3) := by decide +kernel
theorem dX8_period_53 : decode cX8_period 53 = .ok (.aload_n 0, 1) := by decide +kernel
theorem dX8_period_54 : decode cX8_period 54 = .ok (.getfield 19, 3) := by decide +kernel
theorem dX8_period_57 : decode cX8_period 57 = .ok (.invokevirtual 197, 3) := by decide +kernel
theorem dX8_period_60 : decode cX8_period 60 = .ok (.ifCond .eq 9, 3) := by decide +kernel
theorem dX8_period_63 : decode cX8_period 63 = .ok (.aload_n 0, 1) := by decide +kernel
theorem dX8_period_64 : decode cX8_period 64 = .ok (.iload_n 1, 1) := by decide +kernel
theorem dX8_period_65 : decode cX8_period 65 = .ok (.invokevirtual 97, 3) := by decide +kernel
theorem dX8_period_68 : decode cX8_period 68 = .ok (.ireturn, 1) := by decide +kernel
theorem dX8_period_69 : decode cX8_period 69 = .ok (.iinc 1 1, 3) := by decide +kernel
theorem dX8_period_72 : decode cX8_period 72 = .ok (.goto (-38), 3) := by decide +kernel
theorem dX8_period_75 : decode cX8_period 75 = .ok (.aload_n 0, 1) := by decide +kernel
theorem dX8_period_76 : decode cX8_period 76 = .ok (.bipush (-2), 2) := by decide +kernel
theorem dX8_period_78 : decode cX8_period 78 = .ok (.invokevirtual 97, 3) := by decide +kernel
theorem dX8_period_81 : decode cX8_period 81 = .ok (.ireturn, 1) := by decide +kernel
set_option maxRecDepth 20000 in
theorem ggX8_steps_X4_hasThing : GoodIn wsX8_steps wsX4_hasThing := goodIn_r _ [8, 9, 117, 118, 119, 120, 121, 122, 123, 124, 125, 126, 127, 128, 129, 130, 131, 132, 133, 134, 135, 136] (by decide +kernel) (by decide +kernel)
set_option maxRecDepth 20000 in
theorem gX8_steps_X4_hasThing : GoodIn wsX8_steps (wsV RX8 124 RX4 yX4_hasThing wsX4_hasThing) := goodIn_app (goodIn_of _ (by decide +kernel)) ggX8_steps_X4_hasThing
set_option maxRecDepth 20000 in
theorem ggX8_steps_X8_refuse : GoodIn wsX8_steps wsX8_refuse := goodIn_r _ [14, 15, 108, 109, 110, 111, 112, 113, 114, 115, 116] (by decide +kernel) (by decide +kernel)
set_option maxRecDepth 20000 in
theorem gX8_steps_X8_refuse : GoodIn wsX8_steps (wsV RX8 63 RX8 yX8_refuse wsX8_refuse) := goodIn_app (goodIn_of _ (by decide +kernel)) ggX8_steps_X8_refuse
set_option maxRecDepth 20000 in
theorem ggX8_steps_X6_start : GoodIn wsX8_steps wsX6_start := goodIn_r _ [20, 21, 22, 23, 24, 25, 26, 27, 28, 29, 30, 31, 32, 33, 34, 35, 36, 37, 38, 39, 40, 41, 42, 43, 44, 45, 46, 47, 48, 49, 50, 7, 51, 52, 53, 54, 55, 19, 56, 57, 13, 58, 59, 60, 61, 62, 63, 64, 65, 66, 67, 68, 137, 138, 139, 140, 141, 142, 143, 144, 145, 146, 147, 148, 149, 117, 118, 119, 120, 121, 122, 123, 124, 125, 126, 127, 128, 129, 130, 131, 132, 133, 134, 135, 136, 150, 151, 152, 153, 154, 155] (by decide +kernel) (by decide +kernel)
set_option maxRecDepth 20000 in
theorem gX8_steps_X6_start : GoodIn wsX8_steps (wsV RX8 165 RX6 yX6_start wsX6_start) := goodIn_app (goodIn_of _ (by decide +kernel)) ggX8_steps_X6_start
set_option maxRecDepth 20000 in
theorem ggX8_steps_X6_pass : GoodIn wsX8_steps wsX6_pass := goodIn_r _ [72, 22, 21, 28, 73, 29, 74, 75, 76, 19, 77, 23, 78, 26, 24, 79, 25, 80, 81, 82, 83, 7, 84, 85, 86, 87, 88, 89, 27, 90, 91, 92, 93, 94, 95, 52, 96, 97, 98, 99, 53, 54, 55, 56, 137, 138, 139, 140, 141, 142, 143, 144, 145, 146, 147, 148, 149, 117, 118, 119, 120, 121, 122, 123, 124, 125, 126, 127, 128, 129, 130, 131, 132, 133, 134, 135, 136] (by decide +kernel) (by decide +kernel)
set_option maxRecDepth 20000 in
theorem gX8_steps_X6_pass : GoodIn wsX8_steps (wsV RX8 188 RX6 yX6_pass wsX6_pass) := goodIn_app (goodIn_of _ (by decide +kernel)) ggX8_steps_X6_pass
set_option maxRecDepth 20000 in
theorem ggX8_steps_X6_went : GoodIn wsX8_steps wsX6_went := goodIn_r _ [103, 73, 137, 138, 139, 140, 141, 142, 143, 144, 145, 146, 147, 148, 149] (by decide +kernel) (by decide +kernel)
set_option maxRecDepth 20000 in
theorem gX8_steps_X6_went : GoodIn wsX8_steps (wsV RX8 172 RX6 yX6_went wsX6_went) := goodIn_app (goodIn_of _ (by decide +kernel)) ggX8_steps_X6_went
set_option maxRecDepth 20000 in
theorem ggX8_steps_X8_answer : GoodIn wsX8_steps wsX8_answer := goodIn_r _ [107, 15, 108, 109, 110, 111, 112, 113, 114, 115, 116] (by decide +kernel) (by decide +kernel)
set_option maxRecDepth 20000 in
theorem gX8_steps_X8_answer : GoodIn wsX8_steps (wsV RX8 97 RX8 yX8_answer wsX8_answer) := goodIn_app (goodIn_of _ (by decide +kernel)) ggX8_steps_X8_answer
theorem dX8_steps_0 : decode cX8_steps 0 = .ok (.aload_n 0, 1) := by decide +kernel
theorem dX8_steps_1 : decode cX8_steps 1 = .ok (.getfield 47, 3) := by decide +kernel
theorem dX8_steps_4 : decode cX8_steps 4 = .ok (.iload_n 1, 1) := by decide +kernel
theorem dX8_steps_5 : decode cX8_steps 5 = .ok (.invokevirtual 124, 3) := by decide +kernel
theorem dX8_steps_8 : decode cX8_steps 8 = .ok (.ifCond .ne 9, 3) := by decide +kernel
theorem dX8_steps_11 : decode cX8_steps 11 = .ok (.aload_n 0, 1) := by decide +kernel
theorem dX8_steps_12 : decode cX8_steps 12 = .ok (.iconst 1, 1) := by decide +kernel
theorem dX8_steps_13 : decode cX8_steps 13 = .ok (.invokevirtual 63, 3) := by decide +kernel
theorem dX8_steps_16 : decode cX8_steps 16 = .ok (.ireturn, 1) := by decide +kernel
theorem dX8_steps_17 : decode cX8_steps 17 = .ok (.iload_n 2, 1) := by decide +kernel
theorem dX8_steps_18 : decode cX8_steps 18 = .ok (.ifCond .lt 10, 3) := by decide +kernel
theorem dX8_steps_21 : decode cX8_steps 21 = .ok (.iload_n 2, 1) := by decide +kernel
theorem dX8_steps_22 : decode cX8_steps 22 = .ok (.sipush 200, 3) := by decide +kernel
theorem dX8_steps_25 : decode cX8_steps 25 = .ok (.if_icmp .le 9, 3) := by decide +kernel
theorem dX8_steps_28 : decode cX8_steps 28 = .ok (.aload_n 0, 1) := by decide +kernel
theorem dX8_steps_29 : decode cX8_steps 29 = .ok (.iconst 2, 1) := by decide +kernel
theorem dX8_steps_30 : decode cX8_steps 30 = .ok (.invokevirtual 63, 3) := by decide +kernel
theorem dX8_steps_33 : decode cX8_steps 33 = .ok (.ireturn, 1) := by decide +kernel
theorem dX8_steps_34 : decode cX8_steps 34 = .ok (.iconst 0, 1) := by decide +kernel
theorem dX8_steps_35 : decode cX8_steps 35 = .ok (.istore_n 3, 1) := by decide +kernel
theorem dX8_steps_36 : decode cX8_steps 36 = .ok (.aload_n 0, 1) := by decide +kernel
theorem dX8_steps_37 : decode cX8_steps 37 = .ok (.getfield 26, 3) := by decide +kernel
theorem dX8_steps_40 : decode cX8_steps 40 = .ok (.aload_n 0, 1) := by decide +kernel
theorem dX8_steps_41 : decode cX8_steps 41 = .ok (.getfield 47, 3) := by decide +kernel
theorem dX8_steps_44 : decode cX8_steps 44 = .ok (.aload_n 0, 1) := by decide +kernel
theorem dX8_steps_45 : decode cX8_steps 45 = .ok (.getfield 19, 3) := by decide +kernel
theorem dX8_steps_48 : decode cX8_steps 48 = .ok (.iconst 0, 1) := by decide +kernel
theorem dX8_steps_49 : decode cX8_steps 49 = .ok (.invokevirtual 165, 3) := by decide +kernel
theorem dX8_steps_52 : decode cX8_steps 52 = .ok (.iconst 1, 1) := by decide +kernel
theorem dX8_steps_53 : decode cX8_steps 53 = .ok (.istore 4, 2) := by decide +kernel
theorem dX8_steps_55 : decode cX8_steps 55 = .ok (.iload 4, 2) := by decide +kernel
theorem dX8_steps_57 : decode cX8_steps 57 = .ok (.iload_n 2, 1) := by decide +kernel
theorem dX8_steps_58 : decode cX8_steps 58 = .ok (.if_icmp .gt 31, 3) := by decide +kernel
theorem dX8_steps_61 : decode cX8_steps 61 = .ok (.aload_n 0, 1) := by decide +kernel
theorem dX8_steps_62 : decode cX8_steps 62 = .ok (.getfield 26, 3) := by decide +kernel
theorem dX8_steps_65 : decode cX8_steps 65 = .ok (.iconst 0, 1) := by decide +kernel
theorem dX8_steps_66 : decode cX8_steps 66 = .ok (.invokevirtual 188, 3) := by decide +kernel
theorem dX8_steps_69 : decode cX8_steps 69 = .ok (.iload_n 3, 1) := by decide +kernel
theorem dX8_steps_70 : decode cX8_steps 70 = .ok (.aload_n 0, 1) := by decide +kernel
theorem dX8_steps_71 : decode cX8_steps 71 = .ok (.getfield 26, 3) := by decide +kernel
theorem dX8_steps_74 : decode cX8_steps 74 = .ok (.invokevirtual 172, 3) := by decide +kernel
theorem dX8_steps_77 : decode cX8_steps 77 = .ok (.iload_n 1, 1) := by decide +kernel
theorem dX8_steps_78 : decode cX8_steps 78 = .ok (.ishr, 1) := by decide +kernel
theorem dX8_steps_79 : decode cX8_steps 79 = .ok (.iconst 1, 1) := by decide +kernel
theorem dX8_steps_80 : decode cX8_steps 80 = .ok (.iand, 1) := by decide +kernel
theorem dX8_steps_81 : decode cX8_steps 81 = .ok (.iadd, 1) := by decide +kernel
theorem dX8_steps_82 : decode cX8_steps 82 = .ok (.istore_n 3, 1) := by decide +kernel
theorem dX8_steps_83 : decode cX8_steps 83 = .ok (.iinc 4 1, 3) := by decide +kernel
theorem dX8_steps_86 : decode cX8_steps 86 = .ok (.goto (-31), 3) := by decide +kernel
theorem dX8_steps_89 : decode cX8_steps 89 = .ok (.aload_n 0, 1) := by decide +kernel
theorem dX8_steps_90 : decode cX8_steps 90 = .ok (.iload_n 3, 1) := by decide +kernel
theorem dX8_steps_91 : decode cX8_steps 91 = .ok (.invokevirtual 97, 3) := by decide +kernel
theorem dX8_steps_94 : decode cX8_steps 94 = .ok (.ireturn, 1) := by decide +kernel
set_option maxRecDepth 20000 in
theorem ggX8_meetings_X8_areTwo : GoodIn wsX8_meetings wsX8_areTwo := goodIn_r _ [8, 2, 9, 10, 11, 12, 13, 14, 123, 124, 125, 126, 127, 128, 129, 130, 131, 132, 133, 134, 135, 136, 137, 138, 139, 140, 141, 142, 143, 144, 145, 146, 147, 148, 149, 150, 151] (by decide +kernel) (by decide +kernel)
set_option maxRecDepth 20000 in
theorem gX8_meetings_X8_areTwo : GoodIn wsX8_meetings (wsV RX8 191 RX8 yX8_areTwo wsX8_areTwo) := goodIn_app (goodIn_of _ (by decide +kernel)) ggX8_meetings_X8_areTwo
set_option maxRecDepth 20000 in
theorem ggX8_meetings_X8_refuse : GoodIn wsX8_meetings wsX8_refuse := goodIn_r _ [18, 19, 123, 124, 125, 126, 127, 128, 129, 130, 131] (by decide +kernel) (by decide +kernel)
set_option maxRecDepth 20000 in
theorem gX8_meetings_X8_refuse : GoodIn wsX8_meetings (wsV RX8 63 RX8 yX8_refuse wsX8_refuse) := goodIn_app (goodIn_of _ (by decide +kernel)) ggX8_meetings_X8_refuse
set_option maxRecDepth 20000 in
theorem ggX8_meetings_X6_start : GoodIn wsX8_meetings wsX6_start := goodIn_r _ [24, 25, 26, 27, 28, 29, 30, 31, 32, 33, 34, 35, 36, 37, 38, 39, 40, 41, 42, 43, 44, 45, 46, 47, 48, 49, 50, 51, 52, 53, 54, 12, 55, 56, 57, 58, 59, 23, 60, 61, 7, 62, 63, 64, 65, 66, 67, 68, 69, 70, 71, 72, 152, 153, 154, 155, 156, 157, 158, 159, 160, 161, 162, 163, 164, 132, 133, 134, 135, 136, 137, 138, 139, 140, 141, 142, 143, 144, 145, 146, 147, 148, 149, 150, 151, 165, 166, 167, 168, 169, 170] (by decide +kernel) (by decide +kernel)
set_option maxRecDepth 20000 in
theorem gX8_meetings_X6_start : GoodIn wsX8_meetings (wsV RX8 165 RX6 yX6_start wsX6_start) := goodIn_app (goodIn_of _ (by decide +kernel)) ggX8_meetings_X6_start
set_option maxRecDepth 20000 in
theorem ggX8_meetings_X6_pass : GoodIn wsX8_meetings wsX6_pass := goodIn_r _ [76, 26, 25, 32, 77, 33, 78, 79, 80, 23, 81, 27, 82, 30, 28, 83, 29, 84, 85, 86, 87, 12, 88, 89, 90, 91, 92, 93, 31, 94, 95, 96, 97, 98, 99, 56, 100, 101, 102, 103, 57, 58, 59, 60, 152, 153, 154, 155, 156, 157, 158, 159, 160, 161, 162, 163, 164, 132, 133, 134, 135, 136, 137, 138, 139, 140, 141, 142, 143, 144, 145, 146, 147, 148, 149, 150, 151] (by decide +kernel) (by decide +kernel)
set_option maxRecDepth 20000 in
theorem gX8_meetings_X6_pass : GoodIn wsX8_meetings (wsV RX8 188 RX6 yX6_pass wsX6_pass) := goodIn_app (goodIn_of _ (by decide +kernel)) ggX8_meetings_X6_pass
set_option maxRecDepth 20000 in
theorem ggX8_meetings_X6_atDoor : GoodIn wsX8_meetings wsX6_atDoor := goodIn_r _ [107, 25, 108, 109, 110, 23, 111, 33, 112, 113, 114, 12, 115, 116, 117, 118, 152, 153, 154, 155, 156, 157, 158, 159, 160, 161, 162, 163, 164, 132, 133, 134, 135, 136, 137, 138, 139, 140, 141, 142, 143, 144, 145, 146, 147, 148, 149, 150, 151] (by decide +kernel) (by decide +kernel)
set_option maxRecDepth 20000 in
theorem gX8_meetings_X6_atDoor : GoodIn wsX8_meetings (wsV RX8 194 RX6 yX6_atDoor wsX6_atDoor) := goodIn_app (goodIn_of _ (by decide +kernel)) ggX8_meetings_X6_atDoor
set_option maxRecDepth 20000 in
theorem ggX8_meetings_X8_answer : GoodIn wsX8_meetings wsX8_answer := goodIn_r _ [122, 19, 123, 124, 125, 126, 127, 128, 129, 130, 131] (by decide +kernel) (by decide +kernel)
set_option maxRecDepth 20000 in
theorem gX8_meetings_X8_answer : GoodIn wsX8_meetings (wsV RX8 97 RX8 yX8_answer wsX8_answer) := goodIn_app (goodIn_of _ (by decide +kernel)) ggX8_meetings_X8_answer
theorem dX8_meetings_0 : decode cX8_meetings 0 = .ok (.aload_n 0, 1) := by decide +kernel
theorem dX8_meetings_1 : decode cX8_meetings 1 = .ok (.iload_n 1, 1) := by decide +kernel
theorem dX8_meetings_2 : decode cX8_meetings 2 = .ok (.iload_n 2, 1) := by decide +kernel
theorem dX8_meetings_3 : decode cX8_meetings 3 = .ok (.invokevirtual 191, 3) := by decide +kernel
theorem dX8_meetings_6 : decode cX8_meetings 6 = .ok (.ifCond .ne 9, 3) := by decide +kernel
theorem dX8_meetings_9 : decode cX8_meetings 9 = .ok (.aload_n 0, 1) := by decide +kernel
theorem dX8_meetings_10 : decode cX8_meetings 10 = .ok (.iconst 1, 1) := by decide +kernel
theorem dX8_meetings_11 : decode cX8_meetings 11 = .ok (.invokevirtual 63, 3) := by decide +kernel
theorem dX8_meetings_14 : decode cX8_meetings 14 = .ok (.ireturn, 1) := by decide +kernel
theorem dX8_meetings_15 : decode cX8_meetings 15 = .ok (.iload_n 3, 1) := by decide +kernel
theorem dX8_meetings_16 : decode cX8_meetings 16 = .ok (.ifCond .lt 10, 3) := by decide +kernel
theorem dX8_meetings_19 : decode cX8_meetings 19 = .ok (.iload_n 3, 1) := by decide +kernel
theorem dX8_meetings_20 : decode cX8_meetings 20 = .ok (.sipush 200, 3) := by decide +kernel
theorem dX8_meetings_23 : decode cX8_meetings 23 = .ok (.if_icmp .le 9, 3) := by decide +kernel
theorem dX8_meetings_26 : decode cX8_meetings 26 = .ok (.aload_n 0, 1) := by decide +kernel
theorem dX8_meetings_27 : decode cX8_meetings 27 = .ok (.iconst 2, 1) := by decide +kernel
theorem dX8_meetings_28 : decode cX8_meetings 28 = .ok (.invokevirtual 63, 3) := by decide +kernel
theorem dX8_meetings_31 : decode cX8_meetings 31 = .ok (.ireturn, 1) := by decide +kernel
theorem dX8_meetings_32 : decode cX8_meetings 32 = .ok (.iconst 0, 1) := by decide +kernel
theorem dX8_meetings_33 : decode cX8_meetings 33 = .ok (.istore 4, 2) := by decide +kernel
theorem dX8_meetings_35 : decode cX8_meetings 35 = .ok (.aload_n 0, 1) := by decide +kernel
theorem dX8_meetings_36 : decode cX8_meetings 36 = .ok (.getfield 26, 3) := by decide +kernel
theorem dX8_meetings_39 : decode cX8_meetings 39 = .ok (.aload_n 0, 1) := by decide +kernel
theorem dX8_meetings_40 : decode cX8_meetings 40 = .ok (.getfield 47, 3) := by decide +kernel
theorem dX8_meetings_43 : decode cX8_meetings 43 = .ok (.aload_n 0, 1) := by decide +kernel
theorem dX8_meetings_44 : decode cX8_meetings 44 = .ok (.getfield 19, 3) := by decide +kernel
theorem dX8_meetings_47 : decode cX8_meetings 47 = .ok (.iconst 0, 1) := by decide +kernel
theorem dX8_meetings_48 : decode cX8_meetings 48 = .ok (.invokevirtual 165, 3) := by decide +kernel
theorem dX8_meetings_51 : decode cX8_meetings 51 = .ok (.iconst 1, 1) := by decide +kernel
theorem dX8_meetings_52 : decode cX8_meetings 52 = .ok (.istore 5, 2) := by decide +kernel
theorem dX8_meetings_54 : decode cX8_meetings 54 = .ok (.iload 5, 2) := by decide +kernel
theorem dX8_meetings_56 : decode cX8_meetings 56 = .ok (.iload_n 3, 1) := by decide +kernel
theorem dX8_meetings_57 : decode cX8_meetings 57 = .ok (.if_icmp .gt 39, 3) := by decide +kernel
theorem dX8_meetings_60 : decode cX8_meetings 60 = .ok (.aload_n 0, 1) := by decide +kernel
theorem dX8_meetings_61 : decode cX8_meetings 61 = .ok (.getfield 26, 3) := by decide +kernel
theorem dX8_meetings_64 : decode cX8_meetings 64 = .ok (.iconst 0, 1) := by decide +kernel
theorem dX8_meetings_65 : decode cX8_meetings 65 = .ok (.invokevirtual 188, 3) := by decide +kernel
theorem dX8_meetings_68 : decode cX8_meetings 68 = .ok (.iload 4, 2) := by decide +kernel
theorem dX8_meetings_70 : decode cX8_meetings 70 = .ok (.aload_n 0, 1) := by decide +kernel
theorem dX8_meetings_71 : decode cX8_meetings 71 = .ok (.getfield 26, 3) := by decide +kernel
theorem dX8_meetings_74 : decode cX8_meetings 74 = .ok (.iload_n 1, 1) := by decide +kernel
theorem dX8_meetings_75 : decode cX8_meetings 75 = .ok (.iload_n 2, 1) := by decide +kernel
theorem dX8_meetings_76 : decode cX8_meetings 76 = .ok (.invokevirtual 194, 3) := by decide +kernel
theorem dX8_meetings_79 : decode cX8_meetings 79 = .ok (.ifCond .eq 7, 3) := by decide +kernel
theorem dX8_meetings_82 : decode cX8_meetings 82 = .ok (.iconst 1, 1) := by decide +kernel
theorem dX8_meetings_83 : decode cX8_meetings 83 = .ok (.goto 4, 3) := by decide +kernel
theorem dX8_meetings_86 : decode cX8_meetings 86 = .ok (.iconst 0, 1) := by decide +kernel
theorem dX8_meetings_87 : decode cX8_meetings 87 = .ok (.iadd, 1) := by decide +kernel
theorem dX8_meetings_88 : decode cX8_meetings 88 = .ok (.istore 4, 2) := by decide +kernel
theorem dX8_meetings_90 : decode cX8_meetings 90 = .ok (.iinc 5 1, 3) := by decide +kernel
theorem dX8_meetings_93 : decode cX8_meetings 93 = .ok (.goto (-39), 3) := by decide +kernel
theorem dX8_meetings_96 : decode cX8_meetings 96 = .ok (.aload_n 0, 1) := by decide +kernel
theorem dX8_meetings_97 : decode cX8_meetings 97 = .ok (.iload 4, 2) := by decide +kernel
theorem dX8_meetings_99 : decode cX8_meetings 99 = .ok (.invokevirtual 97, 3) := by decide +kernel
theorem dX8_meetings_102 : decode cX8_meetings 102 = .ok (.ireturn, 1) := by decide +kernel
set_option maxRecDepth 20000 in
theorem ggX8_mostMeet_X4_stands : GoodIn wsX8_mostMeet wsX4_stands := goodIn_r _ [8, 9, 136, 137, 138, 139, 140, 141, 142, 143, 144, 145, 146, 147, 148, 149, 150, 151, 152, 153, 154, 155] (by decide +kernel) (by decide +kernel)
set_option maxRecDepth 20000 in
theorem gX8_mostMeet_X4_stands : GoodIn wsX8_mostMeet (wsV RX8 161 RX4 yX4_stands wsX4_stands) := goodIn_app (goodIn_of _ (by decide +kernel)) ggX8_mostMeet_X4_stands
set_option maxRecDepth 20000 in
theorem ggX8_mostMeet_X8_refuse : GoodIn wsX8_mostMeet wsX8_refuse := goodIn_r _ [14, 15, 127, 128, 129, 130, 131, 132, 133, 134, 135] (by decide +kernel) (by decide +kernel)
set_option maxRecDepth 20000 in
theorem gX8_mostMeet_X8_refuse : GoodIn wsX8_mostMeet (wsV RX8 63 RX8 yX8_refuse wsX8_refuse) := goodIn_app (goodIn_of _ (by decide +kernel)) ggX8_mostMeet_X8_refuse
set_option maxRecDepth 20000 in
theorem ggX8_mostMeet_X6_start : GoodIn wsX8_mostMeet wsX6_start := goodIn_r _ [20, 21, 22, 23, 24, 25, 26, 27, 28, 29, 30, 31, 32, 33, 34, 35, 36, 37, 38, 39, 40, 41, 42, 43, 44, 45, 46, 47, 48, 49, 50, 7, 51, 52, 53, 54, 55, 19, 56, 57, 13, 58, 59, 60, 61, 62, 63, 64, 65, 66, 67, 9, 156, 157, 158, 159, 160, 161, 162, 163, 164, 165, 166, 167, 168, 136, 137, 138, 139, 140, 141, 142, 143, 144, 145, 146, 147, 148, 149, 150, 151, 152, 153, 154, 155, 169, 170, 171, 172, 173, 174] (by decide +kernel) (by decide +kernel)
set_option maxRecDepth 20000 in
theorem gX8_mostMeet_X6_start : GoodIn wsX8_mostMeet (wsV RX8 165 RX6 yX6_start wsX6_start) := goodIn_app (goodIn_of _ (by decide +kernel)) ggX8_mostMeet_X6_start
set_option maxRecDepth 20000 in
theorem ggX8_mostMeet_X6_mostPair : GoodIn wsX8_mostMeet wsX6_mostPair := goodIn_r _ [71, 72, 21, 73, 40, 41, 42, 43, 74, 75, 76, 19, 77, 22, 28, 78, 29, 79, 80, 81, 82, 23, 83, 26, 24, 84, 25, 85, 86, 87, 88, 7, 89, 90, 91, 92, 93, 94, 27, 95, 96, 97, 98, 99, 100, 52, 101, 102, 103, 104, 53, 54, 55, 56, 105, 106, 107, 108, 109, 110, 111, 112, 113, 114, 115, 116, 117, 118, 119, 120, 121, 122, 156, 157, 158, 159, 160, 161, 162, 163, 164, 165, 166, 167, 168, 136, 137, 138, 139, 140, 141, 142, 143, 144, 145, 146, 147, 148, 149, 150, 151, 152, 153, 154, 155] (by decide +kernel) (by decide +kernel)
set_option maxRecDepth 20000 in
theorem gX8_mostMeet_X6_mostPair : GoodIn wsX8_mostMeet (wsV RX8 201 RX6 yX6_mostPair wsX6_mostPair) := goodIn_app (goodIn_of _ (by decide +kernel)) ggX8_mostMeet_X6_mostPair
set_option maxRecDepth 20000 in
theorem ggX8_mostMeet_X8_answer : GoodIn wsX8_mostMeet wsX8_answer := goodIn_r _ [126, 15, 127, 128, 129, 130, 131, 132, 133, 134, 135] (by decide +kernel) (by decide +kernel)
set_option maxRecDepth 20000 in
theorem gX8_mostMeet_X8_answer : GoodIn wsX8_mostMeet (wsV RX8 97 RX8 yX8_answer wsX8_answer) := goodIn_app (goodIn_of _ (by decide +kernel)) ggX8_mostMeet_X8_answer
theorem dX8_mostMeet_0 : decode cX8_mostMeet 0 = .ok (.aload_n 0, 1) := by decide +kernel
theorem dX8_mostMeet_1 : decode cX8_mostMeet 1 = .ok (.getfield 47, 3) := by decide +kernel
theorem dX8_mostMeet_4 : decode cX8_mostMeet 4 = .ok (.invokevirtual 161, 3) := by decide +kernel
theorem dX8_mostMeet_7 : decode cX8_mostMeet 7 = .ok (.ifCond .ne 9, 3) := by decide +kernel
theorem dX8_mostMeet_10 : decode cX8_mostMeet 10 = .ok (.aload_n 0, 1) := by decide +kernel
theorem dX8_mostMeet_11 : decode cX8_mostMeet 11 = .ok (.iconst 1, 1) := by decide +kernel
theorem dX8_mostMeet_12 : decode cX8_mostMeet 12 = .ok (.invokevirtual 63, 3) := by decide +kernel
theorem dX8_mostMeet_15 : decode cX8_mostMeet 15 = .ok (.ireturn, 1) := by decide +kernel
theorem dX8_mostMeet_16 : decode cX8_mostMeet 16 = .ok (.aload_n 0, 1) := by decide +kernel
theorem dX8_mostMeet_17 : decode cX8_mostMeet 17 = .ok (.getfield 26, 3) := by decide +kernel
theorem dX8_mostMeet_20 : decode cX8_mostMeet 20 = .ok (.aload_n 0, 1) := by decide +kernel
theorem dX8_mostMeet_21 : decode cX8_mostMeet 21 = .ok (.getfield 47, 3) := by decide +kernel
theorem dX8_mostMeet_24 : decode cX8_mostMeet 24 = .ok (.aload_n 0, 1) := by decide +kernel
theorem dX8_mostMeet_25 : decode cX8_mostMeet 25 = .ok (.getfield 19, 3) := by decide +kernel
theorem dX8_mostMeet_28 : decode cX8_mostMeet 28 = .ok (.iconst 0, 1) := by decide +kernel
theorem dX8_mostMeet_29 : decode cX8_mostMeet 29 = .ok (.invokevirtual 165, 3) := by decide +kernel
theorem dX8_mostMeet_32 : decode cX8_mostMeet 32 = .ok (.aload_n 0, 1) := by decide +kernel
theorem dX8_mostMeet_33 : decode cX8_mostMeet 33 = .ok (.aload_n 0, 1) := by decide +kernel
theorem dX8_mostMeet_34 : decode cX8_mostMeet 34 = .ok (.getfield 26, 3) := by decide +kernel
theorem dX8_mostMeet_37 : decode cX8_mostMeet 37 = .ok (.bipush 60, 2) := by decide +kernel
theorem dX8_mostMeet_39 : decode cX8_mostMeet 39 = .ok (.invokevirtual 201, 3) := by decide +kernel
theorem dX8_mostMeet_42 : decode cX8_mostMeet 42 = .ok (.invokevirtual 97, 3) := by decide +kernel
theorem dX8_mostMeet_45 : decode cX8_mostMeet 45 = .ok (.ireturn, 1) := by decide +kernel
set_option maxRecDepth 20000 in
theorem ggX8_toWiden_X4_stands : GoodIn wsX8_toWiden wsX4_stands := goodIn_r _ [8, 9, 138, 139, 140, 141, 142, 143, 144, 145, 146, 147, 148, 149, 150, 151, 152, 153, 154, 155, 156, 157] (by decide +kernel) (by decide +kernel)
set_option maxRecDepth 20000 in
theorem gX8_toWiden_X4_stands : GoodIn wsX8_toWiden (wsV RX8 161 RX4 yX4_stands wsX4_stands) := goodIn_app (goodIn_of _ (by decide +kernel)) ggX8_toWiden_X4_stands
set_option maxRecDepth 20000 in
theorem ggX8_toWiden_X8_refuse : GoodIn wsX8_toWiden wsX8_refuse := goodIn_r _ [14, 15, 129, 130, 131, 132, 133, 134, 135, 136, 137] (by decide +kernel) (by decide +kernel)
set_option maxRecDepth 20000 in
theorem gX8_toWiden_X8_refuse : GoodIn wsX8_toWiden (wsV RX8 63 RX8 yX8_refuse wsX8_refuse) := goodIn_app (goodIn_of _ (by decide +kernel)) ggX8_toWiden_X8_refuse
set_option maxRecDepth 20000 in
theorem ggX8_toWiden_X6_start : GoodIn wsX8_toWiden wsX6_start := goodIn_r _ [20, 21, 22, 23, 24, 25, 26, 27, 28, 29, 30, 31, 32, 33, 34, 35, 36, 37, 38, 39, 40, 41, 42, 43, 44, 45, 46, 47, 48, 49, 50, 7, 51, 52, 53, 54, 55, 19, 56, 57, 13, 58, 59, 60, 61, 62, 63, 64, 65, 66, 67, 9, 158, 159, 160, 161, 162, 163, 164, 165, 166, 167, 168, 169, 170, 138, 139, 140, 141, 142, 143, 144, 145, 146, 147, 148, 149, 150, 151, 152, 153, 154, 155, 156, 157, 171, 172, 173, 174, 175, 176] (by decide +kernel) (by decide +kernel)
set_option maxRecDepth 20000 in
theorem gX8_toWiden_X6_start : GoodIn wsX8_toWiden (wsV RX8 165 RX6 yX6_start wsX6_start) := goodIn_app (goodIn_of _ (by decide +kernel)) ggX8_toWiden_X6_start
set_option maxRecDepth 20000 in
theorem ggX8_toWiden_X6_goOn : GoodIn wsX8_toWiden wsX6_goOn := goodIn_r _ [71, 72, 73, 74, 75, 19, 76, 22, 21, 28, 29, 77, 78, 79, 80, 23, 81, 26, 24, 82, 25, 83, 84, 85, 86, 7, 87, 88, 89, 90, 91, 92, 27, 93, 94, 95, 96, 97, 98, 52, 99, 100, 101, 102, 53, 54, 55, 56, 103, 104, 105, 106, 107, 108, 109, 158, 159, 160, 161, 162, 163, 164, 165, 166, 167, 168, 169, 170, 138, 139, 140, 141, 142, 143, 144, 145, 146, 147, 148, 149, 150, 151, 152, 153, 154, 155, 156, 157] (by decide +kernel) (by decide +kernel)
set_option maxRecDepth 20000 in
theorem gX8_toWiden_X6_goOn : GoodIn wsX8_toWiden (wsV RX8 181 RX6 yX6_goOn wsX6_goOn) := goodIn_app (goodIn_of _ (by decide +kernel)) ggX8_toWiden_X6_goOn
set_option maxRecDepth 20000 in
theorem ggX8_toWiden_X4_widthOf : GoodIn wsX8_toWiden wsX4_widthOf := goodIn_r _ [113, 98, 138, 139, 140, 141, 142, 143, 144, 145, 146, 147, 148, 149, 150, 151, 152, 153, 154, 155, 156, 157] (by decide +kernel) (by decide +kernel)
set_option maxRecDepth 20000 in
theorem gX8_toWiden_X4_widthOf : GoodIn wsX8_toWiden (wsV RX8 155 RX4 yX4_widthOf wsX4_widthOf) := goodIn_app (goodIn_of _ (by decide +kernel)) ggX8_toWiden_X4_widthOf
set_option maxRecDepth 20000 in
theorem ggX8_toWiden_X6_widen : GoodIn wsX8_toWiden wsX6_widen := goodIn_r _ [117, 26, 158, 159, 160, 161, 162, 163, 164, 165, 166, 167, 168, 169, 170] (by decide +kernel) (by decide +kernel)
set_option maxRecDepth 20000 in
theorem gX8_toWiden_X6_widen : GoodIn wsX8_toWiden (wsV RX8 204 RX6 yX6_widen wsX6_widen) := goodIn_app (goodIn_of _ (by decide +kernel)) ggX8_toWiden_X6_widen
set_option maxRecDepth 20000 in
theorem ggX8_toWiden_X8_tenfold : GoodIn wsX8_toWiden wsX8_tenfold := goodIn_r _ [120, 121, 57, 13, 58, 122, 123, 124] (by decide +kernel) (by decide +kernel)
set_option maxRecDepth 20000 in
theorem gX8_toWiden_X8_tenfold : GoodIn wsX8_toWiden (va_wsS RX8 185 yX8_tenfold wsX8_tenfold) := goodIn_app (goodIn_of _ (by decide +kernel)) ggX8_toWiden_X8_tenfold
set_option maxRecDepth 20000 in
theorem ggX8_toWiden_X8_answer : GoodIn wsX8_toWiden wsX8_answer := goodIn_r _ [128, 15, 129, 130, 131, 132, 133, 134, 135, 136, 137] (by decide +kernel) (by decide +kernel)
set_option maxRecDepth 20000 in
theorem gX8_toWiden_X8_answer : GoodIn wsX8_toWiden (wsV RX8 97 RX8 yX8_answer wsX8_answer) := goodIn_app (goodIn_of _ (by decide +kernel)) ggX8_toWiden_X8_answer
theorem dX8_toWiden_0 : decode cX8_toWiden 0 = .ok (.aload_n 0, 1) := by decide +kernel
theorem dX8_toWiden_1 : decode cX8_toWiden 1 = .ok (.getfield 47, 3) := by decide +kernel
theorem dX8_toWiden_4 : decode cX8_toWiden 4 = .ok (.invokevirtual 161, 3) := by decide +kernel
theorem dX8_toWiden_7 : decode cX8_toWiden 7 = .ok (.ifCond .ne 9, 3) := by decide +kernel
theorem dX8_toWiden_10 : decode cX8_toWiden 10 = .ok (.aload_n 0, 1) := by decide +kernel
theorem dX8_toWiden_11 : decode cX8_toWiden 11 = .ok (.iconst 1, 1) := by decide +kernel
theorem dX8_toWiden_12 : decode cX8_toWiden 12 = .ok (.invokevirtual 63, 3) := by decide +kernel
theorem dX8_toWiden_15 : decode cX8_toWiden 15 = .ok (.ireturn, 1) := by decide +kernel
theorem dX8_toWiden_16 : decode cX8_toWiden 16 = .ok (.aload_n 0, 1) := by decide +kernel
theorem dX8_toWiden_17 : decode cX8_toWiden 17 = .ok (.getfield 26, 3) := by decide +kernel
theorem dX8_toWiden_20 : decode cX8_toWiden 20 = .ok (.aload_n 0, 1) := by decide +kernel
theorem dX8_toWiden_21 : decode cX8_toWiden 21 = .ok (.getfield 47, 3) := by decide +kernel
theorem dX8_toWiden_24 : decode cX8_toWiden 24 = .ok (.aload_n 0, 1) := by decide +kernel
theorem dX8_toWiden_25 : decode cX8_toWiden 25 = .ok (.getfield 19, 3) := by decide +kernel
theorem dX8_toWiden_28 : decode cX8_toWiden 28 = .ok (.iconst 0, 1) := by decide +kernel
theorem dX8_toWiden_29 : decode cX8_toWiden 29 = .ok (.invokevirtual 165, 3) := by decide +kernel
theorem dX8_toWiden_32 : decode cX8_toWiden 32 = .ok (.aload_n 0, 1) := by decide +kernel
theorem dX8_toWiden_33 : decode cX8_toWiden 33 = .ok (.getfield 26, 3) := by decide +kernel
theorem dX8_toWiden_36 : decode cX8_toWiden 36 = .ok (.bipush 60, 2) := by decide +kernel
theorem dX8_toWiden_38 : decode cX8_toWiden 38 = .ok (.invokevirtual 181, 3) := by decide +kernel
theorem dX8_toWiden_41 : decode cX8_toWiden 41 = .ok (.istore_n 1, 1) := by decide +kernel
theorem dX8_toWiden_42 : decode cX8_toWiden 42 = .ok (.bipush (-2), 2) := by decide +kernel
theorem dX8_toWiden_44 : decode cX8_toWiden 44 = .ok (.istore_n 2, 1) := by decide +kernel
theorem dX8_toWiden_45 : decode cX8_toWiden 45 = .ok (.iconst 0, 1) := by decide +kernel
theorem dX8_toWiden_46 : decode cX8_toWiden 46 = .ok (.istore_n 3, 1) := by decide +kernel
theorem dX8_toWiden_47 : decode cX8_toWiden 47 = .ok (.iload_n 3, 1) := by decide +kernel
theorem dX8_toWiden_48 : decode cX8_toWiden 48 = .ok (.bipush 36, 2) := by decide +kernel
theorem dX8_toWiden_50 : decode cX8_toWiden 50 = .ok (.if_icmp .ge 71, 3) := by decide +kernel
theorem dX8_toWiden_53 : decode cX8_toWiden 53 = .ok (.aload_n 0, 1) := by decide +kernel
theorem dX8_toWiden_54 : decode cX8_toWiden 54 = .ok (.getfield 47, 3) := by decide +kernel
theorem dX8_toWiden_57 : decode cX8_toWiden 57 = .ok (.iload_n 3, 1) := by decide +kernel
theorem dX8_toWiden_58 : decode cX8_toWiden 58 = .ok (.invokevirtual 155, 3) := by decide +kernel
theorem dX8_toWiden_61 : decode cX8_toWiden 61 = .ok (.bipush 10, 2) := by decide +kernel
theorem dX8_toWiden_63 : decode cX8_toWiden 63 = .ok (.if_icmp .eq 52, 3) := by decide +kernel
theorem dX8_toWiden_66 : decode cX8_toWiden 66 = .ok (.aload_n 0, 1) := by decide +kernel
theorem dX8_toWiden_67 : decode cX8_toWiden 67 = .ok (.getfield 26, 3) := by decide +kernel
theorem dX8_toWiden_70 : decode cX8_toWiden 70 = .ok (.aload_n 0, 1) := by decide +kernel
theorem dX8_toWiden_71 : decode cX8_toWiden 71 = .ok (.getfield 47, 3) := by decide +kernel
theorem dX8_toWiden_74 : decode cX8_toWiden 74 = .ok (.aload_n 0, 1) := by decide +kernel
theorem dX8_toWiden_75 : decode cX8_toWiden 75 = .ok (.getfield 19, 3) := by decide +kernel
theorem dX8_toWiden_78 : decode cX8_toWiden 78 = .ok (.iconst 0, 1) := by decide +kernel
theorem dX8_toWiden_79 : decode cX8_toWiden 79 = .ok (.invokevirtual 165, 3) := by decide +kernel
theorem dX8_toWiden_82 : decode cX8_toWiden 82 = .ok (.aload_n 0, 1) := by decide +kernel
theorem dX8_toWiden_83 : decode cX8_toWiden 83 = .ok (.getfield 26, 3) := by decide +kernel
theorem dX8_toWiden_86 : decode cX8_toWiden 86 = .ok (.iload_n 3, 1) := by decide +kernel
theorem dX8_toWiden_87 : decode cX8_toWiden 87 = .ok (.invokevirtual 204, 3) := by decide +kernel
theorem dX8_toWiden_90 : decode cX8_toWiden 90 = .ok (.aload_n 0, 1) := by decide +kernel
theorem dX8_toWiden_91 : decode cX8_toWiden 91 = .ok (.getfield 26, 3) := by decide +kernel
theorem dX8_toWiden_94 : decode cX8_toWiden 94 = .ok (.bipush 60, 2) := by decide +kernel
theorem dX8_toWiden_96 : decode cX8_toWiden 96 = .ok (.invokevirtual 181, 3) := by decide +kernel
theorem dX8_toWiden_99 : decode cX8_toWiden 99 = .ok (.istore 4, 2) := by decide +kernel
theorem dX8_toWiden_101 : decode cX8_toWiden 101 = .ok (.iload 4, 2) := by decide +kernel
theorem dX8_toWiden_103 : decode cX8_toWiden 103 = .ok (.iload_n 1, 1) := by decide +kernel
theorem dX8_toWiden_104 : decode cX8_toWiden 104 = .ok (.if_icmp .le 11, 3) := by decide +kernel
theorem dX8_toWiden_107 : decode cX8_toWiden 107 = .ok (.iload 4, 2) := by decide +kernel
theorem dX8_toWiden_109 : decode cX8_toWiden 109 = .ok (.istore_n 1, 1) := by decide +kernel
theorem dX8_toWiden_110 : decode cX8_toWiden 110 = .ok (.iload_n 3, 1) := by decide +kernel
theorem dX8_toWiden_111 : decode cX8_toWiden 111 = .ok (.invokestatic 185, 3) := by decide +kernel
theorem dX8_toWiden_114 : decode cX8_toWiden 114 = .ok (.istore_n 2, 1) := by decide +kernel
theorem dX8_toWiden_115 : decode cX8_toWiden 115 = .ok (.iinc 3 1, 3) := by decide +kernel
theorem dX8_toWiden_118 : decode cX8_toWiden 118 = .ok (.goto (-71), 3) := by decide +kernel
theorem dX8_toWiden_121 : decode cX8_toWiden 121 = .ok (.aload_n 0, 1) := by decide +kernel
theorem dX8_toWiden_122 : decode cX8_toWiden 122 = .ok (.iload_n 2, 1) := by decide +kernel
theorem dX8_toWiden_123 : decode cX8_toWiden 123 = .ok (.invokevirtual 97, 3) := by decide +kernel
theorem dX8_toWiden_126 : decode cX8_toWiden 126 = .ok (.ireturn, 1) := by decide +kernel
set_option maxRecDepth 20000 in
theorem ggX8_worstHeld_X4_stands : GoodIn wsX8_worstHeld wsX4_stands := goodIn_r _ [9, 10, 124, 125, 126, 127, 128, 129, 130, 131, 132, 133, 134, 135, 136, 137, 138, 139, 140, 141, 142, 143] (by decide +kernel) (by decide +kernel)
set_option maxRecDepth 20000 in
theorem gX8_worstHeld_X4_stands : GoodIn wsX8_worstHeld (wsV RX8 161 RX4 yX4_stands wsX4_stands) := goodIn_app (goodIn_of _ (by decide +kernel)) ggX8_worstHeld_X4_stands
set_option maxRecDepth 20000 in
theorem ggX8_worstHeld_X8_refuse : GoodIn wsX8_worstHeld wsX8_refuse := goodIn_r _ [15, 16, 115, 116, 117, 118, 119, 120, 121, 122, 123] (by decide +kernel) (by decide +kernel)
set_option maxRecDepth 20000 in
theorem gX8_worstHeld_X8_refuse : GoodIn wsX8_worstHeld (wsV RX8 63 RX8 yX8_refuse wsX8_refuse) := goodIn_app (goodIn_of _ (by decide +kernel)) ggX8_worstHeld_X8_refuse
set_option maxRecDepth 20000 in
theorem ggX8_worstHeld_X6_start : GoodIn wsX8_worstHeld wsX6_start := goodIn_r _ [21, 22, 23, 24, 25, 26, 27, 28, 29, 30, 31, 32, 33, 34, 35, 36, 37, 38, 39, 40, 41, 42, 43, 44, 45, 46, 47, 48, 49, 50, 51, 8, 52, 53, 54, 55, 56, 20, 57, 58, 14, 59, 60, 61, 62, 63, 64, 65, 66, 67, 68, 10, 144, 145, 146, 147, 148, 149, 150, 151, 152, 153, 154, 155, 156, 124, 125, 126, 127, 128, 129, 130, 131, 132, 133, 134, 135, 136, 137, 138, 139, 140, 141, 142, 143, 157, 158, 159, 160, 161, 162] (by decide +kernel) (by decide +kernel)
set_option maxRecDepth 20000 in
theorem gX8_worstHeld_X6_start : GoodIn wsX8_worstHeld (wsV RX8 165 RX6 yX6_start wsX6_start) := goodIn_app (goodIn_of _ (by decide +kernel)) ggX8_worstHeld_X6_start
set_option maxRecDepth 20000 in
theorem ggX8_worstHeld_X6_goOn : GoodIn wsX8_worstHeld wsX6_goOn := goodIn_r _ [72, 73, 74, 75, 76, 20, 77, 23, 22, 29, 30, 78, 79, 80, 81, 24, 82, 27, 25, 83, 26, 84, 85, 86, 87, 8, 88, 89, 90, 91, 92, 93, 28, 94, 95, 96, 97, 98, 99, 53, 100, 101, 102, 103, 54, 55, 56, 57, 104, 105, 106, 107, 108, 109, 110, 144, 145, 146, 147, 148, 149, 150, 151, 152, 153, 154, 155, 156, 124, 125, 126, 127, 128, 129, 130, 131, 132, 133, 134, 135, 136, 137, 138, 139, 140, 141, 142, 143] (by decide +kernel) (by decide +kernel)
set_option maxRecDepth 20000 in
theorem gX8_worstHeld_X6_goOn : GoodIn wsX8_worstHeld (wsV RX8 181 RX6 yX6_goOn wsX6_goOn) := goodIn_app (goodIn_of _ (by decide +kernel)) ggX8_worstHeld_X6_goOn
set_option maxRecDepth 20000 in
theorem ggX8_worstHeld_X8_answer : GoodIn wsX8_worstHeld wsX8_answer := goodIn_r _ [114, 16, 115, 116, 117, 118, 119, 120, 121, 122, 123] (by decide +kernel) (by decide +kernel)
set_option maxRecDepth 20000 in
theorem gX8_worstHeld_X8_answer : GoodIn wsX8_worstHeld (wsV RX8 97 RX8 yX8_answer wsX8_answer) := goodIn_app (goodIn_of _ (by decide +kernel)) ggX8_worstHeld_X8_answer
theorem dX8_worstHeld_0 : decode cX8_worstHeld 0 = .ok (.aload_n 0, 1) := by decide +kernel
theorem dX8_worstHeld_1 : decode cX8_worstHeld 1 = .ok (.getfield 47, 3) := by decide +kernel
theorem dX8_worstHeld_4 : decode cX8_worstHeld 4 = .ok (.invokevirtual 161, 3) := by decide +kernel
theorem dX8_worstHeld_7 : decode cX8_worstHeld 7 = .ok (.ifCond .ne 9, 3) := by decide +kernel
theorem dX8_worstHeld_10 : decode cX8_worstHeld 10 = .ok (.aload_n 0, 1) := by decide +kernel
theorem dX8_worstHeld_11 : decode cX8_worstHeld 11 = .ok (.iconst 1, 1) := by decide +kernel
theorem dX8_worstHeld_12 : decode cX8_worstHeld 12 = .ok (.invokevirtual 63, 3) := by decide +kernel
theorem dX8_worstHeld_15 : decode cX8_worstHeld 15 = .ok (.ireturn, 1) := by decide +kernel
theorem dX8_worstHeld_16 : decode cX8_worstHeld 16 = .ok (.iload_n 1, 1) := by decide +kernel
theorem dX8_worstHeld_17 : decode cX8_worstHeld 17 = .ok (.ifCond .lt 9, 3) := by decide +kernel
theorem dX8_worstHeld_20 : decode cX8_worstHeld 20 = .ok (.iload_n 1, 1) := by decide +kernel
theorem dX8_worstHeld_21 : decode cX8_worstHeld 21 = .ok (.bipush 60, 2) := by decide +kernel
theorem dX8_worstHeld_23 : decode cX8_worstHeld 23 = .ok (.if_icmp .le 9, 3) := by decide +kernel
theorem dX8_worstHeld_26 : decode cX8_worstHeld 26 = .ok (.aload_n 0, 1) := by decide +kernel
theorem dX8_worstHeld_27 : decode cX8_worstHeld 27 = .ok (.iconst 2, 1) := by decide +kernel
theorem dX8_worstHeld_28 : decode cX8_worstHeld 28 = .ok (.invokevirtual 63, 3) := by decide +kernel
theorem dX8_worstHeld_31 : decode cX8_worstHeld 31 = .ok (.ireturn, 1) := by decide +kernel
theorem dX8_worstHeld_32 : decode cX8_worstHeld 32 = .ok (.iconst 0, 1) := by decide +kernel
theorem dX8_worstHeld_33 : decode cX8_worstHeld 33 = .ok (.istore_n 2, 1) := by decide +kernel
theorem dX8_worstHeld_34 : decode cX8_worstHeld 34 = .ok (.bipush (-2), 2) := by decide +kernel
theorem dX8_worstHeld_36 : decode cX8_worstHeld 36 = .ok (.istore_n 3, 1) := by decide +kernel
theorem dX8_worstHeld_37 : decode cX8_worstHeld 37 = .ok (.iconst 0, 1) := by decide +kernel
theorem dX8_worstHeld_38 : decode cX8_worstHeld 38 = .ok (.istore 4, 2) := by decide +kernel
theorem dX8_worstHeld_40 : decode cX8_worstHeld 40 = .ok (.iload 4, 2) := by decide +kernel
theorem dX8_worstHeld_42 : decode cX8_worstHeld 42 = .ok (.aload_n 0, 1) := by decide +kernel
theorem dX8_worstHeld_43 : decode cX8_worstHeld 43 = .ok (.getfield 47, 3) := by decide +kernel
theorem dX8_worstHeld_46 : decode cX8_worstHeld 46 = .ok (.getfield 106, 3) := by decide +kernel
theorem dX8_worstHeld_49 : decode cX8_worstHeld 49 = .ok (.if_icmp .ge 56, 3) := by decide +kernel
theorem dX8_worstHeld_52 : decode cX8_worstHeld 52 = .ok (.aload_n 0, 1) := by decide +kernel
theorem dX8_worstHeld_53 : decode cX8_worstHeld 53 = .ok (.getfield 26, 3) := by decide +kernel
theorem dX8_worstHeld_56 : decode cX8_worstHeld 56 = .ok (.aload_n 0, 1) := by decide +kernel
theorem dX8_worstHeld_57 : decode cX8_worstHeld 57 = .ok (.getfield 47, 3) := by decide +kernel
theorem dX8_worstHeld_60 : decode cX8_worstHeld 60 = .ok (.aload_n 0, 1) := by decide +kernel
theorem dX8_worstHeld_61 : decode cX8_worstHeld 61 = .ok (.getfield 19, 3) := by decide +kernel
theorem dX8_worstHeld_64 : decode cX8_worstHeld 64 = .ok (.iconst 1, 1) := by decide +kernel
theorem dX8_worstHeld_65 : decode cX8_worstHeld 65 = .ok (.iload 4, 2) := by decide +kernel
theorem dX8_worstHeld_67 : decode cX8_worstHeld 67 = .ok (.ishl, 1) := by decide +kernel
theorem dX8_worstHeld_68 : decode cX8_worstHeld 68 = .ok (.invokevirtual 165, 3) := by decide +kernel
theorem dX8_worstHeld_71 : decode cX8_worstHeld 71 = .ok (.aload_n 0, 1) := by decide +kernel
theorem dX8_worstHeld_72 : decode cX8_worstHeld 72 = .ok (.getfield 26, 3) := by decide +kernel
theorem dX8_worstHeld_75 : decode cX8_worstHeld 75 = .ok (.iload_n 1, 1) := by decide +kernel
theorem dX8_worstHeld_76 : decode cX8_worstHeld 76 = .ok (.invokevirtual 181, 3) := by decide +kernel
theorem dX8_worstHeld_79 : decode cX8_worstHeld 79 = .ok (.istore 5, 2) := by decide +kernel
theorem dX8_worstHeld_81 : decode cX8_worstHeld 81 = .ok (.iload_n 3, 1) := by decide +kernel
theorem dX8_worstHeld_82 : decode cX8_worstHeld 82 = .ok (.bipush (-2), 2) := by decide +kernel
theorem dX8_worstHeld_84 : decode cX8_worstHeld 84 = .ok (.if_icmp .eq 9, 3) := by decide +kernel
theorem dX8_worstHeld_87 : decode cX8_worstHeld 87 = .ok (.iload 5, 2) := by decide +kernel
theorem dX8_worstHeld_89 : decode cX8_worstHeld 89 = .ok (.iload_n 2, 1) := by decide +kernel
theorem dX8_worstHeld_90 : decode cX8_worstHeld 90 = .ok (.if_icmp .ge 9, 3) := by decide +kernel
theorem dX8_worstHeld_93 : decode cX8_worstHeld 93 = .ok (.iload 5, 2) := by decide +kernel
theorem dX8_worstHeld_95 : decode cX8_worstHeld 95 = .ok (.istore_n 2, 1) := by decide +kernel
theorem dX8_worstHeld_96 : decode cX8_worstHeld 96 = .ok (.iload 4, 2) := by decide +kernel
theorem dX8_worstHeld_98 : decode cX8_worstHeld 98 = .ok (.istore_n 3, 1) := by decide +kernel
theorem dX8_worstHeld_99 : decode cX8_worstHeld 99 = .ok (.iinc 4 1, 3) := by decide +kernel
theorem dX8_worstHeld_102 : decode cX8_worstHeld 102 = .ok (.goto (-62), 3) := by decide +kernel
theorem dX8_worstHeld_105 : decode cX8_worstHeld 105 = .ok (.aload_n 0, 1) := by decide +kernel
theorem dX8_worstHeld_106 : decode cX8_worstHeld 106 = .ok (.iload_n 3, 1) := by decide +kernel
theorem dX8_worstHeld_107 : decode cX8_worstHeld 107 = .ok (.invokevirtual 97, 3) := by decide +kernel
theorem dX8_worstHeld_110 : decode cX8_worstHeld 110 = .ok (.ireturn, 1) := by decide +kernel
set_option maxRecDepth 20000 in
theorem ggX8_holds_X4_hasThing : GoodIn wsX8_holds wsX4_hasThing := goodIn_r _ [8, 9, 178, 179, 180, 181, 182, 183, 184, 185, 186, 187, 188, 189, 190, 191, 192, 193, 194, 195, 196, 197] (by decide +kernel) (by decide +kernel)
set_option maxRecDepth 20000 in
theorem gX8_holds_X4_hasThing : GoodIn wsX8_holds (wsV RX8 124 RX4 yX4_hasThing wsX4_hasThing) := goodIn_app (goodIn_of _ (by decide +kernel)) ggX8_holds_X4_hasThing
set_option maxRecDepth 20000 in
theorem ggX8_holds_X4_hasPlace : GoodIn wsX8_holds wsX4_hasPlace := goodIn_r _ [13, 14, 15, 16, 17, 7, 18, 19, 178, 179, 180, 181, 182, 183, 184, 185, 186, 187, 188, 189, 190, 191, 192, 193, 194, 195, 196, 197] (by decide +kernel) (by decide +kernel)
set_option maxRecDepth 20000 in
theorem gX8_holds_X4_hasPlace : GoodIn wsX8_holds (wsV RX8 145 RX4 yX4_hasPlace wsX4_hasPlace) := goodIn_app (goodIn_of _ (by decide +kernel)) ggX8_holds_X4_hasPlace
set_option maxRecDepth 20000 in
theorem ggX8_holds_X8_refuse : GoodIn wsX8_holds wsX8_refuse := goodIn_r _ [24, 25, 169, 170, 171, 172, 173, 174, 175, 176, 177] (by decide +kernel) (by decide +kernel)
set_option maxRecDepth 20000 in
theorem gX8_holds_X8_refuse : GoodIn wsX8_holds (wsV RX8 63 RX8 yX8_refuse wsX8_refuse) := goodIn_app (goodIn_of _ (by decide +kernel)) ggX8_holds_X8_refuse
set_option maxRecDepth 20000 in
theorem ggX8_holds_X1_cellOf : GoodIn wsX8_holds wsX1_cellOf := goodIn_r _ [30, 31, 198, 199, 200, 201, 202, 203] (by decide +kernel) (by decide +kernel)
set_option maxRecDepth 20000 in
theorem gX8_holds_X1_cellOf : GoodIn wsX8_holds (wsV RX8 130 RX1 yX1_cellOf wsX1_cellOf) := goodIn_app (goodIn_of _ (by decide +kernel)) ggX8_holds_X1_cellOf
set_option maxRecDepth 20000 in
theorem ggX8_holds_X8_ringOfCell : GoodIn wsX8_holds wsX8_ringOfCell := goodIn_r _ [34] (by decide +kernel) (by decide +kernel)
set_option maxRecDepth 20000 in
theorem gX8_holds_X8_ringOfCell : GoodIn wsX8_holds (va_wsS RX8 133 yX8_ringOfCell wsX8_ringOfCell) := goodIn_app (goodIn_of _ (by decide +kernel)) ggX8_holds_X8_ringOfCell
set_option maxRecDepth 20000 in
theorem ggX8_holds_X8_answer : GoodIn wsX8_holds wsX8_answer := goodIn_r _ [38, 25, 169, 170, 171, 172, 173, 174, 175, 176, 177] (by decide +kernel) (by decide +kernel)
set_option maxRecDepth 20000 in
theorem gX8_holds_X8_answer : GoodIn wsX8_holds (wsV RX8 97 RX8 yX8_answer wsX8_answer) := goodIn_app (goodIn_of _ (by decide +kernel)) ggX8_holds_X8_answer
set_option maxRecDepth 20000 in
theorem ggX8_holds_X8_cellAt : GoodIn wsX8_holds wsX8_cellAt := goodIn_r _ [41] (by decide +kernel) (by decide +kernel)
set_option maxRecDepth 20000 in
theorem gX8_holds_X8_cellAt : GoodIn wsX8_holds (va_wsS RX8 149 yX8_cellAt wsX8_cellAt) := goodIn_app (goodIn_of _ (by decide +kernel)) ggX8_holds_X8_cellAt
set_option maxRecDepth 20000 in
theorem ggX8_holds_X3_fewestForPlace : GoodIn wsX8_holds wsX3_fewestForPlace := goodIn_r _ [46, 47, 48, 49, 45, 50, 51, 52, 27, 28, 29, 30, 31, 33, 23, 34, 53, 54, 55, 56, 57, 58, 59, 60, 61, 62, 63, 7, 64, 65, 66, 67, 68, 69, 70, 71, 72, 73, 74, 75, 76, 77, 78, 79, 80, 81, 82, 83, 84, 85, 86, 87, 88, 89, 90, 91, 92, 93, 94, 95, 96, 97, 98, 99, 100, 101, 102, 103, 104, 105, 106, 107, 108, 109, 110, 111, 112, 15, 16, 17, 18, 19, 113, 114, 115, 116, 117, 118, 119, 120, 121, 122, 123, 124, 125, 126, 127, 128, 129, 130, 131, 132, 133, 134, 135, 136, 137, 138, 139, 140, 141, 142, 143, 144, 145, 146, 147, 148, 149, 150, 151, 152, 153, 154, 155, 156, 157, 158, 159, 160, 161, 162, 163, 164, 165, 166, 167, 168, 204, 198, 199, 200, 201, 202, 203, 178, 179, 180, 181, 182, 183, 184, 185, 186, 187, 188, 189, 190, 191, 192, 193, 194, 195, 196, 197, 205, 206, 207, 208, 209, 210, 211, 212, 213, 214, 215, 216, 217] (by decide +kernel) (by decide +kernel)
set_option maxRecDepth 20000 in
theorem gX8_holds_X3_fewestForPlace : GoodIn wsX8_holds (wsV RX8 207 RX3 yX3_fewestForPlace wsX3_fewestForPlace) := goodIn_app (goodIn_of _ (by decide +kernel)) ggX8_holds_X3_fewestForPlace
theorem dX8_holds_0 : decode cX8_holds 0 = .ok (.aload_n 0, 1) := by decide +kernel
theorem dX8_holds_1 : decode cX8_holds 1 = .ok (.getfield 47, 3) := by decide +kernel
theorem dX8_holds_4 : decode cX8_holds 4 = .ok (.iload_n 1, 1) := by decide +kernel
theorem dX8_holds_5 : decode cX8_holds 5 = .ok (.invokevirtual 124, 3) := by decide +kernel
theorem dX8_holds_8 : decode cX8_holds 8 = .ok (.ifCond .eq 15, 3) := by decide +kernel
theorem dX8_holds_11 : decode cX8_holds 11 = .ok (.aload_n 0, 1) := by decide +kernel
theorem dX8_holds_12 : decode cX8_holds 12 = .ok (.getfield 47, 3) := by decide +kernel
theorem dX8_holds_15 : decode cX8_holds 15 = .ok (.iload_n 2, 1) := by decide +kernel
theorem dX8_holds_16 : decode cX8_holds 16 = .ok (.iload_n 3, 1) := by decide +kernel
theorem dX8_holds_17 : decode cX8_holds 17 = .ok (.invokevirtual 145, 3) := by decide +kernel
theorem dX8_holds_20 : decode cX8_holds 20 = .ok (.ifCond .ne 9, 3) := by decide +kernel
theorem dX8_holds_23 : decode cX8_holds 23 = .ok (.aload_n 0, 1) := by decide +kernel
theorem dX8_holds_24 : decode cX8_holds 24 = .ok (.iconst 1, 1) := by decide +kernel
theorem dX8_holds_25 : decode cX8_holds 25 = .ok (.invokevirtual 63, 3) := by decide +kernel
theorem dX8_holds_28 : decode cX8_holds 28 = .ok (.ireturn, 1) := by decide +kernel
theorem dX8_holds_29 : decode cX8_holds 29 = .ok (.iload 4, 2) := by decide +kernel
theorem dX8_holds_31 : decode cX8_holds 31 = .ok (.ifCond .lt 10, 3) := by decide +kernel
theorem dX8_holds_34 : decode cX8_holds 34 = .ok (.iload 4, 2) := by decide +kernel
theorem dX8_holds_36 : decode cX8_holds 36 = .ok (.bipush 30, 2) := by decide +kernel
theorem dX8_holds_38 : decode cX8_holds 38 = .ok (.if_icmp .le 9, 3) := by decide +kernel
theorem dX8_holds_41 : decode cX8_holds 41 = .ok (.aload_n 0, 1) := by decide +kernel
theorem dX8_holds_42 : decode cX8_holds 42 = .ok (.iconst 2, 1) := by decide +kernel
theorem dX8_holds_43 : decode cX8_holds 43 = .ok (.invokevirtual 63, 3) := by decide +kernel
theorem dX8_holds_46 : decode cX8_holds 46 = .ok (.ireturn, 1) := by decide +kernel
theorem dX8_holds_47 : decode cX8_holds 47 = .ok (.aload_n 0, 1) := by decide +kernel
theorem dX8_holds_48 : decode cX8_holds 48 = .ok (.getfield 19, 3) := by decide +kernel
theorem dX8_holds_51 : decode cX8_holds 51 = .ok (.iload_n 1, 1) := by decide +kernel
theorem dX8_holds_52 : decode cX8_holds 52 = .ok (.invokevirtual 130, 3) := by decide +kernel
theorem dX8_holds_55 : decode cX8_holds 55 = .ok (.invokestatic 133, 3) := by decide +kernel
theorem dX8_holds_58 : decode cX8_holds 58 = .ok (.iload_n 2, 1) := by decide +kernel
theorem dX8_holds_59 : decode cX8_holds 59 = .ok (.if_icmp .eq 10, 3) := by decide +kernel
theorem dX8_holds_62 : decode cX8_holds 62 = .ok (.aload_n 0, 1) := by decide +kernel
theorem dX8_holds_63 : decode cX8_holds 63 = .ok (.bipush (-2), 2) := by decide +kernel
theorem dX8_holds_65 : decode cX8_holds 65 = .ok (.invokevirtual 97, 3) := by decide +kernel
theorem dX8_holds_68 : decode cX8_holds 68 = .ok (.ireturn, 1) := by decide +kernel
theorem dX8_holds_69 : decode cX8_holds 69 = .ok (.aload_n 0, 1) := by decide +kernel
theorem dX8_holds_70 : decode cX8_holds 70 = .ok (.aload_n 0, 1) := by decide +kernel
theorem dX8_holds_71 : decode cX8_holds 71 = .ok (.getfield 33, 3) := by decide +kernel
theorem dX8_holds_74 : decode cX8_holds 74 = .ok (.aload_n 0, 1) := by decide +kernel
theorem dX8_holds_75 : decode cX8_holds 75 = .ok (.getfield 47, 3) := by decide +kernel
theorem dX8_holds_78 : decode cX8_holds 78 = .ok (.aload_n 0, 1) := by decide +kernel
theorem dX8_holds_79 : decode cX8_holds 79 = .ok (.getfield 19, 3) := by decide +kernel
theorem dX8_holds_82 : decode cX8_holds 82 = .ok (.iload_n 1, 1) := by decide +kernel
theorem dX8_holds_83 : decode cX8_holds 83 = .ok (.iload_n 2, 1) := by decide +kernel
theorem dX8_holds_84 : decode cX8_holds 84 = .ok (.iload_n 3, 1) := by decide +kernel
theorem dX8_holds_85 : decode cX8_holds 85 = .ok (.invokestatic 149, 3) := by decide +kernel
theorem dX8_holds_88 : decode cX8_holds 88 = .ok (.iload 4, 2) := by decide +kernel
theorem dX8_holds_90 : decode cX8_holds 90 = .ok (.invokevirtual 207, 3) := by decide +kernel
theorem dX8_holds_93 : decode cX8_holds 93 = .ok (.invokevirtual 97, 3) := by decide +kernel
theorem dX8_holds_96 : decode cX8_holds 96 = .ok (.ireturn, 1) := by decide +kernel
set_option maxRecDepth 20000 in
theorem ggX8_putFor_X4_hasThing : GoodIn wsX8_putFor wsX4_hasThing := goodIn_r _ [9, 10, 151, 152, 153, 154, 155, 156, 157, 158, 159, 160, 161, 162, 163, 164, 165, 166, 167, 168, 169, 170] (by decide +kernel) (by decide +kernel)
set_option maxRecDepth 20000 in
theorem gX8_putFor_X4_hasThing : GoodIn wsX8_putFor (wsV RX8 124 RX4 yX4_hasThing wsX4_hasThing) := goodIn_app (goodIn_of _ (by decide +kernel)) ggX8_putFor_X4_hasThing
set_option maxRecDepth 20000 in
theorem ggX8_putFor_X8_refuse : GoodIn wsX8_putFor wsX8_refuse := goodIn_r _ [15, 16, 142, 143, 144, 145, 146, 147, 148, 149, 150] (by decide +kernel) (by decide +kernel)
set_option maxRecDepth 20000 in
theorem gX8_putFor_X8_refuse : GoodIn wsX8_putFor (wsV RX8 63 RX8 yX8_refuse wsX8_refuse) := goodIn_app (goodIn_of _ (by decide +kernel)) ggX8_putFor_X8_refuse
set_option maxRecDepth 20000 in
theorem ggX8_putFor_X1_cellOf : GoodIn wsX8_putFor wsX1_cellOf := goodIn_r _ [21, 22, 171, 172, 173, 174, 175, 176] (by decide +kernel) (by decide +kernel)
set_option maxRecDepth 20000 in
theorem gX8_putFor_X1_cellOf : GoodIn wsX8_putFor (wsV RX8 130 RX1 yX1_cellOf wsX1_cellOf) := goodIn_app (goodIn_of _ (by decide +kernel)) ggX8_putFor_X1_cellOf
set_option maxRecDepth 20000 in
theorem ggX8_putFor_X8_ringOfCell : GoodIn wsX8_putFor wsX8_ringOfCell := goodIn_r _ [25] (by decide +kernel) (by decide +kernel)
set_option maxRecDepth 20000 in
theorem gX8_putFor_X8_ringOfCell : GoodIn wsX8_putFor (va_wsS RX8 133 yX8_ringOfCell wsX8_ringOfCell) := goodIn_app (goodIn_of _ (by decide +kernel)) ggX8_putFor_X8_ringOfCell
set_option maxRecDepth 20000 in
theorem ggX8_putFor_X4_hasPlace : GoodIn wsX8_putFor wsX4_hasPlace := goodIn_r _ [29, 30, 31, 32, 33, 8, 34, 35, 151, 152, 153, 154, 155, 156, 157, 158, 159, 160, 161, 162, 163, 164, 165, 166, 167, 168, 169, 170] (by decide +kernel) (by decide +kernel)
set_option maxRecDepth 20000 in
theorem gX8_putFor_X4_hasPlace : GoodIn wsX8_putFor (wsV RX8 145 RX4 yX4_hasPlace wsX4_hasPlace) := goodIn_app (goodIn_of _ (by decide +kernel)) ggX8_putFor_X4_hasPlace
set_option maxRecDepth 20000 in
theorem ggX8_putFor_X4_placesOf : GoodIn wsX8_putFor wsX4_placesOf := goodIn_r _ [39, 30, 31, 32, 33, 8, 34, 35, 151, 152, 153, 154, 155, 156, 157, 158, 159, 160, 161, 162, 163, 164, 165, 166, 167, 168, 169, 170] (by decide +kernel) (by decide +kernel)
set_option maxRecDepth 20000 in
theorem gX8_putFor_X4_placesOf : GoodIn wsX8_putFor (wsV RX8 116 RX4 yX4_placesOf wsX4_placesOf) := goodIn_app (goodIn_of _ (by decide +kernel)) ggX8_putFor_X4_placesOf
set_option maxRecDepth 20000 in
theorem ggX8_putFor_X8_cellAt : GoodIn wsX8_putFor wsX8_cellAt := goodIn_r _ [42] (by decide +kernel) (by decide +kernel)
set_option maxRecDepth 20000 in
theorem gX8_putFor_X8_cellAt : GoodIn wsX8_putFor (va_wsS RX8 149 yX8_cellAt wsX8_cellAt) := goodIn_app (goodIn_of _ (by decide +kernel)) ggX8_putFor_X8_cellAt
set_option maxRecDepth 20000 in
theorem ggX8_putFor_X1_thingAt : GoodIn wsX8_putFor wsX1_thingAt := goodIn_r _ [46, 22, 171, 172, 173, 174, 175, 176] (by decide +kernel) (by decide +kernel)
set_option maxRecDepth 20000 in
theorem gX8_putFor_X1_thingAt : GoodIn wsX8_putFor (wsV RX8 152 RX1 yX1_thingAt wsX1_thingAt) := goodIn_app (goodIn_of _ (by decide +kernel)) ggX8_putFor_X1_thingAt
set_option maxRecDepth 20000 in
theorem ggX8_putFor_X6_start : GoodIn wsX8_putFor wsX6_start := goodIn_r _ [51, 52, 53, 54, 55, 56, 57, 58, 59, 60, 61, 62, 63, 20, 64, 22, 65, 66, 67, 68, 69, 70, 71, 72, 73, 18, 19, 21, 74, 75, 76, 8, 77, 78, 79, 80, 81, 50, 82, 24, 14, 25, 83, 84, 85, 86, 87, 31, 32, 33, 34, 35, 177, 178, 179, 180, 181, 182, 183, 184, 185, 186, 187, 188, 189, 151, 152, 153, 154, 155, 156, 157, 158, 159, 160, 161, 162, 163, 164, 165, 166, 167, 168, 169, 170, 171, 172, 173, 174, 175, 176] (by decide +kernel) (by decide +kernel)
set_option maxRecDepth 20000 in
theorem gX8_putFor_X6_start : GoodIn wsX8_putFor (wsV RX8 165 RX6 yX6_start wsX6_start) := goodIn_app (goodIn_of _ (by decide +kernel)) ggX8_putFor_X6_start
set_option maxRecDepth 20000 in
theorem ggX8_putFor_X6_shift : GoodIn wsX8_putFor wsX6_shift := goodIn_r _ [91, 60, 79, 80, 81, 50, 82, 58, 177, 178, 179, 180, 181, 182, 183, 184, 185, 186, 187, 188, 189] (by decide +kernel) (by decide +kernel)
set_option maxRecDepth 20000 in
theorem gX8_putFor_X6_shift : GoodIn wsX8_putFor (wsV RX8 211 RX6 yX6_shift wsX6_shift) := goodIn_app (goodIn_of _ (by decide +kernel)) ggX8_putFor_X6_shift
set_option maxRecDepth 20000 in
theorem ggX8_putFor_X6_goOn : GoodIn wsX8_putFor wsX6_goOn := goodIn_r _ [95, 96, 97, 98, 99, 50, 100, 53, 52, 59, 60, 101, 102, 103, 104, 54, 105, 57, 55, 106, 56, 107, 108, 109, 110, 8, 111, 112, 113, 114, 115, 116, 58, 117, 118, 119, 120, 121, 122, 78, 123, 124, 125, 126, 79, 80, 81, 82, 127, 128, 129, 130, 131, 132, 133, 177, 178, 179, 180, 181, 182, 183, 184, 185, 186, 187, 188, 189, 151, 152, 153, 154, 155, 156, 157, 158, 159, 160, 161, 162, 163, 164, 165, 166, 167, 168, 169, 170] (by decide +kernel) (by decide +kernel)
set_option maxRecDepth 20000 in
theorem gX8_putFor_X6_goOn : GoodIn wsX8_putFor (wsV RX8 181 RX6 yX6_goOn wsX6_goOn) := goodIn_app (goodIn_of _ (by decide +kernel)) ggX8_putFor_X6_goOn
set_option maxRecDepth 20000 in
theorem ggX8_putFor_X6_cellOf : GoodIn wsX8_putFor wsX6_cellOf := goodIn_r _ [137, 60, 177, 178, 179, 180, 181, 182, 183, 184, 185, 186, 187, 188, 189] (by decide +kernel) (by decide +kernel)
set_option maxRecDepth 20000 in
theorem gX8_putFor_X6_cellOf : GoodIn wsX8_putFor (wsV RX8 184 RX6 yX6_cellOf wsX6_cellOf) := goodIn_app (goodIn_of _ (by decide +kernel)) ggX8_putFor_X6_cellOf
set_option maxRecDepth 20000 in
theorem ggX8_putFor_X8_answer : GoodIn wsX8_putFor wsX8_answer := goodIn_r _ [141, 16, 142, 143, 144, 145, 146, 147, 148, 149, 150] (by decide +kernel) (by decide +kernel)
set_option maxRecDepth 20000 in
theorem gX8_putFor_X8_answer : GoodIn wsX8_putFor (wsV RX8 97 RX8 yX8_answer wsX8_answer) := goodIn_app (goodIn_of _ (by decide +kernel)) ggX8_putFor_X8_answer
theorem dX8_putFor_0 : decode cX8_putFor 0 = .ok (.aload_n 0, 1) := by decide +kernel
theorem dX8_putFor_1 : decode cX8_putFor 1 = .ok (.getfield 47, 3) := by decide +kernel
theorem dX8_putFor_4 : decode cX8_putFor 4 = .ok (.iload_n 1, 1) := by decide +kernel
theorem dX8_putFor_5 : decode cX8_putFor 5 = .ok (.invokevirtual 124, 3) := by decide +kernel
theorem dX8_putFor_8 : decode cX8_putFor 8 = .ok (.ifCond .ne 9, 3) := by decide +kernel
theorem dX8_putFor_11 : decode cX8_putFor 11 = .ok (.aload_n 0, 1) := by decide +kernel
theorem dX8_putFor_12 : decode cX8_putFor 12 = .ok (.iconst 1, 1) := by decide +kernel
theorem dX8_putFor_13 : decode cX8_putFor 13 = .ok (.invokevirtual 63, 3) := by decide +kernel
theorem dX8_putFor_16 : decode cX8_putFor 16 = .ok (.ireturn, 1) := by decide +kernel
theorem dX8_putFor_17 : decode cX8_putFor 17 = .ok (.aload_n 0, 1) := by decide +kernel
theorem dX8_putFor_18 : decode cX8_putFor 18 = .ok (.getfield 19, 3) := by decide +kernel
theorem dX8_putFor_21 : decode cX8_putFor 21 = .ok (.iload_n 1, 1) := by decide +kernel
theorem dX8_putFor_22 : decode cX8_putFor 22 = .ok (.invokevirtual 130, 3) := by decide +kernel
theorem dX8_putFor_25 : decode cX8_putFor 25 = .ok (.invokestatic 133, 3) := by decide +kernel
theorem dX8_putFor_28 : decode cX8_putFor 28 = .ok (.istore 4, 2) := by decide +kernel
theorem dX8_putFor_30 : decode cX8_putFor 30 = .ok (.aload_n 0, 1) := by decide +kernel
theorem dX8_putFor_31 : decode cX8_putFor 31 = .ok (.getfield 47, 3) := by decide +kernel
theorem dX8_putFor_34 : decode cX8_putFor 34 = .ok (.iload 4, 2) := by decide +kernel
theorem dX8_putFor_36 : decode cX8_putFor 36 = .ok (.iload_n 2, 1) := by decide +kernel
theorem dX8_putFor_37 : decode cX8_putFor 37 = .ok (.invokevirtual 145, 3) := by decide +kernel
theorem dX8_putFor_40 : decode cX8_putFor 40 = .ok (.ifCond .ne 9, 3) := by decide +kernel
theorem dX8_putFor_43 : decode cX8_putFor 43 = .ok (.aload_n 0, 1) := by decide +kernel
theorem dX8_putFor_44 : decode cX8_putFor 44 = .ok (.iconst 1, 1) := by decide +kernel
theorem dX8_putFor_45 : decode cX8_putFor 45 = .ok (.invokevirtual 63, 3) := by decide +kernel
theorem dX8_putFor_48 : decode cX8_putFor 48 = .ok (.ireturn, 1) := by decide +kernel
theorem dX8_putFor_49 : decode cX8_putFor 49 = .ok (.iload_n 3, 1) := by decide +kernel
theorem dX8_putFor_50 : decode cX8_putFor 50 = .ok (.ifCond .lt 9, 3) := by decide +kernel
theorem dX8_putFor_53 : decode cX8_putFor 53 = .ok (.iload_n 3, 1) := by decide +kernel
theorem dX8_putFor_54 : decode cX8_putFor 54 = .ok (.bipush 60, 2) := by decide +kernel
theorem dX8_putFor_56 : decode cX8_putFor 56 = .ok (.if_icmp .le 9, 3) := by decide +kernel
theorem dX8_putFor_59 : decode cX8_putFor 59 = .ok (.aload_n 0, 1) := by decide +kernel
theorem dX8_putFor_60 : decode cX8_putFor 60 = .ok (.iconst 2, 1) := by decide +kernel
theorem dX8_putFor_61 : decode cX8_putFor 61 = .ok (.invokevirtual 63, 3) := by decide +kernel
theorem dX8_putFor_64 : decode cX8_putFor 64 = .ok (.ireturn, 1) := by decide +kernel
theorem dX8_putFor_65 : decode cX8_putFor 65 = .ok (.iconst 0, 1) := by decide +kernel
theorem dX8_putFor_66 : decode cX8_putFor 66 = .ok (.istore 5, 2) := by decide +kernel
theorem dX8_putFor_68 : decode cX8_putFor 68 = .ok (.iload 5, 2) := by decide +kernel
theorem dX8_putFor_70 : decode cX8_putFor 70 = .ok (.aload_n 0, 1) := by decide +kernel
theorem dX8_putFor_71 : decode cX8_putFor 71 = .ok (.getfield 47, 3) := by decide +kernel
theorem dX8_putFor_74 : decode cX8_putFor 74 = .ok (.iload 4, 2) := by decide +kernel
theorem dX8_putFor_76 : decode cX8_putFor 76 = .ok (.invokevirtual 116, 3) := by decide +kernel
theorem dX8_putFor_79 : decode cX8_putFor 79 = .ok (.if_icmp .ge 106, 3) := by decide +kernel
theorem dX8_putFor_82 : decode cX8_putFor 82 = .ok (.iload 4, 2) := by decide +kernel
theorem dX8_putFor_84 : decode cX8_putFor 84 = .ok (.iload 5, 2) := by decide +kernel
theorem dX8_putFor_86 : decode cX8_putFor 86 = .ok (.invokestatic 149, 3) := by decide +kernel
theorem dX8_putFor_89 : decode cX8_putFor 89 = .ok (.istore 6, 2) := by decide +kernel
theorem dX8_putFor_91 : decode cX8_putFor 91 = .ok (.aload_n 0, 1) := by decide +kernel
theorem dX8_putFor_92 : decode cX8_putFor 92 = .ok (.getfield 19, 3) := by decide +kernel
theorem dX8_putFor_95 : decode cX8_putFor 95 = .ok (.iload 6, 2) := by decide +kernel
theorem dX8_putFor_97 : decode cX8_putFor 97 = .ok (.aload_n 0, 1) := by decide +kernel
theorem dX8_putFor_98 : decode cX8_putFor 98 = .ok (.getfield 47, 3) := by decide +kernel
theorem dX8_putFor_101 : decode cX8_putFor 101 = .ok (.getfield 106, 3) := by decide +kernel
theorem dX8_putFor_104 : decode cX8_putFor 104 = .ok (.invokevirtual 152, 3) := by decide +kernel
theorem dX8_putFor_107 : decode cX8_putFor 107 = .ok (.istore 7, 2) := by decide +kernel
theorem dX8_putFor_109 : decode cX8_putFor 109 = .ok (.iload 7, 2) := by decide +kernel
theorem dX8_putFor_111 : decode cX8_putFor 111 = .ok (.ifCond .lt 9, 3) := by decide +kernel
theorem dX8_putFor_114 : decode cX8_putFor 114 = .ok (.iload 7, 2) := by decide +kernel
theorem dX8_putFor_116 : decode cX8_putFor 116 = .ok (.iload_n 1, 1) := by decide +kernel
theorem dX8_putFor_117 : decode cX8_putFor 117 = .ok (.if_icmp .ne 62, 3) := by decide +kernel
theorem dX8_putFor_120 : decode cX8_putFor 120 = .ok (.aload_n 0, 1) := by decide +kernel
theorem dX8_putFor_121 : decode cX8_putFor 121 = .ok (.getfield 26, 3) := by decide +kernel
theorem dX8_putFor_124 : decode cX8_putFor 124 = .ok (.aload_n 0, 1) := by decide +kernel
theorem dX8_putFor_125 : decode cX8_putFor 125 = .ok (.getfield 47, 3) := by decide +kernel
theorem dX8_putFor_128 : decode cX8_putFor 128 = .ok (.aload_n 0, 1) := by decide +kernel
theorem dX8_putFor_129 : decode cX8_putFor 129 = .ok (.getfield 19, 3) := by decide +kernel
theorem dX8_putFor_132 : decode cX8_putFor 132 = .ok (.iconst 0, 1) := by decide +kernel
theorem dX8_putFor_133 : decode cX8_putFor 133 = .ok (.invokevirtual 165, 3) := by decide +kernel
theorem dX8_putFor_136 : decode cX8_putFor 136 = .ok (.aload_n 0, 1) := by decide +kernel
theorem dX8_putFor_137 : decode cX8_putFor 137 = .ok (.getfield 26, 3) := by decide +kernel
theorem dX8_putFor_140 : decode cX8_putFor 140 = .ok (.iload_n 1, 1) := by decide +kernel
theorem dX8_putFor_141 : decode cX8_putFor 141 = .ok (.iload 6, 2) := by decide +kernel
theorem dX8_putFor_143 : decode cX8_putFor 143 = .ok (.invokevirtual 211, 3) := by decide +kernel
theorem dX8_putFor_146 : decode cX8_putFor 146 = .ok (.aload_n 0, 1) := by decide +kernel
theorem dX8_putFor_147 : decode cX8_putFor 147 = .ok (.getfield 26, 3) := by decide +kernel
theorem dX8_putFor_150 : decode cX8_putFor 150 = .ok (.iload_n 3, 1) := by decide +kernel
theorem dX8_putFor_151 : decode cX8_putFor 151 = .ok (.invokevirtual 181, 3) := by decide +kernel
theorem dX8_putFor_154 : decode cX8_putFor 154 = .ok (.pop, 1) := by decide +kernel
theorem dX8_putFor_155 : decode cX8_putFor 155 = .ok (.aload_n 0, 1) := by decide +kernel
theorem dX8_putFor_156 : decode cX8_putFor 156 = .ok (.getfield 26, 3) := by decide +kernel
theorem dX8_putFor_159 : decode cX8_putFor 159 = .ok (.iload_n 1, 1) := by decide +kernel
theorem dX8_putFor_160 : decode cX8_putFor 160 = .ok (.invokevirtual 184, 3) := by decide +kernel
theorem dX8_putFor_163 : decode cX8_putFor 163 = .ok (.iload 4, 2) := by decide +kernel
theorem dX8_putFor_165 : decode cX8_putFor 165 = .ok (.iload_n 2, 1) := by decide +kernel
theorem dX8_putFor_166 : decode cX8_putFor 166 = .ok (.invokestatic 149, 3) := by decide +kernel
theorem dX8_putFor_169 : decode cX8_putFor 169 = .ok (.if_icmp .ne 10, 3) := by decide +kernel
theorem dX8_putFor_172 : decode cX8_putFor 172 = .ok (.aload_n 0, 1) := by decide +kernel
theorem dX8_putFor_173 : decode cX8_putFor 173 = .ok (.iload 5, 2) := by decide +kernel
theorem dX8_putFor_175 : decode cX8_putFor 175 = .ok (.invokevirtual 97, 3) := by decide +kernel
theorem dX8_putFor_178 : decode cX8_putFor 178 = .ok (.ireturn, 1) := by decide +kernel
theorem dX8_putFor_179 : decode cX8_putFor 179 = .ok (.iinc 5 1, 3) := by decide +kernel
theorem dX8_putFor_182 : decode cX8_putFor 182 = .ok (.goto (-114), 3) := by decide +kernel
theorem dX8_putFor_185 : decode cX8_putFor 185 = .ok (.aload_n 0, 1) := by decide +kernel
theorem dX8_putFor_186 : decode cX8_putFor 186 = .ok (.bipush (-2), 2) := by decide +kernel
theorem dX8_putFor_188 : decode cX8_putFor 188 = .ok (.invokevirtual 97, 3) := by decide +kernel
theorem dX8_putFor_191 : decode cX8_putFor 191 = .ok (.ireturn, 1) := by decide +kernel
set_option maxRecDepth 20000 in
theorem ggX8_holdsToMeet_X8_areTwo : GoodIn wsX8_holdsToMeet wsX8_areTwo := goodIn_r _ [8, 2, 9, 10, 11, 12, 13, 14, 163, 164, 165, 166, 167, 168, 169, 170, 171, 172, 173, 174, 175, 176, 177, 178, 179, 180, 181, 182, 183, 184, 185, 186, 187, 188, 189, 190, 191] (by decide +kernel) (by decide +kernel)
set_option maxRecDepth 20000 in
theorem gX8_holdsToMeet_X8_areTwo : GoodIn wsX8_holdsToMeet (wsV RX8 191 RX8 yX8_areTwo wsX8_areTwo) := goodIn_app (goodIn_of _ (by decide +kernel)) ggX8_holdsToMeet_X8_areTwo
set_option maxRecDepth 20000 in
theorem ggX8_holdsToMeet_X8_refuse : GoodIn wsX8_holdsToMeet wsX8_refuse := goodIn_r _ [18, 19, 163, 164, 165, 166, 167, 168, 169, 170, 171] (by decide +kernel) (by decide +kernel)
set_option maxRecDepth 20000 in
theorem gX8_holdsToMeet_X8_refuse : GoodIn wsX8_holdsToMeet (wsV RX8 63 RX8 yX8_refuse wsX8_refuse) := goodIn_app (goodIn_of _ (by decide +kernel)) ggX8_holdsToMeet_X8_refuse
set_option maxRecDepth 20000 in
theorem ggX8_holdsToMeet_X3_fewestToMeet : GoodIn wsX8_holdsToMeet wsX3_fewestToMeet := goodIn_r _ [24, 25, 26, 27, 23, 28, 29, 30, 31, 32, 33, 34, 35, 36, 7, 37, 38, 39, 40, 41, 42, 43, 44, 45, 46, 47, 48, 12, 49, 50, 51, 52, 53, 54, 55, 56, 57, 58, 59, 60, 61, 62, 63, 64, 65, 66, 67, 68, 69, 70, 71, 72, 73, 74, 75, 76, 77, 78, 79, 80, 81, 82, 83, 84, 85, 86, 87, 88, 89, 90, 91, 92, 93, 94, 95, 96, 97, 98, 99, 100, 101, 102, 103, 104, 105, 106, 107, 108, 109, 110, 111, 112, 113, 114, 115, 116, 117, 118, 119, 120, 121, 122, 123, 124, 125, 126, 127, 128, 129, 130, 131, 132, 133, 134, 135, 136, 137, 138, 139, 140, 141, 142, 143, 144, 145, 146, 147, 148, 149, 150, 151, 152, 153, 154, 155, 156, 157, 158, 192, 193, 194, 195, 196, 197, 198, 172, 173, 174, 175, 176, 177, 178, 179, 180, 181, 182, 183, 184, 185, 186, 187, 188, 189, 190, 191, 199, 200, 201, 202, 203, 204, 205, 206, 207, 208, 209, 210, 211] (by decide +kernel) (by decide +kernel)
set_option maxRecDepth 20000 in
theorem gX8_holdsToMeet_X3_fewestToMeet : GoodIn wsX8_holdsToMeet (wsV RX8 215 RX3 yX3_fewestToMeet wsX3_fewestToMeet) := goodIn_app (goodIn_of _ (by decide +kernel)) ggX8_holdsToMeet_X3_fewestToMeet
set_option maxRecDepth 20000 in
theorem ggX8_holdsToMeet_X8_answer : GoodIn wsX8_holdsToMeet wsX8_answer := goodIn_r _ [162, 19, 163, 164, 165, 166, 167, 168, 169, 170, 171] (by decide +kernel) (by decide +kernel)
set_option maxRecDepth 20000 in
theorem gX8_holdsToMeet_X8_answer : GoodIn wsX8_holdsToMeet (wsV RX8 97 RX8 yX8_answer wsX8_answer) := goodIn_app (goodIn_of _ (by decide +kernel)) ggX8_holdsToMeet_X8_answer
theorem dX8_holdsToMeet_0 : decode cX8_holdsToMeet 0 = .ok (.aload_n 0, 1) := by decide +kernel
theorem dX8_holdsToMeet_1 : decode cX8_holdsToMeet 1 = .ok (.iload_n 1, 1) := by decide +kernel
theorem dX8_holdsToMeet_2 : decode cX8_holdsToMeet 2 = .ok (.iload_n 2, 1) := by decide +kernel
theorem dX8_holdsToMeet_3 : decode cX8_holdsToMeet 3 = .ok (.invokevirtual 191, 3) := by decide +kernel
theorem dX8_holdsToMeet_6 : decode cX8_holdsToMeet 6 = .ok (.ifCond .ne 9, 3) := by decide +kernel
theorem dX8_holdsToMeet_9 : decode cX8_holdsToMeet 9 = .ok (.aload_n 0, 1) := by decide +kernel
theorem dX8_holdsToMeet_10 : decode cX8_holdsToMeet 10 = .ok (.iconst 1, 1) := by decide +kernel
theorem dX8_holdsToMeet_11 : decode cX8_holdsToMeet 11 = .ok (.invokevirtual 63, 3) := by decide +kernel
theorem dX8_holdsToMeet_14 : decode cX8_holdsToMeet 14 = .ok (.ireturn, 1) := by decide +kernel
theorem dX8_holdsToMeet_15 : decode cX8_holdsToMeet 15 = .ok (.iload_n 3, 1) := by decide +kernel
theorem dX8_holdsToMeet_16 : decode cX8_holdsToMeet 16 = .ok (.ifCond .lt 9, 3) := by decide +kernel
theorem dX8_holdsToMeet_19 : decode cX8_holdsToMeet 19 = .ok (.iload_n 3, 1) := by decide +kernel
theorem dX8_holdsToMeet_20 : decode cX8_holdsToMeet 20 = .ok (.bipush 30, 2) := by decide +kernel
theorem dX8_holdsToMeet_22 : decode cX8_holdsToMeet 22 = .ok (.if_icmp .le 9, 3) := by decide +kernel
theorem dX8_holdsToMeet_25 : decode cX8_holdsToMeet 25 = .ok (.aload_n 0, 1) := by decide +kernel
theorem dX8_holdsToMeet_26 : decode cX8_holdsToMeet 26 = .ok (.iconst 2, 1) := by decide +kernel
theorem dX8_holdsToMeet_27 : decode cX8_holdsToMeet 27 = .ok (.invokevirtual 63, 3) := by decide +kernel
theorem dX8_holdsToMeet_30 : decode cX8_holdsToMeet 30 = .ok (.ireturn, 1) := by decide +kernel
theorem dX8_holdsToMeet_31 : decode cX8_holdsToMeet 31 = .ok (.aload_n 0, 1) := by decide +kernel
theorem dX8_holdsToMeet_32 : decode cX8_holdsToMeet 32 = .ok (.aload_n 0, 1) := by decide +kernel
theorem dX8_holdsToMeet_33 : decode cX8_holdsToMeet 33 = .ok (.getfield 33, 3) := by decide +kernel
theorem dX8_holdsToMeet_36 : decode cX8_holdsToMeet 36 = .ok (.aload_n 0, 1) := by decide +kernel
theorem dX8_holdsToMeet_37 : decode cX8_holdsToMeet 37 = .ok (.getfield 47, 3) := by decide +kernel
theorem dX8_holdsToMeet_40 : decode cX8_holdsToMeet 40 = .ok (.aload_n 0, 1) := by decide +kernel
theorem dX8_holdsToMeet_41 : decode cX8_holdsToMeet 41 = .ok (.getfield 19, 3) := by decide +kernel
theorem dX8_holdsToMeet_44 : decode cX8_holdsToMeet 44 = .ok (.iload_n 1, 1) := by decide +kernel
theorem dX8_holdsToMeet_45 : decode cX8_holdsToMeet 45 = .ok (.iload_n 2, 1) := by decide +kernel
theorem dX8_holdsToMeet_46 : decode cX8_holdsToMeet 46 = .ok (.iload_n 3, 1) := by decide +kernel
theorem dX8_holdsToMeet_47 : decode cX8_holdsToMeet 47 = .ok (.invokevirtual 215, 3) := by decide +kernel
theorem dX8_holdsToMeet_50 : decode cX8_holdsToMeet 50 = .ok (.invokevirtual 97, 3) := by decide +kernel
theorem dX8_holdsToMeet_53 : decode cX8_holdsToMeet 53 = .ok (.ireturn, 1) := by decide +kernel
set_option maxRecDepth 20000 in
theorem ggX8_pays_X8_whyNoWants : GoodIn wsX8_pays wsX8_whyNoWants := goodIn_r _ [9, 1, 10, 11, 12, 13, 14, 15, 156, 157, 158, 159, 160, 161, 162, 163, 164, 165, 166, 167, 168, 169, 170, 171, 172, 173, 174, 175, 176, 177, 178, 179, 180, 181, 182, 183, 184] (by decide +kernel) (by decide +kernel)
set_option maxRecDepth 20000 in
theorem gX8_pays_X8_whyNoWants : GoodIn wsX8_pays (wsV RX8 218 RX8 yX8_whyNoWants wsX8_whyNoWants) := goodIn_app (goodIn_of _ (by decide +kernel)) ggX8_pays_X8_whyNoWants
set_option maxRecDepth 20000 in
theorem ggX8_pays_X8_refuse : GoodIn wsX8_pays wsX8_refuse := goodIn_r _ [19, 20, 156, 157, 158, 159, 160, 161, 162, 163, 164] (by decide +kernel) (by decide +kernel)
set_option maxRecDepth 20000 in
theorem gX8_pays_X8_refuse : GoodIn wsX8_pays (wsV RX8 63 RX8 yX8_refuse wsX8_refuse) := goodIn_app (goodIn_of _ (by decide +kernel)) ggX8_pays_X8_refuse
set_option maxRecDepth 20000 in
theorem ggX8_pays_X3_paidWithin : GoodIn wsX8_pays wsX3_paidWithin := goodIn_r _ [25, 26, 27, 28, 29, 30, 31, 32, 33, 34, 35, 36, 37, 38, 39, 40, 41, 42, 43, 44, 45, 46, 8, 47, 48, 49, 50, 24, 51, 52, 53, 54, 55, 56, 57, 58, 59, 60, 61, 62, 63, 64, 65, 66, 67, 68, 69, 70, 71, 72, 73, 74, 75, 76, 77, 78, 79, 80, 81, 82, 83, 84, 85, 86, 87, 13, 88, 89, 90, 91, 92, 93, 94, 95, 96, 97, 98, 99, 100, 101, 102, 15, 103, 104, 105, 106, 107, 108, 109, 110, 111, 112, 113, 114, 115, 116, 117, 118, 119, 120, 121, 122, 123, 124, 125, 126, 127, 128, 129, 130, 131, 132, 133, 134, 135, 136, 137, 138, 139, 140, 141, 142, 143, 144, 145, 146, 165, 166, 167, 168, 169, 170, 171, 172, 173, 174, 175, 176, 177, 178, 179, 180, 181, 182, 183, 184, 185, 186, 187, 188, 189, 190, 191, 192, 193, 194, 195, 196, 197, 198, 199, 200, 201, 202, 203, 204, 205, 206, 207, 208, 209] (by decide +kernel) (by decide +kernel)
set_option maxRecDepth 20000 in
theorem gX8_pays_X3_paidWithin : GoodIn wsX8_pays (wsV RX8 225 RX3 yX3_paidWithin wsX3_paidWithin) := goodIn_app (goodIn_of _ (by decide +kernel)) ggX8_pays_X3_paidWithin
set_option maxRecDepth 20000 in
theorem ggX8_pays_X7_worthOf : GoodIn wsX8_pays wsX7_worthOf := goodIn_r _ [150, 32, 151, 185, 186, 187, 188, 189] (by decide +kernel) (by decide +kernel)
set_option maxRecDepth 20000 in
theorem gX8_pays_X7_worthOf : GoodIn wsX8_pays (wsV RX8 229 RX7 yX7_worthOf wsX7_worthOf) := goodIn_app (goodIn_of _ (by decide +kernel)) ggX8_pays_X7_worthOf
set_option maxRecDepth 20000 in
theorem ggX8_pays_X8_answer : GoodIn wsX8_pays wsX8_answer := goodIn_r _ [155, 20, 156, 157, 158, 159, 160, 161, 162, 163, 164] (by decide +kernel) (by decide +kernel)
set_option maxRecDepth 20000 in
theorem gX8_pays_X8_answer : GoodIn wsX8_pays (wsV RX8 97 RX8 yX8_answer wsX8_answer) := goodIn_app (goodIn_of _ (by decide +kernel)) ggX8_pays_X8_answer
theorem dX8_pays_0 : decode cX8_pays 0 = .ok (.aload_n 0, 1) := by decide +kernel
theorem dX8_pays_1 : decode cX8_pays 1 = .ok (.iload_n 1, 1) := by decide +kernel
theorem dX8_pays_2 : decode cX8_pays 2 = .ok (.invokevirtual 218, 3) := by decide +kernel
theorem dX8_pays_5 : decode cX8_pays 5 = .ok (.istore_n 2, 1) := by decide +kernel
theorem dX8_pays_6 : decode cX8_pays 6 = .ok (.iload_n 2, 1) := by decide +kernel
theorem dX8_pays_7 : decode cX8_pays 7 = .ok (.ifCond .eq 9, 3) := by decide +kernel
theorem dX8_pays_10 : decode cX8_pays 10 = .ok (.aload_n 0, 1) := by decide +kernel
theorem dX8_pays_11 : decode cX8_pays 11 = .ok (.iload_n 2, 1) := by decide +kernel
theorem dX8_pays_12 : decode cX8_pays 12 = .ok (.invokevirtual 63, 3) := by decide +kernel
theorem dX8_pays_15 : decode cX8_pays 15 = .ok (.ireturn, 1) := by decide +kernel
theorem dX8_pays_16 : decode cX8_pays 16 = .ok (.aload_n 0, 1) := by decide +kernel
theorem dX8_pays_17 : decode cX8_pays 17 = .ok (.aload_n 0, 1) := by decide +kernel
theorem dX8_pays_18 : decode cX8_pays 18 = .ok (.getfield 47, 3) := by decide +kernel
theorem dX8_pays_21 : decode cX8_pays 21 = .ok (.getfield 221, 3) := by decide +kernel
theorem dX8_pays_24 : decode cX8_pays 24 = .ok (.aload_n 0, 1) := by decide +kernel
theorem dX8_pays_25 : decode cX8_pays 25 = .ok (.getfield 33, 3) := by decide +kernel
theorem dX8_pays_28 : decode cX8_pays 28 = .ok (.aload_n 0, 1) := by decide +kernel
theorem dX8_pays_29 : decode cX8_pays 29 = .ok (.getfield 47, 3) := by decide +kernel
theorem dX8_pays_32 : decode cX8_pays 32 = .ok (.aload_n 0, 1) := by decide +kernel
theorem dX8_pays_33 : decode cX8_pays 33 = .ok (.getfield 19, 3) := by decide +kernel
theorem dX8_pays_36 : decode cX8_pays 36 = .ok (.iconst 0, 1) := by decide +kernel
theorem dX8_pays_37 : decode cX8_pays 37 = .ok (.iload_n 1, 1) := by decide +kernel
theorem dX8_pays_38 : decode cX8_pays 38 = .ok (.invokevirtual 225, 3) := by decide +kernel
theorem dX8_pays_41 : decode cX8_pays 41 = .ok (.invokevirtual 229, 3) := by decide +kernel
theorem dX8_pays_44 : decode cX8_pays 44 = .ok (.invokevirtual 97, 3) := by decide +kernel
theorem dX8_pays_47 : decode cX8_pays 47 = .ok (.ireturn, 1) := by decide +kernel
set_option maxRecDepth 20000 in
theorem ggX8_best_X8_whyNoWants : GoodIn wsX8_best wsX8_whyNoWants := goodIn_r _ [8, 2, 9, 10, 11, 12, 13, 14, 184, 185, 186, 187, 188, 189, 190, 191, 192, 193, 194, 195, 196, 197, 198, 199, 200, 201, 202, 203, 204, 205, 206, 207, 208, 209, 210, 211, 212] (by decide +kernel) (by decide +kernel)
set_option maxRecDepth 20000 in
theorem gX8_best_X8_whyNoWants : GoodIn wsX8_best (wsV RX8 218 RX8 yX8_whyNoWants wsX8_whyNoWants) := goodIn_app (goodIn_of _ (by decide +kernel)) ggX8_best_X8_whyNoWants
set_option maxRecDepth 20000 in
theorem ggX8_best_X8_refuse : GoodIn wsX8_best wsX8_refuse := goodIn_r _ [18, 19, 184, 185, 186, 187, 188, 189, 190, 191, 192] (by decide +kernel) (by decide +kernel)
set_option maxRecDepth 20000 in
theorem gX8_best_X8_refuse : GoodIn wsX8_best (wsV RX8 63 RX8 yX8_refuse wsX8_refuse) := goodIn_app (goodIn_of _ (by decide +kernel)) ggX8_best_X8_refuse
set_option maxRecDepth 20000 in
theorem ggX8_best_X3_bestFor : GoodIn wsX8_best wsX3_bestFor := goodIn_r _ [24, 25, 26, 27, 28, 29, 30, 31, 32, 33, 34, 35, 36, 37, 38, 39, 40, 41, 42, 43, 44, 45, 46, 7, 47, 48, 49, 50, 51, 52, 53, 54, 23, 55, 56, 57, 58, 59, 60, 61, 62, 63, 64, 65, 66, 67, 68, 69, 70, 71, 72, 12, 73, 74, 75, 76, 77, 78, 79, 80, 81, 82, 83, 84, 85, 86, 87, 88, 89, 90, 91, 92, 93, 94, 95, 96, 97, 98, 99, 100, 101, 102, 103, 104, 105, 106, 107, 108, 109, 110, 111, 112, 113, 114, 115, 116, 117, 118, 119, 120, 121, 122, 123, 124, 125, 126, 127, 128, 129, 130, 131, 132, 133, 134, 135, 14, 136, 137, 138, 139, 140, 141, 142, 143, 144, 145, 146, 147, 148, 149, 150, 151, 152, 153, 154, 155, 156, 157, 158, 159, 160, 161, 162, 163, 164, 165, 166, 167, 168, 169, 170, 171, 172, 173, 174, 175, 176, 177, 178, 179, 193, 194, 195, 196, 197, 198, 199, 200, 201, 202, 203, 204, 205, 206, 207, 208, 209, 210, 211, 212, 213, 214, 215, 216, 217, 218, 219, 220, 221, 222, 223, 224, 225, 226, 227, 228, 229, 230, 231, 232, 233, 234, 235, 236, 237] (by decide +kernel) (by decide +kernel)
set_option maxRecDepth 20000 in
theorem gX8_best_X3_bestFor : GoodIn wsX8_best (wsV RX8 234 RX3 yX3_bestFor wsX3_bestFor) := goodIn_app (goodIn_of _ (by decide +kernel)) ggX8_best_X3_bestFor
set_option maxRecDepth 20000 in
theorem ggX8_best_X8_answer : GoodIn wsX8_best wsX8_answer := goodIn_r _ [183, 19, 184, 185, 186, 187, 188, 189, 190, 191, 192] (by decide +kernel) (by decide +kernel)
set_option maxRecDepth 20000 in
theorem gX8_best_X8_answer : GoodIn wsX8_best (wsV RX8 97 RX8 yX8_answer wsX8_answer) := goodIn_app (goodIn_of _ (by decide +kernel)) ggX8_best_X8_answer
theorem dX8_best_0 : decode cX8_best 0 = .ok (.aload_n 0, 1) := by decide +kernel
theorem dX8_best_1 : decode cX8_best 1 = .ok (.iload_n 1, 1) := by decide +kernel
theorem dX8_best_2 : decode cX8_best 2 = .ok (.invokevirtual 218, 3) := by decide +kernel
theorem dX8_best_5 : decode cX8_best 5 = .ok (.istore_n 2, 1) := by decide +kernel
theorem dX8_best_6 : decode cX8_best 6 = .ok (.iload_n 2, 1) := by decide +kernel
theorem dX8_best_7 : decode cX8_best 7 = .ok (.ifCond .eq 9, 3) := by decide +kernel
theorem dX8_best_10 : decode cX8_best 10 = .ok (.aload_n 0, 1) := by decide +kernel
theorem dX8_best_11 : decode cX8_best 11 = .ok (.iload_n 2, 1) := by decide +kernel
theorem dX8_best_12 : decode cX8_best 12 = .ok (.invokevirtual 63, 3) := by decide +kernel
theorem dX8_best_15 : decode cX8_best 15 = .ok (.ireturn, 1) := by decide +kernel
theorem dX8_best_16 : decode cX8_best 16 = .ok (.aload_n 0, 1) := by decide +kernel
theorem dX8_best_17 : decode cX8_best 17 = .ok (.aload_n 0, 1) := by decide +kernel
theorem dX8_best_18 : decode cX8_best 18 = .ok (.getfield 33, 3) := by decide +kernel
theorem dX8_best_21 : decode cX8_best 21 = .ok (.aload_n 0, 1) := by decide +kernel
theorem dX8_best_22 : decode cX8_best 22 = .ok (.getfield 47, 3) := by decide +kernel
theorem dX8_best_25 : decode cX8_best 25 = .ok (.aload_n 0, 1) := by decide +kernel
theorem dX8_best_26 : decode cX8_best 26 = .ok (.getfield 19, 3) := by decide +kernel
theorem dX8_best_29 : decode cX8_best 29 = .ok (.iload_n 1, 1) := by decide +kernel
theorem dX8_best_30 : decode cX8_best 30 = .ok (.invokevirtual 234, 3) := by decide +kernel
theorem dX8_best_33 : decode cX8_best 33 = .ok (.invokevirtual 97, 3) := by decide +kernel
theorem dX8_best_36 : decode cX8_best 36 = .ok (.ireturn, 1) := by decide +kernel
set_option maxRecDepth 20000 in
theorem ggX8_bestPays_X8_whyNoWants : GoodIn wsX8_bestPays wsX8_whyNoWants := goodIn_r _ [9, 2, 10, 11, 12, 13, 14, 15, 190, 191, 192, 193, 194, 195, 196, 197, 198, 199, 200, 201, 202, 203, 204, 205, 206, 207, 208, 209, 210, 211, 212, 213, 214, 215, 216, 217, 218] (by decide +kernel) (by decide +kernel)
set_option maxRecDepth 20000 in
theorem gX8_bestPays_X8_whyNoWants : GoodIn wsX8_bestPays (wsV RX8 218 RX8 yX8_whyNoWants wsX8_whyNoWants) := goodIn_app (goodIn_of _ (by decide +kernel)) ggX8_bestPays_X8_whyNoWants
set_option maxRecDepth 20000 in
theorem ggX8_bestPays_X8_refuse : GoodIn wsX8_bestPays wsX8_refuse := goodIn_r _ [19, 20, 190, 191, 192, 193, 194, 195, 196, 197, 198] (by decide +kernel) (by decide +kernel)
set_option maxRecDepth 20000 in
theorem gX8_bestPays_X8_refuse : GoodIn wsX8_bestPays (wsV RX8 63 RX8 yX8_refuse wsX8_refuse) := goodIn_app (goodIn_of _ (by decide +kernel)) ggX8_bestPays_X8_refuse
set_option maxRecDepth 20000 in
theorem ggX8_bestPays_X3_bestFor : GoodIn wsX8_bestPays wsX3_bestFor := goodIn_r _ [25, 26, 27, 28, 29, 30, 31, 32, 33, 34, 35, 36, 37, 38, 39, 40, 41, 42, 43, 44, 45, 46, 47, 8, 48, 49, 50, 51, 52, 53, 54, 55, 24, 56, 57, 58, 59, 60, 61, 62, 63, 64, 65, 66, 67, 68, 69, 70, 71, 72, 73, 13, 74, 75, 76, 77, 78, 79, 80, 81, 82, 83, 84, 85, 86, 87, 88, 89, 90, 91, 92, 93, 94, 95, 96, 97, 98, 99, 100, 101, 102, 103, 104, 105, 106, 107, 108, 109, 110, 111, 112, 113, 114, 115, 116, 117, 118, 119, 120, 121, 122, 123, 124, 125, 126, 127, 128, 129, 130, 131, 132, 133, 134, 135, 136, 15, 137, 138, 139, 140, 141, 142, 143, 144, 145, 146, 147, 148, 149, 150, 151, 152, 153, 154, 155, 156, 157, 158, 159, 160, 161, 162, 163, 164, 165, 166, 167, 168, 169, 170, 171, 172, 173, 174, 175, 176, 177, 178, 179, 180, 199, 200, 201, 202, 203, 204, 205, 206, 207, 208, 209, 210, 211, 212, 213, 214, 215, 216, 217, 218, 219, 220, 221, 222, 223, 224, 225, 226, 227, 228, 229, 230, 231, 232, 233, 234, 235, 236, 237, 238, 239, 240, 241, 242, 243] (by decide +kernel) (by decide +kernel)
set_option maxRecDepth 20000 in
theorem gX8_bestPays_X3_bestFor : GoodIn wsX8_bestPays (wsV RX8 234 RX3 yX3_bestFor wsX3_bestFor) := goodIn_app (goodIn_of _ (by decide +kernel)) ggX8_bestPays_X3_bestFor
set_option maxRecDepth 20000 in
theorem ggX8_bestPays_X3_paidWithin : GoodIn wsX8_bestPays wsX3_paidWithin := goodIn_r _ [184, 26, 28, 29, 30, 31, 32, 33, 34, 35, 36, 37, 38, 39, 40, 41, 42, 43, 44, 45, 46, 47, 8, 48, 86, 87, 88, 24, 89, 90, 91, 92, 93, 94, 95, 96, 97, 98, 99, 100, 101, 102, 103, 104, 105, 106, 107, 108, 109, 110, 111, 112, 113, 114, 115, 116, 117, 118, 119, 120, 121, 122, 123, 72, 73, 13, 74, 75, 124, 125, 126, 127, 128, 129, 130, 131, 132, 133, 134, 135, 136, 15, 137, 138, 139, 140, 141, 142, 143, 144, 145, 146, 147, 148, 149, 150, 151, 152, 153, 154, 155, 156, 157, 158, 159, 160, 161, 162, 163, 164, 165, 166, 167, 168, 169, 170, 171, 172, 173, 174, 175, 176, 177, 178, 179, 180, 199, 200, 201, 202, 203, 204, 205, 206, 207, 208, 209, 210, 211, 212, 213, 214, 215, 216, 217, 218, 219, 220, 221, 222, 223, 224, 225, 226, 227, 228, 229, 230, 231, 232, 233, 234, 235, 236, 237, 238, 239, 240, 241, 242, 243] (by decide +kernel) (by decide +kernel)
set_option maxRecDepth 20000 in
theorem gX8_bestPays_X3_paidWithin : GoodIn wsX8_bestPays (wsV RX8 225 RX3 yX3_paidWithin wsX3_paidWithin) := goodIn_app (goodIn_of _ (by decide +kernel)) ggX8_bestPays_X3_paidWithin
set_option maxRecDepth 20000 in
theorem ggX8_bestPays_X7_worthOf : GoodIn wsX8_bestPays wsX7_worthOf := goodIn_r _ [60, 33, 61, 219, 220, 221, 222, 223] (by decide +kernel) (by decide +kernel)
set_option maxRecDepth 20000 in
theorem gX8_bestPays_X7_worthOf : GoodIn wsX8_bestPays (wsV RX8 229 RX7 yX7_worthOf wsX7_worthOf) := goodIn_app (goodIn_of _ (by decide +kernel)) ggX8_bestPays_X7_worthOf
set_option maxRecDepth 20000 in
theorem ggX8_bestPays_X8_answer : GoodIn wsX8_bestPays wsX8_answer := goodIn_r _ [189, 20, 190, 191, 192, 193, 194, 195, 196, 197, 198] (by decide +kernel) (by decide +kernel)
set_option maxRecDepth 20000 in
theorem gX8_bestPays_X8_answer : GoodIn wsX8_bestPays (wsV RX8 97 RX8 yX8_answer wsX8_answer) := goodIn_app (goodIn_of _ (by decide +kernel)) ggX8_bestPays_X8_answer
theorem dX8_bestPays_0 : decode cX8_bestPays 0 = .ok (.aload_n 0, 1) := by decide +kernel
theorem dX8_bestPays_1 : decode cX8_bestPays 1 = .ok (.iload_n 1, 1) := by decide +kernel
theorem dX8_bestPays_2 : decode cX8_bestPays 2 = .ok (.invokevirtual 218, 3) := by decide +kernel
theorem dX8_bestPays_5 : decode cX8_bestPays 5 = .ok (.istore_n 2, 1) := by decide +kernel
theorem dX8_bestPays_6 : decode cX8_bestPays 6 = .ok (.iload_n 2, 1) := by decide +kernel
theorem dX8_bestPays_7 : decode cX8_bestPays 7 = .ok (.ifCond .eq 9, 3) := by decide +kernel
theorem dX8_bestPays_10 : decode cX8_bestPays 10 = .ok (.aload_n 0, 1) := by decide +kernel
theorem dX8_bestPays_11 : decode cX8_bestPays 11 = .ok (.iload_n 2, 1) := by decide +kernel
theorem dX8_bestPays_12 : decode cX8_bestPays 12 = .ok (.invokevirtual 63, 3) := by decide +kernel
theorem dX8_bestPays_15 : decode cX8_bestPays 15 = .ok (.ireturn, 1) := by decide +kernel
theorem dX8_bestPays_16 : decode cX8_bestPays 16 = .ok (.aload_n 0, 1) := by decide +kernel
theorem dX8_bestPays_17 : decode cX8_bestPays 17 = .ok (.getfield 33, 3) := by decide +kernel
theorem dX8_bestPays_20 : decode cX8_bestPays 20 = .ok (.aload_n 0, 1) := by decide +kernel
theorem dX8_bestPays_21 : decode cX8_bestPays 21 = .ok (.getfield 47, 3) := by decide +kernel
theorem dX8_bestPays_24 : decode cX8_bestPays 24 = .ok (.aload_n 0, 1) := by decide +kernel
theorem dX8_bestPays_25 : decode cX8_bestPays 25 = .ok (.getfield 19, 3) := by decide +kernel
theorem dX8_bestPays_28 : decode cX8_bestPays 28 = .ok (.iload_n 1, 1) := by decide +kernel
theorem dX8_bestPays_29 : decode cX8_bestPays 29 = .ok (.invokevirtual 234, 3) := by decide +kernel
theorem dX8_bestPays_32 : decode cX8_bestPays 32 = .ok (.istore_n 3, 1) := by decide +kernel
theorem dX8_bestPays_33 : decode cX8_bestPays 33 = .ok (.aload_n 0, 1) := by decide +kernel
theorem dX8_bestPays_34 : decode cX8_bestPays 34 = .ok (.aload_n 0, 1) := by decide +kernel
theorem dX8_bestPays_35 : decode cX8_bestPays 35 = .ok (.getfield 47, 3) := by decide +kernel
theorem dX8_bestPays_38 : decode cX8_bestPays 38 = .ok (.getfield 221, 3) := by decide +kernel
theorem dX8_bestPays_41 : decode cX8_bestPays 41 = .ok (.aload_n 0, 1) := by decide +kernel
theorem dX8_bestPays_42 : decode cX8_bestPays 42 = .ok (.getfield 33, 3) := by decide +kernel
theorem dX8_bestPays_45 : decode cX8_bestPays 45 = .ok (.aload_n 0, 1) := by decide +kernel
theorem dX8_bestPays_46 : decode cX8_bestPays 46 = .ok (.getfield 47, 3) := by decide +kernel
theorem dX8_bestPays_49 : decode cX8_bestPays 49 = .ok (.aload_n 0, 1) := by decide +kernel
theorem dX8_bestPays_50 : decode cX8_bestPays 50 = .ok (.getfield 19, 3) := by decide +kernel
theorem dX8_bestPays_53 : decode cX8_bestPays 53 = .ok (.iload_n 3, 1) := by decide +kernel
theorem dX8_bestPays_54 : decode cX8_bestPays 54 = .ok (.iload_n 1, 1) := by decide +kernel
theorem dX8_bestPays_55 : decode cX8_bestPays 55 = .ok (.invokevirtual 225, 3) := by decide +kernel
theorem dX8_bestPays_58 : decode cX8_bestPays 58 = .ok (.invokevirtual 229, 3) := by decide +kernel
theorem dX8_bestPays_61 : decode cX8_bestPays 61 = .ok (.invokevirtual 97, 3) := by decide +kernel
theorem dX8_bestPays_64 : decode cX8_bestPays 64 = .ok (.ireturn, 1) := by decide +kernel
set_option maxRecDepth 20000 in
theorem ggX8_kept_X4_stands : GoodIn wsX8_kept wsX4_stands := goodIn_r _ [8, 9, 155, 156, 157, 158, 159, 160, 161, 162, 163, 164, 165, 166, 167, 168, 169, 170, 171, 172, 173, 174] (by decide +kernel) (by decide +kernel)
set_option maxRecDepth 20000 in
theorem gX8_kept_X4_stands : GoodIn wsX8_kept (wsV RX8 161 RX4 yX4_stands wsX4_stands) := goodIn_app (goodIn_of _ (by decide +kernel)) ggX8_kept_X4_stands
set_option maxRecDepth 20000 in
theorem ggX8_kept_X8_refuse : GoodIn wsX8_kept wsX8_refuse := goodIn_r _ [14, 15, 146, 147, 148, 149, 150, 151, 152, 153, 154] (by decide +kernel) (by decide +kernel)
set_option maxRecDepth 20000 in
theorem gX8_kept_X8_refuse : GoodIn wsX8_kept (wsV RX8 63 RX8 yX8_refuse wsX8_refuse) := goodIn_app (goodIn_of _ (by decide +kernel)) ggX8_kept_X8_refuse
set_option maxRecDepth 20000 in
theorem ggX8_kept_X3_paidWithin : GoodIn wsX8_kept wsX3_paidWithin := goodIn_r _ [20, 21, 22, 23, 24, 25, 26, 27, 28, 29, 30, 31, 32, 33, 34, 35, 36, 37, 38, 39, 40, 41, 13, 42, 43, 44, 45, 19, 46, 47, 48, 49, 50, 51, 52, 53, 54, 55, 56, 57, 58, 59, 60, 61, 62, 63, 64, 65, 66, 67, 68, 69, 70, 71, 72, 73, 74, 75, 76, 77, 78, 79, 80, 81, 82, 7, 83, 84, 85, 86, 87, 88, 89, 90, 91, 92, 93, 94, 95, 96, 97, 9, 98, 99, 100, 101, 102, 103, 104, 105, 106, 107, 108, 109, 110, 111, 112, 113, 114, 115, 116, 117, 118, 119, 120, 121, 122, 123, 124, 125, 126, 127, 128, 129, 130, 131, 132, 133, 134, 135, 136, 137, 138, 139, 140, 141, 155, 156, 157, 158, 159, 160, 161, 162, 163, 164, 165, 166, 167, 168, 169, 170, 171, 172, 173, 174, 175, 176, 177, 178, 179, 180, 181, 182, 183, 184, 185, 186, 187, 188, 189, 190, 191, 192, 193, 194, 195, 196, 197, 198, 199] (by decide +kernel) (by decide +kernel)
set_option maxRecDepth 20000 in
theorem gX8_kept_X3_paidWithin : GoodIn wsX8_kept (wsV RX8 225 RX3 yX3_paidWithin wsX3_paidWithin) := goodIn_app (goodIn_of _ (by decide +kernel)) ggX8_kept_X3_paidWithin
set_option maxRecDepth 20000 in
theorem ggX8_kept_X8_answer : GoodIn wsX8_kept wsX8_answer := goodIn_r _ [145, 15, 146, 147, 148, 149, 150, 151, 152, 153, 154] (by decide +kernel) (by decide +kernel)
set_option maxRecDepth 20000 in
theorem gX8_kept_X8_answer : GoodIn wsX8_kept (wsV RX8 97 RX8 yX8_answer wsX8_answer) := goodIn_app (goodIn_of _ (by decide +kernel)) ggX8_kept_X8_answer
theorem dX8_kept_0 : decode cX8_kept 0 = .ok (.aload_n 0, 1) := by decide +kernel
theorem dX8_kept_1 : decode cX8_kept 1 = .ok (.getfield 47, 3) := by decide +kernel
theorem dX8_kept_4 : decode cX8_kept 4 = .ok (.invokevirtual 161, 3) := by decide +kernel
theorem dX8_kept_7 : decode cX8_kept 7 = .ok (.ifCond .ne 9, 3) := by decide +kernel
theorem dX8_kept_10 : decode cX8_kept 10 = .ok (.aload_n 0, 1) := by decide +kernel
theorem dX8_kept_11 : decode cX8_kept 11 = .ok (.iconst 1, 1) := by decide +kernel
theorem dX8_kept_12 : decode cX8_kept 12 = .ok (.invokevirtual 63, 3) := by decide +kernel
theorem dX8_kept_15 : decode cX8_kept 15 = .ok (.ireturn, 1) := by decide +kernel
theorem dX8_kept_16 : decode cX8_kept 16 = .ok (.aload_n 0, 1) := by decide +kernel
theorem dX8_kept_17 : decode cX8_kept 17 = .ok (.aload_n 0, 1) := by decide +kernel
theorem dX8_kept_18 : decode cX8_kept 18 = .ok (.getfield 33, 3) := by decide +kernel
theorem dX8_kept_21 : decode cX8_kept 21 = .ok (.aload_n 0, 1) := by decide +kernel
theorem dX8_kept_22 : decode cX8_kept 22 = .ok (.getfield 47, 3) := by decide +kernel
theorem dX8_kept_25 : decode cX8_kept 25 = .ok (.aload_n 0, 1) := by decide +kernel
theorem dX8_kept_26 : decode cX8_kept 26 = .ok (.getfield 19, 3) := by decide +kernel
theorem dX8_kept_29 : decode cX8_kept 29 = .ok (.iconst 0, 1) := by decide +kernel
theorem dX8_kept_30 : decode cX8_kept 30 = .ok (.bipush 60, 2) := by decide +kernel
theorem dX8_kept_32 : decode cX8_kept 32 = .ok (.invokevirtual 225, 3) := by decide +kernel
theorem dX8_kept_35 : decode cX8_kept 35 = .ok (.invokevirtual 97, 3) := by decide +kernel
theorem dX8_kept_38 : decode cX8_kept 38 = .ok (.ireturn, 1) := by decide +kernel
set_option maxRecDepth 20000 in
theorem ggX8_rules_X4_stands : GoodIn wsX8_rules wsX4_stands := goodIn_r _ [7, 8, 34, 35, 36, 37, 38, 39, 40, 41, 42, 43, 44, 45, 46, 47, 48, 49, 50, 51, 52, 53] (by decide +kernel) (by decide +kernel)
set_option maxRecDepth 20000 in
theorem gX8_rules_X4_stands : GoodIn wsX8_rules (wsV RX8 161 RX4 yX4_stands wsX4_stands) := goodIn_app (goodIn_of _ (by decide +kernel)) ggX8_rules_X4_stands
set_option maxRecDepth 20000 in
theorem ggX8_rules_X8_refuse : GoodIn wsX8_rules wsX8_refuse := goodIn_r _ [13, 14, 25, 26, 27, 28, 29, 30, 31, 32, 33] (by decide +kernel) (by decide +kernel)
set_option maxRecDepth 20000 in
theorem gX8_rules_X8_refuse : GoodIn wsX8_rules (wsV RX8 63 RX8 yX8_refuse wsX8_refuse) := goodIn_app (goodIn_of _ (by decide +kernel)) ggX8_rules_X8_refuse
set_option maxRecDepth 20000 in
theorem ggX8_rules_X0_count : GoodIn wsX8_rules wsX0_count := goodIn_r _ [19, 20, 54, 55, 56, 57, 58, 59] (by decide +kernel) (by decide +kernel)
set_option maxRecDepth 20000 in
theorem gX8_rules_X0_count : GoodIn wsX8_rules (wsV RX8 238 RX0 yX0_count wsX0_count) := goodIn_app (goodIn_of _ (by decide +kernel)) ggX8_rules_X0_count
set_option maxRecDepth 20000 in
theorem ggX8_rules_X8_answer : GoodIn wsX8_rules wsX8_answer := goodIn_r _ [24, 14, 25, 26, 27, 28, 29, 30, 31, 32, 33] (by decide +kernel) (by decide +kernel)
set_option maxRecDepth 20000 in
theorem gX8_rules_X8_answer : GoodIn wsX8_rules (wsV RX8 97 RX8 yX8_answer wsX8_answer) := goodIn_app (goodIn_of _ (by decide +kernel)) ggX8_rules_X8_answer
theorem dX8_rules_0 : decode cX8_rules 0 = .ok (.aload_n 0, 1) := by decide +kernel
theorem dX8_rules_1 : decode cX8_rules 1 = .ok (.getfield 47, 3) := by decide +kernel
theorem dX8_rules_4 : decode cX8_rules 4 = .ok (.invokevirtual 161, 3) := by decide +kernel
theorem dX8_rules_7 : decode cX8_rules 7 = .ok (.ifCond .ne 9, 3) := by decide +kernel
theorem dX8_rules_10 : decode cX8_rules 10 = .ok (.aload_n 0, 1) := by decide +kernel
theorem dX8_rules_11 : decode cX8_rules 11 = .ok (.iconst 1, 1) := by decide +kernel
theorem dX8_rules_12 : decode cX8_rules 12 = .ok (.invokevirtual 63, 3) := by decide +kernel
theorem dX8_rules_15 : decode cX8_rules 15 = .ok (.ireturn, 1) := by decide +kernel
theorem dX8_rules_16 : decode cX8_rules 16 = .ok (.aload_n 0, 1) := by decide +kernel
theorem dX8_rules_17 : decode cX8_rules 17 = .ok (.aload_n 0, 1) := by decide +kernel
theorem dX8_rules_18 : decode cX8_rules 18 = .ok (.getfield 40, 3) := by decide +kernel
theorem dX8_rules_21 : decode cX8_rules 21 = .ok (.invokevirtual 238, 3) := by decide +kernel
theorem dX8_rules_24 : decode cX8_rules 24 = .ok (.invokevirtual 97, 3) := by decide +kernel
theorem dX8_rules_27 : decode cX8_rules 27 = .ok (.ireturn, 1) := by decide +kernel
set_option maxRecDepth 20000 in
theorem ggX8_ruleAt_X4_stands : GoodIn wsX8_ruleAt wsX4_stands := goodIn_r _ [7, 8, 39, 40, 41, 42, 43, 44, 45, 46, 47, 48, 49, 50, 51, 52, 53, 54, 55, 56, 57, 58] (by decide +kernel) (by decide +kernel)
set_option maxRecDepth 20000 in
theorem gX8_ruleAt_X4_stands : GoodIn wsX8_ruleAt (wsV RX8 161 RX4 yX4_stands wsX4_stands) := goodIn_app (goodIn_of _ (by decide +kernel)) ggX8_ruleAt_X4_stands
set_option maxRecDepth 20000 in
theorem ggX8_ruleAt_X0_count : GoodIn wsX8_ruleAt wsX0_count := goodIn_r _ [13, 14, 59, 60, 61, 62, 63, 64] (by decide +kernel) (by decide +kernel)
set_option maxRecDepth 20000 in
theorem gX8_ruleAt_X0_count : GoodIn wsX8_ruleAt (wsV RX8 238 RX0 yX0_count wsX0_count) := goodIn_app (goodIn_of _ (by decide +kernel)) ggX8_ruleAt_X0_count
set_option maxRecDepth 20000 in
theorem ggX8_ruleAt_X8_refuse : GoodIn wsX8_ruleAt wsX8_refuse := goodIn_r _ [19, 20, 30, 31, 32, 33, 34, 35, 36, 37, 38] (by decide +kernel) (by decide +kernel)
set_option maxRecDepth 20000 in
theorem gX8_ruleAt_X8_refuse : GoodIn wsX8_ruleAt (wsV RX8 63 RX8 yX8_refuse wsX8_refuse) := goodIn_app (goodIn_of _ (by decide +kernel)) ggX8_ruleAt_X8_refuse
set_option maxRecDepth 20000 in
theorem ggX8_ruleAt_X0_ruleNumber : GoodIn wsX8_ruleAt wsX0_ruleNumber := goodIn_r _ [24, 14, 25, 59, 60, 61, 62, 63, 64] (by decide +kernel) (by decide +kernel)
set_option maxRecDepth 20000 in
theorem gX8_ruleAt_X0_ruleNumber : GoodIn wsX8_ruleAt (wsV RX8 239 RX0 yX0_ruleNumber wsX0_ruleNumber) := goodIn_app (goodIn_of _ (by decide +kernel)) ggX8_ruleAt_X0_ruleNumber
set_option maxRecDepth 20000 in
theorem ggX8_ruleAt_X8_answer : GoodIn wsX8_ruleAt wsX8_answer := goodIn_r _ [29, 20, 30, 31, 32, 33, 34, 35, 36, 37, 38] (by decide +kernel) (by decide +kernel)
set_option maxRecDepth 20000 in
theorem gX8_ruleAt_X8_answer : GoodIn wsX8_ruleAt (wsV RX8 97 RX8 yX8_answer wsX8_answer) := goodIn_app (goodIn_of _ (by decide +kernel)) ggX8_ruleAt_X8_answer
theorem dX8_ruleAt_0 : decode cX8_ruleAt 0 = .ok (.aload_n 0, 1) := by decide +kernel
theorem dX8_ruleAt_1 : decode cX8_ruleAt 1 = .ok (.getfield 47, 3) := by decide +kernel
theorem dX8_ruleAt_4 : decode cX8_ruleAt 4 = .ok (.invokevirtual 161, 3) := by decide +kernel
theorem dX8_ruleAt_7 : decode cX8_ruleAt 7 = .ok (.ifCond .eq 18, 3) := by decide +kernel
theorem dX8_ruleAt_10 : decode cX8_ruleAt 10 = .ok (.iload_n 1, 1) := by decide +kernel
theorem dX8_ruleAt_11 : decode cX8_ruleAt 11 = .ok (.ifCond .lt 14, 3) := by decide +kernel
theorem dX8_ruleAt_14 : decode cX8_ruleAt 14 = .ok (.iload_n 1, 1) := by decide +kernel
theorem dX8_ruleAt_15 : decode cX8_ruleAt 15 = .ok (.aload_n 0, 1) := by decide +kernel
theorem dX8_ruleAt_16 : decode cX8_ruleAt 16 = .ok (.getfield 40, 3) := by decide +kernel
theorem dX8_ruleAt_19 : decode cX8_ruleAt 19 = .ok (.invokevirtual 238, 3) := by decide +kernel
theorem dX8_ruleAt_22 : decode cX8_ruleAt 22 = .ok (.if_icmp .lt 9, 3) := by decide +kernel
theorem dX8_ruleAt_25 : decode cX8_ruleAt 25 = .ok (.aload_n 0, 1) := by decide +kernel
theorem dX8_ruleAt_26 : decode cX8_ruleAt 26 = .ok (.iconst 1, 1) := by decide +kernel
theorem dX8_ruleAt_27 : decode cX8_ruleAt 27 = .ok (.invokevirtual 63, 3) := by decide +kernel
theorem dX8_ruleAt_30 : decode cX8_ruleAt 30 = .ok (.ireturn, 1) := by decide +kernel
theorem dX8_ruleAt_31 : decode cX8_ruleAt 31 = .ok (.aload_n 0, 1) := by decide +kernel
theorem dX8_ruleAt_32 : decode cX8_ruleAt 32 = .ok (.aload_n 0, 1) := by decide +kernel
theorem dX8_ruleAt_33 : decode cX8_ruleAt 33 = .ok (.getfield 40, 3) := by decide +kernel
theorem dX8_ruleAt_36 : decode cX8_ruleAt 36 = .ok (.iload_n 1, 1) := by decide +kernel
theorem dX8_ruleAt_37 : decode cX8_ruleAt 37 = .ok (.invokevirtual 239, 3) := by decide +kernel
theorem dX8_ruleAt_40 : decode cX8_ruleAt 40 = .ok (.invokevirtual 97, 3) := by decide +kernel
theorem dX8_ruleAt_43 : decode cX8_ruleAt 43 = .ok (.ireturn, 1) := by decide +kernel
set_option maxRecDepth 20000 in
theorem ggX8_there_X4_stands : GoodIn wsX8_there wsX4_stands := goodIn_r _ [7, 8, 42, 43, 44, 45, 46, 47, 48, 49, 50, 51, 52, 53, 54, 55, 56, 57, 58, 59, 60, 61] (by decide +kernel) (by decide +kernel)
set_option maxRecDepth 20000 in
theorem gX8_there_X4_stands : GoodIn wsX8_there (wsV RX8 161 RX4 yX4_stands wsX4_stands) := goodIn_app (goodIn_of _ (by decide +kernel)) ggX8_there_X4_stands
set_option maxRecDepth 20000 in
theorem ggX8_there_X8_refuse : GoodIn wsX8_there wsX8_refuse := goodIn_r _ [13, 14, 33, 34, 35, 36, 37, 38, 39, 40, 41] (by decide +kernel) (by decide +kernel)
set_option maxRecDepth 20000 in
theorem gX8_there_X8_refuse : GoodIn wsX8_there (wsV RX8 63 RX8 yX8_refuse wsX8_refuse) := goodIn_app (goodIn_of _ (by decide +kernel)) ggX8_there_X8_refuse
set_option maxRecDepth 20000 in
theorem ggX8_there_X0_countAt : GoodIn wsX8_there wsX0_countAt := goodIn_r _ [19, 20, 21, 22, 23, 18, 24, 25, 26, 27, 28, 62, 63, 64, 65, 66, 67] (by decide +kernel) (by decide +kernel)
set_option maxRecDepth 20000 in
theorem gX8_there_X0_countAt : GoodIn wsX8_there (wsV RX8 242 RX0 yX0_countAt wsX0_countAt) := goodIn_app (goodIn_of _ (by decide +kernel)) ggX8_there_X0_countAt
set_option maxRecDepth 20000 in
theorem ggX8_there_X8_answer : GoodIn wsX8_there wsX8_answer := goodIn_r _ [32, 14, 33, 34, 35, 36, 37, 38, 39, 40, 41] (by decide +kernel) (by decide +kernel)
set_option maxRecDepth 20000 in
theorem gX8_there_X8_answer : GoodIn wsX8_there (wsV RX8 97 RX8 yX8_answer wsX8_answer) := goodIn_app (goodIn_of _ (by decide +kernel)) ggX8_there_X8_answer
theorem dX8_there_0 : decode cX8_there 0 = .ok (.aload_n 0, 1) := by decide +kernel
theorem dX8_there_1 : decode cX8_there 1 = .ok (.getfield 47, 3) := by decide +kernel
theorem dX8_there_4 : decode cX8_there 4 = .ok (.invokevirtual 161, 3) := by decide +kernel
theorem dX8_there_7 : decode cX8_there 7 = .ok (.ifCond .ne 9, 3) := by decide +kernel
theorem dX8_there_10 : decode cX8_there 10 = .ok (.aload_n 0, 1) := by decide +kernel
theorem dX8_there_11 : decode cX8_there 11 = .ok (.iconst 1, 1) := by decide +kernel
theorem dX8_there_12 : decode cX8_there 12 = .ok (.invokevirtual 63, 3) := by decide +kernel
theorem dX8_there_15 : decode cX8_there 15 = .ok (.ireturn, 1) := by decide +kernel
theorem dX8_there_16 : decode cX8_there 16 = .ok (.iload_n 1, 1) := by decide +kernel
theorem dX8_there_17 : decode cX8_there 17 = .ok (.ifCond .lt 19, 3) := by decide +kernel
theorem dX8_there_20 : decode cX8_there 20 = .ok (.iload_n 1, 1) := by decide +kernel
theorem dX8_there_21 : decode cX8_there 21 = .ok (.bipush 100, 2) := by decide +kernel
theorem dX8_there_23 : decode cX8_there 23 = .ok (.if_icmp .ge 13, 3) := by decide +kernel
theorem dX8_there_26 : decode cX8_there 26 = .ok (.iload_n 2, 1) := by decide +kernel
theorem dX8_there_27 : decode cX8_there 27 = .ok (.ifCond .lt 9, 3) := by decide +kernel
theorem dX8_there_30 : decode cX8_there 30 = .ok (.iload_n 2, 1) := by decide +kernel
theorem dX8_there_31 : decode cX8_there 31 = .ok (.bipush 12, 2) := by decide +kernel
theorem dX8_there_33 : decode cX8_there 33 = .ok (.if_icmp .lt 9, 3) := by decide +kernel
theorem dX8_there_36 : decode cX8_there 36 = .ok (.aload_n 0, 1) := by decide +kernel
theorem dX8_there_37 : decode cX8_there 37 = .ok (.iconst 2, 1) := by decide +kernel
theorem dX8_there_38 : decode cX8_there 38 = .ok (.invokevirtual 63, 3) := by decide +kernel
theorem dX8_there_41 : decode cX8_there 41 = .ok (.ireturn, 1) := by decide +kernel
theorem dX8_there_42 : decode cX8_there 42 = .ok (.aload_n 0, 1) := by decide +kernel
theorem dX8_there_43 : decode cX8_there 43 = .ok (.aload_n 0, 1) := by decide +kernel
theorem dX8_there_44 : decode cX8_there 44 = .ok (.getfield 40, 3) := by decide +kernel
theorem dX8_there_47 : decode cX8_there 47 = .ok (.iload_n 1, 1) := by decide +kernel
theorem dX8_there_48 : decode cX8_there 48 = .ok (.iload_n 2, 1) := by decide +kernel
theorem dX8_there_49 : decode cX8_there 49 = .ok (.invokevirtual 242, 3) := by decide +kernel
theorem dX8_there_52 : decode cX8_there 52 = .ok (.invokevirtual 97, 3) := by decide +kernel
theorem dX8_there_55 : decode cX8_there 55 = .ok (.ireturn, 1) := by decide +kernel
set_option maxRecDepth 20000 in
theorem ggX8_surely_X4_stands : GoodIn wsX8_surely wsX4_stands := goodIn_r _ [7, 8, 46, 47, 48, 49, 50, 51, 52, 53, 54, 55, 56, 57, 58, 59, 60, 61, 62, 63, 64, 65] (by decide +kernel) (by decide +kernel)
set_option maxRecDepth 20000 in
theorem gX8_surely_X4_stands : GoodIn wsX8_surely (wsV RX8 161 RX4 yX4_stands wsX4_stands) := goodIn_app (goodIn_of _ (by decide +kernel)) ggX8_surely_X4_stands
set_option maxRecDepth 20000 in
theorem ggX8_surely_X8_refuse : GoodIn wsX8_surely wsX8_refuse := goodIn_r _ [13, 14, 37, 38, 39, 40, 41, 42, 43, 44, 45] (by decide +kernel) (by decide +kernel)
set_option maxRecDepth 20000 in
theorem gX8_surely_X8_refuse : GoodIn wsX8_surely (wsV RX8 63 RX8 yX8_refuse wsX8_refuse) := goodIn_app (goodIn_of _ (by decide +kernel)) ggX8_surely_X8_refuse
set_option maxRecDepth 20000 in
theorem ggX8_surely_X0_firstSure : GoodIn wsX8_surely wsX0_firstSure := goodIn_r _ [19, 20, 21, 22, 23, 18, 24, 25, 26, 27, 28, 29, 30, 31, 32, 66, 67, 68, 69, 70, 71] (by decide +kernel) (by decide +kernel)
set_option maxRecDepth 20000 in
theorem gX8_surely_X0_firstSure : GoodIn wsX8_surely (wsV RX8 245 RX0 yX0_firstSure wsX0_firstSure) := goodIn_app (goodIn_of _ (by decide +kernel)) ggX8_surely_X0_firstSure
set_option maxRecDepth 20000 in
theorem ggX8_surely_X8_answer : GoodIn wsX8_surely wsX8_answer := goodIn_r _ [36, 14, 37, 38, 39, 40, 41, 42, 43, 44, 45] (by decide +kernel) (by decide +kernel)
set_option maxRecDepth 20000 in
theorem gX8_surely_X8_answer : GoodIn wsX8_surely (wsV RX8 97 RX8 yX8_answer wsX8_answer) := goodIn_app (goodIn_of _ (by decide +kernel)) ggX8_surely_X8_answer
theorem dX8_surely_0 : decode cX8_surely 0 = .ok (.aload_n 0, 1) := by decide +kernel
theorem dX8_surely_1 : decode cX8_surely 1 = .ok (.getfield 47, 3) := by decide +kernel
theorem dX8_surely_4 : decode cX8_surely 4 = .ok (.invokevirtual 161, 3) := by decide +kernel
theorem dX8_surely_7 : decode cX8_surely 7 = .ok (.ifCond .ne 9, 3) := by decide +kernel
theorem dX8_surely_10 : decode cX8_surely 10 = .ok (.aload_n 0, 1) := by decide +kernel
theorem dX8_surely_11 : decode cX8_surely 11 = .ok (.iconst 1, 1) := by decide +kernel
theorem dX8_surely_12 : decode cX8_surely 12 = .ok (.invokevirtual 63, 3) := by decide +kernel
theorem dX8_surely_15 : decode cX8_surely 15 = .ok (.ireturn, 1) := by decide +kernel
theorem dX8_surely_16 : decode cX8_surely 16 = .ok (.iload_n 1, 1) := by decide +kernel
theorem dX8_surely_17 : decode cX8_surely 17 = .ok (.ifCond .lt 9, 3) := by decide +kernel
theorem dX8_surely_20 : decode cX8_surely 20 = .ok (.iload_n 1, 1) := by decide +kernel
theorem dX8_surely_21 : decode cX8_surely 21 = .ok (.bipush 100, 2) := by decide +kernel
theorem dX8_surely_23 : decode cX8_surely 23 = .ok (.if_icmp .lt 9, 3) := by decide +kernel
theorem dX8_surely_26 : decode cX8_surely 26 = .ok (.aload_n 0, 1) := by decide +kernel
theorem dX8_surely_27 : decode cX8_surely 27 = .ok (.iconst 2, 1) := by decide +kernel
theorem dX8_surely_28 : decode cX8_surely 28 = .ok (.invokevirtual 63, 3) := by decide +kernel
theorem dX8_surely_31 : decode cX8_surely 31 = .ok (.ireturn, 1) := by decide +kernel
theorem dX8_surely_32 : decode cX8_surely 32 = .ok (.aload_n 0, 1) := by decide +kernel
theorem dX8_surely_33 : decode cX8_surely 33 = .ok (.aload_n 0, 1) := by decide +kernel
theorem dX8_surely_34 : decode cX8_surely 34 = .ok (.getfield 40, 3) := by decide +kernel
theorem dX8_surely_37 : decode cX8_surely 37 = .ok (.iload_n 1, 1) := by decide +kernel
theorem dX8_surely_38 : decode cX8_surely 38 = .ok (.invokevirtual 245, 3) := by decide +kernel
theorem dX8_surely_41 : decode cX8_surely 41 = .ok (.invokevirtual 97, 3) := by decide +kernel
theorem dX8_surely_44 : decode cX8_surely 44 = .ok (.ireturn, 1) := by decide +kernel
set_option maxRecDepth 20000 in
theorem ggX8_look_X4_stands : GoodIn wsX8_look wsX4_stands := goodIn_r _ [7, 8, 62, 63, 64, 65, 66, 67, 68, 69, 70, 71, 72, 73, 74, 75, 76, 77, 78, 79, 80, 81] (by decide +kernel) (by decide +kernel)
set_option maxRecDepth 20000 in
theorem gX8_look_X4_stands : GoodIn wsX8_look (wsV RX8 161 RX4 yX4_stands wsX4_stands) := goodIn_app (goodIn_of _ (by decide +kernel)) ggX8_look_X4_stands
set_option maxRecDepth 20000 in
theorem ggX8_look_X8_refuse : GoodIn wsX8_look wsX8_refuse := goodIn_r _ [13, 14, 53, 54, 55, 56, 57, 58, 59, 60, 61] (by decide +kernel) (by decide +kernel)
set_option maxRecDepth 20000 in
theorem gX8_look_X8_refuse : GoodIn wsX8_look (wsV RX8 63 RX8 yX8_refuse wsX8_refuse) := goodIn_app (goodIn_of _ (by decide +kernel)) ggX8_look_X8_refuse
set_option maxRecDepth 20000 in
theorem ggX8_look_X0_bestLook : GoodIn wsX8_look wsX0_bestLook := goodIn_r _ [19, 20, 21, 22, 23, 18, 24, 25, 26, 27, 28, 29, 30, 31, 32, 33, 34, 35, 36, 37, 38, 39, 40, 41, 42, 43, 44, 45, 46, 47, 48, 82, 83, 84, 85, 86, 87] (by decide +kernel) (by decide +kernel)
set_option maxRecDepth 20000 in
theorem gX8_look_X0_bestLook : GoodIn wsX8_look (wsV RX8 248 RX0 yX0_bestLook wsX0_bestLook) := goodIn_app (goodIn_of _ (by decide +kernel)) ggX8_look_X0_bestLook
set_option maxRecDepth 20000 in
theorem ggX8_look_X8_answer : GoodIn wsX8_look wsX8_answer := goodIn_r _ [52, 14, 53, 54, 55, 56, 57, 58, 59, 60, 61] (by decide +kernel) (by decide +kernel)
set_option maxRecDepth 20000 in
theorem gX8_look_X8_answer : GoodIn wsX8_look (wsV RX8 97 RX8 yX8_answer wsX8_answer) := goodIn_app (goodIn_of _ (by decide +kernel)) ggX8_look_X8_answer
theorem dX8_look_0 : decode cX8_look 0 = .ok (.aload_n 0, 1) := by decide +kernel
theorem dX8_look_1 : decode cX8_look 1 = .ok (.getfield 47, 3) := by decide +kernel
theorem dX8_look_4 : decode cX8_look 4 = .ok (.invokevirtual 161, 3) := by decide +kernel
theorem dX8_look_7 : decode cX8_look 7 = .ok (.ifCond .ne 9, 3) := by decide +kernel
theorem dX8_look_10 : decode cX8_look 10 = .ok (.aload_n 0, 1) := by decide +kernel
theorem dX8_look_11 : decode cX8_look 11 = .ok (.iconst 1, 1) := by decide +kernel
theorem dX8_look_12 : decode cX8_look 12 = .ok (.invokevirtual 63, 3) := by decide +kernel
theorem dX8_look_15 : decode cX8_look 15 = .ok (.ireturn, 1) := by decide +kernel
theorem dX8_look_16 : decode cX8_look 16 = .ok (.aload_n 0, 1) := by decide +kernel
theorem dX8_look_17 : decode cX8_look 17 = .ok (.aload_n 0, 1) := by decide +kernel
theorem dX8_look_18 : decode cX8_look 18 = .ok (.getfield 40, 3) := by decide +kernel
theorem dX8_look_21 : decode cX8_look 21 = .ok (.invokevirtual 248, 3) := by decide +kernel
theorem dX8_look_24 : decode cX8_look 24 = .ok (.invokevirtual 97, 3) := by decide +kernel
theorem dX8_look_27 : decode cX8_look 27 = .ok (.ireturn, 1) := by decide +kernel
set_option maxRecDepth 20000 in
theorem ggX8_lookLeaves_X4_stands : GoodIn wsX8_lookLeaves wsX4_stands := goodIn_r _ [7, 8, 62, 63, 64, 65, 66, 67, 68, 69, 70, 71, 72, 73, 74, 75, 76, 77, 78, 79, 80, 81] (by decide +kernel) (by decide +kernel)
set_option maxRecDepth 20000 in
theorem gX8_lookLeaves_X4_stands : GoodIn wsX8_lookLeaves (wsV RX8 161 RX4 yX4_stands wsX4_stands) := goodIn_app (goodIn_of _ (by decide +kernel)) ggX8_lookLeaves_X4_stands
set_option maxRecDepth 20000 in
theorem ggX8_lookLeaves_X8_refuse : GoodIn wsX8_lookLeaves wsX8_refuse := goodIn_r _ [13, 14, 53, 54, 55, 56, 57, 58, 59, 60, 61] (by decide +kernel) (by decide +kernel)
set_option maxRecDepth 20000 in
theorem gX8_lookLeaves_X8_refuse : GoodIn wsX8_lookLeaves (wsV RX8 63 RX8 yX8_refuse wsX8_refuse) := goodIn_app (goodIn_of _ (by decide +kernel)) ggX8_lookLeaves_X8_refuse
set_option maxRecDepth 20000 in
theorem ggX8_lookLeaves_X0_leftByLook : GoodIn wsX8_lookLeaves wsX0_leftByLook := goodIn_r _ [19, 20, 21, 22, 23, 18, 24, 25, 26, 27, 28, 29, 30, 31, 32, 33, 34, 35, 36, 37, 38, 39, 40, 41, 42, 43, 44, 45, 46, 47, 48, 82, 83, 84, 85, 86, 87] (by decide +kernel) (by decide +kernel)
set_option maxRecDepth 20000 in
theorem gX8_lookLeaves_X0_leftByLook : GoodIn wsX8_lookLeaves (wsV RX8 251 RX0 yX0_leftByLook wsX0_leftByLook) := goodIn_app (goodIn_of _ (by decide +kernel)) ggX8_lookLeaves_X0_leftByLook
set_option maxRecDepth 20000 in
theorem ggX8_lookLeaves_X8_answer : GoodIn wsX8_lookLeaves wsX8_answer := goodIn_r _ [52, 14, 53, 54, 55, 56, 57, 58, 59, 60, 61] (by decide +kernel) (by decide +kernel)
set_option maxRecDepth 20000 in
theorem gX8_lookLeaves_X8_answer : GoodIn wsX8_lookLeaves (wsV RX8 97 RX8 yX8_answer wsX8_answer) := goodIn_app (goodIn_of _ (by decide +kernel)) ggX8_lookLeaves_X8_answer
theorem dX8_lookLeaves_0 : decode cX8_lookLeaves 0 = .ok (.aload_n 0, 1) := by decide +kernel
theorem dX8_lookLeaves_1 : decode cX8_lookLeaves 1 = .ok (.getfield 47, 3) := by decide +kernel
theorem dX8_lookLeaves_4 : decode cX8_lookLeaves 4 = .ok (.invokevirtual 161, 3) := by decide +kernel
theorem dX8_lookLeaves_7 : decode cX8_lookLeaves 7 = .ok (.ifCond .ne 9, 3) := by decide +kernel
theorem dX8_lookLeaves_10 : decode cX8_lookLeaves 10 = .ok (.aload_n 0, 1) := by decide +kernel
theorem dX8_lookLeaves_11 : decode cX8_lookLeaves 11 = .ok (.iconst 1, 1) := by decide +kernel
theorem dX8_lookLeaves_12 : decode cX8_lookLeaves 12 = .ok (.invokevirtual 63, 3) := by decide +kernel
theorem dX8_lookLeaves_15 : decode cX8_lookLeaves 15 = .ok (.ireturn, 1) := by decide +kernel
theorem dX8_lookLeaves_16 : decode cX8_lookLeaves 16 = .ok (.aload_n 0, 1) := by decide +kernel
theorem dX8_lookLeaves_17 : decode cX8_lookLeaves 17 = .ok (.aload_n 0, 1) := by decide +kernel
theorem dX8_lookLeaves_18 : decode cX8_lookLeaves 18 = .ok (.getfield 40, 3) := by decide +kernel
theorem dX8_lookLeaves_21 : decode cX8_lookLeaves 21 = .ok (.invokevirtual 251, 3) := by decide +kernel
theorem dX8_lookLeaves_24 : decode cX8_lookLeaves 24 = .ok (.invokevirtual 97, 3) := by decide +kernel
theorem dX8_lookLeaves_27 : decode cX8_lookLeaves 27 = .ok (.ireturn, 1) := by decide +kernel
set_option maxRecDepth 20000 in
theorem ggX8_heir_X8_whyNoHeirs : GoodIn wsX8_heir wsX8_whyNoHeirs := goodIn_r _ [6, 7, 8, 9, 10, 11, 12, 13, 18, 19, 20, 21, 22, 23, 24, 25, 26, 27, 28, 29, 30, 31, 32, 33, 34, 35, 36, 37, 38, 39, 40, 41, 42, 43, 44, 45, 46] (by decide +kernel) (by decide +kernel)
set_option maxRecDepth 20000 in
theorem gX8_heir_X8_whyNoHeirs : GoodIn wsX8_heir (wsV RX8 254 RX8 yX8_whyNoHeirs wsX8_whyNoHeirs) := goodIn_app (goodIn_of _ (by decide +kernel)) ggX8_heir_X8_whyNoHeirs
set_option maxRecDepth 20000 in
theorem ggX8_heir_X2_gain : GoodIn wsX8_heir wsX2_gain := goodIn_r _ [17] (by decide +kernel) (by decide +kernel)
set_option maxRecDepth 20000 in
theorem gX8_heir_X2_gain : GoodIn wsX8_heir (va_wsS RX8 257 yX2_gain wsX2_gain) := goodIn_app (goodIn_of _ (by decide +kernel)) ggX8_heir_X2_gain
theorem dX8_heir_0 : decode cX8_heir 0 = .ok (.iload_n 2, 1) := by decide +kernel
theorem dX8_heir_1 : decode cX8_heir 1 = .ok (.ifCond .lt 23, 3) := by decide +kernel
theorem dX8_heir_4 : decode cX8_heir 4 = .ok (.iload_n 2, 1) := by decide +kernel
theorem dX8_heir_5 : decode cX8_heir 5 = .ok (.bipush 6, 2) := by decide +kernel
theorem dX8_heir_7 : decode cX8_heir 7 = .ok (.if_icmp .gt 17, 3) := by decide +kernel
theorem dX8_heir_10 : decode cX8_heir 10 = .ok (.iload_n 3, 1) := by decide +kernel
theorem dX8_heir_11 : decode cX8_heir 11 = .ok (.ifCond .lt 13, 3) := by decide +kernel
theorem dX8_heir_14 : decode cX8_heir 14 = .ok (.iload_n 3, 1) := by decide +kernel
theorem dX8_heir_15 : decode cX8_heir 15 = .ok (.bipush 6, 2) := by decide +kernel
theorem dX8_heir_17 : decode cX8_heir 17 = .ok (.if_icmp .gt 7, 3) := by decide +kernel
theorem dX8_heir_20 : decode cX8_heir 20 = .ok (.iconst 1, 1) := by decide +kernel
theorem dX8_heir_21 : decode cX8_heir 21 = .ok (.goto 4, 3) := by decide +kernel
theorem dX8_heir_24 : decode cX8_heir 24 = .ok (.iconst 0, 1) := by decide +kernel
theorem dX8_heir_25 : decode cX8_heir 25 = .ok (.istore 5, 2) := by decide +kernel
theorem dX8_heir_27 : decode cX8_heir 27 = .ok (.aload_n 0, 1) := by decide +kernel
theorem dX8_heir_28 : decode cX8_heir 28 = .ok (.iload_n 1, 1) := by decide +kernel
theorem dX8_heir_29 : decode cX8_heir 29 = .ok (.invokevirtual 254, 3) := by decide +kernel
theorem dX8_heir_32 : decode cX8_heir 32 = .ok (.istore 6, 2) := by decide +kernel
theorem dX8_heir_34 : decode cX8_heir 34 = .ok (.iload 6, 2) := by decide +kernel
theorem dX8_heir_36 : decode cX8_heir 36 = .ok (.ifCond .ne 11, 3) := by decide +kernel
theorem dX8_heir_39 : decode cX8_heir 39 = .ok (.iload 5, 2) := by decide +kernel
theorem dX8_heir_41 : decode cX8_heir 41 = .ok (.ifCond .ne 6, 3) := by decide +kernel
theorem dX8_heir_44 : decode cX8_heir 44 = .ok (.iconst 2, 1) := by decide +kernel
theorem dX8_heir_45 : decode cX8_heir 45 = .ok (.istore 6, 2) := by decide +kernel
theorem dX8_heir_47 : decode cX8_heir 47 = .ok (.aload_n 0, 1) := by decide +kernel
theorem dX8_heir_48 : decode cX8_heir 48 = .ok (.iload 6, 2) := by decide +kernel
theorem dX8_heir_50 : decode cX8_heir 50 = .ok (.putfield 100, 3) := by decide +kernel
theorem dX8_heir_53 : decode cX8_heir 53 = .ok (.iload 6, 2) := by decide +kernel
theorem dX8_heir_55 : decode cX8_heir 55 = .ok (.ifCond .eq 6, 3) := by decide +kernel
theorem dX8_heir_58 : decode cX8_heir 58 = .ok (.bipush (-100), 2) := by decide +kernel
theorem dX8_heir_60 : decode cX8_heir 60 = .ok (.ireturn, 1) := by decide +kernel
theorem dX8_heir_61 : decode cX8_heir 61 = .ok (.iload 4, 2) := by decide +kernel
theorem dX8_heir_63 : decode cX8_heir 63 = .ok (.ifCond .eq 12, 3) := by decide +kernel
theorem dX8_heir_66 : decode cX8_heir 66 = .ok (.iload_n 1, 1) := by decide +kernel
theorem dX8_heir_67 : decode cX8_heir 67 = .ok (.iload_n 3, 1) := by decide +kernel
theorem dX8_heir_68 : decode cX8_heir 68 = .ok (.iload_n 2, 1) := by decide +kernel
theorem dX8_heir_69 : decode cX8_heir 69 = .ok (.invokestatic 257, 3) := by decide +kernel
theorem dX8_heir_72 : decode cX8_heir 72 = .ok (.goto 9, 3) := by decide +kernel
theorem dX8_heir_75 : decode cX8_heir 75 = .ok (.iload_n 1, 1) := by decide +kernel
theorem dX8_heir_76 : decode cX8_heir 76 = .ok (.iload_n 2, 1) := by decide +kernel
theorem dX8_heir_77 : decode cX8_heir 77 = .ok (.iload_n 3, 1) := by decide +kernel
theorem dX8_heir_78 : decode cX8_heir 78 = .ok (.invokestatic 257, 3) := by decide +kernel
theorem dX8_heir_81 : decode cX8_heir 81 = .ok (.ireturn, 1) := by decide +kernel
set_option maxRecDepth 20000 in
theorem ggX8_rests_X8_whyNoHeirs : GoodIn wsX8_rests wsX8_whyNoHeirs := goodIn_r _ [5, 6, 7, 8, 9, 10, 11, 12, 29, 30, 31, 32, 33, 34, 35, 36, 37, 38, 39, 40, 41, 42, 43, 44, 45, 46, 47, 48, 49, 50, 51, 52, 53, 54, 55, 56, 57] (by decide +kernel) (by decide +kernel)
set_option maxRecDepth 20000 in
theorem gX8_rests_X8_whyNoHeirs : GoodIn wsX8_rests (wsV RX8 254 RX8 yX8_whyNoHeirs wsX8_whyNoHeirs) := goodIn_app (goodIn_of _ (by decide +kernel)) ggX8_rests_X8_whyNoHeirs
set_option maxRecDepth 20000 in
theorem ggX8_rests_X8_refuse : GoodIn wsX8_rests wsX8_refuse := goodIn_r _ [16, 17, 29, 30, 31, 32, 33, 34, 35, 36, 37] (by decide +kernel) (by decide +kernel)
set_option maxRecDepth 20000 in
theorem gX8_rests_X8_refuse : GoodIn wsX8_rests (wsV RX8 63 RX8 yX8_refuse wsX8_refuse) := goodIn_app (goodIn_of _ (by decide +kernel)) ggX8_rests_X8_refuse
set_option maxRecDepth 20000 in
theorem ggX8_rests_X2_areAtRest : GoodIn wsX8_rests wsX2_areAtRest := goodIn_r _ [21, 22, 23, 20, 24] (by decide +kernel) (by decide +kernel)
set_option maxRecDepth 20000 in
theorem gX8_rests_X2_areAtRest : GoodIn wsX8_rests (va_wsS RX8 263 yX2_areAtRest wsX2_areAtRest) := goodIn_app (goodIn_of _ (by decide +kernel)) ggX8_rests_X2_areAtRest
set_option maxRecDepth 20000 in
theorem ggX8_rests_X8_answer : GoodIn wsX8_rests wsX8_answer := goodIn_r _ [28, 17, 29, 30, 31, 32, 33, 34, 35, 36, 37] (by decide +kernel) (by decide +kernel)
set_option maxRecDepth 20000 in
theorem gX8_rests_X8_answer : GoodIn wsX8_rests (wsV RX8 97 RX8 yX8_answer wsX8_answer) := goodIn_app (goodIn_of _ (by decide +kernel)) ggX8_rests_X8_answer
theorem dX8_rests_0 : decode cX8_rests 0 = .ok (.aload_n 0, 1) := by decide +kernel
theorem dX8_rests_1 : decode cX8_rests 1 = .ok (.iload_n 1, 1) := by decide +kernel
theorem dX8_rests_2 : decode cX8_rests 2 = .ok (.invokevirtual 254, 3) := by decide +kernel
theorem dX8_rests_5 : decode cX8_rests 5 = .ok (.istore_n 2, 1) := by decide +kernel
theorem dX8_rests_6 : decode cX8_rests 6 = .ok (.iload_n 2, 1) := by decide +kernel
theorem dX8_rests_7 : decode cX8_rests 7 = .ok (.ifCond .eq 9, 3) := by decide +kernel
theorem dX8_rests_10 : decode cX8_rests 10 = .ok (.aload_n 0, 1) := by decide +kernel
theorem dX8_rests_11 : decode cX8_rests 11 = .ok (.iload_n 2, 1) := by decide +kernel
theorem dX8_rests_12 : decode cX8_rests 12 = .ok (.invokevirtual 63, 3) := by decide +kernel
theorem dX8_rests_15 : decode cX8_rests 15 = .ok (.ireturn, 1) := by decide +kernel
theorem dX8_rests_16 : decode cX8_rests 16 = .ok (.iconst 0, 1) := by decide +kernel
theorem dX8_rests_17 : decode cX8_rests 17 = .ok (.istore_n 3, 1) := by decide +kernel
theorem dX8_rests_18 : decode cX8_rests 18 = .ok (.iconst 0, 1) := by decide +kernel
theorem dX8_rests_19 : decode cX8_rests 19 = .ok (.istore 4, 2) := by decide +kernel
theorem dX8_rests_21 : decode cX8_rests 21 = .ok (.iload 4, 2) := by decide +kernel
theorem dX8_rests_23 : decode cX8_rests 23 = .ok (.bipush 6, 2) := by decide +kernel
theorem dX8_rests_25 : decode cX8_rests 25 = .ok (.if_icmp .gt 44, 3) := by decide +kernel
theorem dX8_rests_28 : decode cX8_rests 28 = .ok (.iconst 0, 1) := by decide +kernel
theorem dX8_rests_29 : decode cX8_rests 29 = .ok (.istore 5, 2) := by decide +kernel
theorem dX8_rests_31 : decode cX8_rests 31 = .ok (.iload 5, 2) := by decide +kernel
theorem dX8_rests_33 : decode cX8_rests 33 = .ok (.bipush 6, 2) := by decide +kernel
theorem dX8_rests_35 : decode cX8_rests 35 = .ok (.if_icmp .gt 28, 3) := by decide +kernel
theorem dX8_rests_38 : decode cX8_rests 38 = .ok (.iload_n 3, 1) := by decide +kernel
theorem dX8_rests_39 : decode cX8_rests 39 = .ok (.iload_n 1, 1) := by decide +kernel
theorem dX8_rests_40 : decode cX8_rests 40 = .ok (.iload 4, 2) := by decide +kernel
theorem dX8_rests_42 : decode cX8_rests 42 = .ok (.iload 5, 2) := by decide +kernel
theorem dX8_rests_44 : decode cX8_rests 44 = .ok (.invokestatic 263, 3) := by decide +kernel
theorem dX8_rests_47 : decode cX8_rests 47 = .ok (.ifCond .eq 7, 3) := by decide +kernel
theorem dX8_rests_50 : decode cX8_rests 50 = .ok (.iconst 1, 1) := by decide +kernel
theorem dX8_rests_51 : decode cX8_rests 51 = .ok (.goto 4, 3) := by decide +kernel
theorem dX8_rests_54 : decode cX8_rests 54 = .ok (.iconst 0, 1) := by decide +kernel
theorem dX8_rests_55 : decode cX8_rests 55 = .ok (.iadd, 1) := by decide +kernel
theorem dX8_rests_56 : decode cX8_rests 56 = .ok (.istore_n 3, 1) := by decide +kernel
theorem dX8_rests_57 : decode cX8_rests 57 = .ok (.iinc 5 1, 3) := by decide +kernel
theorem dX8_rests_60 : decode cX8_rests 60 = .ok (.goto (-29), 3) := by decide +kernel
theorem dX8_rests_63 : decode cX8_rests 63 = .ok (.iinc 4 1, 3) := by decide +kernel
theorem dX8_rests_66 : decode cX8_rests 66 = .ok (.goto (-45), 3) := by decide +kernel
theorem dX8_rests_69 : decode cX8_rests 69 = .ok (.aload_n 0, 1) := by decide +kernel
theorem dX8_rests_70 : decode cX8_rests 70 = .ok (.iload_n 3, 1) := by decide +kernel
theorem dX8_rests_71 : decode cX8_rests 71 = .ok (.invokevirtual 97, 3) := by decide +kernel
theorem dX8_rests_74 : decode cX8_rests 74 = .ok (.ireturn, 1) := by decide +kernel
set_option maxRecDepth 20000 in
theorem ggX8_rest_X8_whyNoHeirs : GoodIn wsX8_rest wsX8_whyNoHeirs := goodIn_r _ [5, 6, 7, 8, 9, 10, 11, 12, 29, 30, 31, 32, 33, 34, 35, 36, 37, 38, 39, 40, 41, 42, 43, 44, 45, 46, 47, 48, 49, 50, 51, 52, 53, 54, 55, 56, 57] (by decide +kernel) (by decide +kernel)
set_option maxRecDepth 20000 in
theorem gX8_rest_X8_whyNoHeirs : GoodIn wsX8_rest (wsV RX8 254 RX8 yX8_whyNoHeirs wsX8_whyNoHeirs) := goodIn_app (goodIn_of _ (by decide +kernel)) ggX8_rest_X8_whyNoHeirs
set_option maxRecDepth 20000 in
theorem ggX8_rest_X8_refuse : GoodIn wsX8_rest wsX8_refuse := goodIn_r _ [16, 17, 29, 30, 31, 32, 33, 34, 35, 36, 37] (by decide +kernel) (by decide +kernel)
set_option maxRecDepth 20000 in
theorem gX8_rest_X8_refuse : GoodIn wsX8_rest (wsV RX8 63 RX8 yX8_refuse wsX8_refuse) := goodIn_app (goodIn_of _ (by decide +kernel)) ggX8_rest_X8_refuse
set_option maxRecDepth 20000 in
theorem ggX8_rest_X2_areAtRest : GoodIn wsX8_rest wsX2_areAtRest := goodIn_r _ [21, 22, 23, 20, 24] (by decide +kernel) (by decide +kernel)
set_option maxRecDepth 20000 in
theorem gX8_rest_X2_areAtRest : GoodIn wsX8_rest (va_wsS RX8 263 yX2_areAtRest wsX2_areAtRest) := goodIn_app (goodIn_of _ (by decide +kernel)) ggX8_rest_X2_areAtRest
set_option maxRecDepth 20000 in
theorem ggX8_rest_X8_answer : GoodIn wsX8_rest wsX8_answer := goodIn_r _ [28, 17, 29, 30, 31, 32, 33, 34, 35, 36, 37] (by decide +kernel) (by decide +kernel)
set_option maxRecDepth 20000 in
theorem gX8_rest_X8_answer : GoodIn wsX8_rest (wsV RX8 97 RX8 yX8_answer wsX8_answer) := goodIn_app (goodIn_of _ (by decide +kernel)) ggX8_rest_X8_answer
theorem dX8_rest_0 : decode cX8_rest 0 = .ok (.aload_n 0, 1) := by decide +kernel
theorem dX8_rest_1 : decode cX8_rest 1 = .ok (.iload_n 1, 1) := by decide +kernel
theorem dX8_rest_2 : decode cX8_rest 2 = .ok (.invokevirtual 254, 3) := by decide +kernel
theorem dX8_rest_5 : decode cX8_rest 5 = .ok (.istore_n 2, 1) := by decide +kernel
theorem dX8_rest_6 : decode cX8_rest 6 = .ok (.iload_n 2, 1) := by decide +kernel
theorem dX8_rest_7 : decode cX8_rest 7 = .ok (.ifCond .eq 9, 3) := by decide +kernel
theorem dX8_rest_10 : decode cX8_rest 10 = .ok (.aload_n 0, 1) := by decide +kernel
theorem dX8_rest_11 : decode cX8_rest 11 = .ok (.iload_n 2, 1) := by decide +kernel
theorem dX8_rest_12 : decode cX8_rest 12 = .ok (.invokevirtual 63, 3) := by decide +kernel
theorem dX8_rest_15 : decode cX8_rest 15 = .ok (.ireturn, 1) := by decide +kernel
theorem dX8_rest_16 : decode cX8_rest 16 = .ok (.iconst 0, 1) := by decide +kernel
theorem dX8_rest_17 : decode cX8_rest 17 = .ok (.istore_n 3, 1) := by decide +kernel
theorem dX8_rest_18 : decode cX8_rest 18 = .ok (.iload_n 3, 1) := by decide +kernel
theorem dX8_rest_19 : decode cX8_rest 19 = .ok (.bipush 6, 2) := by decide +kernel
theorem dX8_rest_21 : decode cX8_rest 21 = .ok (.if_icmp .gt 47, 3) := by decide +kernel
theorem dX8_rest_24 : decode cX8_rest 24 = .ok (.iconst 0, 1) := by decide +kernel
theorem dX8_rest_25 : decode cX8_rest 25 = .ok (.istore 4, 2) := by decide +kernel
theorem dX8_rest_27 : decode cX8_rest 27 = .ok (.iload 4, 2) := by decide +kernel
theorem dX8_rest_29 : decode cX8_rest 29 = .ok (.bipush 6, 2) := by decide +kernel
theorem dX8_rest_31 : decode cX8_rest 31 = .ok (.if_icmp .gt 31, 3) := by decide +kernel
theorem dX8_rest_34 : decode cX8_rest 34 = .ok (.iload_n 1, 1) := by decide +kernel
theorem dX8_rest_35 : decode cX8_rest 35 = .ok (.iload_n 3, 1) := by decide +kernel
theorem dX8_rest_36 : decode cX8_rest 36 = .ok (.iload 4, 2) := by decide +kernel
theorem dX8_rest_38 : decode cX8_rest 38 = .ok (.invokestatic 263, 3) := by decide +kernel
theorem dX8_rest_41 : decode cX8_rest 41 = .ok (.ifCond .eq 15, 3) := by decide +kernel
theorem dX8_rest_44 : decode cX8_rest 44 = .ok (.aload_n 0, 1) := by decide +kernel
theorem dX8_rest_45 : decode cX8_rest 45 = .ok (.bipush 10, 2) := by decide +kernel
theorem dX8_rest_47 : decode cX8_rest 47 = .ok (.iload_n 3, 1) := by decide +kernel
theorem dX8_rest_48 : decode cX8_rest 48 = .ok (.imul, 1) := by decide +kernel
theorem dX8_rest_49 : decode cX8_rest 49 = .ok (.iload 4, 2) := by decide +kernel
theorem dX8_rest_51 : decode cX8_rest 51 = .ok (.iadd, 1) := by decide +kernel
theorem dX8_rest_52 : decode cX8_rest 52 = .ok (.invokevirtual 97, 3) := by decide +kernel
theorem dX8_rest_55 : decode cX8_rest 55 = .ok (.ireturn, 1) := by decide +kernel
theorem dX8_rest_56 : decode cX8_rest 56 = .ok (.iinc 4 1, 3) := by decide +kernel
theorem dX8_rest_59 : decode cX8_rest 59 = .ok (.goto (-32), 3) := by decide +kernel
theorem dX8_rest_62 : decode cX8_rest 62 = .ok (.iinc 3 1, 3) := by decide +kernel
theorem dX8_rest_65 : decode cX8_rest 65 = .ok (.goto (-47), 3) := by decide +kernel
theorem dX8_rest_68 : decode cX8_rest 68 = .ok (.aload_n 0, 1) := by decide +kernel
theorem dX8_rest_69 : decode cX8_rest 69 = .ok (.bipush (-2), 2) := by decide +kernel
theorem dX8_rest_71 : decode cX8_rest 71 = .ok (.invokevirtual 97, 3) := by decide +kernel
theorem dX8_rest_74 : decode cX8_rest 74 = .ok (.ireturn, 1) := by decide +kernel
set_option maxRecDepth 20000 in
theorem ggX8_damp_X4_hasThing : GoodIn wsX8_damp wsX4_hasThing := goodIn_r _ [8, 9, 139, 140, 141, 142, 143, 144, 145, 146, 147, 148, 149, 150, 151, 152, 153, 154, 155, 156, 157, 158] (by decide +kernel) (by decide +kernel)
set_option maxRecDepth 20000 in
theorem gX8_damp_X4_hasThing : GoodIn wsX8_damp (wsV RX8 124 RX4 yX4_hasThing wsX4_hasThing) := goodIn_app (goodIn_of _ (by decide +kernel)) ggX8_damp_X4_hasThing
set_option maxRecDepth 20000 in
theorem ggX8_damp_X8_refuse : GoodIn wsX8_damp wsX8_refuse := goodIn_r _ [14, 15, 130, 131, 132, 133, 134, 135, 136, 137, 138] (by decide +kernel) (by decide +kernel)
set_option maxRecDepth 20000 in
theorem gX8_damp_X8_refuse : GoodIn wsX8_damp (wsV RX8 63 RX8 yX8_refuse wsX8_refuse) := goodIn_app (goodIn_of _ (by decide +kernel)) ggX8_damp_X8_refuse
set_option maxRecDepth 20000 in
theorem ggX8_damp_X8_areDampNumbers : GoodIn wsX8_damp wsX8_areDampNumbers := goodIn_r _ [18, 19] (by decide +kernel) (by decide +kernel)
set_option maxRecDepth 20000 in
theorem gX8_damp_X8_areDampNumbers : GoodIn wsX8_damp (va_wsS RX8 267 yX8_areDampNumbers wsX8_areDampNumbers) := goodIn_app (goodIn_of _ (by decide +kernel)) ggX8_damp_X8_areDampNumbers
set_option maxRecDepth 20000 in
theorem ggX8_damp_X6_start : GoodIn wsX8_damp wsX6_start := goodIn_r _ [24, 25, 26, 27, 28, 29, 30, 31, 32, 33, 34, 35, 36, 37, 38, 39, 40, 41, 42, 43, 44, 45, 46, 47, 48, 49, 50, 51, 52, 53, 54, 7, 55, 56, 57, 58, 59, 23, 60, 61, 13, 62, 63, 64, 65, 66, 67, 68, 69, 70, 71, 72, 159, 160, 161, 162, 163, 164, 165, 166, 167, 168, 169, 170, 171, 139, 140, 141, 142, 143, 144, 145, 146, 147, 148, 149, 150, 151, 152, 153, 154, 155, 156, 157, 158, 172, 173, 174, 175, 176, 177] (by decide +kernel) (by decide +kernel)
set_option maxRecDepth 20000 in
theorem gX8_damp_X6_start : GoodIn wsX8_damp (wsV RX8 165 RX6 yX6_start wsX6_start) := goodIn_app (goodIn_of _ (by decide +kernel)) ggX8_damp_X6_start
set_option maxRecDepth 20000 in
theorem ggX8_damp_X6_sow : GoodIn wsX8_damp wsX6_sow := goodIn_r _ [76, 77, 159, 160, 161, 162, 163, 164, 165, 166, 167, 168, 169, 170, 171] (by decide +kernel) (by decide +kernel)
set_option maxRecDepth 20000 in
theorem gX8_damp_X6_sow : GoodIn wsX8_damp (wsV RX8 270 RX6 yX6_sow wsX6_sow) := goodIn_app (goodIn_of _ (by decide +kernel)) ggX8_damp_X6_sow
set_option maxRecDepth 20000 in
theorem ggX8_damp_X6_passDamp : GoodIn wsX8_damp wsX6_passDamp := goodIn_r _ [81, 25, 32, 77, 82, 83, 84, 85, 86, 23, 87, 26, 88, 33, 89, 90, 91, 92, 27, 93, 30, 28, 94, 29, 95, 96, 97, 98, 7, 99, 100, 101, 102, 103, 104, 31, 105, 106, 107, 108, 109, 110, 56, 111, 112, 113, 114, 57, 58, 59, 60, 159, 160, 161, 162, 163, 164, 165, 166, 167, 168, 169, 170, 171, 139, 140, 141, 142, 143, 144, 145, 146, 147, 148, 149, 150, 151, 152, 153, 154, 155, 156, 157, 158] (by decide +kernel) (by decide +kernel)
set_option maxRecDepth 20000 in
theorem gX8_damp_X6_passDamp : GoodIn wsX8_damp (wsV RX8 273 RX6 yX6_passDamp wsX6_passDamp) := goodIn_app (goodIn_of _ (by decide +kernel)) ggX8_damp_X6_passDamp
set_option maxRecDepth 20000 in
theorem ggX8_damp_X6_cellOf : GoodIn wsX8_damp wsX6_cellOf := goodIn_r _ [118, 33, 159, 160, 161, 162, 163, 164, 165, 166, 167, 168, 169, 170, 171] (by decide +kernel) (by decide +kernel)
set_option maxRecDepth 20000 in
theorem gX8_damp_X6_cellOf : GoodIn wsX8_damp (wsV RX8 184 RX6 yX6_cellOf wsX6_cellOf) := goodIn_app (goodIn_of _ (by decide +kernel)) ggX8_damp_X6_cellOf
set_option maxRecDepth 20000 in
theorem ggX8_damp_X8_tenfold : GoodIn wsX8_damp wsX8_tenfold := goodIn_r _ [121, 122, 61, 13, 62, 123, 124, 125] (by decide +kernel) (by decide +kernel)
set_option maxRecDepth 20000 in
theorem gX8_damp_X8_tenfold : GoodIn wsX8_damp (va_wsS RX8 185 yX8_tenfold wsX8_tenfold) := goodIn_app (goodIn_of _ (by decide +kernel)) ggX8_damp_X8_tenfold
set_option maxRecDepth 20000 in
theorem ggX8_damp_X8_answer : GoodIn wsX8_damp wsX8_answer := goodIn_r _ [129, 15, 130, 131, 132, 133, 134, 135, 136, 137, 138] (by decide +kernel) (by decide +kernel)
set_option maxRecDepth 20000 in
theorem gX8_damp_X8_answer : GoodIn wsX8_damp (wsV RX8 97 RX8 yX8_answer wsX8_answer) := goodIn_app (goodIn_of _ (by decide +kernel)) ggX8_damp_X8_answer
theorem dX8_damp_0 : decode cX8_damp 0 = .ok (.aload_n 0, 1) := by decide +kernel
theorem dX8_damp_1 : decode cX8_damp 1 = .ok (.getfield 47, 3) := by decide +kernel
theorem dX8_damp_4 : decode cX8_damp 4 = .ok (.iload_n 1, 1) := by decide +kernel
theorem dX8_damp_5 : decode cX8_damp 5 = .ok (.invokevirtual 124, 3) := by decide +kernel
theorem dX8_damp_8 : decode cX8_damp 8 = .ok (.ifCond .ne 9, 3) := by decide +kernel
theorem dX8_damp_11 : decode cX8_damp 11 = .ok (.aload_n 0, 1) := by decide +kernel
theorem dX8_damp_12 : decode cX8_damp 12 = .ok (.iconst 1, 1) := by decide +kernel
theorem dX8_damp_13 : decode cX8_damp 13 = .ok (.invokevirtual 63, 3) := by decide +kernel
theorem dX8_damp_16 : decode cX8_damp 16 = .ok (.ireturn, 1) := by decide +kernel
theorem dX8_damp_17 : decode cX8_damp 17 = .ok (.iload_n 2, 1) := by decide +kernel
theorem dX8_damp_18 : decode cX8_damp 18 = .ok (.iload_n 3, 1) := by decide +kernel
theorem dX8_damp_19 : decode cX8_damp 19 = .ok (.invokestatic 267, 3) := by decide +kernel
theorem dX8_damp_22 : decode cX8_damp 22 = .ok (.ifCond .ne 9, 3) := by decide +kernel
theorem dX8_damp_25 : decode cX8_damp 25 = .ok (.aload_n 0, 1) := by decide +kernel
theorem dX8_damp_26 : decode cX8_damp 26 = .ok (.iconst 2, 1) := by decide +kernel
theorem dX8_damp_27 : decode cX8_damp 27 = .ok (.invokevirtual 63, 3) := by decide +kernel
theorem dX8_damp_30 : decode cX8_damp 30 = .ok (.ireturn, 1) := by decide +kernel
theorem dX8_damp_31 : decode cX8_damp 31 = .ok (.aload_n 0, 1) := by decide +kernel
theorem dX8_damp_32 : decode cX8_damp 32 = .ok (.getfield 26, 3) := by decide +kernel
theorem dX8_damp_35 : decode cX8_damp 35 = .ok (.aload_n 0, 1) := by decide +kernel
theorem dX8_damp_36 : decode cX8_damp 36 = .ok (.getfield 47, 3) := by decide +kernel
theorem dX8_damp_39 : decode cX8_damp 39 = .ok (.aload_n 0, 1) := by decide +kernel
theorem dX8_damp_40 : decode cX8_damp 40 = .ok (.getfield 19, 3) := by decide +kernel
theorem dX8_damp_43 : decode cX8_damp 43 = .ok (.iconst 0, 1) := by decide +kernel
theorem dX8_damp_44 : decode cX8_damp 44 = .ok (.invokevirtual 165, 3) := by decide +kernel
theorem dX8_damp_47 : decode cX8_damp 47 = .ok (.aload_n 0, 1) := by decide +kernel
theorem dX8_damp_48 : decode cX8_damp 48 = .ok (.getfield 26, 3) := by decide +kernel
theorem dX8_damp_51 : decode cX8_damp 51 = .ok (.iload_n 2, 1) := by decide +kernel
theorem dX8_damp_52 : decode cX8_damp 52 = .ok (.invokevirtual 270, 3) := by decide +kernel
theorem dX8_damp_55 : decode cX8_damp 55 = .ok (.iconst 1, 1) := by decide +kernel
theorem dX8_damp_56 : decode cX8_damp 56 = .ok (.istore 4, 2) := by decide +kernel
theorem dX8_damp_58 : decode cX8_damp 58 = .ok (.iload 4, 2) := by decide +kernel
theorem dX8_damp_60 : decode cX8_damp 60 = .ok (.iload_n 3, 1) := by decide +kernel
theorem dX8_damp_61 : decode cX8_damp 61 = .ok (.if_icmp .gt 16, 3) := by decide +kernel
theorem dX8_damp_64 : decode cX8_damp 64 = .ok (.aload_n 0, 1) := by decide +kernel
theorem dX8_damp_65 : decode cX8_damp 65 = .ok (.getfield 26, 3) := by decide +kernel
theorem dX8_damp_68 : decode cX8_damp 68 = .ok (.invokevirtual 273, 3) := by decide +kernel
theorem dX8_damp_71 : decode cX8_damp 71 = .ok (.iinc 4 1, 3) := by decide +kernel
theorem dX8_damp_74 : decode cX8_damp 74 = .ok (.goto (-16), 3) := by decide +kernel
theorem dX8_damp_77 : decode cX8_damp 77 = .ok (.aload_n 0, 1) := by decide +kernel
theorem dX8_damp_78 : decode cX8_damp 78 = .ok (.aload_n 0, 1) := by decide +kernel
theorem dX8_damp_79 : decode cX8_damp 79 = .ok (.getfield 26, 3) := by decide +kernel
theorem dX8_damp_82 : decode cX8_damp 82 = .ok (.iload_n 1, 1) := by decide +kernel
theorem dX8_damp_83 : decode cX8_damp 83 = .ok (.invokevirtual 184, 3) := by decide +kernel
theorem dX8_damp_86 : decode cX8_damp 86 = .ok (.invokestatic 185, 3) := by decide +kernel
theorem dX8_damp_89 : decode cX8_damp 89 = .ok (.invokevirtual 97, 3) := by decide +kernel
theorem dX8_damp_92 : decode cX8_damp 92 = .ok (.ireturn, 1) := by decide +kernel
set_option maxRecDepth 20000 in
theorem ggX8_dampSteps_X4_stands : GoodIn wsX8_dampSteps wsX4_stands := goodIn_r _ [8, 9, 138, 139, 140, 141, 142, 143, 144, 145, 146, 147, 148, 149, 150, 151, 152, 153, 154, 155, 156, 157] (by decide +kernel) (by decide +kernel)
set_option maxRecDepth 20000 in
theorem gX8_dampSteps_X4_stands : GoodIn wsX8_dampSteps (wsV RX8 161 RX4 yX4_stands wsX4_stands) := goodIn_app (goodIn_of _ (by decide +kernel)) ggX8_dampSteps_X4_stands
set_option maxRecDepth 20000 in
theorem ggX8_dampSteps_X8_refuse : GoodIn wsX8_dampSteps wsX8_refuse := goodIn_r _ [14, 15, 129, 130, 131, 132, 133, 134, 135, 136, 137] (by decide +kernel) (by decide +kernel)
set_option maxRecDepth 20000 in
theorem gX8_dampSteps_X8_refuse : GoodIn wsX8_dampSteps (wsV RX8 63 RX8 yX8_refuse wsX8_refuse) := goodIn_app (goodIn_of _ (by decide +kernel)) ggX8_dampSteps_X8_refuse
set_option maxRecDepth 20000 in
theorem ggX8_dampSteps_X8_areDampNumbers : GoodIn wsX8_dampSteps wsX8_areDampNumbers := goodIn_r _ [18, 19] (by decide +kernel) (by decide +kernel)
set_option maxRecDepth 20000 in
theorem gX8_dampSteps_X8_areDampNumbers : GoodIn wsX8_dampSteps (va_wsS RX8 267 yX8_areDampNumbers wsX8_areDampNumbers) := goodIn_app (goodIn_of _ (by decide +kernel)) ggX8_dampSteps_X8_areDampNumbers
set_option maxRecDepth 20000 in
theorem ggX8_dampSteps_X6_start : GoodIn wsX8_dampSteps wsX6_start := goodIn_r _ [24, 25, 26, 27, 28, 29, 30, 31, 32, 33, 34, 35, 36, 37, 38, 39, 40, 41, 42, 43, 44, 45, 46, 47, 48, 49, 50, 51, 52, 53, 54, 7, 55, 56, 57, 58, 59, 23, 60, 61, 13, 62, 63, 64, 65, 66, 67, 68, 69, 70, 71, 9, 158, 159, 160, 161, 162, 163, 164, 165, 166, 167, 168, 169, 170, 138, 139, 140, 141, 142, 143, 144, 145, 146, 147, 148, 149, 150, 151, 152, 153, 154, 155, 156, 157, 171, 172, 173, 174, 175, 176] (by decide +kernel) (by decide +kernel)
set_option maxRecDepth 20000 in
theorem gX8_dampSteps_X6_start : GoodIn wsX8_dampSteps (wsV RX8 165 RX6 yX6_start wsX6_start) := goodIn_app (goodIn_of _ (by decide +kernel)) ggX8_dampSteps_X6_start
set_option maxRecDepth 20000 in
theorem ggX8_dampSteps_X6_sow : GoodIn wsX8_dampSteps wsX6_sow := goodIn_r _ [75, 76, 158, 159, 160, 161, 162, 163, 164, 165, 166, 167, 168, 169, 170] (by decide +kernel) (by decide +kernel)
set_option maxRecDepth 20000 in
theorem gX8_dampSteps_X6_sow : GoodIn wsX8_dampSteps (wsV RX8 270 RX6 yX6_sow wsX6_sow) := goodIn_app (goodIn_of _ (by decide +kernel)) ggX8_dampSteps_X6_sow
set_option maxRecDepth 20000 in
theorem ggX8_dampSteps_X6_passDamp : GoodIn wsX8_dampSteps wsX6_passDamp := goodIn_r _ [80, 25, 32, 76, 81, 82, 83, 84, 85, 23, 86, 26, 87, 33, 88, 89, 90, 91, 27, 92, 30, 28, 93, 29, 94, 95, 96, 97, 7, 98, 99, 100, 101, 102, 103, 31, 104, 105, 106, 107, 108, 109, 56, 110, 111, 112, 113, 57, 58, 59, 60, 158, 159, 160, 161, 162, 163, 164, 165, 166, 167, 168, 169, 170, 138, 139, 140, 141, 142, 143, 144, 145, 146, 147, 148, 149, 150, 151, 152, 153, 154, 155, 156, 157] (by decide +kernel) (by decide +kernel)
set_option maxRecDepth 20000 in
theorem gX8_dampSteps_X6_passDamp : GoodIn wsX8_dampSteps (wsV RX8 273 RX6 yX6_passDamp wsX6_passDamp) := goodIn_app (goodIn_of _ (by decide +kernel)) ggX8_dampSteps_X6_passDamp
set_option maxRecDepth 20000 in
theorem ggX8_dampSteps_X6_went : GoodIn wsX8_dampSteps wsX6_went := goodIn_r _ [117, 87, 158, 159, 160, 161, 162, 163, 164, 165, 166, 167, 168, 169, 170] (by decide +kernel) (by decide +kernel)
set_option maxRecDepth 20000 in
theorem gX8_dampSteps_X6_went : GoodIn wsX8_dampSteps (wsV RX8 172 RX6 yX6_went wsX6_went) := goodIn_app (goodIn_of _ (by decide +kernel)) ggX8_dampSteps_X6_went
set_option maxRecDepth 20000 in
theorem ggX8_dampSteps_J6_bitCount_0f7a4 : GoodIn wsX8_dampSteps wsJ6_bitCount_0f7a4 := goodIn_r _ [121, 122, 123, 124] (by decide +kernel) (by decide +kernel)
set_option maxRecDepth 20000 in
theorem gX8_dampSteps_J6_bitCount_0f7a4 : GoodIn wsX8_dampSteps (va_wsS RX8 119 yJ6_bitCount_0f7a4 wsJ6_bitCount_0f7a4) := goodIn_app (goodIn_of _ (by decide +kernel)) ggX8_dampSteps_J6_bitCount_0f7a4
set_option maxRecDepth 20000 in
theorem ggX8_dampSteps_X8_answer : GoodIn wsX8_dampSteps wsX8_answer := goodIn_r _ [128, 15, 129, 130, 131, 132, 133, 134, 135, 136, 137] (by decide +kernel) (by decide +kernel)
set_option maxRecDepth 20000 in
theorem gX8_dampSteps_X8_answer : GoodIn wsX8_dampSteps (wsV RX8 97 RX8 yX8_answer wsX8_answer) := goodIn_app (goodIn_of _ (by decide +kernel)) ggX8_dampSteps_X8_answer
theorem dX8_dampSteps_0 : decode cX8_dampSteps 0 = .ok (.aload_n 0, 1) := by decide +kernel
theorem dX8_dampSteps_1 : decode cX8_dampSteps 1 = .ok (.getfield 47, 3) := by decide +kernel
theorem dX8_dampSteps_4 : decode cX8_dampSteps 4 = .ok (.invokevirtual 161, 3) := by decide +kernel
theorem dX8_dampSteps_7 : decode cX8_dampSteps 7 = .ok (.ifCond .ne 9, 3) := by decide +kernel
theorem dX8_dampSteps_10 : decode cX8_dampSteps 10 = .ok (.aload_n 0, 1) := by decide +kernel
theorem dX8_dampSteps_11 : decode cX8_dampSteps 11 = .ok (.iconst 1, 1) := by decide +kernel
theorem dX8_dampSteps_12 : decode cX8_dampSteps 12 = .ok (.invokevirtual 63, 3) := by decide +kernel
theorem dX8_dampSteps_15 : decode cX8_dampSteps 15 = .ok (.ireturn, 1) := by decide +kernel
theorem dX8_dampSteps_16 : decode cX8_dampSteps 16 = .ok (.iload_n 1, 1) := by decide +kernel
theorem dX8_dampSteps_17 : decode cX8_dampSteps 17 = .ok (.iload_n 2, 1) := by decide +kernel
theorem dX8_dampSteps_18 : decode cX8_dampSteps 18 = .ok (.invokestatic 267, 3) := by decide +kernel
theorem dX8_dampSteps_21 : decode cX8_dampSteps 21 = .ok (.ifCond .ne 9, 3) := by decide +kernel
theorem dX8_dampSteps_24 : decode cX8_dampSteps 24 = .ok (.aload_n 0, 1) := by decide +kernel
theorem dX8_dampSteps_25 : decode cX8_dampSteps 25 = .ok (.iconst 2, 1) := by decide +kernel
theorem dX8_dampSteps_26 : decode cX8_dampSteps 26 = .ok (.invokevirtual 63, 3) := by decide +kernel
theorem dX8_dampSteps_29 : decode cX8_dampSteps 29 = .ok (.ireturn, 1) := by decide +kernel
theorem dX8_dampSteps_30 : decode cX8_dampSteps 30 = .ok (.iconst 0, 1) := by decide +kernel
theorem dX8_dampSteps_31 : decode cX8_dampSteps 31 = .ok (.istore_n 3, 1) := by decide +kernel
theorem dX8_dampSteps_32 : decode cX8_dampSteps 32 = .ok (.aload_n 0, 1) := by decide +kernel
theorem dX8_dampSteps_33 : decode cX8_dampSteps 33 = .ok (.getfield 26, 3) := by decide +kernel
theorem dX8_dampSteps_36 : decode cX8_dampSteps 36 = .ok (.aload_n 0, 1) := by decide +kernel
theorem dX8_dampSteps_37 : decode cX8_dampSteps 37 = .ok (.getfield 47, 3) := by decide +kernel
theorem dX8_dampSteps_40 : decode cX8_dampSteps 40 = .ok (.aload_n 0, 1) := by decide +kernel
theorem dX8_dampSteps_41 : decode cX8_dampSteps 41 = .ok (.getfield 19, 3) := by decide +kernel
theorem dX8_dampSteps_44 : decode cX8_dampSteps 44 = .ok (.iconst 0, 1) := by decide +kernel
theorem dX8_dampSteps_45 : decode cX8_dampSteps 45 = .ok (.invokevirtual 165, 3) := by decide +kernel
theorem dX8_dampSteps_48 : decode cX8_dampSteps 48 = .ok (.aload_n 0, 1) := by decide +kernel
theorem dX8_dampSteps_49 : decode cX8_dampSteps 49 = .ok (.getfield 26, 3) := by decide +kernel
theorem dX8_dampSteps_52 : decode cX8_dampSteps 52 = .ok (.iload_n 1, 1) := by decide +kernel
theorem dX8_dampSteps_53 : decode cX8_dampSteps 53 = .ok (.invokevirtual 270, 3) := by decide +kernel
theorem dX8_dampSteps_56 : decode cX8_dampSteps 56 = .ok (.iconst 1, 1) := by decide +kernel
theorem dX8_dampSteps_57 : decode cX8_dampSteps 57 = .ok (.istore 4, 2) := by decide +kernel
theorem dX8_dampSteps_59 : decode cX8_dampSteps 59 = .ok (.iload 4, 2) := by decide +kernel
theorem dX8_dampSteps_61 : decode cX8_dampSteps 61 = .ok (.iload_n 2, 1) := by decide +kernel
theorem dX8_dampSteps_62 : decode cX8_dampSteps 62 = .ok (.if_icmp .gt 29, 3) := by decide +kernel
theorem dX8_dampSteps_65 : decode cX8_dampSteps 65 = .ok (.aload_n 0, 1) := by decide +kernel
theorem dX8_dampSteps_66 : decode cX8_dampSteps 66 = .ok (.getfield 26, 3) := by decide +kernel
theorem dX8_dampSteps_69 : decode cX8_dampSteps 69 = .ok (.invokevirtual 273, 3) := by decide +kernel
theorem dX8_dampSteps_72 : decode cX8_dampSteps 72 = .ok (.iload_n 3, 1) := by decide +kernel
theorem dX8_dampSteps_73 : decode cX8_dampSteps 73 = .ok (.aload_n 0, 1) := by decide +kernel
theorem dX8_dampSteps_74 : decode cX8_dampSteps 74 = .ok (.getfield 26, 3) := by decide +kernel
theorem dX8_dampSteps_77 : decode cX8_dampSteps 77 = .ok (.invokevirtual 172, 3) := by decide +kernel
theorem dX8_dampSteps_80 : decode cX8_dampSteps 80 = .ok (.invokestatic 119, 3) := by decide +kernel
theorem dX8_dampSteps_83 : decode cX8_dampSteps 83 = .ok (.iadd, 1) := by decide +kernel
theorem dX8_dampSteps_84 : decode cX8_dampSteps 84 = .ok (.istore_n 3, 1) := by decide +kernel
theorem dX8_dampSteps_85 : decode cX8_dampSteps 85 = .ok (.iinc 4 1, 3) := by decide +kernel
theorem dX8_dampSteps_88 : decode cX8_dampSteps 88 = .ok (.goto (-29), 3) := by decide +kernel
theorem dX8_dampSteps_91 : decode cX8_dampSteps 91 = .ok (.aload_n 0, 1) := by decide +kernel
theorem dX8_dampSteps_92 : decode cX8_dampSteps 92 = .ok (.iload_n 3, 1) := by decide +kernel
theorem dX8_dampSteps_93 : decode cX8_dampSteps 93 = .ok (.invokevirtual 97, 3) := by decide +kernel
theorem dX8_dampSteps_96 : decode cX8_dampSteps 96 = .ok (.ireturn, 1) := by decide +kernel
set_option maxRecDepth 20000 in
theorem ggX8_dampWhen_X4_hasThing : GoodIn wsX8_dampWhen wsX4_hasThing := goodIn_r _ [8, 9, 142, 143, 144, 145, 146, 147, 148, 149, 150, 151, 152, 153, 154, 155, 156, 157, 158, 159, 160, 161] (by decide +kernel) (by decide +kernel)
set_option maxRecDepth 20000 in
theorem gX8_dampWhen_X4_hasThing : GoodIn wsX8_dampWhen (wsV RX8 124 RX4 yX4_hasThing wsX4_hasThing) := goodIn_app (goodIn_of _ (by decide +kernel)) ggX8_dampWhen_X4_hasThing
set_option maxRecDepth 20000 in
theorem ggX8_dampWhen_X8_refuse : GoodIn wsX8_dampWhen wsX8_refuse := goodIn_r _ [14, 15, 133, 134, 135, 136, 137, 138, 139, 140, 141] (by decide +kernel) (by decide +kernel)
set_option maxRecDepth 20000 in
theorem gX8_dampWhen_X8_refuse : GoodIn wsX8_dampWhen (wsV RX8 63 RX8 yX8_refuse wsX8_refuse) := goodIn_app (goodIn_of _ (by decide +kernel)) ggX8_dampWhen_X8_refuse
set_option maxRecDepth 20000 in
theorem ggX8_dampWhen_X1_cellOf : GoodIn wsX8_dampWhen wsX1_cellOf := goodIn_r _ [20, 21, 162, 163, 164, 165, 166, 167] (by decide +kernel) (by decide +kernel)
set_option maxRecDepth 20000 in
theorem gX8_dampWhen_X1_cellOf : GoodIn wsX8_dampWhen (wsV RX8 130 RX1 yX1_cellOf wsX1_cellOf) := goodIn_app (goodIn_of _ (by decide +kernel)) ggX8_dampWhen_X1_cellOf
set_option maxRecDepth 20000 in
theorem ggX8_dampWhen_X8_ringOfCell : GoodIn wsX8_dampWhen wsX8_ringOfCell := goodIn_r _ [24] (by decide +kernel) (by decide +kernel)
set_option maxRecDepth 20000 in
theorem gX8_dampWhen_X8_ringOfCell : GoodIn wsX8_dampWhen (va_wsS RX8 133 yX8_ringOfCell wsX8_ringOfCell) := goodIn_app (goodIn_of _ (by decide +kernel)) ggX8_dampWhen_X8_ringOfCell
set_option maxRecDepth 20000 in
theorem ggX8_dampWhen_X4_hasPlace : GoodIn wsX8_dampWhen wsX4_hasPlace := goodIn_r _ [28, 29, 30, 31, 32, 7, 33, 34, 142, 143, 144, 145, 146, 147, 148, 149, 150, 151, 152, 153, 154, 155, 156, 157, 158, 159, 160, 161] (by decide +kernel) (by decide +kernel)
set_option maxRecDepth 20000 in
theorem gX8_dampWhen_X4_hasPlace : GoodIn wsX8_dampWhen (wsV RX8 145 RX4 yX4_hasPlace wsX4_hasPlace) := goodIn_app (goodIn_of _ (by decide +kernel)) ggX8_dampWhen_X4_hasPlace
set_option maxRecDepth 20000 in
theorem ggX8_dampWhen_X8_areDampNumbers : GoodIn wsX8_dampWhen wsX8_areDampNumbers := goodIn_r _ [37, 38] (by decide +kernel) (by decide +kernel)
set_option maxRecDepth 20000 in
theorem gX8_dampWhen_X8_areDampNumbers : GoodIn wsX8_dampWhen (va_wsS RX8 267 yX8_areDampNumbers wsX8_areDampNumbers) := goodIn_app (goodIn_of _ (by decide +kernel)) ggX8_dampWhen_X8_areDampNumbers
set_option maxRecDepth 20000 in
theorem ggX8_dampWhen_X6_start : GoodIn wsX8_dampWhen wsX6_start := goodIn_r _ [43, 44, 45, 46, 47, 48, 49, 50, 51, 52, 53, 54, 55, 19, 56, 21, 57, 58, 59, 60, 61, 62, 63, 64, 65, 17, 18, 20, 66, 67, 68, 7, 69, 70, 71, 72, 73, 42, 74, 23, 13, 24, 75, 76, 77, 78, 79, 30, 31, 32, 33, 34, 168, 169, 170, 171, 172, 173, 174, 175, 176, 177, 178, 179, 180, 142, 143, 144, 145, 146, 147, 148, 149, 150, 151, 152, 153, 154, 155, 156, 157, 158, 159, 160, 161, 162, 163, 164, 165, 166, 167] (by decide +kernel) (by decide +kernel)
set_option maxRecDepth 20000 in
theorem gX8_dampWhen_X6_start : GoodIn wsX8_dampWhen (wsV RX8 165 RX6 yX6_start wsX6_start) := goodIn_app (goodIn_of _ (by decide +kernel)) ggX8_dampWhen_X6_start
set_option maxRecDepth 20000 in
theorem ggX8_dampWhen_X6_sow : GoodIn wsX8_dampWhen wsX6_sow := goodIn_r _ [83, 84, 168, 169, 170, 171, 172, 173, 174, 175, 176, 177, 178, 179, 180] (by decide +kernel) (by decide +kernel)
set_option maxRecDepth 20000 in
theorem gX8_dampWhen_X6_sow : GoodIn wsX8_dampWhen (wsV RX8 270 RX6 yX6_sow wsX6_sow) := goodIn_app (goodIn_of _ (by decide +kernel)) ggX8_dampWhen_X6_sow
set_option maxRecDepth 20000 in
theorem ggX8_dampWhen_X6_passDamp : GoodIn wsX8_dampWhen wsX6_passDamp := goodIn_r _ [88, 44, 51, 84, 89, 90, 91, 92, 93, 42, 94, 45, 95, 52, 96, 97, 98, 99, 46, 100, 49, 47, 101, 48, 102, 103, 104, 105, 7, 106, 107, 108, 109, 110, 111, 50, 112, 113, 114, 115, 116, 117, 70, 118, 119, 120, 121, 71, 72, 73, 74, 168, 169, 170, 171, 172, 173, 174, 175, 176, 177, 178, 179, 180, 142, 143, 144, 145, 146, 147, 148, 149, 150, 151, 152, 153, 154, 155, 156, 157, 158, 159, 160, 161] (by decide +kernel) (by decide +kernel)
set_option maxRecDepth 20000 in
theorem gX8_dampWhen_X6_passDamp : GoodIn wsX8_dampWhen (wsV RX8 273 RX6 yX6_passDamp wsX6_passDamp) := goodIn_app (goodIn_of _ (by decide +kernel)) ggX8_dampWhen_X6_passDamp
set_option maxRecDepth 20000 in
theorem ggX8_dampWhen_X6_cellOf : GoodIn wsX8_dampWhen wsX6_cellOf := goodIn_r _ [125, 52, 168, 169, 170, 171, 172, 173, 174, 175, 176, 177, 178, 179, 180] (by decide +kernel) (by decide +kernel)
set_option maxRecDepth 20000 in
theorem gX8_dampWhen_X6_cellOf : GoodIn wsX8_dampWhen (wsV RX8 184 RX6 yX6_cellOf wsX6_cellOf) := goodIn_app (goodIn_of _ (by decide +kernel)) ggX8_dampWhen_X6_cellOf
set_option maxRecDepth 20000 in
theorem ggX8_dampWhen_X8_cellAt : GoodIn wsX8_dampWhen wsX8_cellAt := goodIn_r _ [128] (by decide +kernel) (by decide +kernel)
set_option maxRecDepth 20000 in
theorem gX8_dampWhen_X8_cellAt : GoodIn wsX8_dampWhen (va_wsS RX8 149 yX8_cellAt wsX8_cellAt) := goodIn_app (goodIn_of _ (by decide +kernel)) ggX8_dampWhen_X8_cellAt
set_option maxRecDepth 20000 in
theorem ggX8_dampWhen_X8_answer : GoodIn wsX8_dampWhen wsX8_answer := goodIn_r _ [132, 15, 133, 134, 135, 136, 137, 138, 139, 140, 141] (by decide +kernel) (by decide +kernel)
set_option maxRecDepth 20000 in
theorem gX8_dampWhen_X8_answer : GoodIn wsX8_dampWhen (wsV RX8 97 RX8 yX8_answer wsX8_answer) := goodIn_app (goodIn_of _ (by decide +kernel)) ggX8_dampWhen_X8_answer
theorem dX8_dampWhen_0 : decode cX8_dampWhen 0 = .ok (.aload_n 0, 1) := by decide +kernel
theorem dX8_dampWhen_1 : decode cX8_dampWhen 1 = .ok (.getfield 47, 3) := by decide +kernel
theorem dX8_dampWhen_4 : decode cX8_dampWhen 4 = .ok (.iload_n 1, 1) := by decide +kernel
theorem dX8_dampWhen_5 : decode cX8_dampWhen 5 = .ok (.invokevirtual 124, 3) := by decide +kernel
theorem dX8_dampWhen_8 : decode cX8_dampWhen 8 = .ok (.ifCond .ne 9, 3) := by decide +kernel
theorem dX8_dampWhen_11 : decode cX8_dampWhen 11 = .ok (.aload_n 0, 1) := by decide +kernel
theorem dX8_dampWhen_12 : decode cX8_dampWhen 12 = .ok (.iconst 1, 1) := by decide +kernel
theorem dX8_dampWhen_13 : decode cX8_dampWhen 13 = .ok (.invokevirtual 63, 3) := by decide +kernel
theorem dX8_dampWhen_16 : decode cX8_dampWhen 16 = .ok (.ireturn, 1) := by decide +kernel
theorem dX8_dampWhen_17 : decode cX8_dampWhen 17 = .ok (.aload_n 0, 1) := by decide +kernel
theorem dX8_dampWhen_18 : decode cX8_dampWhen 18 = .ok (.getfield 19, 3) := by decide +kernel
theorem dX8_dampWhen_21 : decode cX8_dampWhen 21 = .ok (.iload_n 1, 1) := by decide +kernel
theorem dX8_dampWhen_22 : decode cX8_dampWhen 22 = .ok (.invokevirtual 130, 3) := by decide +kernel
theorem dX8_dampWhen_25 : decode cX8_dampWhen 25 = .ok (.invokestatic 133, 3) := by decide +kernel
theorem dX8_dampWhen_28 : decode cX8_dampWhen 28 = .ok (.istore 5, 2) := by decide +kernel
theorem dX8_dampWhen_30 : decode cX8_dampWhen 30 = .ok (.aload_n 0, 1) := by decide +kernel
theorem dX8_dampWhen_31 : decode cX8_dampWhen 31 = .ok (.getfield 47, 3) := by decide +kernel
theorem dX8_dampWhen_34 : decode cX8_dampWhen 34 = .ok (.iload 5, 2) := by decide +kernel
theorem dX8_dampWhen_36 : decode cX8_dampWhen 36 = .ok (.iload_n 2, 1) := by decide +kernel
theorem dX8_dampWhen_37 : decode cX8_dampWhen 37 = .ok (.invokevirtual 145, 3) := by decide +kernel
theorem dX8_dampWhen_40 : decode cX8_dampWhen 40 = .ok (.ifCond .ne 9, 3) := by decide +kernel
theorem dX8_dampWhen_43 : decode cX8_dampWhen 43 = .ok (.aload_n 0, 1) := by decide +kernel
theorem dX8_dampWhen_44 : decode cX8_dampWhen 44 = .ok (.iconst 1, 1) := by decide +kernel
theorem dX8_dampWhen_45 : decode cX8_dampWhen 45 = .ok (.invokevirtual 63, 3) := by decide +kernel
theorem dX8_dampWhen_48 : decode cX8_dampWhen 48 = .ok (.ireturn, 1) := by decide +kernel
theorem dX8_dampWhen_49 : decode cX8_dampWhen 49 = .ok (.iload_n 3, 1) := by decide +kernel
theorem dX8_dampWhen_50 : decode cX8_dampWhen 50 = .ok (.iload 4, 2) := by decide +kernel
theorem dX8_dampWhen_52 : decode cX8_dampWhen 52 = .ok (.invokestatic 267, 3) := by decide +kernel
theorem dX8_dampWhen_55 : decode cX8_dampWhen 55 = .ok (.ifCond .ne 9, 3) := by decide +kernel
theorem dX8_dampWhen_58 : decode cX8_dampWhen 58 = .ok (.aload_n 0, 1) := by decide +kernel
theorem dX8_dampWhen_59 : decode cX8_dampWhen 59 = .ok (.iconst 2, 1) := by decide +kernel
theorem dX8_dampWhen_60 : decode cX8_dampWhen 60 = .ok (.invokevirtual 63, 3) := by decide +kernel
theorem dX8_dampWhen_63 : decode cX8_dampWhen 63 = .ok (.ireturn, 1) := by decide +kernel
theorem dX8_dampWhen_64 : decode cX8_dampWhen 64 = .ok (.aload_n 0, 1) := by decide +kernel
theorem dX8_dampWhen_65 : decode cX8_dampWhen 65 = .ok (.getfield 26, 3) := by decide +kernel
theorem dX8_dampWhen_68 : decode cX8_dampWhen 68 = .ok (.aload_n 0, 1) := by decide +kernel
theorem dX8_dampWhen_69 : decode cX8_dampWhen 69 = .ok (.getfield 47, 3) := by decide +kernel
theorem dX8_dampWhen_72 : decode cX8_dampWhen 72 = .ok (.aload_n 0, 1) := by decide +kernel
theorem dX8_dampWhen_73 : decode cX8_dampWhen 73 = .ok (.getfield 19, 3) := by decide +kernel
theorem dX8_dampWhen_76 : decode cX8_dampWhen 76 = .ok (.iconst 0, 1) := by decide +kernel
theorem dX8_dampWhen_77 : decode cX8_dampWhen 77 = .ok (.invokevirtual 165, 3) := by decide +kernel
theorem dX8_dampWhen_80 : decode cX8_dampWhen 80 = .ok (.aload_n 0, 1) := by decide +kernel
theorem dX8_dampWhen_81 : decode cX8_dampWhen 81 = .ok (.getfield 26, 3) := by decide +kernel
theorem dX8_dampWhen_84 : decode cX8_dampWhen 84 = .ok (.iload_n 3, 1) := by decide +kernel
theorem dX8_dampWhen_85 : decode cX8_dampWhen 85 = .ok (.invokevirtual 270, 3) := by decide +kernel
theorem dX8_dampWhen_88 : decode cX8_dampWhen 88 = .ok (.iconst 1, 1) := by decide +kernel
theorem dX8_dampWhen_89 : decode cX8_dampWhen 89 = .ok (.istore 6, 2) := by decide +kernel
theorem dX8_dampWhen_91 : decode cX8_dampWhen 91 = .ok (.iload 6, 2) := by decide +kernel
theorem dX8_dampWhen_93 : decode cX8_dampWhen 93 = .ok (.iload 4, 2) := by decide +kernel
theorem dX8_dampWhen_95 : decode cX8_dampWhen 95 = .ok (.if_icmp .gt 40, 3) := by decide +kernel
theorem dX8_dampWhen_98 : decode cX8_dampWhen 98 = .ok (.aload_n 0, 1) := by decide +kernel
theorem dX8_dampWhen_99 : decode cX8_dampWhen 99 = .ok (.getfield 26, 3) := by decide +kernel
theorem dX8_dampWhen_102 : decode cX8_dampWhen 102 = .ok (.invokevirtual 273, 3) := by decide +kernel
theorem dX8_dampWhen_105 : decode cX8_dampWhen 105 = .ok (.aload_n 0, 1) := by decide +kernel
theorem dX8_dampWhen_106 : decode cX8_dampWhen 106 = .ok (.getfield 26, 3) := by decide +kernel
theorem dX8_dampWhen_109 : decode cX8_dampWhen 109 = .ok (.iload_n 1, 1) := by decide +kernel
theorem dX8_dampWhen_110 : decode cX8_dampWhen 110 = .ok (.invokevirtual 184, 3) := by decide +kernel
theorem dX8_dampWhen_113 : decode cX8_dampWhen 113 = .ok (.iload 5, 2) := by decide +kernel
theorem dX8_dampWhen_115 : decode cX8_dampWhen 115 = .ok (.iload_n 2, 1) := by decide +kernel
theorem dX8_dampWhen_116 : decode cX8_dampWhen 116 = .ok (.invokestatic 149, 3) := by decide +kernel
theorem dX8_dampWhen_119 : decode cX8_dampWhen 119 = .ok (.if_icmp .ne 10, 3) := by decide +kernel
theorem dX8_dampWhen_122 : decode cX8_dampWhen 122 = .ok (.aload_n 0, 1) := by decide +kernel
theorem dX8_dampWhen_123 : decode cX8_dampWhen 123 = .ok (.iload 6, 2) := by decide +kernel
theorem dX8_dampWhen_125 : decode cX8_dampWhen 125 = .ok (.invokevirtual 97, 3) := by decide +kernel
theorem dX8_dampWhen_128 : decode cX8_dampWhen 128 = .ok (.ireturn, 1) := by decide +kernel
theorem dX8_dampWhen_129 : decode cX8_dampWhen 129 = .ok (.iinc 6 1, 3) := by decide +kernel
theorem dX8_dampWhen_132 : decode cX8_dampWhen 132 = .ok (.goto (-41), 3) := by decide +kernel
theorem dX8_dampWhen_135 : decode cX8_dampWhen 135 = .ok (.aload_n 0, 1) := by decide +kernel
theorem dX8_dampWhen_136 : decode cX8_dampWhen 136 = .ok (.iconst 0, 1) := by decide +kernel
theorem dX8_dampWhen_137 : decode cX8_dampWhen 137 = .ok (.invokevirtual 97, 3) := by decide +kernel
theorem dX8_dampWhen_140 : decode cX8_dampWhen 140 = .ok (.ireturn, 1) := by decide +kernel
set_option maxRecDepth 20000 in
theorem ggX8_hold_X4_hasThing : GoodIn wsX8_hold wsX4_hasThing := goodIn_r _ [7, 8, 45, 46, 47, 48, 49, 50, 51, 52, 53, 54, 55, 56, 57, 58, 59, 60, 61, 62, 63, 64] (by decide +kernel) (by decide +kernel)
set_option maxRecDepth 20000 in
theorem gX8_hold_X4_hasThing : GoodIn wsX8_hold (wsV RX8 124 RX4 yX4_hasThing wsX4_hasThing) := goodIn_app (goodIn_of _ (by decide +kernel)) ggX8_hold_X4_hasThing
set_option maxRecDepth 20000 in
theorem ggX8_hold_X8_isDone : GoodIn wsX8_hold wsX8_isDone := goodIn_r _ [13, 14, 36, 37, 38, 39, 40, 41, 42, 43, 44] (by decide +kernel) (by decide +kernel)
set_option maxRecDepth 20000 in
theorem gX8_hold_X8_isDone : GoodIn wsX8_hold (wsV RX8 276 RX8 yX8_isDone wsX8_isDone) := goodIn_app (goodIn_of _ (by decide +kernel)) ggX8_hold_X8_isDone
set_option maxRecDepth 20000 in
theorem ggX8_hold_X1_isHeld : GoodIn wsX8_hold wsX1_isHeld := goodIn_r _ [19, 20, 65, 66, 67, 68, 69, 70] (by decide +kernel) (by decide +kernel)
set_option maxRecDepth 20000 in
theorem gX8_hold_X1_isHeld : GoodIn wsX8_hold (wsV RX8 142 RX1 yX1_isHeld wsX1_isHeld) := goodIn_app (goodIn_of _ (by decide +kernel)) ggX8_hold_X1_isHeld
set_option maxRecDepth 20000 in
theorem ggX8_hold_X1_keep : GoodIn wsX8_hold wsX1_keep := goodIn_r _ [24, 25, 20, 26, 27, 28, 29, 30, 31, 65, 66, 67, 68, 69, 70] (by decide +kernel) (by decide +kernel)
set_option maxRecDepth 20000 in
theorem gX8_hold_X1_keep : GoodIn wsX8_hold (wsV RX8 279 RX1 yX1_keep wsX1_keep) := goodIn_app (goodIn_of _ (by decide +kernel)) ggX8_hold_X1_keep
set_option maxRecDepth 20000 in
theorem ggX8_hold_X1_turnHeld : GoodIn wsX8_hold wsX1_turnHeld := goodIn_r _ [35, 20, 65, 66, 67, 68, 69, 70] (by decide +kernel) (by decide +kernel)
set_option maxRecDepth 20000 in
theorem gX8_hold_X1_turnHeld : GoodIn wsX8_hold (wsV RX8 282 RX1 yX1_turnHeld wsX1_turnHeld) := goodIn_app (goodIn_of _ (by decide +kernel)) ggX8_hold_X1_turnHeld
theorem dX8_hold_0 : decode cX8_hold 0 = .ok (.aload_n 0, 1) := by decide +kernel
theorem dX8_hold_1 : decode cX8_hold 1 = .ok (.getfield 47, 3) := by decide +kernel
theorem dX8_hold_4 : decode cX8_hold 4 = .ok (.iload_n 1, 1) := by decide +kernel
theorem dX8_hold_5 : decode cX8_hold 5 = .ok (.invokevirtual 124, 3) := by decide +kernel
theorem dX8_hold_8 : decode cX8_hold 8 = .ok (.ifCond .ne 9, 3) := by decide +kernel
theorem dX8_hold_11 : decode cX8_hold 11 = .ok (.aload_n 0, 1) := by decide +kernel
theorem dX8_hold_12 : decode cX8_hold 12 = .ok (.iconst 1, 1) := by decide +kernel
theorem dX8_hold_13 : decode cX8_hold 13 = .ok (.invokevirtual 276, 3) := by decide +kernel
theorem dX8_hold_16 : decode cX8_hold 16 = .ok (.ireturn, 1) := by decide +kernel
theorem dX8_hold_17 : decode cX8_hold 17 = .ok (.aload_n 0, 1) := by decide +kernel
theorem dX8_hold_18 : decode cX8_hold 18 = .ok (.getfield 19, 3) := by decide +kernel
theorem dX8_hold_21 : decode cX8_hold 21 = .ok (.iload_n 1, 1) := by decide +kernel
theorem dX8_hold_22 : decode cX8_hold 22 = .ok (.invokevirtual 142, 3) := by decide +kernel
theorem dX8_hold_25 : decode cX8_hold 25 = .ok (.ifCond .eq 9, 3) := by decide +kernel
theorem dX8_hold_28 : decode cX8_hold 28 = .ok (.aload_n 0, 1) := by decide +kernel
theorem dX8_hold_29 : decode cX8_hold 29 = .ok (.iconst 5, 1) := by decide +kernel
theorem dX8_hold_30 : decode cX8_hold 30 = .ok (.invokevirtual 276, 3) := by decide +kernel
theorem dX8_hold_33 : decode cX8_hold 33 = .ok (.ireturn, 1) := by decide +kernel
theorem dX8_hold_34 : decode cX8_hold 34 = .ok (.aload_n 0, 1) := by decide +kernel
theorem dX8_hold_35 : decode cX8_hold 35 = .ok (.getfield 19, 3) := by decide +kernel
theorem dX8_hold_38 : decode cX8_hold 38 = .ok (.invokevirtual 279, 3) := by decide +kernel
theorem dX8_hold_41 : decode cX8_hold 41 = .ok (.aload_n 0, 1) := by decide +kernel
theorem dX8_hold_42 : decode cX8_hold 42 = .ok (.getfield 19, 3) := by decide +kernel
theorem dX8_hold_45 : decode cX8_hold 45 = .ok (.iload_n 1, 1) := by decide +kernel
theorem dX8_hold_46 : decode cX8_hold 46 = .ok (.invokevirtual 282, 3) := by decide +kernel
theorem dX8_hold_49 : decode cX8_hold 49 = .ok (.aload_n 0, 1) := by decide +kernel
theorem dX8_hold_50 : decode cX8_hold 50 = .ok (.iconst 0, 1) := by decide +kernel
theorem dX8_hold_51 : decode cX8_hold 51 = .ok (.invokevirtual 276, 3) := by decide +kernel
theorem dX8_hold_54 : decode cX8_hold 54 = .ok (.ireturn, 1) := by decide +kernel
set_option maxRecDepth 20000 in
theorem ggX8_let_X4_hasThing : GoodIn wsX8_let wsX4_hasThing := goodIn_r _ [7, 8, 45, 46, 47, 48, 49, 50, 51, 52, 53, 54, 55, 56, 57, 58, 59, 60, 61, 62, 63, 64] (by decide +kernel) (by decide +kernel)
set_option maxRecDepth 20000 in
theorem gX8_let_X4_hasThing : GoodIn wsX8_let (wsV RX8 124 RX4 yX4_hasThing wsX4_hasThing) := goodIn_app (goodIn_of _ (by decide +kernel)) ggX8_let_X4_hasThing
set_option maxRecDepth 20000 in
theorem ggX8_let_X8_isDone : GoodIn wsX8_let wsX8_isDone := goodIn_r _ [13, 14, 36, 37, 38, 39, 40, 41, 42, 43, 44] (by decide +kernel) (by decide +kernel)
set_option maxRecDepth 20000 in
theorem gX8_let_X8_isDone : GoodIn wsX8_let (wsV RX8 276 RX8 yX8_isDone wsX8_isDone) := goodIn_app (goodIn_of _ (by decide +kernel)) ggX8_let_X8_isDone
set_option maxRecDepth 20000 in
theorem ggX8_let_X1_isHeld : GoodIn wsX8_let wsX1_isHeld := goodIn_r _ [19, 20, 65, 66, 67, 68, 69, 70] (by decide +kernel) (by decide +kernel)
set_option maxRecDepth 20000 in
theorem gX8_let_X1_isHeld : GoodIn wsX8_let (wsV RX8 142 RX1 yX1_isHeld wsX1_isHeld) := goodIn_app (goodIn_of _ (by decide +kernel)) ggX8_let_X1_isHeld
set_option maxRecDepth 20000 in
theorem ggX8_let_X1_keep : GoodIn wsX8_let wsX1_keep := goodIn_r _ [24, 25, 20, 26, 27, 28, 29, 30, 31, 65, 66, 67, 68, 69, 70] (by decide +kernel) (by decide +kernel)
set_option maxRecDepth 20000 in
theorem gX8_let_X1_keep : GoodIn wsX8_let (wsV RX8 279 RX1 yX1_keep wsX1_keep) := goodIn_app (goodIn_of _ (by decide +kernel)) ggX8_let_X1_keep
set_option maxRecDepth 20000 in
theorem ggX8_let_X1_turnHeld : GoodIn wsX8_let wsX1_turnHeld := goodIn_r _ [35, 20, 65, 66, 67, 68, 69, 70] (by decide +kernel) (by decide +kernel)
set_option maxRecDepth 20000 in
theorem gX8_let_X1_turnHeld : GoodIn wsX8_let (wsV RX8 282 RX1 yX1_turnHeld wsX1_turnHeld) := goodIn_app (goodIn_of _ (by decide +kernel)) ggX8_let_X1_turnHeld
theorem dX8_let_0 : decode cX8_let 0 = .ok (.aload_n 0, 1) := by decide +kernel
theorem dX8_let_1 : decode cX8_let 1 = .ok (.getfield 47, 3) := by decide +kernel
theorem dX8_let_4 : decode cX8_let 4 = .ok (.iload_n 1, 1) := by decide +kernel
theorem dX8_let_5 : decode cX8_let 5 = .ok (.invokevirtual 124, 3) := by decide +kernel
theorem dX8_let_8 : decode cX8_let 8 = .ok (.ifCond .ne 9, 3) := by decide +kernel
theorem dX8_let_11 : decode cX8_let 11 = .ok (.aload_n 0, 1) := by decide +kernel
theorem dX8_let_12 : decode cX8_let 12 = .ok (.iconst 1, 1) := by decide +kernel
theorem dX8_let_13 : decode cX8_let 13 = .ok (.invokevirtual 276, 3) := by decide +kernel
theorem dX8_let_16 : decode cX8_let 16 = .ok (.ireturn, 1) := by decide +kernel
theorem dX8_let_17 : decode cX8_let 17 = .ok (.aload_n 0, 1) := by decide +kernel
theorem dX8_let_18 : decode cX8_let 18 = .ok (.getfield 19, 3) := by decide +kernel
theorem dX8_let_21 : decode cX8_let 21 = .ok (.iload_n 1, 1) := by decide +kernel
theorem dX8_let_22 : decode cX8_let 22 = .ok (.invokevirtual 142, 3) := by decide +kernel
theorem dX8_let_25 : decode cX8_let 25 = .ok (.ifCond .ne 9, 3) := by decide +kernel
theorem dX8_let_28 : decode cX8_let 28 = .ok (.aload_n 0, 1) := by decide +kernel
theorem dX8_let_29 : decode cX8_let 29 = .ok (.iconst 5, 1) := by decide +kernel
theorem dX8_let_30 : decode cX8_let 30 = .ok (.invokevirtual 276, 3) := by decide +kernel
theorem dX8_let_33 : decode cX8_let 33 = .ok (.ireturn, 1) := by decide +kernel
theorem dX8_let_34 : decode cX8_let 34 = .ok (.aload_n 0, 1) := by decide +kernel
theorem dX8_let_35 : decode cX8_let 35 = .ok (.getfield 19, 3) := by decide +kernel
theorem dX8_let_38 : decode cX8_let 38 = .ok (.invokevirtual 279, 3) := by decide +kernel
theorem dX8_let_41 : decode cX8_let 41 = .ok (.aload_n 0, 1) := by decide +kernel
theorem dX8_let_42 : decode cX8_let 42 = .ok (.getfield 19, 3) := by decide +kernel
theorem dX8_let_45 : decode cX8_let 45 = .ok (.iload_n 1, 1) := by decide +kernel
theorem dX8_let_46 : decode cX8_let 46 = .ok (.invokevirtual 282, 3) := by decide +kernel
theorem dX8_let_49 : decode cX8_let 49 = .ok (.aload_n 0, 1) := by decide +kernel
theorem dX8_let_50 : decode cX8_let 50 = .ok (.iconst 0, 1) := by decide +kernel
theorem dX8_let_51 : decode cX8_let 51 = .ok (.invokevirtual 276, 3) := by decide +kernel
theorem dX8_let_54 : decode cX8_let 54 = .ok (.ireturn, 1) := by decide +kernel
set_option maxRecDepth 20000 in
theorem ggX8_put_X4_hasThing : GoodIn wsX8_put wsX4_hasThing := goodIn_r _ [8, 9, 63, 64, 65, 66, 67, 68, 69, 70, 71, 72, 73, 74, 75, 76, 77, 78, 79, 80, 81, 82] (by decide +kernel) (by decide +kernel)
set_option maxRecDepth 20000 in
theorem gX8_put_X4_hasThing : GoodIn wsX8_put (wsV RX8 124 RX4 yX4_hasThing wsX4_hasThing) := goodIn_app (goodIn_of _ (by decide +kernel)) ggX8_put_X4_hasThing
set_option maxRecDepth 20000 in
theorem ggX8_put_X4_hasPlace : GoodIn wsX8_put wsX4_hasPlace := goodIn_r _ [13, 14, 15, 16, 17, 7, 18, 19, 63, 64, 65, 66, 67, 68, 69, 70, 71, 72, 73, 74, 75, 76, 77, 78, 79, 80, 81, 82] (by decide +kernel) (by decide +kernel)
set_option maxRecDepth 20000 in
theorem gX8_put_X4_hasPlace : GoodIn wsX8_put (wsV RX8 145 RX4 yX4_hasPlace wsX4_hasPlace) := goodIn_app (goodIn_of _ (by decide +kernel)) ggX8_put_X4_hasPlace
set_option maxRecDepth 20000 in
theorem ggX8_put_X8_isDone : GoodIn wsX8_put wsX8_isDone := goodIn_r _ [24, 25, 54, 55, 56, 57, 58, 59, 60, 61, 62] (by decide +kernel) (by decide +kernel)
set_option maxRecDepth 20000 in
theorem gX8_put_X8_isDone : GoodIn wsX8_put (wsV RX8 276 RX8 yX8_isDone wsX8_isDone) := goodIn_app (goodIn_of _ (by decide +kernel)) ggX8_put_X8_isDone
set_option maxRecDepth 20000 in
theorem ggX8_put_X8_cellAt : GoodIn wsX8_put wsX8_cellAt := goodIn_r _ [28] (by decide +kernel) (by decide +kernel)
set_option maxRecDepth 20000 in
theorem gX8_put_X8_cellAt : GoodIn wsX8_put (va_wsS RX8 149 yX8_cellAt wsX8_cellAt) := goodIn_app (goodIn_of _ (by decide +kernel)) ggX8_put_X8_cellAt
set_option maxRecDepth 20000 in
theorem ggX8_put_X1_isHeld : GoodIn wsX8_put wsX1_isHeld := goodIn_r _ [33, 34, 83, 84, 85, 86, 87, 88] (by decide +kernel) (by decide +kernel)
set_option maxRecDepth 20000 in
theorem gX8_put_X1_isHeld : GoodIn wsX8_put (wsV RX8 142 RX1 yX1_isHeld wsX1_isHeld) := goodIn_app (goodIn_of _ (by decide +kernel)) ggX8_put_X1_isHeld
set_option maxRecDepth 20000 in
theorem ggX8_put_X1_thingAt : GoodIn wsX8_put wsX1_thingAt := goodIn_r _ [38, 34, 83, 84, 85, 86, 87, 88] (by decide +kernel) (by decide +kernel)
set_option maxRecDepth 20000 in
theorem gX8_put_X1_thingAt : GoodIn wsX8_put (wsV RX8 152 RX1 yX1_thingAt wsX1_thingAt) := goodIn_app (goodIn_of _ (by decide +kernel)) ggX8_put_X1_thingAt
set_option maxRecDepth 20000 in
theorem ggX8_put_X1_keep : GoodIn wsX8_put wsX1_keep := goodIn_r _ [42, 43, 34, 44, 45, 46, 47, 48, 49, 83, 84, 85, 86, 87, 88] (by decide +kernel) (by decide +kernel)
set_option maxRecDepth 20000 in
theorem gX8_put_X1_keep : GoodIn wsX8_put (wsV RX8 279 RX1 yX1_keep wsX1_keep) := goodIn_app (goodIn_of _ (by decide +kernel)) ggX8_put_X1_keep
set_option maxRecDepth 20000 in
theorem ggX8_put_X1_move : GoodIn wsX8_put wsX1_move := goodIn_r _ [53, 34, 83, 84, 85, 86, 87, 88] (by decide +kernel) (by decide +kernel)
set_option maxRecDepth 20000 in
theorem gX8_put_X1_move : GoodIn wsX8_put (wsV RX8 285 RX1 yX1_move wsX1_move) := goodIn_app (goodIn_of _ (by decide +kernel)) ggX8_put_X1_move
theorem dX8_put_0 : decode cX8_put 0 = .ok (.aload_n 0, 1) := by decide +kernel
theorem dX8_put_1 : decode cX8_put 1 = .ok (.getfield 47, 3) := by decide +kernel
theorem dX8_put_4 : decode cX8_put 4 = .ok (.iload_n 1, 1) := by decide +kernel
theorem dX8_put_5 : decode cX8_put 5 = .ok (.invokevirtual 124, 3) := by decide +kernel
theorem dX8_put_8 : decode cX8_put 8 = .ok (.ifCond .eq 15, 3) := by decide +kernel
theorem dX8_put_11 : decode cX8_put 11 = .ok (.aload_n 0, 1) := by decide +kernel
theorem dX8_put_12 : decode cX8_put 12 = .ok (.getfield 47, 3) := by decide +kernel
theorem dX8_put_15 : decode cX8_put 15 = .ok (.iload_n 2, 1) := by decide +kernel
theorem dX8_put_16 : decode cX8_put 16 = .ok (.iload_n 3, 1) := by decide +kernel
theorem dX8_put_17 : decode cX8_put 17 = .ok (.invokevirtual 145, 3) := by decide +kernel
theorem dX8_put_20 : decode cX8_put 20 = .ok (.ifCond .ne 9, 3) := by decide +kernel
theorem dX8_put_23 : decode cX8_put 23 = .ok (.aload_n 0, 1) := by decide +kernel
theorem dX8_put_24 : decode cX8_put 24 = .ok (.iconst 1, 1) := by decide +kernel
theorem dX8_put_25 : decode cX8_put 25 = .ok (.invokevirtual 276, 3) := by decide +kernel
theorem dX8_put_28 : decode cX8_put 28 = .ok (.ireturn, 1) := by decide +kernel
theorem dX8_put_29 : decode cX8_put 29 = .ok (.iload_n 2, 1) := by decide +kernel
theorem dX8_put_30 : decode cX8_put 30 = .ok (.iload_n 3, 1) := by decide +kernel
theorem dX8_put_31 : decode cX8_put 31 = .ok (.invokestatic 149, 3) := by decide +kernel
theorem dX8_put_34 : decode cX8_put 34 = .ok (.istore 4, 2) := by decide +kernel
theorem dX8_put_36 : decode cX8_put 36 = .ok (.aload_n 0, 1) := by decide +kernel
theorem dX8_put_37 : decode cX8_put 37 = .ok (.getfield 19, 3) := by decide +kernel
theorem dX8_put_40 : decode cX8_put 40 = .ok (.iload_n 1, 1) := by decide +kernel
theorem dX8_put_41 : decode cX8_put 41 = .ok (.invokevirtual 142, 3) := by decide +kernel
theorem dX8_put_44 : decode cX8_put 44 = .ok (.ifCond .ne 22, 3) := by decide +kernel
theorem dX8_put_47 : decode cX8_put 47 = .ok (.aload_n 0, 1) := by decide +kernel
theorem dX8_put_48 : decode cX8_put 48 = .ok (.getfield 19, 3) := by decide +kernel
theorem dX8_put_51 : decode cX8_put 51 = .ok (.iload 4, 2) := by decide +kernel
theorem dX8_put_53 : decode cX8_put 53 = .ok (.aload_n 0, 1) := by decide +kernel
theorem dX8_put_54 : decode cX8_put 54 = .ok (.getfield 47, 3) := by decide +kernel
theorem dX8_put_57 : decode cX8_put 57 = .ok (.getfield 106, 3) := by decide +kernel
theorem dX8_put_60 : decode cX8_put 60 = .ok (.invokevirtual 152, 3) := by decide +kernel
theorem dX8_put_63 : decode cX8_put 63 = .ok (.ifCond .lt 9, 3) := by decide +kernel
theorem dX8_put_66 : decode cX8_put 66 = .ok (.aload_n 0, 1) := by decide +kernel
theorem dX8_put_67 : decode cX8_put 67 = .ok (.iconst 5, 1) := by decide +kernel
theorem dX8_put_68 : decode cX8_put 68 = .ok (.invokevirtual 276, 3) := by decide +kernel
theorem dX8_put_71 : decode cX8_put 71 = .ok (.ireturn, 1) := by decide +kernel
theorem dX8_put_72 : decode cX8_put 72 = .ok (.aload_n 0, 1) := by decide +kernel
theorem dX8_put_73 : decode cX8_put 73 = .ok (.getfield 19, 3) := by decide +kernel
theorem dX8_put_76 : decode cX8_put 76 = .ok (.invokevirtual 279, 3) := by decide +kernel
theorem dX8_put_79 : decode cX8_put 79 = .ok (.aload_n 0, 1) := by decide +kernel
theorem dX8_put_80 : decode cX8_put 80 = .ok (.getfield 19, 3) := by decide +kernel
theorem dX8_put_83 : decode cX8_put 83 = .ok (.iload_n 1, 1) := by decide +kernel
theorem dX8_put_84 : decode cX8_put 84 = .ok (.iload 4, 2) := by decide +kernel
theorem dX8_put_86 : decode cX8_put 86 = .ok (.invokevirtual 285, 3) := by decide +kernel
theorem dX8_put_89 : decode cX8_put 89 = .ok (.aload_n 0, 1) := by decide +kernel
theorem dX8_put_90 : decode cX8_put 90 = .ok (.iconst 0, 1) := by decide +kernel
theorem dX8_put_91 : decode cX8_put 91 = .ok (.invokevirtual 276, 3) := by decide +kernel
theorem dX8_put_94 : decode cX8_put 94 = .ok (.ireturn, 1) := by decide +kernel
set_option maxRecDepth 20000 in
theorem ggX8_night_X4_stands : GoodIn wsX8_night wsX4_stands := goodIn_r _ [9, 10, 141, 142, 143, 144, 145, 146, 147, 148, 149, 150, 151, 152, 153, 154, 155, 156, 157, 158, 159, 160] (by decide +kernel) (by decide +kernel)
set_option maxRecDepth 20000 in
theorem gX8_night_X4_stands : GoodIn wsX8_night (wsV RX8 161 RX4 yX4_stands wsX4_stands) := goodIn_app (goodIn_of _ (by decide +kernel)) ggX8_night_X4_stands
set_option maxRecDepth 20000 in
theorem ggX8_night_X8_refuse : GoodIn wsX8_night wsX8_refuse := goodIn_r _ [15, 16, 132, 133, 134, 135, 136, 137, 138, 139, 140] (by decide +kernel) (by decide +kernel)
set_option maxRecDepth 20000 in
theorem gX8_night_X8_refuse : GoodIn wsX8_night (wsV RX8 63 RX8 yX8_refuse wsX8_refuse) := goodIn_app (goodIn_of _ (by decide +kernel)) ggX8_night_X8_refuse
set_option maxRecDepth 20000 in
theorem ggX8_night_X1_nightNow : GoodIn wsX8_night wsX1_nightNow := goodIn_r _ [21, 22, 161, 162, 163, 164, 165, 166] (by decide +kernel) (by decide +kernel)
set_option maxRecDepth 20000 in
theorem gX8_night_X1_nightNow : GoodIn wsX8_night (wsV RX8 288 RX1 yX1_nightNow wsX1_nightNow) := goodIn_app (goodIn_of _ (by decide +kernel)) ggX8_night_X1_nightNow
set_option maxRecDepth 20000 in
theorem ggX8_night_X1_keep : GoodIn wsX8_night wsX1_keep := goodIn_r _ [26, 27, 22, 28, 29, 30, 31, 32, 33, 161, 162, 163, 164, 165, 166] (by decide +kernel) (by decide +kernel)
set_option maxRecDepth 20000 in
theorem gX8_night_X1_keep : GoodIn wsX8_night (wsV RX8 279 RX1 yX1_keep wsX1_keep) := goodIn_app (goodIn_of _ (by decide +kernel)) ggX8_night_X1_keep
set_option maxRecDepth 20000 in
theorem ggX8_night_X6_start : GoodIn wsX8_night wsX6_start := goodIn_r _ [38, 39, 40, 41, 42, 43, 44, 45, 46, 47, 48, 18, 19, 20, 21, 22, 49, 50, 51, 52, 53, 54, 55, 56, 57, 58, 59, 60, 61, 62, 63, 8, 64, 65, 66, 67, 68, 37, 69, 70, 14, 71, 72, 73, 74, 75, 76, 77, 78, 79, 80, 10, 167, 168, 169, 170, 171, 172, 173, 174, 175, 176, 177, 178, 179, 141, 142, 143, 144, 145, 146, 147, 148, 149, 150, 151, 152, 153, 154, 155, 156, 157, 158, 159, 160, 161, 162, 163, 164, 165, 166] (by decide +kernel) (by decide +kernel)
set_option maxRecDepth 20000 in
theorem gX8_night_X6_start : GoodIn wsX8_night (wsV RX8 165 RX6 yX6_start wsX6_start) := goodIn_app (goodIn_of _ (by decide +kernel)) ggX8_night_X6_start
set_option maxRecDepth 20000 in
theorem ggX8_night_X6_pass : GoodIn wsX8_night wsX6_pass := goodIn_r _ [84, 40, 39, 46, 85, 47, 86, 87, 88, 37, 89, 41, 90, 44, 42, 91, 43, 92, 93, 94, 95, 8, 96, 97, 98, 99, 100, 101, 45, 102, 103, 104, 105, 106, 107, 65, 108, 109, 110, 111, 66, 67, 68, 69, 167, 168, 169, 170, 171, 172, 173, 174, 175, 176, 177, 178, 179, 141, 142, 143, 144, 145, 146, 147, 148, 149, 150, 151, 152, 153, 154, 155, 156, 157, 158, 159, 160] (by decide +kernel) (by decide +kernel)
set_option maxRecDepth 20000 in
theorem gX8_night_X6_pass : GoodIn wsX8_night (wsV RX8 188 RX6 yX6_pass wsX6_pass) := goodIn_app (goodIn_of _ (by decide +kernel)) ggX8_night_X6_pass
set_option maxRecDepth 20000 in
theorem ggX8_night_X6_cellOf : GoodIn wsX8_night wsX6_cellOf := goodIn_r _ [115, 47, 167, 168, 169, 170, 171, 172, 173, 174, 175, 176, 177, 178, 179] (by decide +kernel) (by decide +kernel)
set_option maxRecDepth 20000 in
theorem gX8_night_X6_cellOf : GoodIn wsX8_night (wsV RX8 184 RX6 yX6_cellOf wsX6_cellOf) := goodIn_app (goodIn_of _ (by decide +kernel)) ggX8_night_X6_cellOf
set_option maxRecDepth 20000 in
theorem ggX8_night_X1_move : GoodIn wsX8_night wsX1_move := goodIn_r _ [119, 22, 161, 162, 163, 164, 165, 166] (by decide +kernel) (by decide +kernel)
set_option maxRecDepth 20000 in
theorem gX8_night_X1_move : GoodIn wsX8_night (wsV RX8 285 RX1 yX1_move wsX1_move) := goodIn_app (goodIn_of _ (by decide +kernel)) ggX8_night_X1_move
set_option maxRecDepth 20000 in
theorem ggX8_night_X1_nextNight : GoodIn wsX8_night wsX1_nextNight := goodIn_r _ [123, 22, 161, 162, 163, 164, 165, 166] (by decide +kernel) (by decide +kernel)
set_option maxRecDepth 20000 in
theorem gX8_night_X1_nextNight : GoodIn wsX8_night (wsV RX8 291 RX1 yX1_nextNight wsX1_nextNight) := goodIn_app (goodIn_of _ (by decide +kernel)) ggX8_night_X1_nextNight
set_option maxRecDepth 20000 in
theorem ggX8_night_X6_went : GoodIn wsX8_night wsX6_went := goodIn_r _ [127, 85, 167, 168, 169, 170, 171, 172, 173, 174, 175, 176, 177, 178, 179] (by decide +kernel) (by decide +kernel)
set_option maxRecDepth 20000 in
theorem gX8_night_X6_went : GoodIn wsX8_night (wsV RX8 172 RX6 yX6_went wsX6_went) := goodIn_app (goodIn_of _ (by decide +kernel)) ggX8_night_X6_went
set_option maxRecDepth 20000 in
theorem ggX8_night_X8_answer : GoodIn wsX8_night wsX8_answer := goodIn_r _ [131, 16, 132, 133, 134, 135, 136, 137, 138, 139, 140] (by decide +kernel) (by decide +kernel)
set_option maxRecDepth 20000 in
theorem gX8_night_X8_answer : GoodIn wsX8_night (wsV RX8 97 RX8 yX8_answer wsX8_answer) := goodIn_app (goodIn_of _ (by decide +kernel)) ggX8_night_X8_answer
theorem dX8_night_0 : decode cX8_night 0 = .ok (.aload_n 0, 1) := by decide +kernel
theorem dX8_night_1 : decode cX8_night 1 = .ok (.getfield 47, 3) := by decide +kernel
theorem dX8_night_4 : decode cX8_night 4 = .ok (.invokevirtual 161, 3) := by decide +kernel
theorem dX8_night_7 : decode cX8_night 7 = .ok (.ifCond .ne 9, 3) := by decide +kernel
theorem dX8_night_10 : decode cX8_night 10 = .ok (.aload_n 0, 1) := by decide +kernel
theorem dX8_night_11 : decode cX8_night 11 = .ok (.iconst 1, 1) := by decide +kernel
theorem dX8_night_12 : decode cX8_night 12 = .ok (.invokevirtual 63, 3) := by decide +kernel
theorem dX8_night_15 : decode cX8_night 15 = .ok (.ireturn, 1) := by decide +kernel
theorem dX8_night_16 : decode cX8_night 16 = .ok (.aload_n 0, 1) := by decide +kernel
theorem dX8_night_17 : decode cX8_night 17 = .ok (.getfield 19, 3) := by decide +kernel
theorem dX8_night_20 : decode cX8_night 20 = .ok (.invokevirtual 288, 3) := by decide +kernel
theorem dX8_night_23 : decode cX8_night 23 = .ok (.sipush 999, 3) := by decide +kernel
theorem dX8_night_26 : decode cX8_night 26 = .ok (.if_icmp .lt 9, 3) := by decide +kernel
theorem dX8_night_29 : decode cX8_night 29 = .ok (.aload_n 0, 1) := by decide +kernel
theorem dX8_night_30 : decode cX8_night 30 = .ok (.iconst 3, 1) := by decide +kernel
theorem dX8_night_31 : decode cX8_night 31 = .ok (.invokevirtual 63, 3) := by decide +kernel
theorem dX8_night_34 : decode cX8_night 34 = .ok (.ireturn, 1) := by decide +kernel
theorem dX8_night_35 : decode cX8_night 35 = .ok (.aload_n 0, 1) := by decide +kernel
theorem dX8_night_36 : decode cX8_night 36 = .ok (.getfield 19, 3) := by decide +kernel
theorem dX8_night_39 : decode cX8_night 39 = .ok (.invokevirtual 279, 3) := by decide +kernel
theorem dX8_night_42 : decode cX8_night 42 = .ok (.aload_n 0, 1) := by decide +kernel
theorem dX8_night_43 : decode cX8_night 43 = .ok (.getfield 26, 3) := by decide +kernel
theorem dX8_night_46 : decode cX8_night 46 = .ok (.aload_n 0, 1) := by decide +kernel
theorem dX8_night_47 : decode cX8_night 47 = .ok (.getfield 47, 3) := by decide +kernel
theorem dX8_night_50 : decode cX8_night 50 = .ok (.aload_n 0, 1) := by decide +kernel
theorem dX8_night_51 : decode cX8_night 51 = .ok (.getfield 19, 3) := by decide +kernel
theorem dX8_night_54 : decode cX8_night 54 = .ok (.iconst 0, 1) := by decide +kernel
theorem dX8_night_55 : decode cX8_night 55 = .ok (.invokevirtual 165, 3) := by decide +kernel
theorem dX8_night_58 : decode cX8_night 58 = .ok (.aload_n 0, 1) := by decide +kernel
theorem dX8_night_59 : decode cX8_night 59 = .ok (.getfield 26, 3) := by decide +kernel
theorem dX8_night_62 : decode cX8_night 62 = .ok (.iconst 0, 1) := by decide +kernel
theorem dX8_night_63 : decode cX8_night 63 = .ok (.invokevirtual 188, 3) := by decide +kernel
theorem dX8_night_66 : decode cX8_night 66 = .ok (.iconst 0, 1) := by decide +kernel
theorem dX8_night_67 : decode cX8_night 67 = .ok (.istore_n 1, 1) := by decide +kernel
theorem dX8_night_68 : decode cX8_night 68 = .ok (.iload_n 1, 1) := by decide +kernel
theorem dX8_night_69 : decode cX8_night 69 = .ok (.aload_n 0, 1) := by decide +kernel
theorem dX8_night_70 : decode cX8_night 70 = .ok (.getfield 47, 3) := by decide +kernel
theorem dX8_night_73 : decode cX8_night 73 = .ok (.getfield 106, 3) := by decide +kernel
theorem dX8_night_76 : decode cX8_night 76 = .ok (.if_icmp .ge 25, 3) := by decide +kernel
theorem dX8_night_79 : decode cX8_night 79 = .ok (.aload_n 0, 1) := by decide +kernel
theorem dX8_night_80 : decode cX8_night 80 = .ok (.getfield 19, 3) := by decide +kernel
theorem dX8_night_83 : decode cX8_night 83 = .ok (.iload_n 1, 1) := by decide +kernel
theorem dX8_night_84 : decode cX8_night 84 = .ok (.aload_n 0, 1) := by decide +kernel
theorem dX8_night_85 : decode cX8_night 85 = .ok (.getfield 26, 3) := by decide +kernel
theorem dX8_night_88 : decode cX8_night 88 = .ok (.iload_n 1, 1) := by decide +kernel
theorem dX8_night_89 : decode cX8_night 89 = .ok (.invokevirtual 184, 3) := by decide +kernel
theorem dX8_night_92 : decode cX8_night 92 = .ok (.invokevirtual 285, 3) := by decide +kernel
theorem dX8_night_95 : decode cX8_night 95 = .ok (.iinc 1 1, 3) := by decide +kernel
theorem dX8_night_98 : decode cX8_night 98 = .ok (.goto (-30), 3) := by decide +kernel
theorem dX8_night_101 : decode cX8_night 101 = .ok (.aload_n 0, 1) := by decide +kernel
theorem dX8_night_102 : decode cX8_night 102 = .ok (.getfield 19, 3) := by decide +kernel
theorem dX8_night_105 : decode cX8_night 105 = .ok (.invokevirtual 291, 3) := by decide +kernel
