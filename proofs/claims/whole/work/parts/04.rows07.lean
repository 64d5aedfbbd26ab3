theorem dX9_still_51 : decode cX9_still 51 = .ok (.ireturn, 1) := by decide +kernel
set_option maxRecDepth 20000 in
theorem ggX9_period_X9_good : GoodIn wsX9_period wsX9_good := goodIn_r _ [9, 10, 11, 70, 71, 72, 73, 74, 75, 76, 77, 78, 79, 80, 81, 82, 83, 84, 85, 86, 87, 88, 89, 90, 91, 92, 93, 94, 95, 96, 97, 98] (by decide +kernel) (by decide +kernel)
set_option maxRecDepth 20000 in
theorem gX9_period_X9_good : GoodIn wsX9_period (wsV RX9 153 RX9 yX9_good wsX9_good) := goodIn_app (goodIn_of _ (by decide +kernel)) ggX9_period_X9_good
set_option maxRecDepth 20000 in
theorem ggX9_period_X9_no : GoodIn wsX9_period wsX9_no := goodIn_r _ [15, 11, 70, 71, 72, 73, 74, 75, 76, 77, 78, 79, 80, 81, 82, 83, 84, 85, 86, 87, 88, 89, 90, 91, 92, 93, 94, 95, 96, 97, 98] (by decide +kernel) (by decide +kernel)
set_option maxRecDepth 20000 in
theorem gX9_period_X9_no : GoodIn wsX9_period (wsV RX9 156 RX9 yX9_no wsX9_no) := goodIn_app (goodIn_of _ (by decide +kernel)) ggX9_period_X9_no
set_option maxRecDepth 20000 in
theorem ggX9_period_X9_begin : GoodIn wsX9_period wsX9_begin := goodIn_r _ [19, 4, 2, 20, 21, 8, 22, 70, 71, 72, 73, 74, 75, 76, 77, 78, 79, 80, 81, 82, 83, 84, 85, 86, 87, 88, 89, 90, 91, 92, 93, 94, 95, 96, 97, 98] (by decide +kernel) (by decide +kernel)
set_option maxRecDepth 20000 in
theorem gX9_period_X9_begin : GoodIn wsX9_period (wsV RX9 296 RX9 yX9_begin wsX9_begin) := goodIn_app (goodIn_of _ (by decide +kernel)) ggX9_period_X9_begin
set_option maxRecDepth 20000 in
theorem ggX9_period_X9_nightOf : GoodIn wsX9_period wsX9_nightOf := goodIn_r _ [26, 27, 28, 29, 8, 30, 31, 32, 33, 34, 3, 35, 36, 37, 38, 39, 40, 41, 42, 43, 44, 45, 46, 47, 48, 49, 50, 51, 52, 53, 54, 55, 56, 57, 58, 59, 60, 61, 62, 63, 64, 65, 66, 67, 68, 69, 70, 71, 72, 73, 74, 75, 76, 77, 78, 79, 80, 81, 82, 83, 84, 85, 86, 87, 88, 89, 90, 91, 92, 93, 94, 95, 96, 97, 98] (by decide +kernel) (by decide +kernel)
set_option maxRecDepth 20000 in
theorem gX9_period_X9_nightOf : GoodIn wsX9_period (wsV RX9 299 RX9 yX9_nightOf wsX9_nightOf) := goodIn_app (goodIn_of _ (by decide +kernel)) ggX9_period_X9_nightOf
theorem dX9_period_0 : decode cX9_period 0 = .ok (.aload_n 0, 1) := by decide +kernel
theorem dX9_period_1 : decode cX9_period 1 = .ok (.invokevirtual 153, 3) := by decide +kernel
theorem dX9_period_4 : decode cX9_period 4 = .ok (.aload_n 0, 1) := by decide +kernel
theorem dX9_period_5 : decode cX9_period 5 = .ok (.getfield 166, 3) := by decide +kernel
theorem dX9_period_8 : decode cX9_period 8 = .ok (.ifCond .ne 9, 3) := by decide +kernel
theorem dX9_period_11 : decode cX9_period 11 = .ok (.aload_n 0, 1) := by decide +kernel
theorem dX9_period_12 : decode cX9_period 12 = .ok (.iconst 1, 1) := by decide +kernel
theorem dX9_period_13 : decode cX9_period 13 = .ok (.invokevirtual 156, 3) := by decide +kernel
theorem dX9_period_16 : decode cX9_period 16 = .ok (.ireturn, 1) := by decide +kernel
theorem dX9_period_17 : decode cX9_period 17 = .ok (.aload_n 0, 1) := by decide +kernel
theorem dX9_period_18 : decode cX9_period 18 = .ok (.invokevirtual 296, 3) := by decide +kernel
theorem dX9_period_21 : decode cX9_period 21 = .ok (.iconst 1, 1) := by decide +kernel
theorem dX9_period_22 : decode cX9_period 22 = .ok (.istore_n 1, 1) := by decide +kernel
theorem dX9_period_23 : decode cX9_period 23 = .ok (.iload_n 1, 1) := by decide +kernel
theorem dX9_period_24 : decode cX9_period 24 = .ok (.sipush 200, 3) := by decide +kernel
theorem dX9_period_27 : decode cX9_period 27 = .ok (.if_icmp .gt 69, 3) := by decide +kernel
theorem dX9_period_30 : decode cX9_period 30 = .ok (.aload_n 0, 1) := by decide +kernel
theorem dX9_period_31 : decode cX9_period 31 = .ok (.aload_n 0, 1) := by decide +kernel
theorem dX9_period_32 : decode cX9_period 32 = .ok (.getfield 35, 3) := by decide +kernel
theorem dX9_period_35 : decode cX9_period 35 = .ok (.invokevirtual 299, 3) := by decide +kernel
theorem dX9_period_38 : decode cX9_period 38 = .ok (.pop, 1) := by decide +kernel
theorem dX9_period_39 : decode cX9_period 39 = .ok (.iconst 1, 1) := by decide +kernel
theorem dX9_period_40 : decode cX9_period 40 = .ok (.istore_n 2, 1) := by decide +kernel
theorem dX9_period_41 : decode cX9_period 41 = .ok (.iconst 0, 1) := by decide +kernel
theorem dX9_period_42 : decode cX9_period 42 = .ok (.istore_n 3, 1) := by decide +kernel
theorem dX9_period_43 : decode cX9_period 43 = .ok (.iload_n 3, 1) := by decide +kernel
theorem dX9_period_44 : decode cX9_period 44 = .ok (.aload_n 0, 1) := by decide +kernel
theorem dX9_period_45 : decode cX9_period 45 = .ok (.getfield 20, 3) := by decide +kernel
theorem dX9_period_48 : decode cX9_period 48 = .ok (.iconst 3, 1) := by decide +kernel
theorem dX9_period_49 : decode cX9_period 49 = .ok (.iaload, 1) := by decide +kernel
theorem dX9_period_50 : decode cX9_period 50 = .ok (.if_icmp .ge 34, 3) := by decide +kernel
theorem dX9_period_53 : decode cX9_period 53 = .ok (.iload_n 2, 1) := by decide +kernel
theorem dX9_period_54 : decode cX9_period 54 = .ok (.ifCond .eq 22, 3) := by decide +kernel
theorem dX9_period_57 : decode cX9_period 57 = .ok (.aload_n 0, 1) := by decide +kernel
theorem dX9_period_58 : decode cX9_period 58 = .ok (.getfield 35, 3) := by decide +kernel
theorem dX9_period_61 : decode cX9_period 61 = .ok (.iload_n 3, 1) := by decide +kernel
theorem dX9_period_62 : decode cX9_period 62 = .ok (.iaload, 1) := by decide +kernel
theorem dX9_period_63 : decode cX9_period 63 = .ok (.aload_n 0, 1) := by decide +kernel
theorem dX9_period_64 : decode cX9_period 64 = .ok (.getfield 26, 3) := by decide +kernel
theorem dX9_period_67 : decode cX9_period 67 = .ok (.iload_n 3, 1) := by decide +kernel
theorem dX9_period_68 : decode cX9_period 68 = .ok (.iaload, 1) := by decide +kernel
theorem dX9_period_69 : decode cX9_period 69 = .ok (.if_icmp .ne 7, 3) := by decide +kernel
theorem dX9_period_72 : decode cX9_period 72 = .ok (.iconst 1, 1) := by decide +kernel
theorem dX9_period_73 : decode cX9_period 73 = .ok (.goto 4, 3) := by decide +kernel
theorem dX9_period_76 : decode cX9_period 76 = .ok (.iconst 0, 1) := by decide +kernel
theorem dX9_period_77 : decode cX9_period 77 = .ok (.istore_n 2, 1) := by decide +kernel
theorem dX9_period_78 : decode cX9_period 78 = .ok (.iinc 3 1, 3) := by decide +kernel
theorem dX9_period_81 : decode cX9_period 81 = .ok (.goto (-38), 3) := by decide +kernel
theorem dX9_period_84 : decode cX9_period 84 = .ok (.iload_n 2, 1) := by decide +kernel
theorem dX9_period_85 : decode cX9_period 85 = .ok (.ifCond .eq 5, 3) := by decide +kernel
theorem dX9_period_88 : decode cX9_period 88 = .ok (.iload_n 1, 1) := by decide +kernel
theorem dX9_period_89 : decode cX9_period 89 = .ok (.ireturn, 1) := by decide +kernel
theorem dX9_period_90 : decode cX9_period 90 = .ok (.iinc 1 1, 3) := by decide +kernel
theorem dX9_period_93 : decode cX9_period 93 = .ok (.goto (-70), 3) := by decide +kernel
theorem dX9_period_96 : decode cX9_period 96 = .ok (.bipush (-2), 2) := by decide +kernel
theorem dX9_period_98 : decode cX9_period 98 = .ok (.ireturn, 1) := by decide +kernel
set_option maxRecDepth 20000 in
theorem ggX9_steps_X9_good : GoodIn wsX9_steps wsX9_good := goodIn_r _ [6, 7, 8, 81, 82, 83, 84, 85, 86, 87, 88, 89, 90, 91, 92, 93, 94, 95, 96, 97, 98, 99, 100, 101, 102, 103, 104, 105, 106, 107, 108, 109] (by decide +kernel) (by decide +kernel)
set_option maxRecDepth 20000 in
theorem gX9_steps_X9_good : GoodIn wsX9_steps (wsV RX9 153 RX9 yX9_good wsX9_good) := goodIn_app (goodIn_of _ (by decide +kernel)) ggX9_steps_X9_good
set_option maxRecDepth 20000 in
theorem ggX9_steps_X9_isThing : GoodIn wsX9_steps wsX9_isThing := goodIn_r _ [12, 13, 14, 15, 16, 5, 17, 81, 82, 83, 84, 85, 86, 87, 88, 89, 90, 91, 92, 93, 94, 95, 96, 97, 98, 99, 100, 101, 102, 103, 104, 105, 106, 107, 108, 109] (by decide +kernel) (by decide +kernel)
set_option maxRecDepth 20000 in
theorem gX9_steps_X9_isThing : GoodIn wsX9_steps (wsV RX9 283 RX9 yX9_isThing wsX9_isThing) := goodIn_app (goodIn_of _ (by decide +kernel)) ggX9_steps_X9_isThing
set_option maxRecDepth 20000 in
theorem ggX9_steps_X9_why : GoodIn wsX9_steps wsX9_why := goodIn_r _ [21, 15, 16, 5, 17] (by decide +kernel) (by decide +kernel)
set_option maxRecDepth 20000 in
theorem gX9_steps_X9_why : GoodIn wsX9_steps (wsV RX9 292 RX9 yX9_why wsX9_why) := goodIn_app (goodIn_of _ (by decide +kernel)) ggX9_steps_X9_why
set_option maxRecDepth 20000 in
theorem ggX9_steps_X9_no : GoodIn wsX9_steps wsX9_no := goodIn_r _ [25, 8, 81, 82, 83, 84, 85, 86, 87, 88, 89, 90, 91, 92, 93, 94, 95, 96, 97, 98, 99, 100, 101, 102, 103, 104, 105, 106, 107, 108, 109] (by decide +kernel) (by decide +kernel)
set_option maxRecDepth 20000 in
theorem gX9_steps_X9_no : GoodIn wsX9_steps (wsV RX9 156 RX9 yX9_no wsX9_no) := goodIn_app (goodIn_of _ (by decide +kernel)) ggX9_steps_X9_no
set_option maxRecDepth 20000 in
theorem ggX9_steps_X9_begin : GoodIn wsX9_steps wsX9_begin := goodIn_r _ [29, 30, 1, 31, 32, 5, 33, 81, 82, 83, 84, 85, 86, 87, 88, 89, 90, 91, 92, 93, 94, 95, 96, 97, 98, 99, 100, 101, 102, 103, 104, 105, 106, 107, 108, 109] (by decide +kernel) (by decide +kernel)
set_option maxRecDepth 20000 in
theorem gX9_steps_X9_begin : GoodIn wsX9_steps (wsV RX9 296 RX9 yX9_begin wsX9_begin) := goodIn_app (goodIn_of _ (by decide +kernel)) ggX9_steps_X9_begin
set_option maxRecDepth 20000 in
theorem ggX9_steps_X9_nightOf : GoodIn wsX9_steps wsX9_nightOf := goodIn_r _ [37, 38, 39, 40, 5, 41, 42, 43, 44, 45, 14, 46, 47, 48, 49, 50, 51, 52, 53, 54, 55, 56, 57, 58, 59, 60, 61, 62, 63, 64, 65, 66, 67, 68, 69, 70, 71, 72, 73, 74, 75, 76, 77, 78, 79, 80, 81, 82, 83, 84, 85, 86, 87, 88, 89, 90, 91, 92, 93, 94, 95, 96, 97, 98, 99, 100, 101, 102, 103, 104, 105, 106, 107, 108, 109] (by decide +kernel) (by decide +kernel)
set_option maxRecDepth 20000 in
theorem gX9_steps_X9_nightOf : GoodIn wsX9_steps (wsV RX9 299 RX9 yX9_nightOf wsX9_nightOf) := goodIn_app (goodIn_of _ (by decide +kernel)) ggX9_steps_X9_nightOf
theorem dX9_steps_0 : decode cX9_steps 0 = .ok (.aload_n 0, 1) := by decide +kernel
theorem dX9_steps_1 : decode cX9_steps 1 = .ok (.invokevirtual 153, 3) := by decide +kernel
theorem dX9_steps_4 : decode cX9_steps 4 = .ok (.aload_n 0, 1) := by decide +kernel
theorem dX9_steps_5 : decode cX9_steps 5 = .ok (.aload_n 0, 1) := by decide +kernel
theorem dX9_steps_6 : decode cX9_steps 6 = .ok (.iload_n 1, 1) := by decide +kernel
theorem dX9_steps_7 : decode cX9_steps 7 = .ok (.invokevirtual 283, 3) := by decide +kernel
theorem dX9_steps_10 : decode cX9_steps 10 = .ok (.iload_n 2, 1) := by decide +kernel
theorem dX9_steps_11 : decode cX9_steps 11 = .ok (.sipush 200, 3) := by decide +kernel
theorem dX9_steps_14 : decode cX9_steps 14 = .ok (.invokevirtual 292, 3) := by decide +kernel
theorem dX9_steps_17 : decode cX9_steps 17 = .ok (.istore_n 3, 1) := by decide +kernel
theorem dX9_steps_18 : decode cX9_steps 18 = .ok (.iload_n 3, 1) := by decide +kernel
theorem dX9_steps_19 : decode cX9_steps 19 = .ok (.ifCond .eq 9, 3) := by decide +kernel
theorem dX9_steps_22 : decode cX9_steps 22 = .ok (.aload_n 0, 1) := by decide +kernel
theorem dX9_steps_23 : decode cX9_steps 23 = .ok (.iload_n 3, 1) := by decide +kernel
theorem dX9_steps_24 : decode cX9_steps 24 = .ok (.invokevirtual 156, 3) := by decide +kernel
theorem dX9_steps_27 : decode cX9_steps 27 = .ok (.ireturn, 1) := by decide +kernel
theorem dX9_steps_28 : decode cX9_steps 28 = .ok (.aload_n 0, 1) := by decide +kernel
theorem dX9_steps_29 : decode cX9_steps 29 = .ok (.invokevirtual 296, 3) := by decide +kernel
theorem dX9_steps_32 : decode cX9_steps 32 = .ok (.iconst 0, 1) := by decide +kernel
theorem dX9_steps_33 : decode cX9_steps 33 = .ok (.istore 4, 2) := by decide +kernel
theorem dX9_steps_35 : decode cX9_steps 35 = .ok (.iconst 0, 1) := by decide +kernel
theorem dX9_steps_36 : decode cX9_steps 36 = .ok (.istore 5, 2) := by decide +kernel
theorem dX9_steps_38 : decode cX9_steps 38 = .ok (.iload 5, 2) := by decide +kernel
theorem dX9_steps_40 : decode cX9_steps 40 = .ok (.iload_n 2, 1) := by decide +kernel
theorem dX9_steps_41 : decode cX9_steps 41 = .ok (.if_icmp .ge 26, 3) := by decide +kernel
theorem dX9_steps_44 : decode cX9_steps 44 = .ok (.iload 4, 2) := by decide +kernel
theorem dX9_steps_46 : decode cX9_steps 46 = .ok (.aload_n 0, 1) := by decide +kernel
theorem dX9_steps_47 : decode cX9_steps 47 = .ok (.aload_n 0, 1) := by decide +kernel
theorem dX9_steps_48 : decode cX9_steps 48 = .ok (.getfield 35, 3) := by decide +kernel
theorem dX9_steps_51 : decode cX9_steps 51 = .ok (.invokevirtual 299, 3) := by decide +kernel
theorem dX9_steps_54 : decode cX9_steps 54 = .ok (.iload_n 1, 1) := by decide +kernel
theorem dX9_steps_55 : decode cX9_steps 55 = .ok (.ishr, 1) := by decide +kernel
theorem dX9_steps_56 : decode cX9_steps 56 = .ok (.iconst 1, 1) := by decide +kernel
theorem dX9_steps_57 : decode cX9_steps 57 = .ok (.iand, 1) := by decide +kernel
theorem dX9_steps_58 : decode cX9_steps 58 = .ok (.iadd, 1) := by decide +kernel
theorem dX9_steps_59 : decode cX9_steps 59 = .ok (.istore 4, 2) := by decide +kernel
theorem dX9_steps_61 : decode cX9_steps 61 = .ok (.iinc 5 1, 3) := by decide +kernel
theorem dX9_steps_64 : decode cX9_steps 64 = .ok (.goto (-26), 3) := by decide +kernel
theorem dX9_steps_67 : decode cX9_steps 67 = .ok (.iload 4, 2) := by decide +kernel
theorem dX9_steps_69 : decode cX9_steps 69 = .ok (.ireturn, 1) := by decide +kernel
set_option maxRecDepth 20000 in
theorem ggX9_meetings_X9_good : GoodIn wsX9_meetings wsX9_good := goodIn_r _ [6, 7, 8, 89, 90, 91, 92, 93, 94, 95, 96, 97, 98, 99, 100, 101, 102, 103, 104, 105, 106, 107, 108, 109, 110, 111, 112, 113, 114, 115, 116, 117] (by decide +kernel) (by decide +kernel)
set_option maxRecDepth 20000 in
theorem gX9_meetings_X9_good : GoodIn wsX9_meetings (wsV RX9 153 RX9 yX9_good wsX9_good) := goodIn_app (goodIn_of _ (by decide +kernel)) ggX9_meetings_X9_good
set_option maxRecDepth 20000 in
theorem ggX9_meetings_X9_areTwo : GoodIn wsX9_meetings wsX9_areTwo := goodIn_r _ [12, 13, 14, 15, 5, 16, 17, 18, 19, 20, 21, 89, 90, 91, 92, 93, 94, 95, 96, 97, 98, 99, 100, 101, 102, 103, 104, 105, 106, 107, 108, 109, 110, 111, 112, 113, 114, 115, 116, 117] (by decide +kernel) (by decide +kernel)
set_option maxRecDepth 20000 in
theorem gX9_meetings_X9_areTwo : GoodIn wsX9_meetings (wsV RX9 305 RX9 yX9_areTwo wsX9_areTwo) := goodIn_app (goodIn_of _ (by decide +kernel)) ggX9_meetings_X9_areTwo
set_option maxRecDepth 20000 in
theorem ggX9_meetings_X9_why : GoodIn wsX9_meetings wsX9_why := goodIn_r _ [25, 19, 20, 5, 21] (by decide +kernel) (by decide +kernel)
set_option maxRecDepth 20000 in
theorem gX9_meetings_X9_why : GoodIn wsX9_meetings (wsV RX9 292 RX9 yX9_why wsX9_why) := goodIn_app (goodIn_of _ (by decide +kernel)) ggX9_meetings_X9_why
set_option maxRecDepth 20000 in
theorem ggX9_meetings_X9_no : GoodIn wsX9_meetings wsX9_no := goodIn_r _ [29, 8, 89, 90, 91, 92, 93, 94, 95, 96, 97, 98, 99, 100, 101, 102, 103, 104, 105, 106, 107, 108, 109, 110, 111, 112, 113, 114, 115, 116, 117] (by decide +kernel) (by decide +kernel)
set_option maxRecDepth 20000 in
theorem gX9_meetings_X9_no : GoodIn wsX9_meetings (wsV RX9 156 RX9 yX9_no wsX9_no) := goodIn_app (goodIn_of _ (by decide +kernel)) ggX9_meetings_X9_no
set_option maxRecDepth 20000 in
theorem ggX9_meetings_X9_begin : GoodIn wsX9_meetings wsX9_begin := goodIn_r _ [33, 34, 1, 35, 36, 5, 37, 89, 90, 91, 92, 93, 94, 95, 96, 97, 98, 99, 100, 101, 102, 103, 104, 105, 106, 107, 108, 109, 110, 111, 112, 113, 114, 115, 116, 117] (by decide +kernel) (by decide +kernel)
set_option maxRecDepth 20000 in
theorem gX9_meetings_X9_begin : GoodIn wsX9_meetings (wsV RX9 296 RX9 yX9_begin wsX9_begin) := goodIn_app (goodIn_of _ (by decide +kernel)) ggX9_meetings_X9_begin
set_option maxRecDepth 20000 in
theorem ggX9_meetings_X9_nightOf : GoodIn wsX9_meetings wsX9_nightOf := goodIn_r _ [41, 42, 43, 44, 5, 45, 46, 47, 48, 49, 18, 50, 51, 52, 53, 54, 55, 56, 57, 58, 59, 60, 61, 62, 63, 64, 65, 66, 67, 68, 69, 70, 71, 72, 73, 74, 75, 76, 77, 78, 79, 80, 81, 82, 83, 84, 89, 90, 91, 92, 93, 94, 95, 96, 97, 98, 99, 100, 101, 102, 103, 104, 105, 106, 107, 108, 109, 110, 111, 112, 113, 114, 115, 116, 117] (by decide +kernel) (by decide +kernel)
set_option maxRecDepth 20000 in
theorem gX9_meetings_X9_nightOf : GoodIn wsX9_meetings (wsV RX9 299 RX9 yX9_nightOf wsX9_nightOf) := goodIn_app (goodIn_of _ (by decide +kernel)) ggX9_meetings_X9_nightOf
set_option maxRecDepth 20000 in
theorem ggX9_meetings_X9_areDoored : GoodIn wsX9_meetings wsX9_areDoored := goodIn_r _ [88, 18, 89, 90, 91, 92, 93, 94, 95, 96, 97, 98, 99, 100, 101, 102, 103, 104, 105, 106, 107, 108, 109, 110, 111, 112, 113, 114, 115, 116, 117] (by decide +kernel) (by decide +kernel)
set_option maxRecDepth 20000 in
theorem gX9_meetings_X9_areDoored : GoodIn wsX9_meetings (wsV RX9 289 RX9 yX9_areDoored wsX9_areDoored) := goodIn_app (goodIn_of _ (by decide +kernel)) ggX9_meetings_X9_areDoored
theorem dX9_meetings_0 : decode cX9_meetings 0 = .ok (.aload_n 0, 1) := by decide +kernel
theorem dX9_meetings_1 : decode cX9_meetings 1 = .ok (.invokevirtual 153, 3) := by decide +kernel
theorem dX9_meetings_4 : decode cX9_meetings 4 = .ok (.aload_n 0, 1) := by decide +kernel
theorem dX9_meetings_5 : decode cX9_meetings 5 = .ok (.aload_n 0, 1) := by decide +kernel
theorem dX9_meetings_6 : decode cX9_meetings 6 = .ok (.iload_n 1, 1) := by decide +kernel
theorem dX9_meetings_7 : decode cX9_meetings 7 = .ok (.iload_n 2, 1) := by decide +kernel
theorem dX9_meetings_8 : decode cX9_meetings 8 = .ok (.invokevirtual 305, 3) := by decide +kernel
theorem dX9_meetings_11 : decode cX9_meetings 11 = .ok (.iload_n 3, 1) := by decide +kernel
theorem dX9_meetings_12 : decode cX9_meetings 12 = .ok (.sipush 200, 3) := by decide +kernel
theorem dX9_meetings_15 : decode cX9_meetings 15 = .ok (.invokevirtual 292, 3) := by decide +kernel
theorem dX9_meetings_18 : decode cX9_meetings 18 = .ok (.istore 4, 2) := by decide +kernel
theorem dX9_meetings_20 : decode cX9_meetings 20 = .ok (.iload 4, 2) := by decide +kernel
theorem dX9_meetings_22 : decode cX9_meetings 22 = .ok (.ifCond .eq 10, 3) := by decide +kernel
theorem dX9_meetings_25 : decode cX9_meetings 25 = .ok (.aload_n 0, 1) := by decide +kernel
theorem dX9_meetings_26 : decode cX9_meetings 26 = .ok (.iload 4, 2) := by decide +kernel
theorem dX9_meetings_28 : decode cX9_meetings 28 = .ok (.invokevirtual 156, 3) := by decide +kernel
theorem dX9_meetings_31 : decode cX9_meetings 31 = .ok (.ireturn, 1) := by decide +kernel
theorem dX9_meetings_32 : decode cX9_meetings 32 = .ok (.aload_n 0, 1) := by decide +kernel
theorem dX9_meetings_33 : decode cX9_meetings 33 = .ok (.invokevirtual 296, 3) := by decide +kernel
theorem dX9_meetings_36 : decode cX9_meetings 36 = .ok (.iconst 0, 1) := by decide +kernel
theorem dX9_meetings_37 : decode cX9_meetings 37 = .ok (.istore 5, 2) := by decide +kernel
theorem dX9_meetings_39 : decode cX9_meetings 39 = .ok (.iconst 0, 1) := by decide +kernel
theorem dX9_meetings_40 : decode cX9_meetings 40 = .ok (.istore 6, 2) := by decide +kernel
theorem dX9_meetings_42 : decode cX9_meetings 42 = .ok (.iload 6, 2) := by decide +kernel
theorem dX9_meetings_44 : decode cX9_meetings 44 = .ok (.iload_n 3, 1) := by decide +kernel
theorem dX9_meetings_45 : decode cX9_meetings 45 = .ok (.if_icmp .ge 47, 3) := by decide +kernel
theorem dX9_meetings_48 : decode cX9_meetings 48 = .ok (.aload_n 0, 1) := by decide +kernel
theorem dX9_meetings_49 : decode cX9_meetings 49 = .ok (.aload_n 0, 1) := by decide +kernel
theorem dX9_meetings_50 : decode cX9_meetings 50 = .ok (.getfield 35, 3) := by decide +kernel
theorem dX9_meetings_53 : decode cX9_meetings 53 = .ok (.invokevirtual 299, 3) := by decide +kernel
theorem dX9_meetings_56 : decode cX9_meetings 56 = .ok (.pop, 1) := by decide +kernel
theorem dX9_meetings_57 : decode cX9_meetings 57 = .ok (.iload 5, 2) := by decide +kernel
theorem dX9_meetings_59 : decode cX9_meetings 59 = .ok (.aload_n 0, 1) := by decide +kernel
theorem dX9_meetings_60 : decode cX9_meetings 60 = .ok (.aload_n 0, 1) := by decide +kernel
theorem dX9_meetings_61 : decode cX9_meetings 61 = .ok (.getfield 35, 3) := by decide +kernel
theorem dX9_meetings_64 : decode cX9_meetings 64 = .ok (.iload_n 1, 1) := by decide +kernel
theorem dX9_meetings_65 : decode cX9_meetings 65 = .ok (.iaload, 1) := by decide +kernel
theorem dX9_meetings_66 : decode cX9_meetings 66 = .ok (.aload_n 0, 1) := by decide +kernel
theorem dX9_meetings_67 : decode cX9_meetings 67 = .ok (.getfield 35, 3) := by decide +kernel
theorem dX9_meetings_70 : decode cX9_meetings 70 = .ok (.iload_n 2, 1) := by decide +kernel
theorem dX9_meetings_71 : decode cX9_meetings 71 = .ok (.iaload, 1) := by decide +kernel
theorem dX9_meetings_72 : decode cX9_meetings 72 = .ok (.invokevirtual 289, 3) := by decide +kernel
theorem dX9_meetings_75 : decode cX9_meetings 75 = .ok (.ifCond .eq 7, 3) := by decide +kernel
theorem dX9_meetings_78 : decode cX9_meetings 78 = .ok (.iconst 1, 1) := by decide +kernel
theorem dX9_meetings_79 : decode cX9_meetings 79 = .ok (.goto 4, 3) := by decide +kernel
theorem dX9_meetings_82 : decode cX9_meetings 82 = .ok (.iconst 0, 1) := by decide +kernel
theorem dX9_meetings_83 : decode cX9_meetings 83 = .ok (.iadd, 1) := by decide +kernel
theorem dX9_meetings_84 : decode cX9_meetings 84 = .ok (.istore 5, 2) := by decide +kernel
theorem dX9_meetings_86 : decode cX9_meetings 86 = .ok (.iinc 6 1, 3) := by decide +kernel
theorem dX9_meetings_89 : decode cX9_meetings 89 = .ok (.goto (-47), 3) := by decide +kernel
theorem dX9_meetings_92 : decode cX9_meetings 92 = .ok (.iload 5, 2) := by decide +kernel
theorem dX9_meetings_94 : decode cX9_meetings 94 = .ok (.ireturn, 1) := by decide +kernel
set_option maxRecDepth 20000 in
theorem ggX9_goneBy_X9_begin : GoodIn wsX9_goneBy wsX9_begin := goodIn_r _ [6, 7, 1, 8, 9, 5, 10, 62, 63, 64, 65, 66, 67, 68, 69, 70, 71, 72, 73, 74, 75, 76, 77, 78, 79, 80, 81, 82, 83, 84, 85, 86, 87, 88, 89, 90] (by decide +kernel) (by decide +kernel)
set_option maxRecDepth 20000 in
theorem gX9_goneBy_X9_begin : GoodIn wsX9_goneBy (wsV RX9 296 RX9 yX9_begin wsX9_begin) := goodIn_app (goodIn_of _ (by decide +kernel)) ggX9_goneBy_X9_begin
set_option maxRecDepth 20000 in
theorem ggX9_goneBy_X9_nightOf : GoodIn wsX9_goneBy wsX9_nightOf := goodIn_r _ [14, 15, 16, 17, 5, 18, 19, 20, 21, 22, 23, 24, 25, 26, 27, 28, 29, 30, 31, 32, 33, 34, 35, 36, 37, 38, 39, 40, 41, 42, 43, 44, 45, 46, 47, 48, 49, 50, 51, 52, 53, 54, 55, 56, 57, 58, 62, 63, 64, 65, 66, 67, 68, 69, 70, 71, 72, 73, 74, 75, 76, 77, 78, 79, 80, 81, 82, 83, 84, 85, 86, 87, 88, 89, 90] (by decide +kernel) (by decide +kernel)
set_option maxRecDepth 20000 in
theorem gX9_goneBy_X9_nightOf : GoodIn wsX9_goneBy (wsV RX9 299 RX9 yX9_nightOf wsX9_nightOf) := goodIn_app (goodIn_of _ (by decide +kernel)) ggX9_goneBy_X9_nightOf
set_option maxRecDepth 20000 in
theorem ggX9_goneBy_X9_ones : GoodIn wsX9_goneBy wsX9_ones := goodIn_r _ [61] (by decide +kernel) (by decide +kernel)
set_option maxRecDepth 20000 in
theorem gX9_goneBy_X9_ones : GoodIn wsX9_goneBy (va_wsS RX9 280 yX9_ones wsX9_ones) := goodIn_app (goodIn_of _ (by decide +kernel)) ggX9_goneBy_X9_ones
theorem dX9_goneBy_0 : decode cX9_goneBy 0 = .ok (.aload_n 0, 1) := by decide +kernel
theorem dX9_goneBy_1 : decode cX9_goneBy 1 = .ok (.invokevirtual 296, 3) := by decide +kernel
theorem dX9_goneBy_4 : decode cX9_goneBy 4 = .ok (.aload_n 0, 1) := by decide +kernel
theorem dX9_goneBy_5 : decode cX9_goneBy 5 = .ok (.getfield 35, 3) := by decide +kernel
theorem dX9_goneBy_8 : decode cX9_goneBy 8 = .ok (.bipush 7, 2) := by decide +kernel
theorem dX9_goneBy_10 : decode cX9_goneBy 10 = .ok (.dup2, 1) := by decide +kernel
theorem dX9_goneBy_11 : decode cX9_goneBy 11 = .ok (.iaload, 1) := by decide +kernel
theorem dX9_goneBy_12 : decode cX9_goneBy 12 = .ok (.iload_n 1, 1) := by decide +kernel
theorem dX9_goneBy_13 : decode cX9_goneBy 13 = .ok (.ior, 1) := by decide +kernel
theorem dX9_goneBy_14 : decode cX9_goneBy 14 = .ok (.iastore, 1) := by decide +kernel
theorem dX9_goneBy_15 : decode cX9_goneBy 15 = .ok (.iconst 0, 1) := by decide +kernel
theorem dX9_goneBy_16 : decode cX9_goneBy 16 = .ok (.istore_n 3, 1) := by decide +kernel
theorem dX9_goneBy_17 : decode cX9_goneBy 17 = .ok (.iconst 0, 1) := by decide +kernel
theorem dX9_goneBy_18 : decode cX9_goneBy 18 = .ok (.istore 4, 2) := by decide +kernel
theorem dX9_goneBy_20 : decode cX9_goneBy 20 = .ok (.iload 4, 2) := by decide +kernel
theorem dX9_goneBy_22 : decode cX9_goneBy 22 = .ok (.iload_n 2, 1) := by decide +kernel
theorem dX9_goneBy_23 : decode cX9_goneBy 23 = .ok (.if_icmp .ge 23, 3) := by decide +kernel
theorem dX9_goneBy_26 : decode cX9_goneBy 26 = .ok (.iload_n 3, 1) := by decide +kernel
theorem dX9_goneBy_27 : decode cX9_goneBy 27 = .ok (.aload_n 0, 1) := by decide +kernel
theorem dX9_goneBy_28 : decode cX9_goneBy 28 = .ok (.aload_n 0, 1) := by decide +kernel
theorem dX9_goneBy_29 : decode cX9_goneBy 29 = .ok (.getfield 35, 3) := by decide +kernel
theorem dX9_goneBy_32 : decode cX9_goneBy 32 = .ok (.invokevirtual 299, 3) := by decide +kernel
theorem dX9_goneBy_35 : decode cX9_goneBy 35 = .ok (.invokestatic 280, 3) := by decide +kernel
theorem dX9_goneBy_38 : decode cX9_goneBy 38 = .ok (.iadd, 1) := by decide +kernel
theorem dX9_goneBy_39 : decode cX9_goneBy 39 = .ok (.istore_n 3, 1) := by decide +kernel
theorem dX9_goneBy_40 : decode cX9_goneBy 40 = .ok (.iinc 4 1, 3) := by decide +kernel
theorem dX9_goneBy_43 : decode cX9_goneBy 43 = .ok (.goto (-23), 3) := by decide +kernel
theorem dX9_goneBy_46 : decode cX9_goneBy 46 = .ok (.iload_n 3, 1) := by decide +kernel
theorem dX9_goneBy_47 : decode cX9_goneBy 47 = .ok (.ireturn, 1) := by decide +kernel
set_option maxRecDepth 20000 in
theorem ggX9_mostMeet_X9_good : GoodIn wsX9_mostMeet wsX9_good := goodIn_r _ [9, 10, 11, 75, 76, 77, 78, 79, 80, 81, 82, 83, 84, 85, 86, 87, 88, 89, 90, 91, 92, 93, 94, 95, 96, 97, 98, 99, 100, 101, 102, 103] (by decide +kernel) (by decide +kernel)
set_option maxRecDepth 20000 in
theorem gX9_mostMeet_X9_good : GoodIn wsX9_mostMeet (wsV RX9 153 RX9 yX9_good wsX9_good) := goodIn_app (goodIn_of _ (by decide +kernel)) ggX9_mostMeet_X9_good
set_option maxRecDepth 20000 in
theorem ggX9_mostMeet_X9_no : GoodIn wsX9_mostMeet wsX9_no := goodIn_r _ [15, 11, 75, 76, 77, 78, 79, 80, 81, 82, 83, 84, 85, 86, 87, 88, 89, 90, 91, 92, 93, 94, 95, 96, 97, 98, 99, 100, 101, 102, 103] (by decide +kernel) (by decide +kernel)
set_option maxRecDepth 20000 in
theorem gX9_mostMeet_X9_no : GoodIn wsX9_mostMeet (wsV RX9 156 RX9 yX9_no wsX9_no) := goodIn_app (goodIn_of _ (by decide +kernel)) ggX9_mostMeet_X9_no
set_option maxRecDepth 20000 in
theorem ggX9_mostMeet_X9_begin : GoodIn wsX9_mostMeet wsX9_begin := goodIn_r _ [19, 20, 3, 21, 22, 8, 23, 75, 76, 77, 78, 79, 80, 81, 82, 83, 84, 85, 86, 87, 88, 89, 90, 91, 92, 93, 94, 95, 96, 97, 98, 99, 100, 101, 102, 103] (by decide +kernel) (by decide +kernel)
set_option maxRecDepth 20000 in
theorem gX9_mostMeet_X9_begin : GoodIn wsX9_mostMeet (wsV RX9 296 RX9 yX9_begin wsX9_begin) := goodIn_app (goodIn_of _ (by decide +kernel)) ggX9_mostMeet_X9_begin
set_option maxRecDepth 20000 in
theorem ggX9_mostMeet_X9_nightOf : GoodIn wsX9_mostMeet wsX9_nightOf := goodIn_r _ [27, 28, 29, 30, 8, 31, 32, 33, 34, 35, 4, 36, 37, 38, 39, 40, 41, 42, 43, 44, 45, 46, 47, 48, 49, 50, 51, 52, 53, 54, 55, 56, 57, 58, 59, 60, 61, 62, 63, 64, 65, 66, 67, 68, 69, 70, 75, 76, 77, 78, 79, 80, 81, 82, 83, 84, 85, 86, 87, 88, 89, 90, 91, 92, 93, 94, 95, 96, 97, 98, 99, 100, 101, 102, 103] (by decide +kernel) (by decide +kernel)
set_option maxRecDepth 20000 in
theorem gX9_mostMeet_X9_nightOf : GoodIn wsX9_mostMeet (wsV RX9 299 RX9 yX9_nightOf wsX9_nightOf) := goodIn_app (goodIn_of _ (by decide +kernel)) ggX9_mostMeet_X9_nightOf
set_option maxRecDepth 20000 in
theorem ggX9_mostMeet_X9_areDoored : GoodIn wsX9_mostMeet wsX9_areDoored := goodIn_r _ [74, 4, 75, 76, 77, 78, 79, 80, 81, 82, 83, 84, 85, 86, 87, 88, 89, 90, 91, 92, 93, 94, 95, 96, 97, 98, 99, 100, 101, 102, 103] (by decide +kernel) (by decide +kernel)
set_option maxRecDepth 20000 in
theorem gX9_mostMeet_X9_areDoored : GoodIn wsX9_mostMeet (wsV RX9 289 RX9 yX9_areDoored wsX9_areDoored) := goodIn_app (goodIn_of _ (by decide +kernel)) ggX9_mostMeet_X9_areDoored
theorem dX9_mostMeet_0 : decode cX9_mostMeet 0 = .ok (.aload_n 0, 1) := by decide +kernel
theorem dX9_mostMeet_1 : decode cX9_mostMeet 1 = .ok (.invokevirtual 153, 3) := by decide +kernel
theorem dX9_mostMeet_4 : decode cX9_mostMeet 4 = .ok (.aload_n 0, 1) := by decide +kernel
theorem dX9_mostMeet_5 : decode cX9_mostMeet 5 = .ok (.getfield 166, 3) := by decide +kernel
theorem dX9_mostMeet_8 : decode cX9_mostMeet 8 = .ok (.ifCond .ne 9, 3) := by decide +kernel
theorem dX9_mostMeet_11 : decode cX9_mostMeet 11 = .ok (.aload_n 0, 1) := by decide +kernel
theorem dX9_mostMeet_12 : decode cX9_mostMeet 12 = .ok (.iconst 1, 1) := by decide +kernel
theorem dX9_mostMeet_13 : decode cX9_mostMeet 13 = .ok (.invokevirtual 156, 3) := by decide +kernel
theorem dX9_mostMeet_16 : decode cX9_mostMeet 16 = .ok (.ireturn, 1) := by decide +kernel
theorem dX9_mostMeet_17 : decode cX9_mostMeet 17 = .ok (.iconst 0, 1) := by decide +kernel
theorem dX9_mostMeet_18 : decode cX9_mostMeet 18 = .ok (.istore_n 1, 1) := by decide +kernel
theorem dX9_mostMeet_19 : decode cX9_mostMeet 19 = .ok (.iload_n 1, 1) := by decide +kernel
theorem dX9_mostMeet_20 : decode cX9_mostMeet 20 = .ok (.bipush 49, 2) := by decide +kernel
theorem dX9_mostMeet_22 : decode cX9_mostMeet 22 = .ok (.if_icmp .ge 16, 3) := by decide +kernel
theorem dX9_mostMeet_25 : decode cX9_mostMeet 25 = .ok (.aload_n 0, 1) := by decide +kernel
theorem dX9_mostMeet_26 : decode cX9_mostMeet 26 = .ok (.getfield 38, 3) := by decide +kernel
theorem dX9_mostMeet_29 : decode cX9_mostMeet 29 = .ok (.iload_n 1, 1) := by decide +kernel
theorem dX9_mostMeet_30 : decode cX9_mostMeet 30 = .ok (.iconst 0, 1) := by decide +kernel
theorem dX9_mostMeet_31 : decode cX9_mostMeet 31 = .ok (.iastore, 1) := by decide +kernel
theorem dX9_mostMeet_32 : decode cX9_mostMeet 32 = .ok (.iinc 1 1, 3) := by decide +kernel
theorem dX9_mostMeet_35 : decode cX9_mostMeet 35 = .ok (.goto (-16), 3) := by decide +kernel
theorem dX9_mostMeet_38 : decode cX9_mostMeet 38 = .ok (.aload_n 0, 1) := by decide +kernel
theorem dX9_mostMeet_39 : decode cX9_mostMeet 39 = .ok (.invokevirtual 296, 3) := by decide +kernel
theorem dX9_mostMeet_42 : decode cX9_mostMeet 42 = .ok (.iconst 0, 1) := by decide +kernel
theorem dX9_mostMeet_43 : decode cX9_mostMeet 43 = .ok (.istore_n 1, 1) := by decide +kernel
theorem dX9_mostMeet_44 : decode cX9_mostMeet 44 = .ok (.iload_n 1, 1) := by decide +kernel
theorem dX9_mostMeet_45 : decode cX9_mostMeet 45 = .ok (.bipush 60, 2) := by decide +kernel
theorem dX9_mostMeet_47 : decode cX9_mostMeet 47 = .ok (.if_icmp .ge 94, 3) := by decide +kernel
theorem dX9_mostMeet_50 : decode cX9_mostMeet 50 = .ok (.aload_n 0, 1) := by decide +kernel
theorem dX9_mostMeet_51 : decode cX9_mostMeet 51 = .ok (.aload_n 0, 1) := by decide +kernel
theorem dX9_mostMeet_52 : decode cX9_mostMeet 52 = .ok (.getfield 35, 3) := by decide +kernel
theorem dX9_mostMeet_55 : decode cX9_mostMeet 55 = .ok (.invokevirtual 299, 3) := by decide +kernel
theorem dX9_mostMeet_58 : decode cX9_mostMeet 58 = .ok (.pop, 1) := by decide +kernel
theorem dX9_mostMeet_59 : decode cX9_mostMeet 59 = .ok (.iconst 0, 1) := by decide +kernel
theorem dX9_mostMeet_60 : decode cX9_mostMeet 60 = .ok (.istore_n 2, 1) := by decide +kernel
theorem dX9_mostMeet_61 : decode cX9_mostMeet 61 = .ok (.iload_n 2, 1) := by decide +kernel
theorem dX9_mostMeet_62 : decode cX9_mostMeet 62 = .ok (.aload_n 0, 1) := by decide +kernel
theorem dX9_mostMeet_63 : decode cX9_mostMeet 63 = .ok (.getfield 20, 3) := by decide +kernel
theorem dX9_mostMeet_66 : decode cX9_mostMeet 66 = .ok (.iconst 3, 1) := by decide +kernel
theorem dX9_mostMeet_67 : decode cX9_mostMeet 67 = .ok (.iaload, 1) := by decide +kernel
theorem dX9_mostMeet_68 : decode cX9_mostMeet 68 = .ok (.if_icmp .ge 67, 3) := by decide +kernel
theorem dX9_mostMeet_71 : decode cX9_mostMeet 71 = .ok (.iload_n 2, 1) := by decide +kernel
theorem dX9_mostMeet_72 : decode cX9_mostMeet 72 = .ok (.iconst 1, 1) := by decide +kernel
theorem dX9_mostMeet_73 : decode cX9_mostMeet 73 = .ok (.iadd, 1) := by decide +kernel
theorem dX9_mostMeet_74 : decode cX9_mostMeet 74 = .ok (.istore_n 3, 1) := by decide +kernel
theorem dX9_mostMeet_75 : decode cX9_mostMeet 75 = .ok (.iload_n 3, 1) := by decide +kernel
theorem dX9_mostMeet_76 : decode cX9_mostMeet 76 = .ok (.aload_n 0, 1) := by decide +kernel
theorem dX9_mostMeet_77 : decode cX9_mostMeet 77 = .ok (.getfield 20, 3) := by decide +kernel
theorem dX9_mostMeet_80 : decode cX9_mostMeet 80 = .ok (.iconst 3, 1) := by decide +kernel
theorem dX9_mostMeet_81 : decode cX9_mostMeet 81 = .ok (.iaload, 1) := by decide +kernel
theorem dX9_mostMeet_82 : decode cX9_mostMeet 82 = .ok (.if_icmp .ge 47, 3) := by decide +kernel
theorem dX9_mostMeet_85 : decode cX9_mostMeet 85 = .ok (.aload_n 0, 1) := by decide +kernel
theorem dX9_mostMeet_86 : decode cX9_mostMeet 86 = .ok (.getfield 38, 3) := by decide +kernel
theorem dX9_mostMeet_89 : decode cX9_mostMeet 89 = .ok (.bipush 7, 2) := by decide +kernel
theorem dX9_mostMeet_91 : decode cX9_mostMeet 91 = .ok (.iload_n 2, 1) := by decide +kernel
theorem dX9_mostMeet_92 : decode cX9_mostMeet 92 = .ok (.imul, 1) := by decide +kernel
theorem dX9_mostMeet_93 : decode cX9_mostMeet 93 = .ok (.iload_n 3, 1) := by decide +kernel
theorem dX9_mostMeet_94 : decode cX9_mostMeet 94 = .ok (.iadd, 1) := by decide +kernel
theorem dX9_mostMeet_95 : decode cX9_mostMeet 95 = .ok (.dup2, 1) := by decide +kernel
theorem dX9_mostMeet_96 : decode cX9_mostMeet 96 = .ok (.iaload, 1) := by decide +kernel
theorem dX9_mostMeet_97 : decode cX9_mostMeet 97 = .ok (.aload_n 0, 1) := by decide +kernel
theorem dX9_mostMeet_98 : decode cX9_mostMeet 98 = .ok (.aload_n 0, 1) := by decide +kernel
theorem dX9_mostMeet_99 : decode cX9_mostMeet 99 = .ok (.getfield 35, 3) := by decide +kernel
theorem dX9_mostMeet_102 : decode cX9_mostMeet 102 = .ok (.iload_n 2, 1) := by decide +kernel
theorem dX9_mostMeet_103 : decode cX9_mostMeet 103 = .ok (.iaload, 1) := by decide +kernel
theorem dX9_mostMeet_104 : decode cX9_mostMeet 104 = .ok (.aload_n 0, 1) := by decide +kernel
theorem dX9_mostMeet_105 : decode cX9_mostMeet 105 = .ok (.getfield 35, 3) := by decide +kernel
theorem dX9_mostMeet_108 : decode cX9_mostMeet 108 = .ok (.iload_n 3, 1) := by decide +kernel
theorem dX9_mostMeet_109 : decode cX9_mostMeet 109 = .ok (.iaload, 1) := by decide +kernel
theorem dX9_mostMeet_110 : decode cX9_mostMeet 110 = .ok (.invokevirtual 289, 3) := by decide +kernel
theorem dX9_mostMeet_113 : decode cX9_mostMeet 113 = .ok (.ifCond .eq 7, 3) := by decide +kernel
theorem dX9_mostMeet_116 : decode cX9_mostMeet 116 = .ok (.iconst 1, 1) := by decide +kernel
theorem dX9_mostMeet_117 : decode cX9_mostMeet 117 = .ok (.goto 4, 3) := by decide +kernel
theorem dX9_mostMeet_120 : decode cX9_mostMeet 120 = .ok (.iconst 0, 1) := by decide +kernel
theorem dX9_mostMeet_121 : decode cX9_mostMeet 121 = .ok (.iadd, 1) := by decide +kernel
theorem dX9_mostMeet_122 : decode cX9_mostMeet 122 = .ok (.iastore, 1) := by decide +kernel
theorem dX9_mostMeet_123 : decode cX9_mostMeet 123 = .ok (.iinc 3 1, 3) := by decide +kernel
theorem dX9_mostMeet_126 : decode cX9_mostMeet 126 = .ok (.goto (-51), 3) := by decide +kernel
theorem dX9_mostMeet_129 : decode cX9_mostMeet 129 = .ok (.iinc 2 1, 3) := by decide +kernel
theorem dX9_mostMeet_132 : decode cX9_mostMeet 132 = .ok (.goto (-71), 3) := by decide +kernel
theorem dX9_mostMeet_135 : decode cX9_mostMeet 135 = .ok (.iinc 1 1, 3) := by decide +kernel
theorem dX9_mostMeet_138 : decode cX9_mostMeet 138 = .ok (.goto (-94), 3) := by decide +kernel
theorem dX9_mostMeet_141 : decode cX9_mostMeet 141 = .ok (.bipush (-2), 2) := by decide +kernel
theorem dX9_mostMeet_143 : decode cX9_mostMeet 143 = .ok (.istore_n 1, 1) := by decide +kernel
theorem dX9_mostMeet_144 : decode cX9_mostMeet 144 = .ok (.iconst 0, 1) := by decide +kernel
theorem dX9_mostMeet_145 : decode cX9_mostMeet 145 = .ok (.istore_n 2, 1) := by decide +kernel
theorem dX9_mostMeet_146 : decode cX9_mostMeet 146 = .ok (.iconst 0, 1) := by decide +kernel
theorem dX9_mostMeet_147 : decode cX9_mostMeet 147 = .ok (.istore_n 3, 1) := by decide +kernel
theorem dX9_mostMeet_148 : decode cX9_mostMeet 148 = .ok (.iload_n 3, 1) := by decide +kernel
theorem dX9_mostMeet_149 : decode cX9_mostMeet 149 = .ok (.bipush 49, 2) := by decide +kernel
theorem dX9_mostMeet_151 : decode cX9_mostMeet 151 = .ok (.if_icmp .ge 42, 3) := by decide +kernel
theorem dX9_mostMeet_154 : decode cX9_mostMeet 154 = .ok (.aload_n 0, 1) := by decide +kernel
theorem dX9_mostMeet_155 : decode cX9_mostMeet 155 = .ok (.getfield 38, 3) := by decide +kernel
theorem dX9_mostMeet_158 : decode cX9_mostMeet 158 = .ok (.iload_n 3, 1) := by decide +kernel
theorem dX9_mostMeet_159 : decode cX9_mostMeet 159 = .ok (.iaload, 1) := by decide +kernel
theorem dX9_mostMeet_160 : decode cX9_mostMeet 160 = .ok (.iload_n 2, 1) := by decide +kernel
theorem dX9_mostMeet_161 : decode cX9_mostMeet 161 = .ok (.if_icmp .gt 6, 3) := by decide +kernel
theorem dX9_mostMeet_164 : decode cX9_mostMeet 164 = .ok (.goto 23, 3) := by decide +kernel
theorem dX9_mostMeet_167 : decode cX9_mostMeet 167 = .ok (.bipush 10, 2) := by decide +kernel
theorem dX9_mostMeet_169 : decode cX9_mostMeet 169 = .ok (.iload_n 3, 1) := by decide +kernel
theorem dX9_mostMeet_170 : decode cX9_mostMeet 170 = .ok (.bipush 7, 2) := by decide +kernel
theorem dX9_mostMeet_172 : decode cX9_mostMeet 172 = .ok (.idiv, 1) := by decide +kernel
theorem dX9_mostMeet_173 : decode cX9_mostMeet 173 = .ok (.imul, 1) := by decide +kernel
theorem dX9_mostMeet_174 : decode cX9_mostMeet 174 = .ok (.iload_n 3, 1) := by decide +kernel
theorem dX9_mostMeet_175 : decode cX9_mostMeet 175 = .ok (.bipush 7, 2) := by decide +kernel
theorem dX9_mostMeet_177 : decode cX9_mostMeet 177 = .ok (.irem, 1) := by decide +kernel
theorem dX9_mostMeet_178 : decode cX9_mostMeet 178 = .ok (.iadd, 1) := by decide +kernel
theorem dX9_mostMeet_179 : decode cX9_mostMeet 179 = .ok (.istore_n 1, 1) := by decide +kernel
theorem dX9_mostMeet_180 : decode cX9_mostMeet 180 = .ok (.aload_n 0, 1) := by decide +kernel
theorem dX9_mostMeet_181 : decode cX9_mostMeet 181 = .ok (.getfield 38, 3) := by decide +kernel
theorem dX9_mostMeet_184 : decode cX9_mostMeet 184 = .ok (.iload_n 3, 1) := by decide +kernel
theorem dX9_mostMeet_185 : decode cX9_mostMeet 185 = .ok (.iaload, 1) := by decide +kernel
theorem dX9_mostMeet_186 : decode cX9_mostMeet 186 = .ok (.istore_n 2, 1) := by decide +kernel
theorem dX9_mostMeet_187 : decode cX9_mostMeet 187 = .ok (.iinc 3 1, 3) := by decide +kernel
theorem dX9_mostMeet_190 : decode cX9_mostMeet 190 = .ok (.goto (-42), 3) := by decide +kernel
theorem dX9_mostMeet_193 : decode cX9_mostMeet 193 = .ok (.iload_n 1, 1) := by decide +kernel
theorem dX9_mostMeet_194 : decode cX9_mostMeet 194 = .ok (.ireturn, 1) := by decide +kernel
set_option maxRecDepth 20000 in
theorem ggX9_toWiden_X9_good : GoodIn wsX9_toWiden wsX9_good := goodIn_r _ [7, 8, 9, 80, 81, 82, 83, 84, 85, 86, 87, 88, 89, 90, 91, 92, 93, 94, 95, 96, 97, 98, 99, 100, 101, 102, 103, 104, 105, 106, 107, 108] (by decide +kernel) (by decide +kernel)
set_option maxRecDepth 20000 in
theorem gX9_toWiden_X9_good : GoodIn wsX9_toWiden (wsV RX9 153 RX9 yX9_good wsX9_good) := goodIn_app (goodIn_of _ (by decide +kernel)) ggX9_toWiden_X9_good
set_option maxRecDepth 20000 in
theorem ggX9_toWiden_X9_no : GoodIn wsX9_toWiden wsX9_no := goodIn_r _ [13, 9, 80, 81, 82, 83, 84, 85, 86, 87, 88, 89, 90, 91, 92, 93, 94, 95, 96, 97, 98, 99, 100, 101, 102, 103, 104, 105, 106, 107, 108] (by decide +kernel) (by decide +kernel)
set_option maxRecDepth 20000 in
theorem gX9_toWiden_X9_no : GoodIn wsX9_toWiden (wsV RX9 156 RX9 yX9_no wsX9_no) := goodIn_app (goodIn_of _ (by decide +kernel)) ggX9_toWiden_X9_no
set_option maxRecDepth 20000 in
theorem ggX9_toWiden_X9_goneBy : GoodIn wsX9_toWiden wsX9_goneBy := goodIn_r _ [17, 18, 19, 20, 21, 6, 22, 23, 24, 25, 26, 27, 28, 29, 30, 31, 32, 33, 34, 35, 36, 37, 38, 2, 39, 40, 41, 42, 43, 44, 45, 46, 47, 48, 49, 50, 51, 52, 53, 54, 55, 56, 57, 58, 59, 60, 61, 62, 63, 64, 65, 66, 67, 68, 69, 70, 71, 72, 73, 74, 75, 76, 80, 81, 82, 83, 84, 85, 86, 87, 88, 89, 90, 91, 92, 93, 94, 95, 96, 97, 98, 99, 100, 101, 102, 103, 104, 105, 106, 107, 108] (by decide +kernel) (by decide +kernel)
set_option maxRecDepth 20000 in
theorem gX9_toWiden_X9_goneBy : GoodIn wsX9_toWiden (wsV RX9 308 RX9 yX9_goneBy wsX9_goneBy) := goodIn_app (goodIn_of _ (by decide +kernel)) ggX9_toWiden_X9_goneBy
set_option maxRecDepth 20000 in
theorem ggX9_toWiden_X9_coded : GoodIn wsX9_toWiden wsX9_coded := goodIn_r _ [79] (by decide +kernel) (by decide +kernel)
set_option maxRecDepth 20000 in
theorem gX9_toWiden_X9_coded : GoodIn wsX9_toWiden (va_wsS RX9 302 yX9_coded wsX9_coded) := goodIn_app (goodIn_of _ (by decide +kernel)) ggX9_toWiden_X9_coded
theorem dX9_toWiden_0 : decode cX9_toWiden 0 = .ok (.aload_n 0, 1) := by decide +kernel
theorem dX9_toWiden_1 : decode cX9_toWiden 1 = .ok (.invokevirtual 153, 3) := by decide +kernel
theorem dX9_toWiden_4 : decode cX9_toWiden 4 = .ok (.aload_n 0, 1) := by decide +kernel
theorem dX9_toWiden_5 : decode cX9_toWiden 5 = .ok (.getfield 166, 3) := by decide +kernel
theorem dX9_toWiden_8 : decode cX9_toWiden 8 = .ok (.ifCond .ne 9, 3) := by decide +kernel
theorem dX9_toWiden_11 : decode cX9_toWiden 11 = .ok (.aload_n 0, 1) := by decide +kernel
theorem dX9_toWiden_12 : decode cX9_toWiden 12 = .ok (.iconst 1, 1) := by decide +kernel
theorem dX9_toWiden_13 : decode cX9_toWiden 13 = .ok (.invokevirtual 156, 3) := by decide +kernel
theorem dX9_toWiden_16 : decode cX9_toWiden 16 = .ok (.ireturn, 1) := by decide +kernel
theorem dX9_toWiden_17 : decode cX9_toWiden 17 = .ok (.bipush (-2), 2) := by decide +kernel
theorem dX9_toWiden_19 : decode cX9_toWiden 19 = .ok (.istore_n 1, 1) := by decide +kernel
theorem dX9_toWiden_20 : decode cX9_toWiden 20 = .ok (.aload_n 0, 1) := by decide +kernel
theorem dX9_toWiden_21 : decode cX9_toWiden 21 = .ok (.iconst 0, 1) := by decide +kernel
theorem dX9_toWiden_22 : decode cX9_toWiden 22 = .ok (.bipush 60, 2) := by decide +kernel
theorem dX9_toWiden_24 : decode cX9_toWiden 24 = .ok (.invokevirtual 308, 3) := by decide +kernel
theorem dX9_toWiden_27 : decode cX9_toWiden 27 = .ok (.istore_n 2, 1) := by decide +kernel
theorem dX9_toWiden_28 : decode cX9_toWiden 28 = .ok (.iconst 0, 1) := by decide +kernel
theorem dX9_toWiden_29 : decode cX9_toWiden 29 = .ok (.istore_n 3, 1) := by decide +kernel
theorem dX9_toWiden_30 : decode cX9_toWiden 30 = .ok (.iload_n 3, 1) := by decide +kernel
theorem dX9_toWiden_31 : decode cX9_toWiden 31 = .ok (.bipush 36, 2) := by decide +kernel
theorem dX9_toWiden_33 : decode cX9_toWiden 33 = .ok (.if_icmp .ge 75, 3) := by decide +kernel
theorem dX9_toWiden_36 : decode cX9_toWiden 36 = .ok (.aload_n 0, 1) := by decide +kernel
theorem dX9_toWiden_37 : decode cX9_toWiden 37 = .ok (.getfield 20, 3) := by decide +kernel
theorem dX9_toWiden_40 : decode cX9_toWiden 40 = .ok (.bipush 16, 2) := by decide +kernel
theorem dX9_toWiden_42 : decode cX9_toWiden 42 = .ok (.iload_n 3, 1) := by decide +kernel
theorem dX9_toWiden_43 : decode cX9_toWiden 43 = .ok (.iadd, 1) := by decide +kernel
theorem dX9_toWiden_44 : decode cX9_toWiden 44 = .ok (.iaload, 1) := by decide +kernel
theorem dX9_toWiden_45 : decode cX9_toWiden 45 = .ok (.istore 4, 2) := by decide +kernel
theorem dX9_toWiden_47 : decode cX9_toWiden 47 = .ok (.iload 4, 2) := by decide +kernel
theorem dX9_toWiden_49 : decode cX9_toWiden 49 = .ok (.ifCond .ne 6, 3) := by decide +kernel
theorem dX9_toWiden_52 : decode cX9_toWiden 52 = .ok (.goto 50, 3) := by decide +kernel
theorem dX9_toWiden_55 : decode cX9_toWiden 55 = .ok (.aload_n 0, 1) := by decide +kernel
theorem dX9_toWiden_56 : decode cX9_toWiden 56 = .ok (.getfield 20, 3) := by decide +kernel
theorem dX9_toWiden_59 : decode cX9_toWiden 59 = .ok (.bipush 16, 2) := by decide +kernel
theorem dX9_toWiden_61 : decode cX9_toWiden 61 = .ok (.iload_n 3, 1) := by decide +kernel
theorem dX9_toWiden_62 : decode cX9_toWiden 62 = .ok (.iadd, 1) := by decide +kernel
theorem dX9_toWiden_63 : decode cX9_toWiden 63 = .ok (.iconst 0, 1) := by decide +kernel
theorem dX9_toWiden_64 : decode cX9_toWiden 64 = .ok (.iastore, 1) := by decide +kernel
theorem dX9_toWiden_65 : decode cX9_toWiden 65 = .ok (.aload_n 0, 1) := by decide +kernel
theorem dX9_toWiden_66 : decode cX9_toWiden 66 = .ok (.iconst 0, 1) := by decide +kernel
theorem dX9_toWiden_67 : decode cX9_toWiden 67 = .ok (.bipush 60, 2) := by decide +kernel
theorem dX9_toWiden_69 : decode cX9_toWiden 69 = .ok (.invokevirtual 308, 3) := by decide +kernel
theorem dX9_toWiden_72 : decode cX9_toWiden 72 = .ok (.istore 5, 2) := by decide +kernel
theorem dX9_toWiden_74 : decode cX9_toWiden 74 = .ok (.aload_n 0, 1) := by decide +kernel
theorem dX9_toWiden_75 : decode cX9_toWiden 75 = .ok (.getfield 20, 3) := by decide +kernel
theorem dX9_toWiden_78 : decode cX9_toWiden 78 = .ok (.bipush 16, 2) := by decide +kernel
theorem dX9_toWiden_80 : decode cX9_toWiden 80 = .ok (.iload_n 3, 1) := by decide +kernel
theorem dX9_toWiden_81 : decode cX9_toWiden 81 = .ok (.iadd, 1) := by decide +kernel
theorem dX9_toWiden_82 : decode cX9_toWiden 82 = .ok (.iload 4, 2) := by decide +kernel
theorem dX9_toWiden_84 : decode cX9_toWiden 84 = .ok (.iastore, 1) := by decide +kernel
theorem dX9_toWiden_85 : decode cX9_toWiden 85 = .ok (.iload 5, 2) := by decide +kernel
theorem dX9_toWiden_87 : decode cX9_toWiden 87 = .ok (.iload_n 2, 1) := by decide +kernel
theorem dX9_toWiden_88 : decode cX9_toWiden 88 = .ok (.if_icmp .gt 6, 3) := by decide +kernel
theorem dX9_toWiden_91 : decode cX9_toWiden 91 = .ok (.goto 11, 3) := by decide +kernel
theorem dX9_toWiden_94 : decode cX9_toWiden 94 = .ok (.iload_n 3, 1) := by decide +kernel
theorem dX9_toWiden_95 : decode cX9_toWiden 95 = .ok (.invokestatic 302, 3) := by decide +kernel
theorem dX9_toWiden_98 : decode cX9_toWiden 98 = .ok (.istore_n 1, 1) := by decide +kernel
theorem dX9_toWiden_99 : decode cX9_toWiden 99 = .ok (.iload 5, 2) := by decide +kernel
theorem dX9_toWiden_101 : decode cX9_toWiden 101 = .ok (.istore_n 2, 1) := by decide +kernel
theorem dX9_toWiden_102 : decode cX9_toWiden 102 = .ok (.iinc 3 1, 3) := by decide +kernel
theorem dX9_toWiden_105 : decode cX9_toWiden 105 = .ok (.goto (-75), 3) := by decide +kernel
theorem dX9_toWiden_108 : decode cX9_toWiden 108 = .ok (.iload_n 1, 1) := by decide +kernel
theorem dX9_toWiden_109 : decode cX9_toWiden 109 = .ok (.ireturn, 1) := by decide +kernel
set_option maxRecDepth 20000 in
theorem ggX9_worstHeld_X9_good : GoodIn wsX9_worstHeld wsX9_good := goodIn_r _ [8, 9, 10, 85, 86, 87, 88, 89, 90, 91, 92, 93, 94, 95, 96, 97, 98, 99, 100, 101, 102, 103, 104, 105, 106, 107, 108, 109, 110, 111, 112, 113] (by decide +kernel) (by decide +kernel)
set_option maxRecDepth 20000 in
theorem gX9_worstHeld_X9_good : GoodIn wsX9_worstHeld (wsV RX9 153 RX9 yX9_good wsX9_good) := goodIn_app (goodIn_of _ (by decide +kernel)) ggX9_worstHeld_X9_good
set_option maxRecDepth 20000 in
theorem ggX9_worstHeld_X9_why : GoodIn wsX9_worstHeld wsX9_why := goodIn_r _ [14, 15, 16, 7, 17] (by decide +kernel) (by decide +kernel)
set_option maxRecDepth 20000 in
theorem gX9_worstHeld_X9_why : GoodIn wsX9_worstHeld (wsV RX9 292 RX9 yX9_why wsX9_why) := goodIn_app (goodIn_of _ (by decide +kernel)) ggX9_worstHeld_X9_why
set_option maxRecDepth 20000 in
theorem ggX9_worstHeld_X9_no : GoodIn wsX9_worstHeld wsX9_no := goodIn_r _ [21, 10, 85, 86, 87, 88, 89, 90, 91, 92, 93, 94, 95, 96, 97, 98, 99, 100, 101, 102, 103, 104, 105, 106, 107, 108, 109, 110, 111, 112, 113] (by decide +kernel) (by decide +kernel)
set_option maxRecDepth 20000 in
theorem gX9_worstHeld_X9_no : GoodIn wsX9_worstHeld (wsV RX9 156 RX9 yX9_no wsX9_no) := goodIn_app (goodIn_of _ (by decide +kernel)) ggX9_worstHeld_X9_no
set_option maxRecDepth 20000 in
theorem ggX9_worstHeld_X9_goneBy : GoodIn wsX9_worstHeld wsX9_goneBy := goodIn_r _ [25, 26, 27, 28, 29, 7, 30, 31, 32, 33, 34, 35, 36, 37, 38, 39, 40, 41, 42, 43, 44, 45, 46, 3, 47, 48, 49, 50, 51, 52, 53, 54, 55, 56, 57, 58, 59, 60, 61, 62, 63, 64, 65, 66, 67, 68, 69, 70, 71, 72, 73, 74, 75, 76, 77, 78, 79, 80, 81, 82, 83, 84, 85, 86, 87, 88, 89, 90, 91, 92, 93, 94, 95, 96, 97, 98, 99, 100, 101, 102, 103, 104, 105, 106, 107, 108, 109, 110, 111, 112, 113] (by decide +kernel) (by decide +kernel)
set_option maxRecDepth 20000 in
theorem gX9_worstHeld_X9_goneBy : GoodIn wsX9_worstHeld (wsV RX9 308 RX9 yX9_goneBy wsX9_goneBy) := goodIn_app (goodIn_of _ (by decide +kernel)) ggX9_worstHeld_X9_goneBy
theorem dX9_worstHeld_0 : decode cX9_worstHeld 0 = .ok (.aload_n 0, 1) := by decide +kernel
theorem dX9_worstHeld_1 : decode cX9_worstHeld 1 = .ok (.invokevirtual 153, 3) := by decide +kernel
theorem dX9_worstHeld_4 : decode cX9_worstHeld 4 = .ok (.aload_n 0, 1) := by decide +kernel
theorem dX9_worstHeld_5 : decode cX9_worstHeld 5 = .ok (.aload_n 0, 1) := by decide +kernel
theorem dX9_worstHeld_6 : decode cX9_worstHeld 6 = .ok (.getfield 166, 3) := by decide +kernel
theorem dX9_worstHeld_9 : decode cX9_worstHeld 9 = .ok (.iload_n 1, 1) := by decide +kernel
theorem dX9_worstHeld_10 : decode cX9_worstHeld 10 = .ok (.bipush 60, 2) := by decide +kernel
theorem dX9_worstHeld_12 : decode cX9_worstHeld 12 = .ok (.invokevirtual 292, 3) := by decide +kernel
theorem dX9_worstHeld_15 : decode cX9_worstHeld 15 = .ok (.istore_n 2, 1) := by decide +kernel
theorem dX9_worstHeld_16 : decode cX9_worstHeld 16 = .ok (.iload_n 2, 1) := by decide +kernel
theorem dX9_worstHeld_17 : decode cX9_worstHeld 17 = .ok (.ifCond .eq 9, 3) := by decide +kernel
theorem dX9_worstHeld_20 : decode cX9_worstHeld 20 = .ok (.aload_n 0, 1) := by decide +kernel
theorem dX9_worstHeld_21 : decode cX9_worstHeld 21 = .ok (.iload_n 2, 1) := by decide +kernel
theorem dX9_worstHeld_22 : decode cX9_worstHeld 22 = .ok (.invokevirtual 156, 3) := by decide +kernel
theorem dX9_worstHeld_25 : decode cX9_worstHeld 25 = .ok (.ireturn, 1) := by decide +kernel
theorem dX9_worstHeld_26 : decode cX9_worstHeld 26 = .ok (.bipush (-2), 2) := by decide +kernel
theorem dX9_worstHeld_28 : decode cX9_worstHeld 28 = .ok (.istore_n 3, 1) := by decide +kernel
theorem dX9_worstHeld_29 : decode cX9_worstHeld 29 = .ok (.ldc_w 311, 3) := by decide +kernel
theorem dX9_worstHeld_32 : decode cX9_worstHeld 32 = .ok (.istore 4, 2) := by decide +kernel
theorem dX9_worstHeld_34 : decode cX9_worstHeld 34 = .ok (.iconst 0, 1) := by decide +kernel
theorem dX9_worstHeld_35 : decode cX9_worstHeld 35 = .ok (.istore 5, 2) := by decide +kernel
theorem dX9_worstHeld_37 : decode cX9_worstHeld 37 = .ok (.iload 5, 2) := by decide +kernel
theorem dX9_worstHeld_39 : decode cX9_worstHeld 39 = .ok (.aload_n 0, 1) := by decide +kernel
theorem dX9_worstHeld_40 : decode cX9_worstHeld 40 = .ok (.getfield 20, 3) := by decide +kernel
theorem dX9_worstHeld_43 : decode cX9_worstHeld 43 = .ok (.iconst 3, 1) := by decide +kernel
theorem dX9_worstHeld_44 : decode cX9_worstHeld 44 = .ok (.iaload, 1) := by decide +kernel
theorem dX9_worstHeld_45 : decode cX9_worstHeld 45 = .ok (.if_icmp .ge 37, 3) := by decide +kernel
theorem dX9_worstHeld_48 : decode cX9_worstHeld 48 = .ok (.aload_n 0, 1) := by decide +kernel
theorem dX9_worstHeld_49 : decode cX9_worstHeld 49 = .ok (.iconst 1, 1) := by decide +kernel
theorem dX9_worstHeld_50 : decode cX9_worstHeld 50 = .ok (.iload 5, 2) := by decide +kernel
theorem dX9_worstHeld_52 : decode cX9_worstHeld 52 = .ok (.ishl, 1) := by decide +kernel
theorem dX9_worstHeld_53 : decode cX9_worstHeld 53 = .ok (.iload_n 1, 1) := by decide +kernel
theorem dX9_worstHeld_54 : decode cX9_worstHeld 54 = .ok (.invokevirtual 308, 3) := by decide +kernel
theorem dX9_worstHeld_57 : decode cX9_worstHeld 57 = .ok (.istore 6, 2) := by decide +kernel
theorem dX9_worstHeld_59 : decode cX9_worstHeld 59 = .ok (.iload 6, 2) := by decide +kernel
theorem dX9_worstHeld_61 : decode cX9_worstHeld 61 = .ok (.iload 4, 2) := by decide +kernel
theorem dX9_worstHeld_63 : decode cX9_worstHeld 63 = .ok (.if_icmp .lt 6, 3) := by decide +kernel
theorem dX9_worstHeld_66 : decode cX9_worstHeld 66 = .ok (.goto 10, 3) := by decide +kernel
theorem dX9_worstHeld_69 : decode cX9_worstHeld 69 = .ok (.iload 5, 2) := by decide +kernel
theorem dX9_worstHeld_71 : decode cX9_worstHeld 71 = .ok (.istore_n 3, 1) := by decide +kernel
theorem dX9_worstHeld_72 : decode cX9_worstHeld 72 = .ok (.iload 6, 2) := by decide +kernel
theorem dX9_worstHeld_74 : decode cX9_worstHeld 74 = .ok (.istore 4, 2) := by decide +kernel
theorem dX9_worstHeld_76 : decode cX9_worstHeld 76 = .ok (.iinc 5 1, 3) := by decide +kernel
theorem dX9_worstHeld_79 : decode cX9_worstHeld 79 = .ok (.goto (-42), 3) := by decide +kernel
theorem dX9_worstHeld_82 : decode cX9_worstHeld 82 = .ok (.iload_n 3, 1) := by decide +kernel
theorem dX9_worstHeld_83 : decode cX9_worstHeld 83 = .ok (.ireturn, 1) := by decide +kernel
set_option maxRecDepth 20000 in
theorem ggX9_isThereBy_X9_begin : GoodIn wsX9_isThereBy wsX9_begin := goodIn_r _ [6, 7, 1, 8, 9, 5, 10, 59, 60, 61, 62, 63, 64, 65, 66, 67, 68, 69, 70, 71, 72, 73, 74, 75, 76, 77, 78, 79, 80, 81, 82, 83, 84, 85, 86, 87] (by decide +kernel) (by decide +kernel)
set_option maxRecDepth 20000 in
theorem gX9_isThereBy_X9_begin : GoodIn wsX9_isThereBy (wsV RX9 296 RX9 yX9_begin wsX9_begin) := goodIn_app (goodIn_of _ (by decide +kernel)) ggX9_isThereBy_X9_begin
set_option maxRecDepth 20000 in
theorem ggX9_isThereBy_X9_nightOf : GoodIn wsX9_isThereBy wsX9_nightOf := goodIn_r _ [14, 15, 16, 17, 5, 18, 19, 20, 21, 22, 23, 24, 25, 26, 27, 28, 29, 30, 31, 32, 33, 34, 35, 36, 37, 38, 39, 40, 41, 42, 43, 44, 45, 46, 47, 48, 49, 50, 51, 52, 53, 54, 55, 56, 57, 58, 59, 60, 61, 62, 63, 64, 65, 66, 67, 68, 69, 70, 71, 72, 73, 74, 75, 76, 77, 78, 79, 80, 81, 82, 83, 84, 85, 86, 87] (by decide +kernel) (by decide +kernel)
set_option maxRecDepth 20000 in
theorem gX9_isThereBy_X9_nightOf : GoodIn wsX9_isThereBy (wsV RX9 299 RX9 yX9_nightOf wsX9_nightOf) := goodIn_app (goodIn_of _ (by decide +kernel)) ggX9_isThereBy_X9_nightOf
theorem dX9_isThereBy_0 : decode cX9_isThereBy 0 = .ok (.aload_n 0, 1) := by decide +kernel
theorem dX9_isThereBy_1 : decode cX9_isThereBy 1 = .ok (.invokevirtual 296, 3) := by decide +kernel
theorem dX9_isThereBy_4 : decode cX9_isThereBy 4 = .ok (.aload_n 0, 1) := by decide +kernel
theorem dX9_isThereBy_5 : decode cX9_isThereBy 5 = .ok (.getfield 35, 3) := by decide +kernel
theorem dX9_isThereBy_8 : decode cX9_isThereBy 8 = .ok (.bipush 7, 2) := by decide +kernel
theorem dX9_isThereBy_10 : decode cX9_isThereBy 10 = .ok (.dup2, 1) := by decide +kernel
theorem dX9_isThereBy_11 : decode cX9_isThereBy 11 = .ok (.iaload, 1) := by decide +kernel
theorem dX9_isThereBy_12 : decode cX9_isThereBy 12 = .ok (.iload_n 1, 1) := by decide +kernel
theorem dX9_isThereBy_13 : decode cX9_isThereBy 13 = .ok (.ior, 1) := by decide +kernel
theorem dX9_isThereBy_14 : decode cX9_isThereBy 14 = .ok (.iastore, 1) := by decide +kernel
theorem dX9_isThereBy_15 : decode cX9_isThereBy 15 = .ok (.iconst 0, 1) := by decide +kernel
theorem dX9_isThereBy_16 : decode cX9_isThereBy 16 = .ok (.istore 5, 2) := by decide +kernel
theorem dX9_isThereBy_18 : decode cX9_isThereBy 18 = .ok (.iload 5, 2) := by decide +kernel
theorem dX9_isThereBy_20 : decode cX9_isThereBy 20 = .ok (.iload 4, 2) := by decide +kernel
theorem dX9_isThereBy_22 : decode cX9_isThereBy 22 = .ok (.if_icmp .ge 18, 3) := by decide +kernel
theorem dX9_isThereBy_25 : decode cX9_isThereBy 25 = .ok (.aload_n 0, 1) := by decide +kernel
theorem dX9_isThereBy_26 : decode cX9_isThereBy 26 = .ok (.aload_n 0, 1) := by decide +kernel
theorem dX9_isThereBy_27 : decode cX9_isThereBy 27 = .ok (.getfield 35, 3) := by decide +kernel
theorem dX9_isThereBy_30 : decode cX9_isThereBy 30 = .ok (.invokevirtual 299, 3) := by decide +kernel
theorem dX9_isThereBy_33 : decode cX9_isThereBy 33 = .ok (.pop, 1) := by decide +kernel
theorem dX9_isThereBy_34 : decode cX9_isThereBy 34 = .ok (.iinc 5 1, 3) := by decide +kernel
theorem dX9_isThereBy_37 : decode cX9_isThereBy 37 = .ok (.goto (-19), 3) := by decide +kernel
theorem dX9_isThereBy_40 : decode cX9_isThereBy 40 = .ok (.aload_n 0, 1) := by decide +kernel
theorem dX9_isThereBy_41 : decode cX9_isThereBy 41 = .ok (.getfield 35, 3) := by decide +kernel
theorem dX9_isThereBy_44 : decode cX9_isThereBy 44 = .ok (.iload_n 2, 1) := by decide +kernel
theorem dX9_isThereBy_45 : decode cX9_isThereBy 45 = .ok (.iaload, 1) := by decide +kernel
theorem dX9_isThereBy_46 : decode cX9_isThereBy 46 = .ok (.iload_n 3, 1) := by decide +kernel
theorem dX9_isThereBy_47 : decode cX9_isThereBy 47 = .ok (.if_icmp .ne 7, 3) := by decide +kernel
theorem dX9_isThereBy_50 : decode cX9_isThereBy 50 = .ok (.iconst 1, 1) := by decide +kernel
theorem dX9_isThereBy_51 : decode cX9_isThereBy 51 = .ok (.goto 4, 3) := by decide +kernel
theorem dX9_isThereBy_54 : decode cX9_isThereBy 54 = .ok (.iconst 0, 1) := by decide +kernel
theorem dX9_isThereBy_55 : decode cX9_isThereBy 55 = .ok (.ireturn, 1) := by decide +kernel
set_option maxRecDepth 20000 in
theorem ggX9_doMeetBy_X9_begin : GoodIn wsX9_doMeetBy wsX9_begin := goodIn_r _ [6, 7, 1, 8, 9, 5, 10, 63, 64, 65, 66, 67, 68, 69, 70, 71, 72, 73, 74, 75, 76, 77, 78, 79, 80, 81, 82, 83, 84, 85, 86, 87, 88, 89, 90, 91] (by decide +kernel) (by decide +kernel)
set_option maxRecDepth 20000 in
theorem gX9_doMeetBy_X9_begin : GoodIn wsX9_doMeetBy (wsV RX9 296 RX9 yX9_begin wsX9_begin) := goodIn_app (goodIn_of _ (by decide +kernel)) ggX9_doMeetBy_X9_begin
set_option maxRecDepth 20000 in
theorem ggX9_doMeetBy_X9_nightOf : GoodIn wsX9_doMeetBy wsX9_nightOf := goodIn_r _ [14, 15, 16, 17, 5, 18, 19, 20, 21, 22, 23, 24, 25, 26, 27, 28, 29, 30, 31, 32, 33, 34, 35, 36, 37, 38, 39, 40, 41, 42, 43, 44, 45, 46, 47, 48, 49, 50, 51, 52, 53, 54, 55, 56, 57, 58, 63, 64, 65, 66, 67, 68, 69, 70, 71, 72, 73, 74, 75, 76, 77, 78, 79, 80, 81, 82, 83, 84, 85, 86, 87, 88, 89, 90, 91] (by decide +kernel) (by decide +kernel)
set_option maxRecDepth 20000 in
theorem gX9_doMeetBy_X9_nightOf : GoodIn wsX9_doMeetBy (wsV RX9 299 RX9 yX9_nightOf wsX9_nightOf) := goodIn_app (goodIn_of _ (by decide +kernel)) ggX9_doMeetBy_X9_nightOf
set_option maxRecDepth 20000 in
theorem ggX9_doMeetBy_X9_areDoored : GoodIn wsX9_doMeetBy wsX9_areDoored := goodIn_r _ [62, 23, 63, 64, 65, 66, 67, 68, 69, 70, 71, 72, 73, 74, 75, 76, 77, 78, 79, 80, 81, 82, 83, 84, 85, 86, 87, 88, 89, 90, 91] (by decide +kernel) (by decide +kernel)
set_option maxRecDepth 20000 in
theorem gX9_doMeetBy_X9_areDoored : GoodIn wsX9_doMeetBy (wsV RX9 289 RX9 yX9_areDoored wsX9_areDoored) := goodIn_app (goodIn_of _ (by decide +kernel)) ggX9_doMeetBy_X9_areDoored
theorem dX9_doMeetBy_0 : decode cX9_doMeetBy 0 = .ok (.aload_n 0, 1) := by decide +kernel
theorem dX9_doMeetBy_1 : decode cX9_doMeetBy 1 = .ok (.invokevirtual 296, 3) := by decide +kernel
theorem dX9_doMeetBy_4 : decode cX9_doMeetBy 4 = .ok (.aload_n 0, 1) := by decide +kernel
theorem dX9_doMeetBy_5 : decode cX9_doMeetBy 5 = .ok (.getfield 35, 3) := by decide +kernel
theorem dX9_doMeetBy_8 : decode cX9_doMeetBy 8 = .ok (.bipush 7, 2) := by decide +kernel
theorem dX9_doMeetBy_10 : decode cX9_doMeetBy 10 = .ok (.dup2, 1) := by decide +kernel
theorem dX9_doMeetBy_11 : decode cX9_doMeetBy 11 = .ok (.iaload, 1) := by decide +kernel
theorem dX9_doMeetBy_12 : decode cX9_doMeetBy 12 = .ok (.iload_n 1, 1) := by decide +kernel
theorem dX9_doMeetBy_13 : decode cX9_doMeetBy 13 = .ok (.ior, 1) := by decide +kernel
theorem dX9_doMeetBy_14 : decode cX9_doMeetBy 14 = .ok (.iastore, 1) := by decide +kernel
theorem dX9_doMeetBy_15 : decode cX9_doMeetBy 15 = .ok (.iconst 0, 1) := by decide +kernel
theorem dX9_doMeetBy_16 : decode cX9_doMeetBy 16 = .ok (.istore 5, 2) := by decide +kernel
theorem dX9_doMeetBy_18 : decode cX9_doMeetBy 18 = .ok (.iload 5, 2) := by decide +kernel
theorem dX9_doMeetBy_20 : decode cX9_doMeetBy 20 = .ok (.iload 4, 2) := by decide +kernel
theorem dX9_doMeetBy_22 : decode cX9_doMeetBy 22 = .ok (.if_icmp .ge 18, 3) := by decide +kernel
theorem dX9_doMeetBy_25 : decode cX9_doMeetBy 25 = .ok (.aload_n 0, 1) := by decide +kernel
theorem dX9_doMeetBy_26 : decode cX9_doMeetBy 26 = .ok (.aload_n 0, 1) := by decide +kernel
theorem dX9_doMeetBy_27 : decode cX9_doMeetBy 27 = .ok (.getfield 35, 3) := by decide +kernel
theorem dX9_doMeetBy_30 : decode cX9_doMeetBy 30 = .ok (.invokevirtual 299, 3) := by decide +kernel
theorem dX9_doMeetBy_33 : decode cX9_doMeetBy 33 = .ok (.pop, 1) := by decide +kernel
theorem dX9_doMeetBy_34 : decode cX9_doMeetBy 34 = .ok (.iinc 5 1, 3) := by decide +kernel
theorem dX9_doMeetBy_37 : decode cX9_doMeetBy 37 = .ok (.goto (-19), 3) := by decide +kernel
theorem dX9_doMeetBy_40 : decode cX9_doMeetBy 40 = .ok (.aload_n 0, 1) := by decide +kernel
theorem dX9_doMeetBy_41 : decode cX9_doMeetBy 41 = .ok (.aload_n 0, 1) := by decide +kernel
theorem dX9_doMeetBy_42 : decode cX9_doMeetBy 42 = .ok (.getfield 35, 3) := by decide +kernel
theorem dX9_doMeetBy_45 : decode cX9_doMeetBy 45 = .ok (.iload_n 2, 1) := by decide +kernel
theorem dX9_doMeetBy_46 : decode cX9_doMeetBy 46 = .ok (.iaload, 1) := by decide +kernel
theorem dX9_doMeetBy_47 : decode cX9_doMeetBy 47 = .ok (.aload_n 0, 1) := by decide +kernel
theorem dX9_doMeetBy_48 : decode cX9_doMeetBy 48 = .ok (.getfield 35, 3) := by decide +kernel
theorem dX9_doMeetBy_51 : decode cX9_doMeetBy 51 = .ok (.iload_n 3, 1) := by decide +kernel
theorem dX9_doMeetBy_52 : decode cX9_doMeetBy 52 = .ok (.iaload, 1) := by decide +kernel
theorem dX9_doMeetBy_53 : decode cX9_doMeetBy 53 = .ok (.invokevirtual 289, 3) := by decide +kernel
theorem dX9_doMeetBy_56 : decode cX9_doMeetBy 56 = .ok (.ireturn, 1) := by decide +kernel
theorem dX9_allThings_0 : decode cX9_allThings 0 = .ok (.iconst 1, 1) := by decide +kernel
theorem dX9_allThings_1 : decode cX9_allThings 1 = .ok (.aload_n 0, 1) := by decide +kernel
theorem dX9_allThings_2 : decode cX9_allThings 2 = .ok (.getfield 20, 3) := by decide +kernel
theorem dX9_allThings_5 : decode cX9_allThings 5 = .ok (.iconst 3, 1) := by decide +kernel
theorem dX9_allThings_6 : decode cX9_allThings 6 = .ok (.iaload, 1) := by decide +kernel
theorem dX9_allThings_7 : decode cX9_allThings 7 = .ok (.ishl, 1) := by decide +kernel
theorem dX9_allThings_8 : decode cX9_allThings 8 = .ok (.iconst 1, 1) := by decide +kernel
theorem dX9_allThings_9 : decode cX9_allThings 9 = .ok (.isub, 1) := by decide +kernel
theorem dX9_allThings_10 : decode cX9_allThings 10 = .ok (.ireturn, 1) := by decide +kernel
set_option maxRecDepth 20000 in
theorem ggX9_holds_X9_good : GoodIn wsX9_holds wsX9_good := goodIn_r _ [6, 7, 8, 100, 101, 102, 103, 104, 105, 106, 107, 108, 109, 110, 111, 112, 113, 114, 115, 116, 117, 118, 119, 120, 121, 122, 123, 124, 125, 126, 127, 128] (by decide +kernel) (by decide +kernel)
set_option maxRecDepth 20000 in
theorem gX9_holds_X9_good : GoodIn wsX9_holds (wsV RX9 153 RX9 yX9_good wsX9_good) := goodIn_app (goodIn_of _ (by decide +kernel)) ggX9_holds_X9_good
set_option maxRecDepth 20000 in
theorem ggX9_holds_X9_isThing : GoodIn wsX9_holds wsX9_isThing := goodIn_r _ [12, 13, 14, 15, 16, 5, 17, 100, 101, 102, 103, 104, 105, 106, 107, 108, 109, 110, 111, 112, 113, 114, 115, 116, 117, 118, 119, 120, 121, 122, 123, 124, 125, 126, 127, 128] (by decide +kernel) (by decide +kernel)
set_option maxRecDepth 20000 in
theorem gX9_holds_X9_isThing : GoodIn wsX9_holds (wsV RX9 283 RX9 yX9_isThing wsX9_isThing) := goodIn_app (goodIn_of _ (by decide +kernel)) ggX9_holds_X9_isThing
set_option maxRecDepth 20000 in
theorem ggX9_holds_X9_isPlace : GoodIn wsX9_holds wsX9_isPlace := goodIn_r _ [21, 14, 22, 23, 24, 5, 25, 13, 15, 16, 17, 100, 101, 102, 103, 104, 105, 106, 107, 108, 109, 110, 111, 112, 113, 114, 115, 116, 117, 118, 119, 120, 121, 122, 123, 124, 125, 126, 127, 128] (by decide +kernel) (by decide +kernel)
set_option maxRecDepth 20000 in
theorem gX9_holds_X9_isPlace : GoodIn wsX9_holds (wsV RX9 286 RX9 yX9_isPlace wsX9_isPlace) := goodIn_app (goodIn_of _ (by decide +kernel)) ggX9_holds_X9_isPlace
set_option maxRecDepth 20000 in
theorem ggX9_holds_X9_why : GoodIn wsX9_holds wsX9_why := goodIn_r _ [29, 15, 16, 5, 17] (by decide +kernel) (by decide +kernel)
set_option maxRecDepth 20000 in
theorem gX9_holds_X9_why : GoodIn wsX9_holds (wsV RX9 292 RX9 yX9_why wsX9_why) := goodIn_app (goodIn_of _ (by decide +kernel)) ggX9_holds_X9_why
set_option maxRecDepth 20000 in
theorem ggX9_holds_X9_no : GoodIn wsX9_holds wsX9_no := goodIn_r _ [33, 8, 100, 101, 102, 103, 104, 105, 106, 107, 108, 109, 110, 111, 112, 113, 114, 115, 116, 117, 118, 119, 120, 121, 122, 123, 124, 125, 126, 127, 128] (by decide +kernel) (by decide +kernel)
set_option maxRecDepth 20000 in
theorem gX9_holds_X9_no : GoodIn wsX9_holds (wsV RX9 156 RX9 yX9_no wsX9_no) := goodIn_app (goodIn_of _ (by decide +kernel)) ggX9_holds_X9_no
set_option maxRecDepth 20000 in
theorem ggX9_holds_X9_allThings : GoodIn wsX9_holds wsX9_allThings := goodIn_r _ [37, 14, 100, 101, 102, 103, 104, 105, 106, 107, 108, 109, 110, 111, 112, 113, 114, 115, 116, 117, 118, 119, 120, 121, 122, 123, 124, 125, 126, 127, 128] (by decide +kernel) (by decide +kernel)
set_option maxRecDepth 20000 in
theorem gX9_holds_X9_allThings : GoodIn wsX9_holds (wsV RX9 312 RX9 yX9_allThings wsX9_allThings) := goodIn_app (goodIn_of _ (by decide +kernel)) ggX9_holds_X9_allThings
set_option maxRecDepth 20000 in
theorem ggX9_holds_X9_ones : GoodIn wsX9_holds wsX9_ones := goodIn_r _ [40] (by decide +kernel) (by decide +kernel)
set_option maxRecDepth 20000 in
theorem gX9_holds_X9_ones : GoodIn wsX9_holds (va_wsS RX9 280 yX9_ones wsX9_ones) := goodIn_app (goodIn_of _ (by decide +kernel)) ggX9_holds_X9_ones
set_option maxRecDepth 20000 in
theorem ggX9_holds_X9_isThereBy : GoodIn wsX9_holds wsX9_isThereBy := goodIn_r _ [44, 45, 46, 47, 48, 5, 49, 1, 50, 51, 52, 53, 54, 55, 56, 57, 58, 59, 60, 61, 62, 63, 64, 14, 65, 66, 67, 68, 69, 70, 71, 72, 73, 74, 75, 76, 77, 78, 79, 80, 81, 82, 83, 84, 85, 86, 87, 88, 89, 90, 91, 92, 93, 94, 95, 96, 97, 98, 99, 100, 101, 102, 103, 104, 105, 106, 107, 108, 109, 110, 111, 112, 113, 114, 115, 116, 117, 118, 119, 120, 121, 122, 123, 124, 125, 126, 127, 128] (by decide +kernel) (by decide +kernel)
set_option maxRecDepth 20000 in
theorem gX9_holds_X9_isThereBy : GoodIn wsX9_holds (wsV RX9 315 RX9 yX9_isThereBy wsX9_isThereBy) := goodIn_app (goodIn_of _ (by decide +kernel)) ggX9_holds_X9_isThereBy
theorem dX9_holds_0 : decode cX9_holds 0 = .ok (.aload_n 0, 1) := by decide +kernel
theorem dX9_holds_1 : decode cX9_holds 1 = .ok (.invokevirtual 153, 3) := by decide +kernel
theorem dX9_holds_4 : decode cX9_holds 4 = .ok (.aload_n 0, 1) := by decide +kernel
theorem dX9_holds_5 : decode cX9_holds 5 = .ok (.aload_n 0, 1) := by decide +kernel
theorem dX9_holds_6 : decode cX9_holds 6 = .ok (.iload_n 1, 1) := by decide +kernel
theorem dX9_holds_7 : decode cX9_holds 7 = .ok (.invokevirtual 283, 3) := by decide +kernel
theorem dX9_holds_10 : decode cX9_holds 10 = .ok (.ifCond .eq 16, 3) := by decide +kernel
theorem dX9_holds_13 : decode cX9_holds 13 = .ok (.aload_n 0, 1) := by decide +kernel
theorem dX9_holds_14 : decode cX9_holds 14 = .ok (.iload_n 2, 1) := by decide +kernel
theorem dX9_holds_15 : decode cX9_holds 15 = .ok (.iload_n 3, 1) := by decide +kernel
theorem dX9_holds_16 : decode cX9_holds 16 = .ok (.invokevirtual 286, 3) := by decide +kernel
theorem dX9_holds_19 : decode cX9_holds 19 = .ok (.ifCond .eq 7, 3) := by decide +kernel
theorem dX9_holds_22 : decode cX9_holds 22 = .ok (.iconst 1, 1) := by decide +kernel
theorem dX9_holds_23 : decode cX9_holds 23 = .ok (.goto 4, 3) := by decide +kernel
theorem dX9_holds_26 : decode cX9_holds 26 = .ok (.iconst 0, 1) := by decide +kernel
theorem dX9_holds_27 : decode cX9_holds 27 = .ok (.iload 4, 2) := by decide +kernel
theorem dX9_holds_29 : decode cX9_holds 29 = .ok (.bipush 30, 2) := by decide +kernel
theorem dX9_holds_31 : decode cX9_holds 31 = .ok (.invokevirtual 292, 3) := by decide +kernel
theorem dX9_holds_34 : decode cX9_holds 34 = .ok (.istore 5, 2) := by decide +kernel
theorem dX9_holds_36 : decode cX9_holds 36 = .ok (.iload 5, 2) := by decide +kernel
theorem dX9_holds_38 : decode cX9_holds 38 = .ok (.ifCond .eq 10, 3) := by decide +kernel
theorem dX9_holds_41 : decode cX9_holds 41 = .ok (.aload_n 0, 1) := by decide +kernel
theorem dX9_holds_42 : decode cX9_holds 42 = .ok (.iload 5, 2) := by decide +kernel
theorem dX9_holds_44 : decode cX9_holds 44 = .ok (.invokevirtual 156, 3) := by decide +kernel
theorem dX9_holds_47 : decode cX9_holds 47 = .ok (.ireturn, 1) := by decide +kernel
theorem dX9_holds_48 : decode cX9_holds 48 = .ok (.bipush (-2), 2) := by decide +kernel
theorem dX9_holds_50 : decode cX9_holds 50 = .ok (.istore 6, 2) := by decide +kernel
theorem dX9_holds_52 : decode cX9_holds 52 = .ok (.iconst 0, 1) := by decide +kernel
theorem dX9_holds_53 : decode cX9_holds 53 = .ok (.istore 7, 2) := by decide +kernel
theorem dX9_holds_55 : decode cX9_holds 55 = .ok (.iload 7, 2) := by decide +kernel
theorem dX9_holds_57 : decode cX9_holds 57 = .ok (.aload_n 0, 1) := by decide +kernel
theorem dX9_holds_58 : decode cX9_holds 58 = .ok (.invokevirtual 312, 3) := by decide +kernel
theorem dX9_holds_61 : decode cX9_holds 61 = .ok (.if_icmp .gt 62, 3) := by decide +kernel
theorem dX9_holds_64 : decode cX9_holds 64 = .ok (.iload 7, 2) := by decide +kernel
theorem dX9_holds_66 : decode cX9_holds 66 = .ok (.aload_n 0, 1) := by decide +kernel
theorem dX9_holds_67 : decode cX9_holds 67 = .ok (.getfield 26, 3) := by decide +kernel
theorem dX9_holds_70 : decode cX9_holds 70 = .ok (.bipush 7, 2) := by decide +kernel
theorem dX9_holds_72 : decode cX9_holds 72 = .ok (.iaload, 1) := by decide +kernel
theorem dX9_holds_73 : decode cX9_holds 73 = .ok (.iand, 1) := by decide +kernel
theorem dX9_holds_74 : decode cX9_holds 74 = .ok (.ifCond .ne 43, 3) := by decide +kernel
theorem dX9_holds_77 : decode cX9_holds 77 = .ok (.iload 6, 2) := by decide +kernel
theorem dX9_holds_79 : decode cX9_holds 79 = .ok (.ifCond .lt 16, 3) := by decide +kernel
theorem dX9_holds_82 : decode cX9_holds 82 = .ok (.iload 7, 2) := by decide +kernel
theorem dX9_holds_84 : decode cX9_holds 84 = .ok (.invokestatic 280, 3) := by decide +kernel
theorem dX9_holds_87 : decode cX9_holds 87 = .ok (.iload 6, 2) := by decide +kernel
theorem dX9_holds_89 : decode cX9_holds 89 = .ok (.invokestatic 280, 3) := by decide +kernel
theorem dX9_holds_92 : decode cX9_holds 92 = .ok (.if_icmp .ge 25, 3) := by decide +kernel
theorem dX9_holds_95 : decode cX9_holds 95 = .ok (.aload_n 0, 1) := by decide +kernel
theorem dX9_holds_96 : decode cX9_holds 96 = .ok (.iload 7, 2) := by decide +kernel
theorem dX9_holds_98 : decode cX9_holds 98 = .ok (.iload_n 1, 1) := by decide +kernel
theorem dX9_holds_99 : decode cX9_holds 99 = .ok (.bipush 9, 2) := by decide +kernel
theorem dX9_holds_101 : decode cX9_holds 101 = .ok (.iload_n 2, 1) := by decide +kernel
theorem dX9_holds_102 : decode cX9_holds 102 = .ok (.imul, 1) := by decide +kernel
theorem dX9_holds_103 : decode cX9_holds 103 = .ok (.iload_n 3, 1) := by decide +kernel
theorem dX9_holds_104 : decode cX9_holds 104 = .ok (.iadd, 1) := by decide +kernel
theorem dX9_holds_105 : decode cX9_holds 105 = .ok (.iload 4, 2) := by decide +kernel
theorem dX9_holds_107 : decode cX9_holds 107 = .ok (.invokevirtual 315, 3) := by decide +kernel
theorem dX9_holds_110 : decode cX9_holds 110 = .ok (.ifCond .eq 7, 3) := by decide +kernel
theorem dX9_holds_113 : decode cX9_holds 113 = .ok (.iload 7, 2) := by decide +kernel
theorem dX9_holds_115 : decode cX9_holds 115 = .ok (.istore 6, 2) := by decide +kernel
theorem dX9_holds_117 : decode cX9_holds 117 = .ok (.iinc 7 1, 3) := by decide +kernel
theorem dX9_holds_120 : decode cX9_holds 120 = .ok (.goto (-65), 3) := by decide +kernel
theorem dX9_holds_123 : decode cX9_holds 123 = .ok (.iload 6, 2) := by decide +kernel
theorem dX9_holds_125 : decode cX9_holds 125 = .ok (.ireturn, 1) := by decide +kernel
set_option maxRecDepth 20000 in
theorem ggX9_putFor_X9_good : GoodIn wsX9_putFor wsX9_good := goodIn_r _ [7, 8, 9, 85, 86, 87, 88, 89, 90, 91, 92, 93, 94, 95, 96, 97, 98, 99, 100, 101, 102, 103, 104, 105, 106, 107, 108, 109, 110, 111, 112, 113] (by decide +kernel) (by decide +kernel)
set_option maxRecDepth 20000 in
theorem gX9_putFor_X9_good : GoodIn wsX9_putFor (wsV RX9 153 RX9 yX9_good wsX9_good) := goodIn_app (goodIn_of _ (by decide +kernel)) ggX9_putFor_X9_good
set_option maxRecDepth 20000 in
theorem ggX9_putFor_X9_isThing : GoodIn wsX9_putFor wsX9_isThing := goodIn_r _ [13, 14, 15, 16, 17, 6, 18, 85, 86, 87, 88, 89, 90, 91, 92, 93, 94, 95, 96, 97, 98, 99, 100, 101, 102, 103, 104, 105, 106, 107, 108, 109, 110, 111, 112, 113] (by decide +kernel) (by decide +kernel)
set_option maxRecDepth 20000 in
theorem gX9_putFor_X9_isThing : GoodIn wsX9_putFor (wsV RX9 283 RX9 yX9_isThing wsX9_isThing) := goodIn_app (goodIn_of _ (by decide +kernel)) ggX9_putFor_X9_isThing
set_option maxRecDepth 20000 in
theorem ggX9_putFor_X9_isPlace : GoodIn wsX9_putFor wsX9_isPlace := goodIn_r _ [22, 15, 23, 24, 25, 6, 26, 14, 16, 17, 18, 85, 86, 87, 88, 89, 90, 91, 92, 93, 94, 95, 96, 97, 98, 99, 100, 101, 102, 103, 104, 105, 106, 107, 108, 109, 110, 111, 112, 113] (by decide +kernel) (by decide +kernel)
set_option maxRecDepth 20000 in
theorem gX9_putFor_X9_isPlace : GoodIn wsX9_putFor (wsV RX9 286 RX9 yX9_isPlace wsX9_isPlace) := goodIn_app (goodIn_of _ (by decide +kernel)) ggX9_putFor_X9_isPlace
set_option maxRecDepth 20000 in
theorem ggX9_putFor_X9_no : GoodIn wsX9_putFor wsX9_no := goodIn_r _ [30, 9, 85, 86, 87, 88, 89, 90, 91, 92, 93, 94, 95, 96, 97, 98, 99, 100, 101, 102, 103, 104, 105, 106, 107, 108, 109, 110, 111, 112, 113] (by decide +kernel) (by decide +kernel)
set_option maxRecDepth 20000 in
theorem gX9_putFor_X9_no : GoodIn wsX9_putFor (wsV RX9 156 RX9 yX9_no wsX9_no) := goodIn_app (goodIn_of _ (by decide +kernel)) ggX9_putFor_X9_no
set_option maxRecDepth 20000 in
theorem ggX9_putFor_X9_in : GoodIn wsX9_putFor wsX9_in := goodIn_r _ [18] (by decide +kernel) (by decide +kernel)
set_option maxRecDepth 20000 in
theorem gX9_putFor_X9_in : GoodIn wsX9_putFor (va_wsS RX9 135 yX9_in wsX9_in) := goodIn_app (goodIn_of _ (by decide +kernel)) ggX9_putFor_X9_in
set_option maxRecDepth 20000 in
theorem ggX9_putFor_X9_placesOf : GoodIn wsX9_putFor wsX9_placesOf := goodIn_r _ [34, 15, 85, 86, 87, 88, 89, 90, 91, 92, 93, 94, 95, 96, 97, 98, 99, 100, 101, 102, 103, 104, 105, 106, 107, 108, 109, 110, 111, 112, 113] (by decide +kernel) (by decide +kernel)
set_option maxRecDepth 20000 in
theorem gX9_putFor_X9_placesOf : GoodIn wsX9_putFor (wsV RX9 242 RX9 yX9_placesOf wsX9_placesOf) := goodIn_app (goodIn_of _ (by decide +kernel)) ggX9_putFor_X9_placesOf
set_option maxRecDepth 20000 in
theorem ggX9_putFor_X9_thingAt : GoodIn wsX9_putFor wsX9_thingAt := goodIn_r _ [38, 15, 85, 86, 87, 88, 89, 90, 91, 92, 93, 94, 95, 96, 97, 98, 99, 100, 101, 102, 103, 104, 105, 106, 107, 108, 109, 110, 111, 112, 113] (by decide +kernel) (by decide +kernel)
set_option maxRecDepth 20000 in
theorem gX9_putFor_X9_thingAt : GoodIn wsX9_putFor (wsV RX9 258 RX9 yX9_thingAt wsX9_thingAt) := goodIn_app (goodIn_of _ (by decide +kernel)) ggX9_putFor_X9_thingAt
set_option maxRecDepth 20000 in
theorem ggX9_putFor_X9_begin : GoodIn wsX9_putFor wsX9_begin := goodIn_r _ [42, 1, 2, 43, 44, 6, 45, 85, 86, 87, 88, 89, 90, 91, 92, 93, 94, 95, 96, 97, 98, 99, 100, 101, 102, 103, 104, 105, 106, 107, 108, 109, 110, 111, 112, 113] (by decide +kernel) (by decide +kernel)
set_option maxRecDepth 20000 in
theorem gX9_putFor_X9_begin : GoodIn wsX9_putFor (wsV RX9 296 RX9 yX9_begin wsX9_begin) := goodIn_app (goodIn_of _ (by decide +kernel)) ggX9_putFor_X9_begin
set_option maxRecDepth 20000 in
theorem ggX9_putFor_X9_nightOf : GoodIn wsX9_putFor wsX9_nightOf := goodIn_r _ [49, 50, 51, 52, 6, 53, 54, 55, 56, 57, 15, 58, 59, 60, 61, 31, 32, 33, 34, 62, 63, 64, 65, 66, 67, 68, 69, 70, 71, 72, 73, 74, 75, 76, 35, 36, 37, 38, 77, 78, 79, 80, 81, 82, 83, 84, 85, 86, 87, 88, 89, 90, 91, 92, 93, 94, 95, 96, 97, 98, 99, 100, 101, 102, 103, 104, 105, 106, 107, 108, 109, 110, 111, 112, 113] (by decide +kernel) (by decide +kernel)
set_option maxRecDepth 20000 in
theorem gX9_putFor_X9_nightOf : GoodIn wsX9_putFor (wsV RX9 299 RX9 yX9_nightOf wsX9_nightOf) := goodIn_app (goodIn_of _ (by decide +kernel)) ggX9_putFor_X9_nightOf
theorem dX9_putFor_0 : decode cX9_putFor 0 = .ok (.aload_n 0, 1) := by decide +kernel
theorem dX9_putFor_1 : decode cX9_putFor 1 = .ok (.invokevirtual 153, 3) := by decide +kernel
theorem dX9_putFor_4 : decode cX9_putFor 4 = .ok (.aload_n 0, 1) := by decide +kernel
theorem dX9_putFor_5 : decode cX9_putFor 5 = .ok (.iload_n 1, 1) := by decide +kernel
theorem dX9_putFor_6 : decode cX9_putFor 6 = .ok (.invokevirtual 283, 3) := by decide +kernel
theorem dX9_putFor_9 : decode cX9_putFor 9 = .ok (.ifCond .eq 20, 3) := by decide +kernel
theorem dX9_putFor_12 : decode cX9_putFor 12 = .ok (.aload_n 0, 1) := by decide +kernel
theorem dX9_putFor_13 : decode cX9_putFor 13 = .ok (.aload_n 0, 1) := by decide +kernel
theorem dX9_putFor_14 : decode cX9_putFor 14 = .ok (.getfield 26, 3) := by decide +kernel
theorem dX9_putFor_17 : decode cX9_putFor 17 = .ok (.iload_n 1, 1) := by decide +kernel
theorem dX9_putFor_18 : decode cX9_putFor 18 = .ok (.iaload, 1) := by decide +kernel
theorem dX9_putFor_19 : decode cX9_putFor 19 = .ok (.bipush 9, 2) := by decide +kernel
theorem dX9_putFor_21 : decode cX9_putFor 21 = .ok (.idiv, 1) := by decide +kernel
theorem dX9_putFor_22 : decode cX9_putFor 22 = .ok (.iload_n 2, 1) := by decide +kernel
theorem dX9_putFor_23 : decode cX9_putFor 23 = .ok (.invokevirtual 286, 3) := by decide +kernel
theorem dX9_putFor_26 : decode cX9_putFor 26 = .ok (.ifCond .ne 9, 3) := by decide +kernel
theorem dX9_putFor_29 : decode cX9_putFor 29 = .ok (.aload_n 0, 1) := by decide +kernel
theorem dX9_putFor_30 : decode cX9_putFor 30 = .ok (.iconst 1, 1) := by decide +kernel
theorem dX9_putFor_31 : decode cX9_putFor 31 = .ok (.invokevirtual 156, 3) := by decide +kernel
theorem dX9_putFor_34 : decode cX9_putFor 34 = .ok (.ireturn, 1) := by decide +kernel
theorem dX9_putFor_35 : decode cX9_putFor 35 = .ok (.iload_n 3, 1) := by decide +kernel
theorem dX9_putFor_36 : decode cX9_putFor 36 = .ok (.iconst 0, 1) := by decide +kernel
theorem dX9_putFor_37 : decode cX9_putFor 37 = .ok (.bipush 60, 2) := by decide +kernel
theorem dX9_putFor_39 : decode cX9_putFor 39 = .ok (.invokestatic 135, 3) := by decide +kernel
theorem dX9_putFor_42 : decode cX9_putFor 42 = .ok (.ifCond .ne 9, 3) := by decide +kernel
theorem dX9_putFor_45 : decode cX9_putFor 45 = .ok (.aload_n 0, 1) := by decide +kernel
theorem dX9_putFor_46 : decode cX9_putFor 46 = .ok (.iconst 2, 1) := by decide +kernel
theorem dX9_putFor_47 : decode cX9_putFor 47 = .ok (.invokevirtual 156, 3) := by decide +kernel
theorem dX9_putFor_50 : decode cX9_putFor 50 = .ok (.ireturn, 1) := by decide +kernel
theorem dX9_putFor_51 : decode cX9_putFor 51 = .ok (.aload_n 0, 1) := by decide +kernel
theorem dX9_putFor_52 : decode cX9_putFor 52 = .ok (.getfield 26, 3) := by decide +kernel
theorem dX9_putFor_55 : decode cX9_putFor 55 = .ok (.iload_n 1, 1) := by decide +kernel
theorem dX9_putFor_56 : decode cX9_putFor 56 = .ok (.iaload, 1) := by decide +kernel
theorem dX9_putFor_57 : decode cX9_putFor 57 = .ok (.bipush 9, 2) := by decide +kernel
theorem dX9_putFor_59 : decode cX9_putFor 59 = .ok (.idiv, 1) := by decide +kernel
theorem dX9_putFor_60 : decode cX9_putFor 60 = .ok (.istore 4, 2) := by decide +kernel
theorem dX9_putFor_62 : decode cX9_putFor 62 = .ok (.iconst 0, 1) := by decide +kernel
theorem dX9_putFor_63 : decode cX9_putFor 63 = .ok (.istore 5, 2) := by decide +kernel
theorem dX9_putFor_65 : decode cX9_putFor 65 = .ok (.iload 5, 2) := by decide +kernel
theorem dX9_putFor_67 : decode cX9_putFor 67 = .ok (.aload_n 0, 1) := by decide +kernel
theorem dX9_putFor_68 : decode cX9_putFor 68 = .ok (.iload 4, 2) := by decide +kernel
theorem dX9_putFor_70 : decode cX9_putFor 70 = .ok (.invokevirtual 242, 3) := by decide +kernel
theorem dX9_putFor_73 : decode cX9_putFor 73 = .ok (.if_icmp .ge 102, 3) := by decide +kernel
theorem dX9_putFor_76 : decode cX9_putFor 76 = .ok (.aload_n 0, 1) := by decide +kernel
theorem dX9_putFor_77 : decode cX9_putFor 77 = .ok (.aload_n 0, 1) := by decide +kernel
theorem dX9_putFor_78 : decode cX9_putFor 78 = .ok (.getfield 26, 3) := by decide +kernel
theorem dX9_putFor_81 : decode cX9_putFor 81 = .ok (.bipush 9, 2) := by decide +kernel
theorem dX9_putFor_83 : decode cX9_putFor 83 = .ok (.iload 4, 2) := by decide +kernel
theorem dX9_putFor_85 : decode cX9_putFor 85 = .ok (.imul, 1) := by decide +kernel
theorem dX9_putFor_86 : decode cX9_putFor 86 = .ok (.iload 5, 2) := by decide +kernel
theorem dX9_putFor_88 : decode cX9_putFor 88 = .ok (.iadd, 1) := by decide +kernel
theorem dX9_putFor_89 : decode cX9_putFor 89 = .ok (.invokevirtual 258, 3) := by decide +kernel
theorem dX9_putFor_92 : decode cX9_putFor 92 = .ok (.istore 6, 2) := by decide +kernel
theorem dX9_putFor_94 : decode cX9_putFor 94 = .ok (.iload 6, 2) := by decide +kernel
theorem dX9_putFor_96 : decode cX9_putFor 96 = .ok (.ifCond .lt 12, 3) := by decide +kernel
theorem dX9_putFor_99 : decode cX9_putFor 99 = .ok (.iload 6, 2) := by decide +kernel
theorem dX9_putFor_101 : decode cX9_putFor 101 = .ok (.iload_n 1, 1) := by decide +kernel
theorem dX9_putFor_102 : decode cX9_putFor 102 = .ok (.if_icmp .eq 6, 3) := by decide +kernel
theorem dX9_putFor_105 : decode cX9_putFor 105 = .ok (.goto 64, 3) := by decide +kernel
theorem dX9_putFor_108 : decode cX9_putFor 108 = .ok (.aload_n 0, 1) := by decide +kernel
theorem dX9_putFor_109 : decode cX9_putFor 109 = .ok (.invokevirtual 296, 3) := by decide +kernel
theorem dX9_putFor_112 : decode cX9_putFor 112 = .ok (.aload_n 0, 1) := by decide +kernel
theorem dX9_putFor_113 : decode cX9_putFor 113 = .ok (.getfield 35, 3) := by decide +kernel
theorem dX9_putFor_116 : decode cX9_putFor 116 = .ok (.iload_n 1, 1) := by decide +kernel
theorem dX9_putFor_117 : decode cX9_putFor 117 = .ok (.bipush 9, 2) := by decide +kernel
theorem dX9_putFor_119 : decode cX9_putFor 119 = .ok (.iload 4, 2) := by decide +kernel
theorem dX9_putFor_121 : decode cX9_putFor 121 = .ok (.imul, 1) := by decide +kernel
theorem dX9_putFor_122 : decode cX9_putFor 122 = .ok (.iload 5, 2) := by decide +kernel
theorem dX9_putFor_124 : decode cX9_putFor 124 = .ok (.iadd, 1) := by decide +kernel
theorem dX9_putFor_125 : decode cX9_putFor 125 = .ok (.iastore, 1) := by decide +kernel
theorem dX9_putFor_126 : decode cX9_putFor 126 = .ok (.iconst 0, 1) := by decide +kernel
theorem dX9_putFor_127 : decode cX9_putFor 127 = .ok (.istore 7, 2) := by decide +kernel
theorem dX9_putFor_129 : decode cX9_putFor 129 = .ok (.iload 7, 2) := by decide +kernel
theorem dX9_putFor_131 : decode cX9_putFor 131 = .ok (.iload_n 3, 1) := by decide +kernel
theorem dX9_putFor_132 : decode cX9_putFor 132 = .ok (.if_icmp .ge 18, 3) := by decide +kernel
theorem dX9_putFor_135 : decode cX9_putFor 135 = .ok (.aload_n 0, 1) := by decide +kernel
theorem dX9_putFor_136 : decode cX9_putFor 136 = .ok (.aload_n 0, 1) := by decide +kernel
theorem dX9_putFor_137 : decode cX9_putFor 137 = .ok (.getfield 35, 3) := by decide +kernel
theorem dX9_putFor_140 : decode cX9_putFor 140 = .ok (.invokevirtual 299, 3) := by decide +kernel
theorem dX9_putFor_143 : decode cX9_putFor 143 = .ok (.pop, 1) := by decide +kernel
theorem dX9_putFor_144 : decode cX9_putFor 144 = .ok (.iinc 7 1, 3) := by decide +kernel
theorem dX9_putFor_147 : decode cX9_putFor 147 = .ok (.goto (-18), 3) := by decide +kernel
theorem dX9_putFor_150 : decode cX9_putFor 150 = .ok (.aload_n 0, 1) := by decide +kernel
theorem dX9_putFor_151 : decode cX9_putFor 151 = .ok (.getfield 35, 3) := by decide +kernel
theorem dX9_putFor_154 : decode cX9_putFor 154 = .ok (.iload_n 1, 1) := by decide +kernel
theorem dX9_putFor_155 : decode cX9_putFor 155 = .ok (.iaload, 1) := by decide +kernel
theorem dX9_putFor_156 : decode cX9_putFor 156 = .ok (.bipush 9, 2) := by decide +kernel
theorem dX9_putFor_158 : decode cX9_putFor 158 = .ok (.iload 4, 2) := by decide +kernel
theorem dX9_putFor_160 : decode cX9_putFor 160 = .ok (.imul, 1) := by decide +kernel
theorem dX9_putFor_161 : decode cX9_putFor 161 = .ok (.iload_n 2, 1) := by decide +kernel
theorem dX9_putFor_162 : decode cX9_putFor 162 = .ok (.iadd, 1) := by decide +kernel
theorem dX9_putFor_163 : decode cX9_putFor 163 = .ok (.if_icmp .ne 6, 3) := by decide +kernel
theorem dX9_putFor_166 : decode cX9_putFor 166 = .ok (.iload 5, 2) := by decide +kernel
theorem dX9_putFor_168 : decode cX9_putFor 168 = .ok (.ireturn, 1) := by decide +kernel
theorem dX9_putFor_169 : decode cX9_putFor 169 = .ok (.iinc 5 1, 3) := by decide +kernel
theorem dX9_putFor_172 : decode cX9_putFor 172 = .ok (.goto (-107), 3) := by decide +kernel
theorem dX9_putFor_175 : decode cX9_putFor 175 = .ok (.bipush (-2), 2) := by decide +kernel
theorem dX9_putFor_177 : decode cX9_putFor 177 = .ok (.ireturn, 1) := by decide +kernel
set_option maxRecDepth 20000 in
theorem ggX9_holdsToMeet_X9_good : GoodIn wsX9_holdsToMeet wsX9_good := goodIn_r _ [6, 7, 8, 100, 101, 102, 103, 104, 105, 106, 107, 108, 109, 110, 111, 112, 113, 114, 115, 116, 117, 118, 119, 120, 121, 122, 123, 124, 125, 126, 127, 128] (by decide +kernel) (by decide +kernel)
set_option maxRecDepth 20000 in
theorem gX9_holdsToMeet_X9_good : GoodIn wsX9_holdsToMeet (wsV RX9 153 RX9 yX9_good wsX9_good) := goodIn_app (goodIn_of _ (by decide +kernel)) ggX9_holdsToMeet_X9_good
set_option maxRecDepth 20000 in
theorem ggX9_holdsToMeet_X9_areTwo : GoodIn wsX9_holdsToMeet wsX9_areTwo := goodIn_r _ [12, 13, 14, 15, 5, 16, 17, 18, 19, 20, 21, 100, 101, 102, 103, 104, 105, 106, 107, 108, 109, 110, 111, 112, 113, 114, 115, 116, 117, 118, 119, 120, 121, 122, 123, 124, 125, 126, 127, 128] (by decide +kernel) (by decide +kernel)
set_option maxRecDepth 20000 in
theorem gX9_holdsToMeet_X9_areTwo : GoodIn wsX9_holdsToMeet (wsV RX9 305 RX9 yX9_areTwo wsX9_areTwo) := goodIn_app (goodIn_of _ (by decide +kernel)) ggX9_holdsToMeet_X9_areTwo
set_option maxRecDepth 20000 in
theorem ggX9_holdsToMeet_X9_why : GoodIn wsX9_holdsToMeet wsX9_why := goodIn_r _ [25, 19, 20, 5, 21] (by decide +kernel) (by decide +kernel)
set_option maxRecDepth 20000 in
theorem gX9_holdsToMeet_X9_why : GoodIn wsX9_holdsToMeet (wsV RX9 292 RX9 yX9_why wsX9_why) := goodIn_app (goodIn_of _ (by decide +kernel)) ggX9_holdsToMeet_X9_why
set_option maxRecDepth 20000 in
theorem ggX9_holdsToMeet_X9_no : GoodIn wsX9_holdsToMeet wsX9_no := goodIn_r _ [29, 8, 100, 101, 102, 103, 104, 105, 106, 107, 108, 109, 110, 111, 112, 113, 114, 115, 116, 117, 118, 119, 120, 121, 122, 123, 124, 125, 126, 127, 128] (by decide +kernel) (by decide +kernel)
set_option maxRecDepth 20000 in
theorem gX9_holdsToMeet_X9_no : GoodIn wsX9_holdsToMeet (wsV RX9 156 RX9 yX9_no wsX9_no) := goodIn_app (goodIn_of _ (by decide +kernel)) ggX9_holdsToMeet_X9_no
set_option maxRecDepth 20000 in
theorem ggX9_holdsToMeet_X9_allThings : GoodIn wsX9_holdsToMeet wsX9_allThings := goodIn_r _ [33, 18, 100, 101, 102, 103, 104, 105, 106, 107, 108, 109, 110, 111, 112, 113, 114, 115, 116, 117, 118, 119, 120, 121, 122, 123, 124, 125, 126, 127, 128] (by decide +kernel) (by decide +kernel)
set_option maxRecDepth 20000 in
theorem gX9_holdsToMeet_X9_allThings : GoodIn wsX9_holdsToMeet (wsV RX9 312 RX9 yX9_allThings wsX9_allThings) := goodIn_app (goodIn_of _ (by decide +kernel)) ggX9_holdsToMeet_X9_allThings
set_option maxRecDepth 20000 in
theorem ggX9_holdsToMeet_X9_ones : GoodIn wsX9_holdsToMeet wsX9_ones := goodIn_r _ [36] (by decide +kernel) (by decide +kernel)
set_option maxRecDepth 20000 in
theorem gX9_holdsToMeet_X9_ones : GoodIn wsX9_holdsToMeet (va_wsS RX9 280 yX9_ones wsX9_ones) := goodIn_app (goodIn_of _ (by decide +kernel)) ggX9_holdsToMeet_X9_ones
set_option maxRecDepth 20000 in
theorem ggX9_holdsToMeet_X9_doMeetBy : GoodIn wsX9_holdsToMeet wsX9_doMeetBy := goodIn_r _ [40, 41, 42, 43, 44, 5, 45, 1, 46, 47, 48, 49, 50, 51, 52, 53, 54, 55, 56, 57, 58, 59, 60, 18, 61, 62, 63, 64, 65, 66, 67, 68, 69, 70, 71, 72, 73, 74, 75, 76, 77, 78, 79, 80, 81, 82, 83, 84, 85, 86, 87, 88, 89, 90, 91, 92, 93, 94, 95, 96, 97, 98, 99, 100, 101, 102, 103, 104, 105, 106, 107, 108, 109, 110, 111, 112, 113, 114, 115, 116, 117, 118, 119, 120, 121, 122, 123, 124, 125, 126, 127, 128] (by decide +kernel) (by decide +kernel)
set_option maxRecDepth 20000 in
theorem gX9_holdsToMeet_X9_doMeetBy : GoodIn wsX9_holdsToMeet (wsV RX9 319 RX9 yX9_doMeetBy wsX9_doMeetBy) := goodIn_app (goodIn_of _ (by decide +kernel)) ggX9_holdsToMeet_X9_doMeetBy
theorem dX9_holdsToMeet_0 : decode cX9_holdsToMeet 0 = .ok (.aload_n 0, 1) := by decide +kernel
theorem dX9_holdsToMeet_1 : decode cX9_holdsToMeet 1 = .ok (.invokevirtual 153, 3) := by decide +kernel
theorem dX9_holdsToMeet_4 : decode cX9_holdsToMeet 4 = .ok (.aload_n 0, 1) := by decide +kernel
theorem dX9_holdsToMeet_5 : decode cX9_holdsToMeet 5 = .ok (.aload_n 0, 1) := by decide +kernel
theorem dX9_holdsToMeet_6 : decode cX9_holdsToMeet 6 = .ok (.iload_n 1, 1) := by decide +kernel
theorem dX9_holdsToMeet_7 : decode cX9_holdsToMeet 7 = .ok (.iload_n 2, 1) := by decide +kernel
theorem dX9_holdsToMeet_8 : decode cX9_holdsToMeet 8 = .ok (.invokevirtual 305, 3) := by decide +kernel
theorem dX9_holdsToMeet_11 : decode cX9_holdsToMeet 11 = .ok (.iload_n 3, 1) := by decide +kernel
theorem dX9_holdsToMeet_12 : decode cX9_holdsToMeet 12 = .ok (.bipush 30, 2) := by decide +kernel
theorem dX9_holdsToMeet_14 : decode cX9_holdsToMeet 14 = .ok (.invokevirtual 292, 3) := by decide +kernel
theorem dX9_holdsToMeet_17 : decode cX9_holdsToMeet 17 = .ok (.istore 4, 2) := by decide +kernel
theorem dX9_holdsToMeet_19 : decode cX9_holdsToMeet 19 = .ok (.iload 4, 2) := by decide +kernel
theorem dX9_holdsToMeet_21 : decode cX9_holdsToMeet 21 = .ok (.ifCond .eq 10, 3) := by decide +kernel
theorem dX9_holdsToMeet_24 : decode cX9_holdsToMeet 24 = .ok (.aload_n 0, 1) := by decide +kernel
theorem dX9_holdsToMeet_25 : decode cX9_holdsToMeet 25 = .ok (.iload 4, 2) := by decide +kernel
theorem dX9_holdsToMeet_27 : decode cX9_holdsToMeet 27 = .ok (.invokevirtual 156, 3) := by decide +kernel
theorem dX9_holdsToMeet_30 : decode cX9_holdsToMeet 30 = .ok (.ireturn, 1) := by decide +kernel
theorem dX9_holdsToMeet_31 : decode cX9_holdsToMeet 31 = .ok (.bipush (-2), 2) := by decide +kernel
theorem dX9_holdsToMeet_33 : decode cX9_holdsToMeet 33 = .ok (.istore 5, 2) := by decide +kernel
theorem dX9_holdsToMeet_35 : decode cX9_holdsToMeet 35 = .ok (.iconst 0, 1) := by decide +kernel
theorem dX9_holdsToMeet_36 : decode cX9_holdsToMeet 36 = .ok (.istore 6, 2) := by decide +kernel
theorem dX9_holdsToMeet_38 : decode cX9_holdsToMeet 38 = .ok (.iload 6, 2) := by decide +kernel
theorem dX9_holdsToMeet_40 : decode cX9_holdsToMeet 40 = .ok (.aload_n 0, 1) := by decide +kernel
theorem dX9_holdsToMeet_41 : decode cX9_holdsToMeet 41 = .ok (.invokevirtual 312, 3) := by decide +kernel
theorem dX9_holdsToMeet_44 : decode cX9_holdsToMeet 44 = .ok (.if_icmp .gt 56, 3) := by decide +kernel
theorem dX9_holdsToMeet_47 : decode cX9_holdsToMeet 47 = .ok (.iload 6, 2) := by decide +kernel
theorem dX9_holdsToMeet_49 : decode cX9_holdsToMeet 49 = .ok (.aload_n 0, 1) := by decide +kernel
theorem dX9_holdsToMeet_50 : decode cX9_holdsToMeet 50 = .ok (.getfield 26, 3) := by decide +kernel
theorem dX9_holdsToMeet_53 : decode cX9_holdsToMeet 53 = .ok (.bipush 7, 2) := by decide +kernel
theorem dX9_holdsToMeet_55 : decode cX9_holdsToMeet 55 = .ok (.iaload, 1) := by decide +kernel
theorem dX9_holdsToMeet_56 : decode cX9_holdsToMeet 56 = .ok (.iand, 1) := by decide +kernel
theorem dX9_holdsToMeet_57 : decode cX9_holdsToMeet 57 = .ok (.ifCond .ne 37, 3) := by decide +kernel
theorem dX9_holdsToMeet_60 : decode cX9_holdsToMeet 60 = .ok (.iload 5, 2) := by decide +kernel
theorem dX9_holdsToMeet_62 : decode cX9_holdsToMeet 62 = .ok (.ifCond .lt 16, 3) := by decide +kernel
theorem dX9_holdsToMeet_65 : decode cX9_holdsToMeet 65 = .ok (.iload 6, 2) := by decide +kernel
theorem dX9_holdsToMeet_67 : decode cX9_holdsToMeet 67 = .ok (.invokestatic 280, 3) := by decide +kernel
theorem dX9_holdsToMeet_70 : decode cX9_holdsToMeet 70 = .ok (.iload 5, 2) := by decide +kernel
theorem dX9_holdsToMeet_72 : decode cX9_holdsToMeet 72 = .ok (.invokestatic 280, 3) := by decide +kernel
theorem dX9_holdsToMeet_75 : decode cX9_holdsToMeet 75 = .ok (.if_icmp .ge 19, 3) := by decide +kernel
theorem dX9_holdsToMeet_78 : decode cX9_holdsToMeet 78 = .ok (.aload_n 0, 1) := by decide +kernel
theorem dX9_holdsToMeet_79 : decode cX9_holdsToMeet 79 = .ok (.iload 6, 2) := by decide +kernel
theorem dX9_holdsToMeet_81 : decode cX9_holdsToMeet 81 = .ok (.iload_n 1, 1) := by decide +kernel
theorem dX9_holdsToMeet_82 : decode cX9_holdsToMeet 82 = .ok (.iload_n 2, 1) := by decide +kernel
theorem dX9_holdsToMeet_83 : decode cX9_holdsToMeet 83 = .ok (.iload_n 3, 1) := by decide +kernel
theorem dX9_holdsToMeet_84 : decode cX9_holdsToMeet 84 = .ok (.invokevirtual 319, 3) := by decide +kernel
theorem dX9_holdsToMeet_87 : decode cX9_holdsToMeet 87 = .ok (.ifCond .eq 7, 3) := by decide +kernel
theorem dX9_holdsToMeet_90 : decode cX9_holdsToMeet 90 = .ok (.iload 6, 2) := by decide +kernel
theorem dX9_holdsToMeet_92 : decode cX9_holdsToMeet 92 = .ok (.istore 5, 2) := by decide +kernel
theorem dX9_holdsToMeet_94 : decode cX9_holdsToMeet 94 = .ok (.iinc 6 1, 3) := by decide +kernel
theorem dX9_holdsToMeet_97 : decode cX9_holdsToMeet 97 = .ok (.goto (-59), 3) := by decide +kernel
theorem dX9_holdsToMeet_100 : decode cX9_holdsToMeet 100 = .ok (.iload 5, 2) := by decide +kernel
theorem dX9_holdsToMeet_102 : decode cX9_holdsToMeet 102 = .ok (.ireturn, 1) := by decide +kernel
set_option maxRecDepth 20000 in
theorem ggX9_keptBy_X9_begin : GoodIn wsX9_keptBy wsX9_begin := goodIn_r _ [7, 8, 1, 9, 10, 6, 11, 59, 60, 61, 62, 63, 64, 65, 66, 67, 68, 69, 70, 71, 72, 73, 74, 75, 76, 77, 78, 79, 80, 81, 82, 83, 84, 85, 86, 87] (by decide +kernel) (by decide +kernel)
set_option maxRecDepth 20000 in
theorem gX9_keptBy_X9_begin : GoodIn wsX9_keptBy (wsV RX9 296 RX9 yX9_begin wsX9_begin) := goodIn_app (goodIn_of _ (by decide +kernel)) ggX9_keptBy_X9_begin
set_option maxRecDepth 20000 in
theorem ggX9_keptBy_X9_nightOf : GoodIn wsX9_keptBy wsX9_nightOf := goodIn_r _ [15, 16, 17, 18, 6, 19, 20, 21, 22, 23, 2, 24, 25, 26, 27, 28, 29, 30, 31, 32, 33, 34, 35, 36, 37, 38, 39, 40, 41, 42, 43, 44, 45, 46, 47, 48, 49, 50, 51, 52, 53, 54, 55, 56, 57, 58, 59, 60, 61, 62, 63, 64, 65, 66, 67, 68, 69, 70, 71, 72, 73, 74, 75, 76, 77, 78, 79, 80, 81, 82, 83, 84, 85, 86, 87] (by decide +kernel) (by decide +kernel)
set_option maxRecDepth 20000 in
theorem gX9_keptBy_X9_nightOf : GoodIn wsX9_keptBy (wsV RX9 299 RX9 yX9_nightOf wsX9_nightOf) := goodIn_app (goodIn_of _ (by decide +kernel)) ggX9_keptBy_X9_nightOf
theorem dX9_keptBy_0 : decode cX9_keptBy 0 = .ok (.aload_n 0, 1) := by decide +kernel
theorem dX9_keptBy_1 : decode cX9_keptBy 1 = .ok (.invokevirtual 296, 3) := by decide +kernel
theorem dX9_keptBy_4 : decode cX9_keptBy 4 = .ok (.aload_n 0, 1) := by decide +kernel
theorem dX9_keptBy_5 : decode cX9_keptBy 5 = .ok (.getfield 35, 3) := by decide +kernel
theorem dX9_keptBy_8 : decode cX9_keptBy 8 = .ok (.bipush 7, 2) := by decide +kernel
theorem dX9_keptBy_10 : decode cX9_keptBy 10 = .ok (.dup2, 1) := by decide +kernel
theorem dX9_keptBy_11 : decode cX9_keptBy 11 = .ok (.iaload, 1) := by decide +kernel
theorem dX9_keptBy_12 : decode cX9_keptBy 12 = .ok (.iload_n 1, 1) := by decide +kernel
theorem dX9_keptBy_13 : decode cX9_keptBy 13 = .ok (.ior, 1) := by decide +kernel
theorem dX9_keptBy_14 : decode cX9_keptBy 14 = .ok (.iastore, 1) := by decide +kernel
theorem dX9_keptBy_15 : decode cX9_keptBy 15 = .ok (.iconst 0, 1) := by decide +kernel
theorem dX9_keptBy_16 : decode cX9_keptBy 16 = .ok (.istore_n 3, 1) := by decide +kernel
theorem dX9_keptBy_17 : decode cX9_keptBy 17 = .ok (.iconst 0, 1) := by decide +kernel
theorem dX9_keptBy_18 : decode cX9_keptBy 18 = .ok (.istore 4, 2) := by decide +kernel
theorem dX9_keptBy_20 : decode cX9_keptBy 20 = .ok (.iload 4, 2) := by decide +kernel
theorem dX9_keptBy_22 : decode cX9_keptBy 22 = .ok (.iload_n 2, 1) := by decide +kernel
theorem dX9_keptBy_23 : decode cX9_keptBy 23 = .ok (.if_icmp .ge 108, 3) := by decide +kernel
theorem dX9_keptBy_26 : decode cX9_keptBy 26 = .ok (.aload_n 0, 1) := by decide +kernel
theorem dX9_keptBy_27 : decode cX9_keptBy 27 = .ok (.aload_n 0, 1) := by decide +kernel
theorem dX9_keptBy_28 : decode cX9_keptBy 28 = .ok (.getfield 35, 3) := by decide +kernel
theorem dX9_keptBy_31 : decode cX9_keptBy 31 = .ok (.invokevirtual 299, 3) := by decide +kernel
theorem dX9_keptBy_34 : decode cX9_keptBy 34 = .ok (.pop, 1) := by decide +kernel
theorem dX9_keptBy_35 : decode cX9_keptBy 35 = .ok (.iconst 0, 1) := by decide +kernel
theorem dX9_keptBy_36 : decode cX9_keptBy 36 = .ok (.istore 5, 2) := by decide +kernel
theorem dX9_keptBy_38 : decode cX9_keptBy 38 = .ok (.iload 5, 2) := by decide +kernel
theorem dX9_keptBy_40 : decode cX9_keptBy 40 = .ok (.aload_n 0, 1) := by decide +kernel
theorem dX9_keptBy_41 : decode cX9_keptBy 41 = .ok (.getfield 20, 3) := by decide +kernel
theorem dX9_keptBy_44 : decode cX9_keptBy 44 = .ok (.bipush 6, 2) := by decide +kernel
theorem dX9_keptBy_46 : decode cX9_keptBy 46 = .ok (.iaload, 1) := by decide +kernel
theorem dX9_keptBy_47 : decode cX9_keptBy 47 = .ok (.if_icmp .ge 78, 3) := by decide +kernel
theorem dX9_keptBy_50 : decode cX9_keptBy 50 = .ok (.iload_n 3, 1) := by decide +kernel
theorem dX9_keptBy_51 : decode cX9_keptBy 51 = .ok (.aload_n 0, 1) := by decide +kernel
theorem dX9_keptBy_52 : decode cX9_keptBy 52 = .ok (.getfield 20, 3) := by decide +kernel
theorem dX9_keptBy_55 : decode cX9_keptBy 55 = .ok (.bipush 83, 2) := by decide +kernel
theorem dX9_keptBy_57 : decode cX9_keptBy 57 = .ok (.iconst 4, 1) := by decide +kernel
theorem dX9_keptBy_58 : decode cX9_keptBy 58 = .ok (.iload 5, 2) := by decide +kernel
theorem dX9_keptBy_60 : decode cX9_keptBy 60 = .ok (.imul, 1) := by decide +kernel
theorem dX9_keptBy_61 : decode cX9_keptBy 61 = .ok (.iadd, 1) := by decide +kernel
theorem dX9_keptBy_62 : decode cX9_keptBy 62 = .ok (.iconst 2, 1) := by decide +kernel
theorem dX9_keptBy_63 : decode cX9_keptBy 63 = .ok (.iadd, 1) := by decide +kernel
theorem dX9_keptBy_64 : decode cX9_keptBy 64 = .ok (.iaload, 1) := by decide +kernel
theorem dX9_keptBy_65 : decode cX9_keptBy 65 = .ok (.aload_n 0, 1) := by decide +kernel
theorem dX9_keptBy_66 : decode cX9_keptBy 66 = .ok (.getfield 35, 3) := by decide +kernel
theorem dX9_keptBy_69 : decode cX9_keptBy 69 = .ok (.bipush 8, 2) := by decide +kernel
theorem dX9_keptBy_71 : decode cX9_keptBy 71 = .ok (.iaload, 1) := by decide +kernel
theorem dX9_keptBy_72 : decode cX9_keptBy 72 = .ok (.if_icmp .ne 44, 3) := by decide +kernel
theorem dX9_keptBy_75 : decode cX9_keptBy 75 = .ok (.aload_n 0, 1) := by decide +kernel
theorem dX9_keptBy_76 : decode cX9_keptBy 76 = .ok (.getfield 35, 3) := by decide +kernel
theorem dX9_keptBy_79 : decode cX9_keptBy 79 = .ok (.aload_n 0, 1) := by decide +kernel
theorem dX9_keptBy_80 : decode cX9_keptBy 80 = .ok (.getfield 20, 3) := by decide +kernel
theorem dX9_keptBy_83 : decode cX9_keptBy 83 = .ok (.bipush 83, 2) := by decide +kernel
theorem dX9_keptBy_85 : decode cX9_keptBy 85 = .ok (.iconst 4, 1) := by decide +kernel
theorem dX9_keptBy_86 : decode cX9_keptBy 86 = .ok (.iload 5, 2) := by decide +kernel
theorem dX9_keptBy_88 : decode cX9_keptBy 88 = .ok (.imul, 1) := by decide +kernel
theorem dX9_keptBy_89 : decode cX9_keptBy 89 = .ok (.iadd, 1) := by decide +kernel
theorem dX9_keptBy_90 : decode cX9_keptBy 90 = .ok (.iaload, 1) := by decide +kernel
theorem dX9_keptBy_91 : decode cX9_keptBy 91 = .ok (.iaload, 1) := by decide +kernel
theorem dX9_keptBy_92 : decode cX9_keptBy 92 = .ok (.aload_n 0, 1) := by decide +kernel
theorem dX9_keptBy_93 : decode cX9_keptBy 93 = .ok (.getfield 20, 3) := by decide +kernel
theorem dX9_keptBy_96 : decode cX9_keptBy 96 = .ok (.bipush 83, 2) := by decide +kernel
theorem dX9_keptBy_98 : decode cX9_keptBy 98 = .ok (.iconst 4, 1) := by decide +kernel
theorem dX9_keptBy_99 : decode cX9_keptBy 99 = .ok (.iload 5, 2) := by decide +kernel
theorem dX9_keptBy_101 : decode cX9_keptBy 101 = .ok (.imul, 1) := by decide +kernel
theorem dX9_keptBy_102 : decode cX9_keptBy 102 = .ok (.iadd, 1) := by decide +kernel
theorem dX9_keptBy_103 : decode cX9_keptBy 103 = .ok (.iconst 1, 1) := by decide +kernel
theorem dX9_keptBy_104 : decode cX9_keptBy 104 = .ok (.iadd, 1) := by decide +kernel
theorem dX9_keptBy_105 : decode cX9_keptBy 105 = .ok (.iaload, 1) := by decide +kernel
theorem dX9_keptBy_106 : decode cX9_keptBy 106 = .ok (.if_icmp .ne 10, 3) := by decide +kernel
theorem dX9_keptBy_109 : decode cX9_keptBy 109 = .ok (.iconst 1, 1) := by decide +kernel
theorem dX9_keptBy_110 : decode cX9_keptBy 110 = .ok (.iload 5, 2) := by decide +kernel
theorem dX9_keptBy_112 : decode cX9_keptBy 112 = .ok (.ishl, 1) := by decide +kernel
theorem dX9_keptBy_113 : decode cX9_keptBy 113 = .ok (.goto 4, 3) := by decide +kernel
theorem dX9_keptBy_116 : decode cX9_keptBy 116 = .ok (.iconst 0, 1) := by decide +kernel
theorem dX9_keptBy_117 : decode cX9_keptBy 117 = .ok (.ior, 1) := by decide +kernel
theorem dX9_keptBy_118 : decode cX9_keptBy 118 = .ok (.istore_n 3, 1) := by decide +kernel
theorem dX9_keptBy_119 : decode cX9_keptBy 119 = .ok (.iinc 5 1, 3) := by decide +kernel
theorem dX9_keptBy_122 : decode cX9_keptBy 122 = .ok (.goto (-84), 3) := by decide +kernel
theorem dX9_keptBy_125 : decode cX9_keptBy 125 = .ok (.iinc 4 1, 3) := by decide +kernel
theorem dX9_keptBy_128 : decode cX9_keptBy 128 = .ok (.goto (-108), 3) := by decide +kernel
theorem dX9_keptBy_131 : decode cX9_keptBy 131 = .ok (.iload_n 3, 1) := by decide +kernel
theorem dX9_keptBy_132 : decode cX9_keptBy 132 = .ok (.ireturn, 1) := by decide +kernel
set_option maxRecDepth 20000 in
theorem ggX9_payOf_X9_hasBit : GoodIn wsX9_payOf wsX9_hasBit := goodIn_r _ [5] (by decide +kernel) (by decide +kernel)
set_option maxRecDepth 20000 in
theorem gX9_payOf_X9_hasBit : GoodIn wsX9_payOf (va_wsS RX9 251 yX9_hasBit wsX9_hasBit) := goodIn_app (goodIn_of _ (by decide +kernel)) ggX9_payOf_X9_hasBit
theorem dX9_payOf_0 : decode cX9_payOf 0 = .ok (.iconst 0, 1) := by decide +kernel
theorem dX9_payOf_1 : decode cX9_payOf 1 = .ok (.istore_n 2, 1) := by decide +kernel
theorem dX9_payOf_2 : decode cX9_payOf 2 = .ok (.iconst 0, 1) := by decide +kernel
theorem dX9_payOf_3 : decode cX9_payOf 3 = .ok (.istore_n 3, 1) := by decide +kernel
theorem dX9_payOf_4 : decode cX9_payOf 4 = .ok (.iload_n 3, 1) := by decide +kernel
theorem dX9_payOf_5 : decode cX9_payOf 5 = .ok (.aload_n 0, 1) := by decide +kernel
theorem dX9_payOf_6 : decode cX9_payOf 6 = .ok (.getfield 20, 3) := by decide +kernel
theorem dX9_payOf_9 : decode cX9_payOf 9 = .ok (.bipush 6, 2) := by decide +kernel
theorem dX9_payOf_11 : decode cX9_payOf 11 = .ok (.iaload, 1) := by decide +kernel
theorem dX9_payOf_12 : decode cX9_payOf 12 = .ok (.if_icmp .ge 37, 3) := by decide +kernel
theorem dX9_payOf_15 : decode cX9_payOf 15 = .ok (.iload_n 2, 1) := by decide +kernel
theorem dX9_payOf_16 : decode cX9_payOf 16 = .ok (.iload_n 1, 1) := by decide +kernel
theorem dX9_payOf_17 : decode cX9_payOf 17 = .ok (.iload_n 3, 1) := by decide +kernel
theorem dX9_payOf_18 : decode cX9_payOf 18 = .ok (.invokestatic 251, 3) := by decide +kernel
theorem dX9_payOf_21 : decode cX9_payOf 21 = .ok (.ifCond .eq 19, 3) := by decide +kernel
theorem dX9_payOf_24 : decode cX9_payOf 24 = .ok (.aload_n 0, 1) := by decide +kernel
theorem dX9_payOf_25 : decode cX9_payOf 25 = .ok (.getfield 20, 3) := by decide +kernel
theorem dX9_payOf_28 : decode cX9_payOf 28 = .ok (.bipush 83, 2) := by decide +kernel
theorem dX9_payOf_30 : decode cX9_payOf 30 = .ok (.iconst 4, 1) := by decide +kernel
theorem dX9_payOf_31 : decode cX9_payOf 31 = .ok (.iload_n 3, 1) := by decide +kernel
theorem dX9_payOf_32 : decode cX9_payOf 32 = .ok (.imul, 1) := by decide +kernel
theorem dX9_payOf_33 : decode cX9_payOf 33 = .ok (.iadd, 1) := by decide +kernel
theorem dX9_payOf_34 : decode cX9_payOf 34 = .ok (.iconst 3, 1) := by decide +kernel
theorem dX9_payOf_35 : decode cX9_payOf 35 = .ok (.iadd, 1) := by decide +kernel
theorem dX9_payOf_36 : decode cX9_payOf 36 = .ok (.iaload, 1) := by decide +kernel
theorem dX9_payOf_37 : decode cX9_payOf 37 = .ok (.goto 4, 3) := by decide +kernel
theorem dX9_payOf_40 : decode cX9_payOf 40 = .ok (.iconst 0, 1) := by decide +kernel
theorem dX9_payOf_41 : decode cX9_payOf 41 = .ok (.iadd, 1) := by decide +kernel
theorem dX9_payOf_42 : decode cX9_payOf 42 = .ok (.istore_n 2, 1) := by decide +kernel
theorem dX9_payOf_43 : decode cX9_payOf 43 = .ok (.iinc 3 1, 3) := by decide +kernel
theorem dX9_payOf_46 : decode cX9_payOf 46 = .ok (.goto (-42), 3) := by decide +kernel
theorem dX9_payOf_49 : decode cX9_payOf 49 = .ok (.iload_n 2, 1) := by decide +kernel
theorem dX9_payOf_50 : decode cX9_payOf 50 = .ok (.ireturn, 1) := by decide +kernel
set_option maxRecDepth 20000 in
theorem ggX9_bestOf_X9_keptBy : GoodIn wsX9_bestOf wsX9_keptBy := goodIn_r _ [6, 7, 8, 9, 10, 11, 5, 12, 1, 13, 14, 15, 16, 17, 18, 19, 20, 21, 22, 23, 24, 25, 26, 27, 28, 29, 30, 31, 32, 33, 34, 35, 36, 37, 38, 39, 40, 41, 42, 43, 44, 45, 46, 47, 48, 49, 50, 51, 52, 53, 54, 55, 56, 57, 58, 59, 60, 61, 62, 74, 75, 76, 77, 78, 79, 80, 81, 82, 83, 84, 85, 86, 87, 88, 89, 90, 91, 92, 93, 94, 95, 96, 97, 98, 99, 100, 101, 102] (by decide +kernel) (by decide +kernel)
set_option maxRecDepth 20000 in
theorem gX9_bestOf_X9_keptBy : GoodIn wsX9_bestOf (wsV RX9 322 RX9 yX9_keptBy wsX9_keptBy) := goodIn_app (goodIn_of _ (by decide +kernel)) ggX9_bestOf_X9_keptBy
set_option maxRecDepth 20000 in
theorem ggX9_bestOf_X9_payOf : GoodIn wsX9_bestOf wsX9_payOf := goodIn_r _ [66, 8, 40, 41, 5, 42, 74, 75, 76, 77, 78, 79, 80, 81, 82, 83, 84, 85, 86, 87, 88, 89, 90, 91, 92, 93, 94, 95, 96, 97, 98, 99, 100, 101, 102] (by decide +kernel) (by decide +kernel)
set_option maxRecDepth 20000 in
theorem gX9_bestOf_X9_payOf : GoodIn wsX9_bestOf (wsV RX9 325 RX9 yX9_payOf wsX9_payOf) := goodIn_app (goodIn_of _ (by decide +kernel)) ggX9_bestOf_X9_payOf
set_option maxRecDepth 20000 in
theorem ggX9_bestOf_X9_allThings : GoodIn wsX9_bestOf wsX9_allThings := goodIn_r _ [70, 8, 74, 75, 76, 77, 78, 79, 80, 81, 82, 83, 84, 85, 86, 87, 88, 89, 90, 91, 92, 93, 94, 95, 96, 97, 98, 99, 100, 101, 102] (by decide +kernel) (by decide +kernel)
set_option maxRecDepth 20000 in
theorem gX9_bestOf_X9_allThings : GoodIn wsX9_bestOf (wsV RX9 312 RX9 yX9_allThings wsX9_allThings) := goodIn_app (goodIn_of _ (by decide +kernel)) ggX9_bestOf_X9_allThings
set_option maxRecDepth 20000 in
theorem ggX9_bestOf_X9_ones : GoodIn wsX9_bestOf wsX9_ones := goodIn_r _ [73] (by decide +kernel) (by decide +kernel)
set_option maxRecDepth 20000 in
theorem gX9_bestOf_X9_ones : GoodIn wsX9_bestOf (va_wsS RX9 280 yX9_ones wsX9_ones) := goodIn_app (goodIn_of _ (by decide +kernel)) ggX9_bestOf_X9_ones
theorem dX9_bestOf_0 : decode cX9_bestOf 0 = .ok (.iconst 0, 1) := by decide +kernel
theorem dX9_bestOf_1 : decode cX9_bestOf 1 = .ok (.istore_n 2, 1) := by decide +kernel
theorem dX9_bestOf_2 : decode cX9_bestOf 2 = .ok (.aload_n 0, 1) := by decide +kernel
theorem dX9_bestOf_3 : decode cX9_bestOf 3 = .ok (.aload_n 0, 1) := by decide +kernel
theorem dX9_bestOf_4 : decode cX9_bestOf 4 = .ok (.iconst 0, 1) := by decide +kernel
theorem dX9_bestOf_5 : decode cX9_bestOf 5 = .ok (.iload_n 1, 1) := by decide +kernel
theorem dX9_bestOf_6 : decode cX9_bestOf 6 = .ok (.invokevirtual 322, 3) := by decide +kernel
theorem dX9_bestOf_9 : decode cX9_bestOf 9 = .ok (.invokevirtual 325, 3) := by decide +kernel
theorem dX9_bestOf_12 : decode cX9_bestOf 12 = .ok (.istore_n 3, 1) := by decide +kernel
theorem dX9_bestOf_13 : decode cX9_bestOf 13 = .ok (.iconst 1, 1) := by decide +kernel
theorem dX9_bestOf_14 : decode cX9_bestOf 14 = .ok (.istore 4, 2) := by decide +kernel
theorem dX9_bestOf_16 : decode cX9_bestOf 16 = .ok (.iload 4, 2) := by decide +kernel
theorem dX9_bestOf_18 : decode cX9_bestOf 18 = .ok (.aload_n 0, 1) := by decide +kernel
theorem dX9_bestOf_19 : decode cX9_bestOf 19 = .ok (.invokevirtual 312, 3) := by decide +kernel
theorem dX9_bestOf_22 : decode cX9_bestOf 22 = .ok (.if_icmp .gt 71, 3) := by decide +kernel
theorem dX9_bestOf_25 : decode cX9_bestOf 25 = .ok (.iload 4, 2) := by decide +kernel
theorem dX9_bestOf_27 : decode cX9_bestOf 27 = .ok (.aload_n 0, 1) := by decide +kernel
theorem dX9_bestOf_28 : decode cX9_bestOf 28 = .ok (.getfield 26, 3) := by decide +kernel
theorem dX9_bestOf_31 : decode cX9_bestOf 31 = .ok (.bipush 7, 2) := by decide +kernel
theorem dX9_bestOf_33 : decode cX9_bestOf 33 = .ok (.iaload, 1) := by decide +kernel
theorem dX9_bestOf_34 : decode cX9_bestOf 34 = .ok (.iand, 1) := by decide +kernel
theorem dX9_bestOf_35 : decode cX9_bestOf 35 = .ok (.ifCond .eq 6, 3) := by decide +kernel
theorem dX9_bestOf_38 : decode cX9_bestOf 38 = .ok (.goto 49, 3) := by decide +kernel
theorem dX9_bestOf_41 : decode cX9_bestOf 41 = .ok (.aload_n 0, 1) := by decide +kernel
theorem dX9_bestOf_42 : decode cX9_bestOf 42 = .ok (.aload_n 0, 1) := by decide +kernel
theorem dX9_bestOf_43 : decode cX9_bestOf 43 = .ok (.iload 4, 2) := by decide +kernel
theorem dX9_bestOf_45 : decode cX9_bestOf 45 = .ok (.iload_n 1, 1) := by decide +kernel
theorem dX9_bestOf_46 : decode cX9_bestOf 46 = .ok (.invokevirtual 322, 3) := by decide +kernel
theorem dX9_bestOf_49 : decode cX9_bestOf 49 = .ok (.invokevirtual 325, 3) := by decide +kernel
theorem dX9_bestOf_52 : decode cX9_bestOf 52 = .ok (.istore 5, 2) := by decide +kernel
theorem dX9_bestOf_54 : decode cX9_bestOf 54 = .ok (.iload 5, 2) := by decide +kernel
theorem dX9_bestOf_56 : decode cX9_bestOf 56 = .ok (.iload_n 3, 1) := by decide +kernel
theorem dX9_bestOf_57 : decode cX9_bestOf 57 = .ok (.if_icmp .lt 30, 3) := by decide +kernel
theorem dX9_bestOf_60 : decode cX9_bestOf 60 = .ok (.iload 5, 2) := by decide +kernel
theorem dX9_bestOf_62 : decode cX9_bestOf 62 = .ok (.iload_n 3, 1) := by decide +kernel
theorem dX9_bestOf_63 : decode cX9_bestOf 63 = .ok (.if_icmp .ne 18, 3) := by decide +kernel
theorem dX9_bestOf_66 : decode cX9_bestOf 66 = .ok (.iload 4, 2) := by decide +kernel
theorem dX9_bestOf_68 : decode cX9_bestOf 68 = .ok (.invokestatic 280, 3) := by decide +kernel
theorem dX9_bestOf_71 : decode cX9_bestOf 71 = .ok (.iload_n 2, 1) := by decide +kernel
theorem dX9_bestOf_72 : decode cX9_bestOf 72 = .ok (.invokestatic 280, 3) := by decide +kernel
theorem dX9_bestOf_75 : decode cX9_bestOf 75 = .ok (.if_icmp .lt 6, 3) := by decide +kernel
theorem dX9_bestOf_78 : decode cX9_bestOf 78 = .ok (.goto 9, 3) := by decide +kernel
theorem dX9_bestOf_81 : decode cX9_bestOf 81 = .ok (.iload 4, 2) := by decide +kernel
theorem dX9_bestOf_83 : decode cX9_bestOf 83 = .ok (.istore_n 2, 1) := by decide +kernel
theorem dX9_bestOf_84 : decode cX9_bestOf 84 = .ok (.iload 5, 2) := by decide +kernel
theorem dX9_bestOf_86 : decode cX9_bestOf 86 = .ok (.istore_n 3, 1) := by decide +kernel
theorem dX9_bestOf_87 : decode cX9_bestOf 87 = .ok (.iinc 4 1, 3) := by decide +kernel
theorem dX9_bestOf_90 : decode cX9_bestOf 90 = .ok (.goto (-74), 3) := by decide +kernel
theorem dX9_bestOf_93 : decode cX9_bestOf 93 = .ok (.iload_n 2, 1) := by decide +kernel
theorem dX9_bestOf_94 : decode cX9_bestOf 94 = .ok (.ireturn, 1) := by decide +kernel
set_option maxRecDepth 20000 in
theorem ggX9_pays_X9_good : GoodIn wsX9_pays wsX9_good := goodIn_r _ [6, 7, 8, 85, 86, 87, 88, 89, 90, 91, 92, 93, 94, 95, 96, 97, 98, 99, 100, 101, 102, 103, 104, 105, 106, 107, 108, 109, 110, 111, 112, 113] (by decide +kernel) (by decide +kernel)
set_option maxRecDepth 20000 in
theorem gX9_pays_X9_good : GoodIn wsX9_pays (wsV RX9 153 RX9 yX9_good wsX9_good) := goodIn_app (goodIn_of _ (by decide +kernel)) ggX9_pays_X9_good
set_option maxRecDepth 20000 in
theorem ggX9_pays_X9_why : GoodIn wsX9_pays wsX9_why := goodIn_r _ [12, 13, 14, 5, 15] (by decide +kernel) (by decide +kernel)
set_option maxRecDepth 20000 in
theorem gX9_pays_X9_why : GoodIn wsX9_pays (wsV RX9 292 RX9 yX9_why wsX9_why) := goodIn_app (goodIn_of _ (by decide +kernel)) ggX9_pays_X9_why
set_option maxRecDepth 20000 in
theorem ggX9_pays_X9_no : GoodIn wsX9_pays wsX9_no := goodIn_r _ [19, 8, 85, 86, 87, 88, 89, 90, 91, 92, 93, 94, 95, 96, 97, 98, 99, 100, 101, 102, 103, 104, 105, 106, 107, 108, 109, 110, 111, 112, 113] (by decide +kernel) (by decide +kernel)
set_option maxRecDepth 20000 in
theorem gX9_pays_X9_no : GoodIn wsX9_pays (wsV RX9 156 RX9 yX9_no wsX9_no) := goodIn_app (goodIn_of _ (by decide +kernel)) ggX9_pays_X9_no
set_option maxRecDepth 20000 in
theorem ggX9_pays_X9_keptBy : GoodIn wsX9_pays wsX9_keptBy := goodIn_r _ [23, 24, 25, 26, 27, 28, 5, 29, 30, 31, 32, 33, 34, 35, 36, 37, 38, 39, 40, 41, 42, 43, 44, 45, 46, 47, 48, 49, 50, 51, 52, 53, 54, 55, 56, 57, 58, 59, 60, 61, 62, 63, 64, 65, 66, 67, 68, 69, 70, 71, 72, 73, 74, 75, 76, 77, 78, 79, 80, 85, 86, 87, 88, 89, 90, 91, 92, 93, 94, 95, 96, 97, 98, 99, 100, 101, 102, 103, 104, 105, 106, 107, 108, 109, 110, 111, 112, 113] (by decide +kernel) (by decide +kernel)
set_option maxRecDepth 20000 in
theorem gX9_pays_X9_keptBy : GoodIn wsX9_pays (wsV RX9 322 RX9 yX9_keptBy wsX9_keptBy) := goodIn_app (goodIn_of _ (by decide +kernel)) ggX9_pays_X9_keptBy
set_option maxRecDepth 20000 in
theorem ggX9_pays_X9_payOf : GoodIn wsX9_pays wsX9_payOf := goodIn_r _ [84, 25, 58, 59, 5, 60, 85, 86, 87, 88, 89, 90, 91, 92, 93, 94, 95, 96, 97, 98, 99, 100, 101, 102, 103, 104, 105, 106, 107, 108, 109, 110, 111, 112, 113] (by decide +kernel) (by decide +kernel)
set_option maxRecDepth 20000 in
theorem gX9_pays_X9_payOf : GoodIn wsX9_pays (wsV RX9 325 RX9 yX9_payOf wsX9_payOf) := goodIn_app (goodIn_of _ (by decide +kernel)) ggX9_pays_X9_payOf
theorem dX9_pays_0 : decode cX9_pays 0 = .ok (.aload_n 0, 1) := by decide +kernel
theorem dX9_pays_1 : decode cX9_pays 1 = .ok (.invokevirtual 153, 3) := by decide +kernel
theorem dX9_pays_4 : decode cX9_pays 4 = .ok (.aload_n 0, 1) := by decide +kernel
theorem dX9_pays_5 : decode cX9_pays 5 = .ok (.aload_n 0, 1) := by decide +kernel
theorem dX9_pays_6 : decode cX9_pays 6 = .ok (.getfield 166, 3) := by decide +kernel
theorem dX9_pays_9 : decode cX9_pays 9 = .ok (.iload_n 1, 1) := by decide +kernel
theorem dX9_pays_10 : decode cX9_pays 10 = .ok (.bipush 60, 2) := by decide +kernel
theorem dX9_pays_12 : decode cX9_pays 12 = .ok (.invokevirtual 292, 3) := by decide +kernel
theorem dX9_pays_15 : decode cX9_pays 15 = .ok (.istore_n 2, 1) := by decide +kernel
theorem dX9_pays_16 : decode cX9_pays 16 = .ok (.iload_n 2, 1) := by decide +kernel
theorem dX9_pays_17 : decode cX9_pays 17 = .ok (.ifCond .eq 11, 3) := by decide +kernel
theorem dX9_pays_20 : decode cX9_pays 20 = .ok (.aload_n 0, 1) := by decide +kernel
theorem dX9_pays_21 : decode cX9_pays 21 = .ok (.iload_n 2, 1) := by decide +kernel
theorem dX9_pays_22 : decode cX9_pays 22 = .ok (.invokevirtual 156, 3) := by decide +kernel
theorem dX9_pays_25 : decode cX9_pays 25 = .ok (.goto 13, 3) := by decide +kernel
theorem dX9_pays_28 : decode cX9_pays 28 = .ok (.aload_n 0, 1) := by decide +kernel
theorem dX9_pays_29 : decode cX9_pays 29 = .ok (.aload_n 0, 1) := by decide +kernel
theorem dX9_pays_30 : decode cX9_pays 30 = .ok (.iconst 0, 1) := by decide +kernel
theorem dX9_pays_31 : decode cX9_pays 31 = .ok (.iload_n 1, 1) := by decide +kernel
theorem dX9_pays_32 : decode cX9_pays 32 = .ok (.invokevirtual 322, 3) := by decide +kernel
theorem dX9_pays_35 : decode cX9_pays 35 = .ok (.invokevirtual 325, 3) := by decide +kernel
theorem dX9_pays_38 : decode cX9_pays 38 = .ok (.ireturn, 1) := by decide +kernel
set_option maxRecDepth 20000 in
theorem ggX9_best_X9_good : GoodIn wsX9_best wsX9_good := goodIn_r _ [6, 7, 8, 96, 97, 98, 99, 100, 101, 102, 103, 104, 105, 106, 107, 108, 109, 110, 111, 112, 113, 114, 115, 116, 117, 118, 119, 120, 121, 122, 123, 124] (by decide +kernel) (by decide +kernel)
set_option maxRecDepth 20000 in
theorem gX9_best_X9_good : GoodIn wsX9_best (wsV RX9 153 RX9 yX9_good wsX9_good) := goodIn_app (goodIn_of _ (by decide +kernel)) ggX9_best_X9_good
set_option maxRecDepth 20000 in
theorem ggX9_best_X9_why : GoodIn wsX9_best wsX9_why := goodIn_r _ [12, 13, 14, 5, 15] (by decide +kernel) (by decide +kernel)
set_option maxRecDepth 20000 in
theorem gX9_best_X9_why : GoodIn wsX9_best (wsV RX9 292 RX9 yX9_why wsX9_why) := goodIn_app (goodIn_of _ (by decide +kernel)) ggX9_best_X9_why
set_option maxRecDepth 20000 in
theorem ggX9_best_X9_no : GoodIn wsX9_best wsX9_no := goodIn_r _ [19, 8, 96, 97, 98, 99, 100, 101, 102, 103, 104, 105, 106, 107, 108, 109, 110, 111, 112, 113, 114, 115, 116, 117, 118, 119, 120, 121, 122, 123, 124] (by decide +kernel) (by decide +kernel)
set_option maxRecDepth 20000 in
theorem gX9_best_X9_no : GoodIn wsX9_best (wsV RX9 156 RX9 yX9_no wsX9_no) := goodIn_app (goodIn_of _ (by decide +kernel)) ggX9_best_X9_no
set_option maxRecDepth 20000 in
theorem ggX9_best_X9_bestOf : GoodIn wsX9_best wsX9_bestOf := goodIn_r _ [23, 24, 25, 26, 27, 5, 28, 29, 30, 31, 32, 33, 34, 35, 36, 37, 38, 39, 40, 41, 42, 43, 44, 45, 46, 47, 48, 49, 50, 51, 52, 53, 54, 55, 56, 57, 58, 59, 60, 61, 62, 63, 64, 65, 66, 67, 68, 69, 70, 71, 72, 73, 74, 75, 76, 77, 78, 79, 80, 81, 82, 83, 84, 85, 86, 87, 88, 89, 90, 91, 92, 93, 94, 95, 96, 97, 98, 99, 100, 101, 102, 103, 104, 105, 106, 107, 108, 109, 110, 111, 112, 113, 114, 115, 116, 117, 118, 119, 120, 121, 122, 123, 124] (by decide +kernel) (by decide +kernel)
set_option maxRecDepth 20000 in
theorem gX9_best_X9_bestOf : GoodIn wsX9_best (wsV RX9 328 RX9 yX9_bestOf wsX9_bestOf) := goodIn_app (goodIn_of _ (by decide +kernel)) ggX9_best_X9_bestOf
theorem dX9_best_0 : decode cX9_best 0 = .ok (.aload_n 0, 1) := by decide +kernel
theorem dX9_best_1 : decode cX9_best 1 = .ok (.invokevirtual 153, 3) := by decide +kernel
theorem dX9_best_4 : decode cX9_best 4 = .ok (.aload_n 0, 1) := by decide +kernel
theorem dX9_best_5 : decode cX9_best 5 = .ok (.aload_n 0, 1) := by decide +kernel
theorem dX9_best_6 : decode cX9_best 6 = .ok (.getfield 166, 3) := by decide +kernel
theorem dX9_best_9 : decode cX9_best 9 = .ok (.iload_n 1, 1) := by decide +kernel
theorem dX9_best_10 : decode cX9_best 10 = .ok (.bipush 60, 2) := by decide +kernel
theorem dX9_best_12 : decode cX9_best 12 = .ok (.invokevirtual 292, 3) := by decide +kernel
theorem dX9_best_15 : decode cX9_best 15 = .ok (.istore_n 2, 1) := by decide +kernel
theorem dX9_best_16 : decode cX9_best 16 = .ok (.iload_n 2, 1) := by decide +kernel
theorem dX9_best_17 : decode cX9_best 17 = .ok (.ifCond .eq 11, 3) := by decide +kernel
theorem dX9_best_20 : decode cX9_best 20 = .ok (.aload_n 0, 1) := by decide +kernel
theorem dX9_best_21 : decode cX9_best 21 = .ok (.iload_n 2, 1) := by decide +kernel
theorem dX9_best_22 : decode cX9_best 22 = .ok (.invokevirtual 156, 3) := by decide +kernel
theorem dX9_best_25 : decode cX9_best 25 = .ok (.goto 8, 3) := by decide +kernel
theorem dX9_best_28 : decode cX9_best 28 = .ok (.aload_n 0, 1) := by decide +kernel
theorem dX9_best_29 : decode cX9_best 29 = .ok (.iload_n 1, 1) := by decide +kernel
theorem dX9_best_30 : decode cX9_best 30 = .ok (.invokevirtual 328, 3) := by decide +kernel
theorem dX9_best_33 : decode cX9_best 33 = .ok (.ireturn, 1) := by decide +kernel
set_option maxRecDepth 20000 in
theorem ggX9_bestPays_X9_good : GoodIn wsX9_bestPays wsX9_good := goodIn_r _ [6, 7, 8, 96, 97, 98, 99, 100, 101, 102, 103, 104, 105, 106, 107, 108, 109, 110, 111, 112, 113, 114, 115, 116, 117, 118, 119, 120, 121, 122, 123, 124] (by decide +kernel) (by decide +kernel)
set_option maxRecDepth 20000 in
theorem gX9_bestPays_X9_good : GoodIn wsX9_bestPays (wsV RX9 153 RX9 yX9_good wsX9_good) := goodIn_app (goodIn_of _ (by decide +kernel)) ggX9_bestPays_X9_good
set_option maxRecDepth 20000 in
theorem ggX9_bestPays_X9_why : GoodIn wsX9_bestPays wsX9_why := goodIn_r _ [12, 13, 14, 5, 15] (by decide +kernel) (by decide +kernel)
set_option maxRecDepth 20000 in
theorem gX9_bestPays_X9_why : GoodIn wsX9_bestPays (wsV RX9 292 RX9 yX9_why wsX9_why) := goodIn_app (goodIn_of _ (by decide +kernel)) ggX9_bestPays_X9_why
set_option maxRecDepth 20000 in
theorem ggX9_bestPays_X9_no : GoodIn wsX9_bestPays wsX9_no := goodIn_r _ [19, 8, 96, 97, 98, 99, 100, 101, 102, 103, 104, 105, 106, 107, 108, 109, 110, 111, 112, 113, 114, 115, 116, 117, 118, 119, 120, 121, 122, 123, 124] (by decide +kernel) (by decide +kernel)
set_option maxRecDepth 20000 in
theorem gX9_bestPays_X9_no : GoodIn wsX9_bestPays (wsV RX9 156 RX9 yX9_no wsX9_no) := goodIn_app (goodIn_of _ (by decide +kernel)) ggX9_bestPays_X9_no
set_option maxRecDepth 20000 in
theorem ggX9_bestPays_X9_bestOf : GoodIn wsX9_bestPays wsX9_bestOf := goodIn_r _ [23, 24, 25, 26, 27, 5, 28, 29, 30, 31, 32, 33, 34, 35, 36, 37, 38, 39, 40, 41, 42, 43, 44, 45, 46, 47, 48, 49, 50, 51, 52, 53, 54, 55, 56, 57, 58, 59, 60, 61, 62, 63, 64, 65, 66, 67, 68, 69, 70, 71, 72, 73, 74, 75, 76, 77, 78, 79, 80, 81, 82, 83, 84, 85, 86, 87, 88, 89, 90, 91, 92, 93, 94, 95, 96, 97, 98, 99, 100, 101, 102, 103, 104, 105, 106, 107, 108, 109, 110, 111, 112, 113, 114, 115, 116, 117, 118, 119, 120, 121, 122, 123, 124] (by decide +kernel) (by decide +kernel)
set_option maxRecDepth 20000 in
theorem gX9_bestPays_X9_bestOf : GoodIn wsX9_bestPays (wsV RX9 328 RX9 yX9_bestOf wsX9_bestOf) := goodIn_app (goodIn_of _ (by decide +kernel)) ggX9_bestPays_X9_bestOf
set_option maxRecDepth 20000 in
theorem ggX9_bestPays_X9_keptBy : GoodIn wsX9_bestPays wsX9_keptBy := goodIn_r _ [28, 29, 30, 31, 32, 33, 5, 34, 24, 35, 36, 37, 38, 39, 40, 41, 42, 43, 44, 45, 46, 47, 48, 49, 50, 51, 52, 53, 54, 55, 56, 57, 58, 59, 60, 61, 62, 63, 64, 65, 66, 67, 68, 69, 70, 71, 72, 73, 74, 75, 76, 77, 78, 79, 80, 81, 82, 83, 84, 96, 97, 98, 99, 100, 101, 102, 103, 104, 105, 106, 107, 108, 109, 110, 111, 112, 113, 114, 115, 116, 117, 118, 119, 120, 121, 122, 123, 124] (by decide +kernel) (by decide +kernel)
set_option maxRecDepth 20000 in
theorem gX9_bestPays_X9_keptBy : GoodIn wsX9_bestPays (wsV RX9 322 RX9 yX9_keptBy wsX9_keptBy) := goodIn_app (goodIn_of _ (by decide +kernel)) ggX9_bestPays_X9_keptBy
set_option maxRecDepth 20000 in
theorem ggX9_bestPays_X9_payOf : GoodIn wsX9_bestPays wsX9_payOf := goodIn_r _ [88, 30, 62, 63, 5, 64, 96, 97, 98, 99, 100, 101, 102, 103, 104, 105, 106, 107, 108, 109, 110, 111, 112, 113, 114, 115, 116, 117, 118, 119, 120, 121, 122, 123, 124] (by decide +kernel) (by decide +kernel)
set_option maxRecDepth 20000 in
theorem gX9_bestPays_X9_payOf : GoodIn wsX9_bestPays (wsV RX9 325 RX9 yX9_payOf wsX9_payOf) := goodIn_app (goodIn_of _ (by decide +kernel)) ggX9_bestPays_X9_payOf
theorem dX9_bestPays_0 : decode cX9_bestPays 0 = .ok (.aload_n 0, 1) := by decide +kernel
theorem dX9_bestPays_1 : decode cX9_bestPays 1 = .ok (.invokevirtual 153, 3) := by decide +kernel
theorem dX9_bestPays_4 : decode cX9_bestPays 4 = .ok (.aload_n 0, 1) := by decide +kernel
theorem dX9_bestPays_5 : decode cX9_bestPays 5 = .ok (.aload_n 0, 1) := by decide +kernel
theorem dX9_bestPays_6 : decode cX9_bestPays 6 = .ok (.getfield 166, 3) := by decide +kernel
theorem dX9_bestPays_9 : decode cX9_bestPays 9 = .ok (.iload_n 1, 1) := by decide +kernel
theorem dX9_bestPays_10 : decode cX9_bestPays 10 = .ok (.bipush 60, 2) := by decide +kernel
theorem dX9_bestPays_12 : decode cX9_bestPays 12 = .ok (.invokevirtual 292, 3) := by decide +kernel
theorem dX9_bestPays_15 : decode cX9_bestPays 15 = .ok (.istore_n 2, 1) := by decide +kernel
theorem dX9_bestPays_16 : decode cX9_bestPays 16 = .ok (.iload_n 2, 1) := by decide +kernel
theorem dX9_bestPays_17 : decode cX9_bestPays 17 = .ok (.ifCond .eq 11, 3) := by decide +kernel
theorem dX9_bestPays_20 : decode cX9_bestPays 20 = .ok (.aload_n 0, 1) := by decide +kernel
theorem dX9_bestPays_21 : decode cX9_bestPays 21 = .ok (.iload_n 2, 1) := by decide +kernel
theorem dX9_bestPays_22 : decode cX9_bestPays 22 = .ok (.invokevirtual 156, 3) := by decide +kernel
theorem dX9_bestPays_25 : decode cX9_bestPays 25 = .ok (.goto 17, 3) := by decide +kernel
theorem dX9_bestPays_28 : decode cX9_bestPays 28 = .ok (.aload_n 0, 1) := by decide +kernel
theorem dX9_bestPays_29 : decode cX9_bestPays 29 = .ok (.aload_n 0, 1) := by decide +kernel
theorem dX9_bestPays_30 : decode cX9_bestPays 30 = .ok (.aload_n 0, 1) := by decide +kernel
theorem dX9_bestPays_31 : decode cX9_bestPays 31 = .ok (.iload_n 1, 1) := by decide +kernel
theorem dX9_bestPays_32 : decode cX9_bestPays 32 = .ok (.invokevirtual 328, 3) := by decide +kernel
theorem dX9_bestPays_35 : decode cX9_bestPays 35 = .ok (.iload_n 1, 1) := by decide +kernel
theorem dX9_bestPays_36 : decode cX9_bestPays 36 = .ok (.invokevirtual 322, 3) := by decide +kernel
theorem dX9_bestPays_39 : decode cX9_bestPays 39 = .ok (.invokevirtual 325, 3) := by decide +kernel
theorem dX9_bestPays_42 : decode cX9_bestPays 42 = .ok (.ireturn, 1) := by decide +kernel
set_option maxRecDepth 20000 in
theorem ggX9_kept_X9_good : GoodIn wsX9_kept wsX9_good := goodIn_r _ [6, 7, 8, 74, 75, 76, 77, 78, 79, 80, 81, 82, 83, 84, 85, 86, 87, 88, 89, 90, 91, 92, 93, 94, 95, 96, 97, 98, 99, 100, 101, 102] (by decide +kernel) (by decide +kernel)
set_option maxRecDepth 20000 in
theorem gX9_kept_X9_good : GoodIn wsX9_kept (wsV RX9 153 RX9 yX9_good wsX9_good) := goodIn_app (goodIn_of _ (by decide +kernel)) ggX9_kept_X9_good
set_option maxRecDepth 20000 in
theorem ggX9_kept_X9_keptBy : GoodIn wsX9_kept wsX9_keptBy := goodIn_r _ [12, 13, 14, 15, 16, 17, 5, 18, 19, 20, 21, 22, 23, 24, 25, 26, 27, 28, 29, 30, 31, 32, 33, 34, 35, 36, 37, 38, 39, 40, 41, 42, 43, 44, 45, 46, 47, 48, 49, 50, 51, 52, 53, 54, 55, 56, 57, 58, 59, 60, 61, 62, 63, 64, 65, 66, 67, 68, 69, 74, 75, 76, 77, 78, 79, 80, 81, 82, 83, 84, 85, 86, 87, 88, 89, 90, 91, 92, 93, 94, 95, 96, 97, 98, 99, 100, 101, 102] (by decide +kernel) (by decide +kernel)
set_option maxRecDepth 20000 in
theorem gX9_kept_X9_keptBy : GoodIn wsX9_kept (wsV RX9 322 RX9 yX9_keptBy wsX9_keptBy) := goodIn_app (goodIn_of _ (by decide +kernel)) ggX9_kept_X9_keptBy
set_option maxRecDepth 20000 in
theorem ggX9_kept_X9_no : GoodIn wsX9_kept wsX9_no := goodIn_r _ [73, 8, 74, 75, 76, 77, 78, 79, 80, 81, 82, 83, 84, 85, 86, 87, 88, 89, 90, 91, 92, 93, 94, 95, 96, 97, 98, 99, 100, 101, 102] (by decide +kernel) (by decide +kernel)
set_option maxRecDepth 20000 in
theorem gX9_kept_X9_no : GoodIn wsX9_kept (wsV RX9 156 RX9 yX9_no wsX9_no) := goodIn_app (goodIn_of _ (by decide +kernel)) ggX9_kept_X9_no
theorem dX9_kept_0 : decode cX9_kept 0 = .ok (.aload_n 0, 1) := by decide +kernel
theorem dX9_kept_1 : decode cX9_kept 1 = .ok (.invokevirtual 153, 3) := by decide +kernel
theorem dX9_kept_4 : decode cX9_kept 4 = .ok (.aload_n 0, 1) := by decide +kernel
theorem dX9_kept_5 : decode cX9_kept 5 = .ok (.getfield 166, 3) := by decide +kernel
theorem dX9_kept_8 : decode cX9_kept 8 = .ok (.ifCond .eq 13, 3) := by decide +kernel
theorem dX9_kept_11 : decode cX9_kept 11 = .ok (.aload_n 0, 1) := by decide +kernel
theorem dX9_kept_12 : decode cX9_kept 12 = .ok (.iconst 0, 1) := by decide +kernel
theorem dX9_kept_13 : decode cX9_kept 13 = .ok (.bipush 60, 2) := by decide +kernel
theorem dX9_kept_15 : decode cX9_kept 15 = .ok (.invokevirtual 322, 3) := by decide +kernel
theorem dX9_kept_18 : decode cX9_kept 18 = .ok (.goto 8, 3) := by decide +kernel
theorem dX9_kept_21 : decode cX9_kept 21 = .ok (.aload_n 0, 1) := by decide +kernel
theorem dX9_kept_22 : decode cX9_kept 22 = .ok (.iconst 1, 1) := by decide +kernel
theorem dX9_kept_23 : decode cX9_kept 23 = .ok (.invokevirtual 156, 3) := by decide +kernel
theorem dX9_kept_26 : decode cX9_kept 26 = .ok (.ireturn, 1) := by decide +kernel
theorem dX9_isRule_0 : decode cX9_isRule 0 = .ok (.iconst 1, 1) := by decide +kernel
theorem dX9_isRule_1 : decode cX9_isRule 1 = .ok (.istore 4, 2) := by decide +kernel
theorem dX9_isRule_3 : decode cX9_isRule 3 = .ok (.iconst 0, 1) := by decide +kernel
theorem dX9_isRule_4 : decode cX9_isRule 4 = .ok (.istore 5, 2) := by decide +kernel
theorem dX9_isRule_6 : decode cX9_isRule 6 = .ok (.iload 5, 2) := by decide +kernel
theorem dX9_isRule_8 : decode cX9_isRule 8 = .ok (.aload_n 0, 1) := by decide +kernel
theorem dX9_isRule_9 : decode cX9_isRule 9 = .ok (.getfield 20, 3) := by decide +kernel
theorem dX9_isRule_12 : decode cX9_isRule 12 = .ok (.bipush 7, 2) := by decide +kernel
theorem dX9_isRule_14 : decode cX9_isRule 14 = .ok (.iaload, 1) := by decide +kernel
theorem dX9_isRule_15 : decode cX9_isRule 15 = .ok (.if_icmp .ge 87, 3) := by decide +kernel
theorem dX9_isRule_18 : decode cX9_isRule 18 = .ok (.iload 4, 2) := by decide +kernel
theorem dX9_isRule_20 : decode cX9_isRule 20 = .ok (.ifCond .eq 73, 3) := by decide +kernel
theorem dX9_isRule_23 : decode cX9_isRule 23 = .ok (.iload_n 3, 1) := by decide +kernel
theorem dX9_isRule_24 : decode cX9_isRule 24 = .ok (.iload_n 2, 1) := by decide +kernel
theorem dX9_isRule_25 : decode cX9_isRule 25 = .ok (.aload_n 0, 1) := by decide +kernel
theorem dX9_isRule_26 : decode cX9_isRule 26 = .ok (.getfield 20, 3) := by decide +kernel
theorem dX9_isRule_29 : decode cX9_isRule 29 = .ok (.bipush 107, 2) := by decide +kernel
theorem dX9_isRule_31 : decode cX9_isRule 31 = .ok (.iconst 3, 1) := by decide +kernel
theorem dX9_isRule_32 : decode cX9_isRule 32 = .ok (.iload 5, 2) := by decide +kernel
theorem dX9_isRule_34 : decode cX9_isRule 34 = .ok (.imul, 1) := by decide +kernel
theorem dX9_isRule_35 : decode cX9_isRule 35 = .ok (.iadd, 1) := by decide +kernel
theorem dX9_isRule_36 : decode cX9_isRule 36 = .ok (.iaload, 1) := by decide +kernel
theorem dX9_isRule_37 : decode cX9_isRule 37 = .ok (.imul, 1) := by decide +kernel
theorem dX9_isRule_38 : decode cX9_isRule 38 = .ok (.iadd, 1) := by decide +kernel
theorem dX9_isRule_39 : decode cX9_isRule 39 = .ok (.iload_n 1, 1) := by decide +kernel
theorem dX9_isRule_40 : decode cX9_isRule 40 = .ok (.irem, 1) := by decide +kernel
theorem dX9_isRule_41 : decode cX9_isRule 41 = .ok (.aload_n 0, 1) := by decide +kernel
theorem dX9_isRule_42 : decode cX9_isRule 42 = .ok (.getfield 20, 3) := by decide +kernel
theorem dX9_isRule_45 : decode cX9_isRule 45 = .ok (.bipush 107, 2) := by decide +kernel
theorem dX9_isRule_47 : decode cX9_isRule 47 = .ok (.iconst 3, 1) := by decide +kernel
theorem dX9_isRule_48 : decode cX9_isRule 48 = .ok (.iload 5, 2) := by decide +kernel
theorem dX9_isRule_50 : decode cX9_isRule 50 = .ok (.imul, 1) := by decide +kernel
theorem dX9_isRule_51 : decode cX9_isRule 51 = .ok (.iadd, 1) := by decide +kernel
theorem dX9_isRule_52 : decode cX9_isRule 52 = .ok (.iconst 1, 1) := by decide +kernel
theorem dX9_isRule_53 : decode cX9_isRule 53 = .ok (.iadd, 1) := by decide +kernel
theorem dX9_isRule_54 : decode cX9_isRule 54 = .ok (.iaload, 1) := by decide +kernel
theorem dX9_isRule_55 : decode cX9_isRule 55 = .ok (.if_icmp .ne 7, 3) := by decide +kernel
theorem dX9_isRule_58 : decode cX9_isRule 58 = .ok (.iconst 1, 1) := by decide +kernel
theorem dX9_isRule_59 : decode cX9_isRule 59 = .ok (.goto 4, 3) := by decide +kernel
theorem dX9_isRule_62 : decode cX9_isRule 62 = .ok (.iconst 0, 1) := by decide +kernel
theorem dX9_isRule_63 : decode cX9_isRule 63 = .ok (.aload_n 0, 1) := by decide +kernel
theorem dX9_isRule_64 : decode cX9_isRule 64 = .ok (.getfield 20, 3) := by decide +kernel
theorem dX9_isRule_67 : decode cX9_isRule 67 = .ok (.bipush 107, 2) := by decide +kernel
theorem dX9_isRule_69 : decode cX9_isRule 69 = .ok (.iconst 3, 1) := by decide +kernel
theorem dX9_isRule_70 : decode cX9_isRule 70 = .ok (.iload 5, 2) := by decide +kernel
theorem dX9_isRule_72 : decode cX9_isRule 72 = .ok (.imul, 1) := by decide +kernel
theorem dX9_isRule_73 : decode cX9_isRule 73 = .ok (.iadd, 1) := by decide +kernel
theorem dX9_isRule_74 : decode cX9_isRule 74 = .ok (.iconst 2, 1) := by decide +kernel
theorem dX9_isRule_75 : decode cX9_isRule 75 = .ok (.iadd, 1) := by decide +kernel
theorem dX9_isRule_76 : decode cX9_isRule 76 = .ok (.iaload, 1) := by decide +kernel
theorem dX9_isRule_77 : decode cX9_isRule 77 = .ok (.iconst 1, 1) := by decide +kernel
theorem dX9_isRule_78 : decode cX9_isRule 78 = .ok (.if_icmp .ne 7, 3) := by decide +kernel
theorem dX9_isRule_81 : decode cX9_isRule 81 = .ok (.iconst 1, 1) := by decide +kernel
theorem dX9_isRule_82 : decode cX9_isRule 82 = .ok (.goto 4, 3) := by decide +kernel
theorem dX9_isRule_85 : decode cX9_isRule 85 = .ok (.iconst 0, 1) := by decide +kernel
theorem dX9_isRule_86 : decode cX9_isRule 86 = .ok (.if_icmp .ne 7, 3) := by decide +kernel
theorem dX9_isRule_89 : decode cX9_isRule 89 = .ok (.iconst 1, 1) := by decide +kernel
theorem dX9_isRule_90 : decode cX9_isRule 90 = .ok (.goto 4, 3) := by decide +kernel
theorem dX9_isRule_93 : decode cX9_isRule 93 = .ok (.iconst 0, 1) := by decide +kernel
theorem dX9_isRule_94 : decode cX9_isRule 94 = .ok (.istore 4, 2) := by decide +kernel
theorem dX9_isRule_96 : decode cX9_isRule 96 = .ok (.iinc 5 1, 3) := by decide +kernel
theorem dX9_isRule_99 : decode cX9_isRule 99 = .ok (.goto (-93), 3) := by decide +kernel
theorem dX9_isRule_102 : decode cX9_isRule 102 = .ok (.iload 4, 2) := by decide +kernel
theorem dX9_isRule_104 : decode cX9_isRule 104 = .ok (.ireturn, 1) := by decide +kernel
set_option maxRecDepth 20000 in
theorem ggX9_rulesBy_X9_isRule : GoodIn wsX9_rulesBy wsX9_isRule := goodIn_r _ [5, 6, 7, 8, 9, 10, 11, 12, 13, 14, 15, 16, 17, 18, 19, 20, 21, 22, 23, 24, 25, 26, 27, 28, 29, 30, 31, 32, 33, 34, 35] (by decide +kernel) (by decide +kernel)
set_option maxRecDepth 20000 in
theorem gX9_rulesBy_X9_isRule : GoodIn wsX9_rulesBy (wsV RX9 331 RX9 yX9_isRule wsX9_isRule) := goodIn_app (goodIn_of _ (by decide +kernel)) ggX9_rulesBy_X9_isRule
theorem dX9_rulesBy_0 : decode cX9_rulesBy 0 = .ok (.iconst 0, 1) := by decide +kernel
theorem dX9_rulesBy_1 : decode cX9_rulesBy 1 = .ok (.istore 4, 2) := by decide +kernel
theorem dX9_rulesBy_3 : decode cX9_rulesBy 3 = .ok (.iconst 2, 1) := by decide +kernel
theorem dX9_rulesBy_4 : decode cX9_rulesBy 4 = .ok (.istore 5, 2) := by decide +kernel
theorem dX9_rulesBy_6 : decode cX9_rulesBy 6 = .ok (.iload 5, 2) := by decide +kernel
theorem dX9_rulesBy_8 : decode cX9_rulesBy 8 = .ok (.bipush 12, 2) := by decide +kernel
theorem dX9_rulesBy_10 : decode cX9_rulesBy 10 = .ok (.if_icmp .gt 82, 3) := by decide +kernel
theorem dX9_rulesBy_13 : decode cX9_rulesBy 13 = .ok (.iconst 1, 1) := by decide +kernel
theorem dX9_rulesBy_14 : decode cX9_rulesBy 14 = .ok (.istore 6, 2) := by decide +kernel
theorem dX9_rulesBy_16 : decode cX9_rulesBy 16 = .ok (.iload 6, 2) := by decide +kernel
theorem dX9_rulesBy_18 : decode cX9_rulesBy 18 = .ok (.iload 5, 2) := by decide +kernel
theorem dX9_rulesBy_20 : decode cX9_rulesBy 20 = .ok (.if_icmp .ge 66, 3) := by decide +kernel
theorem dX9_rulesBy_23 : decode cX9_rulesBy 23 = .ok (.iconst 0, 1) := by decide +kernel
theorem dX9_rulesBy_24 : decode cX9_rulesBy 24 = .ok (.istore 7, 2) := by decide +kernel
theorem dX9_rulesBy_26 : decode cX9_rulesBy 26 = .ok (.iload 7, 2) := by decide +kernel
theorem dX9_rulesBy_28 : decode cX9_rulesBy 28 = .ok (.iload 5, 2) := by decide +kernel
theorem dX9_rulesBy_30 : decode cX9_rulesBy 30 = .ok (.if_icmp .ge 50, 3) := by decide +kernel
theorem dX9_rulesBy_33 : decode cX9_rulesBy 33 = .ok (.iload 4, 2) := by decide +kernel
theorem dX9_rulesBy_35 : decode cX9_rulesBy 35 = .ok (.aload_n 0, 1) := by decide +kernel
theorem dX9_rulesBy_36 : decode cX9_rulesBy 36 = .ok (.iload 5, 2) := by decide +kernel
theorem dX9_rulesBy_38 : decode cX9_rulesBy 38 = .ok (.iload 6, 2) := by decide +kernel
theorem dX9_rulesBy_40 : decode cX9_rulesBy 40 = .ok (.iload 7, 2) := by decide +kernel
theorem dX9_rulesBy_42 : decode cX9_rulesBy 42 = .ok (.invokevirtual 331, 3) := by decide +kernel
theorem dX9_rulesBy_45 : decode cX9_rulesBy 45 = .ok (.ifCond .eq 25, 3) := by decide +kernel
theorem dX9_rulesBy_48 : decode cX9_rulesBy 48 = .ok (.iload_n 1, 1) := by decide +kernel
theorem dX9_rulesBy_49 : decode cX9_rulesBy 49 = .ok (.ifCond .ne 17, 3) := by decide +kernel
theorem dX9_rulesBy_52 : decode cX9_rulesBy 52 = .ok (.iload 7, 2) := by decide +kernel
theorem dX9_rulesBy_54 : decode cX9_rulesBy 54 = .ok (.iload 6, 2) := by decide +kernel
theorem dX9_rulesBy_56 : decode cX9_rulesBy 56 = .ok (.iload_n 2, 1) := by decide +kernel
theorem dX9_rulesBy_57 : decode cX9_rulesBy 57 = .ok (.imul, 1) := by decide +kernel
theorem dX9_rulesBy_58 : decode cX9_rulesBy 58 = .ok (.iadd, 1) := by decide +kernel
theorem dX9_rulesBy_59 : decode cX9_rulesBy 59 = .ok (.iload 5, 2) := by decide +kernel
theorem dX9_rulesBy_61 : decode cX9_rulesBy 61 = .ok (.irem, 1) := by decide +kernel
theorem dX9_rulesBy_62 : decode cX9_rulesBy 62 = .ok (.iload_n 3, 1) := by decide +kernel
theorem dX9_rulesBy_63 : decode cX9_rulesBy 63 = .ok (.if_icmp .ne 7, 3) := by decide +kernel
theorem dX9_rulesBy_66 : decode cX9_rulesBy 66 = .ok (.iconst 1, 1) := by decide +kernel
theorem dX9_rulesBy_67 : decode cX9_rulesBy 67 = .ok (.goto 4, 3) := by decide +kernel
theorem dX9_rulesBy_70 : decode cX9_rulesBy 70 = .ok (.iconst 0, 1) := by decide +kernel
theorem dX9_rulesBy_71 : decode cX9_rulesBy 71 = .ok (.iadd, 1) := by decide +kernel
theorem dX9_rulesBy_72 : decode cX9_rulesBy 72 = .ok (.istore 4, 2) := by decide +kernel
theorem dX9_rulesBy_74 : decode cX9_rulesBy 74 = .ok (.iinc 7 1, 3) := by decide +kernel
theorem dX9_rulesBy_77 : decode cX9_rulesBy 77 = .ok (.goto (-51), 3) := by decide +kernel
theorem dX9_rulesBy_80 : decode cX9_rulesBy 80 = .ok (.iinc 6 1, 3) := by decide +kernel
theorem dX9_rulesBy_83 : decode cX9_rulesBy 83 = .ok (.goto (-67), 3) := by decide +kernel
theorem dX9_rulesBy_86 : decode cX9_rulesBy 86 = .ok (.iinc 5 1, 3) := by decide +kernel
theorem dX9_rulesBy_89 : decode cX9_rulesBy 89 = .ok (.goto (-83), 3) := by decide +kernel
theorem dX9_rulesBy_92 : decode cX9_rulesBy 92 = .ok (.iload 4, 2) := by decide +kernel
theorem dX9_rulesBy_94 : decode cX9_rulesBy 94 = .ok (.ireturn, 1) := by decide +kernel
set_option maxRecDepth 20000 in
theorem ggX9_rules_X9_good : GoodIn wsX9_rules wsX9_good := goodIn_r _ [6, 7, 8, 22, 23, 24, 25, 26, 27, 28, 29, 30, 31, 32, 33, 34, 35, 36, 37, 38, 39, 40, 41, 42, 43, 44, 45, 46, 47, 48, 49, 50] (by decide +kernel) (by decide +kernel)
set_option maxRecDepth 20000 in
theorem gX9_rules_X9_good : GoodIn wsX9_rules (wsV RX9 153 RX9 yX9_good wsX9_good) := goodIn_app (goodIn_of _ (by decide +kernel)) ggX9_rules_X9_good
set_option maxRecDepth 20000 in
theorem ggX9_rules_X9_rulesBy : GoodIn wsX9_rules wsX9_rulesBy := goodIn_r _ [12, 13, 14, 15, 5, 16, 17, 22, 23, 24, 25, 26, 27, 28, 29, 30, 31, 32, 33, 34, 35, 36, 37, 38, 39, 40, 41, 42, 43, 44, 45, 46, 47, 48, 49, 50] (by decide +kernel) (by decide +kernel)
set_option maxRecDepth 20000 in
theorem gX9_rules_X9_rulesBy : GoodIn wsX9_rules (wsV RX9 334 RX9 yX9_rulesBy wsX9_rulesBy) := goodIn_app (goodIn_of _ (by decide +kernel)) ggX9_rules_X9_rulesBy
set_option maxRecDepth 20000 in
theorem ggX9_rules_X9_no : GoodIn wsX9_rules wsX9_no := goodIn_r _ [21, 8, 22, 23, 24, 25, 26, 27, 28, 29, 30, 31, 32, 33, 34, 35, 36, 37, 38, 39, 40, 41, 42, 43, 44, 45, 46, 47, 48, 49, 50] (by decide +kernel) (by decide +kernel)
set_option maxRecDepth 20000 in
theorem gX9_rules_X9_no : GoodIn wsX9_rules (wsV RX9 156 RX9 yX9_no wsX9_no) := goodIn_app (goodIn_of _ (by decide +kernel)) ggX9_rules_X9_no
theorem dX9_rules_0 : decode cX9_rules 0 = .ok (.aload_n 0, 1) := by decide +kernel
theorem dX9_rules_1 : decode cX9_rules 1 = .ok (.invokevirtual 153, 3) := by decide +kernel
theorem dX9_rules_4 : decode cX9_rules 4 = .ok (.aload_n 0, 1) := by decide +kernel
theorem dX9_rules_5 : decode cX9_rules 5 = .ok (.getfield 166, 3) := by decide +kernel
theorem dX9_rules_8 : decode cX9_rules 8 = .ok (.ifCond .eq 13, 3) := by decide +kernel
theorem dX9_rules_11 : decode cX9_rules 11 = .ok (.aload_n 0, 1) := by decide +kernel
theorem dX9_rules_12 : decode cX9_rules 12 = .ok (.iconst 1, 1) := by decide +kernel
theorem dX9_rules_13 : decode cX9_rules 13 = .ok (.iconst 0, 1) := by decide +kernel
theorem dX9_rules_14 : decode cX9_rules 14 = .ok (.iconst 0, 1) := by decide +kernel
theorem dX9_rules_15 : decode cX9_rules 15 = .ok (.invokevirtual 334, 3) := by decide +kernel
theorem dX9_rules_18 : decode cX9_rules 18 = .ok (.goto 8, 3) := by decide +kernel
theorem dX9_rules_21 : decode cX9_rules 21 = .ok (.aload_n 0, 1) := by decide +kernel
theorem dX9_rules_22 : decode cX9_rules 22 = .ok (.iconst 1, 1) := by decide +kernel
theorem dX9_rules_23 : decode cX9_rules 23 = .ok (.invokevirtual 156, 3) := by decide +kernel
theorem dX9_rules_26 : decode cX9_rules 26 = .ok (.ireturn, 1) := by decide +kernel
set_option maxRecDepth 20000 in
theorem ggX9_ruleAt_X9_good : GoodIn wsX9_ruleAt wsX9_good := goodIn_r _ [6, 7, 8, 18, 19, 20, 21, 22, 23, 24, 25, 26, 27, 28, 29, 30, 31, 32, 33, 34, 35, 36, 37, 38, 39, 40, 41, 42, 43, 44, 45, 46] (by decide +kernel) (by decide +kernel)
set_option maxRecDepth 20000 in
theorem gX9_ruleAt_X9_good : GoodIn wsX9_ruleAt (wsV RX9 153 RX9 yX9_good wsX9_good) := goodIn_app (goodIn_of _ (by decide +kernel)) ggX9_ruleAt_X9_good
set_option maxRecDepth 20000 in
theorem ggX9_ruleAt_X9_no : GoodIn wsX9_ruleAt wsX9_no := goodIn_r _ [12, 8, 18, 19, 20, 21, 22, 23, 24, 25, 26, 27, 28, 29, 30, 31, 32, 33, 34, 35, 36, 37, 38, 39, 40, 41, 42, 43, 44, 45, 46] (by decide +kernel) (by decide +kernel)
set_option maxRecDepth 20000 in
theorem gX9_ruleAt_X9_no : GoodIn wsX9_ruleAt (wsV RX9 156 RX9 yX9_no wsX9_no) := goodIn_app (goodIn_of _ (by decide +kernel)) ggX9_ruleAt_X9_no
set_option maxRecDepth 20000 in
theorem ggX9_ruleAt_X9_isRule : GoodIn wsX9_ruleAt wsX9_isRule := goodIn_r _ [16, 17, 18, 19, 20, 21, 22, 23, 24, 25, 26, 27, 28, 29, 30, 31, 32, 33, 34, 35, 36, 37, 38, 39, 40, 41, 42, 43, 44, 45, 46] (by decide +kernel) (by decide +kernel)
set_option maxRecDepth 20000 in
theorem gX9_ruleAt_X9_isRule : GoodIn wsX9_ruleAt (wsV RX9 331 RX9 yX9_isRule wsX9_isRule) := goodIn_app (goodIn_of _ (by decide +kernel)) ggX9_ruleAt_X9_isRule
theorem dX9_ruleAt_0 : decode cX9_ruleAt 0 = .ok (.aload_n 0, 1) := by decide +kernel
theorem dX9_ruleAt_1 : decode cX9_ruleAt 1 = .ok (.invokevirtual 153, 3) := by decide +kernel
theorem dX9_ruleAt_4 : decode cX9_ruleAt 4 = .ok (.aload_n 0, 1) := by decide +kernel
theorem dX9_ruleAt_5 : decode cX9_ruleAt 5 = .ok (.getfield 166, 3) := by decide +kernel
theorem dX9_ruleAt_8 : decode cX9_ruleAt 8 = .ok (.ifCond .ne 9, 3) := by decide +kernel
theorem dX9_ruleAt_11 : decode cX9_ruleAt 11 = .ok (.aload_n 0, 1) := by decide +kernel
theorem dX9_ruleAt_12 : decode cX9_ruleAt 12 = .ok (.iconst 1, 1) := by decide +kernel
theorem dX9_ruleAt_13 : decode cX9_ruleAt 13 = .ok (.invokevirtual 156, 3) := by decide +kernel
theorem dX9_ruleAt_16 : decode cX9_ruleAt 16 = .ok (.ireturn, 1) := by decide +kernel
theorem dX9_ruleAt_17 : decode cX9_ruleAt 17 = .ok (.iconst 0, 1) := by decide +kernel
theorem dX9_ruleAt_18 : decode cX9_ruleAt 18 = .ok (.istore_n 2, 1) := by decide +kernel
theorem dX9_ruleAt_19 : decode cX9_ruleAt 19 = .ok (.iconst 2, 1) := by decide +kernel
theorem dX9_ruleAt_20 : decode cX9_ruleAt 20 = .ok (.istore_n 3, 1) := by decide +kernel
theorem dX9_ruleAt_21 : decode cX9_ruleAt 21 = .ok (.iload_n 3, 1) := by decide +kernel
theorem dX9_ruleAt_22 : decode cX9_ruleAt 22 = .ok (.bipush 12, 2) := by decide +kernel
theorem dX9_ruleAt_24 : decode cX9_ruleAt 24 = .ok (.if_icmp .gt 77, 3) := by decide +kernel
theorem dX9_ruleAt_27 : decode cX9_ruleAt 27 = .ok (.iconst 1, 1) := by decide +kernel
theorem dX9_ruleAt_28 : decode cX9_ruleAt 28 = .ok (.istore 4, 2) := by decide +kernel
theorem dX9_ruleAt_30 : decode cX9_ruleAt 30 = .ok (.iload 4, 2) := by decide +kernel
theorem dX9_ruleAt_32 : decode cX9_ruleAt 32 = .ok (.iload_n 3, 1) := by decide +kernel
theorem dX9_ruleAt_33 : decode cX9_ruleAt 33 = .ok (.if_icmp .ge 62, 3) := by decide +kernel
theorem dX9_ruleAt_36 : decode cX9_ruleAt 36 = .ok (.iconst 0, 1) := by decide +kernel
theorem dX9_ruleAt_37 : decode cX9_ruleAt 37 = .ok (.istore 5, 2) := by decide +kernel
theorem dX9_ruleAt_39 : decode cX9_ruleAt 39 = .ok (.iload 5, 2) := by decide +kernel
theorem dX9_ruleAt_41 : decode cX9_ruleAt 41 = .ok (.iload_n 3, 1) := by decide +kernel
theorem dX9_ruleAt_42 : decode cX9_ruleAt 42 = .ok (.if_icmp .ge 47, 3) := by decide +kernel
theorem dX9_ruleAt_45 : decode cX9_ruleAt 45 = .ok (.aload_n 0, 1) := by decide +kernel
theorem dX9_ruleAt_46 : decode cX9_ruleAt 46 = .ok (.iload_n 3, 1) := by decide +kernel
theorem dX9_ruleAt_47 : decode cX9_ruleAt 47 = .ok (.iload 4, 2) := by decide +kernel
theorem dX9_ruleAt_49 : decode cX9_ruleAt 49 = .ok (.iload 5, 2) := by decide +kernel
theorem dX9_ruleAt_51 : decode cX9_ruleAt 51 = .ok (.invokevirtual 331, 3) := by decide +kernel
theorem dX9_ruleAt_54 : decode cX9_ruleAt 54 = .ok (.ifCond .ne 6, 3) := by decide +kernel
theorem dX9_ruleAt_57 : decode cX9_ruleAt 57 = .ok (.goto 26, 3) := by decide +kernel
theorem dX9_ruleAt_60 : decode cX9_ruleAt 60 = .ok (.iload_n 2, 1) := by decide +kernel
theorem dX9_ruleAt_61 : decode cX9_ruleAt 61 = .ok (.iload_n 1, 1) := by decide +kernel
theorem dX9_ruleAt_62 : decode cX9_ruleAt 62 = .ok (.if_icmp .ne 18, 3) := by decide +kernel
theorem dX9_ruleAt_65 : decode cX9_ruleAt 65 = .ok (.sipush 10000, 3) := by decide +kernel
theorem dX9_ruleAt_68 : decode cX9_ruleAt 68 = .ok (.iload_n 3, 1) := by decide +kernel
theorem dX9_ruleAt_69 : decode cX9_ruleAt 69 = .ok (.imul, 1) := by decide +kernel
theorem dX9_ruleAt_70 : decode cX9_ruleAt 70 = .ok (.bipush 100, 2) := by decide +kernel
theorem dX9_ruleAt_72 : decode cX9_ruleAt 72 = .ok (.iload 4, 2) := by decide +kernel
theorem dX9_ruleAt_74 : decode cX9_ruleAt 74 = .ok (.imul, 1) := by decide +kernel
theorem dX9_ruleAt_75 : decode cX9_ruleAt 75 = .ok (.iadd, 1) := by decide +kernel
theorem dX9_ruleAt_76 : decode cX9_ruleAt 76 = .ok (.iload 5, 2) := by decide +kernel
theorem dX9_ruleAt_78 : decode cX9_ruleAt 78 = .ok (.iadd, 1) := by decide +kernel
theorem dX9_ruleAt_79 : decode cX9_ruleAt 79 = .ok (.ireturn, 1) := by decide +kernel
theorem dX9_ruleAt_80 : decode cX9_ruleAt 80 = .ok (.iinc 2 1, 3) := by decide +kernel
theorem dX9_ruleAt_83 : decode cX9_ruleAt 83 = .ok (.iinc 5 1, 3) := by decide +kernel
theorem dX9_ruleAt_86 : decode cX9_ruleAt 86 = .ok (.goto (-47), 3) := by decide +kernel
theorem dX9_ruleAt_89 : decode cX9_ruleAt 89 = .ok (.iinc 4 1, 3) := by decide +kernel
theorem dX9_ruleAt_92 : decode cX9_ruleAt 92 = .ok (.goto (-62), 3) := by decide +kernel
theorem dX9_ruleAt_95 : decode cX9_ruleAt 95 = .ok (.iinc 3 1, 3) := by decide +kernel
theorem dX9_ruleAt_98 : decode cX9_ruleAt 98 = .ok (.goto (-77), 3) := by decide +kernel
theorem dX9_ruleAt_101 : decode cX9_ruleAt 101 = .ok (.aload_n 0, 1) := by decide +kernel
theorem dX9_ruleAt_102 : decode cX9_ruleAt 102 = .ok (.iconst 1, 1) := by decide +kernel
theorem dX9_ruleAt_103 : decode cX9_ruleAt 103 = .ok (.invokevirtual 156, 3) := by decide +kernel
theorem dX9_ruleAt_106 : decode cX9_ruleAt 106 = .ok (.ireturn, 1) := by decide +kernel
set_option maxRecDepth 20000 in
theorem ggX9_there_X9_good : GoodIn wsX9_there wsX9_good := goodIn_r _ [6, 7, 8, 25, 26, 27, 28, 29, 30, 31, 32, 33, 34, 35, 36, 37, 38, 39, 40, 41, 42, 43, 44, 45, 46, 47, 48, 49, 50, 51, 52, 53] (by decide +kernel) (by decide +kernel)
set_option maxRecDepth 20000 in
theorem gX9_there_X9_good : GoodIn wsX9_there (wsV RX9 153 RX9 yX9_good wsX9_good) := goodIn_app (goodIn_of _ (by decide +kernel)) ggX9_there_X9_good
set_option maxRecDepth 20000 in
theorem ggX9_there_X9_no : GoodIn wsX9_there wsX9_no := goodIn_r _ [12, 8, 25, 26, 27, 28, 29, 30, 31, 32, 33, 34, 35, 36, 37, 38, 39, 40, 41, 42, 43, 44, 45, 46, 47, 48, 49, 50, 51, 52, 53] (by decide +kernel) (by decide +kernel)
set_option maxRecDepth 20000 in
theorem gX9_there_X9_no : GoodIn wsX9_there (wsV RX9 156 RX9 yX9_no wsX9_no) := goodIn_app (goodIn_of _ (by decide +kernel)) ggX9_there_X9_no
set_option maxRecDepth 20000 in
theorem ggX9_there_X9_in : GoodIn wsX9_there wsX9_in := goodIn_r _ [15] (by decide +kernel) (by decide +kernel)
set_option maxRecDepth 20000 in
theorem gX9_there_X9_in : GoodIn wsX9_there (va_wsS RX9 135 yX9_in wsX9_in) := goodIn_app (goodIn_of _ (by decide +kernel)) ggX9_there_X9_in
set_option maxRecDepth 20000 in
theorem ggX9_there_X9_rulesBy : GoodIn wsX9_there wsX9_rulesBy := goodIn_r _ [19, 20, 21, 22, 5, 23, 24, 25, 26, 27, 28, 29, 30, 31, 32, 33, 34, 35, 36, 37, 38, 39, 40, 41, 42, 43, 44, 45, 46, 47, 48, 49, 50, 51, 52, 53] (by decide +kernel) (by decide +kernel)
set_option maxRecDepth 20000 in
theorem gX9_there_X9_rulesBy : GoodIn wsX9_there (wsV RX9 334 RX9 yX9_rulesBy wsX9_rulesBy) := goodIn_app (goodIn_of _ (by decide +kernel)) ggX9_there_X9_rulesBy
theorem dX9_there_0 : decode cX9_there 0 = .ok (.aload_n 0, 1) := by decide +kernel
theorem dX9_there_1 : decode cX9_there 1 = .ok (.invokevirtual 153, 3) := by decide +kernel
theorem dX9_there_4 : decode cX9_there 4 = .ok (.aload_n 0, 1) := by decide +kernel
theorem dX9_there_5 : decode cX9_there 5 = .ok (.getfield 166, 3) := by decide +kernel
theorem dX9_there_8 : decode cX9_there 8 = .ok (.ifCond .ne 9, 3) := by decide +kernel
theorem dX9_there_11 : decode cX9_there 11 = .ok (.aload_n 0, 1) := by decide +kernel
theorem dX9_there_12 : decode cX9_there 12 = .ok (.iconst 1, 1) := by decide +kernel
theorem dX9_there_13 : decode cX9_there 13 = .ok (.invokevirtual 156, 3) := by decide +kernel
theorem dX9_there_16 : decode cX9_there 16 = .ok (.ireturn, 1) := by decide +kernel
theorem dX9_there_17 : decode cX9_there 17 = .ok (.iload_n 1, 1) := by decide +kernel
theorem dX9_there_18 : decode cX9_there 18 = .ok (.iconst 0, 1) := by decide +kernel
theorem dX9_there_19 : decode cX9_there 19 = .ok (.bipush 99, 2) := by decide +kernel
theorem dX9_there_21 : decode cX9_there 21 = .ok (.invokestatic 135, 3) := by decide +kernel
theorem dX9_there_24 : decode cX9_there 24 = .ok (.ifCond .eq 23, 3) := by decide +kernel
theorem dX9_there_27 : decode cX9_there 27 = .ok (.iload_n 2, 1) := by decide +kernel
theorem dX9_there_28 : decode cX9_there 28 = .ok (.iconst 0, 1) := by decide +kernel
theorem dX9_there_29 : decode cX9_there 29 = .ok (.bipush 11, 2) := by decide +kernel
theorem dX9_there_31 : decode cX9_there 31 = .ok (.invokestatic 135, 3) := by decide +kernel
theorem dX9_there_34 : decode cX9_there 34 = .ok (.ifCond .eq 13, 3) := by decide +kernel
theorem dX9_there_37 : decode cX9_there 37 = .ok (.aload_n 0, 1) := by decide +kernel
theorem dX9_there_38 : decode cX9_there 38 = .ok (.iconst 0, 1) := by decide +kernel
theorem dX9_there_39 : decode cX9_there 39 = .ok (.iload_n 1, 1) := by decide +kernel
theorem dX9_there_40 : decode cX9_there 40 = .ok (.iload_n 2, 1) := by decide +kernel
theorem dX9_there_41 : decode cX9_there 41 = .ok (.invokevirtual 334, 3) := by decide +kernel
theorem dX9_there_44 : decode cX9_there 44 = .ok (.goto 8, 3) := by decide +kernel
theorem dX9_there_47 : decode cX9_there 47 = .ok (.aload_n 0, 1) := by decide +kernel
theorem dX9_there_48 : decode cX9_there 48 = .ok (.iconst 2, 1) := by decide +kernel
theorem dX9_there_49 : decode cX9_there 49 = .ok (.invokevirtual 156, 3) := by decide +kernel
theorem dX9_there_52 : decode cX9_there 52 = .ok (.ireturn, 1) := by decide +kernel
set_option maxRecDepth 20000 in
theorem ggX9_surely_X9_good : GoodIn wsX9_surely wsX9_good := goodIn_r _ [6, 7, 8, 25, 26, 27, 28, 29, 30, 31, 32, 33, 34, 35, 36, 37, 38, 39, 40, 41, 42, 43, 44, 45, 46, 47, 48, 49, 50, 51, 52, 53] (by decide +kernel) (by decide +kernel)
set_option maxRecDepth 20000 in
theorem gX9_surely_X9_good : GoodIn wsX9_surely (wsV RX9 153 RX9 yX9_good wsX9_good) := goodIn_app (goodIn_of _ (by decide +kernel)) ggX9_surely_X9_good
set_option maxRecDepth 20000 in
theorem ggX9_surely_X9_no : GoodIn wsX9_surely wsX9_no := goodIn_r _ [12, 8, 25, 26, 27, 28, 29, 30, 31, 32, 33, 34, 35, 36, 37, 38, 39, 40, 41, 42, 43, 44, 45, 46, 47, 48, 49, 50, 51, 52, 53] (by decide +kernel) (by decide +kernel)
set_option maxRecDepth 20000 in
theorem gX9_surely_X9_no : GoodIn wsX9_surely (wsV RX9 156 RX9 yX9_no wsX9_no) := goodIn_app (goodIn_of _ (by decide +kernel)) ggX9_surely_X9_no
set_option maxRecDepth 20000 in
theorem ggX9_surely_X9_in : GoodIn wsX9_surely wsX9_in := goodIn_r _ [15] (by decide +kernel) (by decide +kernel)
set_option maxRecDepth 20000 in
theorem gX9_surely_X9_in : GoodIn wsX9_surely (va_wsS RX9 135 yX9_in wsX9_in) := goodIn_app (goodIn_of _ (by decide +kernel)) ggX9_surely_X9_in
set_option maxRecDepth 20000 in
theorem ggX9_surely_X9_rulesBy : GoodIn wsX9_surely wsX9_rulesBy := goodIn_r _ [19, 20, 21, 22, 5, 23, 24, 25, 26, 27, 28, 29, 30, 31, 32, 33, 34, 35, 36, 37, 38, 39, 40, 41, 42, 43, 44, 45, 46, 47, 48, 49, 50, 51, 52, 53] (by decide +kernel) (by decide +kernel)
set_option maxRecDepth 20000 in
theorem gX9_surely_X9_rulesBy : GoodIn wsX9_surely (wsV RX9 334 RX9 yX9_rulesBy wsX9_rulesBy) := goodIn_app (goodIn_of _ (by decide +kernel)) ggX9_surely_X9_rulesBy
theorem dX9_surely_0 : decode cX9_surely 0 = .ok (.aload_n 0, 1) := by decide +kernel
theorem dX9_surely_1 : decode cX9_surely 1 = .ok (.invokevirtual 153, 3) := by decide +kernel
theorem dX9_surely_4 : decode cX9_surely 4 = .ok (.aload_n 0, 1) := by decide +kernel
theorem dX9_surely_5 : decode cX9_surely 5 = .ok (.getfield 166, 3) := by decide +kernel
theorem dX9_surely_8 : decode cX9_surely 8 = .ok (.ifCond .ne 9, 3) := by decide +kernel
theorem dX9_surely_11 : decode cX9_surely 11 = .ok (.aload_n 0, 1) := by decide +kernel
theorem dX9_surely_12 : decode cX9_surely 12 = .ok (.iconst 1, 1) := by decide +kernel
theorem dX9_surely_13 : decode cX9_surely 13 = .ok (.invokevirtual 156, 3) := by decide +kernel
theorem dX9_surely_16 : decode cX9_surely 16 = .ok (.ireturn, 1) := by decide +kernel
theorem dX9_surely_17 : decode cX9_surely 17 = .ok (.iload_n 1, 1) := by decide +kernel
theorem dX9_surely_18 : decode cX9_surely 18 = .ok (.iconst 0, 1) := by decide +kernel
theorem dX9_surely_19 : decode cX9_surely 19 = .ok (.bipush 99, 2) := by decide +kernel
theorem dX9_surely_21 : decode cX9_surely 21 = .ok (.invokestatic 135, 3) := by decide +kernel
theorem dX9_surely_24 : decode cX9_surely 24 = .ok (.ifCond .ne 9, 3) := by decide +kernel
theorem dX9_surely_27 : decode cX9_surely 27 = .ok (.aload_n 0, 1) := by decide +kernel
theorem dX9_surely_28 : decode cX9_surely 28 = .ok (.iconst 2, 1) := by decide +kernel
theorem dX9_surely_29 : decode cX9_surely 29 = .ok (.invokevirtual 156, 3) := by decide +kernel
theorem dX9_surely_32 : decode cX9_surely 32 = .ok (.ireturn, 1) := by decide +kernel
theorem dX9_surely_33 : decode cX9_surely 33 = .ok (.aload_n 0, 1) := by decide +kernel
theorem dX9_surely_34 : decode cX9_surely 34 = .ok (.iconst 1, 1) := by decide +kernel
theorem dX9_surely_35 : decode cX9_surely 35 = .ok (.iconst 0, 1) := by decide +kernel
theorem dX9_surely_36 : decode cX9_surely 36 = .ok (.iconst 0, 1) := by decide +kernel
theorem dX9_surely_37 : decode cX9_surely 37 = .ok (.invokevirtual 334, 3) := by decide +kernel
theorem dX9_surely_40 : decode cX9_surely 40 = .ok (.istore_n 2, 1) := by decide +kernel
theorem dX9_surely_41 : decode cX9_surely 41 = .ok (.iload_n 1, 1) := by decide +kernel
theorem dX9_surely_42 : decode cX9_surely 42 = .ok (.istore_n 3, 1) := by decide +kernel
theorem dX9_surely_43 : decode cX9_surely 43 = .ok (.iload_n 3, 1) := by decide +kernel
theorem dX9_surely_44 : decode cX9_surely 44 = .ok (.bipush 100, 2) := by decide +kernel
theorem dX9_surely_46 : decode cX9_surely 46 = .ok (.if_icmp .ge 26, 3) := by decide +kernel
theorem dX9_surely_49 : decode cX9_surely 49 = .ok (.iload_n 2, 1) := by decide +kernel
theorem dX9_surely_50 : decode cX9_surely 50 = .ok (.ifCond .le 16, 3) := by decide +kernel
theorem dX9_surely_53 : decode cX9_surely 53 = .ok (.aload_n 0, 1) := by decide +kernel
theorem dX9_surely_54 : decode cX9_surely 54 = .ok (.iconst 0, 1) := by decide +kernel
theorem dX9_surely_55 : decode cX9_surely 55 = .ok (.iload_n 3, 1) := by decide +kernel
theorem dX9_surely_56 : decode cX9_surely 56 = .ok (.iconst 0, 1) := by decide +kernel
theorem dX9_surely_57 : decode cX9_surely 57 = .ok (.invokevirtual 334, 3) := by decide +kernel
theorem dX9_surely_60 : decode cX9_surely 60 = .ok (.iload_n 2, 1) := by decide +kernel
theorem dX9_surely_61 : decode cX9_surely 61 = .ok (.if_icmp .ne 5, 3) := by decide +kernel
theorem dX9_surely_64 : decode cX9_surely 64 = .ok (.iload_n 3, 1) := by decide +kernel
theorem dX9_surely_65 : decode cX9_surely 65 = .ok (.ireturn, 1) := by decide +kernel
theorem dX9_surely_66 : decode cX9_surely 66 = .ok (.iinc 3 1, 3) := by decide +kernel
theorem dX9_surely_69 : decode cX9_surely 69 = .ok (.goto (-26), 3) := by decide +kernel
theorem dX9_surely_72 : decode cX9_surely 72 = .ok (.bipush (-2), 2) := by decide +kernel
theorem dX9_surely_74 : decode cX9_surely 74 = .ok (.ireturn, 1) := by decide +kernel
set_option maxRecDepth 20000 in
theorem ggX9_lookOf_X9_isRule : GoodIn wsX9_lookOf wsX9_isRule := goodIn_r _ [7, 8, 9, 10, 11, 12, 13, 14, 15, 16, 17, 18, 19, 20, 21, 22, 23, 24, 25, 26, 27, 28, 29, 30, 31, 32, 33, 34, 35, 36, 37] (by decide +kernel) (by decide +kernel)
set_option maxRecDepth 20000 in
theorem gX9_lookOf_X9_isRule : GoodIn wsX9_lookOf (wsV RX9 331 RX9 yX9_isRule wsX9_isRule) := goodIn_app (goodIn_of _ (by decide +kernel)) ggX9_lookOf_X9_isRule
theorem dX9_lookOf_0 : decode cX9_lookOf 0 = .ok (.iconst 0, 1) := by decide +kernel
theorem dX9_lookOf_1 : decode cX9_lookOf 1 = .ok (.istore_n 1, 1) := by decide +kernel
theorem dX9_lookOf_2 : decode cX9_lookOf 2 = .ok (.iconst 0, 1) := by decide +kernel
theorem dX9_lookOf_3 : decode cX9_lookOf 3 = .ok (.istore_n 2, 1) := by decide +kernel
theorem dX9_lookOf_4 : decode cX9_lookOf 4 = .ok (.iload_n 2, 1) := by decide +kernel
theorem dX9_lookOf_5 : decode cX9_lookOf 5 = .ok (.sipush 1200, 3) := by decide +kernel
theorem dX9_lookOf_8 : decode cX9_lookOf 8 = .ok (.if_icmp .ge 16, 3) := by decide +kernel
theorem dX9_lookOf_11 : decode cX9_lookOf 11 = .ok (.aload_n 0, 1) := by decide +kernel
theorem dX9_lookOf_12 : decode cX9_lookOf 12 = .ok (.getfield 41, 3) := by decide +kernel
theorem dX9_lookOf_15 : decode cX9_lookOf 15 = .ok (.iload_n 2, 1) := by decide +kernel
theorem dX9_lookOf_16 : decode cX9_lookOf 16 = .ok (.iconst 0, 1) := by decide +kernel
theorem dX9_lookOf_17 : decode cX9_lookOf 17 = .ok (.iastore, 1) := by decide +kernel
theorem dX9_lookOf_18 : decode cX9_lookOf 18 = .ok (.iinc 2 1, 3) := by decide +kernel
theorem dX9_lookOf_21 : decode cX9_lookOf 21 = .ok (.goto (-17), 3) := by decide +kernel
theorem dX9_lookOf_24 : decode cX9_lookOf 24 = .ok (.iconst 2, 1) := by decide +kernel
theorem dX9_lookOf_25 : decode cX9_lookOf 25 = .ok (.istore_n 2, 1) := by decide +kernel
theorem dX9_lookOf_26 : decode cX9_lookOf 26 = .ok (.iload_n 2, 1) := by decide +kernel
theorem dX9_lookOf_27 : decode cX9_lookOf 27 = .ok (.bipush 12, 2) := by decide +kernel
theorem dX9_lookOf_29 : decode cX9_lookOf 29 = .ok (.if_icmp .gt 94, 3) := by decide +kernel
theorem dX9_lookOf_32 : decode cX9_lookOf 32 = .ok (.iconst 1, 1) := by decide +kernel
theorem dX9_lookOf_33 : decode cX9_lookOf 33 = .ok (.istore_n 3, 1) := by decide +kernel
theorem dX9_lookOf_34 : decode cX9_lookOf 34 = .ok (.iload_n 3, 1) := by decide +kernel
theorem dX9_lookOf_35 : decode cX9_lookOf 35 = .ok (.iload_n 2, 1) := by decide +kernel
theorem dX9_lookOf_36 : decode cX9_lookOf 36 = .ok (.if_icmp .ge 81, 3) := by decide +kernel
theorem dX9_lookOf_39 : decode cX9_lookOf 39 = .ok (.iconst 0, 1) := by decide +kernel
theorem dX9_lookOf_40 : decode cX9_lookOf 40 = .ok (.istore 4, 2) := by decide +kernel
theorem dX9_lookOf_42 : decode cX9_lookOf 42 = .ok (.iload 4, 2) := by decide +kernel
theorem dX9_lookOf_44 : decode cX9_lookOf 44 = .ok (.iload_n 2, 1) := by decide +kernel
theorem dX9_lookOf_45 : decode cX9_lookOf 45 = .ok (.if_icmp .ge 66, 3) := by decide +kernel
theorem dX9_lookOf_48 : decode cX9_lookOf 48 = .ok (.aload_n 0, 1) := by decide +kernel
theorem dX9_lookOf_49 : decode cX9_lookOf 49 = .ok (.iload_n 2, 1) := by decide +kernel
theorem dX9_lookOf_50 : decode cX9_lookOf 50 = .ok (.iload_n 3, 1) := by decide +kernel
theorem dX9_lookOf_51 : decode cX9_lookOf 51 = .ok (.iload 4, 2) := by decide +kernel
theorem dX9_lookOf_53 : decode cX9_lookOf 53 = .ok (.invokevirtual 331, 3) := by decide +kernel
theorem dX9_lookOf_56 : decode cX9_lookOf 56 = .ok (.ifCond .ne 6, 3) := by decide +kernel
theorem dX9_lookOf_59 : decode cX9_lookOf 59 = .ok (.goto 46, 3) := by decide +kernel
theorem dX9_lookOf_62 : decode cX9_lookOf 62 = .ok (.iinc 1 1, 3) := by decide +kernel
theorem dX9_lookOf_65 : decode cX9_lookOf 65 = .ok (.iconst 0, 1) := by decide +kernel
theorem dX9_lookOf_66 : decode cX9_lookOf 66 = .ok (.istore 5, 2) := by decide +kernel
theorem dX9_lookOf_68 : decode cX9_lookOf 68 = .ok (.iload 5, 2) := by decide +kernel
theorem dX9_lookOf_70 : decode cX9_lookOf 70 = .ok (.bipush 100, 2) := by decide +kernel
theorem dX9_lookOf_72 : decode cX9_lookOf 72 = .ok (.if_icmp .ge 33, 3) := by decide +kernel
theorem dX9_lookOf_75 : decode cX9_lookOf 75 = .ok (.aload_n 0, 1) := by decide +kernel
theorem dX9_lookOf_76 : decode cX9_lookOf 76 = .ok (.getfield 41, 3) := by decide +kernel
theorem dX9_lookOf_79 : decode cX9_lookOf 79 = .ok (.bipush 12, 2) := by decide +kernel
theorem dX9_lookOf_81 : decode cX9_lookOf 81 = .ok (.iload 5, 2) := by decide +kernel
theorem dX9_lookOf_83 : decode cX9_lookOf 83 = .ok (.imul, 1) := by decide +kernel
theorem dX9_lookOf_84 : decode cX9_lookOf 84 = .ok (.iload 4, 2) := by decide +kernel
theorem dX9_lookOf_86 : decode cX9_lookOf 86 = .ok (.iload_n 3, 1) := by decide +kernel
theorem dX9_lookOf_87 : decode cX9_lookOf 87 = .ok (.iload 5, 2) := by decide +kernel
theorem dX9_lookOf_89 : decode cX9_lookOf 89 = .ok (.imul, 1) := by decide +kernel
theorem dX9_lookOf_90 : decode cX9_lookOf 90 = .ok (.iadd, 1) := by decide +kernel
theorem dX9_lookOf_91 : decode cX9_lookOf 91 = .ok (.iload_n 2, 1) := by decide +kernel
theorem dX9_lookOf_92 : decode cX9_lookOf 92 = .ok (.irem, 1) := by decide +kernel
theorem dX9_lookOf_93 : decode cX9_lookOf 93 = .ok (.iadd, 1) := by decide +kernel
theorem dX9_lookOf_94 : decode cX9_lookOf 94 = .ok (.dup2, 1) := by decide +kernel
theorem dX9_lookOf_95 : decode cX9_lookOf 95 = .ok (.iaload, 1) := by decide +kernel
theorem dX9_lookOf_96 : decode cX9_lookOf 96 = .ok (.iconst 1, 1) := by decide +kernel
theorem dX9_lookOf_97 : decode cX9_lookOf 97 = .ok (.iadd, 1) := by decide +kernel
theorem dX9_lookOf_98 : decode cX9_lookOf 98 = .ok (.iastore, 1) := by decide +kernel
theorem dX9_lookOf_99 : decode cX9_lookOf 99 = .ok (.iinc 5 1, 3) := by decide +kernel
theorem dX9_lookOf_102 : decode cX9_lookOf 102 = .ok (.goto (-34), 3) := by decide +kernel
theorem dX9_lookOf_105 : decode cX9_lookOf 105 = .ok (.iinc 4 1, 3) := by decide +kernel
theorem dX9_lookOf_108 : decode cX9_lookOf 108 = .ok (.goto (-66), 3) := by decide +kernel
theorem dX9_lookOf_111 : decode cX9_lookOf 111 = .ok (.iinc 3 1, 3) := by decide +kernel
theorem dX9_lookOf_114 : decode cX9_lookOf 114 = .ok (.goto (-80), 3) := by decide +kernel
theorem dX9_lookOf_117 : decode cX9_lookOf 117 = .ok (.iinc 2 1, 3) := by decide +kernel
theorem dX9_lookOf_120 : decode cX9_lookOf 120 = .ok (.goto (-94), 3) := by decide +kernel
theorem dX9_lookOf_123 : decode cX9_lookOf 123 = .ok (.aload_n 0, 1) := by decide +kernel
theorem dX9_lookOf_124 : decode cX9_lookOf 124 = .ok (.bipush (-2), 2) := by decide +kernel
theorem dX9_lookOf_126 : decode cX9_lookOf 126 = .ok (.putfield 337, 3) := by decide +kernel
theorem dX9_lookOf_129 : decode cX9_lookOf 129 = .ok (.bipush (-2), 2) := by decide +kernel
theorem dX9_lookOf_131 : decode cX9_lookOf 131 = .ok (.istore_n 2, 1) := by decide +kernel
theorem dX9_lookOf_132 : decode cX9_lookOf 132 = .ok (.iconst 0, 1) := by decide +kernel
theorem dX9_lookOf_133 : decode cX9_lookOf 133 = .ok (.istore_n 3, 1) := by decide +kernel
theorem dX9_lookOf_134 : decode cX9_lookOf 134 = .ok (.iload_n 3, 1) := by decide +kernel
theorem dX9_lookOf_135 : decode cX9_lookOf 135 = .ok (.sipush 1200, 3) := by decide +kernel
theorem dX9_lookOf_138 : decode cX9_lookOf 138 = .ok (.if_icmp .ge 84, 3) := by decide +kernel
theorem dX9_lookOf_141 : decode cX9_lookOf 141 = .ok (.iload_n 1, 1) := by decide +kernel
theorem dX9_lookOf_142 : decode cX9_lookOf 142 = .ok (.ifCond .le 80, 3) := by decide +kernel
theorem dX9_lookOf_145 : decode cX9_lookOf 145 = .ok (.aload_n 0, 1) := by decide +kernel
theorem dX9_lookOf_146 : decode cX9_lookOf 146 = .ok (.getfield 41, 3) := by decide +kernel
theorem dX9_lookOf_149 : decode cX9_lookOf 149 = .ok (.iload_n 3, 1) := by decide +kernel
theorem dX9_lookOf_150 : decode cX9_lookOf 150 = .ok (.iaload, 1) := by decide +kernel
theorem dX9_lookOf_151 : decode cX9_lookOf 151 = .ok (.iload_n 1, 1) := by decide +kernel
theorem dX9_lookOf_152 : decode cX9_lookOf 152 = .ok (.aload_n 0, 1) := by decide +kernel
theorem dX9_lookOf_153 : decode cX9_lookOf 153 = .ok (.getfield 41, 3) := by decide +kernel
theorem dX9_lookOf_156 : decode cX9_lookOf 156 = .ok (.iload_n 3, 1) := by decide +kernel
theorem dX9_lookOf_157 : decode cX9_lookOf 157 = .ok (.iaload, 1) := by decide +kernel
theorem dX9_lookOf_158 : decode cX9_lookOf 158 = .ok (.isub, 1) := by decide +kernel
theorem dX9_lookOf_159 : decode cX9_lookOf 159 = .ok (.if_icmp .le 12, 3) := by decide +kernel
theorem dX9_lookOf_162 : decode cX9_lookOf 162 = .ok (.aload_n 0, 1) := by decide +kernel
theorem dX9_lookOf_163 : decode cX9_lookOf 163 = .ok (.getfield 41, 3) := by decide +kernel
theorem dX9_lookOf_166 : decode cX9_lookOf 166 = .ok (.iload_n 3, 1) := by decide +kernel
theorem dX9_lookOf_167 : decode cX9_lookOf 167 = .ok (.iaload, 1) := by decide +kernel
theorem dX9_lookOf_168 : decode cX9_lookOf 168 = .ok (.goto 11, 3) := by decide +kernel
theorem dX9_lookOf_171 : decode cX9_lookOf 171 = .ok (.iload_n 1, 1) := by decide +kernel
theorem dX9_lookOf_172 : decode cX9_lookOf 172 = .ok (.aload_n 0, 1) := by decide +kernel
theorem dX9_lookOf_173 : decode cX9_lookOf 173 = .ok (.getfield 41, 3) := by decide +kernel
theorem dX9_lookOf_176 : decode cX9_lookOf 176 = .ok (.iload_n 3, 1) := by decide +kernel
theorem dX9_lookOf_177 : decode cX9_lookOf 177 = .ok (.iaload, 1) := by decide +kernel
theorem dX9_lookOf_178 : decode cX9_lookOf 178 = .ok (.isub, 1) := by decide +kernel
theorem dX9_lookOf_179 : decode cX9_lookOf 179 = .ok (.istore 4, 2) := by decide +kernel
theorem dX9_lookOf_181 : decode cX9_lookOf 181 = .ok (.iload_n 2, 1) := by decide +kernel
theorem dX9_lookOf_182 : decode cX9_lookOf 182 = .ok (.ifCond .lt 15, 3) := by decide +kernel
theorem dX9_lookOf_185 : decode cX9_lookOf 185 = .ok (.iload 4, 2) := by decide +kernel
theorem dX9_lookOf_187 : decode cX9_lookOf 187 = .ok (.aload_n 0, 1) := by decide +kernel
theorem dX9_lookOf_188 : decode cX9_lookOf 188 = .ok (.getfield 337, 3) := by decide +kernel
theorem dX9_lookOf_191 : decode cX9_lookOf 191 = .ok (.if_icmp .lt 6, 3) := by decide +kernel
theorem dX9_lookOf_194 : decode cX9_lookOf 194 = .ok (.goto 22, 3) := by decide +kernel
theorem dX9_lookOf_197 : decode cX9_lookOf 197 = .ok (.bipush 100, 2) := by decide +kernel
theorem dX9_lookOf_199 : decode cX9_lookOf 199 = .ok (.iload_n 3, 1) := by decide +kernel
theorem dX9_lookOf_200 : decode cX9_lookOf 200 = .ok (.bipush 12, 2) := by decide +kernel
theorem dX9_lookOf_202 : decode cX9_lookOf 202 = .ok (.idiv, 1) := by decide +kernel
theorem dX9_lookOf_203 : decode cX9_lookOf 203 = .ok (.imul, 1) := by decide +kernel
theorem dX9_lookOf_204 : decode cX9_lookOf 204 = .ok (.iload_n 3, 1) := by decide +kernel
theorem dX9_lookOf_205 : decode cX9_lookOf 205 = .ok (.bipush 12, 2) := by decide +kernel
theorem dX9_lookOf_207 : decode cX9_lookOf 207 = .ok (.irem, 1) := by decide +kernel
theorem dX9_lookOf_208 : decode cX9_lookOf 208 = .ok (.iadd, 1) := by decide +kernel
theorem dX9_lookOf_209 : decode cX9_lookOf 209 = .ok (.istore_n 2, 1) := by decide +kernel
theorem dX9_lookOf_210 : decode cX9_lookOf 210 = .ok (.aload_n 0, 1) := by decide +kernel
theorem dX9_lookOf_211 : decode cX9_lookOf 211 = .ok (.iload 4, 2) := by decide +kernel
theorem dX9_lookOf_213 : decode cX9_lookOf 213 = .ok (.putfield 337, 3) := by decide +kernel
theorem dX9_lookOf_216 : decode cX9_lookOf 216 = .ok (.iinc 3 1, 3) := by decide +kernel
theorem dX9_lookOf_219 : decode cX9_lookOf 219 = .ok (.goto (-85), 3) := by decide +kernel
theorem dX9_lookOf_222 : decode cX9_lookOf 222 = .ok (.iload_n 2, 1) := by decide +kernel
theorem dX9_lookOf_223 : decode cX9_lookOf 223 = .ok (.ireturn, 1) := by decide +kernel
set_option maxRecDepth 20000 in
theorem ggX9_look_X9_good : GoodIn wsX9_look wsX9_good := goodIn_r _ [6, 7, 8, 24, 25, 26, 27, 28, 29, 30, 31, 32, 33, 34, 35, 36, 37, 38, 39, 40, 41, 42, 43, 44, 45, 46, 47, 48, 49, 50, 51, 52] (by decide +kernel) (by decide +kernel)
set_option maxRecDepth 20000 in
theorem gX9_look_X9_good : GoodIn wsX9_look (wsV RX9 153 RX9 yX9_good wsX9_good) := goodIn_app (goodIn_of _ (by decide +kernel)) ggX9_look_X9_good
set_option maxRecDepth 20000 in
theorem ggX9_look_X9_lookOf : GoodIn wsX9_look wsX9_lookOf := goodIn_r _ [12, 13, 14, 15, 16, 17, 5, 18, 19, 24, 25, 26, 27, 28, 29, 30, 31, 32, 33, 34, 35, 36, 37, 38, 39, 40, 41, 42, 43, 44, 45, 46, 47, 48, 49, 50, 51, 52] (by decide +kernel) (by decide +kernel)
set_option maxRecDepth 20000 in
theorem gX9_look_X9_lookOf : GoodIn wsX9_look (wsV RX9 340 RX9 yX9_lookOf wsX9_lookOf) := goodIn_app (goodIn_of _ (by decide +kernel)) ggX9_look_X9_lookOf
set_option maxRecDepth 20000 in
theorem ggX9_look_X9_no : GoodIn wsX9_look wsX9_no := goodIn_r _ [23, 8, 24, 25, 26, 27, 28, 29, 30, 31, 32, 33, 34, 35, 36, 37, 38, 39, 40, 41, 42, 43, 44, 45, 46, 47, 48, 49, 50, 51, 52] (by decide +kernel) (by decide +kernel)
set_option maxRecDepth 20000 in
theorem gX9_look_X9_no : GoodIn wsX9_look (wsV RX9 156 RX9 yX9_no wsX9_no) := goodIn_app (goodIn_of _ (by decide +kernel)) ggX9_look_X9_no
theorem dX9_look_0 : decode cX9_look 0 = .ok (.aload_n 0, 1) := by decide +kernel
theorem dX9_look_1 : decode cX9_look 1 = .ok (.invokevirtual 153, 3) := by decide +kernel
theorem dX9_look_4 : decode cX9_look 4 = .ok (.aload_n 0, 1) := by decide +kernel
theorem dX9_look_5 : decode cX9_look 5 = .ok (.getfield 166, 3) := by decide +kernel
theorem dX9_look_8 : decode cX9_look 8 = .ok (.ifCond .eq 10, 3) := by decide +kernel
theorem dX9_look_11 : decode cX9_look 11 = .ok (.aload_n 0, 1) := by decide +kernel
theorem dX9_look_12 : decode cX9_look 12 = .ok (.invokevirtual 340, 3) := by decide +kernel
theorem dX9_look_15 : decode cX9_look 15 = .ok (.goto 8, 3) := by decide +kernel
theorem dX9_look_18 : decode cX9_look 18 = .ok (.aload_n 0, 1) := by decide +kernel
theorem dX9_look_19 : decode cX9_look 19 = .ok (.iconst 1, 1) := by decide +kernel
theorem dX9_look_20 : decode cX9_look 20 = .ok (.invokevirtual 156, 3) := by decide +kernel
theorem dX9_look_23 : decode cX9_look 23 = .ok (.ireturn, 1) := by decide +kernel
set_option maxRecDepth 20000 in
theorem ggX9_lookLeaves_X9_good : GoodIn wsX9_lookLeaves wsX9_good := goodIn_r _ [7, 8, 9, 24, 25, 26, 27, 28, 29, 30, 31, 32, 33, 34, 35, 36, 37, 38, 39, 40, 41, 42, 43, 44, 45, 46, 47, 48, 49, 50, 51, 52] (by decide +kernel) (by decide +kernel)
set_option maxRecDepth 20000 in
theorem gX9_lookLeaves_X9_good : GoodIn wsX9_lookLeaves (wsV RX9 153 RX9 yX9_good wsX9_good) := goodIn_app (goodIn_of _ (by decide +kernel)) ggX9_lookLeaves_X9_good
set_option maxRecDepth 20000 in
theorem ggX9_lookLeaves_X9_no : GoodIn wsX9_lookLeaves wsX9_no := goodIn_r _ [13, 9, 24, 25, 26, 27, 28, 29, 30, 31, 32, 33, 34, 35, 36, 37, 38, 39, 40, 41, 42, 43, 44, 45, 46, 47, 48, 49, 50, 51, 52] (by decide +kernel) (by decide +kernel)
set_option maxRecDepth 20000 in
theorem gX9_lookLeaves_X9_no : GoodIn wsX9_lookLeaves (wsV RX9 156 RX9 yX9_no wsX9_no) := goodIn_app (goodIn_of _ (by decide +kernel)) ggX9_lookLeaves_X9_no
set_option maxRecDepth 20000 in
theorem ggX9_lookLeaves_X9_lookOf : GoodIn wsX9_lookLeaves wsX9_lookOf := goodIn_r _ [17, 18, 2, 19, 20, 21, 6, 22, 23, 24, 25, 26, 27, 28, 29, 30, 31, 32, 33, 34, 35, 36, 37, 38, 39, 40, 41, 42, 43, 44, 45, 46, 47, 48, 49, 50, 51, 52] (by decide +kernel) (by decide +kernel)
set_option maxRecDepth 20000 in
theorem gX9_lookLeaves_X9_lookOf : GoodIn wsX9_lookLeaves (wsV RX9 340 RX9 yX9_lookOf wsX9_lookOf) := goodIn_app (goodIn_of _ (by decide +kernel)) ggX9_lookLeaves_X9_lookOf
theorem dX9_lookLeaves_0 : decode cX9_lookLeaves 0 = .ok (.aload_n 0, 1) := by decide +kernel
theorem dX9_lookLeaves_1 : decode cX9_lookLeaves 1 = .ok (.invokevirtual 153, 3) := by decide +kernel
theorem dX9_lookLeaves_4 : decode cX9_lookLeaves 4 = .ok (.aload_n 0, 1) := by decide +kernel
theorem dX9_lookLeaves_5 : decode cX9_lookLeaves 5 = .ok (.getfield 166, 3) := by decide +kernel
theorem dX9_lookLeaves_8 : decode cX9_lookLeaves 8 = .ok (.ifCond .ne 9, 3) := by decide +kernel
theorem dX9_lookLeaves_11 : decode cX9_lookLeaves 11 = .ok (.aload_n 0, 1) := by decide +kernel
theorem dX9_lookLeaves_12 : decode cX9_lookLeaves 12 = .ok (.iconst 1, 1) := by decide +kernel
theorem dX9_lookLeaves_13 : decode cX9_lookLeaves 13 = .ok (.invokevirtual 156, 3) := by decide +kernel
theorem dX9_lookLeaves_16 : decode cX9_lookLeaves 16 = .ok (.ireturn, 1) := by decide +kernel
theorem dX9_lookLeaves_17 : decode cX9_lookLeaves 17 = .ok (.aload_n 0, 1) := by decide +kernel
theorem dX9_lookLeaves_18 : decode cX9_lookLeaves 18 = .ok (.invokevirtual 340, 3) := by decide +kernel
theorem dX9_lookLeaves_21 : decode cX9_lookLeaves 21 = .ok (.pop, 1) := by decide +kernel
theorem dX9_lookLeaves_22 : decode cX9_lookLeaves 22 = .ok (.aload_n 0, 1) := by decide +kernel
theorem dX9_lookLeaves_23 : decode cX9_lookLeaves 23 = .ok (.getfield 337, 3) := by decide +kernel
theorem dX9_lookLeaves_26 : decode cX9_lookLeaves 26 = .ok (.ireturn, 1) := by decide +kernel
theorem dX9_heirOf_0 : decode cX9_heirOf 0 = .ok (.iload_n 1, 1) := by decide +kernel
theorem dX9_heirOf_1 : decode cX9_heirOf 1 = .ok (.iload_n 2, 1) := by decide +kernel
theorem dX9_heirOf_2 : decode cX9_heirOf 2 = .ok (.if_icmp .le 7, 3) := by decide +kernel
theorem dX9_heirOf_5 : decode cX9_heirOf 5 = .ok (.iload_n 0, 1) := by decide +kernel
theorem dX9_heirOf_6 : decode cX9_heirOf 6 = .ok (.goto 15, 3) := by decide +kernel
theorem dX9_heirOf_9 : decode cX9_heirOf 9 = .ok (.iload_n 1, 1) := by decide +kernel
theorem dX9_heirOf_10 : decode cX9_heirOf 10 = .ok (.iload_n 2, 1) := by decide +kernel
theorem dX9_heirOf_11 : decode cX9_heirOf 11 = .ok (.if_icmp .ne 9, 3) := by decide +kernel
theorem dX9_heirOf_14 : decode cX9_heirOf 14 = .ok (.iload_n 0, 1) := by decide +kernel
theorem dX9_heirOf_15 : decode cX9_heirOf 15 = .ok (.iconst 2, 1) := by decide +kernel
theorem dX9_heirOf_16 : decode cX9_heirOf 16 = .ok (.idiv, 1) := by decide +kernel
theorem dX9_heirOf_17 : decode cX9_heirOf 17 = .ok (.goto 4, 3) := by decide +kernel
theorem dX9_heirOf_20 : decode cX9_heirOf 20 = .ok (.iconst 0, 1) := by decide +kernel
theorem dX9_heirOf_21 : decode cX9_heirOf 21 = .ok (.iload_n 1, 1) := by decide +kernel
theorem dX9_heirOf_22 : decode cX9_heirOf 22 = .ok (.iload_n 1, 1) := by decide +kernel
theorem dX9_heirOf_23 : decode cX9_heirOf 23 = .ok (.imul, 1) := by decide +kernel
theorem dX9_heirOf_24 : decode cX9_heirOf 24 = .ok (.isub, 1) := by decide +kernel
theorem dX9_heirOf_25 : decode cX9_heirOf 25 = .ok (.ireturn, 1) := by decide +kernel
set_option maxRecDepth 20000 in
theorem ggX9_heir_X9_good : GoodIn wsX9_heir wsX9_good := goodIn_r _ [7, 8, 2, 19, 20, 21, 22, 23, 24, 25, 26, 27, 28, 29, 30, 31, 32, 33, 34, 35, 36, 37, 38, 39, 40, 41, 42, 43, 44, 45, 46, 47] (by decide +kernel) (by decide +kernel)
set_option maxRecDepth 20000 in
theorem gX9_heir_X9_good : GoodIn wsX9_heir (wsV RX9 153 RX9 yX9_good wsX9_good) := goodIn_app (goodIn_of _ (by decide +kernel)) ggX9_heir_X9_good
set_option maxRecDepth 20000 in
theorem ggX9_heir_X9_why : GoodIn wsX9_heir wsX9_why := goodIn_r _ [12, 13, 14, 6, 15] (by decide +kernel) (by decide +kernel)
set_option maxRecDepth 20000 in
theorem gX9_heir_X9_why : GoodIn wsX9_heir (wsV RX9 292 RX9 yX9_why wsX9_why) := goodIn_app (goodIn_of _ (by decide +kernel)) ggX9_heir_X9_why
set_option maxRecDepth 20000 in
theorem ggX9_heir_X9_in : GoodIn wsX9_heir wsX9_in := goodIn_r _ [15] (by decide +kernel) (by decide +kernel)
set_option maxRecDepth 20000 in
theorem gX9_heir_X9_in : GoodIn wsX9_heir (va_wsS RX9 135 yX9_in wsX9_in) := goodIn_app (goodIn_of _ (by decide +kernel)) ggX9_heir_X9_in
set_option maxRecDepth 20000 in
theorem ggX9_heir_X9_heirOf : GoodIn wsX9_heir wsX9_heirOf := goodIn_r _ [18] (by decide +kernel) (by decide +kernel)
set_option maxRecDepth 20000 in
theorem gX9_heir_X9_heirOf : GoodIn wsX9_heir (va_wsS RX9 343 yX9_heirOf wsX9_heirOf) := goodIn_app (goodIn_of _ (by decide +kernel)) ggX9_heir_X9_heirOf
theorem dX9_heir_0 : decode cX9_heir 0 = .ok (.aload_n 0, 1) := by decide +kernel
theorem dX9_heir_1 : decode cX9_heir 1 = .ok (.invokevirtual 153, 3) := by decide +kernel
theorem dX9_heir_4 : decode cX9_heir 4 = .ok (.aload_n 0, 1) := by decide +kernel
theorem dX9_heir_5 : decode cX9_heir 5 = .ok (.aload_n 0, 1) := by decide +kernel
theorem dX9_heir_6 : decode cX9_heir 6 = .ok (.getfield 166, 3) := by decide +kernel
theorem dX9_heir_9 : decode cX9_heir 9 = .ok (.iload_n 1, 1) := by decide +kernel
theorem dX9_heir_10 : decode cX9_heir 10 = .ok (.bipush 99, 2) := by decide +kernel
theorem dX9_heir_12 : decode cX9_heir 12 = .ok (.invokevirtual 292, 3) := by decide +kernel
theorem dX9_heir_15 : decode cX9_heir 15 = .ok (.istore 5, 2) := by decide +kernel
theorem dX9_heir_17 : decode cX9_heir 17 = .ok (.iload 5, 2) := by decide +kernel
