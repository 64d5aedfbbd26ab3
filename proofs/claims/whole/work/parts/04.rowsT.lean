theorem dX4_hasRing_0 : decode cX4_hasRing 0 = .ok (.iload_n 1, 1) := by decide +kernel
theorem dX4_hasRing_1 : decode cX4_hasRing 1 = .ok (.ifCond .lt 20, 3) := by decide +kernel
theorem dX4_hasRing_4 : decode cX4_hasRing 4 = .ok (.iload_n 1, 1) := by decide +kernel
theorem dX4_hasRing_5 : decode cX4_hasRing 5 = .ok (.aload_n 0, 1) := by decide +kernel
theorem dX4_hasRing_6 : decode cX4_hasRing 6 = .ok (.getfield 69, 3) := by decide +kernel
theorem dX4_hasRing_9 : decode cX4_hasRing 9 = .ok (.if_icmp .ge 12, 3) := by decide +kernel
theorem dX4_hasRing_12 : decode cX4_hasRing 12 = .ok (.iload_n 1, 1) := by decide +kernel
theorem dX4_hasRing_13 : decode cX4_hasRing 13 = .ok (.iconst 4, 1) := by decide +kernel
theorem dX4_hasRing_14 : decode cX4_hasRing 14 = .ok (.if_icmp .ge 7, 3) := by decide +kernel
theorem dX4_hasRing_17 : decode cX4_hasRing 17 = .ok (.iconst 1, 1) := by decide +kernel
theorem dX4_hasRing_18 : decode cX4_hasRing 18 = .ok (.goto 4, 3) := by decide +kernel
theorem dX4_hasRing_21 : decode cX4_hasRing 21 = .ok (.iconst 0, 1) := by decide +kernel
theorem dX4_hasRing_22 : decode cX4_hasRing 22 = .ok (.ireturn, 1) := by decide +kernel
theorem dX4_nextOf_0 : decode cX4_nextOf 0 = .ok (.iload_n 1, 1) := by decide +kernel
theorem dX4_nextOf_1 : decode cX4_nextOf 1 = .ok (.ifCond .lt 18, 3) := by decide +kernel
theorem dX4_nextOf_4 : decode cX4_nextOf 4 = .ok (.iload_n 1, 1) := by decide +kernel
theorem dX4_nextOf_5 : decode cX4_nextOf 5 = .ok (.bipush 36, 2) := by decide +kernel
theorem dX4_nextOf_7 : decode cX4_nextOf 7 = .ok (.if_icmp .ge 12, 3) := by decide +kernel
theorem dX4_nextOf_10 : decode cX4_nextOf 10 = .ok (.aload_n 0, 1) := by decide +kernel
theorem dX4_nextOf_11 : decode cX4_nextOf 11 = .ok (.getfield 25, 3) := by decide +kernel
theorem dX4_nextOf_14 : decode cX4_nextOf 14 = .ok (.iload_n 1, 1) := by decide +kernel
theorem dX4_nextOf_15 : decode cX4_nextOf 15 = .ok (.iaload, 1) := by decide +kernel
theorem dX4_nextOf_16 : decode cX4_nextOf 16 = .ok (.goto 4, 3) := by decide +kernel
theorem dX4_nextOf_19 : decode cX4_nextOf 19 = .ok (.iconst 0, 1) := by decide +kernel
theorem dX4_nextOf_20 : decode cX4_nextOf 20 = .ok (.ireturn, 1) := by decide +kernel
theorem dX4_isTooLarge_0 : decode cX4_isTooLarge 0 = .ok (.iload_n 1, 1) := by decide +kernel
theorem dX4_isTooLarge_1 : decode cX4_isTooLarge 1 = .ok (.ifCond .lt 19, 3) := by decide +kernel
theorem dX4_isTooLarge_4 : decode cX4_isTooLarge 4 = .ok (.iload_n 1, 1) := by decide +kernel
theorem dX4_isTooLarge_5 : decode cX4_isTooLarge 5 = .ok (.bipush 7, 2) := by decide +kernel
theorem dX4_isTooLarge_7 : decode cX4_isTooLarge 7 = .ok (.if_icmp .ge 13, 3) := by decide +kernel
theorem dX4_isTooLarge_10 : decode cX4_isTooLarge 10 = .ok (.iload_n 2, 1) := by decide +kernel
theorem dX4_isTooLarge_11 : decode cX4_isTooLarge 11 = .ok (.ifCond .lt 9, 3) := by decide +kernel
theorem dX4_isTooLarge_14 : decode cX4_isTooLarge 14 = .ok (.iload_n 2, 1) := by decide +kernel
theorem dX4_isTooLarge_15 : decode cX4_isTooLarge 15 = .ok (.bipush 36, 2) := by decide +kernel
theorem dX4_isTooLarge_17 : decode cX4_isTooLarge 17 = .ok (.if_icmp .lt 5, 3) := by decide +kernel
theorem dX4_isTooLarge_20 : decode cX4_isTooLarge 20 = .ok (.iconst 0, 1) := by decide +kernel
theorem dX4_isTooLarge_21 : decode cX4_isTooLarge 21 = .ok (.ireturn, 1) := by decide +kernel
theorem dX4_isTooLarge_22 : decode cX4_isTooLarge 22 = .ok (.aload_n 0, 1) := by decide +kernel
theorem dX4_isTooLarge_23 : decode cX4_isTooLarge 23 = .ok (.getfield 40, 3) := by decide +kernel
theorem dX4_isTooLarge_26 : decode cX4_isTooLarge 26 = .ok (.iload_n 1, 1) := by decide +kernel
theorem dX4_isTooLarge_27 : decode cX4_isTooLarge 27 = .ok (.iaload, 1) := by decide +kernel
theorem dX4_isTooLarge_28 : decode cX4_isTooLarge 28 = .ok (.aload_n 0, 1) := by decide +kernel
theorem dX4_isTooLarge_29 : decode cX4_isTooLarge 29 = .ok (.getfield 28, 3) := by decide +kernel
theorem dX4_isTooLarge_32 : decode cX4_isTooLarge 32 = .ok (.iload_n 2, 1) := by decide +kernel
theorem dX4_isTooLarge_33 : decode cX4_isTooLarge 33 = .ok (.iaload, 1) := by decide +kernel
theorem dX4_isTooLarge_34 : decode cX4_isTooLarge 34 = .ok (.if_icmp .le 17, 3) := by decide +kernel
theorem dX4_isTooLarge_37 : decode cX4_isTooLarge 37 = .ok (.aload_n 0, 1) := by decide +kernel
theorem dX4_isTooLarge_38 : decode cX4_isTooLarge 38 = .ok (.getfield 37, 3) := by decide +kernel
theorem dX4_isTooLarge_41 : decode cX4_isTooLarge 41 = .ok (.iload_n 1, 1) := by decide +kernel
theorem dX4_isTooLarge_42 : decode cX4_isTooLarge 42 = .ok (.iaload, 1) := by decide +kernel
theorem dX4_isTooLarge_43 : decode cX4_isTooLarge 43 = .ok (.iconst 3, 1) := by decide +kernel
theorem dX4_isTooLarge_44 : decode cX4_isTooLarge 44 = .ok (.if_icmp .eq 7, 3) := by decide +kernel
theorem dX4_isTooLarge_47 : decode cX4_isTooLarge 47 = .ok (.iconst 1, 1) := by decide +kernel
theorem dX4_isTooLarge_48 : decode cX4_isTooLarge 48 = .ok (.goto 4, 3) := by decide +kernel
theorem dX4_isTooLarge_51 : decode cX4_isTooLarge 51 = .ok (.iconst 0, 1) := by decide +kernel
theorem dX4_isTooLarge_52 : decode cX4_isTooLarge 52 = .ok (.ireturn, 1) := by decide +kernel
theorem dX6_seat_0 : decode cX6_seat 0 = .ok (.iload_n 2, 1) := by decide +kernel
theorem dX6_seat_1 : decode cX6_seat 1 = .ok (.ifCond .lt 16, 3) := by decide +kernel
theorem dX6_seat_4 : decode cX6_seat 4 = .ok (.iload_n 2, 1) := by decide +kernel
theorem dX6_seat_5 : decode cX6_seat 5 = .ok (.bipush 36, 2) := by decide +kernel
theorem dX6_seat_7 : decode cX6_seat 7 = .ok (.if_icmp .ge 10, 3) := by decide +kernel
theorem dX6_seat_10 : decode cX6_seat 10 = .ok (.aload_n 0, 1) := by decide +kernel
theorem dX6_seat_11 : decode cX6_seat 11 = .ok (.getfield 15, 3) := by decide +kernel
theorem dX6_seat_14 : decode cX6_seat 14 = .ok (.iload_n 2, 1) := by decide +kernel
theorem dX6_seat_15 : decode cX6_seat 15 = .ok (.iload_n 1, 1) := by decide +kernel
theorem dX6_seat_16 : decode cX6_seat 16 = .ok (.iastore, 1) := by decide +kernel
theorem dX6_seat_17 : decode cX6_seat 17 = .ok (.return_, 1) := by decide +kernel
theorem dX6_thingAt_0 : decode cX6_thingAt 0 = .ok (.iload_n 1, 1) := by decide +kernel
theorem dX6_thingAt_1 : decode cX6_thingAt 1 = .ok (.ifCond .lt 18, 3) := by decide +kernel
theorem dX6_thingAt_4 : decode cX6_thingAt 4 = .ok (.iload_n 1, 1) := by decide +kernel
theorem dX6_thingAt_5 : decode cX6_thingAt 5 = .ok (.bipush 36, 2) := by decide +kernel
theorem dX6_thingAt_7 : decode cX6_thingAt 7 = .ok (.if_icmp .ge 12, 3) := by decide +kernel
theorem dX6_thingAt_10 : decode cX6_thingAt 10 = .ok (.aload_n 0, 1) := by decide +kernel
theorem dX6_thingAt_11 : decode cX6_thingAt 11 = .ok (.getfield 15, 3) := by decide +kernel
theorem dX6_thingAt_14 : decode cX6_thingAt 14 = .ok (.iload_n 1, 1) := by decide +kernel
theorem dX6_thingAt_15 : decode cX6_thingAt 15 = .ok (.iaload, 1) := by decide +kernel
theorem dX6_thingAt_16 : decode cX6_thingAt 16 = .ok (.goto 4, 3) := by decide +kernel
theorem dX6_thingAt_19 : decode cX6_thingAt 19 = .ok (.iconst (-1), 1) := by decide +kernel
theorem dX6_thingAt_20 : decode cX6_thingAt 20 = .ok (.ireturn, 1) := by decide +kernel
set_option maxRecDepth 20000 in
theorem ggX6_decide_X4_nextOf : GoodIn wsX6_decide wsX4_nextOf := goodIn_r _ [17, 18, 49, 50, 51, 52, 53, 54, 55, 56, 57, 58, 59, 60, 61, 62, 63, 64, 65, 66, 67, 68] (by decide +kernel) (by decide +kernel)
set_option maxRecDepth 20000 in
theorem gX6_decide_X4_nextOf : GoodIn wsX6_decide (wsV RX6 91 RX4 yX4_nextOf wsX4_nextOf) := goodIn_app (goodIn_of _ (by decide +kernel)) ggX6_decide_X4_nextOf
set_option maxRecDepth 20000 in
theorem ggX6_decide_X6_thingAt : GoodIn wsX6_decide wsX6_thingAt := goodIn_r _ [23, 24, 36, 37, 38, 39, 40, 41, 42, 43, 44, 45, 46, 47, 48] (by decide +kernel) (by decide +kernel)
set_option maxRecDepth 20000 in
theorem gX6_decide_X6_thingAt : GoodIn wsX6_decide (wsV RX6 94 RX6 yX6_thingAt wsX6_thingAt) := goodIn_app (goodIn_of _ (by decide +kernel)) ggX6_decide_X6_thingAt
set_option maxRecDepth 20000 in
theorem ggX6_decide_X4_isTooLarge : GoodIn wsX6_decide wsX4_isTooLarge := goodIn_r _ [28, 29, 30, 31, 49, 50, 51, 52, 53, 54, 55, 56, 57, 58, 59, 60, 61, 62, 63, 64, 65, 66, 67, 68] (by decide +kernel) (by decide +kernel)
set_option maxRecDepth 20000 in
theorem gX6_decide_X4_isTooLarge : GoodIn wsX6_decide (wsV RX6 97 RX4 yX4_isTooLarge wsX4_isTooLarge) := goodIn_app (goodIn_of _ (by decide +kernel)) ggX6_decide_X4_isTooLarge
set_option maxRecDepth 20000 in
theorem ggX6_decide_X6_withThoseBehind : GoodIn wsX6_decide wsX6_withThoseBehind := goodIn_r _ [35, 3, 4, 6, 36, 37, 38, 39, 40, 41, 42, 43, 44, 45, 46, 47, 48, 49, 50, 51, 52, 53, 54, 55, 56, 57, 58, 59, 60, 61, 62, 63, 64, 65, 66, 67, 68] (by decide +kernel) (by decide +kernel)
set_option maxRecDepth 20000 in
theorem gX6_decide_X6_withThoseBehind : GoodIn wsX6_decide (wsV RX6 104 RX6 yX6_withThoseBehind wsX6_withThoseBehind) := goodIn_app (goodIn_of _ (by decide +kernel)) ggX6_decide_X6_withThoseBehind
theorem dX6_decide_0 : decode cX6_decide 0 = .ok (.aload_n 0, 1) := by decide +kernel
theorem dX6_decide_1 : decode cX6_decide 1 = .ok (.getfield 37, 3) := by decide +kernel
theorem dX6_decide_4 : decode cX6_decide 4 = .ok (.iconst 1, 1) := by decide +kernel
theorem dX6_decide_5 : decode cX6_decide 5 = .ok (.iadd, 1) := by decide +kernel
theorem dX6_decide_6 : decode cX6_decide 6 = .ok (.istore_n 2, 1) := by decide +kernel
theorem dX6_decide_7 : decode cX6_decide 7 = .ok (.aload_n 0, 1) := by decide +kernel
theorem dX6_decide_8 : decode cX6_decide 8 = .ok (.getfield 44, 3) := by decide +kernel
theorem dX6_decide_11 : decode cX6_decide 11 = .ok (.iload_n 1, 1) := by decide +kernel
theorem dX6_decide_12 : decode cX6_decide 12 = .ok (.ior, 1) := by decide +kernel
theorem dX6_decide_13 : decode cX6_decide 13 = .ok (.istore_n 3, 1) := by decide +kernel
theorem dX6_decide_14 : decode cX6_decide 14 = .ok (.iconst 0, 1) := by decide +kernel
theorem dX6_decide_15 : decode cX6_decide 15 = .ok (.istore 4, 2) := by decide +kernel
theorem dX6_decide_17 : decode cX6_decide 17 = .ok (.iload 4, 2) := by decide +kernel
theorem dX6_decide_19 : decode cX6_decide 19 = .ok (.aload_n 0, 1) := by decide +kernel
theorem dX6_decide_20 : decode cX6_decide 20 = .ok (.getfield 27, 3) := by decide +kernel
theorem dX6_decide_23 : decode cX6_decide 23 = .ok (.getfield 62, 3) := by decide +kernel
theorem dX6_decide_26 : decode cX6_decide 26 = .ok (.if_icmp .ge 75, 3) := by decide +kernel
theorem dX6_decide_29 : decode cX6_decide 29 = .ok (.iload 4, 2) := by decide +kernel
theorem dX6_decide_31 : decode cX6_decide 31 = .ok (.bipush 7, 2) := by decide +kernel
theorem dX6_decide_33 : decode cX6_decide 33 = .ok (.if_icmp .ge 68, 3) := by decide +kernel
theorem dX6_decide_36 : decode cX6_decide 36 = .ok (.aload_n 0, 1) := by decide +kernel
theorem dX6_decide_37 : decode cX6_decide 37 = .ok (.getfield 27, 3) := by decide +kernel
theorem dX6_decide_40 : decode cX6_decide 40 = .ok (.aload_n 0, 1) := by decide +kernel
theorem dX6_decide_41 : decode cX6_decide 41 = .ok (.getfield 9, 3) := by decide +kernel
theorem dX6_decide_44 : decode cX6_decide 44 = .ok (.iload 4, 2) := by decide +kernel
theorem dX6_decide_46 : decode cX6_decide 46 = .ok (.iaload, 1) := by decide +kernel
theorem dX6_decide_47 : decode cX6_decide 47 = .ok (.invokevirtual 91, 3) := by decide +kernel
theorem dX6_decide_50 : decode cX6_decide 50 = .ok (.istore 5, 2) := by decide +kernel
theorem dX6_decide_52 : decode cX6_decide 52 = .ok (.aload_n 0, 1) := by decide +kernel
theorem dX6_decide_53 : decode cX6_decide 53 = .ok (.getfield 18, 3) := by decide +kernel
theorem dX6_decide_56 : decode cX6_decide 56 = .ok (.iload 4, 2) := by decide +kernel
theorem dX6_decide_58 : decode cX6_decide 58 = .ok (.aload_n 0, 1) := by decide +kernel
theorem dX6_decide_59 : decode cX6_decide 59 = .ok (.iload 5, 2) := by decide +kernel
theorem dX6_decide_61 : decode cX6_decide 61 = .ok (.invokevirtual 94, 3) := by decide +kernel
theorem dX6_decide_64 : decode cX6_decide 64 = .ok (.iastore, 1) := by decide +kernel
theorem dX6_decide_65 : decode cX6_decide 65 = .ok (.iload 5, 2) := by decide +kernel
theorem dX6_decide_67 : decode cX6_decide 67 = .ok (.aload_n 0, 1) := by decide +kernel
theorem dX6_decide_68 : decode cX6_decide 68 = .ok (.getfield 53, 3) := by decide +kernel
theorem dX6_decide_71 : decode cX6_decide 71 = .ok (.if_icmp .eq 24, 3) := by decide +kernel
theorem dX6_decide_74 : decode cX6_decide 74 = .ok (.aload_n 0, 1) := by decide +kernel
theorem dX6_decide_75 : decode cX6_decide 75 = .ok (.getfield 27, 3) := by decide +kernel
theorem dX6_decide_78 : decode cX6_decide 78 = .ok (.iload 4, 2) := by decide +kernel
theorem dX6_decide_80 : decode cX6_decide 80 = .ok (.iload 5, 2) := by decide +kernel
theorem dX6_decide_82 : decode cX6_decide 82 = .ok (.invokevirtual 97, 3) := by decide +kernel
theorem dX6_decide_85 : decode cX6_decide 85 = .ok (.ifCond .eq 10, 3) := by decide +kernel
theorem dX6_decide_88 : decode cX6_decide 88 = .ok (.iload_n 3, 1) := by decide +kernel
theorem dX6_decide_89 : decode cX6_decide 89 = .ok (.iconst 1, 1) := by decide +kernel
theorem dX6_decide_90 : decode cX6_decide 90 = .ok (.iload 4, 2) := by decide +kernel
theorem dX6_decide_92 : decode cX6_decide 92 = .ok (.ishl, 1) := by decide +kernel
theorem dX6_decide_93 : decode cX6_decide 93 = .ok (.ior, 1) := by decide +kernel
theorem dX6_decide_94 : decode cX6_decide 94 = .ok (.istore_n 3, 1) := by decide +kernel
theorem dX6_decide_95 : decode cX6_decide 95 = .ok (.iinc 4 1, 3) := by decide +kernel
theorem dX6_decide_98 : decode cX6_decide 98 = .ok (.goto (-81), 3) := by decide +kernel
theorem dX6_decide_101 : decode cX6_decide 101 = .ok (.iload_n 2, 1) := by decide +kernel
theorem dX6_decide_102 : decode cX6_decide 102 = .ok (.bipush 9, 2) := by decide +kernel
theorem dX6_decide_104 : decode cX6_decide 104 = .ok (.irem, 1) := by decide +kernel
theorem dX6_decide_105 : decode cX6_decide 105 = .ok (.ifCond .eq 10, 3) := by decide +kernel
theorem dX6_decide_108 : decode cX6_decide 108 = .ok (.iload_n 3, 1) := by decide +kernel
theorem dX6_decide_109 : decode cX6_decide 109 = .ok (.aload_n 0, 1) := by decide +kernel
theorem dX6_decide_110 : decode cX6_decide 110 = .ok (.getfield 47, 3) := by decide +kernel
theorem dX6_decide_113 : decode cX6_decide 113 = .ok (.ior, 1) := by decide +kernel
theorem dX6_decide_114 : decode cX6_decide 114 = .ok (.istore_n 3, 1) := by decide +kernel
theorem dX6_decide_115 : decode cX6_decide 115 = .ok (.aload_n 0, 1) := by decide +kernel
theorem dX6_decide_116 : decode cX6_decide 116 = .ok (.getfield 27, 3) := by decide +kernel
theorem dX6_decide_119 : decode cX6_decide 119 = .ok (.getfield 101, 3) := by decide +kernel
theorem dX6_decide_122 : decode cX6_decide 122 = .ok (.ifCond .le 22, 3) := by decide +kernel
theorem dX6_decide_125 : decode cX6_decide 125 = .ok (.iload_n 2, 1) := by decide +kernel
theorem dX6_decide_126 : decode cX6_decide 126 = .ok (.aload_n 0, 1) := by decide +kernel
theorem dX6_decide_127 : decode cX6_decide 127 = .ok (.getfield 27, 3) := by decide +kernel
theorem dX6_decide_130 : decode cX6_decide 130 = .ok (.getfield 101, 3) := by decide +kernel
theorem dX6_decide_133 : decode cX6_decide 133 = .ok (.irem, 1) := by decide +kernel
theorem dX6_decide_134 : decode cX6_decide 134 = .ok (.ifCond .eq 10, 3) := by decide +kernel
theorem dX6_decide_137 : decode cX6_decide 137 = .ok (.iload_n 3, 1) := by decide +kernel
theorem dX6_decide_138 : decode cX6_decide 138 = .ok (.aload_n 0, 1) := by decide +kernel
theorem dX6_decide_139 : decode cX6_decide 139 = .ok (.getfield 50, 3) := by decide +kernel
theorem dX6_decide_142 : decode cX6_decide 142 = .ok (.ior, 1) := by decide +kernel
theorem dX6_decide_143 : decode cX6_decide 143 = .ok (.istore_n 3, 1) := by decide +kernel
theorem dX6_decide_144 : decode cX6_decide 144 = .ok (.aload_n 0, 1) := by decide +kernel
theorem dX6_decide_145 : decode cX6_decide 145 = .ok (.iload_n 3, 1) := by decide +kernel
theorem dX6_decide_146 : decode cX6_decide 146 = .ok (.putfield 88, 3) := by decide +kernel
theorem dX6_decide_149 : decode cX6_decide 149 = .ok (.aload_n 0, 1) := by decide +kernel
theorem dX6_decide_150 : decode cX6_decide 150 = .ok (.iconst 1, 1) := by decide +kernel
theorem dX6_decide_151 : decode cX6_decide 151 = .ok (.aload_n 0, 1) := by decide +kernel
theorem dX6_decide_152 : decode cX6_decide 152 = .ok (.getfield 27, 3) := by decide +kernel
theorem dX6_decide_155 : decode cX6_decide 155 = .ok (.getfield 62, 3) := by decide +kernel
theorem dX6_decide_158 : decode cX6_decide 158 = .ok (.ishl, 1) := by decide +kernel
theorem dX6_decide_159 : decode cX6_decide 159 = .ok (.iconst 1, 1) := by decide +kernel
theorem dX6_decide_160 : decode cX6_decide 160 = .ok (.isub, 1) := by decide +kernel
theorem dX6_decide_161 : decode cX6_decide 161 = .ok (.aload_n 0, 1) := by decide +kernel
theorem dX6_decide_162 : decode cX6_decide 162 = .ok (.iload_n 3, 1) := by decide +kernel
theorem dX6_decide_163 : decode cX6_decide 163 = .ok (.invokevirtual 104, 3) := by decide +kernel
theorem dX6_decide_166 : decode cX6_decide 166 = .ok (.iconst (-1), 1) := by decide +kernel
theorem dX6_decide_167 : decode cX6_decide 167 = .ok (.ixor, 1) := by decide +kernel
theorem dX6_decide_168 : decode cX6_decide 168 = .ok (.iand, 1) := by decide +kernel
theorem dX6_decide_169 : decode cX6_decide 169 = .ok (.putfield 85, 3) := by decide +kernel
theorem dX6_decide_172 : decode cX6_decide 172 = .ok (.return_, 1) := by decide +kernel
theorem dX6_withThoseBehind_0 : decode cX6_withThoseBehind 0 = .ok (.iload_n 1, 1) := by decide +kernel
theorem dX6_withThoseBehind_1 : decode cX6_withThoseBehind 1 = .ok (.istore_n 2, 1) := by decide +kernel
theorem dX6_withThoseBehind_2 : decode cX6_withThoseBehind 2 = .ok (.iload_n 2, 1) := by decide +kernel
theorem dX6_withThoseBehind_3 : decode cX6_withThoseBehind 3 = .ok (.ifCond .eq 7, 3) := by decide +kernel
theorem dX6_withThoseBehind_6 : decode cX6_withThoseBehind 6 = .ok (.iconst 1, 1) := by decide +kernel
theorem dX6_withThoseBehind_7 : decode cX6_withThoseBehind 7 = .ok (.goto 4, 3) := by decide +kernel
theorem dX6_withThoseBehind_10 : decode cX6_withThoseBehind 10 = .ok (.iconst 0, 1) := by decide +kernel
theorem dX6_withThoseBehind_11 : decode cX6_withThoseBehind 11 = .ok (.istore_n 3, 1) := by decide +kernel
theorem dX6_withThoseBehind_12 : decode cX6_withThoseBehind 12 = .ok (.iconst 0, 1) := by decide +kernel
theorem dX6_withThoseBehind_13 : decode cX6_withThoseBehind 13 = .ok (.istore 4, 2) := by decide +kernel
theorem dX6_withThoseBehind_15 : decode cX6_withThoseBehind 15 = .ok (.iload 4, 2) := by decide +kernel
theorem dX6_withThoseBehind_17 : decode cX6_withThoseBehind 17 = .ok (.bipush 7, 2) := by decide +kernel
theorem dX6_withThoseBehind_19 : decode cX6_withThoseBehind 19 = .ok (.if_icmp .ge 84, 3) := by decide +kernel
theorem dX6_withThoseBehind_22 : decode cX6_withThoseBehind 22 = .ok (.iload_n 3, 1) := by decide +kernel
theorem dX6_withThoseBehind_23 : decode cX6_withThoseBehind 23 = .ok (.ifCond .eq 80, 3) := by decide +kernel
theorem dX6_withThoseBehind_26 : decode cX6_withThoseBehind 26 = .ok (.iconst 0, 1) := by decide +kernel
theorem dX6_withThoseBehind_27 : decode cX6_withThoseBehind 27 = .ok (.istore_n 3, 1) := by decide +kernel
theorem dX6_withThoseBehind_28 : decode cX6_withThoseBehind 28 = .ok (.iconst 0, 1) := by decide +kernel
theorem dX6_withThoseBehind_29 : decode cX6_withThoseBehind 29 = .ok (.istore 5, 2) := by decide +kernel
theorem dX6_withThoseBehind_31 : decode cX6_withThoseBehind 31 = .ok (.iload 5, 2) := by decide +kernel
theorem dX6_withThoseBehind_33 : decode cX6_withThoseBehind 33 = .ok (.aload_n 0, 1) := by decide +kernel
theorem dX6_withThoseBehind_34 : decode cX6_withThoseBehind 34 = .ok (.getfield 27, 3) := by decide +kernel
theorem dX6_withThoseBehind_37 : decode cX6_withThoseBehind 37 = .ok (.getfield 62, 3) := by decide +kernel
theorem dX6_withThoseBehind_40 : decode cX6_withThoseBehind 40 = .ok (.if_icmp .ge 57, 3) := by decide +kernel
theorem dX6_withThoseBehind_43 : decode cX6_withThoseBehind 43 = .ok (.iload 5, 2) := by decide +kernel
theorem dX6_withThoseBehind_45 : decode cX6_withThoseBehind 45 = .ok (.bipush 7, 2) := by decide +kernel
theorem dX6_withThoseBehind_47 : decode cX6_withThoseBehind 47 = .ok (.if_icmp .ge 50, 3) := by decide +kernel
theorem dX6_withThoseBehind_50 : decode cX6_withThoseBehind 50 = .ok (.aload_n 0, 1) := by decide +kernel
theorem dX6_withThoseBehind_51 : decode cX6_withThoseBehind 51 = .ok (.getfield 18, 3) := by decide +kernel
theorem dX6_withThoseBehind_54 : decode cX6_withThoseBehind 54 = .ok (.iload 5, 2) := by decide +kernel
theorem dX6_withThoseBehind_56 : decode cX6_withThoseBehind 56 = .ok (.iaload, 1) := by decide +kernel
theorem dX6_withThoseBehind_57 : decode cX6_withThoseBehind 57 = .ok (.istore 6, 2) := by decide +kernel
theorem dX6_withThoseBehind_59 : decode cX6_withThoseBehind 59 = .ok (.iload 6, 2) := by decide +kernel
theorem dX6_withThoseBehind_61 : decode cX6_withThoseBehind 61 = .ok (.ifCond .lt 30, 3) := by decide +kernel
theorem dX6_withThoseBehind_64 : decode cX6_withThoseBehind 64 = .ok (.iload_n 2, 1) := by decide +kernel
theorem dX6_withThoseBehind_65 : decode cX6_withThoseBehind 65 = .ok (.iload 6, 2) := by decide +kernel
theorem dX6_withThoseBehind_67 : decode cX6_withThoseBehind 67 = .ok (.ishr, 1) := by decide +kernel
theorem dX6_withThoseBehind_68 : decode cX6_withThoseBehind 68 = .ok (.iconst 1, 1) := by decide +kernel
theorem dX6_withThoseBehind_69 : decode cX6_withThoseBehind 69 = .ok (.iand, 1) := by decide +kernel
theorem dX6_withThoseBehind_70 : decode cX6_withThoseBehind 70 = .ok (.ifCond .eq 21, 3) := by decide +kernel
theorem dX6_withThoseBehind_73 : decode cX6_withThoseBehind 73 = .ok (.iload_n 2, 1) := by decide +kernel
theorem dX6_withThoseBehind_74 : decode cX6_withThoseBehind 74 = .ok (.iload 5, 2) := by decide +kernel
theorem dX6_withThoseBehind_76 : decode cX6_withThoseBehind 76 = .ok (.ishr, 1) := by decide +kernel
theorem dX6_withThoseBehind_77 : decode cX6_withThoseBehind 77 = .ok (.iconst 1, 1) := by decide +kernel
theorem dX6_withThoseBehind_78 : decode cX6_withThoseBehind 78 = .ok (.iand, 1) := by decide +kernel
theorem dX6_withThoseBehind_79 : decode cX6_withThoseBehind 79 = .ok (.ifCond .ne 12, 3) := by decide +kernel
theorem dX6_withThoseBehind_82 : decode cX6_withThoseBehind 82 = .ok (.iload_n 2, 1) := by decide +kernel
theorem dX6_withThoseBehind_83 : decode cX6_withThoseBehind 83 = .ok (.iconst 1, 1) := by decide +kernel
theorem dX6_withThoseBehind_84 : decode cX6_withThoseBehind 84 = .ok (.iload 5, 2) := by decide +kernel
theorem dX6_withThoseBehind_86 : decode cX6_withThoseBehind 86 = .ok (.ishl, 1) := by decide +kernel
theorem dX6_withThoseBehind_87 : decode cX6_withThoseBehind 87 = .ok (.ior, 1) := by decide +kernel
theorem dX6_withThoseBehind_88 : decode cX6_withThoseBehind 88 = .ok (.istore_n 2, 1) := by decide +kernel
theorem dX6_withThoseBehind_89 : decode cX6_withThoseBehind 89 = .ok (.iconst 1, 1) := by decide +kernel
theorem dX6_withThoseBehind_90 : decode cX6_withThoseBehind 90 = .ok (.istore_n 3, 1) := by decide +kernel
theorem dX6_withThoseBehind_91 : decode cX6_withThoseBehind 91 = .ok (.iinc 5 1, 3) := by decide +kernel
theorem dX6_withThoseBehind_94 : decode cX6_withThoseBehind 94 = .ok (.goto (-63), 3) := by decide +kernel
theorem dX6_withThoseBehind_97 : decode cX6_withThoseBehind 97 = .ok (.iinc 4 1, 3) := by decide +kernel
theorem dX6_withThoseBehind_100 : decode cX6_withThoseBehind 100 = .ok (.goto (-85), 3) := by decide +kernel
theorem dX6_withThoseBehind_103 : decode cX6_withThoseBehind 103 = .ok (.iload_n 2, 1) := by decide +kernel
theorem dX6_withThoseBehind_104 : decode cX6_withThoseBehind 104 = .ok (.ireturn, 1) := by decide +kernel
set_option maxRecDepth 20000 in
theorem ggX6_pass_X6_decide : GoodIn wsX6_pass wsX6_decide := goodIn_r _ [10, 1, 11, 2, 3, 5, 12, 13, 14, 15, 16, 17, 4, 18, 19, 20, 21, 22, 23, 24, 25, 26, 9, 27, 28, 29, 30, 31, 32, 33, 34, 35, 36, 37, 38, 39, 44, 45, 46, 47, 48, 49, 50, 51, 52, 53, 54, 55, 56, 57, 58, 59, 60, 61, 62, 63, 64, 65, 66, 67, 68, 69, 70, 71, 72, 73, 74, 75, 76] (by decide +kernel) (by decide +kernel)
set_option maxRecDepth 20000 in
theorem gX6_pass_X6_decide : GoodIn wsX6_pass (wsV RX6 107 RX6 yX6_decide wsX6_decide) := goodIn_app (goodIn_of _ (by decide +kernel)) ggX6_pass_X6_decide
set_option maxRecDepth 20000 in
theorem ggX6_pass_X6_seat : GoodIn wsX6_pass wsX6_seat := goodIn_r _ [43, 28, 44, 45, 46, 47, 48, 49, 50, 51, 52, 53, 54, 55, 56] (by decide +kernel) (by decide +kernel)
set_option maxRecDepth 20000 in
theorem gX6_pass_X6_seat : GoodIn wsX6_pass (wsV RX6 72 RX6 yX6_seat wsX6_seat) := goodIn_app (goodIn_of _ (by decide +kernel)) ggX6_pass_X6_seat
set_option maxRecDepth 20000 in
theorem ggX6_pass_X4_nextOf : GoodIn wsX6_pass wsX4_nextOf := goodIn_r _ [22, 23, 57, 58, 59, 60, 61, 62, 63, 64, 65, 66, 67, 68, 69, 70, 71, 72, 73, 74, 75, 76] (by decide +kernel) (by decide +kernel)
set_option maxRecDepth 20000 in
theorem gX6_pass_X4_nextOf : GoodIn wsX6_pass (wsV RX6 91 RX4 yX4_nextOf wsX4_nextOf) := goodIn_app (goodIn_of _ (by decide +kernel)) ggX6_pass_X4_nextOf
theorem dX6_pass_0 : decode cX6_pass 0 = .ok (.aload_n 0, 1) := by decide +kernel
theorem dX6_pass_1 : decode cX6_pass 1 = .ok (.iload_n 1, 1) := by decide +kernel
theorem dX6_pass_2 : decode cX6_pass 2 = .ok (.invokevirtual 107, 3) := by decide +kernel
theorem dX6_pass_5 : decode cX6_pass 5 = .ok (.aload_n 0, 1) := by decide +kernel
theorem dX6_pass_6 : decode cX6_pass 6 = .ok (.dup, 1) := by decide +kernel
theorem dX6_pass_7 : decode cX6_pass 7 = .ok (.getfield 37, 3) := by decide +kernel
theorem dX6_pass_10 : decode cX6_pass 10 = .ok (.iconst 1, 1) := by decide +kernel
theorem dX6_pass_11 : decode cX6_pass 11 = .ok (.iadd, 1) := by decide +kernel
theorem dX6_pass_12 : decode cX6_pass 12 = .ok (.putfield 37, 3) := by decide +kernel
theorem dX6_pass_15 : decode cX6_pass 15 = .ok (.iconst 0, 1) := by decide +kernel
theorem dX6_pass_16 : decode cX6_pass 16 = .ok (.istore_n 2, 1) := by decide +kernel
theorem dX6_pass_17 : decode cX6_pass 17 = .ok (.iload_n 2, 1) := by decide +kernel
theorem dX6_pass_18 : decode cX6_pass 18 = .ok (.aload_n 0, 1) := by decide +kernel
theorem dX6_pass_19 : decode cX6_pass 19 = .ok (.getfield 27, 3) := by decide +kernel
theorem dX6_pass_22 : decode cX6_pass 22 = .ok (.getfield 62, 3) := by decide +kernel
theorem dX6_pass_25 : decode cX6_pass 25 = .ok (.if_icmp .ge 37, 3) := by decide +kernel
theorem dX6_pass_28 : decode cX6_pass 28 = .ok (.iload_n 2, 1) := by decide +kernel
theorem dX6_pass_29 : decode cX6_pass 29 = .ok (.bipush 7, 2) := by decide +kernel
theorem dX6_pass_31 : decode cX6_pass 31 = .ok (.if_icmp .ge 31, 3) := by decide +kernel
theorem dX6_pass_34 : decode cX6_pass 34 = .ok (.aload_n 0, 1) := by decide +kernel
theorem dX6_pass_35 : decode cX6_pass 35 = .ok (.getfield 85, 3) := by decide +kernel
theorem dX6_pass_38 : decode cX6_pass 38 = .ok (.iload_n 2, 1) := by decide +kernel
theorem dX6_pass_39 : decode cX6_pass 39 = .ok (.ishr, 1) := by decide +kernel
theorem dX6_pass_40 : decode cX6_pass 40 = .ok (.iconst 1, 1) := by decide +kernel
theorem dX6_pass_41 : decode cX6_pass 41 = .ok (.iand, 1) := by decide +kernel
theorem dX6_pass_42 : decode cX6_pass 42 = .ok (.ifCond .eq 14, 3) := by decide +kernel
theorem dX6_pass_45 : decode cX6_pass 45 = .ok (.aload_n 0, 1) := by decide +kernel
theorem dX6_pass_46 : decode cX6_pass 46 = .ok (.iconst (-1), 1) := by decide +kernel
theorem dX6_pass_47 : decode cX6_pass 47 = .ok (.aload_n 0, 1) := by decide +kernel
theorem dX6_pass_48 : decode cX6_pass 48 = .ok (.getfield 9, 3) := by decide +kernel
theorem dX6_pass_51 : decode cX6_pass 51 = .ok (.iload_n 2, 1) := by decide +kernel
theorem dX6_pass_52 : decode cX6_pass 52 = .ok (.iaload, 1) := by decide +kernel
theorem dX6_pass_53 : decode cX6_pass 53 = .ok (.invokevirtual 72, 3) := by decide +kernel
theorem dX6_pass_56 : decode cX6_pass 56 = .ok (.iinc 2 1, 3) := by decide +kernel
theorem dX6_pass_59 : decode cX6_pass 59 = .ok (.goto (-42), 3) := by decide +kernel
theorem dX6_pass_62 : decode cX6_pass 62 = .ok (.iconst 0, 1) := by decide +kernel
theorem dX6_pass_63 : decode cX6_pass 63 = .ok (.istore_n 2, 1) := by decide +kernel
theorem dX6_pass_64 : decode cX6_pass 64 = .ok (.iload_n 2, 1) := by decide +kernel
theorem dX6_pass_65 : decode cX6_pass 65 = .ok (.aload_n 0, 1) := by decide +kernel
theorem dX6_pass_66 : decode cX6_pass 66 = .ok (.getfield 27, 3) := by decide +kernel
theorem dX6_pass_69 : decode cX6_pass 69 = .ok (.getfield 62, 3) := by decide +kernel
theorem dX6_pass_72 : decode cX6_pass 72 = .ok (.if_icmp .ge 56, 3) := by decide +kernel
theorem dX6_pass_75 : decode cX6_pass 75 = .ok (.iload_n 2, 1) := by decide +kernel
theorem dX6_pass_76 : decode cX6_pass 76 = .ok (.bipush 7, 2) := by decide +kernel
theorem dX6_pass_78 : decode cX6_pass 78 = .ok (.if_icmp .ge 50, 3) := by decide +kernel
theorem dX6_pass_81 : decode cX6_pass 81 = .ok (.aload_n 0, 1) := by decide +kernel
theorem dX6_pass_82 : decode cX6_pass 82 = .ok (.getfield 85, 3) := by decide +kernel
theorem dX6_pass_85 : decode cX6_pass 85 = .ok (.iload_n 2, 1) := by decide +kernel
theorem dX6_pass_86 : decode cX6_pass 86 = .ok (.ishr, 1) := by decide +kernel
theorem dX6_pass_87 : decode cX6_pass 87 = .ok (.iconst 1, 1) := by decide +kernel
theorem dX6_pass_88 : decode cX6_pass 88 = .ok (.iand, 1) := by decide +kernel
theorem dX6_pass_89 : decode cX6_pass 89 = .ok (.ifCond .eq 33, 3) := by decide +kernel
theorem dX6_pass_92 : decode cX6_pass 92 = .ok (.aload_n 0, 1) := by decide +kernel
theorem dX6_pass_93 : decode cX6_pass 93 = .ok (.getfield 9, 3) := by decide +kernel
theorem dX6_pass_96 : decode cX6_pass 96 = .ok (.iload_n 2, 1) := by decide +kernel
theorem dX6_pass_97 : decode cX6_pass 97 = .ok (.aload_n 0, 1) := by decide +kernel
theorem dX6_pass_98 : decode cX6_pass 98 = .ok (.getfield 27, 3) := by decide +kernel
theorem dX6_pass_101 : decode cX6_pass 101 = .ok (.aload_n 0, 1) := by decide +kernel
theorem dX6_pass_102 : decode cX6_pass 102 = .ok (.getfield 9, 3) := by decide +kernel
theorem dX6_pass_105 : decode cX6_pass 105 = .ok (.iload_n 2, 1) := by decide +kernel
theorem dX6_pass_106 : decode cX6_pass 106 = .ok (.iaload, 1) := by decide +kernel
theorem dX6_pass_107 : decode cX6_pass 107 = .ok (.invokevirtual 91, 3) := by decide +kernel
theorem dX6_pass_110 : decode cX6_pass 110 = .ok (.iastore, 1) := by decide +kernel
theorem dX6_pass_111 : decode cX6_pass 111 = .ok (.aload_n 0, 1) := by decide +kernel
theorem dX6_pass_112 : decode cX6_pass 112 = .ok (.iload_n 2, 1) := by decide +kernel
theorem dX6_pass_113 : decode cX6_pass 113 = .ok (.aload_n 0, 1) := by decide +kernel
theorem dX6_pass_114 : decode cX6_pass 114 = .ok (.getfield 9, 3) := by decide +kernel
theorem dX6_pass_117 : decode cX6_pass 117 = .ok (.iload_n 2, 1) := by decide +kernel
theorem dX6_pass_118 : decode cX6_pass 118 = .ok (.iaload, 1) := by decide +kernel
theorem dX6_pass_119 : decode cX6_pass 119 = .ok (.invokevirtual 72, 3) := by decide +kernel
theorem dX6_pass_122 : decode cX6_pass 122 = .ok (.iinc 2 1, 3) := by decide +kernel
theorem dX6_pass_125 : decode cX6_pass 125 = .ok (.goto (-61), 3) := by decide +kernel
theorem dX6_pass_128 : decode cX6_pass 128 = .ok (.return_, 1) := by decide +kernel
set_option maxRecDepth 20000 in
theorem ggX6_goOn_X6_pass : GoodIn wsX6_goOn wsX6_pass := goodIn_r _ [6, 7, 8, 9, 1, 10, 11, 12, 13, 5, 14, 15, 16, 17, 18, 19, 20, 21, 22, 23, 24, 25, 26, 27, 28, 29, 30, 31, 32, 33, 34, 35, 36, 37, 38, 39, 40, 41, 42, 43, 44, 45, 46, 47, 55, 56, 57, 58, 59, 60, 61, 62, 63, 64, 65, 66, 67, 68, 69, 70, 71, 72, 73, 74, 75, 76, 77, 78, 79, 80, 81, 82, 83, 84, 85, 86, 87] (by decide +kernel) (by decide +kernel)
set_option maxRecDepth 20000 in
theorem gX6_goOn_X6_pass : GoodIn wsX6_goOn (wsV RX6 115 RX6 yX6_pass wsX6_pass) := goodIn_app (goodIn_of _ (by decide +kernel)) ggX6_goOn_X6_pass
set_option maxRecDepth 20000 in
theorem ggX6_goOn_J6_bitCount_0f7a4 : GoodIn wsX6_goOn wsJ6_bitCount_0f7a4 := goodIn_r _ [51, 52, 53, 54] (by decide +kernel) (by decide +kernel)
set_option maxRecDepth 20000 in
theorem gX6_goOn_J6_bitCount_0f7a4 : GoodIn wsX6_goOn (va_wsS RX6 118 yJ6_bitCount_0f7a4 wsJ6_bitCount_0f7a4) := goodIn_app (goodIn_of _ (by decide +kernel)) ggX6_goOn_J6_bitCount_0f7a4
theorem dX6_goOn_0 : decode cX6_goOn 0 = .ok (.iconst 0, 1) := by decide +kernel
theorem dX6_goOn_1 : decode cX6_goOn 1 = .ok (.istore_n 2, 1) := by decide +kernel
theorem dX6_goOn_2 : decode cX6_goOn 2 = .ok (.iconst 0, 1) := by decide +kernel
theorem dX6_goOn_3 : decode cX6_goOn 3 = .ok (.istore_n 3, 1) := by decide +kernel
theorem dX6_goOn_4 : decode cX6_goOn 4 = .ok (.iload_n 3, 1) := by decide +kernel
theorem dX6_goOn_5 : decode cX6_goOn 5 = .ok (.iload_n 1, 1) := by decide +kernel
theorem dX6_goOn_6 : decode cX6_goOn 6 = .ok (.if_icmp .ge 24, 3) := by decide +kernel
theorem dX6_goOn_9 : decode cX6_goOn 9 = .ok (.aload_n 0, 1) := by decide +kernel
theorem dX6_goOn_10 : decode cX6_goOn 10 = .ok (.iconst 0, 1) := by decide +kernel
theorem dX6_goOn_11 : decode cX6_goOn 11 = .ok (.invokevirtual 115, 3) := by decide +kernel
theorem dX6_goOn_14 : decode cX6_goOn 14 = .ok (.iload_n 2, 1) := by decide +kernel
theorem dX6_goOn_15 : decode cX6_goOn 15 = .ok (.aload_n 0, 1) := by decide +kernel
theorem dX6_goOn_16 : decode cX6_goOn 16 = .ok (.getfield 85, 3) := by decide +kernel
theorem dX6_goOn_19 : decode cX6_goOn 19 = .ok (.invokestatic 118, 3) := by decide +kernel
theorem dX6_goOn_22 : decode cX6_goOn 22 = .ok (.iadd, 1) := by decide +kernel
theorem dX6_goOn_23 : decode cX6_goOn 23 = .ok (.istore_n 2, 1) := by decide +kernel
theorem dX6_goOn_24 : decode cX6_goOn 24 = .ok (.iinc 3 1, 3) := by decide +kernel
theorem dX6_goOn_27 : decode cX6_goOn 27 = .ok (.goto (-23), 3) := by decide +kernel
theorem dX6_goOn_30 : decode cX6_goOn 30 = .ok (.iload_n 2, 1) := by decide +kernel
theorem dX6_goOn_31 : decode cX6_goOn 31 = .ok (.ireturn, 1) := by decide +kernel
theorem dX8_ringOfCell_0 : decode cX8_ringOfCell 0 = .ok (.iload_n 0, 1) := by decide +kernel
theorem dX8_ringOfCell_1 : decode cX8_ringOfCell 1 = .ok (.bipush 9, 2) := by decide +kernel
theorem dX8_ringOfCell_3 : decode cX8_ringOfCell 3 = .ok (.idiv, 1) := by decide +kernel
theorem dX8_ringOfCell_4 : decode cX8_ringOfCell 4 = .ok (.ireturn, 1) := by decide +kernel
theorem dJ6_bitCount_0f7a4_0 : decode cJ6_bitCount_0f7a4 0 = .ok (.iload_n 0, 1) := by decide +kernel
theorem dJ6_bitCount_0f7a4_1 : decode cJ6_bitCount_0f7a4 1 = .ok (.iload_n 0, 1) := by decide +kernel
theorem dJ6_bitCount_0f7a4_2 : decode cJ6_bitCount_0f7a4 2 = .ok (.iconst 1, 1) := by decide +kernel
theorem dJ6_bitCount_0f7a4_3 : decode cJ6_bitCount_0f7a4 3 = .ok (.iushr, 1) := by decide +kernel
theorem dJ6_bitCount_0f7a4_4 : decode cJ6_bitCount_0f7a4 4 = .ok (.ldc_w 265, 3) := by decide +kernel
theorem dJ6_bitCount_0f7a4_7 : decode cJ6_bitCount_0f7a4 7 = .ok (.iand, 1) := by decide +kernel
theorem dJ6_bitCount_0f7a4_8 : decode cJ6_bitCount_0f7a4 8 = .ok (.isub, 1) := by decide +kernel
theorem dJ6_bitCount_0f7a4_9 : decode cJ6_bitCount_0f7a4 9 = .ok (.istore_n 0, 1) := by decide +kernel
theorem dJ6_bitCount_0f7a4_10 : decode cJ6_bitCount_0f7a4 10 = .ok (.iload_n 0, 1) := by decide +kernel
theorem dJ6_bitCount_0f7a4_11 : decode cJ6_bitCount_0f7a4 11 = .ok (.ldc_w 266, 3) := by decide +kernel
theorem dJ6_bitCount_0f7a4_14 : decode cJ6_bitCount_0f7a4 14 = .ok (.iand, 1) := by decide +kernel
theorem dJ6_bitCount_0f7a4_15 : decode cJ6_bitCount_0f7a4 15 = .ok (.iload_n 0, 1) := by decide +kernel
theorem dJ6_bitCount_0f7a4_16 : decode cJ6_bitCount_0f7a4 16 = .ok (.iconst 2, 1) := by decide +kernel
theorem dJ6_bitCount_0f7a4_17 : decode cJ6_bitCount_0f7a4 17 = .ok (.iushr, 1) := by decide +kernel
theorem dJ6_bitCount_0f7a4_18 : decode cJ6_bitCount_0f7a4 18 = .ok (.ldc_w 266, 3) := by decide +kernel
theorem dJ6_bitCount_0f7a4_21 : decode cJ6_bitCount_0f7a4 21 = .ok (.iand, 1) := by decide +kernel
theorem dJ6_bitCount_0f7a4_22 : decode cJ6_bitCount_0f7a4 22 = .ok (.iadd, 1) := by decide +kernel
theorem dJ6_bitCount_0f7a4_23 : decode cJ6_bitCount_0f7a4 23 = .ok (.istore_n 0, 1) := by decide +kernel
theorem dJ6_bitCount_0f7a4_24 : decode cJ6_bitCount_0f7a4 24 = .ok (.iload_n 0, 1) := by decide +kernel
theorem dJ6_bitCount_0f7a4_25 : decode cJ6_bitCount_0f7a4 25 = .ok (.iload_n 0, 1) := by decide +kernel
theorem dJ6_bitCount_0f7a4_26 : decode cJ6_bitCount_0f7a4 26 = .ok (.iconst 4, 1) := by decide +kernel
theorem dJ6_bitCount_0f7a4_27 : decode cJ6_bitCount_0f7a4 27 = .ok (.iushr, 1) := by decide +kernel
theorem dJ6_bitCount_0f7a4_28 : decode cJ6_bitCount_0f7a4 28 = .ok (.iadd, 1) := by decide +kernel
theorem dJ6_bitCount_0f7a4_29 : decode cJ6_bitCount_0f7a4 29 = .ok (.ldc_w 267, 3) := by decide +kernel
theorem dJ6_bitCount_0f7a4_32 : decode cJ6_bitCount_0f7a4 32 = .ok (.iand, 1) := by decide +kernel
theorem dJ6_bitCount_0f7a4_33 : decode cJ6_bitCount_0f7a4 33 = .ok (.istore_n 0, 1) := by decide +kernel
theorem dJ6_bitCount_0f7a4_34 : decode cJ6_bitCount_0f7a4 34 = .ok (.iload_n 0, 1) := by decide +kernel
theorem dJ6_bitCount_0f7a4_35 : decode cJ6_bitCount_0f7a4 35 = .ok (.iload_n 0, 1) := by decide +kernel
theorem dJ6_bitCount_0f7a4_36 : decode cJ6_bitCount_0f7a4 36 = .ok (.bipush 8, 2) := by decide +kernel
theorem dJ6_bitCount_0f7a4_38 : decode cJ6_bitCount_0f7a4 38 = .ok (.iushr, 1) := by decide +kernel
theorem dJ6_bitCount_0f7a4_39 : decode cJ6_bitCount_0f7a4 39 = .ok (.iadd, 1) := by decide +kernel
theorem dJ6_bitCount_0f7a4_40 : decode cJ6_bitCount_0f7a4 40 = .ok (.istore_n 0, 1) := by decide +kernel
theorem dJ6_bitCount_0f7a4_41 : decode cJ6_bitCount_0f7a4 41 = .ok (.iload_n 0, 1) := by decide +kernel
theorem dJ6_bitCount_0f7a4_42 : decode cJ6_bitCount_0f7a4 42 = .ok (.iload_n 0, 1) := by decide +kernel
theorem dJ6_bitCount_0f7a4_43 : decode cJ6_bitCount_0f7a4 43 = .ok (.bipush 16, 2) := by decide +kernel
theorem dJ6_bitCount_0f7a4_45 : decode cJ6_bitCount_0f7a4 45 = .ok (.iushr, 1) := by decide +kernel
theorem dJ6_bitCount_0f7a4_46 : decode cJ6_bitCount_0f7a4 46 = .ok (.iadd, 1) := by decide +kernel
theorem dJ6_bitCount_0f7a4_47 : decode cJ6_bitCount_0f7a4 47 = .ok (.istore_n 0, 1) := by decide +kernel
theorem dJ6_bitCount_0f7a4_48 : decode cJ6_bitCount_0f7a4 48 = .ok (.iload_n 0, 1) := by decide +kernel
theorem dJ6_bitCount_0f7a4_49 : decode cJ6_bitCount_0f7a4 49 = .ok (.bipush 63, 2) := by decide +kernel
theorem dJ6_bitCount_0f7a4_51 : decode cJ6_bitCount_0f7a4 51 = .ok (.iand, 1) := by decide +kernel
theorem dJ6_bitCount_0f7a4_52 : decode cJ6_bitCount_0f7a4 52 = .ok (.ireturn, 1) := by decide +kernel
