theorem dX8_night_108 : decode cX8_night 108 = .ok (.aload_n 0, 1) := by decide +kernel
theorem dX8_night_109 : decode cX8_night 109 = .ok (.aload_n 0, 1) := by decide +kernel
theorem dX8_night_110 : decode cX8_night 110 = .ok (.getfield 26, 3) := by decide +kernel
theorem dX8_night_113 : decode cX8_night 113 = .ok (.invokevirtual 172, 3) := by decide +kernel
theorem dX8_night_116 : decode cX8_night 116 = .ok (.invokevirtual 97, 3) := by decide +kernel
theorem dX8_night_119 : decode cX8_night 119 = .ok (.ireturn, 1) := by decide +kernel
set_option maxRecDepth 20000 in
theorem ggX8_undo_X1_takeBack : GoodIn wsX8_undo wsX1_takeBack := goodIn_r _ [6, 7, 8, 9, 10, 11, 12, 13, 14, 30, 31, 32, 33, 34, 35] (by decide +kernel) (by decide +kernel)
set_option maxRecDepth 20000 in
theorem gX8_undo_X1_takeBack : GoodIn wsX8_undo (wsV RX8 294 RX1 yX1_takeBack wsX1_takeBack) := goodIn_app (goodIn_of _ (by decide +kernel)) ggX8_undo_X1_takeBack
set_option maxRecDepth 20000 in
theorem ggX8_undo_X8_isDone : GoodIn wsX8_undo wsX8_isDone := goodIn_r _ [19, 20, 21, 22, 23, 24, 25, 26, 27, 28, 29] (by decide +kernel) (by decide +kernel)
set_option maxRecDepth 20000 in
theorem gX8_undo_X8_isDone : GoodIn wsX8_undo (wsV RX8 276 RX8 yX8_isDone wsX8_isDone) := goodIn_app (goodIn_of _ (by decide +kernel)) ggX8_undo_X8_isDone
theorem dX8_undo_0 : decode cX8_undo 0 = .ok (.aload_n 0, 1) := by decide +kernel
theorem dX8_undo_1 : decode cX8_undo 1 = .ok (.aload_n 0, 1) := by decide +kernel
theorem dX8_undo_2 : decode cX8_undo 2 = .ok (.getfield 19, 3) := by decide +kernel
theorem dX8_undo_5 : decode cX8_undo 5 = .ok (.invokevirtual 294, 3) := by decide +kernel
theorem dX8_undo_8 : decode cX8_undo 8 = .ok (.ifCond .eq 7, 3) := by decide +kernel
theorem dX8_undo_11 : decode cX8_undo 11 = .ok (.iconst 0, 1) := by decide +kernel
theorem dX8_undo_12 : decode cX8_undo 12 = .ok (.goto 5, 3) := by decide +kernel
theorem dX8_undo_15 : decode cX8_undo 15 = .ok (.bipush 6, 2) := by decide +kernel
theorem dX8_undo_17 : decode cX8_undo 17 = .ok (.invokevirtual 276, 3) := by decide +kernel
theorem dX8_undo_20 : decode cX8_undo 20 = .ok (.ireturn, 1) := by decide +kernel
set_option maxRecDepth 20000 in
theorem ggX8_image_X4_stands : GoodIn wsX8_image wsX4_stands := goodIn_r _ [7, 8, 40, 41, 42, 43, 44, 45, 46, 47, 48, 49, 50, 51, 52, 53, 54, 55, 56, 57, 58, 59] (by decide +kernel) (by decide +kernel)
set_option maxRecDepth 20000 in
theorem gX8_image_X4_stands : GoodIn wsX8_image (wsV RX8 161 RX4 yX4_stands wsX4_stands) := goodIn_app (goodIn_of _ (by decide +kernel)) ggX8_image_X4_stands
set_option maxRecDepth 20000 in
theorem ggX8_image_X8_refuse : GoodIn wsX8_image wsX8_refuse := goodIn_r _ [13, 14, 31, 32, 33, 34, 35, 36, 37, 38, 39] (by decide +kernel) (by decide +kernel)
set_option maxRecDepth 20000 in
theorem gX8_image_X8_refuse : GoodIn wsX8_image (wsV RX8 63 RX8 yX8_refuse wsX8_refuse) := goodIn_app (goodIn_of _ (by decide +kernel)) ggX8_image_X8_refuse
set_option maxRecDepth 20000 in
theorem ggX8_image_X1_takeImage : GoodIn wsX8_image wsX1_takeImage := goodIn_r _ [19, 20, 21, 22, 23, 24, 25, 26, 60, 61, 62, 63, 64, 65] (by decide +kernel) (by decide +kernel)
set_option maxRecDepth 20000 in
theorem gX8_image_X1_takeImage : GoodIn wsX8_image (wsV RX8 297 RX1 yX1_takeImage wsX1_takeImage) := goodIn_app (goodIn_of _ (by decide +kernel)) ggX8_image_X1_takeImage
set_option maxRecDepth 20000 in
theorem ggX8_image_X8_answer : GoodIn wsX8_image wsX8_answer := goodIn_r _ [30, 14, 31, 32, 33, 34, 35, 36, 37, 38, 39] (by decide +kernel) (by decide +kernel)
set_option maxRecDepth 20000 in
theorem gX8_image_X8_answer : GoodIn wsX8_image (wsV RX8 97 RX8 yX8_answer wsX8_answer) := goodIn_app (goodIn_of _ (by decide +kernel)) ggX8_image_X8_answer
theorem dX8_image_0 : decode cX8_image 0 = .ok (.aload_n 0, 1) := by decide +kernel
theorem dX8_image_1 : decode cX8_image 1 = .ok (.getfield 47, 3) := by decide +kernel
theorem dX8_image_4 : decode cX8_image 4 = .ok (.invokevirtual 161, 3) := by decide +kernel
theorem dX8_image_7 : decode cX8_image 7 = .ok (.ifCond .ne 9, 3) := by decide +kernel
theorem dX8_image_10 : decode cX8_image 10 = .ok (.aload_n 0, 1) := by decide +kernel
theorem dX8_image_11 : decode cX8_image 11 = .ok (.iconst 1, 1) := by decide +kernel
theorem dX8_image_12 : decode cX8_image 12 = .ok (.invokevirtual 63, 3) := by decide +kernel
theorem dX8_image_15 : decode cX8_image 15 = .ok (.ireturn, 1) := by decide +kernel
theorem dX8_image_16 : decode cX8_image 16 = .ok (.aload_n 0, 1) := by decide +kernel
theorem dX8_image_17 : decode cX8_image 17 = .ok (.getfield 19, 3) := by decide +kernel
theorem dX8_image_20 : decode cX8_image 20 = .ok (.invokevirtual 297, 3) := by decide +kernel
theorem dX8_image_23 : decode cX8_image 23 = .ok (.istore_n 1, 1) := by decide +kernel
theorem dX8_image_24 : decode cX8_image 24 = .ok (.iload_n 1, 1) := by decide +kernel
theorem dX8_image_25 : decode cX8_image 25 = .ok (.ifCond .ge 11, 3) := by decide +kernel
theorem dX8_image_28 : decode cX8_image 28 = .ok (.aload_n 0, 1) := by decide +kernel
theorem dX8_image_29 : decode cX8_image 29 = .ok (.iconst 3, 1) := by decide +kernel
theorem dX8_image_30 : decode cX8_image 30 = .ok (.invokevirtual 63, 3) := by decide +kernel
theorem dX8_image_33 : decode cX8_image 33 = .ok (.goto 8, 3) := by decide +kernel
theorem dX8_image_36 : decode cX8_image 36 = .ok (.aload_n 0, 1) := by decide +kernel
theorem dX8_image_37 : decode cX8_image 37 = .ok (.iload_n 1, 1) := by decide +kernel
theorem dX8_image_38 : decode cX8_image 38 = .ok (.invokevirtual 97, 3) := by decide +kernel
theorem dX8_image_41 : decode cX8_image 41 = .ok (.ireturn, 1) := by decide +kernel
set_option maxRecDepth 20000 in
theorem ggX8_back_X1_returnTo : GoodIn wsX8_back wsX1_returnTo := goodIn_r _ [6, 7, 8, 9, 10, 11, 12, 13, 14, 30, 31, 32, 33, 34, 35] (by decide +kernel) (by decide +kernel)
set_option maxRecDepth 20000 in
theorem gX8_back_X1_returnTo : GoodIn wsX8_back (wsV RX8 300 RX1 yX1_returnTo wsX1_returnTo) := goodIn_app (goodIn_of _ (by decide +kernel)) ggX8_back_X1_returnTo
set_option maxRecDepth 20000 in
theorem ggX8_back_X8_isDone : GoodIn wsX8_back wsX8_isDone := goodIn_r _ [19, 20, 21, 22, 23, 24, 25, 26, 27, 28, 29] (by decide +kernel) (by decide +kernel)
set_option maxRecDepth 20000 in
theorem gX8_back_X8_isDone : GoodIn wsX8_back (wsV RX8 276 RX8 yX8_isDone wsX8_isDone) := goodIn_app (goodIn_of _ (by decide +kernel)) ggX8_back_X8_isDone
theorem dX8_back_0 : decode cX8_back 0 = .ok (.aload_n 0, 1) := by decide +kernel
theorem dX8_back_1 : decode cX8_back 1 = .ok (.aload_n 0, 1) := by decide +kernel
theorem dX8_back_2 : decode cX8_back 2 = .ok (.getfield 19, 3) := by decide +kernel
theorem dX8_back_5 : decode cX8_back 5 = .ok (.iload_n 1, 1) := by decide +kernel
theorem dX8_back_6 : decode cX8_back 6 = .ok (.invokevirtual 300, 3) := by decide +kernel
theorem dX8_back_9 : decode cX8_back 9 = .ok (.ifCond .eq 7, 3) := by decide +kernel
theorem dX8_back_12 : decode cX8_back 12 = .ok (.iconst 0, 1) := by decide +kernel
theorem dX8_back_13 : decode cX8_back 13 = .ok (.goto 4, 3) := by decide +kernel
theorem dX8_back_16 : decode cX8_back 16 = .ok (.iconst 1, 1) := by decide +kernel
theorem dX8_back_17 : decode cX8_back 17 = .ok (.invokevirtual 276, 3) := by decide +kernel
theorem dX8_back_20 : decode cX8_back 20 = .ok (.ireturn, 1) := by decide +kernel
set_option maxRecDepth 20000 in
theorem ggX8_led_X1_isHeld : GoodIn wsX8_led wsX1_isHeld := goodIn_r _ [10, 11, 41, 42, 43, 44, 45, 46] (by decide +kernel) (by decide +kernel)
set_option maxRecDepth 20000 in
theorem gX8_led_X1_isHeld : GoodIn wsX8_led (wsV RX8 142 RX1 yX1_isHeld wsX1_isHeld) := goodIn_app (goodIn_of _ (by decide +kernel)) ggX8_led_X1_isHeld
theorem dX8_led_0 : decode cX8_led 0 = .ok (.iload_n 1, 1) := by decide +kernel
theorem dX8_led_1 : decode cX8_led 1 = .ok (.istore_n 2, 1) := by decide +kernel
theorem dX8_led_2 : decode cX8_led 2 = .ok (.iconst 0, 1) := by decide +kernel
theorem dX8_led_3 : decode cX8_led 3 = .ok (.istore_n 3, 1) := by decide +kernel
theorem dX8_led_4 : decode cX8_led 4 = .ok (.iload_n 3, 1) := by decide +kernel
theorem dX8_led_5 : decode cX8_led 5 = .ok (.aload_n 0, 1) := by decide +kernel
theorem dX8_led_6 : decode cX8_led 6 = .ok (.getfield 47, 3) := by decide +kernel
theorem dX8_led_9 : decode cX8_led 9 = .ok (.getfield 106, 3) := by decide +kernel
theorem dX8_led_12 : decode cX8_led 12 = .ok (.if_icmp .ge 33, 3) := by decide +kernel
theorem dX8_led_15 : decode cX8_led 15 = .ok (.iload_n 2, 1) := by decide +kernel
theorem dX8_led_16 : decode cX8_led 16 = .ok (.ifCond .lt 29, 3) := by decide +kernel
theorem dX8_led_19 : decode cX8_led 19 = .ok (.aload_n 0, 1) := by decide +kernel
theorem dX8_led_20 : decode cX8_led 20 = .ok (.getfield 19, 3) := by decide +kernel
theorem dX8_led_23 : decode cX8_led 23 = .ok (.iload_n 3, 1) := by decide +kernel
theorem dX8_led_24 : decode cX8_led 24 = .ok (.invokevirtual 142, 3) := by decide +kernel
theorem dX8_led_27 : decode cX8_led 27 = .ok (.ifCond .eq 12, 3) := by decide +kernel
theorem dX8_led_30 : decode cX8_led 30 = .ok (.iload_n 2, 1) := by decide +kernel
theorem dX8_led_31 : decode cX8_led 31 = .ok (.ifCond .ne 5, 3) := by decide +kernel
theorem dX8_led_34 : decode cX8_led 34 = .ok (.iload_n 3, 1) := by decide +kernel
theorem dX8_led_35 : decode cX8_led 35 = .ok (.ireturn, 1) := by decide +kernel
theorem dX8_led_36 : decode cX8_led 36 = .ok (.iinc 2 (-1), 3) := by decide +kernel
theorem dX8_led_39 : decode cX8_led 39 = .ok (.iinc 3 1, 3) := by decide +kernel
theorem dX8_led_42 : decode cX8_led 42 = .ok (.goto (-38), 3) := by decide +kernel
theorem dX8_led_45 : decode cX8_led 45 = .ok (.new 303, 3) := by decide +kernel
theorem dX8_led_48 : decode cX8_led 48 = .ok (.dup, 1) := by decide +kernel
theorem dX8_led_49 : decode cX8_led 49 = .ok (.ldc_w 305, 3) := by decide +kernel
theorem dX8_led_52 : decode cX8_led 52 = .ok (.invokespecial 307, 3) := by decide +kernel
theorem dX8_led_55 : decode cX8_led 55 = .ok (.athrow, 1) := by decide +kernel
set_option maxRecDepth 20000 in
theorem ggX8_size_X4_placesOfAll : GoodIn wsX8_size wsX4_placesOfAll := goodIn_r _ [16, 17, 18, 19, 20, 15, 21, 22, 23, 24, 25, 26, 64, 65, 66, 67, 68, 69, 70, 71, 72, 73, 74, 75, 76, 77, 78, 79, 80, 81, 82, 83] (by decide +kernel) (by decide +kernel)
set_option maxRecDepth 20000 in
theorem gX8_size_X4_placesOfAll : GoodIn wsX8_size (wsV RX8 316 RX4 yX4_placesOfAll wsX4_placesOfAll) := goodIn_app (goodIn_of _ (by decide +kernel)) ggX8_size_X4_placesOfAll
set_option maxRecDepth 20000 in
theorem ggX8_size_X7_count : GoodIn wsX8_size wsX7_count := goodIn_r _ [31, 32, 84, 85, 86, 87, 88] (by decide +kernel) (by decide +kernel)
set_option maxRecDepth 20000 in
theorem gX8_size_X7_count : GoodIn wsX8_size (wsV RX8 325 RX7 yX7_count wsX7_count) := goodIn_app (goodIn_of _ (by decide +kernel)) ggX8_size_X7_count
set_option maxRecDepth 20000 in
theorem ggX8_size_X1_nightNow : GoodIn wsX8_size wsX1_nightNow := goodIn_r _ [37, 38, 89, 90, 91, 92, 93, 94] (by decide +kernel) (by decide +kernel)
set_option maxRecDepth 20000 in
theorem gX8_size_X1_nightNow : GoodIn wsX8_size (wsV RX8 288 RX1 yX1_nightNow wsX1_nightNow) := goodIn_app (goodIn_of _ (by decide +kernel)) ggX8_size_X1_nightNow
set_option maxRecDepth 20000 in
theorem ggX8_size_X1_countKept : GoodIn wsX8_size wsX1_countKept := goodIn_r _ [42, 43, 89, 90, 91, 92, 93, 94] (by decide +kernel) (by decide +kernel)
set_option maxRecDepth 20000 in
theorem gX8_size_X1_countKept : GoodIn wsX8_size (wsV RX8 329 RX1 yX1_countKept wsX1_countKept) := goodIn_app (goodIn_of _ (by decide +kernel)) ggX8_size_X1_countKept
set_option maxRecDepth 20000 in
theorem ggX8_size_X1_countImages : GoodIn wsX8_size wsX1_countImages := goodIn_r _ [47, 48, 89, 90, 91, 92, 93, 94] (by decide +kernel) (by decide +kernel)
set_option maxRecDepth 20000 in
theorem gX8_size_X1_countImages : GoodIn wsX8_size (wsV RX8 332 RX1 yX1_countImages wsX1_countImages) := goodIn_app (goodIn_of _ (by decide +kernel)) ggX8_size_X1_countImages
set_option maxRecDepth 20000 in
theorem ggX8_size_X5_count : GoodIn wsX8_size wsX5_count := goodIn_r _ [53, 54, 95, 96, 97, 98, 99, 100, 101, 102, 103, 104, 105, 106, 107] (by decide +kernel) (by decide +kernel)
set_option maxRecDepth 20000 in
theorem gX8_size_X5_count : GoodIn wsX8_size (wsV RX8 59 RX5 yX5_count wsX5_count) := goodIn_app (goodIn_of _ (by decide +kernel)) ggX8_size_X5_count
theorem dX8_size_0 : decode cX8_size 0 = .ok (.iload_n 1, 1) := by decide +kernel
theorem dX8_size_1 : decode cX8_size 1 = .ok (.tableswitch 174 0 12 #[67, 75, 83, 91, 99, 107, 115, 123, 134, 142, 150, 158, 166], 67) := by decide +kernel
theorem dX8_size_68 : decode cX8_size 68 = .ok (.aload_n 0, 1) := by decide +kernel
theorem dX8_size_69 : decode cX8_size 69 = .ok (.getfield 47, 3) := by decide +kernel
theorem dX8_size_72 : decode cX8_size 72 = .ok (.getfield 310, 3) := by decide +kernel
theorem dX8_size_75 : decode cX8_size 75 = .ok (.ireturn, 1) := by decide +kernel
theorem dX8_size_76 : decode cX8_size 76 = .ok (.aload_n 0, 1) := by decide +kernel
theorem dX8_size_77 : decode cX8_size 77 = .ok (.getfield 47, 3) := by decide +kernel
theorem dX8_size_80 : decode cX8_size 80 = .ok (.getfield 313, 3) := by decide +kernel
theorem dX8_size_83 : decode cX8_size 83 = .ok (.ireturn, 1) := by decide +kernel
theorem dX8_size_84 : decode cX8_size 84 = .ok (.aload_n 0, 1) := by decide +kernel
theorem dX8_size_85 : decode cX8_size 85 = .ok (.getfield 47, 3) := by decide +kernel
theorem dX8_size_88 : decode cX8_size 88 = .ok (.getfield 94, 3) := by decide +kernel
theorem dX8_size_91 : decode cX8_size 91 = .ok (.ireturn, 1) := by decide +kernel
theorem dX8_size_92 : decode cX8_size 92 = .ok (.aload_n 0, 1) := by decide +kernel
theorem dX8_size_93 : decode cX8_size 93 = .ok (.getfield 47, 3) := by decide +kernel
theorem dX8_size_96 : decode cX8_size 96 = .ok (.invokevirtual 316, 3) := by decide +kernel
theorem dX8_size_99 : decode cX8_size 99 = .ok (.ireturn, 1) := by decide +kernel
theorem dX8_size_100 : decode cX8_size 100 = .ok (.aload_n 0, 1) := by decide +kernel
theorem dX8_size_101 : decode cX8_size 101 = .ok (.getfield 47, 3) := by decide +kernel
theorem dX8_size_104 : decode cX8_size 104 = .ok (.getfield 106, 3) := by decide +kernel
theorem dX8_size_107 : decode cX8_size 107 = .ok (.ireturn, 1) := by decide +kernel
theorem dX8_size_108 : decode cX8_size 108 = .ok (.aload_n 0, 1) := by decide +kernel
theorem dX8_size_109 : decode cX8_size 109 = .ok (.getfield 47, 3) := by decide +kernel
theorem dX8_size_112 : decode cX8_size 112 = .ok (.getfield 319, 3) := by decide +kernel
theorem dX8_size_115 : decode cX8_size 115 = .ok (.ireturn, 1) := by decide +kernel
theorem dX8_size_116 : decode cX8_size 116 = .ok (.aload_n 0, 1) := by decide +kernel
theorem dX8_size_117 : decode cX8_size 117 = .ok (.getfield 47, 3) := by decide +kernel
theorem dX8_size_120 : decode cX8_size 120 = .ok (.getfield 322, 3) := by decide +kernel
theorem dX8_size_123 : decode cX8_size 123 = .ok (.ireturn, 1) := by decide +kernel
theorem dX8_size_124 : decode cX8_size 124 = .ok (.aload_n 0, 1) := by decide +kernel
theorem dX8_size_125 : decode cX8_size 125 = .ok (.getfield 47, 3) := by decide +kernel
theorem dX8_size_128 : decode cX8_size 128 = .ok (.getfield 221, 3) := by decide +kernel
theorem dX8_size_131 : decode cX8_size 131 = .ok (.invokevirtual 325, 3) := by decide +kernel
theorem dX8_size_134 : decode cX8_size 134 = .ok (.ireturn, 1) := by decide +kernel
theorem dX8_size_135 : decode cX8_size 135 = .ok (.aload_n 0, 1) := by decide +kernel
theorem dX8_size_136 : decode cX8_size 136 = .ok (.getfield 47, 3) := by decide +kernel
theorem dX8_size_139 : decode cX8_size 139 = .ok (.getfield 326, 3) := by decide +kernel
theorem dX8_size_142 : decode cX8_size 142 = .ok (.ireturn, 1) := by decide +kernel
theorem dX8_size_143 : decode cX8_size 143 = .ok (.aload_n 0, 1) := by decide +kernel
theorem dX8_size_144 : decode cX8_size 144 = .ok (.getfield 19, 3) := by decide +kernel
theorem dX8_size_147 : decode cX8_size 147 = .ok (.invokevirtual 288, 3) := by decide +kernel
theorem dX8_size_150 : decode cX8_size 150 = .ok (.ireturn, 1) := by decide +kernel
theorem dX8_size_151 : decode cX8_size 151 = .ok (.aload_n 0, 1) := by decide +kernel
theorem dX8_size_152 : decode cX8_size 152 = .ok (.getfield 19, 3) := by decide +kernel
theorem dX8_size_155 : decode cX8_size 155 = .ok (.invokevirtual 329, 3) := by decide +kernel
theorem dX8_size_158 : decode cX8_size 158 = .ok (.ireturn, 1) := by decide +kernel
theorem dX8_size_159 : decode cX8_size 159 = .ok (.aload_n 0, 1) := by decide +kernel
theorem dX8_size_160 : decode cX8_size 160 = .ok (.getfield 19, 3) := by decide +kernel
theorem dX8_size_163 : decode cX8_size 163 = .ok (.invokevirtual 332, 3) := by decide +kernel
theorem dX8_size_166 : decode cX8_size 166 = .ok (.ireturn, 1) := by decide +kernel
theorem dX8_size_167 : decode cX8_size 167 = .ok (.aload_n 0, 1) := by decide +kernel
theorem dX8_size_168 : decode cX8_size 168 = .ok (.getfield 12, 3) := by decide +kernel
theorem dX8_size_171 : decode cX8_size 171 = .ok (.invokevirtual 59, 3) := by decide +kernel
theorem dX8_size_174 : decode cX8_size 174 = .ok (.ireturn, 1) := by decide +kernel
theorem dX8_size_175 : decode cX8_size 175 = .ok (.iconst (-1), 1) := by decide +kernel
theorem dX8_size_176 : decode cX8_size 176 = .ok (.ireturn, 1) := by decide +kernel
theorem dX8_trouble_0 : decode cX8_trouble 0 = .ok (.aload_n 0, 1) := by decide +kernel
theorem dX8_trouble_1 : decode cX8_trouble 1 = .ok (.getfield 100, 3) := by decide +kernel
theorem dX8_trouble_4 : decode cX8_trouble 4 = .ok (.ireturn, 1) := by decide +kernel
theorem dX8_answer_0 : decode cX8_answer 0 = .ok (.aload_n 0, 1) := by decide +kernel
theorem dX8_answer_1 : decode cX8_answer 1 = .ok (.iconst 0, 1) := by decide +kernel
theorem dX8_answer_2 : decode cX8_answer 2 = .ok (.putfield 100, 3) := by decide +kernel
theorem dX8_answer_5 : decode cX8_answer 5 = .ok (.iload_n 1, 1) := by decide +kernel
theorem dX8_answer_6 : decode cX8_answer 6 = .ok (.ireturn, 1) := by decide +kernel
theorem dX8_refuse_0 : decode cX8_refuse 0 = .ok (.aload_n 0, 1) := by decide +kernel
theorem dX8_refuse_1 : decode cX8_refuse 1 = .ok (.iload_n 1, 1) := by decide +kernel
theorem dX8_refuse_2 : decode cX8_refuse 2 = .ok (.putfield 100, 3) := by decide +kernel
theorem dX8_refuse_5 : decode cX8_refuse 5 = .ok (.iconst (-1), 1) := by decide +kernel
theorem dX8_refuse_6 : decode cX8_refuse 6 = .ok (.ireturn, 1) := by decide +kernel
theorem dX8_isDone_0 : decode cX8_isDone 0 = .ok (.aload_n 0, 1) := by decide +kernel
theorem dX8_isDone_1 : decode cX8_isDone 1 = .ok (.iload_n 1, 1) := by decide +kernel
theorem dX8_isDone_2 : decode cX8_isDone 2 = .ok (.putfield 100, 3) := by decide +kernel
theorem dX8_isDone_5 : decode cX8_isDone 5 = .ok (.iload_n 1, 1) := by decide +kernel
theorem dX8_isDone_6 : decode cX8_isDone 6 = .ok (.ifCond .ne 7, 3) := by decide +kernel
theorem dX8_isDone_9 : decode cX8_isDone 9 = .ok (.iconst 1, 1) := by decide +kernel
theorem dX8_isDone_10 : decode cX8_isDone 10 = .ok (.goto 4, 3) := by decide +kernel
theorem dX8_isDone_13 : decode cX8_isDone 13 = .ok (.iconst 0, 1) := by decide +kernel
theorem dX8_isDone_14 : decode cX8_isDone 14 = .ok (.ireturn, 1) := by decide +kernel
set_option maxRecDepth 20000 in
theorem ggX8_areTwo_X4_hasThing : GoodIn wsX8_areTwo wsX4_hasThing := goodIn_r _ [6, 7, 17, 18, 19, 20, 21, 22, 23, 24, 25, 26, 27, 28, 29, 30, 31, 32, 33, 34, 35, 36] (by decide +kernel) (by decide +kernel)
set_option maxRecDepth 20000 in
theorem gX8_areTwo_X4_hasThing : GoodIn wsX8_areTwo (wsV RX8 124 RX4 yX4_hasThing wsX4_hasThing) := goodIn_app (goodIn_of _ (by decide +kernel)) ggX8_areTwo_X4_hasThing
theorem dX8_areTwo_0 : decode cX8_areTwo 0 = .ok (.aload_n 0, 1) := by decide +kernel
theorem dX8_areTwo_1 : decode cX8_areTwo 1 = .ok (.getfield 47, 3) := by decide +kernel
theorem dX8_areTwo_4 : decode cX8_areTwo 4 = .ok (.iload_n 1, 1) := by decide +kernel
theorem dX8_areTwo_5 : decode cX8_areTwo 5 = .ok (.invokevirtual 124, 3) := by decide +kernel
theorem dX8_areTwo_8 : decode cX8_areTwo 8 = .ok (.ifCond .eq 23, 3) := by decide +kernel
theorem dX8_areTwo_11 : decode cX8_areTwo 11 = .ok (.aload_n 0, 1) := by decide +kernel
theorem dX8_areTwo_12 : decode cX8_areTwo 12 = .ok (.getfield 47, 3) := by decide +kernel
theorem dX8_areTwo_15 : decode cX8_areTwo 15 = .ok (.iload_n 2, 1) := by decide +kernel
theorem dX8_areTwo_16 : decode cX8_areTwo 16 = .ok (.invokevirtual 124, 3) := by decide +kernel
theorem dX8_areTwo_19 : decode cX8_areTwo 19 = .ok (.ifCond .eq 12, 3) := by decide +kernel
theorem dX8_areTwo_22 : decode cX8_areTwo 22 = .ok (.iload_n 1, 1) := by decide +kernel
theorem dX8_areTwo_23 : decode cX8_areTwo 23 = .ok (.iload_n 2, 1) := by decide +kernel
theorem dX8_areTwo_24 : decode cX8_areTwo 24 = .ok (.if_icmp .eq 7, 3) := by decide +kernel
theorem dX8_areTwo_27 : decode cX8_areTwo 27 = .ok (.iconst 1, 1) := by decide +kernel
theorem dX8_areTwo_28 : decode cX8_areTwo 28 = .ok (.goto 4, 3) := by decide +kernel
theorem dX8_areTwo_31 : decode cX8_areTwo 31 = .ok (.iconst 0, 1) := by decide +kernel
theorem dX8_areTwo_32 : decode cX8_areTwo 32 = .ok (.ireturn, 1) := by decide +kernel
set_option maxRecDepth 20000 in
theorem ggX8_whyNoWants_X4_stands : GoodIn wsX8_whyNoWants wsX4_stands := goodIn_r _ [6, 7, 17, 18, 19, 20, 21, 22, 23, 24, 25, 26, 27, 28, 29, 30, 31, 32, 33, 34, 35, 36] (by decide +kernel) (by decide +kernel)
set_option maxRecDepth 20000 in
theorem gX8_whyNoWants_X4_stands : GoodIn wsX8_whyNoWants (wsV RX8 161 RX4 yX4_stands wsX4_stands) := goodIn_app (goodIn_of _ (by decide +kernel)) ggX8_whyNoWants_X4_stands
theorem dX8_whyNoWants_0 : decode cX8_whyNoWants 0 = .ok (.aload_n 0, 1) := by decide +kernel
theorem dX8_whyNoWants_1 : decode cX8_whyNoWants 1 = .ok (.getfield 47, 3) := by decide +kernel
theorem dX8_whyNoWants_4 : decode cX8_whyNoWants 4 = .ok (.invokevirtual 161, 3) := by decide +kernel
theorem dX8_whyNoWants_7 : decode cX8_whyNoWants 7 = .ok (.ifCond .ne 5, 3) := by decide +kernel
theorem dX8_whyNoWants_10 : decode cX8_whyNoWants 10 = .ok (.iconst 1, 1) := by decide +kernel
theorem dX8_whyNoWants_11 : decode cX8_whyNoWants 11 = .ok (.ireturn, 1) := by decide +kernel
theorem dX8_whyNoWants_12 : decode cX8_whyNoWants 12 = .ok (.iload_n 1, 1) := by decide +kernel
theorem dX8_whyNoWants_13 : decode cX8_whyNoWants 13 = .ok (.ifCond .lt 9, 3) := by decide +kernel
theorem dX8_whyNoWants_16 : decode cX8_whyNoWants 16 = .ok (.iload_n 1, 1) := by decide +kernel
theorem dX8_whyNoWants_17 : decode cX8_whyNoWants 17 = .ok (.bipush 60, 2) := by decide +kernel
theorem dX8_whyNoWants_19 : decode cX8_whyNoWants 19 = .ok (.if_icmp .le 7, 3) := by decide +kernel
theorem dX8_whyNoWants_22 : decode cX8_whyNoWants 22 = .ok (.iconst 2, 1) := by decide +kernel
theorem dX8_whyNoWants_23 : decode cX8_whyNoWants 23 = .ok (.goto 4, 3) := by decide +kernel
theorem dX8_whyNoWants_26 : decode cX8_whyNoWants 26 = .ok (.iconst 0, 1) := by decide +kernel
theorem dX8_whyNoWants_27 : decode cX8_whyNoWants 27 = .ok (.ireturn, 1) := by decide +kernel
set_option maxRecDepth 20000 in
theorem ggX8_whyNoHeirs_X4_stands : GoodIn wsX8_whyNoHeirs wsX4_stands := goodIn_r _ [6, 7, 17, 18, 19, 20, 21, 22, 23, 24, 25, 26, 27, 28, 29, 30, 31, 32, 33, 34, 35, 36] (by decide +kernel) (by decide +kernel)
set_option maxRecDepth 20000 in
theorem gX8_whyNoHeirs_X4_stands : GoodIn wsX8_whyNoHeirs (wsV RX8 161 RX4 yX4_stands wsX4_stands) := goodIn_app (goodIn_of _ (by decide +kernel)) ggX8_whyNoHeirs_X4_stands
theorem dX8_whyNoHeirs_0 : decode cX8_whyNoHeirs 0 = .ok (.aload_n 0, 1) := by decide +kernel
theorem dX8_whyNoHeirs_1 : decode cX8_whyNoHeirs 1 = .ok (.getfield 47, 3) := by decide +kernel
theorem dX8_whyNoHeirs_4 : decode cX8_whyNoHeirs 4 = .ok (.invokevirtual 161, 3) := by decide +kernel
theorem dX8_whyNoHeirs_7 : decode cX8_whyNoHeirs 7 = .ok (.ifCond .ne 5, 3) := by decide +kernel
theorem dX8_whyNoHeirs_10 : decode cX8_whyNoHeirs 10 = .ok (.iconst 1, 1) := by decide +kernel
theorem dX8_whyNoHeirs_11 : decode cX8_whyNoHeirs 11 = .ok (.ireturn, 1) := by decide +kernel
theorem dX8_whyNoHeirs_12 : decode cX8_whyNoHeirs 12 = .ok (.iload_n 1, 1) := by decide +kernel
theorem dX8_whyNoHeirs_13 : decode cX8_whyNoHeirs 13 = .ok (.ifCond .lt 9, 3) := by decide +kernel
theorem dX8_whyNoHeirs_16 : decode cX8_whyNoHeirs 16 = .ok (.iload_n 1, 1) := by decide +kernel
theorem dX8_whyNoHeirs_17 : decode cX8_whyNoHeirs 17 = .ok (.bipush 99, 2) := by decide +kernel
theorem dX8_whyNoHeirs_19 : decode cX8_whyNoHeirs 19 = .ok (.if_icmp .le 7, 3) := by decide +kernel
theorem dX8_whyNoHeirs_22 : decode cX8_whyNoHeirs 22 = .ok (.iconst 2, 1) := by decide +kernel
theorem dX8_whyNoHeirs_23 : decode cX8_whyNoHeirs 23 = .ok (.goto 4, 3) := by decide +kernel
theorem dX8_whyNoHeirs_26 : decode cX8_whyNoHeirs 26 = .ok (.iconst 0, 1) := by decide +kernel
theorem dX8_whyNoHeirs_27 : decode cX8_whyNoHeirs 27 = .ok (.ireturn, 1) := by decide +kernel
theorem dX8_areDampNumbers_0 : decode cX8_areDampNumbers 0 = .ok (.iload_n 0, 1) := by decide +kernel
theorem dX8_areDampNumbers_1 : decode cX8_areDampNumbers 1 = .ok (.ifCond .lt 24, 3) := by decide +kernel
theorem dX8_areDampNumbers_4 : decode cX8_areDampNumbers 4 = .ok (.iload_n 0, 1) := by decide +kernel
theorem dX8_areDampNumbers_5 : decode cX8_areDampNumbers 5 = .ok (.ldc_w 335, 3) := by decide +kernel
theorem dX8_areDampNumbers_8 : decode cX8_areDampNumbers 8 = .ok (.if_icmp .gt 17, 3) := by decide +kernel
theorem dX8_areDampNumbers_11 : decode cX8_areDampNumbers 11 = .ok (.iload_n 1, 1) := by decide +kernel
theorem dX8_areDampNumbers_12 : decode cX8_areDampNumbers 12 = .ok (.ifCond .lt 13, 3) := by decide +kernel
theorem dX8_areDampNumbers_15 : decode cX8_areDampNumbers 15 = .ok (.iload_n 1, 1) := by decide +kernel
theorem dX8_areDampNumbers_16 : decode cX8_areDampNumbers 16 = .ok (.bipush 60, 2) := by decide +kernel
theorem dX8_areDampNumbers_18 : decode cX8_areDampNumbers 18 = .ok (.if_icmp .gt 7, 3) := by decide +kernel
theorem dX8_areDampNumbers_21 : decode cX8_areDampNumbers 21 = .ok (.iconst 1, 1) := by decide +kernel
theorem dX8_areDampNumbers_22 : decode cX8_areDampNumbers 22 = .ok (.goto 4, 3) := by decide +kernel
theorem dX8_areDampNumbers_25 : decode cX8_areDampNumbers 25 = .ok (.iconst 0, 1) := by decide +kernel
theorem dX8_areDampNumbers_26 : decode cX8_areDampNumbers 26 = .ok (.ireturn, 1) := by decide +kernel
theorem dX8_cellAt_0 : decode cX8_cellAt 0 = .ok (.iload_n 0, 1) := by decide +kernel
theorem dX8_cellAt_1 : decode cX8_cellAt 1 = .ok (.bipush 9, 2) := by decide +kernel
theorem dX8_cellAt_3 : decode cX8_cellAt 3 = .ok (.imul, 1) := by decide +kernel
theorem dX8_cellAt_4 : decode cX8_cellAt 4 = .ok (.iload_n 1, 1) := by decide +kernel
theorem dX8_cellAt_5 : decode cX8_cellAt 5 = .ok (.iadd, 1) := by decide +kernel
theorem dX8_cellAt_6 : decode cX8_cellAt 6 = .ok (.ireturn, 1) := by decide +kernel
theorem dX8_ringOfCell_0 : decode cX8_ringOfCell 0 = .ok (.iload_n 0, 1) := by decide +kernel
theorem dX8_ringOfCell_1 : decode cX8_ringOfCell 1 = .ok (.bipush 9, 2) := by decide +kernel
theorem dX8_ringOfCell_3 : decode cX8_ringOfCell 3 = .ok (.idiv, 1) := by decide +kernel
theorem dX8_ringOfCell_4 : decode cX8_ringOfCell 4 = .ok (.ireturn, 1) := by decide +kernel
theorem dX8_placeOfCell_0 : decode cX8_placeOfCell 0 = .ok (.iload_n 0, 1) := by decide +kernel
theorem dX8_placeOfCell_1 : decode cX8_placeOfCell 1 = .ok (.bipush 9, 2) := by decide +kernel
theorem dX8_placeOfCell_3 : decode cX8_placeOfCell 3 = .ok (.irem, 1) := by decide +kernel
theorem dX8_placeOfCell_4 : decode cX8_placeOfCell 4 = .ok (.ireturn, 1) := by decide +kernel
set_option maxRecDepth 20000 in
theorem ggX8_tenfold_X8_ringOfCell : GoodIn wsX8_tenfold wsX8_ringOfCell := goodIn_r _ [4] (by decide +kernel) (by decide +kernel)
set_option maxRecDepth 20000 in
theorem gX8_tenfold_X8_ringOfCell : GoodIn wsX8_tenfold (va_wsS RX8 133 yX8_ringOfCell wsX8_ringOfCell) := goodIn_app (goodIn_of _ (by decide +kernel)) ggX8_tenfold_X8_ringOfCell
set_option maxRecDepth 20000 in
theorem ggX8_tenfold_X8_placeOfCell : GoodIn wsX8_tenfold wsX8_placeOfCell := goodIn_r _ [7] (by decide +kernel) (by decide +kernel)
set_option maxRecDepth 20000 in
theorem gX8_tenfold_X8_placeOfCell : GoodIn wsX8_tenfold (va_wsS RX8 136 yX8_placeOfCell wsX8_placeOfCell) := goodIn_app (goodIn_of _ (by decide +kernel)) ggX8_tenfold_X8_placeOfCell
theorem dX8_tenfold_0 : decode cX8_tenfold 0 = .ok (.bipush 10, 2) := by decide +kernel
theorem dX8_tenfold_2 : decode cX8_tenfold 2 = .ok (.iload_n 0, 1) := by decide +kernel
theorem dX8_tenfold_3 : decode cX8_tenfold 3 = .ok (.invokestatic 133, 3) := by decide +kernel
theorem dX8_tenfold_6 : decode cX8_tenfold 6 = .ok (.imul, 1) := by decide +kernel
theorem dX8_tenfold_7 : decode cX8_tenfold 7 = .ok (.iload_n 0, 1) := by decide +kernel
theorem dX8_tenfold_8 : decode cX8_tenfold 8 = .ok (.invokestatic 136, 3) := by decide +kernel
theorem dX8_tenfold_11 : decode cX8_tenfold 11 = .ok (.iadd, 1) := by decide +kernel
theorem dX8_tenfold_12 : decode cX8_tenfold 12 = .ok (.ireturn, 1) := by decide +kernel
theorem dX9_init_0 : decode cX9_init 0 = .ok (.aload_n 0, 1) := by decide +kernel
theorem dX9_init_1 : decode cX9_init 1 = .ok (.invokespecial 1, 3) := by decide +kernel
theorem dX9_init_4 : decode cX9_init 4 = .ok (.aload_n 0, 1) := by decide +kernel
theorem dX9_init_5 : decode cX9_init 5 = .ok (.sipush 900, 3) := by decide +kernel
theorem dX9_init_8 : decode cX9_init 8 = .ok (.newarray .int, 2) := by decide +kernel
theorem dX9_init_10 : decode cX9_init 10 = .ok (.putfield 7, 3) := by decide +kernel
theorem dX9_init_13 : decode cX9_init 13 = .ok (.aload_n 0, 1) := by decide +kernel
theorem dX9_init_14 : decode cX9_init 14 = .ok (.iconst (-1), 1) := by decide +kernel
theorem dX9_init_15 : decode cX9_init 15 = .ok (.putfield 13, 3) := by decide +kernel
theorem dX9_init_18 : decode cX9_init 18 = .ok (.aload_n 0, 1) := by decide +kernel
theorem dX9_init_19 : decode cX9_init 19 = .ok (.bipush 8, 2) := by decide +kernel
theorem dX9_init_21 : decode cX9_init 21 = .ok (.newarray .int, 2) := by decide +kernel
theorem dX9_init_23 : decode cX9_init 23 = .ok (.putfield 17, 3) := by decide +kernel
theorem dX9_init_26 : decode cX9_init 26 = .ok (.aload_n 0, 1) := by decide +kernel
theorem dX9_init_27 : decode cX9_init 27 = .ok (.sipush 224, 3) := by decide +kernel
theorem dX9_init_30 : decode cX9_init 30 = .ok (.newarray .int, 2) := by decide +kernel
theorem dX9_init_32 : decode cX9_init 32 = .ok (.putfield 20, 3) := by decide +kernel
theorem dX9_init_35 : decode cX9_init 35 = .ok (.aload_n 0, 1) := by decide +kernel
theorem dX9_init_36 : decode cX9_init 36 = .ok (.sipush 224, 3) := by decide +kernel
theorem dX9_init_39 : decode cX9_init 39 = .ok (.newarray .int, 2) := by decide +kernel
theorem dX9_init_41 : decode cX9_init 41 = .ok (.putfield 23, 3) := by decide +kernel
theorem dX9_init_44 : decode cX9_init 44 = .ok (.aload_n 0, 1) := by decide +kernel
theorem dX9_init_45 : decode cX9_init 45 = .ok (.bipush 9, 2) := by decide +kernel
theorem dX9_init_47 : decode cX9_init 47 = .ok (.newarray .int, 2) := by decide +kernel
theorem dX9_init_49 : decode cX9_init 49 = .ok (.putfield 26, 3) := by decide +kernel
theorem dX9_init_52 : decode cX9_init 52 = .ok (.aload_n 0, 1) := by decide +kernel
theorem dX9_init_53 : decode cX9_init 53 = .ok (.sipush 144, 3) := by decide +kernel
theorem dX9_init_56 : decode cX9_init 56 = .ok (.newarray .int, 2) := by decide +kernel
theorem dX9_init_58 : decode cX9_init 58 = .ok (.putfield 29, 3) := by decide +kernel
theorem dX9_init_61 : decode cX9_init 61 = .ok (.aload_n 0, 1) := by decide +kernel
theorem dX9_init_62 : decode cX9_init 62 = .ok (.bipush 27, 2) := by decide +kernel
theorem dX9_init_64 : decode cX9_init 64 = .ok (.newarray .int, 2) := by decide +kernel
theorem dX9_init_66 : decode cX9_init 66 = .ok (.putfield 32, 3) := by decide +kernel
theorem dX9_init_69 : decode cX9_init 69 = .ok (.aload_n 0, 1) := by decide +kernel
theorem dX9_init_70 : decode cX9_init 70 = .ok (.bipush 9, 2) := by decide +kernel
theorem dX9_init_72 : decode cX9_init 72 = .ok (.newarray .int, 2) := by decide +kernel
theorem dX9_init_74 : decode cX9_init 74 = .ok (.putfield 35, 3) := by decide +kernel
theorem dX9_init_77 : decode cX9_init 77 = .ok (.aload_n 0, 1) := by decide +kernel
theorem dX9_init_78 : decode cX9_init 78 = .ok (.bipush 49, 2) := by decide +kernel
theorem dX9_init_80 : decode cX9_init 80 = .ok (.newarray .int, 2) := by decide +kernel
theorem dX9_init_82 : decode cX9_init 82 = .ok (.putfield 38, 3) := by decide +kernel
theorem dX9_init_85 : decode cX9_init 85 = .ok (.aload_n 0, 1) := by decide +kernel
theorem dX9_init_86 : decode cX9_init 86 = .ok (.sipush 1200, 3) := by decide +kernel
theorem dX9_init_89 : decode cX9_init 89 = .ok (.newarray .int, 2) := by decide +kernel
theorem dX9_init_91 : decode cX9_init 91 = .ok (.putfield 41, 3) := by decide +kernel
theorem dX9_init_94 : decode cX9_init 94 = .ok (.return_, 1) := by decide +kernel
theorem dX9_thrown_0 : decode cX9_thrown 0 = .ok (.aload_n 0, 1) := by decide +kernel
theorem dX9_thrown_1 : decode cX9_thrown 1 = .ok (.getfield 44, 3) := by decide +kernel
theorem dX9_thrown_4 : decode cX9_thrown 4 = .ok (.ireturn, 1) := by decide +kernel
theorem dX9_good_0 : decode cX9_good 0 = .ok (.aload_n 0, 1) := by decide +kernel
theorem dX9_good_1 : decode cX9_good 1 = .ok (.iconst 0, 1) := by decide +kernel
theorem dX9_good_2 : decode cX9_good 2 = .ok (.putfield 44, 3) := by decide +kernel
theorem dX9_good_5 : decode cX9_good 5 = .ok (.aload_n 0, 1) := by decide +kernel
theorem dX9_good_6 : decode cX9_good 6 = .ok (.iconst 0, 1) := by decide +kernel
theorem dX9_good_7 : decode cX9_good 7 = .ok (.putfield 47, 3) := by decide +kernel
theorem dX9_good_10 : decode cX9_good 10 = .ok (.return_, 1) := by decide +kernel
theorem dX9_no_0 : decode cX9_no 0 = .ok (.aload_n 0, 1) := by decide +kernel
theorem dX9_no_1 : decode cX9_no 1 = .ok (.iload_n 1, 1) := by decide +kernel
theorem dX9_no_2 : decode cX9_no 2 = .ok (.putfield 47, 3) := by decide +kernel
theorem dX9_no_5 : decode cX9_no 5 = .ok (.iconst (-1), 1) := by decide +kernel
theorem dX9_no_6 : decode cX9_no 6 = .ok (.ireturn, 1) := by decide +kernel
theorem dX9_isNot_0 : decode cX9_isNot 0 = .ok (.aload_n 0, 1) := by decide +kernel
theorem dX9_isNot_1 : decode cX9_isNot 1 = .ok (.iload_n 1, 1) := by decide +kernel
theorem dX9_isNot_2 : decode cX9_isNot 2 = .ok (.putfield 47, 3) := by decide +kernel
theorem dX9_isNot_5 : decode cX9_isNot 5 = .ok (.iconst 0, 1) := by decide +kernel
theorem dX9_isNot_6 : decode cX9_isNot 6 = .ok (.ireturn, 1) := by decide +kernel
theorem dX9_in_0 : decode cX9_in 0 = .ok (.iload_n 0, 1) := by decide +kernel
theorem dX9_in_1 : decode cX9_in 1 = .ok (.iload_n 1, 1) := by decide +kernel
theorem dX9_in_2 : decode cX9_in 2 = .ok (.if_icmp .lt 12, 3) := by decide +kernel
theorem dX9_in_5 : decode cX9_in 5 = .ok (.iload_n 0, 1) := by decide +kernel
theorem dX9_in_6 : decode cX9_in 6 = .ok (.iload_n 2, 1) := by decide +kernel
theorem dX9_in_7 : decode cX9_in 7 = .ok (.if_icmp .gt 7, 3) := by decide +kernel
theorem dX9_in_10 : decode cX9_in 10 = .ok (.iconst 1, 1) := by decide +kernel
theorem dX9_in_11 : decode cX9_in 11 = .ok (.goto 4, 3) := by decide +kernel
theorem dX9_in_14 : decode cX9_in 14 = .ok (.iconst 0, 1) := by decide +kernel
theorem dX9_in_15 : decode cX9_in 15 = .ok (.ireturn, 1) := by decide +kernel
theorem dX9_hasBit_0 : decode cX9_hasBit 0 = .ok (.iload_n 0, 1) := by decide +kernel
theorem dX9_hasBit_1 : decode cX9_hasBit 1 = .ok (.iload_n 1, 1) := by decide +kernel
theorem dX9_hasBit_2 : decode cX9_hasBit 2 = .ok (.ishr, 1) := by decide +kernel
theorem dX9_hasBit_3 : decode cX9_hasBit 3 = .ok (.iconst 1, 1) := by decide +kernel
theorem dX9_hasBit_4 : decode cX9_hasBit 4 = .ok (.iand, 1) := by decide +kernel
theorem dX9_hasBit_5 : decode cX9_hasBit 5 = .ok (.iconst 1, 1) := by decide +kernel
theorem dX9_hasBit_6 : decode cX9_hasBit 6 = .ok (.if_icmp .ne 7, 3) := by decide +kernel
theorem dX9_hasBit_9 : decode cX9_hasBit 9 = .ok (.iconst 1, 1) := by decide +kernel
theorem dX9_hasBit_10 : decode cX9_hasBit 10 = .ok (.goto 4, 3) := by decide +kernel
theorem dX9_hasBit_13 : decode cX9_hasBit 13 = .ok (.iconst 0, 1) := by decide +kernel
theorem dX9_hasBit_14 : decode cX9_hasBit 14 = .ok (.ireturn, 1) := by decide +kernel
theorem dX9_ones_0 : decode cX9_ones 0 = .ok (.iconst 0, 1) := by decide +kernel
theorem dX9_ones_1 : decode cX9_ones 1 = .ok (.istore_n 1, 1) := by decide +kernel
theorem dX9_ones_2 : decode cX9_ones 2 = .ok (.iconst 0, 1) := by decide +kernel
theorem dX9_ones_3 : decode cX9_ones 3 = .ok (.istore_n 2, 1) := by decide +kernel
theorem dX9_ones_4 : decode cX9_ones 4 = .ok (.iload_n 2, 1) := by decide +kernel
theorem dX9_ones_5 : decode cX9_ones 5 = .ok (.bipush 8, 2) := by decide +kernel
theorem dX9_ones_7 : decode cX9_ones 7 = .ok (.if_icmp .ge 17, 3) := by decide +kernel
theorem dX9_ones_10 : decode cX9_ones 10 = .ok (.iload_n 1, 1) := by decide +kernel
theorem dX9_ones_11 : decode cX9_ones 11 = .ok (.iload_n 0, 1) := by decide +kernel
theorem dX9_ones_12 : decode cX9_ones 12 = .ok (.iload_n 2, 1) := by decide +kernel
theorem dX9_ones_13 : decode cX9_ones 13 = .ok (.ishr, 1) := by decide +kernel
theorem dX9_ones_14 : decode cX9_ones 14 = .ok (.iconst 1, 1) := by decide +kernel
theorem dX9_ones_15 : decode cX9_ones 15 = .ok (.iand, 1) := by decide +kernel
theorem dX9_ones_16 : decode cX9_ones 16 = .ok (.iadd, 1) := by decide +kernel
theorem dX9_ones_17 : decode cX9_ones 17 = .ok (.istore_n 1, 1) := by decide +kernel
theorem dX9_ones_18 : decode cX9_ones 18 = .ok (.iinc 2 1, 3) := by decide +kernel
theorem dX9_ones_21 : decode cX9_ones 21 = .ok (.goto (-17), 3) := by decide +kernel
theorem dX9_ones_24 : decode cX9_ones 24 = .ok (.iload_n 1, 1) := by decide +kernel
theorem dX9_ones_25 : decode cX9_ones 25 = .ok (.ireturn, 1) := by decide +kernel
theorem dX9_copy_0 : decode cX9_copy 0 = .ok (.iconst 0, 1) := by decide +kernel
theorem dX9_copy_1 : decode cX9_copy 1 = .ok (.istore 5, 2) := by decide +kernel
theorem dX9_copy_3 : decode cX9_copy 3 = .ok (.iload 5, 2) := by decide +kernel
theorem dX9_copy_5 : decode cX9_copy 5 = .ok (.iload 4, 2) := by decide +kernel
theorem dX9_copy_7 : decode cX9_copy 7 = .ok (.if_icmp .ge 21, 3) := by decide +kernel
theorem dX9_copy_10 : decode cX9_copy 10 = .ok (.aload_n 2, 1) := by decide +kernel
theorem dX9_copy_11 : decode cX9_copy 11 = .ok (.iload_n 3, 1) := by decide +kernel
theorem dX9_copy_12 : decode cX9_copy 12 = .ok (.iload 5, 2) := by decide +kernel
theorem dX9_copy_14 : decode cX9_copy 14 = .ok (.iadd, 1) := by decide +kernel
theorem dX9_copy_15 : decode cX9_copy 15 = .ok (.aload_n 0, 1) := by decide +kernel
theorem dX9_copy_16 : decode cX9_copy 16 = .ok (.iload_n 1, 1) := by decide +kernel
theorem dX9_copy_17 : decode cX9_copy 17 = .ok (.iload 5, 2) := by decide +kernel
theorem dX9_copy_19 : decode cX9_copy 19 = .ok (.iadd, 1) := by decide +kernel
theorem dX9_copy_20 : decode cX9_copy 20 = .ok (.iaload, 1) := by decide +kernel
theorem dX9_copy_21 : decode cX9_copy 21 = .ok (.iastore, 1) := by decide +kernel
theorem dX9_copy_22 : decode cX9_copy 22 = .ok (.iinc 5 1, 3) := by decide +kernel
theorem dX9_copy_25 : decode cX9_copy 25 = .ok (.goto (-22), 3) := by decide +kernel
theorem dX9_copy_28 : decode cX9_copy 28 = .ok (.return_, 1) := by decide +kernel
theorem dX9_feed_0 : decode cX9_feed 0 = .ok (.aload_n 0, 1) := by decide +kernel
theorem dX9_feed_1 : decode cX9_feed 1 = .ok (.iconst 0, 1) := by decide +kernel
theorem dX9_feed_2 : decode cX9_feed 2 = .ok (.putfield 44, 3) := by decide +kernel
theorem dX9_feed_5 : decode cX9_feed 5 = .ok (.aload_n 0, 1) := by decide +kernel
theorem dX9_feed_6 : decode cX9_feed 6 = .ok (.getfield 50, 3) := by decide +kernel
theorem dX9_feed_9 : decode cX9_feed 9 = .ok (.bipush 20, 2) := by decide +kernel
theorem dX9_feed_11 : decode cX9_feed 11 = .ok (.iadd, 1) := by decide +kernel
theorem dX9_feed_12 : decode cX9_feed 12 = .ok (.sipush 900, 3) := by decide +kernel
theorem dX9_feed_15 : decode cX9_feed 15 = .ok (.if_icmp .le 5, 3) := by decide +kernel
theorem dX9_feed_18 : decode cX9_feed 18 = .ok (.iconst (-1), 1) := by decide +kernel
theorem dX9_feed_19 : decode cX9_feed 19 = .ok (.ireturn, 1) := by decide +kernel
theorem dX9_feed_20 : decode cX9_feed 20 = .ok (.iconst 0, 1) := by decide +kernel
theorem dX9_feed_21 : decode cX9_feed 21 = .ok (.istore 6, 2) := by decide +kernel
theorem dX9_feed_23 : decode cX9_feed 23 = .ok (.iload 6, 2) := by decide +kernel
theorem dX9_feed_25 : decode cX9_feed 25 = .ok (.bipush 20, 2) := by decide +kernel
theorem dX9_feed_27 : decode cX9_feed 27 = .ok (.if_icmp .ge 93, 3) := by decide +kernel
theorem dX9_feed_30 : decode cX9_feed 30 = .ok (.iload 6, 2) := by decide +kernel
theorem dX9_feed_32 : decode cX9_feed 32 = .ok (.iconst 4, 1) := by decide +kernel
theorem dX9_feed_33 : decode cX9_feed 33 = .ok (.if_icmp .ge 7, 3) := by decide +kernel
theorem dX9_feed_36 : decode cX9_feed 36 = .ok (.iload_n 1, 1) := by decide +kernel
theorem dX9_feed_37 : decode cX9_feed 37 = .ok (.goto 39, 3) := by decide +kernel
theorem dX9_feed_40 : decode cX9_feed 40 = .ok (.iload 6, 2) := by decide +kernel
theorem dX9_feed_42 : decode cX9_feed 42 = .ok (.bipush 8, 2) := by decide +kernel
theorem dX9_feed_44 : decode cX9_feed 44 = .ok (.if_icmp .ge 7, 3) := by decide +kernel
theorem dX9_feed_47 : decode cX9_feed 47 = .ok (.iload_n 2, 1) := by decide +kernel
theorem dX9_feed_48 : decode cX9_feed 48 = .ok (.goto 28, 3) := by decide +kernel
theorem dX9_feed_51 : decode cX9_feed 51 = .ok (.iload 6, 2) := by decide +kernel
theorem dX9_feed_53 : decode cX9_feed 53 = .ok (.bipush 12, 2) := by decide +kernel
theorem dX9_feed_55 : decode cX9_feed 55 = .ok (.if_icmp .ge 7, 3) := by decide +kernel
theorem dX9_feed_58 : decode cX9_feed 58 = .ok (.iload_n 3, 1) := by decide +kernel
theorem dX9_feed_59 : decode cX9_feed 59 = .ok (.goto 17, 3) := by decide +kernel
theorem dX9_feed_62 : decode cX9_feed 62 = .ok (.iload 6, 2) := by decide +kernel
theorem dX9_feed_64 : decode cX9_feed 64 = .ok (.bipush 16, 2) := by decide +kernel
theorem dX9_feed_66 : decode cX9_feed 66 = .ok (.if_icmp .ge 8, 3) := by decide +kernel
theorem dX9_feed_69 : decode cX9_feed 69 = .ok (.iload 4, 2) := by decide +kernel
theorem dX9_feed_71 : decode cX9_feed 71 = .ok (.goto 5, 3) := by decide +kernel
theorem dX9_feed_74 : decode cX9_feed 74 = .ok (.iload 5, 2) := by decide +kernel
theorem dX9_feed_76 : decode cX9_feed 76 = .ok (.istore 7, 2) := by decide +kernel
theorem dX9_feed_78 : decode cX9_feed 78 = .ok (.aload_n 0, 1) := by decide +kernel
theorem dX9_feed_79 : decode cX9_feed 79 = .ok (.getfield 7, 3) := by decide +kernel
theorem dX9_feed_82 : decode cX9_feed 82 = .ok (.aload_n 0, 1) := by decide +kernel
theorem dX9_feed_83 : decode cX9_feed 83 = .ok (.getfield 50, 3) := by decide +kernel
theorem dX9_feed_86 : decode cX9_feed 86 = .ok (.iload 7, 2) := by decide +kernel
theorem dX9_feed_88 : decode cX9_feed 88 = .ok (.bipush 24, 2) := by decide +kernel
theorem dX9_feed_90 : decode cX9_feed 90 = .ok (.bipush 8, 2) := by decide +kernel
theorem dX9_feed_92 : decode cX9_feed 92 = .ok (.iload 6, 2) := by decide +kernel
theorem dX9_feed_94 : decode cX9_feed 94 = .ok (.iconst 4, 1) := by decide +kernel
theorem dX9_feed_95 : decode cX9_feed 95 = .ok (.irem, 1) := by decide +kernel
theorem dX9_feed_96 : decode cX9_feed 96 = .ok (.imul, 1) := by decide +kernel
theorem dX9_feed_97 : decode cX9_feed 97 = .ok (.isub, 1) := by decide +kernel
theorem dX9_feed_98 : decode cX9_feed 98 = .ok (.ishr, 1) := by decide +kernel
theorem dX9_feed_99 : decode cX9_feed 99 = .ok (.sipush 255, 3) := by decide +kernel
theorem dX9_feed_102 : decode cX9_feed 102 = .ok (.iand, 1) := by decide +kernel
theorem dX9_feed_103 : decode cX9_feed 103 = .ok (.iastore, 1) := by decide +kernel
theorem dX9_feed_104 : decode cX9_feed 104 = .ok (.aload_n 0, 1) := by decide +kernel
theorem dX9_feed_105 : decode cX9_feed 105 = .ok (.dup, 1) := by decide +kernel
theorem dX9_feed_106 : decode cX9_feed 106 = .ok (.getfield 50, 3) := by decide +kernel
theorem dX9_feed_109 : decode cX9_feed 109 = .ok (.iconst 1, 1) := by decide +kernel
theorem dX9_feed_110 : decode cX9_feed 110 = .ok (.iadd, 1) := by decide +kernel
theorem dX9_feed_111 : decode cX9_feed 111 = .ok (.putfield 50, 3) := by decide +kernel
theorem dX9_feed_114 : decode cX9_feed 114 = .ok (.iinc 6 1, 3) := by decide +kernel
theorem dX9_feed_117 : decode cX9_feed 117 = .ok (.goto (-94), 3) := by decide +kernel
theorem dX9_feed_120 : decode cX9_feed 120 = .ok (.aload_n 0, 1) := by decide +kernel
theorem dX9_feed_121 : decode cX9_feed 121 = .ok (.getfield 50, 3) := by decide +kernel
theorem dX9_feed_124 : decode cX9_feed 124 = .ok (.ireturn, 1) := by decide +kernel
theorem dX9_look1_0 : decode cX9_look1 0 = .ok (.iload_n 1, 1) := by decide +kernel
theorem dX9_look1_1 : decode cX9_look1 1 = .ok (.aload_n 0, 1) := by decide +kernel
theorem dX9_look1_2 : decode cX9_look1 2 = .ok (.getfield 53, 3) := by decide +kernel
theorem dX9_look1_5 : decode cX9_look1 5 = .ok (.if_icmp .ge 12, 3) := by decide +kernel
theorem dX9_look1_8 : decode cX9_look1 8 = .ok (.aload_n 0, 1) := by decide +kernel
theorem dX9_look1_9 : decode cX9_look1 9 = .ok (.getfield 7, 3) := by decide +kernel
theorem dX9_look1_12 : decode cX9_look1 12 = .ok (.iload_n 1, 1) := by decide +kernel
theorem dX9_look1_13 : decode cX9_look1 13 = .ok (.iaload, 1) := by decide +kernel
theorem dX9_look1_14 : decode cX9_look1 14 = .ok (.goto 4, 3) := by decide +kernel
theorem dX9_look1_17 : decode cX9_look1 17 = .ok (.iconst (-1), 1) := by decide +kernel
theorem dX9_look1_18 : decode cX9_look1 18 = .ok (.ireturn, 1) := by decide +kernel
theorem dX9_isSmall_0 : decode cX9_isSmall 0 = .ok (.iload_n 0, 1) := by decide +kernel
theorem dX9_isSmall_1 : decode cX9_isSmall 1 = .ok (.bipush 97, 2) := by decide +kernel
theorem dX9_isSmall_3 : decode cX9_isSmall 3 = .ok (.if_icmp .lt 13, 3) := by decide +kernel
theorem dX9_isSmall_6 : decode cX9_isSmall 6 = .ok (.iload_n 0, 1) := by decide +kernel
theorem dX9_isSmall_7 : decode cX9_isSmall 7 = .ok (.bipush 122, 2) := by decide +kernel
theorem dX9_isSmall_9 : decode cX9_isSmall 9 = .ok (.if_icmp .gt 7, 3) := by decide +kernel
theorem dX9_isSmall_12 : decode cX9_isSmall 12 = .ok (.iconst 1, 1) := by decide +kernel
theorem dX9_isSmall_13 : decode cX9_isSmall 13 = .ok (.goto 4, 3) := by decide +kernel
theorem dX9_isSmall_16 : decode cX9_isSmall 16 = .ok (.iconst 0, 1) := by decide +kernel
theorem dX9_isSmall_17 : decode cX9_isSmall 17 = .ok (.ireturn, 1) := by decide +kernel
theorem dX9_isDigit_0 : decode cX9_isDigit 0 = .ok (.iload_n 0, 1) := by decide +kernel
theorem dX9_isDigit_1 : decode cX9_isDigit 1 = .ok (.bipush 48, 2) := by decide +kernel
theorem dX9_isDigit_3 : decode cX9_isDigit 3 = .ok (.if_icmp .lt 13, 3) := by decide +kernel
theorem dX9_isDigit_6 : decode cX9_isDigit 6 = .ok (.iload_n 0, 1) := by decide +kernel
theorem dX9_isDigit_7 : decode cX9_isDigit 7 = .ok (.bipush 57, 2) := by decide +kernel
theorem dX9_isDigit_9 : decode cX9_isDigit 9 = .ok (.if_icmp .gt 7, 3) := by decide +kernel
theorem dX9_isDigit_12 : decode cX9_isDigit 12 = .ok (.iconst 1, 1) := by decide +kernel
theorem dX9_isDigit_13 : decode cX9_isDigit 13 = .ok (.goto 4, 3) := by decide +kernel
theorem dX9_isDigit_16 : decode cX9_isDigit 16 = .ok (.iconst 0, 1) := by decide +kernel
theorem dX9_isDigit_17 : decode cX9_isDigit 17 = .ok (.ireturn, 1) := by decide +kernel
set_option maxRecDepth 20000 in
theorem ggX9_next_X9_look1 : GoodIn wsX9_next wsX9_look1 := goodIn_r _ [11, 12, 13, 20, 21, 22, 23, 24, 25, 26, 27, 28, 29, 30, 31, 32, 33, 34, 35, 36, 37, 38, 39, 40, 41, 42, 43, 44, 45, 46, 47, 48] (by decide +kernel) (by decide +kernel)
set_option maxRecDepth 20000 in
theorem gX9_next_X9_look1 : GoodIn wsX9_next (wsV RX9 59 RX9 yX9_look1 wsX9_look1) := goodIn_app (goodIn_of _ (by decide +kernel)) ggX9_next_X9_look1
set_option maxRecDepth 20000 in
theorem ggX9_next_X9_isSmall : GoodIn wsX9_next wsX9_isSmall := goodIn_r _ [16] (by decide +kernel) (by decide +kernel)
set_option maxRecDepth 20000 in
theorem gX9_next_X9_isSmall : GoodIn wsX9_next (va_wsS RX9 75 yX9_isSmall wsX9_isSmall) := goodIn_app (goodIn_of _ (by decide +kernel)) ggX9_next_X9_isSmall
set_option maxRecDepth 20000 in
theorem ggX9_next_X9_isDigit : GoodIn wsX9_next wsX9_isDigit := goodIn_r _ [19] (by decide +kernel) (by decide +kernel)
set_option maxRecDepth 20000 in
theorem gX9_next_X9_isDigit : GoodIn wsX9_next (va_wsS RX9 79 yX9_isDigit wsX9_isDigit) := goodIn_app (goodIn_of _ (by decide +kernel)) ggX9_next_X9_isDigit
theorem dX9_next_0 : decode cX9_next 0 = .ok (.aload_n 0, 1) := by decide +kernel
theorem dX9_next_1 : decode cX9_next 1 = .ok (.getfield 56, 3) := by decide +kernel
theorem dX9_next_4 : decode cX9_next 4 = .ok (.istore_n 1, 1) := by decide +kernel
theorem dX9_next_5 : decode cX9_next 5 = .ok (.aload_n 0, 1) := by decide +kernel
theorem dX9_next_6 : decode cX9_next 6 = .ok (.iload_n 1, 1) := by decide +kernel
theorem dX9_next_7 : decode cX9_next 7 = .ok (.invokevirtual 59, 3) := by decide +kernel
theorem dX9_next_10 : decode cX9_next 10 = .ok (.bipush 32, 2) := by decide +kernel
theorem dX9_next_12 : decode cX9_next 12 = .ok (.if_icmp .ne 9, 3) := by decide +kernel
theorem dX9_next_15 : decode cX9_next 15 = .ok (.iinc 1 1, 3) := by decide +kernel
theorem dX9_next_18 : decode cX9_next 18 = .ok (.goto (-13), 3) := by decide +kernel
theorem dX9_next_21 : decode cX9_next 21 = .ok (.aload_n 0, 1) := by decide +kernel
theorem dX9_next_22 : decode cX9_next 22 = .ok (.iload_n 1, 1) := by decide +kernel
theorem dX9_next_23 : decode cX9_next 23 = .ok (.putfield 63, 3) := by decide +kernel
theorem dX9_next_26 : decode cX9_next 26 = .ok (.aload_n 0, 1) := by decide +kernel
theorem dX9_next_27 : decode cX9_next 27 = .ok (.iload_n 1, 1) := by decide +kernel
theorem dX9_next_28 : decode cX9_next 28 = .ok (.invokevirtual 59, 3) := by decide +kernel
theorem dX9_next_31 : decode cX9_next 31 = .ok (.istore_n 2, 1) := by decide +kernel
theorem dX9_next_32 : decode cX9_next 32 = .ok (.aload_n 0, 1) := by decide +kernel
theorem dX9_next_33 : decode cX9_next 33 = .ok (.iconst 0, 1) := by decide +kernel
theorem dX9_next_34 : decode cX9_next 34 = .ok (.putfield 66, 3) := by decide +kernel
theorem dX9_next_37 : decode cX9_next 37 = .ok (.aload_n 0, 1) := by decide +kernel
theorem dX9_next_38 : decode cX9_next 38 = .ok (.iconst 0, 1) := by decide +kernel
theorem dX9_next_39 : decode cX9_next 39 = .ok (.putfield 69, 3) := by decide +kernel
theorem dX9_next_42 : decode cX9_next 42 = .ok (.iload_n 2, 1) := by decide +kernel
theorem dX9_next_43 : decode cX9_next 43 = .ok (.iconst (-1), 1) := by decide +kernel
theorem dX9_next_44 : decode cX9_next 44 = .ok (.if_icmp .ne 16, 3) := by decide +kernel
theorem dX9_next_47 : decode cX9_next 47 = .ok (.aload_n 0, 1) := by decide +kernel
theorem dX9_next_48 : decode cX9_next 48 = .ok (.iconst 0, 1) := by decide +kernel
theorem dX9_next_49 : decode cX9_next 49 = .ok (.putfield 72, 3) := by decide +kernel
theorem dX9_next_52 : decode cX9_next 52 = .ok (.aload_n 0, 1) := by decide +kernel
theorem dX9_next_53 : decode cX9_next 53 = .ok (.iload_n 1, 1) := by decide +kernel
theorem dX9_next_54 : decode cX9_next 54 = .ok (.putfield 56, 3) := by decide +kernel
theorem dX9_next_57 : decode cX9_next 57 = .ok (.goto 184, 3) := by decide +kernel
theorem dX9_next_60 : decode cX9_next 60 = .ok (.iload_n 2, 1) := by decide +kernel
theorem dX9_next_61 : decode cX9_next 61 = .ok (.invokestatic 75, 3) := by decide +kernel
theorem dX9_next_64 : decode cX9_next 64 = .ok (.ifCond .eq 79, 3) := by decide +kernel
theorem dX9_next_67 : decode cX9_next 67 = .ok (.aload_n 0, 1) := by decide +kernel
theorem dX9_next_68 : decode cX9_next 68 = .ok (.iload_n 1, 1) := by decide +kernel
theorem dX9_next_69 : decode cX9_next 69 = .ok (.invokevirtual 59, 3) := by decide +kernel
theorem dX9_next_72 : decode cX9_next 72 = .ok (.invokestatic 75, 3) := by decide +kernel
theorem dX9_next_75 : decode cX9_next 75 = .ok (.ifCond .eq 42, 3) := by decide +kernel
theorem dX9_next_78 : decode cX9_next 78 = .ok (.aload_n 0, 1) := by decide +kernel
theorem dX9_next_79 : decode cX9_next 79 = .ok (.getfield 66, 3) := by decide +kernel
theorem dX9_next_82 : decode cX9_next 82 = .ok (.bipush 8, 2) := by decide +kernel
theorem dX9_next_84 : decode cX9_next 84 = .ok (.if_icmp .ge 17, 3) := by decide +kernel
theorem dX9_next_87 : decode cX9_next 87 = .ok (.aload_n 0, 1) := by decide +kernel
theorem dX9_next_88 : decode cX9_next 88 = .ok (.getfield 17, 3) := by decide +kernel
theorem dX9_next_91 : decode cX9_next 91 = .ok (.aload_n 0, 1) := by decide +kernel
theorem dX9_next_92 : decode cX9_next 92 = .ok (.getfield 66, 3) := by decide +kernel
theorem dX9_next_95 : decode cX9_next 95 = .ok (.aload_n 0, 1) := by decide +kernel
theorem dX9_next_96 : decode cX9_next 96 = .ok (.iload_n 1, 1) := by decide +kernel
theorem dX9_next_97 : decode cX9_next 97 = .ok (.invokevirtual 59, 3) := by decide +kernel
theorem dX9_next_100 : decode cX9_next 100 = .ok (.iastore, 1) := by decide +kernel
theorem dX9_next_101 : decode cX9_next 101 = .ok (.aload_n 0, 1) := by decide +kernel
theorem dX9_next_102 : decode cX9_next 102 = .ok (.dup, 1) := by decide +kernel
theorem dX9_next_103 : decode cX9_next 103 = .ok (.getfield 66, 3) := by decide +kernel
theorem dX9_next_106 : decode cX9_next 106 = .ok (.iconst 1, 1) := by decide +kernel
theorem dX9_next_107 : decode cX9_next 107 = .ok (.iadd, 1) := by decide +kernel
theorem dX9_next_108 : decode cX9_next 108 = .ok (.putfield 66, 3) := by decide +kernel
theorem dX9_next_111 : decode cX9_next 111 = .ok (.iinc 1 1, 3) := by decide +kernel
theorem dX9_next_114 : decode cX9_next 114 = .ok (.goto (-47), 3) := by decide +kernel
theorem dX9_next_117 : decode cX9_next 117 = .ok (.aload_n 0, 1) := by decide +kernel
theorem dX9_next_118 : decode cX9_next 118 = .ok (.iload_n 1, 1) := by decide +kernel
theorem dX9_next_119 : decode cX9_next 119 = .ok (.putfield 56, 3) := by decide +kernel
theorem dX9_next_122 : decode cX9_next 122 = .ok (.aload_n 0, 1) := by decide +kernel
theorem dX9_next_123 : decode cX9_next 123 = .ok (.aload_n 0, 1) := by decide +kernel
theorem dX9_next_124 : decode cX9_next 124 = .ok (.getfield 66, 3) := by decide +kernel
theorem dX9_next_127 : decode cX9_next 127 = .ok (.bipush 8, 2) := by decide +kernel
theorem dX9_next_129 : decode cX9_next 129 = .ok (.if_icmp .le 7, 3) := by decide +kernel
theorem dX9_next_132 : decode cX9_next 132 = .ok (.iconst 1, 1) := by decide +kernel
theorem dX9_next_133 : decode cX9_next 133 = .ok (.goto 4, 3) := by decide +kernel
theorem dX9_next_136 : decode cX9_next 136 = .ok (.iconst 2, 1) := by decide +kernel
theorem dX9_next_137 : decode cX9_next 137 = .ok (.putfield 72, 3) := by decide +kernel
theorem dX9_next_140 : decode cX9_next 140 = .ok (.goto 101, 3) := by decide +kernel
theorem dX9_next_143 : decode cX9_next 143 = .ok (.iload_n 2, 1) := by decide +kernel
theorem dX9_next_144 : decode cX9_next 144 = .ok (.invokestatic 79, 3) := by decide +kernel
theorem dX9_next_147 : decode cX9_next 147 = .ok (.ifCond .eq 72, 3) := by decide +kernel
theorem dX9_next_150 : decode cX9_next 150 = .ok (.iconst 0, 1) := by decide +kernel
theorem dX9_next_151 : decode cX9_next 151 = .ok (.istore_n 3, 1) := by decide +kernel
theorem dX9_next_152 : decode cX9_next 152 = .ok (.aload_n 0, 1) := by decide +kernel
theorem dX9_next_153 : decode cX9_next 153 = .ok (.iload_n 1, 1) := by decide +kernel
theorem dX9_next_154 : decode cX9_next 154 = .ok (.invokevirtual 59, 3) := by decide +kernel
theorem dX9_next_157 : decode cX9_next 157 = .ok (.invokestatic 79, 3) := by decide +kernel
theorem dX9_next_160 : decode cX9_next 160 = .ok (.ifCond .eq 37, 3) := by decide +kernel
theorem dX9_next_163 : decode cX9_next 163 = .ok (.iload_n 3, 1) := by decide +kernel
theorem dX9_next_164 : decode cX9_next 164 = .ok (.iconst 3, 1) := by decide +kernel
theorem dX9_next_165 : decode cX9_next 165 = .ok (.if_icmp .ge 23, 3) := by decide +kernel
theorem dX9_next_168 : decode cX9_next 168 = .ok (.aload_n 0, 1) := by decide +kernel
theorem dX9_next_169 : decode cX9_next 169 = .ok (.bipush 10, 2) := by decide +kernel
theorem dX9_next_171 : decode cX9_next 171 = .ok (.aload_n 0, 1) := by decide +kernel
theorem dX9_next_172 : decode cX9_next 172 = .ok (.getfield 69, 3) := by decide +kernel
theorem dX9_next_175 : decode cX9_next 175 = .ok (.imul, 1) := by decide +kernel
theorem dX9_next_176 : decode cX9_next 176 = .ok (.aload_n 0, 1) := by decide +kernel
theorem dX9_next_177 : decode cX9_next 177 = .ok (.iload_n 1, 1) := by decide +kernel
theorem dX9_next_178 : decode cX9_next 178 = .ok (.invokevirtual 59, 3) := by decide +kernel
theorem dX9_next_181 : decode cX9_next 181 = .ok (.iadd, 1) := by decide +kernel
theorem dX9_next_182 : decode cX9_next 182 = .ok (.bipush 48, 2) := by decide +kernel
theorem dX9_next_184 : decode cX9_next 184 = .ok (.isub, 1) := by decide +kernel
theorem dX9_next_185 : decode cX9_next 185 = .ok (.putfield 69, 3) := by decide +kernel
theorem dX9_next_188 : decode cX9_next 188 = .ok (.iinc 3 1, 3) := by decide +kernel
theorem dX9_next_191 : decode cX9_next 191 = .ok (.iinc 1 1, 3) := by decide +kernel
theorem dX9_next_194 : decode cX9_next 194 = .ok (.goto (-42), 3) := by decide +kernel
theorem dX9_next_197 : decode cX9_next 197 = .ok (.aload_n 0, 1) := by decide +kernel
theorem dX9_next_198 : decode cX9_next 198 = .ok (.iload_n 1, 1) := by decide +kernel
theorem dX9_next_199 : decode cX9_next 199 = .ok (.putfield 56, 3) := by decide +kernel
theorem dX9_next_202 : decode cX9_next 202 = .ok (.aload_n 0, 1) := by decide +kernel
theorem dX9_next_203 : decode cX9_next 203 = .ok (.iload_n 3, 1) := by decide +kernel
theorem dX9_next_204 : decode cX9_next 204 = .ok (.iconst 3, 1) := by decide +kernel
theorem dX9_next_205 : decode cX9_next 205 = .ok (.if_icmp .le 7, 3) := by decide +kernel
theorem dX9_next_208 : decode cX9_next 208 = .ok (.iconst 1, 1) := by decide +kernel
theorem dX9_next_209 : decode cX9_next 209 = .ok (.goto 4, 3) := by decide +kernel
theorem dX9_next_212 : decode cX9_next 212 = .ok (.iconst 3, 1) := by decide +kernel
theorem dX9_next_213 : decode cX9_next 213 = .ok (.putfield 72, 3) := by decide +kernel
theorem dX9_next_216 : decode cX9_next 216 = .ok (.goto 25, 3) := by decide +kernel
theorem dX9_next_219 : decode cX9_next 219 = .ok (.aload_n 0, 1) := by decide +kernel
theorem dX9_next_220 : decode cX9_next 220 = .ok (.iload_n 1, 1) := by decide +kernel
theorem dX9_next_221 : decode cX9_next 221 = .ok (.iconst 1, 1) := by decide +kernel
theorem dX9_next_222 : decode cX9_next 222 = .ok (.iadd, 1) := by decide +kernel
theorem dX9_next_223 : decode cX9_next 223 = .ok (.putfield 56, 3) := by decide +kernel
theorem dX9_next_226 : decode cX9_next 226 = .ok (.aload_n 0, 1) := by decide +kernel
theorem dX9_next_227 : decode cX9_next 227 = .ok (.iload_n 2, 1) := by decide +kernel
theorem dX9_next_228 : decode cX9_next 228 = .ok (.bipush 59, 2) := by decide +kernel
theorem dX9_next_230 : decode cX9_next 230 = .ok (.if_icmp .ne 7, 3) := by decide +kernel
theorem dX9_next_233 : decode cX9_next 233 = .ok (.iload_n 2, 1) := by decide +kernel
theorem dX9_next_234 : decode cX9_next 234 = .ok (.goto 4, 3) := by decide +kernel
theorem dX9_next_237 : decode cX9_next 237 = .ok (.iconst 1, 1) := by decide +kernel
theorem dX9_next_238 : decode cX9_next 238 = .ok (.putfield 72, 3) := by decide +kernel
theorem dX9_next_241 : decode cX9_next 241 = .ok (.return_, 1) := by decide +kernel
theorem dX9_wrong_0 : decode cX9_wrong 0 = .ok (.aload_n 0, 1) := by decide +kernel
theorem dX9_wrong_1 : decode cX9_wrong 1 = .ok (.getfield 82, 3) := by decide +kernel
theorem dX9_wrong_4 : decode cX9_wrong 4 = .ok (.ifCond .eq 4, 3) := by decide +kernel
theorem dX9_wrong_7 : decode cX9_wrong 7 = .ok (.return_, 1) := by decide +kernel
theorem dX9_wrong_8 : decode cX9_wrong 8 = .ok (.aload_n 0, 1) := by decide +kernel
theorem dX9_wrong_9 : decode cX9_wrong 9 = .ok (.iconst 1, 1) := by decide +kernel
theorem dX9_wrong_10 : decode cX9_wrong 10 = .ok (.putfield 82, 3) := by decide +kernel
theorem dX9_wrong_13 : decode cX9_wrong 13 = .ok (.aload_n 0, 1) := by decide +kernel
theorem dX9_wrong_14 : decode cX9_wrong 14 = .ok (.iload_n 1, 1) := by decide +kernel
theorem dX9_wrong_15 : decode cX9_wrong 15 = .ok (.putfield 86, 3) := by decide +kernel
theorem dX9_wrong_18 : decode cX9_wrong 18 = .ok (.aload_n 0, 1) := by decide +kernel
theorem dX9_wrong_19 : decode cX9_wrong 19 = .ok (.iload_n 2, 1) := by decide +kernel
theorem dX9_wrong_20 : decode cX9_wrong 20 = .ok (.putfield 13, 3) := by decide +kernel
theorem dX9_wrong_23 : decode cX9_wrong 23 = .ok (.return_, 1) := by decide +kernel
set_option maxRecDepth 20000 in
theorem ggX9_isWord_J0_length_8abf5 : GoodIn wsX9_isWord wsJ0_length_8abf5 := goodIn_r _ [9, 10, 11, 12, 13, 8, 14, 15, 16] (by decide +kernel) (by decide +kernel)
set_option maxRecDepth 20000 in
theorem gX9_isWord_J0_length_8abf5 : GoodIn wsX9_isWord (wsV RX9 89 RJ0 yJ0_length_8abf5 wsJ0_length_8abf5) := goodIn_app (goodIn_of _ (by decide +kernel)) ggX9_isWord_J0_length_8abf5
set_option maxRecDepth 20000 in
theorem ggX9_isWord_J0_charAt_5068e : GoodIn wsX9_isWord wsJ0_charAt_5068e := goodIn_r _ [20, 10, 21, 22, 23, 8, 24, 15, 16, 25, 26, 27, 28, 29, 30, 31, 32, 33, 34, 35, 36, 37, 38, 39, 40, 41, 42, 43, 44, 45, 46, 47, 48, 49, 50, 51, 52, 53] (by decide +kernel) (by decide +kernel)
set_option maxRecDepth 20000 in
theorem gX9_isWord_J0_charAt_5068e : GoodIn wsX9_isWord (wsV RX9 95 RJ0 yJ0_charAt_5068e wsJ0_charAt_5068e) := goodIn_app (goodIn_of _ (by decide +kernel)) ggX9_isWord_J0_charAt_5068e
theorem dX9_isWord_0 : decode cX9_isWord 0 = .ok (.aload_n 0, 1) := by decide +kernel
theorem dX9_isWord_1 : decode cX9_isWord 1 = .ok (.getfield 82, 3) := by decide +kernel
theorem dX9_isWord_4 : decode cX9_isWord 4 = .ok (.ifCond .ne 22, 3) := by decide +kernel
theorem dX9_isWord_7 : decode cX9_isWord 7 = .ok (.aload_n 0, 1) := by decide +kernel
theorem dX9_isWord_8 : decode cX9_isWord 8 = .ok (.getfield 72, 3) := by decide +kernel
theorem dX9_isWord_11 : decode cX9_isWord 11 = .ok (.iconst 2, 1) := by decide +kernel
theorem dX9_isWord_12 : decode cX9_isWord 12 = .ok (.if_icmp .ne 14, 3) := by decide +kernel
theorem dX9_isWord_15 : decode cX9_isWord 15 = .ok (.aload_n 0, 1) := by decide +kernel
theorem dX9_isWord_16 : decode cX9_isWord 16 = .ok (.getfield 66, 3) := by decide +kernel
theorem dX9_isWord_19 : decode cX9_isWord 19 = .ok (.aload_n 1, 1) := by decide +kernel
theorem dX9_isWord_20 : decode cX9_isWord 20 = .ok (.invokevirtual 89, 3) := by decide +kernel
theorem dX9_isWord_23 : decode cX9_isWord 23 = .ok (.if_icmp .eq 5, 3) := by decide +kernel
theorem dX9_isWord_26 : decode cX9_isWord 26 = .ok (.iconst 0, 1) := by decide +kernel
theorem dX9_isWord_27 : decode cX9_isWord 27 = .ok (.ireturn, 1) := by decide +kernel
theorem dX9_isWord_28 : decode cX9_isWord 28 = .ok (.iconst 1, 1) := by decide +kernel
theorem dX9_isWord_29 : decode cX9_isWord 29 = .ok (.istore_n 2, 1) := by decide +kernel
theorem dX9_isWord_30 : decode cX9_isWord 30 = .ok (.iconst 0, 1) := by decide +kernel
theorem dX9_isWord_31 : decode cX9_isWord 31 = .ok (.istore_n 3, 1) := by decide +kernel
theorem dX9_isWord_32 : decode cX9_isWord 32 = .ok (.iload_n 3, 1) := by decide +kernel
theorem dX9_isWord_33 : decode cX9_isWord 33 = .ok (.aload_n 0, 1) := by decide +kernel
theorem dX9_isWord_34 : decode cX9_isWord 34 = .ok (.getfield 66, 3) := by decide +kernel
theorem dX9_isWord_37 : decode cX9_isWord 37 = .ok (.if_icmp .ge 33, 3) := by decide +kernel
theorem dX9_isWord_40 : decode cX9_isWord 40 = .ok (.iload_n 2, 1) := by decide +kernel
theorem dX9_isWord_41 : decode cX9_isWord 41 = .ok (.ifCond .eq 21, 3) := by decide +kernel
theorem dX9_isWord_44 : decode cX9_isWord 44 = .ok (.aload_n 0, 1) := by decide +kernel
theorem dX9_isWord_45 : decode cX9_isWord 45 = .ok (.getfield 17, 3) := by decide +kernel
theorem dX9_isWord_48 : decode cX9_isWord 48 = .ok (.iload_n 3, 1) := by decide +kernel
theorem dX9_isWord_49 : decode cX9_isWord 49 = .ok (.iaload, 1) := by decide +kernel
theorem dX9_isWord_50 : decode cX9_isWord 50 = .ok (.aload_n 1, 1) := by decide +kernel
theorem dX9_isWord_51 : decode cX9_isWord 51 = .ok (.iload_n 3, 1) := by decide +kernel
theorem dX9_isWord_52 : decode cX9_isWord 52 = .ok (.invokevirtual 95, 3) := by decide +kernel
theorem dX9_isWord_55 : decode cX9_isWord 55 = .ok (.if_icmp .ne 7, 3) := by decide +kernel
theorem dX9_isWord_58 : decode cX9_isWord 58 = .ok (.iconst 1, 1) := by decide +kernel
theorem dX9_isWord_59 : decode cX9_isWord 59 = .ok (.goto 4, 3) := by decide +kernel
theorem dX9_isWord_62 : decode cX9_isWord 62 = .ok (.iconst 0, 1) := by decide +kernel
theorem dX9_isWord_63 : decode cX9_isWord 63 = .ok (.istore_n 2, 1) := by decide +kernel
theorem dX9_isWord_64 : decode cX9_isWord 64 = .ok (.iinc 3 1, 3) := by decide +kernel
theorem dX9_isWord_67 : decode cX9_isWord 67 = .ok (.goto (-35), 3) := by decide +kernel
theorem dX9_isWord_70 : decode cX9_isWord 70 = .ok (.iload_n 2, 1) := by decide +kernel
theorem dX9_isWord_71 : decode cX9_isWord 71 = .ok (.ireturn, 1) := by decide +kernel
set_option maxRecDepth 20000 in
theorem ggX9_takesWord_X9_isWord : GoodIn wsX9_takesWord wsX9_isWord := goodIn_r _ [5, 6, 7, 8, 9, 10, 11, 12, 13, 14, 15, 16, 17, 18, 19, 20, 21, 22, 23, 24, 25, 26, 27, 28, 29, 30, 31, 32, 33, 34, 35, 36, 37, 38, 39, 40, 41, 42, 43, 44, 45, 46, 47, 48, 49, 50, 51, 52, 53, 54, 55, 56, 57, 58, 78, 79, 80, 81, 82, 83, 84, 85, 86, 87, 88, 89, 90, 91, 92, 93, 94, 95, 96, 97, 98, 99, 100, 101, 102, 103, 104, 105, 106] (by decide +kernel) (by decide +kernel)
set_option maxRecDepth 20000 in
theorem gX9_takesWord_X9_isWord : GoodIn wsX9_takesWord (wsV RX9 99 RX9 yX9_isWord wsX9_isWord) := goodIn_app (goodIn_of _ (by decide +kernel)) ggX9_takesWord_X9_isWord
set_option maxRecDepth 20000 in
theorem ggX9_takesWord_X9_next : GoodIn wsX9_takesWord wsX9_next := goodIn_r _ [62, 63, 64, 8, 65, 7, 9, 66, 67, 68, 4, 69, 70, 71, 72, 73, 74, 75, 76, 77, 78, 79, 80, 81, 82, 83, 84, 85, 86, 87, 88, 89, 90, 91, 92, 93, 94, 95, 96, 97, 98, 99, 100, 101, 102, 103, 104, 105, 106] (by decide +kernel) (by decide +kernel)
set_option maxRecDepth 20000 in
theorem gX9_takesWord_X9_next : GoodIn wsX9_takesWord (wsV RX9 103 RX9 yX9_next wsX9_next) := goodIn_app (goodIn_of _ (by decide +kernel)) ggX9_takesWord_X9_next
theorem dX9_takesWord_0 : decode cX9_takesWord 0 = .ok (.aload_n 0, 1) := by decide +kernel
theorem dX9_takesWord_1 : decode cX9_takesWord 1 = .ok (.aload_n 1, 1) := by decide +kernel
theorem dX9_takesWord_2 : decode cX9_takesWord 2 = .ok (.invokevirtual 99, 3) := by decide +kernel
theorem dX9_takesWord_5 : decode cX9_takesWord 5 = .ok (.ifCond .ne 5, 3) := by decide +kernel
theorem dX9_takesWord_8 : decode cX9_takesWord 8 = .ok (.iconst 0, 1) := by decide +kernel
theorem dX9_takesWord_9 : decode cX9_takesWord 9 = .ok (.ireturn, 1) := by decide +kernel
theorem dX9_takesWord_10 : decode cX9_takesWord 10 = .ok (.aload_n 0, 1) := by decide +kernel
theorem dX9_takesWord_11 : decode cX9_takesWord 11 = .ok (.invokevirtual 103, 3) := by decide +kernel
theorem dX9_takesWord_14 : decode cX9_takesWord 14 = .ok (.iconst 1, 1) := by decide +kernel
theorem dX9_takesWord_15 : decode cX9_takesWord 15 = .ok (.ireturn, 1) := by decide +kernel
set_option maxRecDepth 20000 in
theorem ggX9_must_X9_takesWord : GoodIn wsX9_must wsX9_takesWord := goodIn_r _ [7, 8, 9, 10, 6, 11, 1, 12, 13, 14, 15, 16, 17, 18, 19, 20, 21, 22, 23, 24, 25, 26, 27, 28, 29, 30, 31, 32, 33, 34, 35, 36, 37, 38, 39, 40, 41, 42, 43, 44, 45, 46, 47, 48, 49, 50, 51, 52, 53, 54, 55, 56, 57, 58, 59, 60, 61, 62, 63, 64, 65, 66, 67, 68, 2, 69, 70, 71, 72, 73, 74, 75, 76, 77, 78, 79, 80, 81, 88, 89, 90, 91, 92, 93, 94, 95, 96, 97, 98, 99, 100, 101, 102, 103, 104, 105, 106, 107, 108, 109, 110, 111, 112, 113, 114, 115, 116] (by decide +kernel) (by decide +kernel)
set_option maxRecDepth 20000 in
theorem gX9_must_X9_takesWord : GoodIn wsX9_must (wsV RX9 106 RX9 yX9_takesWord wsX9_takesWord) := goodIn_app (goodIn_of _ (by decide +kernel)) ggX9_must_X9_takesWord
set_option maxRecDepth 20000 in
theorem ggX9_must_X9_wrong : GoodIn wsX9_must wsX9_wrong := goodIn_r _ [85, 1, 86, 87, 88, 89, 90, 91, 92, 93, 94, 95, 96, 97, 98, 99, 100, 101, 102, 103, 104, 105, 106, 107, 108, 109, 110, 111, 112, 113, 114, 115, 116] (by decide +kernel) (by decide +kernel)
set_option maxRecDepth 20000 in
theorem gX9_must_X9_wrong : GoodIn wsX9_must (wsV RX9 109 RX9 yX9_wrong wsX9_wrong) := goodIn_app (goodIn_of _ (by decide +kernel)) ggX9_must_X9_wrong
theorem dX9_must_0 : decode cX9_must 0 = .ok (.aload_n 0, 1) := by decide +kernel
theorem dX9_must_1 : decode cX9_must 1 = .ok (.getfield 82, 3) := by decide +kernel
theorem dX9_must_4 : decode cX9_must 4 = .ok (.ifCond .ne 20, 3) := by decide +kernel
theorem dX9_must_7 : decode cX9_must 7 = .ok (.aload_n 0, 1) := by decide +kernel
theorem dX9_must_8 : decode cX9_must 8 = .ok (.aload_n 1, 1) := by decide +kernel
theorem dX9_must_9 : decode cX9_must 9 = .ok (.invokevirtual 106, 3) := by decide +kernel
theorem dX9_must_12 : decode cX9_must 12 = .ok (.ifCond .ne 12, 3) := by decide +kernel
theorem dX9_must_15 : decode cX9_must 15 = .ok (.aload_n 0, 1) := by decide +kernel
theorem dX9_must_16 : decode cX9_must 16 = .ok (.iconst 1, 1) := by decide +kernel
theorem dX9_must_17 : decode cX9_must 17 = .ok (.aload_n 0, 1) := by decide +kernel
theorem dX9_must_18 : decode cX9_must 18 = .ok (.getfield 63, 3) := by decide +kernel
theorem dX9_must_21 : decode cX9_must 21 = .ok (.invokevirtual 109, 3) := by decide +kernel
theorem dX9_must_24 : decode cX9_must 24 = .ok (.return_, 1) := by decide +kernel
set_option maxRecDepth 20000 in
theorem ggX9_mustName_X9_isWord : GoodIn wsX9_mustName wsX9_isWord := goodIn_r _ [7, 8, 1, 9, 10, 11, 12, 13, 14, 15, 16, 17, 18, 19, 20, 21, 22, 23, 24, 25, 26, 27, 28, 29, 30, 31, 32, 33, 34, 35, 36, 37, 38, 39, 40, 41, 42, 43, 44, 45, 46, 47, 48, 49, 50, 51, 52, 53, 54, 55, 56, 57, 58, 59, 66, 67, 68, 69, 70, 71, 72, 73, 74, 75, 76, 77, 78, 79, 80, 81, 82, 83, 84, 85, 86, 87, 88, 89, 90, 91, 92, 93, 94] (by decide +kernel) (by decide +kernel)
set_option maxRecDepth 20000 in
theorem gX9_mustName_X9_isWord : GoodIn wsX9_mustName (wsV RX9 99 RX9 yX9_isWord wsX9_isWord) := goodIn_app (goodIn_of _ (by decide +kernel)) ggX9_mustName_X9_isWord
set_option maxRecDepth 20000 in
theorem ggX9_mustName_X9_wrong : GoodIn wsX9_mustName wsX9_wrong := goodIn_r _ [63, 8, 64, 65, 66, 67, 68, 69, 70, 71, 72, 73, 74, 75, 76, 77, 78, 79, 80, 81, 82, 83, 84, 85, 86, 87, 88, 89, 90, 91, 92, 93, 94] (by decide +kernel) (by decide +kernel)
set_option maxRecDepth 20000 in
theorem gX9_mustName_X9_wrong : GoodIn wsX9_mustName (wsV RX9 109 RX9 yX9_wrong wsX9_wrong) := goodIn_app (goodIn_of _ (by decide +kernel)) ggX9_mustName_X9_wrong
theorem dX9_mustName_0 : decode cX9_mustName 0 = .ok (.aload_n 0, 1) := by decide +kernel
theorem dX9_mustName_1 : decode cX9_mustName 1 = .ok (.getfield 72, 3) := by decide +kernel
theorem dX9_mustName_4 : decode cX9_mustName 4 = .ok (.iconst 2, 1) := by decide +kernel
theorem dX9_mustName_5 : decode cX9_mustName 5 = .ok (.if_icmp .ne 75, 3) := by decide +kernel
theorem dX9_mustName_8 : decode cX9_mustName 8 = .ok (.aload_n 0, 1) := by decide +kernel
theorem dX9_mustName_9 : decode cX9_mustName 9 = .ok (.ldc 113, 2) := by decide +kernel
theorem dX9_mustName_11 : decode cX9_mustName 11 = .ok (.invokevirtual 99, 3) := by decide +kernel
theorem dX9_mustName_14 : decode cX9_mustName 14 = .ok (.ifCond .ne 66, 3) := by decide +kernel
theorem dX9_mustName_17 : decode cX9_mustName 17 = .ok (.aload_n 0, 1) := by decide +kernel
theorem dX9_mustName_18 : decode cX9_mustName 18 = .ok (.ldc 115, 2) := by decide +kernel
theorem dX9_mustName_20 : decode cX9_mustName 20 = .ok (.invokevirtual 99, 3) := by decide +kernel
theorem dX9_mustName_23 : decode cX9_mustName 23 = .ok (.ifCond .ne 57, 3) := by decide +kernel
theorem dX9_mustName_26 : decode cX9_mustName 26 = .ok (.aload_n 0, 1) := by decide +kernel
theorem dX9_mustName_27 : decode cX9_mustName 27 = .ok (.ldc 117, 2) := by decide +kernel
theorem dX9_mustName_29 : decode cX9_mustName 29 = .ok (.invokevirtual 99, 3) := by decide +kernel
theorem dX9_mustName_32 : decode cX9_mustName 32 = .ok (.ifCond .ne 48, 3) := by decide +kernel
theorem dX9_mustName_35 : decode cX9_mustName 35 = .ok (.aload_n 0, 1) := by decide +kernel
theorem dX9_mustName_36 : decode cX9_mustName 36 = .ok (.ldc 119, 2) := by decide +kernel
theorem dX9_mustName_38 : decode cX9_mustName 38 = .ok (.invokevirtual 99, 3) := by decide +kernel
theorem dX9_mustName_41 : decode cX9_mustName 41 = .ok (.ifCond .ne 39, 3) := by decide +kernel
theorem dX9_mustName_44 : decode cX9_mustName 44 = .ok (.aload_n 0, 1) := by decide +kernel
theorem dX9_mustName_45 : decode cX9_mustName 45 = .ok (.ldc 121, 2) := by decide +kernel
theorem dX9_mustName_47 : decode cX9_mustName 47 = .ok (.invokevirtual 99, 3) := by decide +kernel
theorem dX9_mustName_50 : decode cX9_mustName 50 = .ok (.ifCond .ne 30, 3) := by decide +kernel
theorem dX9_mustName_53 : decode cX9_mustName 53 = .ok (.aload_n 0, 1) := by decide +kernel
theorem dX9_mustName_54 : decode cX9_mustName 54 = .ok (.ldc 123, 2) := by decide +kernel
theorem dX9_mustName_56 : decode cX9_mustName 56 = .ok (.invokevirtual 99, 3) := by decide +kernel
theorem dX9_mustName_59 : decode cX9_mustName 59 = .ok (.ifCond .ne 21, 3) := by decide +kernel
theorem dX9_mustName_62 : decode cX9_mustName 62 = .ok (.aload_n 0, 1) := by decide +kernel
theorem dX9_mustName_63 : decode cX9_mustName 63 = .ok (.ldc 125, 2) := by decide +kernel
theorem dX9_mustName_65 : decode cX9_mustName 65 = .ok (.invokevirtual 99, 3) := by decide +kernel
theorem dX9_mustName_68 : decode cX9_mustName 68 = .ok (.ifCond .ne 12, 3) := by decide +kernel
theorem dX9_mustName_71 : decode cX9_mustName 71 = .ok (.aload_n 0, 1) := by decide +kernel
theorem dX9_mustName_72 : decode cX9_mustName 72 = .ok (.ldc 127, 2) := by decide +kernel
theorem dX9_mustName_74 : decode cX9_mustName 74 = .ok (.invokevirtual 99, 3) := by decide +kernel
theorem dX9_mustName_77 : decode cX9_mustName 77 = .ok (.ifCond .eq 12, 3) := by decide +kernel
theorem dX9_mustName_80 : decode cX9_mustName 80 = .ok (.aload_n 0, 1) := by decide +kernel
theorem dX9_mustName_81 : decode cX9_mustName 81 = .ok (.iconst 1, 1) := by decide +kernel
theorem dX9_mustName_82 : decode cX9_mustName 82 = .ok (.aload_n 0, 1) := by decide +kernel
theorem dX9_mustName_83 : decode cX9_mustName 83 = .ok (.getfield 63, 3) := by decide +kernel
theorem dX9_mustName_86 : decode cX9_mustName 86 = .ok (.invokevirtual 109, 3) := by decide +kernel
theorem dX9_mustName_89 : decode cX9_mustName 89 = .ok (.return_, 1) := by decide +kernel
theorem dX9_find_0 : decode cX9_find 0 = .ok (.iconst 0, 1) := by decide +kernel
theorem dX9_find_1 : decode cX9_find 1 = .ok (.istore_n 1, 1) := by decide +kernel
theorem dX9_find_2 : decode cX9_find 2 = .ok (.iload_n 1, 1) := by decide +kernel
theorem dX9_find_3 : decode cX9_find 3 = .ok (.bipush 11, 2) := by decide +kernel
theorem dX9_find_5 : decode cX9_find 5 = .ok (.if_icmp .ge 99, 3) := by decide +kernel
theorem dX9_find_8 : decode cX9_find 8 = .ok (.aload_n 0, 1) := by decide +kernel
theorem dX9_find_9 : decode cX9_find 9 = .ok (.getfield 23, 3) := by decide +kernel
theorem dX9_find_12 : decode cX9_find 12 = .ok (.bipush 125, 2) := by decide +kernel
theorem dX9_find_14 : decode cX9_find 14 = .ok (.iload_n 1, 1) := by decide +kernel
theorem dX9_find_15 : decode cX9_find 15 = .ok (.iadd, 1) := by decide +kernel
theorem dX9_find_16 : decode cX9_find 16 = .ok (.iaload, 1) := by decide +kernel
theorem dX9_find_17 : decode cX9_find 17 = .ok (.ifCond .le 23, 3) := by decide +kernel
theorem dX9_find_20 : decode cX9_find 20 = .ok (.aload_n 0, 1) := by decide +kernel
theorem dX9_find_21 : decode cX9_find 21 = .ok (.getfield 23, 3) := by decide +kernel
theorem dX9_find_24 : decode cX9_find 24 = .ok (.bipush 125, 2) := by decide +kernel
theorem dX9_find_26 : decode cX9_find 26 = .ok (.iload_n 1, 1) := by decide +kernel
theorem dX9_find_27 : decode cX9_find 27 = .ok (.iadd, 1) := by decide +kernel
theorem dX9_find_28 : decode cX9_find 28 = .ok (.iaload, 1) := by decide +kernel
theorem dX9_find_29 : decode cX9_find 29 = .ok (.aload_n 0, 1) := by decide +kernel
theorem dX9_find_30 : decode cX9_find 30 = .ok (.getfield 66, 3) := by decide +kernel
theorem dX9_find_33 : decode cX9_find 33 = .ok (.if_icmp .ne 7, 3) := by decide +kernel
theorem dX9_find_36 : decode cX9_find 36 = .ok (.iconst 1, 1) := by decide +kernel
theorem dX9_find_37 : decode cX9_find 37 = .ok (.goto 4, 3) := by decide +kernel
theorem dX9_find_40 : decode cX9_find 40 = .ok (.iconst 0, 1) := by decide +kernel
theorem dX9_find_41 : decode cX9_find 41 = .ok (.istore_n 2, 1) := by decide +kernel
theorem dX9_find_42 : decode cX9_find 42 = .ok (.iconst 0, 1) := by decide +kernel
theorem dX9_find_43 : decode cX9_find 43 = .ok (.istore_n 3, 1) := by decide +kernel
theorem dX9_find_44 : decode cX9_find 44 = .ok (.iload_n 3, 1) := by decide +kernel
theorem dX9_find_45 : decode cX9_find 45 = .ok (.aload_n 0, 1) := by decide +kernel
theorem dX9_find_46 : decode cX9_find 46 = .ok (.getfield 66, 3) := by decide +kernel
theorem dX9_find_49 : decode cX9_find 49 = .ok (.if_icmp .ge 43, 3) := by decide +kernel
theorem dX9_find_52 : decode cX9_find 52 = .ok (.iload_n 2, 1) := by decide +kernel
theorem dX9_find_53 : decode cX9_find 53 = .ok (.ifCond .eq 39, 3) := by decide +kernel
theorem dX9_find_56 : decode cX9_find 56 = .ok (.aload_n 0, 1) := by decide +kernel
theorem dX9_find_57 : decode cX9_find 57 = .ok (.getfield 23, 3) := by decide +kernel
theorem dX9_find_60 : decode cX9_find 60 = .ok (.sipush 136, 3) := by decide +kernel
theorem dX9_find_63 : decode cX9_find 63 = .ok (.bipush 8, 2) := by decide +kernel
theorem dX9_find_65 : decode cX9_find 65 = .ok (.iload_n 1, 1) := by decide +kernel
theorem dX9_find_66 : decode cX9_find 66 = .ok (.imul, 1) := by decide +kernel
theorem dX9_find_67 : decode cX9_find 67 = .ok (.iadd, 1) := by decide +kernel
theorem dX9_find_68 : decode cX9_find 68 = .ok (.iload_n 3, 1) := by decide +kernel
theorem dX9_find_69 : decode cX9_find 69 = .ok (.iadd, 1) := by decide +kernel
theorem dX9_find_70 : decode cX9_find 70 = .ok (.iaload, 1) := by decide +kernel
theorem dX9_find_71 : decode cX9_find 71 = .ok (.aload_n 0, 1) := by decide +kernel
theorem dX9_find_72 : decode cX9_find 72 = .ok (.getfield 17, 3) := by decide +kernel
theorem dX9_find_75 : decode cX9_find 75 = .ok (.iload_n 3, 1) := by decide +kernel
theorem dX9_find_76 : decode cX9_find 76 = .ok (.iaload, 1) := by decide +kernel
theorem dX9_find_77 : decode cX9_find 77 = .ok (.if_icmp .ne 7, 3) := by decide +kernel
theorem dX9_find_80 : decode cX9_find 80 = .ok (.iconst 1, 1) := by decide +kernel
theorem dX9_find_81 : decode cX9_find 81 = .ok (.goto 4, 3) := by decide +kernel
theorem dX9_find_84 : decode cX9_find 84 = .ok (.iconst 0, 1) := by decide +kernel
theorem dX9_find_85 : decode cX9_find 85 = .ok (.istore_n 2, 1) := by decide +kernel
theorem dX9_find_86 : decode cX9_find 86 = .ok (.iinc 3 1, 3) := by decide +kernel
theorem dX9_find_89 : decode cX9_find 89 = .ok (.goto (-45), 3) := by decide +kernel
theorem dX9_find_92 : decode cX9_find 92 = .ok (.iload_n 2, 1) := by decide +kernel
theorem dX9_find_93 : decode cX9_find 93 = .ok (.ifCond .eq 5, 3) := by decide +kernel
theorem dX9_find_96 : decode cX9_find 96 = .ok (.iload_n 1, 1) := by decide +kernel
theorem dX9_find_97 : decode cX9_find 97 = .ok (.ireturn, 1) := by decide +kernel
theorem dX9_find_98 : decode cX9_find 98 = .ok (.iinc 1 1, 3) := by decide +kernel
theorem dX9_find_101 : decode cX9_find 101 = .ok (.goto (-99), 3) := by decide +kernel
theorem dX9_find_104 : decode cX9_find 104 = .ok (.iconst (-1), 1) := by decide +kernel
theorem dX9_find_105 : decode cX9_find 105 = .ok (.ireturn, 1) := by decide +kernel
set_option maxRecDepth 20000 in
theorem ggX9_newName_X9_mustName : GoodIn wsX9_newName wsX9_mustName := goodIn_r _ [10, 11, 2, 12, 13, 14, 9, 15, 1, 3, 5, 16, 17, 18, 19, 20, 21, 22, 23, 24, 25, 26, 27, 28, 29, 30, 31, 32, 33, 34, 35, 36, 37, 38, 39, 40, 41, 42, 43, 44, 45, 46, 47, 48, 49, 50, 51, 52, 53, 54, 55, 56, 57, 58, 59, 60, 61, 62, 63, 64, 65, 66, 67, 68, 69, 70, 93, 94, 95, 96, 97, 98, 99, 100, 101, 102, 103, 104, 105, 106, 107, 108, 109, 110, 111, 112, 113, 114, 115, 116, 117, 118, 119, 120, 121] (by decide +kernel) (by decide +kernel)
set_option maxRecDepth 20000 in
theorem gX9_newName_X9_mustName : GoodIn wsX9_newName (wsV RX9 129 RX9 yX9_mustName wsX9_mustName) := goodIn_app (goodIn_of _ (by decide +kernel)) ggX9_newName_X9_mustName
set_option maxRecDepth 20000 in
theorem ggX9_newName_X9_find : GoodIn wsX9_newName wsX9_find := goodIn_r _ [74, 4, 3, 5, 93, 94, 95, 96, 97, 98, 99, 100, 101, 102, 103, 104, 105, 106, 107, 108, 109, 110, 111, 112, 113, 114, 115, 116, 117, 118, 119, 120, 121] (by decide +kernel) (by decide +kernel)
set_option maxRecDepth 20000 in
theorem gX9_newName_X9_find : GoodIn wsX9_newName (wsV RX9 132 RX9 yX9_find wsX9_find) := goodIn_app (goodIn_of _ (by decide +kernel)) ggX9_newName_X9_find
set_option maxRecDepth 20000 in
theorem ggX9_newName_X9_wrong : GoodIn wsX9_newName wsX9_wrong := goodIn_r _ [68, 1, 69, 70, 93, 94, 95, 96, 97, 98, 99, 100, 101, 102, 103, 104, 105, 106, 107, 108, 109, 110, 111, 112, 113, 114, 115, 116, 117, 118, 119, 120, 121] (by decide +kernel) (by decide +kernel)
set_option maxRecDepth 20000 in
theorem gX9_newName_X9_wrong : GoodIn wsX9_newName (wsV RX9 109 RX9 yX9_wrong wsX9_wrong) := goodIn_app (goodIn_of _ (by decide +kernel)) ggX9_newName_X9_wrong
set_option maxRecDepth 20000 in
theorem ggX9_newName_X9_next : GoodIn wsX9_newName wsX9_next := goodIn_r _ [78, 79, 2, 3, 80, 11, 5, 81, 82, 83, 9, 84, 85, 86, 87, 88, 89, 90, 91, 92, 93, 94, 95, 96, 97, 98, 99, 100, 101, 102, 103, 104, 105, 106, 107, 108, 109, 110, 111, 112, 113, 114, 115, 116, 117, 118, 119, 120, 121] (by decide +kernel) (by decide +kernel)
set_option maxRecDepth 20000 in
theorem gX9_newName_X9_next : GoodIn wsX9_newName (wsV RX9 103 RX9 yX9_next wsX9_next) := goodIn_app (goodIn_of _ (by decide +kernel)) ggX9_newName_X9_next
theorem dX9_newName_0 : decode cX9_newName 0 = .ok (.aload_n 0, 1) := by decide +kernel
theorem dX9_newName_1 : decode cX9_newName 1 = .ok (.getfield 82, 3) := by decide +kernel
theorem dX9_newName_4 : decode cX9_newName 4 = .ok (.ifCond .eq 4, 3) := by decide +kernel
theorem dX9_newName_7 : decode cX9_newName 7 = .ok (.return_, 1) := by decide +kernel
theorem dX9_newName_8 : decode cX9_newName 8 = .ok (.aload_n 0, 1) := by decide +kernel
theorem dX9_newName_9 : decode cX9_newName 9 = .ok (.invokevirtual 129, 3) := by decide +kernel
theorem dX9_newName_12 : decode cX9_newName 12 = .ok (.aload_n 0, 1) := by decide +kernel
theorem dX9_newName_13 : decode cX9_newName 13 = .ok (.getfield 82, 3) := by decide +kernel
theorem dX9_newName_16 : decode cX9_newName 16 = .ok (.ifCond .ne 19, 3) := by decide +kernel
theorem dX9_newName_19 : decode cX9_newName 19 = .ok (.aload_n 0, 1) := by decide +kernel
theorem dX9_newName_20 : decode cX9_newName 20 = .ok (.invokevirtual 132, 3) := by decide +kernel
theorem dX9_newName_23 : decode cX9_newName 23 = .ok (.ifCond .lt 12, 3) := by decide +kernel
theorem dX9_newName_26 : decode cX9_newName 26 = .ok (.aload_n 0, 1) := by decide +kernel
theorem dX9_newName_27 : decode cX9_newName 27 = .ok (.iconst 3, 1) := by decide +kernel
theorem dX9_newName_28 : decode cX9_newName 28 = .ok (.aload_n 0, 1) := by decide +kernel
theorem dX9_newName_29 : decode cX9_newName 29 = .ok (.getfield 63, 3) := by decide +kernel
theorem dX9_newName_32 : decode cX9_newName 32 = .ok (.invokevirtual 109, 3) := by decide +kernel
theorem dX9_newName_35 : decode cX9_newName 35 = .ok (.aload_n 0, 1) := by decide +kernel
theorem dX9_newName_36 : decode cX9_newName 36 = .ok (.getfield 82, 3) := by decide +kernel
theorem dX9_newName_39 : decode cX9_newName 39 = .ok (.ifCond .eq 4, 3) := by decide +kernel
theorem dX9_newName_42 : decode cX9_newName 42 = .ok (.return_, 1) := by decide +kernel
theorem dX9_newName_43 : decode cX9_newName 43 = .ok (.iconst 0, 1) := by decide +kernel
theorem dX9_newName_44 : decode cX9_newName 44 = .ok (.istore_n 2, 1) := by decide +kernel
theorem dX9_newName_45 : decode cX9_newName 45 = .ok (.iload_n 2, 1) := by decide +kernel
theorem dX9_newName_46 : decode cX9_newName 46 = .ok (.aload_n 0, 1) := by decide +kernel
theorem dX9_newName_47 : decode cX9_newName 47 = .ok (.getfield 66, 3) := by decide +kernel
theorem dX9_newName_50 : decode cX9_newName 50 = .ok (.if_icmp .ge 30, 3) := by decide +kernel
theorem dX9_newName_53 : decode cX9_newName 53 = .ok (.aload_n 0, 1) := by decide +kernel
theorem dX9_newName_54 : decode cX9_newName 54 = .ok (.getfield 23, 3) := by decide +kernel
theorem dX9_newName_57 : decode cX9_newName 57 = .ok (.sipush 136, 3) := by decide +kernel
theorem dX9_newName_60 : decode cX9_newName 60 = .ok (.bipush 8, 2) := by decide +kernel
theorem dX9_newName_62 : decode cX9_newName 62 = .ok (.iload_n 1, 1) := by decide +kernel
theorem dX9_newName_63 : decode cX9_newName 63 = .ok (.imul, 1) := by decide +kernel
theorem dX9_newName_64 : decode cX9_newName 64 = .ok (.iadd, 1) := by decide +kernel
theorem dX9_newName_65 : decode cX9_newName 65 = .ok (.iload_n 2, 1) := by decide +kernel
theorem dX9_newName_66 : decode cX9_newName 66 = .ok (.iadd, 1) := by decide +kernel
theorem dX9_newName_67 : decode cX9_newName 67 = .ok (.aload_n 0, 1) := by decide +kernel
theorem dX9_newName_68 : decode cX9_newName 68 = .ok (.getfield 17, 3) := by decide +kernel
theorem dX9_newName_71 : decode cX9_newName 71 = .ok (.iload_n 2, 1) := by decide +kernel
theorem dX9_newName_72 : decode cX9_newName 72 = .ok (.iaload, 1) := by decide +kernel
theorem dX9_newName_73 : decode cX9_newName 73 = .ok (.iastore, 1) := by decide +kernel
theorem dX9_newName_74 : decode cX9_newName 74 = .ok (.iinc 2 1, 3) := by decide +kernel
theorem dX9_newName_77 : decode cX9_newName 77 = .ok (.goto (-32), 3) := by decide +kernel
theorem dX9_newName_80 : decode cX9_newName 80 = .ok (.aload_n 0, 1) := by decide +kernel
theorem dX9_newName_81 : decode cX9_newName 81 = .ok (.getfield 23, 3) := by decide +kernel
theorem dX9_newName_84 : decode cX9_newName 84 = .ok (.bipush 125, 2) := by decide +kernel
theorem dX9_newName_86 : decode cX9_newName 86 = .ok (.iload_n 1, 1) := by decide +kernel
theorem dX9_newName_87 : decode cX9_newName 87 = .ok (.iadd, 1) := by decide +kernel
theorem dX9_newName_88 : decode cX9_newName 88 = .ok (.aload_n 0, 1) := by decide +kernel
theorem dX9_newName_89 : decode cX9_newName 89 = .ok (.getfield 66, 3) := by decide +kernel
theorem dX9_newName_92 : decode cX9_newName 92 = .ok (.iastore, 1) := by decide +kernel
theorem dX9_newName_93 : decode cX9_newName 93 = .ok (.aload_n 0, 1) := by decide +kernel
theorem dX9_newName_94 : decode cX9_newName 94 = .ok (.invokevirtual 103, 3) := by decide +kernel
theorem dX9_newName_97 : decode cX9_newName 97 = .ok (.return_, 1) := by decide +kernel
set_option maxRecDepth 20000 in
theorem ggX9_named_X9_mustName : GoodIn wsX9_named wsX9_mustName := goodIn_r _ [7, 8, 2, 9, 10, 11, 6, 12, 1, 13, 14, 15, 16, 17, 18, 19, 20, 21, 22, 23, 24, 25, 26, 27, 28, 29, 30, 31, 32, 33, 34, 35, 36, 37, 38, 39, 40, 41, 42, 43, 44, 45, 46, 47, 48, 49, 50, 51, 52, 53, 54, 55, 56, 57, 58, 59, 60, 61, 62, 63, 64, 65, 66, 67, 68, 69, 96, 97, 98, 99, 100, 101, 102, 103, 104, 105, 106, 107, 108, 109, 110, 111, 112, 113, 114, 115, 116, 117, 118, 119, 120, 121, 122, 123, 124] (by decide +kernel) (by decide +kernel)
set_option maxRecDepth 20000 in
theorem gX9_named_X9_mustName : GoodIn wsX9_named (wsV RX9 129 RX9 yX9_mustName wsX9_mustName) := goodIn_app (goodIn_of _ (by decide +kernel)) ggX9_named_X9_mustName
set_option maxRecDepth 20000 in
theorem ggX9_named_X9_find : GoodIn wsX9_named wsX9_find := goodIn_r _ [73, 74, 13, 14, 96, 97, 98, 99, 100, 101, 102, 103, 104, 105, 106, 107, 108, 109, 110, 111, 112, 113, 114, 115, 116, 117, 118, 119, 120, 121, 122, 123, 124] (by decide +kernel) (by decide +kernel)
set_option maxRecDepth 20000 in
theorem gX9_named_X9_find : GoodIn wsX9_named (wsV RX9 132 RX9 yX9_find wsX9_find) := goodIn_app (goodIn_of _ (by decide +kernel)) ggX9_named_X9_find
set_option maxRecDepth 20000 in
theorem ggX9_named_X9_in : GoodIn wsX9_named wsX9_in := goodIn_r _ [77] (by decide +kernel) (by decide +kernel)
set_option maxRecDepth 20000 in
theorem gX9_named_X9_in : GoodIn wsX9_named (va_wsS RX9 135 yX9_in wsX9_in) := goodIn_app (goodIn_of _ (by decide +kernel)) ggX9_named_X9_in
set_option maxRecDepth 20000 in
theorem ggX9_named_X9_wrong : GoodIn wsX9_named wsX9_wrong := goodIn_r _ [67, 1, 68, 69, 96, 97, 98, 99, 100, 101, 102, 103, 104, 105, 106, 107, 108, 109, 110, 111, 112, 113, 114, 115, 116, 117, 118, 119, 120, 121, 122, 123, 124] (by decide +kernel) (by decide +kernel)
set_option maxRecDepth 20000 in
theorem gX9_named_X9_wrong : GoodIn wsX9_named (wsV RX9 109 RX9 yX9_wrong wsX9_wrong) := goodIn_app (goodIn_of _ (by decide +kernel)) ggX9_named_X9_wrong
set_option maxRecDepth 20000 in
theorem ggX9_named_X9_next : GoodIn wsX9_named wsX9_next := goodIn_r _ [81, 82, 2, 13, 83, 8, 14, 84, 85, 86, 6, 87, 88, 89, 90, 91, 92, 93, 94, 95, 96, 97, 98, 99, 100, 101, 102, 103, 104, 105, 106, 107, 108, 109, 110, 111, 112, 113, 114, 115, 116, 117, 118, 119, 120, 121, 122, 123, 124] (by decide +kernel) (by decide +kernel)
set_option maxRecDepth 20000 in
theorem gX9_named_X9_next : GoodIn wsX9_named (wsV RX9 103 RX9 yX9_next wsX9_next) := goodIn_app (goodIn_of _ (by decide +kernel)) ggX9_named_X9_next
theorem dX9_named_0 : decode cX9_named 0 = .ok (.aload_n 0, 1) := by decide +kernel
theorem dX9_named_1 : decode cX9_named 1 = .ok (.getfield 82, 3) := by decide +kernel
theorem dX9_named_4 : decode cX9_named 4 = .ok (.ifCond .eq 5, 3) := by decide +kernel
theorem dX9_named_7 : decode cX9_named 7 = .ok (.iconst 0, 1) := by decide +kernel
theorem dX9_named_8 : decode cX9_named 8 = .ok (.ireturn, 1) := by decide +kernel
theorem dX9_named_9 : decode cX9_named 9 = .ok (.aload_n 0, 1) := by decide +kernel
theorem dX9_named_10 : decode cX9_named 10 = .ok (.invokevirtual 129, 3) := by decide +kernel
theorem dX9_named_13 : decode cX9_named 13 = .ok (.aload_n 0, 1) := by decide +kernel
theorem dX9_named_14 : decode cX9_named 14 = .ok (.getfield 82, 3) := by decide +kernel
theorem dX9_named_17 : decode cX9_named 17 = .ok (.ifCond .eq 5, 3) := by decide +kernel
theorem dX9_named_20 : decode cX9_named 20 = .ok (.iconst 0, 1) := by decide +kernel
theorem dX9_named_21 : decode cX9_named 21 = .ok (.ireturn, 1) := by decide +kernel
theorem dX9_named_22 : decode cX9_named 22 = .ok (.aload_n 0, 1) := by decide +kernel
theorem dX9_named_23 : decode cX9_named 23 = .ok (.invokevirtual 132, 3) := by decide +kernel
theorem dX9_named_26 : decode cX9_named 26 = .ok (.istore_n 3, 1) := by decide +kernel
theorem dX9_named_27 : decode cX9_named 27 = .ok (.iload_n 3, 1) := by decide +kernel
theorem dX9_named_28 : decode cX9_named 28 = .ok (.iload_n 1, 1) := by decide +kernel
theorem dX9_named_29 : decode cX9_named 29 = .ok (.iload_n 2, 1) := by decide +kernel
theorem dX9_named_30 : decode cX9_named 30 = .ok (.invokestatic 135, 3) := by decide +kernel
theorem dX9_named_33 : decode cX9_named 33 = .ok (.ifCond .ne 12, 3) := by decide +kernel
theorem dX9_named_36 : decode cX9_named 36 = .ok (.aload_n 0, 1) := by decide +kernel
theorem dX9_named_37 : decode cX9_named 37 = .ok (.iconst 2, 1) := by decide +kernel
theorem dX9_named_38 : decode cX9_named 38 = .ok (.aload_n 0, 1) := by decide +kernel
theorem dX9_named_39 : decode cX9_named 39 = .ok (.getfield 63, 3) := by decide +kernel
theorem dX9_named_42 : decode cX9_named 42 = .ok (.invokevirtual 109, 3) := by decide +kernel
theorem dX9_named_45 : decode cX9_named 45 = .ok (.aload_n 0, 1) := by decide +kernel
theorem dX9_named_46 : decode cX9_named 46 = .ok (.getfield 82, 3) := by decide +kernel
theorem dX9_named_49 : decode cX9_named 49 = .ok (.ifCond .eq 5, 3) := by decide +kernel
theorem dX9_named_52 : decode cX9_named 52 = .ok (.iconst 0, 1) := by decide +kernel
theorem dX9_named_53 : decode cX9_named 53 = .ok (.ireturn, 1) := by decide +kernel
theorem dX9_named_54 : decode cX9_named 54 = .ok (.aload_n 0, 1) := by decide +kernel
theorem dX9_named_55 : decode cX9_named 55 = .ok (.invokevirtual 103, 3) := by decide +kernel
theorem dX9_named_58 : decode cX9_named 58 = .ok (.iload_n 3, 1) := by decide +kernel
theorem dX9_named_59 : decode cX9_named 59 = .ok (.iload_n 1, 1) := by decide +kernel
theorem dX9_named_60 : decode cX9_named 60 = .ok (.isub, 1) := by decide +kernel
theorem dX9_named_61 : decode cX9_named 61 = .ok (.ireturn, 1) := by decide +kernel
set_option maxRecDepth 20000 in
theorem ggX9_ringName_X9_named : GoodIn wsX9_ringName wsX9_named := goodIn_r _ [5, 6, 7, 8, 9, 10, 4, 11, 12, 13, 14, 15, 16, 17, 18, 19, 20, 21, 22, 23, 24, 25, 26, 27, 28, 29, 30, 31, 32, 33, 34, 35, 36, 37, 38, 39, 40, 41, 42, 43, 44, 45, 46, 47, 48, 49, 50, 51, 52, 53, 54, 55, 56, 57, 58, 59, 60, 61, 62, 63, 64, 65, 66, 67, 68, 69, 70, 71, 72, 73, 74, 75, 76, 77, 78, 79, 80, 81, 82, 83, 84, 85, 86, 87, 88, 89, 90, 91, 92, 93, 94, 95, 96, 97, 98, 99, 100, 101, 102, 103, 104, 105, 106, 107, 108, 109, 110, 111, 112, 113, 114, 115, 116, 117, 118, 119, 120, 121, 122, 123, 124, 125, 126, 127, 128] (by decide +kernel) (by decide +kernel)
set_option maxRecDepth 20000 in
theorem gX9_ringName_X9_named : GoodIn wsX9_ringName (wsV RX9 139 RX9 yX9_named wsX9_named) := goodIn_app (goodIn_of _ (by decide +kernel)) ggX9_ringName_X9_named
theorem dX9_ringName_0 : decode cX9_ringName 0 = .ok (.aload_n 0, 1) := by decide +kernel
theorem dX9_ringName_1 : decode cX9_ringName 1 = .ok (.iconst 0, 1) := by decide +kernel
theorem dX9_ringName_2 : decode cX9_ringName 2 = .ok (.iconst 3, 1) := by decide +kernel
theorem dX9_ringName_3 : decode cX9_ringName 3 = .ok (.invokevirtual 139, 3) := by decide +kernel
theorem dX9_ringName_6 : decode cX9_ringName 6 = .ok (.ireturn, 1) := by decide +kernel
set_option maxRecDepth 20000 in
theorem ggX9_numberHere_X9_wrong : GoodIn wsX9_numberHere wsX9_wrong := goodIn_r _ [9, 1, 10, 11, 15, 16, 17, 18, 19, 20, 21, 22, 23, 24, 25, 26, 27, 28, 29, 30, 31, 32, 33, 34, 35, 36, 37, 38, 39, 40, 41, 42, 43] (by decide +kernel) (by decide +kernel)
set_option maxRecDepth 20000 in
theorem gX9_numberHere_X9_wrong : GoodIn wsX9_numberHere (wsV RX9 109 RX9 yX9_wrong wsX9_wrong) := goodIn_app (goodIn_of _ (by decide +kernel)) ggX9_numberHere_X9_wrong
set_option maxRecDepth 20000 in
theorem ggX9_numberHere_X9_in : GoodIn wsX9_numberHere wsX9_in := goodIn_r _ [14] (by decide +kernel) (by decide +kernel)
set_option maxRecDepth 20000 in
theorem gX9_numberHere_X9_in : GoodIn wsX9_numberHere (va_wsS RX9 135 yX9_in wsX9_in) := goodIn_app (goodIn_of _ (by decide +kernel)) ggX9_numberHere_X9_in
theorem dX9_numberHere_0 : decode cX9_numberHere 0 = .ok (.aload_n 0, 1) := by decide +kernel
theorem dX9_numberHere_1 : decode cX9_numberHere 1 = .ok (.getfield 82, 3) := by decide +kernel
theorem dX9_numberHere_4 : decode cX9_numberHere 4 = .ok (.ifCond .eq 5, 3) := by decide +kernel
theorem dX9_numberHere_7 : decode cX9_numberHere 7 = .ok (.iload_n 1, 1) := by decide +kernel
theorem dX9_numberHere_8 : decode cX9_numberHere 8 = .ok (.ireturn, 1) := by decide +kernel
theorem dX9_numberHere_9 : decode cX9_numberHere 9 = .ok (.aload_n 0, 1) := by decide +kernel
theorem dX9_numberHere_10 : decode cX9_numberHere 10 = .ok (.getfield 72, 3) := by decide +kernel
theorem dX9_numberHere_13 : decode cX9_numberHere 13 = .ok (.iconst 3, 1) := by decide +kernel
theorem dX9_numberHere_14 : decode cX9_numberHere 14 = .ok (.if_icmp .eq 15, 3) := by decide +kernel
theorem dX9_numberHere_17 : decode cX9_numberHere 17 = .ok (.aload_n 0, 1) := by decide +kernel
theorem dX9_numberHere_18 : decode cX9_numberHere 18 = .ok (.iconst 1, 1) := by decide +kernel
theorem dX9_numberHere_19 : decode cX9_numberHere 19 = .ok (.aload_n 0, 1) := by decide +kernel
theorem dX9_numberHere_20 : decode cX9_numberHere 20 = .ok (.getfield 63, 3) := by decide +kernel
theorem dX9_numberHere_23 : decode cX9_numberHere 23 = .ok (.invokevirtual 109, 3) := by decide +kernel
theorem dX9_numberHere_26 : decode cX9_numberHere 26 = .ok (.goto 24, 3) := by decide +kernel
theorem dX9_numberHere_29 : decode cX9_numberHere 29 = .ok (.aload_n 0, 1) := by decide +kernel
theorem dX9_numberHere_30 : decode cX9_numberHere 30 = .ok (.getfield 69, 3) := by decide +kernel
theorem dX9_numberHere_33 : decode cX9_numberHere 33 = .ok (.iload_n 1, 1) := by decide +kernel
theorem dX9_numberHere_34 : decode cX9_numberHere 34 = .ok (.iload_n 2, 1) := by decide +kernel
theorem dX9_numberHere_35 : decode cX9_numberHere 35 = .ok (.invokestatic 135, 3) := by decide +kernel
theorem dX9_numberHere_38 : decode cX9_numberHere 38 = .ok (.ifCond .ne 12, 3) := by decide +kernel
theorem dX9_numberHere_41 : decode cX9_numberHere 41 = .ok (.aload_n 0, 1) := by decide +kernel
theorem dX9_numberHere_42 : decode cX9_numberHere 42 = .ok (.iconst 4, 1) := by decide +kernel
theorem dX9_numberHere_43 : decode cX9_numberHere 43 = .ok (.aload_n 0, 1) := by decide +kernel
theorem dX9_numberHere_44 : decode cX9_numberHere 44 = .ok (.getfield 63, 3) := by decide +kernel
theorem dX9_numberHere_47 : decode cX9_numberHere 47 = .ok (.invokevirtual 109, 3) := by decide +kernel
theorem dX9_numberHere_50 : decode cX9_numberHere 50 = .ok (.aload_n 0, 1) := by decide +kernel
theorem dX9_numberHere_51 : decode cX9_numberHere 51 = .ok (.getfield 82, 3) := by decide +kernel
theorem dX9_numberHere_54 : decode cX9_numberHere 54 = .ok (.ifCond .eq 7, 3) := by decide +kernel
theorem dX9_numberHere_57 : decode cX9_numberHere 57 = .ok (.iload_n 1, 1) := by decide +kernel
theorem dX9_numberHere_58 : decode cX9_numberHere 58 = .ok (.goto 7, 3) := by decide +kernel
theorem dX9_numberHere_61 : decode cX9_numberHere 61 = .ok (.aload_n 0, 1) := by decide +kernel
theorem dX9_numberHere_62 : decode cX9_numberHere 62 = .ok (.getfield 69, 3) := by decide +kernel
theorem dX9_numberHere_65 : decode cX9_numberHere 65 = .ok (.ireturn, 1) := by decide +kernel
set_option maxRecDepth 20000 in
theorem ggX9_number_X9_numberHere : GoodIn wsX9_number wsX9_numberHere := goodIn_r _ [6, 1, 7, 8, 9, 10, 11, 12, 5, 13, 14, 15, 16, 17, 18, 38, 39, 40, 41, 42, 43, 44, 45, 46, 47, 48, 49, 50, 51, 52, 53, 54, 55, 56, 57, 58, 59, 60, 61, 62, 63, 64, 65, 66] (by decide +kernel) (by decide +kernel)
set_option maxRecDepth 20000 in
theorem gX9_number_X9_numberHere : GoodIn wsX9_number (wsV RX9 143 RX9 yX9_numberHere wsX9_numberHere) := goodIn_app (goodIn_of _ (by decide +kernel)) ggX9_number_X9_numberHere
set_option maxRecDepth 20000 in
theorem ggX9_number_X9_next : GoodIn wsX9_number wsX9_next := goodIn_r _ [22, 23, 8, 24, 9, 7, 25, 26, 27, 28, 5, 29, 30, 31, 32, 33, 34, 35, 36, 37, 38, 39, 40, 41, 42, 43, 44, 45, 46, 47, 48, 49, 50, 51, 52, 53, 54, 55, 56, 57, 58, 59, 60, 61, 62, 63, 64, 65, 66] (by decide +kernel) (by decide +kernel)
set_option maxRecDepth 20000 in
theorem gX9_number_X9_next : GoodIn wsX9_number (wsV RX9 103 RX9 yX9_next wsX9_next) := goodIn_app (goodIn_of _ (by decide +kernel)) ggX9_number_X9_next
theorem dX9_number_0 : decode cX9_number 0 = .ok (.aload_n 0, 1) := by decide +kernel
theorem dX9_number_1 : decode cX9_number 1 = .ok (.iload_n 1, 1) := by decide +kernel
theorem dX9_number_2 : decode cX9_number 2 = .ok (.iload_n 2, 1) := by decide +kernel
theorem dX9_number_3 : decode cX9_number 3 = .ok (.invokevirtual 143, 3) := by decide +kernel
theorem dX9_number_6 : decode cX9_number 6 = .ok (.istore_n 3, 1) := by decide +kernel
theorem dX9_number_7 : decode cX9_number 7 = .ok (.aload_n 0, 1) := by decide +kernel
theorem dX9_number_8 : decode cX9_number 8 = .ok (.getfield 82, 3) := by decide +kernel
theorem dX9_number_11 : decode cX9_number 11 = .ok (.ifCond .ne 7, 3) := by decide +kernel
theorem dX9_number_14 : decode cX9_number 14 = .ok (.aload_n 0, 1) := by decide +kernel
theorem dX9_number_15 : decode cX9_number 15 = .ok (.invokevirtual 103, 3) := by decide +kernel
theorem dX9_number_18 : decode cX9_number 18 = .ok (.iload_n 3, 1) := by decide +kernel
theorem dX9_number_19 : decode cX9_number 19 = .ok (.ireturn, 1) := by decide +kernel
set_option maxRecDepth 20000 in
theorem ggX9_after_X9_must : GoodIn wsX9_after wsX9_must := goodIn_r _ [5, 6, 7, 8, 9, 10, 4, 11, 12, 13, 14, 15, 16, 17, 18, 19, 20, 21, 22, 23, 24, 25, 26, 27, 28, 29, 30, 31, 32, 33, 34, 35, 36, 37, 38, 39, 40, 41, 42, 43, 44, 45, 46, 47, 48, 49, 50, 51, 52, 53, 54, 55, 56, 57, 58, 59, 60, 61, 62, 63, 64, 65, 66, 67, 68, 69, 70, 71, 72, 73, 74, 75, 76, 77, 78, 79, 80, 81, 82, 83, 84, 85, 86, 87, 88, 89, 90, 91, 103, 104, 105, 106, 107, 108, 109, 110, 111, 112, 113, 114, 115, 116, 117, 118, 119, 120, 121, 122, 123, 124, 125, 126, 127, 128, 129, 130, 131] (by decide +kernel) (by decide +kernel)
set_option maxRecDepth 20000 in
theorem gX9_after_X9_must : GoodIn wsX9_after (wsV RX9 146 RX9 yX9_must wsX9_must) := goodIn_app (goodIn_of _ (by decide +kernel)) ggX9_after_X9_must
set_option maxRecDepth 20000 in
theorem ggX9_after_X9_number : GoodIn wsX9_after wsX9_number := goodIn_r _ [95, 6, 96, 97, 98, 4, 99, 16, 7, 73, 86, 87, 88, 89, 90, 91, 100, 101, 102, 68, 69, 70, 71, 72, 17, 18, 74, 75, 76, 77, 78, 79, 80, 81, 82, 83, 84, 85, 103, 104, 105, 106, 107, 108, 109, 110, 111, 112, 113, 114, 115, 116, 117, 118, 119, 120, 121, 122, 123, 124, 125, 126, 127, 128, 129, 130, 131] (by decide +kernel) (by decide +kernel)
set_option maxRecDepth 20000 in
theorem gX9_after_X9_number : GoodIn wsX9_after (wsV RX9 150 RX9 yX9_number wsX9_number) := goodIn_app (goodIn_of _ (by decide +kernel)) ggX9_after_X9_number
theorem dX9_after_0 : decode cX9_after 0 = .ok (.aload_n 0, 1) := by decide +kernel
theorem dX9_after_1 : decode cX9_after 1 = .ok (.aload_n 1, 1) := by decide +kernel
theorem dX9_after_2 : decode cX9_after 2 = .ok (.invokevirtual 146, 3) := by decide +kernel
theorem dX9_after_5 : decode cX9_after 5 = .ok (.aload_n 0, 1) := by decide +kernel
theorem dX9_after_6 : decode cX9_after 6 = .ok (.iload_n 2, 1) := by decide +kernel
theorem dX9_after_7 : decode cX9_after 7 = .ok (.iload_n 3, 1) := by decide +kernel
theorem dX9_after_8 : decode cX9_after 8 = .ok (.invokevirtual 150, 3) := by decide +kernel
theorem dX9_after_11 : decode cX9_after 11 = .ok (.ireturn, 1) := by decide +kernel
set_option maxRecDepth 20000 in
theorem ggX9_placeHere_X9_numberHere : GoodIn wsX9_placeHere wsX9_numberHere := goodIn_r _ [6, 7, 8, 9, 10, 11, 12, 13, 5, 14, 15, 16, 17, 18, 19, 20, 21, 22, 23, 24, 25, 26, 27, 28, 29, 30, 31, 32, 33, 34, 35, 36, 37, 38, 39, 40, 41, 42, 43, 44, 45, 46, 47, 48] (by decide +kernel) (by decide +kernel)
set_option maxRecDepth 20000 in
theorem gX9_placeHere_X9_numberHere : GoodIn wsX9_placeHere (wsV RX9 143 RX9 yX9_numberHere wsX9_numberHere) := goodIn_app (goodIn_of _ (by decide +kernel)) ggX9_placeHere_X9_numberHere
theorem dX9_placeHere_0 : decode cX9_placeHere 0 = .ok (.bipush 9, 2) := by decide +kernel
theorem dX9_placeHere_2 : decode cX9_placeHere 2 = .ok (.iload_n 1, 1) := by decide +kernel
theorem dX9_placeHere_3 : decode cX9_placeHere 3 = .ok (.imul, 1) := by decide +kernel
theorem dX9_placeHere_4 : decode cX9_placeHere 4 = .ok (.aload_n 0, 1) := by decide +kernel
theorem dX9_placeHere_5 : decode cX9_placeHere 5 = .ok (.iconst 0, 1) := by decide +kernel
theorem dX9_placeHere_6 : decode cX9_placeHere 6 = .ok (.aload_n 0, 1) := by decide +kernel
theorem dX9_placeHere_7 : decode cX9_placeHere 7 = .ok (.getfield 23, 3) := by decide +kernel
theorem dX9_placeHere_10 : decode cX9_placeHere 10 = .ok (.bipush 8, 2) := by decide +kernel
theorem dX9_placeHere_12 : decode cX9_placeHere 12 = .ok (.iconst 2, 1) := by decide +kernel
theorem dX9_placeHere_13 : decode cX9_placeHere 13 = .ok (.iload_n 1, 1) := by decide +kernel
theorem dX9_placeHere_14 : decode cX9_placeHere 14 = .ok (.imul, 1) := by decide +kernel
theorem dX9_placeHere_15 : decode cX9_placeHere 15 = .ok (.iadd, 1) := by decide +kernel
theorem dX9_placeHere_16 : decode cX9_placeHere 16 = .ok (.iconst 1, 1) := by decide +kernel
theorem dX9_placeHere_17 : decode cX9_placeHere 17 = .ok (.iadd, 1) := by decide +kernel
theorem dX9_placeHere_18 : decode cX9_placeHere 18 = .ok (.iaload, 1) := by decide +kernel
theorem dX9_placeHere_19 : decode cX9_placeHere 19 = .ok (.iconst 1, 1) := by decide +kernel
theorem dX9_placeHere_20 : decode cX9_placeHere 20 = .ok (.isub, 1) := by decide +kernel
theorem dX9_placeHere_21 : decode cX9_placeHere 21 = .ok (.invokevirtual 143, 3) := by decide +kernel
theorem dX9_placeHere_24 : decode cX9_placeHere 24 = .ok (.iadd, 1) := by decide +kernel
theorem dX9_placeHere_25 : decode cX9_placeHere 25 = .ok (.ireturn, 1) := by decide +kernel
set_option maxRecDepth 20000 in
theorem ggX9_house_X9_good : GoodIn wsX9_house wsX9_good := goodIn_r _ [18, 19, 20, 187, 188, 189, 190, 191, 192, 193, 194, 195, 196, 197, 198, 199, 200, 201, 202, 203, 204, 205, 206, 207, 208, 209, 210, 211, 212, 213, 214, 215] (by decide +kernel) (by decide +kernel)
set_option maxRecDepth 20000 in
theorem gX9_house_X9_good : GoodIn wsX9_house (wsV RX9 153 RX9 yX9_good wsX9_good) := goodIn_app (goodIn_of _ (by decide +kernel)) ggX9_house_X9_good
set_option maxRecDepth 20000 in
theorem ggX9_house_X9_in : GoodIn wsX9_house wsX9_in := goodIn_r _ [23] (by decide +kernel) (by decide +kernel)
set_option maxRecDepth 20000 in
theorem gX9_house_X9_in : GoodIn wsX9_house (va_wsS RX9 135 yX9_in wsX9_in) := goodIn_app (goodIn_of _ (by decide +kernel)) ggX9_house_X9_in
set_option maxRecDepth 20000 in
theorem ggX9_house_X9_no : GoodIn wsX9_house wsX9_no := goodIn_r _ [27, 20, 187, 188, 189, 190, 191, 192, 193, 194, 195, 196, 197, 198, 199, 200, 201, 202, 203, 204, 205, 206, 207, 208, 209, 210, 211, 212, 213, 214, 215] (by decide +kernel) (by decide +kernel)
set_option maxRecDepth 20000 in
theorem gX9_house_X9_no : GoodIn wsX9_house (wsV RX9 156 RX9 yX9_no wsX9_no) := goodIn_app (goodIn_of _ (by decide +kernel)) ggX9_house_X9_no
set_option maxRecDepth 20000 in
theorem ggX9_house_X9_next : GoodIn wsX9_house wsX9_next := goodIn_r _ [31, 6, 8, 32, 33, 7, 34, 35, 36, 37, 17, 38, 5, 39, 40, 41, 42, 43, 44, 45, 187, 188, 189, 190, 191, 192, 193, 194, 195, 196, 197, 198, 199, 200, 201, 202, 203, 204, 205, 206, 207, 208, 209, 210, 211, 212, 213, 214, 215] (by decide +kernel) (by decide +kernel)
set_option maxRecDepth 20000 in
theorem gX9_house_X9_next : GoodIn wsX9_house (wsV RX9 103 RX9 yX9_next wsX9_next) := goodIn_app (goodIn_of _ (by decide +kernel)) ggX9_house_X9_next
set_option maxRecDepth 20000 in
theorem ggX9_house_X9_readLine : GoodIn wsX9_house wsX9_readLine := goodIn_r _ [49, 4, 8, 50, 51, 52, 17, 53, 3, 7, 32, 34, 54, 55, 56, 57, 58, 59, 60, 61, 62, 63, 64, 65, 66, 67, 68, 69, 70, 71, 72, 73, 74, 75, 76, 77, 78, 79, 80, 81, 82, 83, 84, 85, 86, 87, 88, 89, 90, 91, 92, 93, 94, 95, 96, 97, 98, 99, 100, 101, 102, 103, 104, 105, 106, 107, 108, 109, 110, 2, 111, 28, 29, 30, 31, 6, 33, 35, 36, 37, 38, 5, 39, 40, 41, 42, 43, 44, 45, 112, 113, 114, 115, 116, 117, 118, 119, 120, 121, 122, 123, 124, 125, 126, 127, 128, 129, 130, 131, 21, 22, 23, 132, 133, 134, 135, 136, 137, 138, 139, 140, 141, 142, 143, 144, 145, 146, 147, 148, 149, 150, 151, 152, 153, 154, 155, 156, 157, 158, 159, 160, 161, 162, 163, 164, 165, 166, 167, 168, 169, 170, 171, 172, 173, 174, 175, 176, 177, 178, 179, 180, 181, 182, 183, 187, 188, 189, 190, 191, 192, 193, 194, 195, 196, 197, 198, 199, 200, 201, 202, 203, 204, 205, 206, 207, 208, 209, 210, 211, 212, 213, 214, 215] (by decide +kernel) (by decide +kernel)
set_option maxRecDepth 20000 in
theorem gX9_house_X9_readLine : GoodIn wsX9_house (wsV RX9 159 RX9 yX9_readLine wsX9_readLine) := goodIn_app (goodIn_of _ (by decide +kernel)) ggX9_house_X9_readLine
set_option maxRecDepth 20000 in
theorem ggX9_house_X9_wrong : GoodIn wsX9_house wsX9_wrong := goodIn_r _ [110, 3, 2, 111, 187, 188, 189, 190, 191, 192, 193, 194, 195, 196, 197, 198, 199, 200, 201, 202, 203, 204, 205, 206, 207, 208, 209, 210, 211, 212, 213, 214, 215] (by decide +kernel) (by decide +kernel)
set_option maxRecDepth 20000 in
theorem gX9_house_X9_wrong : GoodIn wsX9_house (wsV RX9 109 RX9 yX9_wrong wsX9_wrong) := goodIn_app (goodIn_of _ (by decide +kernel)) ggX9_house_X9_wrong
set_option maxRecDepth 20000 in
theorem ggX9_house_X9_copy : GoodIn wsX9_house wsX9_copy := goodIn_r _ [186] (by decide +kernel) (by decide +kernel)
set_option maxRecDepth 20000 in
theorem gX9_house_X9_copy : GoodIn wsX9_house (va_wsS RX9 162 yX9_copy wsX9_copy) := goodIn_app (goodIn_of _ (by decide +kernel)) ggX9_house_X9_copy
theorem dX9_house_0 : decode cX9_house 0 = .ok (.aload_n 0, 1) := by decide +kernel
theorem dX9_house_1 : decode cX9_house 1 = .ok (.invokevirtual 153, 3) := by decide +kernel
theorem dX9_house_4 : decode cX9_house 4 = .ok (.iload_n 1, 1) := by decide +kernel
theorem dX9_house_5 : decode cX9_house 5 = .ok (.iconst 0, 1) := by decide +kernel
theorem dX9_house_6 : decode cX9_house 6 = .ok (.aload_n 0, 1) := by decide +kernel
theorem dX9_house_7 : decode cX9_house 7 = .ok (.getfield 50, 3) := by decide +kernel
theorem dX9_house_10 : decode cX9_house 10 = .ok (.invokestatic 135, 3) := by decide +kernel
theorem dX9_house_13 : decode cX9_house 13 = .ok (.ifCond .ne 9, 3) := by decide +kernel
theorem dX9_house_16 : decode cX9_house 16 = .ok (.aload_n 0, 1) := by decide +kernel
theorem dX9_house_17 : decode cX9_house 17 = .ok (.iconst 2, 1) := by decide +kernel
theorem dX9_house_18 : decode cX9_house 18 = .ok (.invokevirtual 156, 3) := by decide +kernel
theorem dX9_house_21 : decode cX9_house 21 = .ok (.ireturn, 1) := by decide +kernel
theorem dX9_house_22 : decode cX9_house 22 = .ok (.aload_n 0, 1) := by decide +kernel
theorem dX9_house_23 : decode cX9_house 23 = .ok (.iconst 0, 1) := by decide +kernel
theorem dX9_house_24 : decode cX9_house 24 = .ok (.putfield 50, 3) := by decide +kernel
theorem dX9_house_27 : decode cX9_house 27 = .ok (.aload_n 0, 1) := by decide +kernel
theorem dX9_house_28 : decode cX9_house 28 = .ok (.iconst 0, 1) := by decide +kernel
theorem dX9_house_29 : decode cX9_house 29 = .ok (.putfield 86, 3) := by decide +kernel
theorem dX9_house_32 : decode cX9_house 32 = .ok (.aload_n 0, 1) := by decide +kernel
theorem dX9_house_33 : decode cX9_house 33 = .ok (.iconst 0, 1) := by decide +kernel
theorem dX9_house_34 : decode cX9_house 34 = .ok (.putfield 82, 3) := by decide +kernel
theorem dX9_house_37 : decode cX9_house 37 = .ok (.iconst 0, 1) := by decide +kernel
theorem dX9_house_38 : decode cX9_house 38 = .ok (.istore_n 2, 1) := by decide +kernel
theorem dX9_house_39 : decode cX9_house 39 = .ok (.iload_n 2, 1) := by decide +kernel
theorem dX9_house_40 : decode cX9_house 40 = .ok (.sipush 224, 3) := by decide +kernel
theorem dX9_house_43 : decode cX9_house 43 = .ok (.if_icmp .ge 16, 3) := by decide +kernel
theorem dX9_house_46 : decode cX9_house 46 = .ok (.aload_n 0, 1) := by decide +kernel
theorem dX9_house_47 : decode cX9_house 47 = .ok (.getfield 23, 3) := by decide +kernel
theorem dX9_house_50 : decode cX9_house 50 = .ok (.iload_n 2, 1) := by decide +kernel
theorem dX9_house_51 : decode cX9_house 51 = .ok (.iconst 0, 1) := by decide +kernel
theorem dX9_house_52 : decode cX9_house 52 = .ok (.iastore, 1) := by decide +kernel
theorem dX9_house_53 : decode cX9_house 53 = .ok (.iinc 2 1, 3) := by decide +kernel
theorem dX9_house_56 : decode cX9_house 56 = .ok (.goto (-17), 3) := by decide +kernel
theorem dX9_house_59 : decode cX9_house 59 = .ok (.aload_n 0, 1) := by decide +kernel
theorem dX9_house_60 : decode cX9_house 60 = .ok (.iload_n 1, 1) := by decide +kernel
theorem dX9_house_61 : decode cX9_house 61 = .ok (.putfield 53, 3) := by decide +kernel
theorem dX9_house_64 : decode cX9_house 64 = .ok (.aload_n 0, 1) := by decide +kernel
theorem dX9_house_65 : decode cX9_house 65 = .ok (.iconst 0, 1) := by decide +kernel
theorem dX9_house_66 : decode cX9_house 66 = .ok (.putfield 56, 3) := by decide +kernel
theorem dX9_house_69 : decode cX9_house 69 = .ok (.aload_n 0, 1) := by decide +kernel
theorem dX9_house_70 : decode cX9_house 70 = .ok (.invokevirtual 103, 3) := by decide +kernel
theorem dX9_house_73 : decode cX9_house 73 = .ok (.aload_n 0, 1) := by decide +kernel
theorem dX9_house_74 : decode cX9_house 74 = .ok (.invokevirtual 159, 3) := by decide +kernel
theorem dX9_house_77 : decode cX9_house 77 = .ok (.aload_n 0, 1) := by decide +kernel
theorem dX9_house_78 : decode cX9_house 78 = .ok (.getfield 82, 3) := by decide +kernel
theorem dX9_house_81 : decode cX9_house 81 = .ok (.ifCond .ne 23, 3) := by decide +kernel
theorem dX9_house_84 : decode cX9_house 84 = .ok (.aload_n 0, 1) := by decide +kernel
theorem dX9_house_85 : decode cX9_house 85 = .ok (.getfield 72, 3) := by decide +kernel
theorem dX9_house_88 : decode cX9_house 88 = .ok (.bipush 59, 2) := by decide +kernel
theorem dX9_house_90 : decode cX9_house 90 = .ok (.if_icmp .ne 14, 3) := by decide +kernel
theorem dX9_house_93 : decode cX9_house 93 = .ok (.aload_n 0, 1) := by decide +kernel
theorem dX9_house_94 : decode cX9_house 94 = .ok (.invokevirtual 103, 3) := by decide +kernel
theorem dX9_house_97 : decode cX9_house 97 = .ok (.aload_n 0, 1) := by decide +kernel
theorem dX9_house_98 : decode cX9_house 98 = .ok (.invokevirtual 159, 3) := by decide +kernel
theorem dX9_house_101 : decode cX9_house 101 = .ok (.goto (-24), 3) := by decide +kernel
theorem dX9_house_104 : decode cX9_house 104 = .ok (.aload_n 0, 1) := by decide +kernel
theorem dX9_house_105 : decode cX9_house 105 = .ok (.getfield 82, 3) := by decide +kernel
theorem dX9_house_108 : decode cX9_house 108 = .ok (.ifCond .ne 19, 3) := by decide +kernel
theorem dX9_house_111 : decode cX9_house 111 = .ok (.aload_n 0, 1) := by decide +kernel
theorem dX9_house_112 : decode cX9_house 112 = .ok (.getfield 72, 3) := by decide +kernel
theorem dX9_house_115 : decode cX9_house 115 = .ok (.ifCond .eq 12, 3) := by decide +kernel
theorem dX9_house_118 : decode cX9_house 118 = .ok (.aload_n 0, 1) := by decide +kernel
theorem dX9_house_119 : decode cX9_house 119 = .ok (.iconst 1, 1) := by decide +kernel
theorem dX9_house_120 : decode cX9_house 120 = .ok (.aload_n 0, 1) := by decide +kernel
theorem dX9_house_121 : decode cX9_house 121 = .ok (.getfield 63, 3) := by decide +kernel
theorem dX9_house_124 : decode cX9_house 124 = .ok (.invokevirtual 109, 3) := by decide +kernel
theorem dX9_house_127 : decode cX9_house 127 = .ok (.aload_n 0, 1) := by decide +kernel
theorem dX9_house_128 : decode cX9_house 128 = .ok (.getfield 82, 3) := by decide +kernel
theorem dX9_house_131 : decode cX9_house 131 = .ok (.ifCond .ne 31, 3) := by decide +kernel
theorem dX9_house_134 : decode cX9_house 134 = .ok (.aload_n 0, 1) := by decide +kernel
theorem dX9_house_135 : decode cX9_house 135 = .ok (.getfield 23, 3) := by decide +kernel
theorem dX9_house_138 : decode cX9_house 138 = .ok (.iconst 0, 1) := by decide +kernel
theorem dX9_house_139 : decode cX9_house 139 = .ok (.iaload, 1) := by decide +kernel
theorem dX9_house_140 : decode cX9_house 140 = .ok (.ifCond .eq 12, 3) := by decide +kernel
theorem dX9_house_143 : decode cX9_house 143 = .ok (.aload_n 0, 1) := by decide +kernel
theorem dX9_house_144 : decode cX9_house 144 = .ok (.getfield 23, 3) := by decide +kernel
theorem dX9_house_147 : decode cX9_house 147 = .ok (.iconst 2, 1) := by decide +kernel
theorem dX9_house_148 : decode cX9_house 148 = .ok (.iaload, 1) := by decide +kernel
theorem dX9_house_149 : decode cX9_house 149 = .ok (.ifCond .ne 13, 3) := by decide +kernel
theorem dX9_house_152 : decode cX9_house 152 = .ok (.aload_n 0, 1) := by decide +kernel
theorem dX9_house_153 : decode cX9_house 153 = .ok (.bipush 6, 2) := by decide +kernel
theorem dX9_house_155 : decode cX9_house 155 = .ok (.aload_n 0, 1) := by decide +kernel
theorem dX9_house_156 : decode cX9_house 156 = .ok (.getfield 63, 3) := by decide +kernel
theorem dX9_house_159 : decode cX9_house 159 = .ok (.invokevirtual 109, 3) := by decide +kernel
theorem dX9_house_162 : decode cX9_house 162 = .ok (.aload_n 0, 1) := by decide +kernel
theorem dX9_house_163 : decode cX9_house 163 = .ok (.getfield 82, 3) := by decide +kernel
theorem dX9_house_166 : decode cX9_house 166 = .ok (.ifCond .eq 9, 3) := by decide +kernel
theorem dX9_house_169 : decode cX9_house 169 = .ok (.aload_n 0, 1) := by decide +kernel
theorem dX9_house_170 : decode cX9_house 170 = .ok (.iconst 4, 1) := by decide +kernel
theorem dX9_house_171 : decode cX9_house 171 = .ok (.invokevirtual 156, 3) := by decide +kernel
theorem dX9_house_174 : decode cX9_house 174 = .ok (.ireturn, 1) := by decide +kernel
theorem dX9_house_175 : decode cX9_house 175 = .ok (.aload_n 0, 1) := by decide +kernel
theorem dX9_house_176 : decode cX9_house 176 = .ok (.getfield 23, 3) := by decide +kernel
theorem dX9_house_179 : decode cX9_house 179 = .ok (.iconst 0, 1) := by decide +kernel
theorem dX9_house_180 : decode cX9_house 180 = .ok (.aload_n 0, 1) := by decide +kernel
theorem dX9_house_181 : decode cX9_house 181 = .ok (.getfield 20, 3) := by decide +kernel
theorem dX9_house_184 : decode cX9_house 184 = .ok (.iconst 0, 1) := by decide +kernel
theorem dX9_house_185 : decode cX9_house 185 = .ok (.sipush 224, 3) := by decide +kernel
theorem dX9_house_188 : decode cX9_house 188 = .ok (.invokestatic 162, 3) := by decide +kernel
theorem dX9_house_191 : decode cX9_house 191 = .ok (.iconst 0, 1) := by decide +kernel
theorem dX9_house_192 : decode cX9_house 192 = .ok (.istore_n 2, 1) := by decide +kernel
theorem dX9_house_193 : decode cX9_house 193 = .ok (.iload_n 2, 1) := by decide +kernel
theorem dX9_house_194 : decode cX9_house 194 = .ok (.bipush 9, 2) := by decide +kernel
theorem dX9_house_196 : decode cX9_house 196 = .ok (.if_icmp .ge 16, 3) := by decide +kernel
theorem dX9_house_199 : decode cX9_house 199 = .ok (.aload_n 0, 1) := by decide +kernel
theorem dX9_house_200 : decode cX9_house 200 = .ok (.getfield 26, 3) := by decide +kernel
theorem dX9_house_203 : decode cX9_house 203 = .ok (.iload_n 2, 1) := by decide +kernel
theorem dX9_house_204 : decode cX9_house 204 = .ok (.iconst 0, 1) := by decide +kernel
theorem dX9_house_205 : decode cX9_house 205 = .ok (.iastore, 1) := by decide +kernel
theorem dX9_house_206 : decode cX9_house 206 = .ok (.iinc 2 1, 3) := by decide +kernel
theorem dX9_house_209 : decode cX9_house 209 = .ok (.goto (-16), 3) := by decide +kernel
theorem dX9_house_212 : decode cX9_house 212 = .ok (.iconst 0, 1) := by decide +kernel
theorem dX9_house_213 : decode cX9_house 213 = .ok (.istore_n 2, 1) := by decide +kernel
theorem dX9_house_214 : decode cX9_house 214 = .ok (.iload_n 2, 1) := by decide +kernel
theorem dX9_house_215 : decode cX9_house 215 = .ok (.aload_n 0, 1) := by decide +kernel
theorem dX9_house_216 : decode cX9_house 216 = .ok (.getfield 20, 3) := by decide +kernel
theorem dX9_house_219 : decode cX9_house 219 = .ok (.iconst 3, 1) := by decide +kernel
theorem dX9_house_220 : decode cX9_house 220 = .ok (.iaload, 1) := by decide +kernel
theorem dX9_house_221 : decode cX9_house 221 = .ok (.if_icmp .ge 28, 3) := by decide +kernel
theorem dX9_house_224 : decode cX9_house 224 = .ok (.aload_n 0, 1) := by decide +kernel
theorem dX9_house_225 : decode cX9_house 225 = .ok (.getfield 26, 3) := by decide +kernel
theorem dX9_house_228 : decode cX9_house 228 = .ok (.iload_n 2, 1) := by decide +kernel
theorem dX9_house_229 : decode cX9_house 229 = .ok (.aload_n 0, 1) := by decide +kernel
theorem dX9_house_230 : decode cX9_house 230 = .ok (.getfield 20, 3) := by decide +kernel
theorem dX9_house_233 : decode cX9_house 233 = .ok (.bipush 62, 2) := by decide +kernel
theorem dX9_house_235 : decode cX9_house 235 = .ok (.iconst 3, 1) := by decide +kernel
theorem dX9_house_236 : decode cX9_house 236 = .ok (.iload_n 2, 1) := by decide +kernel
theorem dX9_house_237 : decode cX9_house 237 = .ok (.imul, 1) := by decide +kernel
theorem dX9_house_238 : decode cX9_house 238 = .ok (.iadd, 1) := by decide +kernel
theorem dX9_house_239 : decode cX9_house 239 = .ok (.iconst 1, 1) := by decide +kernel
theorem dX9_house_240 : decode cX9_house 240 = .ok (.iadd, 1) := by decide +kernel
theorem dX9_house_241 : decode cX9_house 241 = .ok (.iaload, 1) := by decide +kernel
theorem dX9_house_242 : decode cX9_house 242 = .ok (.iastore, 1) := by decide +kernel
theorem dX9_house_243 : decode cX9_house 243 = .ok (.iinc 2 1, 3) := by decide +kernel
theorem dX9_house_246 : decode cX9_house 246 = .ok (.goto (-32), 3) := by decide +kernel
theorem dX9_house_249 : decode cX9_house 249 = .ok (.aload_n 0, 1) := by decide +kernel
theorem dX9_house_250 : decode cX9_house 250 = .ok (.iconst 1, 1) := by decide +kernel
theorem dX9_house_251 : decode cX9_house 251 = .ok (.putfield 166, 3) := by decide +kernel
theorem dX9_house_254 : decode cX9_house 254 = .ok (.aload_n 0, 1) := by decide +kernel
theorem dX9_house_255 : decode cX9_house 255 = .ok (.iconst 0, 1) := by decide +kernel
theorem dX9_house_256 : decode cX9_house 256 = .ok (.putfield 169, 3) := by decide +kernel
theorem dX9_house_259 : decode cX9_house 259 = .ok (.aload_n 0, 1) := by decide +kernel
theorem dX9_house_260 : decode cX9_house 260 = .ok (.iconst 0, 1) := by decide +kernel
theorem dX9_house_261 : decode cX9_house 261 = .ok (.putfield 172, 3) := by decide +kernel
theorem dX9_house_264 : decode cX9_house 264 = .ok (.aload_n 0, 1) := by decide +kernel
theorem dX9_house_265 : decode cX9_house 265 = .ok (.getfield 20, 3) := by decide +kernel
theorem dX9_house_268 : decode cX9_house 268 = .ok (.iconst 2, 1) := by decide +kernel
theorem dX9_house_269 : decode cX9_house 269 = .ok (.iaload, 1) := by decide +kernel
theorem dX9_house_270 : decode cX9_house 270 = .ok (.ireturn, 1) := by decide +kernel
set_option maxRecDepth 20000 in
theorem ggX9_begins_X9_isWord : GoodIn wsX9_begins wsX9_isWord := goodIn_r _ [8, 3, 9, 10, 11, 12, 13, 14, 15, 16, 17, 18, 19, 20, 21, 22, 23, 24, 25, 26, 27, 28, 29, 30, 31, 32, 33, 34, 35, 36, 37, 38, 39, 40, 41, 42, 43, 44, 45, 46, 47, 48, 49, 50, 51, 52, 53, 54, 55, 56, 57, 58, 59, 60, 85, 86, 87, 88, 89, 90, 91, 92, 93, 94, 95, 96, 97, 98, 99, 100, 101, 102, 103, 104, 105, 106, 107, 108, 109, 110, 111, 112, 113] (by decide +kernel) (by decide +kernel)
set_option maxRecDepth 20000 in
theorem gX9_begins_X9_isWord : GoodIn wsX9_begins (wsV RX9 99 RX9 yX9_isWord wsX9_isWord) := goodIn_app (goodIn_of _ (by decide +kernel)) ggX9_begins_X9_isWord
set_option maxRecDepth 20000 in
theorem ggX9_begins_X9_wrong : GoodIn wsX9_begins wsX9_wrong := goodIn_r _ [64, 3, 65, 66, 85, 86, 87, 88, 89, 90, 91, 92, 93, 94, 95, 96, 97, 98, 99, 100, 101, 102, 103, 104, 105, 106, 107, 108, 109, 110, 111, 112, 113] (by decide +kernel) (by decide +kernel)
set_option maxRecDepth 20000 in
theorem gX9_begins_X9_wrong : GoodIn wsX9_begins (wsV RX9 109 RX9 yX9_wrong wsX9_wrong) := goodIn_app (goodIn_of _ (by decide +kernel)) ggX9_begins_X9_wrong
set_option maxRecDepth 20000 in
theorem ggX9_begins_X9_next : GoodIn wsX9_begins wsX9_next := goodIn_r _ [70, 71, 1, 10, 72, 9, 11, 73, 74, 75, 7, 76, 77, 78, 79, 80, 81, 82, 83, 84, 85, 86, 87, 88, 89, 90, 91, 92, 93, 94, 95, 96, 97, 98, 99, 100, 101, 102, 103, 104, 105, 106, 107, 108, 109, 110, 111, 112, 113] (by decide +kernel) (by decide +kernel)
set_option maxRecDepth 20000 in
theorem gX9_begins_X9_next : GoodIn wsX9_begins (wsV RX9 103 RX9 yX9_next wsX9_next) := goodIn_app (goodIn_of _ (by decide +kernel)) ggX9_begins_X9_next
theorem dX9_begins_0 : decode cX9_begins 0 = .ok (.aload_n 0, 1) := by decide +kernel
theorem dX9_begins_1 : decode cX9_begins 1 = .ok (.aload_n 1, 1) := by decide +kernel
theorem dX9_begins_2 : decode cX9_begins 2 = .ok (.invokevirtual 99, 3) := by decide +kernel
theorem dX9_begins_5 : decode cX9_begins 5 = .ok (.ifCond .ne 5, 3) := by decide +kernel
theorem dX9_begins_8 : decode cX9_begins 8 = .ok (.iconst 0, 1) := by decide +kernel
theorem dX9_begins_9 : decode cX9_begins 9 = .ok (.ireturn, 1) := by decide +kernel
theorem dX9_begins_10 : decode cX9_begins 10 = .ok (.iload_n 2, 1) := by decide +kernel
theorem dX9_begins_11 : decode cX9_begins 11 = .ok (.ifCond .ne 12, 3) := by decide +kernel
theorem dX9_begins_14 : decode cX9_begins 14 = .ok (.aload_n 0, 1) := by decide +kernel
theorem dX9_begins_15 : decode cX9_begins 15 = .ok (.iconst 5, 1) := by decide +kernel
theorem dX9_begins_16 : decode cX9_begins 16 = .ok (.aload_n 0, 1) := by decide +kernel
theorem dX9_begins_17 : decode cX9_begins 17 = .ok (.getfield 63, 3) := by decide +kernel
theorem dX9_begins_20 : decode cX9_begins 20 = .ok (.invokevirtual 109, 3) := by decide +kernel
theorem dX9_begins_23 : decode cX9_begins 23 = .ok (.aload_n 0, 1) := by decide +kernel
theorem dX9_begins_24 : decode cX9_begins 24 = .ok (.getfield 23, 3) := by decide +kernel
theorem dX9_begins_27 : decode cX9_begins 27 = .ok (.iconst 0, 1) := by decide +kernel
theorem dX9_begins_28 : decode cX9_begins 28 = .ok (.iaload, 1) := by decide +kernel
theorem dX9_begins_29 : decode cX9_begins 29 = .ok (.ifCond .ne 13, 3) := by decide +kernel
theorem dX9_begins_32 : decode cX9_begins 32 = .ok (.aload_n 0, 1) := by decide +kernel
theorem dX9_begins_33 : decode cX9_begins 33 = .ok (.bipush 6, 2) := by decide +kernel
theorem dX9_begins_35 : decode cX9_begins 35 = .ok (.aload_n 0, 1) := by decide +kernel
theorem dX9_begins_36 : decode cX9_begins 36 = .ok (.getfield 63, 3) := by decide +kernel
theorem dX9_begins_39 : decode cX9_begins 39 = .ok (.invokevirtual 109, 3) := by decide +kernel
theorem dX9_begins_42 : decode cX9_begins 42 = .ok (.aload_n 0, 1) := by decide +kernel
theorem dX9_begins_43 : decode cX9_begins 43 = .ok (.getfield 82, 3) := by decide +kernel
theorem dX9_begins_46 : decode cX9_begins 46 = .ok (.ifCond .ne 7, 3) := by decide +kernel
theorem dX9_begins_49 : decode cX9_begins 49 = .ok (.aload_n 0, 1) := by decide +kernel
theorem dX9_begins_50 : decode cX9_begins 50 = .ok (.invokevirtual 103, 3) := by decide +kernel
theorem dX9_begins_53 : decode cX9_begins 53 = .ok (.iconst 1, 1) := by decide +kernel
theorem dX9_begins_54 : decode cX9_begins 54 = .ok (.ireturn, 1) := by decide +kernel
set_option maxRecDepth 20000 in
theorem ggX9_readLine_X9_isWord : GoodIn wsX9_readLine wsX9_isWord := goodIn_r _ [7, 8, 9, 10, 11, 12, 13, 14, 15, 16, 17, 18, 19, 20, 21, 22, 23, 24, 25, 26, 27, 28, 29, 30, 31, 32, 33, 34, 35, 36, 37, 38, 39, 40, 41, 42, 43, 44, 45, 46, 47, 48, 49, 50, 51, 52, 53, 54, 55, 56, 57, 58, 59, 60, 164, 165, 166, 167, 168, 169, 170, 171, 172, 173, 174, 175, 176, 177, 178, 179, 180, 181, 182, 183, 184, 185, 186, 187, 188, 189, 190, 191, 192] (by decide +kernel) (by decide +kernel)
set_option maxRecDepth 20000 in
theorem gX9_readLine_X9_isWord : GoodIn wsX9_readLine (wsV RX9 99 RX9 yX9_isWord wsX9_isWord) := goodIn_app (goodIn_of _ (by decide +kernel)) ggX9_readLine_X9_isWord
set_option maxRecDepth 20000 in
theorem ggX9_readLine_X9_houseLine : GoodIn wsX9_readLine wsX9_houseLine := goodIn_r _ [64, 1, 2, 8, 65, 66, 67, 6, 68, 69, 70, 71, 72, 73, 74, 75, 10, 76, 9, 11, 77, 78, 79, 80, 81, 82, 83, 84, 85, 86, 87, 88, 89, 90, 91, 92, 93, 94, 95, 96, 97, 98, 99, 100, 3, 4, 5, 7, 12, 13, 14, 15, 16, 17, 18, 19, 20, 21, 22, 23, 24, 25, 26, 27, 28, 29, 30, 31, 32, 33, 34, 35, 36, 37, 38, 39, 40, 41, 42, 43, 44, 45, 46, 47, 48, 49, 50, 51, 52, 53, 54, 55, 56, 57, 58, 59, 60, 101, 102, 103, 104, 105, 106, 107, 108, 109, 110, 111, 164, 165, 166, 167, 168, 169, 170, 171, 172, 173, 174, 175, 176, 177, 178, 179, 180, 181, 182, 183, 184, 185, 186, 187, 188, 189, 190, 191, 192] (by decide +kernel) (by decide +kernel)
set_option maxRecDepth 20000 in
theorem gX9_readLine_X9_houseLine : GoodIn wsX9_readLine (wsV RX9 175 RX9 yX9_houseLine wsX9_houseLine) := goodIn_app (goodIn_of _ (by decide +kernel)) ggX9_readLine_X9_houseLine
set_option maxRecDepth 20000 in
theorem ggX9_readLine_X9_begins : GoodIn wsX9_readLine wsX9_begins := goodIn_r _ [115, 2, 1, 8, 3, 4, 5, 6, 7, 9, 10, 11, 12, 13, 14, 15, 16, 17, 18, 19, 20, 21, 22, 23, 24, 25, 26, 27, 28, 29, 30, 31, 32, 33, 34, 35, 36, 37, 38, 39, 40, 41, 42, 43, 44, 45, 46, 47, 48, 49, 50, 51, 52, 53, 54, 55, 56, 57, 58, 59, 60, 65, 66, 67, 68, 69, 70, 71, 72, 73, 74, 75, 76, 77, 78, 79, 80, 81, 82, 83, 84, 85, 86, 87, 88, 164, 165, 166, 167, 168, 169, 170, 171, 172, 173, 174, 175, 176, 177, 178, 179, 180, 181, 182, 183, 184, 185, 186, 187, 188, 189, 190, 191, 192] (by decide +kernel) (by decide +kernel)
set_option maxRecDepth 20000 in
theorem gX9_readLine_X9_begins : GoodIn wsX9_readLine (wsV RX9 178 RX9 yX9_begins wsX9_begins) := goodIn_app (goodIn_of _ (by decide +kernel)) ggX9_readLine_X9_begins
set_option maxRecDepth 20000 in
theorem ggX9_readLine_X9_ringLine : GoodIn wsX9_readLine wsX9_ringLine := goodIn_r _ [119, 8, 1, 2, 120, 121, 122, 6, 123, 10, 11, 124, 125, 126, 127, 9, 3, 4, 5, 7, 12, 13, 14, 15, 16, 17, 18, 19, 20, 21, 22, 23, 24, 25, 26, 27, 28, 29, 30, 31, 32, 33, 34, 35, 36, 37, 38, 39, 40, 41, 42, 43, 44, 45, 46, 47, 48, 49, 50, 51, 52, 53, 54, 55, 56, 57, 58, 59, 60, 65, 66, 67, 68, 69, 70, 128, 129, 130, 131, 71, 72, 73, 74, 75, 76, 77, 78, 79, 80, 81, 82, 83, 84, 85, 86, 87, 88, 89, 90, 91, 92, 93, 94, 95, 96, 97, 98, 99, 100, 101, 102, 103, 104, 105, 106, 107, 108, 109, 110, 111, 164, 165, 166, 167, 168, 169, 170, 171, 172, 173, 174, 175, 176, 177, 178, 179, 180, 181, 182, 183, 184, 185, 186, 187, 188, 189, 190, 191, 192] (by decide +kernel) (by decide +kernel)
set_option maxRecDepth 20000 in
theorem gX9_readLine_X9_ringLine : GoodIn wsX9_readLine (wsV RX9 182 RX9 yX9_ringLine wsX9_ringLine) := goodIn_app (goodIn_of _ (by decide +kernel)) ggX9_readLine_X9_ringLine
set_option maxRecDepth 20000 in
theorem ggX9_readLine_X9_narrowLine : GoodIn wsX9_readLine wsX9_narrowLine := goodIn_r _ [135, 8, 1, 2, 136, 137, 138, 6, 139, 140, 141, 142, 143, 124, 125, 126, 127, 9, 3, 4, 5, 7, 10, 11, 12, 13, 14, 15, 16, 17, 18, 19, 20, 21, 22, 23, 24, 25, 26, 27, 28, 29, 30, 31, 32, 33, 34, 35, 36, 37, 38, 39, 40, 41, 42, 43, 44, 45, 46, 47, 48, 49, 50, 51, 52, 53, 54, 55, 56, 57, 58, 59, 60, 65, 66, 67, 68, 69, 70, 128, 129, 130, 131, 109, 110, 111, 71, 72, 73, 74, 75, 76, 77, 78, 79, 80, 81, 82, 83, 84, 85, 86, 87, 88, 144, 145, 146, 147, 105, 106, 107, 108, 89, 90, 91, 92, 93, 94, 95, 96, 97, 98, 99, 100, 101, 102, 103, 104, 164, 165, 166, 167, 168, 169, 170, 171, 172, 173, 174, 175, 176, 177, 178, 179, 180, 181, 182, 183, 184, 185, 186, 187, 188, 189, 190, 191, 192] (by decide +kernel) (by decide +kernel)
set_option maxRecDepth 20000 in
theorem gX9_readLine_X9_narrowLine : GoodIn wsX9_readLine (wsV RX9 185 RX9 yX9_narrowLine wsX9_narrowLine) := goodIn_app (goodIn_of _ (by decide +kernel)) ggX9_readLine_X9_narrowLine
set_option maxRecDepth 20000 in
theorem ggX9_readLine_X9_doorLine : GoodIn wsX9_readLine wsX9_doorLine := goodIn_r _ [151, 8, 1, 2, 136, 137, 138, 6, 139, 140, 141, 142, 143, 124, 125, 126, 127, 9, 3, 4, 5, 7, 10, 11, 12, 13, 14, 15, 16, 17, 18, 19, 20, 21, 22, 23, 24, 25, 26, 27, 28, 29, 30, 31, 32, 33, 34, 35, 36, 37, 38, 39, 40, 41, 42, 43, 44, 45, 46, 47, 48, 49, 50, 51, 52, 53, 54, 55, 56, 57, 58, 59, 60, 65, 66, 67, 68, 69, 70, 128, 129, 130, 131, 109, 110, 111, 71, 72, 73, 74, 75, 76, 77, 78, 79, 80, 81, 82, 83, 84, 85, 86, 87, 88, 144, 145, 146, 147, 105, 106, 107, 108, 164, 165, 166, 167, 168, 169, 170, 171, 172, 173, 174, 175, 176, 177, 178, 179, 180, 181, 182, 183, 184, 185, 186, 187, 188, 189, 190, 191, 192] (by decide +kernel) (by decide +kernel)
set_option maxRecDepth 20000 in
theorem gX9_readLine_X9_doorLine : GoodIn wsX9_readLine (wsV RX9 188 RX9 yX9_doorLine wsX9_doorLine) := goodIn_app (goodIn_of _ (by decide +kernel)) ggX9_readLine_X9_doorLine
set_option maxRecDepth 20000 in
theorem ggX9_readLine_X9_thingLine : GoodIn wsX9_readLine wsX9_thingLine := goodIn_r _ [155, 8, 1, 2, 120, 121, 122, 6, 123, 10, 11, 124, 125, 126, 127, 9, 3, 4, 5, 7, 12, 13, 14, 15, 16, 17, 18, 19, 20, 21, 22, 23, 24, 25, 26, 27, 28, 29, 30, 31, 32, 33, 34, 35, 36, 37, 38, 39, 40, 41, 42, 43, 44, 45, 46, 47, 48, 49, 50, 51, 52, 53, 54, 55, 56, 57, 58, 59, 60, 65, 66, 67, 68, 69, 70, 128, 129, 130, 131, 71, 72, 73, 74, 75, 76, 77, 78, 79, 80, 81, 82, 83, 84, 85, 86, 87, 88, 93, 94, 95, 96, 97, 98, 99, 100, 136, 137, 138, 139, 140, 141, 142, 143, 109, 110, 111, 144, 145, 146, 147, 105, 106, 107, 108, 89, 90, 91, 92, 101, 102, 103, 104, 164, 165, 166, 167, 168, 169, 170, 171, 172, 173, 174, 175, 176, 177, 178, 179, 180, 181, 182, 183, 184, 185, 186, 187, 188, 189, 190, 191, 192] (by decide +kernel) (by decide +kernel)
set_option maxRecDepth 20000 in
theorem gX9_readLine_X9_thingLine : GoodIn wsX9_readLine (wsV RX9 191 RX9 yX9_thingLine wsX9_thingLine) := goodIn_app (goodIn_of _ (by decide +kernel)) ggX9_readLine_X9_thingLine
set_option maxRecDepth 20000 in
theorem ggX9_readLine_X9_wantLine : GoodIn wsX9_readLine wsX9_wantLine := goodIn_r _ [159, 8, 1, 140, 141, 142, 6, 143, 2, 124, 125, 126, 127, 9, 3, 4, 5, 7, 10, 11, 12, 13, 14, 15, 16, 17, 18, 19, 20, 21, 22, 23, 24, 25, 26, 27, 28, 29, 30, 31, 32, 33, 34, 35, 36, 37, 38, 39, 40, 41, 42, 43, 44, 45, 46, 47, 48, 49, 50, 51, 52, 53, 54, 55, 56, 57, 58, 59, 60, 65, 66, 67, 68, 69, 70, 128, 129, 130, 131, 109, 110, 111, 71, 72, 73, 74, 75, 76, 77, 78, 79, 80, 81, 82, 83, 84, 85, 86, 87, 88, 93, 94, 95, 96, 97, 98, 99, 100, 136, 137, 138, 139, 144, 145, 146, 147, 105, 106, 107, 108, 89, 90, 91, 92, 101, 102, 103, 104, 164, 165, 166, 167, 168, 169, 170, 171, 172, 173, 174, 175, 176, 177, 178, 179, 180, 181, 182, 183, 184, 185, 186, 187, 188, 189, 190, 191, 192] (by decide +kernel) (by decide +kernel)
set_option maxRecDepth 20000 in
theorem gX9_readLine_X9_wantLine : GoodIn wsX9_readLine (wsV RX9 194 RX9 yX9_wantLine wsX9_wantLine) := goodIn_app (goodIn_of _ (by decide +kernel)) ggX9_readLine_X9_wantLine
set_option maxRecDepth 20000 in
theorem ggX9_readLine_X9_boxLine : GoodIn wsX9_readLine wsX9_boxLine := goodIn_r _ [163, 8, 1, 2, 105, 106, 107, 6, 108, 9, 76, 65, 66, 67, 68, 69, 70, 109, 110, 111, 71, 72, 73, 74, 75, 10, 11, 77, 78, 79, 80, 81, 82, 83, 84, 85, 86, 87, 88, 89, 90, 91, 92, 93, 94, 95, 96, 97, 98, 99, 100, 3, 4, 5, 7, 12, 13, 14, 15, 16, 17, 18, 19, 20, 21, 22, 23, 24, 25, 26, 27, 28, 29, 30, 31, 32, 33, 34, 35, 36, 37, 38, 39, 40, 41, 42, 43, 44, 45, 46, 47, 48, 49, 50, 51, 52, 53, 54, 55, 56, 57, 58, 59, 60, 101, 102, 103, 104, 164, 165, 166, 167, 168, 169, 170, 171, 172, 173, 174, 175, 176, 177, 178, 179, 180, 181, 182, 183, 184, 185, 186, 187, 188, 189, 190, 191, 192] (by decide +kernel) (by decide +kernel)
set_option maxRecDepth 20000 in
theorem gX9_readLine_X9_boxLine : GoodIn wsX9_readLine (wsV RX9 197 RX9 yX9_boxLine wsX9_boxLine) := goodIn_app (goodIn_of _ (by decide +kernel)) ggX9_readLine_X9_boxLine
set_option maxRecDepth 20000 in
theorem ggX9_readLine_X9_wrong : GoodIn wsX9_readLine wsX9_wrong := goodIn_r _ [68, 8, 69, 70, 164, 165, 166, 167, 168, 169, 170, 171, 172, 173, 174, 175, 176, 177, 178, 179, 180, 181, 182, 183, 184, 185, 186, 187, 188, 189, 190, 191, 192] (by decide +kernel) (by decide +kernel)
set_option maxRecDepth 20000 in
theorem gX9_readLine_X9_wrong : GoodIn wsX9_readLine (wsV RX9 109 RX9 yX9_wrong wsX9_wrong) := goodIn_app (goodIn_of _ (by decide +kernel)) ggX9_readLine_X9_wrong
theorem dX9_readLine_0 : decode cX9_readLine 0 = .ok (.aload_n 0, 1) := by decide +kernel
theorem dX9_readLine_1 : decode cX9_readLine 1 = .ok (.ldc 113, 2) := by decide +kernel
theorem dX9_readLine_3 : decode cX9_readLine 3 = .ok (.invokevirtual 99, 3) := by decide +kernel
theorem dX9_readLine_6 : decode cX9_readLine 6 = .ok (.ifCond .eq 10, 3) := by decide +kernel
theorem dX9_readLine_9 : decode cX9_readLine 9 = .ok (.aload_n 0, 1) := by decide +kernel
theorem dX9_readLine_10 : decode cX9_readLine 10 = .ok (.invokevirtual 175, 3) := by decide +kernel
theorem dX9_readLine_13 : decode cX9_readLine 13 = .ok (.goto 239, 3) := by decide +kernel
theorem dX9_readLine_16 : decode cX9_readLine 16 = .ok (.aload_n 0, 1) := by decide +kernel
theorem dX9_readLine_17 : decode cX9_readLine 17 = .ok (.ldc 115, 2) := by decide +kernel
theorem dX9_readLine_19 : decode cX9_readLine 19 = .ok (.aload_n 0, 1) := by decide +kernel
theorem dX9_readLine_20 : decode cX9_readLine 20 = .ok (.getfield 23, 3) := by decide +kernel
theorem dX9_readLine_23 : decode cX9_readLine 23 = .ok (.iconst 2, 1) := by decide +kernel
theorem dX9_readLine_24 : decode cX9_readLine 24 = .ok (.iaload, 1) := by decide +kernel
theorem dX9_readLine_25 : decode cX9_readLine 25 = .ok (.iconst 4, 1) := by decide +kernel
theorem dX9_readLine_26 : decode cX9_readLine 26 = .ok (.if_icmp .ge 7, 3) := by decide +kernel
theorem dX9_readLine_29 : decode cX9_readLine 29 = .ok (.iconst 1, 1) := by decide +kernel
theorem dX9_readLine_30 : decode cX9_readLine 30 = .ok (.goto 4, 3) := by decide +kernel
theorem dX9_readLine_33 : decode cX9_readLine 33 = .ok (.iconst 0, 1) := by decide +kernel
theorem dX9_readLine_34 : decode cX9_readLine 34 = .ok (.invokevirtual 178, 3) := by decide +kernel
theorem dX9_readLine_37 : decode cX9_readLine 37 = .ok (.ifCond .eq 10, 3) := by decide +kernel
theorem dX9_readLine_40 : decode cX9_readLine 40 = .ok (.aload_n 0, 1) := by decide +kernel
theorem dX9_readLine_41 : decode cX9_readLine 41 = .ok (.invokevirtual 182, 3) := by decide +kernel
theorem dX9_readLine_44 : decode cX9_readLine 44 = .ok (.goto 208, 3) := by decide +kernel
theorem dX9_readLine_47 : decode cX9_readLine 47 = .ok (.aload_n 0, 1) := by decide +kernel
theorem dX9_readLine_48 : decode cX9_readLine 48 = .ok (.ldc 117, 2) := by decide +kernel
theorem dX9_readLine_50 : decode cX9_readLine 50 = .ok (.aload_n 0, 1) := by decide +kernel
theorem dX9_readLine_51 : decode cX9_readLine 51 = .ok (.getfield 23, 3) := by decide +kernel
theorem dX9_readLine_54 : decode cX9_readLine 54 = .ok (.iconst 4, 1) := by decide +kernel
theorem dX9_readLine_55 : decode cX9_readLine 55 = .ok (.iaload, 1) := by decide +kernel
theorem dX9_readLine_56 : decode cX9_readLine 56 = .ok (.bipush 6, 2) := by decide +kernel
theorem dX9_readLine_58 : decode cX9_readLine 58 = .ok (.if_icmp .ge 7, 3) := by decide +kernel
theorem dX9_readLine_61 : decode cX9_readLine 61 = .ok (.iconst 1, 1) := by decide +kernel
theorem dX9_readLine_62 : decode cX9_readLine 62 = .ok (.goto 4, 3) := by decide +kernel
theorem dX9_readLine_65 : decode cX9_readLine 65 = .ok (.iconst 0, 1) := by decide +kernel
theorem dX9_readLine_66 : decode cX9_readLine 66 = .ok (.invokevirtual 178, 3) := by decide +kernel
theorem dX9_readLine_69 : decode cX9_readLine 69 = .ok (.ifCond .eq 10, 3) := by decide +kernel
theorem dX9_readLine_72 : decode cX9_readLine 72 = .ok (.aload_n 0, 1) := by decide +kernel
theorem dX9_readLine_73 : decode cX9_readLine 73 = .ok (.invokevirtual 185, 3) := by decide +kernel
theorem dX9_readLine_76 : decode cX9_readLine 76 = .ok (.goto 176, 3) := by decide +kernel
theorem dX9_readLine_79 : decode cX9_readLine 79 = .ok (.aload_n 0, 1) := by decide +kernel
theorem dX9_readLine_80 : decode cX9_readLine 80 = .ok (.ldc 119, 2) := by decide +kernel
theorem dX9_readLine_82 : decode cX9_readLine 82 = .ok (.aload_n 0, 1) := by decide +kernel
theorem dX9_readLine_83 : decode cX9_readLine 83 = .ok (.getfield 23, 3) := by decide +kernel
theorem dX9_readLine_86 : decode cX9_readLine 86 = .ok (.iconst 5, 1) := by decide +kernel
theorem dX9_readLine_87 : decode cX9_readLine 87 = .ok (.iaload, 1) := by decide +kernel
theorem dX9_readLine_88 : decode cX9_readLine 88 = .ok (.iconst 5, 1) := by decide +kernel
theorem dX9_readLine_89 : decode cX9_readLine 89 = .ok (.if_icmp .ge 7, 3) := by decide +kernel
theorem dX9_readLine_92 : decode cX9_readLine 92 = .ok (.iconst 1, 1) := by decide +kernel
theorem dX9_readLine_93 : decode cX9_readLine 93 = .ok (.goto 4, 3) := by decide +kernel
theorem dX9_readLine_96 : decode cX9_readLine 96 = .ok (.iconst 0, 1) := by decide +kernel
theorem dX9_readLine_97 : decode cX9_readLine 97 = .ok (.invokevirtual 178, 3) := by decide +kernel
theorem dX9_readLine_100 : decode cX9_readLine 100 = .ok (.ifCond .eq 10, 3) := by decide +kernel
theorem dX9_readLine_103 : decode cX9_readLine 103 = .ok (.aload_n 0, 1) := by decide +kernel
theorem dX9_readLine_104 : decode cX9_readLine 104 = .ok (.invokevirtual 188, 3) := by decide +kernel
theorem dX9_readLine_107 : decode cX9_readLine 107 = .ok (.goto 145, 3) := by decide +kernel
theorem dX9_readLine_110 : decode cX9_readLine 110 = .ok (.aload_n 0, 1) := by decide +kernel
theorem dX9_readLine_111 : decode cX9_readLine 111 = .ok (.ldc 121, 2) := by decide +kernel
theorem dX9_readLine_113 : decode cX9_readLine 113 = .ok (.aload_n 0, 1) := by decide +kernel
theorem dX9_readLine_114 : decode cX9_readLine 114 = .ok (.getfield 23, 3) := by decide +kernel
theorem dX9_readLine_117 : decode cX9_readLine 117 = .ok (.iconst 3, 1) := by decide +kernel
theorem dX9_readLine_118 : decode cX9_readLine 118 = .ok (.iaload, 1) := by decide +kernel
theorem dX9_readLine_119 : decode cX9_readLine 119 = .ok (.bipush 7, 2) := by decide +kernel
theorem dX9_readLine_121 : decode cX9_readLine 121 = .ok (.if_icmp .ge 7, 3) := by decide +kernel
theorem dX9_readLine_124 : decode cX9_readLine 124 = .ok (.iconst 1, 1) := by decide +kernel
theorem dX9_readLine_125 : decode cX9_readLine 125 = .ok (.goto 4, 3) := by decide +kernel
theorem dX9_readLine_128 : decode cX9_readLine 128 = .ok (.iconst 0, 1) := by decide +kernel
theorem dX9_readLine_129 : decode cX9_readLine 129 = .ok (.invokevirtual 178, 3) := by decide +kernel
theorem dX9_readLine_132 : decode cX9_readLine 132 = .ok (.ifCond .eq 10, 3) := by decide +kernel
theorem dX9_readLine_135 : decode cX9_readLine 135 = .ok (.aload_n 0, 1) := by decide +kernel
theorem dX9_readLine_136 : decode cX9_readLine 136 = .ok (.invokevirtual 191, 3) := by decide +kernel
theorem dX9_readLine_139 : decode cX9_readLine 139 = .ok (.goto 113, 3) := by decide +kernel
theorem dX9_readLine_142 : decode cX9_readLine 142 = .ok (.aload_n 0, 1) := by decide +kernel
theorem dX9_readLine_143 : decode cX9_readLine 143 = .ok (.ldc 123, 2) := by decide +kernel
theorem dX9_readLine_145 : decode cX9_readLine 145 = .ok (.aload_n 0, 1) := by decide +kernel
theorem dX9_readLine_146 : decode cX9_readLine 146 = .ok (.getfield 23, 3) := by decide +kernel
theorem dX9_readLine_149 : decode cX9_readLine 149 = .ok (.bipush 6, 2) := by decide +kernel
theorem dX9_readLine_151 : decode cX9_readLine 151 = .ok (.iaload, 1) := by decide +kernel
theorem dX9_readLine_152 : decode cX9_readLine 152 = .ok (.bipush 6, 2) := by decide +kernel
theorem dX9_readLine_154 : decode cX9_readLine 154 = .ok (.if_icmp .ge 7, 3) := by decide +kernel
theorem dX9_readLine_157 : decode cX9_readLine 157 = .ok (.iconst 1, 1) := by decide +kernel
theorem dX9_readLine_158 : decode cX9_readLine 158 = .ok (.goto 4, 3) := by decide +kernel
theorem dX9_readLine_161 : decode cX9_readLine 161 = .ok (.iconst 0, 1) := by decide +kernel
theorem dX9_readLine_162 : decode cX9_readLine 162 = .ok (.invokevirtual 178, 3) := by decide +kernel
theorem dX9_readLine_165 : decode cX9_readLine 165 = .ok (.ifCond .eq 10, 3) := by decide +kernel
theorem dX9_readLine_168 : decode cX9_readLine 168 = .ok (.aload_n 0, 1) := by decide +kernel
theorem dX9_readLine_169 : decode cX9_readLine 169 = .ok (.invokevirtual 194, 3) := by decide +kernel
theorem dX9_readLine_172 : decode cX9_readLine 172 = .ok (.goto 80, 3) := by decide +kernel
theorem dX9_readLine_175 : decode cX9_readLine 175 = .ok (.aload_n 0, 1) := by decide +kernel
theorem dX9_readLine_176 : decode cX9_readLine 176 = .ok (.ldc 125, 2) := by decide +kernel
theorem dX9_readLine_178 : decode cX9_readLine 178 = .ok (.aload_n 0, 1) := by decide +kernel
theorem dX9_readLine_179 : decode cX9_readLine 179 = .ok (.getfield 23, 3) := by decide +kernel
theorem dX9_readLine_182 : decode cX9_readLine 182 = .ok (.bipush 7, 2) := by decide +kernel
theorem dX9_readLine_184 : decode cX9_readLine 184 = .ok (.iaload, 1) := by decide +kernel
theorem dX9_readLine_185 : decode cX9_readLine 185 = .ok (.bipush 6, 2) := by decide +kernel
theorem dX9_readLine_187 : decode cX9_readLine 187 = .ok (.if_icmp .ge 7, 3) := by decide +kernel
theorem dX9_readLine_190 : decode cX9_readLine 190 = .ok (.iconst 1, 1) := by decide +kernel
theorem dX9_readLine_191 : decode cX9_readLine 191 = .ok (.goto 4, 3) := by decide +kernel
theorem dX9_readLine_194 : decode cX9_readLine 194 = .ok (.iconst 0, 1) := by decide +kernel
theorem dX9_readLine_195 : decode cX9_readLine 195 = .ok (.invokevirtual 178, 3) := by decide +kernel
theorem dX9_readLine_198 : decode cX9_readLine 198 = .ok (.ifCond .eq 11, 3) := by decide +kernel
theorem dX9_readLine_201 : decode cX9_readLine 201 = .ok (.aload_n 0, 1) := by decide +kernel
theorem dX9_readLine_202 : decode cX9_readLine 202 = .ok (.iconst 1, 1) := by decide +kernel
theorem dX9_readLine_203 : decode cX9_readLine 203 = .ok (.invokevirtual 197, 3) := by decide +kernel
theorem dX9_readLine_206 : decode cX9_readLine 206 = .ok (.goto 46, 3) := by decide +kernel
theorem dX9_readLine_209 : decode cX9_readLine 209 = .ok (.aload_n 0, 1) := by decide +kernel
theorem dX9_readLine_210 : decode cX9_readLine 210 = .ok (.ldc 127, 2) := by decide +kernel
theorem dX9_readLine_212 : decode cX9_readLine 212 = .ok (.aload_n 0, 1) := by decide +kernel
theorem dX9_readLine_213 : decode cX9_readLine 213 = .ok (.getfield 23, 3) := by decide +kernel
theorem dX9_readLine_216 : decode cX9_readLine 216 = .ok (.bipush 7, 2) := by decide +kernel
theorem dX9_readLine_218 : decode cX9_readLine 218 = .ok (.iaload, 1) := by decide +kernel
theorem dX9_readLine_219 : decode cX9_readLine 219 = .ok (.bipush 6, 2) := by decide +kernel
theorem dX9_readLine_221 : decode cX9_readLine 221 = .ok (.if_icmp .ge 7, 3) := by decide +kernel
theorem dX9_readLine_224 : decode cX9_readLine 224 = .ok (.iconst 1, 1) := by decide +kernel
theorem dX9_readLine_225 : decode cX9_readLine 225 = .ok (.goto 4, 3) := by decide +kernel
theorem dX9_readLine_228 : decode cX9_readLine 228 = .ok (.iconst 0, 1) := by decide +kernel
theorem dX9_readLine_229 : decode cX9_readLine 229 = .ok (.invokevirtual 178, 3) := by decide +kernel
theorem dX9_readLine_232 : decode cX9_readLine 232 = .ok (.ifCond .eq 11, 3) := by decide +kernel
theorem dX9_readLine_235 : decode cX9_readLine 235 = .ok (.aload_n 0, 1) := by decide +kernel
theorem dX9_readLine_236 : decode cX9_readLine 236 = .ok (.iconst 0, 1) := by decide +kernel
theorem dX9_readLine_237 : decode cX9_readLine 237 = .ok (.invokevirtual 197, 3) := by decide +kernel
theorem dX9_readLine_240 : decode cX9_readLine 240 = .ok (.goto 12, 3) := by decide +kernel
theorem dX9_readLine_243 : decode cX9_readLine 243 = .ok (.aload_n 0, 1) := by decide +kernel
theorem dX9_readLine_244 : decode cX9_readLine 244 = .ok (.iconst 1, 1) := by decide +kernel
theorem dX9_readLine_245 : decode cX9_readLine 245 = .ok (.aload_n 0, 1) := by decide +kernel
theorem dX9_readLine_246 : decode cX9_readLine 246 = .ok (.getfield 63, 3) := by decide +kernel
theorem dX9_readLine_249 : decode cX9_readLine 249 = .ok (.invokevirtual 109, 3) := by decide +kernel
theorem dX9_readLine_252 : decode cX9_readLine 252 = .ok (.return_, 1) := by decide +kernel
set_option maxRecDepth 20000 in
theorem ggX9_houseLine_X9_wrong : GoodIn wsX9_houseLine wsX9_wrong := goodIn_r _ [8, 3, 9, 10, 108, 109, 110, 111, 112, 113, 114, 115, 116, 117, 118, 119, 120, 121, 122, 123, 124, 125, 126, 127, 128, 129, 130, 131, 132, 133, 134, 135, 136] (by decide +kernel) (by decide +kernel)
set_option maxRecDepth 20000 in
theorem gX9_houseLine_X9_wrong : GoodIn wsX9_houseLine (wsV RX9 109 RX9 yX9_wrong wsX9_wrong) := goodIn_app (goodIn_of _ (by decide +kernel)) ggX9_houseLine_X9_wrong
set_option maxRecDepth 20000 in
theorem ggX9_houseLine_X9_next : GoodIn wsX9_houseLine wsX9_next := goodIn_r _ [14, 15, 2, 16, 17, 18, 19, 20, 21, 22, 7, 23, 24, 25, 26, 27, 28, 29, 30, 31, 108, 109, 110, 111, 112, 113, 114, 115, 116, 117, 118, 119, 120, 121, 122, 123, 124, 125, 126, 127, 128, 129, 130, 131, 132, 133, 134, 135, 136] (by decide +kernel) (by decide +kernel)
set_option maxRecDepth 20000 in
theorem gX9_houseLine_X9_next : GoodIn wsX9_houseLine (wsV RX9 103 RX9 yX9_next wsX9_next) := goodIn_app (goodIn_of _ (by decide +kernel)) ggX9_houseLine_X9_next
set_option maxRecDepth 20000 in
theorem ggX9_houseLine_X9_after : GoodIn wsX9_houseLine wsX9_after := goodIn_r _ [35, 36, 37, 38, 7, 39, 3, 2, 40, 41, 42, 43, 44, 45, 46, 47, 18, 16, 19, 48, 49, 50, 51, 52, 53, 54, 55, 56, 57, 58, 59, 60, 61, 62, 63, 64, 65, 66, 67, 68, 69, 70, 71, 72, 73, 74, 75, 76, 77, 78, 79, 80, 81, 82, 83, 84, 85, 86, 87, 88, 89, 90, 91, 92, 93, 94, 95, 96, 11, 12, 13, 14, 15, 17, 20, 21, 22, 23, 24, 25, 26, 27, 28, 29, 30, 31, 4, 5, 6, 8, 9, 10, 97, 98, 99, 100, 101, 102, 103, 104, 105, 106, 107, 108, 109, 110, 111, 112, 113, 114, 115, 116, 117, 118, 119, 120, 121, 122, 123, 124, 125, 126, 127, 128, 129, 130, 131, 132, 133, 134, 135, 136] (by decide +kernel) (by decide +kernel)
set_option maxRecDepth 20000 in
theorem gX9_houseLine_X9_after : GoodIn wsX9_houseLine (wsV RX9 203 RX9 yX9_after wsX9_after) := goodIn_app (goodIn_of _ (by decide +kernel)) ggX9_houseLine_X9_after
theorem dX9_houseLine_0 : decode cX9_houseLine 0 = .ok (.aload_n 0, 1) := by decide +kernel
theorem dX9_houseLine_1 : decode cX9_houseLine 1 = .ok (.getfield 23, 3) := by decide +kernel
theorem dX9_houseLine_4 : decode cX9_houseLine 4 = .ok (.iconst 0, 1) := by decide +kernel
theorem dX9_houseLine_5 : decode cX9_houseLine 5 = .ok (.iaload, 1) := by decide +kernel
theorem dX9_houseLine_6 : decode cX9_houseLine 6 = .ok (.ifCond .le 12, 3) := by decide +kernel
theorem dX9_houseLine_9 : decode cX9_houseLine 9 = .ok (.aload_n 0, 1) := by decide +kernel
theorem dX9_houseLine_10 : decode cX9_houseLine 10 = .ok (.iconst 3, 1) := by decide +kernel
theorem dX9_houseLine_11 : decode cX9_houseLine 11 = .ok (.aload_n 0, 1) := by decide +kernel
theorem dX9_houseLine_12 : decode cX9_houseLine 12 = .ok (.getfield 63, 3) := by decide +kernel
theorem dX9_houseLine_15 : decode cX9_houseLine 15 = .ok (.invokevirtual 109, 3) := by decide +kernel
theorem dX9_houseLine_18 : decode cX9_houseLine 18 = .ok (.aload_n 0, 1) := by decide +kernel
theorem dX9_houseLine_19 : decode cX9_houseLine 19 = .ok (.getfield 82, 3) := by decide +kernel
theorem dX9_houseLine_22 : decode cX9_houseLine 22 = .ok (.ifCond .eq 4, 3) := by decide +kernel
theorem dX9_houseLine_25 : decode cX9_houseLine 25 = .ok (.return_, 1) := by decide +kernel
theorem dX9_houseLine_26 : decode cX9_houseLine 26 = .ok (.aload_n 0, 1) := by decide +kernel
theorem dX9_houseLine_27 : decode cX9_houseLine 27 = .ok (.invokevirtual 103, 3) := by decide +kernel
theorem dX9_houseLine_30 : decode cX9_houseLine 30 = .ok (.aload_n 0, 1) := by decide +kernel
theorem dX9_houseLine_31 : decode cX9_houseLine 31 = .ok (.ldc 201, 2) := by decide +kernel
theorem dX9_houseLine_33 : decode cX9_houseLine 33 = .ok (.iconst 1, 1) := by decide +kernel
theorem dX9_houseLine_34 : decode cX9_houseLine 34 = .ok (.iconst 5, 1) := by decide +kernel
theorem dX9_houseLine_35 : decode cX9_houseLine 35 = .ok (.invokevirtual 203, 3) := by decide +kernel
theorem dX9_houseLine_38 : decode cX9_houseLine 38 = .ok (.istore_n 1, 1) := by decide +kernel
theorem dX9_houseLine_39 : decode cX9_houseLine 39 = .ok (.aload_n 0, 1) := by decide +kernel
theorem dX9_houseLine_40 : decode cX9_houseLine 40 = .ok (.getfield 23, 3) := by decide +kernel
theorem dX9_houseLine_43 : decode cX9_houseLine 43 = .ok (.iconst 1, 1) := by decide +kernel
theorem dX9_houseLine_44 : decode cX9_houseLine 44 = .ok (.aload_n 0, 1) := by decide +kernel
theorem dX9_houseLine_45 : decode cX9_houseLine 45 = .ok (.ldc 207, 2) := by decide +kernel
theorem dX9_houseLine_47 : decode cX9_houseLine 47 = .ok (.iconst 0, 1) := by decide +kernel
theorem dX9_houseLine_48 : decode cX9_houseLine 48 = .ok (.bipush 100, 2) := by decide +kernel
theorem dX9_houseLine_50 : decode cX9_houseLine 50 = .ok (.invokevirtual 203, 3) := by decide +kernel
theorem dX9_houseLine_53 : decode cX9_houseLine 53 = .ok (.iastore, 1) := by decide +kernel
theorem dX9_houseLine_54 : decode cX9_houseLine 54 = .ok (.aload_n 0, 1) := by decide +kernel
theorem dX9_houseLine_55 : decode cX9_houseLine 55 = .ok (.getfield 82, 3) := by decide +kernel
theorem dX9_houseLine_58 : decode cX9_houseLine 58 = .ok (.ifCond .ne 10, 3) := by decide +kernel
theorem dX9_houseLine_61 : decode cX9_houseLine 61 = .ok (.aload_n 0, 1) := by decide +kernel
theorem dX9_houseLine_62 : decode cX9_houseLine 62 = .ok (.getfield 23, 3) := by decide +kernel
theorem dX9_houseLine_65 : decode cX9_houseLine 65 = .ok (.iconst 0, 1) := by decide +kernel
theorem dX9_houseLine_66 : decode cX9_houseLine 66 = .ok (.iload_n 1, 1) := by decide +kernel
theorem dX9_houseLine_67 : decode cX9_houseLine 67 = .ok (.iastore, 1) := by decide +kernel
theorem dX9_houseLine_68 : decode cX9_houseLine 68 = .ok (.return_, 1) := by decide +kernel
set_option maxRecDepth 20000 in
theorem ggX9_ringLine_X9_newName : GoodIn wsX9_ringLine wsX9_newName := goodIn_r _ [8, 1, 3, 9, 2, 10, 11, 12, 13, 7, 14, 15, 16, 17, 18, 19, 20, 21, 22, 23, 24, 25, 26, 27, 28, 29, 30, 31, 32, 33, 34, 35, 36, 37, 38, 39, 40, 41, 42, 43, 44, 45, 46, 47, 48, 49, 50, 51, 52, 53, 54, 55, 56, 57, 58, 59, 60, 61, 62, 63, 64, 65, 66, 67, 68, 69, 70, 71, 72, 73, 74, 75, 76, 77, 78, 79, 80, 81, 82, 83, 84, 85, 86, 87, 88, 89, 90, 91, 92, 93, 94, 95, 96, 120, 121, 122, 123, 124, 125, 126, 127, 128, 129, 130, 131, 132, 133, 134, 135, 136, 137, 138, 139, 140, 141, 142, 143, 144, 145, 146, 147, 148] (by decide +kernel) (by decide +kernel)
set_option maxRecDepth 20000 in
theorem gX9_ringLine_X9_newName : GoodIn wsX9_ringLine (wsV RX9 209 RX9 yX9_newName wsX9_newName) := goodIn_app (goodIn_of _ (by decide +kernel)) ggX9_ringLine_X9_newName
set_option maxRecDepth 20000 in
theorem ggX9_ringLine_X9_isWord : GoodIn wsX9_ringLine wsX9_isWord := goodIn_r _ [19, 1, 15, 9, 10, 20, 21, 22, 23, 24, 25, 26, 27, 28, 29, 30, 31, 32, 33, 34, 35, 36, 37, 38, 39, 40, 41, 42, 43, 44, 45, 46, 47, 48, 49, 50, 51, 52, 53, 54, 55, 56, 57, 58, 59, 60, 61, 62, 63, 64, 65, 66, 67, 68, 120, 121, 122, 123, 124, 125, 126, 127, 128, 129, 130, 131, 132, 133, 134, 135, 136, 137, 138, 139, 140, 141, 142, 143, 144, 145, 146, 147, 148] (by decide +kernel) (by decide +kernel)
set_option maxRecDepth 20000 in
theorem gX9_ringLine_X9_isWord : GoodIn wsX9_ringLine (wsV RX9 99 RX9 yX9_isWord wsX9_isWord) := goodIn_app (goodIn_of _ (by decide +kernel)) ggX9_ringLine_X9_isWord
set_option maxRecDepth 20000 in
theorem ggX9_ringLine_X9_wrong : GoodIn wsX9_ringLine wsX9_wrong := goodIn_r _ [72, 1, 73, 74, 120, 121, 122, 123, 124, 125, 126, 127, 128, 129, 130, 131, 132, 133, 134, 135, 136, 137, 138, 139, 140, 141, 142, 143, 144, 145, 146, 147, 148] (by decide +kernel) (by decide +kernel)
set_option maxRecDepth 20000 in
theorem gX9_ringLine_X9_wrong : GoodIn wsX9_ringLine (wsV RX9 109 RX9 yX9_wrong wsX9_wrong) := goodIn_app (goodIn_of _ (by decide +kernel)) ggX9_ringLine_X9_wrong
set_option maxRecDepth 20000 in
theorem ggX9_ringLine_X9_next : GoodIn wsX9_ringLine wsX9_next := goodIn_r _ [82, 83, 3, 9, 84, 15, 10, 85, 86, 87, 7, 88, 89, 90, 91, 92, 93, 94, 95, 96, 120, 121, 122, 123, 124, 125, 126, 127, 128, 129, 130, 131, 132, 133, 134, 135, 136, 137, 138, 139, 140, 141, 142, 143, 144, 145, 146, 147, 148] (by decide +kernel) (by decide +kernel)
set_option maxRecDepth 20000 in
theorem gX9_ringLine_X9_next : GoodIn wsX9_ringLine (wsV RX9 103 RX9 yX9_next wsX9_next) := goodIn_app (goodIn_of _ (by decide +kernel)) ggX9_ringLine_X9_next
set_option maxRecDepth 20000 in
theorem ggX9_ringLine_X9_after : GoodIn wsX9_ringLine wsX9_after := goodIn_r _ [100, 101, 102, 103, 7, 104, 1, 3, 105, 106, 107, 108, 16, 17, 18, 19, 15, 9, 10, 20, 21, 22, 23, 24, 25, 26, 27, 28, 29, 30, 31, 32, 33, 34, 35, 36, 37, 38, 39, 40, 41, 42, 43, 44, 45, 46, 47, 48, 49, 50, 51, 52, 53, 54, 55, 56, 57, 58, 59, 60, 61, 62, 63, 64, 65, 66, 67, 68, 79, 80, 81, 82, 83, 84, 85, 86, 87, 88, 89, 90, 91, 92, 93, 94, 95, 96, 69, 70, 71, 72, 73, 74, 109, 110, 111, 112, 113, 114, 115, 116, 117, 118, 119, 120, 121, 122, 123, 124, 125, 126, 127, 128, 129, 130, 131, 132, 133, 134, 135, 136, 137, 138, 139, 140, 141, 142, 143, 144, 145, 146, 147, 148] (by decide +kernel) (by decide +kernel)
set_option maxRecDepth 20000 in
theorem gX9_ringLine_X9_after : GoodIn wsX9_ringLine (wsV RX9 203 RX9 yX9_after wsX9_after) := goodIn_app (goodIn_of _ (by decide +kernel)) ggX9_ringLine_X9_after
theorem dX9_ringLine_0 : decode cX9_ringLine 0 = .ok (.aload_n 0, 1) := by decide +kernel
theorem dX9_ringLine_1 : decode cX9_ringLine 1 = .ok (.getfield 82, 3) := by decide +kernel
theorem dX9_ringLine_4 : decode cX9_ringLine 4 = .ok (.ifCond .eq 4, 3) := by decide +kernel
theorem dX9_ringLine_7 : decode cX9_ringLine 7 = .ok (.return_, 1) := by decide +kernel
theorem dX9_ringLine_8 : decode cX9_ringLine 8 = .ok (.bipush 8, 2) := by decide +kernel
theorem dX9_ringLine_10 : decode cX9_ringLine 10 = .ok (.iconst 2, 1) := by decide +kernel
theorem dX9_ringLine_11 : decode cX9_ringLine 11 = .ok (.aload_n 0, 1) := by decide +kernel
theorem dX9_ringLine_12 : decode cX9_ringLine 12 = .ok (.getfield 23, 3) := by decide +kernel
theorem dX9_ringLine_15 : decode cX9_ringLine 15 = .ok (.iconst 2, 1) := by decide +kernel
theorem dX9_ringLine_16 : decode cX9_ringLine 16 = .ok (.iaload, 1) := by decide +kernel
theorem dX9_ringLine_17 : decode cX9_ringLine 17 = .ok (.imul, 1) := by decide +kernel
theorem dX9_ringLine_18 : decode cX9_ringLine 18 = .ok (.iadd, 1) := by decide +kernel
theorem dX9_ringLine_19 : decode cX9_ringLine 19 = .ok (.istore_n 1, 1) := by decide +kernel
theorem dX9_ringLine_20 : decode cX9_ringLine 20 = .ok (.aload_n 0, 1) := by decide +kernel
theorem dX9_ringLine_21 : decode cX9_ringLine 21 = .ok (.aload_n 0, 1) := by decide +kernel
theorem dX9_ringLine_22 : decode cX9_ringLine 22 = .ok (.getfield 23, 3) := by decide +kernel
theorem dX9_ringLine_25 : decode cX9_ringLine 25 = .ok (.iconst 2, 1) := by decide +kernel
theorem dX9_ringLine_26 : decode cX9_ringLine 26 = .ok (.iaload, 1) := by decide +kernel
theorem dX9_ringLine_27 : decode cX9_ringLine 27 = .ok (.invokevirtual 209, 3) := by decide +kernel
theorem dX9_ringLine_30 : decode cX9_ringLine 30 = .ok (.aload_n 0, 1) := by decide +kernel
theorem dX9_ringLine_31 : decode cX9_ringLine 31 = .ok (.ldc 212, 2) := by decide +kernel
theorem dX9_ringLine_33 : decode cX9_ringLine 33 = .ok (.invokevirtual 99, 3) := by decide +kernel
theorem dX9_ringLine_36 : decode cX9_ringLine 36 = .ok (.ifCond .eq 7, 3) := by decide +kernel
theorem dX9_ringLine_39 : decode cX9_ringLine 39 = .ok (.iconst 0, 1) := by decide +kernel
theorem dX9_ringLine_40 : decode cX9_ringLine 40 = .ok (.goto 30, 3) := by decide +kernel
theorem dX9_ringLine_43 : decode cX9_ringLine 43 = .ok (.aload_n 0, 1) := by decide +kernel
theorem dX9_ringLine_44 : decode cX9_ringLine 44 = .ok (.ldc 201, 2) := by decide +kernel
theorem dX9_ringLine_46 : decode cX9_ringLine 46 = .ok (.invokevirtual 99, 3) := by decide +kernel
theorem dX9_ringLine_49 : decode cX9_ringLine 49 = .ok (.ifCond .eq 7, 3) := by decide +kernel
theorem dX9_ringLine_52 : decode cX9_ringLine 52 = .ok (.iconst 1, 1) := by decide +kernel
theorem dX9_ringLine_53 : decode cX9_ringLine 53 = .ok (.goto 17, 3) := by decide +kernel
theorem dX9_ringLine_56 : decode cX9_ringLine 56 = .ok (.aload_n 0, 1) := by decide +kernel
theorem dX9_ringLine_57 : decode cX9_ringLine 57 = .ok (.ldc 214, 2) := by decide +kernel
theorem dX9_ringLine_59 : decode cX9_ringLine 59 = .ok (.invokevirtual 99, 3) := by decide +kernel
theorem dX9_ringLine_62 : decode cX9_ringLine 62 = .ok (.ifCond .eq 7, 3) := by decide +kernel
theorem dX9_ringLine_65 : decode cX9_ringLine 65 = .ok (.iconst 2, 1) := by decide +kernel
theorem dX9_ringLine_66 : decode cX9_ringLine 66 = .ok (.goto 4, 3) := by decide +kernel
theorem dX9_ringLine_69 : decode cX9_ringLine 69 = .ok (.iconst (-1), 1) := by decide +kernel
theorem dX9_ringLine_70 : decode cX9_ringLine 70 = .ok (.istore_n 2, 1) := by decide +kernel
theorem dX9_ringLine_71 : decode cX9_ringLine 71 = .ok (.iload_n 2, 1) := by decide +kernel
theorem dX9_ringLine_72 : decode cX9_ringLine 72 = .ok (.ifCond .ge 12, 3) := by decide +kernel
theorem dX9_ringLine_75 : decode cX9_ringLine 75 = .ok (.aload_n 0, 1) := by decide +kernel
theorem dX9_ringLine_76 : decode cX9_ringLine 76 = .ok (.iconst 1, 1) := by decide +kernel
theorem dX9_ringLine_77 : decode cX9_ringLine 77 = .ok (.aload_n 0, 1) := by decide +kernel
theorem dX9_ringLine_78 : decode cX9_ringLine 78 = .ok (.getfield 63, 3) := by decide +kernel
theorem dX9_ringLine_81 : decode cX9_ringLine 81 = .ok (.invokevirtual 109, 3) := by decide +kernel
theorem dX9_ringLine_84 : decode cX9_ringLine 84 = .ok (.aload_n 0, 1) := by decide +kernel
theorem dX9_ringLine_85 : decode cX9_ringLine 85 = .ok (.getfield 82, 3) := by decide +kernel
theorem dX9_ringLine_88 : decode cX9_ringLine 88 = .ok (.ifCond .eq 4, 3) := by decide +kernel
theorem dX9_ringLine_91 : decode cX9_ringLine 91 = .ok (.return_, 1) := by decide +kernel
theorem dX9_ringLine_92 : decode cX9_ringLine 92 = .ok (.aload_n 0, 1) := by decide +kernel
theorem dX9_ringLine_93 : decode cX9_ringLine 93 = .ok (.invokevirtual 103, 3) := by decide +kernel
theorem dX9_ringLine_96 : decode cX9_ringLine 96 = .ok (.aload_n 0, 1) := by decide +kernel
theorem dX9_ringLine_97 : decode cX9_ringLine 97 = .ok (.getfield 23, 3) := by decide +kernel
theorem dX9_ringLine_100 : decode cX9_ringLine 100 = .ok (.iload_n 1, 1) := by decide +kernel
theorem dX9_ringLine_101 : decode cX9_ringLine 101 = .ok (.iload_n 2, 1) := by decide +kernel
theorem dX9_ringLine_102 : decode cX9_ringLine 102 = .ok (.iastore, 1) := by decide +kernel
theorem dX9_ringLine_103 : decode cX9_ringLine 103 = .ok (.aload_n 0, 1) := by decide +kernel
theorem dX9_ringLine_104 : decode cX9_ringLine 104 = .ok (.getfield 23, 3) := by decide +kernel
theorem dX9_ringLine_107 : decode cX9_ringLine 107 = .ok (.iload_n 1, 1) := by decide +kernel
theorem dX9_ringLine_108 : decode cX9_ringLine 108 = .ok (.iconst 1, 1) := by decide +kernel
theorem dX9_ringLine_109 : decode cX9_ringLine 109 = .ok (.iadd, 1) := by decide +kernel
theorem dX9_ringLine_110 : decode cX9_ringLine 110 = .ok (.aload_n 0, 1) := by decide +kernel
theorem dX9_ringLine_111 : decode cX9_ringLine 111 = .ok (.ldc 216, 2) := by decide +kernel
theorem dX9_ringLine_113 : decode cX9_ringLine 113 = .ok (.iconst 2, 1) := by decide +kernel
theorem dX9_ringLine_114 : decode cX9_ringLine 114 = .ok (.bipush 9, 2) := by decide +kernel
theorem dX9_ringLine_116 : decode cX9_ringLine 116 = .ok (.invokevirtual 203, 3) := by decide +kernel
theorem dX9_ringLine_119 : decode cX9_ringLine 119 = .ok (.iastore, 1) := by decide +kernel
theorem dX9_ringLine_120 : decode cX9_ringLine 120 = .ok (.aload_n 0, 1) := by decide +kernel
theorem dX9_ringLine_121 : decode cX9_ringLine 121 = .ok (.getfield 82, 3) := by decide +kernel
theorem dX9_ringLine_124 : decode cX9_ringLine 124 = .ok (.ifCond .ne 13, 3) := by decide +kernel
theorem dX9_ringLine_127 : decode cX9_ringLine 127 = .ok (.aload_n 0, 1) := by decide +kernel
theorem dX9_ringLine_128 : decode cX9_ringLine 128 = .ok (.getfield 23, 3) := by decide +kernel
theorem dX9_ringLine_131 : decode cX9_ringLine 131 = .ok (.iconst 2, 1) := by decide +kernel
theorem dX9_ringLine_132 : decode cX9_ringLine 132 = .ok (.dup2, 1) := by decide +kernel
theorem dX9_ringLine_133 : decode cX9_ringLine 133 = .ok (.iaload, 1) := by decide +kernel
theorem dX9_ringLine_134 : decode cX9_ringLine 134 = .ok (.iconst 1, 1) := by decide +kernel
theorem dX9_ringLine_135 : decode cX9_ringLine 135 = .ok (.iadd, 1) := by decide +kernel
theorem dX9_ringLine_136 : decode cX9_ringLine 136 = .ok (.iastore, 1) := by decide +kernel
theorem dX9_ringLine_137 : decode cX9_ringLine 137 = .ok (.return_, 1) := by decide +kernel
set_option maxRecDepth 20000 in
theorem ggX9_narrowLine_X9_ringName : GoodIn wsX9_narrowLine wsX9_ringName := goodIn_r _ [8, 9, 10, 11, 7, 12, 1, 3, 13, 14, 15, 16, 17, 18, 19, 20, 21, 22, 23, 24, 25, 26, 27, 28, 29, 30, 31, 32, 33, 34, 35, 36, 37, 38, 39, 40, 41, 42, 43, 44, 45, 46, 47, 48, 49, 50, 51, 52, 53, 54, 55, 56, 57, 58, 59, 60, 61, 62, 63, 64, 65, 66, 67, 68, 69, 70, 71, 72, 73, 74, 75, 76, 77, 78, 79, 80, 81, 82, 2, 83, 84, 85, 86, 87, 88, 89, 90, 91, 92, 93, 94, 95, 96, 97, 98, 99, 100, 101, 102, 103, 128, 129, 130, 131, 132, 133, 134, 135, 136, 137, 138, 139, 140, 141, 142, 143, 144, 145, 146, 147, 148, 149, 150, 151, 152, 153, 154, 155, 156] (by decide +kernel) (by decide +kernel)
set_option maxRecDepth 20000 in
theorem gX9_narrowLine_X9_ringName : GoodIn wsX9_narrowLine (wsV RX9 218 RX9 yX9_ringName wsX9_ringName) := goodIn_app (goodIn_of _ (by decide +kernel)) ggX9_narrowLine_X9_ringName
set_option maxRecDepth 20000 in
theorem ggX9_narrowLine_X9_placeHere : GoodIn wsX9_narrowLine wsX9_placeHere := goodIn_r _ [107, 2, 108, 109, 110, 7, 111, 1, 17, 3, 91, 73, 74, 75, 76, 77, 78, 83, 84, 85, 128, 129, 130, 131, 132, 133, 134, 135, 136, 137, 138, 139, 140, 141, 142, 143, 144, 145, 146, 147, 148, 149, 150, 151, 152, 153, 154, 155, 156] (by decide +kernel) (by decide +kernel)
set_option maxRecDepth 20000 in
theorem gX9_narrowLine_X9_placeHere : GoodIn wsX9_narrowLine (wsV RX9 221 RX9 yX9_placeHere wsX9_placeHere) := goodIn_app (goodIn_of _ (by decide +kernel)) ggX9_narrowLine_X9_placeHere
set_option maxRecDepth 20000 in
theorem ggX9_narrowLine_X9_wrong : GoodIn wsX9_narrowLine wsX9_wrong := goodIn_r _ [76, 1, 77, 78, 128, 129, 130, 131, 132, 133, 134, 135, 136, 137, 138, 139, 140, 141, 142, 143, 144, 145, 146, 147, 148, 149, 150, 151, 152, 153, 154, 155, 156] (by decide +kernel) (by decide +kernel)
set_option maxRecDepth 20000 in
theorem gX9_narrowLine_X9_wrong : GoodIn wsX9_narrowLine (wsV RX9 109 RX9 yX9_wrong wsX9_wrong) := goodIn_app (goodIn_of _ (by decide +kernel)) ggX9_narrowLine_X9_wrong
set_option maxRecDepth 20000 in
theorem ggX9_narrowLine_X9_next : GoodIn wsX9_narrowLine wsX9_next := goodIn_r _ [89, 90, 3, 22, 91, 17, 23, 92, 93, 94, 7, 95, 96, 97, 98, 99, 100, 101, 102, 103, 128, 129, 130, 131, 132, 133, 134, 135, 136, 137, 138, 139, 140, 141, 142, 143, 144, 145, 146, 147, 148, 149, 150, 151, 152, 153, 154, 155, 156] (by decide +kernel) (by decide +kernel)
set_option maxRecDepth 20000 in
theorem gX9_narrowLine_X9_next : GoodIn wsX9_narrowLine (wsV RX9 103 RX9 yX9_next wsX9_next) := goodIn_app (goodIn_of _ (by decide +kernel)) ggX9_narrowLine_X9_next
set_option maxRecDepth 20000 in
theorem ggX9_narrowLine_X9_after : GoodIn wsX9_narrowLine wsX9_after := goodIn_r _ [115, 116, 117, 118, 7, 119, 1, 3, 120, 121, 122, 123, 18, 19, 20, 21, 17, 22, 23, 24, 25, 26, 27, 28, 29, 30, 31, 32, 33, 34, 35, 36, 37, 38, 39, 40, 41, 42, 43, 44, 45, 46, 47, 48, 49, 50, 51, 52, 53, 54, 55, 56, 57, 58, 59, 60, 61, 62, 63, 64, 65, 66, 67, 68, 69, 70, 71, 72, 86, 87, 88, 89, 90, 91, 92, 93, 94, 95, 96, 97, 98, 99, 100, 101, 102, 103, 73, 74, 75, 76, 77, 78, 124, 125, 126, 127, 108, 109, 110, 111, 83, 84, 85, 128, 129, 130, 131, 132, 133, 134, 135, 136, 137, 138, 139, 140, 141, 142, 143, 144, 145, 146, 147, 148, 149, 150, 151, 152, 153, 154, 155, 156] (by decide +kernel) (by decide +kernel)
set_option maxRecDepth 20000 in
theorem gX9_narrowLine_X9_after : GoodIn wsX9_narrowLine (wsV RX9 203 RX9 yX9_after wsX9_after) := goodIn_app (goodIn_of _ (by decide +kernel)) ggX9_narrowLine_X9_after
theorem dX9_narrowLine_0 : decode cX9_narrowLine 0 = .ok (.aload_n 0, 1) := by decide +kernel
theorem dX9_narrowLine_1 : decode cX9_narrowLine 1 = .ok (.getfield 82, 3) := by decide +kernel
theorem dX9_narrowLine_4 : decode cX9_narrowLine 4 = .ok (.ifCond .eq 4, 3) := by decide +kernel
theorem dX9_narrowLine_7 : decode cX9_narrowLine 7 = .ok (.return_, 1) := by decide +kernel
theorem dX9_narrowLine_8 : decode cX9_narrowLine 8 = .ok (.aload_n 0, 1) := by decide +kernel
theorem dX9_narrowLine_9 : decode cX9_narrowLine 9 = .ok (.invokevirtual 218, 3) := by decide +kernel
theorem dX9_narrowLine_12 : decode cX9_narrowLine 12 = .ok (.istore_n 1, 1) := by decide +kernel
theorem dX9_narrowLine_13 : decode cX9_narrowLine 13 = .ok (.aload_n 0, 1) := by decide +kernel
theorem dX9_narrowLine_14 : decode cX9_narrowLine 14 = .ok (.getfield 82, 3) := by decide +kernel
theorem dX9_narrowLine_17 : decode cX9_narrowLine 17 = .ok (.ifCond .eq 4, 3) := by decide +kernel
theorem dX9_narrowLine_20 : decode cX9_narrowLine 20 = .ok (.return_, 1) := by decide +kernel
theorem dX9_narrowLine_21 : decode cX9_narrowLine 21 = .ok (.aload_n 0, 1) := by decide +kernel
theorem dX9_narrowLine_22 : decode cX9_narrowLine 22 = .ok (.iload_n 1, 1) := by decide +kernel
theorem dX9_narrowLine_23 : decode cX9_narrowLine 23 = .ok (.invokevirtual 221, 3) := by decide +kernel
theorem dX9_narrowLine_26 : decode cX9_narrowLine 26 = .ok (.istore_n 2, 1) := by decide +kernel
theorem dX9_narrowLine_27 : decode cX9_narrowLine 27 = .ok (.aload_n 0, 1) := by decide +kernel
theorem dX9_narrowLine_28 : decode cX9_narrowLine 28 = .ok (.getfield 82, 3) := by decide +kernel
theorem dX9_narrowLine_31 : decode cX9_narrowLine 31 = .ok (.ifCond .ne 24, 3) := by decide +kernel
theorem dX9_narrowLine_34 : decode cX9_narrowLine 34 = .ok (.aload_n 0, 1) := by decide +kernel
theorem dX9_narrowLine_35 : decode cX9_narrowLine 35 = .ok (.getfield 23, 3) := by decide +kernel
theorem dX9_narrowLine_38 : decode cX9_narrowLine 38 = .ok (.bipush 16, 2) := by decide +kernel
theorem dX9_narrowLine_40 : decode cX9_narrowLine 40 = .ok (.iload_n 2, 1) := by decide +kernel
theorem dX9_narrowLine_41 : decode cX9_narrowLine 41 = .ok (.iadd, 1) := by decide +kernel
theorem dX9_narrowLine_42 : decode cX9_narrowLine 42 = .ok (.iaload, 1) := by decide +kernel
theorem dX9_narrowLine_43 : decode cX9_narrowLine 43 = .ok (.ifCond .le 12, 3) := by decide +kernel
theorem dX9_narrowLine_46 : decode cX9_narrowLine 46 = .ok (.aload_n 0, 1) := by decide +kernel
theorem dX9_narrowLine_47 : decode cX9_narrowLine 47 = .ok (.iconst 3, 1) := by decide +kernel
theorem dX9_narrowLine_48 : decode cX9_narrowLine 48 = .ok (.aload_n 0, 1) := by decide +kernel
theorem dX9_narrowLine_49 : decode cX9_narrowLine 49 = .ok (.getfield 63, 3) := by decide +kernel
theorem dX9_narrowLine_52 : decode cX9_narrowLine 52 = .ok (.invokevirtual 109, 3) := by decide +kernel
theorem dX9_narrowLine_55 : decode cX9_narrowLine 55 = .ok (.aload_n 0, 1) := by decide +kernel
theorem dX9_narrowLine_56 : decode cX9_narrowLine 56 = .ok (.getfield 82, 3) := by decide +kernel
theorem dX9_narrowLine_59 : decode cX9_narrowLine 59 = .ok (.ifCond .eq 4, 3) := by decide +kernel
theorem dX9_narrowLine_62 : decode cX9_narrowLine 62 = .ok (.return_, 1) := by decide +kernel
theorem dX9_narrowLine_63 : decode cX9_narrowLine 63 = .ok (.aload_n 0, 1) := by decide +kernel
theorem dX9_narrowLine_64 : decode cX9_narrowLine 64 = .ok (.invokevirtual 103, 3) := by decide +kernel
theorem dX9_narrowLine_67 : decode cX9_narrowLine 67 = .ok (.aload_n 0, 1) := by decide +kernel
theorem dX9_narrowLine_68 : decode cX9_narrowLine 68 = .ok (.ldc 224, 2) := by decide +kernel
theorem dX9_narrowLine_70 : decode cX9_narrowLine 70 = .ok (.iconst 0, 1) := by decide +kernel
theorem dX9_narrowLine_71 : decode cX9_narrowLine 71 = .ok (.bipush 9, 2) := by decide +kernel
theorem dX9_narrowLine_73 : decode cX9_narrowLine 73 = .ok (.invokevirtual 203, 3) := by decide +kernel
theorem dX9_narrowLine_76 : decode cX9_narrowLine 76 = .ok (.istore_n 3, 1) := by decide +kernel
theorem dX9_narrowLine_77 : decode cX9_narrowLine 77 = .ok (.aload_n 0, 1) := by decide +kernel
theorem dX9_narrowLine_78 : decode cX9_narrowLine 78 = .ok (.getfield 82, 3) := by decide +kernel
theorem dX9_narrowLine_81 : decode cX9_narrowLine 81 = .ok (.ifCond .eq 4, 3) := by decide +kernel
theorem dX9_narrowLine_84 : decode cX9_narrowLine 84 = .ok (.return_, 1) := by decide +kernel
theorem dX9_narrowLine_85 : decode cX9_narrowLine 85 = .ok (.aload_n 0, 1) := by decide +kernel
theorem dX9_narrowLine_86 : decode cX9_narrowLine 86 = .ok (.getfield 23, 3) := by decide +kernel
theorem dX9_narrowLine_89 : decode cX9_narrowLine 89 = .ok (.bipush 16, 2) := by decide +kernel
theorem dX9_narrowLine_91 : decode cX9_narrowLine 91 = .ok (.iload_n 2, 1) := by decide +kernel
theorem dX9_narrowLine_92 : decode cX9_narrowLine 92 = .ok (.iadd, 1) := by decide +kernel
theorem dX9_narrowLine_93 : decode cX9_narrowLine 93 = .ok (.iload_n 3, 1) := by decide +kernel
theorem dX9_narrowLine_94 : decode cX9_narrowLine 94 = .ok (.iconst 1, 1) := by decide +kernel
theorem dX9_narrowLine_95 : decode cX9_narrowLine 95 = .ok (.iadd, 1) := by decide +kernel
theorem dX9_narrowLine_96 : decode cX9_narrowLine 96 = .ok (.iastore, 1) := by decide +kernel
theorem dX9_narrowLine_97 : decode cX9_narrowLine 97 = .ok (.aload_n 0, 1) := by decide +kernel
theorem dX9_narrowLine_98 : decode cX9_narrowLine 98 = .ok (.getfield 23, 3) := by decide +kernel
theorem dX9_narrowLine_101 : decode cX9_narrowLine 101 = .ok (.iconst 4, 1) := by decide +kernel
theorem dX9_narrowLine_102 : decode cX9_narrowLine 102 = .ok (.dup2, 1) := by decide +kernel
theorem dX9_narrowLine_103 : decode cX9_narrowLine 103 = .ok (.iaload, 1) := by decide +kernel
theorem dX9_narrowLine_104 : decode cX9_narrowLine 104 = .ok (.iconst 1, 1) := by decide +kernel
theorem dX9_narrowLine_105 : decode cX9_narrowLine 105 = .ok (.iadd, 1) := by decide +kernel
theorem dX9_narrowLine_106 : decode cX9_narrowLine 106 = .ok (.iastore, 1) := by decide +kernel
theorem dX9_narrowLine_107 : decode cX9_narrowLine 107 = .ok (.return_, 1) := by decide +kernel
set_option maxRecDepth 20000 in
theorem ggX9_doorLine_X9_ringName : GoodIn wsX9_doorLine wsX9_ringName := goodIn_r _ [8, 9, 10, 11, 7, 12, 1, 3, 13, 14, 15, 16, 17, 18, 19, 20, 21, 22, 23, 24, 25, 26, 27, 28, 29, 30, 31, 32, 33, 34, 35, 36, 37, 38, 39, 40, 41, 42, 43, 44, 45, 46, 47, 48, 49, 50, 51, 52, 53, 54, 55, 56, 57, 58, 59, 60, 61, 62, 63, 64, 65, 66, 67, 68, 69, 70, 71, 72, 73, 74, 75, 76, 77, 78, 79, 80, 81, 82, 2, 83, 84, 85, 86, 87, 88, 89, 90, 91, 92, 93, 94, 95, 96, 97, 98, 99, 100, 101, 102, 103, 112, 113, 114, 115, 116, 117, 118, 119, 120, 121, 122, 123, 124, 125, 126, 127, 128, 129, 130, 131, 132, 133, 134, 135, 136, 137, 138, 139, 140] (by decide +kernel) (by decide +kernel)
set_option maxRecDepth 20000 in
theorem gX9_doorLine_X9_ringName : GoodIn wsX9_doorLine (wsV RX9 218 RX9 yX9_ringName wsX9_ringName) := goodIn_app (goodIn_of _ (by decide +kernel)) ggX9_doorLine_X9_ringName
set_option maxRecDepth 20000 in
theorem ggX9_doorLine_X9_placeHere : GoodIn wsX9_doorLine wsX9_placeHere := goodIn_r _ [107, 2, 108, 109, 110, 7, 111, 1, 17, 3, 91, 73, 74, 75, 76, 77, 78, 83, 84, 85, 112, 113, 114, 115, 116, 117, 118, 119, 120, 121, 122, 123, 124, 125, 126, 127, 128, 129, 130, 131, 132, 133, 134, 135, 136, 137, 138, 139, 140] (by decide +kernel) (by decide +kernel)
set_option maxRecDepth 20000 in
theorem gX9_doorLine_X9_placeHere : GoodIn wsX9_doorLine (wsV RX9 221 RX9 yX9_placeHere wsX9_placeHere) := goodIn_app (goodIn_of _ (by decide +kernel)) ggX9_doorLine_X9_placeHere
set_option maxRecDepth 20000 in
theorem ggX9_doorLine_X9_next : GoodIn wsX9_doorLine wsX9_next := goodIn_r _ [89, 90, 3, 22, 91, 17, 23, 92, 93, 94, 7, 95, 96, 97, 98, 99, 100, 101, 102, 103, 112, 113, 114, 115, 116, 117, 118, 119, 120, 121, 122, 123, 124, 125, 126, 127, 128, 129, 130, 131, 132, 133, 134, 135, 136, 137, 138, 139, 140] (by decide +kernel) (by decide +kernel)
set_option maxRecDepth 20000 in
theorem gX9_doorLine_X9_next : GoodIn wsX9_doorLine (wsV RX9 103 RX9 yX9_next wsX9_next) := goodIn_app (goodIn_of _ (by decide +kernel)) ggX9_doorLine_X9_next
set_option maxRecDepth 20000 in
theorem ggX9_doorLine_X9_wrong : GoodIn wsX9_doorLine wsX9_wrong := goodIn_r _ [76, 1, 77, 78, 112, 113, 114, 115, 116, 117, 118, 119, 120, 121, 122, 123, 124, 125, 126, 127, 128, 129, 130, 131, 132, 133, 134, 135, 136, 137, 138, 139, 140] (by decide +kernel) (by decide +kernel)
set_option maxRecDepth 20000 in
theorem gX9_doorLine_X9_wrong : GoodIn wsX9_doorLine (wsV RX9 109 RX9 yX9_wrong wsX9_wrong) := goodIn_app (goodIn_of _ (by decide +kernel)) ggX9_doorLine_X9_wrong
theorem dX9_doorLine_0 : decode cX9_doorLine 0 = .ok (.aload_n 0, 1) := by decide +kernel
theorem dX9_doorLine_1 : decode cX9_doorLine 1 = .ok (.getfield 82, 3) := by decide +kernel
theorem dX9_doorLine_4 : decode cX9_doorLine 4 = .ok (.ifCond .eq 4, 3) := by decide +kernel
