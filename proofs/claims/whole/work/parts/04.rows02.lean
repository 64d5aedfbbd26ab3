theorem dX4_addDoor_8 : decode cX4_addDoor 8 = .ok (.getfield 75, 3) := by decide +kernel
theorem dX4_addDoor_11 : decode cX4_addDoor 11 = .ok (.iconst 5, 1) := by decide +kernel
theorem dX4_addDoor_12 : decode cX4_addDoor 12 = .ok (.if_icmp .lt 4, 3) := by decide +kernel
theorem dX4_addDoor_15 : decode cX4_addDoor 15 = .ok (.return_, 1) := by decide +kernel
theorem dX4_addDoor_16 : decode cX4_addDoor 16 = .ok (.aload_n 0, 1) := by decide +kernel
theorem dX4_addDoor_17 : decode cX4_addDoor 17 = .ok (.getfield 31, 3) := by decide +kernel
theorem dX4_addDoor_20 : decode cX4_addDoor 20 = .ok (.aload_n 0, 1) := by decide +kernel
theorem dX4_addDoor_21 : decode cX4_addDoor 21 = .ok (.getfield 75, 3) := by decide +kernel
theorem dX4_addDoor_24 : decode cX4_addDoor 24 = .ok (.iload_n 1, 1) := by decide +kernel
theorem dX4_addDoor_25 : decode cX4_addDoor 25 = .ok (.iastore, 1) := by decide +kernel
theorem dX4_addDoor_26 : decode cX4_addDoor 26 = .ok (.aload_n 0, 1) := by decide +kernel
theorem dX4_addDoor_27 : decode cX4_addDoor 27 = .ok (.getfield 34, 3) := by decide +kernel
theorem dX4_addDoor_30 : decode cX4_addDoor 30 = .ok (.aload_n 0, 1) := by decide +kernel
theorem dX4_addDoor_31 : decode cX4_addDoor 31 = .ok (.getfield 75, 3) := by decide +kernel
theorem dX4_addDoor_34 : decode cX4_addDoor 34 = .ok (.iload_n 2, 1) := by decide +kernel
theorem dX4_addDoor_35 : decode cX4_addDoor 35 = .ok (.iastore, 1) := by decide +kernel
theorem dX4_addDoor_36 : decode cX4_addDoor 36 = .ok (.aload_n 0, 1) := by decide +kernel
theorem dX4_addDoor_37 : decode cX4_addDoor 37 = .ok (.dup, 1) := by decide +kernel
theorem dX4_addDoor_38 : decode cX4_addDoor 38 = .ok (.getfield 75, 3) := by decide +kernel
theorem dX4_addDoor_41 : decode cX4_addDoor 41 = .ok (.iconst 1, 1) := by decide +kernel
theorem dX4_addDoor_42 : decode cX4_addDoor 42 = .ok (.iadd, 1) := by decide +kernel
theorem dX4_addDoor_43 : decode cX4_addDoor 43 = .ok (.putfield 75, 3) := by decide +kernel
theorem dX4_addDoor_46 : decode cX4_addDoor 46 = .ok (.return_, 1) := by decide +kernel
theorem dX4_addThing_0 : decode cX4_addThing 0 = .ok (.aload_n 0, 1) := by decide +kernel
theorem dX4_addThing_1 : decode cX4_addThing 1 = .ok (.getfield 78, 3) := by decide +kernel
theorem dX4_addThing_4 : decode cX4_addThing 4 = .ok (.ifCond .lt 12, 3) := by decide +kernel
theorem dX4_addThing_7 : decode cX4_addThing 7 = .ok (.aload_n 0, 1) := by decide +kernel
theorem dX4_addThing_8 : decode cX4_addThing 8 = .ok (.getfield 78, 3) := by decide +kernel
theorem dX4_addThing_11 : decode cX4_addThing 11 = .ok (.bipush 7, 2) := by decide +kernel
theorem dX4_addThing_13 : decode cX4_addThing 13 = .ok (.if_icmp .lt 4, 3) := by decide +kernel
theorem dX4_addThing_16 : decode cX4_addThing 16 = .ok (.return_, 1) := by decide +kernel
theorem dX4_addThing_17 : decode cX4_addThing 17 = .ok (.aload_n 0, 1) := by decide +kernel
theorem dX4_addThing_18 : decode cX4_addThing 18 = .ok (.getfield 37, 3) := by decide +kernel
theorem dX4_addThing_21 : decode cX4_addThing 21 = .ok (.aload_n 0, 1) := by decide +kernel
theorem dX4_addThing_22 : decode cX4_addThing 22 = .ok (.getfield 78, 3) := by decide +kernel
theorem dX4_addThing_25 : decode cX4_addThing 25 = .ok (.iload_n 1, 1) := by decide +kernel
theorem dX4_addThing_26 : decode cX4_addThing 26 = .ok (.iastore, 1) := by decide +kernel
theorem dX4_addThing_27 : decode cX4_addThing 27 = .ok (.aload_n 0, 1) := by decide +kernel
theorem dX4_addThing_28 : decode cX4_addThing 28 = .ok (.getfield 43, 3) := by decide +kernel
theorem dX4_addThing_31 : decode cX4_addThing 31 = .ok (.aload_n 0, 1) := by decide +kernel
theorem dX4_addThing_32 : decode cX4_addThing 32 = .ok (.getfield 78, 3) := by decide +kernel
theorem dX4_addThing_35 : decode cX4_addThing 35 = .ok (.iload_n 2, 1) := by decide +kernel
theorem dX4_addThing_36 : decode cX4_addThing 36 = .ok (.iastore, 1) := by decide +kernel
theorem dX4_addThing_37 : decode cX4_addThing 37 = .ok (.aload_n 0, 1) := by decide +kernel
theorem dX4_addThing_38 : decode cX4_addThing 38 = .ok (.getfield 40, 3) := by decide +kernel
theorem dX4_addThing_41 : decode cX4_addThing 41 = .ok (.aload_n 0, 1) := by decide +kernel
theorem dX4_addThing_42 : decode cX4_addThing 42 = .ok (.getfield 78, 3) := by decide +kernel
theorem dX4_addThing_45 : decode cX4_addThing 45 = .ok (.iload_n 3, 1) := by decide +kernel
theorem dX4_addThing_46 : decode cX4_addThing 46 = .ok (.iastore, 1) := by decide +kernel
theorem dX4_addThing_47 : decode cX4_addThing 47 = .ok (.aload_n 0, 1) := by decide +kernel
theorem dX4_addThing_48 : decode cX4_addThing 48 = .ok (.dup, 1) := by decide +kernel
theorem dX4_addThing_49 : decode cX4_addThing 49 = .ok (.getfield 78, 3) := by decide +kernel
theorem dX4_addThing_52 : decode cX4_addThing 52 = .ok (.iconst 1, 1) := by decide +kernel
theorem dX4_addThing_53 : decode cX4_addThing 53 = .ok (.iadd, 1) := by decide +kernel
theorem dX4_addThing_54 : decode cX4_addThing 54 = .ok (.putfield 78, 3) := by decide +kernel
theorem dX4_addThing_57 : decode cX4_addThing 57 = .ok (.return_, 1) := by decide +kernel
theorem dX4_addMark_0 : decode cX4_addMark 0 = .ok (.aload_n 0, 1) := by decide +kernel
theorem dX4_addMark_1 : decode cX4_addMark 1 = .ok (.getfield 81, 3) := by decide +kernel
theorem dX4_addMark_4 : decode cX4_addMark 4 = .ok (.ifCond .lt 12, 3) := by decide +kernel
theorem dX4_addMark_7 : decode cX4_addMark 7 = .ok (.aload_n 0, 1) := by decide +kernel
theorem dX4_addMark_8 : decode cX4_addMark 8 = .ok (.getfield 81, 3) := by decide +kernel
theorem dX4_addMark_11 : decode cX4_addMark 11 = .ok (.bipush 6, 2) := by decide +kernel
theorem dX4_addMark_13 : decode cX4_addMark 13 = .ok (.if_icmp .lt 4, 3) := by decide +kernel
theorem dX4_addMark_16 : decode cX4_addMark 16 = .ok (.return_, 1) := by decide +kernel
theorem dX4_addMark_17 : decode cX4_addMark 17 = .ok (.aload_n 0, 1) := by decide +kernel
theorem dX4_addMark_18 : decode cX4_addMark 18 = .ok (.getfield 46, 3) := by decide +kernel
theorem dX4_addMark_21 : decode cX4_addMark 21 = .ok (.aload_n 0, 1) := by decide +kernel
theorem dX4_addMark_22 : decode cX4_addMark 22 = .ok (.getfield 81, 3) := by decide +kernel
theorem dX4_addMark_25 : decode cX4_addMark 25 = .ok (.iload_n 1, 1) := by decide +kernel
theorem dX4_addMark_26 : decode cX4_addMark 26 = .ok (.iastore, 1) := by decide +kernel
theorem dX4_addMark_27 : decode cX4_addMark 27 = .ok (.aload_n 0, 1) := by decide +kernel
theorem dX4_addMark_28 : decode cX4_addMark 28 = .ok (.getfield 49, 3) := by decide +kernel
theorem dX4_addMark_31 : decode cX4_addMark 31 = .ok (.aload_n 0, 1) := by decide +kernel
theorem dX4_addMark_32 : decode cX4_addMark 32 = .ok (.getfield 81, 3) := by decide +kernel
theorem dX4_addMark_35 : decode cX4_addMark 35 = .ok (.iload_n 2, 1) := by decide +kernel
theorem dX4_addMark_36 : decode cX4_addMark 36 = .ok (.iastore, 1) := by decide +kernel
theorem dX4_addMark_37 : decode cX4_addMark 37 = .ok (.aload_n 0, 1) := by decide +kernel
theorem dX4_addMark_38 : decode cX4_addMark 38 = .ok (.getfield 52, 3) := by decide +kernel
theorem dX4_addMark_41 : decode cX4_addMark 41 = .ok (.aload_n 0, 1) := by decide +kernel
theorem dX4_addMark_42 : decode cX4_addMark 42 = .ok (.getfield 81, 3) := by decide +kernel
theorem dX4_addMark_45 : decode cX4_addMark 45 = .ok (.iload_n 3, 1) := by decide +kernel
theorem dX4_addMark_46 : decode cX4_addMark 46 = .ok (.bastore, 1) := by decide +kernel
theorem dX4_addMark_47 : decode cX4_addMark 47 = .ok (.aload_n 0, 1) := by decide +kernel
theorem dX4_addMark_48 : decode cX4_addMark 48 = .ok (.dup, 1) := by decide +kernel
theorem dX4_addMark_49 : decode cX4_addMark 49 = .ok (.getfield 81, 3) := by decide +kernel
theorem dX4_addMark_52 : decode cX4_addMark 52 = .ok (.iconst 1, 1) := by decide +kernel
theorem dX4_addMark_53 : decode cX4_addMark 53 = .ok (.iadd, 1) := by decide +kernel
theorem dX4_addMark_54 : decode cX4_addMark 54 = .ok (.putfield 81, 3) := by decide +kernel
theorem dX4_addMark_57 : decode cX4_addMark 57 = .ok (.return_, 1) := by decide +kernel
set_option maxRecDepth 20000 in
theorem ggX5_init_X4_init : GoodIn wsX5_init wsX4_init := goodIn_r _ [15, 16, 2, 3, 17, 18, 19, 20, 21, 22, 23, 24, 25, 26, 27, 28, 29, 30, 31, 32, 33, 34, 35, 36, 37, 38, 39, 40, 41, 42, 43, 44, 45, 79, 80, 81, 82, 83, 59, 60, 61, 62, 63, 64, 65, 66, 67, 68, 69, 70, 71, 72, 73, 74, 75, 76, 77, 78] (by decide +kernel) (by decide +kernel)
set_option maxRecDepth 20000 in
theorem gX5_init_X4_init : GoodIn wsX5_init (wsX4_init) := ggX5_init_X4_init
theorem dX5_init_0 : decode cX5_init 0 = .ok (.aload_n 0, 1) := by decide +kernel
theorem dX5_init_1 : decode cX5_init 1 = .ok (.invokespecial 3, 3) := by decide +kernel
theorem dX5_init_4 : decode cX5_init 4 = .ok (.aload_n 0, 1) := by decide +kernel
theorem dX5_init_5 : decode cX5_init 5 = .ok (.sipush 900, 3) := by decide +kernel
theorem dX5_init_8 : decode cX5_init 8 = .ok (.newarray .byte, 2) := by decide +kernel
theorem dX5_init_10 : decode cX5_init 10 = .ok (.putfield 11, 3) := by decide +kernel
theorem dX5_init_13 : decode cX5_init 13 = .ok (.aload_n 0, 1) := by decide +kernel
theorem dX5_init_14 : decode cX5_init 14 = .ok (.new 15, 3) := by decide +kernel
theorem dX5_init_17 : decode cX5_init 17 = .ok (.dup, 1) := by decide +kernel
theorem dX5_init_18 : decode cX5_init 18 = .ok (.invokespecial 17, 3) := by decide +kernel
theorem dX5_init_21 : decode cX5_init 21 = .ok (.putfield 18, 3) := by decide +kernel
theorem dX5_init_24 : decode cX5_init 24 = .ok (.aload_n 0, 1) := by decide +kernel
theorem dX5_init_25 : decode cX5_init 25 = .ok (.iconst 4, 1) := by decide +kernel
theorem dX5_init_26 : decode cX5_init 26 = .ok (.newarray .long, 2) := by decide +kernel
theorem dX5_init_28 : decode cX5_init 28 = .ok (.putfield 22, 3) := by decide +kernel
theorem dX5_init_31 : decode cX5_init 31 = .ok (.aload_n 0, 1) := by decide +kernel
theorem dX5_init_32 : decode cX5_init 32 = .ok (.bipush 7, 2) := by decide +kernel
theorem dX5_init_34 : decode cX5_init 34 = .ok (.newarray .long, 2) := by decide +kernel
theorem dX5_init_36 : decode cX5_init 36 = .ok (.putfield 26, 3) := by decide +kernel
theorem dX5_init_39 : decode cX5_init 39 = .ok (.return_, 1) := by decide +kernel
theorem dX5_hasRoom_0 : decode cX5_hasRoom 0 = .ok (.aload_n 0, 1) := by decide +kernel
theorem dX5_hasRoom_1 : decode cX5_hasRoom 1 = .ok (.getfield 29, 3) := by decide +kernel
theorem dX5_hasRoom_4 : decode cX5_hasRoom 4 = .ok (.iload_n 1, 1) := by decide +kernel
theorem dX5_hasRoom_5 : decode cX5_hasRoom 5 = .ok (.iadd, 1) := by decide +kernel
theorem dX5_hasRoom_6 : decode cX5_hasRoom 6 = .ok (.sipush 900, 3) := by decide +kernel
theorem dX5_hasRoom_9 : decode cX5_hasRoom 9 = .ok (.if_icmp .gt 7, 3) := by decide +kernel
theorem dX5_hasRoom_12 : decode cX5_hasRoom 12 = .ok (.iconst 1, 1) := by decide +kernel
theorem dX5_hasRoom_13 : decode cX5_hasRoom 13 = .ok (.goto 4, 3) := by decide +kernel
theorem dX5_hasRoom_16 : decode cX5_hasRoom 16 = .ok (.iconst 0, 1) := by decide +kernel
theorem dX5_hasRoom_17 : decode cX5_hasRoom 17 = .ok (.ireturn, 1) := by decide +kernel
theorem dX5_count_0 : decode cX5_count 0 = .ok (.aload_n 0, 1) := by decide +kernel
theorem dX5_count_1 : decode cX5_count 1 = .ok (.getfield 29, 3) := by decide +kernel
theorem dX5_count_4 : decode cX5_count 4 = .ok (.ireturn, 1) := by decide +kernel
theorem dX5_append_0 : decode cX5_append 0 = .ok (.bipush 24, 2) := by decide +kernel
theorem dX5_append_2 : decode cX5_append 2 = .ok (.istore_n 2, 1) := by decide +kernel
theorem dX5_append_3 : decode cX5_append 3 = .ok (.iload_n 2, 1) := by decide +kernel
theorem dX5_append_4 : decode cX5_append 4 = .ok (.ifCond .lt 49, 3) := by decide +kernel
theorem dX5_append_7 : decode cX5_append 7 = .ok (.aload_n 0, 1) := by decide +kernel
theorem dX5_append_8 : decode cX5_append 8 = .ok (.getfield 29, 3) := by decide +kernel
theorem dX5_append_11 : decode cX5_append 11 = .ok (.ifCond .lt 36, 3) := by decide +kernel
theorem dX5_append_14 : decode cX5_append 14 = .ok (.aload_n 0, 1) := by decide +kernel
theorem dX5_append_15 : decode cX5_append 15 = .ok (.getfield 29, 3) := by decide +kernel
theorem dX5_append_18 : decode cX5_append 18 = .ok (.sipush 900, 3) := by decide +kernel
theorem dX5_append_21 : decode cX5_append 21 = .ok (.if_icmp .ge 26, 3) := by decide +kernel
theorem dX5_append_24 : decode cX5_append 24 = .ok (.aload_n 0, 1) := by decide +kernel
theorem dX5_append_25 : decode cX5_append 25 = .ok (.getfield 11, 3) := by decide +kernel
theorem dX5_append_28 : decode cX5_append 28 = .ok (.aload_n 0, 1) := by decide +kernel
theorem dX5_append_29 : decode cX5_append 29 = .ok (.getfield 29, 3) := by decide +kernel
theorem dX5_append_32 : decode cX5_append 32 = .ok (.iload_n 1, 1) := by decide +kernel
theorem dX5_append_33 : decode cX5_append 33 = .ok (.iload_n 2, 1) := by decide +kernel
theorem dX5_append_34 : decode cX5_append 34 = .ok (.ishr, 1) := by decide +kernel
theorem dX5_append_35 : decode cX5_append 35 = .ok (.i2b, 1) := by decide +kernel
theorem dX5_append_36 : decode cX5_append 36 = .ok (.bastore, 1) := by decide +kernel
theorem dX5_append_37 : decode cX5_append 37 = .ok (.aload_n 0, 1) := by decide +kernel
theorem dX5_append_38 : decode cX5_append 38 = .ok (.dup, 1) := by decide +kernel
theorem dX5_append_39 : decode cX5_append 39 = .ok (.getfield 29, 3) := by decide +kernel
theorem dX5_append_42 : decode cX5_append 42 = .ok (.iconst 1, 1) := by decide +kernel
theorem dX5_append_43 : decode cX5_append 43 = .ok (.iadd, 1) := by decide +kernel
theorem dX5_append_44 : decode cX5_append 44 = .ok (.putfield 29, 3) := by decide +kernel
theorem dX5_append_47 : decode cX5_append 47 = .ok (.iinc 2 (-8), 3) := by decide +kernel
theorem dX5_append_50 : decode cX5_append 50 = .ok (.goto (-47), 3) := by decide +kernel
theorem dX5_append_53 : decode cX5_append 53 = .ok (.return_, 1) := by decide +kernel
theorem dX5_faultFound_0 : decode cX5_faultFound 0 = .ok (.aload_n 0, 1) := by decide +kernel
theorem dX5_faultFound_1 : decode cX5_faultFound 1 = .ok (.getfield 33, 3) := by decide +kernel
theorem dX5_faultFound_4 : decode cX5_faultFound 4 = .ok (.ireturn, 1) := by decide +kernel
theorem dX5_faultStart_0 : decode cX5_faultStart 0 = .ok (.aload_n 0, 1) := by decide +kernel
theorem dX5_faultStart_1 : decode cX5_faultStart 1 = .ok (.getfield 36, 3) := by decide +kernel
theorem dX5_faultStart_4 : decode cX5_faultStart 4 = .ok (.ireturn, 1) := by decide +kernel
theorem dX5_exchange_0 : decode cX5_exchange 0 = .ok (.aload_n 0, 1) := by decide +kernel
theorem dX5_exchange_1 : decode cX5_exchange 1 = .ok (.getfield 18, 3) := by decide +kernel
theorem dX5_exchange_4 : decode cX5_exchange 4 = .ok (.astore_n 2, 1) := by decide +kernel
theorem dX5_exchange_5 : decode cX5_exchange 5 = .ok (.aload_n 0, 1) := by decide +kernel
theorem dX5_exchange_6 : decode cX5_exchange 6 = .ok (.aload_n 1, 1) := by decide +kernel
theorem dX5_exchange_7 : decode cX5_exchange 7 = .ok (.putfield 18, 3) := by decide +kernel
theorem dX5_exchange_10 : decode cX5_exchange 10 = .ok (.aload_n 2, 1) := by decide +kernel
theorem dX5_exchange_11 : decode cX5_exchange 11 = .ok (.areturn, 1) := by decide +kernel
set_option maxRecDepth 20000 in
theorem ggX5_read_X4_clear : GoodIn wsX5_read wsX4_clear := goodIn_r _ [12, 13, 14, 15, 16, 17, 18, 19, 20, 21, 22, 23, 24, 25, 26, 27, 28, 29, 30, 31, 32, 284, 285, 286, 287, 288, 289, 290, 291, 292, 293, 294, 295, 296, 297, 298, 299, 300, 301, 302, 303, 304, 305, 306, 307, 308] (by decide +kernel) (by decide +kernel)
set_option maxRecDepth 20000 in
theorem gX5_read_X4_clear : GoodIn wsX5_read (wsV RX5 49 RX4 yX4_clear wsX4_clear) := goodIn_app (goodIn_of _ (by decide +kernel)) ggX5_read_X4_clear
set_option maxRecDepth 20000 in
theorem ggX5_read_X5_step : GoodIn wsX5_read wsX5_step := goodIn_r _ [37, 2, 1, 38, 7, 39, 40, 41, 36, 42, 43, 44, 45, 46, 47, 48, 49, 50, 51, 52, 53, 54, 271, 272, 273, 274, 275, 276, 277, 278, 279, 280, 281, 282, 283] (by decide +kernel) (by decide +kernel)
set_option maxRecDepth 20000 in
theorem gX5_read_X5_step : GoodIn wsX5_read (wsV RX5 52 RX5 yX5_step wsX5_step) := goodIn_app (goodIn_of _ (by decide +kernel)) ggX5_read_X5_step
set_option maxRecDepth 20000 in
theorem ggX5_read_X5_readLine : GoodIn wsX5_read wsX5_readLine := goodIn_r _ [58, 7, 4, 59, 60, 61, 36, 62, 2, 38, 43, 63, 64, 65, 66, 67, 68, 69, 70, 71, 72, 73, 74, 75, 76, 77, 78, 79, 80, 81, 82, 83, 84, 85, 86, 87, 88, 89, 90, 91, 92, 93, 94, 95, 96, 97, 98, 99, 100, 101, 102, 103, 104, 105, 106, 107, 108, 109, 110, 111, 112, 113, 114, 115, 5, 116, 117, 118, 119, 120, 121, 3, 33, 34, 35, 37, 1, 39, 40, 41, 42, 44, 45, 46, 47, 48, 49, 50, 51, 52, 53, 54, 122, 123, 124, 125, 126, 127, 128, 129, 130, 131, 132, 133, 134, 135, 136, 137, 138, 139, 140, 141, 142, 143, 144, 145, 146, 147, 148, 149, 150, 26, 151, 28, 152, 153, 154, 155, 156, 157, 158, 159, 160, 161, 162, 163, 164, 165, 166, 167, 168, 169, 170, 171, 172, 173, 174, 175, 176, 11, 177, 15, 21, 178, 179, 180, 181, 182, 183, 184, 185, 186, 187, 188, 189, 190, 191, 192, 193, 194, 195, 196, 197, 198, 199, 200, 201, 202, 22, 203, 204, 205, 206, 16, 207, 208, 209, 210, 211, 212, 213, 214, 17, 215, 216, 217, 218, 219, 220, 221, 222, 223, 224, 225, 226, 227, 228, 229, 230, 231, 232, 18, 233, 234, 235, 236, 237, 238, 239, 240, 241, 242, 243, 244, 245, 246, 247, 248, 249, 250, 251, 252, 253, 254, 255, 256, 257, 258, 259, 19, 260, 261, 262, 263, 264, 265, 266, 271, 272, 273, 274, 275, 276, 277, 278, 279, 280, 281, 282, 283, 284, 285, 286, 287, 288, 289, 290, 291, 292, 293, 294, 295, 296, 297, 298, 299, 300, 301, 302, 303, 304, 305, 306, 307, 308] (by decide +kernel) (by decide +kernel)
set_option maxRecDepth 20000 in
theorem gX5_read_X5_readLine : GoodIn wsX5_read (wsV RX5 55 RX5 yX5_readLine wsX5_readLine) := goodIn_app (goodIn_of _ (by decide +kernel)) ggX5_read_X5_readLine
set_option maxRecDepth 20000 in
theorem ggX5_read_X5_fails : GoodIn wsX5_read wsX5_fails := goodIn_r _ [121, 3, 271, 272, 273, 274, 275, 276, 277, 278, 279, 280, 281, 282, 283] (by decide +kernel) (by decide +kernel)
set_option maxRecDepth 20000 in
theorem gX5_read_X5_fails : GoodIn wsX5_read (wsV RX5 62 RX5 yX5_fails wsX5_fails) := goodIn_app (goodIn_of _ (by decide +kernel)) ggX5_read_X5_fails
set_option maxRecDepth 20000 in
theorem ggX5_read_X4_stands : GoodIn wsX5_read wsX4_stands := goodIn_r _ [270, 15, 284, 285, 286, 287, 288, 289, 290, 291, 292, 293, 294, 295, 296, 297, 298, 299, 300, 301, 302, 303] (by decide +kernel) (by decide +kernel)
set_option maxRecDepth 20000 in
theorem gX5_read_X4_stands : GoodIn wsX5_read (wsV RX5 66 RX4 yX4_stands wsX4_stands) := goodIn_app (goodIn_of _ (by decide +kernel)) ggX5_read_X4_stands
theorem dX5_read_0 : decode cX5_read 0 = .ok (.aload_n 0, 1) := by decide +kernel
theorem dX5_read_1 : decode cX5_read 1 = .ok (.iload_n 1, 1) := by decide +kernel
theorem dX5_read_2 : decode cX5_read 2 = .ok (.putfield 39, 3) := by decide +kernel
theorem dX5_read_5 : decode cX5_read 5 = .ok (.aload_n 0, 1) := by decide +kernel
theorem dX5_read_6 : decode cX5_read 6 = .ok (.iconst 0, 1) := by decide +kernel
theorem dX5_read_7 : decode cX5_read 7 = .ok (.putfield 42, 3) := by decide +kernel
theorem dX5_read_10 : decode cX5_read 10 = .ok (.aload_n 0, 1) := by decide +kernel
theorem dX5_read_11 : decode cX5_read 11 = .ok (.iconst 0, 1) := by decide +kernel
theorem dX5_read_12 : decode cX5_read 12 = .ok (.putfield 33, 3) := by decide +kernel
theorem dX5_read_15 : decode cX5_read 15 = .ok (.aload_n 0, 1) := by decide +kernel
theorem dX5_read_16 : decode cX5_read 16 = .ok (.iconst 0, 1) := by decide +kernel
theorem dX5_read_17 : decode cX5_read 17 = .ok (.putfield 45, 3) := by decide +kernel
theorem dX5_read_20 : decode cX5_read 20 = .ok (.aload_n 0, 1) := by decide +kernel
theorem dX5_read_21 : decode cX5_read 21 = .ok (.getfield 18, 3) := by decide +kernel
theorem dX5_read_24 : decode cX5_read 24 = .ok (.invokevirtual 49, 3) := by decide +kernel
theorem dX5_read_27 : decode cX5_read 27 = .ok (.aload_n 0, 1) := by decide +kernel
theorem dX5_read_28 : decode cX5_read 28 = .ok (.iconst 0, 1) := by decide +kernel
theorem dX5_read_29 : decode cX5_read 29 = .ok (.putfield 29, 3) := by decide +kernel
theorem dX5_read_32 : decode cX5_read 32 = .ok (.aload_n 0, 1) := by decide +kernel
theorem dX5_read_33 : decode cX5_read 33 = .ok (.invokevirtual 52, 3) := by decide +kernel
theorem dX5_read_36 : decode cX5_read 36 = .ok (.aload_n 0, 1) := by decide +kernel
theorem dX5_read_37 : decode cX5_read 37 = .ok (.invokevirtual 55, 3) := by decide +kernel
theorem dX5_read_40 : decode cX5_read 40 = .ok (.istore_n 2, 1) := by decide +kernel
theorem dX5_read_41 : decode cX5_read 41 = .ok (.iconst 0, 1) := by decide +kernel
theorem dX5_read_42 : decode cX5_read 42 = .ok (.istore_n 3, 1) := by decide +kernel
theorem dX5_read_43 : decode cX5_read 43 = .ok (.iload_n 3, 1) := by decide +kernel
theorem dX5_read_44 : decode cX5_read 44 = .ok (.sipush 900, 3) := by decide +kernel
theorem dX5_read_47 : decode cX5_read 47 = .ok (.if_icmp .ge 30, 3) := by decide +kernel
theorem dX5_read_50 : decode cX5_read 50 = .ok (.iload_n 2, 1) := by decide +kernel
theorem dX5_read_51 : decode cX5_read 51 = .ok (.ifCond .eq 26, 3) := by decide +kernel
theorem dX5_read_54 : decode cX5_read 54 = .ok (.aload_n 0, 1) := by decide +kernel
theorem dX5_read_55 : decode cX5_read 55 = .ok (.getfield 59, 3) := by decide +kernel
theorem dX5_read_58 : decode cX5_read 58 = .ok (.iconst 3, 1) := by decide +kernel
theorem dX5_read_59 : decode cX5_read 59 = .ok (.if_icmp .ne 18, 3) := by decide +kernel
theorem dX5_read_62 : decode cX5_read 62 = .ok (.aload_n 0, 1) := by decide +kernel
theorem dX5_read_63 : decode cX5_read 63 = .ok (.invokevirtual 52, 3) := by decide +kernel
theorem dX5_read_66 : decode cX5_read 66 = .ok (.aload_n 0, 1) := by decide +kernel
theorem dX5_read_67 : decode cX5_read 67 = .ok (.invokevirtual 55, 3) := by decide +kernel
theorem dX5_read_70 : decode cX5_read 70 = .ok (.istore_n 2, 1) := by decide +kernel
theorem dX5_read_71 : decode cX5_read 71 = .ok (.iinc 3 1, 3) := by decide +kernel
theorem dX5_read_74 : decode cX5_read 74 = .ok (.goto (-31), 3) := by decide +kernel
theorem dX5_read_77 : decode cX5_read 77 = .ok (.iload_n 2, 1) := by decide +kernel
theorem dX5_read_78 : decode cX5_read 78 = .ok (.ifCond .ne 5, 3) := by decide +kernel
theorem dX5_read_81 : decode cX5_read 81 = .ok (.iconst 0, 1) := by decide +kernel
theorem dX5_read_82 : decode cX5_read 82 = .ok (.ireturn, 1) := by decide +kernel
theorem dX5_read_83 : decode cX5_read 83 = .ok (.aload_n 0, 1) := by decide +kernel
theorem dX5_read_84 : decode cX5_read 84 = .ok (.getfield 59, 3) := by decide +kernel
theorem dX5_read_87 : decode cX5_read 87 = .ok (.ifCond .eq 9, 3) := by decide +kernel
theorem dX5_read_90 : decode cX5_read 90 = .ok (.aload_n 0, 1) := by decide +kernel
theorem dX5_read_91 : decode cX5_read 91 = .ok (.iconst 1, 1) := by decide +kernel
theorem dX5_read_92 : decode cX5_read 92 = .ok (.invokevirtual 62, 3) := by decide +kernel
theorem dX5_read_95 : decode cX5_read 95 = .ok (.ireturn, 1) := by decide +kernel
theorem dX5_read_96 : decode cX5_read 96 = .ok (.aload_n 0, 1) := by decide +kernel
theorem dX5_read_97 : decode cX5_read 97 = .ok (.getfield 18, 3) := by decide +kernel
theorem dX5_read_100 : decode cX5_read 100 = .ok (.invokevirtual 66, 3) := by decide +kernel
theorem dX5_read_103 : decode cX5_read 103 = .ok (.ifCond .ne 12, 3) := by decide +kernel
theorem dX5_read_106 : decode cX5_read 106 = .ok (.aload_n 0, 1) := by decide +kernel
theorem dX5_read_107 : decode cX5_read 107 = .ok (.bipush 6, 2) := by decide +kernel
theorem dX5_read_109 : decode cX5_read 109 = .ok (.invokevirtual 62, 3) := by decide +kernel
theorem dX5_read_112 : decode cX5_read 112 = .ok (.ifCond .eq 7, 3) := by decide +kernel
theorem dX5_read_115 : decode cX5_read 115 = .ok (.iconst 1, 1) := by decide +kernel
theorem dX5_read_116 : decode cX5_read 116 = .ok (.goto 4, 3) := by decide +kernel
theorem dX5_read_119 : decode cX5_read 119 = .ok (.iconst 0, 1) := by decide +kernel
theorem dX5_read_120 : decode cX5_read 120 = .ok (.ireturn, 1) := by decide +kernel
theorem dX5_fails_0 : decode cX5_fails 0 = .ok (.aload_n 0, 1) := by decide +kernel
theorem dX5_fails_1 : decode cX5_fails 1 = .ok (.iload_n 1, 1) := by decide +kernel
theorem dX5_fails_2 : decode cX5_fails 2 = .ok (.putfield 33, 3) := by decide +kernel
theorem dX5_fails_5 : decode cX5_fails 5 = .ok (.iconst 0, 1) := by decide +kernel
theorem dX5_fails_6 : decode cX5_fails 6 = .ok (.ireturn, 1) := by decide +kernel
theorem dX5_byteAt_0 : decode cX5_byteAt 0 = .ok (.iload_n 1, 1) := by decide +kernel
theorem dX5_byteAt_1 : decode cX5_byteAt 1 = .ok (.ifCond .lt 31, 3) := by decide +kernel
theorem dX5_byteAt_4 : decode cX5_byteAt 4 = .ok (.iload_n 1, 1) := by decide +kernel
theorem dX5_byteAt_5 : decode cX5_byteAt 5 = .ok (.aload_n 0, 1) := by decide +kernel
theorem dX5_byteAt_6 : decode cX5_byteAt 6 = .ok (.getfield 39, 3) := by decide +kernel
theorem dX5_byteAt_9 : decode cX5_byteAt 9 = .ok (.if_icmp .ge 23, 3) := by decide +kernel
theorem dX5_byteAt_12 : decode cX5_byteAt 12 = .ok (.iload_n 1, 1) := by decide +kernel
theorem dX5_byteAt_13 : decode cX5_byteAt 13 = .ok (.sipush 900, 3) := by decide +kernel
theorem dX5_byteAt_16 : decode cX5_byteAt 16 = .ok (.if_icmp .ge 16, 3) := by decide +kernel
theorem dX5_byteAt_19 : decode cX5_byteAt 19 = .ok (.aload_n 0, 1) := by decide +kernel
theorem dX5_byteAt_20 : decode cX5_byteAt 20 = .ok (.getfield 11, 3) := by decide +kernel
theorem dX5_byteAt_23 : decode cX5_byteAt 23 = .ok (.iload_n 1, 1) := by decide +kernel
theorem dX5_byteAt_24 : decode cX5_byteAt 24 = .ok (.baload, 1) := by decide +kernel
theorem dX5_byteAt_25 : decode cX5_byteAt 25 = .ok (.sipush 255, 3) := by decide +kernel
theorem dX5_byteAt_28 : decode cX5_byteAt 28 = .ok (.iand, 1) := by decide +kernel
theorem dX5_byteAt_29 : decode cX5_byteAt 29 = .ok (.goto 4, 3) := by decide +kernel
theorem dX5_byteAt_32 : decode cX5_byteAt 32 = .ok (.iconst (-1), 1) := by decide +kernel
theorem dX5_byteAt_33 : decode cX5_byteAt 33 = .ok (.ireturn, 1) := by decide +kernel
set_option maxRecDepth 20000 in
theorem ggX5_step_X5_byteAt : GoodIn wsX5_step wsX5_byteAt := goodIn_r _ [9, 2, 10, 22, 23, 24, 25, 26, 27, 28, 29, 30, 31, 32, 33, 34] (by decide +kernel) (by decide +kernel)
set_option maxRecDepth 20000 in
theorem gX5_step_X5_byteAt : GoodIn wsX5_step (wsV RX5 69 RX5 yX5_byteAt wsX5_byteAt) := goodIn_app (goodIn_of _ (by decide +kernel)) ggX5_step_X5_byteAt
set_option maxRecDepth 20000 in
theorem ggX5_step_X5_takeLetters : GoodIn wsX5_step wsX5_takeLetters := goodIn_r _ [14, 15, 3, 2, 10, 16, 1, 4, 22, 23, 24, 25, 26, 27, 28, 29, 30, 31, 32, 33, 34] (by decide +kernel) (by decide +kernel)
set_option maxRecDepth 20000 in
theorem gX5_step_X5_takeLetters : GoodIn wsX5_step (wsV RX5 73 RX5 yX5_takeLetters wsX5_takeLetters) := goodIn_app (goodIn_of _ (by decide +kernel)) ggX5_step_X5_takeLetters
set_option maxRecDepth 20000 in
theorem ggX5_step_X5_takeDigits : GoodIn wsX5_step wsX5_takeDigits := goodIn_r _ [20, 21, 3, 2, 10, 1, 4, 22, 23, 24, 25, 26, 27, 28, 29, 30, 31, 32, 33, 34] (by decide +kernel) (by decide +kernel)
set_option maxRecDepth 20000 in
theorem gX5_step_X5_takeDigits : GoodIn wsX5_step (wsV RX5 76 RX5 yX5_takeDigits wsX5_takeDigits) := goodIn_app (goodIn_of _ (by decide +kernel)) ggX5_step_X5_takeDigits
theorem dX5_step_0 : decode cX5_step 0 = .ok (.aload_n 0, 1) := by decide +kernel
theorem dX5_step_1 : decode cX5_step 1 = .ok (.getfield 42, 3) := by decide +kernel
theorem dX5_step_4 : decode cX5_step 4 = .ok (.istore_n 1, 1) := by decide +kernel
theorem dX5_step_5 : decode cX5_step 5 = .ok (.iload_n 1, 1) := by decide +kernel
theorem dX5_step_6 : decode cX5_step 6 = .ok (.aload_n 0, 1) := by decide +kernel
theorem dX5_step_7 : decode cX5_step 7 = .ok (.getfield 39, 3) := by decide +kernel
theorem dX5_step_10 : decode cX5_step 10 = .ok (.if_icmp .ge 19, 3) := by decide +kernel
theorem dX5_step_13 : decode cX5_step 13 = .ok (.aload_n 0, 1) := by decide +kernel
theorem dX5_step_14 : decode cX5_step 14 = .ok (.iload_n 1, 1) := by decide +kernel
theorem dX5_step_15 : decode cX5_step 15 = .ok (.invokevirtual 69, 3) := by decide +kernel
theorem dX5_step_18 : decode cX5_step 18 = .ok (.bipush 32, 2) := by decide +kernel
theorem dX5_step_20 : decode cX5_step 20 = .ok (.if_icmp .ne 9, 3) := by decide +kernel
theorem dX5_step_23 : decode cX5_step 23 = .ok (.iinc 1 1, 3) := by decide +kernel
theorem dX5_step_26 : decode cX5_step 26 = .ok (.goto (-21), 3) := by decide +kernel
theorem dX5_step_29 : decode cX5_step 29 = .ok (.aload_n 0, 1) := by decide +kernel
theorem dX5_step_30 : decode cX5_step 30 = .ok (.iload_n 1, 1) := by decide +kernel
theorem dX5_step_31 : decode cX5_step 31 = .ok (.putfield 36, 3) := by decide +kernel
theorem dX5_step_34 : decode cX5_step 34 = .ok (.aload_n 0, 1) := by decide +kernel
theorem dX5_step_35 : decode cX5_step 35 = .ok (.iload_n 1, 1) := by decide +kernel
theorem dX5_step_36 : decode cX5_step 36 = .ok (.putfield 42, 3) := by decide +kernel
theorem dX5_step_39 : decode cX5_step 39 = .ok (.aload_n 0, 1) := by decide +kernel
theorem dX5_step_40 : decode cX5_step 40 = .ok (.iload_n 1, 1) := by decide +kernel
theorem dX5_step_41 : decode cX5_step 41 = .ok (.invokevirtual 69, 3) := by decide +kernel
theorem dX5_step_44 : decode cX5_step 44 = .ok (.istore_n 2, 1) := by decide +kernel
theorem dX5_step_45 : decode cX5_step 45 = .ok (.iload_n 2, 1) := by decide +kernel
theorem dX5_step_46 : decode cX5_step 46 = .ok (.ifCond .ge 11, 3) := by decide +kernel
theorem dX5_step_49 : decode cX5_step 49 = .ok (.aload_n 0, 1) := by decide +kernel
theorem dX5_step_50 : decode cX5_step 50 = .ok (.iconst 0, 1) := by decide +kernel
theorem dX5_step_51 : decode cX5_step 51 = .ok (.putfield 59, 3) := by decide +kernel
theorem dX5_step_54 : decode cX5_step 54 = .ok (.goto 63, 3) := by decide +kernel
theorem dX5_step_57 : decode cX5_step 57 = .ok (.iload_n 2, 1) := by decide +kernel
theorem dX5_step_58 : decode cX5_step 58 = .ok (.bipush 97, 2) := by decide +kernel
theorem dX5_step_60 : decode cX5_step 60 = .ok (.if_icmp .lt 16, 3) := by decide +kernel
theorem dX5_step_63 : decode cX5_step 63 = .ok (.iload_n 2, 1) := by decide +kernel
theorem dX5_step_64 : decode cX5_step 64 = .ok (.bipush 122, 2) := by decide +kernel
theorem dX5_step_66 : decode cX5_step 66 = .ok (.if_icmp .gt 10, 3) := by decide +kernel
theorem dX5_step_69 : decode cX5_step 69 = .ok (.aload_n 0, 1) := by decide +kernel
theorem dX5_step_70 : decode cX5_step 70 = .ok (.invokevirtual 73, 3) := by decide +kernel
theorem dX5_step_73 : decode cX5_step 73 = .ok (.goto 44, 3) := by decide +kernel
theorem dX5_step_76 : decode cX5_step 76 = .ok (.iload_n 2, 1) := by decide +kernel
theorem dX5_step_77 : decode cX5_step 77 = .ok (.bipush 48, 2) := by decide +kernel
theorem dX5_step_79 : decode cX5_step 79 = .ok (.if_icmp .lt 16, 3) := by decide +kernel
theorem dX5_step_82 : decode cX5_step 82 = .ok (.iload_n 2, 1) := by decide +kernel
theorem dX5_step_83 : decode cX5_step 83 = .ok (.bipush 57, 2) := by decide +kernel
theorem dX5_step_85 : decode cX5_step 85 = .ok (.if_icmp .gt 10, 3) := by decide +kernel
theorem dX5_step_88 : decode cX5_step 88 = .ok (.aload_n 0, 1) := by decide +kernel
theorem dX5_step_89 : decode cX5_step 89 = .ok (.invokevirtual 76, 3) := by decide +kernel
theorem dX5_step_92 : decode cX5_step 92 = .ok (.goto 25, 3) := by decide +kernel
theorem dX5_step_95 : decode cX5_step 95 = .ok (.aload_n 0, 1) := by decide +kernel
theorem dX5_step_96 : decode cX5_step 96 = .ok (.iload_n 2, 1) := by decide +kernel
theorem dX5_step_97 : decode cX5_step 97 = .ok (.bipush 59, 2) := by decide +kernel
theorem dX5_step_99 : decode cX5_step 99 = .ok (.if_icmp .ne 7, 3) := by decide +kernel
theorem dX5_step_102 : decode cX5_step 102 = .ok (.iconst 3, 1) := by decide +kernel
theorem dX5_step_103 : decode cX5_step 103 = .ok (.goto 4, 3) := by decide +kernel
theorem dX5_step_106 : decode cX5_step 106 = .ok (.iconst 4, 1) := by decide +kernel
theorem dX5_step_107 : decode cX5_step 107 = .ok (.putfield 59, 3) := by decide +kernel
theorem dX5_step_110 : decode cX5_step 110 = .ok (.aload_n 0, 1) := by decide +kernel
theorem dX5_step_111 : decode cX5_step 111 = .ok (.iload_n 1, 1) := by decide +kernel
theorem dX5_step_112 : decode cX5_step 112 = .ok (.iconst 1, 1) := by decide +kernel
theorem dX5_step_113 : decode cX5_step 113 = .ok (.iadd, 1) := by decide +kernel
theorem dX5_step_114 : decode cX5_step 114 = .ok (.putfield 42, 3) := by decide +kernel
theorem dX5_step_117 : decode cX5_step 117 = .ok (.return_, 1) := by decide +kernel
theorem dX5_takeLetters_0 : decode cX5_takeLetters 0 = .ok (.aload_n 0, 1) := by decide +kernel
theorem dX5_takeLetters_1 : decode cX5_takeLetters 1 = .ok (.lconst 0, 1) := by decide +kernel
theorem dX5_takeLetters_2 : decode cX5_takeLetters 2 = .ok (.putfield 79, 3) := by decide +kernel
theorem dX5_takeLetters_5 : decode cX5_takeLetters 5 = .ok (.aload_n 0, 1) := by decide +kernel
theorem dX5_takeLetters_6 : decode cX5_takeLetters 6 = .ok (.getfield 36, 3) := by decide +kernel
theorem dX5_takeLetters_9 : decode cX5_takeLetters 9 = .ok (.istore_n 1, 1) := by decide +kernel
theorem dX5_takeLetters_10 : decode cX5_takeLetters 10 = .ok (.iload_n 1, 1) := by decide +kernel
theorem dX5_takeLetters_11 : decode cX5_takeLetters 11 = .ok (.ifCond .lt 81, 3) := by decide +kernel
theorem dX5_takeLetters_14 : decode cX5_takeLetters 14 = .ok (.iload_n 1, 1) := by decide +kernel
theorem dX5_takeLetters_15 : decode cX5_takeLetters 15 = .ok (.aload_n 0, 1) := by decide +kernel
theorem dX5_takeLetters_16 : decode cX5_takeLetters 16 = .ok (.getfield 39, 3) := by decide +kernel
theorem dX5_takeLetters_19 : decode cX5_takeLetters 19 = .ok (.if_icmp .ge 73, 3) := by decide +kernel
theorem dX5_takeLetters_22 : decode cX5_takeLetters 22 = .ok (.iload_n 1, 1) := by decide +kernel
theorem dX5_takeLetters_23 : decode cX5_takeLetters 23 = .ok (.sipush 900, 3) := by decide +kernel
theorem dX5_takeLetters_26 : decode cX5_takeLetters 26 = .ok (.if_icmp .ge 66, 3) := by decide +kernel
theorem dX5_takeLetters_29 : decode cX5_takeLetters 29 = .ok (.aload_n 0, 1) := by decide +kernel
theorem dX5_takeLetters_30 : decode cX5_takeLetters 30 = .ok (.getfield 11, 3) := by decide +kernel
theorem dX5_takeLetters_33 : decode cX5_takeLetters 33 = .ok (.iload_n 1, 1) := by decide +kernel
theorem dX5_takeLetters_34 : decode cX5_takeLetters 34 = .ok (.baload, 1) := by decide +kernel
theorem dX5_takeLetters_35 : decode cX5_takeLetters 35 = .ok (.bipush 97, 2) := by decide +kernel
theorem dX5_takeLetters_37 : decode cX5_takeLetters 37 = .ok (.if_icmp .lt 55, 3) := by decide +kernel
theorem dX5_takeLetters_40 : decode cX5_takeLetters 40 = .ok (.aload_n 0, 1) := by decide +kernel
theorem dX5_takeLetters_41 : decode cX5_takeLetters 41 = .ok (.getfield 11, 3) := by decide +kernel
theorem dX5_takeLetters_44 : decode cX5_takeLetters 44 = .ok (.iload_n 1, 1) := by decide +kernel
theorem dX5_takeLetters_45 : decode cX5_takeLetters 45 = .ok (.baload, 1) := by decide +kernel
theorem dX5_takeLetters_46 : decode cX5_takeLetters 46 = .ok (.bipush 122, 2) := by decide +kernel
theorem dX5_takeLetters_48 : decode cX5_takeLetters 48 = .ok (.if_icmp .le 6, 3) := by decide +kernel
theorem dX5_takeLetters_51 : decode cX5_takeLetters 51 = .ok (.goto 41, 3) := by decide +kernel
theorem dX5_takeLetters_54 : decode cX5_takeLetters 54 = .ok (.aload_n 0, 1) := by decide +kernel
theorem dX5_takeLetters_55 : decode cX5_takeLetters 55 = .ok (.aload_n 0, 1) := by decide +kernel
theorem dX5_takeLetters_56 : decode cX5_takeLetters 56 = .ok (.getfield 79, 3) := by decide +kernel
theorem dX5_takeLetters_59 : decode cX5_takeLetters 59 = .ok (.ldc2_w 83, 3) := by decide +kernel
theorem dX5_takeLetters_62 : decode cX5_takeLetters 62 = .ok (.lmul, 1) := by decide +kernel
theorem dX5_takeLetters_63 : decode cX5_takeLetters 63 = .ok (.aload_n 0, 1) := by decide +kernel
theorem dX5_takeLetters_64 : decode cX5_takeLetters 64 = .ok (.getfield 11, 3) := by decide +kernel
theorem dX5_takeLetters_67 : decode cX5_takeLetters 67 = .ok (.iload_n 1, 1) := by decide +kernel
theorem dX5_takeLetters_68 : decode cX5_takeLetters 68 = .ok (.baload, 1) := by decide +kernel
theorem dX5_takeLetters_69 : decode cX5_takeLetters 69 = .ok (.bipush 97, 2) := by decide +kernel
theorem dX5_takeLetters_71 : decode cX5_takeLetters 71 = .ok (.isub, 1) := by decide +kernel
theorem dX5_takeLetters_72 : decode cX5_takeLetters 72 = .ok (.iconst 1, 1) := by decide +kernel
theorem dX5_takeLetters_73 : decode cX5_takeLetters 73 = .ok (.iadd, 1) := by decide +kernel
theorem dX5_takeLetters_74 : decode cX5_takeLetters 74 = .ok (.i2l, 1) := by decide +kernel
theorem dX5_takeLetters_75 : decode cX5_takeLetters 75 = .ok (.ladd, 1) := by decide +kernel
theorem dX5_takeLetters_76 : decode cX5_takeLetters 76 = .ok (.putfield 79, 3) := by decide +kernel
theorem dX5_takeLetters_79 : decode cX5_takeLetters 79 = .ok (.aload_n 0, 1) := by decide +kernel
theorem dX5_takeLetters_80 : decode cX5_takeLetters 80 = .ok (.iload_n 1, 1) := by decide +kernel
theorem dX5_takeLetters_81 : decode cX5_takeLetters 81 = .ok (.iconst 1, 1) := by decide +kernel
theorem dX5_takeLetters_82 : decode cX5_takeLetters 82 = .ok (.iadd, 1) := by decide +kernel
theorem dX5_takeLetters_83 : decode cX5_takeLetters 83 = .ok (.putfield 42, 3) := by decide +kernel
theorem dX5_takeLetters_86 : decode cX5_takeLetters 86 = .ok (.iinc 1 1, 3) := by decide +kernel
theorem dX5_takeLetters_89 : decode cX5_takeLetters 89 = .ok (.goto (-79), 3) := by decide +kernel
theorem dX5_takeLetters_92 : decode cX5_takeLetters 92 = .ok (.aload_n 0, 1) := by decide +kernel
theorem dX5_takeLetters_93 : decode cX5_takeLetters 93 = .ok (.aload_n 0, 1) := by decide +kernel
theorem dX5_takeLetters_94 : decode cX5_takeLetters 94 = .ok (.getfield 42, 3) := by decide +kernel
theorem dX5_takeLetters_97 : decode cX5_takeLetters 97 = .ok (.aload_n 0, 1) := by decide +kernel
theorem dX5_takeLetters_98 : decode cX5_takeLetters 98 = .ok (.getfield 36, 3) := by decide +kernel
theorem dX5_takeLetters_101 : decode cX5_takeLetters 101 = .ok (.isub, 1) := by decide +kernel
theorem dX5_takeLetters_102 : decode cX5_takeLetters 102 = .ok (.bipush 8, 2) := by decide +kernel
theorem dX5_takeLetters_104 : decode cX5_takeLetters 104 = .ok (.if_icmp .gt 7, 3) := by decide +kernel
theorem dX5_takeLetters_107 : decode cX5_takeLetters 107 = .ok (.iconst 1, 1) := by decide +kernel
theorem dX5_takeLetters_108 : decode cX5_takeLetters 108 = .ok (.goto 4, 3) := by decide +kernel
theorem dX5_takeLetters_111 : decode cX5_takeLetters 111 = .ok (.iconst 4, 1) := by decide +kernel
theorem dX5_takeLetters_112 : decode cX5_takeLetters 112 = .ok (.putfield 59, 3) := by decide +kernel
theorem dX5_takeLetters_115 : decode cX5_takeLetters 115 = .ok (.return_, 1) := by decide +kernel
theorem dX5_takeDigits_0 : decode cX5_takeDigits 0 = .ok (.aload_n 0, 1) := by decide +kernel
theorem dX5_takeDigits_1 : decode cX5_takeDigits 1 = .ok (.iconst 0, 1) := by decide +kernel
theorem dX5_takeDigits_2 : decode cX5_takeDigits 2 = .ok (.putfield 85, 3) := by decide +kernel
theorem dX5_takeDigits_5 : decode cX5_takeDigits 5 = .ok (.aload_n 0, 1) := by decide +kernel
theorem dX5_takeDigits_6 : decode cX5_takeDigits 6 = .ok (.getfield 36, 3) := by decide +kernel
theorem dX5_takeDigits_9 : decode cX5_takeDigits 9 = .ok (.istore_n 1, 1) := by decide +kernel
theorem dX5_takeDigits_10 : decode cX5_takeDigits 10 = .ok (.iload_n 1, 1) := by decide +kernel
theorem dX5_takeDigits_11 : decode cX5_takeDigits 11 = .ok (.ifCond .lt 77, 3) := by decide +kernel
theorem dX5_takeDigits_14 : decode cX5_takeDigits 14 = .ok (.iload_n 1, 1) := by decide +kernel
theorem dX5_takeDigits_15 : decode cX5_takeDigits 15 = .ok (.aload_n 0, 1) := by decide +kernel
theorem dX5_takeDigits_16 : decode cX5_takeDigits 16 = .ok (.getfield 39, 3) := by decide +kernel
theorem dX5_takeDigits_19 : decode cX5_takeDigits 19 = .ok (.if_icmp .ge 69, 3) := by decide +kernel
theorem dX5_takeDigits_22 : decode cX5_takeDigits 22 = .ok (.iload_n 1, 1) := by decide +kernel
theorem dX5_takeDigits_23 : decode cX5_takeDigits 23 = .ok (.sipush 900, 3) := by decide +kernel
theorem dX5_takeDigits_26 : decode cX5_takeDigits 26 = .ok (.if_icmp .ge 62, 3) := by decide +kernel
theorem dX5_takeDigits_29 : decode cX5_takeDigits 29 = .ok (.aload_n 0, 1) := by decide +kernel
theorem dX5_takeDigits_30 : decode cX5_takeDigits 30 = .ok (.getfield 11, 3) := by decide +kernel
theorem dX5_takeDigits_33 : decode cX5_takeDigits 33 = .ok (.iload_n 1, 1) := by decide +kernel
theorem dX5_takeDigits_34 : decode cX5_takeDigits 34 = .ok (.baload, 1) := by decide +kernel
theorem dX5_takeDigits_35 : decode cX5_takeDigits 35 = .ok (.bipush 48, 2) := by decide +kernel
theorem dX5_takeDigits_37 : decode cX5_takeDigits 37 = .ok (.if_icmp .lt 51, 3) := by decide +kernel
theorem dX5_takeDigits_40 : decode cX5_takeDigits 40 = .ok (.aload_n 0, 1) := by decide +kernel
theorem dX5_takeDigits_41 : decode cX5_takeDigits 41 = .ok (.getfield 11, 3) := by decide +kernel
theorem dX5_takeDigits_44 : decode cX5_takeDigits 44 = .ok (.iload_n 1, 1) := by decide +kernel
theorem dX5_takeDigits_45 : decode cX5_takeDigits 45 = .ok (.baload, 1) := by decide +kernel
theorem dX5_takeDigits_46 : decode cX5_takeDigits 46 = .ok (.bipush 57, 2) := by decide +kernel
theorem dX5_takeDigits_48 : decode cX5_takeDigits 48 = .ok (.if_icmp .le 6, 3) := by decide +kernel
theorem dX5_takeDigits_51 : decode cX5_takeDigits 51 = .ok (.goto 37, 3) := by decide +kernel
theorem dX5_takeDigits_54 : decode cX5_takeDigits 54 = .ok (.aload_n 0, 1) := by decide +kernel
theorem dX5_takeDigits_55 : decode cX5_takeDigits 55 = .ok (.aload_n 0, 1) := by decide +kernel
theorem dX5_takeDigits_56 : decode cX5_takeDigits 56 = .ok (.getfield 85, 3) := by decide +kernel
theorem dX5_takeDigits_59 : decode cX5_takeDigits 59 = .ok (.bipush 10, 2) := by decide +kernel
theorem dX5_takeDigits_61 : decode cX5_takeDigits 61 = .ok (.imul, 1) := by decide +kernel
theorem dX5_takeDigits_62 : decode cX5_takeDigits 62 = .ok (.aload_n 0, 1) := by decide +kernel
theorem dX5_takeDigits_63 : decode cX5_takeDigits 63 = .ok (.getfield 11, 3) := by decide +kernel
theorem dX5_takeDigits_66 : decode cX5_takeDigits 66 = .ok (.iload_n 1, 1) := by decide +kernel
theorem dX5_takeDigits_67 : decode cX5_takeDigits 67 = .ok (.baload, 1) := by decide +kernel
theorem dX5_takeDigits_68 : decode cX5_takeDigits 68 = .ok (.bipush 48, 2) := by decide +kernel
theorem dX5_takeDigits_70 : decode cX5_takeDigits 70 = .ok (.isub, 1) := by decide +kernel
theorem dX5_takeDigits_71 : decode cX5_takeDigits 71 = .ok (.iadd, 1) := by decide +kernel
theorem dX5_takeDigits_72 : decode cX5_takeDigits 72 = .ok (.putfield 85, 3) := by decide +kernel
theorem dX5_takeDigits_75 : decode cX5_takeDigits 75 = .ok (.aload_n 0, 1) := by decide +kernel
theorem dX5_takeDigits_76 : decode cX5_takeDigits 76 = .ok (.iload_n 1, 1) := by decide +kernel
theorem dX5_takeDigits_77 : decode cX5_takeDigits 77 = .ok (.iconst 1, 1) := by decide +kernel
theorem dX5_takeDigits_78 : decode cX5_takeDigits 78 = .ok (.iadd, 1) := by decide +kernel
theorem dX5_takeDigits_79 : decode cX5_takeDigits 79 = .ok (.putfield 42, 3) := by decide +kernel
theorem dX5_takeDigits_82 : decode cX5_takeDigits 82 = .ok (.iinc 1 1, 3) := by decide +kernel
theorem dX5_takeDigits_85 : decode cX5_takeDigits 85 = .ok (.goto (-75), 3) := by decide +kernel
theorem dX5_takeDigits_88 : decode cX5_takeDigits 88 = .ok (.aload_n 0, 1) := by decide +kernel
theorem dX5_takeDigits_89 : decode cX5_takeDigits 89 = .ok (.aload_n 0, 1) := by decide +kernel
theorem dX5_takeDigits_90 : decode cX5_takeDigits 90 = .ok (.getfield 42, 3) := by decide +kernel
theorem dX5_takeDigits_93 : decode cX5_takeDigits 93 = .ok (.aload_n 0, 1) := by decide +kernel
theorem dX5_takeDigits_94 : decode cX5_takeDigits 94 = .ok (.getfield 36, 3) := by decide +kernel
theorem dX5_takeDigits_97 : decode cX5_takeDigits 97 = .ok (.isub, 1) := by decide +kernel
theorem dX5_takeDigits_98 : decode cX5_takeDigits 98 = .ok (.iconst 3, 1) := by decide +kernel
theorem dX5_takeDigits_99 : decode cX5_takeDigits 99 = .ok (.if_icmp .gt 7, 3) := by decide +kernel
theorem dX5_takeDigits_102 : decode cX5_takeDigits 102 = .ok (.iconst 2, 1) := by decide +kernel
theorem dX5_takeDigits_103 : decode cX5_takeDigits 103 = .ok (.goto 4, 3) := by decide +kernel
theorem dX5_takeDigits_106 : decode cX5_takeDigits 106 = .ok (.iconst 4, 1) := by decide +kernel
theorem dX5_takeDigits_107 : decode cX5_takeDigits 107 = .ok (.putfield 59, 3) := by decide +kernel
theorem dX5_takeDigits_110 : decode cX5_takeDigits 110 = .ok (.return_, 1) := by decide +kernel
set_option maxRecDepth 20000 in
theorem ggX5_says_J0_length_8abf5 : GoodIn wsX5_says wsJ0_length_8abf5 := goodIn_r _ [9, 10, 11, 12, 13, 8, 14, 15, 16] (by decide +kernel) (by decide +kernel)
set_option maxRecDepth 20000 in
theorem gX5_says_J0_length_8abf5 : GoodIn wsX5_says (wsV RX5 88 RJ0 yJ0_length_8abf5 wsJ0_length_8abf5) := goodIn_app (goodIn_of _ (by decide +kernel)) ggX5_says_J0_length_8abf5
set_option maxRecDepth 20000 in
theorem ggX5_says_J0_charAt_5068e : GoodIn wsX5_says wsJ0_charAt_5068e := goodIn_r _ [20, 10, 21, 22, 23, 8, 24, 15, 16, 25, 26, 27, 28, 29, 30, 31, 32, 33, 34, 35, 36, 37, 38, 39, 40, 41, 42, 43, 44, 45, 46, 47, 48, 49, 50, 51, 52, 53] (by decide +kernel) (by decide +kernel)
set_option maxRecDepth 20000 in
theorem gX5_says_J0_charAt_5068e : GoodIn wsX5_says (wsV RX5 94 RJ0 yJ0_charAt_5068e wsJ0_charAt_5068e) := goodIn_app (goodIn_of _ (by decide +kernel)) ggX5_says_J0_charAt_5068e
theorem dX5_says_0 : decode cX5_says 0 = .ok (.aload_n 0, 1) := by decide +kernel
theorem dX5_says_1 : decode cX5_says 1 = .ok (.getfield 59, 3) := by decide +kernel
theorem dX5_says_4 : decode cX5_says 4 = .ok (.iconst 1, 1) := by decide +kernel
theorem dX5_says_5 : decode cX5_says 5 = .ok (.if_icmp .ne 19, 3) := by decide +kernel
theorem dX5_says_8 : decode cX5_says 8 = .ok (.aload_n 0, 1) := by decide +kernel
theorem dX5_says_9 : decode cX5_says 9 = .ok (.getfield 42, 3) := by decide +kernel
theorem dX5_says_12 : decode cX5_says 12 = .ok (.aload_n 0, 1) := by decide +kernel
theorem dX5_says_13 : decode cX5_says 13 = .ok (.getfield 36, 3) := by decide +kernel
theorem dX5_says_16 : decode cX5_says 16 = .ok (.isub, 1) := by decide +kernel
theorem dX5_says_17 : decode cX5_says 17 = .ok (.aload_n 1, 1) := by decide +kernel
theorem dX5_says_18 : decode cX5_says 18 = .ok (.invokevirtual 88, 3) := by decide +kernel
theorem dX5_says_21 : decode cX5_says 21 = .ok (.if_icmp .eq 5, 3) := by decide +kernel
theorem dX5_says_24 : decode cX5_says 24 = .ok (.iconst 0, 1) := by decide +kernel
theorem dX5_says_25 : decode cX5_says 25 = .ok (.ireturn, 1) := by decide +kernel
theorem dX5_says_26 : decode cX5_says 26 = .ok (.iconst 0, 1) := by decide +kernel
theorem dX5_says_27 : decode cX5_says 27 = .ok (.istore_n 2, 1) := by decide +kernel
theorem dX5_says_28 : decode cX5_says 28 = .ok (.iload_n 2, 1) := by decide +kernel
theorem dX5_says_29 : decode cX5_says 29 = .ok (.aload_n 1, 1) := by decide +kernel
theorem dX5_says_30 : decode cX5_says 30 = .ok (.invokevirtual 88, 3) := by decide +kernel
theorem dX5_says_33 : decode cX5_says 33 = .ok (.if_icmp .ge 43, 3) := by decide +kernel
theorem dX5_says_36 : decode cX5_says 36 = .ok (.aload_n 0, 1) := by decide +kernel
theorem dX5_says_37 : decode cX5_says 37 = .ok (.getfield 36, 3) := by decide +kernel
theorem dX5_says_40 : decode cX5_says 40 = .ok (.iload_n 2, 1) := by decide +kernel
theorem dX5_says_41 : decode cX5_says 41 = .ok (.iadd, 1) := by decide +kernel
theorem dX5_says_42 : decode cX5_says 42 = .ok (.istore_n 3, 1) := by decide +kernel
theorem dX5_says_43 : decode cX5_says 43 = .ok (.iload_n 3, 1) := by decide +kernel
theorem dX5_says_44 : decode cX5_says 44 = .ok (.ifCond .lt 24, 3) := by decide +kernel
theorem dX5_says_47 : decode cX5_says 47 = .ok (.iload_n 3, 1) := by decide +kernel
theorem dX5_says_48 : decode cX5_says 48 = .ok (.sipush 900, 3) := by decide +kernel
theorem dX5_says_51 : decode cX5_says 51 = .ok (.if_icmp .ge 17, 3) := by decide +kernel
theorem dX5_says_54 : decode cX5_says 54 = .ok (.aload_n 0, 1) := by decide +kernel
theorem dX5_says_55 : decode cX5_says 55 = .ok (.getfield 11, 3) := by decide +kernel
theorem dX5_says_58 : decode cX5_says 58 = .ok (.iload_n 3, 1) := by decide +kernel
theorem dX5_says_59 : decode cX5_says 59 = .ok (.baload, 1) := by decide +kernel
theorem dX5_says_60 : decode cX5_says 60 = .ok (.aload_n 1, 1) := by decide +kernel
theorem dX5_says_61 : decode cX5_says 61 = .ok (.iload_n 2, 1) := by decide +kernel
theorem dX5_says_62 : decode cX5_says 62 = .ok (.invokevirtual 94, 3) := by decide +kernel
theorem dX5_says_65 : decode cX5_says 65 = .ok (.if_icmp .eq 5, 3) := by decide +kernel
theorem dX5_says_68 : decode cX5_says 68 = .ok (.iconst 0, 1) := by decide +kernel
theorem dX5_says_69 : decode cX5_says 69 = .ok (.ireturn, 1) := by decide +kernel
theorem dX5_says_70 : decode cX5_says 70 = .ok (.iinc 2 1, 3) := by decide +kernel
theorem dX5_says_73 : decode cX5_says 73 = .ok (.goto (-45), 3) := by decide +kernel
theorem dX5_says_76 : decode cX5_says 76 = .ok (.iconst 1, 1) := by decide +kernel
theorem dX5_says_77 : decode cX5_says 77 = .ok (.ireturn, 1) := by decide +kernel
set_option maxRecDepth 20000 in
theorem ggX5_passes_X5_says : GoodIn wsX5_passes wsX5_says := goodIn_r _ [5, 6, 7, 8, 9, 10, 11, 12, 13, 14, 15, 16, 17, 18, 19, 20, 21, 22, 23, 24, 25, 26, 27, 28, 29, 30, 31, 32, 33, 34, 35, 36, 37, 38, 39, 40, 41, 42, 43, 44, 45, 46, 47, 48, 49, 50, 51, 52, 53, 54, 55, 56, 57, 58, 84, 85, 86, 87, 88, 89, 90, 91, 92, 93, 94, 95, 96] (by decide +kernel) (by decide +kernel)
set_option maxRecDepth 20000 in
theorem gX5_passes_X5_says : GoodIn wsX5_passes (wsV RX5 98 RX5 yX5_says wsX5_says) := goodIn_app (goodIn_of _ (by decide +kernel)) ggX5_passes_X5_says
set_option maxRecDepth 20000 in
theorem ggX5_passes_X5_fails : GoodIn wsX5_passes wsX5_fails := goodIn_r _ [62, 63, 84, 85, 86, 87, 88, 89, 90, 91, 92, 93, 94, 95, 96] (by decide +kernel) (by decide +kernel)
set_option maxRecDepth 20000 in
theorem gX5_passes_X5_fails : GoodIn wsX5_passes (wsV RX5 62 RX5 yX5_fails wsX5_fails) := goodIn_app (goodIn_of _ (by decide +kernel)) ggX5_passes_X5_fails
set_option maxRecDepth 20000 in
theorem ggX5_passes_X5_step : GoodIn wsX5_passes wsX5_step := goodIn_r _ [67, 7, 68, 8, 6, 69, 70, 71, 4, 72, 9, 73, 74, 75, 76, 77, 78, 79, 80, 81, 82, 83, 84, 85, 86, 87, 88, 89, 90, 91, 92, 93, 94, 95, 96] (by decide +kernel) (by decide +kernel)
set_option maxRecDepth 20000 in
theorem gX5_passes_X5_step : GoodIn wsX5_passes (wsV RX5 52 RX5 yX5_step wsX5_step) := goodIn_app (goodIn_of _ (by decide +kernel)) ggX5_passes_X5_step
theorem dX5_passes_0 : decode cX5_passes 0 = .ok (.aload_n 0, 1) := by decide +kernel
theorem dX5_passes_1 : decode cX5_passes 1 = .ok (.aload_n 1, 1) := by decide +kernel
theorem dX5_passes_2 : decode cX5_passes 2 = .ok (.invokevirtual 98, 3) := by decide +kernel
theorem dX5_passes_5 : decode cX5_passes 5 = .ok (.ifCond .ne 9, 3) := by decide +kernel
theorem dX5_passes_8 : decode cX5_passes 8 = .ok (.aload_n 0, 1) := by decide +kernel
theorem dX5_passes_9 : decode cX5_passes 9 = .ok (.iconst 1, 1) := by decide +kernel
theorem dX5_passes_10 : decode cX5_passes 10 = .ok (.invokevirtual 62, 3) := by decide +kernel
theorem dX5_passes_13 : decode cX5_passes 13 = .ok (.ireturn, 1) := by decide +kernel
theorem dX5_passes_14 : decode cX5_passes 14 = .ok (.aload_n 0, 1) := by decide +kernel
theorem dX5_passes_15 : decode cX5_passes 15 = .ok (.invokevirtual 52, 3) := by decide +kernel
theorem dX5_passes_18 : decode cX5_passes 18 = .ok (.iconst 1, 1) := by decide +kernel
theorem dX5_passes_19 : decode cX5_passes 19 = .ok (.ireturn, 1) := by decide +kernel
set_option maxRecDepth 20000 in
theorem ggX5_isName_X5_says : GoodIn wsX5_isName wsX5_says := goodIn_r _ [6, 1, 7, 8, 9, 10, 11, 12, 13, 14, 15, 16, 17, 18, 19, 20, 21, 22, 23, 24, 25, 26, 27, 28, 29, 30, 31, 32, 33, 34, 35, 36, 37, 38, 39, 40, 41, 42, 43, 44, 45, 46, 47, 48, 49, 50, 51, 52, 53, 54, 55, 56, 57, 58, 59, 60, 61, 62, 63, 64, 65, 66, 67, 68, 69, 70, 71] (by decide +kernel) (by decide +kernel)
set_option maxRecDepth 20000 in
theorem gX5_isName_X5_says : GoodIn wsX5_isName (wsV RX5 98 RX5 yX5_says wsX5_says) := goodIn_app (goodIn_of _ (by decide +kernel)) ggX5_isName_X5_says
theorem dX5_isName_0 : decode cX5_isName 0 = .ok (.aload_n 0, 1) := by decide +kernel
theorem dX5_isName_1 : decode cX5_isName 1 = .ok (.ldc 102, 2) := by decide +kernel
theorem dX5_isName_3 : decode cX5_isName 3 = .ok (.invokevirtual 98, 3) := by decide +kernel
theorem dX5_isName_6 : decode cX5_isName 6 = .ok (.ifCond .ne 30, 3) := by decide +kernel
theorem dX5_isName_9 : decode cX5_isName 9 = .ok (.aload_n 0, 1) := by decide +kernel
theorem dX5_isName_10 : decode cX5_isName 10 = .ok (.ldc 104, 2) := by decide +kernel
theorem dX5_isName_12 : decode cX5_isName 12 = .ok (.invokevirtual 98, 3) := by decide +kernel
theorem dX5_isName_15 : decode cX5_isName 15 = .ok (.ifCond .ne 21, 3) := by decide +kernel
theorem dX5_isName_18 : decode cX5_isName 18 = .ok (.aload_n 0, 1) := by decide +kernel
theorem dX5_isName_19 : decode cX5_isName 19 = .ok (.ldc 106, 2) := by decide +kernel
theorem dX5_isName_21 : decode cX5_isName 21 = .ok (.invokevirtual 98, 3) := by decide +kernel
theorem dX5_isName_24 : decode cX5_isName 24 = .ok (.ifCond .ne 12, 3) := by decide +kernel
theorem dX5_isName_27 : decode cX5_isName 27 = .ok (.aload_n 0, 1) := by decide +kernel
theorem dX5_isName_28 : decode cX5_isName 28 = .ok (.ldc 108, 2) := by decide +kernel
theorem dX5_isName_30 : decode cX5_isName 30 = .ok (.invokevirtual 98, 3) := by decide +kernel
theorem dX5_isName_33 : decode cX5_isName 33 = .ok (.ifCond .eq 7, 3) := by decide +kernel
theorem dX5_isName_36 : decode cX5_isName 36 = .ok (.iconst 1, 1) := by decide +kernel
theorem dX5_isName_37 : decode cX5_isName 37 = .ok (.goto 4, 3) := by decide +kernel
theorem dX5_isName_40 : decode cX5_isName 40 = .ok (.iconst 0, 1) := by decide +kernel
theorem dX5_isName_41 : decode cX5_isName 41 = .ok (.istore_n 1, 1) := by decide +kernel
theorem dX5_isName_42 : decode cX5_isName 42 = .ok (.aload_n 0, 1) := by decide +kernel
theorem dX5_isName_43 : decode cX5_isName 43 = .ok (.ldc 110, 2) := by decide +kernel
theorem dX5_isName_45 : decode cX5_isName 45 = .ok (.invokevirtual 98, 3) := by decide +kernel
theorem dX5_isName_48 : decode cX5_isName 48 = .ok (.ifCond .ne 30, 3) := by decide +kernel
theorem dX5_isName_51 : decode cX5_isName 51 = .ok (.aload_n 0, 1) := by decide +kernel
theorem dX5_isName_52 : decode cX5_isName 52 = .ok (.ldc 112, 2) := by decide +kernel
theorem dX5_isName_54 : decode cX5_isName 54 = .ok (.invokevirtual 98, 3) := by decide +kernel
theorem dX5_isName_57 : decode cX5_isName 57 = .ok (.ifCond .ne 21, 3) := by decide +kernel
theorem dX5_isName_60 : decode cX5_isName 60 = .ok (.aload_n 0, 1) := by decide +kernel
theorem dX5_isName_61 : decode cX5_isName 61 = .ok (.ldc 114, 2) := by decide +kernel
theorem dX5_isName_63 : decode cX5_isName 63 = .ok (.invokevirtual 98, 3) := by decide +kernel
theorem dX5_isName_66 : decode cX5_isName 66 = .ok (.ifCond .ne 12, 3) := by decide +kernel
theorem dX5_isName_69 : decode cX5_isName 69 = .ok (.aload_n 0, 1) := by decide +kernel
theorem dX5_isName_70 : decode cX5_isName 70 = .ok (.ldc 115, 2) := by decide +kernel
theorem dX5_isName_72 : decode cX5_isName 72 = .ok (.invokevirtual 98, 3) := by decide +kernel
theorem dX5_isName_75 : decode cX5_isName 75 = .ok (.ifCond .eq 7, 3) := by decide +kernel
theorem dX5_isName_78 : decode cX5_isName 78 = .ok (.iconst 1, 1) := by decide +kernel
theorem dX5_isName_79 : decode cX5_isName 79 = .ok (.goto 4, 3) := by decide +kernel
theorem dX5_isName_82 : decode cX5_isName 82 = .ok (.iconst 0, 1) := by decide +kernel
theorem dX5_isName_83 : decode cX5_isName 83 = .ok (.istore_n 2, 1) := by decide +kernel
theorem dX5_isName_84 : decode cX5_isName 84 = .ok (.aload_n 0, 1) := by decide +kernel
theorem dX5_isName_85 : decode cX5_isName 85 = .ok (.getfield 59, 3) := by decide +kernel
theorem dX5_isName_88 : decode cX5_isName 88 = .ok (.iconst 1, 1) := by decide +kernel
theorem dX5_isName_89 : decode cX5_isName 89 = .ok (.if_icmp .ne 15, 3) := by decide +kernel
theorem dX5_isName_92 : decode cX5_isName 92 = .ok (.iload_n 1, 1) := by decide +kernel
theorem dX5_isName_93 : decode cX5_isName 93 = .ok (.ifCond .ne 11, 3) := by decide +kernel
theorem dX5_isName_96 : decode cX5_isName 96 = .ok (.iload_n 2, 1) := by decide +kernel
theorem dX5_isName_97 : decode cX5_isName 97 = .ok (.ifCond .ne 7, 3) := by decide +kernel
theorem dX5_isName_100 : decode cX5_isName 100 = .ok (.iconst 1, 1) := by decide +kernel
theorem dX5_isName_101 : decode cX5_isName 101 = .ok (.goto 4, 3) := by decide +kernel
theorem dX5_isName_104 : decode cX5_isName 104 = .ok (.iconst 0, 1) := by decide +kernel
theorem dX5_isName_105 : decode cX5_isName 105 = .ok (.ireturn, 1) := by decide +kernel
theorem dX5_placeOfName_0 : decode cX5_placeOfName 0 = .ok (.iconst 0, 1) := by decide +kernel
theorem dX5_placeOfName_1 : decode cX5_placeOfName 1 = .ok (.istore 4, 2) := by decide +kernel
theorem dX5_placeOfName_3 : decode cX5_placeOfName 3 = .ok (.iload 4, 2) := by decide +kernel
theorem dX5_placeOfName_5 : decode cX5_placeOfName 5 = .ok (.iload_n 3, 1) := by decide +kernel
theorem dX5_placeOfName_6 : decode cX5_placeOfName 6 = .ok (.if_icmp .ge 28, 3) := by decide +kernel
theorem dX5_placeOfName_9 : decode cX5_placeOfName 9 = .ok (.iload 4, 2) := by decide +kernel
theorem dX5_placeOfName_11 : decode cX5_placeOfName 11 = .ok (.aload_n 2, 1) := by decide +kernel
theorem dX5_placeOfName_12 : decode cX5_placeOfName 12 = .ok (.arraylength, 1) := by decide +kernel
theorem dX5_placeOfName_13 : decode cX5_placeOfName 13 = .ok (.if_icmp .ge 21, 3) := by decide +kernel
theorem dX5_placeOfName_16 : decode cX5_placeOfName 16 = .ok (.aload_n 2, 1) := by decide +kernel
theorem dX5_placeOfName_17 : decode cX5_placeOfName 17 = .ok (.iload 4, 2) := by decide +kernel
theorem dX5_placeOfName_19 : decode cX5_placeOfName 19 = .ok (.laload, 1) := by decide +kernel
theorem dX5_placeOfName_20 : decode cX5_placeOfName 20 = .ok (.lload_n 0, 1) := by decide +kernel
theorem dX5_placeOfName_21 : decode cX5_placeOfName 21 = .ok (.lcmp, 1) := by decide +kernel
theorem dX5_placeOfName_22 : decode cX5_placeOfName 22 = .ok (.ifCond .ne 6, 3) := by decide +kernel
theorem dX5_placeOfName_25 : decode cX5_placeOfName 25 = .ok (.iload 4, 2) := by decide +kernel
theorem dX5_placeOfName_27 : decode cX5_placeOfName 27 = .ok (.ireturn, 1) := by decide +kernel
theorem dX5_placeOfName_28 : decode cX5_placeOfName 28 = .ok (.iinc 4 1, 3) := by decide +kernel
theorem dX5_placeOfName_31 : decode cX5_placeOfName 31 = .ok (.goto (-28), 3) := by decide +kernel
theorem dX5_placeOfName_34 : decode cX5_placeOfName 34 = .ok (.iconst (-1), 1) := by decide +kernel
theorem dX5_placeOfName_35 : decode cX5_placeOfName 35 = .ok (.ireturn, 1) := by decide +kernel
set_option maxRecDepth 20000 in
theorem ggX5_takeNewName_X5_isName : GoodIn wsX5_takeNewName wsX5_isName := goodIn_r _ [12, 13, 14, 15, 16, 11, 17, 18, 19, 20, 21, 22, 23, 24, 25, 26, 27, 28, 29, 30, 31, 32, 33, 34, 35, 36, 37, 38, 39, 40, 41, 42, 43, 44, 45, 46, 47, 48, 49, 50, 51, 52, 53, 54, 55, 56, 57, 58, 59, 60, 61, 62, 63, 64, 65, 66, 67, 68, 69, 97, 98, 99, 100, 101, 102, 103, 104, 105, 106, 107, 108, 109] (by decide +kernel) (by decide +kernel)
set_option maxRecDepth 20000 in
theorem gX5_takeNewName_X5_isName : GoodIn wsX5_takeNewName (wsV RX5 117 RX5 yX5_isName wsX5_isName) := goodIn_app (goodIn_of _ (by decide +kernel)) ggX5_takeNewName_X5_isName
set_option maxRecDepth 20000 in
theorem ggX5_takeNewName_X5_fails : GoodIn wsX5_takeNewName wsX5_fails := goodIn_r _ [73, 74, 97, 98, 99, 100, 101, 102, 103, 104, 105, 106, 107, 108, 109] (by decide +kernel) (by decide +kernel)
set_option maxRecDepth 20000 in
theorem gX5_takeNewName_X5_fails : GoodIn wsX5_takeNewName (wsV RX5 62 RX5 yX5_fails wsX5_fails) := goodIn_app (goodIn_of _ (by decide +kernel)) ggX5_takeNewName_X5_fails
set_option maxRecDepth 20000 in
theorem ggX5_takeNewName_X5_placeOfName : GoodIn wsX5_takeNewName wsX5_placeOfName := goodIn_r _ [77] (by decide +kernel) (by decide +kernel)
set_option maxRecDepth 20000 in
theorem gX5_takeNewName_X5_placeOfName : GoodIn wsX5_takeNewName (va_wsS RX5 125 yX5_placeOfName wsX5_placeOfName) := goodIn_app (goodIn_of _ (by decide +kernel)) ggX5_takeNewName_X5_placeOfName
set_option maxRecDepth 20000 in
theorem ggX5_takeNewName_X5_step : GoodIn wsX5_takeNewName wsX5_step := goodIn_r _ [81, 18, 82, 19, 13, 83, 84, 85, 11, 86, 20, 87, 88, 89, 90, 2, 91, 92, 93, 94, 95, 96, 97, 98, 99, 100, 101, 102, 103, 104, 105, 106, 107, 108, 109] (by decide +kernel) (by decide +kernel)
set_option maxRecDepth 20000 in
theorem gX5_takeNewName_X5_step : GoodIn wsX5_takeNewName (wsV RX5 52 RX5 yX5_step wsX5_step) := goodIn_app (goodIn_of _ (by decide +kernel)) ggX5_takeNewName_X5_step
theorem dX5_takeNewName_0 : decode cX5_takeNewName 0 = .ok (.aload_n 0, 1) := by decide +kernel
theorem dX5_takeNewName_1 : decode cX5_takeNewName 1 = .ok (.invokevirtual 117, 3) := by decide +kernel
theorem dX5_takeNewName_4 : decode cX5_takeNewName 4 = .ok (.ifCond .ne 13, 3) := by decide +kernel
theorem dX5_takeNewName_7 : decode cX5_takeNewName 7 = .ok (.aload_n 0, 1) := by decide +kernel
theorem dX5_takeNewName_8 : decode cX5_takeNewName 8 = .ok (.iconst 1, 1) := by decide +kernel
theorem dX5_takeNewName_9 : decode cX5_takeNewName 9 = .ok (.invokevirtual 62, 3) := by decide +kernel
theorem dX5_takeNewName_12 : decode cX5_takeNewName 12 = .ok (.pop, 1) := by decide +kernel
theorem dX5_takeNewName_13 : decode cX5_takeNewName 13 = .ok (.ldc2_w 120, 3) := by decide +kernel
theorem dX5_takeNewName_16 : decode cX5_takeNewName 16 = .ok (.lreturn, 1) := by decide +kernel
theorem dX5_takeNewName_17 : decode cX5_takeNewName 17 = .ok (.aload_n 0, 1) := by decide +kernel
theorem dX5_takeNewName_18 : decode cX5_takeNewName 18 = .ok (.getfield 79, 3) := by decide +kernel
theorem dX5_takeNewName_21 : decode cX5_takeNewName 21 = .ok (.aload_n 0, 1) := by decide +kernel
theorem dX5_takeNewName_22 : decode cX5_takeNewName 22 = .ok (.getfield 22, 3) := by decide +kernel
theorem dX5_takeNewName_25 : decode cX5_takeNewName 25 = .ok (.aload_n 0, 1) := by decide +kernel
theorem dX5_takeNewName_26 : decode cX5_takeNewName 26 = .ok (.getfield 18, 3) := by decide +kernel
theorem dX5_takeNewName_29 : decode cX5_takeNewName 29 = .ok (.getfield 122, 3) := by decide +kernel
theorem dX5_takeNewName_32 : decode cX5_takeNewName 32 = .ok (.invokestatic 125, 3) := by decide +kernel
theorem dX5_takeNewName_35 : decode cX5_takeNewName 35 = .ok (.ifCond .lt 7, 3) := by decide +kernel
theorem dX5_takeNewName_38 : decode cX5_takeNewName 38 = .ok (.iconst 1, 1) := by decide +kernel
theorem dX5_takeNewName_39 : decode cX5_takeNewName 39 = .ok (.goto 4, 3) := by decide +kernel
theorem dX5_takeNewName_42 : decode cX5_takeNewName 42 = .ok (.iconst 0, 1) := by decide +kernel
theorem dX5_takeNewName_43 : decode cX5_takeNewName 43 = .ok (.istore_n 1, 1) := by decide +kernel
theorem dX5_takeNewName_44 : decode cX5_takeNewName 44 = .ok (.iload_n 1, 1) := by decide +kernel
theorem dX5_takeNewName_45 : decode cX5_takeNewName 45 = .ok (.ifCond .ne 24, 3) := by decide +kernel
theorem dX5_takeNewName_48 : decode cX5_takeNewName 48 = .ok (.aload_n 0, 1) := by decide +kernel
theorem dX5_takeNewName_49 : decode cX5_takeNewName 49 = .ok (.getfield 79, 3) := by decide +kernel
theorem dX5_takeNewName_52 : decode cX5_takeNewName 52 = .ok (.aload_n 0, 1) := by decide +kernel
theorem dX5_takeNewName_53 : decode cX5_takeNewName 53 = .ok (.getfield 26, 3) := by decide +kernel
theorem dX5_takeNewName_56 : decode cX5_takeNewName 56 = .ok (.aload_n 0, 1) := by decide +kernel
theorem dX5_takeNewName_57 : decode cX5_takeNewName 57 = .ok (.getfield 18, 3) := by decide +kernel
theorem dX5_takeNewName_60 : decode cX5_takeNewName 60 = .ok (.getfield 129, 3) := by decide +kernel
theorem dX5_takeNewName_63 : decode cX5_takeNewName 63 = .ok (.invokestatic 125, 3) := by decide +kernel
theorem dX5_takeNewName_66 : decode cX5_takeNewName 66 = .ok (.ifCond .lt 13, 3) := by decide +kernel
theorem dX5_takeNewName_69 : decode cX5_takeNewName 69 = .ok (.aload_n 0, 1) := by decide +kernel
theorem dX5_takeNewName_70 : decode cX5_takeNewName 70 = .ok (.iconst 3, 1) := by decide +kernel
theorem dX5_takeNewName_71 : decode cX5_takeNewName 71 = .ok (.invokevirtual 62, 3) := by decide +kernel
theorem dX5_takeNewName_74 : decode cX5_takeNewName 74 = .ok (.pop, 1) := by decide +kernel
theorem dX5_takeNewName_75 : decode cX5_takeNewName 75 = .ok (.ldc2_w 120, 3) := by decide +kernel
theorem dX5_takeNewName_78 : decode cX5_takeNewName 78 = .ok (.lreturn, 1) := by decide +kernel
theorem dX5_takeNewName_79 : decode cX5_takeNewName 79 = .ok (.aload_n 0, 1) := by decide +kernel
theorem dX5_takeNewName_80 : decode cX5_takeNewName 80 = .ok (.getfield 79, 3) := by decide +kernel
theorem dX5_takeNewName_83 : decode cX5_takeNewName 83 = .ok (.lstore_n 2, 1) := by decide +kernel
theorem dX5_takeNewName_84 : decode cX5_takeNewName 84 = .ok (.aload_n 0, 1) := by decide +kernel
theorem dX5_takeNewName_85 : decode cX5_takeNewName 85 = .ok (.invokevirtual 52, 3) := by decide +kernel
theorem dX5_takeNewName_88 : decode cX5_takeNewName 88 = .ok (.lload_n 2, 1) := by decide +kernel
theorem dX5_takeNewName_89 : decode cX5_takeNewName 89 = .ok (.lreturn, 1) := by decide +kernel
set_option maxRecDepth 20000 in
theorem ggX5_takeToldName_X5_isName : GoodIn wsX5_takeToldName wsX5_isName := goodIn_r _ [6, 7, 8, 9, 10, 5, 11, 12, 13, 14, 15, 16, 17, 18, 19, 20, 21, 22, 23, 24, 25, 26, 27, 28, 29, 30, 31, 32, 33, 34, 35, 36, 37, 38, 39, 40, 41, 42, 43, 44, 45, 46, 47, 48, 49, 50, 51, 52, 53, 54, 55, 56, 57, 58, 59, 60, 61, 62, 63, 91, 92, 93, 94, 95, 96, 97, 98, 99, 100, 101, 102, 103] (by decide +kernel) (by decide +kernel)
set_option maxRecDepth 20000 in
theorem gX5_takeToldName_X5_isName : GoodIn wsX5_takeToldName (wsV RX5 117 RX5 yX5_isName wsX5_isName) := goodIn_app (goodIn_of _ (by decide +kernel)) ggX5_takeToldName_X5_isName
set_option maxRecDepth 20000 in
theorem ggX5_takeToldName_X5_fails : GoodIn wsX5_takeToldName wsX5_fails := goodIn_r _ [67, 68, 91, 92, 93, 94, 95, 96, 97, 98, 99, 100, 101, 102, 103] (by decide +kernel) (by decide +kernel)
set_option maxRecDepth 20000 in
theorem gX5_takeToldName_X5_fails : GoodIn wsX5_takeToldName (wsV RX5 62 RX5 yX5_fails wsX5_fails) := goodIn_app (goodIn_of _ (by decide +kernel)) ggX5_takeToldName_X5_fails
set_option maxRecDepth 20000 in
theorem ggX5_takeToldName_X5_placeOfName : GoodIn wsX5_takeToldName wsX5_placeOfName := goodIn_r _ [71] (by decide +kernel) (by decide +kernel)
set_option maxRecDepth 20000 in
theorem gX5_takeToldName_X5_placeOfName : GoodIn wsX5_takeToldName (va_wsS RX5 125 yX5_placeOfName wsX5_placeOfName) := goodIn_app (goodIn_of _ (by decide +kernel)) ggX5_takeToldName_X5_placeOfName
set_option maxRecDepth 20000 in
theorem ggX5_takeToldName_X5_step : GoodIn wsX5_takeToldName wsX5_step := goodIn_r _ [75, 12, 76, 13, 7, 77, 78, 79, 5, 80, 14, 81, 82, 83, 84, 1, 85, 86, 87, 88, 89, 90, 91, 92, 93, 94, 95, 96, 97, 98, 99, 100, 101, 102, 103] (by decide +kernel) (by decide +kernel)
set_option maxRecDepth 20000 in
theorem gX5_takeToldName_X5_step : GoodIn wsX5_takeToldName (wsV RX5 52 RX5 yX5_step wsX5_step) := goodIn_app (goodIn_of _ (by decide +kernel)) ggX5_takeToldName_X5_step
theorem dX5_takeToldName_0 : decode cX5_takeToldName 0 = .ok (.aload_n 0, 1) := by decide +kernel
theorem dX5_takeToldName_1 : decode cX5_takeToldName 1 = .ok (.invokevirtual 117, 3) := by decide +kernel
theorem dX5_takeToldName_4 : decode cX5_takeToldName 4 = .ok (.ifCond .ne 11, 3) := by decide +kernel
theorem dX5_takeToldName_7 : decode cX5_takeToldName 7 = .ok (.aload_n 0, 1) := by decide +kernel
theorem dX5_takeToldName_8 : decode cX5_takeToldName 8 = .ok (.iconst 1, 1) := by decide +kernel
theorem dX5_takeToldName_9 : decode cX5_takeToldName 9 = .ok (.invokevirtual 62, 3) := by decide +kernel
theorem dX5_takeToldName_12 : decode cX5_takeToldName 12 = .ok (.pop, 1) := by decide +kernel
theorem dX5_takeToldName_13 : decode cX5_takeToldName 13 = .ok (.iconst (-1), 1) := by decide +kernel
theorem dX5_takeToldName_14 : decode cX5_takeToldName 14 = .ok (.ireturn, 1) := by decide +kernel
theorem dX5_takeToldName_15 : decode cX5_takeToldName 15 = .ok (.aload_n 0, 1) := by decide +kernel
theorem dX5_takeToldName_16 : decode cX5_takeToldName 16 = .ok (.getfield 79, 3) := by decide +kernel
theorem dX5_takeToldName_19 : decode cX5_takeToldName 19 = .ok (.aload_n 1, 1) := by decide +kernel
theorem dX5_takeToldName_20 : decode cX5_takeToldName 20 = .ok (.iload_n 2, 1) := by decide +kernel
theorem dX5_takeToldName_21 : decode cX5_takeToldName 21 = .ok (.invokestatic 125, 3) := by decide +kernel
theorem dX5_takeToldName_24 : decode cX5_takeToldName 24 = .ok (.istore_n 3, 1) := by decide +kernel
theorem dX5_takeToldName_25 : decode cX5_takeToldName 25 = .ok (.iload_n 3, 1) := by decide +kernel
theorem dX5_takeToldName_26 : decode cX5_takeToldName 26 = .ok (.ifCond .ge 11, 3) := by decide +kernel
theorem dX5_takeToldName_29 : decode cX5_takeToldName 29 = .ok (.aload_n 0, 1) := by decide +kernel
theorem dX5_takeToldName_30 : decode cX5_takeToldName 30 = .ok (.iconst 2, 1) := by decide +kernel
theorem dX5_takeToldName_31 : decode cX5_takeToldName 31 = .ok (.invokevirtual 62, 3) := by decide +kernel
theorem dX5_takeToldName_34 : decode cX5_takeToldName 34 = .ok (.pop, 1) := by decide +kernel
theorem dX5_takeToldName_35 : decode cX5_takeToldName 35 = .ok (.iconst (-1), 1) := by decide +kernel
theorem dX5_takeToldName_36 : decode cX5_takeToldName 36 = .ok (.ireturn, 1) := by decide +kernel
theorem dX5_takeToldName_37 : decode cX5_takeToldName 37 = .ok (.aload_n 0, 1) := by decide +kernel
theorem dX5_takeToldName_38 : decode cX5_takeToldName 38 = .ok (.invokevirtual 52, 3) := by decide +kernel
theorem dX5_takeToldName_41 : decode cX5_takeToldName 41 = .ok (.iload_n 3, 1) := by decide +kernel
theorem dX5_takeToldName_42 : decode cX5_takeToldName 42 = .ok (.ireturn, 1) := by decide +kernel
set_option maxRecDepth 20000 in
theorem ggX5_isWhole_X5_fails : GoodIn wsX5_isWhole wsX5_fails := goodIn_r _ [7, 8, 9, 10, 11, 12, 13, 14, 15, 16, 17, 18, 19, 20, 21] (by decide +kernel) (by decide +kernel)
set_option maxRecDepth 20000 in
theorem gX5_isWhole_X5_fails : GoodIn wsX5_isWhole (wsV RX5 62 RX5 yX5_fails wsX5_fails) := goodIn_app (goodIn_of _ (by decide +kernel)) ggX5_isWhole_X5_fails
theorem dX5_isWhole_0 : decode cX5_isWhole 0 = .ok (.aload_n 0, 1) := by decide +kernel
theorem dX5_isWhole_1 : decode cX5_isWhole 1 = .ok (.getfield 59, 3) := by decide +kernel
theorem dX5_isWhole_4 : decode cX5_isWhole 4 = .ok (.iconst 2, 1) := by decide +kernel
theorem dX5_isWhole_5 : decode cX5_isWhole 5 = .ok (.if_icmp .eq 9, 3) := by decide +kernel
theorem dX5_isWhole_8 : decode cX5_isWhole 8 = .ok (.aload_n 0, 1) := by decide +kernel
theorem dX5_isWhole_9 : decode cX5_isWhole 9 = .ok (.iconst 1, 1) := by decide +kernel
theorem dX5_isWhole_10 : decode cX5_isWhole 10 = .ok (.invokevirtual 62, 3) := by decide +kernel
theorem dX5_isWhole_13 : decode cX5_isWhole 13 = .ok (.ireturn, 1) := by decide +kernel
theorem dX5_isWhole_14 : decode cX5_isWhole 14 = .ok (.aload_n 0, 1) := by decide +kernel
theorem dX5_isWhole_15 : decode cX5_isWhole 15 = .ok (.getfield 85, 3) := by decide +kernel
theorem dX5_isWhole_18 : decode cX5_isWhole 18 = .ok (.iload_n 1, 1) := by decide +kernel
theorem dX5_isWhole_19 : decode cX5_isWhole 19 = .ok (.if_icmp .lt 11, 3) := by decide +kernel
theorem dX5_isWhole_22 : decode cX5_isWhole 22 = .ok (.aload_n 0, 1) := by decide +kernel
theorem dX5_isWhole_23 : decode cX5_isWhole 23 = .ok (.getfield 85, 3) := by decide +kernel
theorem dX5_isWhole_26 : decode cX5_isWhole 26 = .ok (.iload_n 2, 1) := by decide +kernel
theorem dX5_isWhole_27 : decode cX5_isWhole 27 = .ok (.if_icmp .le 11, 3) := by decide +kernel
theorem dX5_isWhole_30 : decode cX5_isWhole 30 = .ok (.aload_n 0, 1) := by decide +kernel
theorem dX5_isWhole_31 : decode cX5_isWhole 31 = .ok (.iconst 4, 1) := by decide +kernel
theorem dX5_isWhole_32 : decode cX5_isWhole 32 = .ok (.invokevirtual 62, 3) := by decide +kernel
theorem dX5_isWhole_35 : decode cX5_isWhole 35 = .ok (.ifCond .eq 7, 3) := by decide +kernel
theorem dX5_isWhole_38 : decode cX5_isWhole 38 = .ok (.iconst 1, 1) := by decide +kernel
theorem dX5_isWhole_39 : decode cX5_isWhole 39 = .ok (.goto 4, 3) := by decide +kernel
theorem dX5_isWhole_42 : decode cX5_isWhole 42 = .ok (.iconst 0, 1) := by decide +kernel
theorem dX5_isWhole_43 : decode cX5_isWhole 43 = .ok (.ireturn, 1) := by decide +kernel
set_option maxRecDepth 20000 in
theorem ggX5_takeWhole_X5_isWhole : GoodIn wsX5_takeWhole wsX5_isWhole := goodIn_r _ [6, 7, 1, 8, 9, 10, 5, 11, 12, 35, 36, 37, 38, 39, 40, 41, 42, 43, 44, 45, 46, 47] (by decide +kernel) (by decide +kernel)
set_option maxRecDepth 20000 in
theorem gX5_takeWhole_X5_isWhole : GoodIn wsX5_takeWhole (wsV RX5 132 RX5 yX5_isWhole wsX5_isWhole) := goodIn_app (goodIn_of _ (by decide +kernel)) ggX5_takeWhole_X5_isWhole
set_option maxRecDepth 20000 in
theorem ggX5_takeWhole_X5_step : GoodIn wsX5_takeWhole wsX5_step := goodIn_r _ [16, 17, 18, 19, 7, 20, 21, 22, 5, 23, 24, 25, 26, 27, 28, 29, 30, 31, 32, 33, 34, 1, 35, 36, 37, 38, 39, 40, 41, 42, 43, 44, 45, 46, 47] (by decide +kernel) (by decide +kernel)
set_option maxRecDepth 20000 in
theorem gX5_takeWhole_X5_step : GoodIn wsX5_takeWhole (wsV RX5 52 RX5 yX5_step wsX5_step) := goodIn_app (goodIn_of _ (by decide +kernel)) ggX5_takeWhole_X5_step
theorem dX5_takeWhole_0 : decode cX5_takeWhole 0 = .ok (.aload_n 0, 1) := by decide +kernel
theorem dX5_takeWhole_1 : decode cX5_takeWhole 1 = .ok (.iload_n 1, 1) := by decide +kernel
theorem dX5_takeWhole_2 : decode cX5_takeWhole 2 = .ok (.iload_n 2, 1) := by decide +kernel
theorem dX5_takeWhole_3 : decode cX5_takeWhole 3 = .ok (.invokevirtual 132, 3) := by decide +kernel
theorem dX5_takeWhole_6 : decode cX5_takeWhole 6 = .ok (.ifCond .ne 5, 3) := by decide +kernel
theorem dX5_takeWhole_9 : decode cX5_takeWhole 9 = .ok (.iconst (-1), 1) := by decide +kernel
theorem dX5_takeWhole_10 : decode cX5_takeWhole 10 = .ok (.ireturn, 1) := by decide +kernel
theorem dX5_takeWhole_11 : decode cX5_takeWhole 11 = .ok (.aload_n 0, 1) := by decide +kernel
theorem dX5_takeWhole_12 : decode cX5_takeWhole 12 = .ok (.getfield 85, 3) := by decide +kernel
theorem dX5_takeWhole_15 : decode cX5_takeWhole 15 = .ok (.istore_n 3, 1) := by decide +kernel
theorem dX5_takeWhole_16 : decode cX5_takeWhole 16 = .ok (.aload_n 0, 1) := by decide +kernel
theorem dX5_takeWhole_17 : decode cX5_takeWhole 17 = .ok (.invokevirtual 52, 3) := by decide +kernel
theorem dX5_takeWhole_20 : decode cX5_takeWhole 20 = .ok (.iload_n 3, 1) := by decide +kernel
theorem dX5_takeWhole_21 : decode cX5_takeWhole 21 = .ok (.ireturn, 1) := by decide +kernel
set_option maxRecDepth 20000 in
theorem ggX5_takeChoice_X5_fails : GoodIn wsX5_takeChoice wsX5_fails := goodIn_r _ [5, 6, 31, 32, 33, 34, 35, 36, 37, 38, 39, 40, 41, 42, 43] (by decide +kernel) (by decide +kernel)
set_option maxRecDepth 20000 in
theorem gX5_takeChoice_X5_fails : GoodIn wsX5_takeChoice (wsV RX5 62 RX5 yX5_fails wsX5_fails) := goodIn_app (goodIn_of _ (by decide +kernel)) ggX5_takeChoice_X5_fails
set_option maxRecDepth 20000 in
theorem ggX5_takeChoice_X5_step : GoodIn wsX5_takeChoice wsX5_step := goodIn_r _ [10, 11, 12, 13, 14, 15, 16, 17, 4, 18, 19, 20, 21, 22, 23, 24, 25, 26, 27, 28, 29, 30, 31, 32, 33, 34, 35, 36, 37, 38, 39, 40, 41, 42, 43] (by decide +kernel) (by decide +kernel)
set_option maxRecDepth 20000 in
theorem gX5_takeChoice_X5_step : GoodIn wsX5_takeChoice (wsV RX5 52 RX5 yX5_step wsX5_step) := goodIn_app (goodIn_of _ (by decide +kernel)) ggX5_takeChoice_X5_step
theorem dX5_takeChoice_0 : decode cX5_takeChoice 0 = .ok (.iload_n 1, 1) := by decide +kernel
theorem dX5_takeChoice_1 : decode cX5_takeChoice 1 = .ok (.ifCond .ge 11, 3) := by decide +kernel
theorem dX5_takeChoice_4 : decode cX5_takeChoice 4 = .ok (.aload_n 0, 1) := by decide +kernel
theorem dX5_takeChoice_5 : decode cX5_takeChoice 5 = .ok (.iconst 1, 1) := by decide +kernel
theorem dX5_takeChoice_6 : decode cX5_takeChoice 6 = .ok (.invokevirtual 62, 3) := by decide +kernel
theorem dX5_takeChoice_9 : decode cX5_takeChoice 9 = .ok (.pop, 1) := by decide +kernel
theorem dX5_takeChoice_10 : decode cX5_takeChoice 10 = .ok (.iconst (-1), 1) := by decide +kernel
theorem dX5_takeChoice_11 : decode cX5_takeChoice 11 = .ok (.ireturn, 1) := by decide +kernel
theorem dX5_takeChoice_12 : decode cX5_takeChoice 12 = .ok (.aload_n 0, 1) := by decide +kernel
theorem dX5_takeChoice_13 : decode cX5_takeChoice 13 = .ok (.invokevirtual 52, 3) := by decide +kernel
theorem dX5_takeChoice_16 : decode cX5_takeChoice 16 = .ok (.iload_n 1, 1) := by decide +kernel
theorem dX5_takeChoice_17 : decode cX5_takeChoice 17 = .ok (.ireturn, 1) := by decide +kernel
set_option maxRecDepth 20000 in
theorem ggX5_sortSaid_X5_says : GoodIn wsX5_sortSaid wsX5_says := goodIn_r _ [5, 6, 7, 8, 9, 10, 11, 12, 13, 14, 15, 16, 17, 18, 19, 20, 21, 22, 23, 24, 25, 26, 27, 28, 29, 30, 31, 32, 33, 34, 35, 36, 37, 38, 39, 40, 41, 42, 43, 44, 45, 46, 47, 48, 49, 50, 51, 52, 53, 54, 55, 56, 57, 58, 59, 60, 61, 62, 63, 64, 65, 66, 67, 68, 69, 70, 71] (by decide +kernel) (by decide +kernel)
set_option maxRecDepth 20000 in
theorem gX5_sortSaid_X5_says : GoodIn wsX5_sortSaid (wsV RX5 98 RX5 yX5_says wsX5_says) := goodIn_app (goodIn_of _ (by decide +kernel)) ggX5_sortSaid_X5_says
theorem dX5_sortSaid_0 : decode cX5_sortSaid 0 = .ok (.aload_n 0, 1) := by decide +kernel
theorem dX5_sortSaid_1 : decode cX5_sortSaid 1 = .ok (.ldc 136, 2) := by decide +kernel
theorem dX5_sortSaid_3 : decode cX5_sortSaid 3 = .ok (.invokevirtual 98, 3) := by decide +kernel
theorem dX5_sortSaid_6 : decode cX5_sortSaid 6 = .ok (.ifCond .eq 5, 3) := by decide +kernel
theorem dX5_sortSaid_9 : decode cX5_sortSaid 9 = .ok (.iconst 0, 1) := by decide +kernel
theorem dX5_sortSaid_10 : decode cX5_sortSaid 10 = .ok (.ireturn, 1) := by decide +kernel
theorem dX5_sortSaid_11 : decode cX5_sortSaid 11 = .ok (.aload_n 0, 1) := by decide +kernel
theorem dX5_sortSaid_12 : decode cX5_sortSaid 12 = .ok (.ldc 138, 2) := by decide +kernel
theorem dX5_sortSaid_14 : decode cX5_sortSaid 14 = .ok (.invokevirtual 98, 3) := by decide +kernel
theorem dX5_sortSaid_17 : decode cX5_sortSaid 17 = .ok (.ifCond .eq 5, 3) := by decide +kernel
theorem dX5_sortSaid_20 : decode cX5_sortSaid 20 = .ok (.iconst 1, 1) := by decide +kernel
theorem dX5_sortSaid_21 : decode cX5_sortSaid 21 = .ok (.ireturn, 1) := by decide +kernel
theorem dX5_sortSaid_22 : decode cX5_sortSaid 22 = .ok (.aload_n 0, 1) := by decide +kernel
theorem dX5_sortSaid_23 : decode cX5_sortSaid 23 = .ok (.ldc 140, 2) := by decide +kernel
theorem dX5_sortSaid_25 : decode cX5_sortSaid 25 = .ok (.invokevirtual 98, 3) := by decide +kernel
theorem dX5_sortSaid_28 : decode cX5_sortSaid 28 = .ok (.ifCond .eq 7, 3) := by decide +kernel
theorem dX5_sortSaid_31 : decode cX5_sortSaid 31 = .ok (.iconst 2, 1) := by decide +kernel
theorem dX5_sortSaid_32 : decode cX5_sortSaid 32 = .ok (.goto 4, 3) := by decide +kernel
theorem dX5_sortSaid_35 : decode cX5_sortSaid 35 = .ok (.iconst (-1), 1) := by decide +kernel
theorem dX5_sortSaid_36 : decode cX5_sortSaid 36 = .ok (.ireturn, 1) := by decide +kernel
set_option maxRecDepth 20000 in
theorem ggX5_kindSaid_X5_says : GoodIn wsX5_kindSaid wsX5_says := goodIn_r _ [5, 6, 7, 8, 9, 10, 11, 12, 13, 14, 15, 16, 17, 18, 19, 20, 21, 22, 23, 24, 25, 26, 27, 28, 29, 30, 31, 32, 33, 34, 35, 36, 37, 38, 39, 40, 41, 42, 43, 44, 45, 46, 47, 48, 49, 50, 51, 52, 53, 54, 55, 56, 57, 58, 59, 60, 61, 62, 63, 64, 65, 66, 67, 68, 69, 70, 71] (by decide +kernel) (by decide +kernel)
set_option maxRecDepth 20000 in
theorem gX5_kindSaid_X5_says : GoodIn wsX5_kindSaid (wsV RX5 98 RX5 yX5_says wsX5_says) := goodIn_app (goodIn_of _ (by decide +kernel)) ggX5_kindSaid_X5_says
theorem dX5_kindSaid_0 : decode cX5_kindSaid 0 = .ok (.aload_n 0, 1) := by decide +kernel
theorem dX5_kindSaid_1 : decode cX5_kindSaid 1 = .ok (.ldc 136, 2) := by decide +kernel
theorem dX5_kindSaid_3 : decode cX5_kindSaid 3 = .ok (.invokevirtual 98, 3) := by decide +kernel
theorem dX5_kindSaid_6 : decode cX5_kindSaid 6 = .ok (.ifCond .eq 5, 3) := by decide +kernel
theorem dX5_kindSaid_9 : decode cX5_kindSaid 9 = .ok (.iconst 0, 1) := by decide +kernel
theorem dX5_kindSaid_10 : decode cX5_kindSaid 10 = .ok (.ireturn, 1) := by decide +kernel
theorem dX5_kindSaid_11 : decode cX5_kindSaid 11 = .ok (.aload_n 0, 1) := by decide +kernel
theorem dX5_kindSaid_12 : decode cX5_kindSaid 12 = .ok (.ldc 142, 2) := by decide +kernel
theorem dX5_kindSaid_14 : decode cX5_kindSaid 14 = .ok (.invokevirtual 98, 3) := by decide +kernel
theorem dX5_kindSaid_17 : decode cX5_kindSaid 17 = .ok (.ifCond .eq 5, 3) := by decide +kernel
theorem dX5_kindSaid_20 : decode cX5_kindSaid 20 = .ok (.iconst 1, 1) := by decide +kernel
theorem dX5_kindSaid_21 : decode cX5_kindSaid 21 = .ok (.ireturn, 1) := by decide +kernel
theorem dX5_kindSaid_22 : decode cX5_kindSaid 22 = .ok (.aload_n 0, 1) := by decide +kernel
theorem dX5_kindSaid_23 : decode cX5_kindSaid 23 = .ok (.ldc 144, 2) := by decide +kernel
theorem dX5_kindSaid_25 : decode cX5_kindSaid 25 = .ok (.invokevirtual 98, 3) := by decide +kernel
theorem dX5_kindSaid_28 : decode cX5_kindSaid 28 = .ok (.ifCond .eq 5, 3) := by decide +kernel
theorem dX5_kindSaid_31 : decode cX5_kindSaid 31 = .ok (.iconst 2, 1) := by decide +kernel
theorem dX5_kindSaid_32 : decode cX5_kindSaid 32 = .ok (.ireturn, 1) := by decide +kernel
theorem dX5_kindSaid_33 : decode cX5_kindSaid 33 = .ok (.aload_n 0, 1) := by decide +kernel
theorem dX5_kindSaid_34 : decode cX5_kindSaid 34 = .ok (.ldc 146, 2) := by decide +kernel
theorem dX5_kindSaid_36 : decode cX5_kindSaid 36 = .ok (.invokevirtual 98, 3) := by decide +kernel
theorem dX5_kindSaid_39 : decode cX5_kindSaid 39 = .ok (.ifCond .eq 7, 3) := by decide +kernel
theorem dX5_kindSaid_42 : decode cX5_kindSaid 42 = .ok (.iconst 3, 1) := by decide +kernel
theorem dX5_kindSaid_43 : decode cX5_kindSaid 43 = .ok (.goto 4, 3) := by decide +kernel
theorem dX5_kindSaid_46 : decode cX5_kindSaid 46 = .ok (.iconst (-1), 1) := by decide +kernel
theorem dX5_kindSaid_47 : decode cX5_kindSaid 47 = .ok (.ireturn, 1) := by decide +kernel
set_option maxRecDepth 20000 in
theorem ggX5_readLine_X5_says : GoodIn wsX5_readLine wsX5_says := goodIn_r _ [7, 1, 8, 9, 10, 11, 12, 13, 14, 15, 16, 17, 18, 19, 20, 21, 22, 23, 24, 25, 26, 27, 28, 29, 30, 31, 32, 33, 34, 35, 36, 37, 38, 39, 40, 41, 42, 43, 44, 45, 46, 47, 48, 49, 50, 51, 52, 53, 54, 55, 56, 57, 58, 59, 247, 248, 249, 250, 251, 252, 253, 254, 255, 256, 257, 258, 259] (by decide +kernel) (by decide +kernel)
set_option maxRecDepth 20000 in
theorem gX5_readLine_X5_says : GoodIn wsX5_readLine (wsV RX5 98 RX5 yX5_says wsX5_says) := goodIn_app (goodIn_of _ (by decide +kernel)) ggX5_readLine_X5_says
set_option maxRecDepth 20000 in
theorem ggX5_readLine_X5_readHouse : GoodIn wsX5_readLine wsX5_readHouse := goodIn_r _ [63, 2, 64, 65, 66, 67, 68, 69, 6, 70, 71, 72, 73, 74, 75, 8, 76, 9, 1, 77, 78, 79, 80, 10, 81, 82, 83, 84, 85, 86, 87, 88, 89, 90, 91, 92, 93, 94, 95, 3, 4, 5, 7, 11, 12, 13, 14, 15, 16, 17, 18, 19, 20, 21, 22, 23, 24, 25, 26, 27, 28, 29, 30, 31, 32, 33, 34, 35, 36, 37, 38, 39, 40, 41, 42, 43, 44, 45, 46, 47, 48, 49, 50, 51, 52, 53, 54, 55, 56, 57, 58, 59, 96, 97, 98, 99, 100, 101, 102, 103, 247, 248, 249, 250, 251, 252, 253, 254, 255, 256, 257, 258, 259, 260, 261, 262, 263, 264, 265, 266, 267, 268, 269, 270, 271, 272, 273, 274, 275, 276, 277, 278, 279] (by decide +kernel) (by decide +kernel)
set_option maxRecDepth 20000 in
theorem gX5_readLine_X5_readHouse : GoodIn wsX5_readLine (wsV RX5 148 RX5 yX5_readHouse wsX5_readHouse) := goodIn_app (goodIn_of _ (by decide +kernel)) ggX5_readLine_X5_readHouse
set_option maxRecDepth 20000 in
theorem ggX5_readLine_X5_isName : GoodIn wsX5_readLine wsX5_isName := goodIn_r _ [107, 1, 3, 4, 5, 6, 7, 8, 9, 10, 11, 12, 13, 14, 15, 16, 17, 18, 19, 20, 21, 22, 23, 24, 25, 26, 27, 28, 29, 30, 31, 32, 33, 34, 35, 36, 37, 38, 39, 40, 41, 42, 43, 44, 45, 46, 47, 48, 49, 50, 51, 52, 53, 54, 55, 56, 57, 58, 59, 247, 248, 249, 250, 251, 252, 253, 254, 255, 256, 257, 258, 259] (by decide +kernel) (by decide +kernel)
set_option maxRecDepth 20000 in
theorem gX5_readLine_X5_isName : GoodIn wsX5_readLine (wsV RX5 117 RX5 yX5_isName wsX5_isName) := goodIn_app (goodIn_of _ (by decide +kernel)) ggX5_readLine_X5_isName
set_option maxRecDepth 20000 in
theorem ggX5_readLine_X5_fails : GoodIn wsX5_readLine wsX5_fails := goodIn_r _ [70, 71, 247, 248, 249, 250, 251, 252, 253, 254, 255, 256, 257, 258, 259] (by decide +kernel) (by decide +kernel)
set_option maxRecDepth 20000 in
theorem gX5_readLine_X5_fails : GoodIn wsX5_readLine (wsV RX5 62 RX5 yX5_fails wsX5_fails) := goodIn_app (goodIn_of _ (by decide +kernel)) ggX5_readLine_X5_fails
set_option maxRecDepth 20000 in
theorem ggX5_readLine_X5_isMany : GoodIn wsX5_readLine wsX5_isMany := goodIn_r _ [111, 64, 112, 113, 114, 115, 116, 117, 3, 4, 5, 6, 7, 1, 8, 9, 10, 11, 12, 13, 14, 15, 16, 17, 18, 19, 20, 21, 22, 23, 24, 25, 26, 27, 28, 29, 30, 31, 32, 33, 34, 35, 36, 37, 38, 39, 40, 41, 42, 43, 44, 45, 46, 47, 48, 49, 50, 51, 52, 53, 54, 55, 56, 57, 58, 59, 118, 119, 120, 121, 122, 123, 247, 248, 249, 250, 251, 252, 253, 254, 255, 256, 257, 258, 259, 260, 261, 262, 263, 264, 265, 266, 267, 268, 269, 270, 271, 272, 273, 274, 275, 276, 277, 278, 279, 280, 281, 282, 283, 284] (by decide +kernel) (by decide +kernel)
set_option maxRecDepth 20000 in
theorem gX5_readLine_X5_isMany : GoodIn wsX5_readLine (wsV RX5 151 RX5 yX5_isMany wsX5_isMany) := goodIn_app (goodIn_of _ (by decide +kernel)) ggX5_readLine_X5_isMany
set_option maxRecDepth 20000 in
theorem ggX5_readLine_X5_readRing : GoodIn wsX5_readLine wsX5_readRing := goodIn_r _ [127, 64, 112, 128, 72, 73, 74, 6, 75, 8, 76, 9, 1, 77, 78, 79, 80, 10, 81, 82, 83, 84, 85, 86, 87, 88, 89, 90, 91, 129, 130, 131, 132, 133, 134, 115, 104, 105, 106, 107, 3, 4, 5, 7, 11, 12, 13, 14, 15, 16, 17, 18, 19, 20, 21, 22, 23, 24, 25, 26, 27, 28, 29, 30, 31, 32, 33, 34, 35, 36, 37, 38, 39, 40, 41, 42, 43, 44, 45, 46, 47, 48, 49, 50, 51, 52, 53, 54, 55, 56, 57, 58, 59, 67, 68, 69, 70, 71, 135, 136, 137, 138, 139, 140, 141, 142, 143, 144, 145, 92, 93, 94, 95, 96, 97, 98, 99, 100, 101, 102, 103, 146, 147, 148, 149, 150, 151, 152, 153, 154, 155, 156, 157, 247, 248, 249, 250, 251, 252, 253, 254, 255, 256, 257, 258, 259, 260, 261, 262, 263, 264, 265, 266, 267, 268, 269, 270, 271, 272, 273, 274, 275, 276, 277, 278, 279] (by decide +kernel) (by decide +kernel)
set_option maxRecDepth 20000 in
theorem gX5_readLine_X5_readRing : GoodIn wsX5_readLine (wsV RX5 154 RX5 yX5_readRing wsX5_readRing) := goodIn_app (goodIn_of _ (by decide +kernel)) ggX5_readLine_X5_readRing
set_option maxRecDepth 20000 in
theorem ggX5_readLine_X5_readNarrow : GoodIn wsX5_readLine wsX5_readNarrow := goodIn_r _ [161, 128, 64, 112, 91, 72, 73, 74, 6, 75, 8, 76, 9, 1, 77, 78, 79, 80, 10, 81, 82, 83, 84, 85, 86, 87, 88, 89, 90, 162, 163, 164, 165, 104, 105, 106, 107, 3, 4, 5, 7, 11, 12, 13, 14, 15, 16, 17, 18, 19, 20, 21, 22, 23, 24, 25, 26, 27, 28, 29, 30, 31, 32, 33, 34, 35, 36, 37, 38, 39, 40, 41, 42, 43, 44, 45, 46, 47, 48, 49, 50, 51, 52, 53, 54, 55, 56, 57, 58, 59, 67, 68, 69, 70, 71, 135, 136, 137, 166, 167, 168, 149, 169, 154, 170, 171, 172, 173, 151, 100, 101, 102, 103, 155, 156, 157, 174, 175, 176, 177, 178, 92, 93, 94, 95, 96, 97, 98, 99, 179, 180, 181, 182, 183, 247, 248, 249, 250, 251, 252, 253, 254, 255, 256, 257, 258, 259, 260, 261, 262, 263, 264, 265, 266, 267, 268, 269, 270, 271, 272, 273, 274, 275, 276, 277, 278, 279] (by decide +kernel) (by decide +kernel)
set_option maxRecDepth 20000 in
theorem gX5_readLine_X5_readNarrow : GoodIn wsX5_readLine (wsV RX5 157 RX5 yX5_readNarrow wsX5_readNarrow) := goodIn_app (goodIn_of _ (by decide +kernel)) ggX5_readLine_X5_readNarrow
set_option maxRecDepth 20000 in
theorem ggX5_readLine_X5_readDoor : GoodIn wsX5_readLine wsX5_readDoor := goodIn_r _ [187, 128, 64, 112, 91, 72, 73, 74, 6, 75, 8, 76, 9, 1, 77, 78, 79, 80, 10, 81, 82, 83, 84, 85, 86, 87, 88, 89, 90, 162, 163, 164, 165, 104, 105, 106, 107, 3, 4, 5, 7, 11, 12, 13, 14, 15, 16, 17, 18, 19, 20, 21, 22, 23, 24, 25, 26, 27, 28, 29, 30, 31, 32, 33, 34, 35, 36, 37, 38, 39, 40, 41, 42, 43, 44, 45, 46, 47, 48, 49, 50, 51, 52, 53, 54, 55, 56, 57, 58, 59, 67, 68, 69, 70, 71, 135, 136, 137, 166, 167, 168, 149, 169, 154, 170, 171, 172, 173, 151, 96, 97, 98, 99, 100, 101, 102, 103, 155, 156, 157, 188, 189, 190, 191, 192, 193, 194, 195, 196, 197, 198, 247, 248, 249, 250, 251, 252, 253, 254, 255, 256, 257, 258, 259, 260, 261, 262, 263, 264, 265, 266, 267, 268, 269, 270, 271, 272, 273, 274, 275, 276, 277, 278, 279] (by decide +kernel) (by decide +kernel)
set_option maxRecDepth 20000 in
theorem gX5_readLine_X5_readDoor : GoodIn wsX5_readLine (wsV RX5 160 RX5 yX5_readDoor wsX5_readDoor) := goodIn_app (goodIn_of _ (by decide +kernel)) ggX5_readLine_X5_readDoor
set_option maxRecDepth 20000 in
theorem ggX5_readLine_X5_readThing : GoodIn wsX5_readLine wsX5_readThing := goodIn_r _ [202, 128, 64, 112, 91, 115, 134, 72, 73, 74, 6, 75, 8, 76, 9, 1, 77, 78, 79, 80, 10, 81, 82, 83, 84, 85, 86, 87, 88, 89, 90, 129, 130, 131, 132, 133, 104, 105, 106, 107, 3, 4, 5, 7, 11, 12, 13, 14, 15, 16, 17, 18, 19, 20, 21, 22, 23, 24, 25, 26, 27, 28, 29, 30, 31, 32, 33, 34, 35, 36, 37, 38, 39, 40, 41, 42, 43, 44, 45, 46, 47, 48, 49, 50, 51, 52, 53, 54, 55, 56, 57, 58, 59, 67, 68, 69, 70, 71, 135, 136, 137, 203, 204, 205, 206, 142, 143, 144, 145, 92, 93, 94, 95, 162, 163, 164, 165, 166, 167, 168, 149, 169, 154, 170, 171, 172, 173, 151, 100, 101, 102, 103, 155, 156, 157, 207, 208, 209, 210, 211, 212, 96, 97, 98, 99, 213, 214, 215, 216, 217, 218, 247, 248, 249, 250, 251, 252, 253, 254, 255, 256, 257, 258, 259, 260, 261, 262, 263, 264, 265, 266, 267, 268, 269, 270, 271, 272, 273, 274, 275, 276, 277, 278, 279] (by decide +kernel) (by decide +kernel)
set_option maxRecDepth 20000 in
theorem gX5_readLine_X5_readThing : GoodIn wsX5_readLine (wsV RX5 163 RX5 yX5_readThing wsX5_readThing) := goodIn_app (goodIn_of _ (by decide +kernel)) ggX5_readLine_X5_readThing
set_option maxRecDepth 20000 in
theorem ggX5_readLine_X5_readWant : GoodIn wsX5_readLine wsX5_readWant := goodIn_r _ [222, 134, 64, 115, 128, 112, 116, 72, 73, 74, 6, 75, 8, 76, 9, 1, 77, 78, 79, 80, 10, 81, 82, 83, 84, 85, 86, 87, 88, 89, 90, 91, 162, 163, 164, 165, 104, 105, 106, 107, 3, 4, 5, 7, 11, 12, 13, 14, 15, 16, 17, 18, 19, 20, 21, 22, 23, 24, 25, 26, 27, 28, 29, 30, 31, 32, 33, 34, 35, 36, 37, 38, 39, 40, 41, 42, 43, 44, 45, 46, 47, 48, 49, 50, 51, 52, 53, 54, 55, 56, 57, 58, 59, 67, 68, 69, 70, 71, 135, 136, 137, 92, 93, 94, 95, 166, 167, 168, 149, 169, 154, 170, 171, 172, 173, 151, 96, 97, 98, 99, 100, 101, 102, 103, 155, 156, 157, 223, 224, 225, 121, 226, 123, 227, 228, 229, 230, 247, 248, 249, 250, 251, 252, 253, 254, 255, 256, 257, 258, 259, 260, 261, 262, 263, 264, 265, 266, 267, 268, 269, 270, 271, 272, 273, 274, 275, 276, 277, 278, 279, 280, 281, 282, 283, 284] (by decide +kernel) (by decide +kernel)
set_option maxRecDepth 20000 in
theorem gX5_readLine_X5_readWant : GoodIn wsX5_readLine (wsV RX5 166 RX5 yX5_readWant wsX5_readWant) := goodIn_app (goodIn_of _ (by decide +kernel)) ggX5_readLine_X5_readWant
set_option maxRecDepth 20000 in
theorem ggX5_readLine_X5_readMark : GoodIn wsX5_readLine wsX5_readMark := goodIn_r _ [234, 91, 64, 3, 4, 5, 6, 7, 1, 8, 9, 10, 11, 12, 13, 14, 15, 16, 17, 18, 19, 20, 21, 22, 23, 24, 25, 26, 27, 28, 29, 30, 31, 32, 33, 34, 35, 36, 37, 38, 39, 40, 41, 42, 43, 44, 45, 46, 47, 48, 49, 50, 51, 52, 53, 54, 55, 56, 57, 58, 59, 72, 73, 74, 75, 76, 77, 78, 79, 80, 81, 82, 83, 84, 85, 86, 87, 88, 89, 90, 100, 101, 102, 103, 67, 68, 69, 70, 71, 235, 236, 237, 149, 238, 239, 240, 92, 93, 94, 95, 96, 97, 98, 99, 241, 242, 243, 244, 245, 246, 247, 248, 249, 250, 251, 252, 253, 254, 255, 256, 257, 258, 259, 260, 261, 262, 263, 264, 265, 266, 267, 268, 269, 270, 271, 272, 273, 274, 275, 276, 277, 278, 279] (by decide +kernel) (by decide +kernel)
set_option maxRecDepth 20000 in
theorem gX5_readLine_X5_readMark : GoodIn wsX5_readLine (wsV RX5 169 RX5 yX5_readMark wsX5_readMark) := goodIn_app (goodIn_of _ (by decide +kernel)) ggX5_readLine_X5_readMark
theorem dX5_readLine_0 : decode cX5_readLine 0 = .ok (.aload_n 0, 1) := by decide +kernel
theorem dX5_readLine_1 : decode cX5_readLine 1 = .ok (.ldc 102, 2) := by decide +kernel
theorem dX5_readLine_3 : decode cX5_readLine 3 = .ok (.invokevirtual 98, 3) := by decide +kernel
theorem dX5_readLine_6 : decode cX5_readLine 6 = .ok (.ifCond .eq 8, 3) := by decide +kernel
theorem dX5_readLine_9 : decode cX5_readLine 9 = .ok (.aload_n 0, 1) := by decide +kernel
theorem dX5_readLine_10 : decode cX5_readLine 10 = .ok (.invokevirtual 148, 3) := by decide +kernel
theorem dX5_readLine_13 : decode cX5_readLine 13 = .ok (.ireturn, 1) := by decide +kernel
theorem dX5_readLine_14 : decode cX5_readLine 14 = .ok (.aload_n 0, 1) := by decide +kernel
theorem dX5_readLine_15 : decode cX5_readLine 15 = .ok (.getfield 59, 3) := by decide +kernel
theorem dX5_readLine_18 : decode cX5_readLine 18 = .ok (.iconst 1, 1) := by decide +kernel
theorem dX5_readLine_19 : decode cX5_readLine 19 = .ok (.if_icmp .ne 10, 3) := by decide +kernel
theorem dX5_readLine_22 : decode cX5_readLine 22 = .ok (.aload_n 0, 1) := by decide +kernel
theorem dX5_readLine_23 : decode cX5_readLine 23 = .ok (.invokevirtual 117, 3) := by decide +kernel
theorem dX5_readLine_26 : decode cX5_readLine 26 = .ok (.ifCond .eq 9, 3) := by decide +kernel
theorem dX5_readLine_29 : decode cX5_readLine 29 = .ok (.aload_n 0, 1) := by decide +kernel
theorem dX5_readLine_30 : decode cX5_readLine 30 = .ok (.iconst 1, 1) := by decide +kernel
theorem dX5_readLine_31 : decode cX5_readLine 31 = .ok (.invokevirtual 62, 3) := by decide +kernel
theorem dX5_readLine_34 : decode cX5_readLine 34 = .ok (.ireturn, 1) := by decide +kernel
theorem dX5_readLine_35 : decode cX5_readLine 35 = .ok (.aload_n 0, 1) := by decide +kernel
theorem dX5_readLine_36 : decode cX5_readLine 36 = .ok (.getfield 45, 3) := by decide +kernel
theorem dX5_readLine_39 : decode cX5_readLine 39 = .ok (.ifCond .ne 10, 3) := by decide +kernel
theorem dX5_readLine_42 : decode cX5_readLine 42 = .ok (.aload_n 0, 1) := by decide +kernel
theorem dX5_readLine_43 : decode cX5_readLine 43 = .ok (.bipush 6, 2) := by decide +kernel
theorem dX5_readLine_45 : decode cX5_readLine 45 = .ok (.invokevirtual 62, 3) := by decide +kernel
theorem dX5_readLine_48 : decode cX5_readLine 48 = .ok (.ireturn, 1) := by decide +kernel
theorem dX5_readLine_49 : decode cX5_readLine 49 = .ok (.aload_n 0, 1) := by decide +kernel
theorem dX5_readLine_50 : decode cX5_readLine 50 = .ok (.invokevirtual 151, 3) := by decide +kernel
theorem dX5_readLine_53 : decode cX5_readLine 53 = .ok (.ifCond .eq 9, 3) := by decide +kernel
theorem dX5_readLine_56 : decode cX5_readLine 56 = .ok (.aload_n 0, 1) := by decide +kernel
theorem dX5_readLine_57 : decode cX5_readLine 57 = .ok (.iconst 5, 1) := by decide +kernel
theorem dX5_readLine_58 : decode cX5_readLine 58 = .ok (.invokevirtual 62, 3) := by decide +kernel
theorem dX5_readLine_61 : decode cX5_readLine 61 = .ok (.ireturn, 1) := by decide +kernel
theorem dX5_readLine_62 : decode cX5_readLine 62 = .ok (.aload_n 0, 1) := by decide +kernel
theorem dX5_readLine_63 : decode cX5_readLine 63 = .ok (.ldc 104, 2) := by decide +kernel
theorem dX5_readLine_65 : decode cX5_readLine 65 = .ok (.invokevirtual 98, 3) := by decide +kernel
theorem dX5_readLine_68 : decode cX5_readLine 68 = .ok (.ifCond .eq 8, 3) := by decide +kernel
theorem dX5_readLine_71 : decode cX5_readLine 71 = .ok (.aload_n 0, 1) := by decide +kernel
theorem dX5_readLine_72 : decode cX5_readLine 72 = .ok (.invokevirtual 154, 3) := by decide +kernel
theorem dX5_readLine_75 : decode cX5_readLine 75 = .ok (.ireturn, 1) := by decide +kernel
theorem dX5_readLine_76 : decode cX5_readLine 76 = .ok (.aload_n 0, 1) := by decide +kernel
theorem dX5_readLine_77 : decode cX5_readLine 77 = .ok (.ldc 106, 2) := by decide +kernel
theorem dX5_readLine_79 : decode cX5_readLine 79 = .ok (.invokevirtual 98, 3) := by decide +kernel
theorem dX5_readLine_82 : decode cX5_readLine 82 = .ok (.ifCond .eq 8, 3) := by decide +kernel
theorem dX5_readLine_85 : decode cX5_readLine 85 = .ok (.aload_n 0, 1) := by decide +kernel
theorem dX5_readLine_86 : decode cX5_readLine 86 = .ok (.invokevirtual 157, 3) := by decide +kernel
theorem dX5_readLine_89 : decode cX5_readLine 89 = .ok (.ireturn, 1) := by decide +kernel
theorem dX5_readLine_90 : decode cX5_readLine 90 = .ok (.aload_n 0, 1) := by decide +kernel
theorem dX5_readLine_91 : decode cX5_readLine 91 = .ok (.ldc 108, 2) := by decide +kernel
theorem dX5_readLine_93 : decode cX5_readLine 93 = .ok (.invokevirtual 98, 3) := by decide +kernel
theorem dX5_readLine_96 : decode cX5_readLine 96 = .ok (.ifCond .eq 8, 3) := by decide +kernel
theorem dX5_readLine_99 : decode cX5_readLine 99 = .ok (.aload_n 0, 1) := by decide +kernel
theorem dX5_readLine_100 : decode cX5_readLine 100 = .ok (.invokevirtual 160, 3) := by decide +kernel
theorem dX5_readLine_103 : decode cX5_readLine 103 = .ok (.ireturn, 1) := by decide +kernel
theorem dX5_readLine_104 : decode cX5_readLine 104 = .ok (.aload_n 0, 1) := by decide +kernel
theorem dX5_readLine_105 : decode cX5_readLine 105 = .ok (.ldc 110, 2) := by decide +kernel
theorem dX5_readLine_107 : decode cX5_readLine 107 = .ok (.invokevirtual 98, 3) := by decide +kernel
theorem dX5_readLine_110 : decode cX5_readLine 110 = .ok (.ifCond .eq 8, 3) := by decide +kernel
theorem dX5_readLine_113 : decode cX5_readLine 113 = .ok (.aload_n 0, 1) := by decide +kernel
theorem dX5_readLine_114 : decode cX5_readLine 114 = .ok (.invokevirtual 163, 3) := by decide +kernel
theorem dX5_readLine_117 : decode cX5_readLine 117 = .ok (.ireturn, 1) := by decide +kernel
theorem dX5_readLine_118 : decode cX5_readLine 118 = .ok (.aload_n 0, 1) := by decide +kernel
theorem dX5_readLine_119 : decode cX5_readLine 119 = .ok (.ldc 112, 2) := by decide +kernel
theorem dX5_readLine_121 : decode cX5_readLine 121 = .ok (.invokevirtual 98, 3) := by decide +kernel
theorem dX5_readLine_124 : decode cX5_readLine 124 = .ok (.ifCond .eq 10, 3) := by decide +kernel
theorem dX5_readLine_127 : decode cX5_readLine 127 = .ok (.aload_n 0, 1) := by decide +kernel
theorem dX5_readLine_128 : decode cX5_readLine 128 = .ok (.invokevirtual 166, 3) := by decide +kernel
theorem dX5_readLine_131 : decode cX5_readLine 131 = .ok (.goto 7, 3) := by decide +kernel
theorem dX5_readLine_134 : decode cX5_readLine 134 = .ok (.aload_n 0, 1) := by decide +kernel
theorem dX5_readLine_135 : decode cX5_readLine 135 = .ok (.invokevirtual 169, 3) := by decide +kernel
theorem dX5_readLine_138 : decode cX5_readLine 138 = .ok (.ireturn, 1) := by decide +kernel
set_option maxRecDepth 20000 in
theorem ggX5_isMany_X5_says : GoodIn wsX5_isMany wsX5_says := goodIn_r _ [12, 13, 14, 15, 16, 17, 18, 19, 20, 21, 22, 23, 24, 25, 26, 27, 28, 29, 30, 31, 32, 33, 34, 35, 36, 37, 38, 39, 40, 41, 42, 43, 44, 45, 46, 47, 48, 49, 50, 51, 52, 53, 54, 55, 56, 57, 58, 59, 60, 61, 62, 63, 64, 65, 72, 73, 74, 75, 76, 77, 78, 79, 80, 81, 82, 83, 84] (by decide +kernel) (by decide +kernel)
set_option maxRecDepth 20000 in
theorem gX5_isMany_X5_says : GoodIn wsX5_isMany (wsV RX5 98 RX5 yX5_says wsX5_says) := goodIn_app (goodIn_of _ (by decide +kernel)) ggX5_isMany_X5_says
set_option maxRecDepth 20000 in
theorem ggX5_isMany_X7_count : GoodIn wsX5_isMany wsX7_count := goodIn_r _ [70, 71, 105, 106, 107, 108, 109] (by decide +kernel) (by decide +kernel)
set_option maxRecDepth 20000 in
theorem gX5_isMany_X7_count : GoodIn wsX5_isMany (wsV RX5 182 RX7 yX7_count wsX7_count) := goodIn_app (goodIn_of _ (by decide +kernel)) ggX5_isMany_X7_count
theorem dX5_isMany_0 : decode cX5_isMany 0 = .ok (.aload_n 0, 1) := by decide +kernel
theorem dX5_isMany_1 : decode cX5_isMany 1 = .ok (.ldc 104, 2) := by decide +kernel
theorem dX5_isMany_3 : decode cX5_isMany 3 = .ok (.invokevirtual 98, 3) := by decide +kernel
theorem dX5_isMany_6 : decode cX5_isMany 6 = .ok (.ifCond .eq 20, 3) := by decide +kernel
theorem dX5_isMany_9 : decode cX5_isMany 9 = .ok (.aload_n 0, 1) := by decide +kernel
theorem dX5_isMany_10 : decode cX5_isMany 10 = .ok (.getfield 18, 3) := by decide +kernel
theorem dX5_isMany_13 : decode cX5_isMany 13 = .ok (.getfield 122, 3) := by decide +kernel
theorem dX5_isMany_16 : decode cX5_isMany 16 = .ok (.iconst 4, 1) := by decide +kernel
theorem dX5_isMany_17 : decode cX5_isMany 17 = .ok (.if_icmp .lt 7, 3) := by decide +kernel
theorem dX5_isMany_20 : decode cX5_isMany 20 = .ok (.iconst 1, 1) := by decide +kernel
theorem dX5_isMany_21 : decode cX5_isMany 21 = .ok (.goto 4, 3) := by decide +kernel
theorem dX5_isMany_24 : decode cX5_isMany 24 = .ok (.iconst 0, 1) := by decide +kernel
theorem dX5_isMany_25 : decode cX5_isMany 25 = .ok (.ireturn, 1) := by decide +kernel
theorem dX5_isMany_26 : decode cX5_isMany 26 = .ok (.aload_n 0, 1) := by decide +kernel
theorem dX5_isMany_27 : decode cX5_isMany 27 = .ok (.ldc 106, 2) := by decide +kernel
theorem dX5_isMany_29 : decode cX5_isMany 29 = .ok (.invokevirtual 98, 3) := by decide +kernel
theorem dX5_isMany_32 : decode cX5_isMany 32 = .ok (.ifCond .eq 21, 3) := by decide +kernel
theorem dX5_isMany_35 : decode cX5_isMany 35 = .ok (.aload_n 0, 1) := by decide +kernel
theorem dX5_isMany_36 : decode cX5_isMany 36 = .ok (.getfield 18, 3) := by decide +kernel
theorem dX5_isMany_39 : decode cX5_isMany 39 = .ok (.getfield 172, 3) := by decide +kernel
theorem dX5_isMany_42 : decode cX5_isMany 42 = .ok (.bipush 6, 2) := by decide +kernel
theorem dX5_isMany_44 : decode cX5_isMany 44 = .ok (.if_icmp .lt 7, 3) := by decide +kernel
theorem dX5_isMany_47 : decode cX5_isMany 47 = .ok (.iconst 1, 1) := by decide +kernel
theorem dX5_isMany_48 : decode cX5_isMany 48 = .ok (.goto 4, 3) := by decide +kernel
theorem dX5_isMany_51 : decode cX5_isMany 51 = .ok (.iconst 0, 1) := by decide +kernel
theorem dX5_isMany_52 : decode cX5_isMany 52 = .ok (.ireturn, 1) := by decide +kernel
theorem dX5_isMany_53 : decode cX5_isMany 53 = .ok (.aload_n 0, 1) := by decide +kernel
theorem dX5_isMany_54 : decode cX5_isMany 54 = .ok (.ldc 108, 2) := by decide +kernel
theorem dX5_isMany_56 : decode cX5_isMany 56 = .ok (.invokevirtual 98, 3) := by decide +kernel
theorem dX5_isMany_59 : decode cX5_isMany 59 = .ok (.ifCond .eq 20, 3) := by decide +kernel
theorem dX5_isMany_62 : decode cX5_isMany 62 = .ok (.aload_n 0, 1) := by decide +kernel
theorem dX5_isMany_63 : decode cX5_isMany 63 = .ok (.getfield 18, 3) := by decide +kernel
theorem dX5_isMany_66 : decode cX5_isMany 66 = .ok (.getfield 175, 3) := by decide +kernel
theorem dX5_isMany_69 : decode cX5_isMany 69 = .ok (.iconst 5, 1) := by decide +kernel
theorem dX5_isMany_70 : decode cX5_isMany 70 = .ok (.if_icmp .lt 7, 3) := by decide +kernel
theorem dX5_isMany_73 : decode cX5_isMany 73 = .ok (.iconst 1, 1) := by decide +kernel
theorem dX5_isMany_74 : decode cX5_isMany 74 = .ok (.goto 4, 3) := by decide +kernel
theorem dX5_isMany_77 : decode cX5_isMany 77 = .ok (.iconst 0, 1) := by decide +kernel
theorem dX5_isMany_78 : decode cX5_isMany 78 = .ok (.ireturn, 1) := by decide +kernel
theorem dX5_isMany_79 : decode cX5_isMany 79 = .ok (.aload_n 0, 1) := by decide +kernel
theorem dX5_isMany_80 : decode cX5_isMany 80 = .ok (.ldc 110, 2) := by decide +kernel
theorem dX5_isMany_82 : decode cX5_isMany 82 = .ok (.invokevirtual 98, 3) := by decide +kernel
theorem dX5_isMany_85 : decode cX5_isMany 85 = .ok (.ifCond .eq 21, 3) := by decide +kernel
theorem dX5_isMany_88 : decode cX5_isMany 88 = .ok (.aload_n 0, 1) := by decide +kernel
theorem dX5_isMany_89 : decode cX5_isMany 89 = .ok (.getfield 18, 3) := by decide +kernel
theorem dX5_isMany_92 : decode cX5_isMany 92 = .ok (.getfield 129, 3) := by decide +kernel
theorem dX5_isMany_95 : decode cX5_isMany 95 = .ok (.bipush 7, 2) := by decide +kernel
theorem dX5_isMany_97 : decode cX5_isMany 97 = .ok (.if_icmp .lt 7, 3) := by decide +kernel
theorem dX5_isMany_100 : decode cX5_isMany 100 = .ok (.iconst 1, 1) := by decide +kernel
theorem dX5_isMany_101 : decode cX5_isMany 101 = .ok (.goto 4, 3) := by decide +kernel
theorem dX5_isMany_104 : decode cX5_isMany 104 = .ok (.iconst 0, 1) := by decide +kernel
theorem dX5_isMany_105 : decode cX5_isMany 105 = .ok (.ireturn, 1) := by decide +kernel
theorem dX5_isMany_106 : decode cX5_isMany 106 = .ok (.aload_n 0, 1) := by decide +kernel
theorem dX5_isMany_107 : decode cX5_isMany 107 = .ok (.ldc 112, 2) := by decide +kernel
theorem dX5_isMany_109 : decode cX5_isMany 109 = .ok (.invokevirtual 98, 3) := by decide +kernel
theorem dX5_isMany_112 : decode cX5_isMany 112 = .ok (.ifCond .eq 26, 3) := by decide +kernel
theorem dX5_isMany_115 : decode cX5_isMany 115 = .ok (.aload_n 0, 1) := by decide +kernel
theorem dX5_isMany_116 : decode cX5_isMany 116 = .ok (.getfield 18, 3) := by decide +kernel
theorem dX5_isMany_119 : decode cX5_isMany 119 = .ok (.getfield 178, 3) := by decide +kernel
theorem dX5_isMany_122 : decode cX5_isMany 122 = .ok (.invokevirtual 182, 3) := by decide +kernel
theorem dX5_isMany_125 : decode cX5_isMany 125 = .ok (.bipush 6, 2) := by decide +kernel
theorem dX5_isMany_127 : decode cX5_isMany 127 = .ok (.if_icmp .lt 7, 3) := by decide +kernel
theorem dX5_isMany_130 : decode cX5_isMany 130 = .ok (.iconst 1, 1) := by decide +kernel
theorem dX5_isMany_131 : decode cX5_isMany 131 = .ok (.goto 24, 3) := by decide +kernel
theorem dX5_isMany_134 : decode cX5_isMany 134 = .ok (.iconst 0, 1) := by decide +kernel
theorem dX5_isMany_135 : decode cX5_isMany 135 = .ok (.goto 20, 3) := by decide +kernel
theorem dX5_isMany_138 : decode cX5_isMany 138 = .ok (.aload_n 0, 1) := by decide +kernel
theorem dX5_isMany_139 : decode cX5_isMany 139 = .ok (.getfield 18, 3) := by decide +kernel
theorem dX5_isMany_142 : decode cX5_isMany 142 = .ok (.getfield 187, 3) := by decide +kernel
theorem dX5_isMany_145 : decode cX5_isMany 145 = .ok (.bipush 6, 2) := by decide +kernel
theorem dX5_isMany_147 : decode cX5_isMany 147 = .ok (.if_icmp .lt 7, 3) := by decide +kernel
theorem dX5_isMany_150 : decode cX5_isMany 150 = .ok (.iconst 1, 1) := by decide +kernel
theorem dX5_isMany_151 : decode cX5_isMany 151 = .ok (.goto 4, 3) := by decide +kernel
theorem dX5_isMany_154 : decode cX5_isMany 154 = .ok (.iconst 0, 1) := by decide +kernel
theorem dX5_isMany_155 : decode cX5_isMany 155 = .ok (.ireturn, 1) := by decide +kernel
set_option maxRecDepth 20000 in
theorem ggX5_readHouse_X5_fails : GoodIn wsX5_readHouse wsX5_fails := goodIn_r _ [9, 10, 100, 101, 102, 103, 104, 105, 106, 107, 108, 109, 110, 111, 112] (by decide +kernel) (by decide +kernel)
set_option maxRecDepth 20000 in
theorem gX5_readHouse_X5_fails : GoodIn wsX5_readHouse (wsV RX5 62 RX5 yX5_fails wsX5_fails) := goodIn_app (goodIn_of _ (by decide +kernel)) ggX5_readHouse_X5_fails
set_option maxRecDepth 20000 in
theorem ggX5_readHouse_X5_step : GoodIn wsX5_readHouse wsX5_step := goodIn_r _ [14, 15, 16, 17, 18, 19, 20, 21, 8, 22, 23, 24, 25, 26, 27, 28, 29, 30, 31, 32, 33, 34, 100, 101, 102, 103, 104, 105, 106, 107, 108, 109, 110, 111, 112] (by decide +kernel) (by decide +kernel)
set_option maxRecDepth 20000 in
theorem gX5_readHouse_X5_step : GoodIn wsX5_readHouse (wsV RX5 52 RX5 yX5_step wsX5_step) := goodIn_app (goodIn_of _ (by decide +kernel)) ggX5_readHouse_X5_step
set_option maxRecDepth 20000 in
theorem ggX5_readHouse_X5_passes : GoodIn wsX5_readHouse wsX5_passes := goodIn_r _ [38, 39, 40, 41, 8, 42, 18, 15, 17, 23, 43, 44, 45, 46, 47, 48, 49, 50, 51, 52, 53, 54, 55, 56, 57, 58, 59, 60, 61, 62, 63, 64, 65, 66, 67, 68, 69, 70, 71, 72, 73, 74, 75, 76, 77, 78, 79, 80, 81, 82, 83, 84, 85, 86, 87, 88, 89, 90, 91, 5, 6, 7, 9, 10, 11, 12, 13, 14, 16, 19, 20, 21, 22, 24, 25, 26, 27, 28, 29, 30, 31, 32, 33, 34, 100, 101, 102, 103, 104, 105, 106, 107, 108, 109, 110, 111, 112] (by decide +kernel) (by decide +kernel)
set_option maxRecDepth 20000 in
theorem gX5_readHouse_X5_passes : GoodIn wsX5_readHouse (wsV RX5 190 RX5 yX5_passes wsX5_passes) := goodIn_app (goodIn_of _ (by decide +kernel)) ggX5_readHouse_X5_passes
set_option maxRecDepth 20000 in
theorem ggX5_readHouse_X5_takeWhole : GoodIn wsX5_readHouse wsX5_takeWhole := goodIn_r _ [95, 34, 96, 97, 98, 8, 99, 18, 5, 6, 7, 9, 10, 11, 12, 13, 14, 15, 16, 17, 19, 20, 21, 22, 23, 24, 25, 26, 27, 28, 29, 30, 31, 32, 33, 100, 101, 102, 103, 104, 105, 106, 107, 108, 109, 110, 111, 112] (by decide +kernel) (by decide +kernel)
set_option maxRecDepth 20000 in
theorem gX5_readHouse_X5_takeWhole : GoodIn wsX5_readHouse (wsV RX5 193 RX5 yX5_takeWhole wsX5_takeWhole) := goodIn_app (goodIn_of _ (by decide +kernel)) ggX5_readHouse_X5_takeWhole
theorem dX5_readHouse_0 : decode cX5_readHouse 0 = .ok (.aload_n 0, 1) := by decide +kernel
theorem dX5_readHouse_1 : decode cX5_readHouse 1 = .ok (.getfield 45, 3) := by decide +kernel
theorem dX5_readHouse_4 : decode cX5_readHouse 4 = .ok (.ifCond .eq 9, 3) := by decide +kernel
theorem dX5_readHouse_7 : decode cX5_readHouse 7 = .ok (.aload_n 0, 1) := by decide +kernel
theorem dX5_readHouse_8 : decode cX5_readHouse 8 = .ok (.iconst 3, 1) := by decide +kernel
theorem dX5_readHouse_9 : decode cX5_readHouse 9 = .ok (.invokevirtual 62, 3) := by decide +kernel
theorem dX5_readHouse_12 : decode cX5_readHouse 12 = .ok (.ireturn, 1) := by decide +kernel
theorem dX5_readHouse_13 : decode cX5_readHouse 13 = .ok (.aload_n 0, 1) := by decide +kernel
theorem dX5_readHouse_14 : decode cX5_readHouse 14 = .ok (.invokevirtual 52, 3) := by decide +kernel
theorem dX5_readHouse_17 : decode cX5_readHouse 17 = .ok (.aload_n 0, 1) := by decide +kernel
theorem dX5_readHouse_18 : decode cX5_readHouse 18 = .ok (.ldc 138, 2) := by decide +kernel
theorem dX5_readHouse_20 : decode cX5_readHouse 20 = .ok (.invokevirtual 190, 3) := by decide +kernel
theorem dX5_readHouse_23 : decode cX5_readHouse 23 = .ok (.ifCond .ne 5, 3) := by decide +kernel
theorem dX5_readHouse_26 : decode cX5_readHouse 26 = .ok (.iconst 0, 1) := by decide +kernel
theorem dX5_readHouse_27 : decode cX5_readHouse 27 = .ok (.ireturn, 1) := by decide +kernel
theorem dX5_readHouse_28 : decode cX5_readHouse 28 = .ok (.aload_n 0, 1) := by decide +kernel
theorem dX5_readHouse_29 : decode cX5_readHouse 29 = .ok (.iconst 1, 1) := by decide +kernel
theorem dX5_readHouse_30 : decode cX5_readHouse 30 = .ok (.iconst 5, 1) := by decide +kernel
theorem dX5_readHouse_31 : decode cX5_readHouse 31 = .ok (.invokevirtual 193, 3) := by decide +kernel
theorem dX5_readHouse_34 : decode cX5_readHouse 34 = .ok (.istore_n 1, 1) := by decide +kernel
theorem dX5_readHouse_35 : decode cX5_readHouse 35 = .ok (.iload_n 1, 1) := by decide +kernel
theorem dX5_readHouse_36 : decode cX5_readHouse 36 = .ok (.ifCond .lt 12, 3) := by decide +kernel
theorem dX5_readHouse_39 : decode cX5_readHouse 39 = .ok (.aload_n 0, 1) := by decide +kernel
theorem dX5_readHouse_40 : decode cX5_readHouse 40 = .ok (.ldc 197, 2) := by decide +kernel
theorem dX5_readHouse_42 : decode cX5_readHouse 42 = .ok (.invokevirtual 190, 3) := by decide +kernel
theorem dX5_readHouse_45 : decode cX5_readHouse 45 = .ok (.ifCond .ne 5, 3) := by decide +kernel
theorem dX5_readHouse_48 : decode cX5_readHouse 48 = .ok (.iconst 0, 1) := by decide +kernel
theorem dX5_readHouse_49 : decode cX5_readHouse 49 = .ok (.ireturn, 1) := by decide +kernel
theorem dX5_readHouse_50 : decode cX5_readHouse 50 = .ok (.aload_n 0, 1) := by decide +kernel
theorem dX5_readHouse_51 : decode cX5_readHouse 51 = .ok (.iconst 0, 1) := by decide +kernel
theorem dX5_readHouse_52 : decode cX5_readHouse 52 = .ok (.bipush 100, 2) := by decide +kernel
theorem dX5_readHouse_54 : decode cX5_readHouse 54 = .ok (.invokevirtual 193, 3) := by decide +kernel
theorem dX5_readHouse_57 : decode cX5_readHouse 57 = .ok (.istore_n 2, 1) := by decide +kernel
theorem dX5_readHouse_58 : decode cX5_readHouse 58 = .ok (.iload_n 2, 1) := by decide +kernel
theorem dX5_readHouse_59 : decode cX5_readHouse 59 = .ok (.ifCond .ge 5, 3) := by decide +kernel
theorem dX5_readHouse_62 : decode cX5_readHouse 62 = .ok (.iconst 0, 1) := by decide +kernel
theorem dX5_readHouse_63 : decode cX5_readHouse 63 = .ok (.ireturn, 1) := by decide +kernel
theorem dX5_readHouse_64 : decode cX5_readHouse 64 = .ok (.aload_n 0, 1) := by decide +kernel
theorem dX5_readHouse_65 : decode cX5_readHouse 65 = .ok (.getfield 18, 3) := by decide +kernel
theorem dX5_readHouse_68 : decode cX5_readHouse 68 = .ok (.iload_n 1, 1) := by decide +kernel
theorem dX5_readHouse_69 : decode cX5_readHouse 69 = .ok (.putfield 199, 3) := by decide +kernel
theorem dX5_readHouse_72 : decode cX5_readHouse 72 = .ok (.aload_n 0, 1) := by decide +kernel
theorem dX5_readHouse_73 : decode cX5_readHouse 73 = .ok (.getfield 18, 3) := by decide +kernel
theorem dX5_readHouse_76 : decode cX5_readHouse 76 = .ok (.iload_n 2, 1) := by decide +kernel
theorem dX5_readHouse_77 : decode cX5_readHouse 77 = .ok (.putfield 201, 3) := by decide +kernel
theorem dX5_readHouse_80 : decode cX5_readHouse 80 = .ok (.aload_n 0, 1) := by decide +kernel
theorem dX5_readHouse_81 : decode cX5_readHouse 81 = .ok (.iconst 1, 1) := by decide +kernel
theorem dX5_readHouse_82 : decode cX5_readHouse 82 = .ok (.putfield 45, 3) := by decide +kernel
theorem dX5_readHouse_85 : decode cX5_readHouse 85 = .ok (.iconst 1, 1) := by decide +kernel
theorem dX5_readHouse_86 : decode cX5_readHouse 86 = .ok (.ireturn, 1) := by decide +kernel
set_option maxRecDepth 20000 in
theorem ggX5_readRing_X5_step : GoodIn wsX5_readRing wsX5_step := goodIn_r _ [8, 9, 10, 11, 12, 13, 14, 15, 7, 16, 17, 18, 19, 20, 21, 22, 23, 24, 25, 26, 27, 28, 133, 134, 135, 136, 137, 138, 139, 140, 141, 142, 143, 144, 145] (by decide +kernel) (by decide +kernel)
set_option maxRecDepth 20000 in
theorem gX5_readRing_X5_step : GoodIn wsX5_readRing (wsV RX5 52 RX5 yX5_step wsX5_step) := goodIn_app (goodIn_of _ (by decide +kernel)) ggX5_readRing_X5_step
set_option maxRecDepth 20000 in
theorem ggX5_readRing_X5_takeNewName : GoodIn wsX5_readRing wsX5_takeNewName := goodIn_r _ [32, 33, 22, 3, 1, 2, 34, 35, 36, 37, 38, 7, 39, 12, 40, 41, 42, 43, 9, 11, 17, 44, 45, 46, 47, 48, 49, 50, 51, 52, 53, 54, 55, 56, 57, 58, 59, 60, 61, 62, 63, 64, 65, 66, 67, 68, 69, 70, 71, 72, 73, 74, 75, 76, 77, 78, 79, 80, 81, 82, 83, 84, 85, 86, 87, 88, 89, 90, 91, 92, 93, 94, 95, 96, 97, 98, 99, 100, 4, 5, 6, 8, 10, 13, 14, 15, 16, 18, 19, 20, 21, 23, 24, 25, 26, 27, 28, 133, 134, 135, 136, 137, 138, 139, 140, 141, 142, 143, 144, 145, 146, 147, 148, 149, 150, 151, 152, 153, 154, 155, 156, 157, 158, 159, 160, 161, 162, 163, 164, 165] (by decide +kernel) (by decide +kernel)
set_option maxRecDepth 20000 in
theorem gX5_readRing_X5_takeNewName : GoodIn wsX5_readRing (wsV RX5 203 RX5 yX5_takeNewName wsX5_takeNewName) := goodIn_app (goodIn_of _ (by decide +kernel)) ggX5_readRing_X5_takeNewName
set_option maxRecDepth 20000 in
theorem ggX5_readRing_X5_sortSaid : GoodIn wsX5_readRing wsX5_sortSaid := goodIn_r _ [104, 40, 41, 42, 7, 43, 12, 9, 11, 17, 44, 45, 46, 47, 48, 49, 50, 51, 52, 53, 54, 55, 56, 57, 58, 59, 60, 61, 62, 63, 64, 65, 66, 67, 68, 69, 70, 71, 72, 73, 74, 75, 76, 77, 78, 79, 80, 81, 82, 83, 84, 85, 86, 87, 88, 89, 90, 91, 92, 133, 134, 135, 136, 137, 138, 139, 140, 141, 142, 143, 144, 145] (by decide +kernel) (by decide +kernel)
set_option maxRecDepth 20000 in
theorem gX5_readRing_X5_sortSaid : GoodIn wsX5_readRing (wsV RX5 207 RX5 yX5_sortSaid wsX5_sortSaid) := goodIn_app (goodIn_of _ (by decide +kernel)) ggX5_readRing_X5_sortSaid
set_option maxRecDepth 20000 in
theorem ggX5_readRing_X5_takeChoice : GoodIn wsX5_readRing wsX5_takeChoice := goodIn_r _ [108, 93, 94, 95, 7, 96, 97, 4, 5, 6, 8, 9, 10, 11, 12, 13, 14, 15, 16, 17, 18, 19, 20, 21, 22, 23, 24, 25, 26, 27, 28, 133, 134, 135, 136, 137, 138, 139, 140, 141, 142, 143, 144, 145] (by decide +kernel) (by decide +kernel)
set_option maxRecDepth 20000 in
theorem gX5_readRing_X5_takeChoice : GoodIn wsX5_readRing (wsV RX5 210 RX5 yX5_takeChoice wsX5_takeChoice) := goodIn_app (goodIn_of _ (by decide +kernel)) ggX5_readRing_X5_takeChoice
set_option maxRecDepth 20000 in
theorem ggX5_readRing_X5_passes : GoodIn wsX5_readRing wsX5_passes := goodIn_r _ [112, 40, 41, 42, 7, 43, 12, 9, 11, 17, 44, 45, 46, 47, 48, 49, 50, 51, 52, 53, 54, 55, 56, 57, 58, 59, 60, 61, 62, 63, 64, 65, 66, 67, 68, 69, 70, 71, 72, 73, 74, 75, 76, 77, 78, 79, 80, 81, 82, 83, 84, 85, 86, 87, 88, 89, 90, 91, 92, 93, 94, 95, 96, 97, 4, 5, 6, 8, 10, 13, 14, 15, 16, 18, 19, 20, 21, 22, 23, 24, 25, 26, 27, 28, 133, 134, 135, 136, 137, 138, 139, 140, 141, 142, 143, 144, 145] (by decide +kernel) (by decide +kernel)
set_option maxRecDepth 20000 in
theorem gX5_readRing_X5_passes : GoodIn wsX5_readRing (wsV RX5 190 RX5 yX5_passes wsX5_passes) := goodIn_app (goodIn_of _ (by decide +kernel)) ggX5_readRing_X5_passes
set_option maxRecDepth 20000 in
theorem ggX5_readRing_X5_takeWhole : GoodIn wsX5_readRing wsX5_takeWhole := goodIn_r _ [116, 28, 117, 118, 119, 7, 120, 12, 93, 94, 95, 96, 97, 4, 5, 6, 8, 9, 10, 11, 13, 14, 15, 16, 17, 18, 19, 20, 21, 22, 23, 24, 25, 26, 27, 133, 134, 135, 136, 137, 138, 139, 140, 141, 142, 143, 144, 145] (by decide +kernel) (by decide +kernel)
set_option maxRecDepth 20000 in
theorem gX5_readRing_X5_takeWhole : GoodIn wsX5_readRing (wsV RX5 193 RX5 yX5_takeWhole wsX5_takeWhole) := goodIn_app (goodIn_of _ (by decide +kernel)) ggX5_readRing_X5_takeWhole
set_option maxRecDepth 20000 in
theorem ggX5_readRing_X4_addRing : GoodIn wsX5_readRing wsX4_addRing := goodIn_r _ [125, 126, 127, 128, 129, 130, 131, 132, 146, 147, 148, 149, 150, 151, 152, 153, 154, 155, 156, 157, 158, 159, 160, 161, 162, 163, 164, 165] (by decide +kernel) (by decide +kernel)
set_option maxRecDepth 20000 in
theorem gX5_readRing_X4_addRing : GoodIn wsX5_readRing (wsV RX5 215 RX4 yX4_addRing wsX4_addRing) := goodIn_app (goodIn_of _ (by decide +kernel)) ggX5_readRing_X4_addRing
theorem dX5_readRing_0 : decode cX5_readRing 0 = .ok (.aload_n 0, 1) := by decide +kernel
theorem dX5_readRing_1 : decode cX5_readRing 1 = .ok (.invokevirtual 52, 3) := by decide +kernel
theorem dX5_readRing_4 : decode cX5_readRing 4 = .ok (.aload_n 0, 1) := by decide +kernel
theorem dX5_readRing_5 : decode cX5_readRing 5 = .ok (.invokevirtual 203, 3) := by decide +kernel
theorem dX5_readRing_8 : decode cX5_readRing 8 = .ok (.lstore_n 1, 1) := by decide +kernel
theorem dX5_readRing_9 : decode cX5_readRing 9 = .ok (.lload_n 1, 1) := by decide +kernel
theorem dX5_readRing_10 : decode cX5_readRing 10 = .ok (.lconst 0, 1) := by decide +kernel
theorem dX5_readRing_11 : decode cX5_readRing 11 = .ok (.lcmp, 1) := by decide +kernel
theorem dX5_readRing_12 : decode cX5_readRing 12 = .ok (.ifCond .ge 5, 3) := by decide +kernel
theorem dX5_readRing_15 : decode cX5_readRing 15 = .ok (.iconst 0, 1) := by decide +kernel
theorem dX5_readRing_16 : decode cX5_readRing 16 = .ok (.ireturn, 1) := by decide +kernel
theorem dX5_readRing_17 : decode cX5_readRing 17 = .ok (.aload_n 0, 1) := by decide +kernel
theorem dX5_readRing_18 : decode cX5_readRing 18 = .ok (.aload_n 0, 1) := by decide +kernel
theorem dX5_readRing_19 : decode cX5_readRing 19 = .ok (.invokevirtual 207, 3) := by decide +kernel
theorem dX5_readRing_22 : decode cX5_readRing 22 = .ok (.invokevirtual 210, 3) := by decide +kernel
theorem dX5_readRing_25 : decode cX5_readRing 25 = .ok (.istore_n 3, 1) := by decide +kernel
theorem dX5_readRing_26 : decode cX5_readRing 26 = .ok (.iload_n 3, 1) := by decide +kernel
theorem dX5_readRing_27 : decode cX5_readRing 27 = .ok (.ifCond .lt 12, 3) := by decide +kernel
theorem dX5_readRing_30 : decode cX5_readRing 30 = .ok (.aload_n 0, 1) := by decide +kernel
theorem dX5_readRing_31 : decode cX5_readRing 31 = .ok (.ldc 213, 2) := by decide +kernel
theorem dX5_readRing_33 : decode cX5_readRing 33 = .ok (.invokevirtual 190, 3) := by decide +kernel
theorem dX5_readRing_36 : decode cX5_readRing 36 = .ok (.ifCond .ne 5, 3) := by decide +kernel
theorem dX5_readRing_39 : decode cX5_readRing 39 = .ok (.iconst 0, 1) := by decide +kernel
theorem dX5_readRing_40 : decode cX5_readRing 40 = .ok (.ireturn, 1) := by decide +kernel
theorem dX5_readRing_41 : decode cX5_readRing 41 = .ok (.aload_n 0, 1) := by decide +kernel
theorem dX5_readRing_42 : decode cX5_readRing 42 = .ok (.iconst 2, 1) := by decide +kernel
theorem dX5_readRing_43 : decode cX5_readRing 43 = .ok (.bipush 9, 2) := by decide +kernel
theorem dX5_readRing_45 : decode cX5_readRing 45 = .ok (.invokevirtual 193, 3) := by decide +kernel
theorem dX5_readRing_48 : decode cX5_readRing 48 = .ok (.istore 4, 2) := by decide +kernel
theorem dX5_readRing_50 : decode cX5_readRing 50 = .ok (.iload 4, 2) := by decide +kernel
theorem dX5_readRing_52 : decode cX5_readRing 52 = .ok (.ifCond .lt 24, 3) := by decide +kernel
theorem dX5_readRing_55 : decode cX5_readRing 55 = .ok (.aload_n 0, 1) := by decide +kernel
theorem dX5_readRing_56 : decode cX5_readRing 56 = .ok (.getfield 18, 3) := by decide +kernel
theorem dX5_readRing_59 : decode cX5_readRing 59 = .ok (.getfield 122, 3) := by decide +kernel
theorem dX5_readRing_62 : decode cX5_readRing 62 = .ok (.ifCond .lt 14, 3) := by decide +kernel
theorem dX5_readRing_65 : decode cX5_readRing 65 = .ok (.aload_n 0, 1) := by decide +kernel
theorem dX5_readRing_66 : decode cX5_readRing 66 = .ok (.getfield 18, 3) := by decide +kernel
theorem dX5_readRing_69 : decode cX5_readRing 69 = .ok (.getfield 122, 3) := by decide +kernel
theorem dX5_readRing_72 : decode cX5_readRing 72 = .ok (.iconst 4, 1) := by decide +kernel
theorem dX5_readRing_73 : decode cX5_readRing 73 = .ok (.if_icmp .lt 5, 3) := by decide +kernel
theorem dX5_readRing_76 : decode cX5_readRing 76 = .ok (.iconst 0, 1) := by decide +kernel
theorem dX5_readRing_77 : decode cX5_readRing 77 = .ok (.ireturn, 1) := by decide +kernel
theorem dX5_readRing_78 : decode cX5_readRing 78 = .ok (.aload_n 0, 1) := by decide +kernel
theorem dX5_readRing_79 : decode cX5_readRing 79 = .ok (.getfield 22, 3) := by decide +kernel
theorem dX5_readRing_82 : decode cX5_readRing 82 = .ok (.aload_n 0, 1) := by decide +kernel
theorem dX5_readRing_83 : decode cX5_readRing 83 = .ok (.getfield 18, 3) := by decide +kernel
theorem dX5_readRing_86 : decode cX5_readRing 86 = .ok (.getfield 122, 3) := by decide +kernel
theorem dX5_readRing_89 : decode cX5_readRing 89 = .ok (.lload_n 1, 1) := by decide +kernel
theorem dX5_readRing_90 : decode cX5_readRing 90 = .ok (.lastore, 1) := by decide +kernel
theorem dX5_readRing_91 : decode cX5_readRing 91 = .ok (.aload_n 0, 1) := by decide +kernel
theorem dX5_readRing_92 : decode cX5_readRing 92 = .ok (.getfield 18, 3) := by decide +kernel
theorem dX5_readRing_95 : decode cX5_readRing 95 = .ok (.iload_n 3, 1) := by decide +kernel
theorem dX5_readRing_96 : decode cX5_readRing 96 = .ok (.iload 4, 2) := by decide +kernel
theorem dX5_readRing_98 : decode cX5_readRing 98 = .ok (.invokevirtual 215, 3) := by decide +kernel
theorem dX5_readRing_101 : decode cX5_readRing 101 = .ok (.iconst 1, 1) := by decide +kernel
theorem dX5_readRing_102 : decode cX5_readRing 102 = .ok (.ireturn, 1) := by decide +kernel
set_option maxRecDepth 20000 in
theorem ggX5_readNarrow_X5_step : GoodIn wsX5_readNarrow wsX5_step := goodIn_r _ [9, 10, 11, 12, 13, 14, 15, 16, 8, 17, 18, 19, 20, 21, 22, 23, 24, 25, 26, 27, 28, 4, 134, 135, 136, 137, 138, 139, 140, 141, 142, 143, 144, 145, 146] (by decide +kernel) (by decide +kernel)
set_option maxRecDepth 20000 in
theorem gX5_readNarrow_X5_step : GoodIn wsX5_readNarrow (wsV RX5 52 RX5 yX5_step wsX5_step) := goodIn_app (goodIn_of _ (by decide +kernel)) ggX5_readNarrow_X5_step
set_option maxRecDepth 20000 in
theorem ggX5_readNarrow_X5_takeToldName : GoodIn wsX5_readNarrow wsX5_takeToldName := goodIn_r _ [32, 23, 33, 34, 35, 8, 36, 13, 37, 38, 39, 40, 10, 12, 18, 41, 42, 43, 44, 45, 46, 47, 48, 49, 50, 51, 52, 53, 54, 55, 56, 57, 58, 59, 60, 61, 62, 63, 64, 65, 66, 67, 68, 69, 70, 71, 72, 73, 74, 75, 76, 77, 78, 79, 80, 81, 82, 83, 84, 85, 86, 87, 88, 89, 90, 91, 92, 93, 94, 95, 96, 97, 5, 6, 7, 9, 11, 14, 15, 16, 17, 19, 20, 21, 22, 24, 25, 26, 27, 28, 4, 134, 135, 136, 137, 138, 139, 140, 141, 142, 143, 144, 145, 146] (by decide +kernel) (by decide +kernel)
set_option maxRecDepth 20000 in
theorem gX5_readNarrow_X5_takeToldName : GoodIn wsX5_readNarrow (wsV RX5 219 RX5 yX5_takeToldName wsX5_takeToldName) := goodIn_app (goodIn_of _ (by decide +kernel)) ggX5_readNarrow_X5_takeToldName
set_option maxRecDepth 20000 in
theorem ggX5_readNarrow_X4_placesOf : GoodIn wsX5_readNarrow wsX4_placesOf := goodIn_r _ [102, 103, 104, 105, 106, 101, 107, 108, 147, 148, 149, 150, 151, 152, 153, 154, 155, 156, 157, 158, 159, 160, 161, 162, 163, 164, 165, 166] (by decide +kernel) (by decide +kernel)
set_option maxRecDepth 20000 in
theorem gX5_readNarrow_X4_placesOf : GoodIn wsX5_readNarrow (wsV RX5 223 RX4 yX4_placesOf wsX4_placesOf) := goodIn_app (goodIn_of _ (by decide +kernel)) ggX5_readNarrow_X4_placesOf
set_option maxRecDepth 20000 in
theorem ggX5_readNarrow_X5_isWhole : GoodIn wsX5_readNarrow wsX5_isWhole := goodIn_r _ [112, 13, 4, 90, 91, 92, 8, 93, 94, 134, 135, 136, 137, 138, 139, 140, 141, 142, 143, 144, 145, 146] (by decide +kernel) (by decide +kernel)
set_option maxRecDepth 20000 in
theorem gX5_readNarrow_X5_isWhole : GoodIn wsX5_readNarrow (wsV RX5 132 RX5 yX5_isWhole wsX5_isWhole) := goodIn_app (goodIn_of _ (by decide +kernel)) ggX5_readNarrow_X5_isWhole
set_option maxRecDepth 20000 in
theorem ggX5_readNarrow_X8_cellAt : GoodIn wsX5_readNarrow wsX8_cellAt := goodIn_r _ [115] (by decide +kernel) (by decide +kernel)
set_option maxRecDepth 20000 in
theorem gX5_readNarrow_X8_cellAt_n226 : GoodIn wsX5_readNarrow (wsX8_cellAt) := ggX5_readNarrow_X8_cellAt
set_option maxRecDepth 20000 in
theorem ggX5_readNarrow_X4_widthOf : GoodIn wsX5_readNarrow wsX4_widthOf := goodIn_r _ [119, 120, 147, 148, 149, 150, 151, 152, 153, 154, 155, 156, 157, 158, 159, 160, 161, 162, 163, 164, 165, 166] (by decide +kernel) (by decide +kernel)
set_option maxRecDepth 20000 in
theorem gX5_readNarrow_X4_widthOf : GoodIn wsX5_readNarrow (wsV RX5 229 RX4 yX4_widthOf wsX4_widthOf) := goodIn_app (goodIn_of _ (by decide +kernel)) ggX5_readNarrow_X4_widthOf
set_option maxRecDepth 20000 in
theorem ggX5_readNarrow_X5_fails : GoodIn wsX5_readNarrow wsX5_fails := goodIn_r _ [93, 94, 134, 135, 136, 137, 138, 139, 140, 141, 142, 143, 144, 145, 146] (by decide +kernel) (by decide +kernel)
set_option maxRecDepth 20000 in
theorem gX5_readNarrow_X5_fails : GoodIn wsX5_readNarrow (wsV RX5 62 RX5 yX5_fails wsX5_fails) := goodIn_app (goodIn_of _ (by decide +kernel)) ggX5_readNarrow_X5_fails
set_option maxRecDepth 20000 in
theorem ggX5_readNarrow_X5_passes : GoodIn wsX5_readNarrow wsX5_passes := goodIn_r _ [124, 37, 38, 39, 8, 40, 13, 10, 12, 18, 41, 42, 43, 44, 45, 46, 47, 48, 49, 50, 51, 52, 53, 54, 55, 56, 57, 58, 59, 60, 61, 62, 63, 64, 65, 66, 67, 68, 69, 70, 71, 72, 73, 74, 75, 76, 77, 78, 79, 80, 81, 82, 83, 84, 85, 86, 87, 88, 89, 90, 91, 92, 93, 94, 5, 6, 7, 9, 11, 14, 15, 16, 17, 19, 20, 21, 22, 23, 24, 25, 26, 27, 28, 4, 134, 135, 136, 137, 138, 139, 140, 141, 142, 143, 144, 145, 146] (by decide +kernel) (by decide +kernel)
set_option maxRecDepth 20000 in
theorem gX5_readNarrow_X5_passes : GoodIn wsX5_readNarrow (wsV RX5 190 RX5 yX5_passes wsX5_passes) := goodIn_app (goodIn_of _ (by decide +kernel)) ggX5_readNarrow_X5_passes
set_option maxRecDepth 20000 in
theorem ggX5_readNarrow_X5_takeWhole : GoodIn wsX5_readNarrow wsX5_takeWhole := goodIn_r _ [128, 4, 109, 110, 111, 8, 112, 13, 90, 91, 92, 93, 94, 5, 6, 7, 9, 10, 11, 12, 14, 15, 16, 17, 18, 19, 20, 21, 22, 23, 24, 25, 26, 27, 28, 134, 135, 136, 137, 138, 139, 140, 141, 142, 143, 144, 145, 146] (by decide +kernel) (by decide +kernel)
set_option maxRecDepth 20000 in
theorem gX5_readNarrow_X5_takeWhole : GoodIn wsX5_readNarrow (wsV RX5 193 RX5 yX5_takeWhole wsX5_takeWhole) := goodIn_app (goodIn_of _ (by decide +kernel)) ggX5_readNarrow_X5_takeWhole
set_option maxRecDepth 20000 in
theorem ggX5_readNarrow_X4_addNarrow : GoodIn wsX5_readNarrow wsX4_addNarrow := goodIn_r _ [132, 133, 120, 147, 148, 149, 150, 151, 152, 153, 154, 155, 156, 157, 158, 159, 160, 161, 162, 163, 164, 165, 166] (by decide +kernel) (by decide +kernel)
set_option maxRecDepth 20000 in
theorem gX5_readNarrow_X4_addNarrow : GoodIn wsX5_readNarrow (wsV RX5 234 RX4 yX4_addNarrow wsX4_addNarrow) := goodIn_app (goodIn_of _ (by decide +kernel)) ggX5_readNarrow_X4_addNarrow
theorem dX5_readNarrow_0 : decode cX5_readNarrow 0 = .ok (.aload_n 0, 1) := by decide +kernel
theorem dX5_readNarrow_1 : decode cX5_readNarrow 1 = .ok (.invokevirtual 52, 3) := by decide +kernel
theorem dX5_readNarrow_4 : decode cX5_readNarrow 4 = .ok (.aload_n 0, 1) := by decide +kernel
theorem dX5_readNarrow_5 : decode cX5_readNarrow 5 = .ok (.aload_n 0, 1) := by decide +kernel
theorem dX5_readNarrow_6 : decode cX5_readNarrow 6 = .ok (.getfield 22, 3) := by decide +kernel
theorem dX5_readNarrow_9 : decode cX5_readNarrow 9 = .ok (.aload_n 0, 1) := by decide +kernel
theorem dX5_readNarrow_10 : decode cX5_readNarrow 10 = .ok (.getfield 18, 3) := by decide +kernel
theorem dX5_readNarrow_13 : decode cX5_readNarrow 13 = .ok (.getfield 122, 3) := by decide +kernel
theorem dX5_readNarrow_16 : decode cX5_readNarrow 16 = .ok (.invokevirtual 219, 3) := by decide +kernel
theorem dX5_readNarrow_19 : decode cX5_readNarrow 19 = .ok (.istore_n 1, 1) := by decide +kernel
theorem dX5_readNarrow_20 : decode cX5_readNarrow 20 = .ok (.iload_n 1, 1) := by decide +kernel
theorem dX5_readNarrow_21 : decode cX5_readNarrow 21 = .ok (.ifCond .lt 21, 3) := by decide +kernel
theorem dX5_readNarrow_24 : decode cX5_readNarrow 24 = .ok (.aload_n 0, 1) := by decide +kernel
theorem dX5_readNarrow_25 : decode cX5_readNarrow 25 = .ok (.iconst 0, 1) := by decide +kernel
theorem dX5_readNarrow_26 : decode cX5_readNarrow 26 = .ok (.aload_n 0, 1) := by decide +kernel
theorem dX5_readNarrow_27 : decode cX5_readNarrow 27 = .ok (.getfield 18, 3) := by decide +kernel
theorem dX5_readNarrow_30 : decode cX5_readNarrow 30 = .ok (.iload_n 1, 1) := by decide +kernel
theorem dX5_readNarrow_31 : decode cX5_readNarrow 31 = .ok (.invokevirtual 223, 3) := by decide +kernel
theorem dX5_readNarrow_34 : decode cX5_readNarrow 34 = .ok (.iconst 1, 1) := by decide +kernel
theorem dX5_readNarrow_35 : decode cX5_readNarrow 35 = .ok (.isub, 1) := by decide +kernel
theorem dX5_readNarrow_36 : decode cX5_readNarrow 36 = .ok (.invokevirtual 132, 3) := by decide +kernel
theorem dX5_readNarrow_39 : decode cX5_readNarrow 39 = .ok (.ifCond .ne 5, 3) := by decide +kernel
theorem dX5_readNarrow_42 : decode cX5_readNarrow 42 = .ok (.iconst 0, 1) := by decide +kernel
theorem dX5_readNarrow_43 : decode cX5_readNarrow 43 = .ok (.ireturn, 1) := by decide +kernel
theorem dX5_readNarrow_44 : decode cX5_readNarrow 44 = .ok (.iload_n 1, 1) := by decide +kernel
theorem dX5_readNarrow_45 : decode cX5_readNarrow 45 = .ok (.aload_n 0, 1) := by decide +kernel
theorem dX5_readNarrow_46 : decode cX5_readNarrow 46 = .ok (.getfield 85, 3) := by decide +kernel
theorem dX5_readNarrow_49 : decode cX5_readNarrow 49 = .ok (.invokestatic 226, 3) := by decide +kernel
theorem dX5_readNarrow_52 : decode cX5_readNarrow 52 = .ok (.istore_n 2, 1) := by decide +kernel
theorem dX5_readNarrow_53 : decode cX5_readNarrow 53 = .ok (.aload_n 0, 1) := by decide +kernel
theorem dX5_readNarrow_54 : decode cX5_readNarrow 54 = .ok (.getfield 18, 3) := by decide +kernel
theorem dX5_readNarrow_57 : decode cX5_readNarrow 57 = .ok (.iload_n 2, 1) := by decide +kernel
theorem dX5_readNarrow_58 : decode cX5_readNarrow 58 = .ok (.invokevirtual 229, 3) := by decide +kernel
theorem dX5_readNarrow_61 : decode cX5_readNarrow 61 = .ok (.bipush 10, 2) := by decide +kernel
theorem dX5_readNarrow_63 : decode cX5_readNarrow 63 = .ok (.if_icmp .eq 9, 3) := by decide +kernel
theorem dX5_readNarrow_66 : decode cX5_readNarrow 66 = .ok (.aload_n 0, 1) := by decide +kernel
theorem dX5_readNarrow_67 : decode cX5_readNarrow 67 = .ok (.iconst 3, 1) := by decide +kernel
theorem dX5_readNarrow_68 : decode cX5_readNarrow 68 = .ok (.invokevirtual 62, 3) := by decide +kernel
theorem dX5_readNarrow_71 : decode cX5_readNarrow 71 = .ok (.ireturn, 1) := by decide +kernel
theorem dX5_readNarrow_72 : decode cX5_readNarrow 72 = .ok (.aload_n 0, 1) := by decide +kernel
theorem dX5_readNarrow_73 : decode cX5_readNarrow 73 = .ok (.invokevirtual 52, 3) := by decide +kernel
theorem dX5_readNarrow_76 : decode cX5_readNarrow 76 = .ok (.aload_n 0, 1) := by decide +kernel
theorem dX5_readNarrow_77 : decode cX5_readNarrow 77 = .ok (.ldc 232, 2) := by decide +kernel
theorem dX5_readNarrow_79 : decode cX5_readNarrow 79 = .ok (.invokevirtual 190, 3) := by decide +kernel
theorem dX5_readNarrow_82 : decode cX5_readNarrow 82 = .ok (.ifCond .ne 5, 3) := by decide +kernel
theorem dX5_readNarrow_85 : decode cX5_readNarrow 85 = .ok (.iconst 0, 1) := by decide +kernel
theorem dX5_readNarrow_86 : decode cX5_readNarrow 86 = .ok (.ireturn, 1) := by decide +kernel
theorem dX5_readNarrow_87 : decode cX5_readNarrow 87 = .ok (.aload_n 0, 1) := by decide +kernel
theorem dX5_readNarrow_88 : decode cX5_readNarrow 88 = .ok (.iconst 0, 1) := by decide +kernel
theorem dX5_readNarrow_89 : decode cX5_readNarrow 89 = .ok (.bipush 9, 2) := by decide +kernel
theorem dX5_readNarrow_91 : decode cX5_readNarrow 91 = .ok (.invokevirtual 193, 3) := by decide +kernel
theorem dX5_readNarrow_94 : decode cX5_readNarrow 94 = .ok (.istore_n 3, 1) := by decide +kernel
theorem dX5_readNarrow_95 : decode cX5_readNarrow 95 = .ok (.iload_n 3, 1) := by decide +kernel
theorem dX5_readNarrow_96 : decode cX5_readNarrow 96 = .ok (.ifCond .ge 5, 3) := by decide +kernel
theorem dX5_readNarrow_99 : decode cX5_readNarrow 99 = .ok (.iconst 0, 1) := by decide +kernel
theorem dX5_readNarrow_100 : decode cX5_readNarrow 100 = .ok (.ireturn, 1) := by decide +kernel
theorem dX5_readNarrow_101 : decode cX5_readNarrow 101 = .ok (.aload_n 0, 1) := by decide +kernel
theorem dX5_readNarrow_102 : decode cX5_readNarrow 102 = .ok (.getfield 18, 3) := by decide +kernel
theorem dX5_readNarrow_105 : decode cX5_readNarrow 105 = .ok (.iload_n 2, 1) := by decide +kernel
theorem dX5_readNarrow_106 : decode cX5_readNarrow 106 = .ok (.iload_n 3, 1) := by decide +kernel
theorem dX5_readNarrow_107 : decode cX5_readNarrow 107 = .ok (.invokevirtual 234, 3) := by decide +kernel
theorem dX5_readNarrow_110 : decode cX5_readNarrow 110 = .ok (.iconst 1, 1) := by decide +kernel
theorem dX5_readNarrow_111 : decode cX5_readNarrow 111 = .ok (.ireturn, 1) := by decide +kernel
set_option maxRecDepth 20000 in
theorem ggX5_readDoor_X5_step : GoodIn wsX5_readDoor wsX5_step := goodIn_r _ [9, 10, 11, 12, 13, 14, 15, 16, 8, 17, 18, 19, 20, 21, 22, 23, 24, 25, 26, 27, 28, 4, 131, 132, 133, 134, 135, 136, 137, 138, 139, 140, 141, 142, 143] (by decide +kernel) (by decide +kernel)
set_option maxRecDepth 20000 in
theorem gX5_readDoor_X5_step : GoodIn wsX5_readDoor (wsV RX5 52 RX5 yX5_step wsX5_step) := goodIn_app (goodIn_of _ (by decide +kernel)) ggX5_readDoor_X5_step
set_option maxRecDepth 20000 in
theorem ggX5_readDoor_X5_takeToldName : GoodIn wsX5_readDoor wsX5_takeToldName := goodIn_r _ [32, 23, 33, 34, 35, 8, 36, 13, 37, 38, 39, 40, 10, 12, 18, 41, 42, 43, 44, 45, 46, 47, 48, 49, 50, 51, 52, 53, 54, 55, 56, 57, 58, 59, 60, 61, 62, 63, 64, 65, 66, 67, 68, 69, 70, 71, 72, 73, 74, 75, 76, 77, 78, 79, 80, 81, 82, 83, 84, 85, 86, 87, 88, 89, 90, 91, 92, 93, 94, 95, 96, 97, 5, 6, 7, 9, 11, 14, 15, 16, 17, 19, 20, 21, 22, 24, 25, 26, 27, 28, 4, 131, 132, 133, 134, 135, 136, 137, 138, 139, 140, 141, 142, 143] (by decide +kernel) (by decide +kernel)
set_option maxRecDepth 20000 in
theorem gX5_readDoor_X5_takeToldName : GoodIn wsX5_readDoor (wsV RX5 219 RX5 yX5_takeToldName wsX5_takeToldName) := goodIn_app (goodIn_of _ (by decide +kernel)) ggX5_readDoor_X5_takeToldName
set_option maxRecDepth 20000 in
theorem ggX5_readDoor_X4_placesOf : GoodIn wsX5_readDoor wsX4_placesOf := goodIn_r _ [102, 103, 104, 105, 106, 101, 107, 108, 144, 145, 146, 147, 148, 149, 150, 151, 152, 153, 154, 155, 156, 157, 158, 159, 160, 161, 162, 163] (by decide +kernel) (by decide +kernel)
set_option maxRecDepth 20000 in
theorem gX5_readDoor_X4_placesOf : GoodIn wsX5_readDoor (wsV RX5 223 RX4 yX4_placesOf wsX4_placesOf) := goodIn_app (goodIn_of _ (by decide +kernel)) ggX5_readDoor_X4_placesOf
set_option maxRecDepth 20000 in
theorem ggX5_readDoor_X5_takeWhole : GoodIn wsX5_readDoor wsX5_takeWhole := goodIn_r _ [112, 4, 113, 114, 115, 8, 116, 13, 90, 91, 92, 93, 94, 5, 6, 7, 9, 10, 11, 12, 14, 15, 16, 17, 18, 19, 20, 21, 22, 23, 24, 25, 26, 27, 28, 131, 132, 133, 134, 135, 136, 137, 138, 139, 140, 141, 142, 143] (by decide +kernel) (by decide +kernel)
set_option maxRecDepth 20000 in
theorem gX5_readDoor_X5_takeWhole : GoodIn wsX5_readDoor (wsV RX5 193 RX5 yX5_takeWhole wsX5_takeWhole) := goodIn_app (goodIn_of _ (by decide +kernel)) ggX5_readDoor_X5_takeWhole
set_option maxRecDepth 20000 in
theorem ggX5_readDoor_X8_cellAt : GoodIn wsX5_readDoor wsX8_cellAt := goodIn_r _ [119] (by decide +kernel) (by decide +kernel)
set_option maxRecDepth 20000 in
theorem gX5_readDoor_X8_cellAt_n226 : GoodIn wsX5_readDoor (wsX8_cellAt) := ggX5_readDoor_X8_cellAt
set_option maxRecDepth 20000 in
theorem ggX5_readDoor_X5_isWhole : GoodIn wsX5_readDoor wsX5_isWhole := goodIn_r _ [116, 13, 4, 90, 91, 92, 8, 93, 94, 131, 132, 133, 134, 135, 136, 137, 138, 139, 140, 141, 142, 143] (by decide +kernel) (by decide +kernel)
set_option maxRecDepth 20000 in
theorem gX5_readDoor_X5_isWhole : GoodIn wsX5_readDoor (wsV RX5 132 RX5 yX5_isWhole wsX5_isWhole) := goodIn_app (goodIn_of _ (by decide +kernel)) ggX5_readDoor_X5_isWhole
set_option maxRecDepth 20000 in
theorem ggX5_readDoor_X4_hasDoor : GoodIn wsX5_readDoor wsX4_hasDoor := goodIn_r _ [123, 124, 125, 126, 144, 145, 146, 147, 148, 149, 150, 151, 152, 153, 154, 155, 156, 157, 158, 159, 160, 161, 162, 163] (by decide +kernel) (by decide +kernel)
set_option maxRecDepth 20000 in
theorem gX5_readDoor_X4_hasDoor : GoodIn wsX5_readDoor (wsV RX5 237 RX4 yX4_hasDoor wsX4_hasDoor) := goodIn_app (goodIn_of _ (by decide +kernel)) ggX5_readDoor_X4_hasDoor
set_option maxRecDepth 20000 in
theorem ggX5_readDoor_X5_fails : GoodIn wsX5_readDoor wsX5_fails := goodIn_r _ [93, 94, 131, 132, 133, 134, 135, 136, 137, 138, 139, 140, 141, 142, 143] (by decide +kernel) (by decide +kernel)
set_option maxRecDepth 20000 in
theorem gX5_readDoor_X5_fails : GoodIn wsX5_readDoor (wsV RX5 62 RX5 yX5_fails wsX5_fails) := goodIn_app (goodIn_of _ (by decide +kernel)) ggX5_readDoor_X5_fails
set_option maxRecDepth 20000 in
theorem ggX5_readDoor_X4_addDoor : GoodIn wsX5_readDoor wsX4_addDoor := goodIn_r _ [130, 124, 125, 126, 144, 145, 146, 147, 148, 149, 150, 151, 152, 153, 154, 155, 156, 157, 158, 159, 160, 161, 162, 163] (by decide +kernel) (by decide +kernel)
set_option maxRecDepth 20000 in
theorem gX5_readDoor_X4_addDoor : GoodIn wsX5_readDoor (wsV RX5 240 RX4 yX4_addDoor wsX4_addDoor) := goodIn_app (goodIn_of _ (by decide +kernel)) ggX5_readDoor_X4_addDoor
theorem dX5_readDoor_0 : decode cX5_readDoor 0 = .ok (.aload_n 0, 1) := by decide +kernel
theorem dX5_readDoor_1 : decode cX5_readDoor 1 = .ok (.invokevirtual 52, 3) := by decide +kernel
theorem dX5_readDoor_4 : decode cX5_readDoor 4 = .ok (.aload_n 0, 1) := by decide +kernel
theorem dX5_readDoor_5 : decode cX5_readDoor 5 = .ok (.aload_n 0, 1) := by decide +kernel
theorem dX5_readDoor_6 : decode cX5_readDoor 6 = .ok (.getfield 22, 3) := by decide +kernel
theorem dX5_readDoor_9 : decode cX5_readDoor 9 = .ok (.aload_n 0, 1) := by decide +kernel
theorem dX5_readDoor_10 : decode cX5_readDoor 10 = .ok (.getfield 18, 3) := by decide +kernel
theorem dX5_readDoor_13 : decode cX5_readDoor 13 = .ok (.getfield 122, 3) := by decide +kernel
theorem dX5_readDoor_16 : decode cX5_readDoor 16 = .ok (.invokevirtual 219, 3) := by decide +kernel
theorem dX5_readDoor_19 : decode cX5_readDoor 19 = .ok (.istore_n 1, 1) := by decide +kernel
theorem dX5_readDoor_20 : decode cX5_readDoor 20 = .ok (.iload_n 1, 1) := by decide +kernel
theorem dX5_readDoor_21 : decode cX5_readDoor 21 = .ok (.ifCond .ge 5, 3) := by decide +kernel
theorem dX5_readDoor_24 : decode cX5_readDoor 24 = .ok (.iconst 0, 1) := by decide +kernel
theorem dX5_readDoor_25 : decode cX5_readDoor 25 = .ok (.ireturn, 1) := by decide +kernel
theorem dX5_readDoor_26 : decode cX5_readDoor 26 = .ok (.aload_n 0, 1) := by decide +kernel
theorem dX5_readDoor_27 : decode cX5_readDoor 27 = .ok (.iconst 0, 1) := by decide +kernel
theorem dX5_readDoor_28 : decode cX5_readDoor 28 = .ok (.aload_n 0, 1) := by decide +kernel
theorem dX5_readDoor_29 : decode cX5_readDoor 29 = .ok (.getfield 18, 3) := by decide +kernel
theorem dX5_readDoor_32 : decode cX5_readDoor 32 = .ok (.iload_n 1, 1) := by decide +kernel
theorem dX5_readDoor_33 : decode cX5_readDoor 33 = .ok (.invokevirtual 223, 3) := by decide +kernel
theorem dX5_readDoor_36 : decode cX5_readDoor 36 = .ok (.iconst 1, 1) := by decide +kernel
theorem dX5_readDoor_37 : decode cX5_readDoor 37 = .ok (.isub, 1) := by decide +kernel
theorem dX5_readDoor_38 : decode cX5_readDoor 38 = .ok (.invokevirtual 193, 3) := by decide +kernel
theorem dX5_readDoor_41 : decode cX5_readDoor 41 = .ok (.istore_n 2, 1) := by decide +kernel
theorem dX5_readDoor_42 : decode cX5_readDoor 42 = .ok (.iload_n 2, 1) := by decide +kernel
theorem dX5_readDoor_43 : decode cX5_readDoor 43 = .ok (.ifCond .ge 5, 3) := by decide +kernel
theorem dX5_readDoor_46 : decode cX5_readDoor 46 = .ok (.iconst 0, 1) := by decide +kernel
theorem dX5_readDoor_47 : decode cX5_readDoor 47 = .ok (.ireturn, 1) := by decide +kernel
theorem dX5_readDoor_48 : decode cX5_readDoor 48 = .ok (.iload_n 1, 1) := by decide +kernel
theorem dX5_readDoor_49 : decode cX5_readDoor 49 = .ok (.iload_n 2, 1) := by decide +kernel
theorem dX5_readDoor_50 : decode cX5_readDoor 50 = .ok (.invokestatic 226, 3) := by decide +kernel
theorem dX5_readDoor_53 : decode cX5_readDoor 53 = .ok (.istore_n 3, 1) := by decide +kernel
theorem dX5_readDoor_54 : decode cX5_readDoor 54 = .ok (.aload_n 0, 1) := by decide +kernel
theorem dX5_readDoor_55 : decode cX5_readDoor 55 = .ok (.aload_n 0, 1) := by decide +kernel
theorem dX5_readDoor_56 : decode cX5_readDoor 56 = .ok (.getfield 22, 3) := by decide +kernel
theorem dX5_readDoor_59 : decode cX5_readDoor 59 = .ok (.aload_n 0, 1) := by decide +kernel
theorem dX5_readDoor_60 : decode cX5_readDoor 60 = .ok (.getfield 18, 3) := by decide +kernel
theorem dX5_readDoor_63 : decode cX5_readDoor 63 = .ok (.getfield 122, 3) := by decide +kernel
theorem dX5_readDoor_66 : decode cX5_readDoor 66 = .ok (.invokevirtual 219, 3) := by decide +kernel
theorem dX5_readDoor_69 : decode cX5_readDoor 69 = .ok (.istore_n 1, 1) := by decide +kernel
theorem dX5_readDoor_70 : decode cX5_readDoor 70 = .ok (.iload_n 1, 1) := by decide +kernel
theorem dX5_readDoor_71 : decode cX5_readDoor 71 = .ok (.ifCond .lt 21, 3) := by decide +kernel
theorem dX5_readDoor_74 : decode cX5_readDoor 74 = .ok (.aload_n 0, 1) := by decide +kernel
theorem dX5_readDoor_75 : decode cX5_readDoor 75 = .ok (.iconst 0, 1) := by decide +kernel
theorem dX5_readDoor_76 : decode cX5_readDoor 76 = .ok (.aload_n 0, 1) := by decide +kernel
theorem dX5_readDoor_77 : decode cX5_readDoor 77 = .ok (.getfield 18, 3) := by decide +kernel
theorem dX5_readDoor_80 : decode cX5_readDoor 80 = .ok (.iload_n 1, 1) := by decide +kernel
theorem dX5_readDoor_81 : decode cX5_readDoor 81 = .ok (.invokevirtual 223, 3) := by decide +kernel
theorem dX5_readDoor_84 : decode cX5_readDoor 84 = .ok (.iconst 1, 1) := by decide +kernel
theorem dX5_readDoor_85 : decode cX5_readDoor 85 = .ok (.isub, 1) := by decide +kernel
theorem dX5_readDoor_86 : decode cX5_readDoor 86 = .ok (.invokevirtual 132, 3) := by decide +kernel
theorem dX5_readDoor_89 : decode cX5_readDoor 89 = .ok (.ifCond .ne 5, 3) := by decide +kernel
theorem dX5_readDoor_92 : decode cX5_readDoor 92 = .ok (.iconst 0, 1) := by decide +kernel
theorem dX5_readDoor_93 : decode cX5_readDoor 93 = .ok (.ireturn, 1) := by decide +kernel
theorem dX5_readDoor_94 : decode cX5_readDoor 94 = .ok (.iload_n 1, 1) := by decide +kernel
theorem dX5_readDoor_95 : decode cX5_readDoor 95 = .ok (.aload_n 0, 1) := by decide +kernel
theorem dX5_readDoor_96 : decode cX5_readDoor 96 = .ok (.getfield 85, 3) := by decide +kernel
theorem dX5_readDoor_99 : decode cX5_readDoor 99 = .ok (.invokestatic 226, 3) := by decide +kernel
theorem dX5_readDoor_102 : decode cX5_readDoor 102 = .ok (.istore 4, 2) := by decide +kernel
theorem dX5_readDoor_104 : decode cX5_readDoor 104 = .ok (.iload_n 3, 1) := by decide +kernel
theorem dX5_readDoor_105 : decode cX5_readDoor 105 = .ok (.iload 4, 2) := by decide +kernel
theorem dX5_readDoor_107 : decode cX5_readDoor 107 = .ok (.if_icmp .eq 16, 3) := by decide +kernel
theorem dX5_readDoor_110 : decode cX5_readDoor 110 = .ok (.aload_n 0, 1) := by decide +kernel
theorem dX5_readDoor_111 : decode cX5_readDoor 111 = .ok (.getfield 18, 3) := by decide +kernel
theorem dX5_readDoor_114 : decode cX5_readDoor 114 = .ok (.iload_n 3, 1) := by decide +kernel
theorem dX5_readDoor_115 : decode cX5_readDoor 115 = .ok (.iload 4, 2) := by decide +kernel
theorem dX5_readDoor_117 : decode cX5_readDoor 117 = .ok (.invokevirtual 237, 3) := by decide +kernel
theorem dX5_readDoor_120 : decode cX5_readDoor 120 = .ok (.ifCond .eq 9, 3) := by decide +kernel
theorem dX5_readDoor_123 : decode cX5_readDoor 123 = .ok (.aload_n 0, 1) := by decide +kernel
theorem dX5_readDoor_124 : decode cX5_readDoor 124 = .ok (.iconst 3, 1) := by decide +kernel
theorem dX5_readDoor_125 : decode cX5_readDoor 125 = .ok (.invokevirtual 62, 3) := by decide +kernel
theorem dX5_readDoor_128 : decode cX5_readDoor 128 = .ok (.ireturn, 1) := by decide +kernel
theorem dX5_readDoor_129 : decode cX5_readDoor 129 = .ok (.aload_n 0, 1) := by decide +kernel
theorem dX5_readDoor_130 : decode cX5_readDoor 130 = .ok (.invokevirtual 52, 3) := by decide +kernel
theorem dX5_readDoor_133 : decode cX5_readDoor 133 = .ok (.aload_n 0, 1) := by decide +kernel
theorem dX5_readDoor_134 : decode cX5_readDoor 134 = .ok (.getfield 18, 3) := by decide +kernel
theorem dX5_readDoor_137 : decode cX5_readDoor 137 = .ok (.iload_n 3, 1) := by decide +kernel
theorem dX5_readDoor_138 : decode cX5_readDoor 138 = .ok (.iload 4, 2) := by decide +kernel
theorem dX5_readDoor_140 : decode cX5_readDoor 140 = .ok (.invokevirtual 240, 3) := by decide +kernel
theorem dX5_readDoor_143 : decode cX5_readDoor 143 = .ok (.iconst 1, 1) := by decide +kernel
theorem dX5_readDoor_144 : decode cX5_readDoor 144 = .ok (.ireturn, 1) := by decide +kernel
set_option maxRecDepth 20000 in
theorem ggX5_readThing_X5_step : GoodIn wsX5_readThing wsX5_step := goodIn_r _ [11, 12, 13, 14, 15, 16, 17, 18, 10, 19, 20, 21, 22, 23, 24, 25, 26, 27, 28, 29, 30, 4, 151, 152, 153, 154, 155, 156, 157, 158, 159, 160, 161, 162, 163] (by decide +kernel) (by decide +kernel)
set_option maxRecDepth 20000 in
theorem gX5_readThing_X5_step : GoodIn wsX5_readThing (wsV RX5 52 RX5 yX5_step wsX5_step) := goodIn_app (goodIn_of _ (by decide +kernel)) ggX5_readThing_X5_step
set_option maxRecDepth 20000 in
theorem ggX5_readThing_X5_takeNewName : GoodIn wsX5_readThing wsX5_takeNewName := goodIn_r _ [34, 35, 25, 1, 2, 3, 6, 5, 36, 37, 38, 10, 39, 15, 40, 41, 42, 43, 12, 14, 20, 44, 45, 46, 47, 48, 49, 50, 51, 52, 53, 54, 55, 56, 57, 58, 59, 60, 61, 62, 63, 64, 65, 66, 67, 68, 69, 70, 71, 72, 73, 74, 75, 76, 77, 78, 79, 80, 81, 82, 83, 84, 85, 86, 87, 88, 89, 90, 91, 92, 93, 94, 95, 96, 97, 98, 99, 100, 7, 8, 9, 11, 13, 16, 17, 18, 19, 21, 22, 23, 24, 26, 27, 28, 29, 30, 4, 151, 152, 153, 154, 155, 156, 157, 158, 159, 160, 161, 162, 163, 164, 165, 166, 167, 168, 169, 170, 171, 172, 173, 174, 175, 176, 177, 178, 179, 180, 181, 182, 183] (by decide +kernel) (by decide +kernel)
set_option maxRecDepth 20000 in
theorem gX5_readThing_X5_takeNewName : GoodIn wsX5_readThing (wsV RX5 203 RX5 yX5_takeNewName wsX5_takeNewName) := goodIn_app (goodIn_of _ (by decide +kernel)) ggX5_readThing_X5_takeNewName
set_option maxRecDepth 20000 in
theorem ggX5_readThing_X5_kindSaid : GoodIn wsX5_readThing wsX5_kindSaid := goodIn_r _ [104, 40, 41, 42, 10, 43, 15, 12, 14, 20, 44, 45, 46, 47, 48, 49, 50, 51, 52, 53, 54, 55, 56, 57, 58, 59, 60, 61, 62, 63, 64, 65, 66, 67, 68, 69, 70, 71, 72, 73, 74, 75, 76, 77, 78, 79, 80, 81, 82, 83, 84, 85, 86, 87, 88, 89, 90, 91, 92, 151, 152, 153, 154, 155, 156, 157, 158, 159, 160, 161, 162, 163] (by decide +kernel) (by decide +kernel)
set_option maxRecDepth 20000 in
theorem gX5_readThing_X5_kindSaid : GoodIn wsX5_readThing (wsV RX5 243 RX5 yX5_kindSaid wsX5_kindSaid) := goodIn_app (goodIn_of _ (by decide +kernel)) ggX5_readThing_X5_kindSaid
set_option maxRecDepth 20000 in
theorem ggX5_readThing_X5_takeChoice : GoodIn wsX5_readThing wsX5_takeChoice := goodIn_r _ [108, 93, 94, 95, 10, 96, 97, 7, 8, 9, 11, 12, 13, 14, 15, 16, 17, 18, 19, 20, 21, 22, 23, 24, 25, 26, 27, 28, 29, 30, 4, 151, 152, 153, 154, 155, 156, 157, 158, 159, 160, 161, 162, 163] (by decide +kernel) (by decide +kernel)
set_option maxRecDepth 20000 in
theorem gX5_readThing_X5_takeChoice : GoodIn wsX5_readThing (wsV RX5 210 RX5 yX5_takeChoice wsX5_takeChoice) := goodIn_app (goodIn_of _ (by decide +kernel)) ggX5_readThing_X5_takeChoice
set_option maxRecDepth 20000 in
theorem ggX5_readThing_X5_passes : GoodIn wsX5_readThing wsX5_passes := goodIn_r _ [112, 40, 41, 42, 10, 43, 15, 12, 14, 20, 44, 45, 46, 47, 48, 49, 50, 51, 52, 53, 54, 55, 56, 57, 58, 59, 60, 61, 62, 63, 64, 65, 66, 67, 68, 69, 70, 71, 72, 73, 74, 75, 76, 77, 78, 79, 80, 81, 82, 83, 84, 85, 86, 87, 88, 89, 90, 91, 92, 93, 94, 95, 96, 97, 7, 8, 9, 11, 13, 16, 17, 18, 19, 21, 22, 23, 24, 25, 26, 27, 28, 29, 30, 4, 151, 152, 153, 154, 155, 156, 157, 158, 159, 160, 161, 162, 163] (by decide +kernel) (by decide +kernel)
set_option maxRecDepth 20000 in
theorem gX5_readThing_X5_passes : GoodIn wsX5_readThing (wsV RX5 190 RX5 yX5_passes wsX5_passes) := goodIn_app (goodIn_of _ (by decide +kernel)) ggX5_readThing_X5_passes
set_option maxRecDepth 20000 in
theorem ggX5_readThing_X5_takeToldName : GoodIn wsX5_readThing wsX5_takeToldName := goodIn_r _ [116, 25, 36, 37, 38, 10, 39, 15, 40, 41, 42, 43, 12, 14, 20, 44, 45, 46, 47, 48, 49, 50, 51, 52, 53, 54, 55, 56, 57, 58, 59, 60, 61, 62, 63, 64, 65, 66, 67, 68, 69, 70, 71, 72, 73, 74, 75, 76, 77, 78, 79, 80, 81, 82, 83, 84, 85, 86, 87, 88, 89, 90, 91, 92, 93, 94, 95, 96, 97, 98, 99, 100, 7, 8, 9, 11, 13, 16, 17, 18, 19, 21, 22, 23, 24, 26, 27, 28, 29, 30, 4, 151, 152, 153, 154, 155, 156, 157, 158, 159, 160, 161, 162, 163] (by decide +kernel) (by decide +kernel)
set_option maxRecDepth 20000 in
theorem gX5_readThing_X5_takeToldName : GoodIn wsX5_readThing (wsV RX5 219 RX5 yX5_takeToldName wsX5_takeToldName) := goodIn_app (goodIn_of _ (by decide +kernel)) ggX5_readThing_X5_takeToldName
set_option maxRecDepth 20000 in
theorem ggX5_readThing_X4_placesOf : GoodIn wsX5_readThing wsX4_placesOf := goodIn_r _ [121, 122, 123, 124, 125, 120, 126, 127, 164, 165, 166, 167, 168, 169, 170, 171, 172, 173, 174, 175, 176, 177, 178, 179, 180, 181, 182, 183] (by decide +kernel) (by decide +kernel)
set_option maxRecDepth 20000 in
theorem gX5_readThing_X4_placesOf : GoodIn wsX5_readThing (wsV RX5 223 RX4 yX4_placesOf wsX4_placesOf) := goodIn_app (goodIn_of _ (by decide +kernel)) ggX5_readThing_X4_placesOf
set_option maxRecDepth 20000 in
theorem ggX5_readThing_X5_isWhole : GoodIn wsX5_readThing wsX5_isWhole := goodIn_r _ [131, 15, 4, 93, 94, 95, 10, 96, 97, 151, 152, 153, 154, 155, 156, 157, 158, 159, 160, 161, 162, 163] (by decide +kernel) (by decide +kernel)
set_option maxRecDepth 20000 in
theorem gX5_readThing_X5_isWhole : GoodIn wsX5_readThing (wsV RX5 132 RX5 yX5_isWhole wsX5_isWhole) := goodIn_app (goodIn_of _ (by decide +kernel)) ggX5_readThing_X5_isWhole
set_option maxRecDepth 20000 in
theorem ggX5_readThing_X8_cellAt : GoodIn wsX5_readThing wsX8_cellAt := goodIn_r _ [134] (by decide +kernel) (by decide +kernel)
set_option maxRecDepth 20000 in
theorem gX5_readThing_X8_cellAt_n226 : GoodIn wsX5_readThing (wsX8_cellAt) := ggX5_readThing_X8_cellAt
set_option maxRecDepth 20000 in
theorem ggX5_readThing_X4_isTaken : GoodIn wsX5_readThing wsX4_isTaken := goodIn_r _ [138, 139, 140, 164, 165, 166, 167, 168, 169, 170, 171, 172, 173, 174, 175, 176, 177, 178, 179, 180, 181, 182, 183] (by decide +kernel) (by decide +kernel)
set_option maxRecDepth 20000 in
theorem gX5_readThing_X4_isTaken : GoodIn wsX5_readThing (wsV RX5 250 RX4 yX4_isTaken wsX4_isTaken) := goodIn_app (goodIn_of _ (by decide +kernel)) ggX5_readThing_X4_isTaken
set_option maxRecDepth 20000 in
theorem ggX5_readThing_X5_fails : GoodIn wsX5_readThing wsX5_fails := goodIn_r _ [96, 97, 151, 152, 153, 154, 155, 156, 157, 158, 159, 160, 161, 162, 163] (by decide +kernel) (by decide +kernel)
set_option maxRecDepth 20000 in
theorem gX5_readThing_X5_fails : GoodIn wsX5_readThing (wsV RX5 62 RX5 yX5_fails wsX5_fails) := goodIn_app (goodIn_of _ (by decide +kernel)) ggX5_readThing_X5_fails
set_option maxRecDepth 20000 in
theorem ggX5_readThing_X5_takeWhole : GoodIn wsX5_readThing wsX5_takeWhole := goodIn_r _ [144, 4, 128, 129, 130, 10, 131, 15, 93, 94, 95, 96, 97, 7, 8, 9, 11, 12, 13, 14, 16, 17, 18, 19, 20, 21, 22, 23, 24, 25, 26, 27, 28, 29, 30, 151, 152, 153, 154, 155, 156, 157, 158, 159, 160, 161, 162, 163] (by decide +kernel) (by decide +kernel)
set_option maxRecDepth 20000 in
theorem gX5_readThing_X5_takeWhole : GoodIn wsX5_readThing (wsV RX5 193 RX5 yX5_takeWhole wsX5_takeWhole) := goodIn_app (goodIn_of _ (by decide +kernel)) ggX5_readThing_X5_takeWhole
set_option maxRecDepth 20000 in
theorem ggX5_readThing_X4_addThing : GoodIn wsX5_readThing wsX4_addThing := goodIn_r _ [148, 139, 149, 140, 150, 164, 165, 166, 167, 168, 169, 170, 171, 172, 173, 174, 175, 176, 177, 178, 179, 180, 181, 182, 183] (by decide +kernel) (by decide +kernel)
set_option maxRecDepth 20000 in
theorem gX5_readThing_X4_addThing : GoodIn wsX5_readThing (wsV RX5 255 RX4 yX4_addThing wsX4_addThing) := goodIn_app (goodIn_of _ (by decide +kernel)) ggX5_readThing_X4_addThing
theorem dX5_readThing_0 : decode cX5_readThing 0 = .ok (.aload_n 0, 1) := by decide +kernel
theorem dX5_readThing_1 : decode cX5_readThing 1 = .ok (.invokevirtual 52, 3) := by decide +kernel
theorem dX5_readThing_4 : decode cX5_readThing 4 = .ok (.aload_n 0, 1) := by decide +kernel
theorem dX5_readThing_5 : decode cX5_readThing 5 = .ok (.invokevirtual 203, 3) := by decide +kernel
theorem dX5_readThing_8 : decode cX5_readThing 8 = .ok (.lstore_n 1, 1) := by decide +kernel
theorem dX5_readThing_9 : decode cX5_readThing 9 = .ok (.lload_n 1, 1) := by decide +kernel
theorem dX5_readThing_10 : decode cX5_readThing 10 = .ok (.lconst 0, 1) := by decide +kernel
theorem dX5_readThing_11 : decode cX5_readThing 11 = .ok (.lcmp, 1) := by decide +kernel
theorem dX5_readThing_12 : decode cX5_readThing 12 = .ok (.ifCond .ge 5, 3) := by decide +kernel
theorem dX5_readThing_15 : decode cX5_readThing 15 = .ok (.iconst 0, 1) := by decide +kernel
theorem dX5_readThing_16 : decode cX5_readThing 16 = .ok (.ireturn, 1) := by decide +kernel
theorem dX5_readThing_17 : decode cX5_readThing 17 = .ok (.aload_n 0, 1) := by decide +kernel
theorem dX5_readThing_18 : decode cX5_readThing 18 = .ok (.aload_n 0, 1) := by decide +kernel
theorem dX5_readThing_19 : decode cX5_readThing 19 = .ok (.invokevirtual 243, 3) := by decide +kernel
theorem dX5_readThing_22 : decode cX5_readThing 22 = .ok (.invokevirtual 210, 3) := by decide +kernel
theorem dX5_readThing_25 : decode cX5_readThing 25 = .ok (.istore_n 3, 1) := by decide +kernel
theorem dX5_readThing_26 : decode cX5_readThing 26 = .ok (.iload_n 3, 1) := by decide +kernel
theorem dX5_readThing_27 : decode cX5_readThing 27 = .ok (.ifCond .lt 12, 3) := by decide +kernel
theorem dX5_readThing_30 : decode cX5_readThing 30 = .ok (.aload_n 0, 1) := by decide +kernel
theorem dX5_readThing_31 : decode cX5_readThing 31 = .ok (.ldc 246, 2) := by decide +kernel
theorem dX5_readThing_33 : decode cX5_readThing 33 = .ok (.invokevirtual 190, 3) := by decide +kernel
theorem dX5_readThing_36 : decode cX5_readThing 36 = .ok (.ifCond .ne 5, 3) := by decide +kernel
theorem dX5_readThing_39 : decode cX5_readThing 39 = .ok (.iconst 0, 1) := by decide +kernel
theorem dX5_readThing_40 : decode cX5_readThing 40 = .ok (.ireturn, 1) := by decide +kernel
theorem dX5_readThing_41 : decode cX5_readThing 41 = .ok (.aload_n 0, 1) := by decide +kernel
theorem dX5_readThing_42 : decode cX5_readThing 42 = .ok (.aload_n 0, 1) := by decide +kernel
theorem dX5_readThing_43 : decode cX5_readThing 43 = .ok (.getfield 22, 3) := by decide +kernel
theorem dX5_readThing_46 : decode cX5_readThing 46 = .ok (.aload_n 0, 1) := by decide +kernel
theorem dX5_readThing_47 : decode cX5_readThing 47 = .ok (.getfield 18, 3) := by decide +kernel
theorem dX5_readThing_50 : decode cX5_readThing 50 = .ok (.getfield 122, 3) := by decide +kernel
theorem dX5_readThing_53 : decode cX5_readThing 53 = .ok (.invokevirtual 219, 3) := by decide +kernel
theorem dX5_readThing_56 : decode cX5_readThing 56 = .ok (.istore 4, 2) := by decide +kernel
theorem dX5_readThing_58 : decode cX5_readThing 58 = .ok (.iload 4, 2) := by decide +kernel
theorem dX5_readThing_60 : decode cX5_readThing 60 = .ok (.ifCond .lt 31, 3) := by decide +kernel
theorem dX5_readThing_63 : decode cX5_readThing 63 = .ok (.aload_n 0, 1) := by decide +kernel
theorem dX5_readThing_64 : decode cX5_readThing 64 = .ok (.ldc 248, 2) := by decide +kernel
theorem dX5_readThing_66 : decode cX5_readThing 66 = .ok (.invokevirtual 190, 3) := by decide +kernel
theorem dX5_readThing_69 : decode cX5_readThing 69 = .ok (.ifCond .eq 22, 3) := by decide +kernel
theorem dX5_readThing_72 : decode cX5_readThing 72 = .ok (.aload_n 0, 1) := by decide +kernel
theorem dX5_readThing_73 : decode cX5_readThing 73 = .ok (.iconst 0, 1) := by decide +kernel
theorem dX5_readThing_74 : decode cX5_readThing 74 = .ok (.aload_n 0, 1) := by decide +kernel
theorem dX5_readThing_75 : decode cX5_readThing 75 = .ok (.getfield 18, 3) := by decide +kernel
theorem dX5_readThing_78 : decode cX5_readThing 78 = .ok (.iload 4, 2) := by decide +kernel
theorem dX5_readThing_80 : decode cX5_readThing 80 = .ok (.invokevirtual 223, 3) := by decide +kernel
theorem dX5_readThing_83 : decode cX5_readThing 83 = .ok (.iconst 1, 1) := by decide +kernel
theorem dX5_readThing_84 : decode cX5_readThing 84 = .ok (.isub, 1) := by decide +kernel
theorem dX5_readThing_85 : decode cX5_readThing 85 = .ok (.invokevirtual 132, 3) := by decide +kernel
theorem dX5_readThing_88 : decode cX5_readThing 88 = .ok (.ifCond .ne 5, 3) := by decide +kernel
theorem dX5_readThing_91 : decode cX5_readThing 91 = .ok (.iconst 0, 1) := by decide +kernel
theorem dX5_readThing_92 : decode cX5_readThing 92 = .ok (.ireturn, 1) := by decide +kernel
theorem dX5_readThing_93 : decode cX5_readThing 93 = .ok (.iload 4, 2) := by decide +kernel
theorem dX5_readThing_95 : decode cX5_readThing 95 = .ok (.aload_n 0, 1) := by decide +kernel
theorem dX5_readThing_96 : decode cX5_readThing 96 = .ok (.getfield 85, 3) := by decide +kernel
theorem dX5_readThing_99 : decode cX5_readThing 99 = .ok (.invokestatic 226, 3) := by decide +kernel
theorem dX5_readThing_102 : decode cX5_readThing 102 = .ok (.istore 5, 2) := by decide +kernel
theorem dX5_readThing_104 : decode cX5_readThing 104 = .ok (.aload_n 0, 1) := by decide +kernel
theorem dX5_readThing_105 : decode cX5_readThing 105 = .ok (.getfield 18, 3) := by decide +kernel
theorem dX5_readThing_108 : decode cX5_readThing 108 = .ok (.iload 5, 2) := by decide +kernel
theorem dX5_readThing_110 : decode cX5_readThing 110 = .ok (.invokevirtual 250, 3) := by decide +kernel
theorem dX5_readThing_113 : decode cX5_readThing 113 = .ok (.ifCond .eq 9, 3) := by decide +kernel
theorem dX5_readThing_116 : decode cX5_readThing 116 = .ok (.aload_n 0, 1) := by decide +kernel
theorem dX5_readThing_117 : decode cX5_readThing 117 = .ok (.iconst 3, 1) := by decide +kernel
theorem dX5_readThing_118 : decode cX5_readThing 118 = .ok (.invokevirtual 62, 3) := by decide +kernel
theorem dX5_readThing_121 : decode cX5_readThing 121 = .ok (.ireturn, 1) := by decide +kernel
theorem dX5_readThing_122 : decode cX5_readThing 122 = .ok (.aload_n 0, 1) := by decide +kernel
theorem dX5_readThing_123 : decode cX5_readThing 123 = .ok (.invokevirtual 52, 3) := by decide +kernel
theorem dX5_readThing_126 : decode cX5_readThing 126 = .ok (.aload_n 0, 1) := by decide +kernel
theorem dX5_readThing_127 : decode cX5_readThing 127 = .ok (.ldc 253, 2) := by decide +kernel
theorem dX5_readThing_129 : decode cX5_readThing 129 = .ok (.invokevirtual 190, 3) := by decide +kernel
theorem dX5_readThing_132 : decode cX5_readThing 132 = .ok (.ifCond .ne 5, 3) := by decide +kernel
theorem dX5_readThing_135 : decode cX5_readThing 135 = .ok (.iconst 0, 1) := by decide +kernel
theorem dX5_readThing_136 : decode cX5_readThing 136 = .ok (.ireturn, 1) := by decide +kernel
theorem dX5_readThing_137 : decode cX5_readThing 137 = .ok (.aload_n 0, 1) := by decide +kernel
theorem dX5_readThing_138 : decode cX5_readThing 138 = .ok (.iconst 1, 1) := by decide +kernel
theorem dX5_readThing_139 : decode cX5_readThing 139 = .ok (.bipush 9, 2) := by decide +kernel
theorem dX5_readThing_141 : decode cX5_readThing 141 = .ok (.invokevirtual 193, 3) := by decide +kernel
theorem dX5_readThing_144 : decode cX5_readThing 144 = .ok (.istore 6, 2) := by decide +kernel
theorem dX5_readThing_146 : decode cX5_readThing 146 = .ok (.iload 6, 2) := by decide +kernel
theorem dX5_readThing_148 : decode cX5_readThing 148 = .ok (.ifCond .lt 25, 3) := by decide +kernel
theorem dX5_readThing_151 : decode cX5_readThing 151 = .ok (.aload_n 0, 1) := by decide +kernel
theorem dX5_readThing_152 : decode cX5_readThing 152 = .ok (.getfield 18, 3) := by decide +kernel
theorem dX5_readThing_155 : decode cX5_readThing 155 = .ok (.getfield 129, 3) := by decide +kernel
theorem dX5_readThing_158 : decode cX5_readThing 158 = .ok (.ifCond .lt 15, 3) := by decide +kernel
theorem dX5_readThing_161 : decode cX5_readThing 161 = .ok (.aload_n 0, 1) := by decide +kernel
theorem dX5_readThing_162 : decode cX5_readThing 162 = .ok (.getfield 18, 3) := by decide +kernel
theorem dX5_readThing_165 : decode cX5_readThing 165 = .ok (.getfield 129, 3) := by decide +kernel
theorem dX5_readThing_168 : decode cX5_readThing 168 = .ok (.bipush 7, 2) := by decide +kernel
theorem dX5_readThing_170 : decode cX5_readThing 170 = .ok (.if_icmp .lt 5, 3) := by decide +kernel
theorem dX5_readThing_173 : decode cX5_readThing 173 = .ok (.iconst 0, 1) := by decide +kernel
theorem dX5_readThing_174 : decode cX5_readThing 174 = .ok (.ireturn, 1) := by decide +kernel
theorem dX5_readThing_175 : decode cX5_readThing 175 = .ok (.aload_n 0, 1) := by decide +kernel
theorem dX5_readThing_176 : decode cX5_readThing 176 = .ok (.getfield 26, 3) := by decide +kernel
theorem dX5_readThing_179 : decode cX5_readThing 179 = .ok (.aload_n 0, 1) := by decide +kernel
theorem dX5_readThing_180 : decode cX5_readThing 180 = .ok (.getfield 18, 3) := by decide +kernel
theorem dX5_readThing_183 : decode cX5_readThing 183 = .ok (.getfield 129, 3) := by decide +kernel
theorem dX5_readThing_186 : decode cX5_readThing 186 = .ok (.lload_n 1, 1) := by decide +kernel
theorem dX5_readThing_187 : decode cX5_readThing 187 = .ok (.lastore, 1) := by decide +kernel
theorem dX5_readThing_188 : decode cX5_readThing 188 = .ok (.aload_n 0, 1) := by decide +kernel
theorem dX5_readThing_189 : decode cX5_readThing 189 = .ok (.getfield 18, 3) := by decide +kernel
theorem dX5_readThing_192 : decode cX5_readThing 192 = .ok (.iload_n 3, 1) := by decide +kernel
theorem dX5_readThing_193 : decode cX5_readThing 193 = .ok (.iload 5, 2) := by decide +kernel
theorem dX5_readThing_195 : decode cX5_readThing 195 = .ok (.iload 6, 2) := by decide +kernel
theorem dX5_readThing_197 : decode cX5_readThing 197 = .ok (.invokevirtual 255, 3) := by decide +kernel
theorem dX5_readThing_200 : decode cX5_readThing 200 = .ok (.iconst 1, 1) := by decide +kernel
theorem dX5_readThing_201 : decode cX5_readThing 201 = .ok (.ireturn, 1) := by decide +kernel
set_option maxRecDepth 20000 in
theorem ggX5_readWant_X5_step : GoodIn wsX5_readWant wsX5_step := goodIn_r _ [11, 12, 13, 14, 15, 16, 17, 18, 10, 19, 20, 21, 22, 23, 24, 25, 26, 27, 28, 29, 30, 31, 137, 138, 139, 140, 141, 142, 143, 144, 145, 146, 147, 148, 149] (by decide +kernel) (by decide +kernel)
set_option maxRecDepth 20000 in
theorem gX5_readWant_X5_step : GoodIn wsX5_readWant (wsV RX5 52 RX5 yX5_step wsX5_step) := goodIn_app (goodIn_of _ (by decide +kernel)) ggX5_readWant_X5_step
set_option maxRecDepth 20000 in
theorem ggX5_readWant_X5_takeToldName : GoodIn wsX5_readWant wsX5_takeToldName := goodIn_r _ [35, 25, 36, 37, 38, 10, 39, 15, 40, 41, 42, 43, 12, 14, 20, 44, 45, 46, 47, 48, 49, 50, 51, 52, 53, 54, 55, 56, 57, 58, 59, 60, 61, 62, 63, 64, 65, 66, 67, 68, 69, 70, 71, 72, 73, 74, 75, 76, 77, 78, 79, 80, 81, 82, 83, 84, 85, 86, 87, 88, 89, 90, 91, 92, 93, 94, 95, 96, 97, 98, 99, 100, 7, 8, 9, 11, 13, 16, 17, 18, 19, 21, 22, 23, 24, 26, 27, 28, 29, 30, 31, 137, 138, 139, 140, 141, 142, 143, 144, 145, 146, 147, 148, 149] (by decide +kernel) (by decide +kernel)
set_option maxRecDepth 20000 in
theorem gX5_readWant_X5_takeToldName : GoodIn wsX5_readWant (wsV RX5 219 RX5 yX5_takeToldName wsX5_takeToldName) := goodIn_app (goodIn_of _ (by decide +kernel)) ggX5_readWant_X5_takeToldName
set_option maxRecDepth 20000 in
theorem ggX5_readWant_X5_passes : GoodIn wsX5_readWant wsX5_passes := goodIn_r _ [104, 40, 41, 42, 10, 43, 15, 12, 14, 20, 44, 45, 46, 47, 48, 49, 50, 51, 52, 53, 54, 55, 56, 57, 58, 59, 60, 61, 62, 63, 64, 65, 66, 67, 68, 69, 70, 71, 72, 73, 74, 75, 76, 77, 78, 79, 80, 81, 82, 83, 84, 85, 86, 87, 88, 89, 90, 91, 92, 93, 94, 95, 96, 97, 7, 8, 9, 11, 13, 16, 17, 18, 19, 21, 22, 23, 24, 25, 26, 27, 28, 29, 30, 31, 137, 138, 139, 140, 141, 142, 143, 144, 145, 146, 147, 148, 149] (by decide +kernel) (by decide +kernel)
set_option maxRecDepth 20000 in
theorem gX5_readWant_X5_passes : GoodIn wsX5_readWant (wsV RX5 190 RX5 yX5_passes wsX5_passes) := goodIn_app (goodIn_of _ (by decide +kernel)) ggX5_readWant_X5_passes
set_option maxRecDepth 20000 in
theorem ggX5_readWant_X4_placesOf : GoodIn wsX5_readWant wsX4_placesOf := goodIn_r _ [109, 110, 111, 112, 113, 108, 114, 115, 150, 151, 152, 153, 154, 155, 156, 157, 158, 159, 160, 161, 162, 163, 164, 165, 166, 167, 168, 169] (by decide +kernel) (by decide +kernel)
set_option maxRecDepth 20000 in
theorem gX5_readWant_X4_placesOf : GoodIn wsX5_readWant (wsV RX5 223 RX4 yX4_placesOf wsX4_placesOf) := goodIn_app (goodIn_of _ (by decide +kernel)) ggX5_readWant_X4_placesOf
set_option maxRecDepth 20000 in
theorem ggX5_readWant_X5_takeWhole : GoodIn wsX5_readWant wsX5_takeWhole := goodIn_r _ [119, 31, 120, 121, 122, 10, 123, 15, 93, 94, 95, 96, 97, 7, 8, 9, 11, 12, 13, 14, 16, 17, 18, 19, 20, 21, 22, 23, 24, 25, 26, 27, 28, 29, 30, 137, 138, 139, 140, 141, 142, 143, 144, 145, 146, 147, 148, 149] (by decide +kernel) (by decide +kernel)
set_option maxRecDepth 20000 in
theorem gX5_readWant_X5_takeWhole : GoodIn wsX5_readWant (wsV RX5 193 RX5 yX5_takeWhole wsX5_takeWhole) := goodIn_app (goodIn_of _ (by decide +kernel)) ggX5_readWant_X5_takeWhole
set_option maxRecDepth 20000 in
theorem ggX5_readWant_X8_cellAt : GoodIn wsX5_readWant wsX8_cellAt := goodIn_r _ [126] (by decide +kernel) (by decide +kernel)
set_option maxRecDepth 20000 in
theorem gX5_readWant_X8_cellAt_n226 : GoodIn wsX5_readWant (wsX8_cellAt) := ggX5_readWant_X8_cellAt
set_option maxRecDepth 20000 in
theorem ggX5_readWant_X7_add : GoodIn wsX5_readWant wsX7_add := goodIn_r _ [131, 132, 133, 134, 135, 136, 170, 171, 172, 173, 174] (by decide +kernel) (by decide +kernel)
set_option maxRecDepth 20000 in
theorem gX5_readWant_X7_add : GoodIn wsX5_readWant (wsV RX5 263 RX7 yX7_add wsX7_add) := goodIn_app (goodIn_of _ (by decide +kernel)) ggX5_readWant_X7_add
theorem dX5_readWant_0 : decode cX5_readWant 0 = .ok (.aload_n 0, 1) := by decide +kernel
theorem dX5_readWant_1 : decode cX5_readWant 1 = .ok (.invokevirtual 52, 3) := by decide +kernel
theorem dX5_readWant_4 : decode cX5_readWant 4 = .ok (.aload_n 0, 1) := by decide +kernel
theorem dX5_readWant_5 : decode cX5_readWant 5 = .ok (.aload_n 0, 1) := by decide +kernel
theorem dX5_readWant_6 : decode cX5_readWant 6 = .ok (.getfield 26, 3) := by decide +kernel
theorem dX5_readWant_9 : decode cX5_readWant 9 = .ok (.aload_n 0, 1) := by decide +kernel
theorem dX5_readWant_10 : decode cX5_readWant 10 = .ok (.getfield 18, 3) := by decide +kernel
theorem dX5_readWant_13 : decode cX5_readWant 13 = .ok (.getfield 129, 3) := by decide +kernel
theorem dX5_readWant_16 : decode cX5_readWant 16 = .ok (.invokevirtual 219, 3) := by decide +kernel
theorem dX5_readWant_19 : decode cX5_readWant 19 = .ok (.istore_n 1, 1) := by decide +kernel
theorem dX5_readWant_20 : decode cX5_readWant 20 = .ok (.iload_n 1, 1) := by decide +kernel
theorem dX5_readWant_21 : decode cX5_readWant 21 = .ok (.ifCond .lt 12, 3) := by decide +kernel
theorem dX5_readWant_24 : decode cX5_readWant 24 = .ok (.aload_n 0, 1) := by decide +kernel
theorem dX5_readWant_25 : decode cX5_readWant 25 = .ok (.ldc 246, 2) := by decide +kernel
theorem dX5_readWant_27 : decode cX5_readWant 27 = .ok (.invokevirtual 190, 3) := by decide +kernel
theorem dX5_readWant_30 : decode cX5_readWant 30 = .ok (.ifCond .ne 5, 3) := by decide +kernel
theorem dX5_readWant_33 : decode cX5_readWant 33 = .ok (.iconst 0, 1) := by decide +kernel
theorem dX5_readWant_34 : decode cX5_readWant 34 = .ok (.ireturn, 1) := by decide +kernel
theorem dX5_readWant_35 : decode cX5_readWant 35 = .ok (.aload_n 0, 1) := by decide +kernel
theorem dX5_readWant_36 : decode cX5_readWant 36 = .ok (.aload_n 0, 1) := by decide +kernel
theorem dX5_readWant_37 : decode cX5_readWant 37 = .ok (.getfield 22, 3) := by decide +kernel
theorem dX5_readWant_40 : decode cX5_readWant 40 = .ok (.aload_n 0, 1) := by decide +kernel
theorem dX5_readWant_41 : decode cX5_readWant 41 = .ok (.getfield 18, 3) := by decide +kernel
theorem dX5_readWant_44 : decode cX5_readWant 44 = .ok (.getfield 122, 3) := by decide +kernel
theorem dX5_readWant_47 : decode cX5_readWant 47 = .ok (.invokevirtual 219, 3) := by decide +kernel
theorem dX5_readWant_50 : decode cX5_readWant 50 = .ok (.istore_n 2, 1) := by decide +kernel
theorem dX5_readWant_51 : decode cX5_readWant 51 = .ok (.iload_n 2, 1) := by decide +kernel
theorem dX5_readWant_52 : decode cX5_readWant 52 = .ok (.ifCond .lt 12, 3) := by decide +kernel
theorem dX5_readWant_55 : decode cX5_readWant 55 = .ok (.aload_n 0, 1) := by decide +kernel
theorem dX5_readWant_56 : decode cX5_readWant 56 = .ok (.ldc 248, 2) := by decide +kernel
theorem dX5_readWant_58 : decode cX5_readWant 58 = .ok (.invokevirtual 190, 3) := by decide +kernel
theorem dX5_readWant_61 : decode cX5_readWant 61 = .ok (.ifCond .ne 5, 3) := by decide +kernel
theorem dX5_readWant_64 : decode cX5_readWant 64 = .ok (.iconst 0, 1) := by decide +kernel
theorem dX5_readWant_65 : decode cX5_readWant 65 = .ok (.ireturn, 1) := by decide +kernel
theorem dX5_readWant_66 : decode cX5_readWant 66 = .ok (.aload_n 0, 1) := by decide +kernel
theorem dX5_readWant_67 : decode cX5_readWant 67 = .ok (.iconst 0, 1) := by decide +kernel
theorem dX5_readWant_68 : decode cX5_readWant 68 = .ok (.aload_n 0, 1) := by decide +kernel
theorem dX5_readWant_69 : decode cX5_readWant 69 = .ok (.getfield 18, 3) := by decide +kernel
theorem dX5_readWant_72 : decode cX5_readWant 72 = .ok (.iload_n 2, 1) := by decide +kernel
theorem dX5_readWant_73 : decode cX5_readWant 73 = .ok (.invokevirtual 223, 3) := by decide +kernel
theorem dX5_readWant_76 : decode cX5_readWant 76 = .ok (.iconst 1, 1) := by decide +kernel
theorem dX5_readWant_77 : decode cX5_readWant 77 = .ok (.isub, 1) := by decide +kernel
theorem dX5_readWant_78 : decode cX5_readWant 78 = .ok (.invokevirtual 193, 3) := by decide +kernel
theorem dX5_readWant_81 : decode cX5_readWant 81 = .ok (.istore_n 3, 1) := by decide +kernel
theorem dX5_readWant_82 : decode cX5_readWant 82 = .ok (.iload_n 3, 1) := by decide +kernel
theorem dX5_readWant_83 : decode cX5_readWant 83 = .ok (.ifCond .lt 13, 3) := by decide +kernel
theorem dX5_readWant_86 : decode cX5_readWant 86 = .ok (.aload_n 0, 1) := by decide +kernel
theorem dX5_readWant_87 : decode cX5_readWant 87 = .ok (.ldc_w 259, 3) := by decide +kernel
theorem dX5_readWant_90 : decode cX5_readWant 90 = .ok (.invokevirtual 190, 3) := by decide +kernel
theorem dX5_readWant_93 : decode cX5_readWant 93 = .ok (.ifCond .ne 5, 3) := by decide +kernel
theorem dX5_readWant_96 : decode cX5_readWant 96 = .ok (.iconst 0, 1) := by decide +kernel
theorem dX5_readWant_97 : decode cX5_readWant 97 = .ok (.ireturn, 1) := by decide +kernel
theorem dX5_readWant_98 : decode cX5_readWant 98 = .ok (.aload_n 0, 1) := by decide +kernel
theorem dX5_readWant_99 : decode cX5_readWant 99 = .ok (.iconst 1, 1) := by decide +kernel
theorem dX5_readWant_100 : decode cX5_readWant 100 = .ok (.bipush 60, 2) := by decide +kernel
theorem dX5_readWant_102 : decode cX5_readWant 102 = .ok (.invokevirtual 193, 3) := by decide +kernel
theorem dX5_readWant_105 : decode cX5_readWant 105 = .ok (.istore 4, 2) := by decide +kernel
theorem dX5_readWant_107 : decode cX5_readWant 107 = .ok (.iload 4, 2) := by decide +kernel
theorem dX5_readWant_109 : decode cX5_readWant 109 = .ok (.ifCond .lt 13, 3) := by decide +kernel
theorem dX5_readWant_112 : decode cX5_readWant 112 = .ok (.aload_n 0, 1) := by decide +kernel
theorem dX5_readWant_113 : decode cX5_readWant 113 = .ok (.ldc_w 261, 3) := by decide +kernel
theorem dX5_readWant_116 : decode cX5_readWant 116 = .ok (.invokevirtual 190, 3) := by decide +kernel
theorem dX5_readWant_119 : decode cX5_readWant 119 = .ok (.ifCond .ne 5, 3) := by decide +kernel
theorem dX5_readWant_122 : decode cX5_readWant 122 = .ok (.iconst 0, 1) := by decide +kernel
theorem dX5_readWant_123 : decode cX5_readWant 123 = .ok (.ireturn, 1) := by decide +kernel
theorem dX5_readWant_124 : decode cX5_readWant 124 = .ok (.aload_n 0, 1) := by decide +kernel
theorem dX5_readWant_125 : decode cX5_readWant 125 = .ok (.iconst 1, 1) := by decide +kernel
theorem dX5_readWant_126 : decode cX5_readWant 126 = .ok (.bipush 99, 2) := by decide +kernel
theorem dX5_readWant_128 : decode cX5_readWant 128 = .ok (.invokevirtual 193, 3) := by decide +kernel
theorem dX5_readWant_131 : decode cX5_readWant 131 = .ok (.istore 5, 2) := by decide +kernel
theorem dX5_readWant_133 : decode cX5_readWant 133 = .ok (.iload 5, 2) := by decide +kernel
theorem dX5_readWant_135 : decode cX5_readWant 135 = .ok (.ifCond .ge 5, 3) := by decide +kernel
theorem dX5_readWant_138 : decode cX5_readWant 138 = .ok (.iconst 0, 1) := by decide +kernel
theorem dX5_readWant_139 : decode cX5_readWant 139 = .ok (.ireturn, 1) := by decide +kernel
theorem dX5_readWant_140 : decode cX5_readWant 140 = .ok (.aload_n 0, 1) := by decide +kernel
theorem dX5_readWant_141 : decode cX5_readWant 141 = .ok (.getfield 18, 3) := by decide +kernel
theorem dX5_readWant_144 : decode cX5_readWant 144 = .ok (.getfield 178, 3) := by decide +kernel
theorem dX5_readWant_147 : decode cX5_readWant 147 = .ok (.iload_n 1, 1) := by decide +kernel
theorem dX5_readWant_148 : decode cX5_readWant 148 = .ok (.iload_n 2, 1) := by decide +kernel
theorem dX5_readWant_149 : decode cX5_readWant 149 = .ok (.iload_n 3, 1) := by decide +kernel
theorem dX5_readWant_150 : decode cX5_readWant 150 = .ok (.invokestatic 226, 3) := by decide +kernel
theorem dX5_readWant_153 : decode cX5_readWant 153 = .ok (.iload 4, 2) := by decide +kernel
theorem dX5_readWant_155 : decode cX5_readWant 155 = .ok (.iload 5, 2) := by decide +kernel
theorem dX5_readWant_157 : decode cX5_readWant 157 = .ok (.invokevirtual 263, 3) := by decide +kernel
theorem dX5_readWant_160 : decode cX5_readWant 160 = .ok (.iconst 1, 1) := by decide +kernel
theorem dX5_readWant_161 : decode cX5_readWant 161 = .ok (.ireturn, 1) := by decide +kernel
set_option maxRecDepth 20000 in
theorem ggX5_readMark_X5_says : GoodIn wsX5_readMark wsX5_says := goodIn_r _ [7, 8, 9, 10, 11, 12, 13, 14, 15, 16, 17, 18, 19, 20, 21, 22, 23, 24, 25, 26, 27, 28, 29, 30, 31, 32, 33, 34, 35, 36, 37, 38, 39, 40, 41, 42, 43, 44, 45, 46, 47, 48, 49, 50, 51, 52, 53, 54, 55, 56, 57, 58, 59, 60, 110, 111, 112, 113, 114, 115, 116, 117, 118, 119, 120, 121, 122] (by decide +kernel) (by decide +kernel)
set_option maxRecDepth 20000 in
theorem gX5_readMark_X5_says : GoodIn wsX5_readMark (wsV RX5 98 RX5 yX5_says wsX5_says) := goodIn_app (goodIn_of _ (by decide +kernel)) ggX5_readMark_X5_says
set_option maxRecDepth 20000 in
theorem ggX5_readMark_X5_step : GoodIn wsX5_readMark wsX5_step := goodIn_r _ [64, 9, 65, 10, 8, 66, 67, 68, 6, 69, 11, 70, 71, 72, 73, 74, 75, 76, 77, 78, 79, 1, 110, 111, 112, 113, 114, 115, 116, 117, 118, 119, 120, 121, 122] (by decide +kernel) (by decide +kernel)
set_option maxRecDepth 20000 in
theorem gX5_readMark_X5_step : GoodIn wsX5_readMark (wsV RX5 52 RX5 yX5_step wsX5_step) := goodIn_app (goodIn_of _ (by decide +kernel)) ggX5_readMark_X5_step
set_option maxRecDepth 20000 in
theorem ggX5_readMark_X5_isWhole : GoodIn wsX5_readMark wsX5_isWhole := goodIn_r _ [83, 8, 1, 84, 85, 86, 6, 87, 88, 110, 111, 112, 113, 114, 115, 116, 117, 118, 119, 120, 121, 122] (by decide +kernel) (by decide +kernel)
set_option maxRecDepth 20000 in
theorem gX5_readMark_X5_isWhole : GoodIn wsX5_readMark (wsV RX5 132 RX5 yX5_isWhole wsX5_isWhole) := goodIn_app (goodIn_of _ (by decide +kernel)) ggX5_readMark_X5_isWhole
set_option maxRecDepth 20000 in
theorem ggX5_readMark_X4_hasMark : GoodIn wsX5_readMark wsX4_hasMark := goodIn_r _ [93, 94, 95, 123, 124, 125, 126, 127, 128, 129, 130, 131, 132, 133, 134, 135, 136, 137, 138, 139, 140, 141, 142] (by decide +kernel) (by decide +kernel)
set_option maxRecDepth 20000 in
theorem gX5_readMark_X4_hasMark : GoodIn wsX5_readMark (wsV RX5 267 RX4 yX4_hasMark wsX4_hasMark) := goodIn_app (goodIn_of _ (by decide +kernel)) ggX5_readMark_X4_hasMark
set_option maxRecDepth 20000 in
theorem ggX5_readMark_X5_fails : GoodIn wsX5_readMark wsX5_fails := goodIn_r _ [87, 88, 110, 111, 112, 113, 114, 115, 116, 117, 118, 119, 120, 121, 122] (by decide +kernel) (by decide +kernel)
set_option maxRecDepth 20000 in
theorem gX5_readMark_X5_fails : GoodIn wsX5_readMark (wsV RX5 62 RX5 yX5_fails wsX5_fails) := goodIn_app (goodIn_of _ (by decide +kernel)) ggX5_readMark_X5_fails
set_option maxRecDepth 20000 in
theorem ggX5_readMark_X5_passes : GoodIn wsX5_readMark wsX5_passes := goodIn_r _ [99, 3, 4, 5, 6, 7, 8, 9, 10, 11, 12, 13, 14, 15, 16, 17, 18, 19, 20, 21, 22, 23, 24, 25, 26, 27, 28, 29, 30, 31, 32, 33, 34, 35, 36, 37, 38, 39, 40, 41, 42, 43, 44, 45, 46, 47, 48, 49, 50, 51, 52, 53, 54, 55, 56, 57, 58, 59, 60, 84, 85, 86, 87, 88, 61, 62, 63, 64, 65, 66, 67, 68, 69, 70, 71, 72, 73, 74, 75, 76, 77, 78, 79, 1, 110, 111, 112, 113, 114, 115, 116, 117, 118, 119, 120, 121, 122] (by decide +kernel) (by decide +kernel)
set_option maxRecDepth 20000 in
theorem gX5_readMark_X5_passes : GoodIn wsX5_readMark (wsV RX5 190 RX5 yX5_passes wsX5_passes) := goodIn_app (goodIn_of _ (by decide +kernel)) ggX5_readMark_X5_passes
set_option maxRecDepth 20000 in
theorem ggX5_readMark_X5_takeWhole : GoodIn wsX5_readMark wsX5_takeWhole := goodIn_r _ [103, 1, 80, 81, 82, 6, 83, 8, 84, 85, 86, 87, 88, 61, 62, 63, 64, 9, 65, 10, 66, 67, 68, 69, 11, 70, 71, 72, 73, 74, 75, 76, 77, 78, 79, 110, 111, 112, 113, 114, 115, 116, 117, 118, 119, 120, 121, 122] (by decide +kernel) (by decide +kernel)
set_option maxRecDepth 20000 in
theorem gX5_readMark_X5_takeWhole : GoodIn wsX5_readMark (wsV RX5 193 RX5 yX5_takeWhole wsX5_takeWhole) := goodIn_app (goodIn_of _ (by decide +kernel)) ggX5_readMark_X5_takeWhole
set_option maxRecDepth 20000 in
theorem ggX5_readMark_X4_addMark : GoodIn wsX5_readMark wsX4_addMark := goodIn_r _ [107, 94, 95, 108, 109, 123, 124, 125, 126, 127, 128, 129, 130, 131, 132, 133, 134, 135, 136, 137, 138, 139, 140, 141, 142] (by decide +kernel) (by decide +kernel)
set_option maxRecDepth 20000 in
theorem gX5_readMark_X4_addMark : GoodIn wsX5_readMark (wsV RX5 270 RX4 yX4_addMark wsX4_addMark) := goodIn_app (goodIn_of _ (by decide +kernel)) ggX5_readMark_X4_addMark
theorem dX5_readMark_0 : decode cX5_readMark 0 = .ok (.aload_n 0, 1) := by decide +kernel
theorem dX5_readMark_1 : decode cX5_readMark 1 = .ok (.ldc 114, 2) := by decide +kernel
theorem dX5_readMark_3 : decode cX5_readMark 3 = .ok (.invokevirtual 98, 3) := by decide +kernel
theorem dX5_readMark_6 : decode cX5_readMark 6 = .ok (.istore_n 1, 1) := by decide +kernel
theorem dX5_readMark_7 : decode cX5_readMark 7 = .ok (.aload_n 0, 1) := by decide +kernel
theorem dX5_readMark_8 : decode cX5_readMark 8 = .ok (.invokevirtual 52, 3) := by decide +kernel
theorem dX5_readMark_11 : decode cX5_readMark 11 = .ok (.aload_n 0, 1) := by decide +kernel
theorem dX5_readMark_12 : decode cX5_readMark 12 = .ok (.iconst 0, 1) := by decide +kernel
theorem dX5_readMark_13 : decode cX5_readMark 13 = .ok (.bipush 99, 2) := by decide +kernel
theorem dX5_readMark_15 : decode cX5_readMark 15 = .ok (.invokevirtual 132, 3) := by decide +kernel
theorem dX5_readMark_18 : decode cX5_readMark 18 = .ok (.ifCond .ne 5, 3) := by decide +kernel
theorem dX5_readMark_21 : decode cX5_readMark 21 = .ok (.iconst 0, 1) := by decide +kernel
theorem dX5_readMark_22 : decode cX5_readMark 22 = .ok (.ireturn, 1) := by decide +kernel
theorem dX5_readMark_23 : decode cX5_readMark 23 = .ok (.aload_n 0, 1) := by decide +kernel
theorem dX5_readMark_24 : decode cX5_readMark 24 = .ok (.getfield 85, 3) := by decide +kernel
theorem dX5_readMark_27 : decode cX5_readMark 27 = .ok (.istore_n 2, 1) := by decide +kernel
theorem dX5_readMark_28 : decode cX5_readMark 28 = .ok (.aload_n 0, 1) := by decide +kernel
theorem dX5_readMark_29 : decode cX5_readMark 29 = .ok (.getfield 18, 3) := by decide +kernel
theorem dX5_readMark_32 : decode cX5_readMark 32 = .ok (.iload_n 2, 1) := by decide +kernel
theorem dX5_readMark_33 : decode cX5_readMark 33 = .ok (.invokevirtual 267, 3) := by decide +kernel
theorem dX5_readMark_36 : decode cX5_readMark 36 = .ok (.ifCond .eq 9, 3) := by decide +kernel
theorem dX5_readMark_39 : decode cX5_readMark 39 = .ok (.aload_n 0, 1) := by decide +kernel
theorem dX5_readMark_40 : decode cX5_readMark 40 = .ok (.iconst 3, 1) := by decide +kernel
theorem dX5_readMark_41 : decode cX5_readMark 41 = .ok (.invokevirtual 62, 3) := by decide +kernel
theorem dX5_readMark_44 : decode cX5_readMark 44 = .ok (.ireturn, 1) := by decide +kernel
theorem dX5_readMark_45 : decode cX5_readMark 45 = .ok (.aload_n 0, 1) := by decide +kernel
theorem dX5_readMark_46 : decode cX5_readMark 46 = .ok (.invokevirtual 52, 3) := by decide +kernel
theorem dX5_readMark_49 : decode cX5_readMark 49 = .ok (.aload_n 0, 1) := by decide +kernel
theorem dX5_readMark_50 : decode cX5_readMark 50 = .ok (.ldc 248, 2) := by decide +kernel
theorem dX5_readMark_52 : decode cX5_readMark 52 = .ok (.invokevirtual 190, 3) := by decide +kernel
theorem dX5_readMark_55 : decode cX5_readMark 55 = .ok (.ifCond .ne 5, 3) := by decide +kernel
theorem dX5_readMark_58 : decode cX5_readMark 58 = .ok (.iconst 0, 1) := by decide +kernel
theorem dX5_readMark_59 : decode cX5_readMark 59 = .ok (.ireturn, 1) := by decide +kernel
theorem dX5_readMark_60 : decode cX5_readMark 60 = .ok (.aload_n 0, 1) := by decide +kernel
theorem dX5_readMark_61 : decode cX5_readMark 61 = .ok (.iconst 0, 1) := by decide +kernel
theorem dX5_readMark_62 : decode cX5_readMark 62 = .ok (.bipush 11, 2) := by decide +kernel
theorem dX5_readMark_64 : decode cX5_readMark 64 = .ok (.invokevirtual 193, 3) := by decide +kernel
theorem dX5_readMark_67 : decode cX5_readMark 67 = .ok (.istore_n 3, 1) := by decide +kernel
theorem dX5_readMark_68 : decode cX5_readMark 68 = .ok (.iload_n 3, 1) := by decide +kernel
theorem dX5_readMark_69 : decode cX5_readMark 69 = .ok (.ifCond .ge 5, 3) := by decide +kernel
theorem dX5_readMark_72 : decode cX5_readMark 72 = .ok (.iconst 0, 1) := by decide +kernel
theorem dX5_readMark_73 : decode cX5_readMark 73 = .ok (.ireturn, 1) := by decide +kernel
theorem dX5_readMark_74 : decode cX5_readMark 74 = .ok (.aload_n 0, 1) := by decide +kernel
theorem dX5_readMark_75 : decode cX5_readMark 75 = .ok (.getfield 18, 3) := by decide +kernel
theorem dX5_readMark_78 : decode cX5_readMark 78 = .ok (.iload_n 2, 1) := by decide +kernel
theorem dX5_readMark_79 : decode cX5_readMark 79 = .ok (.iload_n 3, 1) := by decide +kernel
theorem dX5_readMark_80 : decode cX5_readMark 80 = .ok (.iload_n 1, 1) := by decide +kernel
theorem dX5_readMark_81 : decode cX5_readMark 81 = .ok (.invokevirtual 270, 3) := by decide +kernel
theorem dX5_readMark_84 : decode cX5_readMark 84 = .ok (.iconst 1, 1) := by decide +kernel
theorem dX5_readMark_85 : decode cX5_readMark 85 = .ok (.ireturn, 1) := by decide +kernel
set_option maxRecDepth 20000 in
theorem ggX6_init_X4_init : GoodIn wsX6_init wsX4_init := goodIn_r _ [15, 16, 2, 3, 17, 18, 19, 20, 4, 21, 22, 23, 24, 25, 26, 27, 28, 29, 30, 31, 32, 33, 34, 35, 36, 37, 38, 39, 40, 41, 42, 43, 44, 78, 79, 80, 81, 82, 58, 59, 60, 61, 62, 63, 64, 65, 66, 67, 68, 69, 70, 71, 72, 73, 74, 75, 76, 77] (by decide +kernel) (by decide +kernel)
set_option maxRecDepth 20000 in
theorem gX6_init_X4_init : GoodIn wsX6_init (wsX4_init) := ggX6_init_X4_init
theorem dX6_init_0 : decode cX6_init 0 = .ok (.aload_n 0, 1) := by decide +kernel
theorem dX6_init_1 : decode cX6_init 1 = .ok (.invokespecial 3, 3) := by decide +kernel
theorem dX6_init_4 : decode cX6_init 4 = .ok (.aload_n 0, 1) := by decide +kernel
theorem dX6_init_5 : decode cX6_init 5 = .ok (.bipush 7, 2) := by decide +kernel
theorem dX6_init_7 : decode cX6_init 7 = .ok (.newarray .int, 2) := by decide +kernel
theorem dX6_init_9 : decode cX6_init 9 = .ok (.putfield 9, 3) := by decide +kernel
theorem dX6_init_12 : decode cX6_init 12 = .ok (.aload_n 0, 1) := by decide +kernel
theorem dX6_init_13 : decode cX6_init 13 = .ok (.bipush 36, 2) := by decide +kernel
theorem dX6_init_15 : decode cX6_init 15 = .ok (.newarray .int, 2) := by decide +kernel
theorem dX6_init_17 : decode cX6_init 17 = .ok (.putfield 15, 3) := by decide +kernel
theorem dX6_init_20 : decode cX6_init 20 = .ok (.aload_n 0, 1) := by decide +kernel
theorem dX6_init_21 : decode cX6_init 21 = .ok (.bipush 7, 2) := by decide +kernel
theorem dX6_init_23 : decode cX6_init 23 = .ok (.newarray .int, 2) := by decide +kernel
theorem dX6_init_25 : decode cX6_init 25 = .ok (.putfield 18, 3) := by decide +kernel
theorem dX6_init_28 : decode cX6_init 28 = .ok (.aload_n 0, 1) := by decide +kernel
theorem dX6_init_29 : decode cX6_init 29 = .ok (.bipush 70, 2) := by decide +kernel
theorem dX6_init_31 : decode cX6_init 31 = .ok (.newarray .int, 2) := by decide +kernel
theorem dX6_init_33 : decode cX6_init 33 = .ok (.putfield 21, 3) := by decide +kernel
theorem dX6_init_36 : decode cX6_init 36 = .ok (.aload_n 0, 1) := by decide +kernel
theorem dX6_init_37 : decode cX6_init 37 = .ok (.new 24, 3) := by decide +kernel
theorem dX6_init_40 : decode cX6_init 40 = .ok (.dup, 1) := by decide +kernel
theorem dX6_init_41 : decode cX6_init 41 = .ok (.invokespecial 26, 3) := by decide +kernel
theorem dX6_init_44 : decode cX6_init 44 = .ok (.putfield 27, 3) := by decide +kernel
