theorem dX8_steps_53 : decode cX8_steps 53 = .ok (.istore 4, 2) := by decide +kernel
theorem dX8_steps_55 : decode cX8_steps 55 = .ok (.iload 4, 2) := by decide +kernel
theorem dX8_steps_57 : decode cX8_steps 57 = .ok (.iload_n 2, 1) := by decide +kernel
theorem dX8_steps_58 : decode cX8_steps 58 = .ok (.if_icmp .gt 31, 3) := by decide +kernel
theorem dX8_steps_61 : decode cX8_steps 61 = .ok (.aload_n 0, 1) := by decide +kernel
theorem dX8_steps_62 : decode cX8_steps 62 = .ok (.getfield 26, 3) := by decide +kernel
theorem dX8_steps_65 : decode cX8_steps 65 = .ok (.iconst 0, 1) := by decide +kernel
theorem dX8_steps_66 : decode cX8_steps 66 = .ok (.invokevirtual 188, 3) := by decide +kernel
theorem dX8_steps_69 : decode cX8_steps 69 = .ok (.iload_n 3, 1) := by decide +kernel
theorem dX8_steps_70 : decode cX8_steps 70 = .ok (.aload_n 0, 1) := by decide +kernel
theorem dX8_steps_71 : decode cX8_steps 71 = .ok (.getfield 26, 3) := by decide +kernel
theorem dX8_steps_74 : decode cX8_steps 74 = .ok (.invokevirtual 172, 3) := by decide +kernel
theorem dX8_steps_77 : decode cX8_steps 77 = .ok (.iload_n 1, 1) := by decide +kernel
theorem dX8_steps_78 : decode cX8_steps 78 = .ok (.ishr, 1) := by decide +kernel
theorem dX8_steps_79 : decode cX8_steps 79 = .ok (.iconst 1, 1) := by decide +kernel
theorem dX8_steps_80 : decode cX8_steps 80 = .ok (.iand, 1) := by decide +kernel
theorem dX8_steps_81 : decode cX8_steps 81 = .ok (.iadd, 1) := by decide +kernel
theorem dX8_steps_82 : decode cX8_steps 82 = .ok (.istore_n 3, 1) := by decide +kernel
theorem dX8_steps_83 : decode cX8_steps 83 = .ok (.iinc 4 1, 3) := by decide +kernel
theorem dX8_steps_86 : decode cX8_steps 86 = .ok (.goto (-31), 3) := by decide +kernel
theorem dX8_steps_89 : decode cX8_steps 89 = .ok (.aload_n 0, 1) := by decide +kernel
theorem dX8_steps_90 : decode cX8_steps 90 = .ok (.iload_n 3, 1) := by decide +kernel
theorem dX8_steps_91 : decode cX8_steps 91 = .ok (.invokevirtual 97, 3) := by decide +kernel
theorem dX8_steps_94 : decode cX8_steps 94 = .ok (.ireturn, 1) := by decide +kernel
theorem dX8_meetings_0 : decode cX8_meetings 0 = .ok (.aload_n 0, 1) := by decide +kernel
theorem dX8_meetings_1 : decode cX8_meetings 1 = .ok (.iload_n 1, 1) := by decide +kernel
theorem dX8_meetings_2 : decode cX8_meetings 2 = .ok (.iload_n 2, 1) := by decide +kernel
theorem dX8_meetings_3 : decode cX8_meetings 3 = .ok (.invokevirtual 191, 3) := by decide +kernel
theorem dX8_meetings_6 : decode cX8_meetings 6 = .ok (.ifCond .ne 9, 3) := by decide +kernel
theorem dX8_meetings_9 : decode cX8_meetings 9 = .ok (.aload_n 0, 1) := by decide +kernel
theorem dX8_meetings_10 : decode cX8_meetings 10 = .ok (.iconst 1, 1) := by decide +kernel
theorem dX8_meetings_11 : decode cX8_meetings 11 = .ok (.invokevirtual 63, 3) := by decide +kernel
theorem dX8_meetings_14 : decode cX8_meetings 14 = .ok (.ireturn, 1) := by decide +kernel
theorem dX8_meetings_15 : decode cX8_meetings 15 = .ok (.iload_n 3, 1) := by decide +kernel
theorem dX8_meetings_16 : decode cX8_meetings 16 = .ok (.ifCond .lt 10, 3) := by decide +kernel
theorem dX8_meetings_19 : decode cX8_meetings 19 = .ok (.iload_n 3, 1) := by decide +kernel
theorem dX8_meetings_20 : decode cX8_meetings 20 = .ok (.sipush 200, 3) := by decide +kernel
theorem dX8_meetings_23 : decode cX8_meetings 23 = .ok (.if_icmp .le 9, 3) := by decide +kernel
theorem dX8_meetings_26 : decode cX8_meetings 26 = .ok (.aload_n 0, 1) := by decide +kernel
theorem dX8_meetings_27 : decode cX8_meetings 27 = .ok (.iconst 2, 1) := by decide +kernel
theorem dX8_meetings_28 : decode cX8_meetings 28 = .ok (.invokevirtual 63, 3) := by decide +kernel
theorem dX8_meetings_31 : decode cX8_meetings 31 = .ok (.ireturn, 1) := by decide +kernel
theorem dX8_meetings_32 : decode cX8_meetings 32 = .ok (.iconst 0, 1) := by decide +kernel
theorem dX8_meetings_33 : decode cX8_meetings 33 = .ok (.istore 4, 2) := by decide +kernel
theorem dX8_meetings_35 : decode cX8_meetings 35 = .ok (.aload_n 0, 1) := by decide +kernel
theorem dX8_meetings_36 : decode cX8_meetings 36 = .ok (.getfield 26, 3) := by decide +kernel
theorem dX8_meetings_39 : decode cX8_meetings 39 = .ok (.aload_n 0, 1) := by decide +kernel
theorem dX8_meetings_40 : decode cX8_meetings 40 = .ok (.getfield 47, 3) := by decide +kernel
theorem dX8_meetings_43 : decode cX8_meetings 43 = .ok (.aload_n 0, 1) := by decide +kernel
theorem dX8_meetings_44 : decode cX8_meetings 44 = .ok (.getfield 19, 3) := by decide +kernel
theorem dX8_meetings_47 : decode cX8_meetings 47 = .ok (.iconst 0, 1) := by decide +kernel
theorem dX8_meetings_48 : decode cX8_meetings 48 = .ok (.invokevirtual 165, 3) := by decide +kernel
theorem dX8_meetings_51 : decode cX8_meetings 51 = .ok (.iconst 1, 1) := by decide +kernel
theorem dX8_meetings_52 : decode cX8_meetings 52 = .ok (.istore 5, 2) := by decide +kernel
theorem dX8_meetings_54 : decode cX8_meetings 54 = .ok (.iload 5, 2) := by decide +kernel
theorem dX8_meetings_56 : decode cX8_meetings 56 = .ok (.iload_n 3, 1) := by decide +kernel
theorem dX8_meetings_57 : decode cX8_meetings 57 = .ok (.if_icmp .gt 39, 3) := by decide +kernel
theorem dX8_meetings_60 : decode cX8_meetings 60 = .ok (.aload_n 0, 1) := by decide +kernel
theorem dX8_meetings_61 : decode cX8_meetings 61 = .ok (.getfield 26, 3) := by decide +kernel
theorem dX8_meetings_64 : decode cX8_meetings 64 = .ok (.iconst 0, 1) := by decide +kernel
theorem dX8_meetings_65 : decode cX8_meetings 65 = .ok (.invokevirtual 188, 3) := by decide +kernel
theorem dX8_meetings_68 : decode cX8_meetings 68 = .ok (.iload 4, 2) := by decide +kernel
theorem dX8_meetings_70 : decode cX8_meetings 70 = .ok (.aload_n 0, 1) := by decide +kernel
theorem dX8_meetings_71 : decode cX8_meetings 71 = .ok (.getfield 26, 3) := by decide +kernel
theorem dX8_meetings_74 : decode cX8_meetings 74 = .ok (.iload_n 1, 1) := by decide +kernel
theorem dX8_meetings_75 : decode cX8_meetings 75 = .ok (.iload_n 2, 1) := by decide +kernel
theorem dX8_meetings_76 : decode cX8_meetings 76 = .ok (.invokevirtual 194, 3) := by decide +kernel
theorem dX8_meetings_79 : decode cX8_meetings 79 = .ok (.ifCond .eq 7, 3) := by decide +kernel
theorem dX8_meetings_82 : decode cX8_meetings 82 = .ok (.iconst 1, 1) := by decide +kernel
theorem dX8_meetings_83 : decode cX8_meetings 83 = .ok (.goto 4, 3) := by decide +kernel
theorem dX8_meetings_86 : decode cX8_meetings 86 = .ok (.iconst 0, 1) := by decide +kernel
theorem dX8_meetings_87 : decode cX8_meetings 87 = .ok (.iadd, 1) := by decide +kernel
theorem dX8_meetings_88 : decode cX8_meetings 88 = .ok (.istore 4, 2) := by decide +kernel
theorem dX8_meetings_90 : decode cX8_meetings 90 = .ok (.iinc 5 1, 3) := by decide +kernel
theorem dX8_meetings_93 : decode cX8_meetings 93 = .ok (.goto (-39), 3) := by decide +kernel
theorem dX8_meetings_96 : decode cX8_meetings 96 = .ok (.aload_n 0, 1) := by decide +kernel
theorem dX8_meetings_97 : decode cX8_meetings 97 = .ok (.iload 4, 2) := by decide +kernel
theorem dX8_meetings_99 : decode cX8_meetings 99 = .ok (.invokevirtual 97, 3) := by decide +kernel
theorem dX8_meetings_102 : decode cX8_meetings 102 = .ok (.ireturn, 1) := by decide +kernel
theorem dX8_mostMeet_0 : decode cX8_mostMeet 0 = .ok (.aload_n 0, 1) := by decide +kernel
theorem dX8_mostMeet_1 : decode cX8_mostMeet 1 = .ok (.getfield 47, 3) := by decide +kernel
theorem dX8_mostMeet_4 : decode cX8_mostMeet 4 = .ok (.invokevirtual 161, 3) := by decide +kernel
theorem dX8_mostMeet_7 : decode cX8_mostMeet 7 = .ok (.ifCond .ne 9, 3) := by decide +kernel
theorem dX8_mostMeet_10 : decode cX8_mostMeet 10 = .ok (.aload_n 0, 1) := by decide +kernel
theorem dX8_mostMeet_11 : decode cX8_mostMeet 11 = .ok (.iconst 1, 1) := by decide +kernel
theorem dX8_mostMeet_12 : decode cX8_mostMeet 12 = .ok (.invokevirtual 63, 3) := by decide +kernel
theorem dX8_mostMeet_15 : decode cX8_mostMeet 15 = .ok (.ireturn, 1) := by decide +kernel
theorem dX8_mostMeet_16 : decode cX8_mostMeet 16 = .ok (.aload_n 0, 1) := by decide +kernel
theorem dX8_mostMeet_17 : decode cX8_mostMeet 17 = .ok (.getfield 26, 3) := by decide +kernel
theorem dX8_mostMeet_20 : decode cX8_mostMeet 20 = .ok (.aload_n 0, 1) := by decide +kernel
theorem dX8_mostMeet_21 : decode cX8_mostMeet 21 = .ok (.getfield 47, 3) := by decide +kernel
theorem dX8_mostMeet_24 : decode cX8_mostMeet 24 = .ok (.aload_n 0, 1) := by decide +kernel
theorem dX8_mostMeet_25 : decode cX8_mostMeet 25 = .ok (.getfield 19, 3) := by decide +kernel
theorem dX8_mostMeet_28 : decode cX8_mostMeet 28 = .ok (.iconst 0, 1) := by decide +kernel
theorem dX8_mostMeet_29 : decode cX8_mostMeet 29 = .ok (.invokevirtual 165, 3) := by decide +kernel
theorem dX8_mostMeet_32 : decode cX8_mostMeet 32 = .ok (.aload_n 0, 1) := by decide +kernel
theorem dX8_mostMeet_33 : decode cX8_mostMeet 33 = .ok (.aload_n 0, 1) := by decide +kernel
theorem dX8_mostMeet_34 : decode cX8_mostMeet 34 = .ok (.getfield 26, 3) := by decide +kernel
theorem dX8_mostMeet_37 : decode cX8_mostMeet 37 = .ok (.bipush 60, 2) := by decide +kernel
theorem dX8_mostMeet_39 : decode cX8_mostMeet 39 = .ok (.invokevirtual 201, 3) := by decide +kernel
theorem dX8_mostMeet_42 : decode cX8_mostMeet 42 = .ok (.invokevirtual 97, 3) := by decide +kernel
theorem dX8_mostMeet_45 : decode cX8_mostMeet 45 = .ok (.ireturn, 1) := by decide +kernel
theorem dX8_toWiden_0 : decode cX8_toWiden 0 = .ok (.aload_n 0, 1) := by decide +kernel
theorem dX8_toWiden_1 : decode cX8_toWiden 1 = .ok (.getfield 47, 3) := by decide +kernel
theorem dX8_toWiden_4 : decode cX8_toWiden 4 = .ok (.invokevirtual 161, 3) := by decide +kernel
theorem dX8_toWiden_7 : decode cX8_toWiden 7 = .ok (.ifCond .ne 9, 3) := by decide +kernel
theorem dX8_toWiden_10 : decode cX8_toWiden 10 = .ok (.aload_n 0, 1) := by decide +kernel
theorem dX8_toWiden_11 : decode cX8_toWiden 11 = .ok (.iconst 1, 1) := by decide +kernel
theorem dX8_toWiden_12 : decode cX8_toWiden 12 = .ok (.invokevirtual 63, 3) := by decide +kernel
theorem dX8_toWiden_15 : decode cX8_toWiden 15 = .ok (.ireturn, 1) := by decide +kernel
theorem dX8_toWiden_16 : decode cX8_toWiden 16 = .ok (.aload_n 0, 1) := by decide +kernel
theorem dX8_toWiden_17 : decode cX8_toWiden 17 = .ok (.getfield 26, 3) := by decide +kernel
theorem dX8_toWiden_20 : decode cX8_toWiden 20 = .ok (.aload_n 0, 1) := by decide +kernel
theorem dX8_toWiden_21 : decode cX8_toWiden 21 = .ok (.getfield 47, 3) := by decide +kernel
theorem dX8_toWiden_24 : decode cX8_toWiden 24 = .ok (.aload_n 0, 1) := by decide +kernel
theorem dX8_toWiden_25 : decode cX8_toWiden 25 = .ok (.getfield 19, 3) := by decide +kernel
theorem dX8_toWiden_28 : decode cX8_toWiden 28 = .ok (.iconst 0, 1) := by decide +kernel
theorem dX8_toWiden_29 : decode cX8_toWiden 29 = .ok (.invokevirtual 165, 3) := by decide +kernel
theorem dX8_toWiden_32 : decode cX8_toWiden 32 = .ok (.aload_n 0, 1) := by decide +kernel
theorem dX8_toWiden_33 : decode cX8_toWiden 33 = .ok (.getfield 26, 3) := by decide +kernel
theorem dX8_toWiden_36 : decode cX8_toWiden 36 = .ok (.bipush 60, 2) := by decide +kernel
theorem dX8_toWiden_38 : decode cX8_toWiden 38 = .ok (.invokevirtual 181, 3) := by decide +kernel
theorem dX8_toWiden_41 : decode cX8_toWiden 41 = .ok (.istore_n 1, 1) := by decide +kernel
theorem dX8_toWiden_42 : decode cX8_toWiden 42 = .ok (.bipush (-2), 2) := by decide +kernel
theorem dX8_toWiden_44 : decode cX8_toWiden 44 = .ok (.istore_n 2, 1) := by decide +kernel
theorem dX8_toWiden_45 : decode cX8_toWiden 45 = .ok (.iconst 0, 1) := by decide +kernel
theorem dX8_toWiden_46 : decode cX8_toWiden 46 = .ok (.istore_n 3, 1) := by decide +kernel
theorem dX8_toWiden_47 : decode cX8_toWiden 47 = .ok (.iload_n 3, 1) := by decide +kernel
theorem dX8_toWiden_48 : decode cX8_toWiden 48 = .ok (.bipush 36, 2) := by decide +kernel
theorem dX8_toWiden_50 : decode cX8_toWiden 50 = .ok (.if_icmp .ge 71, 3) := by decide +kernel
theorem dX8_toWiden_53 : decode cX8_toWiden 53 = .ok (.aload_n 0, 1) := by decide +kernel
theorem dX8_toWiden_54 : decode cX8_toWiden 54 = .ok (.getfield 47, 3) := by decide +kernel
theorem dX8_toWiden_57 : decode cX8_toWiden 57 = .ok (.iload_n 3, 1) := by decide +kernel
theorem dX8_toWiden_58 : decode cX8_toWiden 58 = .ok (.invokevirtual 155, 3) := by decide +kernel
theorem dX8_toWiden_61 : decode cX8_toWiden 61 = .ok (.bipush 10, 2) := by decide +kernel
theorem dX8_toWiden_63 : decode cX8_toWiden 63 = .ok (.if_icmp .eq 52, 3) := by decide +kernel
theorem dX8_toWiden_66 : decode cX8_toWiden 66 = .ok (.aload_n 0, 1) := by decide +kernel
theorem dX8_toWiden_67 : decode cX8_toWiden 67 = .ok (.getfield 26, 3) := by decide +kernel
theorem dX8_toWiden_70 : decode cX8_toWiden 70 = .ok (.aload_n 0, 1) := by decide +kernel
theorem dX8_toWiden_71 : decode cX8_toWiden 71 = .ok (.getfield 47, 3) := by decide +kernel
theorem dX8_toWiden_74 : decode cX8_toWiden 74 = .ok (.aload_n 0, 1) := by decide +kernel
theorem dX8_toWiden_75 : decode cX8_toWiden 75 = .ok (.getfield 19, 3) := by decide +kernel
theorem dX8_toWiden_78 : decode cX8_toWiden 78 = .ok (.iconst 0, 1) := by decide +kernel
theorem dX8_toWiden_79 : decode cX8_toWiden 79 = .ok (.invokevirtual 165, 3) := by decide +kernel
theorem dX8_toWiden_82 : decode cX8_toWiden 82 = .ok (.aload_n 0, 1) := by decide +kernel
theorem dX8_toWiden_83 : decode cX8_toWiden 83 = .ok (.getfield 26, 3) := by decide +kernel
theorem dX8_toWiden_86 : decode cX8_toWiden 86 = .ok (.iload_n 3, 1) := by decide +kernel
theorem dX8_toWiden_87 : decode cX8_toWiden 87 = .ok (.invokevirtual 204, 3) := by decide +kernel
theorem dX8_toWiden_90 : decode cX8_toWiden 90 = .ok (.aload_n 0, 1) := by decide +kernel
theorem dX8_toWiden_91 : decode cX8_toWiden 91 = .ok (.getfield 26, 3) := by decide +kernel
theorem dX8_toWiden_94 : decode cX8_toWiden 94 = .ok (.bipush 60, 2) := by decide +kernel
theorem dX8_toWiden_96 : decode cX8_toWiden 96 = .ok (.invokevirtual 181, 3) := by decide +kernel
theorem dX8_toWiden_99 : decode cX8_toWiden 99 = .ok (.istore 4, 2) := by decide +kernel
theorem dX8_toWiden_101 : decode cX8_toWiden 101 = .ok (.iload 4, 2) := by decide +kernel
theorem dX8_toWiden_103 : decode cX8_toWiden 103 = .ok (.iload_n 1, 1) := by decide +kernel
theorem dX8_toWiden_104 : decode cX8_toWiden 104 = .ok (.if_icmp .le 11, 3) := by decide +kernel
theorem dX8_toWiden_107 : decode cX8_toWiden 107 = .ok (.iload 4, 2) := by decide +kernel
theorem dX8_toWiden_109 : decode cX8_toWiden 109 = .ok (.istore_n 1, 1) := by decide +kernel
theorem dX8_toWiden_110 : decode cX8_toWiden 110 = .ok (.iload_n 3, 1) := by decide +kernel
theorem dX8_toWiden_111 : decode cX8_toWiden 111 = .ok (.invokestatic 185, 3) := by decide +kernel
theorem dX8_toWiden_114 : decode cX8_toWiden 114 = .ok (.istore_n 2, 1) := by decide +kernel
theorem dX8_toWiden_115 : decode cX8_toWiden 115 = .ok (.iinc 3 1, 3) := by decide +kernel
theorem dX8_toWiden_118 : decode cX8_toWiden 118 = .ok (.goto (-71), 3) := by decide +kernel
theorem dX8_toWiden_121 : decode cX8_toWiden 121 = .ok (.aload_n 0, 1) := by decide +kernel
theorem dX8_toWiden_122 : decode cX8_toWiden 122 = .ok (.iload_n 2, 1) := by decide +kernel
theorem dX8_toWiden_123 : decode cX8_toWiden 123 = .ok (.invokevirtual 97, 3) := by decide +kernel
theorem dX8_toWiden_126 : decode cX8_toWiden 126 = .ok (.ireturn, 1) := by decide +kernel
theorem dX8_worstHeld_0 : decode cX8_worstHeld 0 = .ok (.aload_n 0, 1) := by decide +kernel
theorem dX8_worstHeld_1 : decode cX8_worstHeld 1 = .ok (.getfield 47, 3) := by decide +kernel
theorem dX8_worstHeld_4 : decode cX8_worstHeld 4 = .ok (.invokevirtual 161, 3) := by decide +kernel
theorem dX8_worstHeld_7 : decode cX8_worstHeld 7 = .ok (.ifCond .ne 9, 3) := by decide +kernel
theorem dX8_worstHeld_10 : decode cX8_worstHeld 10 = .ok (.aload_n 0, 1) := by decide +kernel
theorem dX8_worstHeld_11 : decode cX8_worstHeld 11 = .ok (.iconst 1, 1) := by decide +kernel
theorem dX8_worstHeld_12 : decode cX8_worstHeld 12 = .ok (.invokevirtual 63, 3) := by decide +kernel
theorem dX8_worstHeld_15 : decode cX8_worstHeld 15 = .ok (.ireturn, 1) := by decide +kernel
theorem dX8_worstHeld_16 : decode cX8_worstHeld 16 = .ok (.iload_n 1, 1) := by decide +kernel
theorem dX8_worstHeld_17 : decode cX8_worstHeld 17 = .ok (.ifCond .lt 9, 3) := by decide +kernel
theorem dX8_worstHeld_20 : decode cX8_worstHeld 20 = .ok (.iload_n 1, 1) := by decide +kernel
theorem dX8_worstHeld_21 : decode cX8_worstHeld 21 = .ok (.bipush 60, 2) := by decide +kernel
theorem dX8_worstHeld_23 : decode cX8_worstHeld 23 = .ok (.if_icmp .le 9, 3) := by decide +kernel
theorem dX8_worstHeld_26 : decode cX8_worstHeld 26 = .ok (.aload_n 0, 1) := by decide +kernel
theorem dX8_worstHeld_27 : decode cX8_worstHeld 27 = .ok (.iconst 2, 1) := by decide +kernel
theorem dX8_worstHeld_28 : decode cX8_worstHeld 28 = .ok (.invokevirtual 63, 3) := by decide +kernel
theorem dX8_worstHeld_31 : decode cX8_worstHeld 31 = .ok (.ireturn, 1) := by decide +kernel
theorem dX8_worstHeld_32 : decode cX8_worstHeld 32 = .ok (.iconst 0, 1) := by decide +kernel
theorem dX8_worstHeld_33 : decode cX8_worstHeld 33 = .ok (.istore_n 2, 1) := by decide +kernel
theorem dX8_worstHeld_34 : decode cX8_worstHeld 34 = .ok (.bipush (-2), 2) := by decide +kernel
theorem dX8_worstHeld_36 : decode cX8_worstHeld 36 = .ok (.istore_n 3, 1) := by decide +kernel
theorem dX8_worstHeld_37 : decode cX8_worstHeld 37 = .ok (.iconst 0, 1) := by decide +kernel
theorem dX8_worstHeld_38 : decode cX8_worstHeld 38 = .ok (.istore 4, 2) := by decide +kernel
theorem dX8_worstHeld_40 : decode cX8_worstHeld 40 = .ok (.iload 4, 2) := by decide +kernel
theorem dX8_worstHeld_42 : decode cX8_worstHeld 42 = .ok (.aload_n 0, 1) := by decide +kernel
theorem dX8_worstHeld_43 : decode cX8_worstHeld 43 = .ok (.getfield 47, 3) := by decide +kernel
theorem dX8_worstHeld_46 : decode cX8_worstHeld 46 = .ok (.getfield 106, 3) := by decide +kernel
theorem dX8_worstHeld_49 : decode cX8_worstHeld 49 = .ok (.if_icmp .ge 56, 3) := by decide +kernel
theorem dX8_worstHeld_52 : decode cX8_worstHeld 52 = .ok (.aload_n 0, 1) := by decide +kernel
theorem dX8_worstHeld_53 : decode cX8_worstHeld 53 = .ok (.getfield 26, 3) := by decide +kernel
theorem dX8_worstHeld_56 : decode cX8_worstHeld 56 = .ok (.aload_n 0, 1) := by decide +kernel
theorem dX8_worstHeld_57 : decode cX8_worstHeld 57 = .ok (.getfield 47, 3) := by decide +kernel
theorem dX8_worstHeld_60 : decode cX8_worstHeld 60 = .ok (.aload_n 0, 1) := by decide +kernel
theorem dX8_worstHeld_61 : decode cX8_worstHeld 61 = .ok (.getfield 19, 3) := by decide +kernel
theorem dX8_worstHeld_64 : decode cX8_worstHeld 64 = .ok (.iconst 1, 1) := by decide +kernel
theorem dX8_worstHeld_65 : decode cX8_worstHeld 65 = .ok (.iload 4, 2) := by decide +kernel
theorem dX8_worstHeld_67 : decode cX8_worstHeld 67 = .ok (.ishl, 1) := by decide +kernel
theorem dX8_worstHeld_68 : decode cX8_worstHeld 68 = .ok (.invokevirtual 165, 3) := by decide +kernel
theorem dX8_worstHeld_71 : decode cX8_worstHeld 71 = .ok (.aload_n 0, 1) := by decide +kernel
theorem dX8_worstHeld_72 : decode cX8_worstHeld 72 = .ok (.getfield 26, 3) := by decide +kernel
theorem dX8_worstHeld_75 : decode cX8_worstHeld 75 = .ok (.iload_n 1, 1) := by decide +kernel
theorem dX8_worstHeld_76 : decode cX8_worstHeld 76 = .ok (.invokevirtual 181, 3) := by decide +kernel
theorem dX8_worstHeld_79 : decode cX8_worstHeld 79 = .ok (.istore 5, 2) := by decide +kernel
theorem dX8_worstHeld_81 : decode cX8_worstHeld 81 = .ok (.iload_n 3, 1) := by decide +kernel
theorem dX8_worstHeld_82 : decode cX8_worstHeld 82 = .ok (.bipush (-2), 2) := by decide +kernel
theorem dX8_worstHeld_84 : decode cX8_worstHeld 84 = .ok (.if_icmp .eq 9, 3) := by decide +kernel
theorem dX8_worstHeld_87 : decode cX8_worstHeld 87 = .ok (.iload 5, 2) := by decide +kernel
theorem dX8_worstHeld_89 : decode cX8_worstHeld 89 = .ok (.iload_n 2, 1) := by decide +kernel
theorem dX8_worstHeld_90 : decode cX8_worstHeld 90 = .ok (.if_icmp .ge 9, 3) := by decide +kernel
theorem dX8_worstHeld_93 : decode cX8_worstHeld 93 = .ok (.iload 5, 2) := by decide +kernel
theorem dX8_worstHeld_95 : decode cX8_worstHeld 95 = .ok (.istore_n 2, 1) := by decide +kernel
theorem dX8_worstHeld_96 : decode cX8_worstHeld 96 = .ok (.iload 4, 2) := by decide +kernel
theorem dX8_worstHeld_98 : decode cX8_worstHeld 98 = .ok (.istore_n 3, 1) := by decide +kernel
theorem dX8_worstHeld_99 : decode cX8_worstHeld 99 = .ok (.iinc 4 1, 3) := by decide +kernel
theorem dX8_worstHeld_102 : decode cX8_worstHeld 102 = .ok (.goto (-62), 3) := by decide +kernel
theorem dX8_worstHeld_105 : decode cX8_worstHeld 105 = .ok (.aload_n 0, 1) := by decide +kernel
theorem dX8_worstHeld_106 : decode cX8_worstHeld 106 = .ok (.iload_n 3, 1) := by decide +kernel
theorem dX8_worstHeld_107 : decode cX8_worstHeld 107 = .ok (.invokevirtual 97, 3) := by decide +kernel
theorem dX8_worstHeld_110 : decode cX8_worstHeld 110 = .ok (.ireturn, 1) := by decide +kernel
theorem dX8_holds_0 : decode cX8_holds 0 = .ok (.aload_n 0, 1) := by decide +kernel
theorem dX8_holds_1 : decode cX8_holds 1 = .ok (.getfield 47, 3) := by decide +kernel
theorem dX8_holds_4 : decode cX8_holds 4 = .ok (.iload_n 1, 1) := by decide +kernel
theorem dX8_holds_5 : decode cX8_holds 5 = .ok (.invokevirtual 124, 3) := by decide +kernel
theorem dX8_holds_8 : decode cX8_holds 8 = .ok (.ifCond .eq 15, 3) := by decide +kernel
theorem dX8_holds_11 : decode cX8_holds 11 = .ok (.aload_n 0, 1) := by decide +kernel
theorem dX8_holds_12 : decode cX8_holds 12 = .ok (.getfield 47, 3) := by decide +kernel
theorem dX8_holds_15 : decode cX8_holds 15 = .ok (.iload_n 2, 1) := by decide +kernel
theorem dX8_holds_16 : decode cX8_holds 16 = .ok (.iload_n 3, 1) := by decide +kernel
theorem dX8_holds_17 : decode cX8_holds 17 = .ok (.invokevirtual 145, 3) := by decide +kernel
theorem dX8_holds_20 : decode cX8_holds 20 = .ok (.ifCond .ne 9, 3) := by decide +kernel
theorem dX8_holds_23 : decode cX8_holds 23 = .ok (.aload_n 0, 1) := by decide +kernel
theorem dX8_holds_24 : decode cX8_holds 24 = .ok (.iconst 1, 1) := by decide +kernel
theorem dX8_holds_25 : decode cX8_holds 25 = .ok (.invokevirtual 63, 3) := by decide +kernel
theorem dX8_holds_28 : decode cX8_holds 28 = .ok (.ireturn, 1) := by decide +kernel
theorem dX8_holds_29 : decode cX8_holds 29 = .ok (.iload 4, 2) := by decide +kernel
theorem dX8_holds_31 : decode cX8_holds 31 = .ok (.ifCond .lt 10, 3) := by decide +kernel
theorem dX8_holds_34 : decode cX8_holds 34 = .ok (.iload 4, 2) := by decide +kernel
theorem dX8_holds_36 : decode cX8_holds 36 = .ok (.bipush 30, 2) := by decide +kernel
theorem dX8_holds_38 : decode cX8_holds 38 = .ok (.if_icmp .le 9, 3) := by decide +kernel
theorem dX8_holds_41 : decode cX8_holds 41 = .ok (.aload_n 0, 1) := by decide +kernel
theorem dX8_holds_42 : decode cX8_holds 42 = .ok (.iconst 2, 1) := by decide +kernel
theorem dX8_holds_43 : decode cX8_holds 43 = .ok (.invokevirtual 63, 3) := by decide +kernel
theorem dX8_holds_46 : decode cX8_holds 46 = .ok (.ireturn, 1) := by decide +kernel
theorem dX8_holds_47 : decode cX8_holds 47 = .ok (.aload_n 0, 1) := by decide +kernel
theorem dX8_holds_48 : decode cX8_holds 48 = .ok (.getfield 19, 3) := by decide +kernel
theorem dX8_holds_51 : decode cX8_holds 51 = .ok (.iload_n 1, 1) := by decide +kernel
theorem dX8_holds_52 : decode cX8_holds 52 = .ok (.invokevirtual 130, 3) := by decide +kernel
theorem dX8_holds_55 : decode cX8_holds 55 = .ok (.invokestatic 133, 3) := by decide +kernel
theorem dX8_holds_58 : decode cX8_holds 58 = .ok (.iload_n 2, 1) := by decide +kernel
theorem dX8_holds_59 : decode cX8_holds 59 = .ok (.if_icmp .eq 10, 3) := by decide +kernel
theorem dX8_holds_62 : decode cX8_holds 62 = .ok (.aload_n 0, 1) := by decide +kernel
theorem dX8_holds_63 : decode cX8_holds 63 = .ok (.bipush (-2), 2) := by decide +kernel
theorem dX8_holds_65 : decode cX8_holds 65 = .ok (.invokevirtual 97, 3) := by decide +kernel
theorem dX8_holds_68 : decode cX8_holds 68 = .ok (.ireturn, 1) := by decide +kernel
theorem dX8_holds_69 : decode cX8_holds 69 = .ok (.aload_n 0, 1) := by decide +kernel
theorem dX8_holds_70 : decode cX8_holds 70 = .ok (.aload_n 0, 1) := by decide +kernel
theorem dX8_holds_71 : decode cX8_holds 71 = .ok (.getfield 33, 3) := by decide +kernel
theorem dX8_holds_74 : decode cX8_holds 74 = .ok (.aload_n 0, 1) := by decide +kernel
theorem dX8_holds_75 : decode cX8_holds 75 = .ok (.getfield 47, 3) := by decide +kernel
theorem dX8_holds_78 : decode cX8_holds 78 = .ok (.aload_n 0, 1) := by decide +kernel
theorem dX8_holds_79 : decode cX8_holds 79 = .ok (.getfield 19, 3) := by decide +kernel
theorem dX8_holds_82 : decode cX8_holds 82 = .ok (.iload_n 1, 1) := by decide +kernel
theorem dX8_holds_83 : decode cX8_holds 83 = .ok (.iload_n 2, 1) := by decide +kernel
theorem dX8_holds_84 : decode cX8_holds 84 = .ok (.iload_n 3, 1) := by decide +kernel
theorem dX8_holds_85 : decode cX8_holds 85 = .ok (.invokestatic 149, 3) := by decide +kernel
theorem dX8_holds_88 : decode cX8_holds 88 = .ok (.iload 4, 2) := by decide +kernel
theorem dX8_holds_90 : decode cX8_holds 90 = .ok (.invokevirtual 207, 3) := by decide +kernel
theorem dX8_holds_93 : decode cX8_holds 93 = .ok (.invokevirtual 97, 3) := by decide +kernel
theorem dX8_holds_96 : decode cX8_holds 96 = .ok (.ireturn, 1) := by decide +kernel
theorem dX8_putFor_0 : decode cX8_putFor 0 = .ok (.aload_n 0, 1) := by decide +kernel
theorem dX8_putFor_1 : decode cX8_putFor 1 = .ok (.getfield 47, 3) := by decide +kernel
theorem dX8_putFor_4 : decode cX8_putFor 4 = .ok (.iload_n 1, 1) := by decide +kernel
theorem dX8_putFor_5 : decode cX8_putFor 5 = .ok (.invokevirtual 124, 3) := by decide +kernel
theorem dX8_putFor_8 : decode cX8_putFor 8 = .ok (.ifCond .ne 9, 3) := by decide +kernel
theorem dX8_putFor_11 : decode cX8_putFor 11 = .ok (.aload_n 0, 1) := by decide +kernel
theorem dX8_putFor_12 : decode cX8_putFor 12 = .ok (.iconst 1, 1) := by decide +kernel
theorem dX8_putFor_13 : decode cX8_putFor 13 = .ok (.invokevirtual 63, 3) := by decide +kernel
theorem dX8_putFor_16 : decode cX8_putFor 16 = .ok (.ireturn, 1) := by decide +kernel
theorem dX8_putFor_17 : decode cX8_putFor 17 = .ok (.aload_n 0, 1) := by decide +kernel
theorem dX8_putFor_18 : decode cX8_putFor 18 = .ok (.getfield 19, 3) := by decide +kernel
theorem dX8_putFor_21 : decode cX8_putFor 21 = .ok (.iload_n 1, 1) := by decide +kernel
theorem dX8_putFor_22 : decode cX8_putFor 22 = .ok (.invokevirtual 130, 3) := by decide +kernel
theorem dX8_putFor_25 : decode cX8_putFor 25 = .ok (.invokestatic 133, 3) := by decide +kernel
theorem dX8_putFor_28 : decode cX8_putFor 28 = .ok (.istore 4, 2) := by decide +kernel
theorem dX8_putFor_30 : decode cX8_putFor 30 = .ok (.aload_n 0, 1) := by decide +kernel
theorem dX8_putFor_31 : decode cX8_putFor 31 = .ok (.getfield 47, 3) := by decide +kernel
theorem dX8_putFor_34 : decode cX8_putFor 34 = .ok (.iload 4, 2) := by decide +kernel
theorem dX8_putFor_36 : decode cX8_putFor 36 = .ok (.iload_n 2, 1) := by decide +kernel
theorem dX8_putFor_37 : decode cX8_putFor 37 = .ok (.invokevirtual 145, 3) := by decide +kernel
theorem dX8_putFor_40 : decode cX8_putFor 40 = .ok (.ifCond .ne 9, 3) := by decide +kernel
theorem dX8_putFor_43 : decode cX8_putFor 43 = .ok (.aload_n 0, 1) := by decide +kernel
theorem dX8_putFor_44 : decode cX8_putFor 44 = .ok (.iconst 1, 1) := by decide +kernel
theorem dX8_putFor_45 : decode cX8_putFor 45 = .ok (.invokevirtual 63, 3) := by decide +kernel
theorem dX8_putFor_48 : decode cX8_putFor 48 = .ok (.ireturn, 1) := by decide +kernel
theorem dX8_putFor_49 : decode cX8_putFor 49 = .ok (.iload_n 3, 1) := by decide +kernel
theorem dX8_putFor_50 : decode cX8_putFor 50 = .ok (.ifCond .lt 9, 3) := by decide +kernel
theorem dX8_putFor_53 : decode cX8_putFor 53 = .ok (.iload_n 3, 1) := by decide +kernel
theorem dX8_putFor_54 : decode cX8_putFor 54 = .ok (.bipush 60, 2) := by decide +kernel
theorem dX8_putFor_56 : decode cX8_putFor 56 = .ok (.if_icmp .le 9, 3) := by decide +kernel
theorem dX8_putFor_59 : decode cX8_putFor 59 = .ok (.aload_n 0, 1) := by decide +kernel
theorem dX8_putFor_60 : decode cX8_putFor 60 = .ok (.iconst 2, 1) := by decide +kernel
theorem dX8_putFor_61 : decode cX8_putFor 61 = .ok (.invokevirtual 63, 3) := by decide +kernel
theorem dX8_putFor_64 : decode cX8_putFor 64 = .ok (.ireturn, 1) := by decide +kernel
theorem dX8_putFor_65 : decode cX8_putFor 65 = .ok (.iconst 0, 1) := by decide +kernel
theorem dX8_putFor_66 : decode cX8_putFor 66 = .ok (.istore 5, 2) := by decide +kernel
theorem dX8_putFor_68 : decode cX8_putFor 68 = .ok (.iload 5, 2) := by decide +kernel
theorem dX8_putFor_70 : decode cX8_putFor 70 = .ok (.aload_n 0, 1) := by decide +kernel
theorem dX8_putFor_71 : decode cX8_putFor 71 = .ok (.getfield 47, 3) := by decide +kernel
theorem dX8_putFor_74 : decode cX8_putFor 74 = .ok (.iload 4, 2) := by decide +kernel
theorem dX8_putFor_76 : decode cX8_putFor 76 = .ok (.invokevirtual 116, 3) := by decide +kernel
theorem dX8_putFor_79 : decode cX8_putFor 79 = .ok (.if_icmp .ge 106, 3) := by decide +kernel
theorem dX8_putFor_82 : decode cX8_putFor 82 = .ok (.iload 4, 2) := by decide +kernel
theorem dX8_putFor_84 : decode cX8_putFor 84 = .ok (.iload 5, 2) := by decide +kernel
theorem dX8_putFor_86 : decode cX8_putFor 86 = .ok (.invokestatic 149, 3) := by decide +kernel
theorem dX8_putFor_89 : decode cX8_putFor 89 = .ok (.istore 6, 2) := by decide +kernel
theorem dX8_putFor_91 : decode cX8_putFor 91 = .ok (.aload_n 0, 1) := by decide +kernel
theorem dX8_putFor_92 : decode cX8_putFor 92 = .ok (.getfield 19, 3) := by decide +kernel
theorem dX8_putFor_95 : decode cX8_putFor 95 = .ok (.iload 6, 2) := by decide +kernel
theorem dX8_putFor_97 : decode cX8_putFor 97 = .ok (.aload_n 0, 1) := by decide +kernel
theorem dX8_putFor_98 : decode cX8_putFor 98 = .ok (.getfield 47, 3) := by decide +kernel
theorem dX8_putFor_101 : decode cX8_putFor 101 = .ok (.getfield 106, 3) := by decide +kernel
theorem dX8_putFor_104 : decode cX8_putFor 104 = .ok (.invokevirtual 152, 3) := by decide +kernel
theorem dX8_putFor_107 : decode cX8_putFor 107 = .ok (.istore 7, 2) := by decide +kernel
theorem dX8_putFor_109 : decode cX8_putFor 109 = .ok (.iload 7, 2) := by decide +kernel
theorem dX8_putFor_111 : decode cX8_putFor 111 = .ok (.ifCond .lt 9, 3) := by decide +kernel
theorem dX8_putFor_114 : decode cX8_putFor 114 = .ok (.iload 7, 2) := by decide +kernel
theorem dX8_putFor_116 : decode cX8_putFor 116 = .ok (.iload_n 1, 1) := by decide +kernel
theorem dX8_putFor_117 : decode cX8_putFor 117 = .ok (.if_icmp .ne 62, 3) := by decide +kernel
theorem dX8_putFor_120 : decode cX8_putFor 120 = .ok (.aload_n 0, 1) := by decide +kernel
theorem dX8_putFor_121 : decode cX8_putFor 121 = .ok (.getfield 26, 3) := by decide +kernel
theorem dX8_putFor_124 : decode cX8_putFor 124 = .ok (.aload_n 0, 1) := by decide +kernel
theorem dX8_putFor_125 : decode cX8_putFor 125 = .ok (.getfield 47, 3) := by decide +kernel
theorem dX8_putFor_128 : decode cX8_putFor 128 = .ok (.aload_n 0, 1) := by decide +kernel
theorem dX8_putFor_129 : decode cX8_putFor 129 = .ok (.getfield 19, 3) := by decide +kernel
theorem dX8_putFor_132 : decode cX8_putFor 132 = .ok (.iconst 0, 1) := by decide +kernel
theorem dX8_putFor_133 : decode cX8_putFor 133 = .ok (.invokevirtual 165, 3) := by decide +kernel
theorem dX8_putFor_136 : decode cX8_putFor 136 = .ok (.aload_n 0, 1) := by decide +kernel
theorem dX8_putFor_137 : decode cX8_putFor 137 = .ok (.getfield 26, 3) := by decide +kernel
theorem dX8_putFor_140 : decode cX8_putFor 140 = .ok (.iload_n 1, 1) := by decide +kernel
theorem dX8_putFor_141 : decode cX8_putFor 141 = .ok (.iload 6, 2) := by decide +kernel
theorem dX8_putFor_143 : decode cX8_putFor 143 = .ok (.invokevirtual 211, 3) := by decide +kernel
theorem dX8_putFor_146 : decode cX8_putFor 146 = .ok (.aload_n 0, 1) := by decide +kernel
theorem dX8_putFor_147 : decode cX8_putFor 147 = .ok (.getfield 26, 3) := by decide +kernel
theorem dX8_putFor_150 : decode cX8_putFor 150 = .ok (.iload_n 3, 1) := by decide +kernel
theorem dX8_putFor_151 : decode cX8_putFor 151 = .ok (.invokevirtual 181, 3) := by decide +kernel
theorem dX8_putFor_154 : decode cX8_putFor 154 = .ok (.pop, 1) := by decide +kernel
theorem dX8_putFor_155 : decode cX8_putFor 155 = .ok (.aload_n 0, 1) := by decide +kernel
theorem dX8_putFor_156 : decode cX8_putFor 156 = .ok (.getfield 26, 3) := by decide +kernel
theorem dX8_putFor_159 : decode cX8_putFor 159 = .ok (.iload_n 1, 1) := by decide +kernel
theorem dX8_putFor_160 : decode cX8_putFor 160 = .ok (.invokevirtual 184, 3) := by decide +kernel
theorem dX8_putFor_163 : decode cX8_putFor 163 = .ok (.iload 4, 2) := by decide +kernel
theorem dX8_putFor_165 : decode cX8_putFor 165 = .ok (.iload_n 2, 1) := by decide +kernel
theorem dX8_putFor_166 : decode cX8_putFor 166 = .ok (.invokestatic 149, 3) := by decide +kernel
theorem dX8_putFor_169 : decode cX8_putFor 169 = .ok (.if_icmp .ne 10, 3) := by decide +kernel
theorem dX8_putFor_172 : decode cX8_putFor 172 = .ok (.aload_n 0, 1) := by decide +kernel
theorem dX8_putFor_173 : decode cX8_putFor 173 = .ok (.iload 5, 2) := by decide +kernel
theorem dX8_putFor_175 : decode cX8_putFor 175 = .ok (.invokevirtual 97, 3) := by decide +kernel
theorem dX8_putFor_178 : decode cX8_putFor 178 = .ok (.ireturn, 1) := by decide +kernel
theorem dX8_putFor_179 : decode cX8_putFor 179 = .ok (.iinc 5 1, 3) := by decide +kernel
theorem dX8_putFor_182 : decode cX8_putFor 182 = .ok (.goto (-114), 3) := by decide +kernel
theorem dX8_putFor_185 : decode cX8_putFor 185 = .ok (.aload_n 0, 1) := by decide +kernel
theorem dX8_putFor_186 : decode cX8_putFor 186 = .ok (.bipush (-2), 2) := by decide +kernel
theorem dX8_putFor_188 : decode cX8_putFor 188 = .ok (.invokevirtual 97, 3) := by decide +kernel
theorem dX8_putFor_191 : decode cX8_putFor 191 = .ok (.ireturn, 1) := by decide +kernel
theorem dX8_holdsToMeet_0 : decode cX8_holdsToMeet 0 = .ok (.aload_n 0, 1) := by decide +kernel
theorem dX8_holdsToMeet_1 : decode cX8_holdsToMeet 1 = .ok (.iload_n 1, 1) := by decide +kernel
theorem dX8_holdsToMeet_2 : decode cX8_holdsToMeet 2 = .ok (.iload_n 2, 1) := by decide +kernel
theorem dX8_holdsToMeet_3 : decode cX8_holdsToMeet 3 = .ok (.invokevirtual 191, 3) := by decide +kernel
theorem dX8_holdsToMeet_6 : decode cX8_holdsToMeet 6 = .ok (.ifCond .ne 9, 3) := by decide +kernel
theorem dX8_holdsToMeet_9 : decode cX8_holdsToMeet 9 = .ok (.aload_n 0, 1) := by decide +kernel
theorem dX8_holdsToMeet_10 : decode cX8_holdsToMeet 10 = .ok (.iconst 1, 1) := by decide +kernel
theorem dX8_holdsToMeet_11 : decode cX8_holdsToMeet 11 = .ok (.invokevirtual 63, 3) := by decide +kernel
theorem dX8_holdsToMeet_14 : decode cX8_holdsToMeet 14 = .ok (.ireturn, 1) := by decide +kernel
theorem dX8_holdsToMeet_15 : decode cX8_holdsToMeet 15 = .ok (.iload_n 3, 1) := by decide +kernel
theorem dX8_holdsToMeet_16 : decode cX8_holdsToMeet 16 = .ok (.ifCond .lt 9, 3) := by decide +kernel
theorem dX8_holdsToMeet_19 : decode cX8_holdsToMeet 19 = .ok (.iload_n 3, 1) := by decide +kernel
theorem dX8_holdsToMeet_20 : decode cX8_holdsToMeet 20 = .ok (.bipush 30, 2) := by decide +kernel
theorem dX8_holdsToMeet_22 : decode cX8_holdsToMeet 22 = .ok (.if_icmp .le 9, 3) := by decide +kernel
theorem dX8_holdsToMeet_25 : decode cX8_holdsToMeet 25 = .ok (.aload_n 0, 1) := by decide +kernel
theorem dX8_holdsToMeet_26 : decode cX8_holdsToMeet 26 = .ok (.iconst 2, 1) := by decide +kernel
theorem dX8_holdsToMeet_27 : decode cX8_holdsToMeet 27 = .ok (.invokevirtual 63, 3) := by decide +kernel
theorem dX8_holdsToMeet_30 : decode cX8_holdsToMeet 30 = .ok (.ireturn, 1) := by decide +kernel
theorem dX8_holdsToMeet_31 : decode cX8_holdsToMeet 31 = .ok (.aload_n 0, 1) := by decide +kernel
theorem dX8_holdsToMeet_32 : decode cX8_holdsToMeet 32 = .ok (.aload_n 0, 1) := by decide +kernel
theorem dX8_holdsToMeet_33 : decode cX8_holdsToMeet 33 = .ok (.getfield 33, 3) := by decide +kernel
theorem dX8_holdsToMeet_36 : decode cX8_holdsToMeet 36 = .ok (.aload_n 0, 1) := by decide +kernel
theorem dX8_holdsToMeet_37 : decode cX8_holdsToMeet 37 = .ok (.getfield 47, 3) := by decide +kernel
theorem dX8_holdsToMeet_40 : decode cX8_holdsToMeet 40 = .ok (.aload_n 0, 1) := by decide +kernel
theorem dX8_holdsToMeet_41 : decode cX8_holdsToMeet 41 = .ok (.getfield 19, 3) := by decide +kernel
theorem dX8_holdsToMeet_44 : decode cX8_holdsToMeet 44 = .ok (.iload_n 1, 1) := by decide +kernel
theorem dX8_holdsToMeet_45 : decode cX8_holdsToMeet 45 = .ok (.iload_n 2, 1) := by decide +kernel
theorem dX8_holdsToMeet_46 : decode cX8_holdsToMeet 46 = .ok (.iload_n 3, 1) := by decide +kernel
theorem dX8_holdsToMeet_47 : decode cX8_holdsToMeet 47 = .ok (.invokevirtual 215, 3) := by decide +kernel
theorem dX8_holdsToMeet_50 : decode cX8_holdsToMeet 50 = .ok (.invokevirtual 97, 3) := by decide +kernel
theorem dX8_holdsToMeet_53 : decode cX8_holdsToMeet 53 = .ok (.ireturn, 1) := by decide +kernel
theorem dX8_pays_0 : decode cX8_pays 0 = .ok (.aload_n 0, 1) := by decide +kernel
theorem dX8_pays_1 : decode cX8_pays 1 = .ok (.iload_n 1, 1) := by decide +kernel
theorem dX8_pays_2 : decode cX8_pays 2 = .ok (.invokevirtual 218, 3) := by decide +kernel
theorem dX8_pays_5 : decode cX8_pays 5 = .ok (.istore_n 2, 1) := by decide +kernel
theorem dX8_pays_6 : decode cX8_pays 6 = .ok (.iload_n 2, 1) := by decide +kernel
theorem dX8_pays_7 : decode cX8_pays 7 = .ok (.ifCond .eq 9, 3) := by decide +kernel
theorem dX8_pays_10 : decode cX8_pays 10 = .ok (.aload_n 0, 1) := by decide +kernel
theorem dX8_pays_11 : decode cX8_pays 11 = .ok (.iload_n 2, 1) := by decide +kernel
theorem dX8_pays_12 : decode cX8_pays 12 = .ok (.invokevirtual 63, 3) := by decide +kernel
theorem dX8_pays_15 : decode cX8_pays 15 = .ok (.ireturn, 1) := by decide +kernel
theorem dX8_pays_16 : decode cX8_pays 16 = .ok (.aload_n 0, 1) := by decide +kernel
theorem dX8_pays_17 : decode cX8_pays 17 = .ok (.aload_n 0, 1) := by decide +kernel
theorem dX8_pays_18 : decode cX8_pays 18 = .ok (.getfield 47, 3) := by decide +kernel
theorem dX8_pays_21 : decode cX8_pays 21 = .ok (.getfield 221, 3) := by decide +kernel
theorem dX8_pays_24 : decode cX8_pays 24 = .ok (.aload_n 0, 1) := by decide +kernel
theorem dX8_pays_25 : decode cX8_pays 25 = .ok (.getfield 33, 3) := by decide +kernel
theorem dX8_pays_28 : decode cX8_pays 28 = .ok (.aload_n 0, 1) := by decide +kernel
theorem dX8_pays_29 : decode cX8_pays 29 = .ok (.getfield 47, 3) := by decide +kernel
theorem dX8_pays_32 : decode cX8_pays 32 = .ok (.aload_n 0, 1) := by decide +kernel
theorem dX8_pays_33 : decode cX8_pays 33 = .ok (.getfield 19, 3) := by decide +kernel
theorem dX8_pays_36 : decode cX8_pays 36 = .ok (.iconst 0, 1) := by decide +kernel
theorem dX8_pays_37 : decode cX8_pays 37 = .ok (.iload_n 1, 1) := by decide +kernel
theorem dX8_pays_38 : decode cX8_pays 38 = .ok (.invokevirtual 225, 3) := by decide +kernel
theorem dX8_pays_41 : decode cX8_pays 41 = .ok (.invokevirtual 229, 3) := by decide +kernel
theorem dX8_pays_44 : decode cX8_pays 44 = .ok (.invokevirtual 97, 3) := by decide +kernel
theorem dX8_pays_47 : decode cX8_pays 47 = .ok (.ireturn, 1) := by decide +kernel
theorem dX8_best_0 : decode cX8_best 0 = .ok (.aload_n 0, 1) := by decide +kernel
theorem dX8_best_1 : decode cX8_best 1 = .ok (.iload_n 1, 1) := by decide +kernel
theorem dX8_best_2 : decode cX8_best 2 = .ok (.invokevirtual 218, 3) := by decide +kernel
theorem dX8_best_5 : decode cX8_best 5 = .ok (.istore_n 2, 1) := by decide +kernel
theorem dX8_best_6 : decode cX8_best 6 = .ok (.iload_n 2, 1) := by decide +kernel
theorem dX8_best_7 : decode cX8_best 7 = .ok (.ifCond .eq 9, 3) := by decide +kernel
theorem dX8_best_10 : decode cX8_best 10 = .ok (.aload_n 0, 1) := by decide +kernel
theorem dX8_best_11 : decode cX8_best 11 = .ok (.iload_n 2, 1) := by decide +kernel
theorem dX8_best_12 : decode cX8_best 12 = .ok (.invokevirtual 63, 3) := by decide +kernel
theorem dX8_best_15 : decode cX8_best 15 = .ok (.ireturn, 1) := by decide +kernel
theorem dX8_best_16 : decode cX8_best 16 = .ok (.aload_n 0, 1) := by decide +kernel
theorem dX8_best_17 : decode cX8_best 17 = .ok (.aload_n 0, 1) := by decide +kernel
theorem dX8_best_18 : decode cX8_best 18 = .ok (.getfield 33, 3) := by decide +kernel
theorem dX8_best_21 : decode cX8_best 21 = .ok (.aload_n 0, 1) := by decide +kernel
theorem dX8_best_22 : decode cX8_best 22 = .ok (.getfield 47, 3) := by decide +kernel
theorem dX8_best_25 : decode cX8_best 25 = .ok (.aload_n 0, 1) := by decide +kernel
theorem dX8_best_26 : decode cX8_best 26 = .ok (.getfield 19, 3) := by decide +kernel
theorem dX8_best_29 : decode cX8_best 29 = .ok (.iload_n 1, 1) := by decide +kernel
theorem dX8_best_30 : decode cX8_best 30 = .ok (.invokevirtual 234, 3) := by decide +kernel
theorem dX8_best_33 : decode cX8_best 33 = .ok (.invokevirtual 97, 3) := by decide +kernel
theorem dX8_best_36 : decode cX8_best 36 = .ok (.ireturn, 1) := by decide +kernel
theorem dX8_bestPays_0 : decode cX8_bestPays 0 = .ok (.aload_n 0, 1) := by decide +kernel
theorem dX8_bestPays_1 : decode cX8_bestPays 1 = .ok (.iload_n 1, 1) := by decide +kernel
theorem dX8_bestPays_2 : decode cX8_bestPays 2 = .ok (.invokevirtual 218, 3) := by decide +kernel
theorem dX8_bestPays_5 : decode cX8_bestPays 5 = .ok (.istore_n 2, 1) := by decide +kernel
theorem dX8_bestPays_6 : decode cX8_bestPays 6 = .ok (.iload_n 2, 1) := by decide +kernel
theorem dX8_bestPays_7 : decode cX8_bestPays 7 = .ok (.ifCond .eq 9, 3) := by decide +kernel
theorem dX8_bestPays_10 : decode cX8_bestPays 10 = .ok (.aload_n 0, 1) := by decide +kernel
theorem dX8_bestPays_11 : decode cX8_bestPays 11 = .ok (.iload_n 2, 1) := by decide +kernel
theorem dX8_bestPays_12 : decode cX8_bestPays 12 = .ok (.invokevirtual 63, 3) := by decide +kernel
theorem dX8_bestPays_15 : decode cX8_bestPays 15 = .ok (.ireturn, 1) := by decide +kernel
theorem dX8_bestPays_16 : decode cX8_bestPays 16 = .ok (.aload_n 0, 1) := by decide +kernel
theorem dX8_bestPays_17 : decode cX8_bestPays 17 = .ok (.getfield 33, 3) := by decide +kernel
theorem dX8_bestPays_20 : decode cX8_bestPays 20 = .ok (.aload_n 0, 1) := by decide +kernel
theorem dX8_bestPays_21 : decode cX8_bestPays 21 = .ok (.getfield 47, 3) := by decide +kernel
theorem dX8_bestPays_24 : decode cX8_bestPays 24 = .ok (.aload_n 0, 1) := by decide +kernel
theorem dX8_bestPays_25 : decode cX8_bestPays 25 = .ok (.getfield 19, 3) := by decide +kernel
theorem dX8_bestPays_28 : decode cX8_bestPays 28 = .ok (.iload_n 1, 1) := by decide +kernel
theorem dX8_bestPays_29 : decode cX8_bestPays 29 = .ok (.invokevirtual 234, 3) := by decide +kernel
theorem dX8_bestPays_32 : decode cX8_bestPays 32 = .ok (.istore_n 3, 1) := by decide +kernel
theorem dX8_bestPays_33 : decode cX8_bestPays 33 = .ok (.aload_n 0, 1) := by decide +kernel
theorem dX8_bestPays_34 : decode cX8_bestPays 34 = .ok (.aload_n 0, 1) := by decide +kernel
theorem dX8_bestPays_35 : decode cX8_bestPays 35 = .ok (.getfield 47, 3) := by decide +kernel
theorem dX8_bestPays_38 : decode cX8_bestPays 38 = .ok (.getfield 221, 3) := by decide +kernel
theorem dX8_bestPays_41 : decode cX8_bestPays 41 = .ok (.aload_n 0, 1) := by decide +kernel
theorem dX8_bestPays_42 : decode cX8_bestPays 42 = .ok (.getfield 33, 3) := by decide +kernel
theorem dX8_bestPays_45 : decode cX8_bestPays 45 = .ok (.aload_n 0, 1) := by decide +kernel
theorem dX8_bestPays_46 : decode cX8_bestPays 46 = .ok (.getfield 47, 3) := by decide +kernel
theorem dX8_bestPays_49 : decode cX8_bestPays 49 = .ok (.aload_n 0, 1) := by decide +kernel
theorem dX8_bestPays_50 : decode cX8_bestPays 50 = .ok (.getfield 19, 3) := by decide +kernel
theorem dX8_bestPays_53 : decode cX8_bestPays 53 = .ok (.iload_n 3, 1) := by decide +kernel
theorem dX8_bestPays_54 : decode cX8_bestPays 54 = .ok (.iload_n 1, 1) := by decide +kernel
theorem dX8_bestPays_55 : decode cX8_bestPays 55 = .ok (.invokevirtual 225, 3) := by decide +kernel
theorem dX8_bestPays_58 : decode cX8_bestPays 58 = .ok (.invokevirtual 229, 3) := by decide +kernel
theorem dX8_bestPays_61 : decode cX8_bestPays 61 = .ok (.invokevirtual 97, 3) := by decide +kernel
theorem dX8_bestPays_64 : decode cX8_bestPays 64 = .ok (.ireturn, 1) := by decide +kernel
theorem dX8_kept_0 : decode cX8_kept 0 = .ok (.aload_n 0, 1) := by decide +kernel
theorem dX8_kept_1 : decode cX8_kept 1 = .ok (.getfield 47, 3) := by decide +kernel
theorem dX8_kept_4 : decode cX8_kept 4 = .ok (.invokevirtual 161, 3) := by decide +kernel
theorem dX8_kept_7 : decode cX8_kept 7 = .ok (.ifCond .ne 9, 3) := by decide +kernel
theorem dX8_kept_10 : decode cX8_kept 10 = .ok (.aload_n 0, 1) := by decide +kernel
theorem dX8_kept_11 : decode cX8_kept 11 = .ok (.iconst 1, 1) := by decide +kernel
theorem dX8_kept_12 : decode cX8_kept 12 = .ok (.invokevirtual 63, 3) := by decide +kernel
theorem dX8_kept_15 : decode cX8_kept 15 = .ok (.ireturn, 1) := by decide +kernel
theorem dX8_kept_16 : decode cX8_kept 16 = .ok (.aload_n 0, 1) := by decide +kernel
theorem dX8_kept_17 : decode cX8_kept 17 = .ok (.aload_n 0, 1) := by decide +kernel
theorem dX8_kept_18 : decode cX8_kept 18 = .ok (.getfield 33, 3) := by decide +kernel
theorem dX8_kept_21 : decode cX8_kept 21 = .ok (.aload_n 0, 1) := by decide +kernel
theorem dX8_kept_22 : decode cX8_kept 22 = .ok (.getfield 47, 3) := by decide +kernel
theorem dX8_kept_25 : decode cX8_kept 25 = .ok (.aload_n 0, 1) := by decide +kernel
theorem dX8_kept_26 : decode cX8_kept 26 = .ok (.getfield 19, 3) := by decide +kernel
theorem dX8_kept_29 : decode cX8_kept 29 = .ok (.iconst 0, 1) := by decide +kernel
theorem dX8_kept_30 : decode cX8_kept 30 = .ok (.bipush 60, 2) := by decide +kernel
theorem dX8_kept_32 : decode cX8_kept 32 = .ok (.invokevirtual 225, 3) := by decide +kernel
theorem dX8_kept_35 : decode cX8_kept 35 = .ok (.invokevirtual 97, 3) := by decide +kernel
theorem dX8_kept_38 : decode cX8_kept 38 = .ok (.ireturn, 1) := by decide +kernel
theorem dX8_rules_0 : decode cX8_rules 0 = .ok (.aload_n 0, 1) := by decide +kernel
theorem dX8_rules_1 : decode cX8_rules 1 = .ok (.getfield 47, 3) := by decide +kernel
theorem dX8_rules_4 : decode cX8_rules 4 = .ok (.invokevirtual 161, 3) := by decide +kernel
theorem dX8_rules_7 : decode cX8_rules 7 = .ok (.ifCond .ne 9, 3) := by decide +kernel
theorem dX8_rules_10 : decode cX8_rules 10 = .ok (.aload_n 0, 1) := by decide +kernel
theorem dX8_rules_11 : decode cX8_rules 11 = .ok (.iconst 1, 1) := by decide +kernel
theorem dX8_rules_12 : decode cX8_rules 12 = .ok (.invokevirtual 63, 3) := by decide +kernel
theorem dX8_rules_15 : decode cX8_rules 15 = .ok (.ireturn, 1) := by decide +kernel
theorem dX8_rules_16 : decode cX8_rules 16 = .ok (.aload_n 0, 1) := by decide +kernel
theorem dX8_rules_17 : decode cX8_rules 17 = .ok (.aload_n 0, 1) := by decide +kernel
theorem dX8_rules_18 : decode cX8_rules 18 = .ok (.getfield 40, 3) := by decide +kernel
theorem dX8_rules_21 : decode cX8_rules 21 = .ok (.invokevirtual 238, 3) := by decide +kernel
theorem dX8_rules_24 : decode cX8_rules 24 = .ok (.invokevirtual 97, 3) := by decide +kernel
theorem dX8_rules_27 : decode cX8_rules 27 = .ok (.ireturn, 1) := by decide +kernel
theorem dX8_ruleAt_0 : decode cX8_ruleAt 0 = .ok (.aload_n 0, 1) := by decide +kernel
theorem dX8_ruleAt_1 : decode cX8_ruleAt 1 = .ok (.getfield 47, 3) := by decide +kernel
theorem dX8_ruleAt_4 : decode cX8_ruleAt 4 = .ok (.invokevirtual 161, 3) := by decide +kernel
theorem dX8_ruleAt_7 : decode cX8_ruleAt 7 = .ok (.ifCond .eq 18, 3) := by decide +kernel
theorem dX8_ruleAt_10 : decode cX8_ruleAt 10 = .ok (.iload_n 1, 1) := by decide +kernel
theorem dX8_ruleAt_11 : decode cX8_ruleAt 11 = .ok (.ifCond .lt 14, 3) := by decide +kernel
theorem dX8_ruleAt_14 : decode cX8_ruleAt 14 = .ok (.iload_n 1, 1) := by decide +kernel
theorem dX8_ruleAt_15 : decode cX8_ruleAt 15 = .ok (.aload_n 0, 1) := by decide +kernel
theorem dX8_ruleAt_16 : decode cX8_ruleAt 16 = .ok (.getfield 40, 3) := by decide +kernel
theorem dX8_ruleAt_19 : decode cX8_ruleAt 19 = .ok (.invokevirtual 238, 3) := by decide +kernel
theorem dX8_ruleAt_22 : decode cX8_ruleAt 22 = .ok (.if_icmp .lt 9, 3) := by decide +kernel
theorem dX8_ruleAt_25 : decode cX8_ruleAt 25 = .ok (.aload_n 0, 1) := by decide +kernel
theorem dX8_ruleAt_26 : decode cX8_ruleAt 26 = .ok (.iconst 1, 1) := by decide +kernel
theorem dX8_ruleAt_27 : decode cX8_ruleAt 27 = .ok (.invokevirtual 63, 3) := by decide +kernel
theorem dX8_ruleAt_30 : decode cX8_ruleAt 30 = .ok (.ireturn, 1) := by decide +kernel
theorem dX8_ruleAt_31 : decode cX8_ruleAt 31 = .ok (.aload_n 0, 1) := by decide +kernel
theorem dX8_ruleAt_32 : decode cX8_ruleAt 32 = .ok (.aload_n 0, 1) := by decide +kernel
theorem dX8_ruleAt_33 : decode cX8_ruleAt 33 = .ok (.getfield 40, 3) := by decide +kernel
theorem dX8_ruleAt_36 : decode cX8_ruleAt 36 = .ok (.iload_n 1, 1) := by decide +kernel
theorem dX8_ruleAt_37 : decode cX8_ruleAt 37 = .ok (.invokevirtual 239, 3) := by decide +kernel
theorem dX8_ruleAt_40 : decode cX8_ruleAt 40 = .ok (.invokevirtual 97, 3) := by decide +kernel
theorem dX8_ruleAt_43 : decode cX8_ruleAt 43 = .ok (.ireturn, 1) := by decide +kernel
theorem dX8_there_0 : decode cX8_there 0 = .ok (.aload_n 0, 1) := by decide +kernel
theorem dX8_there_1 : decode cX8_there 1 = .ok (.getfield 47, 3) := by decide +kernel
theorem dX8_there_4 : decode cX8_there 4 = .ok (.invokevirtual 161, 3) := by decide +kernel
theorem dX8_there_7 : decode cX8_there 7 = .ok (.ifCond .ne 9, 3) := by decide +kernel
theorem dX8_there_10 : decode cX8_there 10 = .ok (.aload_n 0, 1) := by decide +kernel
theorem dX8_there_11 : decode cX8_there 11 = .ok (.iconst 1, 1) := by decide +kernel
theorem dX8_there_12 : decode cX8_there 12 = .ok (.invokevirtual 63, 3) := by decide +kernel
theorem dX8_there_15 : decode cX8_there 15 = .ok (.ireturn, 1) := by decide +kernel
theorem dX8_there_16 : decode cX8_there 16 = .ok (.iload_n 1, 1) := by decide +kernel
theorem dX8_there_17 : decode cX8_there 17 = .ok (.ifCond .lt 19, 3) := by decide +kernel
theorem dX8_there_20 : decode cX8_there 20 = .ok (.iload_n 1, 1) := by decide +kernel
theorem dX8_there_21 : decode cX8_there 21 = .ok (.bipush 100, 2) := by decide +kernel
theorem dX8_there_23 : decode cX8_there 23 = .ok (.if_icmp .ge 13, 3) := by decide +kernel
theorem dX8_there_26 : decode cX8_there 26 = .ok (.iload_n 2, 1) := by decide +kernel
theorem dX8_there_27 : decode cX8_there 27 = .ok (.ifCond .lt 9, 3) := by decide +kernel
theorem dX8_there_30 : decode cX8_there 30 = .ok (.iload_n 2, 1) := by decide +kernel
theorem dX8_there_31 : decode cX8_there 31 = .ok (.bipush 12, 2) := by decide +kernel
theorem dX8_there_33 : decode cX8_there 33 = .ok (.if_icmp .lt 9, 3) := by decide +kernel
theorem dX8_there_36 : decode cX8_there 36 = .ok (.aload_n 0, 1) := by decide +kernel
theorem dX8_there_37 : decode cX8_there 37 = .ok (.iconst 2, 1) := by decide +kernel
theorem dX8_there_38 : decode cX8_there 38 = .ok (.invokevirtual 63, 3) := by decide +kernel
theorem dX8_there_41 : decode cX8_there 41 = .ok (.ireturn, 1) := by decide +kernel
theorem dX8_there_42 : decode cX8_there 42 = .ok (.aload_n 0, 1) := by decide +kernel
theorem dX8_there_43 : decode cX8_there 43 = .ok (.aload_n 0, 1) := by decide +kernel
theorem dX8_there_44 : decode cX8_there 44 = .ok (.getfield 40, 3) := by decide +kernel
theorem dX8_there_47 : decode cX8_there 47 = .ok (.iload_n 1, 1) := by decide +kernel
theorem dX8_there_48 : decode cX8_there 48 = .ok (.iload_n 2, 1) := by decide +kernel
theorem dX8_there_49 : decode cX8_there 49 = .ok (.invokevirtual 242, 3) := by decide +kernel
theorem dX8_there_52 : decode cX8_there 52 = .ok (.invokevirtual 97, 3) := by decide +kernel
theorem dX8_there_55 : decode cX8_there 55 = .ok (.ireturn, 1) := by decide +kernel
theorem dX8_surely_0 : decode cX8_surely 0 = .ok (.aload_n 0, 1) := by decide +kernel
theorem dX8_surely_1 : decode cX8_surely 1 = .ok (.getfield 47, 3) := by decide +kernel
theorem dX8_surely_4 : decode cX8_surely 4 = .ok (.invokevirtual 161, 3) := by decide +kernel
theorem dX8_surely_7 : decode cX8_surely 7 = .ok (.ifCond .ne 9, 3) := by decide +kernel
theorem dX8_surely_10 : decode cX8_surely 10 = .ok (.aload_n 0, 1) := by decide +kernel
theorem dX8_surely_11 : decode cX8_surely 11 = .ok (.iconst 1, 1) := by decide +kernel
theorem dX8_surely_12 : decode cX8_surely 12 = .ok (.invokevirtual 63, 3) := by decide +kernel
theorem dX8_surely_15 : decode cX8_surely 15 = .ok (.ireturn, 1) := by decide +kernel
theorem dX8_surely_16 : decode cX8_surely 16 = .ok (.iload_n 1, 1) := by decide +kernel
theorem dX8_surely_17 : decode cX8_surely 17 = .ok (.ifCond .lt 9, 3) := by decide +kernel
theorem dX8_surely_20 : decode cX8_surely 20 = .ok (.iload_n 1, 1) := by decide +kernel
theorem dX8_surely_21 : decode cX8_surely 21 = .ok (.bipush 100, 2) := by decide +kernel
theorem dX8_surely_23 : decode cX8_surely 23 = .ok (.if_icmp .lt 9, 3) := by decide +kernel
theorem dX8_surely_26 : decode cX8_surely 26 = .ok (.aload_n 0, 1) := by decide +kernel
theorem dX8_surely_27 : decode cX8_surely 27 = .ok (.iconst 2, 1) := by decide +kernel
theorem dX8_surely_28 : decode cX8_surely 28 = .ok (.invokevirtual 63, 3) := by decide +kernel
theorem dX8_surely_31 : decode cX8_surely 31 = .ok (.ireturn, 1) := by decide +kernel
theorem dX8_surely_32 : decode cX8_surely 32 = .ok (.aload_n 0, 1) := by decide +kernel
theorem dX8_surely_33 : decode cX8_surely 33 = .ok (.aload_n 0, 1) := by decide +kernel
theorem dX8_surely_34 : decode cX8_surely 34 = .ok (.getfield 40, 3) := by decide +kernel
theorem dX8_surely_37 : decode cX8_surely 37 = .ok (.iload_n 1, 1) := by decide +kernel
theorem dX8_surely_38 : decode cX8_surely 38 = .ok (.invokevirtual 245, 3) := by decide +kernel
theorem dX8_surely_41 : decode cX8_surely 41 = .ok (.invokevirtual 97, 3) := by decide +kernel
theorem dX8_surely_44 : decode cX8_surely 44 = .ok (.ireturn, 1) := by decide +kernel
theorem dX8_look_0 : decode cX8_look 0 = .ok (.aload_n 0, 1) := by decide +kernel
theorem dX8_look_1 : decode cX8_look 1 = .ok (.getfield 47, 3) := by decide +kernel
theorem dX8_look_4 : decode cX8_look 4 = .ok (.invokevirtual 161, 3) := by decide +kernel
theorem dX8_look_7 : decode cX8_look 7 = .ok (.ifCond .ne 9, 3) := by decide +kernel
theorem dX8_look_10 : decode cX8_look 10 = .ok (.aload_n 0, 1) := by decide +kernel
theorem dX8_look_11 : decode cX8_look 11 = .ok (.iconst 1, 1) := by decide +kernel
theorem dX8_look_12 : decode cX8_look 12 = .ok (.invokevirtual 63, 3) := by decide +kernel
theorem dX8_look_15 : decode cX8_look 15 = .ok (.ireturn, 1) := by decide +kernel
theorem dX8_look_16 : decode cX8_look 16 = .ok (.aload_n 0, 1) := by decide +kernel
theorem dX8_look_17 : decode cX8_look 17 = .ok (.aload_n 0, 1) := by decide +kernel
theorem dX8_look_18 : decode cX8_look 18 = .ok (.getfield 40, 3) := by decide +kernel
theorem dX8_look_21 : decode cX8_look 21 = .ok (.invokevirtual 248, 3) := by decide +kernel
theorem dX8_look_24 : decode cX8_look 24 = .ok (.invokevirtual 97, 3) := by decide +kernel
theorem dX8_look_27 : decode cX8_look 27 = .ok (.ireturn, 1) := by decide +kernel
theorem dX8_lookLeaves_0 : decode cX8_lookLeaves 0 = .ok (.aload_n 0, 1) := by decide +kernel
theorem dX8_lookLeaves_1 : decode cX8_lookLeaves 1 = .ok (.getfield 47, 3) := by decide +kernel
theorem dX8_lookLeaves_4 : decode cX8_lookLeaves 4 = .ok (.invokevirtual 161, 3) := by decide +kernel
theorem dX8_lookLeaves_7 : decode cX8_lookLeaves 7 = .ok (.ifCond .ne 9, 3) := by decide +kernel
theorem dX8_lookLeaves_10 : decode cX8_lookLeaves 10 = .ok (.aload_n 0, 1) := by decide +kernel
theorem dX8_lookLeaves_11 : decode cX8_lookLeaves 11 = .ok (.iconst 1, 1) := by decide +kernel
theorem dX8_lookLeaves_12 : decode cX8_lookLeaves 12 = .ok (.invokevirtual 63, 3) := by decide +kernel
theorem dX8_lookLeaves_15 : decode cX8_lookLeaves 15 = .ok (.ireturn, 1) := by decide +kernel
theorem dX8_lookLeaves_16 : decode cX8_lookLeaves 16 = .ok (.aload_n 0, 1) := by decide +kernel
theorem dX8_lookLeaves_17 : decode cX8_lookLeaves 17 = .ok (.aload_n 0, 1) := by decide +kernel
theorem dX8_lookLeaves_18 : decode cX8_lookLeaves 18 = .ok (.getfield 40, 3) := by decide +kernel
theorem dX8_lookLeaves_21 : decode cX8_lookLeaves 21 = .ok (.invokevirtual 251, 3) := by decide +kernel
theorem dX8_lookLeaves_24 : decode cX8_lookLeaves 24 = .ok (.invokevirtual 97, 3) := by decide +kernel
theorem dX8_lookLeaves_27 : decode cX8_lookLeaves 27 = .ok (.ireturn, 1) := by decide +kernel
theorem dX8_heir_0 : decode cX8_heir 0 = .ok (.iload_n 2, 1) := by decide +kernel
theorem dX8_heir_1 : decode cX8_heir 1 = .ok (.ifCond .lt 23, 3) := by decide +kernel
theorem dX8_heir_4 : decode cX8_heir 4 = .ok (.iload_n 2, 1) := by decide +kernel
theorem dX8_heir_5 : decode cX8_heir 5 = .ok (.bipush 6, 2) := by decide +kernel
theorem dX8_heir_7 : decode cX8_heir 7 = .ok (.if_icmp .gt 17, 3) := by decide +kernel
theorem dX8_heir_10 : decode cX8_heir 10 = .ok (.iload_n 3, 1) := by decide +kernel
theorem dX8_heir_11 : decode cX8_heir 11 = .ok (.ifCond .lt 13, 3) := by decide +kernel
theorem dX8_heir_14 : decode cX8_heir 14 = .ok (.iload_n 3, 1) := by decide +kernel
theorem dX8_heir_15 : decode cX8_heir 15 = .ok (.bipush 6, 2) := by decide +kernel
theorem dX8_heir_17 : decode cX8_heir 17 = .ok (.if_icmp .gt 7, 3) := by decide +kernel
theorem dX8_heir_20 : decode cX8_heir 20 = .ok (.iconst 1, 1) := by decide +kernel
theorem dX8_heir_21 : decode cX8_heir 21 = .ok (.goto 4, 3) := by decide +kernel
theorem dX8_heir_24 : decode cX8_heir 24 = .ok (.iconst 0, 1) := by decide +kernel
theorem dX8_heir_25 : decode cX8_heir 25 = .ok (.istore 5, 2) := by decide +kernel
theorem dX8_heir_27 : decode cX8_heir 27 = .ok (.aload_n 0, 1) := by decide +kernel
theorem dX8_heir_28 : decode cX8_heir 28 = .ok (.iload_n 1, 1) := by decide +kernel
theorem dX8_heir_29 : decode cX8_heir 29 = .ok (.invokevirtual 254, 3) := by decide +kernel
theorem dX8_heir_32 : decode cX8_heir 32 = .ok (.istore 6, 2) := by decide +kernel
theorem dX8_heir_34 : decode cX8_heir 34 = .ok (.iload 6, 2) := by decide +kernel
theorem dX8_heir_36 : decode cX8_heir 36 = .ok (.ifCond .ne 11, 3) := by decide +kernel
theorem dX8_heir_39 : decode cX8_heir 39 = .ok (.iload 5, 2) := by decide +kernel
theorem dX8_heir_41 : decode cX8_heir 41 = .ok (.ifCond .ne 6, 3) := by decide +kernel
theorem dX8_heir_44 : decode cX8_heir 44 = .ok (.iconst 2, 1) := by decide +kernel
theorem dX8_heir_45 : decode cX8_heir 45 = .ok (.istore 6, 2) := by decide +kernel
theorem dX8_heir_47 : decode cX8_heir 47 = .ok (.aload_n 0, 1) := by decide +kernel
theorem dX8_heir_48 : decode cX8_heir 48 = .ok (.iload 6, 2) := by decide +kernel
theorem dX8_heir_50 : decode cX8_heir 50 = .ok (.putfield 100, 3) := by decide +kernel
theorem dX8_heir_53 : decode cX8_heir 53 = .ok (.iload 6, 2) := by decide +kernel
theorem dX8_heir_55 : decode cX8_heir 55 = .ok (.ifCond .eq 6, 3) := by decide +kernel
theorem dX8_heir_58 : decode cX8_heir 58 = .ok (.bipush (-100), 2) := by decide +kernel
theorem dX8_heir_60 : decode cX8_heir 60 = .ok (.ireturn, 1) := by decide +kernel
theorem dX8_heir_61 : decode cX8_heir 61 = .ok (.iload 4, 2) := by decide +kernel
theorem dX8_heir_63 : decode cX8_heir 63 = .ok (.ifCond .eq 12, 3) := by decide +kernel
theorem dX8_heir_66 : decode cX8_heir 66 = .ok (.iload_n 1, 1) := by decide +kernel
theorem dX8_heir_67 : decode cX8_heir 67 = .ok (.iload_n 3, 1) := by decide +kernel
theorem dX8_heir_68 : decode cX8_heir 68 = .ok (.iload_n 2, 1) := by decide +kernel
theorem dX8_heir_69 : decode cX8_heir 69 = .ok (.invokestatic 257, 3) := by decide +kernel
theorem dX8_heir_72 : decode cX8_heir 72 = .ok (.goto 9, 3) := by decide +kernel
theorem dX8_heir_75 : decode cX8_heir 75 = .ok (.iload_n 1, 1) := by decide +kernel
theorem dX8_heir_76 : decode cX8_heir 76 = .ok (.iload_n 2, 1) := by decide +kernel
theorem dX8_heir_77 : decode cX8_heir 77 = .ok (.iload_n 3, 1) := by decide +kernel
theorem dX8_heir_78 : decode cX8_heir 78 = .ok (.invokestatic 257, 3) := by decide +kernel
theorem dX8_heir_81 : decode cX8_heir 81 = .ok (.ireturn, 1) := by decide +kernel
theorem dX8_rests_0 : decode cX8_rests 0 = .ok (.aload_n 0, 1) := by decide +kernel
theorem dX8_rests_1 : decode cX8_rests 1 = .ok (.iload_n 1, 1) := by decide +kernel
theorem dX8_rests_2 : decode cX8_rests 2 = .ok (.invokevirtual 254, 3) := by decide +kernel
theorem dX8_rests_5 : decode cX8_rests 5 = .ok (.istore_n 2, 1) := by decide +kernel
theorem dX8_rests_6 : decode cX8_rests 6 = .ok (.iload_n 2, 1) := by decide +kernel
theorem dX8_rests_7 : decode cX8_rests 7 = .ok (.ifCond .eq 9, 3) := by decide +kernel
theorem dX8_rests_10 : decode cX8_rests 10 = .ok (.aload_n 0, 1) := by decide +kernel
theorem dX8_rests_11 : decode cX8_rests 11 = .ok (.iload_n 2, 1) := by decide +kernel
theorem dX8_rests_12 : decode cX8_rests 12 = .ok (.invokevirtual 63, 3) := by decide +kernel
theorem dX8_rests_15 : decode cX8_rests 15 = .ok (.ireturn, 1) := by decide +kernel
theorem dX8_rests_16 : decode cX8_rests 16 = .ok (.iconst 0, 1) := by decide +kernel
theorem dX8_rests_17 : decode cX8_rests 17 = .ok (.istore_n 3, 1) := by decide +kernel
theorem dX8_rests_18 : decode cX8_rests 18 = .ok (.iconst 0, 1) := by decide +kernel
theorem dX8_rests_19 : decode cX8_rests 19 = .ok (.istore 4, 2) := by decide +kernel
theorem dX8_rests_21 : decode cX8_rests 21 = .ok (.iload 4, 2) := by decide +kernel
theorem dX8_rests_23 : decode cX8_rests 23 = .ok (.bipush 6, 2) := by decide +kernel
theorem dX8_rests_25 : decode cX8_rests 25 = .ok (.if_icmp .gt 44, 3) := by decide +kernel
theorem dX8_rests_28 : decode cX8_rests 28 = .ok (.iconst 0, 1) := by decide +kernel
theorem dX8_rests_29 : decode cX8_rests 29 = .ok (.istore 5, 2) := by decide +kernel
theorem dX8_rests_31 : decode cX8_rests 31 = .ok (.iload 5, 2) := by decide +kernel
theorem dX8_rests_33 : decode cX8_rests 33 = .ok (.bipush 6, 2) := by decide +kernel
theorem dX8_rests_35 : decode cX8_rests 35 = .ok (.if_icmp .gt 28, 3) := by decide +kernel
theorem dX8_rests_38 : decode cX8_rests 38 = .ok (.iload_n 3, 1) := by decide +kernel
theorem dX8_rests_39 : decode cX8_rests 39 = .ok (.iload_n 1, 1) := by decide +kernel
theorem dX8_rests_40 : decode cX8_rests 40 = .ok (.iload 4, 2) := by decide +kernel
theorem dX8_rests_42 : decode cX8_rests 42 = .ok (.iload 5, 2) := by decide +kernel
theorem dX8_rests_44 : decode cX8_rests 44 = .ok (.invokestatic 263, 3) := by decide +kernel
theorem dX8_rests_47 : decode cX8_rests 47 = .ok (.ifCond .eq 7, 3) := by decide +kernel
theorem dX8_rests_50 : decode cX8_rests 50 = .ok (.iconst 1, 1) := by decide +kernel
theorem dX8_rests_51 : decode cX8_rests 51 = .ok (.goto 4, 3) := by decide +kernel
theorem dX8_rests_54 : decode cX8_rests 54 = .ok (.iconst 0, 1) := by decide +kernel
theorem dX8_rests_55 : decode cX8_rests 55 = .ok (.iadd, 1) := by decide +kernel
theorem dX8_rests_56 : decode cX8_rests 56 = .ok (.istore_n 3, 1) := by decide +kernel
theorem dX8_rests_57 : decode cX8_rests 57 = .ok (.iinc 5 1, 3) := by decide +kernel
theorem dX8_rests_60 : decode cX8_rests 60 = .ok (.goto (-29), 3) := by decide +kernel
theorem dX8_rests_63 : decode cX8_rests 63 = .ok (.iinc 4 1, 3) := by decide +kernel
theorem dX8_rests_66 : decode cX8_rests 66 = .ok (.goto (-45), 3) := by decide +kernel
theorem dX8_rests_69 : decode cX8_rests 69 = .ok (.aload_n 0, 1) := by decide +kernel
theorem dX8_rests_70 : decode cX8_rests 70 = .ok (.iload_n 3, 1) := by decide +kernel
theorem dX8_rests_71 : decode cX8_rests 71 = .ok (.invokevirtual 97, 3) := by decide +kernel
theorem dX8_rests_74 : decode cX8_rests 74 = .ok (.ireturn, 1) := by decide +kernel
theorem dX8_rest_0 : decode cX8_rest 0 = .ok (.aload_n 0, 1) := by decide +kernel
theorem dX8_rest_1 : decode cX8_rest 1 = .ok (.iload_n 1, 1) := by decide +kernel
theorem dX8_rest_2 : decode cX8_rest 2 = .ok (.invokevirtual 254, 3) := by decide +kernel
theorem dX8_rest_5 : decode cX8_rest 5 = .ok (.istore_n 2, 1) := by decide +kernel
theorem dX8_rest_6 : decode cX8_rest 6 = .ok (.iload_n 2, 1) := by decide +kernel
theorem dX8_rest_7 : decode cX8_rest 7 = .ok (.ifCond .eq 9, 3) := by decide +kernel
theorem dX8_rest_10 : decode cX8_rest 10 = .ok (.aload_n 0, 1) := by decide +kernel
theorem dX8_rest_11 : decode cX8_rest 11 = .ok (.iload_n 2, 1) := by decide +kernel
theorem dX8_rest_12 : decode cX8_rest 12 = .ok (.invokevirtual 63, 3) := by decide +kernel
theorem dX8_rest_15 : decode cX8_rest 15 = .ok (.ireturn, 1) := by decide +kernel
theorem dX8_rest_16 : decode cX8_rest 16 = .ok (.iconst 0, 1) := by decide +kernel
theorem dX8_rest_17 : decode cX8_rest 17 = .ok (.istore_n 3, 1) := by decide +kernel
theorem dX8_rest_18 : decode cX8_rest 18 = .ok (.iload_n 3, 1) := by decide +kernel
theorem dX8_rest_19 : decode cX8_rest 19 = .ok (.bipush 6, 2) := by decide +kernel
theorem dX8_rest_21 : decode cX8_rest 21 = .ok (.if_icmp .gt 47, 3) := by decide +kernel
theorem dX8_rest_24 : decode cX8_rest 24 = .ok (.iconst 0, 1) := by decide +kernel
theorem dX8_rest_25 : decode cX8_rest 25 = .ok (.istore 4, 2) := by decide +kernel
theorem dX8_rest_27 : decode cX8_rest 27 = .ok (.iload 4, 2) := by decide +kernel
theorem dX8_rest_29 : decode cX8_rest 29 = .ok (.bipush 6, 2) := by decide +kernel
theorem dX8_rest_31 : decode cX8_rest 31 = .ok (.if_icmp .gt 31, 3) := by decide +kernel
theorem dX8_rest_34 : decode cX8_rest 34 = .ok (.iload_n 1, 1) := by decide +kernel
theorem dX8_rest_35 : decode cX8_rest 35 = .ok (.iload_n 3, 1) := by decide +kernel
theorem dX8_rest_36 : decode cX8_rest 36 = .ok (.iload 4, 2) := by decide +kernel
theorem dX8_rest_38 : decode cX8_rest 38 = .ok (.invokestatic 263, 3) := by decide +kernel
theorem dX8_rest_41 : decode cX8_rest 41 = .ok (.ifCond .eq 15, 3) := by decide +kernel
theorem dX8_rest_44 : decode cX8_rest 44 = .ok (.aload_n 0, 1) := by decide +kernel
theorem dX8_rest_45 : decode cX8_rest 45 = .ok (.bipush 10, 2) := by decide +kernel
theorem dX8_rest_47 : decode cX8_rest 47 = .ok (.iload_n 3, 1) := by decide +kernel
theorem dX8_rest_48 : decode cX8_rest 48 = .ok (.imul, 1) := by decide +kernel
theorem dX8_rest_49 : decode cX8_rest 49 = .ok (.iload 4, 2) := by decide +kernel
theorem dX8_rest_51 : decode cX8_rest 51 = .ok (.iadd, 1) := by decide +kernel
theorem dX8_rest_52 : decode cX8_rest 52 = .ok (.invokevirtual 97, 3) := by decide +kernel
theorem dX8_rest_55 : decode cX8_rest 55 = .ok (.ireturn, 1) := by decide +kernel
theorem dX8_rest_56 : decode cX8_rest 56 = .ok (.iinc 4 1, 3) := by decide +kernel
theorem dX8_rest_59 : decode cX8_rest 59 = .ok (.goto (-32), 3) := by decide +kernel
theorem dX8_rest_62 : decode cX8_rest 62 = .ok (.iinc 3 1, 3) := by decide +kernel
theorem dX8_rest_65 : decode cX8_rest 65 = .ok (.goto (-47), 3) := by decide +kernel
theorem dX8_rest_68 : decode cX8_rest 68 = .ok (.aload_n 0, 1) := by decide +kernel
theorem dX8_rest_69 : decode cX8_rest 69 = .ok (.bipush (-2), 2) := by decide +kernel
theorem dX8_rest_71 : decode cX8_rest 71 = .ok (.invokevirtual 97, 3) := by decide +kernel
theorem dX8_rest_74 : decode cX8_rest 74 = .ok (.ireturn, 1) := by decide +kernel
theorem dX8_damp_0 : decode cX8_damp 0 = .ok (.aload_n 0, 1) := by decide +kernel
theorem dX8_damp_1 : decode cX8_damp 1 = .ok (.getfield 47, 3) := by decide +kernel
theorem dX8_damp_4 : decode cX8_damp 4 = .ok (.iload_n 1, 1) := by decide +kernel
theorem dX8_damp_5 : decode cX8_damp 5 = .ok (.invokevirtual 124, 3) := by decide +kernel
theorem dX8_damp_8 : decode cX8_damp 8 = .ok (.ifCond .ne 9, 3) := by decide +kernel
theorem dX8_damp_11 : decode cX8_damp 11 = .ok (.aload_n 0, 1) := by decide +kernel
theorem dX8_damp_12 : decode cX8_damp 12 = .ok (.iconst 1, 1) := by decide +kernel
theorem dX8_damp_13 : decode cX8_damp 13 = .ok (.invokevirtual 63, 3) := by decide +kernel
theorem dX8_damp_16 : decode cX8_damp 16 = .ok (.ireturn, 1) := by decide +kernel
theorem dX8_damp_17 : decode cX8_damp 17 = .ok (.iload_n 2, 1) := by decide +kernel
theorem dX8_damp_18 : decode cX8_damp 18 = .ok (.iload_n 3, 1) := by decide +kernel
theorem dX8_damp_19 : decode cX8_damp 19 = .ok (.invokestatic 267, 3) := by decide +kernel
theorem dX8_damp_22 : decode cX8_damp 22 = .ok (.ifCond .ne 9, 3) := by decide +kernel
theorem dX8_damp_25 : decode cX8_damp 25 = .ok (.aload_n 0, 1) := by decide +kernel
theorem dX8_damp_26 : decode cX8_damp 26 = .ok (.iconst 2, 1) := by decide +kernel
theorem dX8_damp_27 : decode cX8_damp 27 = .ok (.invokevirtual 63, 3) := by decide +kernel
theorem dX8_damp_30 : decode cX8_damp 30 = .ok (.ireturn, 1) := by decide +kernel
theorem dX8_damp_31 : decode cX8_damp 31 = .ok (.aload_n 0, 1) := by decide +kernel
theorem dX8_damp_32 : decode cX8_damp 32 = .ok (.getfield 26, 3) := by decide +kernel
theorem dX8_damp_35 : decode cX8_damp 35 = .ok (.aload_n 0, 1) := by decide +kernel
theorem dX8_damp_36 : decode cX8_damp 36 = .ok (.getfield 47, 3) := by decide +kernel
theorem dX8_damp_39 : decode cX8_damp 39 = .ok (.aload_n 0, 1) := by decide +kernel
theorem dX8_damp_40 : decode cX8_damp 40 = .ok (.getfield 19, 3) := by decide +kernel
theorem dX8_damp_43 : decode cX8_damp 43 = .ok (.iconst 0, 1) := by decide +kernel
theorem dX8_damp_44 : decode cX8_damp 44 = .ok (.invokevirtual 165, 3) := by decide +kernel
theorem dX8_damp_47 : decode cX8_damp 47 = .ok (.aload_n 0, 1) := by decide +kernel
theorem dX8_damp_48 : decode cX8_damp 48 = .ok (.getfield 26, 3) := by decide +kernel
theorem dX8_damp_51 : decode cX8_damp 51 = .ok (.iload_n 2, 1) := by decide +kernel
theorem dX8_damp_52 : decode cX8_damp 52 = .ok (.invokevirtual 270, 3) := by decide +kernel
theorem dX8_damp_55 : decode cX8_damp 55 = .ok (.iconst 1, 1) := by decide +kernel
theorem dX8_damp_56 : decode cX8_damp 56 = .ok (.istore 4, 2) := by decide +kernel
theorem dX8_damp_58 : decode cX8_damp 58 = .ok (.iload 4, 2) := by decide +kernel
theorem dX8_damp_60 : decode cX8_damp 60 = .ok (.iload_n 3, 1) := by decide +kernel
theorem dX8_damp_61 : decode cX8_damp 61 = .ok (.if_icmp .gt 16, 3) := by decide +kernel
theorem dX8_damp_64 : decode cX8_damp 64 = .ok (.aload_n 0, 1) := by decide +kernel
theorem dX8_damp_65 : decode cX8_damp 65 = .ok (.getfield 26, 3) := by decide +kernel
theorem dX8_damp_68 : decode cX8_damp 68 = .ok (.invokevirtual 273, 3) := by decide +kernel
theorem dX8_damp_71 : decode cX8_damp 71 = .ok (.iinc 4 1, 3) := by decide +kernel
theorem dX8_damp_74 : decode cX8_damp 74 = .ok (.goto (-16), 3) := by decide +kernel
theorem dX8_damp_77 : decode cX8_damp 77 = .ok (.aload_n 0, 1) := by decide +kernel
theorem dX8_damp_78 : decode cX8_damp 78 = .ok (.aload_n 0, 1) := by decide +kernel
theorem dX8_damp_79 : decode cX8_damp 79 = .ok (.getfield 26, 3) := by decide +kernel
theorem dX8_damp_82 : decode cX8_damp 82 = .ok (.iload_n 1, 1) := by decide +kernel
theorem dX8_damp_83 : decode cX8_damp 83 = .ok (.invokevirtual 184, 3) := by decide +kernel
theorem dX8_damp_86 : decode cX8_damp 86 = .ok (.invokestatic 185, 3) := by decide +kernel
theorem dX8_damp_89 : decode cX8_damp 89 = .ok (.invokevirtual 97, 3) := by decide +kernel
theorem dX8_damp_92 : decode cX8_damp 92 = .ok (.ireturn, 1) := by decide +kernel
theorem dX8_dampSteps_0 : decode cX8_dampSteps 0 = .ok (.aload_n 0, 1) := by decide +kernel
theorem dX8_dampSteps_1 : decode cX8_dampSteps 1 = .ok (.getfield 47, 3) := by decide +kernel
theorem dX8_dampSteps_4 : decode cX8_dampSteps 4 = .ok (.invokevirtual 161, 3) := by decide +kernel
theorem dX8_dampSteps_7 : decode cX8_dampSteps 7 = .ok (.ifCond .ne 9, 3) := by decide +kernel
theorem dX8_dampSteps_10 : decode cX8_dampSteps 10 = .ok (.aload_n 0, 1) := by decide +kernel
theorem dX8_dampSteps_11 : decode cX8_dampSteps 11 = .ok (.iconst 1, 1) := by decide +kernel
theorem dX8_dampSteps_12 : decode cX8_dampSteps 12 = .ok (.invokevirtual 63, 3) := by decide +kernel
theorem dX8_dampSteps_15 : decode cX8_dampSteps 15 = .ok (.ireturn, 1) := by decide +kernel
theorem dX8_dampSteps_16 : decode cX8_dampSteps 16 = .ok (.iload_n 1, 1) := by decide +kernel
theorem dX8_dampSteps_17 : decode cX8_dampSteps 17 = .ok (.iload_n 2, 1) := by decide +kernel
theorem dX8_dampSteps_18 : decode cX8_dampSteps 18 = .ok (.invokestatic 267, 3) := by decide +kernel
theorem dX8_dampSteps_21 : decode cX8_dampSteps 21 = .ok (.ifCond .ne 9, 3) := by decide +kernel
theorem dX8_dampSteps_24 : decode cX8_dampSteps 24 = .ok (.aload_n 0, 1) := by decide +kernel
theorem dX8_dampSteps_25 : decode cX8_dampSteps 25 = .ok (.iconst 2, 1) := by decide +kernel
theorem dX8_dampSteps_26 : decode cX8_dampSteps 26 = .ok (.invokevirtual 63, 3) := by decide +kernel
theorem dX8_dampSteps_29 : decode cX8_dampSteps 29 = .ok (.ireturn, 1) := by decide +kernel
theorem dX8_dampSteps_30 : decode cX8_dampSteps 30 = .ok (.iconst 0, 1) := by decide +kernel
theorem dX8_dampSteps_31 : decode cX8_dampSteps 31 = .ok (.istore_n 3, 1) := by decide +kernel
theorem dX8_dampSteps_32 : decode cX8_dampSteps 32 = .ok (.aload_n 0, 1) := by decide +kernel
theorem dX8_dampSteps_33 : decode cX8_dampSteps 33 = .ok (.getfield 26, 3) := by decide +kernel
theorem dX8_dampSteps_36 : decode cX8_dampSteps 36 = .ok (.aload_n 0, 1) := by decide +kernel
theorem dX8_dampSteps_37 : decode cX8_dampSteps 37 = .ok (.getfield 47, 3) := by decide +kernel
theorem dX8_dampSteps_40 : decode cX8_dampSteps 40 = .ok (.aload_n 0, 1) := by decide +kernel
theorem dX8_dampSteps_41 : decode cX8_dampSteps 41 = .ok (.getfield 19, 3) := by decide +kernel
theorem dX8_dampSteps_44 : decode cX8_dampSteps 44 = .ok (.iconst 0, 1) := by decide +kernel
theorem dX8_dampSteps_45 : decode cX8_dampSteps 45 = .ok (.invokevirtual 165, 3) := by decide +kernel
theorem dX8_dampSteps_48 : decode cX8_dampSteps 48 = .ok (.aload_n 0, 1) := by decide +kernel
theorem dX8_dampSteps_49 : decode cX8_dampSteps 49 = .ok (.getfield 26, 3) := by decide +kernel
theorem dX8_dampSteps_52 : decode cX8_dampSteps 52 = .ok (.iload_n 1, 1) := by decide +kernel
theorem dX8_dampSteps_53 : decode cX8_dampSteps 53 = .ok (.invokevirtual 270, 3) := by decide +kernel
theorem dX8_dampSteps_56 : decode cX8_dampSteps 56 = .ok (.iconst 1, 1) := by decide +kernel
theorem dX8_dampSteps_57 : decode cX8_dampSteps 57 = .ok (.istore 4, 2) := by decide +kernel
theorem dX8_dampSteps_59 : decode cX8_dampSteps 59 = .ok (.iload 4, 2) := by decide +kernel
theorem dX8_dampSteps_61 : decode cX8_dampSteps 61 = .ok (.iload_n 2, 1) := by decide +kernel
theorem dX8_dampSteps_62 : decode cX8_dampSteps 62 = .ok (.if_icmp .gt 29, 3) := by decide +kernel
theorem dX8_dampSteps_65 : decode cX8_dampSteps 65 = .ok (.aload_n 0, 1) := by decide +kernel
theorem dX8_dampSteps_66 : decode cX8_dampSteps 66 = .ok (.getfield 26, 3) := by decide +kernel
theorem dX8_dampSteps_69 : decode cX8_dampSteps 69 = .ok (.invokevirtual 273, 3) := by decide +kernel
theorem dX8_dampSteps_72 : decode cX8_dampSteps 72 = .ok (.iload_n 3, 1) := by decide +kernel
theorem dX8_dampSteps_73 : decode cX8_dampSteps 73 = .ok (.aload_n 0, 1) := by decide +kernel
theorem dX8_dampSteps_74 : decode cX8_dampSteps 74 = .ok (.getfield 26, 3) := by decide +kernel
theorem dX8_dampSteps_77 : decode cX8_dampSteps 77 = .ok (.invokevirtual 172, 3) := by decide +kernel
theorem dX8_dampSteps_80 : decode cX8_dampSteps 80 = .ok (.invokestatic 119, 3) := by decide +kernel
theorem dX8_dampSteps_83 : decode cX8_dampSteps 83 = .ok (.iadd, 1) := by decide +kernel
theorem dX8_dampSteps_84 : decode cX8_dampSteps 84 = .ok (.istore_n 3, 1) := by decide +kernel
theorem dX8_dampSteps_85 : decode cX8_dampSteps 85 = .ok (.iinc 4 1, 3) := by decide +kernel
theorem dX8_dampSteps_88 : decode cX8_dampSteps 88 = .ok (.goto (-29), 3) := by decide +kernel
theorem dX8_dampSteps_91 : decode cX8_dampSteps 91 = .ok (.aload_n 0, 1) := by decide +kernel
theorem dX8_dampSteps_92 : decode cX8_dampSteps 92 = .ok (.iload_n 3, 1) := by decide +kernel
theorem dX8_dampSteps_93 : decode cX8_dampSteps 93 = .ok (.invokevirtual 97, 3) := by decide +kernel
theorem dX8_dampSteps_96 : decode cX8_dampSteps 96 = .ok (.ireturn, 1) := by decide +kernel
theorem dX8_dampWhen_0 : decode cX8_dampWhen 0 = .ok (.aload_n 0, 1) := by decide +kernel
theorem dX8_dampWhen_1 : decode cX8_dampWhen 1 = .ok (.getfield 47, 3) := by decide +kernel
theorem dX8_dampWhen_4 : decode cX8_dampWhen 4 = .ok (.iload_n 1, 1) := by decide +kernel
theorem dX8_dampWhen_5 : decode cX8_dampWhen 5 = .ok (.invokevirtual 124, 3) := by decide +kernel
theorem dX8_dampWhen_8 : decode cX8_dampWhen 8 = .ok (.ifCond .ne 9, 3) := by decide +kernel
theorem dX8_dampWhen_11 : decode cX8_dampWhen 11 = .ok (.aload_n 0, 1) := by decide +kernel
theorem dX8_dampWhen_12 : decode cX8_dampWhen 12 = .ok (.iconst 1, 1) := by decide +kernel
theorem dX8_dampWhen_13 : decode cX8_dampWhen 13 = .ok (.invokevirtual 63, 3) := by decide +kernel
theorem dX8_dampWhen_16 : decode cX8_dampWhen 16 = .ok (.ireturn, 1) := by decide +kernel
theorem dX8_dampWhen_17 : decode cX8_dampWhen 17 = .ok (.aload_n 0, 1) := by decide +kernel
theorem dX8_dampWhen_18 : decode cX8_dampWhen 18 = .ok (.getfield 19, 3) := by decide +kernel
theorem dX8_dampWhen_21 : decode cX8_dampWhen 21 = .ok (.iload_n 1, 1) := by decide +kernel
theorem dX8_dampWhen_22 : decode cX8_dampWhen 22 = .ok (.invokevirtual 130, 3) := by decide +kernel
theorem dX8_dampWhen_25 : decode cX8_dampWhen 25 = .ok (.invokestatic 133, 3) := by decide +kernel
theorem dX8_dampWhen_28 : decode cX8_dampWhen 28 = .ok (.istore 5, 2) := by decide +kernel
theorem dX8_dampWhen_30 : decode cX8_dampWhen 30 = .ok (.aload_n 0, 1) := by decide +kernel
theorem dX8_dampWhen_31 : decode cX8_dampWhen 31 = .ok (.getfield 47, 3) := by decide +kernel
theorem dX8_dampWhen_34 : decode cX8_dampWhen 34 = .ok (.iload 5, 2) := by decide +kernel
theorem dX8_dampWhen_36 : decode cX8_dampWhen 36 = .ok (.iload_n 2, 1) := by decide +kernel
theorem dX8_dampWhen_37 : decode cX8_dampWhen 37 = .ok (.invokevirtual 145, 3) := by decide +kernel
theorem dX8_dampWhen_40 : decode cX8_dampWhen 40 = .ok (.ifCond .ne 9, 3) := by decide +kernel
theorem dX8_dampWhen_43 : decode cX8_dampWhen 43 = .ok (.aload_n 0, 1) := by decide +kernel
theorem dX8_dampWhen_44 : decode cX8_dampWhen 44 = .ok (.iconst 1, 1) := by decide +kernel
theorem dX8_dampWhen_45 : decode cX8_dampWhen 45 = .ok (.invokevirtual 63, 3) := by decide +kernel
theorem dX8_dampWhen_48 : decode cX8_dampWhen 48 = .ok (.ireturn, 1) := by decide +kernel
theorem dX8_dampWhen_49 : decode cX8_dampWhen 49 = .ok (.iload_n 3, 1) := by decide +kernel
theorem dX8_dampWhen_50 : decode cX8_dampWhen 50 = .ok (.iload 4, 2) := by decide +kernel
theorem dX8_dampWhen_52 : decode cX8_dampWhen 52 = .ok (.invokestatic 267, 3) := by decide +kernel
theorem dX8_dampWhen_55 : decode cX8_dampWhen 55 = .ok (.ifCond .ne 9, 3) := by decide +kernel
theorem dX8_dampWhen_58 : decode cX8_dampWhen 58 = .ok (.aload_n 0, 1) := by decide +kernel
theorem dX8_dampWhen_59 : decode cX8_dampWhen 59 = .ok (.iconst 2, 1) := by decide +kernel
theorem dX8_dampWhen_60 : decode cX8_dampWhen 60 = .ok (.invokevirtual 63, 3) := by decide +kernel
theorem dX8_dampWhen_63 : decode cX8_dampWhen 63 = .ok (.ireturn, 1) := by decide +kernel
theorem dX8_dampWhen_64 : decode cX8_dampWhen 64 = .ok (.aload_n 0, 1) := by decide +kernel
theorem dX8_dampWhen_65 : decode cX8_dampWhen 65 = .ok (.getfield 26, 3) := by decide +kernel
theorem dX8_dampWhen_68 : decode cX8_dampWhen 68 = .ok (.aload_n 0, 1) := by decide +kernel
theorem dX8_dampWhen_69 : decode cX8_dampWhen 69 = .ok (.getfield 47, 3) := by decide +kernel
theorem dX8_dampWhen_72 : decode cX8_dampWhen 72 = .ok (.aload_n 0, 1) := by decide +kernel
theorem dX8_dampWhen_73 : decode cX8_dampWhen 73 = .ok (.getfield 19, 3) := by decide +kernel
theorem dX8_dampWhen_76 : decode cX8_dampWhen 76 = .ok (.iconst 0, 1) := by decide +kernel
theorem dX8_dampWhen_77 : decode cX8_dampWhen 77 = .ok (.invokevirtual 165, 3) := by decide +kernel
theorem dX8_dampWhen_80 : decode cX8_dampWhen 80 = .ok (.aload_n 0, 1) := by decide +kernel
theorem dX8_dampWhen_81 : decode cX8_dampWhen 81 = .ok (.getfield 26, 3) := by decide +kernel
theorem dX8_dampWhen_84 : decode cX8_dampWhen 84 = .ok (.iload_n 3, 1) := by decide +kernel
theorem dX8_dampWhen_85 : decode cX8_dampWhen 85 = .ok (.invokevirtual 270, 3) := by decide +kernel
theorem dX8_dampWhen_88 : decode cX8_dampWhen 88 = .ok (.iconst 1, 1) := by decide +kernel
theorem dX8_dampWhen_89 : decode cX8_dampWhen 89 = .ok (.istore 6, 2) := by decide +kernel
theorem dX8_dampWhen_91 : decode cX8_dampWhen 91 = .ok (.iload 6, 2) := by decide +kernel
theorem dX8_dampWhen_93 : decode cX8_dampWhen 93 = .ok (.iload 4, 2) := by decide +kernel
theorem dX8_dampWhen_95 : decode cX8_dampWhen 95 = .ok (.if_icmp .gt 40, 3) := by decide +kernel
theorem dX8_dampWhen_98 : decode cX8_dampWhen 98 = .ok (.aload_n 0, 1) := by decide +kernel
theorem dX8_dampWhen_99 : decode cX8_dampWhen 99 = .ok (.getfield 26, 3) := by decide +kernel
theorem dX8_dampWhen_102 : decode cX8_dampWhen 102 = .ok (.invokevirtual 273, 3) := by decide +kernel
theorem dX8_dampWhen_105 : decode cX8_dampWhen 105 = .ok (.aload_n 0, 1) := by decide +kernel
theorem dX8_dampWhen_106 : decode cX8_dampWhen 106 = .ok (.getfield 26, 3) := by decide +kernel
theorem dX8_dampWhen_109 : decode cX8_dampWhen 109 = .ok (.iload_n 1, 1) := by decide +kernel
theorem dX8_dampWhen_110 : decode cX8_dampWhen 110 = .ok (.invokevirtual 184, 3) := by decide +kernel
theorem dX8_dampWhen_113 : decode cX8_dampWhen 113 = .ok (.iload 5, 2) := by decide +kernel
theorem dX8_dampWhen_115 : decode cX8_dampWhen 115 = .ok (.iload_n 2, 1) := by decide +kernel
theorem dX8_dampWhen_116 : decode cX8_dampWhen 116 = .ok (.invokestatic 149, 3) := by decide +kernel
theorem dX8_dampWhen_119 : decode cX8_dampWhen 119 = .ok (.if_icmp .ne 10, 3) := by decide +kernel
theorem dX8_dampWhen_122 : decode cX8_dampWhen 122 = .ok (.aload_n 0, 1) := by decide +kernel
theorem dX8_dampWhen_123 : decode cX8_dampWhen 123 = .ok (.iload 6, 2) := by decide +kernel
theorem dX8_dampWhen_125 : decode cX8_dampWhen 125 = .ok (.invokevirtual 97, 3) := by decide +kernel
theorem dX8_dampWhen_128 : decode cX8_dampWhen 128 = .ok (.ireturn, 1) := by decide +kernel
theorem dX8_dampWhen_129 : decode cX8_dampWhen 129 = .ok (.iinc 6 1, 3) := by decide +kernel
theorem dX8_dampWhen_132 : decode cX8_dampWhen 132 = .ok (.goto (-41), 3) := by decide +kernel
theorem dX8_dampWhen_135 : decode cX8_dampWhen 135 = .ok (.aload_n 0, 1) := by decide +kernel
theorem dX8_dampWhen_136 : decode cX8_dampWhen 136 = .ok (.iconst 0, 1) := by decide +kernel
theorem dX8_dampWhen_137 : decode cX8_dampWhen 137 = .ok (.invokevirtual 97, 3) := by decide +kernel
theorem dX8_dampWhen_140 : decode cX8_dampWhen 140 = .ok (.ireturn, 1) := by decide +kernel
theorem dX8_hold_0 : decode cX8_hold 0 = .ok (.aload_n 0, 1) := by decide +kernel
theorem dX8_hold_1 : decode cX8_hold 1 = .ok (.getfield 47, 3) := by decide +kernel
theorem dX8_hold_4 : decode cX8_hold 4 = .ok (.iload_n 1, 1) := by decide +kernel
theorem dX8_hold_5 : decode cX8_hold 5 = .ok (.invokevirtual 124, 3) := by decide +kernel
theorem dX8_hold_8 : decode cX8_hold 8 = .ok (.ifCond .ne 9, 3) := by decide +kernel
theorem dX8_hold_11 : decode cX8_hold 11 = .ok (.aload_n 0, 1) := by decide +kernel
theorem dX8_hold_12 : decode cX8_hold 12 = .ok (.iconst 1, 1) := by decide +kernel
theorem dX8_hold_13 : decode cX8_hold 13 = .ok (.invokevirtual 276, 3) := by decide +kernel
theorem dX8_hold_16 : decode cX8_hold 16 = .ok (.ireturn, 1) := by decide +kernel
theorem dX8_hold_17 : decode cX8_hold 17 = .ok (.aload_n 0, 1) := by decide +kernel
theorem dX8_hold_18 : decode cX8_hold 18 = .ok (.getfield 19, 3) := by decide +kernel
theorem dX8_hold_21 : decode cX8_hold 21 = .ok (.iload_n 1, 1) := by decide +kernel
theorem dX8_hold_22 : decode cX8_hold 22 = .ok (.invokevirtual 142, 3) := by decide +kernel
theorem dX8_hold_25 : decode cX8_hold 25 = .ok (.ifCond .eq 9, 3) := by decide +kernel
theorem dX8_hold_28 : decode cX8_hold 28 = .ok (.aload_n 0, 1) := by decide +kernel
theorem dX8_hold_29 : decode cX8_hold 29 = .ok (.iconst 5, 1) := by decide +kernel
theorem dX8_hold_30 : decode cX8_hold 30 = .ok (.invokevirtual 276, 3) := by decide +kernel
theorem dX8_hold_33 : decode cX8_hold 33 = .ok (.ireturn, 1) := by decide +kernel
theorem dX8_hold_34 : decode cX8_hold 34 = .ok (.aload_n 0, 1) := by decide +kernel
theorem dX8_hold_35 : decode cX8_hold 35 = .ok (.getfield 19, 3) := by decide +kernel
theorem dX8_hold_38 : decode cX8_hold 38 = .ok (.invokevirtual 279, 3) := by decide +kernel
theorem dX8_hold_41 : decode cX8_hold 41 = .ok (.aload_n 0, 1) := by decide +kernel
theorem dX8_hold_42 : decode cX8_hold 42 = .ok (.getfield 19, 3) := by decide +kernel
theorem dX8_hold_45 : decode cX8_hold 45 = .ok (.iload_n 1, 1) := by decide +kernel
theorem dX8_hold_46 : decode cX8_hold 46 = .ok (.invokevirtual 282, 3) := by decide +kernel
theorem dX8_hold_49 : decode cX8_hold 49 = .ok (.aload_n 0, 1) := by decide +kernel
theorem dX8_hold_50 : decode cX8_hold 50 = .ok (.iconst 0, 1) := by decide +kernel
theorem dX8_hold_51 : decode cX8_hold 51 = .ok (.invokevirtual 276, 3) := by decide +kernel
theorem dX8_hold_54 : decode cX8_hold 54 = .ok (.ireturn, 1) := by decide +kernel
theorem dX8_let_0 : decode cX8_let 0 = .ok (.aload_n 0, 1) := by decide +kernel
theorem dX8_let_1 : decode cX8_let 1 = .ok (.getfield 47, 3) := by decide +kernel
theorem dX8_let_4 : decode cX8_let 4 = .ok (.iload_n 1, 1) := by decide +kernel
theorem dX8_let_5 : decode cX8_let 5 = .ok (.invokevirtual 124, 3) := by decide +kernel
theorem dX8_let_8 : decode cX8_let 8 = .ok (.ifCond .ne 9, 3) := by decide +kernel
theorem dX8_let_11 : decode cX8_let 11 = .ok (.aload_n 0, 1) := by decide +kernel
theorem dX8_let_12 : decode cX8_let 12 = .ok (.iconst 1, 1) := by decide +kernel
theorem dX8_let_13 : decode cX8_let 13 = .ok (.invokevirtual 276, 3) := by decide +kernel
theorem dX8_let_16 : decode cX8_let 16 = .ok (.ireturn, 1) := by decide +kernel
theorem dX8_let_17 : decode cX8_let 17 = .ok (.aload_n 0, 1) := by decide +kernel
theorem dX8_let_18 : decode cX8_let 18 = .ok (.getfield 19, 3) := by decide +kernel
theorem dX8_let_21 : decode cX8_let 21 = .ok (.iload_n 1, 1) := by decide +kernel
theorem dX8_let_22 : decode cX8_let 22 = .ok (.invokevirtual 142, 3) := by decide +kernel
theorem dX8_let_25 : decode cX8_let 25 = .ok (.ifCond .ne 9, 3) := by decide +kernel
theorem dX8_let_28 : decode cX8_let 28 = .ok (.aload_n 0, 1) := by decide +kernel
theorem dX8_let_29 : decode cX8_let 29 = .ok (.iconst 5, 1) := by decide +kernel
theorem dX8_let_30 : decode cX8_let 30 = .ok (.invokevirtual 276, 3) := by decide +kernel
theorem dX8_let_33 : decode cX8_let 33 = .ok (.ireturn, 1) := by decide +kernel
theorem dX8_let_34 : decode cX8_let 34 = .ok (.aload_n 0, 1) := by decide +kernel
theorem dX8_let_35 : decode cX8_let 35 = .ok (.getfield 19, 3) := by decide +kernel
theorem dX8_let_38 : decode cX8_let 38 = .ok (.invokevirtual 279, 3) := by decide +kernel
theorem dX8_let_41 : decode cX8_let 41 = .ok (.aload_n 0, 1) := by decide +kernel
theorem dX8_let_42 : decode cX8_let 42 = .ok (.getfield 19, 3) := by decide +kernel
theorem dX8_let_45 : decode cX8_let 45 = .ok (.iload_n 1, 1) := by decide +kernel
theorem dX8_let_46 : decode cX8_let 46 = .ok (.invokevirtual 282, 3) := by decide +kernel
theorem dX8_let_49 : decode cX8_let 49 = .ok (.aload_n 0, 1) := by decide +kernel
theorem dX8_let_50 : decode cX8_let 50 = .ok (.iconst 0, 1) := by decide +kernel
theorem dX8_let_51 : decode cX8_let 51 = .ok (.invokevirtual 276, 3) := by decide +kernel
theorem dX8_let_54 : decode cX8_let 54 = .ok (.ireturn, 1) := by decide +kernel
theorem dX8_put_0 : decode cX8_put 0 = .ok (.aload_n 0, 1) := by decide +kernel
theorem dX8_put_1 : decode cX8_put 1 = .ok (.getfield 47, 3) := by decide +kernel
theorem dX8_put_4 : decode cX8_put 4 = .ok (.iload_n 1, 1) := by decide +kernel
theorem dX8_put_5 : decode cX8_put 5 = .ok (.invokevirtual 124, 3) := by decide +kernel
theorem dX8_put_8 : decode cX8_put 8 = .ok (.ifCond .eq 15, 3) := by decide +kernel
theorem dX8_put_11 : decode cX8_put 11 = .ok (.aload_n 0, 1) := by decide +kernel
theorem dX8_put_12 : decode cX8_put 12 = .ok (.getfield 47, 3) := by decide +kernel
theorem dX8_put_15 : decode cX8_put 15 = .ok (.iload_n 2, 1) := by decide +kernel
theorem dX8_put_16 : decode cX8_put 16 = .ok (.iload_n 3, 1) := by decide +kernel
theorem dX8_put_17 : decode cX8_put 17 = .ok (.invokevirtual 145, 3) := by decide +kernel
theorem dX8_put_20 : decode cX8_put 20 = .ok (.ifCond .ne 9, 3) := by decide +kernel
theorem dX8_put_23 : decode cX8_put 23 = .ok (.aload_n 0, 1) := by decide +kernel
theorem dX8_put_24 : decode cX8_put 24 = .ok (.iconst 1, 1) := by decide +kernel
theorem dX8_put_25 : decode cX8_put 25 = .ok (.invokevirtual 276, 3) := by decide +kernel
theorem dX8_put_28 : decode cX8_put 28 = .ok (.ireturn, 1) := by decide +kernel
theorem dX8_put_29 : decode cX8_put 29 = .ok (.iload_n 2, 1) := by decide +kernel
theorem dX8_put_30 : decode cX8_put 30 = .ok (.iload_n 3, 1) := by decide +kernel
theorem dX8_put_31 : decode cX8_put 31 = .ok (.invokestatic 149, 3) := by decide +kernel
theorem dX8_put_34 : decode cX8_put 34 = .ok (.istore 4, 2) := by decide +kernel
theorem dX8_put_36 : decode cX8_put 36 = .ok (.aload_n 0, 1) := by decide +kernel
theorem dX8_put_37 : decode cX8_put 37 = .ok (.getfield 19, 3) := by decide +kernel
theorem dX8_put_40 : decode cX8_put 40 = .ok (.iload_n 1, 1) := by decide +kernel
theorem dX8_put_41 : decode cX8_put 41 = .ok (.invokevirtual 142, 3) := by decide +kernel
theorem dX8_put_44 : decode cX8_put 44 = .ok (.ifCond .ne 22, 3) := by decide +kernel
theorem dX8_put_47 : decode cX8_put 47 = .ok (.aload_n 0, 1) := by decide +kernel
theorem dX8_put_48 : decode cX8_put 48 = .ok (.getfield 19, 3) := by decide +kernel
theorem dX8_put_51 : decode cX8_put 51 = .ok (.iload 4, 2) := by decide +kernel
theorem dX8_put_53 : decode cX8_put 53 = .ok (.aload_n 0, 1) := by decide +kernel
theorem dX8_put_54 : decode cX8_put 54 = .ok (.getfield 47, 3) := by decide +kernel
theorem dX8_put_57 : decode cX8_put 57 = .ok (.getfield 106, 3) := by decide +kernel
theorem dX8_put_60 : decode cX8_put 60 = .ok (.invokevirtual 152, 3) := by decide +kernel
theorem dX8_put_63 : decode cX8_put 63 = .ok (.ifCond .lt 9, 3) := by decide +kernel
theorem dX8_put_66 : decode cX8_put 66 = .ok (.aload_n 0, 1) := by decide +kernel
theorem dX8_put_67 : decode cX8_put 67 = .ok (.iconst 5, 1) := by decide +kernel
theorem dX8_put_68 : decode cX8_put 68 = .ok (.invokevirtual 276, 3) := by decide +kernel
theorem dX8_put_71 : decode cX8_put 71 = .ok (.ireturn, 1) := by decide +kernel
theorem dX8_put_72 : decode cX8_put 72 = .ok (.aload_n 0, 1) := by decide +kernel
theorem dX8_put_73 : decode cX8_put 73 = .ok (.getfield 19, 3) := by decide +kernel
theorem dX8_put_76 : decode cX8_put 76 = .ok (.invokevirtual 279, 3) := by decide +kernel
theorem dX8_put_79 : decode cX8_put 79 = .ok (.aload_n 0, 1) := by decide +kernel
theorem dX8_put_80 : decode cX8_put 80 = .ok (.getfield 19, 3) := by decide +kernel
theorem dX8_put_83 : decode cX8_put 83 = .ok (.iload_n 1, 1) := by decide +kernel
theorem dX8_put_84 : decode cX8_put 84 = .ok (.iload 4, 2) := by decide +kernel
theorem dX8_put_86 : decode cX8_put 86 = .ok (.invokevirtual 285, 3) := by decide +kernel
theorem dX8_put_89 : decode cX8_put 89 = .ok (.aload_n 0, 1) := by decide +kernel
theorem dX8_put_90 : decode cX8_put 90 = .ok (.iconst 0, 1) := by decide +kernel
theorem dX8_put_91 : decode cX8_put 91 = .ok (.invokevirtual 276, 3) := by decide +kernel
theorem dX8_put_94 : decode cX8_put 94 = .ok (.ireturn, 1) := by decide +kernel
theorem dX8_night_0 : decode cX8_night 0 = .ok (.aload_n 0, 1) := by decide +kernel
theorem dX8_night_1 : decode cX8_night 1 = .ok (.getfield 47, 3) := by decide +kernel
theorem dX8_night_4 : decode cX8_night 4 = .ok (.invokevirtual 161, 3) := by decide +kernel
theorem dX8_night_7 : decode cX8_night 7 = .ok (.ifCond .ne 9, 3) := by decide +kernel
theorem dX8_night_10 : decode cX8_night 10 = .ok (.aload_n 0, 1) := by decide +kernel
theorem dX8_night_11 : decode cX8_night 11 = .ok (.iconst 1, 1) := by decide +kernel
theorem dX8_night_12 : decode cX8_night 12 = .ok (.invokevirtual 63, 3) := by decide +kernel
theorem dX8_night_15 : decode cX8_night 15 = .ok (.ireturn, 1) := by decide +kernel
theorem dX8_night_16 : decode cX8_night 16 = .ok (.aload_n 0, 1) := by decide +kernel
theorem dX8_night_17 : decode cX8_night 17 = .ok (.getfield 19, 3) := by decide +kernel
theorem dX8_night_20 : decode cX8_night 20 = .ok (.invokevirtual 288, 3) := by decide +kernel
theorem dX8_night_23 : decode cX8_night 23 = .ok (.sipush 999, 3) := by decide +kernel
theorem dX8_night_26 : decode cX8_night 26 = .ok (.if_icmp .lt 9, 3) := by decide +kernel
theorem dX8_night_29 : decode cX8_night 29 = .ok (.aload_n 0, 1) := by decide +kernel
theorem dX8_night_30 : decode cX8_night 30 = .ok (.iconst 3, 1) := by decide +kernel
theorem dX8_night_31 : decode cX8_night 31 = .ok (.invokevirtual 63, 3) := by decide +kernel
theorem dX8_night_34 : decode cX8_night 34 = .ok (.ireturn, 1) := by decide +kernel
theorem dX8_night_35 : decode cX8_night 35 = .ok (.aload_n 0, 1) := by decide +kernel
theorem dX8_night_36 : decode cX8_night 36 = .ok (.getfield 19, 3) := by decide +kernel
theorem dX8_night_39 : decode cX8_night 39 = .ok (.invokevirtual 279, 3) := by decide +kernel
theorem dX8_night_42 : decode cX8_night 42 = .ok (.aload_n 0, 1) := by decide +kernel
theorem dX8_night_43 : decode cX8_night 43 = .ok (.getfield 26, 3) := by decide +kernel
theorem dX8_night_46 : decode cX8_night 46 = .ok (.aload_n 0, 1) := by decide +kernel
theorem dX8_night_47 : decode cX8_night 47 = .ok (.getfield 47, 3) := by decide +kernel
theorem dX8_night_50 : decode cX8_night 50 = .ok (.aload_n 0, 1) := by decide +kernel
theorem dX8_night_51 : decode cX8_night 51 = .ok (.getfield 19, 3) := by decide +kernel
theorem dX8_night_54 : decode cX8_night 54 = .ok (.iconst 0, 1) := by decide +kernel
theorem dX8_night_55 : decode cX8_night 55 = .ok (.invokevirtual 165, 3) := by decide +kernel
theorem dX8_night_58 : decode cX8_night 58 = .ok (.aload_n 0, 1) := by decide +kernel
theorem dX8_night_59 : decode cX8_night 59 = .ok (.getfield 26, 3) := by decide +kernel
theorem dX8_night_62 : decode cX8_night 62 = .ok (.iconst 0, 1) := by decide +kernel
theorem dX8_night_63 : decode cX8_night 63 = .ok (.invokevirtual 188, 3) := by decide +kernel
theorem dX8_night_66 : decode cX8_night 66 = .ok (.iconst 0, 1) := by decide +kernel
theorem dX8_night_67 : decode cX8_night 67 = .ok (.istore_n 1, 1) := by decide +kernel
theorem dX8_night_68 : decode cX8_night 68 = .ok (.iload_n 1, 1) := by decide +kernel
theorem dX8_night_69 : decode cX8_night 69 = .ok (.aload_n 0, 1) := by decide +kernel
theorem dX8_night_70 : decode cX8_night 70 = .ok (.getfield 47, 3) := by decide +kernel
theorem dX8_night_73 : decode cX8_night 73 = .ok (.getfield 106, 3) := by decide +kernel
theorem dX8_night_76 : decode cX8_night 76 = .ok (.if_icmp .ge 25, 3) := by decide +kernel
theorem dX8_night_79 : decode cX8_night 79 = .ok (.aload_n 0, 1) := by decide +kernel
theorem dX8_night_80 : decode cX8_night 80 = .ok (.getfield 19, 3) := by decide +kernel
theorem dX8_night_83 : decode cX8_night 83 = .ok (.iload_n 1, 1) := by decide +kernel
theorem dX8_night_84 : decode cX8_night 84 = .ok (.aload_n 0, 1) := by decide +kernel
theorem dX8_night_85 : decode cX8_night 85 = .ok (.getfield 26, 3) := by decide +kernel
theorem dX8_night_88 : decode cX8_night 88 = .ok (.iload_n 1, 1) := by decide +kernel
theorem dX8_night_89 : decode cX8_night 89 = .ok (.invokevirtual 184, 3) := by decide +kernel
theorem dX8_night_92 : decode cX8_night 92 = .ok (.invokevirtual 285, 3) := by decide +kernel
theorem dX8_night_95 : decode cX8_night 95 = .ok (.iinc 1 1, 3) := by decide +kernel
theorem dX8_night_98 : decode cX8_night 98 = .ok (.goto (-30), 3) := by decide +kernel
theorem dX8_night_101 : decode cX8_night 101 = .ok (.aload_n 0, 1) := by decide +kernel
theorem dX8_night_102 : decode cX8_night 102 = .ok (.getfield 19, 3) := by decide +kernel
theorem dX8_night_105 : decode cX8_night 105 = .ok (.invokevirtual 291, 3) := by decide +kernel
theorem dX8_night_108 : decode cX8_night 108 = .ok (.aload_n 0, 1) := by decide +kernel
theorem dX8_night_109 : decode cX8_night 109 = .ok (.aload_n 0, 1) := by decide +kernel
theorem dX8_night_110 : decode cX8_night 110 = .ok (.getfield 26, 3) := by decide +kernel
theorem dX8_night_113 : decode cX8_night 113 = .ok (.invokevirtual 172, 3) := by decide +kernel
theorem dX8_night_116 : decode cX8_night 116 = .ok (.invokevirtual 97, 3) := by decide +kernel
theorem dX8_night_119 : decode cX8_night 119 = .ok (.ireturn, 1) := by decide +kernel
theorem dX8_undo_0 : decode cX8_undo 0 = .ok (.aload_n 0, 1) := by decide +kernel
theorem dX8_undo_1 : decode cX8_undo 1 = .ok (.aload_n 0, 1) := by decide +kernel
theorem dX8_undo_2 : decode cX8_undo 2 = .ok (.getfield 19, 3) := by decide +kernel
theorem dX8_undo_5 : decode cX8_undo 5 = .ok (.invokevirtual 294, 3) := by decide +kernel
theorem dX8_undo_8 : decode cX8_undo 8 = .ok (.ifCond .eq 7, 3) := by decide +kernel
theorem dX8_undo_11 : decode cX8_undo 11 = .ok (.iconst 0, 1) := by decide +kernel
theorem dX8_undo_12 : decode cX8_undo 12 = .ok (.goto 5, 3) := by decide +kernel
theorem dX8_undo_15 : decode cX8_undo 15 = .ok (.bipush 6, 2) := by decide +kernel
theorem dX8_undo_17 : decode cX8_undo 17 = .ok (.invokevirtual 276, 3) := by decide +kernel
theorem dX8_undo_20 : decode cX8_undo 20 = .ok (.ireturn, 1) := by decide +kernel
theorem dX8_image_0 : decode cX8_image 0 = .ok (.aload_n 0, 1) := by decide +kernel
theorem dX8_image_1 : decode cX8_image 1 = .ok (.getfield 47, 3) := by decide +kernel
theorem dX8_image_4 : decode cX8_image 4 = .ok (.invokevirtual 161, 3) := by decide +kernel
theorem dX8_image_7 : decode cX8_image 7 = .ok (.ifCond .ne 9, 3) := by decide +kernel
theorem dX8_image_10 : decode cX8_image 10 = .ok (.aload_n 0, 1) := by decide +kernel
theorem dX8_image_11 : decode cX8_image 11 = .ok (.iconst 1, 1) := by decide +kernel
theorem dX8_image_12 : decode cX8_image 12 = .ok (.invokevirtual 63, 3) := by decide +kernel
theorem dX8_image_15 : decode cX8_image 15 = .ok (.ireturn, 1) := by decide +kernel
theorem dX8_image_16 : decode cX8_image 16 = .ok (.aload_n 0, 1) := by decide +kernel
theorem dX8_image_17 : decode cX8_image 17 = .ok (.getfield 19, 3) := by decide +kernel
theorem dX8_image_20 : decode cX8_image 20 = .ok (.invokevirtual 297, 3) := by decide +kernel
theorem dX8_image_23 : decode cX8_image 23 = .ok (.istore_n 1, 1) := by decide +kernel
theorem dX8_image_24 : decode cX8_image 24 = .ok (.iload_n 1, 1) := by decide +kernel
theorem dX8_image_25 : decode cX8_image 25 = .ok (.ifCond .ge 11, 3) := by decide +kernel
theorem dX8_image_28 : decode cX8_image 28 = .ok (.aload_n 0, 1) := by decide +kernel
theorem dX8_image_29 : decode cX8_image 29 = .ok (.iconst 3, 1) := by decide +kernel
theorem dX8_image_30 : decode cX8_image 30 = .ok (.invokevirtual 63, 3) := by decide +kernel
theorem dX8_image_33 : decode cX8_image 33 = .ok (.goto 8, 3) := by decide +kernel
theorem dX8_image_36 : decode cX8_image 36 = .ok (.aload_n 0, 1) := by decide +kernel
theorem dX8_image_37 : decode cX8_image 37 = .ok (.iload_n 1, 1) := by decide +kernel
theorem dX8_image_38 : decode cX8_image 38 = .ok (.invokevirtual 97, 3) := by decide +kernel
theorem dX8_image_41 : decode cX8_image 41 = .ok (.ireturn, 1) := by decide +kernel
theorem dX8_back_0 : decode cX8_back 0 = .ok (.aload_n 0, 1) := by decide +kernel
theorem dX8_back_1 : decode cX8_back 1 = .ok (.aload_n 0, 1) := by decide +kernel
theorem dX8_back_2 : decode cX8_back 2 = .ok (.getfield 19, 3) := by decide +kernel
theorem dX8_back_5 : decode cX8_back 5 = .ok (.iload_n 1, 1) := by decide +kernel
theorem dX8_back_6 : decode cX8_back 6 = .ok (.invokevirtual 300, 3) := by decide +kernel
theorem dX8_back_9 : decode cX8_back 9 = .ok (.ifCond .eq 7, 3) := by decide +kernel
theorem dX8_back_12 : decode cX8_back 12 = .ok (.iconst 0, 1) := by decide +kernel
theorem dX8_back_13 : decode cX8_back 13 = .ok (.goto 4, 3) := by decide +kernel
theorem dX8_back_16 : decode cX8_back 16 = .ok (.iconst 1, 1) := by decide +kernel
theorem dX8_back_17 : decode cX8_back 17 = .ok (.invokevirtual 276, 3) := by decide +kernel
theorem dX8_back_20 : decode cX8_back 20 = .ok (.ireturn, 1) := by decide +kernel
theorem dX8_led_0 : decode cX8_led 0 = .ok (.iload_n 1, 1) := by decide +kernel
theorem dX8_led_1 : decode cX8_led 1 = .ok (.istore_n 2, 1) := by decide +kernel
theorem dX8_led_2 : decode cX8_led 2 = .ok (.iconst 0, 1) := by decide +kernel
theorem dX8_led_3 : decode cX8_led 3 = .ok (.istore_n 3, 1) := by decide +kernel
theorem dX8_led_4 : decode cX8_led 4 = .ok (.iload_n 3, 1) := by decide +kernel
theorem dX8_led_5 : decode cX8_led 5 = .ok (.aload_n 0, 1) := by decide +kernel
theorem dX8_led_6 : decode cX8_led 6 = .ok (.getfield 47, 3) := by decide +kernel
theorem dX8_led_9 : decode cX8_led 9 = .ok (.getfield 106, 3) := by decide +kernel
theorem dX8_led_12 : decode cX8_led 12 = .ok (.if_icmp .ge 33, 3) := by decide +kernel
theorem dX8_led_15 : decode cX8_led 15 = .ok (.iload_n 2, 1) := by decide +kernel
theorem dX8_led_16 : decode cX8_led 16 = .ok (.ifCond .lt 29, 3) := by decide +kernel
theorem dX8_led_19 : decode cX8_led 19 = .ok (.aload_n 0, 1) := by decide +kernel
theorem dX8_led_20 : decode cX8_led 20 = .ok (.getfield 19, 3) := by decide +kernel
theorem dX8_led_23 : decode cX8_led 23 = .ok (.iload_n 3, 1) := by decide +kernel
theorem dX8_led_24 : decode cX8_led 24 = .ok (.invokevirtual 142, 3) := by decide +kernel
theorem dX8_led_27 : decode cX8_led 27 = .ok (.ifCond .eq 12, 3) := by decide +kernel
theorem dX8_led_30 : decode cX8_led 30 = .ok (.iload_n 2, 1) := by decide +kernel
theorem dX8_led_31 : decode cX8_led 31 = .ok (.ifCond .ne 5, 3) := by decide +kernel
theorem dX8_led_34 : decode cX8_led 34 = .ok (.iload_n 3, 1) := by decide +kernel
theorem dX8_led_35 : decode cX8_led 35 = .ok (.ireturn, 1) := by decide +kernel
theorem dX8_led_36 : decode cX8_led 36 = .ok (.iinc 2 (-1), 3) := by decide +kernel
theorem dX8_led_39 : decode cX8_led 39 = .ok (.iinc 3 1, 3) := by decide +kernel
theorem dX8_led_42 : decode cX8_led 42 = .ok (.goto (-38), 3) := by decide +kernel
theorem dX8_led_45 : decode cX8_led 45 = .ok (.new 303, 3) := by decide +kernel
theorem dX8_led_48 : decode cX8_led 48 = .ok (.dup, 1) := by decide +kernel
theorem dX8_led_49 : decode cX8_led 49 = .ok (.ldc_w 305, 3) := by decide +kernel
theorem dX8_led_52 : decode cX8_led 52 = .ok (.invokespecial 307, 3) := by decide +kernel
theorem dX8_led_55 : decode cX8_led 55 = .ok (.athrow, 1) := by decide +kernel
theorem dX8_size_0 : decode cX8_size 0 = .ok (.iload_n 1, 1) := by decide +kernel
theorem dX8_size_1 : decode cX8_size 1 = .ok (.tableswitch 174 0 12 #[67, 75, 83, 91, 99, 107, 115, 123, 134, 142, 150, 158, 166], 67) := by decide +kernel
theorem dX8_size_68 : decode cX8_size 68 = .ok (.aload_n 0, 1) := by decide +kernel
theorem dX8_size_69 : decode cX8_size 69 = .ok (.getfield 47, 3) := by decide +kernel
theorem dX8_size_72 : decode cX8_size 72 = .ok (.getfield 310, 3) := by decide +kernel
theorem dX8_size_75 : decode cX8_size 75 = .ok (.ireturn, 1) := by decide +kernel
theorem dX8_size_76 : decode cX8_size 76 = .ok (.aload_n 0, 1) := by decide +kernel
theorem dX8_size_77 : decode cX8_size 77 = .ok (.getfield 47, 3) := by decide +kernel
theorem dX8_size_80 : decode cX8_size 80 = .ok (.getfield 313, 3) := by decide +kernel
theorem dX8_size_83 : decode cX8_size 83 = .ok (.ireturn, 1) := by decide +kernel
theorem dX8_size_84 : decode cX8_size 84 = .ok (.aload_n 0, 1) := by decide +kernel
theorem dX8_size_85 : decode cX8_size 85 = .ok (.getfield 47, 3) := by decide +kernel
theorem dX8_size_88 : decode cX8_size 88 = .ok (.getfield 94, 3) := by decide +kernel
theorem dX8_size_91 : decode cX8_size 91 = .ok (.ireturn, 1) := by decide +kernel
theorem dX8_size_92 : decode cX8_size 92 = .ok (.aload_n 0, 1) := by decide +kernel
theorem dX8_size_93 : decode cX8_size 93 = .ok (.getfield 47, 3) := by decide +kernel
theorem dX8_size_96 : decode cX8_size 96 = .ok (.invokevirtual 316, 3) := by decide +kernel
theorem dX8_size_99 : decode cX8_size 99 = .ok (.ireturn, 1) := by decide +kernel
theorem dX8_size_100 : decode cX8_size 100 = .ok (.aload_n 0, 1) := by decide +kernel
theorem dX8_size_101 : decode cX8_size 101 = .ok (.getfield 47, 3) := by decide +kernel
theorem dX8_size_104 : decode cX8_size 104 = .ok (.getfield 106, 3) := by decide +kernel
theorem dX8_size_107 : decode cX8_size 107 = .ok (.ireturn, 1) := by decide +kernel
theorem dX8_size_108 : decode cX8_size 108 = .ok (.aload_n 0, 1) := by decide +kernel
theorem dX8_size_109 : decode cX8_size 109 = .ok (.getfield 47, 3) := by decide +kernel
theorem dX8_size_112 : decode cX8_size 112 = .ok (.getfield 319, 3) := by decide +kernel
theorem dX8_size_115 : decode cX8_size 115 = .ok (.ireturn, 1) := by decide +kernel
theorem dX8_size_116 : decode cX8_size 116 = .ok (.aload_n 0, 1) := by decide +kernel
theorem dX8_size_117 : decode cX8_size 117 = .ok (.getfield 47, 3) := by decide +kernel
theorem dX8_size_120 : decode cX8_size 120 = .ok (.getfield 322, 3) := by decide +kernel
theorem dX8_size_123 : decode cX8_size 123 = .ok (.ireturn, 1) := by decide +kernel
theorem dX8_size_124 : decode cX8_size 124 = .ok (.aload_n 0, 1) := by decide +kernel
theorem dX8_size_125 : decode cX8_size 125 = .ok (.getfield 47, 3) := by decide +kernel
theorem dX8_size_128 : decode cX8_size 128 = .ok (.getfield 221, 3) := by decide +kernel
theorem dX8_size_131 : decode cX8_size 131 = .ok (.invokevirtual 325, 3) := by decide +kernel
theorem dX8_size_134 : decode cX8_size 134 = .ok (.ireturn, 1) := by decide +kernel
theorem dX8_size_135 : decode cX8_size 135 = .ok (.aload_n 0, 1) := by decide +kernel
theorem dX8_size_136 : decode cX8_size 136 = .ok (.getfield 47, 3) := by decide +kernel
theorem dX8_size_139 : decode cX8_size 139 = .ok (.getfield 326, 3) := by decide +kernel
theorem dX8_size_142 : decode cX8_size 142 = .ok (.ireturn, 1) := by decide +kernel
theorem dX8_size_143 : decode cX8_size 143 = .ok (.aload_n 0, 1) := by decide +kernel
theorem dX8_size_144 : decode cX8_size 144 = .ok (.getfield 19, 3) := by decide +kernel
theorem dX8_size_147 : decode cX8_size 147 = .ok (.invokevirtual 288, 3) := by decide +kernel
theorem dX8_size_150 : decode cX8_size 150 = .ok (.ireturn, 1) := by decide +kernel
theorem dX8_size_151 : decode cX8_size 151 = .ok (.aload_n 0, 1) := by decide +kernel
theorem dX8_size_152 : decode cX8_size 152 = .ok (.getfield 19, 3) := by decide +kernel
theorem dX8_size_155 : decode cX8_size 155 = .ok (.invokevirtual 329, 3) := by decide +kernel
theorem dX8_size_158 : decode cX8_size 158 = .ok (.ireturn, 1) := by decide +kernel
theorem dX8_size_159 : decode cX8_size 159 = .ok (.aload_n 0, 1) := by decide +kernel
theorem dX8_size_160 : decode cX8_size 160 = .ok (.getfield 19, 3) := by decide +kernel
theorem dX8_size_163 : decode cX8_size 163 = .ok (.invokevirtual 332, 3) := by decide +kernel
theorem dX8_size_166 : decode cX8_size 166 = .ok (.ireturn, 1) := by decide +kernel
theorem dX8_size_167 : decode cX8_size 167 = .ok (.aload_n 0, 1) := by decide +kernel
theorem dX8_size_168 : decode cX8_size 168 = .ok (.getfield 12, 3) := by decide +kernel
theorem dX8_size_171 : decode cX8_size 171 = .ok (.invokevirtual 59, 3) := by decide +kernel
theorem dX8_size_174 : decode cX8_size 174 = .ok (.ireturn, 1) := by decide +kernel
theorem dX8_size_175 : decode cX8_size 175 = .ok (.iconst (-1), 1) := by decide +kernel
theorem dX8_size_176 : decode cX8_size 176 = .ok (.ireturn, 1) := by decide +kernel
theorem dX8_trouble_0 : decode cX8_trouble 0 = .ok (.aload_n 0, 1) := by decide +kernel
theorem dX8_trouble_1 : decode cX8_trouble 1 = .ok (.getfield 100, 3) := by decide +kernel
theorem dX8_trouble_4 : decode cX8_trouble 4 = .ok (.ireturn, 1) := by decide +kernel
theorem dX8_answer_0 : decode cX8_answer 0 = .ok (.aload_n 0, 1) := by decide +kernel
theorem dX8_answer_1 : decode cX8_answer 1 = .ok (.iconst 0, 1) := by decide +kernel
theorem dX8_answer_2 : decode cX8_answer 2 = .ok (.putfield 100, 3) := by decide +kernel
theorem dX8_answer_5 : decode cX8_answer 5 = .ok (.iload_n 1, 1) := by decide +kernel
theorem dX8_answer_6 : decode cX8_answer 6 = .ok (.ireturn, 1) := by decide +kernel
theorem dX8_refuse_0 : decode cX8_refuse 0 = .ok (.aload_n 0, 1) := by decide +kernel
theorem dX8_refuse_1 : decode cX8_refuse 1 = .ok (.iload_n 1, 1) := by decide +kernel
theorem dX8_refuse_2 : decode cX8_refuse 2 = .ok (.putfield 100, 3) := by decide +kernel
theorem dX8_refuse_5 : decode cX8_refuse 5 = .ok (.iconst (-1), 1) := by decide +kernel
theorem dX8_refuse_6 : decode cX8_refuse 6 = .ok (.ireturn, 1) := by decide +kernel
theorem dX8_isDone_0 : decode cX8_isDone 0 = .ok (.aload_n 0, 1) := by decide +kernel
theorem dX8_isDone_1 : decode cX8_isDone 1 = .ok (.iload_n 1, 1) := by decide +kernel
theorem dX8_isDone_2 : decode cX8_isDone 2 = .ok (.putfield 100, 3) := by decide +kernel
theorem dX8_isDone_5 : decode cX8_isDone 5 = .ok (.iload_n 1, 1) := by decide +kernel
theorem dX8_isDone_6 : decode cX8_isDone 6 = .ok (.ifCond .ne 7, 3) := by decide +kernel
theorem dX8_isDone_9 : decode cX8_isDone 9 = .ok (.iconst 1, 1) := by decide +kernel
theorem dX8_isDone_10 : decode cX8_isDone 10 = .ok (.goto 4, 3) := by decide +kernel
theorem dX8_isDone_13 : decode cX8_isDone 13 = .ok (.iconst 0, 1) := by decide +kernel
theorem dX8_isDone_14 : decode cX8_isDone 14 = .ok (.ireturn, 1) := by decide +kernel
theorem dX8_areTwo_0 : decode cX8_areTwo 0 = .ok (.aload_n 0, 1) := by decide +kernel
theorem dX8_areTwo_1 : decode cX8_areTwo 1 = .ok (.getfield 47, 3) := by decide +kernel
theorem dX8_areTwo_4 : decode cX8_areTwo 4 = .ok (.iload_n 1, 1) := by decide +kernel
theorem dX8_areTwo_5 : decode cX8_areTwo 5 = .ok (.invokevirtual 124, 3) := by decide +kernel
theorem dX8_areTwo_8 : decode cX8_areTwo 8 = .ok (.ifCond .eq 23, 3) := by decide +kernel
theorem dX8_areTwo_11 : decode cX8_areTwo 11 = .ok (.aload_n 0, 1) := by decide +kernel
theorem dX8_areTwo_12 : decode cX8_areTwo 12 = .ok (.getfield 47, 3) := by decide +kernel
theorem dX8_areTwo_15 : decode cX8_areTwo 15 = .ok (.iload_n 2, 1) := by decide +kernel
theorem dX8_areTwo_16 : decode cX8_areTwo 16 = .ok (.invokevirtual 124, 3) := by decide +kernel
theorem dX8_areTwo_19 : decode cX8_areTwo 19 = .ok (.ifCond .eq 12, 3) := by decide +kernel
theorem dX8_areTwo_22 : decode cX8_areTwo 22 = .ok (.iload_n 1, 1) := by decide +kernel
theorem dX8_areTwo_23 : decode cX8_areTwo 23 = .ok (.iload_n 2, 1) := by decide +kernel
theorem dX8_areTwo_24 : decode cX8_areTwo 24 = .ok (.if_icmp .eq 7, 3) := by decide +kernel
theorem dX8_areTwo_27 : decode cX8_areTwo 27 = .ok (.iconst 1, 1) := by decide +kernel
theorem dX8_areTwo_28 : decode cX8_areTwo 28 = .ok (.goto 4, 3) := by decide +kernel
theorem dX8_areTwo_31 : decode cX8_areTwo 31 = .ok (.iconst 0, 1) := by decide +kernel
theorem dX8_areTwo_32 : decode cX8_areTwo 32 = .ok (.ireturn, 1) := by decide +kernel
theorem dX8_whyNoWants_0 : decode cX8_whyNoWants 0 = .ok (.aload_n 0, 1) := by decide +kernel
theorem dX8_whyNoWants_1 : decode cX8_whyNoWants 1 = .ok (.getfield 47, 3) := by decide +kernel
theorem dX8_whyNoWants_4 : decode cX8_whyNoWants 4 = .ok (.invokevirtual 161, 3) := by decide +kernel
theorem dX8_whyNoWants_7 : decode cX8_whyNoWants 7 = .ok (.ifCond .ne 5, 3) := by decide +kernel
theorem dX8_whyNoWants_10 : decode cX8_whyNoWants 10 = .ok (.iconst 1, 1) := by decide +kernel
theorem dX8_whyNoWants_11 : decode cX8_whyNoWants 11 = .ok (.ireturn, 1) := by decide +kernel
theorem dX8_whyNoWants_12 : decode cX8_whyNoWants 12 = .ok (.iload_n 1, 1) := by decide +kernel
theorem dX8_whyNoWants_13 : decode cX8_whyNoWants 13 = .ok (.ifCond .lt 9, 3) := by decide +kernel
theorem dX8_whyNoWants_16 : decode cX8_whyNoWants 16 = .ok (.iload_n 1, 1) := by decide +kernel
theorem dX8_whyNoWants_17 : decode cX8_whyNoWants 17 = .ok (.bipush 60, 2) := by decide +kernel
theorem dX8_whyNoWants_19 : decode cX8_whyNoWants 19 = .ok (.if_icmp .le 7, 3) := by decide +kernel
theorem dX8_whyNoWants_22 : decode cX8_whyNoWants 22 = .ok (.iconst 2, 1) := by decide +kernel
theorem dX8_whyNoWants_23 : decode cX8_whyNoWants 23 = .ok (.goto 4, 3) := by decide +kernel
theorem dX8_whyNoWants_26 : decode cX8_whyNoWants 26 = .ok (.iconst 0, 1) := by decide +kernel
theorem dX8_whyNoWants_27 : decode cX8_whyNoWants 27 = .ok (.ireturn, 1) := by decide +kernel
theorem dX8_whyNoHeirs_0 : decode cX8_whyNoHeirs 0 = .ok (.aload_n 0, 1) := by decide +kernel
theorem dX8_whyNoHeirs_1 : decode cX8_whyNoHeirs 1 = .ok (.getfield 47, 3) := by decide +kernel
theorem dX8_whyNoHeirs_4 : decode cX8_whyNoHeirs 4 = .ok (.invokevirtual 161, 3) := by decide +kernel
theorem dX8_whyNoHeirs_7 : decode cX8_whyNoHeirs 7 = .ok (.ifCond .ne 5, 3) := by decide +kernel
theorem dX8_whyNoHeirs_10 : decode cX8_whyNoHeirs 10 = .ok (.iconst 1, 1) := by decide +kernel
theorem dX8_whyNoHeirs_11 : decode cX8_whyNoHeirs 11 = .ok (.ireturn, 1) := by decide +kernel
theorem dX8_whyNoHeirs_12 : decode cX8_whyNoHeirs 12 = .ok (.iload_n 1, 1) := by decide +kernel
theorem dX8_whyNoHeirs_13 : decode cX8_whyNoHeirs 13 = .ok (.ifCond .lt 9, 3) := by decide +kernel
theorem dX8_whyNoHeirs_16 : decode cX8_whyNoHeirs 16 = .ok (.iload_n 1, 1) := by decide +kernel
theorem dX8_whyNoHeirs_17 : decode cX8_whyNoHeirs 17 = .ok (.bipush 99, 2) := by decide +kernel
theorem dX8_whyNoHeirs_19 : decode cX8_whyNoHeirs 19 = .ok (.if_icmp .le 7, 3) := by decide +kernel
theorem dX8_whyNoHeirs_22 : decode cX8_whyNoHeirs 22 = .ok (.iconst 2, 1) := by decide +kernel
theorem dX8_whyNoHeirs_23 : decode cX8_whyNoHeirs 23 = .ok (.goto 4, 3) := by decide +kernel
theorem dX8_whyNoHeirs_26 : decode cX8_whyNoHeirs 26 = .ok (.iconst 0, 1) := by decide +kernel
theorem dX8_whyNoHeirs_27 : decode cX8_whyNoHeirs 27 = .ok (.ireturn, 1) := by decide +kernel
theorem dX8_areDampNumbers_0 : decode cX8_areDampNumbers 0 = .ok (.iload_n 0, 1) := by decide +kernel
theorem dX8_areDampNumbers_1 : decode cX8_areDampNumbers 1 = .ok (.ifCond .lt 24, 3) := by decide +kernel
theorem dX8_areDampNumbers_4 : decode cX8_areDampNumbers 4 = .ok (.iload_n 0, 1) := by decide +kernel
theorem dX8_areDampNumbers_5 : decode cX8_areDampNumbers 5 = .ok (.ldc_w 335, 3) := by decide +kernel
theorem dX8_areDampNumbers_8 : decode cX8_areDampNumbers 8 = .ok (.if_icmp .gt 17, 3) := by decide +kernel
theorem dX8_areDampNumbers_11 : decode cX8_areDampNumbers 11 = .ok (.iload_n 1, 1) := by decide +kernel
theorem dX8_areDampNumbers_12 : decode cX8_areDampNumbers 12 = .ok (.ifCond .lt 13, 3) := by decide +kernel
theorem dX8_areDampNumbers_15 : decode cX8_areDampNumbers 15 = .ok (.iload_n 1, 1) := by decide +kernel
theorem dX8_areDampNumbers_16 : decode cX8_areDampNumbers 16 = .ok (.bipush 60, 2) := by decide +kernel
theorem dX8_areDampNumbers_18 : decode cX8_areDampNumbers 18 = .ok (.if_icmp .gt 7, 3) := by decide +kernel
theorem dX8_areDampNumbers_21 : decode cX8_areDampNumbers 21 = .ok (.iconst 1, 1) := by decide +kernel
theorem dX8_areDampNumbers_22 : decode cX8_areDampNumbers 22 = .ok (.goto 4, 3) := by decide +kernel
theorem dX8_areDampNumbers_25 : decode cX8_areDampNumbers 25 = .ok (.iconst 0, 1) := by decide +kernel
theorem dX8_areDampNumbers_26 : decode cX8_areDampNumbers 26 = .ok (.ireturn, 1) := by decide +kernel
theorem dX8_cellAt_0 : decode cX8_cellAt 0 = .ok (.iload_n 0, 1) := by decide +kernel
theorem dX8_cellAt_1 : decode cX8_cellAt 1 = .ok (.bipush 9, 2) := by decide +kernel
theorem dX8_cellAt_3 : decode cX8_cellAt 3 = .ok (.imul, 1) := by decide +kernel
theorem dX8_cellAt_4 : decode cX8_cellAt 4 = .ok (.iload_n 1, 1) := by decide +kernel
theorem dX8_cellAt_5 : decode cX8_cellAt 5 = .ok (.iadd, 1) := by decide +kernel
theorem dX8_cellAt_6 : decode cX8_cellAt 6 = .ok (.ireturn, 1) := by decide +kernel
theorem dX8_ringOfCell_0 : decode cX8_ringOfCell 0 = .ok (.iload_n 0, 1) := by decide +kernel
theorem dX8_ringOfCell_1 : decode cX8_ringOfCell 1 = .ok (.bipush 9, 2) := by decide +kernel
theorem dX8_ringOfCell_3 : decode cX8_ringOfCell 3 = .ok (.idiv, 1) := by decide +kernel
theorem dX8_ringOfCell_4 : decode cX8_ringOfCell 4 = .ok (.ireturn, 1) := by decide +kernel
theorem dX8_placeOfCell_0 : decode cX8_placeOfCell 0 = .ok (.iload_n 0, 1) := by decide +kernel
theorem dX8_placeOfCell_1 : decode cX8_placeOfCell 1 = .ok (.bipush 9, 2) := by decide +kernel
theorem dX8_placeOfCell_3 : decode cX8_placeOfCell 3 = .ok (.irem, 1) := by decide +kernel
theorem dX8_placeOfCell_4 : decode cX8_placeOfCell 4 = .ok (.ireturn, 1) := by decide +kernel
theorem dX8_tenfold_0 : decode cX8_tenfold 0 = .ok (.bipush 10, 2) := by decide +kernel
theorem dX8_tenfold_2 : decode cX8_tenfold 2 = .ok (.iload_n 0, 1) := by decide +kernel
theorem dX8_tenfold_3 : decode cX8_tenfold 3 = .ok (.invokestatic 133, 3) := by decide +kernel
theorem dX8_tenfold_6 : decode cX8_tenfold 6 = .ok (.imul, 1) := by decide +kernel
theorem dX8_tenfold_7 : decode cX8_tenfold 7 = .ok (.iload_n 0, 1) := by decide +kernel
theorem dX8_tenfold_8 : decode cX8_tenfold 8 = .ok (.invokestatic 136, 3) := by decide +kernel
theorem dX8_tenfold_11 : decode cX8_tenfold 11 = .ok (.iadd, 1) := by decide +kernel
theorem dX8_tenfold_12 : decode cX8_tenfold 12 = .ok (.ireturn, 1) := by decide +kernel
theorem dX9_init_0 : decode cX9_init 0 = .ok (.aload_n 0, 1) := by decide +kernel
theorem dX9_init_1 : decode cX9_init 1 = .ok (.invokespecial 1, 3) := by decide +kernel
theorem dX9_init_4 : decode cX9_init 4 = .ok (.aload_n 0, 1) := by decide +kernel
theorem dX9_init_5 : decode cX9_init 5 = .ok (.sipush 900, 3) := by decide +kernel
theorem dX9_init_8 : decode cX9_init 8 = .ok (.newarray .int, 2) := by decide +kernel
theorem dX9_init_10 : decode cX9_init 10 = .ok (.putfield 7, 3) := by decide +kernel
theorem dX9_init_13 : decode cX9_init 13 = .ok (.aload_n 0, 1) := by decide +kernel
theorem dX9_init_14 : decode cX9_init 14 = .ok (.iconst (-1), 1) := by decide +kernel
theorem dX9_init_15 : decode cX9_init 15 = .ok (.putfield 13, 3) := by decide +kernel
theorem dX9_init_18 : decode cX9_init 18 = .ok (.aload_n 0, 1) := by decide +kernel
theorem dX9_init_19 : decode cX9_init 19 = .ok (.bipush 8, 2) := by decide +kernel
theorem dX9_init_21 : decode cX9_init 21 = .ok (.newarray .int, 2) := by decide +kernel
theorem dX9_init_23 : decode cX9_init 23 = .ok (.putfield 17, 3) := by decide +kernel
theorem dX9_init_26 : decode cX9_init 26 = .ok (.aload_n 0, 1) := by decide +kernel
theorem dX9_init_27 : decode cX9_init 27 = .ok (.sipush 224, 3) := by decide +kernel
theorem dX9_init_30 : decode cX9_init 30 = .ok (.newarray .int, 2) := by decide +kernel
theorem dX9_init_32 : decode cX9_init 32 = .ok (.putfield 20, 3) := by decide +kernel
theorem dX9_init_35 : decode cX9_init 35 = .ok (.aload_n 0, 1) := by decide +kernel
theorem dX9_init_36 : decode cX9_init 36 = .ok (.sipush 224, 3) := by decide +kernel
theorem dX9_init_39 : decode cX9_init 39 = .ok (.newarray .int, 2) := by decide +kernel
theorem dX9_init_41 : decode cX9_init 41 = .ok (.putfield 23, 3) := by decide +kernel
theorem dX9_init_44 : decode cX9_init 44 = .ok (.aload_n 0, 1) := by decide +kernel
theorem dX9_init_45 : decode cX9_init 45 = .ok (.bipush 9, 2) := by decide +kernel
theorem dX9_init_47 : decode cX9_init 47 = .ok (.newarray .int, 2) := by decide +kernel
theorem dX9_init_49 : decode cX9_init 49 = .ok (.putfield 26, 3) := by decide +kernel
theorem dX9_init_52 : decode cX9_init 52 = .ok (.aload_n 0, 1) := by decide +kernel
theorem dX9_init_53 : decode cX9_init 53 = .ok (.sipush 144, 3) := by decide +kernel
theorem dX9_init_56 : decode cX9_init 56 = .ok (.newarray .int, 2) := by decide +kernel
theorem dX9_init_58 : decode cX9_init 58 = .ok (.putfield 29, 3) := by decide +kernel
theorem dX9_init_61 : decode cX9_init 61 = .ok (.aload_n 0, 1) := by decide +kernel
theorem dX9_init_62 : decode cX9_init 62 = .ok (.bipush 27, 2) := by decide +kernel
theorem dX9_init_64 : decode cX9_init 64 = .ok (.newarray .int, 2) := by decide +kernel
theorem dX9_init_66 : decode cX9_init 66 = .ok (.putfield 32, 3) := by decide +kernel
theorem dX9_init_69 : decode cX9_init 69 = .ok (.aload_n 0, 1) := by decide +kernel
theorem dX9_init_70 : decode cX9_init 70 = .ok (.bipush 9, 2) := by decide +kernel
theorem dX9_init_72 : decode cX9_init 72 = .ok (.newarray .int, 2) := by decide +kernel
theorem dX9_init_74 : decode cX9_init 74 = .ok (.putfield 35, 3) := by decide +kernel
theorem dX9_init_77 : decode cX9_init 77 = .ok (.aload_n 0, 1) := by decide +kernel
theorem dX9_init_78 : decode cX9_init 78 = .ok (.bipush 49, 2) := by decide +kernel
theorem dX9_init_80 : decode cX9_init 80 = .ok (.newarray .int, 2) := by decide +kernel
theorem dX9_init_82 : decode cX9_init 82 = .ok (.putfield 38, 3) := by decide +kernel
theorem dX9_init_85 : decode cX9_init 85 = .ok (.aload_n 0, 1) := by decide +kernel
theorem dX9_init_86 : decode cX9_init 86 = .ok (.sipush 1200, 3) := by decide +kernel
theorem dX9_init_89 : decode cX9_init 89 = .ok (.newarray .int, 2) := by decide +kernel
theorem dX9_init_91 : decode cX9_init 91 = .ok (.putfield 41, 3) := by decide +kernel
theorem dX9_init_94 : decode cX9_init 94 = .ok (.return_, 1) := by decide +kernel
theorem dX9_thrown_0 : decode cX9_thrown 0 = .ok (.aload_n 0, 1) := by decide +kernel
theorem dX9_thrown_1 : decode cX9_thrown 1 = .ok (.getfield 44, 3) := by decide +kernel
theorem dX9_thrown_4 : decode cX9_thrown 4 = .ok (.ireturn, 1) := by decide +kernel
theorem dX9_good_0 : decode cX9_good 0 = .ok (.aload_n 0, 1) := by decide +kernel
theorem dX9_good_1 : decode cX9_good 1 = .ok (.iconst 0, 1) := by decide +kernel
theorem dX9_good_2 : decode cX9_good 2 = .ok (.putfield 44, 3) := by decide +kernel
theorem dX9_good_5 : decode cX9_good 5 = .ok (.aload_n 0, 1) := by decide +kernel
theorem dX9_good_6 : decode cX9_good 6 = .ok (.iconst 0, 1) := by decide +kernel
theorem dX9_good_7 : decode cX9_good 7 = .ok (.putfield 47, 3) := by decide +kernel
theorem dX9_good_10 : decode cX9_good 10 = .ok (.return_, 1) := by decide +kernel
theorem dX9_no_0 : decode cX9_no 0 = .ok (.aload_n 0, 1) := by decide +kernel
theorem dX9_no_1 : decode cX9_no 1 = .ok (.iload_n 1, 1) := by decide +kernel
theorem dX9_no_2 : decode cX9_no 2 = .ok (.putfield 47, 3) := by decide +kernel
theorem dX9_no_5 : decode cX9_no 5 = .ok (.iconst (-1), 1) := by decide +kernel
theorem dX9_no_6 : decode cX9_no 6 = .ok (.ireturn, 1) := by decide +kernel
theorem dX9_isNot_0 : decode cX9_isNot 0 = .ok (.aload_n 0, 1) := by decide +kernel
theorem dX9_isNot_1 : decode cX9_isNot 1 = .ok (.iload_n 1, 1) := by decide +kernel
theorem dX9_isNot_2 : decode cX9_isNot 2 = .ok (.putfield 47, 3) := by decide +kernel
theorem dX9_isNot_5 : decode cX9_isNot 5 = .ok (.iconst 0, 1) := by decide +kernel
theorem dX9_isNot_6 : decode cX9_isNot 6 = .ok (.ireturn, 1) := by decide +kernel
theorem dX9_in_0 : decode cX9_in 0 = .ok (.iload_n 0, 1) := by decide +kernel
theorem dX9_in_1 : decode cX9_in 1 = .ok (.iload_n 1, 1) := by decide +kernel
theorem dX9_in_2 : decode cX9_in 2 = .ok (.if_icmp .lt 12, 3) := by decide +kernel
theorem dX9_in_5 : decode cX9_in 5 = .ok (.iload_n 0, 1) := by decide +kernel
theorem dX9_in_6 : decode cX9_in 6 = .ok (.iload_n 2, 1) := by decide +kernel
theorem dX9_in_7 : decode cX9_in 7 = .ok (.if_icmp .gt 7, 3) := by decide +kernel
theorem dX9_in_10 : decode cX9_in 10 = .ok (.iconst 1, 1) := by decide +kernel
theorem dX9_in_11 : decode cX9_in 11 = .ok (.goto 4, 3) := by decide +kernel
theorem dX9_in_14 : decode cX9_in 14 = .ok (.iconst 0, 1) := by decide +kernel
theorem dX9_in_15 : decode cX9_in 15 = .ok (.ireturn, 1) := by decide +kernel
theorem dX9_hasBit_0 : decode cX9_hasBit 0 = .ok (.iload_n 0, 1) := by decide +kernel
theorem dX9_hasBit_1 : decode cX9_hasBit 1 = .ok (.iload_n 1, 1) := by decide +kernel
theorem dX9_hasBit_2 : decode cX9_hasBit 2 = .ok (.ishr, 1) := by decide +kernel
theorem dX9_hasBit_3 : decode cX9_hasBit 3 = .ok (.iconst 1, 1) := by decide +kernel
theorem dX9_hasBit_4 : decode cX9_hasBit 4 = .ok (.iand, 1) := by decide +kernel
theorem dX9_hasBit_5 : decode cX9_hasBit 5 = .ok (.iconst 1, 1) := by decide +kernel
theorem dX9_hasBit_6 : decode cX9_hasBit 6 = .ok (.if_icmp .ne 7, 3) := by decide +kernel
theorem dX9_hasBit_9 : decode cX9_hasBit 9 = .ok (.iconst 1, 1) := by decide +kernel
theorem dX9_hasBit_10 : decode cX9_hasBit 10 = .ok (.goto 4, 3) := by decide +kernel
theorem dX9_hasBit_13 : decode cX9_hasBit 13 = .ok (.iconst 0, 1) := by decide +kernel
theorem dX9_hasBit_14 : decode cX9_hasBit 14 = .ok (.ireturn, 1) := by decide +kernel
theorem dX9_ones_0 : decode cX9_ones 0 = .ok (.iconst 0, 1) := by decide +kernel
theorem dX9_ones_1 : decode cX9_ones 1 = .ok (.istore_n 1, 1) := by decide +kernel
theorem dX9_ones_2 : decode cX9_ones 2 = .ok (.iconst 0, 1) := by decide +kernel
theorem dX9_ones_3 : decode cX9_ones 3 = .ok (.istore_n 2, 1) := by decide +kernel
theorem dX9_ones_4 : decode cX9_ones 4 = .ok (.iload_n 2, 1) := by decide +kernel
theorem dX9_ones_5 : decode cX9_ones 5 = .ok (.bipush 8, 2) := by decide +kernel
theorem dX9_ones_7 : decode cX9_ones 7 = .ok (.if_icmp .ge 17, 3) := by decide +kernel
theorem dX9_ones_10 : decode cX9_ones 10 = .ok (.iload_n 1, 1) := by decide +kernel
theorem dX9_ones_11 : decode cX9_ones 11 = .ok (.iload_n 0, 1) := by decide +kernel
theorem dX9_ones_12 : decode cX9_ones 12 = .ok (.iload_n 2, 1) := by decide +kernel
theorem dX9_ones_13 : decode cX9_ones 13 = .ok (.ishr, 1) := by decide +kernel
theorem dX9_ones_14 : decode cX9_ones 14 = .ok (.iconst 1, 1) := by decide +kernel
theorem dX9_ones_15 : decode cX9_ones 15 = .ok (.iand, 1) := by decide +kernel
theorem dX9_ones_16 : decode cX9_ones 16 = .ok (.iadd, 1) := by decide +kernel
theorem dX9_ones_17 : decode cX9_ones 17 = .ok (.istore_n 1, 1) := by decide +kernel
theorem dX9_ones_18 : decode cX9_ones 18 = .ok (.iinc 2 1, 3) := by decide +kernel
theorem dX9_ones_21 : decode cX9_ones 21 = .ok (.goto (-17), 3) := by decide +kernel
theorem dX9_ones_24 : decode cX9_ones 24 = .ok (.iload_n 1, 1) := by decide +kernel
theorem dX9_ones_25 : decode cX9_ones 25 = .ok (.ireturn, 1) := by decide +kernel
theorem dX9_copy_0 : decode cX9_copy 0 = .ok (.iconst 0, 1) := by decide +kernel
theorem dX9_copy_1 : decode cX9_copy 1 = .ok (.istore 5, 2) := by decide +kernel
theorem dX9_copy_3 : decode cX9_copy 3 = .ok (.iload 5, 2) := by decide +kernel
theorem dX9_copy_5 : decode cX9_copy 5 = .ok (.iload 4, 2) := by decide +kernel
theorem dX9_copy_7 : decode cX9_copy 7 = .ok (.if_icmp .ge 21, 3) := by decide +kernel
theorem dX9_copy_10 : decode cX9_copy 10 = .ok (.aload_n 2, 1) := by decide +kernel
theorem dX9_copy_11 : decode cX9_copy 11 = .ok (.iload_n 3, 1) := by decide +kernel
theorem dX9_copy_12 : decode cX9_copy 12 = .ok (.iload 5, 2) := by decide +kernel
theorem dX9_copy_14 : decode cX9_copy 14 = .ok (.iadd, 1) := by decide +kernel
theorem dX9_copy_15 : decode cX9_copy 15 = .ok (.aload_n 0, 1) := by decide +kernel
theorem dX9_copy_16 : decode cX9_copy 16 = .ok (.iload_n 1, 1) := by decide +kernel
theorem dX9_copy_17 : decode cX9_copy 17 = .ok (.iload 5, 2) := by decide +kernel
theorem dX9_copy_19 : decode cX9_copy 19 = .ok (.iadd, 1) := by decide +kernel
theorem dX9_copy_20 : decode cX9_copy 20 = .ok (.iaload, 1) := by decide +kernel
theorem dX9_copy_21 : decode cX9_copy 21 = .ok (.iastore, 1) := by decide +kernel
theorem dX9_copy_22 : decode cX9_copy 22 = .ok (.iinc 5 1, 3) := by decide +kernel
theorem dX9_copy_25 : decode cX9_copy 25 = .ok (.goto (-22), 3) := by decide +kernel
theorem dX9_copy_28 : decode cX9_copy 28 = .ok (.return_, 1) := by decide +kernel
theorem dX9_feed_0 : decode cX9_feed 0 = .ok (.aload_n 0, 1) := by decide +kernel
theorem dX9_feed_1 : decode cX9_feed 1 = .ok (.iconst 0, 1) := by decide +kernel
theorem dX9_feed_2 : decode cX9_feed 2 = .ok (.putfield 44, 3) := by decide +kernel
theorem dX9_feed_5 : decode cX9_feed 5 = .ok (.aload_n 0, 1) := by decide +kernel
theorem dX9_feed_6 : decode cX9_feed 6 = .ok (.getfield 50, 3) := by decide +kernel
theorem dX9_feed_9 : decode cX9_feed 9 = .ok (.bipush 20, 2) := by decide +kernel
theorem dX9_feed_11 : decode cX9_feed 11 = .ok (.iadd, 1) := by decide +kernel
theorem dX9_feed_12 : decode cX9_feed 12 = .ok (.sipush 900, 3) := by decide +kernel
theorem dX9_feed_15 : decode cX9_feed 15 = .ok (.if_icmp .le 5, 3) := by decide +kernel
theorem dX9_feed_18 : decode cX9_feed 18 = .ok (.iconst (-1), 1) := by decide +kernel
theorem dX9_feed_19 : decode cX9_feed 19 = .ok (.ireturn, 1) := by decide +kernel
theorem dX9_feed_20 : decode cX9_feed 20 = .ok (.iconst 0, 1) := by decide +kernel
theorem dX9_feed_21 : decode cX9_feed 21 = .ok (.istore 6, 2) := by decide +kernel
theorem dX9_feed_23 : decode cX9_feed 23 = .ok (.iload 6, 2) := by decide +kernel
theorem dX9_feed_25 : decode cX9_feed 25 = .ok (.bipush 20, 2) := by decide +kernel
theorem dX9_feed_27 : decode cX9_feed 27 = .ok (.if_icmp .ge 93, 3) := by decide +kernel
theorem dX9_feed_30 : decode cX9_feed 30 = .ok (.iload 6, 2) := by decide +kernel
theorem dX9_feed_32 : decode cX9_feed 32 = .ok (.iconst 4, 1) := by decide +kernel
theorem dX9_feed_33 : decode cX9_feed 33 = .ok (.if_icmp .ge 7, 3) := by decide +kernel
theorem dX9_feed_36 : decode cX9_feed 36 = .ok (.iload_n 1, 1) := by decide +kernel
theorem dX9_feed_37 : decode cX9_feed 37 = .ok (.goto 39, 3) := by decide +kernel
theorem dX9_feed_40 : decode cX9_feed 40 = .ok (.iload 6, 2) := by decide +kernel
theorem dX9_feed_42 : decode cX9_feed 42 = .ok (.bipush 8, 2) := by decide +kernel
theorem dX9_feed_44 : decode cX9_feed 44 = .ok (.if_icmp .ge 7, 3) := by decide +kernel
theorem dX9_feed_47 : decode cX9_feed 47 = .ok (.iload_n 2, 1) := by decide +kernel
theorem dX9_feed_48 : decode cX9_feed 48 = .ok (.goto 28, 3) := by decide +kernel
theorem dX9_feed_51 : decode cX9_feed 51 = .ok (.iload 6, 2) := by decide +kernel
theorem dX9_feed_53 : decode cX9_feed 53 = .ok (.bipush 12, 2) := by decide +kernel
theorem dX9_feed_55 : decode cX9_feed 55 = .ok (.if_icmp .ge 7, 3) := by decide +kernel
theorem dX9_feed_58 : decode cX9_feed 58 = .ok (.iload_n 3, 1) := by decide +kernel
theorem dX9_feed_59 : decode cX9_feed 59 = .ok (.goto 17, 3) := by decide +kernel
theorem dX9_feed_62 : decode cX9_feed 62 = .ok (.iload 6, 2) := by decide +kernel
theorem dX9_feed_64 : decode cX9_feed 64 = .ok (.bipush 16, 2) := by decide +kernel
theorem dX9_feed_66 : decode cX9_feed 66 = .ok (.if_icmp .ge 8, 3) := by decide +kernel
theorem dX9_feed_69 : decode cX9_feed 69 = .ok (.iload 4, 2) := by decide +kernel
theorem dX9_feed_71 : decode cX9_feed 71 = .ok (.goto 5, 3) := by decide +kernel
theorem dX9_feed_74 : decode cX9_feed 74 = .ok (.iload 5, 2) := by decide +kernel
theorem dX9_feed_76 : decode cX9_feed 76 = .ok (.istore 7, 2) := by decide +kernel
theorem dX9_feed_78 : decode cX9_feed 78 = .ok (.aload_n 0, 1) := by decide +kernel
theorem dX9_feed_79 : decode cX9_feed 79 = .ok (.getfield 7, 3) := by decide +kernel
theorem dX9_feed_82 : decode cX9_feed 82 = .ok (.aload_n 0, 1) := by decide +kernel
theorem dX9_feed_83 : decode cX9_feed 83 = .ok (.getfield 50, 3) := by decide +kernel
theorem dX9_feed_86 : decode cX9_feed 86 = .ok (.iload 7, 2) := by decide +kernel
theorem dX9_feed_88 : decode cX9_feed 88 = .ok (.bipush 24, 2) := by decide +kernel
theorem dX9_feed_90 : decode cX9_feed 90 = .ok (.bipush 8, 2) := by decide +kernel
theorem dX9_feed_92 : decode cX9_feed 92 = .ok (.iload 6, 2) := by decide +kernel
theorem dX9_feed_94 : decode cX9_feed 94 = .ok (.iconst 4, 1) := by decide +kernel
theorem dX9_feed_95 : decode cX9_feed 95 = .ok (.irem, 1) := by decide +kernel
theorem dX9_feed_96 : decode cX9_feed 96 = .ok (.imul, 1) := by decide +kernel
theorem dX9_feed_97 : decode cX9_feed 97 = .ok (.isub, 1) := by decide +kernel
theorem dX9_feed_98 : decode cX9_feed 98 = .ok (.ishr, 1) := by decide +kernel
theorem dX9_feed_99 : decode cX9_feed 99 = .ok (.sipush 255, 3) := by decide +kernel
theorem dX9_feed_102 : decode cX9_feed 102 = .ok (.iand, 1) := by decide +kernel
theorem dX9_feed_103 : decode cX9_feed 103 = .ok (.iastore, 1) := by decide +kernel
theorem dX9_feed_104 : decode cX9_feed 104 = .ok (.aload_n 0, 1) := by decide +kernel
theorem dX9_feed_105 : decode cX9_feed 105 = .ok (.dup, 1) := by decide +kernel
theorem dX9_feed_106 : decode cX9_feed 106 = .ok (.getfield 50, 3) := by decide +kernel
theorem dX9_feed_109 : decode cX9_feed 109 = .ok (.iconst 1, 1) := by decide +kernel
theorem dX9_feed_110 : decode cX9_feed 110 = .ok (.iadd, 1) := by decide +kernel
theorem dX9_feed_111 : decode cX9_feed 111 = .ok (.putfield 50, 3) := by decide +kernel
theorem dX9_feed_114 : decode cX9_feed 114 = .ok (.iinc 6 1, 3) := by decide +kernel
theorem dX9_feed_117 : decode cX9_feed 117 = .ok (.goto (-94), 3) := by decide +kernel
theorem dX9_feed_120 : decode cX9_feed 120 = .ok (.aload_n 0, 1) := by decide +kernel
theorem dX9_feed_121 : decode cX9_feed 121 = .ok (.getfield 50, 3) := by decide +kernel
theorem dX9_feed_124 : decode cX9_feed 124 = .ok (.ireturn, 1) := by decide +kernel
theorem dX9_look1_0 : decode cX9_look1 0 = .ok (.iload_n 1, 1) := by decide +kernel
theorem dX9_look1_1 : decode cX9_look1 1 = .ok (.aload_n 0, 1) := by decide +kernel
theorem dX9_look1_2 : decode cX9_look1 2 = .ok (.getfield 53, 3) := by decide +kernel
theorem dX9_look1_5 : decode cX9_look1 5 = .ok (.if_icmp .ge 12, 3) := by decide +kernel
theorem dX9_look1_8 : decode cX9_look1 8 = .ok (.aload_n 0, 1) := by decide +kernel
theorem dX9_look1_9 : decode cX9_look1 9 = .ok (.getfield 7, 3) := by decide +kernel
theorem dX9_look1_12 : decode cX9_look1 12 = .ok (.iload_n 1, 1) := by decide +kernel
theorem dX9_look1_13 : decode cX9_look1 13 = .ok (.iaload, 1) := by decide +kernel
theorem dX9_look1_14 : decode cX9_look1 14 = .ok (.goto 4, 3) := by decide +kernel
theorem dX9_look1_17 : decode cX9_look1 17 = .ok (.iconst (-1), 1) := by decide +kernel
theorem dX9_look1_18 : decode cX9_look1 18 = .ok (.ireturn, 1) := by decide +kernel
theorem dX9_isSmall_0 : decode cX9_isSmall 0 = .ok (.iload_n 0, 1) := by decide +kernel
theorem dX9_isSmall_1 : decode cX9_isSmall 1 = .ok (.bipush 97, 2) := by decide +kernel
theorem dX9_isSmall_3 : decode cX9_isSmall 3 = .ok (.if_icmp .lt 13, 3) := by decide +kernel
theorem dX9_isSmall_6 : decode cX9_isSmall 6 = .ok (.iload_n 0, 1) := by decide +kernel
theorem dX9_isSmall_7 : decode cX9_isSmall 7 = .ok (.bipush 122, 2) := by decide +kernel
theorem dX9_isSmall_9 : decode cX9_isSmall 9 = .ok (.if_icmp .gt 7, 3) := by decide +kernel
theorem dX9_isSmall_12 : decode cX9_isSmall 12 = .ok (.iconst 1, 1) := by decide +kernel
theorem dX9_isSmall_13 : decode cX9_isSmall 13 = .ok (.goto 4, 3) := by decide +kernel
theorem dX9_isSmall_16 : decode cX9_isSmall 16 = .ok (.iconst 0, 1) := by decide +kernel
theorem dX9_isSmall_17 : decode cX9_isSmall 17 = .ok (.ireturn, 1) := by decide +kernel
theorem dX9_isDigit_0 : decode cX9_isDigit 0 = .ok (.iload_n 0, 1) := by decide +kernel
theorem dX9_isDigit_1 : decode cX9_isDigit 1 = .ok (.bipush 48, 2) := by decide +kernel
theorem dX9_isDigit_3 : decode cX9_isDigit 3 = .ok (.if_icmp .lt 13, 3) := by decide +kernel
theorem dX9_isDigit_6 : decode cX9_isDigit 6 = .ok (.iload_n 0, 1) := by decide +kernel
theorem dX9_isDigit_7 : decode cX9_isDigit 7 = .ok (.bipush 57, 2) := by decide +kernel
theorem dX9_isDigit_9 : decode cX9_isDigit 9 = .ok (.if_icmp .gt 7, 3) := by decide +kernel
theorem dX9_isDigit_12 : decode cX9_isDigit 12 = .ok (.iconst 1, 1) := by decide +kernel
theorem dX9_isDigit_13 : decode cX9_isDigit 13 = .ok (.goto 4, 3) := by decide +kernel
theorem dX9_isDigit_16 : decode cX9_isDigit 16 = .ok (.iconst 0, 1) := by decide +kernel
theorem dX9_isDigit_17 : decode cX9_isDigit 17 = .ok (.ireturn, 1) := by decide +kernel
theorem dX9_next_0 : decode cX9_next 0 = .ok (.aload_n 0, 1) := by decide +kernel
theorem dX9_next_1 : decode cX9_next 1 = .ok (.getfield 56, 3) := by decide +kernel
theorem dX9_next_4 : decode cX9_next 4 = .ok (.istore_n 1, 1) := by decide +kernel
theorem dX9_next_5 : decode cX9_next 5 = .ok (.aload_n 0, 1) := by decide +kernel
theorem dX9_next_6 : decode cX9_next 6 = .ok (.iload_n 1, 1) := by decide +kernel
theorem dX9_next_7 : decode cX9_next 7 = .ok (.invokevirtual 59, 3) := by decide +kernel
theorem dX9_next_10 : decode cX9_next 10 = .ok (.bipush 32, 2) := by decide +kernel
theorem dX9_next_12 : decode cX9_next 12 = .ok (.if_icmp .ne 9, 3) := by decide +kernel
theorem dX9_next_15 : decode cX9_next 15 = .ok (.iinc 1 1, 3) := by decide +kernel
theorem dX9_next_18 : decode cX9_next 18 = .ok (.goto (-13), 3) := by decide +kernel
theorem dX9_next_21 : decode cX9_next 21 = .ok (.aload_n 0, 1) := by decide +kernel
theorem dX9_next_22 : decode cX9_next 22 = .ok (.iload_n 1, 1) := by decide +kernel
theorem dX9_next_23 : decode cX9_next 23 = .ok (.putfield 63, 3) := by decide +kernel
theorem dX9_next_26 : decode cX9_next 26 = .ok (.aload_n 0, 1) := by decide +kernel
theorem dX9_next_27 : decode cX9_next 27 = .ok (.iload_n 1, 1) := by decide +kernel
theorem dX9_next_28 : decode cX9_next 28 = .ok (.invokevirtual 59, 3) := by decide +kernel
theorem dX9_next_31 : decode cX9_next 31 = .ok (.istore_n 2, 1) := by decide +kernel
theorem dX9_next_32 : decode cX9_next 32 = .ok (.aload_n 0, 1) := by decide +kernel
theorem dX9_next_33 : decode cX9_next 33 = .ok (.iconst 0, 1) := by decide +kernel
theorem dX9_next_34 : decode cX9_next 34 = .ok (.putfield 66, 3) := by decide +kernel
theorem dX9_next_37 : decode cX9_next 37 = .ok (.aload_n 0, 1) := by decide +kernel
theorem dX9_next_38 : decode cX9_next 38 = .ok (.iconst 0, 1) := by decide +kernel
theorem dX9_next_39 : decode cX9_next 39 = .ok (.putfield 69, 3) := by decide +kernel
theorem dX9_next_42 : decode cX9_next 42 = .ok (.iload_n 2, 1) := by decide +kernel
theorem dX9_next_43 : decode cX9_next 43 = .ok (.iconst (-1), 1) := by decide +kernel
theorem dX9_next_44 : decode cX9_next 44 = .ok (.if_icmp .ne 16, 3) := by decide +kernel
theorem dX9_next_47 : decode cX9_next 47 = .ok (.aload_n 0, 1) := by decide +kernel
theorem dX9_next_48 : decode cX9_next 48 = .ok (.iconst 0, 1) := by decide +kernel
theorem dX9_next_49 : decode cX9_next 49 = .ok (.putfield 72, 3) := by decide +kernel
theorem dX9_next_52 : decode cX9_next 52 = .ok (.aload_n 0, 1) := by decide +kernel
theorem dX9_next_53 : decode cX9_next 53 = .ok (.iload_n 1, 1) := by decide +kernel
theorem dX9_next_54 : decode cX9_next 54 = .ok (.putfield 56, 3) := by decide +kernel
theorem dX9_next_57 : decode cX9_next 57 = .ok (.goto 184, 3) := by decide +kernel
theorem dX9_next_60 : decode cX9_next 60 = .ok (.iload_n 2, 1) := by decide +kernel
theorem dX9_next_61 : decode cX9_next 61 = .ok (.invokestatic 75, 3) := by decide +kernel
theorem dX9_next_64 : decode cX9_next 64 = .ok (.ifCond .eq 79, 3) := by decide +kernel
theorem dX9_next_67 : decode cX9_next 67 = .ok (.aload_n 0, 1) := by decide +kernel
theorem dX9_next_68 : decode cX9_next 68 = .ok (.iload_n 1, 1) := by decide +kernel
theorem dX9_next_69 : decode cX9_next 69 = .ok (.invokevirtual 59, 3) := by decide +kernel
theorem dX9_next_72 : decode cX9_next 72 = .ok (.invokestatic 75, 3) := by decide +kernel
theorem dX9_next_75 : decode cX9_next 75 = .ok (.ifCond .eq 42, 3) := by decide +kernel
theorem dX9_next_78 : decode cX9_next 78 = .ok (.aload_n 0, 1) := by decide +kernel
theorem dX9_next_79 : decode cX9_next 79 = .ok (.getfield 66, 3) := by decide +kernel
theorem dX9_next_82 : decode cX9_next 82 = .ok (.bipush 8, 2) := by decide +kernel
theorem dX9_next_84 : decode cX9_next 84 = .ok (.if_icmp .ge 17, 3) := by decide +kernel
theorem dX9_next_87 : decode cX9_next 87 = .ok (.aload_n 0, 1) := by decide +kernel
theorem dX9_next_88 : decode cX9_next 88 = .ok (.getfield 17, 3) := by decide +kernel
theorem dX9_next_91 : decode cX9_next 91 = .ok (.aload_n 0, 1) := by decide +kernel
theorem dX9_next_92 : decode cX9_next 92 = .ok (.getfield 66, 3) := by decide +kernel
theorem dX9_next_95 : decode cX9_next 95 = .ok (.aload_n 0, 1) := by decide +kernel
theorem dX9_next_96 : decode cX9_next 96 = .ok (.iload_n 1, 1) := by decide +kernel
theorem dX9_next_97 : decode cX9_next 97 = .ok (.invokevirtual 59, 3) := by decide +kernel
theorem dX9_next_100 : decode cX9_next 100 = .ok (.iastore, 1) := by decide +kernel
theorem dX9_next_101 : decode cX9_next 101 = .ok (.aload_n 0, 1) := by decide +kernel
theorem dX9_next_102 : decode cX9_next 102 = .ok (.dup, 1) := by decide +kernel
theorem dX9_next_103 : decode cX9_next 103 = .ok (.getfield 66, 3) := by decide +kernel
theorem dX9_next_106 : decode cX9_next 106 = .ok (.iconst 1, 1) := by decide +kernel
theorem dX9_next_107 : decode cX9_next 107 = .ok (.iadd, 1) := by decide +kernel
theorem dX9_next_108 : decode cX9_next 108 = .ok (.putfield 66, 3) := by decide +kernel
theorem dX9_next_111 : decode cX9_next 111 = .ok (.iinc 1 1, 3) := by decide +kernel
theorem dX9_next_114 : decode cX9_next 114 = .ok (.goto (-47), 3) := by decide +kernel
theorem dX9_next_117 : decode cX9_next 117 = .ok (.aload_n 0, 1) := by decide +kernel
theorem dX9_next_118 : decode cX9_next 118 = .ok (.iload_n 1, 1) := by decide +kernel
theorem dX9_next_119 : decode cX9_next 119 = .ok (.putfield 56, 3) := by decide +kernel
theorem dX9_next_122 : decode cX9_next 122 = .ok (.aload_n 0, 1) := by decide +kernel
theorem dX9_next_123 : decode cX9_next 123 = .ok (.aload_n 0, 1) := by decide +kernel
theorem dX9_next_124 : decode cX9_next 124 = .ok (.getfield 66, 3) := by decide +kernel
theorem dX9_next_127 : decode cX9_next 127 = .ok (.bipush 8, 2) := by decide +kernel
theorem dX9_next_129 : decode cX9_next 129 = .ok (.if_icmp .le 7, 3) := by decide +kernel
theorem dX9_next_132 : decode cX9_next 132 = .ok (.iconst 1, 1) := by decide +kernel
theorem dX9_next_133 : decode cX9_next 133 = .ok (.goto 4, 3) := by decide +kernel
theorem dX9_next_136 : decode cX9_next 136 = .ok (.iconst 2, 1) := by decide +kernel
theorem dX9_next_137 : decode cX9_next 137 = .ok (.putfield 72, 3) := by decide +kernel
theorem dX9_next_140 : decode cX9_next 140 = .ok (.goto 101, 3) := by decide +kernel
theorem dX9_next_143 : decode cX9_next 143 = .ok (.iload_n 2, 1) := by decide +kernel
theorem dX9_next_144 : decode cX9_next 144 = .ok (.invokestatic 79, 3) := by decide +kernel
theorem dX9_next_147 : decode cX9_next 147 = .ok (.ifCond .eq 72, 3) := by decide +kernel
theorem dX9_next_150 : decode cX9_next 150 = .ok (.iconst 0, 1) := by decide +kernel
theorem dX9_next_151 : decode cX9_next 151 = .ok (.istore_n 3, 1) := by decide +kernel
theorem dX9_next_152 : decode cX9_next 152 = .ok (.aload_n 0, 1) := by decide +kernel
theorem dX9_next_153 : decode cX9_next 153 = .ok (.iload_n 1, 1) := by decide +kernel
theorem dX9_next_154 : decode cX9_next 154 = .ok (.invokevirtual 59, 3) := by decide +kernel
theorem dX9_next_157 : decode cX9_next 157 = .ok (.invokestatic 79, 3) := by decide +kernel
theorem dX9_next_160 : decode cX9_next 160 = .ok (.ifCond .eq 37, 3) := by decide +kernel
theorem dX9_next_163 : decode cX9_next 163 = .ok (.iload_n 3, 1) := by decide +kernel
theorem dX9_next_164 : decode cX9_next 164 = .ok (.iconst 3, 1) := by decide +kernel
theorem dX9_next_165 : decode cX9_next 165 = .ok (.if_icmp .ge 23, 3) := by decide +kernel
theorem dX9_next_168 : decode cX9_next 168 = .ok (.aload_n 0, 1) := by decide +kernel
theorem dX9_next_169 : decode cX9_next 169 = .ok (.bipush 10, 2) := by decide +kernel
theorem dX9_next_171 : decode cX9_next 171 = .ok (.aload_n 0, 1) := by decide +kernel
theorem dX9_next_172 : decode cX9_next 172 = .ok (.getfield 69, 3) := by decide +kernel
theorem dX9_next_175 : decode cX9_next 175 = .ok (.imul, 1) := by decide +kernel
theorem dX9_next_176 : decode cX9_next 176 = .ok (.aload_n 0, 1) := by decide +kernel
theorem dX9_next_177 : decode cX9_next 177 = .ok (.iload_n 1, 1) := by decide +kernel
theorem dX9_next_178 : decode cX9_next 178 = .ok (.invokevirtual 59, 3) := by decide +kernel
theorem dX9_next_181 : decode cX9_next 181 = .ok (.iadd, 1) := by decide +kernel
theorem dX9_next_182 : decode cX9_next 182 = .ok (.bipush 48, 2) := by decide +kernel
theorem dX9_next_184 : decode cX9_next 184 = .ok (.isub, 1) := by decide +kernel
theorem dX9_next_185 : decode cX9_next 185 = .ok (.putfield 69, 3) := by decide +kernel
theorem dX9_next_188 : decode cX9_next 188 = .ok (.iinc 3 1, 3) := by decide +kernel
theorem dX9_next_191 : decode cX9_next 191 = .ok (.iinc 1 1, 3) := by decide +kernel
theorem dX9_next_194 : decode cX9_next 194 = .ok (.goto (-42), 3) := by decide +kernel
theorem dX9_next_197 : decode cX9_next 197 = .ok (.aload_n 0, 1) := by decide +kernel
theorem dX9_next_198 : decode cX9_next 198 = .ok (.iload_n 1, 1) := by decide +kernel
theorem dX9_next_199 : decode cX9_next 199 = .ok (.putfield 56, 3) := by decide +kernel
theorem dX9_next_202 : decode cX9_next 202 = .ok (.aload_n 0, 1) := by decide +kernel
theorem dX9_next_203 : decode cX9_next 203 = .ok (.iload_n 3, 1) := by decide +kernel
theorem dX9_next_204 : decode cX9_next 204 = .ok (.iconst 3, 1) := by decide +kernel
theorem dX9_next_205 : decode cX9_next 205 = .ok (.if_icmp .le 7, 3) := by decide +kernel
theorem dX9_next_208 : decode cX9_next 208 = .ok (.iconst 1, 1) := by decide +kernel
theorem dX9_next_209 : decode cX9_next 209 = .ok (.goto 4, 3) := by decide +kernel
theorem dX9_next_212 : decode cX9_next 212 = .ok (.iconst 3, 1) := by decide +kernel
theorem dX9_next_213 : decode cX9_next 213 = .ok (.putfield 72, 3) := by decide +kernel
theorem dX9_next_216 : decode cX9_next 216 = .ok (.goto 25, 3) := by decide +kernel
theorem dX9_next_219 : decode cX9_next 219 = .ok (.aload_n 0, 1) := by decide +kernel
theorem dX9_next_220 : decode cX9_next 220 = .ok (.iload_n 1, 1) := by decide +kernel
theorem dX9_next_221 : decode cX9_next 221 = .ok (.iconst 1, 1) := by decide +kernel
theorem dX9_next_222 : decode cX9_next 222 = .ok (.iadd, 1) := by decide +kernel
theorem dX9_next_223 : decode cX9_next 223 = .ok (.putfield 56, 3) := by decide +kernel
theorem dX9_next_226 : decode cX9_next 226 = .ok (.aload_n 0, 1) := by decide +kernel
theorem dX9_next_227 : decode cX9_next 227 = .ok (.iload_n 2, 1) := by decide +kernel
theorem dX9_next_228 : decode cX9_next 228 = .ok (.bipush 59, 2) := by decide +kernel
theorem dX9_next_230 : decode cX9_next 230 = .ok (.if_icmp .ne 7, 3) := by decide +kernel
theorem dX9_next_233 : decode cX9_next 233 = .ok (.iload_n 2, 1) := by decide +kernel
theorem dX9_next_234 : decode cX9_next 234 = .ok (.goto 4, 3) := by decide +kernel
theorem dX9_next_237 : decode cX9_next 237 = .ok (.iconst 1, 1) := by decide +kernel
theorem dX9_next_238 : decode cX9_next 238 = .ok (.putfield 72, 3) := by decide +kernel
theorem dX9_next_241 : decode cX9_next 241 = .ok (.return_, 1) := by decide +kernel
theorem dX9_wrong_0 : decode cX9_wrong 0 = .ok (.aload_n 0, 1) := by decide +kernel
theorem dX9_wrong_1 : decode cX9_wrong 1 = .ok (.getfield 82, 3) := by decide +kernel
theorem dX9_wrong_4 : decode cX9_wrong 4 = .ok (.ifCond .eq 4, 3) := by decide +kernel
theorem dX9_wrong_7 : decode cX9_wrong 7 = .ok (.return_, 1) := by decide +kernel
theorem dX9_wrong_8 : decode cX9_wrong 8 = .ok (.aload_n 0, 1) := by decide +kernel
theorem dX9_wrong_9 : decode cX9_wrong 9 = .ok (.iconst 1, 1) := by decide +kernel
theorem dX9_wrong_10 : decode cX9_wrong 10 = .ok (.putfield 82, 3) := by decide +kernel
theorem dX9_wrong_13 : decode cX9_wrong 13 = .ok (.aload_n 0, 1) := by decide +kernel
theorem dX9_wrong_14 : decode cX9_wrong 14 = .ok (.iload_n 1, 1) := by decide +kernel
theorem dX9_wrong_15 : decode cX9_wrong 15 = .ok (.putfield 86, 3) := by decide +kernel
theorem dX9_wrong_18 : decode cX9_wrong 18 = .ok (.aload_n 0, 1) := by decide +kernel
theorem dX9_wrong_19 : decode cX9_wrong 19 = .ok (.iload_n 2, 1) := by decide +kernel
theorem dX9_wrong_20 : decode cX9_wrong 20 = .ok (.putfield 13, 3) := by decide +kernel
theorem dX9_wrong_23 : decode cX9_wrong 23 = .ok (.return_, 1) := by decide +kernel
theorem dX9_isWord_0 : decode cX9_isWord 0 = .ok (.aload_n 0, 1) := by decide +kernel
theorem dX9_isWord_1 : decode cX9_isWord 1 = .ok (.getfield 82, 3) := by decide +kernel
theorem dX9_isWord_4 : decode cX9_isWord 4 = .ok (.ifCond .ne 22, 3) := by decide +kernel
theorem dX9_isWord_7 : decode cX9_isWord 7 = .ok (.aload_n 0, 1) := by decide +kernel
theorem dX9_isWord_8 : decode cX9_isWord 8 = .ok (.getfield 72, 3) := by decide +kernel
theorem dX9_isWord_11 : decode cX9_isWord 11 = .ok (.iconst 2, 1) := by decide +kernel
theorem dX9_isWord_12 : decode cX9_isWord 12 = .ok (.if_icmp .ne 14, 3) := by decide +kernel
theorem dX9_isWord_15 : decode cX9_isWord 15 = .ok (.aload_n 0, 1) := by decide +kernel
theorem dX9_isWord_16 : decode cX9_isWord 16 = .ok (.getfield 66, 3) := by decide +kernel
theorem dX9_isWord_19 : decode cX9_isWord 19 = .ok (.aload_n 1, 1) := by decide +kernel
theorem dX9_isWord_20 : decode cX9_isWord 20 = .ok (.invokevirtual 89, 3) := by decide +kernel
theorem dX9_isWord_23 : decode cX9_isWord 23 = .ok (.if_icmp .eq 5, 3) := by decide +kernel
theorem dX9_isWord_26 : decode cX9_isWord 26 = .ok (.iconst 0, 1) := by decide +kernel
theorem dX9_isWord_27 : decode cX9_isWord 27 = .ok (.ireturn, 1) := by decide +kernel
theorem dX9_isWord_28 : decode cX9_isWord 28 = .ok (.iconst 1, 1) := by decide +kernel
theorem dX9_isWord_29 : decode cX9_isWord 29 = .ok (.istore_n 2, 1) := by decide +kernel
theorem dX9_isWord_30 : decode cX9_isWord 30 = .ok (.iconst 0, 1) := by decide +kernel
theorem dX9_isWord_31 : decode cX9_isWord 31 = .ok (.istore_n 3, 1) := by decide +kernel
theorem dX9_isWord_32 : decode cX9_isWord 32 = .ok (.iload_n 3, 1) := by decide +kernel
theorem dX9_isWord_33 : decode cX9_isWord 33 = .ok (.aload_n 0, 1) := by decide +kernel
theorem dX9_isWord_34 : decode cX9_isWord 34 = .ok (.getfield 66, 3) := by decide +kernel
theorem dX9_isWord_37 : decode cX9_isWord 37 = .ok (.if_icmp .ge 33, 3) := by decide +kernel
theorem dX9_isWord_40 : decode cX9_isWord 40 = .ok (.iload_n 2, 1) := by decide +kernel
theorem dX9_isWord_41 : decode cX9_isWord 41 = .ok (.ifCond .eq 21, 3) := by decide +kernel
theorem dX9_isWord_44 : decode cX9_isWord 44 = .ok (.aload_n 0, 1) := by decide +kernel
theorem dX9_isWord_45 : decode cX9_isWord 45 = .ok (.getfield 17, 3) := by decide +kernel
theorem dX9_isWord_48 : decode cX9_isWord 48 = .ok (.iload_n 3, 1) := by decide +kernel
theorem dX9_isWord_49 : decode cX9_isWord 49 = .ok (.iaload, 1) := by decide +kernel
theorem dX9_isWord_50 : decode cX9_isWord 50 = .ok (.aload_n 1, 1) := by decide +kernel
theorem dX9_isWord_51 : decode cX9_isWord 51 = .ok (.iload_n 3, 1) := by decide +kernel
theorem dX9_isWord_52 : decode cX9_isWord 52 = .ok (.invokevirtual 95, 3) := by decide +kernel
theorem dX9_isWord_55 : decode cX9_isWord 55 = .ok (.if_icmp .ne 7, 3) := by decide +kernel
theorem dX9_isWord_58 : decode cX9_isWord 58 = .ok (.iconst 1, 1) := by decide +kernel
theorem dX9_isWord_59 : decode cX9_isWord 59 = .ok (.goto 4, 3) := by decide +kernel
theorem dX9_isWord_62 : decode cX9_isWord 62 = .ok (.iconst 0, 1) := by decide +kernel
theorem dX9_isWord_63 : decode cX9_isWord 63 = .ok (.istore_n 2, 1) := by decide +kernel
theorem dX9_isWord_64 : decode cX9_isWord 64 = .ok (.iinc 3 1, 3) := by decide +kernel
theorem dX9_isWord_67 : decode cX9_isWord 67 = .ok (.goto (-35), 3) := by decide +kernel
theorem dX9_isWord_70 : decode cX9_isWord 70 = .ok (.iload_n 2, 1) := by decide +kernel
theorem dX9_isWord_71 : decode cX9_isWord 71 = .ok (.ireturn, 1) := by decide +kernel
theorem dX9_takesWord_0 : decode cX9_takesWord 0 = .ok (.aload_n 0, 1) := by decide +kernel
theorem dX9_takesWord_1 : decode cX9_takesWord 1 = .ok (.aload_n 1, 1) := by decide +kernel
theorem dX9_takesWord_2 : decode cX9_takesWord 2 = .ok (.invokevirtual 99, 3) := by decide +kernel
theorem dX9_takesWord_5 : decode cX9_takesWord 5 = .ok (.ifCond .ne 5, 3) := by decide +kernel
theorem dX9_takesWord_8 : decode cX9_takesWord 8 = .ok (.iconst 0, 1) := by decide +kernel
theorem dX9_takesWord_9 : decode cX9_takesWord 9 = .ok (.ireturn, 1) := by decide +kernel
theorem dX9_takesWord_10 : decode cX9_takesWord 10 = .ok (.aload_n 0, 1) := by decide +kernel
theorem dX9_takesWord_11 : decode cX9_takesWord 11 = .ok (.invokevirtual 103, 3) := by decide +kernel
theorem dX9_takesWord_14 : decode cX9_takesWord 14 = .ok (.iconst 1, 1) := by decide +kernel
theorem dX9_takesWord_15 : decode cX9_takesWord 15 = .ok (.ireturn, 1) := by decide +kernel
theorem dX9_must_0 : decode cX9_must 0 = .ok (.aload_n 0, 1) := by decide +kernel
theorem dX9_must_1 : decode cX9_must 1 = .ok (.getfield 82, 3) := by decide +kernel
theorem dX9_must_4 : decode cX9_must 4 = .ok (.ifCond .ne 20, 3) := by decide +kernel
theorem dX9_must_7 : decode cX9_must 7 = .ok (.aload_n 0, 1) := by decide +kernel
theorem dX9_must_8 : decode cX9_must 8 = .ok (.aload_n 1, 1) := by decide +kernel
theorem dX9_must_9 : decode cX9_must 9 = .ok (.invokevirtual 106, 3) := by decide +kernel
theorem dX9_must_12 : decode cX9_must 12 = .ok (.ifCond .ne 12, 3) := by decide +kernel
theorem dX9_must_15 : decode cX9_must 15 = .ok (.aload_n 0, 1) := by decide +kernel
theorem dX9_must_16 : decode cX9_must 16 = .ok (.iconst 1, 1) := by decide +kernel
theorem dX9_must_17 : decode cX9_must 17 = .ok (.aload_n 0, 1) := by decide +kernel
theorem dX9_must_18 : decode cX9_must 18 = .ok (.getfield 63, 3) := by decide +kernel
theorem dX9_must_21 : decode cX9_must 21 = .ok (.invokevirtual 109, 3) := by decide +kernel
theorem dX9_must_24 : decode cX9_must 24 = .ok (.return_, 1) := by decide +kernel
theorem dX9_mustName_0 : decode cX9_mustName 0 = .ok (.aload_n 0, 1) := by decide +kernel
theorem dX9_mustName_1 : decode cX9_mustName 1 = .ok (.getfield 72, 3) := by decide +kernel
theorem dX9_mustName_4 : decode cX9_mustName 4 = .ok (.iconst 2, 1) := by decide +kernel
theorem dX9_mustName_5 : decode cX9_mustName 5 = .ok (.if_icmp .ne 75, 3) := by decide +kernel
theorem dX9_mustName_8 : decode cX9_mustName 8 = .ok (.aload_n 0, 1) := by decide +kernel
theorem dX9_mustName_9 : decode cX9_mustName 9 = .ok (.ldc 113, 2) := by decide +kernel
theorem dX9_mustName_11 : decode cX9_mustName 11 = .ok (.invokevirtual 99, 3) := by decide +kernel
theorem dX9_mustName_14 : decode cX9_mustName 14 = .ok (.ifCond .ne 66, 3) := by decide +kernel
theorem dX9_mustName_17 : decode cX9_mustName 17 = .ok (.aload_n 0, 1) := by decide +kernel
theorem dX9_mustName_18 : decode cX9_mustName 18 = .ok (.ldc 115, 2) := by decide +kernel
theorem dX9_mustName_20 : decode cX9_mustName 20 = .ok (.invokevirtual 99, 3) := by decide +kernel
theorem dX9_mustName_23 : decode cX9_mustName 23 = .ok (.ifCond .ne 57, 3) := by decide +kernel
theorem dX9_mustName_26 : decode cX9_mustName 26 = .ok (.aload_n 0, 1) := by decide +kernel
theorem dX9_mustName_27 : decode cX9_mustName 27 = .ok (.ldc 117, 2) := by decide +kernel
theorem dX9_mustName_29 : decode cX9_mustName 29 = .ok (.invokevirtual 99, 3) := by decide +kernel
theorem dX9_mustName_32 : decode cX9_mustName 32 = .ok (.ifCond .ne 48, 3) := by decide +kernel
theorem dX9_mustName_35 : decode cX9_mustName 35 = .ok (.aload_n 0, 1) := by decide +kernel
theorem dX9_mustName_36 : decode cX9_mustName 36 = .ok (.ldc 119, 2) := by decide +kernel
theorem dX9_mustName_38 : decode cX9_mustName 38 = .ok (.invokevirtual 99, 3) := by decide +kernel
theorem dX9_mustName_41 : decode cX9_mustName 41 = .ok (.ifCond .ne 39, 3) := by decide +kernel
theorem dX9_mustName_44 : decode cX9_mustName 44 = .ok (.aload_n 0, 1) := by decide +kernel
theorem dX9_mustName_45 : decode cX9_mustName 45 = .ok (.ldc 121, 2) := by decide +kernel
theorem dX9_mustName_47 : decode cX9_mustName 47 = .ok (.invokevirtual 99, 3) := by decide +kernel
theorem dX9_mustName_50 : decode cX9_mustName 50 = .ok (.ifCond .ne 30, 3) := by decide +kernel
theorem dX9_mustName_53 : decode cX9_mustName 53 = .ok (.aload_n 0, 1) := by decide +kernel
theorem dX9_mustName_54 : decode cX9_mustName 54 = .ok (.ldc 123, 2) := by decide +kernel
theorem dX9_mustName_56 : decode cX9_mustName 56 = .ok (.invokevirtual 99, 3) := by decide +kernel
theorem dX9_mustName_59 : decode cX9_mustName 59 = .ok (.ifCond .ne 21, 3) := by decide +kernel
theorem dX9_mustName_62 : decode cX9_mustName 62 = .ok (.aload_n 0, 1) := by decide +kernel
theorem dX9_mustName_63 : decode cX9_mustName 63 = .ok (.ldc 125, 2) := by decide +kernel
theorem dX9_mustName_65 : decode cX9_mustName 65 = .ok (.invokevirtual 99, 3) := by decide +kernel
theorem dX9_mustName_68 : decode cX9_mustName 68 = .ok (.ifCond .ne 12, 3) := by decide +kernel
theorem dX9_mustName_71 : decode cX9_mustName 71 = .ok (.aload_n 0, 1) := by decide +kernel
theorem dX9_mustName_72 : decode cX9_mustName 72 = .ok (.ldc 127, 2) := by decide +kernel
theorem dX9_mustName_74 : decode cX9_mustName 74 = .ok (.invokevirtual 99, 3) := by decide +kernel
theorem dX9_mustName_77 : decode cX9_mustName 77 = .ok (.ifCond .eq 12, 3) := by decide +kernel
theorem dX9_mustName_80 : decode cX9_mustName 80 = .ok (.aload_n 0, 1) := by decide +kernel
theorem dX9_mustName_81 : decode cX9_mustName 81 = .ok (.iconst 1, 1) := by decide +kernel
theorem dX9_mustName_82 : decode cX9_mustName 82 = .ok (.aload_n 0, 1) := by decide +kernel
theorem dX9_mustName_83 : decode cX9_mustName 83 = .ok (.getfield 63, 3) := by decide +kernel
theorem dX9_mustName_86 : decode cX9_mustName 86 = .ok (.invokevirtual 109, 3) := by decide +kernel
theorem dX9_mustName_89 : decode cX9_mustName 89 = .ok (.return_, 1) := by decide +kernel
theorem dX9_find_0 : decode cX9_find 0 = .ok (.iconst 0, 1) := by decide +kernel
theorem dX9_find_1 : decode cX9_find 1 = .ok (.istore_n 1, 1) := by decide +kernel
theorem dX9_find_2 : decode cX9_find 2 = .ok (.iload_n 1, 1) := by decide +kernel
theorem dX9_find_3 : decode cX9_find 3 = .ok (.bipush 11, 2) := by decide +kernel
theorem dX9_find_5 : decode cX9_find 5 = .ok (.if_icmp .ge 99, 3) := by decide +kernel
theorem dX9_find_8 : decode cX9_find 8 = .ok (.aload_n 0, 1) := by decide +kernel
theorem dX9_find_9 : decode cX9_find 9 = .ok (.getfield 23, 3) := by decide +kernel
theorem dX9_find_12 : decode cX9_find 12 = .ok (.bipush 125, 2) := by decide +kernel
theorem dX9_find_14 : decode cX9_find 14 = .ok (.iload_n 1, 1) := by decide +kernel
theorem dX9_find_15 : decode cX9_find 15 = .ok (.iadd, 1) := by decide +kernel
theorem dX9_find_16 : decode cX9_find 16 = .ok (.iaload, 1) := by decide +kernel
theorem dX9_find_17 : decode cX9_find 17 = .ok (.ifCond .le 23, 3) := by decide +kernel
theorem dX9_find_20 : decode cX9_find 20 = .ok (.aload_n 0, 1) := by decide +kernel
theorem dX9_find_21 : decode cX9_find 21 = .ok (.getfield 23, 3) := by decide +kernel
theorem dX9_find_24 : decode cX9_find 24 = .ok (.bipush 125, 2) := by decide +kernel
theorem dX9_find_26 : decode cX9_find 26 = .ok (.iload_n 1, 1) := by decide +kernel
theorem dX9_find_27 : decode cX9_find 27 = .ok (.iadd, 1) := by decide +kernel
theorem dX9_find_28 : decode cX9_find 28 = .ok (.iaload, 1) := by decide +kernel
theorem dX9_find_29 : decode cX9_find 29 = .ok (.aload_n 0, 1) := by decide +kernel
theorem dX9_find_30 : decode cX9_find 30 = .ok (.getfield 66, 3) := by decide +kernel
theorem dX9_find_33 : decode cX9_find 33 = .ok (.if_icmp .ne 7, 3) := by decide +kernel
theorem dX9_find_36 : decode cX9_find 36 = .ok (.iconst 1, 1) := by decide +kernel
theorem dX9_find_37 : decode cX9_find 37 = .ok (.goto 4, 3) := by decide +kernel
theorem dX9_find_40 : decode cX9_find 40 = .ok (.iconst 0, 1) := by decide +kernel
theorem dX9_find_41 : decode cX9_find 41 = .ok (.istore_n 2, 1) := by decide +kernel
theorem dX9_find_42 : decode cX9_find 42 = .ok (.iconst 0, 1) := by decide +kernel
theorem dX9_find_43 : decode cX9_find 43 = .ok (.istore_n 3, 1) := by decide +kernel
theorem dX9_find_44 : decode cX9_find 44 = .ok (.iload_n 3, 1) := by decide +kernel
theorem dX9_find_45 : decode cX9_find 45 = .ok (.aload_n 0, 1) := by decide +kernel
theorem dX9_find_46 : decode cX9_find 46 = .ok (.getfield 66, 3) := by decide +kernel
theorem dX9_find_49 : decode cX9_find 49 = .ok (.if_icmp .ge 43, 3) := by decide +kernel
theorem dX9_find_52 : decode cX9_find 52 = .ok (.iload_n 2, 1) := by decide +kernel
theorem dX9_find_53 : decode cX9_find 53 = .ok (.ifCond .eq 39, 3) := by decide +kernel
theorem dX9_find_56 : decode cX9_find 56 = .ok (.aload_n 0, 1) := by decide +kernel
theorem dX9_find_57 : decode cX9_find 57 = .ok (.getfield 23, 3) := by decide +kernel
theorem dX9_find_60 : decode cX9_find 60 = .ok (.sipush 136, 3) := by decide +kernel
theorem dX9_find_63 : decode cX9_find 63 = .ok (.bipush 8, 2) := by decide +kernel
theorem dX9_find_65 : decode cX9_find 65 = .ok (.iload_n 1, 1) := by decide +kernel
theorem dX9_find_66 : decode cX9_find 66 = .ok (.imul, 1) := by decide +kernel
theorem dX9_find_67 : decode cX9_find 67 = .ok (.iadd, 1) := by decide +kernel
theorem dX9_find_68 : decode cX9_find 68 = .ok (.iload_n 3, 1) := by decide +kernel
theorem dX9_find_69 : decode cX9_find 69 = .ok (.iadd, 1) := by decide +kernel
theorem dX9_find_70 : decode cX9_find 70 = .ok (.iaload, 1) := by decide +kernel
theorem dX9_find_71 : decode cX9_find 71 = .ok (.aload_n 0, 1) := by decide +kernel
theorem dX9_find_72 : decode cX9_find 72 = .ok (.getfield 17, 3) := by decide +kernel
theorem dX9_find_75 : decode cX9_find 75 = .ok (.iload_n 3, 1) := by decide +kernel
theorem dX9_find_76 : decode cX9_find 76 = .ok (.iaload, 1) := by decide +kernel
theorem dX9_find_77 : decode cX9_find 77 = .ok (.if_icmp .ne 7, 3) := by decide +kernel
theorem dX9_find_80 : decode cX9_find 80 = .ok (.iconst 1, 1) := by decide +kernel
theorem dX9_find_81 : decode cX9_find 81 = .ok (.goto 4, 3) := by decide +kernel
theorem dX9_find_84 : decode cX9_find 84 = .ok (.iconst 0, 1) := by decide +kernel
theorem dX9_find_85 : decode cX9_find 85 = .ok (.istore_n 2, 1) := by decide +kernel
theorem dX9_find_86 : decode cX9_find 86 = .ok (.iinc 3 1, 3) := by decide +kernel
theorem dX9_find_89 : decode cX9_find 89 = .ok (.goto (-45), 3) := by decide +kernel
theorem dX9_find_92 : decode cX9_find 92 = .ok (.iload_n 2, 1) := by decide +kernel
theorem dX9_find_93 : decode cX9_find 93 = .ok (.ifCond .eq 5, 3) := by decide +kernel
theorem dX9_find_96 : decode cX9_find 96 = .ok (.iload_n 1, 1) := by decide +kernel
theorem dX9_find_97 : decode cX9_find 97 = .ok (.ireturn, 1) := by decide +kernel
theorem dX9_find_98 : decode cX9_find 98 = .ok (.iinc 1 1, 3) := by decide +kernel
theorem dX9_find_101 : decode cX9_find 101 = .ok (.goto (-99), 3) := by decide +kernel
theorem dX9_find_104 : decode cX9_find 104 = .ok (.iconst (-1), 1) := by decide +kernel
theorem dX9_find_105 : decode cX9_find 105 = .ok (.ireturn, 1) := by decide +kernel
theorem dX9_newName_0 : decode cX9_newName 0 = .ok (.aload_n 0, 1) := by decide +kernel
theorem dX9_newName_1 : decode cX9_newName 1 = .ok (.getfield 82, 3) := by decide +kernel
theorem dX9_newName_4 : decode cX9_newName 4 = .ok (.ifCond .eq 4, 3) := by decide +kernel
theorem dX9_newName_7 : decode cX9_newName 7 = .ok (.return_, 1) := by decide +kernel
theorem dX9_newName_8 : decode cX9_newName 8 = .ok (.aload_n 0, 1) := by decide +kernel
theorem dX9_newName_9 : decode cX9_newName 9 = .ok (.invokevirtual 129, 3) := by decide +kernel
theorem dX9_newName_12 : decode cX9_newName 12 = .ok (.aload_n 0, 1) := by decide +kernel
theorem dX9_newName_13 : decode cX9_newName 13 = .ok (.getfield 82, 3) := by decide +kernel
theorem dX9_newName_16 : decode cX9_newName 16 = .ok (.ifCond .ne 19, 3) := by decide +kernel
theorem dX9_newName_19 : decode cX9_newName 19 = .ok (.aload_n 0, 1) := by decide +kernel
theorem dX9_newName_20 : decode cX9_newName 20 = .ok (.invokevirtual 132, 3) := by decide +kernel
theorem dX9_newName_23 : decode cX9_newName 23 = .ok (.ifCond .lt 12, 3) := by decide +kernel
theorem dX9_newName_26 : decode cX9_newName 26 = .ok (.aload_n 0, 1) := by decide +kernel
theorem dX9_newName_27 : decode cX9_newName 27 = .ok (.iconst 3, 1) := by decide +kernel
theorem dX9_newName_28 : decode cX9_newName 28 = .ok (.aload_n 0, 1) := by decide +kernel
theorem dX9_newName_29 : decode cX9_newName 29 = .ok (.getfield 63, 3) := by decide +kernel
theorem dX9_newName_32 : decode cX9_newName 32 = .ok (.invokevirtual 109, 3) := by decide +kernel
theorem dX9_newName_35 : decode cX9_newName 35 = .ok (.aload_n 0, 1) := by decide +kernel
theorem dX9_newName_36 : decode cX9_newName 36 = .ok (.getfield 82, 3) := by decide +kernel
theorem dX9_newName_39 : decode cX9_newName 39 = .ok (.ifCond .eq 4, 3) := by decide +kernel
theorem dX9_newName_42 : decode cX9_newName 42 = .ok (.return_, 1) := by decide +kernel
theorem dX9_newName_43 : decode cX9_newName 43 = .ok (.iconst 0, 1) := by decide +kernel
theorem dX9_newName_44 : decode cX9_newName 44 = .ok (.istore_n 2, 1) := by decide +kernel
theorem dX9_newName_45 : decode cX9_newName 45 = .ok (.iload_n 2, 1) := by decide +kernel
theorem dX9_newName_46 : decode cX9_newName 46 = .ok (.aload_n 0, 1) := by decide +kernel
theorem dX9_newName_47 : decode cX9_newName 47 = .ok (.getfield 66, 3) := by decide +kernel
theorem dX9_newName_50 : decode cX9_newName 50 = .ok (.if_icmp .ge 30, 3) := by decide +kernel
theorem dX9_newName_53 : decode cX9_newName 53 = .ok (.aload_n 0, 1) := by decide +kernel
theorem dX9_newName_54 : decode cX9_newName 54 = .ok (.getfield 23, 3) := by decide +kernel
theorem dX9_newName_57 : decode cX9_newName 57 = .ok (.sipush 136, 3) := by decide +kernel
theorem dX9_newName_60 : decode cX9_newName 60 = .ok (.bipush 8, 2) := by decide +kernel
theorem dX9_newName_62 : decode cX9_newName 62 = .ok (.iload_n 1, 1) := by decide +kernel
theorem dX9_newName_63 : decode cX9_newName 63 = .ok (.imul, 1) := by decide +kernel
theorem dX9_newName_64 : decode cX9_newName 64 = .ok (.iadd, 1) := by decide +kernel
theorem dX9_newName_65 : decode cX9_newName 65 = .ok (.iload_n 2, 1) := by decide +kernel
theorem dX9_newName_66 : decode cX9_newName 66 = .ok (.iadd, 1) := by decide +kernel
theorem dX9_newName_67 : decode cX9_newName 67 = .ok (.aload_n 0, 1) := by decide +kernel
theorem dX9_newName_68 : decode cX9_newName 68 = .ok (.getfield 17, 3) := by decide +kernel
theorem dX9_newName_71 : decode cX9_newName 71 = .ok (.iload_n 2, 1) := by decide +kernel
theorem dX9_newName_72 : decode cX9_newName 72 = .ok (.iaload, 1) := by decide +kernel
theorem dX9_newName_73 : decode cX9_newName 73 = .ok (.iastore, 1) := by decide +kernel
theorem dX9_newName_74 : decode cX9_newName 74 = .ok (.iinc 2 1, 3) := by decide +kernel
theorem dX9_newName_77 : decode cX9_newName 77 = .ok (.goto (-32), 3) := by decide +kernel
theorem dX9_newName_80 : decode cX9_newName 80 = .ok (.aload_n 0, 1) := by decide +kernel
theorem dX9_newName_81 : decode cX9_newName 81 = .ok (.getfield 23, 3) := by decide +kernel
theorem dX9_newName_84 : decode cX9_newName 84 = .ok (.bipush 125, 2) := by decide +kernel
theorem dX9_newName_86 : decode cX9_newName 86 = .ok (.iload_n 1, 1) := by decide +kernel
theorem dX9_newName_87 : decode cX9_newName 87 = .ok (.iadd, 1) := by decide +kernel
theorem dX9_newName_88 : decode cX9_newName 88 = .ok (.aload_n 0, 1) := by decide +kernel
theorem dX9_newName_89 : decode cX9_newName 89 = .ok (.getfield 66, 3) := by decide +kernel
theorem dX9_newName_92 : decode cX9_newName 92 = .ok (.iastore, 1) := by decide +kernel
theorem dX9_newName_93 : decode cX9_newName 93 = .ok (.aload_n 0, 1) := by decide +kernel
theorem dX9_newName_94 : decode cX9_newName 94 = .ok (.invokevirtual 103, 3) := by decide +kernel
theorem dX9_newName_97 : decode cX9_newName 97 = .ok (.return_, 1) := by decide +kernel
theorem dX9_named_0 : decode cX9_named 0 = .ok (.aload_n 0, 1) := by decide +kernel
theorem dX9_named_1 : decode cX9_named 1 = .ok (.getfield 82, 3) := by decide +kernel
theorem dX9_named_4 : decode cX9_named 4 = .ok (.ifCond .eq 5, 3) := by decide +kernel
theorem dX9_named_7 : decode cX9_named 7 = .ok (.iconst 0, 1) := by decide +kernel
theorem dX9_named_8 : decode cX9_named 8 = .ok (.ireturn, 1) := by decide +kernel
theorem dX9_named_9 : decode cX9_named 9 = .ok (.aload_n 0, 1) := by decide +kernel
theorem dX9_named_10 : decode cX9_named 10 = .ok (.invokevirtual 129, 3) := by decide +kernel
theorem dX9_named_13 : decode cX9_named 13 = .ok (.aload_n 0, 1) := by decide +kernel
theorem dX9_named_14 : decode cX9_named 14 = .ok (.getfield 82, 3) := by decide +kernel
theorem dX9_named_17 : decode cX9_named 17 = .ok (.ifCond .eq 5, 3) := by decide +kernel
theorem dX9_named_20 : decode cX9_named 20 = .ok (.iconst 0, 1) := by decide +kernel
theorem dX9_named_21 : decode cX9_named 21 = .ok (.ireturn, 1) := by decide +kernel
theorem dX9_named_22 : decode cX9_named 22 = .ok (.aload_n 0, 1) := by decide +kernel
theorem dX9_named_23 : decode cX9_named 23 = .ok (.invokevirtual 132, 3) := by decide +kernel
theorem dX9_named_26 : decode cX9_named 26 = .ok (.istore_n 3, 1) := by decide +kernel
theorem dX9_named_27 : decode cX9_named 27 = .ok (.iload_n 3, 1) := by decide +kernel
theorem dX9_named_28 : decode cX9_named 28 = .ok (.iload_n 1, 1) := by decide +kernel
theorem dX9_named_29 : decode cX9_named 29 = .ok (.iload_n 2, 1) := by decide +kernel
theorem dX9_named_30 : decode cX9_named 30 = .ok (.invokestatic 135, 3) := by decide +kernel
theorem dX9_named_33 : decode cX9_named 33 = .ok (.ifCond .ne 12, 3) := by decide +kernel
theorem dX9_named_36 : decode cX9_named 36 = .ok (.aload_n 0, 1) := by decide +kernel
theorem dX9_named_37 : decode cX9_named 37 = .ok (.iconst 2, 1) := by decide +kernel
theorem dX9_named_38 : decode cX9_named 38 = .ok (.aload_n 0, 1) := by decide +kernel
theorem dX9_named_39 : decode cX9_named 39 = .ok (.getfield 63, 3) := by decide +kernel
theorem dX9_named_42 : decode cX9_named 42 = .ok (.invokevirtual 109, 3) := by decide +kernel
theorem dX9_named_45 : decode cX9_named 45 = .ok (.aload_n 0, 1) := by decide +kernel
theorem dX9_named_46 : decode cX9_named 46 = .ok (.getfield 82, 3) := by decide +kernel
theorem dX9_named_49 : decode cX9_named 49 = .ok (.ifCond .eq 5, 3) := by decide +kernel
theorem dX9_named_52 : decode cX9_named 52 = .ok (.iconst 0, 1) := by decide +kernel
theorem dX9_named_53 : decode cX9_named 53 = .ok (.ireturn, 1) := by decide +kernel
theorem dX9_named_54 : decode cX9_named 54 = .ok (.aload_n 0, 1) := by decide +kernel
theorem dX9_named_55 : decode cX9_named 55 = .ok (.invokevirtual 103, 3) := by decide +kernel
theorem dX9_named_58 : decode cX9_named 58 = .ok (.iload_n 3, 1) := by decide +kernel
theorem dX9_named_59 : decode cX9_named 59 = .ok (.iload_n 1, 1) := by decide +kernel
theorem dX9_named_60 : decode cX9_named 60 = .ok (.isub, 1) := by decide +kernel
theorem dX9_named_61 : decode cX9_named 61 = .ok (.ireturn, 1) := by decide +kernel
theorem dX9_ringName_0 : decode cX9_ringName 0 = .ok (.aload_n 0, 1) := by decide +kernel
theorem dX9_ringName_1 : decode cX9_ringName 1 = .ok (.iconst 0, 1) := by decide +kernel
theorem dX9_ringName_2 : decode cX9_ringName 2 = .ok (.iconst 3, 1) := by decide +kernel
theorem dX9_ringName_3 : decode cX9_ringName 3 = .ok (.invokevirtual 139, 3) := by decide +kernel
theorem dX9_ringName_6 : decode cX9_ringName 6 = .ok (.ireturn, 1) := by decide +kernel
theorem dX9_numberHere_0 : decode cX9_numberHere 0 = .ok (.aload_n 0, 1) := by decide +kernel
theorem dX9_numberHere_1 : decode cX9_numberHere 1 = .ok (.getfield 82, 3) := by decide +kernel
theorem dX9_numberHere_4 : decode cX9_numberHere 4 = .ok (.ifCond .eq 5, 3) := by decide +kernel
theorem dX9_numberHere_7 : decode cX9_numberHere 7 = .ok (.iload_n 1, 1) := by decide +kernel
theorem dX9_numberHere_8 : decode cX9_numberHere 8 = .ok (.ireturn, 1) := by decide +kernel
theorem dX9_numberHere_9 : decode cX9_numberHere 9 = .ok (.aload_n 0, 1) := by decide +kernel
theorem dX9_numberHere_10 : decode cX9_numberHere 10 = .ok (.getfield 72, 3) := by decide +kernel
theorem dX9_numberHere_13 : decode cX9_numberHere 13 = .ok (.iconst 3, 1) := by decide +kernel
theorem dX9_numberHere_14 : decode cX9_numberHere 14 = .ok (.if_icmp .eq 15, 3) := by decide +kernel
theorem dX9_numberHere_17 : decode cX9_numberHere 17 = .ok (.aload_n 0, 1) := by decide +kernel
theorem dX9_numberHere_18 : decode cX9_numberHere 18 = .ok (.iconst 1, 1) := by decide +kernel
theorem dX9_numberHere_19 : decode cX9_numberHere 19 = .ok (.aload_n 0, 1) := by decide +kernel
theorem dX9_numberHere_20 : decode cX9_numberHere 20 = .ok (.getfield 63, 3) := by decide +kernel
theorem dX9_numberHere_23 : decode cX9_numberHere 23 = .ok (.invokevirtual 109, 3) := by decide +kernel
theorem dX9_numberHere_26 : decode cX9_numberHere 26 = .ok (.goto 24, 3) := by decide +kernel
theorem dX9_numberHere_29 : decode cX9_numberHere 29 = .ok (.aload_n 0, 1) := by decide +kernel
theorem dX9_numberHere_30 : decode cX9_numberHere 30 = .ok (.getfield 69, 3) := by decide +kernel
theorem dX9_numberHere_33 : decode cX9_numberHere 33 = .ok (.iload_n 1, 1) := by decide +kernel
theorem dX9_numberHere_34 : decode cX9_numberHere 34 = .ok (.iload_n 2, 1) := by decide +kernel
theorem dX9_numberHere_35 : decode cX9_numberHere 35 = .ok (.invokestatic 135, 3) := by decide +kernel
theorem dX9_numberHere_38 : decode cX9_numberHere 38 = .ok (.ifCond .ne 12, 3) := by decide +kernel
theorem dX9_numberHere_41 : decode cX9_numberHere 41 = .ok (.aload_n 0, 1) := by decide +kernel
theorem dX9_numberHere_42 : decode cX9_numberHere 42 = .ok (.iconst 4, 1) := by decide +kernel
theorem dX9_numberHere_43 : decode cX9_numberHere 43 = .ok (.aload_n 0, 1) := by decide +kernel
theorem dX9_numberHere_44 : decode cX9_numberHere 44 = .ok (.getfield 63, 3) := by decide +kernel
theorem dX9_numberHere_47 : decode cX9_numberHere 47 = .ok (.invokevirtual 109, 3) := by decide +kernel
theorem dX9_numberHere_50 : decode cX9_numberHere 50 = .ok (.aload_n 0, 1) := by decide +kernel
theorem dX9_numberHere_51 : decode cX9_numberHere 51 = .ok (.getfield 82, 3) := by decide +kernel
theorem dX9_numberHere_54 : decode cX9_numberHere 54 = .ok (.ifCond .eq 7, 3) := by decide +kernel
theorem dX9_numberHere_57 : decode cX9_numberHere 57 = .ok (.iload_n 1, 1) := by decide +kernel
theorem dX9_numberHere_58 : decode cX9_numberHere 58 = .ok (.goto 7, 3) := by decide +kernel
theorem dX9_numberHere_61 : decode cX9_numberHere 61 = .ok (.aload_n 0, 1) := by decide +kernel
theorem dX9_numberHere_62 : decode cX9_numberHere 62 = .ok (.getfield 69, 3) := by decide +kernel
theorem dX9_numberHere_65 : decode cX9_numberHere 65 = .ok (.ireturn, 1) := by decide +kernel
theorem dX9_number_0 : decode cX9_number 0 = .ok (.aload_n 0, 1) := by decide +kernel
theorem dX9_number_1 : decode cX9_number 1 = .ok (.iload_n 1, 1) := by decide +kernel
theorem dX9_number_2 : decode cX9_number 2 = .ok (.iload_n 2, 1) := by decide +kernel
theorem dX9_number_3 : decode cX9_number 3 = .ok (.invokevirtual 143, 3) := by decide +kernel
theorem dX9_number_6 : decode cX9_number 6 = .ok (.istore_n 3, 1) := by decide +kernel
theorem dX9_number_7 : decode cX9_number 7 = .ok (.aload_n 0, 1) := by decide +kernel
theorem dX9_number_8 : decode cX9_number 8 = .ok (.getfield 82, 3) := by decide +kernel
theorem dX9_number_11 : decode cX9_number 11 = .ok (.ifCond .ne 7, 3) := by decide +kernel
theorem dX9_number_14 : decode cX9_number 14 = .ok (.aload_n 0, 1) := by decide +kernel
theorem dX9_number_15 : decode cX9_number 15 = .ok (.invokevirtual 103, 3) := by decide +kernel
theorem dX9_number_18 : decode cX9_number 18 = .ok (.iload_n 3, 1) := by decide +kernel
theorem dX9_number_19 : decode cX9_number 19 = .ok (.ireturn, 1) := by decide +kernel
theorem dX9_after_0 : decode cX9_after 0 = .ok (.aload_n 0, 1) := by decide +kernel
theorem dX9_after_1 : decode cX9_after 1 = .ok (.aload_n 1, 1) := by decide +kernel
theorem dX9_after_2 : decode cX9_after 2 = .ok (.invokevirtual 146, 3) := by decide +kernel
theorem dX9_after_5 : decode cX9_after 5 = .ok (.aload_n 0, 1) := by decide +kernel
theorem dX9_after_6 : decode cX9_after 6 = .ok (.iload_n 2, 1) := by decide +kernel
theorem dX9_after_7 : decode cX9_after 7 = .ok (.iload_n 3, 1) := by decide +kernel
theorem dX9_after_8 : decode cX9_after 8 = .ok (.invokevirtual 150, 3) := by decide +kernel
theorem dX9_after_11 : decode cX9_after 11 = .ok (.ireturn, 1) := by decide +kernel
theorem dX9_placeHere_0 : decode cX9_placeHere 0 = .ok (.bipush 9, 2) := by decide +kernel
theorem dX9_placeHere_2 : decode cX9_placeHere 2 = .ok (.iload_n 1, 1) := by decide +kernel
theorem dX9_placeHere_3 : decode cX9_placeHere 3 = .ok (.imul, 1) := by decide +kernel
theorem dX9_placeHere_4 : decode cX9_placeHere 4 = .ok (.aload_n 0, 1) := by decide +kernel
theorem dX9_placeHere_5 : decode cX9_placeHere 5 = .ok (.iconst 0, 1) := by decide +kernel
theorem dX9_placeHere_6 : decode cX9_placeHere 6 = .ok (.aload_n 0, 1) := by decide +kernel
theorem dX9_placeHere_7 : decode cX9_placeHere 7 = .ok (.getfield 23, 3) := by decide +kernel
theorem dX9_placeHere_10 : decode cX9_placeHere 10 = .ok (.bipush 8, 2) := by decide +kernel
theorem dX9_placeHere_12 : decode cX9_placeHere 12 = .ok (.iconst 2, 1) := by decide +kernel
theorem dX9_placeHere_13 : decode cX9_placeHere 13 = .ok (.iload_n 1, 1) := by decide +kernel
theorem dX9_placeHere_14 : decode cX9_placeHere 14 = .ok (.imul, 1) := by decide +kernel
theorem dX9_placeHere_15 : decode cX9_placeHere 15 = .ok (.iadd, 1) := by decide +kernel
theorem dX9_placeHere_16 : decode cX9_placeHere 16 = .ok (.iconst 1, 1) := by decide +kernel
theorem dX9_placeHere_17 : decode cX9_placeHere 17 = .ok (.iadd, 1) := by decide +kernel
theorem dX9_placeHere_18 : decode cX9_placeHere 18 = .ok (.iaload, 1) := by decide +kernel
theorem dX9_placeHere_19 : decode cX9_placeHere 19 = .ok (.iconst 1, 1) := by decide +kernel
theorem dX9_placeHere_20 : decode cX9_placeHere 20 = .ok (.isub, 1) := by decide +kernel
theorem dX9_placeHere_21 : decode cX9_placeHere 21 = .ok (.invokevirtual 143, 3) := by decide +kernel
theorem dX9_placeHere_24 : decode cX9_placeHere 24 = .ok (.iadd, 1) := by decide +kernel
theorem dX9_placeHere_25 : decode cX9_placeHere 25 = .ok (.ireturn, 1) := by decide +kernel
theorem dX9_house_0 : decode cX9_house 0 = .ok (.aload_n 0, 1) := by decide +kernel
theorem dX9_house_1 : decode cX9_house 1 = .ok (.invokevirtual 153, 3) := by decide +kernel
theorem dX9_house_4 : decode cX9_house 4 = .ok (.iload_n 1, 1) := by decide +kernel
theorem dX9_house_5 : decode cX9_house 5 = .ok (.iconst 0, 1) := by decide +kernel
theorem dX9_house_6 : decode cX9_house 6 = .ok (.aload_n 0, 1) := by decide +kernel
theorem dX9_house_7 : decode cX9_house 7 = .ok (.getfield 50, 3) := by decide +kernel
theorem dX9_house_10 : decode cX9_house 10 = .ok (.invokestatic 135, 3) := by decide +kernel
theorem dX9_house_13 : decode cX9_house 13 = .ok (.ifCond .ne 9, 3) := by decide +kernel
theorem dX9_house_16 : decode cX9_house 16 = .ok (.aload_n 0, 1) := by decide +kernel
theorem dX9_house_17 : decode cX9_house 17 = .ok (.iconst 2, 1) := by decide +kernel
theorem dX9_house_18 : decode cX9_house 18 = .ok (.invokevirtual 156, 3) := by decide +kernel
theorem dX9_house_21 : decode cX9_house 21 = .ok (.ireturn, 1) := by decide +kernel
theorem dX9_house_22 : decode cX9_house 22 = .ok (.aload_n 0, 1) := by decide +kernel
theorem dX9_house_23 : decode cX9_house 23 = .ok (.iconst 0, 1) := by decide +kernel
theorem dX9_house_24 : decode cX9_house 24 = .ok (.putfield 50, 3) := by decide +kernel
theorem dX9_house_27 : decode cX9_house 27 = .ok (.aload_n 0, 1) := by decide +kernel
theorem dX9_house_28 : decode cX9_house 28 = .ok (.iconst 0, 1) := by decide +kernel
theorem dX9_house_29 : decode cX9_house 29 = .ok (.putfield 86, 3) := by decide +kernel
theorem dX9_house_32 : decode cX9_house 32 = .ok (.aload_n 0, 1) := by decide +kernel
theorem dX9_house_33 : decode cX9_house 33 = .ok (.iconst 0, 1) := by decide +kernel
theorem dX9_house_34 : decode cX9_house 34 = .ok (.putfield 82, 3) := by decide +kernel
theorem dX9_house_37 : decode cX9_house 37 = .ok (.iconst 0, 1) := by decide +kernel
theorem dX9_house_38 : decode cX9_house 38 = .ok (.istore_n 2, 1) := by decide +kernel
theorem dX9_house_39 : decode cX9_house 39 = .ok (.iload_n 2, 1) := by decide +kernel
theorem dX9_house_40 : decode cX9_house 40 = .ok (.sipush 224, 3) := by decide +kernel
theorem dX9_house_43 : decode cX9_house 43 = .ok (.if_icmp .ge 16, 3) := by decide +kernel
theorem dX9_house_46 : decode cX9_house 46 = .ok (.aload_n 0, 1) := by decide +kernel
theorem dX9_house_47 : decode cX9_house 47 = .ok (.getfield 23, 3) := by decide +kernel
theorem dX9_house_50 : decode cX9_house 50 = .ok (.iload_n 2, 1) := by decide +kernel
theorem dX9_house_51 : decode cX9_house 51 = .ok (.iconst 0, 1) := by decide +kernel
theorem dX9_house_52 : decode cX9_house 52 = .ok (.iastore, 1) := by decide +kernel
theorem dX9_house_53 : decode cX9_house 53 = .ok (.iinc 2 1, 3) := by decide +kernel
theorem dX9_house_56 : decode cX9_house 56 = .ok (.goto (-17), 3) := by decide +kernel
theorem dX9_house_59 : decode cX9_house 59 = .ok (.aload_n 0, 1) := by decide +kernel
theorem dX9_house_60 : decode cX9_house 60 = .ok (.iload_n 1, 1) := by decide +kernel
theorem dX9_house_61 : decode cX9_house 61 = .ok (.putfield 53, 3) := by decide +kernel
theorem dX9_house_64 : decode cX9_house 64 = .ok (.aload_n 0, 1) := by decide +kernel
theorem dX9_house_65 : decode cX9_house 65 = .ok (.iconst 0, 1) := by decide +kernel
theorem dX9_house_66 : decode cX9_house 66 = .ok (.putfield 56, 3) := by decide +kernel
theorem dX9_house_69 : decode cX9_house 69 = .ok (.aload_n 0, 1) := by decide +kernel
theorem dX9_house_70 : decode cX9_house 70 = .ok (.invokevirtual 103, 3) := by decide +kernel
theorem dX9_house_73 : decode cX9_house 73 = .ok (.aload_n 0, 1) := by decide +kernel
theorem dX9_house_74 : decode cX9_house 74 = .ok (.invokevirtual 159, 3) := by decide +kernel
theorem dX9_house_77 : decode cX9_house 77 = .ok (.aload_n 0, 1) := by decide +kernel
theorem dX9_house_78 : decode cX9_house 78 = .ok (.getfield 82, 3) := by decide +kernel
theorem dX9_house_81 : decode cX9_house 81 = .ok (.ifCond .ne 23, 3) := by decide +kernel
theorem dX9_house_84 : decode cX9_house 84 = .ok (.aload_n 0, 1) := by decide +kernel
theorem dX9_house_85 : decode cX9_house 85 = .ok (.getfield 72, 3) := by decide +kernel
theorem dX9_house_88 : decode cX9_house 88 = .ok (.bipush 59, 2) := by decide +kernel
theorem dX9_house_90 : decode cX9_house 90 = .ok (.if_icmp .ne 14, 3) := by decide +kernel
theorem dX9_house_93 : decode cX9_house 93 = .ok (.aload_n 0, 1) := by decide +kernel
theorem dX9_house_94 : decode cX9_house 94 = .ok (.invokevirtual 103, 3) := by decide +kernel
theorem dX9_house_97 : decode cX9_house 97 = .ok (.aload_n 0, 1) := by decide +kernel
theorem dX9_house_98 : decode cX9_house 98 = .ok (.invokevirtual 159, 3) := by decide +kernel
theorem dX9_house_101 : decode cX9_house 101 = .ok (.goto (-24), 3) := by decide +kernel
theorem dX9_house_104 : decode cX9_house 104 = .ok (.aload_n 0, 1) := by decide +kernel
theorem dX9_house_105 : decode cX9_house 105 = .ok (.getfield 82, 3) := by decide +kernel
theorem dX9_house_108 : decode cX9_house 108 = .ok (.ifCond .ne 19, 3) := by decide +kernel
theorem dX9_house_111 : decode cX9_house 111 = .ok (.aload_n 0, 1) := by decide +kernel
theorem dX9_house_112 : decode cX9_house 112 = .ok (.getfield 72, 3) := by decide +kernel
theorem dX9_house_115 : decode cX9_house 115 = .ok (.ifCond .eq 12, 3) := by decide +kernel
theorem dX9_house_118 : decode cX9_house 118 = .ok (.aload_n 0, 1) := by decide +kernel
theorem dX9_house_119 : decode cX9_house 119 = .ok (.iconst 1, 1) := by decide +kernel
theorem dX9_house_120 : decode cX9_house 120 = .ok (.aload_n 0, 1) := by decide +kernel
theorem dX9_house_121 : decode cX9_house 121 = .ok (.getfield 63, 3) := by decide +kernel
theorem dX9_house_124 : decode cX9_house 124 = .ok (.invokevirtual 109, 3) := by decide +kernel
theorem dX9_house_127 : decode cX9_house 127 = .ok (.aload_n 0, 1) := by decide +kernel
theorem dX9_house_128 : decode cX9_house 128 = .ok (.getfield 82, 3) := by decide +kernel
theorem dX9_house_131 : decode cX9_house 131 = .ok (.ifCond .ne 31, 3) := by decide +kernel
theorem dX9_house_134 : decode cX9_house 134 = .ok (.aload_n 0, 1) := by decide +kernel
theorem dX9_house_135 : decode cX9_house 135 = .ok (.getfield 23, 3) := by decide +kernel
theorem dX9_house_138 : decode cX9_house 138 = .ok (.iconst 0, 1) := by decide +kernel
theorem dX9_house_139 : decode cX9_house 139 = .ok (.iaload, 1) := by decide +kernel
theorem dX9_house_140 : decode cX9_house 140 = .ok (.ifCond .eq 12, 3) := by decide +kernel
theorem dX9_house_143 : decode cX9_house 143 = .ok (.aload_n 0, 1) := by decide +kernel
theorem dX9_house_144 : decode cX9_house 144 = .ok (.getfield 23, 3) := by decide +kernel
theorem dX9_house_147 : decode cX9_house 147 = .ok (.iconst 2, 1) := by decide +kernel
theorem dX9_house_148 : decode cX9_house 148 = .ok (.iaload, 1) := by decide +kernel
theorem dX9_house_149 : decode cX9_house 149 = .ok (.ifCond .ne 13, 3) := by decide +kernel
theorem dX9_house_152 : decode cX9_house 152 = .ok (.aload_n 0, 1) := by decide +kernel
theorem dX9_house_153 : decode cX9_house 153 = .ok (.bipush 6, 2) := by decide +kernel
theorem dX9_house_155 : decode cX9_house 155 = .ok (.aload_n 0, 1) := by decide +kernel
theorem dX9_house_156 : decode cX9_house 156 = .ok (.getfield 63, 3) := by decide +kernel
theorem dX9_house_159 : decode cX9_house 159 = .ok (.invokevirtual 109, 3) := by decide +kernel
theorem dX9_house_162 : decode cX9_house 162 = .ok (.aload_n 0, 1) := by decide +kernel
theorem dX9_house_163 : decode cX9_house 163 = .ok (.getfield 82, 3) := by decide +kernel
theorem dX9_house_166 : decode cX9_house 166 = .ok (.ifCond .eq 9, 3) := by decide +kernel
theorem dX9_house_169 : decode cX9_house 169 = .ok (.aload_n 0, 1) := by decide +kernel
theorem dX9_house_170 : decode cX9_house 170 = .ok (.iconst 4, 1) := by decide +kernel
theorem dX9_house_171 : decode cX9_house 171 = .ok (.invokevirtual 156, 3) := by decide +kernel
theorem dX9_house_174 : decode cX9_house 174 = .ok (.ireturn, 1) := by decide +kernel
theorem dX9_house_175 : decode cX9_house 175 = .ok (.aload_n 0, 1) := by decide +kernel
theorem dX9_house_176 : decode cX9_house 176 = .ok (.getfield 23, 3) := by decide +kernel
theorem dX9_house_179 : decode cX9_house 179 = .ok (.iconst 0, 1) := by decide +kernel
theorem dX9_house_180 : decode cX9_house 180 = .ok (.aload_n 0, 1) := by decide +kernel
theorem dX9_house_181 : decode cX9_house 181 = .ok (.getfield 20, 3) := by decide +kernel
theorem dX9_house_184 : decode cX9_house 184 = .ok (.iconst 0, 1) := by decide +kernel
theorem dX9_house_185 : decode cX9_house 185 = .ok (.sipush 224, 3) := by decide +kernel
theorem dX9_house_188 : decode cX9_house 188 = .ok (.invokestatic 162, 3) := by decide +kernel
theorem dX9_house_191 : decode cX9_house 191 = .ok (.iconst 0, 1) := by decide +kernel
theorem dX9_house_192 : decode cX9_house 192 = .ok (.istore_n 2, 1) := by decide +kernel
theorem dX9_house_193 : decode cX9_house 193 = .ok (.iload_n 2, 1) := by decide +kernel
theorem dX9_house_194 : decode cX9_house 194 = .ok (.bipush 9, 2) := by decide +kernel
theorem dX9_house_196 : decode cX9_house 196 = .ok (.if_icmp .ge 16, 3) := by decide +kernel
theorem dX9_house_199 : decode cX9_house 199 = .ok (.aload_n 0, 1) := by decide +kernel
theorem dX9_house_200 : decode cX9_house 200 = .ok (.getfield 26, 3) := by decide +kernel
theorem dX9_house_203 : decode cX9_house 203 = .ok (.iload_n 2, 1) := by decide +kernel
theorem dX9_house_204 : decode cX9_house 204 = .ok (.iconst 0, 1) := by decide +kernel
theorem dX9_house_205 : decode cX9_house 205 = .ok (.iastore, 1) := by decide +kernel
theorem dX9_house_206 : decode cX9_house 206 = .ok (.iinc 2 1, 3) := by decide +kernel
theorem dX9_house_209 : decode cX9_house 209 = .ok (.goto (-16), 3) := by decide +kernel
theorem dX9_house_212 : decode cX9_house 212 = .ok (.iconst 0, 1) := by decide +kernel
theorem dX9_house_213 : decode cX9_house 213 = .ok (.istore_n 2, 1) := by decide +kernel
theorem dX9_house_214 : decode cX9_house 214 = .ok (.iload_n 2, 1) := by decide +kernel
theorem dX9_house_215 : decode cX9_house 215 = .ok (.aload_n 0, 1) := by decide +kernel
theorem dX9_house_216 : decode cX9_house 216 = .ok (.getfield 20, 3) := by decide +kernel
theorem dX9_house_219 : decode cX9_house 219 = .ok (.iconst 3, 1) := by decide +kernel
theorem dX9_house_220 : decode cX9_house 220 = .ok (.iaload, 1) := by decide +kernel
theorem dX9_house_221 : decode cX9_house 221 = .ok (.if_icmp .ge 28, 3) := by decide +kernel
theorem dX9_house_224 : decode cX9_house 224 = .ok (.aload_n 0, 1) := by decide +kernel
theorem dX9_house_225 : decode cX9_house 225 = .ok (.getfield 26, 3) := by decide +kernel
theorem dX9_house_228 : decode cX9_house 228 = .ok (.iload_n 2, 1) := by decide +kernel
theorem dX9_house_229 : decode cX9_house 229 = .ok (.aload_n 0, 1) := by decide +kernel
theorem dX9_house_230 : decode cX9_house 230 = .ok (.getfield 20, 3) := by decide +kernel
theorem dX9_house_233 : decode cX9_house 233 = .ok (.bipush 62, 2) := by decide +kernel
theorem dX9_house_235 : decode cX9_house 235 = .ok (.iconst 3, 1) := by decide +kernel
theorem dX9_house_236 : decode cX9_house 236 = .ok (.iload_n 2, 1) := by decide +kernel
theorem dX9_house_237 : decode cX9_house 237 = .ok (.imul, 1) := by decide +kernel
theorem dX9_house_238 : decode cX9_house 238 = .ok (.iadd, 1) := by decide +kernel
theorem dX9_house_239 : decode cX9_house 239 = .ok (.iconst 1, 1) := by decide +kernel
theorem dX9_house_240 : decode cX9_house 240 = .ok (.iadd, 1) := by decide +kernel
theorem dX9_house_241 : decode cX9_house 241 = .ok (.iaload, 1) := by decide +kernel
theorem dX9_house_242 : decode cX9_house 242 = .ok (.iastore, 1) := by decide +kernel
theorem dX9_house_243 : decode cX9_house 243 = .ok (.iinc 2 1, 3) := by decide +kernel
theorem dX9_house_246 : decode cX9_house 246 = .ok (.goto (-32), 3) := by decide +kernel
theorem dX9_house_249 : decode cX9_house 249 = .ok (.aload_n 0, 1) := by decide +kernel
theorem dX9_house_250 : decode cX9_house 250 = .ok (.iconst 1, 1) := by decide +kernel
theorem dX9_house_251 : decode cX9_house 251 = .ok (.putfield 166, 3) := by decide +kernel
theorem dX9_house_254 : decode cX9_house 254 = .ok (.aload_n 0, 1) := by decide +kernel
theorem dX9_house_255 : decode cX9_house 255 = .ok (.iconst 0, 1) := by decide +kernel
theorem dX9_house_256 : decode cX9_house 256 = .ok (.putfield 169, 3) := by decide +kernel
theorem dX9_house_259 : decode cX9_house 259 = .ok (.aload_n 0, 1) := by decide +kernel
theorem dX9_house_260 : decode cX9_house 260 = .ok (.iconst 0, 1) := by decide +kernel
theorem dX9_house_261 : decode cX9_house 261 = .ok (.putfield 172, 3) := by decide +kernel
theorem dX9_house_264 : decode cX9_house 264 = .ok (.aload_n 0, 1) := by decide +kernel
theorem dX9_house_265 : decode cX9_house 265 = .ok (.getfield 20, 3) := by decide +kernel
theorem dX9_house_268 : decode cX9_house 268 = .ok (.iconst 2, 1) := by decide +kernel
theorem dX9_house_269 : decode cX9_house 269 = .ok (.iaload, 1) := by decide +kernel
theorem dX9_house_270 : decode cX9_house 270 = .ok (.ireturn, 1) := by decide +kernel
theorem dX9_begins_0 : decode cX9_begins 0 = .ok (.aload_n 0, 1) := by decide +kernel
theorem dX9_begins_1 : decode cX9_begins 1 = .ok (.aload_n 1, 1) := by decide +kernel
theorem dX9_begins_2 : decode cX9_begins 2 = .ok (.invokevirtual 99, 3) := by decide +kernel
theorem dX9_begins_5 : decode cX9_begins 5 = .ok (.ifCond .ne 5, 3) := by decide +kernel
theorem dX9_begins_8 : decode cX9_begins 8 = .ok (.iconst 0, 1) := by decide +kernel
theorem dX9_begins_9 : decode cX9_begins 9 = .ok (.ireturn, 1) := by decide +kernel
theorem dX9_begins_10 : decode cX9_begins 10 = .ok (.iload_n 2, 1) := by decide +kernel
theorem dX9_begins_11 : decode cX9_begins 11 = .ok (.ifCond .ne 12, 3) := by decide +kernel
theorem dX9_begins_14 : decode cX9_begins 14 = .ok (.aload_n 0, 1) := by decide +kernel
theorem dX9_begins_15 : decode cX9_begins 15 = .ok (.iconst 5, 1) := by decide +kernel
theorem dX9_begins_16 : decode cX9_begins 16 = .ok (.aload_n 0, 1) := by decide +kernel
theorem dX9_begins_17 : decode cX9_begins 17 = .ok (.getfield 63, 3) := by decide +kernel
theorem dX9_begins_20 : decode cX9_begins 20 = .ok (.invokevirtual 109, 3) := by decide +kernel
theorem dX9_begins_23 : decode cX9_begins 23 = .ok (.aload_n 0, 1) := by decide +kernel
theorem dX9_begins_24 : decode cX9_begins 24 = .ok (.getfield 23, 3) := by decide +kernel
theorem dX9_begins_27 : decode cX9_begins 27 = .ok (.iconst 0, 1) := by decide +kernel
theorem dX9_begins_28 : decode cX9_begins 28 = .ok (.iaload, 1) := by decide +kernel
theorem dX9_begins_29 : decode cX9_begins 29 = .ok (.ifCond .ne 13, 3) := by decide +kernel
theorem dX9_begins_32 : decode cX9_begins 32 = .ok (.aload_n 0, 1) := by decide +kernel
theorem dX9_begins_33 : decode cX9_begins 33 = .ok (.bipush 6, 2) := by decide +kernel
theorem dX9_begins_35 : decode cX9_begins 35 = .ok (.aload_n 0, 1) := by decide +kernel
theorem dX9_begins_36 : decode cX9_begins 36 = .ok (.getfield 63, 3) := by decide +kernel
theorem dX9_begins_39 : decode cX9_begins 39 = .ok (.invokevirtual 109, 3) := by decide +kernel
theorem dX9_begins_42 : decode cX9_begins 42 = .ok (.aload_n 0, 1) := by decide +kernel
theorem dX9_begins_43 : decode cX9_begins 43 = .ok (.getfield 82, 3) := by decide +kernel
theorem dX9_begins_46 : decode cX9_begins 46 = .ok (.ifCond .ne 7, 3) := by decide +kernel
theorem dX9_begins_49 : decode cX9_begins 49 = .ok (.aload_n 0, 1) := by decide +kernel
theorem dX9_begins_50 : decode cX9_begins 50 = .ok (.invokevirtual 103, 3) := by decide +kernel
theorem dX9_begins_53 : decode cX9_begins 53 = .ok (.iconst 1, 1) := by decide +kernel
theorem dX9_begins_54 : decode cX9_begins 54 = .ok (.ireturn, 1) := by decide +kernel
theorem dX9_readLine_0 : decode cX9_readLine 0 = .ok (.aload_n 0, 1) := by decide +kernel
theorem dX9_readLine_1 : decode cX9_readLine 1 = .ok (.ldc 113, 2) := by decide +kernel
theorem dX9_readLine_3 : decode cX9_readLine 3 = .ok (.invokevirtual 99, 3) := by decide +kernel
theorem dX9_readLine_6 : decode cX9_readLine 6 = .ok (.ifCond .eq 10, 3) := by decide +kernel
theorem dX9_readLine_9 : decode cX9_readLine 9 = .ok (.aload_n 0, 1) := by decide +kernel
theorem dX9_readLine_10 : decode cX9_readLine 10 = .ok (.invokevirtual 175, 3) := by decide +kernel
theorem dX9_readLine_13 : decode cX9_readLine 13 = .ok (.goto 239, 3) := by decide +kernel
theorem dX9_readLine_16 : decode cX9_readLine 16 = .ok (.aload_n 0, 1) := by decide +kernel
theorem dX9_readLine_17 : decode cX9_readLine 17 = .ok (.ldc 115, 2) := by decide +kernel
theorem dX9_readLine_19 : decode cX9_readLine 19 = .ok (.aload_n 0, 1) := by decide +kernel
