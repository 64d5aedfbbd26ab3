theorem dX9_holds_29 : decode cX9_holds 29 = .ok (.bipush 30, 2) := by decide +kernel
theorem dX9_holds_31 : decode cX9_holds 31 = .ok (.invokevirtual 292, 3) := by decide +kernel
theorem dX9_holds_34 : decode cX9_holds 34 = .ok (.istore 5, 2) := by decide +kernel
theorem dX9_holds_36 : decode cX9_holds 36 = .ok (.iload 5, 2) := by decide +kernel
theorem dX9_holds_38 : decode cX9_holds 38 = .ok (.ifCond .eq 10, 3) := by decide +kernel
theorem dX9_holds_41 : decode cX9_holds 41 = .ok (.aload_n 0, 1) := by decide +kernel
theorem dX9_holds_42 : decode cX9_holds 42 = .ok (.iload 5, 2) := by decide +kernel
theorem dX9_holds_44 : decode cX9_holds 44 = .ok (.invokevirtual 156, 3) := by decide +kernel
theorem dX9_holds_47 : decode cX9_holds 47 = .ok (.ireturn, 1) := by decide +kernel
theorem dX9_holds_48 : decode cX9_holds 48 = .ok (.bipush (-2), 2) := by decide +kernel
theorem dX9_holds_50 : decode cX9_holds 50 = .ok (.istore 6, 2) := by decide +kernel
theorem dX9_holds_52 : decode cX9_holds 52 = .ok (.iconst 0, 1) := by decide +kernel
theorem dX9_holds_53 : decode cX9_holds 53 = .ok (.istore 7, 2) := by decide +kernel
theorem dX9_holds_55 : decode cX9_holds 55 = .ok (.iload 7, 2) := by decide +kernel
theorem dX9_holds_57 : decode cX9_holds 57 = .ok (.aload_n 0, 1) := by decide +kernel
theorem dX9_holds_58 : decode cX9_holds 58 = .ok (.invokevirtual 312, 3) := by decide +kernel
theorem dX9_holds_61 : decode cX9_holds 61 = .ok (.if_icmp .gt 62, 3) := by decide +kernel
theorem dX9_holds_64 : decode cX9_holds 64 = .ok (.iload 7, 2) := by decide +kernel
theorem dX9_holds_66 : decode cX9_holds 66 = .ok (.aload_n 0, 1) := by decide +kernel
theorem dX9_holds_67 : decode cX9_holds 67 = .ok (.getfield 26, 3) := by decide +kernel
theorem dX9_holds_70 : decode cX9_holds 70 = .ok (.bipush 7, 2) := by decide +kernel
theorem dX9_holds_72 : decode cX9_holds 72 = .ok (.iaload, 1) := by decide +kernel
theorem dX9_holds_73 : decode cX9_holds 73 = .ok (.iand, 1) := by decide +kernel
theorem dX9_holds_74 : decode cX9_holds 74 = .ok (.ifCond .ne 43, 3) := by decide +kernel
theorem dX9_holds_77 : decode cX9_holds 77 = .ok (.iload 6, 2) := by decide +kernel
theorem dX9_holds_79 : decode cX9_holds 79 = .ok (.ifCond .lt 16, 3) := by decide +kernel
theorem dX9_holds_82 : decode cX9_holds 82 = .ok (.iload 7, 2) := by decide +kernel
theorem dX9_holds_84 : decode cX9_holds 84 = .ok (.invokestatic 280, 3) := by decide +kernel
theorem dX9_holds_87 : decode cX9_holds 87 = .ok (.iload 6, 2) := by decide +kernel
theorem dX9_holds_89 : decode cX9_holds 89 = .ok (.invokestatic 280, 3) := by decide +kernel
theorem dX9_holds_92 : decode cX9_holds 92 = .ok (.if_icmp .ge 25, 3) := by decide +kernel
theorem dX9_holds_95 : decode cX9_holds 95 = .ok (.aload_n 0, 1) := by decide +kernel
theorem dX9_holds_96 : decode cX9_holds 96 = .ok (.iload 7, 2) := by decide +kernel
theorem dX9_holds_98 : decode cX9_holds 98 = .ok (.iload_n 1, 1) := by decide +kernel
theorem dX9_holds_99 : decode cX9_holds 99 = .ok (.bipush 9, 2) := by decide +kernel
theorem dX9_holds_101 : decode cX9_holds 101 = .ok (.iload_n 2, 1) := by decide +kernel
theorem dX9_holds_102 : decode cX9_holds 102 = .ok (.imul, 1) := by decide +kernel
theorem dX9_holds_103 : decode cX9_holds 103 = .ok (.iload_n 3, 1) := by decide +kernel
theorem dX9_holds_104 : decode cX9_holds 104 = .ok (.iadd, 1) := by decide +kernel
theorem dX9_holds_105 : decode cX9_holds 105 = .ok (.iload 4, 2) := by decide +kernel
theorem dX9_holds_107 : decode cX9_holds 107 = .ok (.invokevirtual 315, 3) := by decide +kernel
theorem dX9_holds_110 : decode cX9_holds 110 = .ok (.ifCond .eq 7, 3) := by decide +kernel
theorem dX9_holds_113 : decode cX9_holds 113 = .ok (.iload 7, 2) := by decide +kernel
theorem dX9_holds_115 : decode cX9_holds 115 = .ok (.istore 6, 2) := by decide +kernel
theorem dX9_holds_117 : decode cX9_holds 117 = .ok (.iinc 7 1, 3) := by decide +kernel
theorem dX9_holds_120 : decode cX9_holds 120 = .ok (.goto (-65), 3) := by decide +kernel
theorem dX9_holds_123 : decode cX9_holds 123 = .ok (.iload 6, 2) := by decide +kernel
theorem dX9_holds_125 : decode cX9_holds 125 = .ok (.ireturn, 1) := by decide +kernel
theorem dX9_putFor_0 : decode cX9_putFor 0 = .ok (.aload_n 0, 1) := by decide +kernel
theorem dX9_putFor_1 : decode cX9_putFor 1 = .ok (.invokevirtual 153, 3) := by decide +kernel
theorem dX9_putFor_4 : decode cX9_putFor 4 = .ok (.aload_n 0, 1) := by decide +kernel
theorem dX9_putFor_5 : decode cX9_putFor 5 = .ok (.iload_n 1, 1) := by decide +kernel
theorem dX9_putFor_6 : decode cX9_putFor 6 = .ok (.invokevirtual 283, 3) := by decide +kernel
theorem dX9_putFor_9 : decode cX9_putFor 9 = .ok (.ifCond .eq 20, 3) := by decide +kernel
theorem dX9_putFor_12 : decode cX9_putFor 12 = .ok (.aload_n 0, 1) := by decide +kernel
theorem dX9_putFor_13 : decode cX9_putFor 13 = .ok (.aload_n 0, 1) := by decide +kernel
theorem dX9_putFor_14 : decode cX9_putFor 14 = .ok (.getfield 26, 3) := by decide +kernel
theorem dX9_putFor_17 : decode cX9_putFor 17 = .ok (.iload_n 1, 1) := by decide +kernel
theorem dX9_putFor_18 : decode cX9_putFor 18 = .ok (.iaload, 1) := by decide +kernel
theorem dX9_putFor_19 : decode cX9_putFor 19 = .ok (.bipush 9, 2) := by decide +kernel
theorem dX9_putFor_21 : decode cX9_putFor 21 = .ok (.idiv, 1) := by decide +kernel
theorem dX9_putFor_22 : decode cX9_putFor 22 = .ok (.iload_n 2, 1) := by decide +kernel
theorem dX9_putFor_23 : decode cX9_putFor 23 = .ok (.invokevirtual 286, 3) := by decide +kernel
theorem dX9_putFor_26 : decode cX9_putFor 26 = .ok (.ifCond .ne 9, 3) := by decide +kernel
theorem dX9_putFor_29 : decode cX9_putFor 29 = .ok (.aload_n 0, 1) := by decide +kernel
theorem dX9_putFor_30 : decode cX9_putFor 30 = .ok (.iconst 1, 1) := by decide +kernel
theorem dX9_putFor_31 : decode cX9_putFor 31 = .ok (.invokevirtual 156, 3) := by decide +kernel
theorem dX9_putFor_34 : decode cX9_putFor 34 = .ok (.ireturn, 1) := by decide +kernel
theorem dX9_putFor_35 : decode cX9_putFor 35 = .ok (.iload_n 3, 1) := by decide +kernel
theorem dX9_putFor_36 : decode cX9_putFor 36 = .ok (.iconst 0, 1) := by decide +kernel
theorem dX9_putFor_37 : decode cX9_putFor 37 = .ok (.bipush 60, 2) := by decide +kernel
theorem dX9_putFor_39 : decode cX9_putFor 39 = .ok (.invokestatic 135, 3) := by decide +kernel
theorem dX9_putFor_42 : decode cX9_putFor 42 = .ok (.ifCond .ne 9, 3) := by decide +kernel
theorem dX9_putFor_45 : decode cX9_putFor 45 = .ok (.aload_n 0, 1) := by decide +kernel
theorem dX9_putFor_46 : decode cX9_putFor 46 = .ok (.iconst 2, 1) := by decide +kernel
theorem dX9_putFor_47 : decode cX9_putFor 47 = .ok (.invokevirtual 156, 3) := by decide +kernel
theorem dX9_putFor_50 : decode cX9_putFor 50 = .ok (.ireturn, 1) := by decide +kernel
theorem dX9_putFor_51 : decode cX9_putFor 51 = .ok (.aload_n 0, 1) := by decide +kernel
theorem dX9_putFor_52 : decode cX9_putFor 52 = .ok (.getfield 26, 3) := by decide +kernel
theorem dX9_putFor_55 : decode cX9_putFor 55 = .ok (.iload_n 1, 1) := by decide +kernel
theorem dX9_putFor_56 : decode cX9_putFor 56 = .ok (.iaload, 1) := by decide +kernel
theorem dX9_putFor_57 : decode cX9_putFor 57 = .ok (.bipush 9, 2) := by decide +kernel
theorem dX9_putFor_59 : decode cX9_putFor 59 = .ok (.idiv, 1) := by decide +kernel
theorem dX9_putFor_60 : decode cX9_putFor 60 = .ok (.istore 4, 2) := by decide +kernel
theorem dX9_putFor_62 : decode cX9_putFor 62 = .ok (.iconst 0, 1) := by decide +kernel
theorem dX9_putFor_63 : decode cX9_putFor 63 = .ok (.istore 5, 2) := by decide +kernel
theorem dX9_putFor_65 : decode cX9_putFor 65 = .ok (.iload 5, 2) := by decide +kernel
theorem dX9_putFor_67 : decode cX9_putFor 67 = .ok (.aload_n 0, 1) := by decide +kernel
theorem dX9_putFor_68 : decode cX9_putFor 68 = .ok (.iload 4, 2) := by decide +kernel
theorem dX9_putFor_70 : decode cX9_putFor 70 = .ok (.invokevirtual 242, 3) := by decide +kernel
theorem dX9_putFor_73 : decode cX9_putFor 73 = .ok (.if_icmp .ge 102, 3) := by decide +kernel
theorem dX9_putFor_76 : decode cX9_putFor 76 = .ok (.aload_n 0, 1) := by decide +kernel
theorem dX9_putFor_77 : decode cX9_putFor 77 = .ok (.aload_n 0, 1) := by decide +kernel
theorem dX9_putFor_78 : decode cX9_putFor 78 = .ok (.getfield 26, 3) := by decide +kernel
theorem dX9_putFor_81 : decode cX9_putFor 81 = .ok (.bipush 9, 2) := by decide +kernel
theorem dX9_putFor_83 : decode cX9_putFor 83 = .ok (.iload 4, 2) := by decide +kernel
theorem dX9_putFor_85 : decode cX9_putFor 85 = .ok (.imul, 1) := by decide +kernel
theorem dX9_putFor_86 : decode cX9_putFor 86 = .ok (.iload 5, 2) := by decide +kernel
theorem dX9_putFor_88 : decode cX9_putFor 88 = .ok (.iadd, 1) := by decide +kernel
theorem dX9_putFor_89 : decode cX9_putFor 89 = .ok (.invokevirtual 258, 3) := by decide +kernel
theorem dX9_putFor_92 : decode cX9_putFor 92 = .ok (.istore 6, 2) := by decide +kernel
theorem dX9_putFor_94 : decode cX9_putFor 94 = .ok (.iload 6, 2) := by decide +kernel
theorem dX9_putFor_96 : decode cX9_putFor 96 = .ok (.ifCond .lt 12, 3) := by decide +kernel
theorem dX9_putFor_99 : decode cX9_putFor 99 = .ok (.iload 6, 2) := by decide +kernel
theorem dX9_putFor_101 : decode cX9_putFor 101 = .ok (.iload_n 1, 1) := by decide +kernel
theorem dX9_putFor_102 : decode cX9_putFor 102 = .ok (.if_icmp .eq 6, 3) := by decide +kernel
theorem dX9_putFor_105 : decode cX9_putFor 105 = .ok (.goto 64, 3) := by decide +kernel
theorem dX9_putFor_108 : decode cX9_putFor 108 = .ok (.aload_n 0, 1) := by decide +kernel
theorem dX9_putFor_109 : decode cX9_putFor 109 = .ok (.invokevirtual 296, 3) := by decide +kernel
theorem dX9_putFor_112 : decode cX9_putFor 112 = .ok (.aload_n 0, 1) := by decide +kernel
theorem dX9_putFor_113 : decode cX9_putFor 113 = .ok (.getfield 35, 3) := by decide +kernel
theorem dX9_putFor_116 : decode cX9_putFor 116 = .ok (.iload_n 1, 1) := by decide +kernel
theorem dX9_putFor_117 : decode cX9_putFor 117 = .ok (.bipush 9, 2) := by decide +kernel
theorem dX9_putFor_119 : decode cX9_putFor 119 = .ok (.iload 4, 2) := by decide +kernel
theorem dX9_putFor_121 : decode cX9_putFor 121 = .ok (.imul, 1) := by decide +kernel
theorem dX9_putFor_122 : decode cX9_putFor 122 = .ok (.iload 5, 2) := by decide +kernel
theorem dX9_putFor_124 : decode cX9_putFor 124 = .ok (.iadd, 1) := by decide +kernel
theorem dX9_putFor_125 : decode cX9_putFor 125 = .ok (.iastore, 1) := by decide +kernel
theorem dX9_putFor_126 : decode cX9_putFor 126 = .ok (.iconst 0, 1) := by decide +kernel
theorem dX9_putFor_127 : decode cX9_putFor 127 = .ok (.istore 7, 2) := by decide +kernel
theorem dX9_putFor_129 : decode cX9_putFor 129 = .ok (.iload 7, 2) := by decide +kernel
theorem dX9_putFor_131 : decode cX9_putFor 131 = .ok (.iload_n 3, 1) := by decide +kernel
theorem dX9_putFor_132 : decode cX9_putFor 132 = .ok (.if_icmp .ge 18, 3) := by decide +kernel
theorem dX9_putFor_135 : decode cX9_putFor 135 = .ok (.aload_n 0, 1) := by decide +kernel
theorem dX9_putFor_136 : decode cX9_putFor 136 = .ok (.aload_n 0, 1) := by decide +kernel
theorem dX9_putFor_137 : decode cX9_putFor 137 = .ok (.getfield 35, 3) := by decide +kernel
theorem dX9_putFor_140 : decode cX9_putFor 140 = .ok (.invokevirtual 299, 3) := by decide +kernel
theorem dX9_putFor_143 : decode cX9_putFor 143 = .ok (.pop, 1) := by decide +kernel
theorem dX9_putFor_144 : decode cX9_putFor 144 = .ok (.iinc 7 1, 3) := by decide +kernel
theorem dX9_putFor_147 : decode cX9_putFor 147 = .ok (.goto (-18), 3) := by decide +kernel
theorem dX9_putFor_150 : decode cX9_putFor 150 = .ok (.aload_n 0, 1) := by decide +kernel
theorem dX9_putFor_151 : decode cX9_putFor 151 = .ok (.getfield 35, 3) := by decide +kernel
theorem dX9_putFor_154 : decode cX9_putFor 154 = .ok (.iload_n 1, 1) := by decide +kernel
theorem dX9_putFor_155 : decode cX9_putFor 155 = .ok (.iaload, 1) := by decide +kernel
theorem dX9_putFor_156 : decode cX9_putFor 156 = .ok (.bipush 9, 2) := by decide +kernel
theorem dX9_putFor_158 : decode cX9_putFor 158 = .ok (.iload 4, 2) := by decide +kernel
theorem dX9_putFor_160 : decode cX9_putFor 160 = .ok (.imul, 1) := by decide +kernel
theorem dX9_putFor_161 : decode cX9_putFor 161 = .ok (.iload_n 2, 1) := by decide +kernel
theorem dX9_putFor_162 : decode cX9_putFor 162 = .ok (.iadd, 1) := by decide +kernel
theorem dX9_putFor_163 : decode cX9_putFor 163 = .ok (.if_icmp .ne 6, 3) := by decide +kernel
theorem dX9_putFor_166 : decode cX9_putFor 166 = .ok (.iload 5, 2) := by decide +kernel
theorem dX9_putFor_168 : decode cX9_putFor 168 = .ok (.ireturn, 1) := by decide +kernel
theorem dX9_putFor_169 : decode cX9_putFor 169 = .ok (.iinc 5 1, 3) := by decide +kernel
theorem dX9_putFor_172 : decode cX9_putFor 172 = .ok (.goto (-107), 3) := by decide +kernel
theorem dX9_putFor_175 : decode cX9_putFor 175 = .ok (.bipush (-2), 2) := by decide +kernel
theorem dX9_putFor_177 : decode cX9_putFor 177 = .ok (.ireturn, 1) := by decide +kernel
theorem dX9_holdsToMeet_0 : decode cX9_holdsToMeet 0 = .ok (.aload_n 0, 1) := by decide +kernel
theorem dX9_holdsToMeet_1 : decode cX9_holdsToMeet 1 = .ok (.invokevirtual 153, 3) := by decide +kernel
theorem dX9_holdsToMeet_4 : decode cX9_holdsToMeet 4 = .ok (.aload_n 0, 1) := by decide +kernel
theorem dX9_holdsToMeet_5 : decode cX9_holdsToMeet 5 = .ok (.aload_n 0, 1) := by decide +kernel
theorem dX9_holdsToMeet_6 : decode cX9_holdsToMeet 6 = .ok (.iload_n 1, 1) := by decide +kernel
theorem dX9_holdsToMeet_7 : decode cX9_holdsToMeet 7 = .ok (.iload_n 2, 1) := by decide +kernel
theorem dX9_holdsToMeet_8 : decode cX9_holdsToMeet 8 = .ok (.invokevirtual 305, 3) := by decide +kernel
theorem dX9_holdsToMeet_11 : decode cX9_holdsToMeet 11 = .ok (.iload_n 3, 1) := by decide +kernel
theorem dX9_holdsToMeet_12 : decode cX9_holdsToMeet 12 = .ok (.bipush 30, 2) := by decide +kernel
theorem dX9_holdsToMeet_14 : decode cX9_holdsToMeet 14 = .ok (.invokevirtual 292, 3) := by decide +kernel
theorem dX9_holdsToMeet_17 : decode cX9_holdsToMeet 17 = .ok (.istore 4, 2) := by decide +kernel
theorem dX9_holdsToMeet_19 : decode cX9_holdsToMeet 19 = .ok (.iload 4, 2) := by decide +kernel
theorem dX9_holdsToMeet_21 : decode cX9_holdsToMeet 21 = .ok (.ifCond .eq 10, 3) := by decide +kernel
theorem dX9_holdsToMeet_24 : decode cX9_holdsToMeet 24 = .ok (.aload_n 0, 1) := by decide +kernel
theorem dX9_holdsToMeet_25 : decode cX9_holdsToMeet 25 = .ok (.iload 4, 2) := by decide +kernel
theorem dX9_holdsToMeet_27 : decode cX9_holdsToMeet 27 = .ok (.invokevirtual 156, 3) := by decide +kernel
theorem dX9_holdsToMeet_30 : decode cX9_holdsToMeet 30 = .ok (.ireturn, 1) := by decide +kernel
theorem dX9_holdsToMeet_31 : decode cX9_holdsToMeet 31 = .ok (.bipush (-2), 2) := by decide +kernel
theorem dX9_holdsToMeet_33 : decode cX9_holdsToMeet 33 = .ok (.istore 5, 2) := by decide +kernel
theorem dX9_holdsToMeet_35 : decode cX9_holdsToMeet 35 = .ok (.iconst 0, 1) := by decide +kernel
theorem dX9_holdsToMeet_36 : decode cX9_holdsToMeet 36 = .ok (.istore 6, 2) := by decide +kernel
theorem dX9_holdsToMeet_38 : decode cX9_holdsToMeet 38 = .ok (.iload 6, 2) := by decide +kernel
theorem dX9_holdsToMeet_40 : decode cX9_holdsToMeet 40 = .ok (.aload_n 0, 1) := by decide +kernel
theorem dX9_holdsToMeet_41 : decode cX9_holdsToMeet 41 = .ok (.invokevirtual 312, 3) := by decide +kernel
theorem dX9_holdsToMeet_44 : decode cX9_holdsToMeet 44 = .ok (.if_icmp .gt 56, 3) := by decide +kernel
theorem dX9_holdsToMeet_47 : decode cX9_holdsToMeet 47 = .ok (.iload 6, 2) := by decide +kernel
theorem dX9_holdsToMeet_49 : decode cX9_holdsToMeet 49 = .ok (.aload_n 0, 1) := by decide +kernel
theorem dX9_holdsToMeet_50 : decode cX9_holdsToMeet 50 = .ok (.getfield 26, 3) := by decide +kernel
theorem dX9_holdsToMeet_53 : decode cX9_holdsToMeet 53 = .ok (.bipush 7, 2) := by decide +kernel
theorem dX9_holdsToMeet_55 : decode cX9_holdsToMeet 55 = .ok (.iaload, 1) := by decide +kernel
theorem dX9_holdsToMeet_56 : decode cX9_holdsToMeet 56 = .ok (.iand, 1) := by decide +kernel
theorem dX9_holdsToMeet_57 : decode cX9_holdsToMeet 57 = .ok (.ifCond .ne 37, 3) := by decide +kernel
theorem dX9_holdsToMeet_60 : decode cX9_holdsToMeet 60 = .ok (.iload 5, 2) := by decide +kernel
theorem dX9_holdsToMeet_62 : decode cX9_holdsToMeet 62 = .ok (.ifCond .lt 16, 3) := by decide +kernel
theorem dX9_holdsToMeet_65 : decode cX9_holdsToMeet 65 = .ok (.iload 6, 2) := by decide +kernel
theorem dX9_holdsToMeet_67 : decode cX9_holdsToMeet 67 = .ok (.invokestatic 280, 3) := by decide +kernel
theorem dX9_holdsToMeet_70 : decode cX9_holdsToMeet 70 = .ok (.iload 5, 2) := by decide +kernel
theorem dX9_holdsToMeet_72 : decode cX9_holdsToMeet 72 = .ok (.invokestatic 280, 3) := by decide +kernel
theorem dX9_holdsToMeet_75 : decode cX9_holdsToMeet 75 = .ok (.if_icmp .ge 19, 3) := by decide +kernel
theorem dX9_holdsToMeet_78 : decode cX9_holdsToMeet 78 = .ok (.aload_n 0, 1) := by decide +kernel
theorem dX9_holdsToMeet_79 : decode cX9_holdsToMeet 79 = .ok (.iload 6, 2) := by decide +kernel
theorem dX9_holdsToMeet_81 : decode cX9_holdsToMeet 81 = .ok (.iload_n 1, 1) := by decide +kernel
theorem dX9_holdsToMeet_82 : decode cX9_holdsToMeet 82 = .ok (.iload_n 2, 1) := by decide +kernel
theorem dX9_holdsToMeet_83 : decode cX9_holdsToMeet 83 = .ok (.iload_n 3, 1) := by decide +kernel
theorem dX9_holdsToMeet_84 : decode cX9_holdsToMeet 84 = .ok (.invokevirtual 319, 3) := by decide +kernel
theorem dX9_holdsToMeet_87 : decode cX9_holdsToMeet 87 = .ok (.ifCond .eq 7, 3) := by decide +kernel
theorem dX9_holdsToMeet_90 : decode cX9_holdsToMeet 90 = .ok (.iload 6, 2) := by decide +kernel
theorem dX9_holdsToMeet_92 : decode cX9_holdsToMeet 92 = .ok (.istore 5, 2) := by decide +kernel
theorem dX9_holdsToMeet_94 : decode cX9_holdsToMeet 94 = .ok (.iinc 6 1, 3) := by decide +kernel
theorem dX9_holdsToMeet_97 : decode cX9_holdsToMeet 97 = .ok (.goto (-59), 3) := by decide +kernel
theorem dX9_holdsToMeet_100 : decode cX9_holdsToMeet 100 = .ok (.iload 5, 2) := by decide +kernel
theorem dX9_holdsToMeet_102 : decode cX9_holdsToMeet 102 = .ok (.ireturn, 1) := by decide +kernel
theorem dX9_keptBy_0 : decode cX9_keptBy 0 = .ok (.aload_n 0, 1) := by decide +kernel
theorem dX9_keptBy_1 : decode cX9_keptBy 1 = .ok (.invokevirtual 296, 3) := by decide +kernel
theorem dX9_keptBy_4 : decode cX9_keptBy 4 = .ok (.aload_n 0, 1) := by decide +kernel
theorem dX9_keptBy_5 : decode cX9_keptBy 5 = .ok (.getfield 35, 3) := by decide +kernel
theorem dX9_keptBy_8 : decode cX9_keptBy 8 = .ok (.bipush 7, 2) := by decide +kernel
theorem dX9_keptBy_10 : decode cX9_keptBy 10 = .ok (.dup2, 1) := by decide +kernel
theorem dX9_keptBy_11 : decode cX9_keptBy 11 = .ok (.iaload, 1) := by decide +kernel
theorem dX9_keptBy_12 : decode cX9_keptBy 12 = .ok (.iload_n 1, 1) := by decide +kernel
theorem dX9_keptBy_13 : decode cX9_keptBy 13 = .ok (.ior, 1) := by decide +kernel
theorem dX9_keptBy_14 : decode cX9_keptBy 14 = .ok (.iastore, 1) := by decide +kernel
theorem dX9_keptBy_15 : decode cX9_keptBy 15 = .ok (.iconst 0, 1) := by decide +kernel
theorem dX9_keptBy_16 : decode cX9_keptBy 16 = .ok (.istore_n 3, 1) := by decide +kernel
theorem dX9_keptBy_17 : decode cX9_keptBy 17 = .ok (.iconst 0, 1) := by decide +kernel
theorem dX9_keptBy_18 : decode cX9_keptBy 18 = .ok (.istore 4, 2) := by decide +kernel
theorem dX9_keptBy_20 : decode cX9_keptBy 20 = .ok (.iload 4, 2) := by decide +kernel
theorem dX9_keptBy_22 : decode cX9_keptBy 22 = .ok (.iload_n 2, 1) := by decide +kernel
theorem dX9_keptBy_23 : decode cX9_keptBy 23 = .ok (.if_icmp .ge 108, 3) := by decide +kernel
theorem dX9_keptBy_26 : decode cX9_keptBy 26 = .ok (.aload_n 0, 1) := by decide +kernel
theorem dX9_keptBy_27 : decode cX9_keptBy 27 = .ok (.aload_n 0, 1) := by decide +kernel
theorem dX9_keptBy_28 : decode cX9_keptBy 28 = .ok (.getfield 35, 3) := by decide +kernel
theorem dX9_keptBy_31 : decode cX9_keptBy 31 = .ok (.invokevirtual 299, 3) := by decide +kernel
theorem dX9_keptBy_34 : decode cX9_keptBy 34 = .ok (.pop, 1) := by decide +kernel
theorem dX9_keptBy_35 : decode cX9_keptBy 35 = .ok (.iconst 0, 1) := by decide +kernel
theorem dX9_keptBy_36 : decode cX9_keptBy 36 = .ok (.istore 5, 2) := by decide +kernel
theorem dX9_keptBy_38 : decode cX9_keptBy 38 = .ok (.iload 5, 2) := by decide +kernel
theorem dX9_keptBy_40 : decode cX9_keptBy 40 = .ok (.aload_n 0, 1) := by decide +kernel
theorem dX9_keptBy_41 : decode cX9_keptBy 41 = .ok (.getfield 20, 3) := by decide +kernel
theorem dX9_keptBy_44 : decode cX9_keptBy 44 = .ok (.bipush 6, 2) := by decide +kernel
theorem dX9_keptBy_46 : decode cX9_keptBy 46 = .ok (.iaload, 1) := by decide +kernel
theorem dX9_keptBy_47 : decode cX9_keptBy 47 = .ok (.if_icmp .ge 78, 3) := by decide +kernel
theorem dX9_keptBy_50 : decode cX9_keptBy 50 = .ok (.iload_n 3, 1) := by decide +kernel
theorem dX9_keptBy_51 : decode cX9_keptBy 51 = .ok (.aload_n 0, 1) := by decide +kernel
theorem dX9_keptBy_52 : decode cX9_keptBy 52 = .ok (.getfield 20, 3) := by decide +kernel
theorem dX9_keptBy_55 : decode cX9_keptBy 55 = .ok (.bipush 83, 2) := by decide +kernel
theorem dX9_keptBy_57 : decode cX9_keptBy 57 = .ok (.iconst 4, 1) := by decide +kernel
theorem dX9_keptBy_58 : decode cX9_keptBy 58 = .ok (.iload 5, 2) := by decide +kernel
theorem dX9_keptBy_60 : decode cX9_keptBy 60 = .ok (.imul, 1) := by decide +kernel
theorem dX9_keptBy_61 : decode cX9_keptBy 61 = .ok (.iadd, 1) := by decide +kernel
theorem dX9_keptBy_62 : decode cX9_keptBy 62 = .ok (.iconst 2, 1) := by decide +kernel
theorem dX9_keptBy_63 : decode cX9_keptBy 63 = .ok (.iadd, 1) := by decide +kernel
theorem dX9_keptBy_64 : decode cX9_keptBy 64 = .ok (.iaload, 1) := by decide +kernel
theorem dX9_keptBy_65 : decode cX9_keptBy 65 = .ok (.aload_n 0, 1) := by decide +kernel
theorem dX9_keptBy_66 : decode cX9_keptBy 66 = .ok (.getfield 35, 3) := by decide +kernel
theorem dX9_keptBy_69 : decode cX9_keptBy 69 = .ok (.bipush 8, 2) := by decide +kernel
theorem dX9_keptBy_71 : decode cX9_keptBy 71 = .ok (.iaload, 1) := by decide +kernel
theorem dX9_keptBy_72 : decode cX9_keptBy 72 = .ok (.if_icmp .ne 44, 3) := by decide +kernel
theorem dX9_keptBy_75 : decode cX9_keptBy 75 = .ok (.aload_n 0, 1) := by decide +kernel
theorem dX9_keptBy_76 : decode cX9_keptBy 76 = .ok (.getfield 35, 3) := by decide +kernel
theorem dX9_keptBy_79 : decode cX9_keptBy 79 = .ok (.aload_n 0, 1) := by decide +kernel
theorem dX9_keptBy_80 : decode cX9_keptBy 80 = .ok (.getfield 20, 3) := by decide +kernel
theorem dX9_keptBy_83 : decode cX9_keptBy 83 = .ok (.bipush 83, 2) := by decide +kernel
theorem dX9_keptBy_85 : decode cX9_keptBy 85 = .ok (.iconst 4, 1) := by decide +kernel
theorem dX9_keptBy_86 : decode cX9_keptBy 86 = .ok (.iload 5, 2) := by decide +kernel
theorem dX9_keptBy_88 : decode cX9_keptBy 88 = .ok (.imul, 1) := by decide +kernel
theorem dX9_keptBy_89 : decode cX9_keptBy 89 = .ok (.iadd, 1) := by decide +kernel
theorem dX9_keptBy_90 : decode cX9_keptBy 90 = .ok (.iaload, 1) := by decide +kernel
theorem dX9_keptBy_91 : decode cX9_keptBy 91 = .ok (.iaload, 1) := by decide +kernel
theorem dX9_keptBy_92 : decode cX9_keptBy 92 = .ok (.aload_n 0, 1) := by decide +kernel
theorem dX9_keptBy_93 : decode cX9_keptBy 93 = .ok (.getfield 20, 3) := by decide +kernel
theorem dX9_keptBy_96 : decode cX9_keptBy 96 = .ok (.bipush 83, 2) := by decide +kernel
theorem dX9_keptBy_98 : decode cX9_keptBy 98 = .ok (.iconst 4, 1) := by decide +kernel
theorem dX9_keptBy_99 : decode cX9_keptBy 99 = .ok (.iload 5, 2) := by decide +kernel
theorem dX9_keptBy_101 : decode cX9_keptBy 101 = .ok (.imul, 1) := by decide +kernel
theorem dX9_keptBy_102 : decode cX9_keptBy 102 = .ok (.iadd, 1) := by decide +kernel
theorem dX9_keptBy_103 : decode cX9_keptBy 103 = .ok (.iconst 1, 1) := by decide +kernel
theorem dX9_keptBy_104 : decode cX9_keptBy 104 = .ok (.iadd, 1) := by decide +kernel
theorem dX9_keptBy_105 : decode cX9_keptBy 105 = .ok (.iaload, 1) := by decide +kernel
theorem dX9_keptBy_106 : decode cX9_keptBy 106 = .ok (.if_icmp .ne 10, 3) := by decide +kernel
theorem dX9_keptBy_109 : decode cX9_keptBy 109 = .ok (.iconst 1, 1) := by decide +kernel
theorem dX9_keptBy_110 : decode cX9_keptBy 110 = .ok (.iload 5, 2) := by decide +kernel
theorem dX9_keptBy_112 : decode cX9_keptBy 112 = .ok (.ishl, 1) := by decide +kernel
theorem dX9_keptBy_113 : decode cX9_keptBy 113 = .ok (.goto 4, 3) := by decide +kernel
theorem dX9_keptBy_116 : decode cX9_keptBy 116 = .ok (.iconst 0, 1) := by decide +kernel
theorem dX9_keptBy_117 : decode cX9_keptBy 117 = .ok (.ior, 1) := by decide +kernel
theorem dX9_keptBy_118 : decode cX9_keptBy 118 = .ok (.istore_n 3, 1) := by decide +kernel
theorem dX9_keptBy_119 : decode cX9_keptBy 119 = .ok (.iinc 5 1, 3) := by decide +kernel
theorem dX9_keptBy_122 : decode cX9_keptBy 122 = .ok (.goto (-84), 3) := by decide +kernel
theorem dX9_keptBy_125 : decode cX9_keptBy 125 = .ok (.iinc 4 1, 3) := by decide +kernel
theorem dX9_keptBy_128 : decode cX9_keptBy 128 = .ok (.goto (-108), 3) := by decide +kernel
theorem dX9_keptBy_131 : decode cX9_keptBy 131 = .ok (.iload_n 3, 1) := by decide +kernel
theorem dX9_keptBy_132 : decode cX9_keptBy 132 = .ok (.ireturn, 1) := by decide +kernel
theorem dX9_payOf_0 : decode cX9_payOf 0 = .ok (.iconst 0, 1) := by decide +kernel
theorem dX9_payOf_1 : decode cX9_payOf 1 = .ok (.istore_n 2, 1) := by decide +kernel
theorem dX9_payOf_2 : decode cX9_payOf 2 = .ok (.iconst 0, 1) := by decide +kernel
theorem dX9_payOf_3 : decode cX9_payOf 3 = .ok (.istore_n 3, 1) := by decide +kernel
theorem dX9_payOf_4 : decode cX9_payOf 4 = .ok (.iload_n 3, 1) := by decide +kernel
theorem dX9_payOf_5 : decode cX9_payOf 5 = .ok (.aload_n 0, 1) := by decide +kernel
theorem dX9_payOf_6 : decode cX9_payOf 6 = .ok (.getfield 20, 3) := by decide +kernel
theorem dX9_payOf_9 : decode cX9_payOf 9 = .ok (.bipush 6, 2) := by decide +kernel
theorem dX9_payOf_11 : decode cX9_payOf 11 = .ok (.iaload, 1) := by decide +kernel
theorem dX9_payOf_12 : decode cX9_payOf 12 = .ok (.if_icmp .ge 37, 3) := by decide +kernel
theorem dX9_payOf_15 : decode cX9_payOf 15 = .ok (.iload_n 2, 1) := by decide +kernel
theorem dX9_payOf_16 : decode cX9_payOf 16 = .ok (.iload_n 1, 1) := by decide +kernel
theorem dX9_payOf_17 : decode cX9_payOf 17 = .ok (.iload_n 3, 1) := by decide +kernel
theorem dX9_payOf_18 : decode cX9_payOf 18 = .ok (.invokestatic 251, 3) := by decide +kernel
theorem dX9_payOf_21 : decode cX9_payOf 21 = .ok (.ifCond .eq 19, 3) := by decide +kernel
theorem dX9_payOf_24 : decode cX9_payOf 24 = .ok (.aload_n 0, 1) := by decide +kernel
theorem dX9_payOf_25 : decode cX9_payOf 25 = .ok (.getfield 20, 3) := by decide +kernel
theorem dX9_payOf_28 : decode cX9_payOf 28 = .ok (.bipush 83, 2) := by decide +kernel
theorem dX9_payOf_30 : decode cX9_payOf 30 = .ok (.iconst 4, 1) := by decide +kernel
theorem dX9_payOf_31 : decode cX9_payOf 31 = .ok (.iload_n 3, 1) := by decide +kernel
theorem dX9_payOf_32 : decode cX9_payOf 32 = .ok (.imul, 1) := by decide +kernel
theorem dX9_payOf_33 : decode cX9_payOf 33 = .ok (.iadd, 1) := by decide +kernel
theorem dX9_payOf_34 : decode cX9_payOf 34 = .ok (.iconst 3, 1) := by decide +kernel
theorem dX9_payOf_35 : decode cX9_payOf 35 = .ok (.iadd, 1) := by decide +kernel
theorem dX9_payOf_36 : decode cX9_payOf 36 = .ok (.iaload, 1) := by decide +kernel
theorem dX9_payOf_37 : decode cX9_payOf 37 = .ok (.goto 4, 3) := by decide +kernel
theorem dX9_payOf_40 : decode cX9_payOf 40 = .ok (.iconst 0, 1) := by decide +kernel
theorem dX9_payOf_41 : decode cX9_payOf 41 = .ok (.iadd, 1) := by decide +kernel
theorem dX9_payOf_42 : decode cX9_payOf 42 = .ok (.istore_n 2, 1) := by decide +kernel
theorem dX9_payOf_43 : decode cX9_payOf 43 = .ok (.iinc 3 1, 3) := by decide +kernel
theorem dX9_payOf_46 : decode cX9_payOf 46 = .ok (.goto (-42), 3) := by decide +kernel
theorem dX9_payOf_49 : decode cX9_payOf 49 = .ok (.iload_n 2, 1) := by decide +kernel
theorem dX9_payOf_50 : decode cX9_payOf 50 = .ok (.ireturn, 1) := by decide +kernel
theorem dX9_bestOf_0 : decode cX9_bestOf 0 = .ok (.iconst 0, 1) := by decide +kernel
theorem dX9_bestOf_1 : decode cX9_bestOf 1 = .ok (.istore_n 2, 1) := by decide +kernel
theorem dX9_bestOf_2 : decode cX9_bestOf 2 = .ok (.aload_n 0, 1) := by decide +kernel
theorem dX9_bestOf_3 : decode cX9_bestOf 3 = .ok (.aload_n 0, 1) := by decide +kernel
theorem dX9_bestOf_4 : decode cX9_bestOf 4 = .ok (.iconst 0, 1) := by decide +kernel
theorem dX9_bestOf_5 : decode cX9_bestOf 5 = .ok (.iload_n 1, 1) := by decide +kernel
theorem dX9_bestOf_6 : decode cX9_bestOf 6 = .ok (.invokevirtual 322, 3) := by decide +kernel
theorem dX9_bestOf_9 : decode cX9_bestOf 9 = .ok (.invokevirtual 325, 3) := by decide +kernel
theorem dX9_bestOf_12 : decode cX9_bestOf 12 = .ok (.istore_n 3, 1) := by decide +kernel
theorem dX9_bestOf_13 : decode cX9_bestOf 13 = .ok (.iconst 1, 1) := by decide +kernel
theorem dX9_bestOf_14 : decode cX9_bestOf 14 = .ok (.istore 4, 2) := by decide +kernel
theorem dX9_bestOf_16 : decode cX9_bestOf 16 = .ok (.iload 4, 2) := by decide +kernel
theorem dX9_bestOf_18 : decode cX9_bestOf 18 = .ok (.aload_n 0, 1) := by decide +kernel
theorem dX9_bestOf_19 : decode cX9_bestOf 19 = .ok (.invokevirtual 312, 3) := by decide +kernel
theorem dX9_bestOf_22 : decode cX9_bestOf 22 = .ok (.if_icmp .gt 71, 3) := by decide +kernel
theorem dX9_bestOf_25 : decode cX9_bestOf 25 = .ok (.iload 4, 2) := by decide +kernel
theorem dX9_bestOf_27 : decode cX9_bestOf 27 = .ok (.aload_n 0, 1) := by decide +kernel
theorem dX9_bestOf_28 : decode cX9_bestOf 28 = .ok (.getfield 26, 3) := by decide +kernel
theorem dX9_bestOf_31 : decode cX9_bestOf 31 = .ok (.bipush 7, 2) := by decide +kernel
theorem dX9_bestOf_33 : decode cX9_bestOf 33 = .ok (.iaload, 1) := by decide +kernel
theorem dX9_bestOf_34 : decode cX9_bestOf 34 = .ok (.iand, 1) := by decide +kernel
theorem dX9_bestOf_35 : decode cX9_bestOf 35 = .ok (.ifCond .eq 6, 3) := by decide +kernel
theorem dX9_bestOf_38 : decode cX9_bestOf 38 = .ok (.goto 49, 3) := by decide +kernel
theorem dX9_bestOf_41 : decode cX9_bestOf 41 = .ok (.aload_n 0, 1) := by decide +kernel
theorem dX9_bestOf_42 : decode cX9_bestOf 42 = .ok (.aload_n 0, 1) := by decide +kernel
theorem dX9_bestOf_43 : decode cX9_bestOf 43 = .ok (.iload 4, 2) := by decide +kernel
theorem dX9_bestOf_45 : decode cX9_bestOf 45 = .ok (.iload_n 1, 1) := by decide +kernel
theorem dX9_bestOf_46 : decode cX9_bestOf 46 = .ok (.invokevirtual 322, 3) := by decide +kernel
theorem dX9_bestOf_49 : decode cX9_bestOf 49 = .ok (.invokevirtual 325, 3) := by decide +kernel
theorem dX9_bestOf_52 : decode cX9_bestOf 52 = .ok (.istore 5, 2) := by decide +kernel
theorem dX9_bestOf_54 : decode cX9_bestOf 54 = .ok (.iload 5, 2) := by decide +kernel
theorem dX9_bestOf_56 : decode cX9_bestOf 56 = .ok (.iload_n 3, 1) := by decide +kernel
theorem dX9_bestOf_57 : decode cX9_bestOf 57 = .ok (.if_icmp .lt 30, 3) := by decide +kernel
theorem dX9_bestOf_60 : decode cX9_bestOf 60 = .ok (.iload 5, 2) := by decide +kernel
theorem dX9_bestOf_62 : decode cX9_bestOf 62 = .ok (.iload_n 3, 1) := by decide +kernel
theorem dX9_bestOf_63 : decode cX9_bestOf 63 = .ok (.if_icmp .ne 18, 3) := by decide +kernel
theorem dX9_bestOf_66 : decode cX9_bestOf 66 = .ok (.iload 4, 2) := by decide +kernel
theorem dX9_bestOf_68 : decode cX9_bestOf 68 = .ok (.invokestatic 280, 3) := by decide +kernel
theorem dX9_bestOf_71 : decode cX9_bestOf 71 = .ok (.iload_n 2, 1) := by decide +kernel
theorem dX9_bestOf_72 : decode cX9_bestOf 72 = .ok (.invokestatic 280, 3) := by decide +kernel
theorem dX9_bestOf_75 : decode cX9_bestOf 75 = .ok (.if_icmp .lt 6, 3) := by decide +kernel
theorem dX9_bestOf_78 : decode cX9_bestOf 78 = .ok (.goto 9, 3) := by decide +kernel
theorem dX9_bestOf_81 : decode cX9_bestOf 81 = .ok (.iload 4, 2) := by decide +kernel
theorem dX9_bestOf_83 : decode cX9_bestOf 83 = .ok (.istore_n 2, 1) := by decide +kernel
theorem dX9_bestOf_84 : decode cX9_bestOf 84 = .ok (.iload 5, 2) := by decide +kernel
theorem dX9_bestOf_86 : decode cX9_bestOf 86 = .ok (.istore_n 3, 1) := by decide +kernel
theorem dX9_bestOf_87 : decode cX9_bestOf 87 = .ok (.iinc 4 1, 3) := by decide +kernel
theorem dX9_bestOf_90 : decode cX9_bestOf 90 = .ok (.goto (-74), 3) := by decide +kernel
theorem dX9_bestOf_93 : decode cX9_bestOf 93 = .ok (.iload_n 2, 1) := by decide +kernel
theorem dX9_bestOf_94 : decode cX9_bestOf 94 = .ok (.ireturn, 1) := by decide +kernel
theorem dX9_pays_0 : decode cX9_pays 0 = .ok (.aload_n 0, 1) := by decide +kernel
theorem dX9_pays_1 : decode cX9_pays 1 = .ok (.invokevirtual 153, 3) := by decide +kernel
theorem dX9_pays_4 : decode cX9_pays 4 = .ok (.aload_n 0, 1) := by decide +kernel
theorem dX9_pays_5 : decode cX9_pays 5 = .ok (.aload_n 0, 1) := by decide +kernel
theorem dX9_pays_6 : decode cX9_pays 6 = .ok (.getfield 166, 3) := by decide +kernel
theorem dX9_pays_9 : decode cX9_pays 9 = .ok (.iload_n 1, 1) := by decide +kernel
theorem dX9_pays_10 : decode cX9_pays 10 = .ok (.bipush 60, 2) := by decide +kernel
theorem dX9_pays_12 : decode cX9_pays 12 = .ok (.invokevirtual 292, 3) := by decide +kernel
theorem dX9_pays_15 : decode cX9_pays 15 = .ok (.istore_n 2, 1) := by decide +kernel
theorem dX9_pays_16 : decode cX9_pays 16 = .ok (.iload_n 2, 1) := by decide +kernel
theorem dX9_pays_17 : decode cX9_pays 17 = .ok (.ifCond .eq 11, 3) := by decide +kernel
theorem dX9_pays_20 : decode cX9_pays 20 = .ok (.aload_n 0, 1) := by decide +kernel
theorem dX9_pays_21 : decode cX9_pays 21 = .ok (.iload_n 2, 1) := by decide +kernel
theorem dX9_pays_22 : decode cX9_pays 22 = .ok (.invokevirtual 156, 3) := by decide +kernel
theorem dX9_pays_25 : decode cX9_pays 25 = .ok (.goto 13, 3) := by decide +kernel
theorem dX9_pays_28 : decode cX9_pays 28 = .ok (.aload_n 0, 1) := by decide +kernel
theorem dX9_pays_29 : decode cX9_pays 29 = .ok (.aload_n 0, 1) := by decide +kernel
theorem dX9_pays_30 : decode cX9_pays 30 = .ok (.iconst 0, 1) := by decide +kernel
theorem dX9_pays_31 : decode cX9_pays 31 = .ok (.iload_n 1, 1) := by decide +kernel
theorem dX9_pays_32 : decode cX9_pays 32 = .ok (.invokevirtual 322, 3) := by decide +kernel
theorem dX9_pays_35 : decode cX9_pays 35 = .ok (.invokevirtual 325, 3) := by decide +kernel
theorem dX9_pays_38 : decode cX9_pays 38 = .ok (.ireturn, 1) := by decide +kernel
theorem dX9_best_0 : decode cX9_best 0 = .ok (.aload_n 0, 1) := by decide +kernel
theorem dX9_best_1 : decode cX9_best 1 = .ok (.invokevirtual 153, 3) := by decide +kernel
theorem dX9_best_4 : decode cX9_best 4 = .ok (.aload_n 0, 1) := by decide +kernel
theorem dX9_best_5 : decode cX9_best 5 = .ok (.aload_n 0, 1) := by decide +kernel
theorem dX9_best_6 : decode cX9_best 6 = .ok (.getfield 166, 3) := by decide +kernel
theorem dX9_best_9 : decode cX9_best 9 = .ok (.iload_n 1, 1) := by decide +kernel
theorem dX9_best_10 : decode cX9_best 10 = .ok (.bipush 60, 2) := by decide +kernel
theorem dX9_best_12 : decode cX9_best 12 = .ok (.invokevirtual 292, 3) := by decide +kernel
theorem dX9_best_15 : decode cX9_best 15 = .ok (.istore_n 2, 1) := by decide +kernel
theorem dX9_best_16 : decode cX9_best 16 = .ok (.iload_n 2, 1) := by decide +kernel
theorem dX9_best_17 : decode cX9_best 17 = .ok (.ifCond .eq 11, 3) := by decide +kernel
theorem dX9_best_20 : decode cX9_best 20 = .ok (.aload_n 0, 1) := by decide +kernel
theorem dX9_best_21 : decode cX9_best 21 = .ok (.iload_n 2, 1) := by decide +kernel
theorem dX9_best_22 : decode cX9_best 22 = .ok (.invokevirtual 156, 3) := by decide +kernel
theorem dX9_best_25 : decode cX9_best 25 = .ok (.goto 8, 3) := by decide +kernel
theorem dX9_best_28 : decode cX9_best 28 = .ok (.aload_n 0, 1) := by decide +kernel
theorem dX9_best_29 : decode cX9_best 29 = .ok (.iload_n 1, 1) := by decide +kernel
theorem dX9_best_30 : decode cX9_best 30 = .ok (.invokevirtual 328, 3) := by decide +kernel
theorem dX9_best_33 : decode cX9_best 33 = .ok (.ireturn, 1) := by decide +kernel
theorem dX9_bestPays_0 : decode cX9_bestPays 0 = .ok (.aload_n 0, 1) := by decide +kernel
theorem dX9_bestPays_1 : decode cX9_bestPays 1 = .ok (.invokevirtual 153, 3) := by decide +kernel
theorem dX9_bestPays_4 : decode cX9_bestPays 4 = .ok (.aload_n 0, 1) := by decide +kernel
theorem dX9_bestPays_5 : decode cX9_bestPays 5 = .ok (.aload_n 0, 1) := by decide +kernel
theorem dX9_bestPays_6 : decode cX9_bestPays 6 = .ok (.getfield 166, 3) := by decide +kernel
theorem dX9_bestPays_9 : decode cX9_bestPays 9 = .ok (.iload_n 1, 1) := by decide +kernel
theorem dX9_bestPays_10 : decode cX9_bestPays 10 = .ok (.bipush 60, 2) := by decide +kernel
theorem dX9_bestPays_12 : decode cX9_bestPays 12 = .ok (.invokevirtual 292, 3) := by decide +kernel
theorem dX9_bestPays_15 : decode cX9_bestPays 15 = .ok (.istore_n 2, 1) := by decide +kernel
theorem dX9_bestPays_16 : decode cX9_bestPays 16 = .ok (.iload_n 2, 1) := by decide +kernel
theorem dX9_bestPays_17 : decode cX9_bestPays 17 = .ok (.ifCond .eq 11, 3) := by decide +kernel
theorem dX9_bestPays_20 : decode cX9_bestPays 20 = .ok (.aload_n 0, 1) := by decide +kernel
theorem dX9_bestPays_21 : decode cX9_bestPays 21 = .ok (.iload_n 2, 1) := by decide +kernel
theorem dX9_bestPays_22 : decode cX9_bestPays 22 = .ok (.invokevirtual 156, 3) := by decide +kernel
theorem dX9_bestPays_25 : decode cX9_bestPays 25 = .ok (.goto 17, 3) := by decide +kernel
theorem dX9_bestPays_28 : decode cX9_bestPays 28 = .ok (.aload_n 0, 1) := by decide +kernel
theorem dX9_bestPays_29 : decode cX9_bestPays 29 = .ok (.aload_n 0, 1) := by decide +kernel
theorem dX9_bestPays_30 : decode cX9_bestPays 30 = .ok (.aload_n 0, 1) := by decide +kernel
theorem dX9_bestPays_31 : decode cX9_bestPays 31 = .ok (.iload_n 1, 1) := by decide +kernel
theorem dX9_bestPays_32 : decode cX9_bestPays 32 = .ok (.invokevirtual 328, 3) := by decide +kernel
theorem dX9_bestPays_35 : decode cX9_bestPays 35 = .ok (.iload_n 1, 1) := by decide +kernel
theorem dX9_bestPays_36 : decode cX9_bestPays 36 = .ok (.invokevirtual 322, 3) := by decide +kernel
theorem dX9_bestPays_39 : decode cX9_bestPays 39 = .ok (.invokevirtual 325, 3) := by decide +kernel
theorem dX9_bestPays_42 : decode cX9_bestPays 42 = .ok (.ireturn, 1) := by decide +kernel
theorem dX9_kept_0 : decode cX9_kept 0 = .ok (.aload_n 0, 1) := by decide +kernel
theorem dX9_kept_1 : decode cX9_kept 1 = .ok (.invokevirtual 153, 3) := by decide +kernel
theorem dX9_kept_4 : decode cX9_kept 4 = .ok (.aload_n 0, 1) := by decide +kernel
theorem dX9_kept_5 : decode cX9_kept 5 = .ok (.getfield 166, 3) := by decide +kernel
theorem dX9_kept_8 : decode cX9_kept 8 = .ok (.ifCond .eq 13, 3) := by decide +kernel
theorem dX9_kept_11 : decode cX9_kept 11 = .ok (.aload_n 0, 1) := by decide +kernel
theorem dX9_kept_12 : decode cX9_kept 12 = .ok (.iconst 0, 1) := by decide +kernel
theorem dX9_kept_13 : decode cX9_kept 13 = .ok (.bipush 60, 2) := by decide +kernel
theorem dX9_kept_15 : decode cX9_kept 15 = .ok (.invokevirtual 322, 3) := by decide +kernel
theorem dX9_kept_18 : decode cX9_kept 18 = .ok (.goto 8, 3) := by decide +kernel
theorem dX9_kept_21 : decode cX9_kept 21 = .ok (.aload_n 0, 1) := by decide +kernel
theorem dX9_kept_22 : decode cX9_kept 22 = .ok (.iconst 1, 1) := by decide +kernel
theorem dX9_kept_23 : decode cX9_kept 23 = .ok (.invokevirtual 156, 3) := by decide +kernel
theorem dX9_kept_26 : decode cX9_kept 26 = .ok (.ireturn, 1) := by decide +kernel
theorem dX9_isRule_0 : decode cX9_isRule 0 = .ok (.iconst 1, 1) := by decide +kernel
theorem dX9_isRule_1 : decode cX9_isRule 1 = .ok (.istore 4, 2) := by decide +kernel
theorem dX9_isRule_3 : decode cX9_isRule 3 = .ok (.iconst 0, 1) := by decide +kernel
theorem dX9_isRule_4 : decode cX9_isRule 4 = .ok (.istore 5, 2) := by decide +kernel
theorem dX9_isRule_6 : decode cX9_isRule 6 = .ok (.iload 5, 2) := by decide +kernel
theorem dX9_isRule_8 : decode cX9_isRule 8 = .ok (.aload_n 0, 1) := by decide +kernel
theorem dX9_isRule_9 : decode cX9_isRule 9 = .ok (.getfield 20, 3) := by decide +kernel
theorem dX9_isRule_12 : decode cX9_isRule 12 = .ok (.bipush 7, 2) := by decide +kernel
theorem dX9_isRule_14 : decode cX9_isRule 14 = .ok (.iaload, 1) := by decide +kernel
theorem dX9_isRule_15 : decode cX9_isRule 15 = .ok (.if_icmp .ge 87, 3) := by decide +kernel
theorem dX9_isRule_18 : decode cX9_isRule 18 = .ok (.iload 4, 2) := by decide +kernel
theorem dX9_isRule_20 : decode cX9_isRule 20 = .ok (.ifCond .eq 73, 3) := by decide +kernel
theorem dX9_isRule_23 : decode cX9_isRule 23 = .ok (.iload_n 3, 1) := by decide +kernel
theorem dX9_isRule_24 : decode cX9_isRule 24 = .ok (.iload_n 2, 1) := by decide +kernel
theorem dX9_isRule_25 : decode cX9_isRule 25 = .ok (.aload_n 0, 1) := by decide +kernel
theorem dX9_isRule_26 : decode cX9_isRule 26 = .ok (.getfield 20, 3) := by decide +kernel
theorem dX9_isRule_29 : decode cX9_isRule 29 = .ok (.bipush 107, 2) := by decide +kernel
theorem dX9_isRule_31 : decode cX9_isRule 31 = .ok (.iconst 3, 1) := by decide +kernel
theorem dX9_isRule_32 : decode cX9_isRule 32 = .ok (.iload 5, 2) := by decide +kernel
theorem dX9_isRule_34 : decode cX9_isRule 34 = .ok (.imul, 1) := by decide +kernel
theorem dX9_isRule_35 : decode cX9_isRule 35 = .ok (.iadd, 1) := by decide +kernel
theorem dX9_isRule_36 : decode cX9_isRule 36 = .ok (.iaload, 1) := by decide +kernel
theorem dX9_isRule_37 : decode cX9_isRule 37 = .ok (.imul, 1) := by decide +kernel
theorem dX9_isRule_38 : decode cX9_isRule 38 = .ok (.iadd, 1) := by decide +kernel
theorem dX9_isRule_39 : decode cX9_isRule 39 = .ok (.iload_n 1, 1) := by decide +kernel
theorem dX9_isRule_40 : decode cX9_isRule 40 = .ok (.irem, 1) := by decide +kernel
theorem dX9_isRule_41 : decode cX9_isRule 41 = .ok (.aload_n 0, 1) := by decide +kernel
theorem dX9_isRule_42 : decode cX9_isRule 42 = .ok (.getfield 20, 3) := by decide +kernel
theorem dX9_isRule_45 : decode cX9_isRule 45 = .ok (.bipush 107, 2) := by decide +kernel
theorem dX9_isRule_47 : decode cX9_isRule 47 = .ok (.iconst 3, 1) := by decide +kernel
theorem dX9_isRule_48 : decode cX9_isRule 48 = .ok (.iload 5, 2) := by decide +kernel
theorem dX9_isRule_50 : decode cX9_isRule 50 = .ok (.imul, 1) := by decide +kernel
theorem dX9_isRule_51 : decode cX9_isRule 51 = .ok (.iadd, 1) := by decide +kernel
theorem dX9_isRule_52 : decode cX9_isRule 52 = .ok (.iconst 1, 1) := by decide +kernel
theorem dX9_isRule_53 : decode cX9_isRule 53 = .ok (.iadd, 1) := by decide +kernel
theorem dX9_isRule_54 : decode cX9_isRule 54 = .ok (.iaload, 1) := by decide +kernel
theorem dX9_isRule_55 : decode cX9_isRule 55 = .ok (.if_icmp .ne 7, 3) := by decide +kernel
theorem dX9_isRule_58 : decode cX9_isRule 58 = .ok (.iconst 1, 1) := by decide +kernel
theorem dX9_isRule_59 : decode cX9_isRule 59 = .ok (.goto 4, 3) := by decide +kernel
theorem dX9_isRule_62 : decode cX9_isRule 62 = .ok (.iconst 0, 1) := by decide +kernel
theorem dX9_isRule_63 : decode cX9_isRule 63 = .ok (.aload_n 0, 1) := by decide +kernel
theorem dX9_isRule_64 : decode cX9_isRule 64 = .ok (.getfield 20, 3) := by decide +kernel
theorem dX9_isRule_67 : decode cX9_isRule 67 = .ok (.bipush 107, 2) := by decide +kernel
theorem dX9_isRule_69 : decode cX9_isRule 69 = .ok (.iconst 3, 1) := by decide +kernel
theorem dX9_isRule_70 : decode cX9_isRule 70 = .ok (.iload 5, 2) := by decide +kernel
theorem dX9_isRule_72 : decode cX9_isRule 72 = .ok (.imul, 1) := by decide +kernel
theorem dX9_isRule_73 : decode cX9_isRule 73 = .ok (.iadd, 1) := by decide +kernel
theorem dX9_isRule_74 : decode cX9_isRule 74 = .ok (.iconst 2, 1) := by decide +kernel
theorem dX9_isRule_75 : decode cX9_isRule 75 = .ok (.iadd, 1) := by decide +kernel
theorem dX9_isRule_76 : decode cX9_isRule 76 = .ok (.iaload, 1) := by decide +kernel
theorem dX9_isRule_77 : decode cX9_isRule 77 = .ok (.iconst 1, 1) := by decide +kernel
theorem dX9_isRule_78 : decode cX9_isRule 78 = .ok (.if_icmp .ne 7, 3) := by decide +kernel
theorem dX9_isRule_81 : decode cX9_isRule 81 = .ok (.iconst 1, 1) := by decide +kernel
theorem dX9_isRule_82 : decode cX9_isRule 82 = .ok (.goto 4, 3) := by decide +kernel
theorem dX9_isRule_85 : decode cX9_isRule 85 = .ok (.iconst 0, 1) := by decide +kernel
theorem dX9_isRule_86 : decode cX9_isRule 86 = .ok (.if_icmp .ne 7, 3) := by decide +kernel
theorem dX9_isRule_89 : decode cX9_isRule 89 = .ok (.iconst 1, 1) := by decide +kernel
theorem dX9_isRule_90 : decode cX9_isRule 90 = .ok (.goto 4, 3) := by decide +kernel
theorem dX9_isRule_93 : decode cX9_isRule 93 = .ok (.iconst 0, 1) := by decide +kernel
theorem dX9_isRule_94 : decode cX9_isRule 94 = .ok (.istore 4, 2) := by decide +kernel
theorem dX9_isRule_96 : decode cX9_isRule 96 = .ok (.iinc 5 1, 3) := by decide +kernel
theorem dX9_isRule_99 : decode cX9_isRule 99 = .ok (.goto (-93), 3) := by decide +kernel
theorem dX9_isRule_102 : decode cX9_isRule 102 = .ok (.iload 4, 2) := by decide +kernel
theorem dX9_isRule_104 : decode cX9_isRule 104 = .ok (.ireturn, 1) := by decide +kernel
theorem dX9_rulesBy_0 : decode cX9_rulesBy 0 = .ok (.iconst 0, 1) := by decide +kernel
theorem dX9_rulesBy_1 : decode cX9_rulesBy 1 = .ok (.istore 4, 2) := by decide +kernel
theorem dX9_rulesBy_3 : decode cX9_rulesBy 3 = .ok (.iconst 2, 1) := by decide +kernel
theorem dX9_rulesBy_4 : decode cX9_rulesBy 4 = .ok (.istore 5, 2) := by decide +kernel
theorem dX9_rulesBy_6 : decode cX9_rulesBy 6 = .ok (.iload 5, 2) := by decide +kernel
theorem dX9_rulesBy_8 : decode cX9_rulesBy 8 = .ok (.bipush 12, 2) := by decide +kernel
theorem dX9_rulesBy_10 : decode cX9_rulesBy 10 = .ok (.if_icmp .gt 82, 3) := by decide +kernel
theorem dX9_rulesBy_13 : decode cX9_rulesBy 13 = .ok (.iconst 1, 1) := by decide +kernel
theorem dX9_rulesBy_14 : decode cX9_rulesBy 14 = .ok (.istore 6, 2) := by decide +kernel
theorem dX9_rulesBy_16 : decode cX9_rulesBy 16 = .ok (.iload 6, 2) := by decide +kernel
theorem dX9_rulesBy_18 : decode cX9_rulesBy 18 = .ok (.iload 5, 2) := by decide +kernel
theorem dX9_rulesBy_20 : decode cX9_rulesBy 20 = .ok (.if_icmp .ge 66, 3) := by decide +kernel
theorem dX9_rulesBy_23 : decode cX9_rulesBy 23 = .ok (.iconst 0, 1) := by decide +kernel
theorem dX9_rulesBy_24 : decode cX9_rulesBy 24 = .ok (.istore 7, 2) := by decide +kernel
theorem dX9_rulesBy_26 : decode cX9_rulesBy 26 = .ok (.iload 7, 2) := by decide +kernel
theorem dX9_rulesBy_28 : decode cX9_rulesBy 28 = .ok (.iload 5, 2) := by decide +kernel
theorem dX9_rulesBy_30 : decode cX9_rulesBy 30 = .ok (.if_icmp .ge 50, 3) := by decide +kernel
theorem dX9_rulesBy_33 : decode cX9_rulesBy 33 = .ok (.iload 4, 2) := by decide +kernel
theorem dX9_rulesBy_35 : decode cX9_rulesBy 35 = .ok (.aload_n 0, 1) := by decide +kernel
theorem dX9_rulesBy_36 : decode cX9_rulesBy 36 = .ok (.iload 5, 2) := by decide +kernel
theorem dX9_rulesBy_38 : decode cX9_rulesBy 38 = .ok (.iload 6, 2) := by decide +kernel
theorem dX9_rulesBy_40 : decode cX9_rulesBy 40 = .ok (.iload 7, 2) := by decide +kernel
theorem dX9_rulesBy_42 : decode cX9_rulesBy 42 = .ok (.invokevirtual 331, 3) := by decide +kernel
theorem dX9_rulesBy_45 : decode cX9_rulesBy 45 = .ok (.ifCond .eq 25, 3) := by decide +kernel
theorem dX9_rulesBy_48 : decode cX9_rulesBy 48 = .ok (.iload_n 1, 1) := by decide +kernel
theorem dX9_rulesBy_49 : decode cX9_rulesBy 49 = .ok (.ifCond .ne 17, 3) := by decide +kernel
theorem dX9_rulesBy_52 : decode cX9_rulesBy 52 = .ok (.iload 7, 2) := by decide +kernel
theorem dX9_rulesBy_54 : decode cX9_rulesBy 54 = .ok (.iload 6, 2) := by decide +kernel
theorem dX9_rulesBy_56 : decode cX9_rulesBy 56 = .ok (.iload_n 2, 1) := by decide +kernel
theorem dX9_rulesBy_57 : decode cX9_rulesBy 57 = .ok (.imul, 1) := by decide +kernel
theorem dX9_rulesBy_58 : decode cX9_rulesBy 58 = .ok (.iadd, 1) := by decide +kernel
theorem dX9_rulesBy_59 : decode cX9_rulesBy 59 = .ok (.iload 5, 2) := by decide +kernel
theorem dX9_rulesBy_61 : decode cX9_rulesBy 61 = .ok (.irem, 1) := by decide +kernel
theorem dX9_rulesBy_62 : decode cX9_rulesBy 62 = .ok (.iload_n 3, 1) := by decide +kernel
theorem dX9_rulesBy_63 : decode cX9_rulesBy 63 = .ok (.if_icmp .ne 7, 3) := by decide +kernel
theorem dX9_rulesBy_66 : decode cX9_rulesBy 66 = .ok (.iconst 1, 1) := by decide +kernel
theorem dX9_rulesBy_67 : decode cX9_rulesBy 67 = .ok (.goto 4, 3) := by decide +kernel
theorem dX9_rulesBy_70 : decode cX9_rulesBy 70 = .ok (.iconst 0, 1) := by decide +kernel
theorem dX9_rulesBy_71 : decode cX9_rulesBy 71 = .ok (.iadd, 1) := by decide +kernel
theorem dX9_rulesBy_72 : decode cX9_rulesBy 72 = .ok (.istore 4, 2) := by decide +kernel
theorem dX9_rulesBy_74 : decode cX9_rulesBy 74 = .ok (.iinc 7 1, 3) := by decide +kernel
theorem dX9_rulesBy_77 : decode cX9_rulesBy 77 = .ok (.goto (-51), 3) := by decide +kernel
theorem dX9_rulesBy_80 : decode cX9_rulesBy 80 = .ok (.iinc 6 1, 3) := by decide +kernel
theorem dX9_rulesBy_83 : decode cX9_rulesBy 83 = .ok (.goto (-67), 3) := by decide +kernel
theorem dX9_rulesBy_86 : decode cX9_rulesBy 86 = .ok (.iinc 5 1, 3) := by decide +kernel
theorem dX9_rulesBy_89 : decode cX9_rulesBy 89 = .ok (.goto (-83), 3) := by decide +kernel
theorem dX9_rulesBy_92 : decode cX9_rulesBy 92 = .ok (.iload 4, 2) := by decide +kernel
theorem dX9_rulesBy_94 : decode cX9_rulesBy 94 = .ok (.ireturn, 1) := by decide +kernel
theorem dX9_rules_0 : decode cX9_rules 0 = .ok (.aload_n 0, 1) := by decide +kernel
theorem dX9_rules_1 : decode cX9_rules 1 = .ok (.invokevirtual 153, 3) := by decide +kernel
theorem dX9_rules_4 : decode cX9_rules 4 = .ok (.aload_n 0, 1) := by decide +kernel
theorem dX9_rules_5 : decode cX9_rules 5 = .ok (.getfield 166, 3) := by decide +kernel
theorem dX9_rules_8 : decode cX9_rules 8 = .ok (.ifCond .eq 13, 3) := by decide +kernel
theorem dX9_rules_11 : decode cX9_rules 11 = .ok (.aload_n 0, 1) := by decide +kernel
theorem dX9_rules_12 : decode cX9_rules 12 = .ok (.iconst 1, 1) := by decide +kernel
theorem dX9_rules_13 : decode cX9_rules 13 = .ok (.iconst 0, 1) := by decide +kernel
theorem dX9_rules_14 : decode cX9_rules 14 = .ok (.iconst 0, 1) := by decide +kernel
theorem dX9_rules_15 : decode cX9_rules 15 = .ok (.invokevirtual 334, 3) := by decide +kernel
theorem dX9_rules_18 : decode cX9_rules 18 = .ok (.goto 8, 3) := by decide +kernel
theorem dX9_rules_21 : decode cX9_rules 21 = .ok (.aload_n 0, 1) := by decide +kernel
theorem dX9_rules_22 : decode cX9_rules 22 = .ok (.iconst 1, 1) := by decide +kernel
theorem dX9_rules_23 : decode cX9_rules 23 = .ok (.invokevirtual 156, 3) := by decide +kernel
theorem dX9_rules_26 : decode cX9_rules 26 = .ok (.ireturn, 1) := by decide +kernel
theorem dX9_ruleAt_0 : decode cX9_ruleAt 0 = .ok (.aload_n 0, 1) := by decide +kernel
theorem dX9_ruleAt_1 : decode cX9_ruleAt 1 = .ok (.invokevirtual 153, 3) := by decide +kernel
theorem dX9_ruleAt_4 : decode cX9_ruleAt 4 = .ok (.aload_n 0, 1) := by decide +kernel
theorem dX9_ruleAt_5 : decode cX9_ruleAt 5 = .ok (.getfield 166, 3) := by decide +kernel
theorem dX9_ruleAt_8 : decode cX9_ruleAt 8 = .ok (.ifCond .ne 9, 3) := by decide +kernel
theorem dX9_ruleAt_11 : decode cX9_ruleAt 11 = .ok (.aload_n 0, 1) := by decide +kernel
theorem dX9_ruleAt_12 : decode cX9_ruleAt 12 = .ok (.iconst 1, 1) := by decide +kernel
theorem dX9_ruleAt_13 : decode cX9_ruleAt 13 = .ok (.invokevirtual 156, 3) := by decide +kernel
theorem dX9_ruleAt_16 : decode cX9_ruleAt 16 = .ok (.ireturn, 1) := by decide +kernel
theorem dX9_ruleAt_17 : decode cX9_ruleAt 17 = .ok (.iconst 0, 1) := by decide +kernel
theorem dX9_ruleAt_18 : decode cX9_ruleAt 18 = .ok (.istore_n 2, 1) := by decide +kernel
theorem dX9_ruleAt_19 : decode cX9_ruleAt 19 = .ok (.iconst 2, 1) := by decide +kernel
theorem dX9_ruleAt_20 : decode cX9_ruleAt 20 = .ok (.istore_n 3, 1) := by decide +kernel
theorem dX9_ruleAt_21 : decode cX9_ruleAt 21 = .ok (.iload_n 3, 1) := by decide +kernel
theorem dX9_ruleAt_22 : decode cX9_ruleAt 22 = .ok (.bipush 12, 2) := by decide +kernel
theorem dX9_ruleAt_24 : decode cX9_ruleAt 24 = .ok (.if_icmp .gt 77, 3) := by decide +kernel
theorem dX9_ruleAt_27 : decode cX9_ruleAt 27 = .ok (.iconst 1, 1) := by decide +kernel
theorem dX9_ruleAt_28 : decode cX9_ruleAt 28 = .ok (.istore 4, 2) := by decide +kernel
theorem dX9_ruleAt_30 : decode cX9_ruleAt 30 = .ok (.iload 4, 2) := by decide +kernel
theorem dX9_ruleAt_32 : decode cX9_ruleAt 32 = .ok (.iload_n 3, 1) := by decide +kernel
theorem dX9_ruleAt_33 : decode cX9_ruleAt 33 = .ok (.if_icmp .ge 62, 3) := by decide +kernel
theorem dX9_ruleAt_36 : decode cX9_ruleAt 36 = .ok (.iconst 0, 1) := by decide +kernel
theorem dX9_ruleAt_37 : decode cX9_ruleAt 37 = .ok (.istore 5, 2) := by decide +kernel
theorem dX9_ruleAt_39 : decode cX9_ruleAt 39 = .ok (.iload 5, 2) := by decide +kernel
theorem dX9_ruleAt_41 : decode cX9_ruleAt 41 = .ok (.iload_n 3, 1) := by decide +kernel
theorem dX9_ruleAt_42 : decode cX9_ruleAt 42 = .ok (.if_icmp .ge 47, 3) := by decide +kernel
theorem dX9_ruleAt_45 : decode cX9_ruleAt 45 = .ok (.aload_n 0, 1) := by decide +kernel
theorem dX9_ruleAt_46 : decode cX9_ruleAt 46 = .ok (.iload_n 3, 1) := by decide +kernel
theorem dX9_ruleAt_47 : decode cX9_ruleAt 47 = .ok (.iload 4, 2) := by decide +kernel
theorem dX9_ruleAt_49 : decode cX9_ruleAt 49 = .ok (.iload 5, 2) := by decide +kernel
theorem dX9_ruleAt_51 : decode cX9_ruleAt 51 = .ok (.invokevirtual 331, 3) := by decide +kernel
theorem dX9_ruleAt_54 : decode cX9_ruleAt 54 = .ok (.ifCond .ne 6, 3) := by decide +kernel
theorem dX9_ruleAt_57 : decode cX9_ruleAt 57 = .ok (.goto 26, 3) := by decide +kernel
theorem dX9_ruleAt_60 : decode cX9_ruleAt 60 = .ok (.iload_n 2, 1) := by decide +kernel
theorem dX9_ruleAt_61 : decode cX9_ruleAt 61 = .ok (.iload_n 1, 1) := by decide +kernel
theorem dX9_ruleAt_62 : decode cX9_ruleAt 62 = .ok (.if_icmp .ne 18, 3) := by decide +kernel
theorem dX9_ruleAt_65 : decode cX9_ruleAt 65 = .ok (.sipush 10000, 3) := by decide +kernel
theorem dX9_ruleAt_68 : decode cX9_ruleAt 68 = .ok (.iload_n 3, 1) := by decide +kernel
theorem dX9_ruleAt_69 : decode cX9_ruleAt 69 = .ok (.imul, 1) := by decide +kernel
theorem dX9_ruleAt_70 : decode cX9_ruleAt 70 = .ok (.bipush 100, 2) := by decide +kernel
theorem dX9_ruleAt_72 : decode cX9_ruleAt 72 = .ok (.iload 4, 2) := by decide +kernel
theorem dX9_ruleAt_74 : decode cX9_ruleAt 74 = .ok (.imul, 1) := by decide +kernel
theorem dX9_ruleAt_75 : decode cX9_ruleAt 75 = .ok (.iadd, 1) := by decide +kernel
theorem dX9_ruleAt_76 : decode cX9_ruleAt 76 = .ok (.iload 5, 2) := by decide +kernel
theorem dX9_ruleAt_78 : decode cX9_ruleAt 78 = .ok (.iadd, 1) := by decide +kernel
theorem dX9_ruleAt_79 : decode cX9_ruleAt 79 = .ok (.ireturn, 1) := by decide +kernel
theorem dX9_ruleAt_80 : decode cX9_ruleAt 80 = .ok (.iinc 2 1, 3) := by decide +kernel
theorem dX9_ruleAt_83 : decode cX9_ruleAt 83 = .ok (.iinc 5 1, 3) := by decide +kernel
theorem dX9_ruleAt_86 : decode cX9_ruleAt 86 = .ok (.goto (-47), 3) := by decide +kernel
theorem dX9_ruleAt_89 : decode cX9_ruleAt 89 = .ok (.iinc 4 1, 3) := by decide +kernel
theorem dX9_ruleAt_92 : decode cX9_ruleAt 92 = .ok (.goto (-62), 3) := by decide +kernel
theorem dX9_ruleAt_95 : decode cX9_ruleAt 95 = .ok (.iinc 3 1, 3) := by decide +kernel
theorem dX9_ruleAt_98 : decode cX9_ruleAt 98 = .ok (.goto (-77), 3) := by decide +kernel
theorem dX9_ruleAt_101 : decode cX9_ruleAt 101 = .ok (.aload_n 0, 1) := by decide +kernel
theorem dX9_ruleAt_102 : decode cX9_ruleAt 102 = .ok (.iconst 1, 1) := by decide +kernel
theorem dX9_ruleAt_103 : decode cX9_ruleAt 103 = .ok (.invokevirtual 156, 3) := by decide +kernel
theorem dX9_ruleAt_106 : decode cX9_ruleAt 106 = .ok (.ireturn, 1) := by decide +kernel
theorem dX9_there_0 : decode cX9_there 0 = .ok (.aload_n 0, 1) := by decide +kernel
theorem dX9_there_1 : decode cX9_there 1 = .ok (.invokevirtual 153, 3) := by decide +kernel
theorem dX9_there_4 : decode cX9_there 4 = .ok (.aload_n 0, 1) := by decide +kernel
theorem dX9_there_5 : decode cX9_there 5 = .ok (.getfield 166, 3) := by decide +kernel
theorem dX9_there_8 : decode cX9_there 8 = .ok (.ifCond .ne 9, 3) := by decide +kernel
theorem dX9_there_11 : decode cX9_there 11 = .ok (.aload_n 0, 1) := by decide +kernel
theorem dX9_there_12 : decode cX9_there 12 = .ok (.iconst 1, 1) := by decide +kernel
theorem dX9_there_13 : decode cX9_there 13 = .ok (.invokevirtual 156, 3) := by decide +kernel
theorem dX9_there_16 : decode cX9_there 16 = .ok (.ireturn, 1) := by decide +kernel
theorem dX9_there_17 : decode cX9_there 17 = .ok (.iload_n 1, 1) := by decide +kernel
theorem dX9_there_18 : decode cX9_there 18 = .ok (.iconst 0, 1) := by decide +kernel
theorem dX9_there_19 : decode cX9_there 19 = .ok (.bipush 99, 2) := by decide +kernel
theorem dX9_there_21 : decode cX9_there 21 = .ok (.invokestatic 135, 3) := by decide +kernel
theorem dX9_there_24 : decode cX9_there 24 = .ok (.ifCond .eq 23, 3) := by decide +kernel
theorem dX9_there_27 : decode cX9_there 27 = .ok (.iload_n 2, 1) := by decide +kernel
theorem dX9_there_28 : decode cX9_there 28 = .ok (.iconst 0, 1) := by decide +kernel
theorem dX9_there_29 : decode cX9_there 29 = .ok (.bipush 11, 2) := by decide +kernel
theorem dX9_there_31 : decode cX9_there 31 = .ok (.invokestatic 135, 3) := by decide +kernel
theorem dX9_there_34 : decode cX9_there 34 = .ok (.ifCond .eq 13, 3) := by decide +kernel
theorem dX9_there_37 : decode cX9_there 37 = .ok (.aload_n 0, 1) := by decide +kernel
theorem dX9_there_38 : decode cX9_there 38 = .ok (.iconst 0, 1) := by decide +kernel
theorem dX9_there_39 : decode cX9_there 39 = .ok (.iload_n 1, 1) := by decide +kernel
theorem dX9_there_40 : decode cX9_there 40 = .ok (.iload_n 2, 1) := by decide +kernel
theorem dX9_there_41 : decode cX9_there 41 = .ok (.invokevirtual 334, 3) := by decide +kernel
theorem dX9_there_44 : decode cX9_there 44 = .ok (.goto 8, 3) := by decide +kernel
theorem dX9_there_47 : decode cX9_there 47 = .ok (.aload_n 0, 1) := by decide +kernel
theorem dX9_there_48 : decode cX9_there 48 = .ok (.iconst 2, 1) := by decide +kernel
theorem dX9_there_49 : decode cX9_there 49 = .ok (.invokevirtual 156, 3) := by decide +kernel
theorem dX9_there_52 : decode cX9_there 52 = .ok (.ireturn, 1) := by decide +kernel
theorem dX9_surely_0 : decode cX9_surely 0 = .ok (.aload_n 0, 1) := by decide +kernel
theorem dX9_surely_1 : decode cX9_surely 1 = .ok (.invokevirtual 153, 3) := by decide +kernel
theorem dX9_surely_4 : decode cX9_surely 4 = .ok (.aload_n 0, 1) := by decide +kernel
theorem dX9_surely_5 : decode cX9_surely 5 = .ok (.getfield 166, 3) := by decide +kernel
theorem dX9_surely_8 : decode cX9_surely 8 = .ok (.ifCond .ne 9, 3) := by decide +kernel
theorem dX9_surely_11 : decode cX9_surely 11 = .ok (.aload_n 0, 1) := by decide +kernel
theorem dX9_surely_12 : decode cX9_surely 12 = .ok (.iconst 1, 1) := by decide +kernel
theorem dX9_surely_13 : decode cX9_surely 13 = .ok (.invokevirtual 156, 3) := by decide +kernel
theorem dX9_surely_16 : decode cX9_surely 16 = .ok (.ireturn, 1) := by decide +kernel
theorem dX9_surely_17 : decode cX9_surely 17 = .ok (.iload_n 1, 1) := by decide +kernel
theorem dX9_surely_18 : decode cX9_surely 18 = .ok (.iconst 0, 1) := by decide +kernel
theorem dX9_surely_19 : decode cX9_surely 19 = .ok (.bipush 99, 2) := by decide +kernel
theorem dX9_surely_21 : decode cX9_surely 21 = .ok (.invokestatic 135, 3) := by decide +kernel
theorem dX9_surely_24 : decode cX9_surely 24 = .ok (.ifCond .ne 9, 3) := by decide +kernel
theorem dX9_surely_27 : decode cX9_surely 27 = .ok (.aload_n 0, 1) := by decide +kernel
theorem dX9_surely_28 : decode cX9_surely 28 = .ok (.iconst 2, 1) := by decide +kernel
theorem dX9_surely_29 : decode cX9_surely 29 = .ok (.invokevirtual 156, 3) := by decide +kernel
theorem dX9_surely_32 : decode cX9_surely 32 = .ok (.ireturn, 1) := by decide +kernel
theorem dX9_surely_33 : decode cX9_surely 33 = .ok (.aload_n 0, 1) := by decide +kernel
theorem dX9_surely_34 : decode cX9_surely 34 = .ok (.iconst 1, 1) := by decide +kernel
theorem dX9_surely_35 : decode cX9_surely 35 = .ok (.iconst 0, 1) := by decide +kernel
theorem dX9_surely_36 : decode cX9_surely 36 = .ok (.iconst 0, 1) := by decide +kernel
theorem dX9_surely_37 : decode cX9_surely 37 = .ok (.invokevirtual 334, 3) := by decide +kernel
theorem dX9_surely_40 : decode cX9_surely 40 = .ok (.istore_n 2, 1) := by decide +kernel
theorem dX9_surely_41 : decode cX9_surely 41 = .ok (.iload_n 1, 1) := by decide +kernel
theorem dX9_surely_42 : decode cX9_surely 42 = .ok (.istore_n 3, 1) := by decide +kernel
theorem dX9_surely_43 : decode cX9_surely 43 = .ok (.iload_n 3, 1) := by decide +kernel
theorem dX9_surely_44 : decode cX9_surely 44 = .ok (.bipush 100, 2) := by decide +kernel
theorem dX9_surely_46 : decode cX9_surely 46 = .ok (.if_icmp .ge 26, 3) := by decide +kernel
theorem dX9_surely_49 : decode cX9_surely 49 = .ok (.iload_n 2, 1) := by decide +kernel
theorem dX9_surely_50 : decode cX9_surely 50 = .ok (.ifCond .le 16, 3) := by decide +kernel
theorem dX9_surely_53 : decode cX9_surely 53 = .ok (.aload_n 0, 1) := by decide +kernel
theorem dX9_surely_54 : decode cX9_surely 54 = .ok (.iconst 0, 1) := by decide +kernel
theorem dX9_surely_55 : decode cX9_surely 55 = .ok (.iload_n 3, 1) := by decide +kernel
theorem dX9_surely_56 : decode cX9_surely 56 = .ok (.iconst 0, 1) := by decide +kernel
theorem dX9_surely_57 : decode cX9_surely 57 = .ok (.invokevirtual 334, 3) := by decide +kernel
theorem dX9_surely_60 : decode cX9_surely 60 = .ok (.iload_n 2, 1) := by decide +kernel
theorem dX9_surely_61 : decode cX9_surely 61 = .ok (.if_icmp .ne 5, 3) := by decide +kernel
theorem dX9_surely_64 : decode cX9_surely 64 = .ok (.iload_n 3, 1) := by decide +kernel
theorem dX9_surely_65 : decode cX9_surely 65 = .ok (.ireturn, 1) := by decide +kernel
theorem dX9_surely_66 : decode cX9_surely 66 = .ok (.iinc 3 1, 3) := by decide +kernel
theorem dX9_surely_69 : decode cX9_surely 69 = .ok (.goto (-26), 3) := by decide +kernel
theorem dX9_surely_72 : decode cX9_surely 72 = .ok (.bipush (-2), 2) := by decide +kernel
theorem dX9_surely_74 : decode cX9_surely 74 = .ok (.ireturn, 1) := by decide +kernel
theorem dX9_lookOf_0 : decode cX9_lookOf 0 = .ok (.iconst 0, 1) := by decide +kernel
theorem dX9_lookOf_1 : decode cX9_lookOf 1 = .ok (.istore_n 1, 1) := by decide +kernel
theorem dX9_lookOf_2 : decode cX9_lookOf 2 = .ok (.iconst 0, 1) := by decide +kernel
theorem dX9_lookOf_3 : decode cX9_lookOf 3 = .ok (.istore_n 2, 1) := by decide +kernel
theorem dX9_lookOf_4 : decode cX9_lookOf 4 = .ok (.iload_n 2, 1) := by decide +kernel
theorem dX9_lookOf_5 : decode cX9_lookOf 5 = .ok (.sipush 1200, 3) := by decide +kernel
theorem dX9_lookOf_8 : decode cX9_lookOf 8 = .ok (.if_icmp .ge 16, 3) := by decide +kernel
theorem dX9_lookOf_11 : decode cX9_lookOf 11 = .ok (.aload_n 0, 1) := by decide +kernel
theorem dX9_lookOf_12 : decode cX9_lookOf 12 = .ok (.getfield 41, 3) := by decide +kernel
theorem dX9_lookOf_15 : decode cX9_lookOf 15 = .ok (.iload_n 2, 1) := by decide +kernel
theorem dX9_lookOf_16 : decode cX9_lookOf 16 = .ok (.iconst 0, 1) := by decide +kernel
theorem dX9_lookOf_17 : decode cX9_lookOf 17 = .ok (.iastore, 1) := by decide +kernel
theorem dX9_lookOf_18 : decode cX9_lookOf 18 = .ok (.iinc 2 1, 3) := by decide +kernel
theorem dX9_lookOf_21 : decode cX9_lookOf 21 = .ok (.goto (-17), 3) := by decide +kernel
theorem dX9_lookOf_24 : decode cX9_lookOf 24 = .ok (.iconst 2, 1) := by decide +kernel
theorem dX9_lookOf_25 : decode cX9_lookOf 25 = .ok (.istore_n 2, 1) := by decide +kernel
theorem dX9_lookOf_26 : decode cX9_lookOf 26 = .ok (.iload_n 2, 1) := by decide +kernel
theorem dX9_lookOf_27 : decode cX9_lookOf 27 = .ok (.bipush 12, 2) := by decide +kernel
theorem dX9_lookOf_29 : decode cX9_lookOf 29 = .ok (.if_icmp .gt 94, 3) := by decide +kernel
theorem dX9_lookOf_32 : decode cX9_lookOf 32 = .ok (.iconst 1, 1) := by decide +kernel
theorem dX9_lookOf_33 : decode cX9_lookOf 33 = .ok (.istore_n 3, 1) := by decide +kernel
theorem dX9_lookOf_34 : decode cX9_lookOf 34 = .ok (.iload_n 3, 1) := by decide +kernel
theorem dX9_lookOf_35 : decode cX9_lookOf 35 = .ok (.iload_n 2, 1) := by decide +kernel
theorem dX9_lookOf_36 : decode cX9_lookOf 36 = .ok (.if_icmp .ge 81, 3) := by decide +kernel
theorem dX9_lookOf_39 : decode cX9_lookOf 39 = .ok (.iconst 0, 1) := by decide +kernel
theorem dX9_lookOf_40 : decode cX9_lookOf 40 = .ok (.istore 4, 2) := by decide +kernel
theorem dX9_lookOf_42 : decode cX9_lookOf 42 = .ok (.iload 4, 2) := by decide +kernel
theorem dX9_lookOf_44 : decode cX9_lookOf 44 = .ok (.iload_n 2, 1) := by decide +kernel
theorem dX9_lookOf_45 : decode cX9_lookOf 45 = .ok (.if_icmp .ge 66, 3) := by decide +kernel
theorem dX9_lookOf_48 : decode cX9_lookOf 48 = .ok (.aload_n 0, 1) := by decide +kernel
theorem dX9_lookOf_49 : decode cX9_lookOf 49 = .ok (.iload_n 2, 1) := by decide +kernel
theorem dX9_lookOf_50 : decode cX9_lookOf 50 = .ok (.iload_n 3, 1) := by decide +kernel
theorem dX9_lookOf_51 : decode cX9_lookOf 51 = .ok (.iload 4, 2) := by decide +kernel
theorem dX9_lookOf_53 : decode cX9_lookOf 53 = .ok (.invokevirtual 331, 3) := by decide +kernel
theorem dX9_lookOf_56 : decode cX9_lookOf 56 = .ok (.ifCond .ne 6, 3) := by decide +kernel
theorem dX9_lookOf_59 : decode cX9_lookOf 59 = .ok (.goto 46, 3) := by decide +kernel
theorem dX9_lookOf_62 : decode cX9_lookOf 62 = .ok (.iinc 1 1, 3) := by decide +kernel
theorem dX9_lookOf_65 : decode cX9_lookOf 65 = .ok (.iconst 0, 1) := by decide +kernel
theorem dX9_lookOf_66 : decode cX9_lookOf 66 = .ok (.istore 5, 2) := by decide +kernel
theorem dX9_lookOf_68 : decode cX9_lookOf 68 = .ok (.iload 5, 2) := by decide +kernel
theorem dX9_lookOf_70 : decode cX9_lookOf 70 = .ok (.bipush 100, 2) := by decide +kernel
theorem dX9_lookOf_72 : decode cX9_lookOf 72 = .ok (.if_icmp .ge 33, 3) := by decide +kernel
theorem dX9_lookOf_75 : decode cX9_lookOf 75 = .ok (.aload_n 0, 1) := by decide +kernel
theorem dX9_lookOf_76 : decode cX9_lookOf 76 = .ok (.getfield 41, 3) := by decide +kernel
theorem dX9_lookOf_79 : decode cX9_lookOf 79 = .ok (.bipush 12, 2) := by decide +kernel
theorem dX9_lookOf_81 : decode cX9_lookOf 81 = .ok (.iload 5, 2) := by decide +kernel
theorem dX9_lookOf_83 : decode cX9_lookOf 83 = .ok (.imul, 1) := by decide +kernel
theorem dX9_lookOf_84 : decode cX9_lookOf 84 = .ok (.iload 4, 2) := by decide +kernel
theorem dX9_lookOf_86 : decode cX9_lookOf 86 = .ok (.iload_n 3, 1) := by decide +kernel
theorem dX9_lookOf_87 : decode cX9_lookOf 87 = .ok (.iload 5, 2) := by decide +kernel
theorem dX9_lookOf_89 : decode cX9_lookOf 89 = .ok (.imul, 1) := by decide +kernel
theorem dX9_lookOf_90 : decode cX9_lookOf 90 = .ok (.iadd, 1) := by decide +kernel
theorem dX9_lookOf_91 : decode cX9_lookOf 91 = .ok (.iload_n 2, 1) := by decide +kernel
theorem dX9_lookOf_92 : decode cX9_lookOf 92 = .ok (.irem, 1) := by decide +kernel
theorem dX9_lookOf_93 : decode cX9_lookOf 93 = .ok (.iadd, 1) := by decide +kernel
theorem dX9_lookOf_94 : decode cX9_lookOf 94 = .ok (.dup2, 1) := by decide +kernel
theorem dX9_lookOf_95 : decode cX9_lookOf 95 = .ok (.iaload, 1) := by decide +kernel
theorem dX9_lookOf_96 : decode cX9_lookOf 96 = .ok (.iconst 1, 1) := by decide +kernel
theorem dX9_lookOf_97 : decode cX9_lookOf 97 = .ok (.iadd, 1) := by decide +kernel
theorem dX9_lookOf_98 : decode cX9_lookOf 98 = .ok (.iastore, 1) := by decide +kernel
theorem dX9_lookOf_99 : decode cX9_lookOf 99 = .ok (.iinc 5 1, 3) := by decide +kernel
theorem dX9_lookOf_102 : decode cX9_lookOf 102 = .ok (.goto (-34), 3) := by decide +kernel
theorem dX9_lookOf_105 : decode cX9_lookOf 105 = .ok (.iinc 4 1, 3) := by decide +kernel
theorem dX9_lookOf_108 : decode cX9_lookOf 108 = .ok (.goto (-66), 3) := by decide +kernel
theorem dX9_lookOf_111 : decode cX9_lookOf 111 = .ok (.iinc 3 1, 3) := by decide +kernel
theorem dX9_lookOf_114 : decode cX9_lookOf 114 = .ok (.goto (-80), 3) := by decide +kernel
theorem dX9_lookOf_117 : decode cX9_lookOf 117 = .ok (.iinc 2 1, 3) := by decide +kernel
theorem dX9_lookOf_120 : decode cX9_lookOf 120 = .ok (.goto (-94), 3) := by decide +kernel
theorem dX9_lookOf_123 : decode cX9_lookOf 123 = .ok (.aload_n 0, 1) := by decide +kernel
theorem dX9_lookOf_124 : decode cX9_lookOf 124 = .ok (.bipush (-2), 2) := by decide +kernel
theorem dX9_lookOf_126 : decode cX9_lookOf 126 = .ok (.putfield 337, 3) := by decide +kernel
theorem dX9_lookOf_129 : decode cX9_lookOf 129 = .ok (.bipush (-2), 2) := by decide +kernel
theorem dX9_lookOf_131 : decode cX9_lookOf 131 = .ok (.istore_n 2, 1) := by decide +kernel
theorem dX9_lookOf_132 : decode cX9_lookOf 132 = .ok (.iconst 0, 1) := by decide +kernel
theorem dX9_lookOf_133 : decode cX9_lookOf 133 = .ok (.istore_n 3, 1) := by decide +kernel
theorem dX9_lookOf_134 : decode cX9_lookOf 134 = .ok (.iload_n 3, 1) := by decide +kernel
theorem dX9_lookOf_135 : decode cX9_lookOf 135 = .ok (.sipush 1200, 3) := by decide +kernel
theorem dX9_lookOf_138 : decode cX9_lookOf 138 = .ok (.if_icmp .ge 84, 3) := by decide +kernel
theorem dX9_lookOf_141 : decode cX9_lookOf 141 = .ok (.iload_n 1, 1) := by decide +kernel
theorem dX9_lookOf_142 : decode cX9_lookOf 142 = .ok (.ifCond .le 80, 3) := by decide +kernel
theorem dX9_lookOf_145 : decode cX9_lookOf 145 = .ok (.aload_n 0, 1) := by decide +kernel
theorem dX9_lookOf_146 : decode cX9_lookOf 146 = .ok (.getfield 41, 3) := by decide +kernel
theorem dX9_lookOf_149 : decode cX9_lookOf 149 = .ok (.iload_n 3, 1) := by decide +kernel
theorem dX9_lookOf_150 : decode cX9_lookOf 150 = .ok (.iaload, 1) := by decide +kernel
theorem dX9_lookOf_151 : decode cX9_lookOf 151 = .ok (.iload_n 1, 1) := by decide +kernel
theorem dX9_lookOf_152 : decode cX9_lookOf 152 = .ok (.aload_n 0, 1) := by decide +kernel
theorem dX9_lookOf_153 : decode cX9_lookOf 153 = .ok (.getfield 41, 3) := by decide +kernel
theorem dX9_lookOf_156 : decode cX9_lookOf 156 = .ok (.iload_n 3, 1) := by decide +kernel
theorem dX9_lookOf_157 : decode cX9_lookOf 157 = .ok (.iaload, 1) := by decide +kernel
theorem dX9_lookOf_158 : decode cX9_lookOf 158 = .ok (.isub, 1) := by decide +kernel
theorem dX9_lookOf_159 : decode cX9_lookOf 159 = .ok (.if_icmp .le 12, 3) := by decide +kernel
theorem dX9_lookOf_162 : decode cX9_lookOf 162 = .ok (.aload_n 0, 1) := by decide +kernel
theorem dX9_lookOf_163 : decode cX9_lookOf 163 = .ok (.getfield 41, 3) := by decide +kernel
theorem dX9_lookOf_166 : decode cX9_lookOf 166 = .ok (.iload_n 3, 1) := by decide +kernel
theorem dX9_lookOf_167 : decode cX9_lookOf 167 = .ok (.iaload, 1) := by decide +kernel
theorem dX9_lookOf_168 : decode cX9_lookOf 168 = .ok (.goto 11, 3) := by decide +kernel
theorem dX9_lookOf_171 : decode cX9_lookOf 171 = .ok (.iload_n 1, 1) := by decide +kernel
theorem dX9_lookOf_172 : decode cX9_lookOf 172 = .ok (.aload_n 0, 1) := by decide +kernel
theorem dX9_lookOf_173 : decode cX9_lookOf 173 = .ok (.getfield 41, 3) := by decide +kernel
theorem dX9_lookOf_176 : decode cX9_lookOf 176 = .ok (.iload_n 3, 1) := by decide +kernel
theorem dX9_lookOf_177 : decode cX9_lookOf 177 = .ok (.iaload, 1) := by decide +kernel
theorem dX9_lookOf_178 : decode cX9_lookOf 178 = .ok (.isub, 1) := by decide +kernel
theorem dX9_lookOf_179 : decode cX9_lookOf 179 = .ok (.istore 4, 2) := by decide +kernel
theorem dX9_lookOf_181 : decode cX9_lookOf 181 = .ok (.iload_n 2, 1) := by decide +kernel
theorem dX9_lookOf_182 : decode cX9_lookOf 182 = .ok (.ifCond .lt 15, 3) := by decide +kernel
theorem dX9_lookOf_185 : decode cX9_lookOf 185 = .ok (.iload 4, 2) := by decide +kernel
theorem dX9_lookOf_187 : decode cX9_lookOf 187 = .ok (.aload_n 0, 1) := by decide +kernel
theorem dX9_lookOf_188 : decode cX9_lookOf 188 = .ok (.getfield 337, 3) := by decide +kernel
theorem dX9_lookOf_191 : decode cX9_lookOf 191 = .ok (.if_icmp .lt 6, 3) := by decide +kernel
theorem dX9_lookOf_194 : decode cX9_lookOf 194 = .ok (.goto 22, 3) := by decide +kernel
theorem dX9_lookOf_197 : decode cX9_lookOf 197 = .ok (.bipush 100, 2) := by decide +kernel
theorem dX9_lookOf_199 : decode cX9_lookOf 199 = .ok (.iload_n 3, 1) := by decide +kernel
theorem dX9_lookOf_200 : decode cX9_lookOf 200 = .ok (.bipush 12, 2) := by decide +kernel
theorem dX9_lookOf_202 : decode cX9_lookOf 202 = .ok (.idiv, 1) := by decide +kernel
theorem dX9_lookOf_203 : decode cX9_lookOf 203 = .ok (.imul, 1) := by decide +kernel
theorem dX9_lookOf_204 : decode cX9_lookOf 204 = .ok (.iload_n 3, 1) := by decide +kernel
theorem dX9_lookOf_205 : decode cX9_lookOf 205 = .ok (.bipush 12, 2) := by decide +kernel
theorem dX9_lookOf_207 : decode cX9_lookOf 207 = .ok (.irem, 1) := by decide +kernel
theorem dX9_lookOf_208 : decode cX9_lookOf 208 = .ok (.iadd, 1) := by decide +kernel
theorem dX9_lookOf_209 : decode cX9_lookOf 209 = .ok (.istore_n 2, 1) := by decide +kernel
theorem dX9_lookOf_210 : decode cX9_lookOf 210 = .ok (.aload_n 0, 1) := by decide +kernel
theorem dX9_lookOf_211 : decode cX9_lookOf 211 = .ok (.iload 4, 2) := by decide +kernel
theorem dX9_lookOf_213 : decode cX9_lookOf 213 = .ok (.putfield 337, 3) := by decide +kernel
theorem dX9_lookOf_216 : decode cX9_lookOf 216 = .ok (.iinc 3 1, 3) := by decide +kernel
theorem dX9_lookOf_219 : decode cX9_lookOf 219 = .ok (.goto (-85), 3) := by decide +kernel
theorem dX9_lookOf_222 : decode cX9_lookOf 222 = .ok (.iload_n 2, 1) := by decide +kernel
theorem dX9_lookOf_223 : decode cX9_lookOf 223 = .ok (.ireturn, 1) := by decide +kernel
theorem dX9_look_0 : decode cX9_look 0 = .ok (.aload_n 0, 1) := by decide +kernel
theorem dX9_look_1 : decode cX9_look 1 = .ok (.invokevirtual 153, 3) := by decide +kernel
theorem dX9_look_4 : decode cX9_look 4 = .ok (.aload_n 0, 1) := by decide +kernel
theorem dX9_look_5 : decode cX9_look 5 = .ok (.getfield 166, 3) := by decide +kernel
theorem dX9_look_8 : decode cX9_look 8 = .ok (.ifCond .eq 10, 3) := by decide +kernel
theorem dX9_look_11 : decode cX9_look 11 = .ok (.aload_n 0, 1) := by decide +kernel
theorem dX9_look_12 : decode cX9_look 12 = .ok (.invokevirtual 340, 3) := by decide +kernel
theorem dX9_look_15 : decode cX9_look 15 = .ok (.goto 8, 3) := by decide +kernel
theorem dX9_look_18 : decode cX9_look 18 = .ok (.aload_n 0, 1) := by decide +kernel
theorem dX9_look_19 : decode cX9_look 19 = .ok (.iconst 1, 1) := by decide +kernel
theorem dX9_look_20 : decode cX9_look 20 = .ok (.invokevirtual 156, 3) := by decide +kernel
theorem dX9_look_23 : decode cX9_look 23 = .ok (.ireturn, 1) := by decide +kernel
theorem dX9_lookLeaves_0 : decode cX9_lookLeaves 0 = .ok (.aload_n 0, 1) := by decide +kernel
theorem dX9_lookLeaves_1 : decode cX9_lookLeaves 1 = .ok (.invokevirtual 153, 3) := by decide +kernel
theorem dX9_lookLeaves_4 : decode cX9_lookLeaves 4 = .ok (.aload_n 0, 1) := by decide +kernel
theorem dX9_lookLeaves_5 : decode cX9_lookLeaves 5 = .ok (.getfield 166, 3) := by decide +kernel
theorem dX9_lookLeaves_8 : decode cX9_lookLeaves 8 = .ok (.ifCond .ne 9, 3) := by decide +kernel
theorem dX9_lookLeaves_11 : decode cX9_lookLeaves 11 = .ok (.aload_n 0, 1) := by decide +kernel
theorem dX9_lookLeaves_12 : decode cX9_lookLeaves 12 = .ok (.iconst 1, 1) := by decide +kernel
theorem dX9_lookLeaves_13 : decode cX9_lookLeaves 13 = .ok (.invokevirtual 156, 3) := by decide +kernel
theorem dX9_lookLeaves_16 : decode cX9_lookLeaves 16 = .ok (.ireturn, 1) := by decide +kernel
theorem dX9_lookLeaves_17 : decode cX9_lookLeaves 17 = .ok (.aload_n 0, 1) := by decide +kernel
theorem dX9_lookLeaves_18 : decode cX9_lookLeaves 18 = .ok (.invokevirtual 340, 3) := by decide +kernel
theorem dX9_lookLeaves_21 : decode cX9_lookLeaves 21 = .ok (.pop, 1) := by decide +kernel
theorem dX9_lookLeaves_22 : decode cX9_lookLeaves 22 = .ok (.aload_n 0, 1) := by decide +kernel
theorem dX9_lookLeaves_23 : decode cX9_lookLeaves 23 = .ok (.getfield 337, 3) := by decide +kernel
theorem dX9_lookLeaves_26 : decode cX9_lookLeaves 26 = .ok (.ireturn, 1) := by decide +kernel
theorem dX9_heirOf_0 : decode cX9_heirOf 0 = .ok (.iload_n 1, 1) := by decide +kernel
theorem dX9_heirOf_1 : decode cX9_heirOf 1 = .ok (.iload_n 2, 1) := by decide +kernel
theorem dX9_heirOf_2 : decode cX9_heirOf 2 = .ok (.if_icmp .le 7, 3) := by decide +kernel
theorem dX9_heirOf_5 : decode cX9_heirOf 5 = .ok (.iload_n 0, 1) := by decide +kernel
theorem dX9_heirOf_6 : decode cX9_heirOf 6 = .ok (.goto 15, 3) := by decide +kernel
theorem dX9_heirOf_9 : decode cX9_heirOf 9 = .ok (.iload_n 1, 1) := by decide +kernel
theorem dX9_heirOf_10 : decode cX9_heirOf 10 = .ok (.iload_n 2, 1) := by decide +kernel
theorem dX9_heirOf_11 : decode cX9_heirOf 11 = .ok (.if_icmp .ne 9, 3) := by decide +kernel
theorem dX9_heirOf_14 : decode cX9_heirOf 14 = .ok (.iload_n 0, 1) := by decide +kernel
theorem dX9_heirOf_15 : decode cX9_heirOf 15 = .ok (.iconst 2, 1) := by decide +kernel
theorem dX9_heirOf_16 : decode cX9_heirOf 16 = .ok (.idiv, 1) := by decide +kernel
theorem dX9_heirOf_17 : decode cX9_heirOf 17 = .ok (.goto 4, 3) := by decide +kernel
theorem dX9_heirOf_20 : decode cX9_heirOf 20 = .ok (.iconst 0, 1) := by decide +kernel
theorem dX9_heirOf_21 : decode cX9_heirOf 21 = .ok (.iload_n 1, 1) := by decide +kernel
theorem dX9_heirOf_22 : decode cX9_heirOf 22 = .ok (.iload_n 1, 1) := by decide +kernel
theorem dX9_heirOf_23 : decode cX9_heirOf 23 = .ok (.imul, 1) := by decide +kernel
theorem dX9_heirOf_24 : decode cX9_heirOf 24 = .ok (.isub, 1) := by decide +kernel
theorem dX9_heirOf_25 : decode cX9_heirOf 25 = .ok (.ireturn, 1) := by decide +kernel
theorem dX9_heir_0 : decode cX9_heir 0 = .ok (.aload_n 0, 1) := by decide +kernel
theorem dX9_heir_1 : decode cX9_heir 1 = .ok (.invokevirtual 153, 3) := by decide +kernel
theorem dX9_heir_4 : decode cX9_heir 4 = .ok (.aload_n 0, 1) := by decide +kernel
theorem dX9_heir_5 : decode cX9_heir 5 = .ok (.aload_n 0, 1) := by decide +kernel
theorem dX9_heir_6 : decode cX9_heir 6 = .ok (.getfield 166, 3) := by decide +kernel
theorem dX9_heir_9 : decode cX9_heir 9 = .ok (.iload_n 1, 1) := by decide +kernel
theorem dX9_heir_10 : decode cX9_heir 10 = .ok (.bipush 99, 2) := by decide +kernel
theorem dX9_heir_12 : decode cX9_heir 12 = .ok (.invokevirtual 292, 3) := by decide +kernel
theorem dX9_heir_15 : decode cX9_heir 15 = .ok (.istore 5, 2) := by decide +kernel
theorem dX9_heir_17 : decode cX9_heir 17 = .ok (.iload 5, 2) := by decide +kernel
theorem dX9_heir_19 : decode cX9_heir 19 = .ok (.ifCond .ne 26, 3) := by decide +kernel
theorem dX9_heir_22 : decode cX9_heir 22 = .ok (.iload_n 2, 1) := by decide +kernel
theorem dX9_heir_23 : decode cX9_heir 23 = .ok (.iconst 0, 1) := by decide +kernel
theorem dX9_heir_24 : decode cX9_heir 24 = .ok (.bipush 6, 2) := by decide +kernel
theorem dX9_heir_26 : decode cX9_heir 26 = .ok (.invokestatic 135, 3) := by decide +kernel
theorem dX9_heir_29 : decode cX9_heir 29 = .ok (.ifCond .eq 13, 3) := by decide +kernel
theorem dX9_heir_32 : decode cX9_heir 32 = .ok (.iload_n 3, 1) := by decide +kernel
theorem dX9_heir_33 : decode cX9_heir 33 = .ok (.iconst 0, 1) := by decide +kernel
theorem dX9_heir_34 : decode cX9_heir 34 = .ok (.bipush 6, 2) := by decide +kernel
theorem dX9_heir_36 : decode cX9_heir 36 = .ok (.invokestatic 135, 3) := by decide +kernel
theorem dX9_heir_39 : decode cX9_heir 39 = .ok (.ifCond .ne 6, 3) := by decide +kernel
theorem dX9_heir_42 : decode cX9_heir 42 = .ok (.iconst 2, 1) := by decide +kernel
theorem dX9_heir_43 : decode cX9_heir 43 = .ok (.istore 5, 2) := by decide +kernel
theorem dX9_heir_45 : decode cX9_heir 45 = .ok (.iload 5, 2) := by decide +kernel
theorem dX9_heir_47 : decode cX9_heir 47 = .ok (.ifCond .ne 24, 3) := by decide +kernel
theorem dX9_heir_50 : decode cX9_heir 50 = .ok (.iload 4, 2) := by decide +kernel
theorem dX9_heir_52 : decode cX9_heir 52 = .ok (.ifCond .eq 12, 3) := by decide +kernel
theorem dX9_heir_55 : decode cX9_heir 55 = .ok (.iload_n 1, 1) := by decide +kernel
theorem dX9_heir_56 : decode cX9_heir 56 = .ok (.iload_n 3, 1) := by decide +kernel
theorem dX9_heir_57 : decode cX9_heir 57 = .ok (.iload_n 2, 1) := by decide +kernel
theorem dX9_heir_58 : decode cX9_heir 58 = .ok (.invokestatic 343, 3) := by decide +kernel
theorem dX9_heir_61 : decode cX9_heir 61 = .ok (.goto 9, 3) := by decide +kernel
theorem dX9_heir_64 : decode cX9_heir 64 = .ok (.iload_n 1, 1) := by decide +kernel
theorem dX9_heir_65 : decode cX9_heir 65 = .ok (.iload_n 2, 1) := by decide +kernel
theorem dX9_heir_66 : decode cX9_heir 66 = .ok (.iload_n 3, 1) := by decide +kernel
theorem dX9_heir_67 : decode cX9_heir 67 = .ok (.invokestatic 343, 3) := by decide +kernel
theorem dX9_heir_70 : decode cX9_heir 70 = .ok (.ireturn, 1) := by decide +kernel
theorem dX9_heir_71 : decode cX9_heir 71 = .ok (.aload_n 0, 1) := by decide +kernel
theorem dX9_heir_72 : decode cX9_heir 72 = .ok (.iload 5, 2) := by decide +kernel
theorem dX9_heir_74 : decode cX9_heir 74 = .ok (.putfield 47, 3) := by decide +kernel
theorem dX9_heir_77 : decode cX9_heir 77 = .ok (.bipush (-100), 2) := by decide +kernel
theorem dX9_heir_79 : decode cX9_heir 79 = .ok (.ireturn, 1) := by decide +kernel
theorem dX9_isRest_0 : decode cX9_isRest 0 = .ok (.iconst 1, 1) := by decide +kernel
theorem dX9_isRest_1 : decode cX9_isRest 1 = .ok (.istore_n 3, 1) := by decide +kernel
theorem dX9_isRest_2 : decode cX9_isRest 2 = .ok (.iconst 0, 1) := by decide +kernel
theorem dX9_isRest_3 : decode cX9_isRest 3 = .ok (.istore 4, 2) := by decide +kernel
theorem dX9_isRest_5 : decode cX9_isRest 5 = .ok (.iload 4, 2) := by decide +kernel
theorem dX9_isRest_7 : decode cX9_isRest 7 = .ok (.bipush 6, 2) := by decide +kernel
theorem dX9_isRest_9 : decode cX9_isRest 9 = .ok (.if_icmp .gt 51, 3) := by decide +kernel
theorem dX9_isRest_12 : decode cX9_isRest 12 = .ok (.iload_n 3, 1) := by decide +kernel
theorem dX9_isRest_13 : decode cX9_isRest 13 = .ok (.ifCond .eq 39, 3) := by decide +kernel
theorem dX9_isRest_16 : decode cX9_isRest 16 = .ok (.iload_n 0, 1) := by decide +kernel
theorem dX9_isRest_17 : decode cX9_isRest 17 = .ok (.iload 4, 2) := by decide +kernel
theorem dX9_isRest_19 : decode cX9_isRest 19 = .ok (.iload_n 2, 1) := by decide +kernel
theorem dX9_isRest_20 : decode cX9_isRest 20 = .ok (.invokestatic 343, 3) := by decide +kernel
theorem dX9_isRest_23 : decode cX9_isRest 23 = .ok (.iload_n 0, 1) := by decide +kernel
theorem dX9_isRest_24 : decode cX9_isRest 24 = .ok (.iload_n 1, 1) := by decide +kernel
theorem dX9_isRest_25 : decode cX9_isRest 25 = .ok (.iload_n 2, 1) := by decide +kernel
theorem dX9_isRest_26 : decode cX9_isRest 26 = .ok (.invokestatic 343, 3) := by decide +kernel
theorem dX9_isRest_29 : decode cX9_isRest 29 = .ok (.if_icmp .gt 23, 3) := by decide +kernel
theorem dX9_isRest_32 : decode cX9_isRest 32 = .ok (.iload_n 0, 1) := by decide +kernel
theorem dX9_isRest_33 : decode cX9_isRest 33 = .ok (.iload 4, 2) := by decide +kernel
theorem dX9_isRest_35 : decode cX9_isRest 35 = .ok (.iload_n 1, 1) := by decide +kernel
theorem dX9_isRest_36 : decode cX9_isRest 36 = .ok (.invokestatic 343, 3) := by decide +kernel
theorem dX9_isRest_39 : decode cX9_isRest 39 = .ok (.iload_n 0, 1) := by decide +kernel
theorem dX9_isRest_40 : decode cX9_isRest 40 = .ok (.iload_n 2, 1) := by decide +kernel
theorem dX9_isRest_41 : decode cX9_isRest 41 = .ok (.iload_n 1, 1) := by decide +kernel
theorem dX9_isRest_42 : decode cX9_isRest 42 = .ok (.invokestatic 343, 3) := by decide +kernel
theorem dX9_isRest_45 : decode cX9_isRest 45 = .ok (.if_icmp .gt 7, 3) := by decide +kernel
theorem dX9_isRest_48 : decode cX9_isRest 48 = .ok (.iconst 1, 1) := by decide +kernel
theorem dX9_isRest_49 : decode cX9_isRest 49 = .ok (.goto 4, 3) := by decide +kernel
theorem dX9_isRest_52 : decode cX9_isRest 52 = .ok (.iconst 0, 1) := by decide +kernel
theorem dX9_isRest_53 : decode cX9_isRest 53 = .ok (.istore_n 3, 1) := by decide +kernel
theorem dX9_isRest_54 : decode cX9_isRest 54 = .ok (.iinc 4 1, 3) := by decide +kernel
theorem dX9_isRest_57 : decode cX9_isRest 57 = .ok (.goto (-52), 3) := by decide +kernel
theorem dX9_isRest_60 : decode cX9_isRest 60 = .ok (.iload_n 3, 1) := by decide +kernel
theorem dX9_isRest_61 : decode cX9_isRest 61 = .ok (.ireturn, 1) := by decide +kernel
theorem dX9_seekRests_0 : decode cX9_seekRests 0 = .ok (.iconst 0, 1) := by decide +kernel
theorem dX9_seekRests_1 : decode cX9_seekRests 1 = .ok (.istore_n 2, 1) := by decide +kernel
theorem dX9_seekRests_2 : decode cX9_seekRests 2 = .ok (.aload_n 0, 1) := by decide +kernel
theorem dX9_seekRests_3 : decode cX9_seekRests 3 = .ok (.bipush (-2), 2) := by decide +kernel
theorem dX9_seekRests_5 : decode cX9_seekRests 5 = .ok (.putfield 347, 3) := by decide +kernel
theorem dX9_seekRests_8 : decode cX9_seekRests 8 = .ok (.iconst 0, 1) := by decide +kernel
theorem dX9_seekRests_9 : decode cX9_seekRests 9 = .ok (.istore_n 3, 1) := by decide +kernel
theorem dX9_seekRests_10 : decode cX9_seekRests 10 = .ok (.iload_n 3, 1) := by decide +kernel
theorem dX9_seekRests_11 : decode cX9_seekRests 11 = .ok (.bipush 6, 2) := by decide +kernel
theorem dX9_seekRests_13 : decode cX9_seekRests 13 = .ok (.if_icmp .gt 56, 3) := by decide +kernel
theorem dX9_seekRests_16 : decode cX9_seekRests 16 = .ok (.iconst 0, 1) := by decide +kernel
theorem dX9_seekRests_17 : decode cX9_seekRests 17 = .ok (.istore 4, 2) := by decide +kernel
theorem dX9_seekRests_19 : decode cX9_seekRests 19 = .ok (.iload 4, 2) := by decide +kernel
theorem dX9_seekRests_21 : decode cX9_seekRests 21 = .ok (.bipush 6, 2) := by decide +kernel
theorem dX9_seekRests_23 : decode cX9_seekRests 23 = .ok (.if_icmp .gt 40, 3) := by decide +kernel
theorem dX9_seekRests_26 : decode cX9_seekRests 26 = .ok (.iload_n 1, 1) := by decide +kernel
theorem dX9_seekRests_27 : decode cX9_seekRests 27 = .ok (.iload_n 3, 1) := by decide +kernel
theorem dX9_seekRests_28 : decode cX9_seekRests 28 = .ok (.iload 4, 2) := by decide +kernel
theorem dX9_seekRests_30 : decode cX9_seekRests 30 = .ok (.invokestatic 350, 3) := by decide +kernel
theorem dX9_seekRests_33 : decode cX9_seekRests 33 = .ok (.ifCond .ne 6, 3) := by decide +kernel
theorem dX9_seekRests_36 : decode cX9_seekRests 36 = .ok (.goto 21, 3) := by decide +kernel
theorem dX9_seekRests_39 : decode cX9_seekRests 39 = .ok (.iload_n 2, 1) := by decide +kernel
theorem dX9_seekRests_40 : decode cX9_seekRests 40 = .ok (.ifCond .ne 14, 3) := by decide +kernel
theorem dX9_seekRests_43 : decode cX9_seekRests 43 = .ok (.aload_n 0, 1) := by decide +kernel
theorem dX9_seekRests_44 : decode cX9_seekRests 44 = .ok (.bipush 10, 2) := by decide +kernel
theorem dX9_seekRests_46 : decode cX9_seekRests 46 = .ok (.iload_n 3, 1) := by decide +kernel
theorem dX9_seekRests_47 : decode cX9_seekRests 47 = .ok (.imul, 1) := by decide +kernel
theorem dX9_seekRests_48 : decode cX9_seekRests 48 = .ok (.iload 4, 2) := by decide +kernel
theorem dX9_seekRests_50 : decode cX9_seekRests 50 = .ok (.iadd, 1) := by decide +kernel
theorem dX9_seekRests_51 : decode cX9_seekRests 51 = .ok (.putfield 347, 3) := by decide +kernel
theorem dX9_seekRests_54 : decode cX9_seekRests 54 = .ok (.iinc 2 1, 3) := by decide +kernel
theorem dX9_seekRests_57 : decode cX9_seekRests 57 = .ok (.iinc 4 1, 3) := by decide +kernel
theorem dX9_seekRests_60 : decode cX9_seekRests 60 = .ok (.goto (-41), 3) := by decide +kernel
theorem dX9_seekRests_63 : decode cX9_seekRests 63 = .ok (.iinc 3 1, 3) := by decide +kernel
theorem dX9_seekRests_66 : decode cX9_seekRests 66 = .ok (.goto (-56), 3) := by decide +kernel
theorem dX9_seekRests_69 : decode cX9_seekRests 69 = .ok (.iload_n 2, 1) := by decide +kernel
theorem dX9_seekRests_70 : decode cX9_seekRests 70 = .ok (.ireturn, 1) := by decide +kernel
theorem dX9_rests_0 : decode cX9_rests 0 = .ok (.aload_n 0, 1) := by decide +kernel
theorem dX9_rests_1 : decode cX9_rests 1 = .ok (.invokevirtual 153, 3) := by decide +kernel
theorem dX9_rests_4 : decode cX9_rests 4 = .ok (.aload_n 0, 1) := by decide +kernel
theorem dX9_rests_5 : decode cX9_rests 5 = .ok (.aload_n 0, 1) := by decide +kernel
theorem dX9_rests_6 : decode cX9_rests 6 = .ok (.getfield 166, 3) := by decide +kernel
theorem dX9_rests_9 : decode cX9_rests 9 = .ok (.iload_n 1, 1) := by decide +kernel
theorem dX9_rests_10 : decode cX9_rests 10 = .ok (.bipush 99, 2) := by decide +kernel
theorem dX9_rests_12 : decode cX9_rests 12 = .ok (.invokevirtual 292, 3) := by decide +kernel
theorem dX9_rests_15 : decode cX9_rests 15 = .ok (.istore_n 2, 1) := by decide +kernel
theorem dX9_rests_16 : decode cX9_rests 16 = .ok (.iload_n 2, 1) := by decide +kernel
theorem dX9_rests_17 : decode cX9_rests 17 = .ok (.ifCond .eq 11, 3) := by decide +kernel
theorem dX9_rests_20 : decode cX9_rests 20 = .ok (.aload_n 0, 1) := by decide +kernel
theorem dX9_rests_21 : decode cX9_rests 21 = .ok (.iload_n 2, 1) := by decide +kernel
theorem dX9_rests_22 : decode cX9_rests 22 = .ok (.invokevirtual 156, 3) := by decide +kernel
theorem dX9_rests_25 : decode cX9_rests 25 = .ok (.goto 8, 3) := by decide +kernel
theorem dX9_rests_28 : decode cX9_rests 28 = .ok (.aload_n 0, 1) := by decide +kernel
theorem dX9_rests_29 : decode cX9_rests 29 = .ok (.iload_n 1, 1) := by decide +kernel
theorem dX9_rests_30 : decode cX9_rests 30 = .ok (.invokevirtual 353, 3) := by decide +kernel
theorem dX9_rests_33 : decode cX9_rests 33 = .ok (.ireturn, 1) := by decide +kernel
theorem dX9_rest_0 : decode cX9_rest 0 = .ok (.aload_n 0, 1) := by decide +kernel
theorem dX9_rest_1 : decode cX9_rest 1 = .ok (.invokevirtual 153, 3) := by decide +kernel
theorem dX9_rest_4 : decode cX9_rest 4 = .ok (.aload_n 0, 1) := by decide +kernel
theorem dX9_rest_5 : decode cX9_rest 5 = .ok (.aload_n 0, 1) := by decide +kernel
theorem dX9_rest_6 : decode cX9_rest 6 = .ok (.getfield 166, 3) := by decide +kernel
theorem dX9_rest_9 : decode cX9_rest 9 = .ok (.iload_n 1, 1) := by decide +kernel
theorem dX9_rest_10 : decode cX9_rest 10 = .ok (.bipush 99, 2) := by decide +kernel
theorem dX9_rest_12 : decode cX9_rest 12 = .ok (.invokevirtual 292, 3) := by decide +kernel
theorem dX9_rest_15 : decode cX9_rest 15 = .ok (.istore_n 2, 1) := by decide +kernel
theorem dX9_rest_16 : decode cX9_rest 16 = .ok (.iload_n 2, 1) := by decide +kernel
theorem dX9_rest_17 : decode cX9_rest 17 = .ok (.ifCond .eq 9, 3) := by decide +kernel
theorem dX9_rest_20 : decode cX9_rest 20 = .ok (.aload_n 0, 1) := by decide +kernel
theorem dX9_rest_21 : decode cX9_rest 21 = .ok (.iload_n 2, 1) := by decide +kernel
theorem dX9_rest_22 : decode cX9_rest 22 = .ok (.invokevirtual 156, 3) := by decide +kernel
theorem dX9_rest_25 : decode cX9_rest 25 = .ok (.ireturn, 1) := by decide +kernel
theorem dX9_rest_26 : decode cX9_rest 26 = .ok (.aload_n 0, 1) := by decide +kernel
theorem dX9_rest_27 : decode cX9_rest 27 = .ok (.iload_n 1, 1) := by decide +kernel
theorem dX9_rest_28 : decode cX9_rest 28 = .ok (.invokevirtual 353, 3) := by decide +kernel
theorem dX9_rest_31 : decode cX9_rest 31 = .ok (.pop, 1) := by decide +kernel
theorem dX9_rest_32 : decode cX9_rest 32 = .ok (.aload_n 0, 1) := by decide +kernel
theorem dX9_rest_33 : decode cX9_rest 33 = .ok (.getfield 347, 3) := by decide +kernel
theorem dX9_rest_36 : decode cX9_rest 36 = .ok (.ireturn, 1) := by decide +kernel
theorem dX9_dampWhy_0 : decode cX9_dampWhy 0 = .ok (.iload_n 1, 1) := by decide +kernel
theorem dX9_dampWhy_1 : decode cX9_dampWhy 1 = .ok (.ifCond .ne 5, 3) := by decide +kernel
theorem dX9_dampWhy_4 : decode cX9_dampWhy 4 = .ok (.iconst 1, 1) := by decide +kernel
theorem dX9_dampWhy_5 : decode cX9_dampWhy 5 = .ok (.ireturn, 1) := by decide +kernel
theorem dX9_dampWhy_6 : decode cX9_dampWhy 6 = .ok (.iload_n 2, 1) := by decide +kernel
theorem dX9_dampWhy_7 : decode cX9_dampWhy 7 = .ok (.iconst 0, 1) := by decide +kernel
theorem dX9_dampWhy_8 : decode cX9_dampWhy 8 = .ok (.ldc_w 356, 3) := by decide +kernel
theorem dX9_dampWhy_11 : decode cX9_dampWhy 11 = .ok (.invokestatic 135, 3) := by decide +kernel
theorem dX9_dampWhy_14 : decode cX9_dampWhy 14 = .ok (.ifCond .eq 13, 3) := by decide +kernel
theorem dX9_dampWhy_17 : decode cX9_dampWhy 17 = .ok (.iload_n 3, 1) := by decide +kernel
theorem dX9_dampWhy_18 : decode cX9_dampWhy 18 = .ok (.iconst 0, 1) := by decide +kernel
theorem dX9_dampWhy_19 : decode cX9_dampWhy 19 = .ok (.bipush 60, 2) := by decide +kernel
theorem dX9_dampWhy_21 : decode cX9_dampWhy 21 = .ok (.invokestatic 135, 3) := by decide +kernel
theorem dX9_dampWhy_24 : decode cX9_dampWhy 24 = .ok (.ifCond .ne 5, 3) := by decide +kernel
theorem dX9_dampWhy_27 : decode cX9_dampWhy 27 = .ok (.iconst 2, 1) := by decide +kernel
theorem dX9_dampWhy_28 : decode cX9_dampWhy 28 = .ok (.ireturn, 1) := by decide +kernel
theorem dX9_dampWhy_29 : decode cX9_dampWhy 29 = .ok (.aload_n 0, 1) := by decide +kernel
theorem dX9_dampWhy_30 : decode cX9_dampWhy 30 = .ok (.invokevirtual 296, 3) := by decide +kernel
theorem dX9_dampWhy_33 : decode cX9_dampWhy 33 = .ok (.aload_n 0, 1) := by decide +kernel
theorem dX9_dampWhy_34 : decode cX9_dampWhy 34 = .ok (.iconst 0, 1) := by decide +kernel
theorem dX9_dampWhy_35 : decode cX9_dampWhy 35 = .ok (.putfield 357, 3) := by decide +kernel
theorem dX9_dampWhy_38 : decode cX9_dampWhy 38 = .ok (.aload_n 0, 1) := by decide +kernel
theorem dX9_dampWhy_39 : decode cX9_dampWhy 39 = .ok (.iconst 0, 1) := by decide +kernel
theorem dX9_dampWhy_40 : decode cX9_dampWhy 40 = .ok (.putfield 360, 3) := by decide +kernel
theorem dX9_dampWhy_43 : decode cX9_dampWhy 43 = .ok (.iload_n 2, 1) := by decide +kernel
theorem dX9_dampWhy_44 : decode cX9_dampWhy 44 = .ok (.istore 6, 2) := by decide +kernel
theorem dX9_dampWhy_46 : decode cX9_dampWhy 46 = .ok (.iconst 1, 1) := by decide +kernel
theorem dX9_dampWhy_47 : decode cX9_dampWhy 47 = .ok (.istore 7, 2) := by decide +kernel
theorem dX9_dampWhy_49 : decode cX9_dampWhy 49 = .ok (.iload 7, 2) := by decide +kernel
theorem dX9_dampWhy_51 : decode cX9_dampWhy 51 = .ok (.iload_n 3, 1) := by decide +kernel
theorem dX9_dampWhy_52 : decode cX9_dampWhy 52 = .ok (.if_icmp .gt 146, 3) := by decide +kernel
theorem dX9_dampWhy_55 : decode cX9_dampWhy 55 = .ok (.aload_n 0, 1) := by decide +kernel
theorem dX9_dampWhy_56 : decode cX9_dampWhy 56 = .ok (.aload_n 0, 1) := by decide +kernel
theorem dX9_dampWhy_57 : decode cX9_dampWhy 57 = .ok (.getfield 35, 3) := by decide +kernel
theorem dX9_dampWhy_60 : decode cX9_dampWhy 60 = .ok (.invokevirtual 266, 3) := by decide +kernel
theorem dX9_dampWhy_63 : decode cX9_dampWhy 63 = .ok (.istore 8, 2) := by decide +kernel
theorem dX9_dampWhy_65 : decode cX9_dampWhy 65 = .ok (.iconst 0, 1) := by decide +kernel
theorem dX9_dampWhy_66 : decode cX9_dampWhy 66 = .ok (.istore 9, 2) := by decide +kernel
theorem dX9_dampWhy_68 : decode cX9_dampWhy 68 = .ok (.iload 9, 2) := by decide +kernel
theorem dX9_dampWhy_70 : decode cX9_dampWhy 70 = .ok (.aload_n 0, 1) := by decide +kernel
theorem dX9_dampWhy_71 : decode cX9_dampWhy 71 = .ok (.getfield 20, 3) := by decide +kernel
theorem dX9_dampWhy_74 : decode cX9_dampWhy 74 = .ok (.iconst 3, 1) := by decide +kernel
theorem dX9_dampWhy_75 : decode cX9_dampWhy 75 = .ok (.iaload, 1) := by decide +kernel
theorem dX9_dampWhy_76 : decode cX9_dampWhy 76 = .ok (.if_icmp .ge 50, 3) := by decide +kernel
theorem dX9_dampWhy_79 : decode cX9_dampWhy 79 = .ok (.bipush 75, 2) := by decide +kernel
theorem dX9_dampWhy_81 : decode cX9_dampWhy 81 = .ok (.iload 6, 2) := by decide +kernel
theorem dX9_dampWhy_83 : decode cX9_dampWhy 83 = .ok (.imul, 1) := by decide +kernel
theorem dX9_dampWhy_84 : decode cX9_dampWhy 84 = .ok (.bipush 74, 2) := by decide +kernel
theorem dX9_dampWhy_86 : decode cX9_dampWhy 86 = .ok (.iadd, 1) := by decide +kernel
theorem dX9_dampWhy_87 : decode cX9_dampWhy 87 = .ok (.ldc_w 363, 3) := by decide +kernel
theorem dX9_dampWhy_90 : decode cX9_dampWhy 90 = .ok (.irem, 1) := by decide +kernel
theorem dX9_dampWhy_91 : decode cX9_dampWhy 91 = .ok (.istore 6, 2) := by decide +kernel
theorem dX9_dampWhy_93 : decode cX9_dampWhy 93 = .ok (.iload 8, 2) := by decide +kernel
theorem dX9_dampWhy_95 : decode cX9_dampWhy 95 = .ok (.iload 6, 2) := by decide +kernel
theorem dX9_dampWhy_97 : decode cX9_dampWhy 97 = .ok (.bipush 100, 2) := by decide +kernel
theorem dX9_dampWhy_99 : decode cX9_dampWhy 99 = .ok (.irem, 1) := by decide +kernel
theorem dX9_dampWhy_100 : decode cX9_dampWhy 100 = .ok (.aload_n 0, 1) := by decide +kernel
theorem dX9_dampWhy_101 : decode cX9_dampWhy 101 = .ok (.getfield 20, 3) := by decide +kernel
theorem dX9_dampWhy_104 : decode cX9_dampWhy 104 = .ok (.iconst 1, 1) := by decide +kernel
theorem dX9_dampWhy_105 : decode cX9_dampWhy 105 = .ok (.iaload, 1) := by decide +kernel
theorem dX9_dampWhy_106 : decode cX9_dampWhy 106 = .ok (.if_icmp .ge 10, 3) := by decide +kernel
theorem dX9_dampWhy_109 : decode cX9_dampWhy 109 = .ok (.iconst 1, 1) := by decide +kernel
theorem dX9_dampWhy_110 : decode cX9_dampWhy 110 = .ok (.iload 9, 2) := by decide +kernel
theorem dX9_dampWhy_112 : decode cX9_dampWhy 112 = .ok (.ishl, 1) := by decide +kernel
theorem dX9_dampWhy_113 : decode cX9_dampWhy 113 = .ok (.goto 4, 3) := by decide +kernel
theorem dX9_dampWhy_116 : decode cX9_dampWhy 116 = .ok (.iconst 0, 1) := by decide +kernel
theorem dX9_dampWhy_117 : decode cX9_dampWhy 117 = .ok (.ior, 1) := by decide +kernel
theorem dX9_dampWhy_118 : decode cX9_dampWhy 118 = .ok (.istore 8, 2) := by decide +kernel
theorem dX9_dampWhy_120 : decode cX9_dampWhy 120 = .ok (.iinc 9 1, 3) := by decide +kernel
theorem dX9_dampWhy_123 : decode cX9_dampWhy 123 = .ok (.goto (-55), 3) := by decide +kernel
theorem dX9_dampWhy_126 : decode cX9_dampWhy 126 = .ok (.aload_n 0, 1) := by decide +kernel
theorem dX9_dampWhy_127 : decode cX9_dampWhy 127 = .ok (.aload_n 0, 1) := by decide +kernel
theorem dX9_dampWhy_128 : decode cX9_dampWhy 128 = .ok (.getfield 35, 3) := by decide +kernel
theorem dX9_dampWhy_131 : decode cX9_dampWhy 131 = .ok (.iload 8, 2) := by decide +kernel
theorem dX9_dampWhy_133 : decode cX9_dampWhy 133 = .ok (.invokevirtual 270, 3) := by decide +kernel
theorem dX9_dampWhy_136 : decode cX9_dampWhy 136 = .ok (.istore 9, 2) := by decide +kernel
theorem dX9_dampWhy_138 : decode cX9_dampWhy 138 = .ok (.aload_n 0, 1) := by decide +kernel
theorem dX9_dampWhy_139 : decode cX9_dampWhy 139 = .ok (.aload_n 0, 1) := by decide +kernel
theorem dX9_dampWhy_140 : decode cX9_dampWhy 140 = .ok (.getfield 35, 3) := by decide +kernel
theorem dX9_dampWhy_143 : decode cX9_dampWhy 143 = .ok (.iload 9, 2) := by decide +kernel
theorem dX9_dampWhy_145 : decode cX9_dampWhy 145 = .ok (.invokevirtual 276, 3) := by decide +kernel
theorem dX9_dampWhy_148 : decode cX9_dampWhy 148 = .ok (.aload_n 0, 1) := by decide +kernel
theorem dX9_dampWhy_149 : decode cX9_dampWhy 149 = .ok (.dup, 1) := by decide +kernel
theorem dX9_dampWhy_150 : decode cX9_dampWhy 150 = .ok (.getfield 357, 3) := by decide +kernel
theorem dX9_dampWhy_153 : decode cX9_dampWhy 153 = .ok (.iload 9, 2) := by decide +kernel
theorem dX9_dampWhy_155 : decode cX9_dampWhy 155 = .ok (.invokestatic 280, 3) := by decide +kernel
theorem dX9_dampWhy_158 : decode cX9_dampWhy 158 = .ok (.iadd, 1) := by decide +kernel
theorem dX9_dampWhy_159 : decode cX9_dampWhy 159 = .ok (.putfield 357, 3) := by decide +kernel
theorem dX9_dampWhy_162 : decode cX9_dampWhy 162 = .ok (.iload 4, 2) := by decide +kernel
theorem dX9_dampWhy_164 : decode cX9_dampWhy 164 = .ok (.ifCond .lt 28, 3) := by decide +kernel
theorem dX9_dampWhy_167 : decode cX9_dampWhy 167 = .ok (.aload_n 0, 1) := by decide +kernel
theorem dX9_dampWhy_168 : decode cX9_dampWhy 168 = .ok (.getfield 360, 3) := by decide +kernel
theorem dX9_dampWhy_171 : decode cX9_dampWhy 171 = .ok (.ifCond .ne 21, 3) := by decide +kernel
theorem dX9_dampWhy_174 : decode cX9_dampWhy 174 = .ok (.aload_n 0, 1) := by decide +kernel
theorem dX9_dampWhy_175 : decode cX9_dampWhy 175 = .ok (.getfield 35, 3) := by decide +kernel
theorem dX9_dampWhy_178 : decode cX9_dampWhy 178 = .ok (.iload 4, 2) := by decide +kernel
theorem dX9_dampWhy_180 : decode cX9_dampWhy 180 = .ok (.iaload, 1) := by decide +kernel
theorem dX9_dampWhy_181 : decode cX9_dampWhy 181 = .ok (.iload 5, 2) := by decide +kernel
theorem dX9_dampWhy_183 : decode cX9_dampWhy 183 = .ok (.if_icmp .ne 9, 3) := by decide +kernel
theorem dX9_dampWhy_186 : decode cX9_dampWhy 186 = .ok (.aload_n 0, 1) := by decide +kernel
theorem dX9_dampWhy_187 : decode cX9_dampWhy 187 = .ok (.iload 7, 2) := by decide +kernel
theorem dX9_dampWhy_189 : decode cX9_dampWhy 189 = .ok (.putfield 360, 3) := by decide +kernel
theorem dX9_dampWhy_192 : decode cX9_dampWhy 192 = .ok (.iinc 7 1, 3) := by decide +kernel
theorem dX9_dampWhy_195 : decode cX9_dampWhy 195 = .ok (.goto (-146), 3) := by decide +kernel
theorem dX9_dampWhy_198 : decode cX9_dampWhy 198 = .ok (.iconst 0, 1) := by decide +kernel
theorem dX9_dampWhy_199 : decode cX9_dampWhy 199 = .ok (.ireturn, 1) := by decide +kernel
theorem dX9_damp_0 : decode cX9_damp 0 = .ok (.aload_n 0, 1) := by decide +kernel
theorem dX9_damp_1 : decode cX9_damp 1 = .ok (.invokevirtual 153, 3) := by decide +kernel
theorem dX9_damp_4 : decode cX9_damp 4 = .ok (.aload_n 0, 1) := by decide +kernel
theorem dX9_damp_5 : decode cX9_damp 5 = .ok (.aload_n 0, 1) := by decide +kernel
theorem dX9_damp_6 : decode cX9_damp 6 = .ok (.iload_n 1, 1) := by decide +kernel
theorem dX9_damp_7 : decode cX9_damp 7 = .ok (.invokevirtual 283, 3) := by decide +kernel
theorem dX9_damp_10 : decode cX9_damp 10 = .ok (.iload_n 2, 1) := by decide +kernel
theorem dX9_damp_11 : decode cX9_damp 11 = .ok (.iload_n 3, 1) := by decide +kernel
theorem dX9_damp_12 : decode cX9_damp 12 = .ok (.iconst (-1), 1) := by decide +kernel
theorem dX9_damp_13 : decode cX9_damp 13 = .ok (.iconst 0, 1) := by decide +kernel
theorem dX9_damp_14 : decode cX9_damp 14 = .ok (.invokevirtual 364, 3) := by decide +kernel
theorem dX9_damp_17 : decode cX9_damp 17 = .ok (.istore 4, 2) := by decide +kernel
theorem dX9_damp_19 : decode cX9_damp 19 = .ok (.iload 4, 2) := by decide +kernel
theorem dX9_damp_21 : decode cX9_damp 21 = .ok (.ifCond .eq 12, 3) := by decide +kernel
theorem dX9_damp_24 : decode cX9_damp 24 = .ok (.aload_n 0, 1) := by decide +kernel
theorem dX9_damp_25 : decode cX9_damp 25 = .ok (.iload 4, 2) := by decide +kernel
theorem dX9_damp_27 : decode cX9_damp 27 = .ok (.invokevirtual 156, 3) := by decide +kernel
theorem dX9_damp_30 : decode cX9_damp 30 = .ok (.goto 12, 3) := by decide +kernel
theorem dX9_damp_33 : decode cX9_damp 33 = .ok (.aload_n 0, 1) := by decide +kernel
theorem dX9_damp_34 : decode cX9_damp 34 = .ok (.getfield 35, 3) := by decide +kernel
theorem dX9_damp_37 : decode cX9_damp 37 = .ok (.iload_n 1, 1) := by decide +kernel
theorem dX9_damp_38 : decode cX9_damp 38 = .ok (.iaload, 1) := by decide +kernel
theorem dX9_damp_39 : decode cX9_damp 39 = .ok (.invokestatic 302, 3) := by decide +kernel
theorem dX9_damp_42 : decode cX9_damp 42 = .ok (.ireturn, 1) := by decide +kernel
theorem dX9_dampSteps_0 : decode cX9_dampSteps 0 = .ok (.aload_n 0, 1) := by decide +kernel
theorem dX9_dampSteps_1 : decode cX9_dampSteps 1 = .ok (.invokevirtual 153, 3) := by decide +kernel
theorem dX9_dampSteps_4 : decode cX9_dampSteps 4 = .ok (.aload_n 0, 1) := by decide +kernel
theorem dX9_dampSteps_5 : decode cX9_dampSteps 5 = .ok (.aload_n 0, 1) := by decide +kernel
theorem dX9_dampSteps_6 : decode cX9_dampSteps 6 = .ok (.getfield 166, 3) := by decide +kernel
theorem dX9_dampSteps_9 : decode cX9_dampSteps 9 = .ok (.iload_n 1, 1) := by decide +kernel
theorem dX9_dampSteps_10 : decode cX9_dampSteps 10 = .ok (.iload_n 2, 1) := by decide +kernel
theorem dX9_dampSteps_11 : decode cX9_dampSteps 11 = .ok (.iconst (-1), 1) := by decide +kernel
theorem dX9_dampSteps_12 : decode cX9_dampSteps 12 = .ok (.iconst 0, 1) := by decide +kernel
theorem dX9_dampSteps_13 : decode cX9_dampSteps 13 = .ok (.invokevirtual 364, 3) := by decide +kernel
theorem dX9_dampSteps_16 : decode cX9_dampSteps 16 = .ok (.istore_n 3, 1) := by decide +kernel
theorem dX9_dampSteps_17 : decode cX9_dampSteps 17 = .ok (.iload_n 3, 1) := by decide +kernel
theorem dX9_dampSteps_18 : decode cX9_dampSteps 18 = .ok (.ifCond .eq 11, 3) := by decide +kernel
theorem dX9_dampSteps_21 : decode cX9_dampSteps 21 = .ok (.aload_n 0, 1) := by decide +kernel
theorem dX9_dampSteps_22 : decode cX9_dampSteps 22 = .ok (.iload_n 3, 1) := by decide +kernel
theorem dX9_dampSteps_23 : decode cX9_dampSteps 23 = .ok (.invokevirtual 156, 3) := by decide +kernel
theorem dX9_dampSteps_26 : decode cX9_dampSteps 26 = .ok (.goto 7, 3) := by decide +kernel
theorem dX9_dampSteps_29 : decode cX9_dampSteps 29 = .ok (.aload_n 0, 1) := by decide +kernel
theorem dX9_dampSteps_30 : decode cX9_dampSteps 30 = .ok (.getfield 357, 3) := by decide +kernel
theorem dX9_dampSteps_33 : decode cX9_dampSteps 33 = .ok (.ireturn, 1) := by decide +kernel
theorem dX9_dampWhen_0 : decode cX9_dampWhen 0 = .ok (.aload_n 0, 1) := by decide +kernel
theorem dX9_dampWhen_1 : decode cX9_dampWhen 1 = .ok (.invokevirtual 153, 3) := by decide +kernel
theorem dX9_dampWhen_4 : decode cX9_dampWhen 4 = .ok (.aload_n 0, 1) := by decide +kernel
theorem dX9_dampWhen_5 : decode cX9_dampWhen 5 = .ok (.iload_n 1, 1) := by decide +kernel
theorem dX9_dampWhen_6 : decode cX9_dampWhen 6 = .ok (.invokevirtual 283, 3) := by decide +kernel
theorem dX9_dampWhen_9 : decode cX9_dampWhen 9 = .ok (.ifCond .eq 20, 3) := by decide +kernel
theorem dX9_dampWhen_12 : decode cX9_dampWhen 12 = .ok (.aload_n 0, 1) := by decide +kernel
theorem dX9_dampWhen_13 : decode cX9_dampWhen 13 = .ok (.aload_n 0, 1) := by decide +kernel
theorem dX9_dampWhen_14 : decode cX9_dampWhen 14 = .ok (.getfield 26, 3) := by decide +kernel
theorem dX9_dampWhen_17 : decode cX9_dampWhen 17 = .ok (.iload_n 1, 1) := by decide +kernel
theorem dX9_dampWhen_18 : decode cX9_dampWhen 18 = .ok (.iaload, 1) := by decide +kernel
theorem dX9_dampWhen_19 : decode cX9_dampWhen 19 = .ok (.bipush 9, 2) := by decide +kernel
theorem dX9_dampWhen_21 : decode cX9_dampWhen 21 = .ok (.idiv, 1) := by decide +kernel
theorem dX9_dampWhen_22 : decode cX9_dampWhen 22 = .ok (.iload_n 2, 1) := by decide +kernel
theorem dX9_dampWhen_23 : decode cX9_dampWhen 23 = .ok (.invokevirtual 286, 3) := by decide +kernel
theorem dX9_dampWhen_26 : decode cX9_dampWhen 26 = .ok (.ifCond .ne 9, 3) := by decide +kernel
theorem dX9_dampWhen_29 : decode cX9_dampWhen 29 = .ok (.aload_n 0, 1) := by decide +kernel
theorem dX9_dampWhen_30 : decode cX9_dampWhen 30 = .ok (.iconst 1, 1) := by decide +kernel
theorem dX9_dampWhen_31 : decode cX9_dampWhen 31 = .ok (.invokevirtual 156, 3) := by decide +kernel
theorem dX9_dampWhen_34 : decode cX9_dampWhen 34 = .ok (.ireturn, 1) := by decide +kernel
theorem dX9_dampWhen_35 : decode cX9_dampWhen 35 = .ok (.aload_n 0, 1) := by decide +kernel
theorem dX9_dampWhen_36 : decode cX9_dampWhen 36 = .ok (.iconst 1, 1) := by decide +kernel
theorem dX9_dampWhen_37 : decode cX9_dampWhen 37 = .ok (.iload_n 3, 1) := by decide +kernel
theorem dX9_dampWhen_38 : decode cX9_dampWhen 38 = .ok (.iload 4, 2) := by decide +kernel
theorem dX9_dampWhen_40 : decode cX9_dampWhen 40 = .ok (.iload_n 1, 1) := by decide +kernel
theorem dX9_dampWhen_41 : decode cX9_dampWhen 41 = .ok (.bipush 9, 2) := by decide +kernel
theorem dX9_dampWhen_43 : decode cX9_dampWhen 43 = .ok (.aload_n 0, 1) := by decide +kernel
theorem dX9_dampWhen_44 : decode cX9_dampWhen 44 = .ok (.getfield 26, 3) := by decide +kernel
theorem dX9_dampWhen_47 : decode cX9_dampWhen 47 = .ok (.iload_n 1, 1) := by decide +kernel
theorem dX9_dampWhen_48 : decode cX9_dampWhen 48 = .ok (.iaload, 1) := by decide +kernel
theorem dX9_dampWhen_49 : decode cX9_dampWhen 49 = .ok (.bipush 9, 2) := by decide +kernel
theorem dX9_dampWhen_51 : decode cX9_dampWhen 51 = .ok (.idiv, 1) := by decide +kernel
theorem dX9_dampWhen_52 : decode cX9_dampWhen 52 = .ok (.imul, 1) := by decide +kernel
theorem dX9_dampWhen_53 : decode cX9_dampWhen 53 = .ok (.iload_n 2, 1) := by decide +kernel
theorem dX9_dampWhen_54 : decode cX9_dampWhen 54 = .ok (.iadd, 1) := by decide +kernel
theorem dX9_dampWhen_55 : decode cX9_dampWhen 55 = .ok (.invokevirtual 364, 3) := by decide +kernel
theorem dX9_dampWhen_58 : decode cX9_dampWhen 58 = .ok (.istore 5, 2) := by decide +kernel
theorem dX9_dampWhen_60 : decode cX9_dampWhen 60 = .ok (.iload 5, 2) := by decide +kernel
theorem dX9_dampWhen_62 : decode cX9_dampWhen 62 = .ok (.ifCond .eq 12, 3) := by decide +kernel
theorem dX9_dampWhen_65 : decode cX9_dampWhen 65 = .ok (.aload_n 0, 1) := by decide +kernel
theorem dX9_dampWhen_66 : decode cX9_dampWhen 66 = .ok (.iload 5, 2) := by decide +kernel
theorem dX9_dampWhen_68 : decode cX9_dampWhen 68 = .ok (.invokevirtual 156, 3) := by decide +kernel
theorem dX9_dampWhen_71 : decode cX9_dampWhen 71 = .ok (.goto 7, 3) := by decide +kernel
theorem dX9_dampWhen_74 : decode cX9_dampWhen 74 = .ok (.aload_n 0, 1) := by decide +kernel
theorem dX9_dampWhen_75 : decode cX9_dampWhen 75 = .ok (.getfield 360, 3) := by decide +kernel
theorem dX9_dampWhen_78 : decode cX9_dampWhen 78 = .ok (.ireturn, 1) := by decide +kernel
theorem dX9_note_0 : decode cX9_note 0 = .ok (.aload_n 0, 1) := by decide +kernel
theorem dX9_note_1 : decode cX9_note 1 = .ok (.getfield 169, 3) := by decide +kernel
theorem dX9_note_4 : decode cX9_note 4 = .ok (.bipush 16, 2) := by decide +kernel
theorem dX9_note_6 : decode cX9_note 6 = .ok (.if_icmp .ne 43, 3) := by decide +kernel
theorem dX9_note_9 : decode cX9_note 9 = .ok (.iconst 0, 1) := by decide +kernel
theorem dX9_note_10 : decode cX9_note 10 = .ok (.istore_n 1, 1) := by decide +kernel
theorem dX9_note_11 : decode cX9_note 11 = .ok (.iload_n 1, 1) := by decide +kernel
theorem dX9_note_12 : decode cX9_note 12 = .ok (.sipush 135, 3) := by decide +kernel
theorem dX9_note_15 : decode cX9_note 15 = .ok (.if_icmp .ge 24, 3) := by decide +kernel
theorem dX9_note_18 : decode cX9_note 18 = .ok (.aload_n 0, 1) := by decide +kernel
theorem dX9_note_19 : decode cX9_note 19 = .ok (.getfield 29, 3) := by decide +kernel
theorem dX9_note_22 : decode cX9_note 22 = .ok (.iload_n 1, 1) := by decide +kernel
theorem dX9_note_23 : decode cX9_note 23 = .ok (.aload_n 0, 1) := by decide +kernel
theorem dX9_note_24 : decode cX9_note 24 = .ok (.getfield 29, 3) := by decide +kernel
theorem dX9_note_27 : decode cX9_note 27 = .ok (.iload_n 1, 1) := by decide +kernel
theorem dX9_note_28 : decode cX9_note 28 = .ok (.bipush 9, 2) := by decide +kernel
theorem dX9_note_30 : decode cX9_note 30 = .ok (.iadd, 1) := by decide +kernel
theorem dX9_note_31 : decode cX9_note 31 = .ok (.iaload, 1) := by decide +kernel
theorem dX9_note_32 : decode cX9_note 32 = .ok (.iastore, 1) := by decide +kernel
theorem dX9_note_33 : decode cX9_note 33 = .ok (.iinc 1 1, 3) := by decide +kernel
theorem dX9_note_36 : decode cX9_note 36 = .ok (.goto (-25), 3) := by decide +kernel
theorem dX9_note_39 : decode cX9_note 39 = .ok (.aload_n 0, 1) := by decide +kernel
theorem dX9_note_40 : decode cX9_note 40 = .ok (.dup, 1) := by decide +kernel
theorem dX9_note_41 : decode cX9_note 41 = .ok (.getfield 169, 3) := by decide +kernel
theorem dX9_note_44 : decode cX9_note 44 = .ok (.iconst 1, 1) := by decide +kernel
theorem dX9_note_45 : decode cX9_note 45 = .ok (.isub, 1) := by decide +kernel
theorem dX9_note_46 : decode cX9_note 46 = .ok (.putfield 169, 3) := by decide +kernel
theorem dX9_note_49 : decode cX9_note 49 = .ok (.aload_n 0, 1) := by decide +kernel
theorem dX9_note_50 : decode cX9_note 50 = .ok (.getfield 26, 3) := by decide +kernel
theorem dX9_note_53 : decode cX9_note 53 = .ok (.iconst 0, 1) := by decide +kernel
theorem dX9_note_54 : decode cX9_note 54 = .ok (.aload_n 0, 1) := by decide +kernel
theorem dX9_note_55 : decode cX9_note 55 = .ok (.getfield 29, 3) := by decide +kernel
theorem dX9_note_58 : decode cX9_note 58 = .ok (.bipush 9, 2) := by decide +kernel
theorem dX9_note_60 : decode cX9_note 60 = .ok (.aload_n 0, 1) := by decide +kernel
theorem dX9_note_61 : decode cX9_note 61 = .ok (.getfield 169, 3) := by decide +kernel
theorem dX9_note_64 : decode cX9_note 64 = .ok (.imul, 1) := by decide +kernel
theorem dX9_note_65 : decode cX9_note 65 = .ok (.bipush 9, 2) := by decide +kernel
theorem dX9_note_67 : decode cX9_note 67 = .ok (.invokestatic 162, 3) := by decide +kernel
theorem dX9_note_70 : decode cX9_note 70 = .ok (.aload_n 0, 1) := by decide +kernel
theorem dX9_note_71 : decode cX9_note 71 = .ok (.dup, 1) := by decide +kernel
theorem dX9_note_72 : decode cX9_note 72 = .ok (.getfield 169, 3) := by decide +kernel
theorem dX9_note_75 : decode cX9_note 75 = .ok (.iconst 1, 1) := by decide +kernel
theorem dX9_note_76 : decode cX9_note 76 = .ok (.iadd, 1) := by decide +kernel
theorem dX9_note_77 : decode cX9_note 77 = .ok (.putfield 169, 3) := by decide +kernel
theorem dX9_note_80 : decode cX9_note 80 = .ok (.return_, 1) := by decide +kernel
theorem dX9_turnsTo_0 : decode cX9_turnsTo 0 = .ok (.aload_n 0, 1) := by decide +kernel
theorem dX9_turnsTo_1 : decode cX9_turnsTo 1 = .ok (.iload_n 1, 1) := by decide +kernel
theorem dX9_turnsTo_2 : decode cX9_turnsTo 2 = .ok (.invokevirtual 283, 3) := by decide +kernel
theorem dX9_turnsTo_5 : decode cX9_turnsTo 5 = .ok (.ifCond .ne 9, 3) := by decide +kernel
theorem dX9_turnsTo_8 : decode cX9_turnsTo 8 = .ok (.aload_n 0, 1) := by decide +kernel
theorem dX9_turnsTo_9 : decode cX9_turnsTo 9 = .ok (.iconst 1, 1) := by decide +kernel
theorem dX9_turnsTo_10 : decode cX9_turnsTo 10 = .ok (.invokevirtual 368, 3) := by decide +kernel
theorem dX9_turnsTo_13 : decode cX9_turnsTo 13 = .ok (.ireturn, 1) := by decide +kernel
theorem dX9_turnsTo_14 : decode cX9_turnsTo 14 = .ok (.aload_n 0, 1) := by decide +kernel
theorem dX9_turnsTo_15 : decode cX9_turnsTo 15 = .ok (.getfield 26, 3) := by decide +kernel
theorem dX9_turnsTo_18 : decode cX9_turnsTo 18 = .ok (.bipush 7, 2) := by decide +kernel
theorem dX9_turnsTo_20 : decode cX9_turnsTo 20 = .ok (.iaload, 1) := by decide +kernel
theorem dX9_turnsTo_21 : decode cX9_turnsTo 21 = .ok (.iload_n 1, 1) := by decide +kernel
theorem dX9_turnsTo_22 : decode cX9_turnsTo 22 = .ok (.invokestatic 251, 3) := by decide +kernel
theorem dX9_turnsTo_25 : decode cX9_turnsTo 25 = .ok (.iload_n 2, 1) := by decide +kernel
theorem dX9_turnsTo_26 : decode cX9_turnsTo 26 = .ok (.if_icmp .ne 9, 3) := by decide +kernel
theorem dX9_turnsTo_29 : decode cX9_turnsTo 29 = .ok (.aload_n 0, 1) := by decide +kernel
theorem dX9_turnsTo_30 : decode cX9_turnsTo 30 = .ok (.iconst 5, 1) := by decide +kernel
theorem dX9_turnsTo_31 : decode cX9_turnsTo 31 = .ok (.invokevirtual 368, 3) := by decide +kernel
theorem dX9_turnsTo_34 : decode cX9_turnsTo 34 = .ok (.ireturn, 1) := by decide +kernel
theorem dX9_turnsTo_35 : decode cX9_turnsTo 35 = .ok (.aload_n 0, 1) := by decide +kernel
theorem dX9_turnsTo_36 : decode cX9_turnsTo 36 = .ok (.invokevirtual 371, 3) := by decide +kernel
theorem dX9_turnsTo_39 : decode cX9_turnsTo 39 = .ok (.aload_n 0, 1) := by decide +kernel
theorem dX9_turnsTo_40 : decode cX9_turnsTo 40 = .ok (.getfield 26, 3) := by decide +kernel
theorem dX9_turnsTo_43 : decode cX9_turnsTo 43 = .ok (.bipush 7, 2) := by decide +kernel
theorem dX9_turnsTo_45 : decode cX9_turnsTo 45 = .ok (.dup2, 1) := by decide +kernel
theorem dX9_turnsTo_46 : decode cX9_turnsTo 46 = .ok (.iaload, 1) := by decide +kernel
theorem dX9_turnsTo_47 : decode cX9_turnsTo 47 = .ok (.iconst 1, 1) := by decide +kernel
theorem dX9_turnsTo_48 : decode cX9_turnsTo 48 = .ok (.iload_n 1, 1) := by decide +kernel
theorem dX9_turnsTo_49 : decode cX9_turnsTo 49 = .ok (.ishl, 1) := by decide +kernel
theorem dX9_turnsTo_50 : decode cX9_turnsTo 50 = .ok (.ixor, 1) := by decide +kernel
theorem dX9_turnsTo_51 : decode cX9_turnsTo 51 = .ok (.iastore, 1) := by decide +kernel
theorem dX9_turnsTo_52 : decode cX9_turnsTo 52 = .ok (.iconst 1, 1) := by decide +kernel
theorem dX9_turnsTo_53 : decode cX9_turnsTo 53 = .ok (.ireturn, 1) := by decide +kernel
theorem dX9_hold_0 : decode cX9_hold 0 = .ok (.aload_n 0, 1) := by decide +kernel
theorem dX9_hold_1 : decode cX9_hold 1 = .ok (.invokevirtual 153, 3) := by decide +kernel
theorem dX9_hold_4 : decode cX9_hold 4 = .ok (.aload_n 0, 1) := by decide +kernel
theorem dX9_hold_5 : decode cX9_hold 5 = .ok (.iload_n 1, 1) := by decide +kernel
theorem dX9_hold_6 : decode cX9_hold 6 = .ok (.iconst 1, 1) := by decide +kernel
theorem dX9_hold_7 : decode cX9_hold 7 = .ok (.invokevirtual 374, 3) := by decide +kernel
theorem dX9_hold_10 : decode cX9_hold 10 = .ok (.ireturn, 1) := by decide +kernel
theorem dX9_let_0 : decode cX9_let 0 = .ok (.aload_n 0, 1) := by decide +kernel
theorem dX9_let_1 : decode cX9_let 1 = .ok (.invokevirtual 153, 3) := by decide +kernel
theorem dX9_let_4 : decode cX9_let 4 = .ok (.aload_n 0, 1) := by decide +kernel
theorem dX9_let_5 : decode cX9_let 5 = .ok (.iload_n 1, 1) := by decide +kernel
theorem dX9_let_6 : decode cX9_let 6 = .ok (.iconst 0, 1) := by decide +kernel
theorem dX9_let_7 : decode cX9_let 7 = .ok (.invokevirtual 374, 3) := by decide +kernel
theorem dX9_let_10 : decode cX9_let 10 = .ok (.ireturn, 1) := by decide +kernel
theorem dX9_put_0 : decode cX9_put 0 = .ok (.aload_n 0, 1) := by decide +kernel
theorem dX9_put_1 : decode cX9_put 1 = .ok (.invokevirtual 153, 3) := by decide +kernel
theorem dX9_put_4 : decode cX9_put 4 = .ok (.aload_n 0, 1) := by decide +kernel
theorem dX9_put_5 : decode cX9_put 5 = .ok (.iload_n 1, 1) := by decide +kernel
theorem dX9_put_6 : decode cX9_put 6 = .ok (.invokevirtual 283, 3) := by decide +kernel
theorem dX9_put_9 : decode cX9_put 9 = .ok (.ifCond .eq 12, 3) := by decide +kernel
theorem dX9_put_12 : decode cX9_put 12 = .ok (.aload_n 0, 1) := by decide +kernel
theorem dX9_put_13 : decode cX9_put 13 = .ok (.iload_n 2, 1) := by decide +kernel
theorem dX9_put_14 : decode cX9_put 14 = .ok (.iload_n 3, 1) := by decide +kernel
theorem dX9_put_15 : decode cX9_put 15 = .ok (.invokevirtual 286, 3) := by decide +kernel
theorem dX9_put_18 : decode cX9_put 18 = .ok (.ifCond .ne 9, 3) := by decide +kernel
theorem dX9_put_21 : decode cX9_put 21 = .ok (.aload_n 0, 1) := by decide +kernel
theorem dX9_put_22 : decode cX9_put 22 = .ok (.iconst 1, 1) := by decide +kernel
theorem dX9_put_23 : decode cX9_put 23 = .ok (.invokevirtual 368, 3) := by decide +kernel
theorem dX9_put_26 : decode cX9_put 26 = .ok (.ireturn, 1) := by decide +kernel
theorem dX9_put_27 : decode cX9_put 27 = .ok (.aload_n 0, 1) := by decide +kernel
theorem dX9_put_28 : decode cX9_put 28 = .ok (.getfield 26, 3) := by decide +kernel
theorem dX9_put_31 : decode cX9_put 31 = .ok (.bipush 7, 2) := by decide +kernel
theorem dX9_put_33 : decode cX9_put 33 = .ok (.iaload, 1) := by decide +kernel
theorem dX9_put_34 : decode cX9_put 34 = .ok (.iload_n 1, 1) := by decide +kernel
theorem dX9_put_35 : decode cX9_put 35 = .ok (.invokestatic 251, 3) := by decide +kernel
theorem dX9_put_38 : decode cX9_put 38 = .ok (.ifCond .ne 20, 3) := by decide +kernel
theorem dX9_put_41 : decode cX9_put 41 = .ok (.aload_n 0, 1) := by decide +kernel
theorem dX9_put_42 : decode cX9_put 42 = .ok (.aload_n 0, 1) := by decide +kernel
theorem dX9_put_43 : decode cX9_put 43 = .ok (.getfield 26, 3) := by decide +kernel
theorem dX9_put_46 : decode cX9_put 46 = .ok (.bipush 9, 2) := by decide +kernel
theorem dX9_put_48 : decode cX9_put 48 = .ok (.iload_n 2, 1) := by decide +kernel
theorem dX9_put_49 : decode cX9_put 49 = .ok (.imul, 1) := by decide +kernel
theorem dX9_put_50 : decode cX9_put 50 = .ok (.iload_n 3, 1) := by decide +kernel
theorem dX9_put_51 : decode cX9_put 51 = .ok (.iadd, 1) := by decide +kernel
theorem dX9_put_52 : decode cX9_put 52 = .ok (.invokevirtual 258, 3) := by decide +kernel
theorem dX9_put_55 : decode cX9_put 55 = .ok (.ifCond .lt 9, 3) := by decide +kernel
theorem dX9_put_58 : decode cX9_put 58 = .ok (.aload_n 0, 1) := by decide +kernel
theorem dX9_put_59 : decode cX9_put 59 = .ok (.iconst 5, 1) := by decide +kernel
theorem dX9_put_60 : decode cX9_put 60 = .ok (.invokevirtual 368, 3) := by decide +kernel
theorem dX9_put_63 : decode cX9_put 63 = .ok (.ireturn, 1) := by decide +kernel
theorem dX9_put_64 : decode cX9_put 64 = .ok (.aload_n 0, 1) := by decide +kernel
theorem dX9_put_65 : decode cX9_put 65 = .ok (.invokevirtual 371, 3) := by decide +kernel
theorem dX9_put_68 : decode cX9_put 68 = .ok (.aload_n 0, 1) := by decide +kernel
theorem dX9_put_69 : decode cX9_put 69 = .ok (.getfield 26, 3) := by decide +kernel
theorem dX9_put_72 : decode cX9_put 72 = .ok (.iload_n 1, 1) := by decide +kernel
theorem dX9_put_73 : decode cX9_put 73 = .ok (.bipush 9, 2) := by decide +kernel
theorem dX9_put_75 : decode cX9_put 75 = .ok (.iload_n 2, 1) := by decide +kernel
theorem dX9_put_76 : decode cX9_put 76 = .ok (.imul, 1) := by decide +kernel
theorem dX9_put_77 : decode cX9_put 77 = .ok (.iload_n 3, 1) := by decide +kernel
theorem dX9_put_78 : decode cX9_put 78 = .ok (.iadd, 1) := by decide +kernel
theorem dX9_put_79 : decode cX9_put 79 = .ok (.iastore, 1) := by decide +kernel
theorem dX9_put_80 : decode cX9_put 80 = .ok (.iconst 1, 1) := by decide +kernel
theorem dX9_put_81 : decode cX9_put 81 = .ok (.ireturn, 1) := by decide +kernel
theorem dX9_night_0 : decode cX9_night 0 = .ok (.aload_n 0, 1) := by decide +kernel
theorem dX9_night_1 : decode cX9_night 1 = .ok (.invokevirtual 153, 3) := by decide +kernel
theorem dX9_night_4 : decode cX9_night 4 = .ok (.aload_n 0, 1) := by decide +kernel
theorem dX9_night_5 : decode cX9_night 5 = .ok (.getfield 166, 3) := by decide +kernel
theorem dX9_night_8 : decode cX9_night 8 = .ok (.ifCond .ne 9, 3) := by decide +kernel
theorem dX9_night_11 : decode cX9_night 11 = .ok (.aload_n 0, 1) := by decide +kernel
theorem dX9_night_12 : decode cX9_night 12 = .ok (.iconst 1, 1) := by decide +kernel
theorem dX9_night_13 : decode cX9_night 13 = .ok (.invokevirtual 156, 3) := by decide +kernel
theorem dX9_night_16 : decode cX9_night 16 = .ok (.ireturn, 1) := by decide +kernel
theorem dX9_night_17 : decode cX9_night 17 = .ok (.aload_n 0, 1) := by decide +kernel
theorem dX9_night_18 : decode cX9_night 18 = .ok (.getfield 26, 3) := by decide +kernel
theorem dX9_night_21 : decode cX9_night 21 = .ok (.bipush 8, 2) := by decide +kernel
theorem dX9_night_23 : decode cX9_night 23 = .ok (.iaload, 1) := by decide +kernel
theorem dX9_night_24 : decode cX9_night 24 = .ok (.sipush 999, 3) := by decide +kernel
theorem dX9_night_27 : decode cX9_night 27 = .ok (.if_icmp .ne 9, 3) := by decide +kernel
theorem dX9_night_30 : decode cX9_night 30 = .ok (.aload_n 0, 1) := by decide +kernel
theorem dX9_night_31 : decode cX9_night 31 = .ok (.iconst 3, 1) := by decide +kernel
theorem dX9_night_32 : decode cX9_night 32 = .ok (.invokevirtual 156, 3) := by decide +kernel
theorem dX9_night_35 : decode cX9_night 35 = .ok (.ireturn, 1) := by decide +kernel
theorem dX9_night_36 : decode cX9_night 36 = .ok (.aload_n 0, 1) := by decide +kernel
theorem dX9_night_37 : decode cX9_night 37 = .ok (.invokevirtual 371, 3) := by decide +kernel
theorem dX9_night_40 : decode cX9_night 40 = .ok (.aload_n 0, 1) := by decide +kernel
theorem dX9_night_41 : decode cX9_night 41 = .ok (.aload_n 0, 1) := by decide +kernel
theorem dX9_night_42 : decode cX9_night 42 = .ok (.getfield 26, 3) := by decide +kernel
theorem dX9_night_45 : decode cX9_night 45 = .ok (.invokevirtual 299, 3) := by decide +kernel
theorem dX9_night_48 : decode cX9_night 48 = .ok (.ireturn, 1) := by decide +kernel
theorem dX9_undo_0 : decode cX9_undo 0 = .ok (.aload_n 0, 1) := by decide +kernel
theorem dX9_undo_1 : decode cX9_undo 1 = .ok (.invokevirtual 153, 3) := by decide +kernel
theorem dX9_undo_4 : decode cX9_undo 4 = .ok (.aload_n 0, 1) := by decide +kernel
theorem dX9_undo_5 : decode cX9_undo 5 = .ok (.getfield 169, 3) := by decide +kernel
theorem dX9_undo_8 : decode cX9_undo 8 = .ok (.ifCond .ne 10, 3) := by decide +kernel
theorem dX9_undo_11 : decode cX9_undo 11 = .ok (.aload_n 0, 1) := by decide +kernel
theorem dX9_undo_12 : decode cX9_undo 12 = .ok (.bipush 6, 2) := by decide +kernel
theorem dX9_undo_14 : decode cX9_undo 14 = .ok (.invokevirtual 368, 3) := by decide +kernel
theorem dX9_undo_17 : decode cX9_undo 17 = .ok (.ireturn, 1) := by decide +kernel
theorem dX9_undo_18 : decode cX9_undo 18 = .ok (.aload_n 0, 1) := by decide +kernel
theorem dX9_undo_19 : decode cX9_undo 19 = .ok (.dup, 1) := by decide +kernel
theorem dX9_undo_20 : decode cX9_undo 20 = .ok (.getfield 169, 3) := by decide +kernel
theorem dX9_undo_23 : decode cX9_undo 23 = .ok (.iconst 1, 1) := by decide +kernel
theorem dX9_undo_24 : decode cX9_undo 24 = .ok (.isub, 1) := by decide +kernel
theorem dX9_undo_25 : decode cX9_undo 25 = .ok (.putfield 169, 3) := by decide +kernel
theorem dX9_undo_28 : decode cX9_undo 28 = .ok (.aload_n 0, 1) := by decide +kernel
theorem dX9_undo_29 : decode cX9_undo 29 = .ok (.getfield 29, 3) := by decide +kernel
theorem dX9_undo_32 : decode cX9_undo 32 = .ok (.bipush 9, 2) := by decide +kernel
theorem dX9_undo_34 : decode cX9_undo 34 = .ok (.aload_n 0, 1) := by decide +kernel
theorem dX9_undo_35 : decode cX9_undo 35 = .ok (.getfield 169, 3) := by decide +kernel
theorem dX9_undo_38 : decode cX9_undo 38 = .ok (.imul, 1) := by decide +kernel
theorem dX9_undo_39 : decode cX9_undo 39 = .ok (.aload_n 0, 1) := by decide +kernel
theorem dX9_undo_40 : decode cX9_undo 40 = .ok (.getfield 26, 3) := by decide +kernel
theorem dX9_undo_43 : decode cX9_undo 43 = .ok (.iconst 0, 1) := by decide +kernel
theorem dX9_undo_44 : decode cX9_undo 44 = .ok (.bipush 9, 2) := by decide +kernel
theorem dX9_undo_46 : decode cX9_undo 46 = .ok (.invokestatic 162, 3) := by decide +kernel
theorem dX9_undo_49 : decode cX9_undo 49 = .ok (.iconst 1, 1) := by decide +kernel
theorem dX9_undo_50 : decode cX9_undo 50 = .ok (.ireturn, 1) := by decide +kernel
theorem dX9_image_0 : decode cX9_image 0 = .ok (.aload_n 0, 1) := by decide +kernel
theorem dX9_image_1 : decode cX9_image 1 = .ok (.invokevirtual 153, 3) := by decide +kernel
theorem dX9_image_4 : decode cX9_image 4 = .ok (.aload_n 0, 1) := by decide +kernel
theorem dX9_image_5 : decode cX9_image 5 = .ok (.getfield 166, 3) := by decide +kernel
theorem dX9_image_8 : decode cX9_image 8 = .ok (.ifCond .ne 9, 3) := by decide +kernel
theorem dX9_image_11 : decode cX9_image 11 = .ok (.aload_n 0, 1) := by decide +kernel
theorem dX9_image_12 : decode cX9_image 12 = .ok (.iconst 1, 1) := by decide +kernel
theorem dX9_image_13 : decode cX9_image 13 = .ok (.invokevirtual 156, 3) := by decide +kernel
theorem dX9_image_16 : decode cX9_image 16 = .ok (.ireturn, 1) := by decide +kernel
theorem dX9_image_17 : decode cX9_image 17 = .ok (.aload_n 0, 1) := by decide +kernel
theorem dX9_image_18 : decode cX9_image 18 = .ok (.getfield 172, 3) := by decide +kernel
theorem dX9_image_21 : decode cX9_image 21 = .ok (.iconst 3, 1) := by decide +kernel
theorem dX9_image_22 : decode cX9_image 22 = .ok (.if_icmp .ne 9, 3) := by decide +kernel
theorem dX9_image_25 : decode cX9_image 25 = .ok (.aload_n 0, 1) := by decide +kernel
theorem dX9_image_26 : decode cX9_image 26 = .ok (.iconst 3, 1) := by decide +kernel
theorem dX9_image_27 : decode cX9_image 27 = .ok (.invokevirtual 156, 3) := by decide +kernel
theorem dX9_image_30 : decode cX9_image 30 = .ok (.ireturn, 1) := by decide +kernel
theorem dX9_image_31 : decode cX9_image 31 = .ok (.aload_n 0, 1) := by decide +kernel
theorem dX9_image_32 : decode cX9_image 32 = .ok (.getfield 26, 3) := by decide +kernel
theorem dX9_image_35 : decode cX9_image 35 = .ok (.iconst 0, 1) := by decide +kernel
theorem dX9_image_36 : decode cX9_image 36 = .ok (.aload_n 0, 1) := by decide +kernel
theorem dX9_image_37 : decode cX9_image 37 = .ok (.getfield 32, 3) := by decide +kernel
theorem dX9_image_40 : decode cX9_image 40 = .ok (.bipush 9, 2) := by decide +kernel
theorem dX9_image_42 : decode cX9_image 42 = .ok (.aload_n 0, 1) := by decide +kernel
theorem dX9_image_43 : decode cX9_image 43 = .ok (.getfield 172, 3) := by decide +kernel
theorem dX9_image_46 : decode cX9_image 46 = .ok (.imul, 1) := by decide +kernel
theorem dX9_image_47 : decode cX9_image 47 = .ok (.bipush 9, 2) := by decide +kernel
theorem dX9_image_49 : decode cX9_image 49 = .ok (.invokestatic 162, 3) := by decide +kernel
theorem dX9_image_52 : decode cX9_image 52 = .ok (.aload_n 0, 1) := by decide +kernel
theorem dX9_image_53 : decode cX9_image 53 = .ok (.dup, 1) := by decide +kernel
theorem dX9_image_54 : decode cX9_image 54 = .ok (.getfield 172, 3) := by decide +kernel
theorem dX9_image_57 : decode cX9_image 57 = .ok (.iconst 1, 1) := by decide +kernel
theorem dX9_image_58 : decode cX9_image 58 = .ok (.iadd, 1) := by decide +kernel
theorem dX9_image_59 : decode cX9_image 59 = .ok (.putfield 172, 3) := by decide +kernel
theorem dX9_image_62 : decode cX9_image 62 = .ok (.aload_n 0, 1) := by decide +kernel
theorem dX9_image_63 : decode cX9_image 63 = .ok (.getfield 172, 3) := by decide +kernel
theorem dX9_image_66 : decode cX9_image 66 = .ok (.iconst 1, 1) := by decide +kernel
theorem dX9_image_67 : decode cX9_image 67 = .ok (.isub, 1) := by decide +kernel
theorem dX9_image_68 : decode cX9_image 68 = .ok (.ireturn, 1) := by decide +kernel
theorem dX9_back_0 : decode cX9_back 0 = .ok (.aload_n 0, 1) := by decide +kernel
theorem dX9_back_1 : decode cX9_back 1 = .ok (.invokevirtual 153, 3) := by decide +kernel
theorem dX9_back_4 : decode cX9_back 4 = .ok (.iload_n 1, 1) := by decide +kernel
theorem dX9_back_5 : decode cX9_back 5 = .ok (.iconst 0, 1) := by decide +kernel
theorem dX9_back_6 : decode cX9_back 6 = .ok (.aload_n 0, 1) := by decide +kernel
theorem dX9_back_7 : decode cX9_back 7 = .ok (.getfield 172, 3) := by decide +kernel
theorem dX9_back_10 : decode cX9_back 10 = .ok (.iconst 1, 1) := by decide +kernel
theorem dX9_back_11 : decode cX9_back 11 = .ok (.isub, 1) := by decide +kernel
theorem dX9_back_12 : decode cX9_back 12 = .ok (.invokestatic 135, 3) := by decide +kernel
theorem dX9_back_15 : decode cX9_back 15 = .ok (.ifCond .ne 9, 3) := by decide +kernel
theorem dX9_back_18 : decode cX9_back 18 = .ok (.aload_n 0, 1) := by decide +kernel
theorem dX9_back_19 : decode cX9_back 19 = .ok (.iconst 1, 1) := by decide +kernel
theorem dX9_back_20 : decode cX9_back 20 = .ok (.invokevirtual 368, 3) := by decide +kernel
theorem dX9_back_23 : decode cX9_back 23 = .ok (.ireturn, 1) := by decide +kernel
theorem dX9_back_24 : decode cX9_back 24 = .ok (.aload_n 0, 1) := by decide +kernel
theorem dX9_back_25 : decode cX9_back 25 = .ok (.getfield 32, 3) := by decide +kernel
theorem dX9_back_28 : decode cX9_back 28 = .ok (.bipush 9, 2) := by decide +kernel
theorem dX9_back_30 : decode cX9_back 30 = .ok (.iload_n 1, 1) := by decide +kernel
theorem dX9_back_31 : decode cX9_back 31 = .ok (.imul, 1) := by decide +kernel
theorem dX9_back_32 : decode cX9_back 32 = .ok (.aload_n 0, 1) := by decide +kernel
theorem dX9_back_33 : decode cX9_back 33 = .ok (.getfield 26, 3) := by decide +kernel
theorem dX9_back_36 : decode cX9_back 36 = .ok (.iconst 0, 1) := by decide +kernel
theorem dX9_back_37 : decode cX9_back 37 = .ok (.bipush 9, 2) := by decide +kernel
theorem dX9_back_39 : decode cX9_back 39 = .ok (.invokestatic 162, 3) := by decide +kernel
theorem dX9_back_42 : decode cX9_back 42 = .ok (.aload_n 0, 1) := by decide +kernel
theorem dX9_back_43 : decode cX9_back 43 = .ok (.iconst 0, 1) := by decide +kernel
theorem dX9_back_44 : decode cX9_back 44 = .ok (.putfield 169, 3) := by decide +kernel
theorem dX9_back_47 : decode cX9_back 47 = .ok (.iconst 1, 1) := by decide +kernel
theorem dX9_back_48 : decode cX9_back 48 = .ok (.ireturn, 1) := by decide +kernel
theorem dX9_led_0 : decode cX9_led 0 = .ok (.iconst 0, 1) := by decide +kernel
theorem dX9_led_1 : decode cX9_led 1 = .ok (.istore_n 2, 1) := by decide +kernel
theorem dX9_led_2 : decode cX9_led 2 = .ok (.iconst 0, 1) := by decide +kernel
theorem dX9_led_3 : decode cX9_led 3 = .ok (.istore_n 3, 1) := by decide +kernel
theorem dX9_led_4 : decode cX9_led 4 = .ok (.aload_n 0, 1) := by decide +kernel
theorem dX9_led_5 : decode cX9_led 5 = .ok (.getfield 166, 3) := by decide +kernel
theorem dX9_led_8 : decode cX9_led 8 = .ok (.ifCond .eq 51, 3) := by decide +kernel
theorem dX9_led_11 : decode cX9_led 11 = .ok (.iload_n 3, 1) := by decide +kernel
theorem dX9_led_12 : decode cX9_led 12 = .ok (.aload_n 0, 1) := by decide +kernel
theorem dX9_led_13 : decode cX9_led 13 = .ok (.getfield 20, 3) := by decide +kernel
theorem dX9_led_16 : decode cX9_led 16 = .ok (.iconst 3, 1) := by decide +kernel
theorem dX9_led_17 : decode cX9_led 17 = .ok (.iaload, 1) := by decide +kernel
theorem dX9_led_18 : decode cX9_led 18 = .ok (.if_icmp .ge 41, 3) := by decide +kernel
theorem dX9_led_21 : decode cX9_led 21 = .ok (.aload_n 0, 1) := by decide +kernel
theorem dX9_led_22 : decode cX9_led 22 = .ok (.getfield 26, 3) := by decide +kernel
theorem dX9_led_25 : decode cX9_led 25 = .ok (.bipush 7, 2) := by decide +kernel
theorem dX9_led_27 : decode cX9_led 27 = .ok (.iaload, 1) := by decide +kernel
theorem dX9_led_28 : decode cX9_led 28 = .ok (.iload_n 3, 1) := by decide +kernel
theorem dX9_led_29 : decode cX9_led 29 = .ok (.invokestatic 251, 3) := by decide +kernel
theorem dX9_led_32 : decode cX9_led 32 = .ok (.ifCond .ne 6, 3) := by decide +kernel
theorem dX9_led_35 : decode cX9_led 35 = .ok (.goto 18, 3) := by decide +kernel
theorem dX9_led_38 : decode cX9_led 38 = .ok (.iload_n 2, 1) := by decide +kernel
theorem dX9_led_39 : decode cX9_led 39 = .ok (.iload_n 1, 1) := by decide +kernel
theorem dX9_led_40 : decode cX9_led 40 = .ok (.if_icmp .ne 10, 3) := by decide +kernel
theorem dX9_led_43 : decode cX9_led 43 = .ok (.aload_n 0, 1) := by decide +kernel
theorem dX9_led_44 : decode cX9_led 44 = .ok (.iconst 0, 1) := by decide +kernel
theorem dX9_led_45 : decode cX9_led 45 = .ok (.putfield 44, 3) := by decide +kernel
theorem dX9_led_48 : decode cX9_led 48 = .ok (.iload_n 3, 1) := by decide +kernel
theorem dX9_led_49 : decode cX9_led 49 = .ok (.ireturn, 1) := by decide +kernel
theorem dX9_led_50 : decode cX9_led 50 = .ok (.iinc 2 1, 3) := by decide +kernel
theorem dX9_led_53 : decode cX9_led 53 = .ok (.iinc 3 1, 3) := by decide +kernel
theorem dX9_led_56 : decode cX9_led 56 = .ok (.goto (-52), 3) := by decide +kernel
theorem dX9_led_59 : decode cX9_led 59 = .ok (.aload_n 0, 1) := by decide +kernel
theorem dX9_led_60 : decode cX9_led 60 = .ok (.iconst 1, 1) := by decide +kernel
theorem dX9_led_61 : decode cX9_led 61 = .ok (.putfield 44, 3) := by decide +kernel
theorem dX9_led_64 : decode cX9_led 64 = .ok (.iconst 0, 1) := by decide +kernel
theorem dX9_led_65 : decode cX9_led 65 = .ok (.ireturn, 1) := by decide +kernel
theorem dX9_allPlaces_0 : decode cX9_allPlaces 0 = .ok (.iconst 0, 1) := by decide +kernel
theorem dX9_allPlaces_1 : decode cX9_allPlaces 1 = .ok (.istore_n 1, 1) := by decide +kernel
theorem dX9_allPlaces_2 : decode cX9_allPlaces 2 = .ok (.iconst 0, 1) := by decide +kernel
theorem dX9_allPlaces_3 : decode cX9_allPlaces 3 = .ok (.istore_n 2, 1) := by decide +kernel
theorem dX9_allPlaces_4 : decode cX9_allPlaces 4 = .ok (.iload_n 2, 1) := by decide +kernel
theorem dX9_allPlaces_5 : decode cX9_allPlaces 5 = .ok (.aload_n 0, 1) := by decide +kernel
theorem dX9_allPlaces_6 : decode cX9_allPlaces 6 = .ok (.getfield 20, 3) := by decide +kernel
theorem dX9_allPlaces_9 : decode cX9_allPlaces 9 = .ok (.iconst 2, 1) := by decide +kernel
theorem dX9_allPlaces_10 : decode cX9_allPlaces 10 = .ok (.iaload, 1) := by decide +kernel
theorem dX9_allPlaces_11 : decode cX9_allPlaces 11 = .ok (.if_icmp .ge 17, 3) := by decide +kernel
theorem dX9_allPlaces_14 : decode cX9_allPlaces 14 = .ok (.iload_n 1, 1) := by decide +kernel
theorem dX9_allPlaces_15 : decode cX9_allPlaces 15 = .ok (.aload_n 0, 1) := by decide +kernel
theorem dX9_allPlaces_16 : decode cX9_allPlaces 16 = .ok (.iload_n 2, 1) := by decide +kernel
theorem dX9_allPlaces_17 : decode cX9_allPlaces 17 = .ok (.invokevirtual 242, 3) := by decide +kernel
theorem dX9_allPlaces_20 : decode cX9_allPlaces 20 = .ok (.iadd, 1) := by decide +kernel
theorem dX9_allPlaces_21 : decode cX9_allPlaces 21 = .ok (.istore_n 1, 1) := by decide +kernel
theorem dX9_allPlaces_22 : decode cX9_allPlaces 22 = .ok (.iinc 2 1, 3) := by decide +kernel
theorem dX9_allPlaces_25 : decode cX9_allPlaces 25 = .ok (.goto (-21), 3) := by decide +kernel
theorem dX9_allPlaces_28 : decode cX9_allPlaces 28 = .ok (.iload_n 1, 1) := by decide +kernel
theorem dX9_allPlaces_29 : decode cX9_allPlaces 29 = .ok (.ireturn, 1) := by decide +kernel
theorem dX9_size_0 : decode cX9_size 0 = .ok (.aload_n 0, 1) := by decide +kernel
theorem dX9_size_1 : decode cX9_size 1 = .ok (.iconst 0, 1) := by decide +kernel
theorem dX9_size_2 : decode cX9_size 2 = .ok (.putfield 44, 3) := by decide +kernel
theorem dX9_size_5 : decode cX9_size 5 = .ok (.iload_n 1, 1) := by decide +kernel
theorem dX9_size_6 : decode cX9_size 6 = .ok (.bipush 12, 2) := by decide +kernel
theorem dX9_size_8 : decode cX9_size 8 = .ok (.if_icmp .ne 8, 3) := by decide +kernel
theorem dX9_size_11 : decode cX9_size 11 = .ok (.aload_n 0, 1) := by decide +kernel
theorem dX9_size_12 : decode cX9_size 12 = .ok (.getfield 50, 3) := by decide +kernel
theorem dX9_size_15 : decode cX9_size 15 = .ok (.ireturn, 1) := by decide +kernel
theorem dX9_size_16 : decode cX9_size 16 = .ok (.aload_n 0, 1) := by decide +kernel
theorem dX9_size_17 : decode cX9_size 17 = .ok (.getfield 166, 3) := by decide +kernel
theorem dX9_size_20 : decode cX9_size 20 = .ok (.ifCond .ne 19, 3) := by decide +kernel
theorem dX9_size_23 : decode cX9_size 23 = .ok (.iload_n 1, 1) := by decide +kernel
theorem dX9_size_24 : decode cX9_size 24 = .ok (.iconst 0, 1) := by decide +kernel
theorem dX9_size_25 : decode cX9_size 25 = .ok (.bipush 11, 2) := by decide +kernel
theorem dX9_size_27 : decode cX9_size 27 = .ok (.invokestatic 135, 3) := by decide +kernel
theorem dX9_size_30 : decode cX9_size 30 = .ok (.ifCond .eq 7, 3) := by decide +kernel
theorem dX9_size_33 : decode cX9_size 33 = .ok (.iconst 0, 1) := by decide +kernel
theorem dX9_size_34 : decode cX9_size 34 = .ok (.goto 4, 3) := by decide +kernel
theorem dX9_size_37 : decode cX9_size 37 = .ok (.iconst (-1), 1) := by decide +kernel
theorem dX9_size_38 : decode cX9_size 38 = .ok (.ireturn, 1) := by decide +kernel
theorem dX9_size_39 : decode cX9_size 39 = .ok (.iload_n 1, 1) := by decide +kernel
theorem dX9_size_40 : decode cX9_size 40 = .ok (.tableswitch 145 0 11 #[64, 71, 78, 85, 90, 97, 104, 111, 119, 127, 135, 140], 64) := by decide +kernel
theorem dX9_size_104 : decode cX9_size 104 = .ok (.aload_n 0, 1) := by decide +kernel
theorem dX9_size_105 : decode cX9_size 105 = .ok (.getfield 20, 3) := by decide +kernel
theorem dX9_size_108 : decode cX9_size 108 = .ok (.iconst 0, 1) := by decide +kernel
theorem dX9_size_109 : decode cX9_size 109 = .ok (.iaload, 1) := by decide +kernel
theorem dX9_size_110 : decode cX9_size 110 = .ok (.ireturn, 1) := by decide +kernel
theorem dX9_size_111 : decode cX9_size 111 = .ok (.aload_n 0, 1) := by decide +kernel
theorem dX9_size_112 : decode cX9_size 112 = .ok (.getfield 20, 3) := by decide +kernel
theorem dX9_size_115 : decode cX9_size 115 = .ok (.iconst 1, 1) := by decide +kernel
theorem dX9_size_116 : decode cX9_size 116 = .ok (.iaload, 1) := by decide +kernel
theorem dX9_size_117 : decode cX9_size 117 = .ok (.ireturn, 1) := by decide +kernel
theorem dX9_size_118 : decode cX9_size 118 = .ok (.aload_n 0, 1) := by decide +kernel
theorem dX9_size_119 : decode cX9_size 119 = .ok (.getfield 20, 3) := by decide +kernel
theorem dX9_size_122 : decode cX9_size 122 = .ok (.iconst 2, 1) := by decide +kernel
theorem dX9_size_123 : decode cX9_size 123 = .ok (.iaload, 1) := by decide +kernel
theorem dX9_size_124 : decode cX9_size 124 = .ok (.ireturn, 1) := by decide +kernel
theorem dX9_size_125 : decode cX9_size 125 = .ok (.aload_n 0, 1) := by decide +kernel
theorem dX9_size_126 : decode cX9_size 126 = .ok (.invokevirtual 378, 3) := by decide +kernel
theorem dX9_size_129 : decode cX9_size 129 = .ok (.ireturn, 1) := by decide +kernel
theorem dX9_size_130 : decode cX9_size 130 = .ok (.aload_n 0, 1) := by decide +kernel
theorem dX9_size_131 : decode cX9_size 131 = .ok (.getfield 20, 3) := by decide +kernel
theorem dX9_size_134 : decode cX9_size 134 = .ok (.iconst 3, 1) := by decide +kernel
theorem dX9_size_135 : decode cX9_size 135 = .ok (.iaload, 1) := by decide +kernel
theorem dX9_size_136 : decode cX9_size 136 = .ok (.ireturn, 1) := by decide +kernel
theorem dX9_size_137 : decode cX9_size 137 = .ok (.aload_n 0, 1) := by decide +kernel
theorem dX9_size_138 : decode cX9_size 138 = .ok (.getfield 20, 3) := by decide +kernel
theorem dX9_size_141 : decode cX9_size 141 = .ok (.iconst 4, 1) := by decide +kernel
theorem dX9_size_142 : decode cX9_size 142 = .ok (.iaload, 1) := by decide +kernel
theorem dX9_size_143 : decode cX9_size 143 = .ok (.ireturn, 1) := by decide +kernel
theorem dX9_size_144 : decode cX9_size 144 = .ok (.aload_n 0, 1) := by decide +kernel
theorem dX9_size_145 : decode cX9_size 145 = .ok (.getfield 20, 3) := by decide +kernel
theorem dX9_size_148 : decode cX9_size 148 = .ok (.iconst 5, 1) := by decide +kernel
theorem dX9_size_149 : decode cX9_size 149 = .ok (.iaload, 1) := by decide +kernel
theorem dX9_size_150 : decode cX9_size 150 = .ok (.ireturn, 1) := by decide +kernel
theorem dX9_size_151 : decode cX9_size 151 = .ok (.aload_n 0, 1) := by decide +kernel
theorem dX9_size_152 : decode cX9_size 152 = .ok (.getfield 20, 3) := by decide +kernel
theorem dX9_size_155 : decode cX9_size 155 = .ok (.bipush 6, 2) := by decide +kernel
theorem dX9_size_157 : decode cX9_size 157 = .ok (.iaload, 1) := by decide +kernel
theorem dX9_size_158 : decode cX9_size 158 = .ok (.ireturn, 1) := by decide +kernel
theorem dX9_size_159 : decode cX9_size 159 = .ok (.aload_n 0, 1) := by decide +kernel
theorem dX9_size_160 : decode cX9_size 160 = .ok (.getfield 20, 3) := by decide +kernel
theorem dX9_size_163 : decode cX9_size 163 = .ok (.bipush 7, 2) := by decide +kernel
theorem dX9_size_165 : decode cX9_size 165 = .ok (.iaload, 1) := by decide +kernel
theorem dX9_size_166 : decode cX9_size 166 = .ok (.ireturn, 1) := by decide +kernel
theorem dX9_size_167 : decode cX9_size 167 = .ok (.aload_n 0, 1) := by decide +kernel
theorem dX9_size_168 : decode cX9_size 168 = .ok (.getfield 26, 3) := by decide +kernel
theorem dX9_size_171 : decode cX9_size 171 = .ok (.bipush 8, 2) := by decide +kernel
theorem dX9_size_173 : decode cX9_size 173 = .ok (.iaload, 1) := by decide +kernel
theorem dX9_size_174 : decode cX9_size 174 = .ok (.ireturn, 1) := by decide +kernel
theorem dX9_size_175 : decode cX9_size 175 = .ok (.aload_n 0, 1) := by decide +kernel
theorem dX9_size_176 : decode cX9_size 176 = .ok (.getfield 169, 3) := by decide +kernel
theorem dX9_size_179 : decode cX9_size 179 = .ok (.ireturn, 1) := by decide +kernel
theorem dX9_size_180 : decode cX9_size 180 = .ok (.aload_n 0, 1) := by decide +kernel
theorem dX9_size_181 : decode cX9_size 181 = .ok (.getfield 172, 3) := by decide +kernel
theorem dX9_size_184 : decode cX9_size 184 = .ok (.ireturn, 1) := by decide +kernel
theorem dX9_size_185 : decode cX9_size 185 = .ok (.iconst (-1), 1) := by decide +kernel
theorem dX9_size_186 : decode cX9_size 186 = .ok (.ireturn, 1) := by decide +kernel
theorem dX9_trouble_0 : decode cX9_trouble 0 = .ok (.aload_n 0, 1) := by decide +kernel
theorem dX9_trouble_1 : decode cX9_trouble 1 = .ok (.iconst 0, 1) := by decide +kernel
theorem dX9_trouble_2 : decode cX9_trouble 2 = .ok (.putfield 44, 3) := by decide +kernel
theorem dX9_trouble_5 : decode cX9_trouble 5 = .ok (.aload_n 0, 1) := by decide +kernel
theorem dX9_trouble_6 : decode cX9_trouble 6 = .ok (.getfield 47, 3) := by decide +kernel
theorem dX9_trouble_9 : decode cX9_trouble 9 = .ok (.ireturn, 1) := by decide +kernel
theorem dJ6_bitCount_0f7a4_0 : decode cJ6_bitCount_0f7a4 0 = .ok (.iload_n 0, 1) := by decide +kernel
theorem dJ6_bitCount_0f7a4_1 : decode cJ6_bitCount_0f7a4 1 = .ok (.iload_n 0, 1) := by decide +kernel
theorem dJ6_bitCount_0f7a4_2 : decode cJ6_bitCount_0f7a4 2 = .ok (.iconst 1, 1) := by decide +kernel
theorem dJ6_bitCount_0f7a4_3 : decode cJ6_bitCount_0f7a4 3 = .ok (.iushr, 1) := by decide +kernel
theorem dJ6_bitCount_0f7a4_4 : decode cJ6_bitCount_0f7a4 4 = .ok (.ldc_w 265, 3) := by decide +kernel
theorem dJ6_bitCount_0f7a4_7 : decode cJ6_bitCount_0f7a4 7 = .ok (.iand, 1) := by decide +kernel
theorem dJ6_bitCount_0f7a4_8 : decode cJ6_bitCount_0f7a4 8 = .ok (.isub, 1) := by decide +kernel
theorem dJ6_bitCount_0f7a4_9 : decode cJ6_bitCount_0f7a4 9 = .ok (.istore_n 0, 1) := by decide +kernel
theorem dJ6_bitCount_0f7a4_10 : decode cJ6_bitCount_0f7a4 10 = .ok (.iload_n 0, 1) := by decide +kernel
theorem dJ6_bitCount_0f7a4_11 : decode cJ6_bitCount_0f7a4 11 = .ok (.ldc_w 266, 3) := by decide +kernel
theorem dJ6_bitCount_0f7a4_14 : decode cJ6_bitCount_0f7a4 14 = .ok (.iand, 1) := by decide +kernel
theorem dJ6_bitCount_0f7a4_15 : decode cJ6_bitCount_0f7a4 15 = .ok (.iload_n 0, 1) := by decide +kernel
theorem dJ6_bitCount_0f7a4_16 : decode cJ6_bitCount_0f7a4 16 = .ok (.iconst 2, 1) := by decide +kernel
theorem dJ6_bitCount_0f7a4_17 : decode cJ6_bitCount_0f7a4 17 = .ok (.iushr, 1) := by decide +kernel
theorem dJ6_bitCount_0f7a4_18 : decode cJ6_bitCount_0f7a4 18 = .ok (.ldc_w 266, 3) := by decide +kernel
theorem dJ6_bitCount_0f7a4_21 : decode cJ6_bitCount_0f7a4 21 = .ok (.iand, 1) := by decide +kernel
theorem dJ6_bitCount_0f7a4_22 : decode cJ6_bitCount_0f7a4 22 = .ok (.iadd, 1) := by decide +kernel
theorem dJ6_bitCount_0f7a4_23 : decode cJ6_bitCount_0f7a4 23 = .ok (.istore_n 0, 1) := by decide +kernel
theorem dJ6_bitCount_0f7a4_24 : decode cJ6_bitCount_0f7a4 24 = .ok (.iload_n 0, 1) := by decide +kernel
theorem dJ6_bitCount_0f7a4_25 : decode cJ6_bitCount_0f7a4 25 = .ok (.iload_n 0, 1) := by decide +kernel
theorem dJ6_bitCount_0f7a4_26 : decode cJ6_bitCount_0f7a4 26 = .ok (.iconst 4, 1) := by decide +kernel
theorem dJ6_bitCount_0f7a4_27 : decode cJ6_bitCount_0f7a4 27 = .ok (.iushr, 1) := by decide +kernel
theorem dJ6_bitCount_0f7a4_28 : decode cJ6_bitCount_0f7a4 28 = .ok (.iadd, 1) := by decide +kernel
theorem dJ6_bitCount_0f7a4_29 : decode cJ6_bitCount_0f7a4 29 = .ok (.ldc_w 267, 3) := by decide +kernel
theorem dJ6_bitCount_0f7a4_32 : decode cJ6_bitCount_0f7a4 32 = .ok (.iand, 1) := by decide +kernel
theorem dJ6_bitCount_0f7a4_33 : decode cJ6_bitCount_0f7a4 33 = .ok (.istore_n 0, 1) := by decide +kernel
theorem dJ6_bitCount_0f7a4_34 : decode cJ6_bitCount_0f7a4 34 = .ok (.iload_n 0, 1) := by decide +kernel
theorem dJ6_bitCount_0f7a4_35 : decode cJ6_bitCount_0f7a4 35 = .ok (.iload_n 0, 1) := by decide +kernel
theorem dJ6_bitCount_0f7a4_36 : decode cJ6_bitCount_0f7a4 36 = .ok (.bipush 8, 2) := by decide +kernel
theorem dJ6_bitCount_0f7a4_38 : decode cJ6_bitCount_0f7a4 38 = .ok (.iushr, 1) := by decide +kernel
theorem dJ6_bitCount_0f7a4_39 : decode cJ6_bitCount_0f7a4 39 = .ok (.iadd, 1) := by decide +kernel
theorem dJ6_bitCount_0f7a4_40 : decode cJ6_bitCount_0f7a4 40 = .ok (.istore_n 0, 1) := by decide +kernel
theorem dJ6_bitCount_0f7a4_41 : decode cJ6_bitCount_0f7a4 41 = .ok (.iload_n 0, 1) := by decide +kernel
theorem dJ6_bitCount_0f7a4_42 : decode cJ6_bitCount_0f7a4 42 = .ok (.iload_n 0, 1) := by decide +kernel
theorem dJ6_bitCount_0f7a4_43 : decode cJ6_bitCount_0f7a4 43 = .ok (.bipush 16, 2) := by decide +kernel
theorem dJ6_bitCount_0f7a4_45 : decode cJ6_bitCount_0f7a4 45 = .ok (.iushr, 1) := by decide +kernel
theorem dJ6_bitCount_0f7a4_46 : decode cJ6_bitCount_0f7a4 46 = .ok (.iadd, 1) := by decide +kernel
theorem dJ6_bitCount_0f7a4_47 : decode cJ6_bitCount_0f7a4 47 = .ok (.istore_n 0, 1) := by decide +kernel
theorem dJ6_bitCount_0f7a4_48 : decode cJ6_bitCount_0f7a4 48 = .ok (.iload_n 0, 1) := by decide +kernel
theorem dJ6_bitCount_0f7a4_49 : decode cJ6_bitCount_0f7a4 49 = .ok (.bipush 63, 2) := by decide +kernel
theorem dJ6_bitCount_0f7a4_51 : decode cJ6_bitCount_0f7a4 51 = .ok (.iand, 1) := by decide +kernel
theorem dJ6_bitCount_0f7a4_52 : decode cJ6_bitCount_0f7a4 52 = .ok (.ireturn, 1) := by decide +kernel
theorem dJ9_max_7cf53_0 : decode cJ9_max_7cf53 0 = .ok (.iload_n 0, 1) := by decide +kernel
theorem dJ9_max_7cf53_1 : decode cJ9_max_7cf53 1 = .ok (.iload_n 1, 1) := by decide +kernel
theorem dJ9_max_7cf53_2 : decode cJ9_max_7cf53 2 = .ok (.if_icmp .lt 7, 3) := by decide +kernel
theorem dJ9_max_7cf53_5 : decode cJ9_max_7cf53 5 = .ok (.iload_n 0, 1) := by decide +kernel
theorem dJ9_max_7cf53_6 : decode cJ9_max_7cf53 6 = .ok (.goto 4, 3) := by decide +kernel
theorem dJ9_max_7cf53_9 : decode cJ9_max_7cf53 9 = .ok (.iload_n 1, 1) := by decide +kernel
theorem dJ9_max_7cf53_10 : decode cJ9_max_7cf53 10 = .ok (.ireturn, 1) := by decide +kernel
theorem dJ9_min_7cf53_0 : decode cJ9_min_7cf53 0 = .ok (.iload_n 0, 1) := by decide +kernel
theorem dJ9_min_7cf53_1 : decode cJ9_min_7cf53 1 = .ok (.iload_n 1, 1) := by decide +kernel
theorem dJ9_min_7cf53_2 : decode cJ9_min_7cf53 2 = .ok (.if_icmp .gt 7, 3) := by decide +kernel
theorem dJ9_min_7cf53_5 : decode cJ9_min_7cf53 5 = .ok (.iload_n 0, 1) := by decide +kernel
theorem dJ9_min_7cf53_6 : decode cJ9_min_7cf53 6 = .ok (.goto 4, 3) := by decide +kernel
theorem dJ9_min_7cf53_9 : decode cJ9_min_7cf53 9 = .ok (.iload_n 1, 1) := by decide +kernel
theorem dJ9_min_7cf53_10 : decode cJ9_min_7cf53 10 = .ok (.ireturn, 1) := by decide +kernel
theorem dJ0_length_8abf5_0 : decode cJ0_length_8abf5 0 = .ok (.aload_n 0, 1) := by decide +kernel
theorem dJ0_length_8abf5_1 : decode cJ0_length_8abf5 1 = .ok (.getfield 9, 3) := by decide +kernel
theorem dJ0_length_8abf5_4 : decode cJ0_length_8abf5 4 = .ok (.arraylength, 1) := by decide +kernel
theorem dJ0_length_8abf5_5 : decode cJ0_length_8abf5 5 = .ok (.aload_n 0, 1) := by decide +kernel
theorem dJ0_length_8abf5_6 : decode cJ0_length_8abf5 6 = .ok (.invokevirtual 335, 3) := by decide +kernel
theorem dJ0_length_8abf5_9 : decode cJ0_length_8abf5 9 = .ok (.ishr, 1) := by decide +kernel
theorem dJ0_length_8abf5_10 : decode cJ0_length_8abf5 10 = .ok (.ireturn, 1) := by decide +kernel
theorem dJ0_charAt_5068e_0 : decode cJ0_charAt_5068e 0 = .ok (.aload_n 0, 1) := by decide +kernel
theorem dJ0_charAt_5068e_1 : decode cJ0_charAt_5068e 1 = .ok (.invokevirtual 492, 3) := by decide +kernel
theorem dJ0_charAt_5068e_4 : decode cJ0_charAt_5068e 4 = .ok (.ifCond .eq 12, 3) := by decide +kernel
theorem dJ0_charAt_5068e_7 : decode cJ0_charAt_5068e 7 = .ok (.aload_n 0, 1) := by decide +kernel
theorem dJ0_charAt_5068e_8 : decode cJ0_charAt_5068e 8 = .ok (.getfield 9, 3) := by decide +kernel
theorem dJ0_charAt_5068e_11 : decode cJ0_charAt_5068e 11 = .ok (.iload_n 1, 1) := by decide +kernel
theorem dJ0_charAt_5068e_12 : decode cJ0_charAt_5068e 12 = .ok (.invokestatic 495, 3) := by decide +kernel
theorem dJ0_charAt_5068e_15 : decode cJ0_charAt_5068e 15 = .ok (.ireturn, 1) := by decide +kernel
theorem dJ0_charAt_5068e_16 : decode cJ0_charAt_5068e 16 = .ok (.aload_n 0, 1) := by decide +kernel
theorem dJ0_charAt_5068e_17 : decode cJ0_charAt_5068e 17 = .ok (.getfield 9, 3) := by decide +kernel
theorem dJ0_charAt_5068e_20 : decode cJ0_charAt_5068e 20 = .ok (.iload_n 1, 1) := by decide +kernel
theorem dJ0_charAt_5068e_21 : decode cJ0_charAt_5068e 21 = .ok (.invokestatic 498, 3) := by decide +kernel
theorem dJ0_charAt_5068e_24 : decode cJ0_charAt_5068e 24 = .ok (.ireturn, 1) := by decide +kernel
theorem dJ0_coder_7d493_0 : decode cJ0_coder_7d493 0 = .ok (.getstatic 38, 3) := by decide +kernel
theorem dJ0_coder_7d493_3 : decode cJ0_coder_7d493 3 = .ok (.ifCond .eq 10, 3) := by decide +kernel
theorem dJ0_coder_7d493_6 : decode cJ0_coder_7d493 6 = .ok (.aload_n 0, 1) := by decide +kernel
theorem dJ0_coder_7d493_7 : decode cJ0_coder_7d493 7 = .ok (.getfield 15, 3) := by decide +kernel
theorem dJ0_coder_7d493_10 : decode cJ0_coder_7d493 10 = .ok (.goto 4, 3) := by decide +kernel
theorem dJ0_coder_7d493_13 : decode cJ0_coder_7d493 13 = .ok (.iconst 1, 1) := by decide +kernel
theorem dJ0_coder_7d493_14 : decode cJ0_coder_7d493 14 = .ok (.ireturn, 1) := by decide +kernel
theorem dJ0_isLatin1_aae02_0 : decode cJ0_isLatin1_aae02 0 = .ok (.getstatic 38, 3) := by decide +kernel
theorem dJ0_isLatin1_aae02_3 : decode cJ0_isLatin1_aae02 3 = .ok (.ifCond .eq 14, 3) := by decide +kernel
theorem dJ0_isLatin1_aae02_6 : decode cJ0_isLatin1_aae02 6 = .ok (.aload_n 0, 1) := by decide +kernel
theorem dJ0_isLatin1_aae02_7 : decode cJ0_isLatin1_aae02 7 = .ok (.getfield 15, 3) := by decide +kernel
theorem dJ0_isLatin1_aae02_10 : decode cJ0_isLatin1_aae02 10 = .ok (.ifCond .ne 7, 3) := by decide +kernel
theorem dJ0_isLatin1_aae02_13 : decode cJ0_isLatin1_aae02 13 = .ok (.iconst 1, 1) := by decide +kernel
theorem dJ0_isLatin1_aae02_14 : decode cJ0_isLatin1_aae02 14 = .ok (.goto 4, 3) := by decide +kernel
theorem dJ0_isLatin1_aae02_17 : decode cJ0_isLatin1_aae02 17 = .ok (.iconst 0, 1) := by decide +kernel
theorem dJ0_isLatin1_aae02_18 : decode cJ0_isLatin1_aae02 18 = .ok (.ireturn, 1) := by decide +kernel
theorem dJ0_checkIndex_df160_0 : decode cJ0_checkIndex_df160 0 = .ok (.iload_n 0, 1) := by decide +kernel
theorem dJ0_checkIndex_df160_1 : decode cJ0_checkIndex_df160 1 = .ok (.iload_n 1, 1) := by decide +kernel
theorem dJ0_checkIndex_df160_2 : decode cJ0_checkIndex_df160 2 = .ok (.getstatic 1053, 3) := by decide +kernel
theorem dJ0_checkIndex_df160_5 : decode cJ0_checkIndex_df160 5 = .ok (.invokestatic 1059, 3) := by decide +kernel
theorem dJ0_checkIndex_df160_8 : decode cJ0_checkIndex_df160 8 = .ok (.pop, 1) := by decide +kernel
theorem dJ0_checkIndex_df160_9 : decode cJ0_checkIndex_df160 9 = .ok (.return_, 1) := by decide +kernel
theorem dJ1_charAt_3b067_0 : decode cJ1_charAt_3b067 0 = .ok (.iload_n 1, 1) := by decide +kernel
theorem dJ1_charAt_3b067_1 : decode cJ1_charAt_3b067 1 = .ok (.aload_n 0, 1) := by decide +kernel
theorem dJ1_charAt_3b067_2 : decode cJ1_charAt_3b067 2 = .ok (.arraylength, 1) := by decide +kernel
theorem dJ1_charAt_3b067_3 : decode cJ1_charAt_3b067 3 = .ok (.invokestatic 9, 3) := by decide +kernel
theorem dJ1_charAt_3b067_6 : decode cJ1_charAt_3b067 6 = .ok (.aload_n 0, 1) := by decide +kernel
theorem dJ1_charAt_3b067_7 : decode cJ1_charAt_3b067 7 = .ok (.iload_n 1, 1) := by decide +kernel
theorem dJ1_charAt_3b067_8 : decode cJ1_charAt_3b067 8 = .ok (.baload, 1) := by decide +kernel
theorem dJ1_charAt_3b067_9 : decode cJ1_charAt_3b067 9 = .ok (.sipush 255, 3) := by decide +kernel
theorem dJ1_charAt_3b067_12 : decode cJ1_charAt_3b067 12 = .ok (.iand, 1) := by decide +kernel
theorem dJ1_charAt_3b067_13 : decode cJ1_charAt_3b067 13 = .ok (.i2c, 1) := by decide +kernel
theorem dJ1_charAt_3b067_14 : decode cJ1_charAt_3b067 14 = .ok (.ireturn, 1) := by decide +kernel
theorem dJ2_getChar_3b067_0 : decode cJ2_getChar_3b067 0 = .ok (.getstatic 44, 3) := by decide +kernel
theorem dJ2_getChar_3b067_3 : decode cJ2_getChar_3b067 3 = .ok (.ifCond .ne 25, 3) := by decide +kernel
theorem dJ2_getChar_3b067_6 : decode cJ2_getChar_3b067 6 = .ok (.iload_n 1, 1) := by decide +kernel
theorem dJ2_getChar_3b067_7 : decode cJ2_getChar_3b067 7 = .ok (.ifCond .lt 11, 3) := by decide +kernel
theorem dJ2_getChar_3b067_10 : decode cJ2_getChar_3b067 10 = .ok (.iload_n 1, 1) := by decide +kernel
theorem dJ2_getChar_3b067_11 : decode cJ2_getChar_3b067 11 = .ok (.aload_n 0, 1) := by decide +kernel
theorem dJ2_getChar_3b067_12 : decode cJ2_getChar_3b067 12 = .ok (.invokestatic 48, 3) := by decide +kernel
theorem dJ2_getChar_3b067_15 : decode cJ2_getChar_3b067 15 = .ok (.if_icmp .lt 13, 3) := by decide +kernel
theorem dJ2_getChar_3b067_18 : decode cJ2_getChar_3b067 18 = .ok (.new 52, 3) := by decide +kernel
theorem dJ2_getChar_3b067_21 : decode cJ2_getChar_3b067 21 = .ok (.dup, 1) := by decide +kernel
theorem dJ2_getChar_3b067_22 : decode cJ2_getChar_3b067 22 = .ok (.ldc 54, 2) := by decide +kernel
theorem dJ2_getChar_3b067_24 : decode cJ2_getChar_3b067 24 = .ok (.invokespecial 56, 3) := by decide +kernel
theorem dJ2_getChar_3b067_27 : decode cJ2_getChar_3b067 27 = .ok (.athrow, 1) := by decide +kernel
theorem dJ2_getChar_3b067_28 : decode cJ2_getChar_3b067 28 = .ok (.iload_n 1, 1) := by decide +kernel
theorem dJ2_getChar_3b067_29 : decode cJ2_getChar_3b067 29 = .ok (.iconst 1, 1) := by decide +kernel
theorem dJ2_getChar_3b067_30 : decode cJ2_getChar_3b067 30 = .ok (.ishl, 1) := by decide +kernel
theorem dJ2_getChar_3b067_31 : decode cJ2_getChar_3b067 31 = .ok (.istore_n 1, 1) := by decide +kernel
theorem dJ2_getChar_3b067_32 : decode cJ2_getChar_3b067 32 = .ok (.aload_n 0, 1) := by decide +kernel
theorem dJ2_getChar_3b067_33 : decode cJ2_getChar_3b067 33 = .ok (.iload_n 1, 1) := by decide +kernel
theorem dJ2_getChar_3b067_34 : decode cJ2_getChar_3b067 34 = .ok (.iinc 1 1, 3) := by decide +kernel
theorem dJ2_getChar_3b067_37 : decode cJ2_getChar_3b067 37 = .ok (.baload, 1) := by decide +kernel
theorem dJ2_getChar_3b067_38 : decode cJ2_getChar_3b067 38 = .ok (.sipush 255, 3) := by decide +kernel
theorem dJ2_getChar_3b067_41 : decode cJ2_getChar_3b067 41 = .ok (.iand, 1) := by decide +kernel
theorem dJ2_getChar_3b067_42 : decode cJ2_getChar_3b067 42 = .ok (.getstatic 59, 3) := by decide +kernel
theorem dJ2_getChar_3b067_45 : decode cJ2_getChar_3b067 45 = .ok (.ishl, 1) := by decide +kernel
theorem dJ2_getChar_3b067_46 : decode cJ2_getChar_3b067 46 = .ok (.aload_n 0, 1) := by decide +kernel
theorem dJ2_getChar_3b067_47 : decode cJ2_getChar_3b067 47 = .ok (.iload_n 1, 1) := by decide +kernel
theorem dJ2_getChar_3b067_48 : decode cJ2_getChar_3b067 48 = .ok (.baload, 1) := by decide +kernel
theorem dJ2_getChar_3b067_49 : decode cJ2_getChar_3b067 49 = .ok (.sipush 255, 3) := by decide +kernel
theorem dJ2_getChar_3b067_52 : decode cJ2_getChar_3b067 52 = .ok (.iand, 1) := by decide +kernel
theorem dJ2_getChar_3b067_53 : decode cJ2_getChar_3b067 53 = .ok (.getstatic 63, 3) := by decide +kernel
theorem dJ2_getChar_3b067_56 : decode cJ2_getChar_3b067 56 = .ok (.ishl, 1) := by decide +kernel
theorem dJ2_getChar_3b067_57 : decode cJ2_getChar_3b067 57 = .ok (.ior, 1) := by decide +kernel
theorem dJ2_getChar_3b067_58 : decode cJ2_getChar_3b067 58 = .ok (.i2c, 1) := by decide +kernel
theorem dJ2_getChar_3b067_59 : decode cJ2_getChar_3b067 59 = .ok (.ireturn, 1) := by decide +kernel
theorem dJ2_length_9d52b_0 : decode cJ2_length_9d52b 0 = .ok (.aload_n 0, 1) := by decide +kernel
theorem dJ2_length_9d52b_1 : decode cJ2_length_9d52b 1 = .ok (.arraylength, 1) := by decide +kernel
theorem dJ2_length_9d52b_2 : decode cJ2_length_9d52b 2 = .ok (.iconst 1, 1) := by decide +kernel
theorem dJ2_length_9d52b_3 : decode cJ2_length_9d52b 3 = .ok (.ishr, 1) := by decide +kernel
theorem dJ2_length_9d52b_4 : decode cJ2_length_9d52b 4 = .ok (.ireturn, 1) := by decide +kernel
theorem dJ2_charAt_3b067_0 : decode cJ2_charAt_3b067 0 = .ok (.iload_n 1, 1) := by decide +kernel
theorem dJ2_charAt_3b067_1 : decode cJ2_charAt_3b067 1 = .ok (.aload_n 0, 1) := by decide +kernel
theorem dJ2_charAt_3b067_2 : decode cJ2_charAt_3b067 2 = .ok (.invokestatic 67, 3) := by decide +kernel
theorem dJ2_charAt_3b067_5 : decode cJ2_charAt_3b067 5 = .ok (.aload_n 0, 1) := by decide +kernel
theorem dJ2_charAt_3b067_6 : decode cJ2_charAt_3b067 6 = .ok (.iload_n 1, 1) := by decide +kernel
theorem dJ2_charAt_3b067_7 : decode cJ2_charAt_3b067 7 = .ok (.invokestatic 71, 3) := by decide +kernel
theorem dJ2_charAt_3b067_10 : decode cJ2_charAt_3b067 10 = .ok (.ireturn, 1) := by decide +kernel
theorem dJ2_checkIndex_2214a_0 : decode cJ2_checkIndex_2214a 0 = .ok (.iload_n 0, 1) := by decide +kernel
theorem dJ2_checkIndex_2214a_1 : decode cJ2_checkIndex_2214a 1 = .ok (.aload_n 1, 1) := by decide +kernel
theorem dJ2_checkIndex_2214a_2 : decode cJ2_checkIndex_2214a 2 = .ok (.invokestatic 48, 3) := by decide +kernel
theorem dJ2_checkIndex_2214a_5 : decode cJ2_checkIndex_2214a 5 = .ok (.invokestatic 414, 3) := by decide +kernel
theorem dJ2_checkIndex_2214a_8 : decode cJ2_checkIndex_2214a 8 = .ok (.return_, 1) := by decide +kernel
theorem dJ7_fill_53178_0 : decode cJ7_fill_53178 0 = .ok (.iconst 0, 1) := by decide +kernel
theorem dJ7_fill_53178_1 : decode cJ7_fill_53178 1 = .ok (.istore_n 2, 1) := by decide +kernel
theorem dJ7_fill_53178_2 : decode cJ7_fill_53178 2 = .ok (.aload_n 0, 1) := by decide +kernel
theorem dJ7_fill_53178_3 : decode cJ7_fill_53178 3 = .ok (.arraylength, 1) := by decide +kernel
theorem dJ7_fill_53178_4 : decode cJ7_fill_53178 4 = .ok (.istore_n 3, 1) := by decide +kernel
theorem dJ7_fill_53178_5 : decode cJ7_fill_53178 5 = .ok (.iload_n 2, 1) := by decide +kernel
theorem dJ7_fill_53178_6 : decode cJ7_fill_53178 6 = .ok (.iload_n 3, 1) := by decide +kernel
theorem dJ7_fill_53178_7 : decode cJ7_fill_53178 7 = .ok (.if_icmp .ge 13, 3) := by decide +kernel
theorem dJ7_fill_53178_10 : decode cJ7_fill_53178 10 = .ok (.aload_n 0, 1) := by decide +kernel
theorem dJ7_fill_53178_11 : decode cJ7_fill_53178 11 = .ok (.iload_n 2, 1) := by decide +kernel
theorem dJ7_fill_53178_12 : decode cJ7_fill_53178 12 = .ok (.iload_n 1, 1) := by decide +kernel
theorem dJ7_fill_53178_13 : decode cJ7_fill_53178 13 = .ok (.iastore, 1) := by decide +kernel
theorem dJ7_fill_53178_14 : decode cJ7_fill_53178 14 = .ok (.iinc 2 1, 3) := by decide +kernel
theorem dJ7_fill_53178_17 : decode cJ7_fill_53178 17 = .ok (.goto (-12), 3) := by decide +kernel
theorem dJ7_fill_53178_20 : decode cJ7_fill_53178 20 = .ok (.return_, 1) := by decide +kernel
theorem dJ3_checkIndex_8e157_0 : decode cJ3_checkIndex_8e157 0 = .ok (.iload_n 0, 1) := by decide +kernel
theorem dJ3_checkIndex_8e157_1 : decode cJ3_checkIndex_8e157 1 = .ok (.ifCond .lt 8, 3) := by decide +kernel
theorem dJ3_checkIndex_8e157_4 : decode cJ3_checkIndex_8e157 4 = .ok (.iload_n 0, 1) := by decide +kernel
theorem dJ3_checkIndex_8e157_5 : decode cJ3_checkIndex_8e157 5 = .ok (.iload_n 1, 1) := by decide +kernel
theorem dJ3_checkIndex_8e157_6 : decode cJ3_checkIndex_8e157 6 = .ok (.if_icmp .lt 10, 3) := by decide +kernel
theorem dJ3_checkIndex_8e157_9 : decode cJ3_checkIndex_8e157 9 = .ok (.aload_n 2, 1) := by decide +kernel
theorem dJ3_checkIndex_8e157_10 : decode cJ3_checkIndex_8e157 10 = .ok (.iload_n 0, 1) := by decide +kernel
theorem dJ3_checkIndex_8e157_11 : decode cJ3_checkIndex_8e157 11 = .ok (.iload_n 1, 1) := by decide +kernel
theorem dJ3_checkIndex_8e157_12 : decode cJ3_checkIndex_8e157 12 = .ok (.invokestatic 95, 3) := by decide +kernel
theorem dJ3_checkIndex_8e157_15 : decode cJ3_checkIndex_8e157 15 = .ok (.athrow, 1) := by decide +kernel
theorem dJ3_checkIndex_8e157_16 : decode cJ3_checkIndex_8e157 16 = .ok (.iload_n 0, 1) := by decide +kernel
theorem dJ3_checkIndex_8e157_17 : decode cJ3_checkIndex_8e157 17 = .ok (.ireturn, 1) := by decide +kernel
