theorem dX5_kindSaid_12 : decode cX5_kindSaid 12 = .ok (.ldc 142, 2) := by decide +kernel
theorem dX5_kindSaid_14 : decode cX5_kindSaid 14 = .ok (.invokevirtual 98, 3) := by decide +kernel
theorem dX5_kindSaid_17 : decode cX5_kindSaid 17 = .ok (.ifCond .eq 5, 3) := by decide +kernel
theorem dX5_kindSaid_20 : decode cX5_kindSaid 20 = .ok (.iconst 1, 1) := by decide +kernel
theorem dX5_kindSaid_21 : decode cX5_kindSaid 21 = .ok (.ireturn, 1) := by decide +kernel
theorem dX5_kindSaid_22 : decode cX5_kindSaid 22 = .ok (.aload_n 0, 1) := by decide +kernel
theorem dX5_kindSaid_23 : decode cX5_kindSaid 23 = .ok (.ldc 144, 2) := by decide +kernel
theorem dX5_kindSaid_25 : decode cX5_kindSaid 25 = .ok (.invokevirtual 98, 3) := by decide +kernel
theorem dX5_kindSaid_28 : decode cX5_kindSaid 28 = .ok (.ifCond .eq 5, 3) := by decide +kernel
theorem dX5_kindSaid_31 : decode cX5_kindSaid 31 = .ok (.iconst 2, 1) := by decide +kernel
theorem dX5_kindSaid_32 : decode cX5_kindSaid 32 = .ok (.ireturn, 1) := by decide +kernel
theorem dX5_kindSaid_33 : decode cX5_kindSaid 33 = .ok (.aload_n 0, 1) := by decide +kernel
theorem dX5_kindSaid_34 : decode cX5_kindSaid 34 = .ok (.ldc 146, 2) := by decide +kernel
theorem dX5_kindSaid_36 : decode cX5_kindSaid 36 = .ok (.invokevirtual 98, 3) := by decide +kernel
theorem dX5_kindSaid_39 : decode cX5_kindSaid 39 = .ok (.ifCond .eq 7, 3) := by decide +kernel
theorem dX5_kindSaid_42 : decode cX5_kindSaid 42 = .ok (.iconst 3, 1) := by decide +kernel
theorem dX5_kindSaid_43 : decode cX5_kindSaid 43 = .ok (.goto 4, 3) := by decide +kernel
theorem dX5_kindSaid_46 : decode cX5_kindSaid 46 = .ok (.iconst (-1), 1) := by decide +kernel
theorem dX5_kindSaid_47 : decode cX5_kindSaid 47 = .ok (.ireturn, 1) := by decide +kernel
theorem dX5_readLine_0 : decode cX5_readLine 0 = .ok (.aload_n 0, 1) := by decide +kernel
theorem dX5_readLine_1 : decode cX5_readLine 1 = .ok (.ldc 102, 2) := by decide +kernel
theorem dX5_readLine_3 : decode cX5_readLine 3 = .ok (.invokevirtual 98, 3) := by decide +kernel
theorem dX5_readLine_6 : decode cX5_readLine 6 = .ok (.ifCond .eq 8, 3) := by decide +kernel
theorem dX5_readLine_9 : decode cX5_readLine 9 = .ok (.aload_n 0, 1) := by decide +kernel
theorem dX5_readLine_10 : decode cX5_readLine 10 = .ok (.invokevirtual 148, 3) := by decide +kernel
theorem dX5_readLine_13 : decode cX5_readLine 13 = .ok (.ireturn, 1) := by decide +kernel
theorem dX5_readLine_14 : decode cX5_readLine 14 = .ok (.aload_n 0, 1) := by decide +kernel
theorem dX5_readLine_15 : decode cX5_readLine 15 = .ok (.getfield 59, 3) := by decide +kernel
theorem dX5_readLine_18 : decode cX5_readLine 18 = .ok (.iconst 1, 1) := by decide +kernel
theorem dX5_readLine_19 : decode cX5_readLine 19 = .ok (.if_icmp .ne 10, 3) := by decide +kernel
theorem dX5_readLine_22 : decode cX5_readLine 22 = .ok (.aload_n 0, 1) := by decide +kernel
theorem dX5_readLine_23 : decode cX5_readLine 23 = .ok (.invokevirtual 117, 3) := by decide +kernel
theorem dX5_readLine_26 : decode cX5_readLine 26 = .ok (.ifCond .eq 9, 3) := by decide +kernel
theorem dX5_readLine_29 : decode cX5_readLine 29 = .ok (.aload_n 0, 1) := by decide +kernel
theorem dX5_readLine_30 : decode cX5_readLine 30 = .ok (.iconst 1, 1) := by decide +kernel
theorem dX5_readLine_31 : decode cX5_readLine 31 = .ok (.invokevirtual 62, 3) := by decide +kernel
theorem dX5_readLine_34 : decode cX5_readLine 34 = .ok (.ireturn, 1) := by decide +kernel
theorem dX5_readLine_35 : decode cX5_readLine 35 = .ok (.aload_n 0, 1) := by decide +kernel
theorem dX5_readLine_36 : decode cX5_readLine 36 = .ok (.getfield 45, 3) := by decide +kernel
theorem dX5_readLine_39 : decode cX5_readLine 39 = .ok (.ifCond .ne 10, 3) := by decide +kernel
theorem dX5_readLine_42 : decode cX5_readLine 42 = .ok (.aload_n 0, 1) := by decide +kernel
theorem dX5_readLine_43 : decode cX5_readLine 43 = .ok (.bipush 6, 2) := by decide +kernel
theorem dX5_readLine_45 : decode cX5_readLine 45 = .ok (.invokevirtual 62, 3) := by decide +kernel
theorem dX5_readLine_48 : decode cX5_readLine 48 = .ok (.ireturn, 1) := by decide +kernel
theorem dX5_readLine_49 : decode cX5_readLine 49 = .ok (.aload_n 0, 1) := by decide +kernel
theorem dX5_readLine_50 : decode cX5_readLine 50 = .ok (.invokevirtual 151, 3) := by decide +kernel
theorem dX5_readLine_53 : decode cX5_readLine 53 = .ok (.ifCond .eq 9, 3) := by decide +kernel
theorem dX5_readLine_56 : decode cX5_readLine 56 = .ok (.aload_n 0, 1) := by decide +kernel
theorem dX5_readLine_57 : decode cX5_readLine 57 = .ok (.iconst 5, 1) := by decide +kernel
theorem dX5_readLine_58 : decode cX5_readLine 58 = .ok (.invokevirtual 62, 3) := by decide +kernel
theorem dX5_readLine_61 : decode cX5_readLine 61 = .ok (.ireturn, 1) := by decide +kernel
theorem dX5_readLine_62 : decode cX5_readLine 62 = .ok (.aload_n 0, 1) := by decide +kernel
theorem dX5_readLine_63 : decode cX5_readLine 63 = .ok (.ldc 104, 2) := by decide +kernel
theorem dX5_readLine_65 : decode cX5_readLine 65 = .ok (.invokevirtual 98, 3) := by decide +kernel
theorem dX5_readLine_68 : decode cX5_readLine 68 = .ok (.ifCond .eq 8, 3) := by decide +kernel
theorem dX5_readLine_71 : decode cX5_readLine 71 = .ok (.aload_n 0, 1) := by decide +kernel
theorem dX5_readLine_72 : decode cX5_readLine 72 = .ok (.invokevirtual 154, 3) := by decide +kernel
theorem dX5_readLine_75 : decode cX5_readLine 75 = .ok (.ireturn, 1) := by decide +kernel
theorem dX5_readLine_76 : decode cX5_readLine 76 = .ok (.aload_n 0, 1) := by decide +kernel
theorem dX5_readLine_77 : decode cX5_readLine 77 = .ok (.ldc 106, 2) := by decide +kernel
theorem dX5_readLine_79 : decode cX5_readLine 79 = .ok (.invokevirtual 98, 3) := by decide +kernel
theorem dX5_readLine_82 : decode cX5_readLine 82 = .ok (.ifCond .eq 8, 3) := by decide +kernel
theorem dX5_readLine_85 : decode cX5_readLine 85 = .ok (.aload_n 0, 1) := by decide +kernel
theorem dX5_readLine_86 : decode cX5_readLine 86 = .ok (.invokevirtual 157, 3) := by decide +kernel
theorem dX5_readLine_89 : decode cX5_readLine 89 = .ok (.ireturn, 1) := by decide +kernel
theorem dX5_readLine_90 : decode cX5_readLine 90 = .ok (.aload_n 0, 1) := by decide +kernel
theorem dX5_readLine_91 : decode cX5_readLine 91 = .ok (.ldc 108, 2) := by decide +kernel
theorem dX5_readLine_93 : decode cX5_readLine 93 = .ok (.invokevirtual 98, 3) := by decide +kernel
theorem dX5_readLine_96 : decode cX5_readLine 96 = .ok (.ifCond .eq 8, 3) := by decide +kernel
theorem dX5_readLine_99 : decode cX5_readLine 99 = .ok (.aload_n 0, 1) := by decide +kernel
theorem dX5_readLine_100 : decode cX5_readLine 100 = .ok (.invokevirtual 160, 3) := by decide +kernel
theorem dX5_readLine_103 : decode cX5_readLine 103 = .ok (.ireturn, 1) := by decide +kernel
theorem dX5_readLine_104 : decode cX5_readLine 104 = .ok (.aload_n 0, 1) := by decide +kernel
theorem dX5_readLine_105 : decode cX5_readLine 105 = .ok (.ldc 110, 2) := by decide +kernel
theorem dX5_readLine_107 : decode cX5_readLine 107 = .ok (.invokevirtual 98, 3) := by decide +kernel
theorem dX5_readLine_110 : decode cX5_readLine 110 = .ok (.ifCond .eq 8, 3) := by decide +kernel
theorem dX5_readLine_113 : decode cX5_readLine 113 = .ok (.aload_n 0, 1) := by decide +kernel
theorem dX5_readLine_114 : decode cX5_readLine 114 = .ok (.invokevirtual 163, 3) := by decide +kernel
theorem dX5_readLine_117 : decode cX5_readLine 117 = .ok (.ireturn, 1) := by decide +kernel
theorem dX5_readLine_118 : decode cX5_readLine 118 = .ok (.aload_n 0, 1) := by decide +kernel
theorem dX5_readLine_119 : decode cX5_readLine 119 = .ok (.ldc 112, 2) := by decide +kernel
theorem dX5_readLine_121 : decode cX5_readLine 121 = .ok (.invokevirtual 98, 3) := by decide +kernel
theorem dX5_readLine_124 : decode cX5_readLine 124 = .ok (.ifCond .eq 10, 3) := by decide +kernel
theorem dX5_readLine_127 : decode cX5_readLine 127 = .ok (.aload_n 0, 1) := by decide +kernel
theorem dX5_readLine_128 : decode cX5_readLine 128 = .ok (.invokevirtual 166, 3) := by decide +kernel
theorem dX5_readLine_131 : decode cX5_readLine 131 = .ok (.goto 7, 3) := by decide +kernel
theorem dX5_readLine_134 : decode cX5_readLine 134 = .ok (.aload_n 0, 1) := by decide +kernel
theorem dX5_readLine_135 : decode cX5_readLine 135 = .ok (.invokevirtual 169, 3) := by decide +kernel
theorem dX5_readLine_138 : decode cX5_readLine 138 = .ok (.ireturn, 1) := by decide +kernel
theorem dX5_isMany_0 : decode cX5_isMany 0 = .ok (.aload_n 0, 1) := by decide +kernel
theorem dX5_isMany_1 : decode cX5_isMany 1 = .ok (.ldc 104, 2) := by decide +kernel
theorem dX5_isMany_3 : decode cX5_isMany 3 = .ok (.invokevirtual 98, 3) := by decide +kernel
theorem dX5_isMany_6 : decode cX5_isMany 6 = .ok (.ifCond .eq 20, 3) := by decide +kernel
theorem dX5_isMany_9 : decode cX5_isMany 9 = .ok (.aload_n 0, 1) := by decide +kernel
theorem dX5_isMany_10 : decode cX5_isMany 10 = .ok (.getfield 18, 3) := by decide +kernel
theorem dX5_isMany_13 : decode cX5_isMany 13 = .ok (.getfield 122, 3) := by decide +kernel
theorem dX5_isMany_16 : decode cX5_isMany 16 = .ok (.iconst 4, 1) := by decide +kernel
theorem dX5_isMany_17 : decode cX5_isMany 17 = .ok (.if_icmp .lt 7, 3) := by decide +kernel
theorem dX5_isMany_20 : decode cX5_isMany 20 = .ok (.iconst 1, 1) := by decide +kernel
theorem dX5_isMany_21 : decode cX5_isMany 21 = .ok (.goto 4, 3) := by decide +kernel
theorem dX5_isMany_24 : decode cX5_isMany 24 = .ok (.iconst 0, 1) := by decide +kernel
theorem dX5_isMany_25 : decode cX5_isMany 25 = .ok (.ireturn, 1) := by decide +kernel
theorem dX5_isMany_26 : decode cX5_isMany 26 = .ok (.aload_n 0, 1) := by decide +kernel
theorem dX5_isMany_27 : decode cX5_isMany 27 = .ok (.ldc 106, 2) := by decide +kernel
theorem dX5_isMany_29 : decode cX5_isMany 29 = .ok (.invokevirtual 98, 3) := by decide +kernel
theorem dX5_isMany_32 : decode cX5_isMany 32 = .ok (.ifCond .eq 21, 3) := by decide +kernel
theorem dX5_isMany_35 : decode cX5_isMany 35 = .ok (.aload_n 0, 1) := by decide +kernel
theorem dX5_isMany_36 : decode cX5_isMany 36 = .ok (.getfield 18, 3) := by decide +kernel
theorem dX5_isMany_39 : decode cX5_isMany 39 = .ok (.getfield 172, 3) := by decide +kernel
theorem dX5_isMany_42 : decode cX5_isMany 42 = .ok (.bipush 6, 2) := by decide +kernel
theorem dX5_isMany_44 : decode cX5_isMany 44 = .ok (.if_icmp .lt 7, 3) := by decide +kernel
theorem dX5_isMany_47 : decode cX5_isMany 47 = .ok (.iconst 1, 1) := by decide +kernel
theorem dX5_isMany_48 : decode cX5_isMany 48 = .ok (.goto 4, 3) := by decide +kernel
theorem dX5_isMany_51 : decode cX5_isMany 51 = .ok (.iconst 0, 1) := by decide +kernel
theorem dX5_isMany_52 : decode cX5_isMany 52 = .ok (.ireturn, 1) := by decide +kernel
theorem dX5_isMany_53 : decode cX5_isMany 53 = .ok (.aload_n 0, 1) := by decide +kernel
theorem dX5_isMany_54 : decode cX5_isMany 54 = .ok (.ldc 108, 2) := by decide +kernel
theorem dX5_isMany_56 : decode cX5_isMany 56 = .ok (.invokevirtual 98, 3) := by decide +kernel
theorem dX5_isMany_59 : decode cX5_isMany 59 = .ok (.ifCond .eq 20, 3) := by decide +kernel
theorem dX5_isMany_62 : decode cX5_isMany 62 = .ok (.aload_n 0, 1) := by decide +kernel
theorem dX5_isMany_63 : decode cX5_isMany 63 = .ok (.getfield 18, 3) := by decide +kernel
theorem dX5_isMany_66 : decode cX5_isMany 66 = .ok (.getfield 175, 3) := by decide +kernel
theorem dX5_isMany_69 : decode cX5_isMany 69 = .ok (.iconst 5, 1) := by decide +kernel
theorem dX5_isMany_70 : decode cX5_isMany 70 = .ok (.if_icmp .lt 7, 3) := by decide +kernel
theorem dX5_isMany_73 : decode cX5_isMany 73 = .ok (.iconst 1, 1) := by decide +kernel
theorem dX5_isMany_74 : decode cX5_isMany 74 = .ok (.goto 4, 3) := by decide +kernel
theorem dX5_isMany_77 : decode cX5_isMany 77 = .ok (.iconst 0, 1) := by decide +kernel
theorem dX5_isMany_78 : decode cX5_isMany 78 = .ok (.ireturn, 1) := by decide +kernel
theorem dX5_isMany_79 : decode cX5_isMany 79 = .ok (.aload_n 0, 1) := by decide +kernel
theorem dX5_isMany_80 : decode cX5_isMany 80 = .ok (.ldc 110, 2) := by decide +kernel
theorem dX5_isMany_82 : decode cX5_isMany 82 = .ok (.invokevirtual 98, 3) := by decide +kernel
theorem dX5_isMany_85 : decode cX5_isMany 85 = .ok (.ifCond .eq 21, 3) := by decide +kernel
theorem dX5_isMany_88 : decode cX5_isMany 88 = .ok (.aload_n 0, 1) := by decide +kernel
theorem dX5_isMany_89 : decode cX5_isMany 89 = .ok (.getfield 18, 3) := by decide +kernel
theorem dX5_isMany_92 : decode cX5_isMany 92 = .ok (.getfield 129, 3) := by decide +kernel
theorem dX5_isMany_95 : decode cX5_isMany 95 = .ok (.bipush 7, 2) := by decide +kernel
theorem dX5_isMany_97 : decode cX5_isMany 97 = .ok (.if_icmp .lt 7, 3) := by decide +kernel
theorem dX5_isMany_100 : decode cX5_isMany 100 = .ok (.iconst 1, 1) := by decide +kernel
theorem dX5_isMany_101 : decode cX5_isMany 101 = .ok (.goto 4, 3) := by decide +kernel
theorem dX5_isMany_104 : decode cX5_isMany 104 = .ok (.iconst 0, 1) := by decide +kernel
theorem dX5_isMany_105 : decode cX5_isMany 105 = .ok (.ireturn, 1) := by decide +kernel
theorem dX5_isMany_106 : decode cX5_isMany 106 = .ok (.aload_n 0, 1) := by decide +kernel
theorem dX5_isMany_107 : decode cX5_isMany 107 = .ok (.ldc 112, 2) := by decide +kernel
theorem dX5_isMany_109 : decode cX5_isMany 109 = .ok (.invokevirtual 98, 3) := by decide +kernel
theorem dX5_isMany_112 : decode cX5_isMany 112 = .ok (.ifCond .eq 26, 3) := by decide +kernel
theorem dX5_isMany_115 : decode cX5_isMany 115 = .ok (.aload_n 0, 1) := by decide +kernel
theorem dX5_isMany_116 : decode cX5_isMany 116 = .ok (.getfield 18, 3) := by decide +kernel
theorem dX5_isMany_119 : decode cX5_isMany 119 = .ok (.getfield 178, 3) := by decide +kernel
theorem dX5_isMany_122 : decode cX5_isMany 122 = .ok (.invokevirtual 182, 3) := by decide +kernel
theorem dX5_isMany_125 : decode cX5_isMany 125 = .ok (.bipush 6, 2) := by decide +kernel
theorem dX5_isMany_127 : decode cX5_isMany 127 = .ok (.if_icmp .lt 7, 3) := by decide +kernel
theorem dX5_isMany_130 : decode cX5_isMany 130 = .ok (.iconst 1, 1) := by decide +kernel
theorem dX5_isMany_131 : decode cX5_isMany 131 = .ok (.goto 24, 3) := by decide +kernel
theorem dX5_isMany_134 : decode cX5_isMany 134 = .ok (.iconst 0, 1) := by decide +kernel
theorem dX5_isMany_135 : decode cX5_isMany 135 = .ok (.goto 20, 3) := by decide +kernel
theorem dX5_isMany_138 : decode cX5_isMany 138 = .ok (.aload_n 0, 1) := by decide +kernel
theorem dX5_isMany_139 : decode cX5_isMany 139 = .ok (.getfield 18, 3) := by decide +kernel
theorem dX5_isMany_142 : decode cX5_isMany 142 = .ok (.getfield 187, 3) := by decide +kernel
theorem dX5_isMany_145 : decode cX5_isMany 145 = .ok (.bipush 6, 2) := by decide +kernel
theorem dX5_isMany_147 : decode cX5_isMany 147 = .ok (.if_icmp .lt 7, 3) := by decide +kernel
theorem dX5_isMany_150 : decode cX5_isMany 150 = .ok (.iconst 1, 1) := by decide +kernel
theorem dX5_isMany_151 : decode cX5_isMany 151 = .ok (.goto 4, 3) := by decide +kernel
theorem dX5_isMany_154 : decode cX5_isMany 154 = .ok (.iconst 0, 1) := by decide +kernel
theorem dX5_isMany_155 : decode cX5_isMany 155 = .ok (.ireturn, 1) := by decide +kernel
theorem dX5_readHouse_0 : decode cX5_readHouse 0 = .ok (.aload_n 0, 1) := by decide +kernel
theorem dX5_readHouse_1 : decode cX5_readHouse 1 = .ok (.getfield 45, 3) := by decide +kernel
theorem dX5_readHouse_4 : decode cX5_readHouse 4 = .ok (.ifCond .eq 9, 3) := by decide +kernel
theorem dX5_readHouse_7 : decode cX5_readHouse 7 = .ok (.aload_n 0, 1) := by decide +kernel
theorem dX5_readHouse_8 : decode cX5_readHouse 8 = .ok (.iconst 3, 1) := by decide +kernel
theorem dX5_readHouse_9 : decode cX5_readHouse 9 = .ok (.invokevirtual 62, 3) := by decide +kernel
theorem dX5_readHouse_12 : decode cX5_readHouse 12 = .ok (.ireturn, 1) := by decide +kernel
theorem dX5_readHouse_13 : decode cX5_readHouse 13 = .ok (.aload_n 0, 1) := by decide +kernel
theorem dX5_readHouse_14 : decode cX5_readHouse 14 = .ok (.invokevirtual 52, 3) := by decide +kernel
theorem dX5_readHouse_17 : decode cX5_readHouse 17 = .ok (.aload_n 0, 1) := by decide +kernel
theorem dX5_readHouse_18 : decode cX5_readHouse 18 = .ok (.ldc 138, 2) := by decide +kernel
theorem dX5_readHouse_20 : decode cX5_readHouse 20 = .ok (.invokevirtual 190, 3) := by decide +kernel
theorem dX5_readHouse_23 : decode cX5_readHouse 23 = .ok (.ifCond .ne 5, 3) := by decide +kernel
theorem dX5_readHouse_26 : decode cX5_readHouse 26 = .ok (.iconst 0, 1) := by decide +kernel
theorem dX5_readHouse_27 : decode cX5_readHouse 27 = .ok (.ireturn, 1) := by decide +kernel
theorem dX5_readHouse_28 : decode cX5_readHouse 28 = .ok (.aload_n 0, 1) := by decide +kernel
theorem dX5_readHouse_29 : decode cX5_readHouse 29 = .ok (.iconst 1, 1) := by decide +kernel
theorem dX5_readHouse_30 : decode cX5_readHouse 30 = .ok (.iconst 5, 1) := by decide +kernel
theorem dX5_readHouse_31 : decode cX5_readHouse 31 = .ok (.invokevirtual 193, 3) := by decide +kernel
theorem dX5_readHouse_34 : decode cX5_readHouse 34 = .ok (.istore_n 1, 1) := by decide +kernel
theorem dX5_readHouse_35 : decode cX5_readHouse 35 = .ok (.iload_n 1, 1) := by decide +kernel
theorem dX5_readHouse_36 : decode cX5_readHouse 36 = .ok (.ifCond .lt 12, 3) := by decide +kernel
theorem dX5_readHouse_39 : decode cX5_readHouse 39 = .ok (.aload_n 0, 1) := by decide +kernel
theorem dX5_readHouse_40 : decode cX5_readHouse 40 = .ok (.ldc 197, 2) := by decide +kernel
theorem dX5_readHouse_42 : decode cX5_readHouse 42 = .ok (.invokevirtual 190, 3) := by decide +kernel
theorem dX5_readHouse_45 : decode cX5_readHouse 45 = .ok (.ifCond .ne 5, 3) := by decide +kernel
theorem dX5_readHouse_48 : decode cX5_readHouse 48 = .ok (.iconst 0, 1) := by decide +kernel
theorem dX5_readHouse_49 : decode cX5_readHouse 49 = .ok (.ireturn, 1) := by decide +kernel
theorem dX5_readHouse_50 : decode cX5_readHouse 50 = .ok (.aload_n 0, 1) := by decide +kernel
theorem dX5_readHouse_51 : decode cX5_readHouse 51 = .ok (.iconst 0, 1) := by decide +kernel
theorem dX5_readHouse_52 : decode cX5_readHouse 52 = .ok (.bipush 100, 2) := by decide +kernel
theorem dX5_readHouse_54 : decode cX5_readHouse 54 = .ok (.invokevirtual 193, 3) := by decide +kernel
theorem dX5_readHouse_57 : decode cX5_readHouse 57 = .ok (.istore_n 2, 1) := by decide +kernel
theorem dX5_readHouse_58 : decode cX5_readHouse 58 = .ok (.iload_n 2, 1) := by decide +kernel
theorem dX5_readHouse_59 : decode cX5_readHouse 59 = .ok (.ifCond .ge 5, 3) := by decide +kernel
theorem dX5_readHouse_62 : decode cX5_readHouse 62 = .ok (.iconst 0, 1) := by decide +kernel
theorem dX5_readHouse_63 : decode cX5_readHouse 63 = .ok (.ireturn, 1) := by decide +kernel
theorem dX5_readHouse_64 : decode cX5_readHouse 64 = .ok (.aload_n 0, 1) := by decide +kernel
theorem dX5_readHouse_65 : decode cX5_readHouse 65 = .ok (.getfield 18, 3) := by decide +kernel
theorem dX5_readHouse_68 : decode cX5_readHouse 68 = .ok (.iload_n 1, 1) := by decide +kernel
theorem dX5_readHouse_69 : decode cX5_readHouse 69 = .ok (.putfield 199, 3) := by decide +kernel
theorem dX5_readHouse_72 : decode cX5_readHouse 72 = .ok (.aload_n 0, 1) := by decide +kernel
theorem dX5_readHouse_73 : decode cX5_readHouse 73 = .ok (.getfield 18, 3) := by decide +kernel
theorem dX5_readHouse_76 : decode cX5_readHouse 76 = .ok (.iload_n 2, 1) := by decide +kernel
theorem dX5_readHouse_77 : decode cX5_readHouse 77 = .ok (.putfield 201, 3) := by decide +kernel
theorem dX5_readHouse_80 : decode cX5_readHouse 80 = .ok (.aload_n 0, 1) := by decide +kernel
theorem dX5_readHouse_81 : decode cX5_readHouse 81 = .ok (.iconst 1, 1) := by decide +kernel
theorem dX5_readHouse_82 : decode cX5_readHouse 82 = .ok (.putfield 45, 3) := by decide +kernel
theorem dX5_readHouse_85 : decode cX5_readHouse 85 = .ok (.iconst 1, 1) := by decide +kernel
theorem dX5_readHouse_86 : decode cX5_readHouse 86 = .ok (.ireturn, 1) := by decide +kernel
theorem dX5_readRing_0 : decode cX5_readRing 0 = .ok (.aload_n 0, 1) := by decide +kernel
theorem dX5_readRing_1 : decode cX5_readRing 1 = .ok (.invokevirtual 52, 3) := by decide +kernel
theorem dX5_readRing_4 : decode cX5_readRing 4 = .ok (.aload_n 0, 1) := by decide +kernel
theorem dX5_readRing_5 : decode cX5_readRing 5 = .ok (.invokevirtual 203, 3) := by decide +kernel
theorem dX5_readRing_8 : decode cX5_readRing 8 = .ok (.lstore_n 1, 1) := by decide +kernel
theorem dX5_readRing_9 : decode cX5_readRing 9 = .ok (.lload_n 1, 1) := by decide +kernel
theorem dX5_readRing_10 : decode cX5_readRing 10 = .ok (.lconst 0, 1) := by decide +kernel
theorem dX5_readRing_11 : decode cX5_readRing 11 = .ok (.lcmp, 1) := by decide +kernel
theorem dX5_readRing_12 : decode cX5_readRing 12 = .ok (.ifCond .ge 5, 3) := by decide +kernel
theorem dX5_readRing_15 : decode cX5_readRing 15 = .ok (.iconst 0, 1) := by decide +kernel
theorem dX5_readRing_16 : decode cX5_readRing 16 = .ok (.ireturn, 1) := by decide +kernel
theorem dX5_readRing_17 : decode cX5_readRing 17 = .ok (.aload_n 0, 1) := by decide +kernel
theorem dX5_readRing_18 : decode cX5_readRing 18 = .ok (.aload_n 0, 1) := by decide +kernel
theorem dX5_readRing_19 : decode cX5_readRing 19 = .ok (.invokevirtual 207, 3) := by decide +kernel
theorem dX5_readRing_22 : decode cX5_readRing 22 = .ok (.invokevirtual 210, 3) := by decide +kernel
theorem dX5_readRing_25 : decode cX5_readRing 25 = .ok (.istore_n 3, 1) := by decide +kernel
theorem dX5_readRing_26 : decode cX5_readRing 26 = .ok (.iload_n 3, 1) := by decide +kernel
theorem dX5_readRing_27 : decode cX5_readRing 27 = .ok (.ifCond .lt 12, 3) := by decide +kernel
theorem dX5_readRing_30 : decode cX5_readRing 30 = .ok (.aload_n 0, 1) := by decide +kernel
theorem dX5_readRing_31 : decode cX5_readRing 31 = .ok (.ldc 213, 2) := by decide +kernel
theorem dX5_readRing_33 : decode cX5_readRing 33 = .ok (.invokevirtual 190, 3) := by decide +kernel
theorem dX5_readRing_36 : decode cX5_readRing 36 = .ok (.ifCond .ne 5, 3) := by decide +kernel
theorem dX5_readRing_39 : decode cX5_readRing 39 = .ok (.iconst 0, 1) := by decide +kernel
theorem dX5_readRing_40 : decode cX5_readRing 40 = .ok (.ireturn, 1) := by decide +kernel
theorem dX5_readRing_41 : decode cX5_readRing 41 = .ok (.aload_n 0, 1) := by decide +kernel
theorem dX5_readRing_42 : decode cX5_readRing 42 = .ok (.iconst 2, 1) := by decide +kernel
theorem dX5_readRing_43 : decode cX5_readRing 43 = .ok (.bipush 9, 2) := by decide +kernel
theorem dX5_readRing_45 : decode cX5_readRing 45 = .ok (.invokevirtual 193, 3) := by decide +kernel
theorem dX5_readRing_48 : decode cX5_readRing 48 = .ok (.istore 4, 2) := by decide +kernel
theorem dX5_readRing_50 : decode cX5_readRing 50 = .ok (.iload 4, 2) := by decide +kernel
theorem dX5_readRing_52 : decode cX5_readRing 52 = .ok (.ifCond .lt 24, 3) := by decide +kernel
theorem dX5_readRing_55 : decode cX5_readRing 55 = .ok (.aload_n 0, 1) := by decide +kernel
theorem dX5_readRing_56 : decode cX5_readRing 56 = .ok (.getfield 18, 3) := by decide +kernel
theorem dX5_readRing_59 : decode cX5_readRing 59 = .ok (.getfield 122, 3) := by decide +kernel
theorem dX5_readRing_62 : decode cX5_readRing 62 = .ok (.ifCond .lt 14, 3) := by decide +kernel
theorem dX5_readRing_65 : decode cX5_readRing 65 = .ok (.aload_n 0, 1) := by decide +kernel
theorem dX5_readRing_66 : decode cX5_readRing 66 = .ok (.getfield 18, 3) := by decide +kernel
theorem dX5_readRing_69 : decode cX5_readRing 69 = .ok (.getfield 122, 3) := by decide +kernel
theorem dX5_readRing_72 : decode cX5_readRing 72 = .ok (.iconst 4, 1) := by decide +kernel
theorem dX5_readRing_73 : decode cX5_readRing 73 = .ok (.if_icmp .lt 5, 3) := by decide +kernel
theorem dX5_readRing_76 : decode cX5_readRing 76 = .ok (.iconst 0, 1) := by decide +kernel
theorem dX5_readRing_77 : decode cX5_readRing 77 = .ok (.ireturn, 1) := by decide +kernel
theorem dX5_readRing_78 : decode cX5_readRing 78 = .ok (.aload_n 0, 1) := by decide +kernel
theorem dX5_readRing_79 : decode cX5_readRing 79 = .ok (.getfield 22, 3) := by decide +kernel
theorem dX5_readRing_82 : decode cX5_readRing 82 = .ok (.aload_n 0, 1) := by decide +kernel
theorem dX5_readRing_83 : decode cX5_readRing 83 = .ok (.getfield 18, 3) := by decide +kernel
theorem dX5_readRing_86 : decode cX5_readRing 86 = .ok (.getfield 122, 3) := by decide +kernel
theorem dX5_readRing_89 : decode cX5_readRing 89 = .ok (.lload_n 1, 1) := by decide +kernel
theorem dX5_readRing_90 : decode cX5_readRing 90 = .ok (.lastore, 1) := by decide +kernel
theorem dX5_readRing_91 : decode cX5_readRing 91 = .ok (.aload_n 0, 1) := by decide +kernel
theorem dX5_readRing_92 : decode cX5_readRing 92 = .ok (.getfield 18, 3) := by decide +kernel
theorem dX5_readRing_95 : decode cX5_readRing 95 = .ok (.iload_n 3, 1) := by decide +kernel
theorem dX5_readRing_96 : decode cX5_readRing 96 = .ok (.iload 4, 2) := by decide +kernel
theorem dX5_readRing_98 : decode cX5_readRing 98 = .ok (.invokevirtual 215, 3) := by decide +kernel
theorem dX5_readRing_101 : decode cX5_readRing 101 = .ok (.iconst 1, 1) := by decide +kernel
theorem dX5_readRing_102 : decode cX5_readRing 102 = .ok (.ireturn, 1) := by decide +kernel
theorem dX5_readNarrow_0 : decode cX5_readNarrow 0 = .ok (.aload_n 0, 1) := by decide +kernel
theorem dX5_readNarrow_1 : decode cX5_readNarrow 1 = .ok (.invokevirtual 52, 3) := by decide +kernel
theorem dX5_readNarrow_4 : decode cX5_readNarrow 4 = .ok (.aload_n 0, 1) := by decide +kernel
theorem dX5_readNarrow_5 : decode cX5_readNarrow 5 = .ok (.aload_n 0, 1) := by decide +kernel
theorem dX5_readNarrow_6 : decode cX5_readNarrow 6 = .ok (.getfield 22, 3) := by decide +kernel
theorem dX5_readNarrow_9 : decode cX5_readNarrow 9 = .ok (.aload_n 0, 1) := by decide +kernel
theorem dX5_readNarrow_10 : decode cX5_readNarrow 10 = .ok (.getfield 18, 3) := by decide +kernel
theorem dX5_readNarrow_13 : decode cX5_readNarrow 13 = .ok (.getfield 122, 3) := by decide +kernel
theorem dX5_readNarrow_16 : decode cX5_readNarrow 16 = .ok (.invokevirtual 219, 3) := by decide +kernel
theorem dX5_readNarrow_19 : decode cX5_readNarrow 19 = .ok (.istore_n 1, 1) := by decide +kernel
theorem dX5_readNarrow_20 : decode cX5_readNarrow 20 = .ok (.iload_n 1, 1) := by decide +kernel
theorem dX5_readNarrow_21 : decode cX5_readNarrow 21 = .ok (.ifCond .lt 21, 3) := by decide +kernel
theorem dX5_readNarrow_24 : decode cX5_readNarrow 24 = .ok (.aload_n 0, 1) := by decide +kernel
theorem dX5_readNarrow_25 : decode cX5_readNarrow 25 = .ok (.iconst 0, 1) := by decide +kernel
theorem dX5_readNarrow_26 : decode cX5_readNarrow 26 = .ok (.aload_n 0, 1) := by decide +kernel
theorem dX5_readNarrow_27 : decode cX5_readNarrow 27 = .ok (.getfield 18, 3) := by decide +kernel
theorem dX5_readNarrow_30 : decode cX5_readNarrow 30 = .ok (.iload_n 1, 1) := by decide +kernel
theorem dX5_readNarrow_31 : decode cX5_readNarrow 31 = .ok (.invokevirtual 223, 3) := by decide +kernel
theorem dX5_readNarrow_34 : decode cX5_readNarrow 34 = .ok (.iconst 1, 1) := by decide +kernel
theorem dX5_readNarrow_35 : decode cX5_readNarrow 35 = .ok (.isub, 1) := by decide +kernel
theorem dX5_readNarrow_36 : decode cX5_readNarrow 36 = .ok (.invokevirtual 132, 3) := by decide +kernel
theorem dX5_readNarrow_39 : decode cX5_readNarrow 39 = .ok (.ifCond .ne 5, 3) := by decide +kernel
theorem dX5_readNarrow_42 : decode cX5_readNarrow 42 = .ok (.iconst 0, 1) := by decide +kernel
theorem dX5_readNarrow_43 : decode cX5_readNarrow 43 = .ok (.ireturn, 1) := by decide +kernel
theorem dX5_readNarrow_44 : decode cX5_readNarrow 44 = .ok (.iload_n 1, 1) := by decide +kernel
theorem dX5_readNarrow_45 : decode cX5_readNarrow 45 = .ok (.aload_n 0, 1) := by decide +kernel
theorem dX5_readNarrow_46 : decode cX5_readNarrow 46 = .ok (.getfield 85, 3) := by decide +kernel
theorem dX5_readNarrow_49 : decode cX5_readNarrow 49 = .ok (.invokestatic 226, 3) := by decide +kernel
theorem dX5_readNarrow_52 : decode cX5_readNarrow 52 = .ok (.istore_n 2, 1) := by decide +kernel
theorem dX5_readNarrow_53 : decode cX5_readNarrow 53 = .ok (.aload_n 0, 1) := by decide +kernel
theorem dX5_readNarrow_54 : decode cX5_readNarrow 54 = .ok (.getfield 18, 3) := by decide +kernel
theorem dX5_readNarrow_57 : decode cX5_readNarrow 57 = .ok (.iload_n 2, 1) := by decide +kernel
theorem dX5_readNarrow_58 : decode cX5_readNarrow 58 = .ok (.invokevirtual 229, 3) := by decide +kernel
theorem dX5_readNarrow_61 : decode cX5_readNarrow 61 = .ok (.bipush 10, 2) := by decide +kernel
theorem dX5_readNarrow_63 : decode cX5_readNarrow 63 = .ok (.if_icmp .eq 9, 3) := by decide +kernel
theorem dX5_readNarrow_66 : decode cX5_readNarrow 66 = .ok (.aload_n 0, 1) := by decide +kernel
theorem dX5_readNarrow_67 : decode cX5_readNarrow 67 = .ok (.iconst 3, 1) := by decide +kernel
theorem dX5_readNarrow_68 : decode cX5_readNarrow 68 = .ok (.invokevirtual 62, 3) := by decide +kernel
theorem dX5_readNarrow_71 : decode cX5_readNarrow 71 = .ok (.ireturn, 1) := by decide +kernel
theorem dX5_readNarrow_72 : decode cX5_readNarrow 72 = .ok (.aload_n 0, 1) := by decide +kernel
theorem dX5_readNarrow_73 : decode cX5_readNarrow 73 = .ok (.invokevirtual 52, 3) := by decide +kernel
theorem dX5_readNarrow_76 : decode cX5_readNarrow 76 = .ok (.aload_n 0, 1) := by decide +kernel
theorem dX5_readNarrow_77 : decode cX5_readNarrow 77 = .ok (.ldc 232, 2) := by decide +kernel
theorem dX5_readNarrow_79 : decode cX5_readNarrow 79 = .ok (.invokevirtual 190, 3) := by decide +kernel
theorem dX5_readNarrow_82 : decode cX5_readNarrow 82 = .ok (.ifCond .ne 5, 3) := by decide +kernel
theorem dX5_readNarrow_85 : decode cX5_readNarrow 85 = .ok (.iconst 0, 1) := by decide +kernel
theorem dX5_readNarrow_86 : decode cX5_readNarrow 86 = .ok (.ireturn, 1) := by decide +kernel
theorem dX5_readNarrow_87 : decode cX5_readNarrow 87 = .ok (.aload_n 0, 1) := by decide +kernel
theorem dX5_readNarrow_88 : decode cX5_readNarrow 88 = .ok (.iconst 0, 1) := by decide +kernel
theorem dX5_readNarrow_89 : decode cX5_readNarrow 89 = .ok (.bipush 9, 2) := by decide +kernel
theorem dX5_readNarrow_91 : decode cX5_readNarrow 91 = .ok (.invokevirtual 193, 3) := by decide +kernel
theorem dX5_readNarrow_94 : decode cX5_readNarrow 94 = .ok (.istore_n 3, 1) := by decide +kernel
theorem dX5_readNarrow_95 : decode cX5_readNarrow 95 = .ok (.iload_n 3, 1) := by decide +kernel
theorem dX5_readNarrow_96 : decode cX5_readNarrow 96 = .ok (.ifCond .ge 5, 3) := by decide +kernel
theorem dX5_readNarrow_99 : decode cX5_readNarrow 99 = .ok (.iconst 0, 1) := by decide +kernel
theorem dX5_readNarrow_100 : decode cX5_readNarrow 100 = .ok (.ireturn, 1) := by decide +kernel
theorem dX5_readNarrow_101 : decode cX5_readNarrow 101 = .ok (.aload_n 0, 1) := by decide +kernel
theorem dX5_readNarrow_102 : decode cX5_readNarrow 102 = .ok (.getfield 18, 3) := by decide +kernel
theorem dX5_readNarrow_105 : decode cX5_readNarrow 105 = .ok (.iload_n 2, 1) := by decide +kernel
theorem dX5_readNarrow_106 : decode cX5_readNarrow 106 = .ok (.iload_n 3, 1) := by decide +kernel
theorem dX5_readNarrow_107 : decode cX5_readNarrow 107 = .ok (.invokevirtual 234, 3) := by decide +kernel
theorem dX5_readNarrow_110 : decode cX5_readNarrow 110 = .ok (.iconst 1, 1) := by decide +kernel
theorem dX5_readNarrow_111 : decode cX5_readNarrow 111 = .ok (.ireturn, 1) := by decide +kernel
theorem dX5_readDoor_0 : decode cX5_readDoor 0 = .ok (.aload_n 0, 1) := by decide +kernel
theorem dX5_readDoor_1 : decode cX5_readDoor 1 = .ok (.invokevirtual 52, 3) := by decide +kernel
theorem dX5_readDoor_4 : decode cX5_readDoor 4 = .ok (.aload_n 0, 1) := by decide +kernel
theorem dX5_readDoor_5 : decode cX5_readDoor 5 = .ok (.aload_n 0, 1) := by decide +kernel
theorem dX5_readDoor_6 : decode cX5_readDoor 6 = .ok (.getfield 22, 3) := by decide +kernel
theorem dX5_readDoor_9 : decode cX5_readDoor 9 = .ok (.aload_n 0, 1) := by decide +kernel
theorem dX5_readDoor_10 : decode cX5_readDoor 10 = .ok (.getfield 18, 3) := by decide +kernel
theorem dX5_readDoor_13 : decode cX5_readDoor 13 = .ok (.getfield 122, 3) := by decide +kernel
theorem dX5_readDoor_16 : decode cX5_readDoor 16 = .ok (.invokevirtual 219, 3) := by decide +kernel
theorem dX5_readDoor_19 : decode cX5_readDoor 19 = .ok (.istore_n 1, 1) := by decide +kernel
theorem dX5_readDoor_20 : decode cX5_readDoor 20 = .ok (.iload_n 1, 1) := by decide +kernel
theorem dX5_readDoor_21 : decode cX5_readDoor 21 = .ok (.ifCond .ge 5, 3) := by decide +kernel
theorem dX5_readDoor_24 : decode cX5_readDoor 24 = .ok (.iconst 0, 1) := by decide +kernel
theorem dX5_readDoor_25 : decode cX5_readDoor 25 = .ok (.ireturn, 1) := by decide +kernel
theorem dX5_readDoor_26 : decode cX5_readDoor 26 = .ok (.aload_n 0, 1) := by decide +kernel
theorem dX5_readDoor_27 : decode cX5_readDoor 27 = .ok (.iconst 0, 1) := by decide +kernel
theorem dX5_readDoor_28 : decode cX5_readDoor 28 = .ok (.aload_n 0, 1) := by decide +kernel
theorem dX5_readDoor_29 : decode cX5_readDoor 29 = .ok (.getfield 18, 3) := by decide +kernel
theorem dX5_readDoor_32 : decode cX5_readDoor 32 = .ok (.iload_n 1, 1) := by decide +kernel
theorem dX5_readDoor_33 : decode cX5_readDoor 33 = .ok (.invokevirtual 223, 3) := by decide +kernel
theorem dX5_readDoor_36 : decode cX5_readDoor 36 = .ok (.iconst 1, 1) := by decide +kernel
theorem dX5_readDoor_37 : decode cX5_readDoor 37 = .ok (.isub, 1) := by decide +kernel
theorem dX5_readDoor_38 : decode cX5_readDoor 38 = .ok (.invokevirtual 193, 3) := by decide +kernel
theorem dX5_readDoor_41 : decode cX5_readDoor 41 = .ok (.istore_n 2, 1) := by decide +kernel
theorem dX5_readDoor_42 : decode cX5_readDoor 42 = .ok (.iload_n 2, 1) := by decide +kernel
theorem dX5_readDoor_43 : decode cX5_readDoor 43 = .ok (.ifCond .ge 5, 3) := by decide +kernel
theorem dX5_readDoor_46 : decode cX5_readDoor 46 = .ok (.iconst 0, 1) := by decide +kernel
theorem dX5_readDoor_47 : decode cX5_readDoor 47 = .ok (.ireturn, 1) := by decide +kernel
theorem dX5_readDoor_48 : decode cX5_readDoor 48 = .ok (.iload_n 1, 1) := by decide +kernel
theorem dX5_readDoor_49 : decode cX5_readDoor 49 = .ok (.iload_n 2, 1) := by decide +kernel
theorem dX5_readDoor_50 : decode cX5_readDoor 50 = .ok (.invokestatic 226, 3) := by decide +kernel
theorem dX5_readDoor_53 : decode cX5_readDoor 53 = .ok (.istore_n 3, 1) := by decide +kernel
theorem dX5_readDoor_54 : decode cX5_readDoor 54 = .ok (.aload_n 0, 1) := by decide +kernel
theorem dX5_readDoor_55 : decode cX5_readDoor 55 = .ok (.aload_n 0, 1) := by decide +kernel
theorem dX5_readDoor_56 : decode cX5_readDoor 56 = .ok (.getfield 22, 3) := by decide +kernel
theorem dX5_readDoor_59 : decode cX5_readDoor 59 = .ok (.aload_n 0, 1) := by decide +kernel
theorem dX5_readDoor_60 : decode cX5_readDoor 60 = .ok (.getfield 18, 3) := by decide +kernel
theorem dX5_readDoor_63 : decode cX5_readDoor 63 = .ok (.getfield 122, 3) := by decide +kernel
theorem dX5_readDoor_66 : decode cX5_readDoor 66 = .ok (.invokevirtual 219, 3) := by decide +kernel
theorem dX5_readDoor_69 : decode cX5_readDoor 69 = .ok (.istore_n 1, 1) := by decide +kernel
theorem dX5_readDoor_70 : decode cX5_readDoor 70 = .ok (.iload_n 1, 1) := by decide +kernel
theorem dX5_readDoor_71 : decode cX5_readDoor 71 = .ok (.ifCond .lt 21, 3) := by decide +kernel
theorem dX5_readDoor_74 : decode cX5_readDoor 74 = .ok (.aload_n 0, 1) := by decide +kernel
theorem dX5_readDoor_75 : decode cX5_readDoor 75 = .ok (.iconst 0, 1) := by decide +kernel
theorem dX5_readDoor_76 : decode cX5_readDoor 76 = .ok (.aload_n 0, 1) := by decide +kernel
theorem dX5_readDoor_77 : decode cX5_readDoor 77 = .ok (.getfield 18, 3) := by decide +kernel
theorem dX5_readDoor_80 : decode cX5_readDoor 80 = .ok (.iload_n 1, 1) := by decide +kernel
theorem dX5_readDoor_81 : decode cX5_readDoor 81 = .ok (.invokevirtual 223, 3) := by decide +kernel
theorem dX5_readDoor_84 : decode cX5_readDoor 84 = .ok (.iconst 1, 1) := by decide +kernel
theorem dX5_readDoor_85 : decode cX5_readDoor 85 = .ok (.isub, 1) := by decide +kernel
theorem dX5_readDoor_86 : decode cX5_readDoor 86 = .ok (.invokevirtual 132, 3) := by decide +kernel
theorem dX5_readDoor_89 : decode cX5_readDoor 89 = .ok (.ifCond .ne 5, 3) := by decide +kernel
theorem dX5_readDoor_92 : decode cX5_readDoor 92 = .ok (.iconst 0, 1) := by decide +kernel
theorem dX5_readDoor_93 : decode cX5_readDoor 93 = .ok (.ireturn, 1) := by decide +kernel
theorem dX5_readDoor_94 : decode cX5_readDoor 94 = .ok (.iload_n 1, 1) := by decide +kernel
theorem dX5_readDoor_95 : decode cX5_readDoor 95 = .ok (.aload_n 0, 1) := by decide +kernel
theorem dX5_readDoor_96 : decode cX5_readDoor 96 = .ok (.getfield 85, 3) := by decide +kernel
theorem dX5_readDoor_99 : decode cX5_readDoor 99 = .ok (.invokestatic 226, 3) := by decide +kernel
theorem dX5_readDoor_102 : decode cX5_readDoor 102 = .ok (.istore 4, 2) := by decide +kernel
theorem dX5_readDoor_104 : decode cX5_readDoor 104 = .ok (.iload_n 3, 1) := by decide +kernel
theorem dX5_readDoor_105 : decode cX5_readDoor 105 = .ok (.iload 4, 2) := by decide +kernel
theorem dX5_readDoor_107 : decode cX5_readDoor 107 = .ok (.if_icmp .eq 16, 3) := by decide +kernel
theorem dX5_readDoor_110 : decode cX5_readDoor 110 = .ok (.aload_n 0, 1) := by decide +kernel
theorem dX5_readDoor_111 : decode cX5_readDoor 111 = .ok (.getfield 18, 3) := by decide +kernel
theorem dX5_readDoor_114 : decode cX5_readDoor 114 = .ok (.iload_n 3, 1) := by decide +kernel
theorem dX5_readDoor_115 : decode cX5_readDoor 115 = .ok (.iload 4, 2) := by decide +kernel
theorem dX5_readDoor_117 : decode cX5_readDoor 117 = .ok (.invokevirtual 237, 3) := by decide +kernel
theorem dX5_readDoor_120 : decode cX5_readDoor 120 = .ok (.ifCond .eq 9, 3) := by decide +kernel
theorem dX5_readDoor_123 : decode cX5_readDoor 123 = .ok (.aload_n 0, 1) := by decide +kernel
theorem dX5_readDoor_124 : decode cX5_readDoor 124 = .ok (.iconst 3, 1) := by decide +kernel
theorem dX5_readDoor_125 : decode cX5_readDoor 125 = .ok (.invokevirtual 62, 3) := by decide +kernel
theorem dX5_readDoor_128 : decode cX5_readDoor 128 = .ok (.ireturn, 1) := by decide +kernel
theorem dX5_readDoor_129 : decode cX5_readDoor 129 = .ok (.aload_n 0, 1) := by decide +kernel
theorem dX5_readDoor_130 : decode cX5_readDoor 130 = .ok (.invokevirtual 52, 3) := by decide +kernel
theorem dX5_readDoor_133 : decode cX5_readDoor 133 = .ok (.aload_n 0, 1) := by decide +kernel
theorem dX5_readDoor_134 : decode cX5_readDoor 134 = .ok (.getfield 18, 3) := by decide +kernel
theorem dX5_readDoor_137 : decode cX5_readDoor 137 = .ok (.iload_n 3, 1) := by decide +kernel
theorem dX5_readDoor_138 : decode cX5_readDoor 138 = .ok (.iload 4, 2) := by decide +kernel
theorem dX5_readDoor_140 : decode cX5_readDoor 140 = .ok (.invokevirtual 240, 3) := by decide +kernel
theorem dX5_readDoor_143 : decode cX5_readDoor 143 = .ok (.iconst 1, 1) := by decide +kernel
theorem dX5_readDoor_144 : decode cX5_readDoor 144 = .ok (.ireturn, 1) := by decide +kernel
theorem dX5_readThing_0 : decode cX5_readThing 0 = .ok (.aload_n 0, 1) := by decide +kernel
theorem dX5_readThing_1 : decode cX5_readThing 1 = .ok (.invokevirtual 52, 3) := by decide +kernel
theorem dX5_readThing_4 : decode cX5_readThing 4 = .ok (.aload_n 0, 1) := by decide +kernel
theorem dX5_readThing_5 : decode cX5_readThing 5 = .ok (.invokevirtual 203, 3) := by decide +kernel
theorem dX5_readThing_8 : decode cX5_readThing 8 = .ok (.lstore_n 1, 1) := by decide +kernel
theorem dX5_readThing_9 : decode cX5_readThing 9 = .ok (.lload_n 1, 1) := by decide +kernel
theorem dX5_readThing_10 : decode cX5_readThing 10 = .ok (.lconst 0, 1) := by decide +kernel
theorem dX5_readThing_11 : decode cX5_readThing 11 = .ok (.lcmp, 1) := by decide +kernel
theorem dX5_readThing_12 : decode cX5_readThing 12 = .ok (.ifCond .ge 5, 3) := by decide +kernel
theorem dX5_readThing_15 : decode cX5_readThing 15 = .ok (.iconst 0, 1) := by decide +kernel
theorem dX5_readThing_16 : decode cX5_readThing 16 = .ok (.ireturn, 1) := by decide +kernel
theorem dX5_readThing_17 : decode cX5_readThing 17 = .ok (.aload_n 0, 1) := by decide +kernel
theorem dX5_readThing_18 : decode cX5_readThing 18 = .ok (.aload_n 0, 1) := by decide +kernel
theorem dX5_readThing_19 : decode cX5_readThing 19 = .ok (.invokevirtual 243, 3) := by decide +kernel
theorem dX5_readThing_22 : decode cX5_readThing 22 = .ok (.invokevirtual 210, 3) := by decide +kernel
theorem dX5_readThing_25 : decode cX5_readThing 25 = .ok (.istore_n 3, 1) := by decide +kernel
theorem dX5_readThing_26 : decode cX5_readThing 26 = .ok (.iload_n 3, 1) := by decide +kernel
theorem dX5_readThing_27 : decode cX5_readThing 27 = .ok (.ifCond .lt 12, 3) := by decide +kernel
theorem dX5_readThing_30 : decode cX5_readThing 30 = .ok (.aload_n 0, 1) := by decide +kernel
theorem dX5_readThing_31 : decode cX5_readThing 31 = .ok (.ldc 246, 2) := by decide +kernel
theorem dX5_readThing_33 : decode cX5_readThing 33 = .ok (.invokevirtual 190, 3) := by decide +kernel
theorem dX5_readThing_36 : decode cX5_readThing 36 = .ok (.ifCond .ne 5, 3) := by decide +kernel
theorem dX5_readThing_39 : decode cX5_readThing 39 = .ok (.iconst 0, 1) := by decide +kernel
theorem dX5_readThing_40 : decode cX5_readThing 40 = .ok (.ireturn, 1) := by decide +kernel
theorem dX5_readThing_41 : decode cX5_readThing 41 = .ok (.aload_n 0, 1) := by decide +kernel
theorem dX5_readThing_42 : decode cX5_readThing 42 = .ok (.aload_n 0, 1) := by decide +kernel
theorem dX5_readThing_43 : decode cX5_readThing 43 = .ok (.getfield 22, 3) := by decide +kernel
theorem dX5_readThing_46 : decode cX5_readThing 46 = .ok (.aload_n 0, 1) := by decide +kernel
theorem dX5_readThing_47 : decode cX5_readThing 47 = .ok (.getfield 18, 3) := by decide +kernel
theorem dX5_readThing_50 : decode cX5_readThing 50 = .ok (.getfield 122, 3) := by decide +kernel
theorem dX5_readThing_53 : decode cX5_readThing 53 = .ok (.invokevirtual 219, 3) := by decide +kernel
theorem dX5_readThing_56 : decode cX5_readThing 56 = .ok (.istore 4, 2) := by decide +kernel
theorem dX5_readThing_58 : decode cX5_readThing 58 = .ok (.iload 4, 2) := by decide +kernel
theorem dX5_readThing_60 : decode cX5_readThing 60 = .ok (.ifCond .lt 31, 3) := by decide +kernel
theorem dX5_readThing_63 : decode cX5_readThing 63 = .ok (.aload_n 0, 1) := by decide +kernel
theorem dX5_readThing_64 : decode cX5_readThing 64 = .ok (.ldc 248, 2) := by decide +kernel
theorem dX5_readThing_66 : decode cX5_readThing 66 = .ok (.invokevirtual 190, 3) := by decide +kernel
theorem dX5_readThing_69 : decode cX5_readThing 69 = .ok (.ifCond .eq 22, 3) := by decide +kernel
theorem dX5_readThing_72 : decode cX5_readThing 72 = .ok (.aload_n 0, 1) := by decide +kernel
theorem dX5_readThing_73 : decode cX5_readThing 73 = .ok (.iconst 0, 1) := by decide +kernel
theorem dX5_readThing_74 : decode cX5_readThing 74 = .ok (.aload_n 0, 1) := by decide +kernel
theorem dX5_readThing_75 : decode cX5_readThing 75 = .ok (.getfield 18, 3) := by decide +kernel
theorem dX5_readThing_78 : decode cX5_readThing 78 = .ok (.iload 4, 2) := by decide +kernel
theorem dX5_readThing_80 : decode cX5_readThing 80 = .ok (.invokevirtual 223, 3) := by decide +kernel
theorem dX5_readThing_83 : decode cX5_readThing 83 = .ok (.iconst 1, 1) := by decide +kernel
theorem dX5_readThing_84 : decode cX5_readThing 84 = .ok (.isub, 1) := by decide +kernel
theorem dX5_readThing_85 : decode cX5_readThing 85 = .ok (.invokevirtual 132, 3) := by decide +kernel
theorem dX5_readThing_88 : decode cX5_readThing 88 = .ok (.ifCond .ne 5, 3) := by decide +kernel
theorem dX5_readThing_91 : decode cX5_readThing 91 = .ok (.iconst 0, 1) := by decide +kernel
theorem dX5_readThing_92 : decode cX5_readThing 92 = .ok (.ireturn, 1) := by decide +kernel
theorem dX5_readThing_93 : decode cX5_readThing 93 = .ok (.iload 4, 2) := by decide +kernel
theorem dX5_readThing_95 : decode cX5_readThing 95 = .ok (.aload_n 0, 1) := by decide +kernel
theorem dX5_readThing_96 : decode cX5_readThing 96 = .ok (.getfield 85, 3) := by decide +kernel
theorem dX5_readThing_99 : decode cX5_readThing 99 = .ok (.invokestatic 226, 3) := by decide +kernel
theorem dX5_readThing_102 : decode cX5_readThing 102 = .ok (.istore 5, 2) := by decide +kernel
theorem dX5_readThing_104 : decode cX5_readThing 104 = .ok (.aload_n 0, 1) := by decide +kernel
theorem dX5_readThing_105 : decode cX5_readThing 105 = .ok (.getfield 18, 3) := by decide +kernel
theorem dX5_readThing_108 : decode cX5_readThing 108 = .ok (.iload 5, 2) := by decide +kernel
theorem dX5_readThing_110 : decode cX5_readThing 110 = .ok (.invokevirtual 250, 3) := by decide +kernel
theorem dX5_readThing_113 : decode cX5_readThing 113 = .ok (.ifCond .eq 9, 3) := by decide +kernel
theorem dX5_readThing_116 : decode cX5_readThing 116 = .ok (.aload_n 0, 1) := by decide +kernel
theorem dX5_readThing_117 : decode cX5_readThing 117 = .ok (.iconst 3, 1) := by decide +kernel
theorem dX5_readThing_118 : decode cX5_readThing 118 = .ok (.invokevirtual 62, 3) := by decide +kernel
theorem dX5_readThing_121 : decode cX5_readThing 121 = .ok (.ireturn, 1) := by decide +kernel
theorem dX5_readThing_122 : decode cX5_readThing 122 = .ok (.aload_n 0, 1) := by decide +kernel
theorem dX5_readThing_123 : decode cX5_readThing 123 = .ok (.invokevirtual 52, 3) := by decide +kernel
theorem dX5_readThing_126 : decode cX5_readThing 126 = .ok (.aload_n 0, 1) := by decide +kernel
theorem dX5_readThing_127 : decode cX5_readThing 127 = .ok (.ldc 253, 2) := by decide +kernel
theorem dX5_readThing_129 : decode cX5_readThing 129 = .ok (.invokevirtual 190, 3) := by decide +kernel
theorem dX5_readThing_132 : decode cX5_readThing 132 = .ok (.ifCond .ne 5, 3) := by decide +kernel
theorem dX5_readThing_135 : decode cX5_readThing 135 = .ok (.iconst 0, 1) := by decide +kernel
theorem dX5_readThing_136 : decode cX5_readThing 136 = .ok (.ireturn, 1) := by decide +kernel
theorem dX5_readThing_137 : decode cX5_readThing 137 = .ok (.aload_n 0, 1) := by decide +kernel
theorem dX5_readThing_138 : decode cX5_readThing 138 = .ok (.iconst 1, 1) := by decide +kernel
theorem dX5_readThing_139 : decode cX5_readThing 139 = .ok (.bipush 9, 2) := by decide +kernel
theorem dX5_readThing_141 : decode cX5_readThing 141 = .ok (.invokevirtual 193, 3) := by decide +kernel
theorem dX5_readThing_144 : decode cX5_readThing 144 = .ok (.istore 6, 2) := by decide +kernel
theorem dX5_readThing_146 : decode cX5_readThing 146 = .ok (.iload 6, 2) := by decide +kernel
theorem dX5_readThing_148 : decode cX5_readThing 148 = .ok (.ifCond .lt 25, 3) := by decide +kernel
theorem dX5_readThing_151 : decode cX5_readThing 151 = .ok (.aload_n 0, 1) := by decide +kernel
theorem dX5_readThing_152 : decode cX5_readThing 152 = .ok (.getfield 18, 3) := by decide +kernel
theorem dX5_readThing_155 : decode cX5_readThing 155 = .ok (.getfield 129, 3) := by decide +kernel
theorem dX5_readThing_158 : decode cX5_readThing 158 = .ok (.ifCond .lt 15, 3) := by decide +kernel
theorem dX5_readThing_161 : decode cX5_readThing 161 = .ok (.aload_n 0, 1) := by decide +kernel
theorem dX5_readThing_162 : decode cX5_readThing 162 = .ok (.getfield 18, 3) := by decide +kernel
theorem dX5_readThing_165 : decode cX5_readThing 165 = .ok (.getfield 129, 3) := by decide +kernel
theorem dX5_readThing_168 : decode cX5_readThing 168 = .ok (.bipush 7, 2) := by decide +kernel
theorem dX5_readThing_170 : decode cX5_readThing 170 = .ok (.if_icmp .lt 5, 3) := by decide +kernel
theorem dX5_readThing_173 : decode cX5_readThing 173 = .ok (.iconst 0, 1) := by decide +kernel
theorem dX5_readThing_174 : decode cX5_readThing 174 = .ok (.ireturn, 1) := by decide +kernel
theorem dX5_readThing_175 : decode cX5_readThing 175 = .ok (.aload_n 0, 1) := by decide +kernel
theorem dX5_readThing_176 : decode cX5_readThing 176 = .ok (.getfield 26, 3) := by decide +kernel
theorem dX5_readThing_179 : decode cX5_readThing 179 = .ok (.aload_n 0, 1) := by decide +kernel
theorem dX5_readThing_180 : decode cX5_readThing 180 = .ok (.getfield 18, 3) := by decide +kernel
theorem dX5_readThing_183 : decode cX5_readThing 183 = .ok (.getfield 129, 3) := by decide +kernel
theorem dX5_readThing_186 : decode cX5_readThing 186 = .ok (.lload_n 1, 1) := by decide +kernel
theorem dX5_readThing_187 : decode cX5_readThing 187 = .ok (.lastore, 1) := by decide +kernel
theorem dX5_readThing_188 : decode cX5_readThing 188 = .ok (.aload_n 0, 1) := by decide +kernel
theorem dX5_readThing_189 : decode cX5_readThing 189 = .ok (.getfield 18, 3) := by decide +kernel
theorem dX5_readThing_192 : decode cX5_readThing 192 = .ok (.iload_n 3, 1) := by decide +kernel
theorem dX5_readThing_193 : decode cX5_readThing 193 = .ok (.iload 5, 2) := by decide +kernel
theorem dX5_readThing_195 : decode cX5_readThing 195 = .ok (.iload 6, 2) := by decide +kernel
theorem dX5_readThing_197 : decode cX5_readThing 197 = .ok (.invokevirtual 255, 3) := by decide +kernel
theorem dX5_readThing_200 : decode cX5_readThing 200 = .ok (.iconst 1, 1) := by decide +kernel
theorem dX5_readThing_201 : decode cX5_readThing 201 = .ok (.ireturn, 1) := by decide +kernel
theorem dX5_readWant_0 : decode cX5_readWant 0 = .ok (.aload_n 0, 1) := by decide +kernel
theorem dX5_readWant_1 : decode cX5_readWant 1 = .ok (.invokevirtual 52, 3) := by decide +kernel
theorem dX5_readWant_4 : decode cX5_readWant 4 = .ok (.aload_n 0, 1) := by decide +kernel
theorem dX5_readWant_5 : decode cX5_readWant 5 = .ok (.aload_n 0, 1) := by decide +kernel
theorem dX5_readWant_6 : decode cX5_readWant 6 = .ok (.getfield 26, 3) := by decide +kernel
theorem dX5_readWant_9 : decode cX5_readWant 9 = .ok (.aload_n 0, 1) := by decide +kernel
theorem dX5_readWant_10 : decode cX5_readWant 10 = .ok (.getfield 18, 3) := by decide +kernel
theorem dX5_readWant_13 : decode cX5_readWant 13 = .ok (.getfield 129, 3) := by decide +kernel
theorem dX5_readWant_16 : decode cX5_readWant 16 = .ok (.invokevirtual 219, 3) := by decide +kernel
theorem dX5_readWant_19 : decode cX5_readWant 19 = .ok (.istore_n 1, 1) := by decide +kernel
theorem dX5_readWant_20 : decode cX5_readWant 20 = .ok (.iload_n 1, 1) := by decide +kernel
theorem dX5_readWant_21 : decode cX5_readWant 21 = .ok (.ifCond .lt 12, 3) := by decide +kernel
theorem dX5_readWant_24 : decode cX5_readWant 24 = .ok (.aload_n 0, 1) := by decide +kernel
theorem dX5_readWant_25 : decode cX5_readWant 25 = .ok (.ldc 246, 2) := by decide +kernel
theorem dX5_readWant_27 : decode cX5_readWant 27 = .ok (.invokevirtual 190, 3) := by decide +kernel
theorem dX5_readWant_30 : decode cX5_readWant 30 = .ok (.ifCond .ne 5, 3) := by decide +kernel
theorem dX5_readWant_33 : decode cX5_readWant 33 = .ok (.iconst 0, 1) := by decide +kernel
theorem dX5_readWant_34 : decode cX5_readWant 34 = .ok (.ireturn, 1) := by decide +kernel
theorem dX5_readWant_35 : decode cX5_readWant 35 = .ok (.aload_n 0, 1) := by decide +kernel
theorem dX5_readWant_36 : decode cX5_readWant 36 = .ok (.aload_n 0, 1) := by decide +kernel
theorem dX5_readWant_37 : decode cX5_readWant 37 = .ok (.getfield 22, 3) := by decide +kernel
theorem dX5_readWant_40 : decode cX5_readWant 40 = .ok (.aload_n 0, 1) := by decide +kernel
theorem dX5_readWant_41 : decode cX5_readWant 41 = .ok (.getfield 18, 3) := by decide +kernel
theorem dX5_readWant_44 : decode cX5_readWant 44 = .ok (.getfield 122, 3) := by decide +kernel
theorem dX5_readWant_47 : decode cX5_readWant 47 = .ok (.invokevirtual 219, 3) := by decide +kernel
theorem dX5_readWant_50 : decode cX5_readWant 50 = .ok (.istore_n 2, 1) := by decide +kernel
theorem dX5_readWant_51 : decode cX5_readWant 51 = .ok (.iload_n 2, 1) := by decide +kernel
theorem dX5_readWant_52 : decode cX5_readWant 52 = .ok (.ifCond .lt 12, 3) := by decide +kernel
theorem dX5_readWant_55 : decode cX5_readWant 55 = .ok (.aload_n 0, 1) := by decide +kernel
theorem dX5_readWant_56 : decode cX5_readWant 56 = .ok (.ldc 248, 2) := by decide +kernel
theorem dX5_readWant_58 : decode cX5_readWant 58 = .ok (.invokevirtual 190, 3) := by decide +kernel
theorem dX5_readWant_61 : decode cX5_readWant 61 = .ok (.ifCond .ne 5, 3) := by decide +kernel
theorem dX5_readWant_64 : decode cX5_readWant 64 = .ok (.iconst 0, 1) := by decide +kernel
theorem dX5_readWant_65 : decode cX5_readWant 65 = .ok (.ireturn, 1) := by decide +kernel
theorem dX5_readWant_66 : decode cX5_readWant 66 = .ok (.aload_n 0, 1) := by decide +kernel
theorem dX5_readWant_67 : decode cX5_readWant 67 = .ok (.iconst 0, 1) := by decide +kernel
theorem dX5_readWant_68 : decode cX5_readWant 68 = .ok (.aload_n 0, 1) := by decide +kernel
theorem dX5_readWant_69 : decode cX5_readWant 69 = .ok (.getfield 18, 3) := by decide +kernel
theorem dX5_readWant_72 : decode cX5_readWant 72 = .ok (.iload_n 2, 1) := by decide +kernel
theorem dX5_readWant_73 : decode cX5_readWant 73 = .ok (.invokevirtual 223, 3) := by decide +kernel
theorem dX5_readWant_76 : decode cX5_readWant 76 = .ok (.iconst 1, 1) := by decide +kernel
theorem dX5_readWant_77 : decode cX5_readWant 77 = .ok (.isub, 1) := by decide +kernel
theorem dX5_readWant_78 : decode cX5_readWant 78 = .ok (.invokevirtual 193, 3) := by decide +kernel
theorem dX5_readWant_81 : decode cX5_readWant 81 = .ok (.istore_n 3, 1) := by decide +kernel
theorem dX5_readWant_82 : decode cX5_readWant 82 = .ok (.iload_n 3, 1) := by decide +kernel
theorem dX5_readWant_83 : decode cX5_readWant 83 = .ok (.ifCond .lt 13, 3) := by decide +kernel
theorem dX5_readWant_86 : decode cX5_readWant 86 = .ok (.aload_n 0, 1) := by decide +kernel
theorem dX5_readWant_87 : decode cX5_readWant 87 = .ok (.ldc_w 259, 3) := by decide +kernel
theorem dX5_readWant_90 : decode cX5_readWant 90 = .ok (.invokevirtual 190, 3) := by decide +kernel
theorem dX5_readWant_93 : decode cX5_readWant 93 = .ok (.ifCond .ne 5, 3) := by decide +kernel
theorem dX5_readWant_96 : decode cX5_readWant 96 = .ok (.iconst 0, 1) := by decide +kernel
theorem dX5_readWant_97 : decode cX5_readWant 97 = .ok (.ireturn, 1) := by decide +kernel
theorem dX5_readWant_98 : decode cX5_readWant 98 = .ok (.aload_n 0, 1) := by decide +kernel
theorem dX5_readWant_99 : decode cX5_readWant 99 = .ok (.iconst 1, 1) := by decide +kernel
theorem dX5_readWant_100 : decode cX5_readWant 100 = .ok (.bipush 60, 2) := by decide +kernel
theorem dX5_readWant_102 : decode cX5_readWant 102 = .ok (.invokevirtual 193, 3) := by decide +kernel
theorem dX5_readWant_105 : decode cX5_readWant 105 = .ok (.istore 4, 2) := by decide +kernel
theorem dX5_readWant_107 : decode cX5_readWant 107 = .ok (.iload 4, 2) := by decide +kernel
theorem dX5_readWant_109 : decode cX5_readWant 109 = .ok (.ifCond .lt 13, 3) := by decide +kernel
theorem dX5_readWant_112 : decode cX5_readWant 112 = .ok (.aload_n 0, 1) := by decide +kernel
theorem dX5_readWant_113 : decode cX5_readWant 113 = .ok (.ldc_w 261, 3) := by decide +kernel
theorem dX5_readWant_116 : decode cX5_readWant 116 = .ok (.invokevirtual 190, 3) := by decide +kernel
theorem dX5_readWant_119 : decode cX5_readWant 119 = .ok (.ifCond .ne 5, 3) := by decide +kernel
theorem dX5_readWant_122 : decode cX5_readWant 122 = .ok (.iconst 0, 1) := by decide +kernel
theorem dX5_readWant_123 : decode cX5_readWant 123 = .ok (.ireturn, 1) := by decide +kernel
theorem dX5_readWant_124 : decode cX5_readWant 124 = .ok (.aload_n 0, 1) := by decide +kernel
theorem dX5_readWant_125 : decode cX5_readWant 125 = .ok (.iconst 1, 1) := by decide +kernel
theorem dX5_readWant_126 : decode cX5_readWant 126 = .ok (.bipush 99, 2) := by decide +kernel
theorem dX5_readWant_128 : decode cX5_readWant 128 = .ok (.invokevirtual 193, 3) := by decide +kernel
theorem dX5_readWant_131 : decode cX5_readWant 131 = .ok (.istore 5, 2) := by decide +kernel
theorem dX5_readWant_133 : decode cX5_readWant 133 = .ok (.iload 5, 2) := by decide +kernel
theorem dX5_readWant_135 : decode cX5_readWant 135 = .ok (.ifCond .ge 5, 3) := by decide +kernel
theorem dX5_readWant_138 : decode cX5_readWant 138 = .ok (.iconst 0, 1) := by decide +kernel
theorem dX5_readWant_139 : decode cX5_readWant 139 = .ok (.ireturn, 1) := by decide +kernel
theorem dX5_readWant_140 : decode cX5_readWant 140 = .ok (.aload_n 0, 1) := by decide +kernel
theorem dX5_readWant_141 : decode cX5_readWant 141 = .ok (.getfield 18, 3) := by decide +kernel
theorem dX5_readWant_144 : decode cX5_readWant 144 = .ok (.getfield 178, 3) := by decide +kernel
theorem dX5_readWant_147 : decode cX5_readWant 147 = .ok (.iload_n 1, 1) := by decide +kernel
theorem dX5_readWant_148 : decode cX5_readWant 148 = .ok (.iload_n 2, 1) := by decide +kernel
theorem dX5_readWant_149 : decode cX5_readWant 149 = .ok (.iload_n 3, 1) := by decide +kernel
theorem dX5_readWant_150 : decode cX5_readWant 150 = .ok (.invokestatic 226, 3) := by decide +kernel
theorem dX5_readWant_153 : decode cX5_readWant 153 = .ok (.iload 4, 2) := by decide +kernel
theorem dX5_readWant_155 : decode cX5_readWant 155 = .ok (.iload 5, 2) := by decide +kernel
theorem dX5_readWant_157 : decode cX5_readWant 157 = .ok (.invokevirtual 263, 3) := by decide +kernel
theorem dX5_readWant_160 : decode cX5_readWant 160 = .ok (.iconst 1, 1) := by decide +kernel
theorem dX5_readWant_161 : decode cX5_readWant 161 = .ok (.ireturn, 1) := by decide +kernel
theorem dX5_readMark_0 : decode cX5_readMark 0 = .ok (.aload_n 0, 1) := by decide +kernel
theorem dX5_readMark_1 : decode cX5_readMark 1 = .ok (.ldc 114, 2) := by decide +kernel
theorem dX5_readMark_3 : decode cX5_readMark 3 = .ok (.invokevirtual 98, 3) := by decide +kernel
theorem dX5_readMark_6 : decode cX5_readMark 6 = .ok (.istore_n 1, 1) := by decide +kernel
theorem dX5_readMark_7 : decode cX5_readMark 7 = .ok (.aload_n 0, 1) := by decide +kernel
theorem dX5_readMark_8 : decode cX5_readMark 8 = .ok (.invokevirtual 52, 3) := by decide +kernel
theorem dX5_readMark_11 : decode cX5_readMark 11 = .ok (.aload_n 0, 1) := by decide +kernel
theorem dX5_readMark_12 : decode cX5_readMark 12 = .ok (.iconst 0, 1) := by decide +kernel
theorem dX5_readMark_13 : decode cX5_readMark 13 = .ok (.bipush 99, 2) := by decide +kernel
theorem dX5_readMark_15 : decode cX5_readMark 15 = .ok (.invokevirtual 132, 3) := by decide +kernel
theorem dX5_readMark_18 : decode cX5_readMark 18 = .ok (.ifCond .ne 5, 3) := by decide +kernel
theorem dX5_readMark_21 : decode cX5_readMark 21 = .ok (.iconst 0, 1) := by decide +kernel
theorem dX5_readMark_22 : decode cX5_readMark 22 = .ok (.ireturn, 1) := by decide +kernel
theorem dX5_readMark_23 : decode cX5_readMark 23 = .ok (.aload_n 0, 1) := by decide +kernel
theorem dX5_readMark_24 : decode cX5_readMark 24 = .ok (.getfield 85, 3) := by decide +kernel
theorem dX5_readMark_27 : decode cX5_readMark 27 = .ok (.istore_n 2, 1) := by decide +kernel
theorem dX5_readMark_28 : decode cX5_readMark 28 = .ok (.aload_n 0, 1) := by decide +kernel
theorem dX5_readMark_29 : decode cX5_readMark 29 = .ok (.getfield 18, 3) := by decide +kernel
theorem dX5_readMark_32 : decode cX5_readMark 32 = .ok (.iload_n 2, 1) := by decide +kernel
theorem dX5_readMark_33 : decode cX5_readMark 33 = .ok (.invokevirtual 267, 3) := by decide +kernel
theorem dX5_readMark_36 : decode cX5_readMark 36 = .ok (.ifCond .eq 9, 3) := by decide +kernel
theorem dX5_readMark_39 : decode cX5_readMark 39 = .ok (.aload_n 0, 1) := by decide +kernel
theorem dX5_readMark_40 : decode cX5_readMark 40 = .ok (.iconst 3, 1) := by decide +kernel
theorem dX5_readMark_41 : decode cX5_readMark 41 = .ok (.invokevirtual 62, 3) := by decide +kernel
theorem dX5_readMark_44 : decode cX5_readMark 44 = .ok (.ireturn, 1) := by decide +kernel
theorem dX5_readMark_45 : decode cX5_readMark 45 = .ok (.aload_n 0, 1) := by decide +kernel
theorem dX5_readMark_46 : decode cX5_readMark 46 = .ok (.invokevirtual 52, 3) := by decide +kernel
theorem dX5_readMark_49 : decode cX5_readMark 49 = .ok (.aload_n 0, 1) := by decide +kernel
theorem dX5_readMark_50 : decode cX5_readMark 50 = .ok (.ldc 248, 2) := by decide +kernel
theorem dX5_readMark_52 : decode cX5_readMark 52 = .ok (.invokevirtual 190, 3) := by decide +kernel
theorem dX5_readMark_55 : decode cX5_readMark 55 = .ok (.ifCond .ne 5, 3) := by decide +kernel
theorem dX5_readMark_58 : decode cX5_readMark 58 = .ok (.iconst 0, 1) := by decide +kernel
theorem dX5_readMark_59 : decode cX5_readMark 59 = .ok (.ireturn, 1) := by decide +kernel
theorem dX5_readMark_60 : decode cX5_readMark 60 = .ok (.aload_n 0, 1) := by decide +kernel
theorem dX5_readMark_61 : decode cX5_readMark 61 = .ok (.iconst 0, 1) := by decide +kernel
theorem dX5_readMark_62 : decode cX5_readMark 62 = .ok (.bipush 11, 2) := by decide +kernel
theorem dX5_readMark_64 : decode cX5_readMark 64 = .ok (.invokevirtual 193, 3) := by decide +kernel
theorem dX5_readMark_67 : decode cX5_readMark 67 = .ok (.istore_n 3, 1) := by decide +kernel
theorem dX5_readMark_68 : decode cX5_readMark 68 = .ok (.iload_n 3, 1) := by decide +kernel
theorem dX5_readMark_69 : decode cX5_readMark 69 = .ok (.ifCond .ge 5, 3) := by decide +kernel
theorem dX5_readMark_72 : decode cX5_readMark 72 = .ok (.iconst 0, 1) := by decide +kernel
theorem dX5_readMark_73 : decode cX5_readMark 73 = .ok (.ireturn, 1) := by decide +kernel
theorem dX5_readMark_74 : decode cX5_readMark 74 = .ok (.aload_n 0, 1) := by decide +kernel
theorem dX5_readMark_75 : decode cX5_readMark 75 = .ok (.getfield 18, 3) := by decide +kernel
theorem dX5_readMark_78 : decode cX5_readMark 78 = .ok (.iload_n 2, 1) := by decide +kernel
theorem dX5_readMark_79 : decode cX5_readMark 79 = .ok (.iload_n 3, 1) := by decide +kernel
theorem dX5_readMark_80 : decode cX5_readMark 80 = .ok (.iload_n 1, 1) := by decide +kernel
theorem dX5_readMark_81 : decode cX5_readMark 81 = .ok (.invokevirtual 270, 3) := by decide +kernel
theorem dX5_readMark_84 : decode cX5_readMark 84 = .ok (.iconst 1, 1) := by decide +kernel
theorem dX5_readMark_85 : decode cX5_readMark 85 = .ok (.ireturn, 1) := by decide +kernel
theorem dX6_init_0 : decode cX6_init 0 = .ok (.aload_n 0, 1) := by decide +kernel
theorem dX6_init_1 : decode cX6_init 1 = .ok (.invokespecial 3, 3) := by decide +kernel
theorem dX6_init_4 : decode cX6_init 4 = .ok (.aload_n 0, 1) := by decide +kernel
theorem dX6_init_5 : decode cX6_init 5 = .ok (.bipush 7, 2) := by decide +kernel
theorem dX6_init_7 : decode cX6_init 7 = .ok (.newarray .int, 2) := by decide +kernel
theorem dX6_init_9 : decode cX6_init 9 = .ok (.putfield 9, 3) := by decide +kernel
theorem dX6_init_12 : decode cX6_init 12 = .ok (.aload_n 0, 1) := by decide +kernel
theorem dX6_init_13 : decode cX6_init 13 = .ok (.bipush 36, 2) := by decide +kernel
theorem dX6_init_15 : decode cX6_init 15 = .ok (.newarray .int, 2) := by decide +kernel
theorem dX6_init_17 : decode cX6_init 17 = .ok (.putfield 15, 3) := by decide +kernel
theorem dX6_init_20 : decode cX6_init 20 = .ok (.aload_n 0, 1) := by decide +kernel
theorem dX6_init_21 : decode cX6_init 21 = .ok (.bipush 7, 2) := by decide +kernel
theorem dX6_init_23 : decode cX6_init 23 = .ok (.newarray .int, 2) := by decide +kernel
theorem dX6_init_25 : decode cX6_init 25 = .ok (.putfield 18, 3) := by decide +kernel
theorem dX6_init_28 : decode cX6_init 28 = .ok (.aload_n 0, 1) := by decide +kernel
theorem dX6_init_29 : decode cX6_init 29 = .ok (.bipush 70, 2) := by decide +kernel
theorem dX6_init_31 : decode cX6_init 31 = .ok (.newarray .int, 2) := by decide +kernel
theorem dX6_init_33 : decode cX6_init 33 = .ok (.putfield 21, 3) := by decide +kernel
theorem dX6_init_36 : decode cX6_init 36 = .ok (.aload_n 0, 1) := by decide +kernel
theorem dX6_init_37 : decode cX6_init 37 = .ok (.new 24, 3) := by decide +kernel
theorem dX6_init_40 : decode cX6_init 40 = .ok (.dup, 1) := by decide +kernel
theorem dX6_init_41 : decode cX6_init 41 = .ok (.invokespecial 26, 3) := by decide +kernel
theorem dX6_init_44 : decode cX6_init 44 = .ok (.putfield 27, 3) := by decide +kernel
theorem dX6_init_47 : decode cX6_init 47 = .ok (.return_, 1) := by decide +kernel
theorem dX6_start_0 : decode cX6_start 0 = .ok (.aload_n 0, 1) := by decide +kernel
theorem dX6_start_1 : decode cX6_start 1 = .ok (.aload_n 1, 1) := by decide +kernel
theorem dX6_start_2 : decode cX6_start 2 = .ok (.putfield 27, 3) := by decide +kernel
theorem dX6_start_5 : decode cX6_start 5 = .ok (.aload_n 0, 1) := by decide +kernel
theorem dX6_start_6 : decode cX6_start 6 = .ok (.aload_n 2, 1) := by decide +kernel
theorem dX6_start_7 : decode cX6_start 7 = .ok (.invokevirtual 31, 3) := by decide +kernel
theorem dX6_start_10 : decode cX6_start 10 = .ok (.putfield 37, 3) := by decide +kernel
theorem dX6_start_13 : decode cX6_start 13 = .ok (.aload_n 0, 1) := by decide +kernel
theorem dX6_start_14 : decode cX6_start 14 = .ok (.aload_n 2, 1) := by decide +kernel
theorem dX6_start_15 : decode cX6_start 15 = .ok (.invokevirtual 41, 3) := by decide +kernel
theorem dX6_start_18 : decode cX6_start 18 = .ok (.iload_n 3, 1) := by decide +kernel
theorem dX6_start_19 : decode cX6_start 19 = .ok (.ior, 1) := by decide +kernel
theorem dX6_start_20 : decode cX6_start 20 = .ok (.putfield 44, 3) := by decide +kernel
theorem dX6_start_23 : decode cX6_start 23 = .ok (.aload_n 0, 1) := by decide +kernel
theorem dX6_start_24 : decode cX6_start 24 = .ok (.iconst 0, 1) := by decide +kernel
theorem dX6_start_25 : decode cX6_start 25 = .ok (.putfield 47, 3) := by decide +kernel
theorem dX6_start_28 : decode cX6_start 28 = .ok (.aload_n 0, 1) := by decide +kernel
theorem dX6_start_29 : decode cX6_start 29 = .ok (.iconst 0, 1) := by decide +kernel
theorem dX6_start_30 : decode cX6_start 30 = .ok (.putfield 50, 3) := by decide +kernel
theorem dX6_start_33 : decode cX6_start 33 = .ok (.aload_n 0, 1) := by decide +kernel
theorem dX6_start_34 : decode cX6_start 34 = .ok (.iconst (-1), 1) := by decide +kernel
theorem dX6_start_35 : decode cX6_start 35 = .ok (.putfield 53, 3) := by decide +kernel
theorem dX6_start_38 : decode cX6_start 38 = .ok (.aload_n 0, 1) := by decide +kernel
theorem dX6_start_39 : decode cX6_start 39 = .ok (.getfield 15, 3) := by decide +kernel
theorem dX6_start_42 : decode cX6_start 42 = .ok (.iconst (-1), 1) := by decide +kernel
theorem dX6_start_43 : decode cX6_start 43 = .ok (.invokestatic 56, 3) := by decide +kernel
theorem dX6_start_46 : decode cX6_start 46 = .ok (.iconst 0, 1) := by decide +kernel
theorem dX6_start_47 : decode cX6_start 47 = .ok (.istore 4, 2) := by decide +kernel
theorem dX6_start_49 : decode cX6_start 49 = .ok (.iload 4, 2) := by decide +kernel
theorem dX6_start_51 : decode cX6_start 51 = .ok (.aload_n 0, 1) := by decide +kernel
theorem dX6_start_52 : decode cX6_start 52 = .ok (.getfield 27, 3) := by decide +kernel
theorem dX6_start_55 : decode cX6_start 55 = .ok (.getfield 62, 3) := by decide +kernel
theorem dX6_start_58 : decode cX6_start 58 = .ok (.if_icmp .ge 131, 3) := by decide +kernel
theorem dX6_start_61 : decode cX6_start 61 = .ok (.iload 4, 2) := by decide +kernel
theorem dX6_start_63 : decode cX6_start 63 = .ok (.bipush 7, 2) := by decide +kernel
theorem dX6_start_65 : decode cX6_start 65 = .ok (.if_icmp .ge 124, 3) := by decide +kernel
theorem dX6_start_68 : decode cX6_start 68 = .ok (.aload_n 2, 1) := by decide +kernel
theorem dX6_start_69 : decode cX6_start 69 = .ok (.iload 4, 2) := by decide +kernel
theorem dX6_start_71 : decode cX6_start 71 = .ok (.invokevirtual 65, 3) := by decide +kernel
theorem dX6_start_74 : decode cX6_start 74 = .ok (.istore 5, 2) := by decide +kernel
theorem dX6_start_76 : decode cX6_start 76 = .ok (.aload_n 0, 1) := by decide +kernel
theorem dX6_start_77 : decode cX6_start 77 = .ok (.getfield 27, 3) := by decide +kernel
theorem dX6_start_80 : decode cX6_start 80 = .ok (.iload 4, 2) := by decide +kernel
theorem dX6_start_82 : decode cX6_start 82 = .ok (.invokevirtual 69, 3) := by decide +kernel
theorem dX6_start_85 : decode cX6_start 85 = .ok (.istore 6, 2) := by decide +kernel
theorem dX6_start_87 : decode cX6_start 87 = .ok (.aload_n 0, 1) := by decide +kernel
theorem dX6_start_88 : decode cX6_start 88 = .ok (.getfield 9, 3) := by decide +kernel
theorem dX6_start_91 : decode cX6_start 91 = .ok (.iload 4, 2) := by decide +kernel
theorem dX6_start_93 : decode cX6_start 93 = .ok (.iload 5, 2) := by decide +kernel
theorem dX6_start_95 : decode cX6_start 95 = .ok (.iastore, 1) := by decide +kernel
theorem dX6_start_96 : decode cX6_start 96 = .ok (.aload_n 0, 1) := by decide +kernel
theorem dX6_start_97 : decode cX6_start 97 = .ok (.iload 4, 2) := by decide +kernel
theorem dX6_start_99 : decode cX6_start 99 = .ok (.iload 5, 2) := by decide +kernel
theorem dX6_start_101 : decode cX6_start 101 = .ok (.invokevirtual 72, 3) := by decide +kernel
theorem dX6_start_104 : decode cX6_start 104 = .ok (.aload_n 0, 1) := by decide +kernel
theorem dX6_start_105 : decode cX6_start 105 = .ok (.dup, 1) := by decide +kernel
theorem dX6_start_106 : decode cX6_start 106 = .ok (.getfield 44, 3) := by decide +kernel
theorem dX6_start_109 : decode cX6_start 109 = .ok (.iload 6, 2) := by decide +kernel
theorem dX6_start_111 : decode cX6_start 111 = .ok (.iconst 2, 1) := by decide +kernel
theorem dX6_start_112 : decode cX6_start 112 = .ok (.if_icmp .ne 10, 3) := by decide +kernel
theorem dX6_start_115 : decode cX6_start 115 = .ok (.iconst 1, 1) := by decide +kernel
theorem dX6_start_116 : decode cX6_start 116 = .ok (.iload 4, 2) := by decide +kernel
theorem dX6_start_118 : decode cX6_start 118 = .ok (.ishl, 1) := by decide +kernel
theorem dX6_start_119 : decode cX6_start 119 = .ok (.goto 4, 3) := by decide +kernel
theorem dX6_start_122 : decode cX6_start 122 = .ok (.iconst 0, 1) := by decide +kernel
theorem dX6_start_123 : decode cX6_start 123 = .ok (.ior, 1) := by decide +kernel
theorem dX6_start_124 : decode cX6_start 124 = .ok (.putfield 44, 3) := by decide +kernel
theorem dX6_start_127 : decode cX6_start 127 = .ok (.aload_n 0, 1) := by decide +kernel
theorem dX6_start_128 : decode cX6_start 128 = .ok (.dup, 1) := by decide +kernel
theorem dX6_start_129 : decode cX6_start 129 = .ok (.getfield 47, 3) := by decide +kernel
theorem dX6_start_132 : decode cX6_start 132 = .ok (.iload 6, 2) := by decide +kernel
theorem dX6_start_134 : decode cX6_start 134 = .ok (.iconst 1, 1) := by decide +kernel
theorem dX6_start_135 : decode cX6_start 135 = .ok (.if_icmp .ne 10, 3) := by decide +kernel
theorem dX6_start_138 : decode cX6_start 138 = .ok (.iconst 1, 1) := by decide +kernel
theorem dX6_start_139 : decode cX6_start 139 = .ok (.iload 4, 2) := by decide +kernel
theorem dX6_start_141 : decode cX6_start 141 = .ok (.ishl, 1) := by decide +kernel
theorem dX6_start_142 : decode cX6_start 142 = .ok (.goto 4, 3) := by decide +kernel
theorem dX6_start_145 : decode cX6_start 145 = .ok (.iconst 0, 1) := by decide +kernel
theorem dX6_start_146 : decode cX6_start 146 = .ok (.ior, 1) := by decide +kernel
theorem dX6_start_147 : decode cX6_start 147 = .ok (.putfield 47, 3) := by decide +kernel
theorem dX6_start_150 : decode cX6_start 150 = .ok (.aload_n 0, 1) := by decide +kernel
theorem dX6_start_151 : decode cX6_start 151 = .ok (.dup, 1) := by decide +kernel
theorem dX6_start_152 : decode cX6_start 152 = .ok (.getfield 50, 3) := by decide +kernel
theorem dX6_start_155 : decode cX6_start 155 = .ok (.aload_n 0, 1) := by decide +kernel
theorem dX6_start_156 : decode cX6_start 156 = .ok (.getfield 27, 3) := by decide +kernel
theorem dX6_start_159 : decode cX6_start 159 = .ok (.iload 5, 2) := by decide +kernel
theorem dX6_start_161 : decode cX6_start 161 = .ok (.invokestatic 76, 3) := by decide +kernel
theorem dX6_start_164 : decode cX6_start 164 = .ok (.invokevirtual 79, 3) := by decide +kernel
theorem dX6_start_167 : decode cX6_start 167 = .ok (.iconst 1, 1) := by decide +kernel
theorem dX6_start_168 : decode cX6_start 168 = .ok (.if_icmp .ne 10, 3) := by decide +kernel
theorem dX6_start_171 : decode cX6_start 171 = .ok (.iconst 1, 1) := by decide +kernel
theorem dX6_start_172 : decode cX6_start 172 = .ok (.iload 4, 2) := by decide +kernel
theorem dX6_start_174 : decode cX6_start 174 = .ok (.ishl, 1) := by decide +kernel
theorem dX6_start_175 : decode cX6_start 175 = .ok (.goto 4, 3) := by decide +kernel
theorem dX6_start_178 : decode cX6_start 178 = .ok (.iconst 0, 1) := by decide +kernel
theorem dX6_start_179 : decode cX6_start 179 = .ok (.ior, 1) := by decide +kernel
theorem dX6_start_180 : decode cX6_start 180 = .ok (.putfield 50, 3) := by decide +kernel
theorem dX6_start_183 : decode cX6_start 183 = .ok (.iinc 4 1, 3) := by decide +kernel
theorem dX6_start_186 : decode cX6_start 186 = .ok (.goto (-137), 3) := by decide +kernel
theorem dX6_start_189 : decode cX6_start 189 = .ok (.return_, 1) := by decide +kernel
theorem dX6_widen_0 : decode cX6_widen 0 = .ok (.aload_n 0, 1) := by decide +kernel
theorem dX6_widen_1 : decode cX6_widen 1 = .ok (.iload_n 1, 1) := by decide +kernel
theorem dX6_widen_2 : decode cX6_widen 2 = .ok (.putfield 53, 3) := by decide +kernel
theorem dX6_widen_5 : decode cX6_widen 5 = .ok (.return_, 1) := by decide +kernel
theorem dX6_sow_0 : decode cX6_sow 0 = .ok (.aload_n 0, 1) := by decide +kernel
theorem dX6_sow_1 : decode cX6_sow 1 = .ok (.iload_n 1, 1) := by decide +kernel
theorem dX6_sow_2 : decode cX6_sow 2 = .ok (.putfield 82, 3) := by decide +kernel
theorem dX6_sow_5 : decode cX6_sow 5 = .ok (.return_, 1) := by decide +kernel
theorem dX6_shift_0 : decode cX6_shift 0 = .ok (.iload_n 1, 1) := by decide +kernel
theorem dX6_shift_1 : decode cX6_shift 1 = .ok (.ifCond .lt 33, 3) := by decide +kernel
theorem dX6_shift_4 : decode cX6_shift 4 = .ok (.iload_n 1, 1) := by decide +kernel
theorem dX6_shift_5 : decode cX6_shift 5 = .ok (.bipush 7, 2) := by decide +kernel
theorem dX6_shift_7 : decode cX6_shift 7 = .ok (.if_icmp .ge 27, 3) := by decide +kernel
theorem dX6_shift_10 : decode cX6_shift 10 = .ok (.aload_n 0, 1) := by decide +kernel
theorem dX6_shift_11 : decode cX6_shift 11 = .ok (.iconst (-1), 1) := by decide +kernel
theorem dX6_shift_12 : decode cX6_shift 12 = .ok (.aload_n 0, 1) := by decide +kernel
theorem dX6_shift_13 : decode cX6_shift 13 = .ok (.getfield 9, 3) := by decide +kernel
theorem dX6_shift_16 : decode cX6_shift 16 = .ok (.iload_n 1, 1) := by decide +kernel
theorem dX6_shift_17 : decode cX6_shift 17 = .ok (.iaload, 1) := by decide +kernel
theorem dX6_shift_18 : decode cX6_shift 18 = .ok (.invokevirtual 72, 3) := by decide +kernel
theorem dX6_shift_21 : decode cX6_shift 21 = .ok (.aload_n 0, 1) := by decide +kernel
theorem dX6_shift_22 : decode cX6_shift 22 = .ok (.getfield 9, 3) := by decide +kernel
theorem dX6_shift_25 : decode cX6_shift 25 = .ok (.iload_n 1, 1) := by decide +kernel
theorem dX6_shift_26 : decode cX6_shift 26 = .ok (.iload_n 2, 1) := by decide +kernel
theorem dX6_shift_27 : decode cX6_shift 27 = .ok (.iastore, 1) := by decide +kernel
theorem dX6_shift_28 : decode cX6_shift 28 = .ok (.aload_n 0, 1) := by decide +kernel
theorem dX6_shift_29 : decode cX6_shift 29 = .ok (.iload_n 1, 1) := by decide +kernel
theorem dX6_shift_30 : decode cX6_shift 30 = .ok (.iload_n 2, 1) := by decide +kernel
theorem dX6_shift_31 : decode cX6_shift 31 = .ok (.invokevirtual 72, 3) := by decide +kernel
theorem dX6_shift_34 : decode cX6_shift 34 = .ok (.return_, 1) := by decide +kernel
theorem dX6_nightNow_0 : decode cX6_nightNow 0 = .ok (.aload_n 0, 1) := by decide +kernel
theorem dX6_nightNow_1 : decode cX6_nightNow 1 = .ok (.getfield 37, 3) := by decide +kernel
theorem dX6_nightNow_4 : decode cX6_nightNow 4 = .ok (.ireturn, 1) := by decide +kernel
theorem dX6_cellOf_0 : decode cX6_cellOf 0 = .ok (.iload_n 1, 1) := by decide +kernel
theorem dX6_cellOf_1 : decode cX6_cellOf 1 = .ok (.ifCond .lt 18, 3) := by decide +kernel
theorem dX6_cellOf_4 : decode cX6_cellOf 4 = .ok (.iload_n 1, 1) := by decide +kernel
theorem dX6_cellOf_5 : decode cX6_cellOf 5 = .ok (.bipush 7, 2) := by decide +kernel
theorem dX6_cellOf_7 : decode cX6_cellOf 7 = .ok (.if_icmp .ge 12, 3) := by decide +kernel
theorem dX6_cellOf_10 : decode cX6_cellOf 10 = .ok (.aload_n 0, 1) := by decide +kernel
theorem dX6_cellOf_11 : decode cX6_cellOf 11 = .ok (.getfield 9, 3) := by decide +kernel
theorem dX6_cellOf_14 : decode cX6_cellOf 14 = .ok (.iload_n 1, 1) := by decide +kernel
theorem dX6_cellOf_15 : decode cX6_cellOf 15 = .ok (.iaload, 1) := by decide +kernel
theorem dX6_cellOf_16 : decode cX6_cellOf 16 = .ok (.goto 4, 3) := by decide +kernel
theorem dX6_cellOf_19 : decode cX6_cellOf 19 = .ok (.iconst 0, 1) := by decide +kernel
theorem dX6_cellOf_20 : decode cX6_cellOf 20 = .ok (.ireturn, 1) := by decide +kernel
theorem dX6_went_0 : decode cX6_went 0 = .ok (.aload_n 0, 1) := by decide +kernel
theorem dX6_went_1 : decode cX6_went 1 = .ok (.getfield 85, 3) := by decide +kernel
theorem dX6_went_4 : decode cX6_went 4 = .ok (.ireturn, 1) := by decide +kernel
theorem dX6_stuck_0 : decode cX6_stuck 0 = .ok (.iconst 1, 1) := by decide +kernel
theorem dX6_stuck_1 : decode cX6_stuck 1 = .ok (.aload_n 0, 1) := by decide +kernel
theorem dX6_stuck_2 : decode cX6_stuck 2 = .ok (.getfield 27, 3) := by decide +kernel
theorem dX6_stuck_5 : decode cX6_stuck 5 = .ok (.getfield 62, 3) := by decide +kernel
theorem dX6_stuck_8 : decode cX6_stuck 8 = .ok (.ishl, 1) := by decide +kernel
theorem dX6_stuck_9 : decode cX6_stuck 9 = .ok (.iconst 1, 1) := by decide +kernel
theorem dX6_stuck_10 : decode cX6_stuck 10 = .ok (.isub, 1) := by decide +kernel
theorem dX6_stuck_11 : decode cX6_stuck 11 = .ok (.aload_n 0, 1) := by decide +kernel
theorem dX6_stuck_12 : decode cX6_stuck 12 = .ok (.getfield 85, 3) := by decide +kernel
theorem dX6_stuck_15 : decode cX6_stuck 15 = .ok (.iconst (-1), 1) := by decide +kernel
theorem dX6_stuck_16 : decode cX6_stuck 16 = .ok (.ixor, 1) := by decide +kernel
theorem dX6_stuck_17 : decode cX6_stuck 17 = .ok (.iand, 1) := by decide +kernel
theorem dX6_stuck_18 : decode cX6_stuck 18 = .ok (.aload_n 0, 1) := by decide +kernel
theorem dX6_stuck_19 : decode cX6_stuck 19 = .ok (.getfield 88, 3) := by decide +kernel
theorem dX6_stuck_22 : decode cX6_stuck 22 = .ok (.iconst (-1), 1) := by decide +kernel
theorem dX6_stuck_23 : decode cX6_stuck 23 = .ok (.ixor, 1) := by decide +kernel
theorem dX6_stuck_24 : decode cX6_stuck 24 = .ok (.iand, 1) := by decide +kernel
theorem dX6_stuck_25 : decode cX6_stuck 25 = .ok (.ireturn, 1) := by decide +kernel
theorem dX6_seat_0 : decode cX6_seat 0 = .ok (.iload_n 2, 1) := by decide +kernel
theorem dX6_seat_1 : decode cX6_seat 1 = .ok (.ifCond .lt 16, 3) := by decide +kernel
theorem dX6_seat_4 : decode cX6_seat 4 = .ok (.iload_n 2, 1) := by decide +kernel
theorem dX6_seat_5 : decode cX6_seat 5 = .ok (.bipush 36, 2) := by decide +kernel
theorem dX6_seat_7 : decode cX6_seat 7 = .ok (.if_icmp .ge 10, 3) := by decide +kernel
theorem dX6_seat_10 : decode cX6_seat 10 = .ok (.aload_n 0, 1) := by decide +kernel
theorem dX6_seat_11 : decode cX6_seat 11 = .ok (.getfield 15, 3) := by decide +kernel
theorem dX6_seat_14 : decode cX6_seat 14 = .ok (.iload_n 2, 1) := by decide +kernel
theorem dX6_seat_15 : decode cX6_seat 15 = .ok (.iload_n 1, 1) := by decide +kernel
theorem dX6_seat_16 : decode cX6_seat 16 = .ok (.iastore, 1) := by decide +kernel
theorem dX6_seat_17 : decode cX6_seat 17 = .ok (.return_, 1) := by decide +kernel
theorem dX6_thingAt_0 : decode cX6_thingAt 0 = .ok (.iload_n 1, 1) := by decide +kernel
theorem dX6_thingAt_1 : decode cX6_thingAt 1 = .ok (.ifCond .lt 18, 3) := by decide +kernel
theorem dX6_thingAt_4 : decode cX6_thingAt 4 = .ok (.iload_n 1, 1) := by decide +kernel
theorem dX6_thingAt_5 : decode cX6_thingAt 5 = .ok (.bipush 36, 2) := by decide +kernel
theorem dX6_thingAt_7 : decode cX6_thingAt 7 = .ok (.if_icmp .ge 12, 3) := by decide +kernel
theorem dX6_thingAt_10 : decode cX6_thingAt 10 = .ok (.aload_n 0, 1) := by decide +kernel
theorem dX6_thingAt_11 : decode cX6_thingAt 11 = .ok (.getfield 15, 3) := by decide +kernel
theorem dX6_thingAt_14 : decode cX6_thingAt 14 = .ok (.iload_n 1, 1) := by decide +kernel
theorem dX6_thingAt_15 : decode cX6_thingAt 15 = .ok (.iaload, 1) := by decide +kernel
theorem dX6_thingAt_16 : decode cX6_thingAt 16 = .ok (.goto 4, 3) := by decide +kernel
theorem dX6_thingAt_19 : decode cX6_thingAt 19 = .ok (.iconst (-1), 1) := by decide +kernel
theorem dX6_thingAt_20 : decode cX6_thingAt 20 = .ok (.ireturn, 1) := by decide +kernel
theorem dX6_decide_0 : decode cX6_decide 0 = .ok (.aload_n 0, 1) := by decide +kernel
theorem dX6_decide_1 : decode cX6_decide 1 = .ok (.getfield 37, 3) := by decide +kernel
theorem dX6_decide_4 : decode cX6_decide 4 = .ok (.iconst 1, 1) := by decide +kernel
theorem dX6_decide_5 : decode cX6_decide 5 = .ok (.iadd, 1) := by decide +kernel
theorem dX6_decide_6 : decode cX6_decide 6 = .ok (.istore_n 2, 1) := by decide +kernel
theorem dX6_decide_7 : decode cX6_decide 7 = .ok (.aload_n 0, 1) := by decide +kernel
theorem dX6_decide_8 : decode cX6_decide 8 = .ok (.getfield 44, 3) := by decide +kernel
theorem dX6_decide_11 : decode cX6_decide 11 = .ok (.iload_n 1, 1) := by decide +kernel
theorem dX6_decide_12 : decode cX6_decide 12 = .ok (.ior, 1) := by decide +kernel
theorem dX6_decide_13 : decode cX6_decide 13 = .ok (.istore_n 3, 1) := by decide +kernel
theorem dX6_decide_14 : decode cX6_decide 14 = .ok (.iconst 0, 1) := by decide +kernel
theorem dX6_decide_15 : decode cX6_decide 15 = .ok (.istore 4, 2) := by decide +kernel
theorem dX6_decide_17 : decode cX6_decide 17 = .ok (.iload 4, 2) := by decide +kernel
theorem dX6_decide_19 : decode cX6_decide 19 = .ok (.aload_n 0, 1) := by decide +kernel
theorem dX6_decide_20 : decode cX6_decide 20 = .ok (.getfield 27, 3) := by decide +kernel
theorem dX6_decide_23 : decode cX6_decide 23 = .ok (.getfield 62, 3) := by decide +kernel
theorem dX6_decide_26 : decode cX6_decide 26 = .ok (.if_icmp .ge 75, 3) := by decide +kernel
theorem dX6_decide_29 : decode cX6_decide 29 = .ok (.iload 4, 2) := by decide +kernel
theorem dX6_decide_31 : decode cX6_decide 31 = .ok (.bipush 7, 2) := by decide +kernel
theorem dX6_decide_33 : decode cX6_decide 33 = .ok (.if_icmp .ge 68, 3) := by decide +kernel
theorem dX6_decide_36 : decode cX6_decide 36 = .ok (.aload_n 0, 1) := by decide +kernel
theorem dX6_decide_37 : decode cX6_decide 37 = .ok (.getfield 27, 3) := by decide +kernel
theorem dX6_decide_40 : decode cX6_decide 40 = .ok (.aload_n 0, 1) := by decide +kernel
theorem dX6_decide_41 : decode cX6_decide 41 = .ok (.getfield 9, 3) := by decide +kernel
theorem dX6_decide_44 : decode cX6_decide 44 = .ok (.iload 4, 2) := by decide +kernel
theorem dX6_decide_46 : decode cX6_decide 46 = .ok (.iaload, 1) := by decide +kernel
theorem dX6_decide_47 : decode cX6_decide 47 = .ok (.invokevirtual 91, 3) := by decide +kernel
theorem dX6_decide_50 : decode cX6_decide 50 = .ok (.istore 5, 2) := by decide +kernel
theorem dX6_decide_52 : decode cX6_decide 52 = .ok (.aload_n 0, 1) := by decide +kernel
theorem dX6_decide_53 : decode cX6_decide 53 = .ok (.getfield 18, 3) := by decide +kernel
theorem dX6_decide_56 : decode cX6_decide 56 = .ok (.iload 4, 2) := by decide +kernel
theorem dX6_decide_58 : decode cX6_decide 58 = .ok (.aload_n 0, 1) := by decide +kernel
theorem dX6_decide_59 : decode cX6_decide 59 = .ok (.iload 5, 2) := by decide +kernel
theorem dX6_decide_61 : decode cX6_decide 61 = .ok (.invokevirtual 94, 3) := by decide +kernel
theorem dX6_decide_64 : decode cX6_decide 64 = .ok (.iastore, 1) := by decide +kernel
theorem dX6_decide_65 : decode cX6_decide 65 = .ok (.iload 5, 2) := by decide +kernel
theorem dX6_decide_67 : decode cX6_decide 67 = .ok (.aload_n 0, 1) := by decide +kernel
theorem dX6_decide_68 : decode cX6_decide 68 = .ok (.getfield 53, 3) := by decide +kernel
theorem dX6_decide_71 : decode cX6_decide 71 = .ok (.if_icmp .eq 24, 3) := by decide +kernel
theorem dX6_decide_74 : decode cX6_decide 74 = .ok (.aload_n 0, 1) := by decide +kernel
theorem dX6_decide_75 : decode cX6_decide 75 = .ok (.getfield 27, 3) := by decide +kernel
theorem dX6_decide_78 : decode cX6_decide 78 = .ok (.iload 4, 2) := by decide +kernel
theorem dX6_decide_80 : decode cX6_decide 80 = .ok (.iload 5, 2) := by decide +kernel
theorem dX6_decide_82 : decode cX6_decide 82 = .ok (.invokevirtual 97, 3) := by decide +kernel
theorem dX6_decide_85 : decode cX6_decide 85 = .ok (.ifCond .eq 10, 3) := by decide +kernel
theorem dX6_decide_88 : decode cX6_decide 88 = .ok (.iload_n 3, 1) := by decide +kernel
theorem dX6_decide_89 : decode cX6_decide 89 = .ok (.iconst 1, 1) := by decide +kernel
theorem dX6_decide_90 : decode cX6_decide 90 = .ok (.iload 4, 2) := by decide +kernel
theorem dX6_decide_92 : decode cX6_decide 92 = .ok (.ishl, 1) := by decide +kernel
theorem dX6_decide_93 : decode cX6_decide 93 = .ok (.ior, 1) := by decide +kernel
theorem dX6_decide_94 : decode cX6_decide 94 = .ok (.istore_n 3, 1) := by decide +kernel
theorem dX6_decide_95 : decode cX6_decide 95 = .ok (.iinc 4 1, 3) := by decide +kernel
theorem dX6_decide_98 : decode cX6_decide 98 = .ok (.goto (-81), 3) := by decide +kernel
theorem dX6_decide_101 : decode cX6_decide 101 = .ok (.iload_n 2, 1) := by decide +kernel
theorem dX6_decide_102 : decode cX6_decide 102 = .ok (.bipush 9, 2) := by decide +kernel
theorem dX6_decide_104 : decode cX6_decide 104 = .ok (.irem, 1) := by decide +kernel
theorem dX6_decide_105 : decode cX6_decide 105 = .ok (.ifCond .eq 10, 3) := by decide +kernel
theorem dX6_decide_108 : decode cX6_decide 108 = .ok (.iload_n 3, 1) := by decide +kernel
theorem dX6_decide_109 : decode cX6_decide 109 = .ok (.aload_n 0, 1) := by decide +kernel
theorem dX6_decide_110 : decode cX6_decide 110 = .ok (.getfield 47, 3) := by decide +kernel
theorem dX6_decide_113 : decode cX6_decide 113 = .ok (.ior, 1) := by decide +kernel
theorem dX6_decide_114 : decode cX6_decide 114 = .ok (.istore_n 3, 1) := by decide +kernel
theorem dX6_decide_115 : decode cX6_decide 115 = .ok (.aload_n 0, 1) := by decide +kernel
theorem dX6_decide_116 : decode cX6_decide 116 = .ok (.getfield 27, 3) := by decide +kernel
theorem dX6_decide_119 : decode cX6_decide 119 = .ok (.getfield 101, 3) := by decide +kernel
theorem dX6_decide_122 : decode cX6_decide 122 = .ok (.ifCond .le 22, 3) := by decide +kernel
theorem dX6_decide_125 : decode cX6_decide 125 = .ok (.iload_n 2, 1) := by decide +kernel
theorem dX6_decide_126 : decode cX6_decide 126 = .ok (.aload_n 0, 1) := by decide +kernel
theorem dX6_decide_127 : decode cX6_decide 127 = .ok (.getfield 27, 3) := by decide +kernel
theorem dX6_decide_130 : decode cX6_decide 130 = .ok (.getfield 101, 3) := by decide +kernel
theorem dX6_decide_133 : decode cX6_decide 133 = .ok (.irem, 1) := by decide +kernel
theorem dX6_decide_134 : decode cX6_decide 134 = .ok (.ifCond .eq 10, 3) := by decide +kernel
theorem dX6_decide_137 : decode cX6_decide 137 = .ok (.iload_n 3, 1) := by decide +kernel
theorem dX6_decide_138 : decode cX6_decide 138 = .ok (.aload_n 0, 1) := by decide +kernel
theorem dX6_decide_139 : decode cX6_decide 139 = .ok (.getfield 50, 3) := by decide +kernel
theorem dX6_decide_142 : decode cX6_decide 142 = .ok (.ior, 1) := by decide +kernel
theorem dX6_decide_143 : decode cX6_decide 143 = .ok (.istore_n 3, 1) := by decide +kernel
theorem dX6_decide_144 : decode cX6_decide 144 = .ok (.aload_n 0, 1) := by decide +kernel
theorem dX6_decide_145 : decode cX6_decide 145 = .ok (.iload_n 3, 1) := by decide +kernel
theorem dX6_decide_146 : decode cX6_decide 146 = .ok (.putfield 88, 3) := by decide +kernel
theorem dX6_decide_149 : decode cX6_decide 149 = .ok (.aload_n 0, 1) := by decide +kernel
theorem dX6_decide_150 : decode cX6_decide 150 = .ok (.iconst 1, 1) := by decide +kernel
theorem dX6_decide_151 : decode cX6_decide 151 = .ok (.aload_n 0, 1) := by decide +kernel
theorem dX6_decide_152 : decode cX6_decide 152 = .ok (.getfield 27, 3) := by decide +kernel
theorem dX6_decide_155 : decode cX6_decide 155 = .ok (.getfield 62, 3) := by decide +kernel
theorem dX6_decide_158 : decode cX6_decide 158 = .ok (.ishl, 1) := by decide +kernel
theorem dX6_decide_159 : decode cX6_decide 159 = .ok (.iconst 1, 1) := by decide +kernel
theorem dX6_decide_160 : decode cX6_decide 160 = .ok (.isub, 1) := by decide +kernel
theorem dX6_decide_161 : decode cX6_decide 161 = .ok (.aload_n 0, 1) := by decide +kernel
theorem dX6_decide_162 : decode cX6_decide 162 = .ok (.iload_n 3, 1) := by decide +kernel
theorem dX6_decide_163 : decode cX6_decide 163 = .ok (.invokevirtual 104, 3) := by decide +kernel
theorem dX6_decide_166 : decode cX6_decide 166 = .ok (.iconst (-1), 1) := by decide +kernel
theorem dX6_decide_167 : decode cX6_decide 167 = .ok (.ixor, 1) := by decide +kernel
theorem dX6_decide_168 : decode cX6_decide 168 = .ok (.iand, 1) := by decide +kernel
theorem dX6_decide_169 : decode cX6_decide 169 = .ok (.putfield 85, 3) := by decide +kernel
theorem dX6_decide_172 : decode cX6_decide 172 = .ok (.return_, 1) := by decide +kernel
theorem dX6_withThoseBehind_0 : decode cX6_withThoseBehind 0 = .ok (.iload_n 1, 1) := by decide +kernel
theorem dX6_withThoseBehind_1 : decode cX6_withThoseBehind 1 = .ok (.istore_n 2, 1) := by decide +kernel
theorem dX6_withThoseBehind_2 : decode cX6_withThoseBehind 2 = .ok (.iload_n 2, 1) := by decide +kernel
theorem dX6_withThoseBehind_3 : decode cX6_withThoseBehind 3 = .ok (.ifCond .eq 7, 3) := by decide +kernel
theorem dX6_withThoseBehind_6 : decode cX6_withThoseBehind 6 = .ok (.iconst 1, 1) := by decide +kernel
theorem dX6_withThoseBehind_7 : decode cX6_withThoseBehind 7 = .ok (.goto 4, 3) := by decide +kernel
theorem dX6_withThoseBehind_10 : decode cX6_withThoseBehind 10 = .ok (.iconst 0, 1) := by decide +kernel
theorem dX6_withThoseBehind_11 : decode cX6_withThoseBehind 11 = .ok (.istore_n 3, 1) := by decide +kernel
theorem dX6_withThoseBehind_12 : decode cX6_withThoseBehind 12 = .ok (.iconst 0, 1) := by decide +kernel
theorem dX6_withThoseBehind_13 : decode cX6_withThoseBehind 13 = .ok (.istore 4, 2) := by decide +kernel
theorem dX6_withThoseBehind_15 : decode cX6_withThoseBehind 15 = .ok (.iload 4, 2) := by decide +kernel
theorem dX6_withThoseBehind_17 : decode cX6_withThoseBehind 17 = .ok (.bipush 7, 2) := by decide +kernel
theorem dX6_withThoseBehind_19 : decode cX6_withThoseBehind 19 = .ok (.if_icmp .ge 84, 3) := by decide +kernel
theorem dX6_withThoseBehind_22 : decode cX6_withThoseBehind 22 = .ok (.iload_n 3, 1) := by decide +kernel
theorem dX6_withThoseBehind_23 : decode cX6_withThoseBehind 23 = .ok (.ifCond .eq 80, 3) := by decide +kernel
theorem dX6_withThoseBehind_26 : decode cX6_withThoseBehind 26 = .ok (.iconst 0, 1) := by decide +kernel
theorem dX6_withThoseBehind_27 : decode cX6_withThoseBehind 27 = .ok (.istore_n 3, 1) := by decide +kernel
theorem dX6_withThoseBehind_28 : decode cX6_withThoseBehind 28 = .ok (.iconst 0, 1) := by decide +kernel
theorem dX6_withThoseBehind_29 : decode cX6_withThoseBehind 29 = .ok (.istore 5, 2) := by decide +kernel
theorem dX6_withThoseBehind_31 : decode cX6_withThoseBehind 31 = .ok (.iload 5, 2) := by decide +kernel
theorem dX6_withThoseBehind_33 : decode cX6_withThoseBehind 33 = .ok (.aload_n 0, 1) := by decide +kernel
theorem dX6_withThoseBehind_34 : decode cX6_withThoseBehind 34 = .ok (.getfield 27, 3) := by decide +kernel
theorem dX6_withThoseBehind_37 : decode cX6_withThoseBehind 37 = .ok (.getfield 62, 3) := by decide +kernel
theorem dX6_withThoseBehind_40 : decode cX6_withThoseBehind 40 = .ok (.if_icmp .ge 57, 3) := by decide +kernel
theorem dX6_withThoseBehind_43 : decode cX6_withThoseBehind 43 = .ok (.iload 5, 2) := by decide +kernel
theorem dX6_withThoseBehind_45 : decode cX6_withThoseBehind 45 = .ok (.bipush 7, 2) := by decide +kernel
theorem dX6_withThoseBehind_47 : decode cX6_withThoseBehind 47 = .ok (.if_icmp .ge 50, 3) := by decide +kernel
theorem dX6_withThoseBehind_50 : decode cX6_withThoseBehind 50 = .ok (.aload_n 0, 1) := by decide +kernel
theorem dX6_withThoseBehind_51 : decode cX6_withThoseBehind 51 = .ok (.getfield 18, 3) := by decide +kernel
theorem dX6_withThoseBehind_54 : decode cX6_withThoseBehind 54 = .ok (.iload 5, 2) := by decide +kernel
theorem dX6_withThoseBehind_56 : decode cX6_withThoseBehind 56 = .ok (.iaload, 1) := by decide +kernel
theorem dX6_withThoseBehind_57 : decode cX6_withThoseBehind 57 = .ok (.istore 6, 2) := by decide +kernel
theorem dX6_withThoseBehind_59 : decode cX6_withThoseBehind 59 = .ok (.iload 6, 2) := by decide +kernel
theorem dX6_withThoseBehind_61 : decode cX6_withThoseBehind 61 = .ok (.ifCond .lt 30, 3) := by decide +kernel
theorem dX6_withThoseBehind_64 : decode cX6_withThoseBehind 64 = .ok (.iload_n 2, 1) := by decide +kernel
theorem dX6_withThoseBehind_65 : decode cX6_withThoseBehind 65 = .ok (.iload 6, 2) := by decide +kernel
theorem dX6_withThoseBehind_67 : decode cX6_withThoseBehind 67 = .ok (.ishr, 1) := by decide +kernel
theorem dX6_withThoseBehind_68 : decode cX6_withThoseBehind 68 = .ok (.iconst 1, 1) := by decide +kernel
theorem dX6_withThoseBehind_69 : decode cX6_withThoseBehind 69 = .ok (.iand, 1) := by decide +kernel
theorem dX6_withThoseBehind_70 : decode cX6_withThoseBehind 70 = .ok (.ifCond .eq 21, 3) := by decide +kernel
theorem dX6_withThoseBehind_73 : decode cX6_withThoseBehind 73 = .ok (.iload_n 2, 1) := by decide +kernel
theorem dX6_withThoseBehind_74 : decode cX6_withThoseBehind 74 = .ok (.iload 5, 2) := by decide +kernel
theorem dX6_withThoseBehind_76 : decode cX6_withThoseBehind 76 = .ok (.ishr, 1) := by decide +kernel
theorem dX6_withThoseBehind_77 : decode cX6_withThoseBehind 77 = .ok (.iconst 1, 1) := by decide +kernel
theorem dX6_withThoseBehind_78 : decode cX6_withThoseBehind 78 = .ok (.iand, 1) := by decide +kernel
theorem dX6_withThoseBehind_79 : decode cX6_withThoseBehind 79 = .ok (.ifCond .ne 12, 3) := by decide +kernel
theorem dX6_withThoseBehind_82 : decode cX6_withThoseBehind 82 = .ok (.iload_n 2, 1) := by decide +kernel
theorem dX6_withThoseBehind_83 : decode cX6_withThoseBehind 83 = .ok (.iconst 1, 1) := by decide +kernel
theorem dX6_withThoseBehind_84 : decode cX6_withThoseBehind 84 = .ok (.iload 5, 2) := by decide +kernel
theorem dX6_withThoseBehind_86 : decode cX6_withThoseBehind 86 = .ok (.ishl, 1) := by decide +kernel
theorem dX6_withThoseBehind_87 : decode cX6_withThoseBehind 87 = .ok (.ior, 1) := by decide +kernel
theorem dX6_withThoseBehind_88 : decode cX6_withThoseBehind 88 = .ok (.istore_n 2, 1) := by decide +kernel
theorem dX6_withThoseBehind_89 : decode cX6_withThoseBehind 89 = .ok (.iconst 1, 1) := by decide +kernel
theorem dX6_withThoseBehind_90 : decode cX6_withThoseBehind 90 = .ok (.istore_n 3, 1) := by decide +kernel
theorem dX6_withThoseBehind_91 : decode cX6_withThoseBehind 91 = .ok (.iinc 5 1, 3) := by decide +kernel
theorem dX6_withThoseBehind_94 : decode cX6_withThoseBehind 94 = .ok (.goto (-63), 3) := by decide +kernel
theorem dX6_withThoseBehind_97 : decode cX6_withThoseBehind 97 = .ok (.iinc 4 1, 3) := by decide +kernel
theorem dX6_withThoseBehind_100 : decode cX6_withThoseBehind 100 = .ok (.goto (-85), 3) := by decide +kernel
theorem dX6_withThoseBehind_103 : decode cX6_withThoseBehind 103 = .ok (.iload_n 2, 1) := by decide +kernel
theorem dX6_withThoseBehind_104 : decode cX6_withThoseBehind 104 = .ok (.ireturn, 1) := by decide +kernel
theorem dX6_pass_0 : decode cX6_pass 0 = .ok (.aload_n 0, 1) := by decide +kernel
theorem dX6_pass_1 : decode cX6_pass 1 = .ok (.iload_n 1, 1) := by decide +kernel
theorem dX6_pass_2 : decode cX6_pass 2 = .ok (.invokevirtual 107, 3) := by decide +kernel
theorem dX6_pass_5 : decode cX6_pass 5 = .ok (.aload_n 0, 1) := by decide +kernel
theorem dX6_pass_6 : decode cX6_pass 6 = .ok (.dup, 1) := by decide +kernel
theorem dX6_pass_7 : decode cX6_pass 7 = .ok (.getfield 37, 3) := by decide +kernel
theorem dX6_pass_10 : decode cX6_pass 10 = .ok (.iconst 1, 1) := by decide +kernel
theorem dX6_pass_11 : decode cX6_pass 11 = .ok (.iadd, 1) := by decide +kernel
theorem dX6_pass_12 : decode cX6_pass 12 = .ok (.putfield 37, 3) := by decide +kernel
theorem dX6_pass_15 : decode cX6_pass 15 = .ok (.iconst 0, 1) := by decide +kernel
theorem dX6_pass_16 : decode cX6_pass 16 = .ok (.istore_n 2, 1) := by decide +kernel
theorem dX6_pass_17 : decode cX6_pass 17 = .ok (.iload_n 2, 1) := by decide +kernel
theorem dX6_pass_18 : decode cX6_pass 18 = .ok (.aload_n 0, 1) := by decide +kernel
theorem dX6_pass_19 : decode cX6_pass 19 = .ok (.getfield 27, 3) := by decide +kernel
theorem dX6_pass_22 : decode cX6_pass 22 = .ok (.getfield 62, 3) := by decide +kernel
theorem dX6_pass_25 : decode cX6_pass 25 = .ok (.if_icmp .ge 37, 3) := by decide +kernel
theorem dX6_pass_28 : decode cX6_pass 28 = .ok (.iload_n 2, 1) := by decide +kernel
theorem dX6_pass_29 : decode cX6_pass 29 = .ok (.bipush 7, 2) := by decide +kernel
theorem dX6_pass_31 : decode cX6_pass 31 = .ok (.if_icmp .ge 31, 3) := by decide +kernel
theorem dX6_pass_34 : decode cX6_pass 34 = .ok (.aload_n 0, 1) := by decide +kernel
theorem dX6_pass_35 : decode cX6_pass 35 = .ok (.getfield 85, 3) := by decide +kernel
theorem dX6_pass_38 : decode cX6_pass 38 = .ok (.iload_n 2, 1) := by decide +kernel
theorem dX6_pass_39 : decode cX6_pass 39 = .ok (.ishr, 1) := by decide +kernel
theorem dX6_pass_40 : decode cX6_pass 40 = .ok (.iconst 1, 1) := by decide +kernel
theorem dX6_pass_41 : decode cX6_pass 41 = .ok (.iand, 1) := by decide +kernel
theorem dX6_pass_42 : decode cX6_pass 42 = .ok (.ifCond .eq 14, 3) := by decide +kernel
theorem dX6_pass_45 : decode cX6_pass 45 = .ok (.aload_n 0, 1) := by decide +kernel
theorem dX6_pass_46 : decode cX6_pass 46 = .ok (.iconst (-1), 1) := by decide +kernel
theorem dX6_pass_47 : decode cX6_pass 47 = .ok (.aload_n 0, 1) := by decide +kernel
theorem dX6_pass_48 : decode cX6_pass 48 = .ok (.getfield 9, 3) := by decide +kernel
theorem dX6_pass_51 : decode cX6_pass 51 = .ok (.iload_n 2, 1) := by decide +kernel
theorem dX6_pass_52 : decode cX6_pass 52 = .ok (.iaload, 1) := by decide +kernel
theorem dX6_pass_53 : decode cX6_pass 53 = .ok (.invokevirtual 72, 3) := by decide +kernel
theorem dX6_pass_56 : decode cX6_pass 56 = .ok (.iinc 2 1, 3) := by decide +kernel
theorem dX6_pass_59 : decode cX6_pass 59 = .ok (.goto (-42), 3) := by decide +kernel
theorem dX6_pass_62 : decode cX6_pass 62 = .ok (.iconst 0, 1) := by decide +kernel
theorem dX6_pass_63 : decode cX6_pass 63 = .ok (.istore_n 2, 1) := by decide +kernel
theorem dX6_pass_64 : decode cX6_pass 64 = .ok (.iload_n 2, 1) := by decide +kernel
theorem dX6_pass_65 : decode cX6_pass 65 = .ok (.aload_n 0, 1) := by decide +kernel
theorem dX6_pass_66 : decode cX6_pass 66 = .ok (.getfield 27, 3) := by decide +kernel
theorem dX6_pass_69 : decode cX6_pass 69 = .ok (.getfield 62, 3) := by decide +kernel
theorem dX6_pass_72 : decode cX6_pass 72 = .ok (.if_icmp .ge 56, 3) := by decide +kernel
theorem dX6_pass_75 : decode cX6_pass 75 = .ok (.iload_n 2, 1) := by decide +kernel
theorem dX6_pass_76 : decode cX6_pass 76 = .ok (.bipush 7, 2) := by decide +kernel
theorem dX6_pass_78 : decode cX6_pass 78 = .ok (.if_icmp .ge 50, 3) := by decide +kernel
theorem dX6_pass_81 : decode cX6_pass 81 = .ok (.aload_n 0, 1) := by decide +kernel
theorem dX6_pass_82 : decode cX6_pass 82 = .ok (.getfield 85, 3) := by decide +kernel
theorem dX6_pass_85 : decode cX6_pass 85 = .ok (.iload_n 2, 1) := by decide +kernel
theorem dX6_pass_86 : decode cX6_pass 86 = .ok (.ishr, 1) := by decide +kernel
theorem dX6_pass_87 : decode cX6_pass 87 = .ok (.iconst 1, 1) := by decide +kernel
theorem dX6_pass_88 : decode cX6_pass 88 = .ok (.iand, 1) := by decide +kernel
theorem dX6_pass_89 : decode cX6_pass 89 = .ok (.ifCond .eq 33, 3) := by decide +kernel
theorem dX6_pass_92 : decode cX6_pass 92 = .ok (.aload_n 0, 1) := by decide +kernel
theorem dX6_pass_93 : decode cX6_pass 93 = .ok (.getfield 9, 3) := by decide +kernel
theorem dX6_pass_96 : decode cX6_pass 96 = .ok (.iload_n 2, 1) := by decide +kernel
theorem dX6_pass_97 : decode cX6_pass 97 = .ok (.aload_n 0, 1) := by decide +kernel
theorem dX6_pass_98 : decode cX6_pass 98 = .ok (.getfield 27, 3) := by decide +kernel
theorem dX6_pass_101 : decode cX6_pass 101 = .ok (.aload_n 0, 1) := by decide +kernel
theorem dX6_pass_102 : decode cX6_pass 102 = .ok (.getfield 9, 3) := by decide +kernel
theorem dX6_pass_105 : decode cX6_pass 105 = .ok (.iload_n 2, 1) := by decide +kernel
theorem dX6_pass_106 : decode cX6_pass 106 = .ok (.iaload, 1) := by decide +kernel
theorem dX6_pass_107 : decode cX6_pass 107 = .ok (.invokevirtual 91, 3) := by decide +kernel
theorem dX6_pass_110 : decode cX6_pass 110 = .ok (.iastore, 1) := by decide +kernel
theorem dX6_pass_111 : decode cX6_pass 111 = .ok (.aload_n 0, 1) := by decide +kernel
theorem dX6_pass_112 : decode cX6_pass 112 = .ok (.iload_n 2, 1) := by decide +kernel
theorem dX6_pass_113 : decode cX6_pass 113 = .ok (.aload_n 0, 1) := by decide +kernel
theorem dX6_pass_114 : decode cX6_pass 114 = .ok (.getfield 9, 3) := by decide +kernel
theorem dX6_pass_117 : decode cX6_pass 117 = .ok (.iload_n 2, 1) := by decide +kernel
theorem dX6_pass_118 : decode cX6_pass 118 = .ok (.iaload, 1) := by decide +kernel
theorem dX6_pass_119 : decode cX6_pass 119 = .ok (.invokevirtual 72, 3) := by decide +kernel
theorem dX6_pass_122 : decode cX6_pass 122 = .ok (.iinc 2 1, 3) := by decide +kernel
theorem dX6_pass_125 : decode cX6_pass 125 = .ok (.goto (-61), 3) := by decide +kernel
theorem dX6_pass_128 : decode cX6_pass 128 = .ok (.return_, 1) := by decide +kernel
theorem dX6_passDamp_0 : decode cX6_passDamp 0 = .ok (.iconst 0, 1) := by decide +kernel
theorem dX6_passDamp_1 : decode cX6_passDamp 1 = .ok (.istore_n 1, 1) := by decide +kernel
theorem dX6_passDamp_2 : decode cX6_passDamp 2 = .ok (.iconst 0, 1) := by decide +kernel
theorem dX6_passDamp_3 : decode cX6_passDamp 3 = .ok (.istore_n 2, 1) := by decide +kernel
theorem dX6_passDamp_4 : decode cX6_passDamp 4 = .ok (.iload_n 2, 1) := by decide +kernel
theorem dX6_passDamp_5 : decode cX6_passDamp 5 = .ok (.aload_n 0, 1) := by decide +kernel
theorem dX6_passDamp_6 : decode cX6_passDamp 6 = .ok (.getfield 27, 3) := by decide +kernel
theorem dX6_passDamp_9 : decode cX6_passDamp 9 = .ok (.getfield 62, 3) := by decide +kernel
theorem dX6_passDamp_12 : decode cX6_passDamp 12 = .ok (.if_icmp .ge 59, 3) := by decide +kernel
theorem dX6_passDamp_15 : decode cX6_passDamp 15 = .ok (.iload_n 2, 1) := by decide +kernel
theorem dX6_passDamp_16 : decode cX6_passDamp 16 = .ok (.bipush 7, 2) := by decide +kernel
theorem dX6_passDamp_18 : decode cX6_passDamp 18 = .ok (.if_icmp .ge 53, 3) := by decide +kernel
theorem dX6_passDamp_21 : decode cX6_passDamp 21 = .ok (.aload_n 0, 1) := by decide +kernel
theorem dX6_passDamp_22 : decode cX6_passDamp 22 = .ok (.bipush 75, 2) := by decide +kernel
theorem dX6_passDamp_24 : decode cX6_passDamp 24 = .ok (.aload_n 0, 1) := by decide +kernel
theorem dX6_passDamp_25 : decode cX6_passDamp 25 = .ok (.getfield 82, 3) := by decide +kernel
theorem dX6_passDamp_28 : decode cX6_passDamp 28 = .ok (.imul, 1) := by decide +kernel
theorem dX6_passDamp_29 : decode cX6_passDamp 29 = .ok (.bipush 74, 2) := by decide +kernel
theorem dX6_passDamp_31 : decode cX6_passDamp 31 = .ok (.iadd, 1) := by decide +kernel
theorem dX6_passDamp_32 : decode cX6_passDamp 32 = .ok (.ldc 111, 2) := by decide +kernel
theorem dX6_passDamp_34 : decode cX6_passDamp 34 = .ok (.irem, 1) := by decide +kernel
theorem dX6_passDamp_35 : decode cX6_passDamp 35 = .ok (.putfield 82, 3) := by decide +kernel
theorem dX6_passDamp_38 : decode cX6_passDamp 38 = .ok (.iload_n 1, 1) := by decide +kernel
theorem dX6_passDamp_39 : decode cX6_passDamp 39 = .ok (.aload_n 0, 1) := by decide +kernel
theorem dX6_passDamp_40 : decode cX6_passDamp 40 = .ok (.getfield 82, 3) := by decide +kernel
theorem dX6_passDamp_43 : decode cX6_passDamp 43 = .ok (.bipush 100, 2) := by decide +kernel
theorem dX6_passDamp_45 : decode cX6_passDamp 45 = .ok (.irem, 1) := by decide +kernel
theorem dX6_passDamp_46 : decode cX6_passDamp 46 = .ok (.aload_n 0, 1) := by decide +kernel
theorem dX6_passDamp_47 : decode cX6_passDamp 47 = .ok (.getfield 27, 3) := by decide +kernel
theorem dX6_passDamp_50 : decode cX6_passDamp 50 = .ok (.getfield 112, 3) := by decide +kernel
theorem dX6_passDamp_53 : decode cX6_passDamp 53 = .ok (.if_icmp .ge 9, 3) := by decide +kernel
theorem dX6_passDamp_56 : decode cX6_passDamp 56 = .ok (.iconst 1, 1) := by decide +kernel
theorem dX6_passDamp_57 : decode cX6_passDamp 57 = .ok (.iload_n 2, 1) := by decide +kernel
theorem dX6_passDamp_58 : decode cX6_passDamp 58 = .ok (.ishl, 1) := by decide +kernel
theorem dX6_passDamp_59 : decode cX6_passDamp 59 = .ok (.goto 4, 3) := by decide +kernel
theorem dX6_passDamp_62 : decode cX6_passDamp 62 = .ok (.iconst 0, 1) := by decide +kernel
theorem dX6_passDamp_63 : decode cX6_passDamp 63 = .ok (.ior, 1) := by decide +kernel
theorem dX6_passDamp_64 : decode cX6_passDamp 64 = .ok (.istore_n 1, 1) := by decide +kernel
theorem dX6_passDamp_65 : decode cX6_passDamp 65 = .ok (.iinc 2 1, 3) := by decide +kernel
theorem dX6_passDamp_68 : decode cX6_passDamp 68 = .ok (.goto (-64), 3) := by decide +kernel
theorem dX6_passDamp_71 : decode cX6_passDamp 71 = .ok (.aload_n 0, 1) := by decide +kernel
theorem dX6_passDamp_72 : decode cX6_passDamp 72 = .ok (.iload_n 1, 1) := by decide +kernel
theorem dX6_passDamp_73 : decode cX6_passDamp 73 = .ok (.invokevirtual 115, 3) := by decide +kernel
theorem dX6_passDamp_76 : decode cX6_passDamp 76 = .ok (.return_, 1) := by decide +kernel
theorem dX6_goOn_0 : decode cX6_goOn 0 = .ok (.iconst 0, 1) := by decide +kernel
theorem dX6_goOn_1 : decode cX6_goOn 1 = .ok (.istore_n 2, 1) := by decide +kernel
theorem dX6_goOn_2 : decode cX6_goOn 2 = .ok (.iconst 0, 1) := by decide +kernel
theorem dX6_goOn_3 : decode cX6_goOn 3 = .ok (.istore_n 3, 1) := by decide +kernel
theorem dX6_goOn_4 : decode cX6_goOn 4 = .ok (.iload_n 3, 1) := by decide +kernel
theorem dX6_goOn_5 : decode cX6_goOn 5 = .ok (.iload_n 1, 1) := by decide +kernel
theorem dX6_goOn_6 : decode cX6_goOn 6 = .ok (.if_icmp .ge 24, 3) := by decide +kernel
theorem dX6_goOn_9 : decode cX6_goOn 9 = .ok (.aload_n 0, 1) := by decide +kernel
theorem dX6_goOn_10 : decode cX6_goOn 10 = .ok (.iconst 0, 1) := by decide +kernel
theorem dX6_goOn_11 : decode cX6_goOn 11 = .ok (.invokevirtual 115, 3) := by decide +kernel
theorem dX6_goOn_14 : decode cX6_goOn 14 = .ok (.iload_n 2, 1) := by decide +kernel
theorem dX6_goOn_15 : decode cX6_goOn 15 = .ok (.aload_n 0, 1) := by decide +kernel
theorem dX6_goOn_16 : decode cX6_goOn 16 = .ok (.getfield 85, 3) := by decide +kernel
theorem dX6_goOn_19 : decode cX6_goOn 19 = .ok (.invokestatic 118, 3) := by decide +kernel
theorem dX6_goOn_22 : decode cX6_goOn 22 = .ok (.iadd, 1) := by decide +kernel
theorem dX6_goOn_23 : decode cX6_goOn 23 = .ok (.istore_n 2, 1) := by decide +kernel
theorem dX6_goOn_24 : decode cX6_goOn 24 = .ok (.iinc 3 1, 3) := by decide +kernel
theorem dX6_goOn_27 : decode cX6_goOn 27 = .ok (.goto (-23), 3) := by decide +kernel
theorem dX6_goOn_30 : decode cX6_goOn 30 = .ok (.iload_n 2, 1) := by decide +kernel
theorem dX6_goOn_31 : decode cX6_goOn 31 = .ok (.ireturn, 1) := by decide +kernel
theorem dX6_atDoor_0 : decode cX6_atDoor 0 = .ok (.aload_n 0, 1) := by decide +kernel
theorem dX6_atDoor_1 : decode cX6_atDoor 1 = .ok (.getfield 27, 3) := by decide +kernel
theorem dX6_atDoor_4 : decode cX6_atDoor 4 = .ok (.aload_n 0, 1) := by decide +kernel
theorem dX6_atDoor_5 : decode cX6_atDoor 5 = .ok (.iload_n 1, 1) := by decide +kernel
theorem dX6_atDoor_6 : decode cX6_atDoor 6 = .ok (.invokevirtual 123, 3) := by decide +kernel
theorem dX6_atDoor_9 : decode cX6_atDoor 9 = .ok (.aload_n 0, 1) := by decide +kernel
theorem dX6_atDoor_10 : decode cX6_atDoor 10 = .ok (.iload_n 2, 1) := by decide +kernel
theorem dX6_atDoor_11 : decode cX6_atDoor 11 = .ok (.invokevirtual 123, 3) := by decide +kernel
theorem dX6_atDoor_14 : decode cX6_atDoor 14 = .ok (.invokevirtual 124, 3) := by decide +kernel
theorem dX6_atDoor_17 : decode cX6_atDoor 17 = .ok (.ireturn, 1) := by decide +kernel
theorem dX6_isAsIn_0 : decode cX6_isAsIn 0 = .ok (.iconst 0, 1) := by decide +kernel
theorem dX6_isAsIn_1 : decode cX6_isAsIn 1 = .ok (.istore_n 2, 1) := by decide +kernel
theorem dX6_isAsIn_2 : decode cX6_isAsIn 2 = .ok (.iload_n 2, 1) := by decide +kernel
theorem dX6_isAsIn_3 : decode cX6_isAsIn 3 = .ok (.aload_n 0, 1) := by decide +kernel
theorem dX6_isAsIn_4 : decode cX6_isAsIn 4 = .ok (.getfield 27, 3) := by decide +kernel
theorem dX6_isAsIn_7 : decode cX6_isAsIn 7 = .ok (.getfield 62, 3) := by decide +kernel
theorem dX6_isAsIn_10 : decode cX6_isAsIn 10 = .ok (.if_icmp .ge 31, 3) := by decide +kernel
theorem dX6_isAsIn_13 : decode cX6_isAsIn 13 = .ok (.iload_n 2, 1) := by decide +kernel
theorem dX6_isAsIn_14 : decode cX6_isAsIn 14 = .ok (.bipush 7, 2) := by decide +kernel
theorem dX6_isAsIn_16 : decode cX6_isAsIn 16 = .ok (.if_icmp .ge 25, 3) := by decide +kernel
theorem dX6_isAsIn_19 : decode cX6_isAsIn 19 = .ok (.aload_n 0, 1) := by decide +kernel
theorem dX6_isAsIn_20 : decode cX6_isAsIn 20 = .ok (.getfield 9, 3) := by decide +kernel
theorem dX6_isAsIn_23 : decode cX6_isAsIn 23 = .ok (.iload_n 2, 1) := by decide +kernel
theorem dX6_isAsIn_24 : decode cX6_isAsIn 24 = .ok (.iaload, 1) := by decide +kernel
theorem dX6_isAsIn_25 : decode cX6_isAsIn 25 = .ok (.aload_n 1, 1) := by decide +kernel
theorem dX6_isAsIn_26 : decode cX6_isAsIn 26 = .ok (.iload_n 2, 1) := by decide +kernel
theorem dX6_isAsIn_27 : decode cX6_isAsIn 27 = .ok (.invokevirtual 65, 3) := by decide +kernel
theorem dX6_isAsIn_30 : decode cX6_isAsIn 30 = .ok (.if_icmp .eq 5, 3) := by decide +kernel
theorem dX6_isAsIn_33 : decode cX6_isAsIn 33 = .ok (.iconst 0, 1) := by decide +kernel
theorem dX6_isAsIn_34 : decode cX6_isAsIn 34 = .ok (.ireturn, 1) := by decide +kernel
theorem dX6_isAsIn_35 : decode cX6_isAsIn 35 = .ok (.iinc 2 1, 3) := by decide +kernel
theorem dX6_isAsIn_38 : decode cX6_isAsIn 38 = .ok (.goto (-36), 3) := by decide +kernel
theorem dX6_isAsIn_41 : decode cX6_isAsIn 41 = .ok (.iconst 1, 1) := by decide +kernel
theorem dX6_isAsIn_42 : decode cX6_isAsIn 42 = .ok (.ireturn, 1) := by decide +kernel
theorem dX6_pairAt_0 : decode cX6_pairAt 0 = .ok (.aload_n 0, 1) := by decide +kernel
theorem dX6_pairAt_1 : decode cX6_pairAt 1 = .ok (.aload_n 0, 1) := by decide +kernel
theorem dX6_pairAt_2 : decode cX6_pairAt 2 = .ok (.getfield 27, 3) := by decide +kernel
theorem dX6_pairAt_5 : decode cX6_pairAt 5 = .ok (.iload_n 1, 1) := by decide +kernel
theorem dX6_pairAt_6 : decode cX6_pairAt 6 = .ok (.iconst 0, 1) := by decide +kernel
theorem dX6_pairAt_7 : decode cX6_pairAt 7 = .ok (.invokevirtual 127, 3) := by decide +kernel
theorem dX6_pairAt_10 : decode cX6_pairAt 10 = .ok (.invokevirtual 94, 3) := by decide +kernel
theorem dX6_pairAt_13 : decode cX6_pairAt 13 = .ok (.istore_n 2, 1) := by decide +kernel
theorem dX6_pairAt_14 : decode cX6_pairAt 14 = .ok (.aload_n 0, 1) := by decide +kernel
theorem dX6_pairAt_15 : decode cX6_pairAt 15 = .ok (.aload_n 0, 1) := by decide +kernel
theorem dX6_pairAt_16 : decode cX6_pairAt 16 = .ok (.getfield 27, 3) := by decide +kernel
theorem dX6_pairAt_19 : decode cX6_pairAt 19 = .ok (.iload_n 1, 1) := by decide +kernel
theorem dX6_pairAt_20 : decode cX6_pairAt 20 = .ok (.iconst 1, 1) := by decide +kernel
theorem dX6_pairAt_21 : decode cX6_pairAt 21 = .ok (.invokevirtual 127, 3) := by decide +kernel
theorem dX6_pairAt_24 : decode cX6_pairAt 24 = .ok (.invokevirtual 94, 3) := by decide +kernel
theorem dX6_pairAt_27 : decode cX6_pairAt 27 = .ok (.istore_n 3, 1) := by decide +kernel
theorem dX6_pairAt_28 : decode cX6_pairAt 28 = .ok (.iload_n 2, 1) := by decide +kernel
theorem dX6_pairAt_29 : decode cX6_pairAt 29 = .ok (.ifCond .lt 7, 3) := by decide +kernel
theorem dX6_pairAt_32 : decode cX6_pairAt 32 = .ok (.iload_n 3, 1) := by decide +kernel
theorem dX6_pairAt_33 : decode cX6_pairAt 33 = .ok (.ifCond .ge 6, 3) := by decide +kernel
theorem dX6_pairAt_36 : decode cX6_pairAt 36 = .ok (.bipush (-2), 2) := by decide +kernel
theorem dX6_pairAt_38 : decode cX6_pairAt 38 = .ok (.ireturn, 1) := by decide +kernel
theorem dX6_pairAt_39 : decode cX6_pairAt 39 = .ok (.bipush 10, 2) := by decide +kernel
theorem dX6_pairAt_41 : decode cX6_pairAt 41 = .ok (.iload_n 2, 1) := by decide +kernel
theorem dX6_pairAt_42 : decode cX6_pairAt 42 = .ok (.iload_n 3, 1) := by decide +kernel
theorem dX6_pairAt_43 : decode cX6_pairAt 43 = .ok (.invokestatic 131, 3) := by decide +kernel
theorem dX6_pairAt_46 : decode cX6_pairAt 46 = .ok (.imul, 1) := by decide +kernel
theorem dX6_pairAt_47 : decode cX6_pairAt 47 = .ok (.iload_n 2, 1) := by decide +kernel
theorem dX6_pairAt_48 : decode cX6_pairAt 48 = .ok (.iload_n 3, 1) := by decide +kernel
theorem dX6_pairAt_49 : decode cX6_pairAt 49 = .ok (.invokestatic 137, 3) := by decide +kernel
theorem dX6_pairAt_52 : decode cX6_pairAt 52 = .ok (.iadd, 1) := by decide +kernel
theorem dX6_pairAt_53 : decode cX6_pairAt 53 = .ok (.ireturn, 1) := by decide +kernel
theorem dX6_firstPair_0 : decode cX6_firstPair 0 = .ok (.bipush (-2), 2) := by decide +kernel
theorem dX6_firstPair_2 : decode cX6_firstPair 2 = .ok (.istore_n 1, 1) := by decide +kernel
theorem dX6_firstPair_3 : decode cX6_firstPair 3 = .ok (.iconst 0, 1) := by decide +kernel
theorem dX6_firstPair_4 : decode cX6_firstPair 4 = .ok (.istore_n 2, 1) := by decide +kernel
theorem dX6_firstPair_5 : decode cX6_firstPair 5 = .ok (.iload_n 2, 1) := by decide +kernel
theorem dX6_firstPair_6 : decode cX6_firstPair 6 = .ok (.aload_n 0, 1) := by decide +kernel
theorem dX6_firstPair_7 : decode cX6_firstPair 7 = .ok (.getfield 27, 3) := by decide +kernel
theorem dX6_firstPair_10 : decode cX6_firstPair 10 = .ok (.getfield 140, 3) := by decide +kernel
theorem dX6_firstPair_13 : decode cX6_firstPair 13 = .ok (.if_icmp .ge 32, 3) := by decide +kernel
theorem dX6_firstPair_16 : decode cX6_firstPair 16 = .ok (.aload_n 0, 1) := by decide +kernel
theorem dX6_firstPair_17 : decode cX6_firstPair 17 = .ok (.iload_n 2, 1) := by decide +kernel
theorem dX6_firstPair_18 : decode cX6_firstPair 18 = .ok (.invokevirtual 143, 3) := by decide +kernel
theorem dX6_firstPair_21 : decode cX6_firstPair 21 = .ok (.istore_n 3, 1) := by decide +kernel
theorem dX6_firstPair_22 : decode cX6_firstPair 22 = .ok (.iload_n 3, 1) := by decide +kernel
theorem dX6_firstPair_23 : decode cX6_firstPair 23 = .ok (.ifCond .lt 16, 3) := by decide +kernel
theorem dX6_firstPair_26 : decode cX6_firstPair 26 = .ok (.iload_n 1, 1) := by decide +kernel
theorem dX6_firstPair_27 : decode cX6_firstPair 27 = .ok (.bipush (-2), 2) := by decide +kernel
theorem dX6_firstPair_29 : decode cX6_firstPair 29 = .ok (.if_icmp .eq 8, 3) := by decide +kernel
theorem dX6_firstPair_32 : decode cX6_firstPair 32 = .ok (.iload_n 3, 1) := by decide +kernel
theorem dX6_firstPair_33 : decode cX6_firstPair 33 = .ok (.iload_n 1, 1) := by decide +kernel
theorem dX6_firstPair_34 : decode cX6_firstPair 34 = .ok (.if_icmp .ge 5, 3) := by decide +kernel
theorem dX6_firstPair_37 : decode cX6_firstPair 37 = .ok (.iload_n 3, 1) := by decide +kernel
theorem dX6_firstPair_38 : decode cX6_firstPair 38 = .ok (.istore_n 1, 1) := by decide +kernel
theorem dX6_firstPair_39 : decode cX6_firstPair 39 = .ok (.iinc 2 1, 3) := by decide +kernel
theorem dX6_firstPair_42 : decode cX6_firstPair 42 = .ok (.goto (-37), 3) := by decide +kernel
theorem dX6_firstPair_45 : decode cX6_firstPair 45 = .ok (.iload_n 1, 1) := by decide +kernel
theorem dX6_firstPair_46 : decode cX6_firstPair 46 = .ok (.ireturn, 1) := by decide +kernel
theorem dX6_mostPair_0 : decode cX6_mostPair 0 = .ok (.aload_n 0, 1) := by decide +kernel
theorem dX6_mostPair_1 : decode cX6_mostPair 1 = .ok (.getfield 21, 3) := by decide +kernel
theorem dX6_mostPair_4 : decode cX6_mostPair 4 = .ok (.iconst 0, 1) := by decide +kernel
theorem dX6_mostPair_5 : decode cX6_mostPair 5 = .ok (.invokestatic 56, 3) := by decide +kernel
theorem dX6_mostPair_8 : decode cX6_mostPair 8 = .ok (.iconst 0, 1) := by decide +kernel
theorem dX6_mostPair_9 : decode cX6_mostPair 9 = .ok (.istore_n 2, 1) := by decide +kernel
theorem dX6_mostPair_10 : decode cX6_mostPair 10 = .ok (.iload_n 2, 1) := by decide +kernel
theorem dX6_mostPair_11 : decode cX6_mostPair 11 = .ok (.iload_n 1, 1) := by decide +kernel
theorem dX6_mostPair_12 : decode cX6_mostPair 12 = .ok (.if_icmp .ge 63, 3) := by decide +kernel
theorem dX6_mostPair_15 : decode cX6_mostPair 15 = .ok (.aload_n 0, 1) := by decide +kernel
theorem dX6_mostPair_16 : decode cX6_mostPair 16 = .ok (.iconst 0, 1) := by decide +kernel
theorem dX6_mostPair_17 : decode cX6_mostPair 17 = .ok (.invokevirtual 115, 3) := by decide +kernel
theorem dX6_mostPair_20 : decode cX6_mostPair 20 = .ok (.iconst 0, 1) := by decide +kernel
theorem dX6_mostPair_21 : decode cX6_mostPair 21 = .ok (.istore_n 3, 1) := by decide +kernel
theorem dX6_mostPair_22 : decode cX6_mostPair 22 = .ok (.iload_n 3, 1) := by decide +kernel
theorem dX6_mostPair_23 : decode cX6_mostPair 23 = .ok (.aload_n 0, 1) := by decide +kernel
theorem dX6_mostPair_24 : decode cX6_mostPair 24 = .ok (.getfield 27, 3) := by decide +kernel
theorem dX6_mostPair_27 : decode cX6_mostPair 27 = .ok (.getfield 140, 3) := by decide +kernel
theorem dX6_mostPair_30 : decode cX6_mostPair 30 = .ok (.if_icmp .ge 39, 3) := by decide +kernel
theorem dX6_mostPair_33 : decode cX6_mostPair 33 = .ok (.aload_n 0, 1) := by decide +kernel
theorem dX6_mostPair_34 : decode cX6_mostPair 34 = .ok (.iload_n 3, 1) := by decide +kernel
theorem dX6_mostPair_35 : decode cX6_mostPair 35 = .ok (.invokevirtual 143, 3) := by decide +kernel
theorem dX6_mostPair_38 : decode cX6_mostPair 38 = .ok (.istore 4, 2) := by decide +kernel
theorem dX6_mostPair_40 : decode cX6_mostPair 40 = .ok (.iload 4, 2) := by decide +kernel
theorem dX6_mostPair_42 : decode cX6_mostPair 42 = .ok (.ifCond .lt 21, 3) := by decide +kernel
theorem dX6_mostPair_45 : decode cX6_mostPair 45 = .ok (.iload 4, 2) := by decide +kernel
theorem dX6_mostPair_47 : decode cX6_mostPair 47 = .ok (.bipush 70, 2) := by decide +kernel
theorem dX6_mostPair_49 : decode cX6_mostPair 49 = .ok (.if_icmp .ge 14, 3) := by decide +kernel
theorem dX6_mostPair_52 : decode cX6_mostPair 52 = .ok (.aload_n 0, 1) := by decide +kernel
theorem dX6_mostPair_53 : decode cX6_mostPair 53 = .ok (.getfield 21, 3) := by decide +kernel
theorem dX6_mostPair_56 : decode cX6_mostPair 56 = .ok (.iload 4, 2) := by decide +kernel
theorem dX6_mostPair_58 : decode cX6_mostPair 58 = .ok (.dup2, 1) := by decide +kernel
theorem dX6_mostPair_59 : decode cX6_mostPair 59 = .ok (.iaload, 1) := by decide +kernel
theorem dX6_mostPair_60 : decode cX6_mostPair 60 = .ok (.iconst 1, 1) := by decide +kernel
theorem dX6_mostPair_61 : decode cX6_mostPair 61 = .ok (.iadd, 1) := by decide +kernel
theorem dX6_mostPair_62 : decode cX6_mostPair 62 = .ok (.iastore, 1) := by decide +kernel
theorem dX6_mostPair_63 : decode cX6_mostPair 63 = .ok (.iinc 3 1, 3) := by decide +kernel
theorem dX6_mostPair_66 : decode cX6_mostPair 66 = .ok (.goto (-44), 3) := by decide +kernel
theorem dX6_mostPair_69 : decode cX6_mostPair 69 = .ok (.iinc 2 1, 3) := by decide +kernel
theorem dX6_mostPair_72 : decode cX6_mostPair 72 = .ok (.goto (-62), 3) := by decide +kernel
theorem dX6_mostPair_75 : decode cX6_mostPair 75 = .ok (.iconst 0, 1) := by decide +kernel
theorem dX6_mostPair_76 : decode cX6_mostPair 76 = .ok (.istore_n 2, 1) := by decide +kernel
theorem dX6_mostPair_77 : decode cX6_mostPair 77 = .ok (.bipush (-2), 2) := by decide +kernel
theorem dX6_mostPair_79 : decode cX6_mostPair 79 = .ok (.istore_n 3, 1) := by decide +kernel
theorem dX6_mostPair_80 : decode cX6_mostPair 80 = .ok (.iconst 0, 1) := by decide +kernel
theorem dX6_mostPair_81 : decode cX6_mostPair 81 = .ok (.istore 4, 2) := by decide +kernel
theorem dX6_mostPair_83 : decode cX6_mostPair 83 = .ok (.iload 4, 2) := by decide +kernel
theorem dX6_mostPair_85 : decode cX6_mostPair 85 = .ok (.bipush 70, 2) := by decide +kernel
theorem dX6_mostPair_87 : decode cX6_mostPair 87 = .ok (.if_icmp .ge 31, 3) := by decide +kernel
theorem dX6_mostPair_90 : decode cX6_mostPair 90 = .ok (.aload_n 0, 1) := by decide +kernel
theorem dX6_mostPair_91 : decode cX6_mostPair 91 = .ok (.getfield 21, 3) := by decide +kernel
theorem dX6_mostPair_94 : decode cX6_mostPair 94 = .ok (.iload 4, 2) := by decide +kernel
theorem dX6_mostPair_96 : decode cX6_mostPair 96 = .ok (.iaload, 1) := by decide +kernel
theorem dX6_mostPair_97 : decode cX6_mostPair 97 = .ok (.iload_n 2, 1) := by decide +kernel
theorem dX6_mostPair_98 : decode cX6_mostPair 98 = .ok (.if_icmp .le 14, 3) := by decide +kernel
theorem dX6_mostPair_101 : decode cX6_mostPair 101 = .ok (.aload_n 0, 1) := by decide +kernel
theorem dX6_mostPair_102 : decode cX6_mostPair 102 = .ok (.getfield 21, 3) := by decide +kernel
theorem dX6_mostPair_105 : decode cX6_mostPair 105 = .ok (.iload 4, 2) := by decide +kernel
theorem dX6_mostPair_107 : decode cX6_mostPair 107 = .ok (.iaload, 1) := by decide +kernel
theorem dX6_mostPair_108 : decode cX6_mostPair 108 = .ok (.istore_n 2, 1) := by decide +kernel
theorem dX6_mostPair_109 : decode cX6_mostPair 109 = .ok (.iload 4, 2) := by decide +kernel
theorem dX6_mostPair_111 : decode cX6_mostPair 111 = .ok (.istore_n 3, 1) := by decide +kernel
theorem dX6_mostPair_112 : decode cX6_mostPair 112 = .ok (.iinc 4 1, 3) := by decide +kernel
theorem dX6_mostPair_115 : decode cX6_mostPair 115 = .ok (.goto (-32), 3) := by decide +kernel
theorem dX6_mostPair_118 : decode cX6_mostPair 118 = .ok (.iload_n 3, 1) := by decide +kernel
theorem dX6_mostPair_119 : decode cX6_mostPair 119 = .ok (.ireturn, 1) := by decide +kernel
theorem dX7_init_0 : decode cX7_init 0 = .ok (.aload_n 0, 1) := by decide +kernel
theorem dX7_init_1 : decode cX7_init 1 = .ok (.invokespecial 3, 3) := by decide +kernel
theorem dX7_init_4 : decode cX7_init 4 = .ok (.aload_n 0, 1) := by decide +kernel
theorem dX7_init_5 : decode cX7_init 5 = .ok (.bipush 6, 2) := by decide +kernel
theorem dX7_init_7 : decode cX7_init 7 = .ok (.newarray .int, 2) := by decide +kernel
theorem dX7_init_9 : decode cX7_init 9 = .ok (.putfield 9, 3) := by decide +kernel
theorem dX7_init_12 : decode cX7_init 12 = .ok (.aload_n 0, 1) := by decide +kernel
theorem dX7_init_13 : decode cX7_init 13 = .ok (.bipush 6, 2) := by decide +kernel
theorem dX7_init_15 : decode cX7_init 15 = .ok (.newarray .int, 2) := by decide +kernel
theorem dX7_init_17 : decode cX7_init 17 = .ok (.putfield 15, 3) := by decide +kernel
theorem dX7_init_20 : decode cX7_init 20 = .ok (.aload_n 0, 1) := by decide +kernel
theorem dX7_init_21 : decode cX7_init 21 = .ok (.bipush 6, 2) := by decide +kernel
theorem dX7_init_23 : decode cX7_init 23 = .ok (.newarray .int, 2) := by decide +kernel
theorem dX7_init_25 : decode cX7_init 25 = .ok (.putfield 18, 3) := by decide +kernel
theorem dX7_init_28 : decode cX7_init 28 = .ok (.aload_n 0, 1) := by decide +kernel
theorem dX7_init_29 : decode cX7_init 29 = .ok (.bipush 6, 2) := by decide +kernel
theorem dX7_init_31 : decode cX7_init 31 = .ok (.newarray .int, 2) := by decide +kernel
theorem dX7_init_33 : decode cX7_init 33 = .ok (.putfield 21, 3) := by decide +kernel
theorem dX7_init_36 : decode cX7_init 36 = .ok (.return_, 1) := by decide +kernel
theorem dX7_clear_0 : decode cX7_clear 0 = .ok (.aload_n 0, 1) := by decide +kernel
theorem dX7_clear_1 : decode cX7_clear 1 = .ok (.iconst 0, 1) := by decide +kernel
theorem dX7_clear_2 : decode cX7_clear 2 = .ok (.putfield 24, 3) := by decide +kernel
theorem dX7_clear_5 : decode cX7_clear 5 = .ok (.return_, 1) := by decide +kernel
theorem dX7_count_0 : decode cX7_count 0 = .ok (.aload_n 0, 1) := by decide +kernel
theorem dX7_count_1 : decode cX7_count 1 = .ok (.getfield 24, 3) := by decide +kernel
theorem dX7_count_4 : decode cX7_count 4 = .ok (.ireturn, 1) := by decide +kernel
theorem dX7_add_0 : decode cX7_add 0 = .ok (.aload_n 0, 1) := by decide +kernel
theorem dX7_add_1 : decode cX7_add 1 = .ok (.getfield 24, 3) := by decide +kernel
theorem dX7_add_4 : decode cX7_add 4 = .ok (.ifCond .lt 12, 3) := by decide +kernel
theorem dX7_add_7 : decode cX7_add 7 = .ok (.aload_n 0, 1) := by decide +kernel
theorem dX7_add_8 : decode cX7_add 8 = .ok (.getfield 24, 3) := by decide +kernel
theorem dX7_add_11 : decode cX7_add 11 = .ok (.bipush 6, 2) := by decide +kernel
theorem dX7_add_13 : decode cX7_add 13 = .ok (.if_icmp .lt 4, 3) := by decide +kernel
theorem dX7_add_16 : decode cX7_add 16 = .ok (.return_, 1) := by decide +kernel
theorem dX7_add_17 : decode cX7_add 17 = .ok (.aload_n 0, 1) := by decide +kernel
theorem dX7_add_18 : decode cX7_add 18 = .ok (.getfield 9, 3) := by decide +kernel
theorem dX7_add_21 : decode cX7_add 21 = .ok (.aload_n 0, 1) := by decide +kernel
theorem dX7_add_22 : decode cX7_add 22 = .ok (.getfield 24, 3) := by decide +kernel
theorem dX7_add_25 : decode cX7_add 25 = .ok (.iload_n 1, 1) := by decide +kernel
theorem dX7_add_26 : decode cX7_add 26 = .ok (.iastore, 1) := by decide +kernel
theorem dX7_add_27 : decode cX7_add 27 = .ok (.aload_n 0, 1) := by decide +kernel
theorem dX7_add_28 : decode cX7_add 28 = .ok (.getfield 15, 3) := by decide +kernel
theorem dX7_add_31 : decode cX7_add 31 = .ok (.aload_n 0, 1) := by decide +kernel
theorem dX7_add_32 : decode cX7_add 32 = .ok (.getfield 24, 3) := by decide +kernel
theorem dX7_add_35 : decode cX7_add 35 = .ok (.iload_n 2, 1) := by decide +kernel
theorem dX7_add_36 : decode cX7_add 36 = .ok (.iastore, 1) := by decide +kernel
theorem dX7_add_37 : decode cX7_add 37 = .ok (.aload_n 0, 1) := by decide +kernel
theorem dX7_add_38 : decode cX7_add 38 = .ok (.getfield 18, 3) := by decide +kernel
theorem dX7_add_41 : decode cX7_add 41 = .ok (.aload_n 0, 1) := by decide +kernel
theorem dX7_add_42 : decode cX7_add 42 = .ok (.getfield 24, 3) := by decide +kernel
theorem dX7_add_45 : decode cX7_add 45 = .ok (.iload_n 3, 1) := by decide +kernel
theorem dX7_add_46 : decode cX7_add 46 = .ok (.iastore, 1) := by decide +kernel
theorem dX7_add_47 : decode cX7_add 47 = .ok (.aload_n 0, 1) := by decide +kernel
theorem dX7_add_48 : decode cX7_add 48 = .ok (.getfield 21, 3) := by decide +kernel
theorem dX7_add_51 : decode cX7_add 51 = .ok (.aload_n 0, 1) := by decide +kernel
theorem dX7_add_52 : decode cX7_add 52 = .ok (.getfield 24, 3) := by decide +kernel
theorem dX7_add_55 : decode cX7_add 55 = .ok (.iload 4, 2) := by decide +kernel
theorem dX7_add_57 : decode cX7_add 57 = .ok (.iastore, 1) := by decide +kernel
theorem dX7_add_58 : decode cX7_add 58 = .ok (.aload_n 0, 1) := by decide +kernel
theorem dX7_add_59 : decode cX7_add 59 = .ok (.dup, 1) := by decide +kernel
theorem dX7_add_60 : decode cX7_add 60 = .ok (.getfield 24, 3) := by decide +kernel
theorem dX7_add_63 : decode cX7_add 63 = .ok (.iconst 1, 1) := by decide +kernel
theorem dX7_add_64 : decode cX7_add 64 = .ok (.iadd, 1) := by decide +kernel
theorem dX7_add_65 : decode cX7_add 65 = .ok (.putfield 24, 3) := by decide +kernel
theorem dX7_add_68 : decode cX7_add 68 = .ok (.return_, 1) := by decide +kernel
theorem dX7_worthOf_0 : decode cX7_worthOf 0 = .ok (.iconst 0, 1) := by decide +kernel
theorem dX7_worthOf_1 : decode cX7_worthOf 1 = .ok (.istore_n 2, 1) := by decide +kernel
theorem dX7_worthOf_2 : decode cX7_worthOf 2 = .ok (.iconst 0, 1) := by decide +kernel
theorem dX7_worthOf_3 : decode cX7_worthOf 3 = .ok (.istore_n 3, 1) := by decide +kernel
theorem dX7_worthOf_4 : decode cX7_worthOf 4 = .ok (.iload_n 3, 1) := by decide +kernel
theorem dX7_worthOf_5 : decode cX7_worthOf 5 = .ok (.aload_n 0, 1) := by decide +kernel
theorem dX7_worthOf_6 : decode cX7_worthOf 6 = .ok (.getfield 24, 3) := by decide +kernel
theorem dX7_worthOf_9 : decode cX7_worthOf 9 = .ok (.if_icmp .ge 32, 3) := by decide +kernel
theorem dX7_worthOf_12 : decode cX7_worthOf 12 = .ok (.iload_n 3, 1) := by decide +kernel
theorem dX7_worthOf_13 : decode cX7_worthOf 13 = .ok (.bipush 6, 2) := by decide +kernel
theorem dX7_worthOf_15 : decode cX7_worthOf 15 = .ok (.if_icmp .ge 26, 3) := by decide +kernel
theorem dX7_worthOf_18 : decode cX7_worthOf 18 = .ok (.iload_n 1, 1) := by decide +kernel
theorem dX7_worthOf_19 : decode cX7_worthOf 19 = .ok (.iload_n 3, 1) := by decide +kernel
theorem dX7_worthOf_20 : decode cX7_worthOf 20 = .ok (.ishr, 1) := by decide +kernel
theorem dX7_worthOf_21 : decode cX7_worthOf 21 = .ok (.iconst 1, 1) := by decide +kernel
theorem dX7_worthOf_22 : decode cX7_worthOf 22 = .ok (.iand, 1) := by decide +kernel
theorem dX7_worthOf_23 : decode cX7_worthOf 23 = .ok (.ifCond .eq 12, 3) := by decide +kernel
theorem dX7_worthOf_26 : decode cX7_worthOf 26 = .ok (.iload_n 2, 1) := by decide +kernel
theorem dX7_worthOf_27 : decode cX7_worthOf 27 = .ok (.aload_n 0, 1) := by decide +kernel
theorem dX7_worthOf_28 : decode cX7_worthOf 28 = .ok (.getfield 21, 3) := by decide +kernel
theorem dX7_worthOf_31 : decode cX7_worthOf 31 = .ok (.iload_n 3, 1) := by decide +kernel
theorem dX7_worthOf_32 : decode cX7_worthOf 32 = .ok (.iaload, 1) := by decide +kernel
theorem dX7_worthOf_33 : decode cX7_worthOf 33 = .ok (.iadd, 1) := by decide +kernel
theorem dX7_worthOf_34 : decode cX7_worthOf 34 = .ok (.istore_n 2, 1) := by decide +kernel
theorem dX7_worthOf_35 : decode cX7_worthOf 35 = .ok (.iinc 3 1, 3) := by decide +kernel
theorem dX7_worthOf_38 : decode cX7_worthOf 38 = .ok (.goto (-34), 3) := by decide +kernel
theorem dX7_worthOf_41 : decode cX7_worthOf 41 = .ok (.iload_n 2, 1) := by decide +kernel
theorem dX7_worthOf_42 : decode cX7_worthOf 42 = .ok (.ireturn, 1) := by decide +kernel
theorem dX7_paidBy_0 : decode cX7_paidBy 0 = .ok (.iconst 0, 1) := by decide +kernel
theorem dX7_paidBy_1 : decode cX7_paidBy 1 = .ok (.istore_n 2, 1) := by decide +kernel
theorem dX7_paidBy_2 : decode cX7_paidBy 2 = .ok (.iconst 0, 1) := by decide +kernel
theorem dX7_paidBy_3 : decode cX7_paidBy 3 = .ok (.istore_n 3, 1) := by decide +kernel
theorem dX7_paidBy_4 : decode cX7_paidBy 4 = .ok (.iload_n 3, 1) := by decide +kernel
theorem dX7_paidBy_5 : decode cX7_paidBy 5 = .ok (.aload_n 0, 1) := by decide +kernel
theorem dX7_paidBy_6 : decode cX7_paidBy 6 = .ok (.getfield 24, 3) := by decide +kernel
theorem dX7_paidBy_9 : decode cX7_paidBy 9 = .ok (.if_icmp .ge 53, 3) := by decide +kernel
theorem dX7_paidBy_12 : decode cX7_paidBy 12 = .ok (.iload_n 3, 1) := by decide +kernel
theorem dX7_paidBy_13 : decode cX7_paidBy 13 = .ok (.bipush 6, 2) := by decide +kernel
theorem dX7_paidBy_15 : decode cX7_paidBy 15 = .ok (.if_icmp .ge 47, 3) := by decide +kernel
theorem dX7_paidBy_18 : decode cX7_paidBy 18 = .ok (.aload_n 0, 1) := by decide +kernel
theorem dX7_paidBy_19 : decode cX7_paidBy 19 = .ok (.getfield 18, 3) := by decide +kernel
theorem dX7_paidBy_22 : decode cX7_paidBy 22 = .ok (.iload_n 3, 1) := by decide +kernel
theorem dX7_paidBy_23 : decode cX7_paidBy 23 = .ok (.iaload, 1) := by decide +kernel
theorem dX7_paidBy_24 : decode cX7_paidBy 24 = .ok (.aload_n 1, 1) := by decide +kernel
theorem dX7_paidBy_25 : decode cX7_paidBy 25 = .ok (.invokevirtual 28, 3) := by decide +kernel
theorem dX7_paidBy_28 : decode cX7_paidBy 28 = .ok (.if_icmp .ne 28, 3) := by decide +kernel
theorem dX7_paidBy_31 : decode cX7_paidBy 31 = .ok (.aload_n 1, 1) := by decide +kernel
theorem dX7_paidBy_32 : decode cX7_paidBy 32 = .ok (.aload_n 0, 1) := by decide +kernel
theorem dX7_paidBy_33 : decode cX7_paidBy 33 = .ok (.getfield 9, 3) := by decide +kernel
theorem dX7_paidBy_36 : decode cX7_paidBy 36 = .ok (.iload_n 3, 1) := by decide +kernel
theorem dX7_paidBy_37 : decode cX7_paidBy 37 = .ok (.iaload, 1) := by decide +kernel
theorem dX7_paidBy_38 : decode cX7_paidBy 38 = .ok (.invokevirtual 34, 3) := by decide +kernel
theorem dX7_paidBy_41 : decode cX7_paidBy 41 = .ok (.aload_n 0, 1) := by decide +kernel
theorem dX7_paidBy_42 : decode cX7_paidBy 42 = .ok (.getfield 15, 3) := by decide +kernel
theorem dX7_paidBy_45 : decode cX7_paidBy 45 = .ok (.iload_n 3, 1) := by decide +kernel
theorem dX7_paidBy_46 : decode cX7_paidBy 46 = .ok (.iaload, 1) := by decide +kernel
theorem dX7_paidBy_47 : decode cX7_paidBy 47 = .ok (.if_icmp .ne 9, 3) := by decide +kernel
theorem dX7_paidBy_50 : decode cX7_paidBy 50 = .ok (.iload_n 2, 1) := by decide +kernel
theorem dX7_paidBy_51 : decode cX7_paidBy 51 = .ok (.iconst 1, 1) := by decide +kernel
theorem dX7_paidBy_52 : decode cX7_paidBy 52 = .ok (.iload_n 3, 1) := by decide +kernel
theorem dX7_paidBy_53 : decode cX7_paidBy 53 = .ok (.ishl, 1) := by decide +kernel
theorem dX7_paidBy_54 : decode cX7_paidBy 54 = .ok (.ior, 1) := by decide +kernel
theorem dX7_paidBy_55 : decode cX7_paidBy 55 = .ok (.istore_n 2, 1) := by decide +kernel
theorem dX7_paidBy_56 : decode cX7_paidBy 56 = .ok (.iinc 3 1, 3) := by decide +kernel
theorem dX7_paidBy_59 : decode cX7_paidBy 59 = .ok (.goto (-55), 3) := by decide +kernel
theorem dX7_paidBy_62 : decode cX7_paidBy 62 = .ok (.iload_n 2, 1) := by decide +kernel
theorem dX7_paidBy_63 : decode cX7_paidBy 63 = .ok (.ireturn, 1) := by decide +kernel
theorem dX7_withinReach_0 : decode cX7_withinReach 0 = .ok (.iconst 0, 1) := by decide +kernel
theorem dX7_withinReach_1 : decode cX7_withinReach 1 = .ok (.istore_n 3, 1) := by decide +kernel
theorem dX7_withinReach_2 : decode cX7_withinReach 2 = .ok (.iconst 0, 1) := by decide +kernel
theorem dX7_withinReach_3 : decode cX7_withinReach 3 = .ok (.istore 4, 2) := by decide +kernel
theorem dX7_withinReach_5 : decode cX7_withinReach 5 = .ok (.iload 4, 2) := by decide +kernel
theorem dX7_withinReach_7 : decode cX7_withinReach 7 = .ok (.aload_n 0, 1) := by decide +kernel
theorem dX7_withinReach_8 : decode cX7_withinReach 8 = .ok (.getfield 24, 3) := by decide +kernel
theorem dX7_withinReach_11 : decode cX7_withinReach 11 = .ok (.if_icmp .ge 92, 3) := by decide +kernel
theorem dX7_withinReach_14 : decode cX7_withinReach 14 = .ok (.iload 4, 2) := by decide +kernel
theorem dX7_withinReach_16 : decode cX7_withinReach 16 = .ok (.bipush 6, 2) := by decide +kernel
theorem dX7_withinReach_18 : decode cX7_withinReach 18 = .ok (.if_icmp .ge 85, 3) := by decide +kernel
theorem dX7_withinReach_21 : decode cX7_withinReach 21 = .ok (.aload_n 0, 1) := by decide +kernel
theorem dX7_withinReach_22 : decode cX7_withinReach 22 = .ok (.getfield 18, 3) := by decide +kernel
theorem dX7_withinReach_25 : decode cX7_withinReach 25 = .ok (.iload 4, 2) := by decide +kernel
theorem dX7_withinReach_27 : decode cX7_withinReach 27 = .ok (.iaload, 1) := by decide +kernel
theorem dX7_withinReach_28 : decode cX7_withinReach 28 = .ok (.aload_n 1, 1) := by decide +kernel
theorem dX7_withinReach_29 : decode cX7_withinReach 29 = .ok (.invokevirtual 38, 3) := by decide +kernel
theorem dX7_withinReach_32 : decode cX7_withinReach 32 = .ok (.if_icmp .le 23, 3) := by decide +kernel
theorem dX7_withinReach_35 : decode cX7_withinReach 35 = .ok (.aload_n 0, 1) := by decide +kernel
theorem dX7_withinReach_36 : decode cX7_withinReach 36 = .ok (.getfield 18, 3) := by decide +kernel
theorem dX7_withinReach_39 : decode cX7_withinReach 39 = .ok (.iload 4, 2) := by decide +kernel
theorem dX7_withinReach_41 : decode cX7_withinReach 41 = .ok (.iaload, 1) := by decide +kernel
theorem dX7_withinReach_42 : decode cX7_withinReach 42 = .ok (.aload_n 1, 1) := by decide +kernel
theorem dX7_withinReach_43 : decode cX7_withinReach 43 = .ok (.invokevirtual 38, 3) := by decide +kernel
theorem dX7_withinReach_46 : decode cX7_withinReach 46 = .ok (.iload_n 2, 1) := by decide +kernel
theorem dX7_withinReach_47 : decode cX7_withinReach 47 = .ok (.iadd, 1) := by decide +kernel
theorem dX7_withinReach_48 : decode cX7_withinReach 48 = .ok (.if_icmp .gt 7, 3) := by decide +kernel
theorem dX7_withinReach_51 : decode cX7_withinReach 51 = .ok (.iconst 1, 1) := by decide +kernel
theorem dX7_withinReach_52 : decode cX7_withinReach 52 = .ok (.goto 4, 3) := by decide +kernel
theorem dX7_withinReach_55 : decode cX7_withinReach 55 = .ok (.iconst 0, 1) := by decide +kernel
theorem dX7_withinReach_56 : decode cX7_withinReach 56 = .ok (.istore 5, 2) := by decide +kernel
theorem dX7_withinReach_58 : decode cX7_withinReach 58 = .ok (.iload 5, 2) := by decide +kernel
theorem dX7_withinReach_60 : decode cX7_withinReach 60 = .ok (.ifCond .eq 37, 3) := by decide +kernel
theorem dX7_withinReach_63 : decode cX7_withinReach 63 = .ok (.aload_n 1, 1) := by decide +kernel
theorem dX7_withinReach_64 : decode cX7_withinReach 64 = .ok (.aload_n 0, 1) := by decide +kernel
theorem dX7_withinReach_65 : decode cX7_withinReach 65 = .ok (.getfield 9, 3) := by decide +kernel
theorem dX7_withinReach_68 : decode cX7_withinReach 68 = .ok (.iload 4, 2) := by decide +kernel
theorem dX7_withinReach_70 : decode cX7_withinReach 70 = .ok (.iaload, 1) := by decide +kernel
theorem dX7_withinReach_71 : decode cX7_withinReach 71 = .ok (.invokevirtual 41, 3) := by decide +kernel
theorem dX7_withinReach_74 : decode cX7_withinReach 74 = .ok (.invokestatic 42, 3) := by decide +kernel
theorem dX7_withinReach_77 : decode cX7_withinReach 77 = .ok (.aload_n 0, 1) := by decide +kernel
theorem dX7_withinReach_78 : decode cX7_withinReach 78 = .ok (.getfield 15, 3) := by decide +kernel
theorem dX7_withinReach_81 : decode cX7_withinReach 81 = .ok (.iload 4, 2) := by decide +kernel
theorem dX7_withinReach_83 : decode cX7_withinReach 83 = .ok (.iaload, 1) := by decide +kernel
theorem dX7_withinReach_84 : decode cX7_withinReach 84 = .ok (.invokestatic 42, 3) := by decide +kernel
theorem dX7_withinReach_87 : decode cX7_withinReach 87 = .ok (.if_icmp .ne 10, 3) := by decide +kernel
theorem dX7_withinReach_90 : decode cX7_withinReach 90 = .ok (.iload_n 3, 1) := by decide +kernel
theorem dX7_withinReach_91 : decode cX7_withinReach 91 = .ok (.iconst 1, 1) := by decide +kernel
theorem dX7_withinReach_92 : decode cX7_withinReach 92 = .ok (.iload 4, 2) := by decide +kernel
theorem dX7_withinReach_94 : decode cX7_withinReach 94 = .ok (.ishl, 1) := by decide +kernel
theorem dX7_withinReach_95 : decode cX7_withinReach 95 = .ok (.ior, 1) := by decide +kernel
theorem dX7_withinReach_96 : decode cX7_withinReach 96 = .ok (.istore_n 3, 1) := by decide +kernel
theorem dX7_withinReach_97 : decode cX7_withinReach 97 = .ok (.iinc 4 1, 3) := by decide +kernel
theorem dX7_withinReach_100 : decode cX7_withinReach 100 = .ok (.goto (-95), 3) := by decide +kernel
theorem dX7_withinReach_103 : decode cX7_withinReach 103 = .ok (.iload_n 3, 1) := by decide +kernel
theorem dX7_withinReach_104 : decode cX7_withinReach 104 = .ok (.ireturn, 1) := by decide +kernel
theorem dX7_ofRing_0 : decode cX7_ofRing 0 = .ok (.iconst 0, 1) := by decide +kernel
theorem dX7_ofRing_1 : decode cX7_ofRing 1 = .ok (.istore_n 3, 1) := by decide +kernel
theorem dX7_ofRing_2 : decode cX7_ofRing 2 = .ok (.iconst 0, 1) := by decide +kernel
theorem dX7_ofRing_3 : decode cX7_ofRing 3 = .ok (.istore 4, 2) := by decide +kernel
theorem dX7_ofRing_5 : decode cX7_ofRing 5 = .ok (.iload 4, 2) := by decide +kernel
theorem dX7_ofRing_7 : decode cX7_ofRing 7 = .ok (.aload_n 0, 1) := by decide +kernel
theorem dX7_ofRing_8 : decode cX7_ofRing 8 = .ok (.getfield 24, 3) := by decide +kernel
theorem dX7_ofRing_11 : decode cX7_ofRing 11 = .ok (.if_icmp .ge 46, 3) := by decide +kernel
theorem dX7_ofRing_14 : decode cX7_ofRing 14 = .ok (.iload 4, 2) := by decide +kernel
theorem dX7_ofRing_16 : decode cX7_ofRing 16 = .ok (.bipush 6, 2) := by decide +kernel
theorem dX7_ofRing_18 : decode cX7_ofRing 18 = .ok (.if_icmp .ge 39, 3) := by decide +kernel
theorem dX7_ofRing_21 : decode cX7_ofRing 21 = .ok (.iload_n 1, 1) := by decide +kernel
theorem dX7_ofRing_22 : decode cX7_ofRing 22 = .ok (.iload 4, 2) := by decide +kernel
theorem dX7_ofRing_24 : decode cX7_ofRing 24 = .ok (.ishr, 1) := by decide +kernel
theorem dX7_ofRing_25 : decode cX7_ofRing 25 = .ok (.iconst 1, 1) := by decide +kernel
theorem dX7_ofRing_26 : decode cX7_ofRing 26 = .ok (.iand, 1) := by decide +kernel
theorem dX7_ofRing_27 : decode cX7_ofRing 27 = .ok (.ifCond .eq 24, 3) := by decide +kernel
theorem dX7_ofRing_30 : decode cX7_ofRing 30 = .ok (.aload_n 0, 1) := by decide +kernel
theorem dX7_ofRing_31 : decode cX7_ofRing 31 = .ok (.getfield 15, 3) := by decide +kernel
theorem dX7_ofRing_34 : decode cX7_ofRing 34 = .ok (.iload 4, 2) := by decide +kernel
theorem dX7_ofRing_36 : decode cX7_ofRing 36 = .ok (.iaload, 1) := by decide +kernel
theorem dX7_ofRing_37 : decode cX7_ofRing 37 = .ok (.invokestatic 42, 3) := by decide +kernel
theorem dX7_ofRing_40 : decode cX7_ofRing 40 = .ok (.iload_n 2, 1) := by decide +kernel
theorem dX7_ofRing_41 : decode cX7_ofRing 41 = .ok (.if_icmp .ne 10, 3) := by decide +kernel
theorem dX7_ofRing_44 : decode cX7_ofRing 44 = .ok (.iload_n 3, 1) := by decide +kernel
theorem dX7_ofRing_45 : decode cX7_ofRing 45 = .ok (.iconst 1, 1) := by decide +kernel
theorem dX7_ofRing_46 : decode cX7_ofRing 46 = .ok (.iload 4, 2) := by decide +kernel
theorem dX7_ofRing_48 : decode cX7_ofRing 48 = .ok (.ishl, 1) := by decide +kernel
theorem dX7_ofRing_49 : decode cX7_ofRing 49 = .ok (.ior, 1) := by decide +kernel
theorem dX7_ofRing_50 : decode cX7_ofRing 50 = .ok (.istore_n 3, 1) := by decide +kernel
theorem dX7_ofRing_51 : decode cX7_ofRing 51 = .ok (.iinc 4 1, 3) := by decide +kernel
theorem dX7_ofRing_54 : decode cX7_ofRing 54 = .ok (.goto (-49), 3) := by decide +kernel
theorem dX7_ofRing_57 : decode cX7_ofRing 57 = .ok (.iload_n 3, 1) := by decide +kernel
theorem dX7_ofRing_58 : decode cX7_ofRing 58 = .ok (.ireturn, 1) := by decide +kernel
theorem dX7_lastNightOf_0 : decode cX7_lastNightOf 0 = .ok (.iconst 0, 1) := by decide +kernel
theorem dX7_lastNightOf_1 : decode cX7_lastNightOf 1 = .ok (.istore_n 2, 1) := by decide +kernel
theorem dX7_lastNightOf_2 : decode cX7_lastNightOf 2 = .ok (.iconst 0, 1) := by decide +kernel
theorem dX7_lastNightOf_3 : decode cX7_lastNightOf 3 = .ok (.istore_n 3, 1) := by decide +kernel
theorem dX7_lastNightOf_4 : decode cX7_lastNightOf 4 = .ok (.iload_n 3, 1) := by decide +kernel
theorem dX7_lastNightOf_5 : decode cX7_lastNightOf 5 = .ok (.aload_n 0, 1) := by decide +kernel
theorem dX7_lastNightOf_6 : decode cX7_lastNightOf 6 = .ok (.getfield 24, 3) := by decide +kernel
theorem dX7_lastNightOf_9 : decode cX7_lastNightOf 9 = .ok (.if_icmp .ge 34, 3) := by decide +kernel
theorem dX7_lastNightOf_12 : decode cX7_lastNightOf 12 = .ok (.iload_n 3, 1) := by decide +kernel
theorem dX7_lastNightOf_13 : decode cX7_lastNightOf 13 = .ok (.bipush 6, 2) := by decide +kernel
theorem dX7_lastNightOf_15 : decode cX7_lastNightOf 15 = .ok (.if_icmp .ge 28, 3) := by decide +kernel
theorem dX7_lastNightOf_18 : decode cX7_lastNightOf 18 = .ok (.iload_n 1, 1) := by decide +kernel
theorem dX7_lastNightOf_19 : decode cX7_lastNightOf 19 = .ok (.iload_n 3, 1) := by decide +kernel
theorem dX7_lastNightOf_20 : decode cX7_lastNightOf 20 = .ok (.ishr, 1) := by decide +kernel
theorem dX7_lastNightOf_21 : decode cX7_lastNightOf 21 = .ok (.iconst 1, 1) := by decide +kernel
theorem dX7_lastNightOf_22 : decode cX7_lastNightOf 22 = .ok (.iand, 1) := by decide +kernel
theorem dX7_lastNightOf_23 : decode cX7_lastNightOf 23 = .ok (.ifCond .eq 14, 3) := by decide +kernel
theorem dX7_lastNightOf_26 : decode cX7_lastNightOf 26 = .ok (.iload_n 2, 1) := by decide +kernel
theorem dX7_lastNightOf_27 : decode cX7_lastNightOf 27 = .ok (.aload_n 0, 1) := by decide +kernel
theorem dX7_lastNightOf_28 : decode cX7_lastNightOf 28 = .ok (.getfield 18, 3) := by decide +kernel
theorem dX7_lastNightOf_31 : decode cX7_lastNightOf 31 = .ok (.iload_n 3, 1) := by decide +kernel
theorem dX7_lastNightOf_32 : decode cX7_lastNightOf 32 = .ok (.iaload, 1) := by decide +kernel
theorem dX7_lastNightOf_33 : decode cX7_lastNightOf 33 = .ok (.invokestatic 45, 3) := by decide +kernel
theorem dX7_lastNightOf_36 : decode cX7_lastNightOf 36 = .ok (.istore_n 2, 1) := by decide +kernel
theorem dX7_lastNightOf_37 : decode cX7_lastNightOf 37 = .ok (.iinc 3 1, 3) := by decide +kernel
theorem dX7_lastNightOf_40 : decode cX7_lastNightOf 40 = .ok (.goto (-36), 3) := by decide +kernel
theorem dX7_lastNightOf_43 : decode cX7_lastNightOf 43 = .ok (.iload_n 2, 1) := by decide +kernel
theorem dX7_lastNightOf_44 : decode cX7_lastNightOf 44 = .ok (.ireturn, 1) := by decide +kernel
theorem dX8_init_0 : decode cX8_init 0 = .ok (.aload_n 0, 1) := by decide +kernel
theorem dX8_init_1 : decode cX8_init 1 = .ok (.invokespecial 3, 3) := by decide +kernel
theorem dX8_init_4 : decode cX8_init 4 = .ok (.aload_n 0, 1) := by decide +kernel
theorem dX8_init_5 : decode cX8_init 5 = .ok (.new 9, 3) := by decide +kernel
theorem dX8_init_8 : decode cX8_init 8 = .ok (.dup, 1) := by decide +kernel
theorem dX8_init_9 : decode cX8_init 9 = .ok (.invokespecial 11, 3) := by decide +kernel
theorem dX8_init_12 : decode cX8_init 12 = .ok (.putfield 12, 3) := by decide +kernel
theorem dX8_init_15 : decode cX8_init 15 = .ok (.aload_n 0, 1) := by decide +kernel
theorem dX8_init_16 : decode cX8_init 16 = .ok (.new 16, 3) := by decide +kernel
theorem dX8_init_19 : decode cX8_init 19 = .ok (.dup, 1) := by decide +kernel
theorem dX8_init_20 : decode cX8_init 20 = .ok (.invokespecial 18, 3) := by decide +kernel
theorem dX8_init_23 : decode cX8_init 23 = .ok (.putfield 19, 3) := by decide +kernel
theorem dX8_init_26 : decode cX8_init 26 = .ok (.aload_n 0, 1) := by decide +kernel
theorem dX8_init_27 : decode cX8_init 27 = .ok (.new 23, 3) := by decide +kernel
theorem dX8_init_30 : decode cX8_init 30 = .ok (.dup, 1) := by decide +kernel
theorem dX8_init_31 : decode cX8_init 31 = .ok (.invokespecial 25, 3) := by decide +kernel
theorem dX8_init_34 : decode cX8_init 34 = .ok (.putfield 26, 3) := by decide +kernel
theorem dX8_init_37 : decode cX8_init 37 = .ok (.aload_n 0, 1) := by decide +kernel
theorem dX8_init_38 : decode cX8_init 38 = .ok (.new 30, 3) := by decide +kernel
theorem dX8_init_41 : decode cX8_init 41 = .ok (.dup, 1) := by decide +kernel
theorem dX8_init_42 : decode cX8_init 42 = .ok (.invokespecial 32, 3) := by decide +kernel
theorem dX8_init_45 : decode cX8_init 45 = .ok (.putfield 33, 3) := by decide +kernel
theorem dX8_init_48 : decode cX8_init 48 = .ok (.aload_n 0, 1) := by decide +kernel
theorem dX8_init_49 : decode cX8_init 49 = .ok (.new 37, 3) := by decide +kernel
theorem dX8_init_52 : decode cX8_init 52 = .ok (.dup, 1) := by decide +kernel
theorem dX8_init_53 : decode cX8_init 53 = .ok (.invokespecial 39, 3) := by decide +kernel
theorem dX8_init_56 : decode cX8_init 56 = .ok (.putfield 40, 3) := by decide +kernel
theorem dX8_init_59 : decode cX8_init 59 = .ok (.aload_n 0, 1) := by decide +kernel
theorem dX8_init_60 : decode cX8_init 60 = .ok (.new 44, 3) := by decide +kernel
theorem dX8_init_63 : decode cX8_init 63 = .ok (.dup, 1) := by decide +kernel
theorem dX8_init_64 : decode cX8_init 64 = .ok (.invokespecial 46, 3) := by decide +kernel
theorem dX8_init_67 : decode cX8_init 67 = .ok (.putfield 47, 3) := by decide +kernel
theorem dX8_init_70 : decode cX8_init 70 = .ok (.return_, 1) := by decide +kernel
theorem dX8_feed_0 : decode cX8_feed 0 = .ok (.aload_n 0, 1) := by decide +kernel
theorem dX8_feed_1 : decode cX8_feed 1 = .ok (.getfield 12, 3) := by decide +kernel
theorem dX8_feed_4 : decode cX8_feed 4 = .ok (.bipush 20, 2) := by decide +kernel
theorem dX8_feed_6 : decode cX8_feed 6 = .ok (.invokevirtual 51, 3) := by decide +kernel
theorem dX8_feed_9 : decode cX8_feed 9 = .ok (.ifCond .ne 5, 3) := by decide +kernel
theorem dX8_feed_12 : decode cX8_feed 12 = .ok (.iconst (-1), 1) := by decide +kernel
theorem dX8_feed_13 : decode cX8_feed 13 = .ok (.ireturn, 1) := by decide +kernel
theorem dX8_feed_14 : decode cX8_feed 14 = .ok (.aload_n 0, 1) := by decide +kernel
theorem dX8_feed_15 : decode cX8_feed 15 = .ok (.getfield 12, 3) := by decide +kernel
theorem dX8_feed_18 : decode cX8_feed 18 = .ok (.iload_n 1, 1) := by decide +kernel
theorem dX8_feed_19 : decode cX8_feed 19 = .ok (.invokevirtual 55, 3) := by decide +kernel
theorem dX8_feed_22 : decode cX8_feed 22 = .ok (.aload_n 0, 1) := by decide +kernel
theorem dX8_feed_23 : decode cX8_feed 23 = .ok (.getfield 12, 3) := by decide +kernel
theorem dX8_feed_26 : decode cX8_feed 26 = .ok (.iload_n 2, 1) := by decide +kernel
theorem dX8_feed_27 : decode cX8_feed 27 = .ok (.invokevirtual 55, 3) := by decide +kernel
theorem dX8_feed_30 : decode cX8_feed 30 = .ok (.aload_n 0, 1) := by decide +kernel
theorem dX8_feed_31 : decode cX8_feed 31 = .ok (.getfield 12, 3) := by decide +kernel
theorem dX8_feed_34 : decode cX8_feed 34 = .ok (.iload_n 3, 1) := by decide +kernel
theorem dX8_feed_35 : decode cX8_feed 35 = .ok (.invokevirtual 55, 3) := by decide +kernel
theorem dX8_feed_38 : decode cX8_feed 38 = .ok (.aload_n 0, 1) := by decide +kernel
theorem dX8_feed_39 : decode cX8_feed 39 = .ok (.getfield 12, 3) := by decide +kernel
theorem dX8_feed_42 : decode cX8_feed 42 = .ok (.iload 4, 2) := by decide +kernel
theorem dX8_feed_44 : decode cX8_feed 44 = .ok (.invokevirtual 55, 3) := by decide +kernel
theorem dX8_feed_47 : decode cX8_feed 47 = .ok (.aload_n 0, 1) := by decide +kernel
theorem dX8_feed_48 : decode cX8_feed 48 = .ok (.getfield 12, 3) := by decide +kernel
theorem dX8_feed_51 : decode cX8_feed 51 = .ok (.iload 5, 2) := by decide +kernel
theorem dX8_feed_53 : decode cX8_feed 53 = .ok (.invokevirtual 55, 3) := by decide +kernel
theorem dX8_feed_56 : decode cX8_feed 56 = .ok (.aload_n 0, 1) := by decide +kernel
theorem dX8_feed_57 : decode cX8_feed 57 = .ok (.getfield 12, 3) := by decide +kernel
theorem dX8_feed_60 : decode cX8_feed 60 = .ok (.invokevirtual 59, 3) := by decide +kernel
theorem dX8_feed_63 : decode cX8_feed 63 = .ok (.ireturn, 1) := by decide +kernel
theorem dX8_house_0 : decode cX8_house 0 = .ok (.iload_n 1, 1) := by decide +kernel
theorem dX8_house_1 : decode cX8_house 1 = .ok (.ifCond .lt 14, 3) := by decide +kernel
theorem dX8_house_4 : decode cX8_house 4 = .ok (.iload_n 1, 1) := by decide +kernel
theorem dX8_house_5 : decode cX8_house 5 = .ok (.aload_n 0, 1) := by decide +kernel
theorem dX8_house_6 : decode cX8_house 6 = .ok (.getfield 12, 3) := by decide +kernel
theorem dX8_house_9 : decode cX8_house 9 = .ok (.invokevirtual 59, 3) := by decide +kernel
theorem dX8_house_12 : decode cX8_house 12 = .ok (.if_icmp .le 9, 3) := by decide +kernel
theorem dX8_house_15 : decode cX8_house 15 = .ok (.aload_n 0, 1) := by decide +kernel
theorem dX8_house_16 : decode cX8_house 16 = .ok (.iconst 2, 1) := by decide +kernel
theorem dX8_house_17 : decode cX8_house 17 = .ok (.invokevirtual 63, 3) := by decide +kernel
theorem dX8_house_20 : decode cX8_house 20 = .ok (.ireturn, 1) := by decide +kernel
theorem dX8_house_21 : decode cX8_house 21 = .ok (.aload_n 0, 1) := by decide +kernel
theorem dX8_house_22 : decode cX8_house 22 = .ok (.getfield 12, 3) := by decide +kernel
theorem dX8_house_25 : decode cX8_house 25 = .ok (.iload_n 1, 1) := by decide +kernel
theorem dX8_house_26 : decode cX8_house 26 = .ok (.invokevirtual 67, 3) := by decide +kernel
theorem dX8_house_29 : decode cX8_house 29 = .ok (.istore_n 2, 1) := by decide +kernel
theorem dX8_house_30 : decode cX8_house 30 = .ok (.aload_n 0, 1) := by decide +kernel
theorem dX8_house_31 : decode cX8_house 31 = .ok (.aload_n 0, 1) := by decide +kernel
theorem dX8_house_32 : decode cX8_house 32 = .ok (.getfield 12, 3) := by decide +kernel
theorem dX8_house_35 : decode cX8_house 35 = .ok (.invokevirtual 70, 3) := by decide +kernel
theorem dX8_house_38 : decode cX8_house 38 = .ok (.putfield 73, 3) := by decide +kernel
theorem dX8_house_41 : decode cX8_house 41 = .ok (.aload_n 0, 1) := by decide +kernel
theorem dX8_house_42 : decode cX8_house 42 = .ok (.aload_n 0, 1) := by decide +kernel
theorem dX8_house_43 : decode cX8_house 43 = .ok (.getfield 12, 3) := by decide +kernel
theorem dX8_house_46 : decode cX8_house 46 = .ok (.invokevirtual 77, 3) := by decide +kernel
theorem dX8_house_49 : decode cX8_house 49 = .ok (.putfield 80, 3) := by decide +kernel
theorem dX8_house_52 : decode cX8_house 52 = .ok (.iload_n 2, 1) := by decide +kernel
theorem dX8_house_53 : decode cX8_house 53 = .ok (.ifCond .ne 9, 3) := by decide +kernel
theorem dX8_house_56 : decode cX8_house 56 = .ok (.aload_n 0, 1) := by decide +kernel
theorem dX8_house_57 : decode cX8_house 57 = .ok (.iconst 4, 1) := by decide +kernel
theorem dX8_house_58 : decode cX8_house 58 = .ok (.invokevirtual 63, 3) := by decide +kernel
theorem dX8_house_61 : decode cX8_house 61 = .ok (.ireturn, 1) := by decide +kernel
theorem dX8_house_62 : decode cX8_house 62 = .ok (.aload_n 0, 1) := by decide +kernel
theorem dX8_house_63 : decode cX8_house 63 = .ok (.aload_n 0, 1) := by decide +kernel
theorem dX8_house_64 : decode cX8_house 64 = .ok (.getfield 12, 3) := by decide +kernel
theorem dX8_house_67 : decode cX8_house 67 = .ok (.aload_n 0, 1) := by decide +kernel
theorem dX8_house_68 : decode cX8_house 68 = .ok (.getfield 47, 3) := by decide +kernel
theorem dX8_house_71 : decode cX8_house 71 = .ok (.invokevirtual 83, 3) := by decide +kernel
theorem dX8_house_74 : decode cX8_house 74 = .ok (.putfield 47, 3) := by decide +kernel
theorem dX8_house_77 : decode cX8_house 77 = .ok (.aload_n 0, 1) := by decide +kernel
theorem dX8_house_78 : decode cX8_house 78 = .ok (.getfield 19, 3) := by decide +kernel
theorem dX8_house_81 : decode cX8_house 81 = .ok (.aload_n 0, 1) := by decide +kernel
theorem dX8_house_82 : decode cX8_house 82 = .ok (.getfield 47, 3) := by decide +kernel
theorem dX8_house_85 : decode cX8_house 85 = .ok (.invokevirtual 87, 3) := by decide +kernel
theorem dX8_house_88 : decode cX8_house 88 = .ok (.aload_n 0, 1) := by decide +kernel
theorem dX8_house_89 : decode cX8_house 89 = .ok (.getfield 40, 3) := by decide +kernel
theorem dX8_house_92 : decode cX8_house 92 = .ok (.aload_n 0, 1) := by decide +kernel
theorem dX8_house_93 : decode cX8_house 93 = .ok (.getfield 47, 3) := by decide +kernel
theorem dX8_house_96 : decode cX8_house 96 = .ok (.invokevirtual 91, 3) := by decide +kernel
theorem dX8_house_99 : decode cX8_house 99 = .ok (.aload_n 0, 1) := by decide +kernel
theorem dX8_house_100 : decode cX8_house 100 = .ok (.aload_n 0, 1) := by decide +kernel
theorem dX8_house_101 : decode cX8_house 101 = .ok (.getfield 47, 3) := by decide +kernel
theorem dX8_house_104 : decode cX8_house 104 = .ok (.getfield 94, 3) := by decide +kernel
theorem dX8_house_107 : decode cX8_house 107 = .ok (.invokevirtual 97, 3) := by decide +kernel
theorem dX8_house_110 : decode cX8_house 110 = .ok (.ireturn, 1) := by decide +kernel
theorem dX8_fault_0 : decode cX8_fault 0 = .ok (.aload_n 0, 1) := by decide +kernel
theorem dX8_fault_1 : decode cX8_fault 1 = .ok (.getfield 73, 3) := by decide +kernel
theorem dX8_fault_4 : decode cX8_fault 4 = .ok (.ireturn, 1) := by decide +kernel
theorem dX8_where_0 : decode cX8_where 0 = .ok (.aload_n 0, 1) := by decide +kernel
theorem dX8_where_1 : decode cX8_where 1 = .ok (.getfield 100, 3) := by decide +kernel
theorem dX8_where_4 : decode cX8_where 4 = .ok (.iconst 4, 1) := by decide +kernel
theorem dX8_where_5 : decode cX8_where 5 = .ok (.if_icmp .ne 10, 3) := by decide +kernel
theorem dX8_where_8 : decode cX8_where 8 = .ok (.aload_n 0, 1) := by decide +kernel
theorem dX8_where_9 : decode cX8_where 9 = .ok (.getfield 80, 3) := by decide +kernel
theorem dX8_where_12 : decode cX8_where 12 = .ok (.goto 4, 3) := by decide +kernel
theorem dX8_where_15 : decode cX8_where 15 = .ok (.iconst (-1), 1) := by decide +kernel
theorem dX8_where_16 : decode cX8_where 16 = .ok (.ireturn, 1) := by decide +kernel
theorem dX8_ring_0 : decode cX8_ring 0 = .ok (.aload_n 0, 1) := by decide +kernel
theorem dX8_ring_1 : decode cX8_ring 1 = .ok (.getfield 47, 3) := by decide +kernel
theorem dX8_ring_4 : decode cX8_ring 4 = .ok (.iload_n 1, 1) := by decide +kernel
theorem dX8_ring_5 : decode cX8_ring 5 = .ok (.invokevirtual 103, 3) := by decide +kernel
theorem dX8_ring_8 : decode cX8_ring 8 = .ok (.ifCond .eq 12, 3) := by decide +kernel
theorem dX8_ring_11 : decode cX8_ring 11 = .ok (.iload_n 2, 1) := by decide +kernel
theorem dX8_ring_12 : decode cX8_ring 12 = .ok (.ifCond .lt 8, 3) := by decide +kernel
theorem dX8_ring_15 : decode cX8_ring 15 = .ok (.iload_n 2, 1) := by decide +kernel
theorem dX8_ring_16 : decode cX8_ring 16 = .ok (.iconst 3, 1) := by decide +kernel
theorem dX8_ring_17 : decode cX8_ring 17 = .ok (.if_icmp .le 9, 3) := by decide +kernel
theorem dX8_ring_20 : decode cX8_ring 20 = .ok (.aload_n 0, 1) := by decide +kernel
theorem dX8_ring_21 : decode cX8_ring 21 = .ok (.iconst 1, 1) := by decide +kernel
theorem dX8_ring_22 : decode cX8_ring 22 = .ok (.invokevirtual 63, 3) := by decide +kernel
theorem dX8_ring_25 : decode cX8_ring 25 = .ok (.ireturn, 1) := by decide +kernel
theorem dX8_ring_26 : decode cX8_ring 26 = .ok (.aload_n 0, 1) := by decide +kernel
theorem dX8_ring_27 : decode cX8_ring 27 = .ok (.getfield 19, 3) := by decide +kernel
theorem dX8_ring_30 : decode cX8_ring 30 = .ok (.iload_n 1, 1) := by decide +kernel
theorem dX8_ring_31 : decode cX8_ring 31 = .ok (.aload_n 0, 1) := by decide +kernel
theorem dX8_ring_32 : decode cX8_ring 32 = .ok (.getfield 47, 3) := by decide +kernel
theorem dX8_ring_35 : decode cX8_ring 35 = .ok (.getfield 106, 3) := by decide +kernel
theorem dX8_ring_38 : decode cX8_ring 38 = .ok (.invokevirtual 109, 3) := by decide +kernel
theorem dX8_ring_41 : decode cX8_ring 41 = .ok (.istore_n 3, 1) := by decide +kernel
theorem dX8_ring_42 : decode cX8_ring 42 = .ok (.iload_n 2, 1) := by decide +kernel
theorem dX8_ring_43 : decode cX8_ring 43 = .ok (.tableswitch 57 0 2 #[25, 38, 51], 25) := by decide +kernel
theorem dX8_ring_68 : decode cX8_ring 68 = .ok (.aload_n 0, 1) := by decide +kernel
theorem dX8_ring_69 : decode cX8_ring 69 = .ok (.aload_n 0, 1) := by decide +kernel
theorem dX8_ring_70 : decode cX8_ring 70 = .ok (.getfield 47, 3) := by decide +kernel
theorem dX8_ring_73 : decode cX8_ring 73 = .ok (.iload_n 1, 1) := by decide +kernel
theorem dX8_ring_74 : decode cX8_ring 74 = .ok (.invokevirtual 113, 3) := by decide +kernel
theorem dX8_ring_77 : decode cX8_ring 77 = .ok (.invokevirtual 97, 3) := by decide +kernel
theorem dX8_ring_80 : decode cX8_ring 80 = .ok (.ireturn, 1) := by decide +kernel
theorem dX8_ring_81 : decode cX8_ring 81 = .ok (.aload_n 0, 1) := by decide +kernel
theorem dX8_ring_82 : decode cX8_ring 82 = .ok (.aload_n 0, 1) := by decide +kernel
theorem dX8_ring_83 : decode cX8_ring 83 = .ok (.getfield 47, 3) := by decide +kernel
theorem dX8_ring_86 : decode cX8_ring 86 = .ok (.iload_n 1, 1) := by decide +kernel
theorem dX8_ring_87 : decode cX8_ring 87 = .ok (.invokevirtual 116, 3) := by decide +kernel
theorem dX8_ring_90 : decode cX8_ring 90 = .ok (.invokevirtual 97, 3) := by decide +kernel
theorem dX8_ring_93 : decode cX8_ring 93 = .ok (.ireturn, 1) := by decide +kernel
theorem dX8_ring_94 : decode cX8_ring 94 = .ok (.aload_n 0, 1) := by decide +kernel
theorem dX8_ring_95 : decode cX8_ring 95 = .ok (.iload_n 3, 1) := by decide +kernel
theorem dX8_ring_96 : decode cX8_ring 96 = .ok (.invokevirtual 97, 3) := by decide +kernel
theorem dX8_ring_99 : decode cX8_ring 99 = .ok (.ireturn, 1) := by decide +kernel
theorem dX8_ring_100 : decode cX8_ring 100 = .ok (.aload_n 0, 1) := by decide +kernel
theorem dX8_ring_101 : decode cX8_ring 101 = .ok (.aload_n 0, 1) := by decide +kernel
theorem dX8_ring_102 : decode cX8_ring 102 = .ok (.getfield 47, 3) := by decide +kernel
theorem dX8_ring_105 : decode cX8_ring 105 = .ok (.iload_n 1, 1) := by decide +kernel
theorem dX8_ring_106 : decode cX8_ring 106 = .ok (.invokevirtual 116, 3) := by decide +kernel
theorem dX8_ring_109 : decode cX8_ring 109 = .ok (.iload_n 3, 1) := by decide +kernel
theorem dX8_ring_110 : decode cX8_ring 110 = .ok (.invokestatic 119, 3) := by decide +kernel
theorem dX8_ring_113 : decode cX8_ring 113 = .ok (.isub, 1) := by decide +kernel
theorem dX8_ring_114 : decode cX8_ring 114 = .ok (.invokevirtual 97, 3) := by decide +kernel
theorem dX8_ring_117 : decode cX8_ring 117 = .ok (.ireturn, 1) := by decide +kernel
theorem dX8_thing_0 : decode cX8_thing 0 = .ok (.aload_n 0, 1) := by decide +kernel
theorem dX8_thing_1 : decode cX8_thing 1 = .ok (.getfield 47, 3) := by decide +kernel
theorem dX8_thing_4 : decode cX8_thing 4 = .ok (.iload_n 1, 1) := by decide +kernel
theorem dX8_thing_5 : decode cX8_thing 5 = .ok (.invokevirtual 124, 3) := by decide +kernel
theorem dX8_thing_8 : decode cX8_thing 8 = .ok (.ifCond .eq 12, 3) := by decide +kernel
theorem dX8_thing_11 : decode cX8_thing 11 = .ok (.iload_n 2, 1) := by decide +kernel
theorem dX8_thing_12 : decode cX8_thing 12 = .ok (.ifCond .lt 8, 3) := by decide +kernel
theorem dX8_thing_15 : decode cX8_thing 15 = .ok (.iload_n 2, 1) := by decide +kernel
theorem dX8_thing_16 : decode cX8_thing 16 = .ok (.iconst 4, 1) := by decide +kernel
theorem dX8_thing_17 : decode cX8_thing 17 = .ok (.if_icmp .le 9, 3) := by decide +kernel
theorem dX8_thing_20 : decode cX8_thing 20 = .ok (.aload_n 0, 1) := by decide +kernel
theorem dX8_thing_21 : decode cX8_thing 21 = .ok (.iconst 1, 1) := by decide +kernel
theorem dX8_thing_22 : decode cX8_thing 22 = .ok (.invokevirtual 63, 3) := by decide +kernel
theorem dX8_thing_25 : decode cX8_thing 25 = .ok (.ireturn, 1) := by decide +kernel
theorem dX8_thing_26 : decode cX8_thing 26 = .ok (.iload_n 2, 1) := by decide +kernel
theorem dX8_thing_27 : decode cX8_thing 27 = .ok (.tableswitch 87 0 3 #[29, 42, 58, 74], 29) := by decide +kernel
theorem dX8_thing_56 : decode cX8_thing 56 = .ok (.aload_n 0, 1) := by decide +kernel
theorem dX8_thing_57 : decode cX8_thing 57 = .ok (.aload_n 0, 1) := by decide +kernel
theorem dX8_thing_58 : decode cX8_thing 58 = .ok (.getfield 47, 3) := by decide +kernel
theorem dX8_thing_61 : decode cX8_thing 61 = .ok (.iload_n 1, 1) := by decide +kernel
theorem dX8_thing_62 : decode cX8_thing 62 = .ok (.invokevirtual 127, 3) := by decide +kernel
theorem dX8_thing_65 : decode cX8_thing 65 = .ok (.invokevirtual 97, 3) := by decide +kernel
theorem dX8_thing_68 : decode cX8_thing 68 = .ok (.ireturn, 1) := by decide +kernel
theorem dX8_thing_69 : decode cX8_thing 69 = .ok (.aload_n 0, 1) := by decide +kernel
theorem dX8_thing_70 : decode cX8_thing 70 = .ok (.aload_n 0, 1) := by decide +kernel
theorem dX8_thing_71 : decode cX8_thing 71 = .ok (.getfield 19, 3) := by decide +kernel
theorem dX8_thing_74 : decode cX8_thing 74 = .ok (.iload_n 1, 1) := by decide +kernel
theorem dX8_thing_75 : decode cX8_thing 75 = .ok (.invokevirtual 130, 3) := by decide +kernel
theorem dX8_thing_78 : decode cX8_thing 78 = .ok (.invokestatic 133, 3) := by decide +kernel
theorem dX8_thing_81 : decode cX8_thing 81 = .ok (.invokevirtual 97, 3) := by decide +kernel
theorem dX8_thing_84 : decode cX8_thing 84 = .ok (.ireturn, 1) := by decide +kernel
theorem dX8_thing_85 : decode cX8_thing 85 = .ok (.aload_n 0, 1) := by decide +kernel
theorem dX8_thing_86 : decode cX8_thing 86 = .ok (.aload_n 0, 1) := by decide +kernel
theorem dX8_thing_87 : decode cX8_thing 87 = .ok (.getfield 19, 3) := by decide +kernel
theorem dX8_thing_90 : decode cX8_thing 90 = .ok (.iload_n 1, 1) := by decide +kernel
theorem dX8_thing_91 : decode cX8_thing 91 = .ok (.invokevirtual 130, 3) := by decide +kernel
theorem dX8_thing_94 : decode cX8_thing 94 = .ok (.invokestatic 136, 3) := by decide +kernel
theorem dX8_thing_97 : decode cX8_thing 97 = .ok (.invokevirtual 97, 3) := by decide +kernel
theorem dX8_thing_100 : decode cX8_thing 100 = .ok (.ireturn, 1) := by decide +kernel
theorem dX8_thing_101 : decode cX8_thing 101 = .ok (.aload_n 0, 1) := by decide +kernel
theorem dX8_thing_102 : decode cX8_thing 102 = .ok (.aload_n 0, 1) := by decide +kernel
theorem dX8_thing_103 : decode cX8_thing 103 = .ok (.getfield 47, 3) := by decide +kernel
theorem dX8_thing_106 : decode cX8_thing 106 = .ok (.iload_n 1, 1) := by decide +kernel
theorem dX8_thing_107 : decode cX8_thing 107 = .ok (.invokevirtual 139, 3) := by decide +kernel
theorem dX8_thing_110 : decode cX8_thing 110 = .ok (.invokevirtual 97, 3) := by decide +kernel
theorem dX8_thing_113 : decode cX8_thing 113 = .ok (.ireturn, 1) := by decide +kernel
theorem dX8_thing_114 : decode cX8_thing 114 = .ok (.aload_n 0, 1) := by decide +kernel
theorem dX8_thing_115 : decode cX8_thing 115 = .ok (.aload_n 0, 1) := by decide +kernel
theorem dX8_thing_116 : decode cX8_thing 116 = .ok (.getfield 19, 3) := by decide +kernel
theorem dX8_thing_119 : decode cX8_thing 119 = .ok (.iload_n 1, 1) := by decide +kernel
theorem dX8_thing_120 : decode cX8_thing 120 = .ok (.invokevirtual 142, 3) := by decide +kernel
theorem dX8_thing_123 : decode cX8_thing 123 = .ok (.ifCond .eq 7, 3) := by decide +kernel
theorem dX8_thing_126 : decode cX8_thing 126 = .ok (.iconst 1, 1) := by decide +kernel
theorem dX8_thing_127 : decode cX8_thing 127 = .ok (.goto 4, 3) := by decide +kernel
theorem dX8_thing_130 : decode cX8_thing 130 = .ok (.iconst 0, 1) := by decide +kernel
theorem dX8_thing_131 : decode cX8_thing 131 = .ok (.invokevirtual 97, 3) := by decide +kernel
theorem dX8_thing_134 : decode cX8_thing 134 = .ok (.ireturn, 1) := by decide +kernel
theorem dX8_at_0 : decode cX8_at 0 = .ok (.aload_n 0, 1) := by decide +kernel
theorem dX8_at_1 : decode cX8_at 1 = .ok (.getfield 47, 3) := by decide +kernel
theorem dX8_at_4 : decode cX8_at 4 = .ok (.iload_n 1, 1) := by decide +kernel
theorem dX8_at_5 : decode cX8_at 5 = .ok (.iload_n 2, 1) := by decide +kernel
theorem dX8_at_6 : decode cX8_at 6 = .ok (.invokevirtual 145, 3) := by decide +kernel
theorem dX8_at_9 : decode cX8_at 9 = .ok (.ifCond .ne 9, 3) := by decide +kernel
theorem dX8_at_12 : decode cX8_at 12 = .ok (.aload_n 0, 1) := by decide +kernel
theorem dX8_at_13 : decode cX8_at 13 = .ok (.iconst 1, 1) := by decide +kernel
theorem dX8_at_14 : decode cX8_at 14 = .ok (.invokevirtual 63, 3) := by decide +kernel
theorem dX8_at_17 : decode cX8_at 17 = .ok (.ireturn, 1) := by decide +kernel
theorem dX8_at_18 : decode cX8_at 18 = .ok (.aload_n 0, 1) := by decide +kernel
theorem dX8_at_19 : decode cX8_at 19 = .ok (.getfield 19, 3) := by decide +kernel
theorem dX8_at_22 : decode cX8_at 22 = .ok (.iload_n 1, 1) := by decide +kernel
theorem dX8_at_23 : decode cX8_at 23 = .ok (.iload_n 2, 1) := by decide +kernel
theorem dX8_at_24 : decode cX8_at 24 = .ok (.invokestatic 149, 3) := by decide +kernel
theorem dX8_at_27 : decode cX8_at 27 = .ok (.aload_n 0, 1) := by decide +kernel
theorem dX8_at_28 : decode cX8_at 28 = .ok (.getfield 47, 3) := by decide +kernel
theorem dX8_at_31 : decode cX8_at 31 = .ok (.getfield 106, 3) := by decide +kernel
theorem dX8_at_34 : decode cX8_at 34 = .ok (.invokevirtual 152, 3) := by decide +kernel
theorem dX8_at_37 : decode cX8_at 37 = .ok (.istore_n 3, 1) := by decide +kernel
theorem dX8_at_38 : decode cX8_at 38 = .ok (.aload_n 0, 1) := by decide +kernel
theorem dX8_at_39 : decode cX8_at 39 = .ok (.iload_n 3, 1) := by decide +kernel
theorem dX8_at_40 : decode cX8_at 40 = .ok (.ifCond .ge 8, 3) := by decide +kernel
theorem dX8_at_43 : decode cX8_at 43 = .ok (.bipush (-2), 2) := by decide +kernel
theorem dX8_at_45 : decode cX8_at 45 = .ok (.goto 4, 3) := by decide +kernel
theorem dX8_at_48 : decode cX8_at 48 = .ok (.iload_n 3, 1) := by decide +kernel
theorem dX8_at_49 : decode cX8_at 49 = .ok (.invokevirtual 97, 3) := by decide +kernel
theorem dX8_at_52 : decode cX8_at 52 = .ok (.ireturn, 1) := by decide +kernel
theorem dX8_narrow_0 : decode cX8_narrow 0 = .ok (.aload_n 0, 1) := by decide +kernel
theorem dX8_narrow_1 : decode cX8_narrow 1 = .ok (.getfield 47, 3) := by decide +kernel
theorem dX8_narrow_4 : decode cX8_narrow 4 = .ok (.iload_n 1, 1) := by decide +kernel
theorem dX8_narrow_5 : decode cX8_narrow 5 = .ok (.iload_n 2, 1) := by decide +kernel
theorem dX8_narrow_6 : decode cX8_narrow 6 = .ok (.invokevirtual 145, 3) := by decide +kernel
theorem dX8_narrow_9 : decode cX8_narrow 9 = .ok (.ifCond .ne 9, 3) := by decide +kernel
theorem dX8_narrow_12 : decode cX8_narrow 12 = .ok (.aload_n 0, 1) := by decide +kernel
theorem dX8_narrow_13 : decode cX8_narrow 13 = .ok (.iconst 1, 1) := by decide +kernel
theorem dX8_narrow_14 : decode cX8_narrow 14 = .ok (.invokevirtual 63, 3) := by decide +kernel
theorem dX8_narrow_17 : decode cX8_narrow 17 = .ok (.ireturn, 1) := by decide +kernel
theorem dX8_narrow_18 : decode cX8_narrow 18 = .ok (.aload_n 0, 1) := by decide +kernel
theorem dX8_narrow_19 : decode cX8_narrow 19 = .ok (.getfield 47, 3) := by decide +kernel
theorem dX8_narrow_22 : decode cX8_narrow 22 = .ok (.iload_n 1, 1) := by decide +kernel
theorem dX8_narrow_23 : decode cX8_narrow 23 = .ok (.iload_n 2, 1) := by decide +kernel
theorem dX8_narrow_24 : decode cX8_narrow 24 = .ok (.invokestatic 149, 3) := by decide +kernel
theorem dX8_narrow_27 : decode cX8_narrow 27 = .ok (.invokevirtual 155, 3) := by decide +kernel
theorem dX8_narrow_30 : decode cX8_narrow 30 = .ok (.istore_n 3, 1) := by decide +kernel
theorem dX8_narrow_31 : decode cX8_narrow 31 = .ok (.aload_n 0, 1) := by decide +kernel
theorem dX8_narrow_32 : decode cX8_narrow 32 = .ok (.iload_n 3, 1) := by decide +kernel
theorem dX8_narrow_33 : decode cX8_narrow 33 = .ok (.bipush 10, 2) := by decide +kernel
theorem dX8_narrow_35 : decode cX8_narrow 35 = .ok (.if_icmp .ne 8, 3) := by decide +kernel
theorem dX8_narrow_38 : decode cX8_narrow 38 = .ok (.bipush (-2), 2) := by decide +kernel
theorem dX8_narrow_40 : decode cX8_narrow 40 = .ok (.goto 4, 3) := by decide +kernel
theorem dX8_narrow_43 : decode cX8_narrow 43 = .ok (.iload_n 3, 1) := by decide +kernel
theorem dX8_narrow_44 : decode cX8_narrow 44 = .ok (.invokevirtual 97, 3) := by decide +kernel
theorem dX8_narrow_47 : decode cX8_narrow 47 = .ok (.ireturn, 1) := by decide +kernel
theorem dX8_ahead_0 : decode cX8_ahead 0 = .ok (.aload_n 0, 1) := by decide +kernel
theorem dX8_ahead_1 : decode cX8_ahead 1 = .ok (.getfield 47, 3) := by decide +kernel
theorem dX8_ahead_4 : decode cX8_ahead 4 = .ok (.iload_n 1, 1) := by decide +kernel
theorem dX8_ahead_5 : decode cX8_ahead 5 = .ok (.invokevirtual 124, 3) := by decide +kernel
theorem dX8_ahead_8 : decode cX8_ahead 8 = .ok (.ifCond .ne 9, 3) := by decide +kernel
theorem dX8_ahead_11 : decode cX8_ahead 11 = .ok (.aload_n 0, 1) := by decide +kernel
theorem dX8_ahead_12 : decode cX8_ahead 12 = .ok (.iconst 1, 1) := by decide +kernel
theorem dX8_ahead_13 : decode cX8_ahead 13 = .ok (.invokevirtual 63, 3) := by decide +kernel
theorem dX8_ahead_16 : decode cX8_ahead 16 = .ok (.ireturn, 1) := by decide +kernel
theorem dX8_ahead_17 : decode cX8_ahead 17 = .ok (.aload_n 0, 1) := by decide +kernel
theorem dX8_ahead_18 : decode cX8_ahead 18 = .ok (.aload_n 0, 1) := by decide +kernel
theorem dX8_ahead_19 : decode cX8_ahead 19 = .ok (.getfield 47, 3) := by decide +kernel
theorem dX8_ahead_22 : decode cX8_ahead 22 = .ok (.aload_n 0, 1) := by decide +kernel
theorem dX8_ahead_23 : decode cX8_ahead 23 = .ok (.getfield 19, 3) := by decide +kernel
theorem dX8_ahead_26 : decode cX8_ahead 26 = .ok (.iload_n 1, 1) := by decide +kernel
theorem dX8_ahead_27 : decode cX8_ahead 27 = .ok (.invokevirtual 130, 3) := by decide +kernel
theorem dX8_ahead_30 : decode cX8_ahead 30 = .ok (.invokevirtual 158, 3) := by decide +kernel
theorem dX8_ahead_33 : decode cX8_ahead 33 = .ok (.invokestatic 136, 3) := by decide +kernel
theorem dX8_ahead_36 : decode cX8_ahead 36 = .ok (.invokevirtual 97, 3) := by decide +kernel
theorem dX8_ahead_39 : decode cX8_ahead 39 = .ok (.ireturn, 1) := by decide +kernel
theorem dX8_goes_0 : decode cX8_goes 0 = .ok (.aload_n 0, 1) := by decide +kernel
theorem dX8_goes_1 : decode cX8_goes 1 = .ok (.getfield 47, 3) := by decide +kernel
theorem dX8_goes_4 : decode cX8_goes 4 = .ok (.invokevirtual 161, 3) := by decide +kernel
theorem dX8_goes_7 : decode cX8_goes 7 = .ok (.ifCond .ne 9, 3) := by decide +kernel
theorem dX8_goes_10 : decode cX8_goes 10 = .ok (.aload_n 0, 1) := by decide +kernel
theorem dX8_goes_11 : decode cX8_goes 11 = .ok (.iconst 1, 1) := by decide +kernel
theorem dX8_goes_12 : decode cX8_goes 12 = .ok (.invokevirtual 63, 3) := by decide +kernel
theorem dX8_goes_15 : decode cX8_goes 15 = .ok (.ireturn, 1) := by decide +kernel
theorem dX8_goes_16 : decode cX8_goes 16 = .ok (.aload_n 0, 1) := by decide +kernel
theorem dX8_goes_17 : decode cX8_goes 17 = .ok (.getfield 26, 3) := by decide +kernel
theorem dX8_goes_20 : decode cX8_goes 20 = .ok (.aload_n 0, 1) := by decide +kernel
theorem dX8_goes_21 : decode cX8_goes 21 = .ok (.getfield 47, 3) := by decide +kernel
theorem dX8_goes_24 : decode cX8_goes 24 = .ok (.aload_n 0, 1) := by decide +kernel
theorem dX8_goes_25 : decode cX8_goes 25 = .ok (.getfield 19, 3) := by decide +kernel
theorem dX8_goes_28 : decode cX8_goes 28 = .ok (.iconst 0, 1) := by decide +kernel
theorem dX8_goes_29 : decode cX8_goes 29 = .ok (.invokevirtual 165, 3) := by decide +kernel
theorem dX8_goes_32 : decode cX8_goes 32 = .ok (.aload_n 0, 1) := by decide +kernel
theorem dX8_goes_33 : decode cX8_goes 33 = .ok (.getfield 26, 3) := by decide +kernel
theorem dX8_goes_36 : decode cX8_goes 36 = .ok (.iconst 0, 1) := by decide +kernel
theorem dX8_goes_37 : decode cX8_goes 37 = .ok (.invokevirtual 169, 3) := by decide +kernel
theorem dX8_goes_40 : decode cX8_goes 40 = .ok (.aload_n 0, 1) := by decide +kernel
theorem dX8_goes_41 : decode cX8_goes 41 = .ok (.aload_n 0, 1) := by decide +kernel
theorem dX8_goes_42 : decode cX8_goes 42 = .ok (.getfield 26, 3) := by decide +kernel
theorem dX8_goes_45 : decode cX8_goes 45 = .ok (.invokevirtual 172, 3) := by decide +kernel
theorem dX8_goes_48 : decode cX8_goes 48 = .ok (.invokevirtual 97, 3) := by decide +kernel
theorem dX8_goes_51 : decode cX8_goes 51 = .ok (.ireturn, 1) := by decide +kernel
theorem dX8_blocked_0 : decode cX8_blocked 0 = .ok (.aload_n 0, 1) := by decide +kernel
theorem dX8_blocked_1 : decode cX8_blocked 1 = .ok (.getfield 47, 3) := by decide +kernel
theorem dX8_blocked_4 : decode cX8_blocked 4 = .ok (.invokevirtual 161, 3) := by decide +kernel
theorem dX8_blocked_7 : decode cX8_blocked 7 = .ok (.ifCond .ne 9, 3) := by decide +kernel
theorem dX8_blocked_10 : decode cX8_blocked 10 = .ok (.aload_n 0, 1) := by decide +kernel
theorem dX8_blocked_11 : decode cX8_blocked 11 = .ok (.iconst 1, 1) := by decide +kernel
theorem dX8_blocked_12 : decode cX8_blocked 12 = .ok (.invokevirtual 63, 3) := by decide +kernel
theorem dX8_blocked_15 : decode cX8_blocked 15 = .ok (.ireturn, 1) := by decide +kernel
theorem dX8_blocked_16 : decode cX8_blocked 16 = .ok (.aload_n 0, 1) := by decide +kernel
theorem dX8_blocked_17 : decode cX8_blocked 17 = .ok (.getfield 26, 3) := by decide +kernel
theorem dX8_blocked_20 : decode cX8_blocked 20 = .ok (.aload_n 0, 1) := by decide +kernel
theorem dX8_blocked_21 : decode cX8_blocked 21 = .ok (.getfield 47, 3) := by decide +kernel
theorem dX8_blocked_24 : decode cX8_blocked 24 = .ok (.aload_n 0, 1) := by decide +kernel
theorem dX8_blocked_25 : decode cX8_blocked 25 = .ok (.getfield 19, 3) := by decide +kernel
theorem dX8_blocked_28 : decode cX8_blocked 28 = .ok (.iconst 0, 1) := by decide +kernel
theorem dX8_blocked_29 : decode cX8_blocked 29 = .ok (.invokevirtual 165, 3) := by decide +kernel
theorem dX8_blocked_32 : decode cX8_blocked 32 = .ok (.aload_n 0, 1) := by decide +kernel
theorem dX8_blocked_33 : decode cX8_blocked 33 = .ok (.getfield 26, 3) := by decide +kernel
theorem dX8_blocked_36 : decode cX8_blocked 36 = .ok (.iconst 0, 1) := by decide +kernel
theorem dX8_blocked_37 : decode cX8_blocked 37 = .ok (.invokevirtual 169, 3) := by decide +kernel
theorem dX8_blocked_40 : decode cX8_blocked 40 = .ok (.aload_n 0, 1) := by decide +kernel
theorem dX8_blocked_41 : decode cX8_blocked 41 = .ok (.aload_n 0, 1) := by decide +kernel
theorem dX8_blocked_42 : decode cX8_blocked 42 = .ok (.getfield 26, 3) := by decide +kernel
theorem dX8_blocked_45 : decode cX8_blocked 45 = .ok (.invokevirtual 175, 3) := by decide +kernel
theorem dX8_blocked_48 : decode cX8_blocked 48 = .ok (.invokevirtual 97, 3) := by decide +kernel
theorem dX8_blocked_51 : decode cX8_blocked 51 = .ok (.ireturn, 1) := by decide +kernel
theorem dX8_meeting_0 : decode cX8_meeting 0 = .ok (.aload_n 0, 1) := by decide +kernel
theorem dX8_meeting_1 : decode cX8_meeting 1 = .ok (.getfield 47, 3) := by decide +kernel
theorem dX8_meeting_4 : decode cX8_meeting 4 = .ok (.invokevirtual 161, 3) := by decide +kernel
theorem dX8_meeting_7 : decode cX8_meeting 7 = .ok (.ifCond .ne 9, 3) := by decide +kernel
theorem dX8_meeting_10 : decode cX8_meeting 10 = .ok (.aload_n 0, 1) := by decide +kernel
theorem dX8_meeting_11 : decode cX8_meeting 11 = .ok (.iconst 1, 1) := by decide +kernel
theorem dX8_meeting_12 : decode cX8_meeting 12 = .ok (.invokevirtual 63, 3) := by decide +kernel
theorem dX8_meeting_15 : decode cX8_meeting 15 = .ok (.ireturn, 1) := by decide +kernel
theorem dX8_meeting_16 : decode cX8_meeting 16 = .ok (.aload_n 0, 1) := by decide +kernel
theorem dX8_meeting_17 : decode cX8_meeting 17 = .ok (.getfield 26, 3) := by decide +kernel
theorem dX8_meeting_20 : decode cX8_meeting 20 = .ok (.aload_n 0, 1) := by decide +kernel
theorem dX8_meeting_21 : decode cX8_meeting 21 = .ok (.getfield 47, 3) := by decide +kernel
theorem dX8_meeting_24 : decode cX8_meeting 24 = .ok (.aload_n 0, 1) := by decide +kernel
theorem dX8_meeting_25 : decode cX8_meeting 25 = .ok (.getfield 19, 3) := by decide +kernel
theorem dX8_meeting_28 : decode cX8_meeting 28 = .ok (.iconst 0, 1) := by decide +kernel
theorem dX8_meeting_29 : decode cX8_meeting 29 = .ok (.invokevirtual 165, 3) := by decide +kernel
theorem dX8_meeting_32 : decode cX8_meeting 32 = .ok (.aload_n 0, 1) := by decide +kernel
theorem dX8_meeting_33 : decode cX8_meeting 33 = .ok (.aload_n 0, 1) := by decide +kernel
theorem dX8_meeting_34 : decode cX8_meeting 34 = .ok (.getfield 26, 3) := by decide +kernel
theorem dX8_meeting_37 : decode cX8_meeting 37 = .ok (.invokevirtual 178, 3) := by decide +kernel
theorem dX8_meeting_40 : decode cX8_meeting 40 = .ok (.invokevirtual 97, 3) := by decide +kernel
theorem dX8_meeting_43 : decode cX8_meeting 43 = .ok (.ireturn, 1) := by decide +kernel
theorem dX8_behind_0 : decode cX8_behind 0 = .ok (.aload_n 0, 1) := by decide +kernel
theorem dX8_behind_1 : decode cX8_behind 1 = .ok (.getfield 47, 3) := by decide +kernel
theorem dX8_behind_4 : decode cX8_behind 4 = .ok (.iload_n 1, 1) := by decide +kernel
theorem dX8_behind_5 : decode cX8_behind 5 = .ok (.invokevirtual 124, 3) := by decide +kernel
theorem dX8_behind_8 : decode cX8_behind 8 = .ok (.ifCond .ne 9, 3) := by decide +kernel
theorem dX8_behind_11 : decode cX8_behind 11 = .ok (.aload_n 0, 1) := by decide +kernel
theorem dX8_behind_12 : decode cX8_behind 12 = .ok (.iconst 1, 1) := by decide +kernel
theorem dX8_behind_13 : decode cX8_behind 13 = .ok (.invokevirtual 63, 3) := by decide +kernel
theorem dX8_behind_16 : decode cX8_behind 16 = .ok (.ireturn, 1) := by decide +kernel
theorem dX8_behind_17 : decode cX8_behind 17 = .ok (.iload_n 2, 1) := by decide +kernel
theorem dX8_behind_18 : decode cX8_behind 18 = .ok (.ifCond .lt 10, 3) := by decide +kernel
theorem dX8_behind_21 : decode cX8_behind 21 = .ok (.iload_n 2, 1) := by decide +kernel
theorem dX8_behind_22 : decode cX8_behind 22 = .ok (.sipush 200, 3) := by decide +kernel
theorem dX8_behind_25 : decode cX8_behind 25 = .ok (.if_icmp .le 9, 3) := by decide +kernel
theorem dX8_behind_28 : decode cX8_behind 28 = .ok (.aload_n 0, 1) := by decide +kernel
theorem dX8_behind_29 : decode cX8_behind 29 = .ok (.iconst 2, 1) := by decide +kernel
theorem dX8_behind_30 : decode cX8_behind 30 = .ok (.invokevirtual 63, 3) := by decide +kernel
theorem dX8_behind_33 : decode cX8_behind 33 = .ok (.ireturn, 1) := by decide +kernel
theorem dX8_behind_34 : decode cX8_behind 34 = .ok (.aload_n 0, 1) := by decide +kernel
theorem dX8_behind_35 : decode cX8_behind 35 = .ok (.getfield 26, 3) := by decide +kernel
theorem dX8_behind_38 : decode cX8_behind 38 = .ok (.aload_n 0, 1) := by decide +kernel
theorem dX8_behind_39 : decode cX8_behind 39 = .ok (.getfield 47, 3) := by decide +kernel
theorem dX8_behind_42 : decode cX8_behind 42 = .ok (.aload_n 0, 1) := by decide +kernel
theorem dX8_behind_43 : decode cX8_behind 43 = .ok (.getfield 19, 3) := by decide +kernel
theorem dX8_behind_46 : decode cX8_behind 46 = .ok (.iconst 0, 1) := by decide +kernel
theorem dX8_behind_47 : decode cX8_behind 47 = .ok (.invokevirtual 165, 3) := by decide +kernel
theorem dX8_behind_50 : decode cX8_behind 50 = .ok (.aload_n 0, 1) := by decide +kernel
theorem dX8_behind_51 : decode cX8_behind 51 = .ok (.getfield 26, 3) := by decide +kernel
theorem dX8_behind_54 : decode cX8_behind 54 = .ok (.iload_n 2, 1) := by decide +kernel
theorem dX8_behind_55 : decode cX8_behind 55 = .ok (.invokevirtual 181, 3) := by decide +kernel
theorem dX8_behind_58 : decode cX8_behind 58 = .ok (.pop, 1) := by decide +kernel
theorem dX8_behind_59 : decode cX8_behind 59 = .ok (.aload_n 0, 1) := by decide +kernel
theorem dX8_behind_60 : decode cX8_behind 60 = .ok (.aload_n 0, 1) := by decide +kernel
theorem dX8_behind_61 : decode cX8_behind 61 = .ok (.getfield 26, 3) := by decide +kernel
theorem dX8_behind_64 : decode cX8_behind 64 = .ok (.iload_n 1, 1) := by decide +kernel
theorem dX8_behind_65 : decode cX8_behind 65 = .ok (.invokevirtual 184, 3) := by decide +kernel
theorem dX8_behind_68 : decode cX8_behind 68 = .ok (.invokestatic 185, 3) := by decide +kernel
theorem dX8_behind_71 : decode cX8_behind 71 = .ok (.invokevirtual 97, 3) := by decide +kernel
theorem dX8_behind_74 : decode cX8_behind 74 = .ok (.ireturn, 1) := by decide +kernel
theorem dX8_when_0 : decode cX8_when 0 = .ok (.aload_n 0, 1) := by decide +kernel
theorem dX8_when_1 : decode cX8_when 1 = .ok (.getfield 47, 3) := by decide +kernel
theorem dX8_when_4 : decode cX8_when 4 = .ok (.iload_n 1, 1) := by decide +kernel
theorem dX8_when_5 : decode cX8_when 5 = .ok (.invokevirtual 124, 3) := by decide +kernel
theorem dX8_when_8 : decode cX8_when 8 = .ok (.ifCond .eq 15, 3) := by decide +kernel
theorem dX8_when_11 : decode cX8_when 11 = .ok (.aload_n 0, 1) := by decide +kernel
theorem dX8_when_12 : decode cX8_when 12 = .ok (.getfield 47, 3) := by decide +kernel
theorem dX8_when_15 : decode cX8_when 15 = .ok (.iload_n 2, 1) := by decide +kernel
theorem dX8_when_16 : decode cX8_when 16 = .ok (.iload_n 3, 1) := by decide +kernel
theorem dX8_when_17 : decode cX8_when 17 = .ok (.invokevirtual 145, 3) := by decide +kernel
theorem dX8_when_20 : decode cX8_when 20 = .ok (.ifCond .ne 9, 3) := by decide +kernel
theorem dX8_when_23 : decode cX8_when 23 = .ok (.aload_n 0, 1) := by decide +kernel
theorem dX8_when_24 : decode cX8_when 24 = .ok (.iconst 1, 1) := by decide +kernel
theorem dX8_when_25 : decode cX8_when 25 = .ok (.invokevirtual 63, 3) := by decide +kernel
theorem dX8_when_28 : decode cX8_when 28 = .ok (.ireturn, 1) := by decide +kernel
theorem dX8_when_29 : decode cX8_when 29 = .ok (.iload_n 2, 1) := by decide +kernel
theorem dX8_when_30 : decode cX8_when 30 = .ok (.iload_n 3, 1) := by decide +kernel
theorem dX8_when_31 : decode cX8_when 31 = .ok (.invokestatic 149, 3) := by decide +kernel
theorem dX8_when_34 : decode cX8_when 34 = .ok (.istore 4, 2) := by decide +kernel
theorem dX8_when_36 : decode cX8_when 36 = .ok (.aload_n 0, 1) := by decide +kernel
theorem dX8_when_37 : decode cX8_when 37 = .ok (.getfield 26, 3) := by decide +kernel
theorem dX8_when_40 : decode cX8_when 40 = .ok (.aload_n 0, 1) := by decide +kernel
theorem dX8_when_41 : decode cX8_when 41 = .ok (.getfield 47, 3) := by decide +kernel
theorem dX8_when_44 : decode cX8_when 44 = .ok (.aload_n 0, 1) := by decide +kernel
theorem dX8_when_45 : decode cX8_when 45 = .ok (.getfield 19, 3) := by decide +kernel
theorem dX8_when_48 : decode cX8_when 48 = .ok (.iconst 0, 1) := by decide +kernel
theorem dX8_when_49 : decode cX8_when 49 = .ok (.invokevirtual 165, 3) := by decide +kernel
theorem dX8_when_52 : decode cX8_when 52 = .ok (.iconst 0, 1) := by decide +kernel
theorem dX8_when_53 : decode cX8_when 53 = .ok (.istore 5, 2) := by decide +kernel
theorem dX8_when_55 : decode cX8_when 55 = .ok (.iload 5, 2) := by decide +kernel
theorem dX8_when_57 : decode cX8_when 57 = .ok (.sipush 200, 3) := by decide +kernel
theorem dX8_when_60 : decode cX8_when 60 = .ok (.if_icmp .gt 37, 3) := by decide +kernel
theorem dX8_when_63 : decode cX8_when 63 = .ok (.aload_n 0, 1) := by decide +kernel
theorem dX8_when_64 : decode cX8_when 64 = .ok (.getfield 26, 3) := by decide +kernel
theorem dX8_when_67 : decode cX8_when 67 = .ok (.iload_n 1, 1) := by decide +kernel
theorem dX8_when_68 : decode cX8_when 68 = .ok (.invokevirtual 184, 3) := by decide +kernel
theorem dX8_when_71 : decode cX8_when 71 = .ok (.iload 4, 2) := by decide +kernel
theorem dX8_when_73 : decode cX8_when 73 = .ok (.if_icmp .ne 10, 3) := by decide +kernel
theorem dX8_when_76 : decode cX8_when 76 = .ok (.aload_n 0, 1) := by decide +kernel
theorem dX8_when_77 : decode cX8_when 77 = .ok (.iload 5, 2) := by decide +kernel
theorem dX8_when_79 : decode cX8_when 79 = .ok (.invokevirtual 97, 3) := by decide +kernel
theorem dX8_when_82 : decode cX8_when 82 = .ok (.ireturn, 1) := by decide +kernel
theorem dX8_when_83 : decode cX8_when 83 = .ok (.aload_n 0, 1) := by decide +kernel
theorem dX8_when_84 : decode cX8_when 84 = .ok (.getfield 26, 3) := by decide +kernel
theorem dX8_when_87 : decode cX8_when 87 = .ok (.iconst 0, 1) := by decide +kernel
theorem dX8_when_88 : decode cX8_when 88 = .ok (.invokevirtual 188, 3) := by decide +kernel
theorem dX8_when_91 : decode cX8_when 91 = .ok (.iinc 5 1, 3) := by decide +kernel
theorem dX8_when_94 : decode cX8_when 94 = .ok (.goto (-39), 3) := by decide +kernel
theorem dX8_when_97 : decode cX8_when 97 = .ok (.aload_n 0, 1) := by decide +kernel
theorem dX8_when_98 : decode cX8_when 98 = .ok (.bipush (-2), 2) := by decide +kernel
theorem dX8_when_100 : decode cX8_when 100 = .ok (.invokevirtual 97, 3) := by decide +kernel
theorem dX8_when_103 : decode cX8_when 103 = .ok (.ireturn, 1) := by decide +kernel
theorem dX8_meets_0 : decode cX8_meets 0 = .ok (.aload_n 0, 1) := by decide +kernel
theorem dX8_meets_1 : decode cX8_meets 1 = .ok (.iload_n 1, 1) := by decide +kernel
theorem dX8_meets_2 : decode cX8_meets 2 = .ok (.iload_n 2, 1) := by decide +kernel
theorem dX8_meets_3 : decode cX8_meets 3 = .ok (.invokevirtual 191, 3) := by decide +kernel
theorem dX8_meets_6 : decode cX8_meets 6 = .ok (.ifCond .ne 9, 3) := by decide +kernel
theorem dX8_meets_9 : decode cX8_meets 9 = .ok (.aload_n 0, 1) := by decide +kernel
theorem dX8_meets_10 : decode cX8_meets 10 = .ok (.iconst 1, 1) := by decide +kernel
theorem dX8_meets_11 : decode cX8_meets 11 = .ok (.invokevirtual 63, 3) := by decide +kernel
theorem dX8_meets_14 : decode cX8_meets 14 = .ok (.ireturn, 1) := by decide +kernel
theorem dX8_meets_15 : decode cX8_meets 15 = .ok (.aload_n 0, 1) := by decide +kernel
theorem dX8_meets_16 : decode cX8_meets 16 = .ok (.getfield 26, 3) := by decide +kernel
theorem dX8_meets_19 : decode cX8_meets 19 = .ok (.aload_n 0, 1) := by decide +kernel
theorem dX8_meets_20 : decode cX8_meets 20 = .ok (.getfield 47, 3) := by decide +kernel
theorem dX8_meets_23 : decode cX8_meets 23 = .ok (.aload_n 0, 1) := by decide +kernel
theorem dX8_meets_24 : decode cX8_meets 24 = .ok (.getfield 19, 3) := by decide +kernel
theorem dX8_meets_27 : decode cX8_meets 27 = .ok (.iconst 0, 1) := by decide +kernel
theorem dX8_meets_28 : decode cX8_meets 28 = .ok (.invokevirtual 165, 3) := by decide +kernel
theorem dX8_meets_31 : decode cX8_meets 31 = .ok (.iconst 0, 1) := by decide +kernel
theorem dX8_meets_32 : decode cX8_meets 32 = .ok (.istore_n 3, 1) := by decide +kernel
theorem dX8_meets_33 : decode cX8_meets 33 = .ok (.iload_n 3, 1) := by decide +kernel
theorem dX8_meets_34 : decode cX8_meets 34 = .ok (.sipush 200, 3) := by decide +kernel
theorem dX8_meets_37 : decode cX8_meets 37 = .ok (.if_icmp .gt 35, 3) := by decide +kernel
theorem dX8_meets_40 : decode cX8_meets 40 = .ok (.aload_n 0, 1) := by decide +kernel
theorem dX8_meets_41 : decode cX8_meets 41 = .ok (.getfield 26, 3) := by decide +kernel
theorem dX8_meets_44 : decode cX8_meets 44 = .ok (.iload_n 1, 1) := by decide +kernel
theorem dX8_meets_45 : decode cX8_meets 45 = .ok (.iload_n 2, 1) := by decide +kernel
theorem dX8_meets_46 : decode cX8_meets 46 = .ok (.invokevirtual 194, 3) := by decide +kernel
theorem dX8_meets_49 : decode cX8_meets 49 = .ok (.ifCond .eq 9, 3) := by decide +kernel
theorem dX8_meets_52 : decode cX8_meets 52 = .ok (.aload_n 0, 1) := by decide +kernel
theorem dX8_meets_53 : decode cX8_meets 53 = .ok (.iload_n 3, 1) := by decide +kernel
theorem dX8_meets_54 : decode cX8_meets 54 = .ok (.invokevirtual 97, 3) := by decide +kernel
theorem dX8_meets_57 : decode cX8_meets 57 = .ok (.ireturn, 1) := by decide +kernel
theorem dX8_meets_58 : decode cX8_meets 58 = .ok (.aload_n 0, 1) := by decide +kernel
theorem dX8_meets_59 : decode cX8_meets 59 = .ok (.getfield 26, 3) := by decide +kernel
theorem dX8_meets_62 : decode cX8_meets 62 = .ok (.iconst 0, 1) := by decide +kernel
theorem dX8_meets_63 : decode cX8_meets 63 = .ok (.invokevirtual 188, 3) := by decide +kernel
theorem dX8_meets_66 : decode cX8_meets 66 = .ok (.iinc 3 1, 3) := by decide +kernel
theorem dX8_meets_69 : decode cX8_meets 69 = .ok (.goto (-36), 3) := by decide +kernel
theorem dX8_meets_72 : decode cX8_meets 72 = .ok (.aload_n 0, 1) := by decide +kernel
theorem dX8_meets_73 : decode cX8_meets 73 = .ok (.bipush (-2), 2) := by decide +kernel
theorem dX8_meets_75 : decode cX8_meets 75 = .ok (.invokevirtual 97, 3) := by decide +kernel
theorem dX8_meets_78 : decode cX8_meets 78 = .ok (.ireturn, 1) := by decide +kernel
theorem dX8_still_0 : decode cX8_still 0 = .ok (.aload_n 0, 1) := by decide +kernel
theorem dX8_still_1 : decode cX8_still 1 = .ok (.getfield 47, 3) := by decide +kernel
theorem dX8_still_4 : decode cX8_still 4 = .ok (.invokevirtual 161, 3) := by decide +kernel
theorem dX8_still_7 : decode cX8_still 7 = .ok (.ifCond .ne 9, 3) := by decide +kernel
theorem dX8_still_10 : decode cX8_still 10 = .ok (.aload_n 0, 1) := by decide +kernel
theorem dX8_still_11 : decode cX8_still 11 = .ok (.iconst 1, 1) := by decide +kernel
theorem dX8_still_12 : decode cX8_still 12 = .ok (.invokevirtual 63, 3) := by decide +kernel
theorem dX8_still_15 : decode cX8_still 15 = .ok (.ireturn, 1) := by decide +kernel
theorem dX8_still_16 : decode cX8_still 16 = .ok (.aload_n 0, 1) := by decide +kernel
theorem dX8_still_17 : decode cX8_still 17 = .ok (.getfield 26, 3) := by decide +kernel
theorem dX8_still_20 : decode cX8_still 20 = .ok (.aload_n 0, 1) := by decide +kernel
theorem dX8_still_21 : decode cX8_still 21 = .ok (.getfield 47, 3) := by decide +kernel
theorem dX8_still_24 : decode cX8_still 24 = .ok (.aload_n 0, 1) := by decide +kernel
theorem dX8_still_25 : decode cX8_still 25 = .ok (.getfield 19, 3) := by decide +kernel
theorem dX8_still_28 : decode cX8_still 28 = .ok (.iconst 0, 1) := by decide +kernel
theorem dX8_still_29 : decode cX8_still 29 = .ok (.invokevirtual 165, 3) := by decide +kernel
theorem dX8_still_32 : decode cX8_still 32 = .ok (.iconst 0, 1) := by decide +kernel
theorem dX8_still_33 : decode cX8_still 33 = .ok (.istore_n 1, 1) := by decide +kernel
theorem dX8_still_34 : decode cX8_still 34 = .ok (.iload_n 1, 1) := by decide +kernel
theorem dX8_still_35 : decode cX8_still 35 = .ok (.sipush 200, 3) := by decide +kernel
theorem dX8_still_38 : decode cX8_still 38 = .ok (.if_icmp .gt 33, 3) := by decide +kernel
theorem dX8_still_41 : decode cX8_still 41 = .ok (.aload_n 0, 1) := by decide +kernel
theorem dX8_still_42 : decode cX8_still 42 = .ok (.getfield 26, 3) := by decide +kernel
theorem dX8_still_45 : decode cX8_still 45 = .ok (.iconst 0, 1) := by decide +kernel
theorem dX8_still_46 : decode cX8_still 46 = .ok (.invokevirtual 188, 3) := by decide +kernel
theorem dX8_still_49 : decode cX8_still 49 = .ok (.aload_n 0, 1) := by decide +kernel
theorem dX8_still_50 : decode cX8_still 50 = .ok (.getfield 26, 3) := by decide +kernel
theorem dX8_still_53 : decode cX8_still 53 = .ok (.invokevirtual 172, 3) := by decide +kernel
theorem dX8_still_56 : decode cX8_still 56 = .ok (.ifCond .ne 9, 3) := by decide +kernel
theorem dX8_still_59 : decode cX8_still 59 = .ok (.aload_n 0, 1) := by decide +kernel
theorem dX8_still_60 : decode cX8_still 60 = .ok (.iload_n 1, 1) := by decide +kernel
theorem dX8_still_61 : decode cX8_still 61 = .ok (.invokevirtual 97, 3) := by decide +kernel
theorem dX8_still_64 : decode cX8_still 64 = .ok (.ireturn, 1) := by decide +kernel
theorem dX8_still_65 : decode cX8_still 65 = .ok (.iinc 1 1, 3) := by decide +kernel
theorem dX8_still_68 : decode cX8_still 68 = .ok (.goto (-34), 3) := by decide +kernel
theorem dX8_still_71 : decode cX8_still 71 = .ok (.aload_n 0, 1) := by decide +kernel
theorem dX8_still_72 : decode cX8_still 72 = .ok (.bipush (-2), 2) := by decide +kernel
theorem dX8_still_74 : decode cX8_still 74 = .ok (.invokevirtual 97, 3) := by decide +kernel
theorem dX8_still_77 : decode cX8_still 77 = .ok (.ireturn, 1) := by decide +kernel
theorem dX8_period_0 : decode cX8_period 0 = .ok (.aload_n 0, 1) := by decide +kernel
theorem dX8_period_1 : decode cX8_period 1 = .ok (.getfield 47, 3) := by decide +kernel
theorem dX8_period_4 : decode cX8_period 4 = .ok (.invokevirtual 161, 3) := by decide +kernel
theorem dX8_period_7 : decode cX8_period 7 = .ok (.ifCond .ne 9, 3) := by decide +kernel
theorem dX8_period_10 : decode cX8_period 10 = .ok (.aload_n 0, 1) := by decide +kernel
theorem dX8_period_11 : decode cX8_period 11 = .ok (.iconst 1, 1) := by decide +kernel
theorem dX8_period_12 : decode cX8_period 12 = .ok (.invokevirtual 63, 3) := by decide +kernel
theorem dX8_period_15 : decode cX8_period 15 = .ok (.ireturn, 1) := by decide +kernel
theorem dX8_period_16 : decode cX8_period 16 = .ok (.aload_n 0, 1) := by decide +kernel
theorem dX8_period_17 : decode cX8_period 17 = .ok (.getfield 26, 3) := by decide +kernel
theorem dX8_period_20 : decode cX8_period 20 = .ok (.aload_n 0, 1) := by decide +kernel
theorem dX8_period_21 : decode cX8_period 21 = .ok (.getfield 47, 3) := by decide +kernel
theorem dX8_period_24 : decode cX8_period 24 = .ok (.aload_n 0, 1) := by decide +kernel
theorem dX8_period_25 : decode cX8_period 25 = .ok (.getfield 19, 3) := by decide +kernel
theorem dX8_period_28 : decode cX8_period 28 = .ok (.iconst 0, 1) := by decide +kernel
theorem dX8_period_29 : decode cX8_period 29 = .ok (.invokevirtual 165, 3) := by decide +kernel
theorem dX8_period_32 : decode cX8_period 32 = .ok (.iconst 1, 1) := by decide +kernel
theorem dX8_period_33 : decode cX8_period 33 = .ok (.istore_n 1, 1) := by decide +kernel
theorem dX8_period_34 : decode cX8_period 34 = .ok (.iload_n 1, 1) := by decide +kernel
theorem dX8_period_35 : decode cX8_period 35 = .ok (.sipush 200, 3) := by decide +kernel
theorem dX8_period_38 : decode cX8_period 38 = .ok (.if_icmp .gt 37, 3) := by decide +kernel
theorem dX8_period_41 : decode cX8_period 41 = .ok (.aload_n 0, 1) := by decide +kernel
theorem dX8_period_42 : decode cX8_period 42 = .ok (.getfield 26, 3) := by decide +kernel
theorem dX8_period_45 : decode cX8_period 45 = .ok (.iconst 0, 1) := by decide +kernel
theorem dX8_period_46 : decode cX8_period 46 = .ok (.invokevirtual 188, 3) := by decide +kernel
theorem dX8_period_49 : decode cX8_period 49 = .ok (.aload_n 0, 1) := by decide +kernel
theorem dX8_period_50 : decode cX8_period 50 = .ok (.getfield 26, 3) := by decide +kernel
theorem dX8_period_53 : decode cX8_period 53 = .ok (.aload_n 0, 1) := by decide +kernel
theorem dX8_period_54 : decode cX8_period 54 = .ok (.getfield 19, 3) := by decide +kernel
theorem dX8_period_57 : decode cX8_period 57 = .ok (.invokevirtual 197, 3) := by decide +kernel
theorem dX8_period_60 : decode cX8_period 60 = .ok (.ifCond .eq 9, 3) := by decide +kernel
theorem dX8_period_63 : decode cX8_period 63 = .ok (.aload_n 0, 1) := by decide +kernel
theorem dX8_period_64 : decode cX8_period 64 = .ok (.iload_n 1, 1) := by decide +kernel
theorem dX8_period_65 : decode cX8_period 65 = .ok (.invokevirtual 97, 3) := by decide +kernel
theorem dX8_period_68 : decode cX8_period 68 = .ok (.ireturn, 1) := by decide +kernel
theorem dX8_period_69 : decode cX8_period 69 = .ok (.iinc 1 1, 3) := by decide +kernel
theorem dX8_period_72 : decode cX8_period 72 = .ok (.goto (-38), 3) := by decide +kernel
theorem dX8_period_75 : decode cX8_period 75 = .ok (.aload_n 0, 1) := by decide +kernel
theorem dX8_period_76 : decode cX8_period 76 = .ok (.bipush (-2), 2) := by decide +kernel
theorem dX8_period_78 : decode cX8_period 78 = .ok (.invokevirtual 97, 3) := by decide +kernel
theorem dX8_period_81 : decode cX8_period 81 = .ok (.ireturn, 1) := by decide +kernel
theorem dX8_steps_0 : decode cX8_steps 0 = .ok (.aload_n 0, 1) := by decide +kernel
theorem dX8_steps_1 : decode cX8_steps 1 = .ok (.getfield 47, 3) := by decide +kernel
theorem dX8_steps_4 : decode cX8_steps 4 = .ok (.iload_n 1, 1) := by decide +kernel
theorem dX8_steps_5 : decode cX8_steps 5 = .ok (.invokevirtual 124, 3) := by decide +kernel
theorem dX8_steps_8 : decode cX8_steps 8 = .ok (.ifCond .ne 9, 3) := by decide +kernel
theorem dX8_steps_11 : decode cX8_steps 11 = .ok (.aload_n 0, 1) := by decide +kernel
theorem dX8_steps_12 : decode cX8_steps 12 = .ok (.iconst 1, 1) := by decide +kernel
theorem dX8_steps_13 : decode cX8_steps 13 = .ok (.invokevirtual 63, 3) := by decide +kernel
theorem dX8_steps_16 : decode cX8_steps 16 = .ok (.ireturn, 1) := by decide +kernel
theorem dX8_steps_17 : decode cX8_steps 17 = .ok (.iload_n 2, 1) := by decide +kernel
theorem dX8_steps_18 : decode cX8_steps 18 = .ok (.ifCond .lt 10, 3) := by decide +kernel
theorem dX8_steps_21 : decode cX8_steps 21 = .ok (.iload_n 2, 1) := by decide +kernel
theorem dX8_steps_22 : decode cX8_steps 22 = .ok (.sipush 200, 3) := by decide +kernel
theorem dX8_steps_25 : decode cX8_steps 25 = .ok (.if_icmp .le 9, 3) := by decide +kernel
theorem dX8_steps_28 : decode cX8_steps 28 = .ok (.aload_n 0, 1) := by decide +kernel
theorem dX8_steps_29 : decode cX8_steps 29 = .ok (.iconst 2, 1) := by decide +kernel
theorem dX8_steps_30 : decode cX8_steps 30 = .ok (.invokevirtual 63, 3) := by decide +kernel
theorem dX8_steps_33 : decode cX8_steps 33 = .ok (.ireturn, 1) := by decide +kernel
theorem dX8_steps_34 : decode cX8_steps 34 = .ok (.iconst 0, 1) := by decide +kernel
theorem dX8_steps_35 : decode cX8_steps 35 = .ok (.istore_n 3, 1) := by decide +kernel
theorem dX8_steps_36 : decode cX8_steps 36 = .ok (.aload_n 0, 1) := by decide +kernel
theorem dX8_steps_37 : decode cX8_steps 37 = .ok (.getfield 26, 3) := by decide +kernel
theorem dX8_steps_40 : decode cX8_steps 40 = .ok (.aload_n 0, 1) := by decide +kernel
theorem dX8_steps_41 : decode cX8_steps 41 = .ok (.getfield 47, 3) := by decide +kernel
theorem dX8_steps_44 : decode cX8_steps 44 = .ok (.aload_n 0, 1) := by decide +kernel
theorem dX8_steps_45 : decode cX8_steps 45 = .ok (.getfield 19, 3) := by decide +kernel
theorem dX8_steps_48 : decode cX8_steps 48 = .ok (.iconst 0, 1) := by decide +kernel
theorem dX8_steps_49 : decode cX8_steps 49 = .ok (.invokevirtual 165, 3) := by decide +kernel
theorem dX8_steps_52 : decode cX8_steps 52 = .ok (.iconst 1, 1) := by decide +kernel
