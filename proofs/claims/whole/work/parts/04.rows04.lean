theorem dX9_readLine_20 : decode cX9_readLine 20 = .ok (.getfield 23, 3) := by decide +kernel
theorem dX9_readLine_23 : decode cX9_readLine 23 = .ok (.iconst 2, 1) := by decide +kernel
theorem dX9_readLine_24 : decode cX9_readLine 24 = .ok (.iaload, 1) := by decide +kernel
theorem dX9_readLine_25 : decode cX9_readLine 25 = .ok (.iconst 4, 1) := by decide +kernel
theorem dX9_readLine_26 : decode cX9_readLine 26 = .ok (.if_icmp .ge 7, 3) := by decide +kernel
theorem dX9_readLine_29 : decode cX9_readLine 29 = .ok (.iconst 1, 1) := by decide +kernel
theorem dX9_readLine_30 : decode cX9_readLine 30 = .ok (.goto 4, 3) := by decide +kernel
theorem dX9_readLine_33 : decode cX9_readLine 33 = .ok (.iconst 0, 1) := by decide +kernel
theorem dX9_readLine_34 : decode cX9_readLine 34 = .ok (.invokevirtual 178, 3) := by decide +kernel
theorem dX9_readLine_37 : decode cX9_readLine 37 = .ok (.ifCond .eq 10, 3) := by decide +kernel
theorem dX9_readLine_40 : decode cX9_readLine 40 = .ok (.aload_n 0, 1) := by decide +kernel
theorem dX9_readLine_41 : decode cX9_readLine 41 = .ok (.invokevirtual 182, 3) := by decide +kernel
theorem dX9_readLine_44 : decode cX9_readLine 44 = .ok (.goto 208, 3) := by decide +kernel
theorem dX9_readLine_47 : decode cX9_readLine 47 = .ok (.aload_n 0, 1) := by decide +kernel
theorem dX9_readLine_48 : decode cX9_readLine 48 = .ok (.ldc 117, 2) := by decide +kernel
theorem dX9_readLine_50 : decode cX9_readLine 50 = .ok (.aload_n 0, 1) := by decide +kernel
theorem dX9_readLine_51 : decode cX9_readLine 51 = .ok (.getfield 23, 3) := by decide +kernel
theorem dX9_readLine_54 : decode cX9_readLine 54 = .ok (.iconst 4, 1) := by decide +kernel
theorem dX9_readLine_55 : decode cX9_readLine 55 = .ok (.iaload, 1) := by decide +kernel
theorem dX9_readLine_56 : decode cX9_readLine 56 = .ok (.bipush 6, 2) := by decide +kernel
theorem dX9_readLine_58 : decode cX9_readLine 58 = .ok (.if_icmp .ge 7, 3) := by decide +kernel
theorem dX9_readLine_61 : decode cX9_readLine 61 = .ok (.iconst 1, 1) := by decide +kernel
theorem dX9_readLine_62 : decode cX9_readLine 62 = .ok (.goto 4, 3) := by decide +kernel
theorem dX9_readLine_65 : decode cX9_readLine 65 = .ok (.iconst 0, 1) := by decide +kernel
theorem dX9_readLine_66 : decode cX9_readLine 66 = .ok (.invokevirtual 178, 3) := by decide +kernel
theorem dX9_readLine_69 : decode cX9_readLine 69 = .ok (.ifCond .eq 10, 3) := by decide +kernel
theorem dX9_readLine_72 : decode cX9_readLine 72 = .ok (.aload_n 0, 1) := by decide +kernel
theorem dX9_readLine_73 : decode cX9_readLine 73 = .ok (.invokevirtual 185, 3) := by decide +kernel
theorem dX9_readLine_76 : decode cX9_readLine 76 = .ok (.goto 176, 3) := by decide +kernel
theorem dX9_readLine_79 : decode cX9_readLine 79 = .ok (.aload_n 0, 1) := by decide +kernel
theorem dX9_readLine_80 : decode cX9_readLine 80 = .ok (.ldc 119, 2) := by decide +kernel
theorem dX9_readLine_82 : decode cX9_readLine 82 = .ok (.aload_n 0, 1) := by decide +kernel
theorem dX9_readLine_83 : decode cX9_readLine 83 = .ok (.getfield 23, 3) := by decide +kernel
theorem dX9_readLine_86 : decode cX9_readLine 86 = .ok (.iconst 5, 1) := by decide +kernel
theorem dX9_readLine_87 : decode cX9_readLine 87 = .ok (.iaload, 1) := by decide +kernel
theorem dX9_readLine_88 : decode cX9_readLine 88 = .ok (.iconst 5, 1) := by decide +kernel
theorem dX9_readLine_89 : decode cX9_readLine 89 = .ok (.if_icmp .ge 7, 3) := by decide +kernel
theorem dX9_readLine_92 : decode cX9_readLine 92 = .ok (.iconst 1, 1) := by decide +kernel
theorem dX9_readLine_93 : decode cX9_readLine 93 = .ok (.goto 4, 3) := by decide +kernel
theorem dX9_readLine_96 : decode cX9_readLine 96 = .ok (.iconst 0, 1) := by decide +kernel
theorem dX9_readLine_97 : decode cX9_readLine 97 = .ok (.invokevirtual 178, 3) := by decide +kernel
theorem dX9_readLine_100 : decode cX9_readLine 100 = .ok (.ifCond .eq 10, 3) := by decide +kernel
theorem dX9_readLine_103 : decode cX9_readLine 103 = .ok (.aload_n 0, 1) := by decide +kernel
theorem dX9_readLine_104 : decode cX9_readLine 104 = .ok (.invokevirtual 188, 3) := by decide +kernel
theorem dX9_readLine_107 : decode cX9_readLine 107 = .ok (.goto 145, 3) := by decide +kernel
theorem dX9_readLine_110 : decode cX9_readLine 110 = .ok (.aload_n 0, 1) := by decide +kernel
theorem dX9_readLine_111 : decode cX9_readLine 111 = .ok (.ldc 121, 2) := by decide +kernel
theorem dX9_readLine_113 : decode cX9_readLine 113 = .ok (.aload_n 0, 1) := by decide +kernel
theorem dX9_readLine_114 : decode cX9_readLine 114 = .ok (.getfield 23, 3) := by decide +kernel
theorem dX9_readLine_117 : decode cX9_readLine 117 = .ok (.iconst 3, 1) := by decide +kernel
theorem dX9_readLine_118 : decode cX9_readLine 118 = .ok (.iaload, 1) := by decide +kernel
theorem dX9_readLine_119 : decode cX9_readLine 119 = .ok (.bipush 7, 2) := by decide +kernel
theorem dX9_readLine_121 : decode cX9_readLine 121 = .ok (.if_icmp .ge 7, 3) := by decide +kernel
theorem dX9_readLine_124 : decode cX9_readLine 124 = .ok (.iconst 1, 1) := by decide +kernel
theorem dX9_readLine_125 : decode cX9_readLine 125 = .ok (.goto 4, 3) := by decide +kernel
theorem dX9_readLine_128 : decode cX9_readLine 128 = .ok (.iconst 0, 1) := by decide +kernel
theorem dX9_readLine_129 : decode cX9_readLine 129 = .ok (.invokevirtual 178, 3) := by decide +kernel
theorem dX9_readLine_132 : decode cX9_readLine 132 = .ok (.ifCond .eq 10, 3) := by decide +kernel
theorem dX9_readLine_135 : decode cX9_readLine 135 = .ok (.aload_n 0, 1) := by decide +kernel
theorem dX9_readLine_136 : decode cX9_readLine 136 = .ok (.invokevirtual 191, 3) := by decide +kernel
theorem dX9_readLine_139 : decode cX9_readLine 139 = .ok (.goto 113, 3) := by decide +kernel
theorem dX9_readLine_142 : decode cX9_readLine 142 = .ok (.aload_n 0, 1) := by decide +kernel
theorem dX9_readLine_143 : decode cX9_readLine 143 = .ok (.ldc 123, 2) := by decide +kernel
theorem dX9_readLine_145 : decode cX9_readLine 145 = .ok (.aload_n 0, 1) := by decide +kernel
theorem dX9_readLine_146 : decode cX9_readLine 146 = .ok (.getfield 23, 3) := by decide +kernel
theorem dX9_readLine_149 : decode cX9_readLine 149 = .ok (.bipush 6, 2) := by decide +kernel
theorem dX9_readLine_151 : decode cX9_readLine 151 = .ok (.iaload, 1) := by decide +kernel
theorem dX9_readLine_152 : decode cX9_readLine 152 = .ok (.bipush 6, 2) := by decide +kernel
theorem dX9_readLine_154 : decode cX9_readLine 154 = .ok (.if_icmp .ge 7, 3) := by decide +kernel
theorem dX9_readLine_157 : decode cX9_readLine 157 = .ok (.iconst 1, 1) := by decide +kernel
theorem dX9_readLine_158 : decode cX9_readLine 158 = .ok (.goto 4, 3) := by decide +kernel
theorem dX9_readLine_161 : decode cX9_readLine 161 = .ok (.iconst 0, 1) := by decide +kernel
theorem dX9_readLine_162 : decode cX9_readLine 162 = .ok (.invokevirtual 178, 3) := by decide +kernel
theorem dX9_readLine_165 : decode cX9_readLine 165 = .ok (.ifCond .eq 10, 3) := by decide +kernel
theorem dX9_readLine_168 : decode cX9_readLine 168 = .ok (.aload_n 0, 1) := by decide +kernel
theorem dX9_readLine_169 : decode cX9_readLine 169 = .ok (.invokevirtual 194, 3) := by decide +kernel
theorem dX9_readLine_172 : decode cX9_readLine 172 = .ok (.goto 80, 3) := by decide +kernel
theorem dX9_readLine_175 : decode cX9_readLine 175 = .ok (.aload_n 0, 1) := by decide +kernel
theorem dX9_readLine_176 : decode cX9_readLine 176 = .ok (.ldc 125, 2) := by decide +kernel
theorem dX9_readLine_178 : decode cX9_readLine 178 = .ok (.aload_n 0, 1) := by decide +kernel
theorem dX9_readLine_179 : decode cX9_readLine 179 = .ok (.getfield 23, 3) := by decide +kernel
theorem dX9_readLine_182 : decode cX9_readLine 182 = .ok (.bipush 7, 2) := by decide +kernel
theorem dX9_readLine_184 : decode cX9_readLine 184 = .ok (.iaload, 1) := by decide +kernel
theorem dX9_readLine_185 : decode cX9_readLine 185 = .ok (.bipush 6, 2) := by decide +kernel
theorem dX9_readLine_187 : decode cX9_readLine 187 = .ok (.if_icmp .ge 7, 3) := by decide +kernel
theorem dX9_readLine_190 : decode cX9_readLine 190 = .ok (.iconst 1, 1) := by decide +kernel
theorem dX9_readLine_191 : decode cX9_readLine 191 = .ok (.goto 4, 3) := by decide +kernel
theorem dX9_readLine_194 : decode cX9_readLine 194 = .ok (.iconst 0, 1) := by decide +kernel
theorem dX9_readLine_195 : decode cX9_readLine 195 = .ok (.invokevirtual 178, 3) := by decide +kernel
theorem dX9_readLine_198 : decode cX9_readLine 198 = .ok (.ifCond .eq 11, 3) := by decide +kernel
theorem dX9_readLine_201 : decode cX9_readLine 201 = .ok (.aload_n 0, 1) := by decide +kernel
theorem dX9_readLine_202 : decode cX9_readLine 202 = .ok (.iconst 1, 1) := by decide +kernel
theorem dX9_readLine_203 : decode cX9_readLine 203 = .ok (.invokevirtual 197, 3) := by decide +kernel
theorem dX9_readLine_206 : decode cX9_readLine 206 = .ok (.goto 46, 3) := by decide +kernel
theorem dX9_readLine_209 : decode cX9_readLine 209 = .ok (.aload_n 0, 1) := by decide +kernel
theorem dX9_readLine_210 : decode cX9_readLine 210 = .ok (.ldc 127, 2) := by decide +kernel
theorem dX9_readLine_212 : decode cX9_readLine 212 = .ok (.aload_n 0, 1) := by decide +kernel
theorem dX9_readLine_213 : decode cX9_readLine 213 = .ok (.getfield 23, 3) := by decide +kernel
theorem dX9_readLine_216 : decode cX9_readLine 216 = .ok (.bipush 7, 2) := by decide +kernel
theorem dX9_readLine_218 : decode cX9_readLine 218 = .ok (.iaload, 1) := by decide +kernel
theorem dX9_readLine_219 : decode cX9_readLine 219 = .ok (.bipush 6, 2) := by decide +kernel
theorem dX9_readLine_221 : decode cX9_readLine 221 = .ok (.if_icmp .ge 7, 3) := by decide +kernel
theorem dX9_readLine_224 : decode cX9_readLine 224 = .ok (.iconst 1, 1) := by decide +kernel
theorem dX9_readLine_225 : decode cX9_readLine 225 = .ok (.goto 4, 3) := by decide +kernel
theorem dX9_readLine_228 : decode cX9_readLine 228 = .ok (.iconst 0, 1) := by decide +kernel
theorem dX9_readLine_229 : decode cX9_readLine 229 = .ok (.invokevirtual 178, 3) := by decide +kernel
theorem dX9_readLine_232 : decode cX9_readLine 232 = .ok (.ifCond .eq 11, 3) := by decide +kernel
theorem dX9_readLine_235 : decode cX9_readLine 235 = .ok (.aload_n 0, 1) := by decide +kernel
theorem dX9_readLine_236 : decode cX9_readLine 236 = .ok (.iconst 0, 1) := by decide +kernel
theorem dX9_readLine_237 : decode cX9_readLine 237 = .ok (.invokevirtual 197, 3) := by decide +kernel
theorem dX9_readLine_240 : decode cX9_readLine 240 = .ok (.goto 12, 3) := by decide +kernel
theorem dX9_readLine_243 : decode cX9_readLine 243 = .ok (.aload_n 0, 1) := by decide +kernel
theorem dX9_readLine_244 : decode cX9_readLine 244 = .ok (.iconst 1, 1) := by decide +kernel
theorem dX9_readLine_245 : decode cX9_readLine 245 = .ok (.aload_n 0, 1) := by decide +kernel
theorem dX9_readLine_246 : decode cX9_readLine 246 = .ok (.getfield 63, 3) := by decide +kernel
theorem dX9_readLine_249 : decode cX9_readLine 249 = .ok (.invokevirtual 109, 3) := by decide +kernel
theorem dX9_readLine_252 : decode cX9_readLine 252 = .ok (.return_, 1) := by decide +kernel
theorem dX9_houseLine_0 : decode cX9_houseLine 0 = .ok (.aload_n 0, 1) := by decide +kernel
theorem dX9_houseLine_1 : decode cX9_houseLine 1 = .ok (.getfield 23, 3) := by decide +kernel
theorem dX9_houseLine_4 : decode cX9_houseLine 4 = .ok (.iconst 0, 1) := by decide +kernel
theorem dX9_houseLine_5 : decode cX9_houseLine 5 = .ok (.iaload, 1) := by decide +kernel
theorem dX9_houseLine_6 : decode cX9_houseLine 6 = .ok (.ifCond .le 12, 3) := by decide +kernel
theorem dX9_houseLine_9 : decode cX9_houseLine 9 = .ok (.aload_n 0, 1) := by decide +kernel
theorem dX9_houseLine_10 : decode cX9_houseLine 10 = .ok (.iconst 3, 1) := by decide +kernel
theorem dX9_houseLine_11 : decode cX9_houseLine 11 = .ok (.aload_n 0, 1) := by decide +kernel
theorem dX9_houseLine_12 : decode cX9_houseLine 12 = .ok (.getfield 63, 3) := by decide +kernel
theorem dX9_houseLine_15 : decode cX9_houseLine 15 = .ok (.invokevirtual 109, 3) := by decide +kernel
theorem dX9_houseLine_18 : decode cX9_houseLine 18 = .ok (.aload_n 0, 1) := by decide +kernel
theorem dX9_houseLine_19 : decode cX9_houseLine 19 = .ok (.getfield 82, 3) := by decide +kernel
theorem dX9_houseLine_22 : decode cX9_houseLine 22 = .ok (.ifCond .eq 4, 3) := by decide +kernel
theorem dX9_houseLine_25 : decode cX9_houseLine 25 = .ok (.return_, 1) := by decide +kernel
theorem dX9_houseLine_26 : decode cX9_houseLine 26 = .ok (.aload_n 0, 1) := by decide +kernel
theorem dX9_houseLine_27 : decode cX9_houseLine 27 = .ok (.invokevirtual 103, 3) := by decide +kernel
theorem dX9_houseLine_30 : decode cX9_houseLine 30 = .ok (.aload_n 0, 1) := by decide +kernel
theorem dX9_houseLine_31 : decode cX9_houseLine 31 = .ok (.ldc 201, 2) := by decide +kernel
theorem dX9_houseLine_33 : decode cX9_houseLine 33 = .ok (.iconst 1, 1) := by decide +kernel
theorem dX9_houseLine_34 : decode cX9_houseLine 34 = .ok (.iconst 5, 1) := by decide +kernel
theorem dX9_houseLine_35 : decode cX9_houseLine 35 = .ok (.invokevirtual 203, 3) := by decide +kernel
theorem dX9_houseLine_38 : decode cX9_houseLine 38 = .ok (.istore_n 1, 1) := by decide +kernel
theorem dX9_houseLine_39 : decode cX9_houseLine 39 = .ok (.aload_n 0, 1) := by decide +kernel
theorem dX9_houseLine_40 : decode cX9_houseLine 40 = .ok (.getfield 23, 3) := by decide +kernel
theorem dX9_houseLine_43 : decode cX9_houseLine 43 = .ok (.iconst 1, 1) := by decide +kernel
theorem dX9_houseLine_44 : decode cX9_houseLine 44 = .ok (.aload_n 0, 1) := by decide +kernel
theorem dX9_houseLine_45 : decode cX9_houseLine 45 = .ok (.ldc 207, 2) := by decide +kernel
theorem dX9_houseLine_47 : decode cX9_houseLine 47 = .ok (.iconst 0, 1) := by decide +kernel
theorem dX9_houseLine_48 : decode cX9_houseLine 48 = .ok (.bipush 100, 2) := by decide +kernel
theorem dX9_houseLine_50 : decode cX9_houseLine 50 = .ok (.invokevirtual 203, 3) := by decide +kernel
theorem dX9_houseLine_53 : decode cX9_houseLine 53 = .ok (.iastore, 1) := by decide +kernel
theorem dX9_houseLine_54 : decode cX9_houseLine 54 = .ok (.aload_n 0, 1) := by decide +kernel
theorem dX9_houseLine_55 : decode cX9_houseLine 55 = .ok (.getfield 82, 3) := by decide +kernel
theorem dX9_houseLine_58 : decode cX9_houseLine 58 = .ok (.ifCond .ne 10, 3) := by decide +kernel
theorem dX9_houseLine_61 : decode cX9_houseLine 61 = .ok (.aload_n 0, 1) := by decide +kernel
theorem dX9_houseLine_62 : decode cX9_houseLine 62 = .ok (.getfield 23, 3) := by decide +kernel
theorem dX9_houseLine_65 : decode cX9_houseLine 65 = .ok (.iconst 0, 1) := by decide +kernel
theorem dX9_houseLine_66 : decode cX9_houseLine 66 = .ok (.iload_n 1, 1) := by decide +kernel
theorem dX9_houseLine_67 : decode cX9_houseLine 67 = .ok (.iastore, 1) := by decide +kernel
theorem dX9_houseLine_68 : decode cX9_houseLine 68 = .ok (.return_, 1) := by decide +kernel
theorem dX9_ringLine_0 : decode cX9_ringLine 0 = .ok (.aload_n 0, 1) := by decide +kernel
theorem dX9_ringLine_1 : decode cX9_ringLine 1 = .ok (.getfield 82, 3) := by decide +kernel
theorem dX9_ringLine_4 : decode cX9_ringLine 4 = .ok (.ifCond .eq 4, 3) := by decide +kernel
theorem dX9_ringLine_7 : decode cX9_ringLine 7 = .ok (.return_, 1) := by decide +kernel
theorem dX9_ringLine_8 : decode cX9_ringLine 8 = .ok (.bipush 8, 2) := by decide +kernel
theorem dX9_ringLine_10 : decode cX9_ringLine 10 = .ok (.iconst 2, 1) := by decide +kernel
theorem dX9_ringLine_11 : decode cX9_ringLine 11 = .ok (.aload_n 0, 1) := by decide +kernel
theorem dX9_ringLine_12 : decode cX9_ringLine 12 = .ok (.getfield 23, 3) := by decide +kernel
theorem dX9_ringLine_15 : decode cX9_ringLine 15 = .ok (.iconst 2, 1) := by decide +kernel
theorem dX9_ringLine_16 : decode cX9_ringLine 16 = .ok (.iaload, 1) := by decide +kernel
theorem dX9_ringLine_17 : decode cX9_ringLine 17 = .ok (.imul, 1) := by decide +kernel
theorem dX9_ringLine_18 : decode cX9_ringLine 18 = .ok (.iadd, 1) := by decide +kernel
theorem dX9_ringLine_19 : decode cX9_ringLine 19 = .ok (.istore_n 1, 1) := by decide +kernel
theorem dX9_ringLine_20 : decode cX9_ringLine 20 = .ok (.aload_n 0, 1) := by decide +kernel
theorem dX9_ringLine_21 : decode cX9_ringLine 21 = .ok (.aload_n 0, 1) := by decide +kernel
theorem dX9_ringLine_22 : decode cX9_ringLine 22 = .ok (.getfield 23, 3) := by decide +kernel
theorem dX9_ringLine_25 : decode cX9_ringLine 25 = .ok (.iconst 2, 1) := by decide +kernel
theorem dX9_ringLine_26 : decode cX9_ringLine 26 = .ok (.iaload, 1) := by decide +kernel
theorem dX9_ringLine_27 : decode cX9_ringLine 27 = .ok (.invokevirtual 209, 3) := by decide +kernel
theorem dX9_ringLine_30 : decode cX9_ringLine 30 = .ok (.aload_n 0, 1) := by decide +kernel
theorem dX9_ringLine_31 : decode cX9_ringLine 31 = .ok (.ldc 212, 2) := by decide +kernel
theorem dX9_ringLine_33 : decode cX9_ringLine 33 = .ok (.invokevirtual 99, 3) := by decide +kernel
theorem dX9_ringLine_36 : decode cX9_ringLine 36 = .ok (.ifCond .eq 7, 3) := by decide +kernel
theorem dX9_ringLine_39 : decode cX9_ringLine 39 = .ok (.iconst 0, 1) := by decide +kernel
theorem dX9_ringLine_40 : decode cX9_ringLine 40 = .ok (.goto 30, 3) := by decide +kernel
theorem dX9_ringLine_43 : decode cX9_ringLine 43 = .ok (.aload_n 0, 1) := by decide +kernel
theorem dX9_ringLine_44 : decode cX9_ringLine 44 = .ok (.ldc 201, 2) := by decide +kernel
theorem dX9_ringLine_46 : decode cX9_ringLine 46 = .ok (.invokevirtual 99, 3) := by decide +kernel
theorem dX9_ringLine_49 : decode cX9_ringLine 49 = .ok (.ifCond .eq 7, 3) := by decide +kernel
theorem dX9_ringLine_52 : decode cX9_ringLine 52 = .ok (.iconst 1, 1) := by decide +kernel
theorem dX9_ringLine_53 : decode cX9_ringLine 53 = .ok (.goto 17, 3) := by decide +kernel
theorem dX9_ringLine_56 : decode cX9_ringLine 56 = .ok (.aload_n 0, 1) := by decide +kernel
theorem dX9_ringLine_57 : decode cX9_ringLine 57 = .ok (.ldc 214, 2) := by decide +kernel
theorem dX9_ringLine_59 : decode cX9_ringLine 59 = .ok (.invokevirtual 99, 3) := by decide +kernel
theorem dX9_ringLine_62 : decode cX9_ringLine 62 = .ok (.ifCond .eq 7, 3) := by decide +kernel
theorem dX9_ringLine_65 : decode cX9_ringLine 65 = .ok (.iconst 2, 1) := by decide +kernel
theorem dX9_ringLine_66 : decode cX9_ringLine 66 = .ok (.goto 4, 3) := by decide +kernel
theorem dX9_ringLine_69 : decode cX9_ringLine 69 = .ok (.iconst (-1), 1) := by decide +kernel
theorem dX9_ringLine_70 : decode cX9_ringLine 70 = .ok (.istore_n 2, 1) := by decide +kernel
theorem dX9_ringLine_71 : decode cX9_ringLine 71 = .ok (.iload_n 2, 1) := by decide +kernel
theorem dX9_ringLine_72 : decode cX9_ringLine 72 = .ok (.ifCond .ge 12, 3) := by decide +kernel
theorem dX9_ringLine_75 : decode cX9_ringLine 75 = .ok (.aload_n 0, 1) := by decide +kernel
theorem dX9_ringLine_76 : decode cX9_ringLine 76 = .ok (.iconst 1, 1) := by decide +kernel
theorem dX9_ringLine_77 : decode cX9_ringLine 77 = .ok (.aload_n 0, 1) := by decide +kernel
theorem dX9_ringLine_78 : decode cX9_ringLine 78 = .ok (.getfield 63, 3) := by decide +kernel
theorem dX9_ringLine_81 : decode cX9_ringLine 81 = .ok (.invokevirtual 109, 3) := by decide +kernel
theorem dX9_ringLine_84 : decode cX9_ringLine 84 = .ok (.aload_n 0, 1) := by decide +kernel
theorem dX9_ringLine_85 : decode cX9_ringLine 85 = .ok (.getfield 82, 3) := by decide +kernel
theorem dX9_ringLine_88 : decode cX9_ringLine 88 = .ok (.ifCond .eq 4, 3) := by decide +kernel
theorem dX9_ringLine_91 : decode cX9_ringLine 91 = .ok (.return_, 1) := by decide +kernel
theorem dX9_ringLine_92 : decode cX9_ringLine 92 = .ok (.aload_n 0, 1) := by decide +kernel
theorem dX9_ringLine_93 : decode cX9_ringLine 93 = .ok (.invokevirtual 103, 3) := by decide +kernel
theorem dX9_ringLine_96 : decode cX9_ringLine 96 = .ok (.aload_n 0, 1) := by decide +kernel
theorem dX9_ringLine_97 : decode cX9_ringLine 97 = .ok (.getfield 23, 3) := by decide +kernel
theorem dX9_ringLine_100 : decode cX9_ringLine 100 = .ok (.iload_n 1, 1) := by decide +kernel
theorem dX9_ringLine_101 : decode cX9_ringLine 101 = .ok (.iload_n 2, 1) := by decide +kernel
theorem dX9_ringLine_102 : decode cX9_ringLine 102 = .ok (.iastore, 1) := by decide +kernel
theorem dX9_ringLine_103 : decode cX9_ringLine 103 = .ok (.aload_n 0, 1) := by decide +kernel
theorem dX9_ringLine_104 : decode cX9_ringLine 104 = .ok (.getfield 23, 3) := by decide +kernel
theorem dX9_ringLine_107 : decode cX9_ringLine 107 = .ok (.iload_n 1, 1) := by decide +kernel
theorem dX9_ringLine_108 : decode cX9_ringLine 108 = .ok (.iconst 1, 1) := by decide +kernel
theorem dX9_ringLine_109 : decode cX9_ringLine 109 = .ok (.iadd, 1) := by decide +kernel
theorem dX9_ringLine_110 : decode cX9_ringLine 110 = .ok (.aload_n 0, 1) := by decide +kernel
theorem dX9_ringLine_111 : decode cX9_ringLine 111 = .ok (.ldc 216, 2) := by decide +kernel
theorem dX9_ringLine_113 : decode cX9_ringLine 113 = .ok (.iconst 2, 1) := by decide +kernel
theorem dX9_ringLine_114 : decode cX9_ringLine 114 = .ok (.bipush 9, 2) := by decide +kernel
theorem dX9_ringLine_116 : decode cX9_ringLine 116 = .ok (.invokevirtual 203, 3) := by decide +kernel
theorem dX9_ringLine_119 : decode cX9_ringLine 119 = .ok (.iastore, 1) := by decide +kernel
theorem dX9_ringLine_120 : decode cX9_ringLine 120 = .ok (.aload_n 0, 1) := by decide +kernel
theorem dX9_ringLine_121 : decode cX9_ringLine 121 = .ok (.getfield 82, 3) := by decide +kernel
theorem dX9_ringLine_124 : decode cX9_ringLine 124 = .ok (.ifCond .ne 13, 3) := by decide +kernel
theorem dX9_ringLine_127 : decode cX9_ringLine 127 = .ok (.aload_n 0, 1) := by decide +kernel
theorem dX9_ringLine_128 : decode cX9_ringLine 128 = .ok (.getfield 23, 3) := by decide +kernel
theorem dX9_ringLine_131 : decode cX9_ringLine 131 = .ok (.iconst 2, 1) := by decide +kernel
theorem dX9_ringLine_132 : decode cX9_ringLine 132 = .ok (.dup2, 1) := by decide +kernel
theorem dX9_ringLine_133 : decode cX9_ringLine 133 = .ok (.iaload, 1) := by decide +kernel
theorem dX9_ringLine_134 : decode cX9_ringLine 134 = .ok (.iconst 1, 1) := by decide +kernel
theorem dX9_ringLine_135 : decode cX9_ringLine 135 = .ok (.iadd, 1) := by decide +kernel
theorem dX9_ringLine_136 : decode cX9_ringLine 136 = .ok (.iastore, 1) := by decide +kernel
theorem dX9_ringLine_137 : decode cX9_ringLine 137 = .ok (.return_, 1) := by decide +kernel
theorem dX9_narrowLine_0 : decode cX9_narrowLine 0 = .ok (.aload_n 0, 1) := by decide +kernel
theorem dX9_narrowLine_1 : decode cX9_narrowLine 1 = .ok (.getfield 82, 3) := by decide +kernel
theorem dX9_narrowLine_4 : decode cX9_narrowLine 4 = .ok (.ifCond .eq 4, 3) := by decide +kernel
theorem dX9_narrowLine_7 : decode cX9_narrowLine 7 = .ok (.return_, 1) := by decide +kernel
theorem dX9_narrowLine_8 : decode cX9_narrowLine 8 = .ok (.aload_n 0, 1) := by decide +kernel
theorem dX9_narrowLine_9 : decode cX9_narrowLine 9 = .ok (.invokevirtual 218, 3) := by decide +kernel
theorem dX9_narrowLine_12 : decode cX9_narrowLine 12 = .ok (.istore_n 1, 1) := by decide +kernel
theorem dX9_narrowLine_13 : decode cX9_narrowLine 13 = .ok (.aload_n 0, 1) := by decide +kernel
theorem dX9_narrowLine_14 : decode cX9_narrowLine 14 = .ok (.getfield 82, 3) := by decide +kernel
theorem dX9_narrowLine_17 : decode cX9_narrowLine 17 = .ok (.ifCond .eq 4, 3) := by decide +kernel
theorem dX9_narrowLine_20 : decode cX9_narrowLine 20 = .ok (.return_, 1) := by decide +kernel
theorem dX9_narrowLine_21 : decode cX9_narrowLine 21 = .ok (.aload_n 0, 1) := by decide +kernel
theorem dX9_narrowLine_22 : decode cX9_narrowLine 22 = .ok (.iload_n 1, 1) := by decide +kernel
theorem dX9_narrowLine_23 : decode cX9_narrowLine 23 = .ok (.invokevirtual 221, 3) := by decide +kernel
theorem dX9_narrowLine_26 : decode cX9_narrowLine 26 = .ok (.istore_n 2, 1) := by decide +kernel
theorem dX9_narrowLine_27 : decode cX9_narrowLine 27 = .ok (.aload_n 0, 1) := by decide +kernel
theorem dX9_narrowLine_28 : decode cX9_narrowLine 28 = .ok (.getfield 82, 3) := by decide +kernel
theorem dX9_narrowLine_31 : decode cX9_narrowLine 31 = .ok (.ifCond .ne 24, 3) := by decide +kernel
theorem dX9_narrowLine_34 : decode cX9_narrowLine 34 = .ok (.aload_n 0, 1) := by decide +kernel
theorem dX9_narrowLine_35 : decode cX9_narrowLine 35 = .ok (.getfield 23, 3) := by decide +kernel
theorem dX9_narrowLine_38 : decode cX9_narrowLine 38 = .ok (.bipush 16, 2) := by decide +kernel
theorem dX9_narrowLine_40 : decode cX9_narrowLine 40 = .ok (.iload_n 2, 1) := by decide +kernel
theorem dX9_narrowLine_41 : decode cX9_narrowLine 41 = .ok (.iadd, 1) := by decide +kernel
theorem dX9_narrowLine_42 : decode cX9_narrowLine 42 = .ok (.iaload, 1) := by decide +kernel
theorem dX9_narrowLine_43 : decode cX9_narrowLine 43 = .ok (.ifCond .le 12, 3) := by decide +kernel
theorem dX9_narrowLine_46 : decode cX9_narrowLine 46 = .ok (.aload_n 0, 1) := by decide +kernel
theorem dX9_narrowLine_47 : decode cX9_narrowLine 47 = .ok (.iconst 3, 1) := by decide +kernel
theorem dX9_narrowLine_48 : decode cX9_narrowLine 48 = .ok (.aload_n 0, 1) := by decide +kernel
theorem dX9_narrowLine_49 : decode cX9_narrowLine 49 = .ok (.getfield 63, 3) := by decide +kernel
theorem dX9_narrowLine_52 : decode cX9_narrowLine 52 = .ok (.invokevirtual 109, 3) := by decide +kernel
theorem dX9_narrowLine_55 : decode cX9_narrowLine 55 = .ok (.aload_n 0, 1) := by decide +kernel
theorem dX9_narrowLine_56 : decode cX9_narrowLine 56 = .ok (.getfield 82, 3) := by decide +kernel
theorem dX9_narrowLine_59 : decode cX9_narrowLine 59 = .ok (.ifCond .eq 4, 3) := by decide +kernel
theorem dX9_narrowLine_62 : decode cX9_narrowLine 62 = .ok (.return_, 1) := by decide +kernel
theorem dX9_narrowLine_63 : decode cX9_narrowLine 63 = .ok (.aload_n 0, 1) := by decide +kernel
theorem dX9_narrowLine_64 : decode cX9_narrowLine 64 = .ok (.invokevirtual 103, 3) := by decide +kernel
theorem dX9_narrowLine_67 : decode cX9_narrowLine 67 = .ok (.aload_n 0, 1) := by decide +kernel
theorem dX9_narrowLine_68 : decode cX9_narrowLine 68 = .ok (.ldc 224, 2) := by decide +kernel
theorem dX9_narrowLine_70 : decode cX9_narrowLine 70 = .ok (.iconst 0, 1) := by decide +kernel
theorem dX9_narrowLine_71 : decode cX9_narrowLine 71 = .ok (.bipush 9, 2) := by decide +kernel
theorem dX9_narrowLine_73 : decode cX9_narrowLine 73 = .ok (.invokevirtual 203, 3) := by decide +kernel
theorem dX9_narrowLine_76 : decode cX9_narrowLine 76 = .ok (.istore_n 3, 1) := by decide +kernel
theorem dX9_narrowLine_77 : decode cX9_narrowLine 77 = .ok (.aload_n 0, 1) := by decide +kernel
theorem dX9_narrowLine_78 : decode cX9_narrowLine 78 = .ok (.getfield 82, 3) := by decide +kernel
theorem dX9_narrowLine_81 : decode cX9_narrowLine 81 = .ok (.ifCond .eq 4, 3) := by decide +kernel
theorem dX9_narrowLine_84 : decode cX9_narrowLine 84 = .ok (.return_, 1) := by decide +kernel
theorem dX9_narrowLine_85 : decode cX9_narrowLine 85 = .ok (.aload_n 0, 1) := by decide +kernel
theorem dX9_narrowLine_86 : decode cX9_narrowLine 86 = .ok (.getfield 23, 3) := by decide +kernel
theorem dX9_narrowLine_89 : decode cX9_narrowLine 89 = .ok (.bipush 16, 2) := by decide +kernel
theorem dX9_narrowLine_91 : decode cX9_narrowLine 91 = .ok (.iload_n 2, 1) := by decide +kernel
theorem dX9_narrowLine_92 : decode cX9_narrowLine 92 = .ok (.iadd, 1) := by decide +kernel
theorem dX9_narrowLine_93 : decode cX9_narrowLine 93 = .ok (.iload_n 3, 1) := by decide +kernel
theorem dX9_narrowLine_94 : decode cX9_narrowLine 94 = .ok (.iconst 1, 1) := by decide +kernel
theorem dX9_narrowLine_95 : decode cX9_narrowLine 95 = .ok (.iadd, 1) := by decide +kernel
theorem dX9_narrowLine_96 : decode cX9_narrowLine 96 = .ok (.iastore, 1) := by decide +kernel
theorem dX9_narrowLine_97 : decode cX9_narrowLine 97 = .ok (.aload_n 0, 1) := by decide +kernel
theorem dX9_narrowLine_98 : decode cX9_narrowLine 98 = .ok (.getfield 23, 3) := by decide +kernel
theorem dX9_narrowLine_101 : decode cX9_narrowLine 101 = .ok (.iconst 4, 1) := by decide +kernel
theorem dX9_narrowLine_102 : decode cX9_narrowLine 102 = .ok (.dup2, 1) := by decide +kernel
theorem dX9_narrowLine_103 : decode cX9_narrowLine 103 = .ok (.iaload, 1) := by decide +kernel
theorem dX9_narrowLine_104 : decode cX9_narrowLine 104 = .ok (.iconst 1, 1) := by decide +kernel
theorem dX9_narrowLine_105 : decode cX9_narrowLine 105 = .ok (.iadd, 1) := by decide +kernel
theorem dX9_narrowLine_106 : decode cX9_narrowLine 106 = .ok (.iastore, 1) := by decide +kernel
theorem dX9_narrowLine_107 : decode cX9_narrowLine 107 = .ok (.return_, 1) := by decide +kernel
theorem dX9_doorLine_0 : decode cX9_doorLine 0 = .ok (.aload_n 0, 1) := by decide +kernel
theorem dX9_doorLine_1 : decode cX9_doorLine 1 = .ok (.getfield 82, 3) := by decide +kernel
theorem dX9_doorLine_4 : decode cX9_doorLine 4 = .ok (.ifCond .eq 4, 3) := by decide +kernel
theorem dX9_doorLine_7 : decode cX9_doorLine 7 = .ok (.return_, 1) := by decide +kernel
theorem dX9_doorLine_8 : decode cX9_doorLine 8 = .ok (.bipush 52, 2) := by decide +kernel
theorem dX9_doorLine_10 : decode cX9_doorLine 10 = .ok (.iconst 2, 1) := by decide +kernel
theorem dX9_doorLine_11 : decode cX9_doorLine 11 = .ok (.aload_n 0, 1) := by decide +kernel
theorem dX9_doorLine_12 : decode cX9_doorLine 12 = .ok (.getfield 23, 3) := by decide +kernel
theorem dX9_doorLine_15 : decode cX9_doorLine 15 = .ok (.iconst 5, 1) := by decide +kernel
theorem dX9_doorLine_16 : decode cX9_doorLine 16 = .ok (.iaload, 1) := by decide +kernel
theorem dX9_doorLine_17 : decode cX9_doorLine 17 = .ok (.imul, 1) := by decide +kernel
theorem dX9_doorLine_18 : decode cX9_doorLine 18 = .ok (.iadd, 1) := by decide +kernel
theorem dX9_doorLine_19 : decode cX9_doorLine 19 = .ok (.istore_n 1, 1) := by decide +kernel
theorem dX9_doorLine_20 : decode cX9_doorLine 20 = .ok (.aload_n 0, 1) := by decide +kernel
theorem dX9_doorLine_21 : decode cX9_doorLine 21 = .ok (.invokevirtual 218, 3) := by decide +kernel
theorem dX9_doorLine_24 : decode cX9_doorLine 24 = .ok (.istore_n 2, 1) := by decide +kernel
theorem dX9_doorLine_25 : decode cX9_doorLine 25 = .ok (.aload_n 0, 1) := by decide +kernel
theorem dX9_doorLine_26 : decode cX9_doorLine 26 = .ok (.getfield 82, 3) := by decide +kernel
theorem dX9_doorLine_29 : decode cX9_doorLine 29 = .ok (.ifCond .eq 4, 3) := by decide +kernel
theorem dX9_doorLine_32 : decode cX9_doorLine 32 = .ok (.return_, 1) := by decide +kernel
theorem dX9_doorLine_33 : decode cX9_doorLine 33 = .ok (.aload_n 0, 1) := by decide +kernel
theorem dX9_doorLine_34 : decode cX9_doorLine 34 = .ok (.iload_n 2, 1) := by decide +kernel
theorem dX9_doorLine_35 : decode cX9_doorLine 35 = .ok (.invokevirtual 221, 3) := by decide +kernel
theorem dX9_doorLine_38 : decode cX9_doorLine 38 = .ok (.istore_n 3, 1) := by decide +kernel
theorem dX9_doorLine_39 : decode cX9_doorLine 39 = .ok (.aload_n 0, 1) := by decide +kernel
theorem dX9_doorLine_40 : decode cX9_doorLine 40 = .ok (.getfield 82, 3) := by decide +kernel
theorem dX9_doorLine_43 : decode cX9_doorLine 43 = .ok (.ifCond .eq 4, 3) := by decide +kernel
theorem dX9_doorLine_46 : decode cX9_doorLine 46 = .ok (.return_, 1) := by decide +kernel
theorem dX9_doorLine_47 : decode cX9_doorLine 47 = .ok (.aload_n 0, 1) := by decide +kernel
theorem dX9_doorLine_48 : decode cX9_doorLine 48 = .ok (.invokevirtual 103, 3) := by decide +kernel
theorem dX9_doorLine_51 : decode cX9_doorLine 51 = .ok (.aload_n 0, 1) := by decide +kernel
theorem dX9_doorLine_52 : decode cX9_doorLine 52 = .ok (.invokevirtual 218, 3) := by decide +kernel
theorem dX9_doorLine_55 : decode cX9_doorLine 55 = .ok (.istore 4, 2) := by decide +kernel
theorem dX9_doorLine_57 : decode cX9_doorLine 57 = .ok (.aload_n 0, 1) := by decide +kernel
theorem dX9_doorLine_58 : decode cX9_doorLine 58 = .ok (.getfield 82, 3) := by decide +kernel
theorem dX9_doorLine_61 : decode cX9_doorLine 61 = .ok (.ifCond .eq 4, 3) := by decide +kernel
theorem dX9_doorLine_64 : decode cX9_doorLine 64 = .ok (.return_, 1) := by decide +kernel
theorem dX9_doorLine_65 : decode cX9_doorLine 65 = .ok (.aload_n 0, 1) := by decide +kernel
theorem dX9_doorLine_66 : decode cX9_doorLine 66 = .ok (.iload 4, 2) := by decide +kernel
theorem dX9_doorLine_68 : decode cX9_doorLine 68 = .ok (.invokevirtual 221, 3) := by decide +kernel
theorem dX9_doorLine_71 : decode cX9_doorLine 71 = .ok (.istore 5, 2) := by decide +kernel
theorem dX9_doorLine_73 : decode cX9_doorLine 73 = .ok (.iload_n 3, 1) := by decide +kernel
theorem dX9_doorLine_74 : decode cX9_doorLine 74 = .ok (.iload 5, 2) := by decide +kernel
theorem dX9_doorLine_76 : decode cX9_doorLine 76 = .ok (.if_icmp .ne 7, 3) := by decide +kernel
theorem dX9_doorLine_79 : decode cX9_doorLine 79 = .ok (.iconst 1, 1) := by decide +kernel
theorem dX9_doorLine_80 : decode cX9_doorLine 80 = .ok (.goto 4, 3) := by decide +kernel
theorem dX9_doorLine_83 : decode cX9_doorLine 83 = .ok (.iconst 0, 1) := by decide +kernel
theorem dX9_doorLine_84 : decode cX9_doorLine 84 = .ok (.istore 6, 2) := by decide +kernel
theorem dX9_doorLine_86 : decode cX9_doorLine 86 = .ok (.iconst 0, 1) := by decide +kernel
theorem dX9_doorLine_87 : decode cX9_doorLine 87 = .ok (.istore 7, 2) := by decide +kernel
theorem dX9_doorLine_89 : decode cX9_doorLine 89 = .ok (.iload 7, 2) := by decide +kernel
theorem dX9_doorLine_91 : decode cX9_doorLine 91 = .ok (.aload_n 0, 1) := by decide +kernel
theorem dX9_doorLine_92 : decode cX9_doorLine 92 = .ok (.getfield 23, 3) := by decide +kernel
theorem dX9_doorLine_95 : decode cX9_doorLine 95 = .ok (.iconst 5, 1) := by decide +kernel
theorem dX9_doorLine_96 : decode cX9_doorLine 96 = .ok (.iaload, 1) := by decide +kernel
theorem dX9_doorLine_97 : decode cX9_doorLine 97 = .ok (.if_icmp .ge 77, 3) := by decide +kernel
theorem dX9_doorLine_100 : decode cX9_doorLine 100 = .ok (.aload_n 0, 1) := by decide +kernel
theorem dX9_doorLine_101 : decode cX9_doorLine 101 = .ok (.getfield 23, 3) := by decide +kernel
theorem dX9_doorLine_104 : decode cX9_doorLine 104 = .ok (.bipush 52, 2) := by decide +kernel
theorem dX9_doorLine_106 : decode cX9_doorLine 106 = .ok (.iconst 2, 1) := by decide +kernel
theorem dX9_doorLine_107 : decode cX9_doorLine 107 = .ok (.iload 7, 2) := by decide +kernel
theorem dX9_doorLine_109 : decode cX9_doorLine 109 = .ok (.imul, 1) := by decide +kernel
theorem dX9_doorLine_110 : decode cX9_doorLine 110 = .ok (.iadd, 1) := by decide +kernel
theorem dX9_doorLine_111 : decode cX9_doorLine 111 = .ok (.iaload, 1) := by decide +kernel
theorem dX9_doorLine_112 : decode cX9_doorLine 112 = .ok (.istore 8, 2) := by decide +kernel
theorem dX9_doorLine_114 : decode cX9_doorLine 114 = .ok (.aload_n 0, 1) := by decide +kernel
theorem dX9_doorLine_115 : decode cX9_doorLine 115 = .ok (.getfield 23, 3) := by decide +kernel
theorem dX9_doorLine_118 : decode cX9_doorLine 118 = .ok (.bipush 52, 2) := by decide +kernel
theorem dX9_doorLine_120 : decode cX9_doorLine 120 = .ok (.iconst 2, 1) := by decide +kernel
theorem dX9_doorLine_121 : decode cX9_doorLine 121 = .ok (.iload 7, 2) := by decide +kernel
theorem dX9_doorLine_123 : decode cX9_doorLine 123 = .ok (.imul, 1) := by decide +kernel
theorem dX9_doorLine_124 : decode cX9_doorLine 124 = .ok (.iadd, 1) := by decide +kernel
theorem dX9_doorLine_125 : decode cX9_doorLine 125 = .ok (.iconst 1, 1) := by decide +kernel
theorem dX9_doorLine_126 : decode cX9_doorLine 126 = .ok (.iadd, 1) := by decide +kernel
theorem dX9_doorLine_127 : decode cX9_doorLine 127 = .ok (.iaload, 1) := by decide +kernel
theorem dX9_doorLine_128 : decode cX9_doorLine 128 = .ok (.istore 9, 2) := by decide +kernel
theorem dX9_doorLine_130 : decode cX9_doorLine 130 = .ok (.iload 6, 2) := by decide +kernel
theorem dX9_doorLine_132 : decode cX9_doorLine 132 = .ok (.ifCond .ne 29, 3) := by decide +kernel
theorem dX9_doorLine_135 : decode cX9_doorLine 135 = .ok (.iload 8, 2) := by decide +kernel
theorem dX9_doorLine_137 : decode cX9_doorLine 137 = .ok (.iload_n 3, 1) := by decide +kernel
theorem dX9_doorLine_138 : decode cX9_doorLine 138 = .ok (.if_icmp .ne 10, 3) := by decide +kernel
theorem dX9_doorLine_141 : decode cX9_doorLine 141 = .ok (.iload 9, 2) := by decide +kernel
theorem dX9_doorLine_143 : decode cX9_doorLine 143 = .ok (.iload 5, 2) := by decide +kernel
theorem dX9_doorLine_145 : decode cX9_doorLine 145 = .ok (.if_icmp .eq 16, 3) := by decide +kernel
theorem dX9_doorLine_148 : decode cX9_doorLine 148 = .ok (.iload 8, 2) := by decide +kernel
theorem dX9_doorLine_150 : decode cX9_doorLine 150 = .ok (.iload 5, 2) := by decide +kernel
theorem dX9_doorLine_152 : decode cX9_doorLine 152 = .ok (.if_icmp .ne 13, 3) := by decide +kernel
theorem dX9_doorLine_155 : decode cX9_doorLine 155 = .ok (.iload 9, 2) := by decide +kernel
theorem dX9_doorLine_157 : decode cX9_doorLine 157 = .ok (.iload_n 3, 1) := by decide +kernel
theorem dX9_doorLine_158 : decode cX9_doorLine 158 = .ok (.if_icmp .ne 7, 3) := by decide +kernel
theorem dX9_doorLine_161 : decode cX9_doorLine 161 = .ok (.iconst 1, 1) := by decide +kernel
theorem dX9_doorLine_162 : decode cX9_doorLine 162 = .ok (.goto 4, 3) := by decide +kernel
theorem dX9_doorLine_165 : decode cX9_doorLine 165 = .ok (.iconst 0, 1) := by decide +kernel
theorem dX9_doorLine_166 : decode cX9_doorLine 166 = .ok (.istore 6, 2) := by decide +kernel
theorem dX9_doorLine_168 : decode cX9_doorLine 168 = .ok (.iinc 7 1, 3) := by decide +kernel
theorem dX9_doorLine_171 : decode cX9_doorLine 171 = .ok (.goto (-82), 3) := by decide +kernel
theorem dX9_doorLine_174 : decode cX9_doorLine 174 = .ok (.aload_n 0, 1) := by decide +kernel
theorem dX9_doorLine_175 : decode cX9_doorLine 175 = .ok (.getfield 82, 3) := by decide +kernel
theorem dX9_doorLine_178 : decode cX9_doorLine 178 = .ok (.ifCond .ne 17, 3) := by decide +kernel
theorem dX9_doorLine_181 : decode cX9_doorLine 181 = .ok (.iload 6, 2) := by decide +kernel
theorem dX9_doorLine_183 : decode cX9_doorLine 183 = .ok (.ifCond .eq 12, 3) := by decide +kernel
theorem dX9_doorLine_186 : decode cX9_doorLine 186 = .ok (.aload_n 0, 1) := by decide +kernel
theorem dX9_doorLine_187 : decode cX9_doorLine 187 = .ok (.iconst 3, 1) := by decide +kernel
theorem dX9_doorLine_188 : decode cX9_doorLine 188 = .ok (.aload_n 0, 1) := by decide +kernel
theorem dX9_doorLine_189 : decode cX9_doorLine 189 = .ok (.getfield 63, 3) := by decide +kernel
theorem dX9_doorLine_192 : decode cX9_doorLine 192 = .ok (.invokevirtual 109, 3) := by decide +kernel
theorem dX9_doorLine_195 : decode cX9_doorLine 195 = .ok (.aload_n 0, 1) := by decide +kernel
theorem dX9_doorLine_196 : decode cX9_doorLine 196 = .ok (.getfield 82, 3) := by decide +kernel
theorem dX9_doorLine_199 : decode cX9_doorLine 199 = .ok (.ifCond .eq 4, 3) := by decide +kernel
theorem dX9_doorLine_202 : decode cX9_doorLine 202 = .ok (.return_, 1) := by decide +kernel
theorem dX9_doorLine_203 : decode cX9_doorLine 203 = .ok (.aload_n 0, 1) := by decide +kernel
theorem dX9_doorLine_204 : decode cX9_doorLine 204 = .ok (.invokevirtual 103, 3) := by decide +kernel
theorem dX9_doorLine_207 : decode cX9_doorLine 207 = .ok (.aload_n 0, 1) := by decide +kernel
theorem dX9_doorLine_208 : decode cX9_doorLine 208 = .ok (.getfield 23, 3) := by decide +kernel
theorem dX9_doorLine_211 : decode cX9_doorLine 211 = .ok (.iload_n 1, 1) := by decide +kernel
theorem dX9_doorLine_212 : decode cX9_doorLine 212 = .ok (.iload_n 3, 1) := by decide +kernel
theorem dX9_doorLine_213 : decode cX9_doorLine 213 = .ok (.iastore, 1) := by decide +kernel
theorem dX9_doorLine_214 : decode cX9_doorLine 214 = .ok (.aload_n 0, 1) := by decide +kernel
theorem dX9_doorLine_215 : decode cX9_doorLine 215 = .ok (.getfield 23, 3) := by decide +kernel
theorem dX9_doorLine_218 : decode cX9_doorLine 218 = .ok (.iload_n 1, 1) := by decide +kernel
theorem dX9_doorLine_219 : decode cX9_doorLine 219 = .ok (.iconst 1, 1) := by decide +kernel
theorem dX9_doorLine_220 : decode cX9_doorLine 220 = .ok (.iadd, 1) := by decide +kernel
theorem dX9_doorLine_221 : decode cX9_doorLine 221 = .ok (.iload 5, 2) := by decide +kernel
theorem dX9_doorLine_223 : decode cX9_doorLine 223 = .ok (.iastore, 1) := by decide +kernel
theorem dX9_doorLine_224 : decode cX9_doorLine 224 = .ok (.aload_n 0, 1) := by decide +kernel
theorem dX9_doorLine_225 : decode cX9_doorLine 225 = .ok (.getfield 23, 3) := by decide +kernel
theorem dX9_doorLine_228 : decode cX9_doorLine 228 = .ok (.iconst 5, 1) := by decide +kernel
theorem dX9_doorLine_229 : decode cX9_doorLine 229 = .ok (.dup2, 1) := by decide +kernel
theorem dX9_doorLine_230 : decode cX9_doorLine 230 = .ok (.iaload, 1) := by decide +kernel
theorem dX9_doorLine_231 : decode cX9_doorLine 231 = .ok (.iconst 1, 1) := by decide +kernel
theorem dX9_doorLine_232 : decode cX9_doorLine 232 = .ok (.iadd, 1) := by decide +kernel
theorem dX9_doorLine_233 : decode cX9_doorLine 233 = .ok (.iastore, 1) := by decide +kernel
theorem dX9_doorLine_234 : decode cX9_doorLine 234 = .ok (.return_, 1) := by decide +kernel
theorem dX9_thingLine_0 : decode cX9_thingLine 0 = .ok (.aload_n 0, 1) := by decide +kernel
theorem dX9_thingLine_1 : decode cX9_thingLine 1 = .ok (.getfield 82, 3) := by decide +kernel
theorem dX9_thingLine_4 : decode cX9_thingLine 4 = .ok (.ifCond .eq 4, 3) := by decide +kernel
theorem dX9_thingLine_7 : decode cX9_thingLine 7 = .ok (.return_, 1) := by decide +kernel
theorem dX9_thingLine_8 : decode cX9_thingLine 8 = .ok (.bipush 62, 2) := by decide +kernel
theorem dX9_thingLine_10 : decode cX9_thingLine 10 = .ok (.iconst 3, 1) := by decide +kernel
theorem dX9_thingLine_11 : decode cX9_thingLine 11 = .ok (.aload_n 0, 1) := by decide +kernel
theorem dX9_thingLine_12 : decode cX9_thingLine 12 = .ok (.getfield 23, 3) := by decide +kernel
theorem dX9_thingLine_15 : decode cX9_thingLine 15 = .ok (.iconst 3, 1) := by decide +kernel
theorem dX9_thingLine_16 : decode cX9_thingLine 16 = .ok (.iaload, 1) := by decide +kernel
theorem dX9_thingLine_17 : decode cX9_thingLine 17 = .ok (.imul, 1) := by decide +kernel
theorem dX9_thingLine_18 : decode cX9_thingLine 18 = .ok (.iadd, 1) := by decide +kernel
theorem dX9_thingLine_19 : decode cX9_thingLine 19 = .ok (.istore_n 1, 1) := by decide +kernel
theorem dX9_thingLine_20 : decode cX9_thingLine 20 = .ok (.aload_n 0, 1) := by decide +kernel
theorem dX9_thingLine_21 : decode cX9_thingLine 21 = .ok (.iconst 4, 1) := by decide +kernel
theorem dX9_thingLine_22 : decode cX9_thingLine 22 = .ok (.aload_n 0, 1) := by decide +kernel
theorem dX9_thingLine_23 : decode cX9_thingLine 23 = .ok (.getfield 23, 3) := by decide +kernel
theorem dX9_thingLine_26 : decode cX9_thingLine 26 = .ok (.iconst 3, 1) := by decide +kernel
theorem dX9_thingLine_27 : decode cX9_thingLine 27 = .ok (.iaload, 1) := by decide +kernel
theorem dX9_thingLine_28 : decode cX9_thingLine 28 = .ok (.iadd, 1) := by decide +kernel
theorem dX9_thingLine_29 : decode cX9_thingLine 29 = .ok (.invokevirtual 209, 3) := by decide +kernel
theorem dX9_thingLine_32 : decode cX9_thingLine 32 = .ok (.aload_n 0, 1) := by decide +kernel
theorem dX9_thingLine_33 : decode cX9_thingLine 33 = .ok (.ldc 212, 2) := by decide +kernel
theorem dX9_thingLine_35 : decode cX9_thingLine 35 = .ok (.invokevirtual 99, 3) := by decide +kernel
theorem dX9_thingLine_38 : decode cX9_thingLine 38 = .ok (.ifCond .eq 7, 3) := by decide +kernel
theorem dX9_thingLine_41 : decode cX9_thingLine 41 = .ok (.iconst 0, 1) := by decide +kernel
theorem dX9_thingLine_42 : decode cX9_thingLine 42 = .ok (.goto 43, 3) := by decide +kernel
theorem dX9_thingLine_45 : decode cX9_thingLine 45 = .ok (.aload_n 0, 1) := by decide +kernel
theorem dX9_thingLine_46 : decode cX9_thingLine 46 = .ok (.ldc 226, 2) := by decide +kernel
theorem dX9_thingLine_48 : decode cX9_thingLine 48 = .ok (.invokevirtual 99, 3) := by decide +kernel
theorem dX9_thingLine_51 : decode cX9_thingLine 51 = .ok (.ifCond .eq 7, 3) := by decide +kernel
theorem dX9_thingLine_54 : decode cX9_thingLine 54 = .ok (.iconst 1, 1) := by decide +kernel
theorem dX9_thingLine_55 : decode cX9_thingLine 55 = .ok (.goto 30, 3) := by decide +kernel
theorem dX9_thingLine_58 : decode cX9_thingLine 58 = .ok (.aload_n 0, 1) := by decide +kernel
theorem dX9_thingLine_59 : decode cX9_thingLine 59 = .ok (.ldc 228, 2) := by decide +kernel
theorem dX9_thingLine_61 : decode cX9_thingLine 61 = .ok (.invokevirtual 99, 3) := by decide +kernel
theorem dX9_thingLine_64 : decode cX9_thingLine 64 = .ok (.ifCond .eq 7, 3) := by decide +kernel
theorem dX9_thingLine_67 : decode cX9_thingLine 67 = .ok (.iconst 2, 1) := by decide +kernel
theorem dX9_thingLine_68 : decode cX9_thingLine 68 = .ok (.goto 17, 3) := by decide +kernel
theorem dX9_thingLine_71 : decode cX9_thingLine 71 = .ok (.aload_n 0, 1) := by decide +kernel
theorem dX9_thingLine_72 : decode cX9_thingLine 72 = .ok (.ldc 230, 2) := by decide +kernel
theorem dX9_thingLine_74 : decode cX9_thingLine 74 = .ok (.invokevirtual 99, 3) := by decide +kernel
theorem dX9_thingLine_77 : decode cX9_thingLine 77 = .ok (.ifCond .eq 7, 3) := by decide +kernel
theorem dX9_thingLine_80 : decode cX9_thingLine 80 = .ok (.iconst 3, 1) := by decide +kernel
theorem dX9_thingLine_81 : decode cX9_thingLine 81 = .ok (.goto 4, 3) := by decide +kernel
theorem dX9_thingLine_84 : decode cX9_thingLine 84 = .ok (.iconst (-1), 1) := by decide +kernel
theorem dX9_thingLine_85 : decode cX9_thingLine 85 = .ok (.istore_n 2, 1) := by decide +kernel
theorem dX9_thingLine_86 : decode cX9_thingLine 86 = .ok (.iload_n 2, 1) := by decide +kernel
theorem dX9_thingLine_87 : decode cX9_thingLine 87 = .ok (.ifCond .ge 12, 3) := by decide +kernel
theorem dX9_thingLine_90 : decode cX9_thingLine 90 = .ok (.aload_n 0, 1) := by decide +kernel
theorem dX9_thingLine_91 : decode cX9_thingLine 91 = .ok (.iconst 1, 1) := by decide +kernel
theorem dX9_thingLine_92 : decode cX9_thingLine 92 = .ok (.aload_n 0, 1) := by decide +kernel
theorem dX9_thingLine_93 : decode cX9_thingLine 93 = .ok (.getfield 63, 3) := by decide +kernel
theorem dX9_thingLine_96 : decode cX9_thingLine 96 = .ok (.invokevirtual 109, 3) := by decide +kernel
theorem dX9_thingLine_99 : decode cX9_thingLine 99 = .ok (.aload_n 0, 1) := by decide +kernel
theorem dX9_thingLine_100 : decode cX9_thingLine 100 = .ok (.getfield 82, 3) := by decide +kernel
theorem dX9_thingLine_103 : decode cX9_thingLine 103 = .ok (.ifCond .eq 4, 3) := by decide +kernel
theorem dX9_thingLine_106 : decode cX9_thingLine 106 = .ok (.return_, 1) := by decide +kernel
theorem dX9_thingLine_107 : decode cX9_thingLine 107 = .ok (.aload_n 0, 1) := by decide +kernel
theorem dX9_thingLine_108 : decode cX9_thingLine 108 = .ok (.invokevirtual 103, 3) := by decide +kernel
theorem dX9_thingLine_111 : decode cX9_thingLine 111 = .ok (.aload_n 0, 1) := by decide +kernel
theorem dX9_thingLine_112 : decode cX9_thingLine 112 = .ok (.ldc 232, 2) := by decide +kernel
theorem dX9_thingLine_114 : decode cX9_thingLine 114 = .ok (.invokevirtual 146, 3) := by decide +kernel
theorem dX9_thingLine_117 : decode cX9_thingLine 117 = .ok (.aload_n 0, 1) := by decide +kernel
theorem dX9_thingLine_118 : decode cX9_thingLine 118 = .ok (.invokevirtual 218, 3) := by decide +kernel
theorem dX9_thingLine_121 : decode cX9_thingLine 121 = .ok (.istore_n 3, 1) := by decide +kernel
theorem dX9_thingLine_122 : decode cX9_thingLine 122 = .ok (.aload_n 0, 1) := by decide +kernel
theorem dX9_thingLine_123 : decode cX9_thingLine 123 = .ok (.ldc 233, 2) := by decide +kernel
theorem dX9_thingLine_125 : decode cX9_thingLine 125 = .ok (.invokevirtual 146, 3) := by decide +kernel
theorem dX9_thingLine_128 : decode cX9_thingLine 128 = .ok (.aload_n 0, 1) := by decide +kernel
theorem dX9_thingLine_129 : decode cX9_thingLine 129 = .ok (.getfield 82, 3) := by decide +kernel
theorem dX9_thingLine_132 : decode cX9_thingLine 132 = .ok (.ifCond .eq 4, 3) := by decide +kernel
theorem dX9_thingLine_135 : decode cX9_thingLine 135 = .ok (.return_, 1) := by decide +kernel
theorem dX9_thingLine_136 : decode cX9_thingLine 136 = .ok (.aload_n 0, 1) := by decide +kernel
theorem dX9_thingLine_137 : decode cX9_thingLine 137 = .ok (.iload_n 3, 1) := by decide +kernel
theorem dX9_thingLine_138 : decode cX9_thingLine 138 = .ok (.invokevirtual 221, 3) := by decide +kernel
theorem dX9_thingLine_141 : decode cX9_thingLine 141 = .ok (.istore 4, 2) := by decide +kernel
theorem dX9_thingLine_143 : decode cX9_thingLine 143 = .ok (.iconst 0, 1) := by decide +kernel
theorem dX9_thingLine_144 : decode cX9_thingLine 144 = .ok (.istore 5, 2) := by decide +kernel
theorem dX9_thingLine_146 : decode cX9_thingLine 146 = .ok (.iload 5, 2) := by decide +kernel
theorem dX9_thingLine_148 : decode cX9_thingLine 148 = .ok (.aload_n 0, 1) := by decide +kernel
theorem dX9_thingLine_149 : decode cX9_thingLine 149 = .ok (.getfield 23, 3) := by decide +kernel
theorem dX9_thingLine_152 : decode cX9_thingLine 152 = .ok (.iconst 3, 1) := by decide +kernel
theorem dX9_thingLine_153 : decode cX9_thingLine 153 = .ok (.iaload, 1) := by decide +kernel
theorem dX9_thingLine_154 : decode cX9_thingLine 154 = .ok (.if_icmp .ge 44, 3) := by decide +kernel
theorem dX9_thingLine_157 : decode cX9_thingLine 157 = .ok (.aload_n 0, 1) := by decide +kernel
theorem dX9_thingLine_158 : decode cX9_thingLine 158 = .ok (.getfield 82, 3) := by decide +kernel
theorem dX9_thingLine_161 : decode cX9_thingLine 161 = .ok (.ifCond .ne 31, 3) := by decide +kernel
theorem dX9_thingLine_164 : decode cX9_thingLine 164 = .ok (.aload_n 0, 1) := by decide +kernel
theorem dX9_thingLine_165 : decode cX9_thingLine 165 = .ok (.getfield 23, 3) := by decide +kernel
theorem dX9_thingLine_168 : decode cX9_thingLine 168 = .ok (.bipush 62, 2) := by decide +kernel
theorem dX9_thingLine_170 : decode cX9_thingLine 170 = .ok (.iconst 3, 1) := by decide +kernel
theorem dX9_thingLine_171 : decode cX9_thingLine 171 = .ok (.iload 5, 2) := by decide +kernel
theorem dX9_thingLine_173 : decode cX9_thingLine 173 = .ok (.imul, 1) := by decide +kernel
theorem dX9_thingLine_174 : decode cX9_thingLine 174 = .ok (.iadd, 1) := by decide +kernel
theorem dX9_thingLine_175 : decode cX9_thingLine 175 = .ok (.iconst 1, 1) := by decide +kernel
theorem dX9_thingLine_176 : decode cX9_thingLine 176 = .ok (.iadd, 1) := by decide +kernel
theorem dX9_thingLine_177 : decode cX9_thingLine 177 = .ok (.iaload, 1) := by decide +kernel
theorem dX9_thingLine_178 : decode cX9_thingLine 178 = .ok (.iload 4, 2) := by decide +kernel
theorem dX9_thingLine_180 : decode cX9_thingLine 180 = .ok (.if_icmp .ne 12, 3) := by decide +kernel
theorem dX9_thingLine_183 : decode cX9_thingLine 183 = .ok (.aload_n 0, 1) := by decide +kernel
theorem dX9_thingLine_184 : decode cX9_thingLine 184 = .ok (.iconst 3, 1) := by decide +kernel
theorem dX9_thingLine_185 : decode cX9_thingLine 185 = .ok (.aload_n 0, 1) := by decide +kernel
theorem dX9_thingLine_186 : decode cX9_thingLine 186 = .ok (.getfield 63, 3) := by decide +kernel
theorem dX9_thingLine_189 : decode cX9_thingLine 189 = .ok (.invokevirtual 109, 3) := by decide +kernel
theorem dX9_thingLine_192 : decode cX9_thingLine 192 = .ok (.iinc 5 1, 3) := by decide +kernel
theorem dX9_thingLine_195 : decode cX9_thingLine 195 = .ok (.goto (-49), 3) := by decide +kernel
theorem dX9_thingLine_198 : decode cX9_thingLine 198 = .ok (.aload_n 0, 1) := by decide +kernel
theorem dX9_thingLine_199 : decode cX9_thingLine 199 = .ok (.getfield 82, 3) := by decide +kernel
theorem dX9_thingLine_202 : decode cX9_thingLine 202 = .ok (.ifCond .eq 4, 3) := by decide +kernel
theorem dX9_thingLine_205 : decode cX9_thingLine 205 = .ok (.return_, 1) := by decide +kernel
theorem dX9_thingLine_206 : decode cX9_thingLine 206 = .ok (.aload_n 0, 1) := by decide +kernel
theorem dX9_thingLine_207 : decode cX9_thingLine 207 = .ok (.invokevirtual 103, 3) := by decide +kernel
theorem dX9_thingLine_210 : decode cX9_thingLine 210 = .ok (.aload_n 0, 1) := by decide +kernel
theorem dX9_thingLine_211 : decode cX9_thingLine 211 = .ok (.getfield 23, 3) := by decide +kernel
theorem dX9_thingLine_214 : decode cX9_thingLine 214 = .ok (.iload_n 1, 1) := by decide +kernel
theorem dX9_thingLine_215 : decode cX9_thingLine 215 = .ok (.iload_n 2, 1) := by decide +kernel
theorem dX9_thingLine_216 : decode cX9_thingLine 216 = .ok (.iastore, 1) := by decide +kernel
theorem dX9_thingLine_217 : decode cX9_thingLine 217 = .ok (.aload_n 0, 1) := by decide +kernel
theorem dX9_thingLine_218 : decode cX9_thingLine 218 = .ok (.getfield 23, 3) := by decide +kernel
theorem dX9_thingLine_221 : decode cX9_thingLine 221 = .ok (.iload_n 1, 1) := by decide +kernel
theorem dX9_thingLine_222 : decode cX9_thingLine 222 = .ok (.iconst 1, 1) := by decide +kernel
theorem dX9_thingLine_223 : decode cX9_thingLine 223 = .ok (.iadd, 1) := by decide +kernel
theorem dX9_thingLine_224 : decode cX9_thingLine 224 = .ok (.iload 4, 2) := by decide +kernel
theorem dX9_thingLine_226 : decode cX9_thingLine 226 = .ok (.iastore, 1) := by decide +kernel
theorem dX9_thingLine_227 : decode cX9_thingLine 227 = .ok (.aload_n 0, 1) := by decide +kernel
theorem dX9_thingLine_228 : decode cX9_thingLine 228 = .ok (.getfield 23, 3) := by decide +kernel
theorem dX9_thingLine_231 : decode cX9_thingLine 231 = .ok (.iload_n 1, 1) := by decide +kernel
theorem dX9_thingLine_232 : decode cX9_thingLine 232 = .ok (.iconst 2, 1) := by decide +kernel
theorem dX9_thingLine_233 : decode cX9_thingLine 233 = .ok (.iadd, 1) := by decide +kernel
theorem dX9_thingLine_234 : decode cX9_thingLine 234 = .ok (.aload_n 0, 1) := by decide +kernel
theorem dX9_thingLine_235 : decode cX9_thingLine 235 = .ok (.ldc 234, 2) := by decide +kernel
theorem dX9_thingLine_237 : decode cX9_thingLine 237 = .ok (.iconst 1, 1) := by decide +kernel
theorem dX9_thingLine_238 : decode cX9_thingLine 238 = .ok (.bipush 9, 2) := by decide +kernel
theorem dX9_thingLine_240 : decode cX9_thingLine 240 = .ok (.invokevirtual 203, 3) := by decide +kernel
theorem dX9_thingLine_243 : decode cX9_thingLine 243 = .ok (.iastore, 1) := by decide +kernel
theorem dX9_thingLine_244 : decode cX9_thingLine 244 = .ok (.aload_n 0, 1) := by decide +kernel
theorem dX9_thingLine_245 : decode cX9_thingLine 245 = .ok (.getfield 82, 3) := by decide +kernel
theorem dX9_thingLine_248 : decode cX9_thingLine 248 = .ok (.ifCond .ne 13, 3) := by decide +kernel
theorem dX9_thingLine_251 : decode cX9_thingLine 251 = .ok (.aload_n 0, 1) := by decide +kernel
theorem dX9_thingLine_252 : decode cX9_thingLine 252 = .ok (.getfield 23, 3) := by decide +kernel
theorem dX9_thingLine_255 : decode cX9_thingLine 255 = .ok (.iconst 3, 1) := by decide +kernel
theorem dX9_thingLine_256 : decode cX9_thingLine 256 = .ok (.dup2, 1) := by decide +kernel
theorem dX9_thingLine_257 : decode cX9_thingLine 257 = .ok (.iaload, 1) := by decide +kernel
theorem dX9_thingLine_258 : decode cX9_thingLine 258 = .ok (.iconst 1, 1) := by decide +kernel
theorem dX9_thingLine_259 : decode cX9_thingLine 259 = .ok (.iadd, 1) := by decide +kernel
theorem dX9_thingLine_260 : decode cX9_thingLine 260 = .ok (.iastore, 1) := by decide +kernel
theorem dX9_thingLine_261 : decode cX9_thingLine 261 = .ok (.return_, 1) := by decide +kernel
theorem dX9_wantLine_0 : decode cX9_wantLine 0 = .ok (.aload_n 0, 1) := by decide +kernel
theorem dX9_wantLine_1 : decode cX9_wantLine 1 = .ok (.getfield 82, 3) := by decide +kernel
theorem dX9_wantLine_4 : decode cX9_wantLine 4 = .ok (.ifCond .eq 4, 3) := by decide +kernel
theorem dX9_wantLine_7 : decode cX9_wantLine 7 = .ok (.return_, 1) := by decide +kernel
theorem dX9_wantLine_8 : decode cX9_wantLine 8 = .ok (.bipush 83, 2) := by decide +kernel
theorem dX9_wantLine_10 : decode cX9_wantLine 10 = .ok (.iconst 4, 1) := by decide +kernel
theorem dX9_wantLine_11 : decode cX9_wantLine 11 = .ok (.aload_n 0, 1) := by decide +kernel
theorem dX9_wantLine_12 : decode cX9_wantLine 12 = .ok (.getfield 23, 3) := by decide +kernel
theorem dX9_wantLine_15 : decode cX9_wantLine 15 = .ok (.bipush 6, 2) := by decide +kernel
theorem dX9_wantLine_17 : decode cX9_wantLine 17 = .ok (.iaload, 1) := by decide +kernel
theorem dX9_wantLine_18 : decode cX9_wantLine 18 = .ok (.imul, 1) := by decide +kernel
theorem dX9_wantLine_19 : decode cX9_wantLine 19 = .ok (.iadd, 1) := by decide +kernel
theorem dX9_wantLine_20 : decode cX9_wantLine 20 = .ok (.istore_n 1, 1) := by decide +kernel
theorem dX9_wantLine_21 : decode cX9_wantLine 21 = .ok (.aload_n 0, 1) := by decide +kernel
theorem dX9_wantLine_22 : decode cX9_wantLine 22 = .ok (.getfield 23, 3) := by decide +kernel
theorem dX9_wantLine_25 : decode cX9_wantLine 25 = .ok (.iload_n 1, 1) := by decide +kernel
theorem dX9_wantLine_26 : decode cX9_wantLine 26 = .ok (.aload_n 0, 1) := by decide +kernel
theorem dX9_wantLine_27 : decode cX9_wantLine 27 = .ok (.iconst 4, 1) := by decide +kernel
theorem dX9_wantLine_28 : decode cX9_wantLine 28 = .ok (.bipush 10, 2) := by decide +kernel
theorem dX9_wantLine_30 : decode cX9_wantLine 30 = .ok (.invokevirtual 139, 3) := by decide +kernel
theorem dX9_wantLine_33 : decode cX9_wantLine 33 = .ok (.iastore, 1) := by decide +kernel
theorem dX9_wantLine_34 : decode cX9_wantLine 34 = .ok (.aload_n 0, 1) := by decide +kernel
theorem dX9_wantLine_35 : decode cX9_wantLine 35 = .ok (.ldc 232, 2) := by decide +kernel
theorem dX9_wantLine_37 : decode cX9_wantLine 37 = .ok (.invokevirtual 146, 3) := by decide +kernel
theorem dX9_wantLine_40 : decode cX9_wantLine 40 = .ok (.aload_n 0, 1) := by decide +kernel
theorem dX9_wantLine_41 : decode cX9_wantLine 41 = .ok (.invokevirtual 218, 3) := by decide +kernel
theorem dX9_wantLine_44 : decode cX9_wantLine 44 = .ok (.istore_n 2, 1) := by decide +kernel
theorem dX9_wantLine_45 : decode cX9_wantLine 45 = .ok (.aload_n 0, 1) := by decide +kernel
theorem dX9_wantLine_46 : decode cX9_wantLine 46 = .ok (.ldc 233, 2) := by decide +kernel
theorem dX9_wantLine_48 : decode cX9_wantLine 48 = .ok (.invokevirtual 146, 3) := by decide +kernel
theorem dX9_wantLine_51 : decode cX9_wantLine 51 = .ok (.aload_n 0, 1) := by decide +kernel
theorem dX9_wantLine_52 : decode cX9_wantLine 52 = .ok (.getfield 82, 3) := by decide +kernel
theorem dX9_wantLine_55 : decode cX9_wantLine 55 = .ok (.ifCond .eq 4, 3) := by decide +kernel
theorem dX9_wantLine_58 : decode cX9_wantLine 58 = .ok (.return_, 1) := by decide +kernel
theorem dX9_wantLine_59 : decode cX9_wantLine 59 = .ok (.aload_n 0, 1) := by decide +kernel
theorem dX9_wantLine_60 : decode cX9_wantLine 60 = .ok (.getfield 23, 3) := by decide +kernel
theorem dX9_wantLine_63 : decode cX9_wantLine 63 = .ok (.iload_n 1, 1) := by decide +kernel
theorem dX9_wantLine_64 : decode cX9_wantLine 64 = .ok (.iconst 1, 1) := by decide +kernel
theorem dX9_wantLine_65 : decode cX9_wantLine 65 = .ok (.iadd, 1) := by decide +kernel
theorem dX9_wantLine_66 : decode cX9_wantLine 66 = .ok (.aload_n 0, 1) := by decide +kernel
theorem dX9_wantLine_67 : decode cX9_wantLine 67 = .ok (.iload_n 2, 1) := by decide +kernel
theorem dX9_wantLine_68 : decode cX9_wantLine 68 = .ok (.invokevirtual 221, 3) := by decide +kernel
theorem dX9_wantLine_71 : decode cX9_wantLine 71 = .ok (.iastore, 1) := by decide +kernel
theorem dX9_wantLine_72 : decode cX9_wantLine 72 = .ok (.aload_n 0, 1) := by decide +kernel
theorem dX9_wantLine_73 : decode cX9_wantLine 73 = .ok (.getfield 82, 3) := by decide +kernel
theorem dX9_wantLine_76 : decode cX9_wantLine 76 = .ok (.ifCond .eq 4, 3) := by decide +kernel
theorem dX9_wantLine_79 : decode cX9_wantLine 79 = .ok (.return_, 1) := by decide +kernel
theorem dX9_wantLine_80 : decode cX9_wantLine 80 = .ok (.aload_n 0, 1) := by decide +kernel
theorem dX9_wantLine_81 : decode cX9_wantLine 81 = .ok (.invokevirtual 103, 3) := by decide +kernel
theorem dX9_wantLine_84 : decode cX9_wantLine 84 = .ok (.aload_n 0, 1) := by decide +kernel
theorem dX9_wantLine_85 : decode cX9_wantLine 85 = .ok (.getfield 23, 3) := by decide +kernel
theorem dX9_wantLine_88 : decode cX9_wantLine 88 = .ok (.iload_n 1, 1) := by decide +kernel
theorem dX9_wantLine_89 : decode cX9_wantLine 89 = .ok (.iconst 2, 1) := by decide +kernel
theorem dX9_wantLine_90 : decode cX9_wantLine 90 = .ok (.iadd, 1) := by decide +kernel
theorem dX9_wantLine_91 : decode cX9_wantLine 91 = .ok (.aload_n 0, 1) := by decide +kernel
theorem dX9_wantLine_92 : decode cX9_wantLine 92 = .ok (.ldc 235, 2) := by decide +kernel
theorem dX9_wantLine_94 : decode cX9_wantLine 94 = .ok (.iconst 1, 1) := by decide +kernel
theorem dX9_wantLine_95 : decode cX9_wantLine 95 = .ok (.bipush 60, 2) := by decide +kernel
theorem dX9_wantLine_97 : decode cX9_wantLine 97 = .ok (.invokevirtual 203, 3) := by decide +kernel
theorem dX9_wantLine_100 : decode cX9_wantLine 100 = .ok (.iastore, 1) := by decide +kernel
theorem dX9_wantLine_101 : decode cX9_wantLine 101 = .ok (.aload_n 0, 1) := by decide +kernel
theorem dX9_wantLine_102 : decode cX9_wantLine 102 = .ok (.getfield 23, 3) := by decide +kernel
theorem dX9_wantLine_105 : decode cX9_wantLine 105 = .ok (.iload_n 1, 1) := by decide +kernel
theorem dX9_wantLine_106 : decode cX9_wantLine 106 = .ok (.iconst 3, 1) := by decide +kernel
theorem dX9_wantLine_107 : decode cX9_wantLine 107 = .ok (.iadd, 1) := by decide +kernel
theorem dX9_wantLine_108 : decode cX9_wantLine 108 = .ok (.aload_n 0, 1) := by decide +kernel
theorem dX9_wantLine_109 : decode cX9_wantLine 109 = .ok (.ldc 237, 2) := by decide +kernel
theorem dX9_wantLine_111 : decode cX9_wantLine 111 = .ok (.iconst 1, 1) := by decide +kernel
theorem dX9_wantLine_112 : decode cX9_wantLine 112 = .ok (.bipush 99, 2) := by decide +kernel
theorem dX9_wantLine_114 : decode cX9_wantLine 114 = .ok (.invokevirtual 203, 3) := by decide +kernel
theorem dX9_wantLine_117 : decode cX9_wantLine 117 = .ok (.iastore, 1) := by decide +kernel
theorem dX9_wantLine_118 : decode cX9_wantLine 118 = .ok (.aload_n 0, 1) := by decide +kernel
theorem dX9_wantLine_119 : decode cX9_wantLine 119 = .ok (.getfield 82, 3) := by decide +kernel
theorem dX9_wantLine_122 : decode cX9_wantLine 122 = .ok (.ifCond .ne 14, 3) := by decide +kernel
theorem dX9_wantLine_125 : decode cX9_wantLine 125 = .ok (.aload_n 0, 1) := by decide +kernel
theorem dX9_wantLine_126 : decode cX9_wantLine 126 = .ok (.getfield 23, 3) := by decide +kernel
theorem dX9_wantLine_129 : decode cX9_wantLine 129 = .ok (.bipush 6, 2) := by decide +kernel
theorem dX9_wantLine_131 : decode cX9_wantLine 131 = .ok (.dup2, 1) := by decide +kernel
theorem dX9_wantLine_132 : decode cX9_wantLine 132 = .ok (.iaload, 1) := by decide +kernel
theorem dX9_wantLine_133 : decode cX9_wantLine 133 = .ok (.iconst 1, 1) := by decide +kernel
theorem dX9_wantLine_134 : decode cX9_wantLine 134 = .ok (.iadd, 1) := by decide +kernel
theorem dX9_wantLine_135 : decode cX9_wantLine 135 = .ok (.iastore, 1) := by decide +kernel
theorem dX9_wantLine_136 : decode cX9_wantLine 136 = .ok (.return_, 1) := by decide +kernel
theorem dX9_boxLine_0 : decode cX9_boxLine 0 = .ok (.aload_n 0, 1) := by decide +kernel
theorem dX9_boxLine_1 : decode cX9_boxLine 1 = .ok (.getfield 82, 3) := by decide +kernel
theorem dX9_boxLine_4 : decode cX9_boxLine 4 = .ok (.ifCond .eq 4, 3) := by decide +kernel
theorem dX9_boxLine_7 : decode cX9_boxLine 7 = .ok (.return_, 1) := by decide +kernel
theorem dX9_boxLine_8 : decode cX9_boxLine 8 = .ok (.bipush 107, 2) := by decide +kernel
theorem dX9_boxLine_10 : decode cX9_boxLine 10 = .ok (.iconst 3, 1) := by decide +kernel
theorem dX9_boxLine_11 : decode cX9_boxLine 11 = .ok (.aload_n 0, 1) := by decide +kernel
theorem dX9_boxLine_12 : decode cX9_boxLine 12 = .ok (.getfield 23, 3) := by decide +kernel
theorem dX9_boxLine_15 : decode cX9_boxLine 15 = .ok (.bipush 7, 2) := by decide +kernel
theorem dX9_boxLine_17 : decode cX9_boxLine 17 = .ok (.iaload, 1) := by decide +kernel
theorem dX9_boxLine_18 : decode cX9_boxLine 18 = .ok (.imul, 1) := by decide +kernel
theorem dX9_boxLine_19 : decode cX9_boxLine 19 = .ok (.iadd, 1) := by decide +kernel
theorem dX9_boxLine_20 : decode cX9_boxLine 20 = .ok (.istore_n 2, 1) := by decide +kernel
theorem dX9_boxLine_21 : decode cX9_boxLine 21 = .ok (.aload_n 0, 1) := by decide +kernel
theorem dX9_boxLine_22 : decode cX9_boxLine 22 = .ok (.iconst 0, 1) := by decide +kernel
theorem dX9_boxLine_23 : decode cX9_boxLine 23 = .ok (.bipush 99, 2) := by decide +kernel
theorem dX9_boxLine_25 : decode cX9_boxLine 25 = .ok (.invokevirtual 143, 3) := by decide +kernel
theorem dX9_boxLine_28 : decode cX9_boxLine 28 = .ok (.istore_n 3, 1) := by decide +kernel
theorem dX9_boxLine_29 : decode cX9_boxLine 29 = .ok (.iconst 0, 1) := by decide +kernel
theorem dX9_boxLine_30 : decode cX9_boxLine 30 = .ok (.istore 4, 2) := by decide +kernel
theorem dX9_boxLine_32 : decode cX9_boxLine 32 = .ok (.iload 4, 2) := by decide +kernel
theorem dX9_boxLine_34 : decode cX9_boxLine 34 = .ok (.aload_n 0, 1) := by decide +kernel
theorem dX9_boxLine_35 : decode cX9_boxLine 35 = .ok (.getfield 23, 3) := by decide +kernel
theorem dX9_boxLine_38 : decode cX9_boxLine 38 = .ok (.bipush 7, 2) := by decide +kernel
theorem dX9_boxLine_40 : decode cX9_boxLine 40 = .ok (.iaload, 1) := by decide +kernel
theorem dX9_boxLine_41 : decode cX9_boxLine 41 = .ok (.if_icmp .ge 41, 3) := by decide +kernel
theorem dX9_boxLine_44 : decode cX9_boxLine 44 = .ok (.aload_n 0, 1) := by decide +kernel
theorem dX9_boxLine_45 : decode cX9_boxLine 45 = .ok (.getfield 82, 3) := by decide +kernel
theorem dX9_boxLine_48 : decode cX9_boxLine 48 = .ok (.ifCond .ne 28, 3) := by decide +kernel
theorem dX9_boxLine_51 : decode cX9_boxLine 51 = .ok (.aload_n 0, 1) := by decide +kernel
theorem dX9_boxLine_52 : decode cX9_boxLine 52 = .ok (.getfield 23, 3) := by decide +kernel
theorem dX9_boxLine_55 : decode cX9_boxLine 55 = .ok (.bipush 107, 2) := by decide +kernel
theorem dX9_boxLine_57 : decode cX9_boxLine 57 = .ok (.iconst 3, 1) := by decide +kernel
theorem dX9_boxLine_58 : decode cX9_boxLine 58 = .ok (.iload 4, 2) := by decide +kernel
theorem dX9_boxLine_60 : decode cX9_boxLine 60 = .ok (.imul, 1) := by decide +kernel
theorem dX9_boxLine_61 : decode cX9_boxLine 61 = .ok (.iadd, 1) := by decide +kernel
theorem dX9_boxLine_62 : decode cX9_boxLine 62 = .ok (.iaload, 1) := by decide +kernel
theorem dX9_boxLine_63 : decode cX9_boxLine 63 = .ok (.iload_n 3, 1) := by decide +kernel
theorem dX9_boxLine_64 : decode cX9_boxLine 64 = .ok (.if_icmp .ne 12, 3) := by decide +kernel
theorem dX9_boxLine_67 : decode cX9_boxLine 67 = .ok (.aload_n 0, 1) := by decide +kernel
theorem dX9_boxLine_68 : decode cX9_boxLine 68 = .ok (.iconst 3, 1) := by decide +kernel
theorem dX9_boxLine_69 : decode cX9_boxLine 69 = .ok (.aload_n 0, 1) := by decide +kernel
theorem dX9_boxLine_70 : decode cX9_boxLine 70 = .ok (.getfield 63, 3) := by decide +kernel
theorem dX9_boxLine_73 : decode cX9_boxLine 73 = .ok (.invokevirtual 109, 3) := by decide +kernel
theorem dX9_boxLine_76 : decode cX9_boxLine 76 = .ok (.iinc 4 1, 3) := by decide +kernel
theorem dX9_boxLine_79 : decode cX9_boxLine 79 = .ok (.goto (-47), 3) := by decide +kernel
theorem dX9_boxLine_82 : decode cX9_boxLine 82 = .ok (.aload_n 0, 1) := by decide +kernel
theorem dX9_boxLine_83 : decode cX9_boxLine 83 = .ok (.getfield 82, 3) := by decide +kernel
theorem dX9_boxLine_86 : decode cX9_boxLine 86 = .ok (.ifCond .eq 4, 3) := by decide +kernel
theorem dX9_boxLine_89 : decode cX9_boxLine 89 = .ok (.return_, 1) := by decide +kernel
theorem dX9_boxLine_90 : decode cX9_boxLine 90 = .ok (.aload_n 0, 1) := by decide +kernel
theorem dX9_boxLine_91 : decode cX9_boxLine 91 = .ok (.invokevirtual 103, 3) := by decide +kernel
theorem dX9_boxLine_94 : decode cX9_boxLine 94 = .ok (.aload_n 0, 1) := by decide +kernel
theorem dX9_boxLine_95 : decode cX9_boxLine 95 = .ok (.getfield 23, 3) := by decide +kernel
theorem dX9_boxLine_98 : decode cX9_boxLine 98 = .ok (.iload_n 2, 1) := by decide +kernel
theorem dX9_boxLine_99 : decode cX9_boxLine 99 = .ok (.iload_n 3, 1) := by decide +kernel
theorem dX9_boxLine_100 : decode cX9_boxLine 100 = .ok (.iastore, 1) := by decide +kernel
theorem dX9_boxLine_101 : decode cX9_boxLine 101 = .ok (.aload_n 0, 1) := by decide +kernel
theorem dX9_boxLine_102 : decode cX9_boxLine 102 = .ok (.getfield 23, 3) := by decide +kernel
theorem dX9_boxLine_105 : decode cX9_boxLine 105 = .ok (.iload_n 2, 1) := by decide +kernel
theorem dX9_boxLine_106 : decode cX9_boxLine 106 = .ok (.iconst 1, 1) := by decide +kernel
theorem dX9_boxLine_107 : decode cX9_boxLine 107 = .ok (.iadd, 1) := by decide +kernel
theorem dX9_boxLine_108 : decode cX9_boxLine 108 = .ok (.aload_n 0, 1) := by decide +kernel
theorem dX9_boxLine_109 : decode cX9_boxLine 109 = .ok (.ldc 233, 2) := by decide +kernel
theorem dX9_boxLine_111 : decode cX9_boxLine 111 = .ok (.iconst 0, 1) := by decide +kernel
theorem dX9_boxLine_112 : decode cX9_boxLine 112 = .ok (.bipush 11, 2) := by decide +kernel
theorem dX9_boxLine_114 : decode cX9_boxLine 114 = .ok (.invokevirtual 203, 3) := by decide +kernel
theorem dX9_boxLine_117 : decode cX9_boxLine 117 = .ok (.iastore, 1) := by decide +kernel
theorem dX9_boxLine_118 : decode cX9_boxLine 118 = .ok (.aload_n 0, 1) := by decide +kernel
theorem dX9_boxLine_119 : decode cX9_boxLine 119 = .ok (.getfield 23, 3) := by decide +kernel
theorem dX9_boxLine_122 : decode cX9_boxLine 122 = .ok (.iload_n 2, 1) := by decide +kernel
theorem dX9_boxLine_123 : decode cX9_boxLine 123 = .ok (.iconst 2, 1) := by decide +kernel
theorem dX9_boxLine_124 : decode cX9_boxLine 124 = .ok (.iadd, 1) := by decide +kernel
theorem dX9_boxLine_125 : decode cX9_boxLine 125 = .ok (.iload_n 1, 1) := by decide +kernel
theorem dX9_boxLine_126 : decode cX9_boxLine 126 = .ok (.iastore, 1) := by decide +kernel
theorem dX9_boxLine_127 : decode cX9_boxLine 127 = .ok (.aload_n 0, 1) := by decide +kernel
theorem dX9_boxLine_128 : decode cX9_boxLine 128 = .ok (.getfield 82, 3) := by decide +kernel
theorem dX9_boxLine_131 : decode cX9_boxLine 131 = .ok (.ifCond .ne 14, 3) := by decide +kernel
theorem dX9_boxLine_134 : decode cX9_boxLine 134 = .ok (.aload_n 0, 1) := by decide +kernel
theorem dX9_boxLine_135 : decode cX9_boxLine 135 = .ok (.getfield 23, 3) := by decide +kernel
theorem dX9_boxLine_138 : decode cX9_boxLine 138 = .ok (.bipush 7, 2) := by decide +kernel
theorem dX9_boxLine_140 : decode cX9_boxLine 140 = .ok (.dup2, 1) := by decide +kernel
theorem dX9_boxLine_141 : decode cX9_boxLine 141 = .ok (.iaload, 1) := by decide +kernel
theorem dX9_boxLine_142 : decode cX9_boxLine 142 = .ok (.iconst 1, 1) := by decide +kernel
theorem dX9_boxLine_143 : decode cX9_boxLine 143 = .ok (.iadd, 1) := by decide +kernel
theorem dX9_boxLine_144 : decode cX9_boxLine 144 = .ok (.iastore, 1) := by decide +kernel
theorem dX9_boxLine_145 : decode cX9_boxLine 145 = .ok (.return_, 1) := by decide +kernel
theorem dX9_fault_0 : decode cX9_fault 0 = .ok (.aload_n 0, 1) := by decide +kernel
theorem dX9_fault_1 : decode cX9_fault 1 = .ok (.iconst 0, 1) := by decide +kernel
theorem dX9_fault_2 : decode cX9_fault 2 = .ok (.putfield 44, 3) := by decide +kernel
theorem dX9_fault_5 : decode cX9_fault 5 = .ok (.aload_n 0, 1) := by decide +kernel
theorem dX9_fault_6 : decode cX9_fault 6 = .ok (.getfield 86, 3) := by decide +kernel
theorem dX9_fault_9 : decode cX9_fault 9 = .ok (.ireturn, 1) := by decide +kernel
theorem dX9_where_0 : decode cX9_where 0 = .ok (.aload_n 0, 1) := by decide +kernel
theorem dX9_where_1 : decode cX9_where 1 = .ok (.iconst 0, 1) := by decide +kernel
theorem dX9_where_2 : decode cX9_where 2 = .ok (.putfield 44, 3) := by decide +kernel
theorem dX9_where_5 : decode cX9_where 5 = .ok (.aload_n 0, 1) := by decide +kernel
theorem dX9_where_6 : decode cX9_where 6 = .ok (.getfield 47, 3) := by decide +kernel
theorem dX9_where_9 : decode cX9_where 9 = .ok (.iconst 4, 1) := by decide +kernel
theorem dX9_where_10 : decode cX9_where 10 = .ok (.if_icmp .ne 10, 3) := by decide +kernel
theorem dX9_where_13 : decode cX9_where 13 = .ok (.aload_n 0, 1) := by decide +kernel
theorem dX9_where_14 : decode cX9_where 14 = .ok (.getfield 13, 3) := by decide +kernel
theorem dX9_where_17 : decode cX9_where 17 = .ok (.goto 4, 3) := by decide +kernel
theorem dX9_where_20 : decode cX9_where 20 = .ok (.iconst (-1), 1) := by decide +kernel
theorem dX9_where_21 : decode cX9_where 21 = .ok (.ireturn, 1) := by decide +kernel
theorem dX9_isRing_0 : decode cX9_isRing 0 = .ok (.aload_n 0, 1) := by decide +kernel
theorem dX9_isRing_1 : decode cX9_isRing 1 = .ok (.getfield 166, 3) := by decide +kernel
theorem dX9_isRing_4 : decode cX9_isRing 4 = .ok (.ifCond .eq 23, 3) := by decide +kernel
theorem dX9_isRing_7 : decode cX9_isRing 7 = .ok (.iload_n 1, 1) := by decide +kernel
theorem dX9_isRing_8 : decode cX9_isRing 8 = .ok (.iconst 0, 1) := by decide +kernel
theorem dX9_isRing_9 : decode cX9_isRing 9 = .ok (.aload_n 0, 1) := by decide +kernel
theorem dX9_isRing_10 : decode cX9_isRing 10 = .ok (.getfield 20, 3) := by decide +kernel
theorem dX9_isRing_13 : decode cX9_isRing 13 = .ok (.iconst 2, 1) := by decide +kernel
theorem dX9_isRing_14 : decode cX9_isRing 14 = .ok (.iaload, 1) := by decide +kernel
theorem dX9_isRing_15 : decode cX9_isRing 15 = .ok (.iconst 1, 1) := by decide +kernel
theorem dX9_isRing_16 : decode cX9_isRing 16 = .ok (.isub, 1) := by decide +kernel
theorem dX9_isRing_17 : decode cX9_isRing 17 = .ok (.invokestatic 135, 3) := by decide +kernel
theorem dX9_isRing_20 : decode cX9_isRing 20 = .ok (.ifCond .eq 7, 3) := by decide +kernel
theorem dX9_isRing_23 : decode cX9_isRing 23 = .ok (.iconst 1, 1) := by decide +kernel
theorem dX9_isRing_24 : decode cX9_isRing 24 = .ok (.goto 4, 3) := by decide +kernel
theorem dX9_isRing_27 : decode cX9_isRing 27 = .ok (.iconst 0, 1) := by decide +kernel
theorem dX9_isRing_28 : decode cX9_isRing 28 = .ok (.ireturn, 1) := by decide +kernel
theorem dX9_isThing_0 : decode cX9_isThing 0 = .ok (.aload_n 0, 1) := by decide +kernel
theorem dX9_isThing_1 : decode cX9_isThing 1 = .ok (.getfield 166, 3) := by decide +kernel
theorem dX9_isThing_4 : decode cX9_isThing 4 = .ok (.ifCond .eq 23, 3) := by decide +kernel
theorem dX9_isThing_7 : decode cX9_isThing 7 = .ok (.iload_n 1, 1) := by decide +kernel
theorem dX9_isThing_8 : decode cX9_isThing 8 = .ok (.iconst 0, 1) := by decide +kernel
theorem dX9_isThing_9 : decode cX9_isThing 9 = .ok (.aload_n 0, 1) := by decide +kernel
theorem dX9_isThing_10 : decode cX9_isThing 10 = .ok (.getfield 20, 3) := by decide +kernel
theorem dX9_isThing_13 : decode cX9_isThing 13 = .ok (.iconst 3, 1) := by decide +kernel
theorem dX9_isThing_14 : decode cX9_isThing 14 = .ok (.iaload, 1) := by decide +kernel
theorem dX9_isThing_15 : decode cX9_isThing 15 = .ok (.iconst 1, 1) := by decide +kernel
theorem dX9_isThing_16 : decode cX9_isThing 16 = .ok (.isub, 1) := by decide +kernel
theorem dX9_isThing_17 : decode cX9_isThing 17 = .ok (.invokestatic 135, 3) := by decide +kernel
theorem dX9_isThing_20 : decode cX9_isThing 20 = .ok (.ifCond .eq 7, 3) := by decide +kernel
theorem dX9_isThing_23 : decode cX9_isThing 23 = .ok (.iconst 1, 1) := by decide +kernel
theorem dX9_isThing_24 : decode cX9_isThing 24 = .ok (.goto 4, 3) := by decide +kernel
theorem dX9_isThing_27 : decode cX9_isThing 27 = .ok (.iconst 0, 1) := by decide +kernel
theorem dX9_isThing_28 : decode cX9_isThing 28 = .ok (.ireturn, 1) := by decide +kernel
theorem dX9_isPlace_0 : decode cX9_isPlace 0 = .ok (.aload_n 0, 1) := by decide +kernel
theorem dX9_isPlace_1 : decode cX9_isPlace 1 = .ok (.iload_n 1, 1) := by decide +kernel
theorem dX9_isPlace_2 : decode cX9_isPlace 2 = .ok (.invokevirtual 239, 3) := by decide +kernel
theorem dX9_isPlace_5 : decode cX9_isPlace 5 = .ok (.ifCond .eq 30, 3) := by decide +kernel
theorem dX9_isPlace_8 : decode cX9_isPlace 8 = .ok (.iload_n 2, 1) := by decide +kernel
theorem dX9_isPlace_9 : decode cX9_isPlace 9 = .ok (.iconst 0, 1) := by decide +kernel
theorem dX9_isPlace_10 : decode cX9_isPlace 10 = .ok (.aload_n 0, 1) := by decide +kernel
theorem dX9_isPlace_11 : decode cX9_isPlace 11 = .ok (.getfield 20, 3) := by decide +kernel
theorem dX9_isPlace_14 : decode cX9_isPlace 14 = .ok (.bipush 8, 2) := by decide +kernel
theorem dX9_isPlace_16 : decode cX9_isPlace 16 = .ok (.iconst 2, 1) := by decide +kernel
theorem dX9_isPlace_17 : decode cX9_isPlace 17 = .ok (.iload_n 1, 1) := by decide +kernel
theorem dX9_isPlace_18 : decode cX9_isPlace 18 = .ok (.imul, 1) := by decide +kernel
theorem dX9_isPlace_19 : decode cX9_isPlace 19 = .ok (.iadd, 1) := by decide +kernel
theorem dX9_isPlace_20 : decode cX9_isPlace 20 = .ok (.iconst 1, 1) := by decide +kernel
theorem dX9_isPlace_21 : decode cX9_isPlace 21 = .ok (.iadd, 1) := by decide +kernel
theorem dX9_isPlace_22 : decode cX9_isPlace 22 = .ok (.iaload, 1) := by decide +kernel
theorem dX9_isPlace_23 : decode cX9_isPlace 23 = .ok (.iconst 1, 1) := by decide +kernel
theorem dX9_isPlace_24 : decode cX9_isPlace 24 = .ok (.isub, 1) := by decide +kernel
theorem dX9_isPlace_25 : decode cX9_isPlace 25 = .ok (.invokestatic 135, 3) := by decide +kernel
theorem dX9_isPlace_28 : decode cX9_isPlace 28 = .ok (.ifCond .eq 7, 3) := by decide +kernel
theorem dX9_isPlace_31 : decode cX9_isPlace 31 = .ok (.iconst 1, 1) := by decide +kernel
theorem dX9_isPlace_32 : decode cX9_isPlace 32 = .ok (.goto 4, 3) := by decide +kernel
theorem dX9_isPlace_35 : decode cX9_isPlace 35 = .ok (.iconst 0, 1) := by decide +kernel
theorem dX9_isPlace_36 : decode cX9_isPlace 36 = .ok (.ireturn, 1) := by decide +kernel
theorem dX9_sortOf_0 : decode cX9_sortOf 0 = .ok (.aload_n 0, 1) := by decide +kernel
theorem dX9_sortOf_1 : decode cX9_sortOf 1 = .ok (.getfield 20, 3) := by decide +kernel
theorem dX9_sortOf_4 : decode cX9_sortOf 4 = .ok (.bipush 8, 2) := by decide +kernel
theorem dX9_sortOf_6 : decode cX9_sortOf 6 = .ok (.iconst 2, 1) := by decide +kernel
theorem dX9_sortOf_7 : decode cX9_sortOf 7 = .ok (.iload_n 1, 1) := by decide +kernel
theorem dX9_sortOf_8 : decode cX9_sortOf 8 = .ok (.imul, 1) := by decide +kernel
theorem dX9_sortOf_9 : decode cX9_sortOf 9 = .ok (.iadd, 1) := by decide +kernel
theorem dX9_sortOf_10 : decode cX9_sortOf 10 = .ok (.iaload, 1) := by decide +kernel
theorem dX9_sortOf_11 : decode cX9_sortOf 11 = .ok (.ireturn, 1) := by decide +kernel
theorem dX9_placesOf_0 : decode cX9_placesOf 0 = .ok (.aload_n 0, 1) := by decide +kernel
theorem dX9_placesOf_1 : decode cX9_placesOf 1 = .ok (.getfield 20, 3) := by decide +kernel
theorem dX9_placesOf_4 : decode cX9_placesOf 4 = .ok (.bipush 8, 2) := by decide +kernel
theorem dX9_placesOf_6 : decode cX9_placesOf 6 = .ok (.iconst 2, 1) := by decide +kernel
theorem dX9_placesOf_7 : decode cX9_placesOf 7 = .ok (.iload_n 1, 1) := by decide +kernel
theorem dX9_placesOf_8 : decode cX9_placesOf 8 = .ok (.imul, 1) := by decide +kernel
theorem dX9_placesOf_9 : decode cX9_placesOf 9 = .ok (.iadd, 1) := by decide +kernel
theorem dX9_placesOf_10 : decode cX9_placesOf 10 = .ok (.iconst 1, 1) := by decide +kernel
theorem dX9_placesOf_11 : decode cX9_placesOf 11 = .ok (.iadd, 1) := by decide +kernel
theorem dX9_placesOf_12 : decode cX9_placesOf 12 = .ok (.iaload, 1) := by decide +kernel
theorem dX9_placesOf_13 : decode cX9_placesOf 13 = .ok (.ireturn, 1) := by decide +kernel
theorem dX9_kindOf_0 : decode cX9_kindOf 0 = .ok (.aload_n 0, 1) := by decide +kernel
theorem dX9_kindOf_1 : decode cX9_kindOf 1 = .ok (.getfield 20, 3) := by decide +kernel
theorem dX9_kindOf_4 : decode cX9_kindOf 4 = .ok (.bipush 62, 2) := by decide +kernel
theorem dX9_kindOf_6 : decode cX9_kindOf 6 = .ok (.iconst 3, 1) := by decide +kernel
theorem dX9_kindOf_7 : decode cX9_kindOf 7 = .ok (.iload_n 1, 1) := by decide +kernel
theorem dX9_kindOf_8 : decode cX9_kindOf 8 = .ok (.imul, 1) := by decide +kernel
theorem dX9_kindOf_9 : decode cX9_kindOf 9 = .ok (.iadd, 1) := by decide +kernel
theorem dX9_kindOf_10 : decode cX9_kindOf 10 = .ok (.iaload, 1) := by decide +kernel
theorem dX9_kindOf_11 : decode cX9_kindOf 11 = .ok (.ireturn, 1) := by decide +kernel
theorem dX9_aheadOf_0 : decode cX9_aheadOf 0 = .ok (.iload_n 1, 1) := by decide +kernel
theorem dX9_aheadOf_1 : decode cX9_aheadOf 1 = .ok (.bipush 9, 2) := by decide +kernel
theorem dX9_aheadOf_3 : decode cX9_aheadOf 3 = .ok (.idiv, 1) := by decide +kernel
theorem dX9_aheadOf_4 : decode cX9_aheadOf 4 = .ok (.istore_n 2, 1) := by decide +kernel
theorem dX9_aheadOf_5 : decode cX9_aheadOf 5 = .ok (.aload_n 0, 1) := by decide +kernel
theorem dX9_aheadOf_6 : decode cX9_aheadOf 6 = .ok (.iload_n 2, 1) := by decide +kernel
theorem dX9_aheadOf_7 : decode cX9_aheadOf 7 = .ok (.invokevirtual 242, 3) := by decide +kernel
theorem dX9_aheadOf_10 : decode cX9_aheadOf 10 = .ok (.istore_n 3, 1) := by decide +kernel
theorem dX9_aheadOf_11 : decode cX9_aheadOf 11 = .ok (.iload_n 1, 1) := by decide +kernel
theorem dX9_aheadOf_12 : decode cX9_aheadOf 12 = .ok (.bipush 9, 2) := by decide +kernel
theorem dX9_aheadOf_14 : decode cX9_aheadOf 14 = .ok (.irem, 1) := by decide +kernel
theorem dX9_aheadOf_15 : decode cX9_aheadOf 15 = .ok (.istore 4, 2) := by decide +kernel
theorem dX9_aheadOf_17 : decode cX9_aheadOf 17 = .ok (.bipush 9, 2) := by decide +kernel
theorem dX9_aheadOf_19 : decode cX9_aheadOf 19 = .ok (.iload_n 2, 1) := by decide +kernel
theorem dX9_aheadOf_20 : decode cX9_aheadOf 20 = .ok (.imul, 1) := by decide +kernel
theorem dX9_aheadOf_21 : decode cX9_aheadOf 21 = .ok (.aload_n 0, 1) := by decide +kernel
theorem dX9_aheadOf_22 : decode cX9_aheadOf 22 = .ok (.iload_n 2, 1) := by decide +kernel
theorem dX9_aheadOf_23 : decode cX9_aheadOf 23 = .ok (.invokevirtual 245, 3) := by decide +kernel
theorem dX9_aheadOf_26 : decode cX9_aheadOf 26 = .ok (.iconst 2, 1) := by decide +kernel
theorem dX9_aheadOf_27 : decode cX9_aheadOf 27 = .ok (.if_icmp .ne 14, 3) := by decide +kernel
theorem dX9_aheadOf_30 : decode cX9_aheadOf 30 = .ok (.iload 4, 2) := by decide +kernel
theorem dX9_aheadOf_32 : decode cX9_aheadOf 32 = .ok (.iload_n 3, 1) := by decide +kernel
theorem dX9_aheadOf_33 : decode cX9_aheadOf 33 = .ok (.iadd, 1) := by decide +kernel
theorem dX9_aheadOf_34 : decode cX9_aheadOf 34 = .ok (.iconst 1, 1) := by decide +kernel
theorem dX9_aheadOf_35 : decode cX9_aheadOf 35 = .ok (.isub, 1) := by decide +kernel
theorem dX9_aheadOf_36 : decode cX9_aheadOf 36 = .ok (.iload_n 3, 1) := by decide +kernel
theorem dX9_aheadOf_37 : decode cX9_aheadOf 37 = .ok (.irem, 1) := by decide +kernel
theorem dX9_aheadOf_38 : decode cX9_aheadOf 38 = .ok (.goto 9, 3) := by decide +kernel
theorem dX9_aheadOf_41 : decode cX9_aheadOf 41 = .ok (.iload 4, 2) := by decide +kernel
theorem dX9_aheadOf_43 : decode cX9_aheadOf 43 = .ok (.iconst 1, 1) := by decide +kernel
theorem dX9_aheadOf_44 : decode cX9_aheadOf 44 = .ok (.iadd, 1) := by decide +kernel
theorem dX9_aheadOf_45 : decode cX9_aheadOf 45 = .ok (.iload_n 3, 1) := by decide +kernel
theorem dX9_aheadOf_46 : decode cX9_aheadOf 46 = .ok (.irem, 1) := by decide +kernel
theorem dX9_aheadOf_47 : decode cX9_aheadOf 47 = .ok (.iadd, 1) := by decide +kernel
theorem dX9_aheadOf_48 : decode cX9_aheadOf 48 = .ok (.ireturn, 1) := by decide +kernel
theorem dX9_thingAt_0 : decode cX9_thingAt 0 = .ok (.iconst 0, 1) := by decide +kernel
theorem dX9_thingAt_1 : decode cX9_thingAt 1 = .ok (.istore_n 3, 1) := by decide +kernel
theorem dX9_thingAt_2 : decode cX9_thingAt 2 = .ok (.iload_n 3, 1) := by decide +kernel
theorem dX9_thingAt_3 : decode cX9_thingAt 3 = .ok (.aload_n 0, 1) := by decide +kernel
theorem dX9_thingAt_4 : decode cX9_thingAt 4 = .ok (.getfield 20, 3) := by decide +kernel
theorem dX9_thingAt_7 : decode cX9_thingAt 7 = .ok (.iconst 3, 1) := by decide +kernel
theorem dX9_thingAt_8 : decode cX9_thingAt 8 = .ok (.iaload, 1) := by decide +kernel
theorem dX9_thingAt_9 : decode cX9_thingAt 9 = .ok (.if_icmp .ge 18, 3) := by decide +kernel
theorem dX9_thingAt_12 : decode cX9_thingAt 12 = .ok (.aload_n 1, 1) := by decide +kernel
theorem dX9_thingAt_13 : decode cX9_thingAt 13 = .ok (.iload_n 3, 1) := by decide +kernel
theorem dX9_thingAt_14 : decode cX9_thingAt 14 = .ok (.iaload, 1) := by decide +kernel
theorem dX9_thingAt_15 : decode cX9_thingAt 15 = .ok (.iload_n 2, 1) := by decide +kernel
theorem dX9_thingAt_16 : decode cX9_thingAt 16 = .ok (.if_icmp .ne 5, 3) := by decide +kernel
theorem dX9_thingAt_19 : decode cX9_thingAt 19 = .ok (.iload_n 3, 1) := by decide +kernel
theorem dX9_thingAt_20 : decode cX9_thingAt 20 = .ok (.ireturn, 1) := by decide +kernel
theorem dX9_thingAt_21 : decode cX9_thingAt 21 = .ok (.iinc 3 1, 3) := by decide +kernel
theorem dX9_thingAt_24 : decode cX9_thingAt 24 = .ok (.goto (-22), 3) := by decide +kernel
theorem dX9_thingAt_27 : decode cX9_thingAt 27 = .ok (.bipush (-2), 2) := by decide +kernel
theorem dX9_thingAt_29 : decode cX9_thingAt 29 = .ok (.ireturn, 1) := by decide +kernel
theorem dX9_isCome_0 : decode cX9_isCome 0 = .ok (.aload_n 0, 1) := by decide +kernel
theorem dX9_isCome_1 : decode cX9_isCome 1 = .ok (.aload_n 1, 1) := by decide +kernel
theorem dX9_isCome_2 : decode cX9_isCome 2 = .ok (.iload_n 2, 1) := by decide +kernel
theorem dX9_isCome_3 : decode cX9_isCome 3 = .ok (.iaload, 1) := by decide +kernel
theorem dX9_isCome_4 : decode cX9_isCome 4 = .ok (.bipush 9, 2) := by decide +kernel
theorem dX9_isCome_6 : decode cX9_isCome 6 = .ok (.idiv, 1) := by decide +kernel
theorem dX9_isCome_7 : decode cX9_isCome 7 = .ok (.invokevirtual 245, 3) := by decide +kernel
theorem dX9_isCome_10 : decode cX9_isCome 10 = .ok (.iconst 1, 1) := by decide +kernel
theorem dX9_isCome_11 : decode cX9_isCome 11 = .ok (.if_icmp .ne 19, 3) := by decide +kernel
theorem dX9_isCome_14 : decode cX9_isCome 14 = .ok (.aload_n 1, 1) := by decide +kernel
theorem dX9_isCome_15 : decode cX9_isCome 15 = .ok (.bipush 8, 2) := by decide +kernel
theorem dX9_isCome_17 : decode cX9_isCome 17 = .ok (.iaload, 1) := by decide +kernel
theorem dX9_isCome_18 : decode cX9_isCome 18 = .ok (.iconst 1, 1) := by decide +kernel
theorem dX9_isCome_19 : decode cX9_isCome 19 = .ok (.iadd, 1) := by decide +kernel
theorem dX9_isCome_20 : decode cX9_isCome 20 = .ok (.aload_n 0, 1) := by decide +kernel
theorem dX9_isCome_21 : decode cX9_isCome 21 = .ok (.getfield 20, 3) := by decide +kernel
theorem dX9_isCome_24 : decode cX9_isCome 24 = .ok (.iconst 0, 1) := by decide +kernel
theorem dX9_isCome_25 : decode cX9_isCome 25 = .ok (.iaload, 1) := by decide +kernel
theorem dX9_isCome_26 : decode cX9_isCome 26 = .ok (.irem, 1) := by decide +kernel
theorem dX9_isCome_27 : decode cX9_isCome 27 = .ok (.ifCond .ne 7, 3) := by decide +kernel
theorem dX9_isCome_30 : decode cX9_isCome 30 = .ok (.iconst 1, 1) := by decide +kernel
theorem dX9_isCome_31 : decode cX9_isCome 31 = .ok (.goto 4, 3) := by decide +kernel
theorem dX9_isCome_34 : decode cX9_isCome 34 = .ok (.iconst 0, 1) := by decide +kernel
theorem dX9_isCome_35 : decode cX9_isCome 35 = .ok (.ireturn, 1) := by decide +kernel
theorem dX9_fixed_0 : decode cX9_fixed 0 = .ok (.iconst 0, 1) := by decide +kernel
theorem dX9_fixed_1 : decode cX9_fixed 1 = .ok (.istore_n 2, 1) := by decide +kernel
theorem dX9_fixed_2 : decode cX9_fixed 2 = .ok (.iconst 0, 1) := by decide +kernel
theorem dX9_fixed_3 : decode cX9_fixed 3 = .ok (.istore_n 3, 1) := by decide +kernel
theorem dX9_fixed_4 : decode cX9_fixed 4 = .ok (.iload_n 3, 1) := by decide +kernel
theorem dX9_fixed_5 : decode cX9_fixed 5 = .ok (.aload_n 0, 1) := by decide +kernel
theorem dX9_fixed_6 : decode cX9_fixed 6 = .ok (.getfield 20, 3) := by decide +kernel
theorem dX9_fixed_9 : decode cX9_fixed 9 = .ok (.iconst 3, 1) := by decide +kernel
theorem dX9_fixed_10 : decode cX9_fixed 10 = .ok (.iaload, 1) := by decide +kernel
theorem dX9_fixed_11 : decode cX9_fixed 11 = .ok (.if_icmp .ge 135, 3) := by decide +kernel
theorem dX9_fixed_14 : decode cX9_fixed 14 = .ok (.aload_n 0, 1) := by decide +kernel
theorem dX9_fixed_15 : decode cX9_fixed 15 = .ok (.getfield 20, 3) := by decide +kernel
theorem dX9_fixed_18 : decode cX9_fixed 18 = .ok (.bipush 16, 2) := by decide +kernel
theorem dX9_fixed_20 : decode cX9_fixed 20 = .ok (.aload_n 0, 1) := by decide +kernel
theorem dX9_fixed_21 : decode cX9_fixed 21 = .ok (.aload_n 1, 1) := by decide +kernel
theorem dX9_fixed_22 : decode cX9_fixed 22 = .ok (.iload_n 3, 1) := by decide +kernel
theorem dX9_fixed_23 : decode cX9_fixed 23 = .ok (.iaload, 1) := by decide +kernel
theorem dX9_fixed_24 : decode cX9_fixed 24 = .ok (.invokevirtual 248, 3) := by decide +kernel
theorem dX9_fixed_27 : decode cX9_fixed 27 = .ok (.iadd, 1) := by decide +kernel
theorem dX9_fixed_28 : decode cX9_fixed 28 = .ok (.iaload, 1) := by decide +kernel
theorem dX9_fixed_29 : decode cX9_fixed 29 = .ok (.istore 4, 2) := by decide +kernel
theorem dX9_fixed_31 : decode cX9_fixed 31 = .ok (.aload_n 1, 1) := by decide +kernel
theorem dX9_fixed_32 : decode cX9_fixed 32 = .ok (.bipush 7, 2) := by decide +kernel
theorem dX9_fixed_34 : decode cX9_fixed 34 = .ok (.iaload, 1) := by decide +kernel
theorem dX9_fixed_35 : decode cX9_fixed 35 = .ok (.iload_n 3, 1) := by decide +kernel
theorem dX9_fixed_36 : decode cX9_fixed 36 = .ok (.invokestatic 251, 3) := by decide +kernel
theorem dX9_fixed_39 : decode cX9_fixed 39 = .ok (.ifCond .ne 33, 3) := by decide +kernel
theorem dX9_fixed_42 : decode cX9_fixed 42 = .ok (.aload_n 0, 1) := by decide +kernel
theorem dX9_fixed_43 : decode cX9_fixed 43 = .ok (.iload_n 3, 1) := by decide +kernel
theorem dX9_fixed_44 : decode cX9_fixed 44 = .ok (.invokevirtual 255, 3) := by decide +kernel
theorem dX9_fixed_47 : decode cX9_fixed 47 = .ok (.iconst 2, 1) := by decide +kernel
theorem dX9_fixed_48 : decode cX9_fixed 48 = .ok (.if_icmp .eq 24, 3) := by decide +kernel
theorem dX9_fixed_51 : decode cX9_fixed 51 = .ok (.aload_n 0, 1) := by decide +kernel
theorem dX9_fixed_52 : decode cX9_fixed 52 = .ok (.iload_n 3, 1) := by decide +kernel
theorem dX9_fixed_53 : decode cX9_fixed 53 = .ok (.invokevirtual 255, 3) := by decide +kernel
theorem dX9_fixed_56 : decode cX9_fixed 56 = .ok (.iconst 1, 1) := by decide +kernel
theorem dX9_fixed_57 : decode cX9_fixed 57 = .ok (.if_icmp .ne 19, 3) := by decide +kernel
theorem dX9_fixed_60 : decode cX9_fixed 60 = .ok (.aload_n 1, 1) := by decide +kernel
theorem dX9_fixed_61 : decode cX9_fixed 61 = .ok (.bipush 8, 2) := by decide +kernel
theorem dX9_fixed_63 : decode cX9_fixed 63 = .ok (.iaload, 1) := by decide +kernel
theorem dX9_fixed_64 : decode cX9_fixed 64 = .ok (.iconst 1, 1) := by decide +kernel
theorem dX9_fixed_65 : decode cX9_fixed 65 = .ok (.iadd, 1) := by decide +kernel
theorem dX9_fixed_66 : decode cX9_fixed 66 = .ok (.bipush 9, 2) := by decide +kernel
theorem dX9_fixed_68 : decode cX9_fixed 68 = .ok (.irem, 1) := by decide +kernel
theorem dX9_fixed_69 : decode cX9_fixed 69 = .ok (.ifCond .eq 7, 3) := by decide +kernel
theorem dX9_fixed_72 : decode cX9_fixed 72 = .ok (.iconst 1, 1) := by decide +kernel
theorem dX9_fixed_73 : decode cX9_fixed 73 = .ok (.goto 4, 3) := by decide +kernel
theorem dX9_fixed_76 : decode cX9_fixed 76 = .ok (.iconst 0, 1) := by decide +kernel
theorem dX9_fixed_77 : decode cX9_fixed 77 = .ok (.istore 5, 2) := by decide +kernel
theorem dX9_fixed_79 : decode cX9_fixed 79 = .ok (.iload 5, 2) := by decide +kernel
theorem dX9_fixed_81 : decode cX9_fixed 81 = .ok (.ifCond .ne 37, 3) := by decide +kernel
theorem dX9_fixed_84 : decode cX9_fixed 84 = .ok (.aload_n 0, 1) := by decide +kernel
theorem dX9_fixed_85 : decode cX9_fixed 85 = .ok (.iload_n 3, 1) := by decide +kernel
theorem dX9_fixed_86 : decode cX9_fixed 86 = .ok (.invokevirtual 255, 3) := by decide +kernel
theorem dX9_fixed_89 : decode cX9_fixed 89 = .ok (.iconst 3, 1) := by decide +kernel
theorem dX9_fixed_90 : decode cX9_fixed 90 = .ok (.if_icmp .eq 32, 3) := by decide +kernel
theorem dX9_fixed_93 : decode cX9_fixed 93 = .ok (.iload 4, 2) := by decide +kernel
theorem dX9_fixed_95 : decode cX9_fixed 95 = .ok (.ifCond .le 27, 3) := by decide +kernel
theorem dX9_fixed_98 : decode cX9_fixed 98 = .ok (.aload_n 0, 1) := by decide +kernel
theorem dX9_fixed_99 : decode cX9_fixed 99 = .ok (.getfield 20, 3) := by decide +kernel
theorem dX9_fixed_102 : decode cX9_fixed 102 = .ok (.bipush 62, 2) := by decide +kernel
theorem dX9_fixed_104 : decode cX9_fixed 104 = .ok (.iconst 3, 1) := by decide +kernel
theorem dX9_fixed_105 : decode cX9_fixed 105 = .ok (.iload_n 3, 1) := by decide +kernel
theorem dX9_fixed_106 : decode cX9_fixed 106 = .ok (.imul, 1) := by decide +kernel
theorem dX9_fixed_107 : decode cX9_fixed 107 = .ok (.iadd, 1) := by decide +kernel
theorem dX9_fixed_108 : decode cX9_fixed 108 = .ok (.iconst 2, 1) := by decide +kernel
theorem dX9_fixed_109 : decode cX9_fixed 109 = .ok (.iadd, 1) := by decide +kernel
theorem dX9_fixed_110 : decode cX9_fixed 110 = .ok (.iaload, 1) := by decide +kernel
theorem dX9_fixed_111 : decode cX9_fixed 111 = .ok (.iload 4, 2) := by decide +kernel
theorem dX9_fixed_113 : decode cX9_fixed 113 = .ok (.iconst 1, 1) := by decide +kernel
theorem dX9_fixed_114 : decode cX9_fixed 114 = .ok (.isub, 1) := by decide +kernel
theorem dX9_fixed_115 : decode cX9_fixed 115 = .ok (.if_icmp .le 7, 3) := by decide +kernel
theorem dX9_fixed_118 : decode cX9_fixed 118 = .ok (.iconst 1, 1) := by decide +kernel
theorem dX9_fixed_119 : decode cX9_fixed 119 = .ok (.goto 4, 3) := by decide +kernel
theorem dX9_fixed_122 : decode cX9_fixed 122 = .ok (.iconst 0, 1) := by decide +kernel
theorem dX9_fixed_123 : decode cX9_fixed 123 = .ok (.istore 5, 2) := by decide +kernel
theorem dX9_fixed_125 : decode cX9_fixed 125 = .ok (.iload_n 2, 1) := by decide +kernel
theorem dX9_fixed_126 : decode cX9_fixed 126 = .ok (.iload 5, 2) := by decide +kernel
theorem dX9_fixed_128 : decode cX9_fixed 128 = .ok (.ifCond .eq 9, 3) := by decide +kernel
theorem dX9_fixed_131 : decode cX9_fixed 131 = .ok (.iconst 1, 1) := by decide +kernel
theorem dX9_fixed_132 : decode cX9_fixed 132 = .ok (.iload_n 3, 1) := by decide +kernel
theorem dX9_fixed_133 : decode cX9_fixed 133 = .ok (.ishl, 1) := by decide +kernel
theorem dX9_fixed_134 : decode cX9_fixed 134 = .ok (.goto 4, 3) := by decide +kernel
theorem dX9_fixed_137 : decode cX9_fixed 137 = .ok (.iconst 0, 1) := by decide +kernel
theorem dX9_fixed_138 : decode cX9_fixed 138 = .ok (.ior, 1) := by decide +kernel
theorem dX9_fixed_139 : decode cX9_fixed 139 = .ok (.istore_n 2, 1) := by decide +kernel
theorem dX9_fixed_140 : decode cX9_fixed 140 = .ok (.iinc 3 1, 3) := by decide +kernel
theorem dX9_fixed_143 : decode cX9_fixed 143 = .ok (.goto (-139), 3) := by decide +kernel
theorem dX9_fixed_146 : decode cX9_fixed 146 = .ok (.iload_n 2, 1) := by decide +kernel
theorem dX9_fixed_147 : decode cX9_fixed 147 = .ok (.ireturn, 1) := by decide +kernel
theorem dX9_goingBy_0 : decode cX9_goingBy 0 = .ok (.iload_n 2, 1) := by decide +kernel
theorem dX9_goingBy_1 : decode cX9_goingBy 1 = .ok (.istore_n 3, 1) := by decide +kernel
theorem dX9_goingBy_2 : decode cX9_goingBy 2 = .ok (.iconst (-1), 1) := by decide +kernel
theorem dX9_goingBy_3 : decode cX9_goingBy 3 = .ok (.istore 4, 2) := by decide +kernel
theorem dX9_goingBy_5 : decode cX9_goingBy 5 = .ok (.iload 4, 2) := by decide +kernel
theorem dX9_goingBy_7 : decode cX9_goingBy 7 = .ok (.iload_n 3, 1) := by decide +kernel
theorem dX9_goingBy_8 : decode cX9_goingBy 8 = .ok (.if_icmp .eq 70, 3) := by decide +kernel
theorem dX9_goingBy_11 : decode cX9_goingBy 11 = .ok (.iload_n 3, 1) := by decide +kernel
theorem dX9_goingBy_12 : decode cX9_goingBy 12 = .ok (.istore 4, 2) := by decide +kernel
theorem dX9_goingBy_14 : decode cX9_goingBy 14 = .ok (.iconst 0, 1) := by decide +kernel
theorem dX9_goingBy_15 : decode cX9_goingBy 15 = .ok (.istore 5, 2) := by decide +kernel
theorem dX9_goingBy_17 : decode cX9_goingBy 17 = .ok (.iload 5, 2) := by decide +kernel
theorem dX9_goingBy_19 : decode cX9_goingBy 19 = .ok (.aload_n 0, 1) := by decide +kernel
theorem dX9_goingBy_20 : decode cX9_goingBy 20 = .ok (.getfield 20, 3) := by decide +kernel
theorem dX9_goingBy_23 : decode cX9_goingBy 23 = .ok (.iconst 3, 1) := by decide +kernel
theorem dX9_goingBy_24 : decode cX9_goingBy 24 = .ok (.iaload, 1) := by decide +kernel
theorem dX9_goingBy_25 : decode cX9_goingBy 25 = .ok (.if_icmp .ge 50, 3) := by decide +kernel
theorem dX9_goingBy_28 : decode cX9_goingBy 28 = .ok (.aload_n 0, 1) := by decide +kernel
theorem dX9_goingBy_29 : decode cX9_goingBy 29 = .ok (.aload_n 1, 1) := by decide +kernel
theorem dX9_goingBy_30 : decode cX9_goingBy 30 = .ok (.aload_n 0, 1) := by decide +kernel
theorem dX9_goingBy_31 : decode cX9_goingBy 31 = .ok (.aload_n 1, 1) := by decide +kernel
theorem dX9_goingBy_32 : decode cX9_goingBy 32 = .ok (.iload 5, 2) := by decide +kernel
theorem dX9_goingBy_34 : decode cX9_goingBy 34 = .ok (.iaload, 1) := by decide +kernel
theorem dX9_goingBy_35 : decode cX9_goingBy 35 = .ok (.invokevirtual 248, 3) := by decide +kernel
theorem dX9_goingBy_38 : decode cX9_goingBy 38 = .ok (.invokevirtual 258, 3) := by decide +kernel
theorem dX9_goingBy_41 : decode cX9_goingBy 41 = .ok (.istore 6, 2) := by decide +kernel
theorem dX9_goingBy_43 : decode cX9_goingBy 43 = .ok (.iload_n 3, 1) := by decide +kernel
theorem dX9_goingBy_44 : decode cX9_goingBy 44 = .ok (.iload 6, 2) := by decide +kernel
theorem dX9_goingBy_46 : decode cX9_goingBy 46 = .ok (.ifCond .lt 20, 3) := by decide +kernel
theorem dX9_goingBy_49 : decode cX9_goingBy 49 = .ok (.iload 4, 2) := by decide +kernel
theorem dX9_goingBy_51 : decode cX9_goingBy 51 = .ok (.iload 6, 2) := by decide +kernel
theorem dX9_goingBy_53 : decode cX9_goingBy 53 = .ok (.invokestatic 251, 3) := by decide +kernel
theorem dX9_goingBy_56 : decode cX9_goingBy 56 = .ok (.ifCond .eq 10, 3) := by decide +kernel
theorem dX9_goingBy_59 : decode cX9_goingBy 59 = .ok (.iconst 1, 1) := by decide +kernel
theorem dX9_goingBy_60 : decode cX9_goingBy 60 = .ok (.iload 5, 2) := by decide +kernel
theorem dX9_goingBy_62 : decode cX9_goingBy 62 = .ok (.ishl, 1) := by decide +kernel
theorem dX9_goingBy_63 : decode cX9_goingBy 63 = .ok (.goto 4, 3) := by decide +kernel
theorem dX9_goingBy_66 : decode cX9_goingBy 66 = .ok (.iconst 0, 1) := by decide +kernel
theorem dX9_goingBy_67 : decode cX9_goingBy 67 = .ok (.ior, 1) := by decide +kernel
theorem dX9_goingBy_68 : decode cX9_goingBy 68 = .ok (.istore_n 3, 1) := by decide +kernel
theorem dX9_goingBy_69 : decode cX9_goingBy 69 = .ok (.iinc 5 1, 3) := by decide +kernel
theorem dX9_goingBy_72 : decode cX9_goingBy 72 = .ok (.goto (-55), 3) := by decide +kernel
theorem dX9_goingBy_75 : decode cX9_goingBy 75 = .ok (.goto (-70), 3) := by decide +kernel
theorem dX9_goingBy_78 : decode cX9_goingBy 78 = .ok (.iconst 0, 1) := by decide +kernel
theorem dX9_goingBy_79 : decode cX9_goingBy 79 = .ok (.istore 5, 2) := by decide +kernel
theorem dX9_goingBy_81 : decode cX9_goingBy 81 = .ok (.iconst 0, 1) := by decide +kernel
theorem dX9_goingBy_82 : decode cX9_goingBy 82 = .ok (.istore 6, 2) := by decide +kernel
theorem dX9_goingBy_84 : decode cX9_goingBy 84 = .ok (.iload 6, 2) := by decide +kernel
theorem dX9_goingBy_86 : decode cX9_goingBy 86 = .ok (.aload_n 0, 1) := by decide +kernel
theorem dX9_goingBy_87 : decode cX9_goingBy 87 = .ok (.getfield 20, 3) := by decide +kernel
theorem dX9_goingBy_90 : decode cX9_goingBy 90 = .ok (.iconst 3, 1) := by decide +kernel
theorem dX9_goingBy_91 : decode cX9_goingBy 91 = .ok (.iaload, 1) := by decide +kernel
theorem dX9_goingBy_92 : decode cX9_goingBy 92 = .ok (.if_icmp .ge 41, 3) := by decide +kernel
theorem dX9_goingBy_95 : decode cX9_goingBy 95 = .ok (.iload 5, 2) := by decide +kernel
theorem dX9_goingBy_97 : decode cX9_goingBy 97 = .ok (.iload_n 3, 1) := by decide +kernel
theorem dX9_goingBy_98 : decode cX9_goingBy 98 = .ok (.iload 6, 2) := by decide +kernel
theorem dX9_goingBy_100 : decode cX9_goingBy 100 = .ok (.invokestatic 251, 3) := by decide +kernel
theorem dX9_goingBy_103 : decode cX9_goingBy 103 = .ok (.ifCond .ne 20, 3) := by decide +kernel
theorem dX9_goingBy_106 : decode cX9_goingBy 106 = .ok (.aload_n 0, 1) := by decide +kernel
theorem dX9_goingBy_107 : decode cX9_goingBy 107 = .ok (.aload_n 1, 1) := by decide +kernel
theorem dX9_goingBy_108 : decode cX9_goingBy 108 = .ok (.iload 6, 2) := by decide +kernel
theorem dX9_goingBy_110 : decode cX9_goingBy 110 = .ok (.invokevirtual 262, 3) := by decide +kernel
theorem dX9_goingBy_113 : decode cX9_goingBy 113 = .ok (.ifCond .eq 10, 3) := by decide +kernel
theorem dX9_goingBy_116 : decode cX9_goingBy 116 = .ok (.iconst 1, 1) := by decide +kernel
theorem dX9_goingBy_117 : decode cX9_goingBy 117 = .ok (.iload 6, 2) := by decide +kernel
theorem dX9_goingBy_119 : decode cX9_goingBy 119 = .ok (.ishl, 1) := by decide +kernel
theorem dX9_goingBy_120 : decode cX9_goingBy 120 = .ok (.goto 4, 3) := by decide +kernel
theorem dX9_goingBy_123 : decode cX9_goingBy 123 = .ok (.iconst 0, 1) := by decide +kernel
theorem dX9_goingBy_124 : decode cX9_goingBy 124 = .ok (.ior, 1) := by decide +kernel
theorem dX9_goingBy_125 : decode cX9_goingBy 125 = .ok (.istore 5, 2) := by decide +kernel
theorem dX9_goingBy_127 : decode cX9_goingBy 127 = .ok (.iinc 6 1, 3) := by decide +kernel
theorem dX9_goingBy_130 : decode cX9_goingBy 130 = .ok (.goto (-46), 3) := by decide +kernel
theorem dX9_goingBy_133 : decode cX9_goingBy 133 = .ok (.iload 5, 2) := by decide +kernel
theorem dX9_goingBy_135 : decode cX9_goingBy 135 = .ok (.ireturn, 1) := by decide +kernel
theorem dX9_going_0 : decode cX9_going 0 = .ok (.aload_n 0, 1) := by decide +kernel
theorem dX9_going_1 : decode cX9_going 1 = .ok (.aload_n 1, 1) := by decide +kernel
theorem dX9_going_2 : decode cX9_going 2 = .ok (.aload_n 0, 1) := by decide +kernel
theorem dX9_going_3 : decode cX9_going 3 = .ok (.aload_n 1, 1) := by decide +kernel
theorem dX9_going_4 : decode cX9_going 4 = .ok (.invokevirtual 266, 3) := by decide +kernel
theorem dX9_going_7 : decode cX9_going 7 = .ok (.invokevirtual 270, 3) := by decide +kernel
theorem dX9_going_10 : decode cX9_going 10 = .ok (.ireturn, 1) := by decide +kernel
theorem dX9_goOver_0 : decode cX9_goOver 0 = .ok (.iconst 0, 1) := by decide +kernel
theorem dX9_goOver_1 : decode cX9_goOver 1 = .ok (.istore_n 3, 1) := by decide +kernel
theorem dX9_goOver_2 : decode cX9_goOver 2 = .ok (.iload_n 3, 1) := by decide +kernel
theorem dX9_goOver_3 : decode cX9_goOver 3 = .ok (.aload_n 0, 1) := by decide +kernel
theorem dX9_goOver_4 : decode cX9_goOver 4 = .ok (.getfield 20, 3) := by decide +kernel
theorem dX9_goOver_7 : decode cX9_goOver 7 = .ok (.iconst 3, 1) := by decide +kernel
theorem dX9_goOver_8 : decode cX9_goOver 8 = .ok (.iaload, 1) := by decide +kernel
theorem dX9_goOver_9 : decode cX9_goOver 9 = .ok (.if_icmp .ge 27, 3) := by decide +kernel
theorem dX9_goOver_12 : decode cX9_goOver 12 = .ok (.iload_n 2, 1) := by decide +kernel
theorem dX9_goOver_13 : decode cX9_goOver 13 = .ok (.iload_n 3, 1) := by decide +kernel
theorem dX9_goOver_14 : decode cX9_goOver 14 = .ok (.invokestatic 251, 3) := by decide +kernel
theorem dX9_goOver_17 : decode cX9_goOver 17 = .ok (.ifCond .eq 13, 3) := by decide +kernel
theorem dX9_goOver_20 : decode cX9_goOver 20 = .ok (.aload_n 1, 1) := by decide +kernel
theorem dX9_goOver_21 : decode cX9_goOver 21 = .ok (.iload_n 3, 1) := by decide +kernel
theorem dX9_goOver_22 : decode cX9_goOver 22 = .ok (.aload_n 0, 1) := by decide +kernel
theorem dX9_goOver_23 : decode cX9_goOver 23 = .ok (.aload_n 1, 1) := by decide +kernel
theorem dX9_goOver_24 : decode cX9_goOver 24 = .ok (.iload_n 3, 1) := by decide +kernel
theorem dX9_goOver_25 : decode cX9_goOver 25 = .ok (.iaload, 1) := by decide +kernel
theorem dX9_goOver_26 : decode cX9_goOver 26 = .ok (.invokevirtual 248, 3) := by decide +kernel
theorem dX9_goOver_29 : decode cX9_goOver 29 = .ok (.iastore, 1) := by decide +kernel
theorem dX9_goOver_30 : decode cX9_goOver 30 = .ok (.iinc 3 1, 3) := by decide +kernel
theorem dX9_goOver_33 : decode cX9_goOver 33 = .ok (.goto (-31), 3) := by decide +kernel
theorem dX9_goOver_36 : decode cX9_goOver 36 = .ok (.aload_n 1, 1) := by decide +kernel
theorem dX9_goOver_37 : decode cX9_goOver 37 = .ok (.bipush 8, 2) := by decide +kernel
theorem dX9_goOver_39 : decode cX9_goOver 39 = .ok (.dup2, 1) := by decide +kernel
theorem dX9_goOver_40 : decode cX9_goOver 40 = .ok (.iaload, 1) := by decide +kernel
theorem dX9_goOver_41 : decode cX9_goOver 41 = .ok (.iconst 1, 1) := by decide +kernel
theorem dX9_goOver_42 : decode cX9_goOver 42 = .ok (.iadd, 1) := by decide +kernel
theorem dX9_goOver_43 : decode cX9_goOver 43 = .ok (.iastore, 1) := by decide +kernel
theorem dX9_goOver_44 : decode cX9_goOver 44 = .ok (.return_, 1) := by decide +kernel
theorem dX9_nightOf_0 : decode cX9_nightOf 0 = .ok (.aload_n 0, 1) := by decide +kernel
theorem dX9_nightOf_1 : decode cX9_nightOf 1 = .ok (.aload_n 1, 1) := by decide +kernel
theorem dX9_nightOf_2 : decode cX9_nightOf 2 = .ok (.invokevirtual 273, 3) := by decide +kernel
theorem dX9_nightOf_5 : decode cX9_nightOf 5 = .ok (.istore_n 2, 1) := by decide +kernel
theorem dX9_nightOf_6 : decode cX9_nightOf 6 = .ok (.aload_n 0, 1) := by decide +kernel
theorem dX9_nightOf_7 : decode cX9_nightOf 7 = .ok (.aload_n 1, 1) := by decide +kernel
theorem dX9_nightOf_8 : decode cX9_nightOf 8 = .ok (.iload_n 2, 1) := by decide +kernel
theorem dX9_nightOf_9 : decode cX9_nightOf 9 = .ok (.invokevirtual 276, 3) := by decide +kernel
theorem dX9_nightOf_12 : decode cX9_nightOf 12 = .ok (.iload_n 2, 1) := by decide +kernel
theorem dX9_nightOf_13 : decode cX9_nightOf 13 = .ok (.ireturn, 1) := by decide +kernel
theorem dX9_begin_0 : decode cX9_begin 0 = .ok (.aload_n 0, 1) := by decide +kernel
theorem dX9_begin_1 : decode cX9_begin 1 = .ok (.getfield 26, 3) := by decide +kernel
theorem dX9_begin_4 : decode cX9_begin 4 = .ok (.iconst 0, 1) := by decide +kernel
theorem dX9_begin_5 : decode cX9_begin 5 = .ok (.aload_n 0, 1) := by decide +kernel
theorem dX9_begin_6 : decode cX9_begin 6 = .ok (.getfield 35, 3) := by decide +kernel
theorem dX9_begin_9 : decode cX9_begin 9 = .ok (.iconst 0, 1) := by decide +kernel
theorem dX9_begin_10 : decode cX9_begin 10 = .ok (.bipush 9, 2) := by decide +kernel
theorem dX9_begin_12 : decode cX9_begin 12 = .ok (.invokestatic 162, 3) := by decide +kernel
theorem dX9_begin_15 : decode cX9_begin 15 = .ok (.return_, 1) := by decide +kernel
theorem dX9_areDoored_0 : decode cX9_areDoored 0 = .ok (.iconst 0, 1) := by decide +kernel
theorem dX9_areDoored_1 : decode cX9_areDoored 1 = .ok (.istore_n 3, 1) := by decide +kernel
theorem dX9_areDoored_2 : decode cX9_areDoored 2 = .ok (.iload_n 3, 1) := by decide +kernel
theorem dX9_areDoored_3 : decode cX9_areDoored 3 = .ok (.aload_n 0, 1) := by decide +kernel
theorem dX9_areDoored_4 : decode cX9_areDoored 4 = .ok (.getfield 20, 3) := by decide +kernel
theorem dX9_areDoored_7 : decode cX9_areDoored 7 = .ok (.iconst 5, 1) := by decide +kernel
theorem dX9_areDoored_8 : decode cX9_areDoored 8 = .ok (.iaload, 1) := by decide +kernel
theorem dX9_areDoored_9 : decode cX9_areDoored 9 = .ok (.if_icmp .ge 75, 3) := by decide +kernel
theorem dX9_areDoored_12 : decode cX9_areDoored 12 = .ok (.aload_n 0, 1) := by decide +kernel
theorem dX9_areDoored_13 : decode cX9_areDoored 13 = .ok (.getfield 20, 3) := by decide +kernel
theorem dX9_areDoored_16 : decode cX9_areDoored 16 = .ok (.bipush 52, 2) := by decide +kernel
theorem dX9_areDoored_18 : decode cX9_areDoored 18 = .ok (.iconst 2, 1) := by decide +kernel
theorem dX9_areDoored_19 : decode cX9_areDoored 19 = .ok (.iload_n 3, 1) := by decide +kernel
theorem dX9_areDoored_20 : decode cX9_areDoored 20 = .ok (.imul, 1) := by decide +kernel
theorem dX9_areDoored_21 : decode cX9_areDoored 21 = .ok (.iadd, 1) := by decide +kernel
theorem dX9_areDoored_22 : decode cX9_areDoored 22 = .ok (.iaload, 1) := by decide +kernel
theorem dX9_areDoored_23 : decode cX9_areDoored 23 = .ok (.iload_n 1, 1) := by decide +kernel
theorem dX9_areDoored_24 : decode cX9_areDoored 24 = .ok (.if_icmp .ne 20, 3) := by decide +kernel
theorem dX9_areDoored_27 : decode cX9_areDoored 27 = .ok (.aload_n 0, 1) := by decide +kernel
theorem dX9_areDoored_28 : decode cX9_areDoored 28 = .ok (.getfield 20, 3) := by decide +kernel
theorem dX9_areDoored_31 : decode cX9_areDoored 31 = .ok (.bipush 52, 2) := by decide +kernel
theorem dX9_areDoored_33 : decode cX9_areDoored 33 = .ok (.iconst 2, 1) := by decide +kernel
theorem dX9_areDoored_34 : decode cX9_areDoored 34 = .ok (.iload_n 3, 1) := by decide +kernel
theorem dX9_areDoored_35 : decode cX9_areDoored 35 = .ok (.imul, 1) := by decide +kernel
theorem dX9_areDoored_36 : decode cX9_areDoored 36 = .ok (.iadd, 1) := by decide +kernel
theorem dX9_areDoored_37 : decode cX9_areDoored 37 = .ok (.iconst 1, 1) := by decide +kernel
theorem dX9_areDoored_38 : decode cX9_areDoored 38 = .ok (.iadd, 1) := by decide +kernel
theorem dX9_areDoored_39 : decode cX9_areDoored 39 = .ok (.iaload, 1) := by decide +kernel
theorem dX9_areDoored_40 : decode cX9_areDoored 40 = .ok (.iload_n 2, 1) := by decide +kernel
theorem dX9_areDoored_41 : decode cX9_areDoored 41 = .ok (.if_icmp .eq 35, 3) := by decide +kernel
theorem dX9_areDoored_44 : decode cX9_areDoored 44 = .ok (.aload_n 0, 1) := by decide +kernel
theorem dX9_areDoored_45 : decode cX9_areDoored 45 = .ok (.getfield 20, 3) := by decide +kernel
theorem dX9_areDoored_48 : decode cX9_areDoored 48 = .ok (.bipush 52, 2) := by decide +kernel
theorem dX9_areDoored_50 : decode cX9_areDoored 50 = .ok (.iconst 2, 1) := by decide +kernel
theorem dX9_areDoored_51 : decode cX9_areDoored 51 = .ok (.iload_n 3, 1) := by decide +kernel
theorem dX9_areDoored_52 : decode cX9_areDoored 52 = .ok (.imul, 1) := by decide +kernel
theorem dX9_areDoored_53 : decode cX9_areDoored 53 = .ok (.iadd, 1) := by decide +kernel
theorem dX9_areDoored_54 : decode cX9_areDoored 54 = .ok (.iaload, 1) := by decide +kernel
theorem dX9_areDoored_55 : decode cX9_areDoored 55 = .ok (.iload_n 2, 1) := by decide +kernel
theorem dX9_areDoored_56 : decode cX9_areDoored 56 = .ok (.if_icmp .ne 22, 3) := by decide +kernel
theorem dX9_areDoored_59 : decode cX9_areDoored 59 = .ok (.aload_n 0, 1) := by decide +kernel
theorem dX9_areDoored_60 : decode cX9_areDoored 60 = .ok (.getfield 20, 3) := by decide +kernel
theorem dX9_areDoored_63 : decode cX9_areDoored 63 = .ok (.bipush 52, 2) := by decide +kernel
theorem dX9_areDoored_65 : decode cX9_areDoored 65 = .ok (.iconst 2, 1) := by decide +kernel
theorem dX9_areDoored_66 : decode cX9_areDoored 66 = .ok (.iload_n 3, 1) := by decide +kernel
theorem dX9_areDoored_67 : decode cX9_areDoored 67 = .ok (.imul, 1) := by decide +kernel
theorem dX9_areDoored_68 : decode cX9_areDoored 68 = .ok (.iadd, 1) := by decide +kernel
theorem dX9_areDoored_69 : decode cX9_areDoored 69 = .ok (.iconst 1, 1) := by decide +kernel
theorem dX9_areDoored_70 : decode cX9_areDoored 70 = .ok (.iadd, 1) := by decide +kernel
theorem dX9_areDoored_71 : decode cX9_areDoored 71 = .ok (.iaload, 1) := by decide +kernel
theorem dX9_areDoored_72 : decode cX9_areDoored 72 = .ok (.iload_n 1, 1) := by decide +kernel
theorem dX9_areDoored_73 : decode cX9_areDoored 73 = .ok (.if_icmp .ne 5, 3) := by decide +kernel
theorem dX9_areDoored_76 : decode cX9_areDoored 76 = .ok (.iconst 1, 1) := by decide +kernel
theorem dX9_areDoored_77 : decode cX9_areDoored 77 = .ok (.ireturn, 1) := by decide +kernel
theorem dX9_areDoored_78 : decode cX9_areDoored 78 = .ok (.iinc 3 1, 3) := by decide +kernel
theorem dX9_areDoored_81 : decode cX9_areDoored 81 = .ok (.goto (-79), 3) := by decide +kernel
theorem dX9_areDoored_84 : decode cX9_areDoored 84 = .ok (.iconst 0, 1) := by decide +kernel
theorem dX9_areDoored_85 : decode cX9_areDoored 85 = .ok (.ireturn, 1) := by decide +kernel
theorem dX9_ring_0 : decode cX9_ring 0 = .ok (.aload_n 0, 1) := by decide +kernel
theorem dX9_ring_1 : decode cX9_ring 1 = .ok (.invokevirtual 153, 3) := by decide +kernel
theorem dX9_ring_4 : decode cX9_ring 4 = .ok (.aload_n 0, 1) := by decide +kernel
theorem dX9_ring_5 : decode cX9_ring 5 = .ok (.iload_n 1, 1) := by decide +kernel
theorem dX9_ring_6 : decode cX9_ring 6 = .ok (.invokevirtual 239, 3) := by decide +kernel
theorem dX9_ring_9 : decode cX9_ring 9 = .ok (.ifCond .eq 12, 3) := by decide +kernel
theorem dX9_ring_12 : decode cX9_ring 12 = .ok (.iload_n 2, 1) := by decide +kernel
theorem dX9_ring_13 : decode cX9_ring 13 = .ok (.iconst 0, 1) := by decide +kernel
theorem dX9_ring_14 : decode cX9_ring 14 = .ok (.iconst 3, 1) := by decide +kernel
theorem dX9_ring_15 : decode cX9_ring 15 = .ok (.invokestatic 135, 3) := by decide +kernel
theorem dX9_ring_18 : decode cX9_ring 18 = .ok (.ifCond .ne 9, 3) := by decide +kernel
theorem dX9_ring_21 : decode cX9_ring 21 = .ok (.aload_n 0, 1) := by decide +kernel
theorem dX9_ring_22 : decode cX9_ring 22 = .ok (.iconst 1, 1) := by decide +kernel
theorem dX9_ring_23 : decode cX9_ring 23 = .ok (.invokevirtual 156, 3) := by decide +kernel
theorem dX9_ring_26 : decode cX9_ring 26 = .ok (.ireturn, 1) := by decide +kernel
theorem dX9_ring_27 : decode cX9_ring 27 = .ok (.iconst 0, 1) := by decide +kernel
theorem dX9_ring_28 : decode cX9_ring 28 = .ok (.istore_n 3, 1) := by decide +kernel
theorem dX9_ring_29 : decode cX9_ring 29 = .ok (.iconst 0, 1) := by decide +kernel
theorem dX9_ring_30 : decode cX9_ring 30 = .ok (.istore 4, 2) := by decide +kernel
theorem dX9_ring_32 : decode cX9_ring 32 = .ok (.iload 4, 2) := by decide +kernel
theorem dX9_ring_34 : decode cX9_ring 34 = .ok (.aload_n 0, 1) := by decide +kernel
theorem dX9_ring_35 : decode cX9_ring 35 = .ok (.getfield 20, 3) := by decide +kernel
theorem dX9_ring_38 : decode cX9_ring 38 = .ok (.iconst 3, 1) := by decide +kernel
theorem dX9_ring_39 : decode cX9_ring 39 = .ok (.iaload, 1) := by decide +kernel
theorem dX9_ring_40 : decode cX9_ring 40 = .ok (.if_icmp .ge 34, 3) := by decide +kernel
theorem dX9_ring_43 : decode cX9_ring 43 = .ok (.iload_n 3, 1) := by decide +kernel
theorem dX9_ring_44 : decode cX9_ring 44 = .ok (.aload_n 0, 1) := by decide +kernel
theorem dX9_ring_45 : decode cX9_ring 45 = .ok (.getfield 26, 3) := by decide +kernel
theorem dX9_ring_48 : decode cX9_ring 48 = .ok (.iload 4, 2) := by decide +kernel
theorem dX9_ring_50 : decode cX9_ring 50 = .ok (.iaload, 1) := by decide +kernel
theorem dX9_ring_51 : decode cX9_ring 51 = .ok (.bipush 9, 2) := by decide +kernel
theorem dX9_ring_53 : decode cX9_ring 53 = .ok (.idiv, 1) := by decide +kernel
theorem dX9_ring_54 : decode cX9_ring 54 = .ok (.iload_n 1, 1) := by decide +kernel
theorem dX9_ring_55 : decode cX9_ring 55 = .ok (.if_icmp .ne 10, 3) := by decide +kernel
theorem dX9_ring_58 : decode cX9_ring 58 = .ok (.iconst 1, 1) := by decide +kernel
theorem dX9_ring_59 : decode cX9_ring 59 = .ok (.iload 4, 2) := by decide +kernel
theorem dX9_ring_61 : decode cX9_ring 61 = .ok (.ishl, 1) := by decide +kernel
theorem dX9_ring_62 : decode cX9_ring 62 = .ok (.goto 4, 3) := by decide +kernel
theorem dX9_ring_65 : decode cX9_ring 65 = .ok (.iconst 0, 1) := by decide +kernel
theorem dX9_ring_66 : decode cX9_ring 66 = .ok (.ior, 1) := by decide +kernel
theorem dX9_ring_67 : decode cX9_ring 67 = .ok (.istore_n 3, 1) := by decide +kernel
theorem dX9_ring_68 : decode cX9_ring 68 = .ok (.iinc 4 1, 3) := by decide +kernel
theorem dX9_ring_71 : decode cX9_ring 71 = .ok (.goto (-39), 3) := by decide +kernel
theorem dX9_ring_74 : decode cX9_ring 74 = .ok (.iload_n 2, 1) := by decide +kernel
theorem dX9_ring_75 : decode cX9_ring 75 = .ok (.ifCond .ne 11, 3) := by decide +kernel
theorem dX9_ring_78 : decode cX9_ring 78 = .ok (.aload_n 0, 1) := by decide +kernel
theorem dX9_ring_79 : decode cX9_ring 79 = .ok (.iload_n 1, 1) := by decide +kernel
theorem dX9_ring_80 : decode cX9_ring 80 = .ok (.invokevirtual 245, 3) := by decide +kernel
theorem dX9_ring_83 : decode cX9_ring 83 = .ok (.goto 35, 3) := by decide +kernel
theorem dX9_ring_86 : decode cX9_ring 86 = .ok (.iload_n 2, 1) := by decide +kernel
theorem dX9_ring_87 : decode cX9_ring 87 = .ok (.iconst 1, 1) := by decide +kernel
theorem dX9_ring_88 : decode cX9_ring 88 = .ok (.if_icmp .ne 11, 3) := by decide +kernel
theorem dX9_ring_91 : decode cX9_ring 91 = .ok (.aload_n 0, 1) := by decide +kernel
theorem dX9_ring_92 : decode cX9_ring 92 = .ok (.iload_n 1, 1) := by decide +kernel
theorem dX9_ring_93 : decode cX9_ring 93 = .ok (.invokevirtual 242, 3) := by decide +kernel
theorem dX9_ring_96 : decode cX9_ring 96 = .ok (.goto 22, 3) := by decide +kernel
theorem dX9_ring_99 : decode cX9_ring 99 = .ok (.iload_n 2, 1) := by decide +kernel
theorem dX9_ring_100 : decode cX9_ring 100 = .ok (.iconst 2, 1) := by decide +kernel
theorem dX9_ring_101 : decode cX9_ring 101 = .ok (.if_icmp .ne 7, 3) := by decide +kernel
theorem dX9_ring_104 : decode cX9_ring 104 = .ok (.iload_n 3, 1) := by decide +kernel
theorem dX9_ring_105 : decode cX9_ring 105 = .ok (.goto 13, 3) := by decide +kernel
theorem dX9_ring_108 : decode cX9_ring 108 = .ok (.aload_n 0, 1) := by decide +kernel
theorem dX9_ring_109 : decode cX9_ring 109 = .ok (.iload_n 1, 1) := by decide +kernel
theorem dX9_ring_110 : decode cX9_ring 110 = .ok (.invokevirtual 242, 3) := by decide +kernel
theorem dX9_ring_113 : decode cX9_ring 113 = .ok (.iload_n 3, 1) := by decide +kernel
theorem dX9_ring_114 : decode cX9_ring 114 = .ok (.invokestatic 280, 3) := by decide +kernel
theorem dX9_ring_117 : decode cX9_ring 117 = .ok (.isub, 1) := by decide +kernel
theorem dX9_ring_118 : decode cX9_ring 118 = .ok (.ireturn, 1) := by decide +kernel
theorem dX9_thing_0 : decode cX9_thing 0 = .ok (.aload_n 0, 1) := by decide +kernel
theorem dX9_thing_1 : decode cX9_thing 1 = .ok (.invokevirtual 153, 3) := by decide +kernel
theorem dX9_thing_4 : decode cX9_thing 4 = .ok (.aload_n 0, 1) := by decide +kernel
theorem dX9_thing_5 : decode cX9_thing 5 = .ok (.iload_n 1, 1) := by decide +kernel
theorem dX9_thing_6 : decode cX9_thing 6 = .ok (.invokevirtual 283, 3) := by decide +kernel
theorem dX9_thing_9 : decode cX9_thing 9 = .ok (.ifCond .eq 12, 3) := by decide +kernel
theorem dX9_thing_12 : decode cX9_thing 12 = .ok (.iload_n 2, 1) := by decide +kernel
theorem dX9_thing_13 : decode cX9_thing 13 = .ok (.iconst 0, 1) := by decide +kernel
theorem dX9_thing_14 : decode cX9_thing 14 = .ok (.iconst 4, 1) := by decide +kernel
theorem dX9_thing_15 : decode cX9_thing 15 = .ok (.invokestatic 135, 3) := by decide +kernel
theorem dX9_thing_18 : decode cX9_thing 18 = .ok (.ifCond .ne 9, 3) := by decide +kernel
theorem dX9_thing_21 : decode cX9_thing 21 = .ok (.aload_n 0, 1) := by decide +kernel
theorem dX9_thing_22 : decode cX9_thing 22 = .ok (.iconst 1, 1) := by decide +kernel
theorem dX9_thing_23 : decode cX9_thing 23 = .ok (.invokevirtual 156, 3) := by decide +kernel
theorem dX9_thing_26 : decode cX9_thing 26 = .ok (.ireturn, 1) := by decide +kernel
theorem dX9_thing_27 : decode cX9_thing 27 = .ok (.iload_n 2, 1) := by decide +kernel
theorem dX9_thing_28 : decode cX9_thing 28 = .ok (.tableswitch 72 0 3 #[32, 38, 48, 58], 32) := by decide +kernel
theorem dX9_thing_60 : decode cX9_thing 60 = .ok (.aload_n 0, 1) := by decide +kernel
theorem dX9_thing_61 : decode cX9_thing 61 = .ok (.iload_n 1, 1) := by decide +kernel
theorem dX9_thing_62 : decode cX9_thing 62 = .ok (.invokevirtual 255, 3) := by decide +kernel
theorem dX9_thing_65 : decode cX9_thing 65 = .ok (.ireturn, 1) := by decide +kernel
theorem dX9_thing_66 : decode cX9_thing 66 = .ok (.aload_n 0, 1) := by decide +kernel
theorem dX9_thing_67 : decode cX9_thing 67 = .ok (.getfield 26, 3) := by decide +kernel
theorem dX9_thing_70 : decode cX9_thing 70 = .ok (.iload_n 1, 1) := by decide +kernel
theorem dX9_thing_71 : decode cX9_thing 71 = .ok (.iaload, 1) := by decide +kernel
theorem dX9_thing_72 : decode cX9_thing 72 = .ok (.bipush 9, 2) := by decide +kernel
theorem dX9_thing_74 : decode cX9_thing 74 = .ok (.idiv, 1) := by decide +kernel
theorem dX9_thing_75 : decode cX9_thing 75 = .ok (.ireturn, 1) := by decide +kernel
theorem dX9_thing_76 : decode cX9_thing 76 = .ok (.aload_n 0, 1) := by decide +kernel
theorem dX9_thing_77 : decode cX9_thing 77 = .ok (.getfield 26, 3) := by decide +kernel
theorem dX9_thing_80 : decode cX9_thing 80 = .ok (.iload_n 1, 1) := by decide +kernel
theorem dX9_thing_81 : decode cX9_thing 81 = .ok (.iaload, 1) := by decide +kernel
theorem dX9_thing_82 : decode cX9_thing 82 = .ok (.bipush 9, 2) := by decide +kernel
theorem dX9_thing_84 : decode cX9_thing 84 = .ok (.irem, 1) := by decide +kernel
theorem dX9_thing_85 : decode cX9_thing 85 = .ok (.ireturn, 1) := by decide +kernel
theorem dX9_thing_86 : decode cX9_thing 86 = .ok (.aload_n 0, 1) := by decide +kernel
theorem dX9_thing_87 : decode cX9_thing 87 = .ok (.getfield 20, 3) := by decide +kernel
theorem dX9_thing_90 : decode cX9_thing 90 = .ok (.bipush 62, 2) := by decide +kernel
theorem dX9_thing_92 : decode cX9_thing 92 = .ok (.iconst 3, 1) := by decide +kernel
theorem dX9_thing_93 : decode cX9_thing 93 = .ok (.iload_n 1, 1) := by decide +kernel
theorem dX9_thing_94 : decode cX9_thing 94 = .ok (.imul, 1) := by decide +kernel
theorem dX9_thing_95 : decode cX9_thing 95 = .ok (.iadd, 1) := by decide +kernel
theorem dX9_thing_96 : decode cX9_thing 96 = .ok (.iconst 2, 1) := by decide +kernel
theorem dX9_thing_97 : decode cX9_thing 97 = .ok (.iadd, 1) := by decide +kernel
theorem dX9_thing_98 : decode cX9_thing 98 = .ok (.iaload, 1) := by decide +kernel
theorem dX9_thing_99 : decode cX9_thing 99 = .ok (.ireturn, 1) := by decide +kernel
theorem dX9_thing_100 : decode cX9_thing 100 = .ok (.aload_n 0, 1) := by decide +kernel
theorem dX9_thing_101 : decode cX9_thing 101 = .ok (.getfield 26, 3) := by decide +kernel
theorem dX9_thing_104 : decode cX9_thing 104 = .ok (.bipush 7, 2) := by decide +kernel
theorem dX9_thing_106 : decode cX9_thing 106 = .ok (.iaload, 1) := by decide +kernel
theorem dX9_thing_107 : decode cX9_thing 107 = .ok (.iload_n 1, 1) := by decide +kernel
theorem dX9_thing_108 : decode cX9_thing 108 = .ok (.ishr, 1) := by decide +kernel
theorem dX9_thing_109 : decode cX9_thing 109 = .ok (.iconst 1, 1) := by decide +kernel
theorem dX9_thing_110 : decode cX9_thing 110 = .ok (.iand, 1) := by decide +kernel
theorem dX9_thing_111 : decode cX9_thing 111 = .ok (.ireturn, 1) := by decide +kernel
theorem dX9_at_0 : decode cX9_at 0 = .ok (.aload_n 0, 1) := by decide +kernel
theorem dX9_at_1 : decode cX9_at 1 = .ok (.invokevirtual 153, 3) := by decide +kernel
theorem dX9_at_4 : decode cX9_at 4 = .ok (.aload_n 0, 1) := by decide +kernel
theorem dX9_at_5 : decode cX9_at 5 = .ok (.iload_n 1, 1) := by decide +kernel
theorem dX9_at_6 : decode cX9_at 6 = .ok (.iload_n 2, 1) := by decide +kernel
theorem dX9_at_7 : decode cX9_at 7 = .ok (.invokevirtual 286, 3) := by decide +kernel
theorem dX9_at_10 : decode cX9_at 10 = .ok (.ifCond .eq 20, 3) := by decide +kernel
theorem dX9_at_13 : decode cX9_at 13 = .ok (.aload_n 0, 1) := by decide +kernel
theorem dX9_at_14 : decode cX9_at 14 = .ok (.aload_n 0, 1) := by decide +kernel
theorem dX9_at_15 : decode cX9_at 15 = .ok (.getfield 26, 3) := by decide +kernel
theorem dX9_at_18 : decode cX9_at 18 = .ok (.bipush 9, 2) := by decide +kernel
theorem dX9_at_20 : decode cX9_at 20 = .ok (.iload_n 1, 1) := by decide +kernel
theorem dX9_at_21 : decode cX9_at 21 = .ok (.imul, 1) := by decide +kernel
theorem dX9_at_22 : decode cX9_at 22 = .ok (.iload_n 2, 1) := by decide +kernel
theorem dX9_at_23 : decode cX9_at 23 = .ok (.iadd, 1) := by decide +kernel
theorem dX9_at_24 : decode cX9_at 24 = .ok (.invokevirtual 258, 3) := by decide +kernel
theorem dX9_at_27 : decode cX9_at 27 = .ok (.goto 8, 3) := by decide +kernel
theorem dX9_at_30 : decode cX9_at 30 = .ok (.aload_n 0, 1) := by decide +kernel
theorem dX9_at_31 : decode cX9_at 31 = .ok (.iconst 1, 1) := by decide +kernel
theorem dX9_at_32 : decode cX9_at 32 = .ok (.invokevirtual 156, 3) := by decide +kernel
theorem dX9_at_35 : decode cX9_at 35 = .ok (.ireturn, 1) := by decide +kernel
theorem dX9_narrow_0 : decode cX9_narrow 0 = .ok (.aload_n 0, 1) := by decide +kernel
theorem dX9_narrow_1 : decode cX9_narrow 1 = .ok (.invokevirtual 153, 3) := by decide +kernel
theorem dX9_narrow_4 : decode cX9_narrow 4 = .ok (.aload_n 0, 1) := by decide +kernel
theorem dX9_narrow_5 : decode cX9_narrow 5 = .ok (.iload_n 1, 1) := by decide +kernel
theorem dX9_narrow_6 : decode cX9_narrow 6 = .ok (.iload_n 2, 1) := by decide +kernel
theorem dX9_narrow_7 : decode cX9_narrow 7 = .ok (.invokevirtual 286, 3) := by decide +kernel
theorem dX9_narrow_10 : decode cX9_narrow 10 = .ok (.ifCond .ne 9, 3) := by decide +kernel
theorem dX9_narrow_13 : decode cX9_narrow 13 = .ok (.aload_n 0, 1) := by decide +kernel
theorem dX9_narrow_14 : decode cX9_narrow 14 = .ok (.iconst 1, 1) := by decide +kernel
theorem dX9_narrow_15 : decode cX9_narrow 15 = .ok (.invokevirtual 156, 3) := by decide +kernel
theorem dX9_narrow_18 : decode cX9_narrow 18 = .ok (.ireturn, 1) := by decide +kernel
theorem dX9_narrow_19 : decode cX9_narrow 19 = .ok (.aload_n 0, 1) := by decide +kernel
theorem dX9_narrow_20 : decode cX9_narrow 20 = .ok (.getfield 20, 3) := by decide +kernel
theorem dX9_narrow_23 : decode cX9_narrow 23 = .ok (.bipush 16, 2) := by decide +kernel
theorem dX9_narrow_25 : decode cX9_narrow 25 = .ok (.bipush 9, 2) := by decide +kernel
theorem dX9_narrow_27 : decode cX9_narrow 27 = .ok (.iload_n 1, 1) := by decide +kernel
theorem dX9_narrow_28 : decode cX9_narrow 28 = .ok (.imul, 1) := by decide +kernel
theorem dX9_narrow_29 : decode cX9_narrow 29 = .ok (.iadd, 1) := by decide +kernel
theorem dX9_narrow_30 : decode cX9_narrow 30 = .ok (.iload_n 2, 1) := by decide +kernel
theorem dX9_narrow_31 : decode cX9_narrow 31 = .ok (.iadd, 1) := by decide +kernel
theorem dX9_narrow_32 : decode cX9_narrow 32 = .ok (.iaload, 1) := by decide +kernel
theorem dX9_narrow_33 : decode cX9_narrow 33 = .ok (.istore_n 3, 1) := by decide +kernel
theorem dX9_narrow_34 : decode cX9_narrow 34 = .ok (.iload_n 3, 1) := by decide +kernel
theorem dX9_narrow_35 : decode cX9_narrow 35 = .ok (.ifCond .ne 8, 3) := by decide +kernel
theorem dX9_narrow_38 : decode cX9_narrow 38 = .ok (.bipush (-2), 2) := by decide +kernel
theorem dX9_narrow_40 : decode cX9_narrow 40 = .ok (.goto 6, 3) := by decide +kernel
theorem dX9_narrow_43 : decode cX9_narrow 43 = .ok (.iload_n 3, 1) := by decide +kernel
theorem dX9_narrow_44 : decode cX9_narrow 44 = .ok (.iconst 1, 1) := by decide +kernel
theorem dX9_narrow_45 : decode cX9_narrow 45 = .ok (.isub, 1) := by decide +kernel
theorem dX9_narrow_46 : decode cX9_narrow 46 = .ok (.ireturn, 1) := by decide +kernel
theorem dX9_ahead_0 : decode cX9_ahead 0 = .ok (.aload_n 0, 1) := by decide +kernel
theorem dX9_ahead_1 : decode cX9_ahead 1 = .ok (.invokevirtual 153, 3) := by decide +kernel
theorem dX9_ahead_4 : decode cX9_ahead 4 = .ok (.aload_n 0, 1) := by decide +kernel
theorem dX9_ahead_5 : decode cX9_ahead 5 = .ok (.iload_n 1, 1) := by decide +kernel
theorem dX9_ahead_6 : decode cX9_ahead 6 = .ok (.invokevirtual 283, 3) := by decide +kernel
theorem dX9_ahead_9 : decode cX9_ahead 9 = .ok (.ifCond .eq 19, 3) := by decide +kernel
theorem dX9_ahead_12 : decode cX9_ahead 12 = .ok (.aload_n 0, 1) := by decide +kernel
theorem dX9_ahead_13 : decode cX9_ahead 13 = .ok (.aload_n 0, 1) := by decide +kernel
theorem dX9_ahead_14 : decode cX9_ahead 14 = .ok (.getfield 26, 3) := by decide +kernel
theorem dX9_ahead_17 : decode cX9_ahead 17 = .ok (.iload_n 1, 1) := by decide +kernel
theorem dX9_ahead_18 : decode cX9_ahead 18 = .ok (.iaload, 1) := by decide +kernel
theorem dX9_ahead_19 : decode cX9_ahead 19 = .ok (.invokevirtual 248, 3) := by decide +kernel
theorem dX9_ahead_22 : decode cX9_ahead 22 = .ok (.bipush 9, 2) := by decide +kernel
theorem dX9_ahead_24 : decode cX9_ahead 24 = .ok (.irem, 1) := by decide +kernel
theorem dX9_ahead_25 : decode cX9_ahead 25 = .ok (.goto 8, 3) := by decide +kernel
theorem dX9_ahead_28 : decode cX9_ahead 28 = .ok (.aload_n 0, 1) := by decide +kernel
theorem dX9_ahead_29 : decode cX9_ahead 29 = .ok (.iconst 1, 1) := by decide +kernel
theorem dX9_ahead_30 : decode cX9_ahead 30 = .ok (.invokevirtual 156, 3) := by decide +kernel
theorem dX9_ahead_33 : decode cX9_ahead 33 = .ok (.ireturn, 1) := by decide +kernel
theorem dX9_goes_0 : decode cX9_goes 0 = .ok (.aload_n 0, 1) := by decide +kernel
theorem dX9_goes_1 : decode cX9_goes 1 = .ok (.invokevirtual 153, 3) := by decide +kernel
theorem dX9_goes_4 : decode cX9_goes 4 = .ok (.aload_n 0, 1) := by decide +kernel
theorem dX9_goes_5 : decode cX9_goes 5 = .ok (.getfield 166, 3) := by decide +kernel
theorem dX9_goes_8 : decode cX9_goes 8 = .ok (.ifCond .eq 14, 3) := by decide +kernel
theorem dX9_goes_11 : decode cX9_goes 11 = .ok (.aload_n 0, 1) := by decide +kernel
theorem dX9_goes_12 : decode cX9_goes 12 = .ok (.aload_n 0, 1) := by decide +kernel
theorem dX9_goes_13 : decode cX9_goes 13 = .ok (.getfield 26, 3) := by decide +kernel
theorem dX9_goes_16 : decode cX9_goes 16 = .ok (.invokevirtual 273, 3) := by decide +kernel
theorem dX9_goes_19 : decode cX9_goes 19 = .ok (.goto 8, 3) := by decide +kernel
theorem dX9_goes_22 : decode cX9_goes 22 = .ok (.aload_n 0, 1) := by decide +kernel
theorem dX9_goes_23 : decode cX9_goes 23 = .ok (.iconst 1, 1) := by decide +kernel
theorem dX9_goes_24 : decode cX9_goes 24 = .ok (.invokevirtual 156, 3) := by decide +kernel
theorem dX9_goes_27 : decode cX9_goes 27 = .ok (.ireturn, 1) := by decide +kernel
theorem dX9_blocked_0 : decode cX9_blocked 0 = .ok (.aload_n 0, 1) := by decide +kernel
theorem dX9_blocked_1 : decode cX9_blocked 1 = .ok (.invokevirtual 153, 3) := by decide +kernel
theorem dX9_blocked_4 : decode cX9_blocked 4 = .ok (.aload_n 0, 1) := by decide +kernel
theorem dX9_blocked_5 : decode cX9_blocked 5 = .ok (.getfield 166, 3) := by decide +kernel
theorem dX9_blocked_8 : decode cX9_blocked 8 = .ok (.ifCond .ne 9, 3) := by decide +kernel
theorem dX9_blocked_11 : decode cX9_blocked 11 = .ok (.aload_n 0, 1) := by decide +kernel
theorem dX9_blocked_12 : decode cX9_blocked 12 = .ok (.iconst 1, 1) := by decide +kernel
theorem dX9_blocked_13 : decode cX9_blocked 13 = .ok (.invokevirtual 156, 3) := by decide +kernel
theorem dX9_blocked_16 : decode cX9_blocked 16 = .ok (.ireturn, 1) := by decide +kernel
theorem dX9_blocked_17 : decode cX9_blocked 17 = .ok (.aload_n 0, 1) := by decide +kernel
theorem dX9_blocked_18 : decode cX9_blocked 18 = .ok (.aload_n 0, 1) := by decide +kernel
theorem dX9_blocked_19 : decode cX9_blocked 19 = .ok (.getfield 26, 3) := by decide +kernel
theorem dX9_blocked_22 : decode cX9_blocked 22 = .ok (.invokevirtual 266, 3) := by decide +kernel
theorem dX9_blocked_25 : decode cX9_blocked 25 = .ok (.aload_n 0, 1) := by decide +kernel
theorem dX9_blocked_26 : decode cX9_blocked 26 = .ok (.aload_n 0, 1) := by decide +kernel
theorem dX9_blocked_27 : decode cX9_blocked 27 = .ok (.getfield 26, 3) := by decide +kernel
theorem dX9_blocked_30 : decode cX9_blocked 30 = .ok (.invokevirtual 273, 3) := by decide +kernel
theorem dX9_blocked_33 : decode cX9_blocked 33 = .ok (.ior, 1) := by decide +kernel
theorem dX9_blocked_34 : decode cX9_blocked 34 = .ok (.iconst (-1), 1) := by decide +kernel
theorem dX9_blocked_35 : decode cX9_blocked 35 = .ok (.ixor, 1) := by decide +kernel
theorem dX9_blocked_36 : decode cX9_blocked 36 = .ok (.istore_n 1, 1) := by decide +kernel
theorem dX9_blocked_37 : decode cX9_blocked 37 = .ok (.iconst 0, 1) := by decide +kernel
theorem dX9_blocked_38 : decode cX9_blocked 38 = .ok (.istore_n 2, 1) := by decide +kernel
theorem dX9_blocked_39 : decode cX9_blocked 39 = .ok (.iconst 0, 1) := by decide +kernel
theorem dX9_blocked_40 : decode cX9_blocked 40 = .ok (.istore_n 3, 1) := by decide +kernel
theorem dX9_blocked_41 : decode cX9_blocked 41 = .ok (.iload_n 3, 1) := by decide +kernel
theorem dX9_blocked_42 : decode cX9_blocked 42 = .ok (.aload_n 0, 1) := by decide +kernel
theorem dX9_blocked_43 : decode cX9_blocked 43 = .ok (.getfield 20, 3) := by decide +kernel
theorem dX9_blocked_46 : decode cX9_blocked 46 = .ok (.iconst 3, 1) := by decide +kernel
theorem dX9_blocked_47 : decode cX9_blocked 47 = .ok (.iaload, 1) := by decide +kernel
theorem dX9_blocked_48 : decode cX9_blocked 48 = .ok (.if_icmp .ge 39, 3) := by decide +kernel
theorem dX9_blocked_51 : decode cX9_blocked 51 = .ok (.iload_n 2, 1) := by decide +kernel
theorem dX9_blocked_52 : decode cX9_blocked 52 = .ok (.iload_n 1, 1) := by decide +kernel
theorem dX9_blocked_53 : decode cX9_blocked 53 = .ok (.iload_n 3, 1) := by decide +kernel
theorem dX9_blocked_54 : decode cX9_blocked 54 = .ok (.invokestatic 251, 3) := by decide +kernel
theorem dX9_blocked_57 : decode cX9_blocked 57 = .ok (.ifCond .eq 21, 3) := by decide +kernel
theorem dX9_blocked_60 : decode cX9_blocked 60 = .ok (.aload_n 0, 1) := by decide +kernel
theorem dX9_blocked_61 : decode cX9_blocked 61 = .ok (.aload_n 0, 1) := by decide +kernel
theorem dX9_blocked_62 : decode cX9_blocked 62 = .ok (.getfield 26, 3) := by decide +kernel
theorem dX9_blocked_65 : decode cX9_blocked 65 = .ok (.iload_n 3, 1) := by decide +kernel
theorem dX9_blocked_66 : decode cX9_blocked 66 = .ok (.invokevirtual 262, 3) := by decide +kernel
theorem dX9_blocked_69 : decode cX9_blocked 69 = .ok (.ifCond .eq 9, 3) := by decide +kernel
theorem dX9_blocked_72 : decode cX9_blocked 72 = .ok (.iconst 1, 1) := by decide +kernel
theorem dX9_blocked_73 : decode cX9_blocked 73 = .ok (.iload_n 3, 1) := by decide +kernel
theorem dX9_blocked_74 : decode cX9_blocked 74 = .ok (.ishl, 1) := by decide +kernel
theorem dX9_blocked_75 : decode cX9_blocked 75 = .ok (.goto 4, 3) := by decide +kernel
theorem dX9_blocked_78 : decode cX9_blocked 78 = .ok (.iconst 0, 1) := by decide +kernel
theorem dX9_blocked_79 : decode cX9_blocked 79 = .ok (.ior, 1) := by decide +kernel
theorem dX9_blocked_80 : decode cX9_blocked 80 = .ok (.istore_n 2, 1) := by decide +kernel
theorem dX9_blocked_81 : decode cX9_blocked 81 = .ok (.iinc 3 1, 3) := by decide +kernel
theorem dX9_blocked_84 : decode cX9_blocked 84 = .ok (.goto (-43), 3) := by decide +kernel
theorem dX9_blocked_87 : decode cX9_blocked 87 = .ok (.iload_n 2, 1) := by decide +kernel
theorem dX9_blocked_88 : decode cX9_blocked 88 = .ok (.ireturn, 1) := by decide +kernel
theorem dX9_meeting_0 : decode cX9_meeting 0 = .ok (.aload_n 0, 1) := by decide +kernel
theorem dX9_meeting_1 : decode cX9_meeting 1 = .ok (.invokevirtual 153, 3) := by decide +kernel
theorem dX9_meeting_4 : decode cX9_meeting 4 = .ok (.aload_n 0, 1) := by decide +kernel
theorem dX9_meeting_5 : decode cX9_meeting 5 = .ok (.getfield 166, 3) := by decide +kernel
theorem dX9_meeting_8 : decode cX9_meeting 8 = .ok (.ifCond .ne 9, 3) := by decide +kernel
theorem dX9_meeting_11 : decode cX9_meeting 11 = .ok (.aload_n 0, 1) := by decide +kernel
theorem dX9_meeting_12 : decode cX9_meeting 12 = .ok (.iconst 1, 1) := by decide +kernel
theorem dX9_meeting_13 : decode cX9_meeting 13 = .ok (.invokevirtual 156, 3) := by decide +kernel
theorem dX9_meeting_16 : decode cX9_meeting 16 = .ok (.ireturn, 1) := by decide +kernel
theorem dX9_meeting_17 : decode cX9_meeting 17 = .ok (.iconst 0, 1) := by decide +kernel
theorem dX9_meeting_18 : decode cX9_meeting 18 = .ok (.istore_n 1, 1) := by decide +kernel
theorem dX9_meeting_19 : decode cX9_meeting 19 = .ok (.iload_n 1, 1) := by decide +kernel
theorem dX9_meeting_20 : decode cX9_meeting 20 = .ok (.aload_n 0, 1) := by decide +kernel
theorem dX9_meeting_21 : decode cX9_meeting 21 = .ok (.getfield 20, 3) := by decide +kernel
theorem dX9_meeting_24 : decode cX9_meeting 24 = .ok (.iconst 3, 1) := by decide +kernel
theorem dX9_meeting_25 : decode cX9_meeting 25 = .ok (.iaload, 1) := by decide +kernel
theorem dX9_meeting_26 : decode cX9_meeting 26 = .ok (.if_icmp .ge 55, 3) := by decide +kernel
theorem dX9_meeting_29 : decode cX9_meeting 29 = .ok (.iload_n 1, 1) := by decide +kernel
theorem dX9_meeting_30 : decode cX9_meeting 30 = .ok (.iconst 1, 1) := by decide +kernel
theorem dX9_meeting_31 : decode cX9_meeting 31 = .ok (.iadd, 1) := by decide +kernel
theorem dX9_meeting_32 : decode cX9_meeting 32 = .ok (.istore_n 2, 1) := by decide +kernel
theorem dX9_meeting_33 : decode cX9_meeting 33 = .ok (.iload_n 2, 1) := by decide +kernel
theorem dX9_meeting_34 : decode cX9_meeting 34 = .ok (.aload_n 0, 1) := by decide +kernel
theorem dX9_meeting_35 : decode cX9_meeting 35 = .ok (.getfield 20, 3) := by decide +kernel
theorem dX9_meeting_38 : decode cX9_meeting 38 = .ok (.iconst 3, 1) := by decide +kernel
theorem dX9_meeting_39 : decode cX9_meeting 39 = .ok (.iaload, 1) := by decide +kernel
theorem dX9_meeting_40 : decode cX9_meeting 40 = .ok (.if_icmp .ge 35, 3) := by decide +kernel
theorem dX9_meeting_43 : decode cX9_meeting 43 = .ok (.aload_n 0, 1) := by decide +kernel
theorem dX9_meeting_44 : decode cX9_meeting 44 = .ok (.aload_n 0, 1) := by decide +kernel
theorem dX9_meeting_45 : decode cX9_meeting 45 = .ok (.getfield 26, 3) := by decide +kernel
theorem dX9_meeting_48 : decode cX9_meeting 48 = .ok (.iload_n 1, 1) := by decide +kernel
theorem dX9_meeting_49 : decode cX9_meeting 49 = .ok (.iaload, 1) := by decide +kernel
theorem dX9_meeting_50 : decode cX9_meeting 50 = .ok (.aload_n 0, 1) := by decide +kernel
theorem dX9_meeting_51 : decode cX9_meeting 51 = .ok (.getfield 26, 3) := by decide +kernel
theorem dX9_meeting_54 : decode cX9_meeting 54 = .ok (.iload_n 2, 1) := by decide +kernel
theorem dX9_meeting_55 : decode cX9_meeting 55 = .ok (.iaload, 1) := by decide +kernel
theorem dX9_meeting_56 : decode cX9_meeting 56 = .ok (.invokevirtual 289, 3) := by decide +kernel
theorem dX9_meeting_59 : decode cX9_meeting 59 = .ok (.ifCond .eq 10, 3) := by decide +kernel
theorem dX9_meeting_62 : decode cX9_meeting 62 = .ok (.bipush 10, 2) := by decide +kernel
theorem dX9_meeting_64 : decode cX9_meeting 64 = .ok (.iload_n 1, 1) := by decide +kernel
theorem dX9_meeting_65 : decode cX9_meeting 65 = .ok (.imul, 1) := by decide +kernel
theorem dX9_meeting_66 : decode cX9_meeting 66 = .ok (.iload_n 2, 1) := by decide +kernel
theorem dX9_meeting_67 : decode cX9_meeting 67 = .ok (.iadd, 1) := by decide +kernel
theorem dX9_meeting_68 : decode cX9_meeting 68 = .ok (.ireturn, 1) := by decide +kernel
theorem dX9_meeting_69 : decode cX9_meeting 69 = .ok (.iinc 2 1, 3) := by decide +kernel
theorem dX9_meeting_72 : decode cX9_meeting 72 = .ok (.goto (-39), 3) := by decide +kernel
theorem dX9_meeting_75 : decode cX9_meeting 75 = .ok (.iinc 1 1, 3) := by decide +kernel
theorem dX9_meeting_78 : decode cX9_meeting 78 = .ok (.goto (-59), 3) := by decide +kernel
theorem dX9_meeting_81 : decode cX9_meeting 81 = .ok (.bipush (-2), 2) := by decide +kernel
theorem dX9_meeting_83 : decode cX9_meeting 83 = .ok (.ireturn, 1) := by decide +kernel
theorem dX9_why_0 : decode cX9_why 0 = .ok (.iload_n 1, 1) := by decide +kernel
theorem dX9_why_1 : decode cX9_why 1 = .ok (.ifCond .ne 7, 3) := by decide +kernel
theorem dX9_why_4 : decode cX9_why 4 = .ok (.iconst 1, 1) := by decide +kernel
theorem dX9_why_5 : decode cX9_why 5 = .ok (.goto 17, 3) := by decide +kernel
theorem dX9_why_8 : decode cX9_why 8 = .ok (.iload_n 2, 1) := by decide +kernel
theorem dX9_why_9 : decode cX9_why 9 = .ok (.iconst 0, 1) := by decide +kernel
theorem dX9_why_10 : decode cX9_why 10 = .ok (.iload_n 3, 1) := by decide +kernel
theorem dX9_why_11 : decode cX9_why 11 = .ok (.invokestatic 135, 3) := by decide +kernel
theorem dX9_why_14 : decode cX9_why 14 = .ok (.ifCond .eq 7, 3) := by decide +kernel
theorem dX9_why_17 : decode cX9_why 17 = .ok (.iconst 0, 1) := by decide +kernel
theorem dX9_why_18 : decode cX9_why 18 = .ok (.goto 4, 3) := by decide +kernel
theorem dX9_why_21 : decode cX9_why 21 = .ok (.iconst 2, 1) := by decide +kernel
theorem dX9_why_22 : decode cX9_why 22 = .ok (.ireturn, 1) := by decide +kernel
theorem dX9_coded_0 : decode cX9_coded 0 = .ok (.bipush 10, 2) := by decide +kernel
theorem dX9_coded_2 : decode cX9_coded 2 = .ok (.iload_n 0, 1) := by decide +kernel
theorem dX9_coded_3 : decode cX9_coded 3 = .ok (.bipush 9, 2) := by decide +kernel
theorem dX9_coded_5 : decode cX9_coded 5 = .ok (.idiv, 1) := by decide +kernel
theorem dX9_coded_6 : decode cX9_coded 6 = .ok (.imul, 1) := by decide +kernel
theorem dX9_coded_7 : decode cX9_coded 7 = .ok (.iload_n 0, 1) := by decide +kernel
theorem dX9_coded_8 : decode cX9_coded 8 = .ok (.bipush 9, 2) := by decide +kernel
theorem dX9_coded_10 : decode cX9_coded 10 = .ok (.irem, 1) := by decide +kernel
theorem dX9_coded_11 : decode cX9_coded 11 = .ok (.iadd, 1) := by decide +kernel
theorem dX9_coded_12 : decode cX9_coded 12 = .ok (.ireturn, 1) := by decide +kernel
theorem dX9_behind_0 : decode cX9_behind 0 = .ok (.aload_n 0, 1) := by decide +kernel
theorem dX9_behind_1 : decode cX9_behind 1 = .ok (.invokevirtual 153, 3) := by decide +kernel
theorem dX9_behind_4 : decode cX9_behind 4 = .ok (.aload_n 0, 1) := by decide +kernel
theorem dX9_behind_5 : decode cX9_behind 5 = .ok (.aload_n 0, 1) := by decide +kernel
theorem dX9_behind_6 : decode cX9_behind 6 = .ok (.iload_n 1, 1) := by decide +kernel
theorem dX9_behind_7 : decode cX9_behind 7 = .ok (.invokevirtual 283, 3) := by decide +kernel
theorem dX9_behind_10 : decode cX9_behind 10 = .ok (.iload_n 2, 1) := by decide +kernel
theorem dX9_behind_11 : decode cX9_behind 11 = .ok (.sipush 200, 3) := by decide +kernel
theorem dX9_behind_14 : decode cX9_behind 14 = .ok (.invokevirtual 292, 3) := by decide +kernel
theorem dX9_behind_17 : decode cX9_behind 17 = .ok (.istore_n 3, 1) := by decide +kernel
theorem dX9_behind_18 : decode cX9_behind 18 = .ok (.iload_n 3, 1) := by decide +kernel
theorem dX9_behind_19 : decode cX9_behind 19 = .ok (.ifCond .eq 9, 3) := by decide +kernel
theorem dX9_behind_22 : decode cX9_behind 22 = .ok (.aload_n 0, 1) := by decide +kernel
theorem dX9_behind_23 : decode cX9_behind 23 = .ok (.iload_n 3, 1) := by decide +kernel
theorem dX9_behind_24 : decode cX9_behind 24 = .ok (.invokevirtual 156, 3) := by decide +kernel
theorem dX9_behind_27 : decode cX9_behind 27 = .ok (.ireturn, 1) := by decide +kernel
theorem dX9_behind_28 : decode cX9_behind 28 = .ok (.aload_n 0, 1) := by decide +kernel
theorem dX9_behind_29 : decode cX9_behind 29 = .ok (.invokevirtual 296, 3) := by decide +kernel
theorem dX9_behind_32 : decode cX9_behind 32 = .ok (.iconst 0, 1) := by decide +kernel
theorem dX9_behind_33 : decode cX9_behind 33 = .ok (.istore 4, 2) := by decide +kernel
theorem dX9_behind_35 : decode cX9_behind 35 = .ok (.iload 4, 2) := by decide +kernel
theorem dX9_behind_37 : decode cX9_behind 37 = .ok (.iload_n 2, 1) := by decide +kernel
theorem dX9_behind_38 : decode cX9_behind 38 = .ok (.if_icmp .ge 18, 3) := by decide +kernel
theorem dX9_behind_41 : decode cX9_behind 41 = .ok (.aload_n 0, 1) := by decide +kernel
theorem dX9_behind_42 : decode cX9_behind 42 = .ok (.aload_n 0, 1) := by decide +kernel
theorem dX9_behind_43 : decode cX9_behind 43 = .ok (.getfield 35, 3) := by decide +kernel
theorem dX9_behind_46 : decode cX9_behind 46 = .ok (.invokevirtual 299, 3) := by decide +kernel
theorem dX9_behind_49 : decode cX9_behind 49 = .ok (.pop, 1) := by decide +kernel
theorem dX9_behind_50 : decode cX9_behind 50 = .ok (.iinc 4 1, 3) := by decide +kernel
theorem dX9_behind_53 : decode cX9_behind 53 = .ok (.goto (-18), 3) := by decide +kernel
theorem dX9_behind_56 : decode cX9_behind 56 = .ok (.aload_n 0, 1) := by decide +kernel
theorem dX9_behind_57 : decode cX9_behind 57 = .ok (.getfield 35, 3) := by decide +kernel
theorem dX9_behind_60 : decode cX9_behind 60 = .ok (.iload_n 1, 1) := by decide +kernel
theorem dX9_behind_61 : decode cX9_behind 61 = .ok (.iaload, 1) := by decide +kernel
theorem dX9_behind_62 : decode cX9_behind 62 = .ok (.invokestatic 302, 3) := by decide +kernel
theorem dX9_behind_65 : decode cX9_behind 65 = .ok (.ireturn, 1) := by decide +kernel
theorem dX9_when_0 : decode cX9_when 0 = .ok (.aload_n 0, 1) := by decide +kernel
theorem dX9_when_1 : decode cX9_when 1 = .ok (.invokevirtual 153, 3) := by decide +kernel
theorem dX9_when_4 : decode cX9_when 4 = .ok (.aload_n 0, 1) := by decide +kernel
theorem dX9_when_5 : decode cX9_when 5 = .ok (.iload_n 1, 1) := by decide +kernel
theorem dX9_when_6 : decode cX9_when 6 = .ok (.invokevirtual 283, 3) := by decide +kernel
theorem dX9_when_9 : decode cX9_when 9 = .ok (.ifCond .eq 12, 3) := by decide +kernel
theorem dX9_when_12 : decode cX9_when 12 = .ok (.aload_n 0, 1) := by decide +kernel
theorem dX9_when_13 : decode cX9_when 13 = .ok (.iload_n 2, 1) := by decide +kernel
theorem dX9_when_14 : decode cX9_when 14 = .ok (.iload_n 3, 1) := by decide +kernel
theorem dX9_when_15 : decode cX9_when 15 = .ok (.invokevirtual 286, 3) := by decide +kernel
theorem dX9_when_18 : decode cX9_when 18 = .ok (.ifCond .ne 9, 3) := by decide +kernel
theorem dX9_when_21 : decode cX9_when 21 = .ok (.aload_n 0, 1) := by decide +kernel
theorem dX9_when_22 : decode cX9_when 22 = .ok (.iconst 1, 1) := by decide +kernel
theorem dX9_when_23 : decode cX9_when 23 = .ok (.invokevirtual 156, 3) := by decide +kernel
theorem dX9_when_26 : decode cX9_when 26 = .ok (.ireturn, 1) := by decide +kernel
theorem dX9_when_27 : decode cX9_when 27 = .ok (.aload_n 0, 1) := by decide +kernel
theorem dX9_when_28 : decode cX9_when 28 = .ok (.invokevirtual 296, 3) := by decide +kernel
theorem dX9_when_31 : decode cX9_when 31 = .ok (.iconst 0, 1) := by decide +kernel
theorem dX9_when_32 : decode cX9_when 32 = .ok (.istore 4, 2) := by decide +kernel
theorem dX9_when_34 : decode cX9_when 34 = .ok (.iload 4, 2) := by decide +kernel
theorem dX9_when_36 : decode cX9_when 36 = .ok (.sipush 200, 3) := by decide +kernel
theorem dX9_when_39 : decode cX9_when 39 = .ok (.if_icmp .gt 36, 3) := by decide +kernel
theorem dX9_when_42 : decode cX9_when 42 = .ok (.aload_n 0, 1) := by decide +kernel
theorem dX9_when_43 : decode cX9_when 43 = .ok (.getfield 35, 3) := by decide +kernel
theorem dX9_when_46 : decode cX9_when 46 = .ok (.iload_n 1, 1) := by decide +kernel
theorem dX9_when_47 : decode cX9_when 47 = .ok (.iaload, 1) := by decide +kernel
theorem dX9_when_48 : decode cX9_when 48 = .ok (.bipush 9, 2) := by decide +kernel
theorem dX9_when_50 : decode cX9_when 50 = .ok (.iload_n 2, 1) := by decide +kernel
theorem dX9_when_51 : decode cX9_when 51 = .ok (.imul, 1) := by decide +kernel
theorem dX9_when_52 : decode cX9_when 52 = .ok (.iload_n 3, 1) := by decide +kernel
theorem dX9_when_53 : decode cX9_when 53 = .ok (.iadd, 1) := by decide +kernel
theorem dX9_when_54 : decode cX9_when 54 = .ok (.if_icmp .ne 6, 3) := by decide +kernel
theorem dX9_when_57 : decode cX9_when 57 = .ok (.iload 4, 2) := by decide +kernel
theorem dX9_when_59 : decode cX9_when 59 = .ok (.ireturn, 1) := by decide +kernel
theorem dX9_when_60 : decode cX9_when 60 = .ok (.aload_n 0, 1) := by decide +kernel
theorem dX9_when_61 : decode cX9_when 61 = .ok (.aload_n 0, 1) := by decide +kernel
theorem dX9_when_62 : decode cX9_when 62 = .ok (.getfield 35, 3) := by decide +kernel
theorem dX9_when_65 : decode cX9_when 65 = .ok (.invokevirtual 299, 3) := by decide +kernel
theorem dX9_when_68 : decode cX9_when 68 = .ok (.pop, 1) := by decide +kernel
theorem dX9_when_69 : decode cX9_when 69 = .ok (.iinc 4 1, 3) := by decide +kernel
theorem dX9_when_72 : decode cX9_when 72 = .ok (.goto (-38), 3) := by decide +kernel
theorem dX9_when_75 : decode cX9_when 75 = .ok (.bipush (-2), 2) := by decide +kernel
theorem dX9_when_77 : decode cX9_when 77 = .ok (.ireturn, 1) := by decide +kernel
theorem dX9_areTwo_0 : decode cX9_areTwo 0 = .ok (.aload_n 0, 1) := by decide +kernel
theorem dX9_areTwo_1 : decode cX9_areTwo 1 = .ok (.iload_n 1, 1) := by decide +kernel
theorem dX9_areTwo_2 : decode cX9_areTwo 2 = .ok (.invokevirtual 283, 3) := by decide +kernel
theorem dX9_areTwo_5 : decode cX9_areTwo 5 = .ok (.ifCond .eq 20, 3) := by decide +kernel
theorem dX9_areTwo_8 : decode cX9_areTwo 8 = .ok (.aload_n 0, 1) := by decide +kernel
theorem dX9_areTwo_9 : decode cX9_areTwo 9 = .ok (.iload_n 2, 1) := by decide +kernel
theorem dX9_areTwo_10 : decode cX9_areTwo 10 = .ok (.invokevirtual 283, 3) := by decide +kernel
theorem dX9_areTwo_13 : decode cX9_areTwo 13 = .ok (.ifCond .eq 12, 3) := by decide +kernel
theorem dX9_areTwo_16 : decode cX9_areTwo 16 = .ok (.iload_n 1, 1) := by decide +kernel
theorem dX9_areTwo_17 : decode cX9_areTwo 17 = .ok (.iload_n 2, 1) := by decide +kernel
theorem dX9_areTwo_18 : decode cX9_areTwo 18 = .ok (.if_icmp .eq 7, 3) := by decide +kernel
theorem dX9_areTwo_21 : decode cX9_areTwo 21 = .ok (.iconst 1, 1) := by decide +kernel
theorem dX9_areTwo_22 : decode cX9_areTwo 22 = .ok (.goto 4, 3) := by decide +kernel
theorem dX9_areTwo_25 : decode cX9_areTwo 25 = .ok (.iconst 0, 1) := by decide +kernel
theorem dX9_areTwo_26 : decode cX9_areTwo 26 = .ok (.ireturn, 1) := by decide +kernel
theorem dX9_meets_0 : decode cX9_meets 0 = .ok (.aload_n 0, 1) := by decide +kernel
theorem dX9_meets_1 : decode cX9_meets 1 = .ok (.invokevirtual 153, 3) := by decide +kernel
theorem dX9_meets_4 : decode cX9_meets 4 = .ok (.aload_n 0, 1) := by decide +kernel
theorem dX9_meets_5 : decode cX9_meets 5 = .ok (.iload_n 1, 1) := by decide +kernel
theorem dX9_meets_6 : decode cX9_meets 6 = .ok (.iload_n 2, 1) := by decide +kernel
theorem dX9_meets_7 : decode cX9_meets 7 = .ok (.invokevirtual 305, 3) := by decide +kernel
theorem dX9_meets_10 : decode cX9_meets 10 = .ok (.ifCond .ne 9, 3) := by decide +kernel
theorem dX9_meets_13 : decode cX9_meets 13 = .ok (.aload_n 0, 1) := by decide +kernel
theorem dX9_meets_14 : decode cX9_meets 14 = .ok (.iconst 1, 1) := by decide +kernel
theorem dX9_meets_15 : decode cX9_meets 15 = .ok (.invokevirtual 156, 3) := by decide +kernel
theorem dX9_meets_18 : decode cX9_meets 18 = .ok (.ireturn, 1) := by decide +kernel
theorem dX9_meets_19 : decode cX9_meets 19 = .ok (.aload_n 0, 1) := by decide +kernel
theorem dX9_meets_20 : decode cX9_meets 20 = .ok (.invokevirtual 296, 3) := by decide +kernel
theorem dX9_meets_23 : decode cX9_meets 23 = .ok (.iconst 0, 1) := by decide +kernel
theorem dX9_meets_24 : decode cX9_meets 24 = .ok (.istore_n 3, 1) := by decide +kernel
theorem dX9_meets_25 : decode cX9_meets 25 = .ok (.iload_n 3, 1) := by decide +kernel
theorem dX9_meets_26 : decode cX9_meets 26 = .ok (.sipush 200, 3) := by decide +kernel
theorem dX9_meets_29 : decode cX9_meets 29 = .ok (.if_icmp .gt 39, 3) := by decide +kernel
theorem dX9_meets_32 : decode cX9_meets 32 = .ok (.aload_n 0, 1) := by decide +kernel
theorem dX9_meets_33 : decode cX9_meets 33 = .ok (.aload_n 0, 1) := by decide +kernel
theorem dX9_meets_34 : decode cX9_meets 34 = .ok (.getfield 35, 3) := by decide +kernel
theorem dX9_meets_37 : decode cX9_meets 37 = .ok (.iload_n 1, 1) := by decide +kernel
theorem dX9_meets_38 : decode cX9_meets 38 = .ok (.iaload, 1) := by decide +kernel
theorem dX9_meets_39 : decode cX9_meets 39 = .ok (.aload_n 0, 1) := by decide +kernel
theorem dX9_meets_40 : decode cX9_meets 40 = .ok (.getfield 35, 3) := by decide +kernel
theorem dX9_meets_43 : decode cX9_meets 43 = .ok (.iload_n 2, 1) := by decide +kernel
theorem dX9_meets_44 : decode cX9_meets 44 = .ok (.iaload, 1) := by decide +kernel
theorem dX9_meets_45 : decode cX9_meets 45 = .ok (.invokevirtual 289, 3) := by decide +kernel
theorem dX9_meets_48 : decode cX9_meets 48 = .ok (.ifCond .eq 5, 3) := by decide +kernel
theorem dX9_meets_51 : decode cX9_meets 51 = .ok (.iload_n 3, 1) := by decide +kernel
theorem dX9_meets_52 : decode cX9_meets 52 = .ok (.ireturn, 1) := by decide +kernel
theorem dX9_meets_53 : decode cX9_meets 53 = .ok (.aload_n 0, 1) := by decide +kernel
theorem dX9_meets_54 : decode cX9_meets 54 = .ok (.aload_n 0, 1) := by decide +kernel
theorem dX9_meets_55 : decode cX9_meets 55 = .ok (.getfield 35, 3) := by decide +kernel
theorem dX9_meets_58 : decode cX9_meets 58 = .ok (.invokevirtual 299, 3) := by decide +kernel
theorem dX9_meets_61 : decode cX9_meets 61 = .ok (.pop, 1) := by decide +kernel
theorem dX9_meets_62 : decode cX9_meets 62 = .ok (.iinc 3 1, 3) := by decide +kernel
theorem dX9_meets_65 : decode cX9_meets 65 = .ok (.goto (-40), 3) := by decide +kernel
theorem dX9_meets_68 : decode cX9_meets 68 = .ok (.bipush (-2), 2) := by decide +kernel
theorem dX9_meets_70 : decode cX9_meets 70 = .ok (.ireturn, 1) := by decide +kernel
theorem dX9_still_0 : decode cX9_still 0 = .ok (.aload_n 0, 1) := by decide +kernel
theorem dX9_still_1 : decode cX9_still 1 = .ok (.invokevirtual 153, 3) := by decide +kernel
theorem dX9_still_4 : decode cX9_still 4 = .ok (.aload_n 0, 1) := by decide +kernel
theorem dX9_still_5 : decode cX9_still 5 = .ok (.getfield 166, 3) := by decide +kernel
theorem dX9_still_8 : decode cX9_still 8 = .ok (.ifCond .ne 9, 3) := by decide +kernel
theorem dX9_still_11 : decode cX9_still 11 = .ok (.aload_n 0, 1) := by decide +kernel
theorem dX9_still_12 : decode cX9_still 12 = .ok (.iconst 1, 1) := by decide +kernel
theorem dX9_still_13 : decode cX9_still 13 = .ok (.invokevirtual 156, 3) := by decide +kernel
theorem dX9_still_16 : decode cX9_still 16 = .ok (.ireturn, 1) := by decide +kernel
theorem dX9_still_17 : decode cX9_still 17 = .ok (.aload_n 0, 1) := by decide +kernel
theorem dX9_still_18 : decode cX9_still 18 = .ok (.invokevirtual 296, 3) := by decide +kernel
theorem dX9_still_21 : decode cX9_still 21 = .ok (.iconst 0, 1) := by decide +kernel
theorem dX9_still_22 : decode cX9_still 22 = .ok (.istore_n 1, 1) := by decide +kernel
theorem dX9_still_23 : decode cX9_still 23 = .ok (.iload_n 1, 1) := by decide +kernel
theorem dX9_still_24 : decode cX9_still 24 = .ok (.sipush 200, 3) := by decide +kernel
theorem dX9_still_27 : decode cX9_still 27 = .ok (.if_icmp .gt 22, 3) := by decide +kernel
theorem dX9_still_30 : decode cX9_still 30 = .ok (.aload_n 0, 1) := by decide +kernel
theorem dX9_still_31 : decode cX9_still 31 = .ok (.aload_n 0, 1) := by decide +kernel
theorem dX9_still_32 : decode cX9_still 32 = .ok (.getfield 35, 3) := by decide +kernel
theorem dX9_still_35 : decode cX9_still 35 = .ok (.invokevirtual 299, 3) := by decide +kernel
theorem dX9_still_38 : decode cX9_still 38 = .ok (.ifCond .ne 5, 3) := by decide +kernel
theorem dX9_still_41 : decode cX9_still 41 = .ok (.iload_n 1, 1) := by decide +kernel
theorem dX9_still_42 : decode cX9_still 42 = .ok (.ireturn, 1) := by decide +kernel
theorem dX9_still_43 : decode cX9_still 43 = .ok (.iinc 1 1, 3) := by decide +kernel
theorem dX9_still_46 : decode cX9_still 46 = .ok (.goto (-23), 3) := by decide +kernel
theorem dX9_still_49 : decode cX9_still 49 = .ok (.bipush (-2), 2) := by decide +kernel
theorem dX9_still_51 : decode cX9_still 51 = .ok (.ireturn, 1) := by decide +kernel
theorem dX9_period_0 : decode cX9_period 0 = .ok (.aload_n 0, 1) := by decide +kernel
theorem dX9_period_1 : decode cX9_period 1 = .ok (.invokevirtual 153, 3) := by decide +kernel
theorem dX9_period_4 : decode cX9_period 4 = .ok (.aload_n 0, 1) := by decide +kernel
theorem dX9_period_5 : decode cX9_period 5 = .ok (.getfield 166, 3) := by decide +kernel
theorem dX9_period_8 : decode cX9_period 8 = .ok (.ifCond .ne 9, 3) := by decide +kernel
theorem dX9_period_11 : decode cX9_period 11 = .ok (.aload_n 0, 1) := by decide +kernel
theorem dX9_period_12 : decode cX9_period 12 = .ok (.iconst 1, 1) := by decide +kernel
theorem dX9_period_13 : decode cX9_period 13 = .ok (.invokevirtual 156, 3) := by decide +kernel
theorem dX9_period_16 : decode cX9_period 16 = .ok (.ireturn, 1) := by decide +kernel
theorem dX9_period_17 : decode cX9_period 17 = .ok (.aload_n 0, 1) := by decide +kernel
theorem dX9_period_18 : decode cX9_period 18 = .ok (.invokevirtual 296, 3) := by decide +kernel
theorem dX9_period_21 : decode cX9_period 21 = .ok (.iconst 1, 1) := by decide +kernel
theorem dX9_period_22 : decode cX9_period 22 = .ok (.istore_n 1, 1) := by decide +kernel
theorem dX9_period_23 : decode cX9_period 23 = .ok (.iload_n 1, 1) := by decide +kernel
theorem dX9_period_24 : decode cX9_period 24 = .ok (.sipush 200, 3) := by decide +kernel
theorem dX9_period_27 : decode cX9_period 27 = .ok (.if_icmp .gt 69, 3) := by decide +kernel
theorem dX9_period_30 : decode cX9_period 30 = .ok (.aload_n 0, 1) := by decide +kernel
theorem dX9_period_31 : decode cX9_period 31 = .ok (.aload_n 0, 1) := by decide +kernel
theorem dX9_period_32 : decode cX9_period 32 = .ok (.getfield 35, 3) := by decide +kernel
theorem dX9_period_35 : decode cX9_period 35 = .ok (.invokevirtual 299, 3) := by decide +kernel
theorem dX9_period_38 : decode cX9_period 38 = .ok (.pop, 1) := by decide +kernel
theorem dX9_period_39 : decode cX9_period 39 = .ok (.iconst 1, 1) := by decide +kernel
theorem dX9_period_40 : decode cX9_period 40 = .ok (.istore_n 2, 1) := by decide +kernel
theorem dX9_period_41 : decode cX9_period 41 = .ok (.iconst 0, 1) := by decide +kernel
theorem dX9_period_42 : decode cX9_period 42 = .ok (.istore_n 3, 1) := by decide +kernel
theorem dX9_period_43 : decode cX9_period 43 = .ok (.iload_n 3, 1) := by decide +kernel
theorem dX9_period_44 : decode cX9_period 44 = .ok (.aload_n 0, 1) := by decide +kernel
theorem dX9_period_45 : decode cX9_period 45 = .ok (.getfield 20, 3) := by decide +kernel
theorem dX9_period_48 : decode cX9_period 48 = .ok (.iconst 3, 1) := by decide +kernel
theorem dX9_period_49 : decode cX9_period 49 = .ok (.iaload, 1) := by decide +kernel
theorem dX9_period_50 : decode cX9_period 50 = .ok (.if_icmp .ge 34, 3) := by decide +kernel
theorem dX9_period_53 : decode cX9_period 53 = .ok (.iload_n 2, 1) := by decide +kernel
theorem dX9_period_54 : decode cX9_period 54 = .ok (.ifCond .eq 22, 3) := by decide +kernel
theorem dX9_period_57 : decode cX9_period 57 = .ok (.aload_n 0, 1) := by decide +kernel
theorem dX9_period_58 : decode cX9_period 58 = .ok (.getfield 35, 3) := by decide +kernel
theorem dX9_period_61 : decode cX9_period 61 = .ok (.iload_n 3, 1) := by decide +kernel
theorem dX9_period_62 : decode cX9_period 62 = .ok (.iaload, 1) := by decide +kernel
theorem dX9_period_63 : decode cX9_period 63 = .ok (.aload_n 0, 1) := by decide +kernel
theorem dX9_period_64 : decode cX9_period 64 = .ok (.getfield 26, 3) := by decide +kernel
theorem dX9_period_67 : decode cX9_period 67 = .ok (.iload_n 3, 1) := by decide +kernel
theorem dX9_period_68 : decode cX9_period 68 = .ok (.iaload, 1) := by decide +kernel
theorem dX9_period_69 : decode cX9_period 69 = .ok (.if_icmp .ne 7, 3) := by decide +kernel
theorem dX9_period_72 : decode cX9_period 72 = .ok (.iconst 1, 1) := by decide +kernel
theorem dX9_period_73 : decode cX9_period 73 = .ok (.goto 4, 3) := by decide +kernel
theorem dX9_period_76 : decode cX9_period 76 = .ok (.iconst 0, 1) := by decide +kernel
theorem dX9_period_77 : decode cX9_period 77 = .ok (.istore_n 2, 1) := by decide +kernel
theorem dX9_period_78 : decode cX9_period 78 = .ok (.iinc 3 1, 3) := by decide +kernel
theorem dX9_period_81 : decode cX9_period 81 = .ok (.goto (-38), 3) := by decide +kernel
theorem dX9_period_84 : decode cX9_period 84 = .ok (.iload_n 2, 1) := by decide +kernel
theorem dX9_period_85 : decode cX9_period 85 = .ok (.ifCond .eq 5, 3) := by decide +kernel
theorem dX9_period_88 : decode cX9_period 88 = .ok (.iload_n 1, 1) := by decide +kernel
theorem dX9_period_89 : decode cX9_period 89 = .ok (.ireturn, 1) := by decide +kernel
theorem dX9_period_90 : decode cX9_period 90 = .ok (.iinc 1 1, 3) := by decide +kernel
theorem dX9_period_93 : decode cX9_period 93 = .ok (.goto (-70), 3) := by decide +kernel
theorem dX9_period_96 : decode cX9_period 96 = .ok (.bipush (-2), 2) := by decide +kernel
theorem dX9_period_98 : decode cX9_period 98 = .ok (.ireturn, 1) := by decide +kernel
theorem dX9_steps_0 : decode cX9_steps 0 = .ok (.aload_n 0, 1) := by decide +kernel
theorem dX9_steps_1 : decode cX9_steps 1 = .ok (.invokevirtual 153, 3) := by decide +kernel
theorem dX9_steps_4 : decode cX9_steps 4 = .ok (.aload_n 0, 1) := by decide +kernel
theorem dX9_steps_5 : decode cX9_steps 5 = .ok (.aload_n 0, 1) := by decide +kernel
theorem dX9_steps_6 : decode cX9_steps 6 = .ok (.iload_n 1, 1) := by decide +kernel
theorem dX9_steps_7 : decode cX9_steps 7 = .ok (.invokevirtual 283, 3) := by decide +kernel
theorem dX9_steps_10 : decode cX9_steps 10 = .ok (.iload_n 2, 1) := by decide +kernel
theorem dX9_steps_11 : decode cX9_steps 11 = .ok (.sipush 200, 3) := by decide +kernel
theorem dX9_steps_14 : decode cX9_steps 14 = .ok (.invokevirtual 292, 3) := by decide +kernel
theorem dX9_steps_17 : decode cX9_steps 17 = .ok (.istore_n 3, 1) := by decide +kernel
theorem dX9_steps_18 : decode cX9_steps 18 = .ok (.iload_n 3, 1) := by decide +kernel
theorem dX9_steps_19 : decode cX9_steps 19 = .ok (.ifCond .eq 9, 3) := by decide +kernel
theorem dX9_steps_22 : decode cX9_steps 22 = .ok (.aload_n 0, 1) := by decide +kernel
theorem dX9_steps_23 : decode cX9_steps 23 = .ok (.iload_n 3, 1) := by decide +kernel
theorem dX9_steps_24 : decode cX9_steps 24 = .ok (.invokevirtual 156, 3) := by decide +kernel
theorem dX9_steps_27 : decode cX9_steps 27 = .ok (.ireturn, 1) := by decide +kernel
theorem dX9_steps_28 : decode cX9_steps 28 = .ok (.aload_n 0, 1) := by decide +kernel
theorem dX9_steps_29 : decode cX9_steps 29 = .ok (.invokevirtual 296, 3) := by decide +kernel
theorem dX9_steps_32 : decode cX9_steps 32 = .ok (.iconst 0, 1) := by decide +kernel
theorem dX9_steps_33 : decode cX9_steps 33 = .ok (.istore 4, 2) := by decide +kernel
theorem dX9_steps_35 : decode cX9_steps 35 = .ok (.iconst 0, 1) := by decide +kernel
theorem dX9_steps_36 : decode cX9_steps 36 = .ok (.istore 5, 2) := by decide +kernel
theorem dX9_steps_38 : decode cX9_steps 38 = .ok (.iload 5, 2) := by decide +kernel
theorem dX9_steps_40 : decode cX9_steps 40 = .ok (.iload_n 2, 1) := by decide +kernel
theorem dX9_steps_41 : decode cX9_steps 41 = .ok (.if_icmp .ge 26, 3) := by decide +kernel
theorem dX9_steps_44 : decode cX9_steps 44 = .ok (.iload 4, 2) := by decide +kernel
theorem dX9_steps_46 : decode cX9_steps 46 = .ok (.aload_n 0, 1) := by decide +kernel
theorem dX9_steps_47 : decode cX9_steps 47 = .ok (.aload_n 0, 1) := by decide +kernel
theorem dX9_steps_48 : decode cX9_steps 48 = .ok (.getfield 35, 3) := by decide +kernel
theorem dX9_steps_51 : decode cX9_steps 51 = .ok (.invokevirtual 299, 3) := by decide +kernel
theorem dX9_steps_54 : decode cX9_steps 54 = .ok (.iload_n 1, 1) := by decide +kernel
theorem dX9_steps_55 : decode cX9_steps 55 = .ok (.ishr, 1) := by decide +kernel
theorem dX9_steps_56 : decode cX9_steps 56 = .ok (.iconst 1, 1) := by decide +kernel
theorem dX9_steps_57 : decode cX9_steps 57 = .ok (.iand, 1) := by decide +kernel
theorem dX9_steps_58 : decode cX9_steps 58 = .ok (.iadd, 1) := by decide +kernel
theorem dX9_steps_59 : decode cX9_steps 59 = .ok (.istore 4, 2) := by decide +kernel
theorem dX9_steps_61 : decode cX9_steps 61 = .ok (.iinc 5 1, 3) := by decide +kernel
theorem dX9_steps_64 : decode cX9_steps 64 = .ok (.goto (-26), 3) := by decide +kernel
theorem dX9_steps_67 : decode cX9_steps 67 = .ok (.iload 4, 2) := by decide +kernel
theorem dX9_steps_69 : decode cX9_steps 69 = .ok (.ireturn, 1) := by decide +kernel
theorem dX9_meetings_0 : decode cX9_meetings 0 = .ok (.aload_n 0, 1) := by decide +kernel
theorem dX9_meetings_1 : decode cX9_meetings 1 = .ok (.invokevirtual 153, 3) := by decide +kernel
theorem dX9_meetings_4 : decode cX9_meetings 4 = .ok (.aload_n 0, 1) := by decide +kernel
theorem dX9_meetings_5 : decode cX9_meetings 5 = .ok (.aload_n 0, 1) := by decide +kernel
theorem dX9_meetings_6 : decode cX9_meetings 6 = .ok (.iload_n 1, 1) := by decide +kernel
theorem dX9_meetings_7 : decode cX9_meetings 7 = .ok (.iload_n 2, 1) := by decide +kernel
theorem dX9_meetings_8 : decode cX9_meetings 8 = .ok (.invokevirtual 305, 3) := by decide +kernel
theorem dX9_meetings_11 : decode cX9_meetings 11 = .ok (.iload_n 3, 1) := by decide +kernel
theorem dX9_meetings_12 : decode cX9_meetings 12 = .ok (.sipush 200, 3) := by decide +kernel
theorem dX9_meetings_15 : decode cX9_meetings 15 = .ok (.invokevirtual 292, 3) := by decide +kernel
theorem dX9_meetings_18 : decode cX9_meetings 18 = .ok (.istore 4, 2) := by decide +kernel
theorem dX9_meetings_20 : decode cX9_meetings 20 = .ok (.iload 4, 2) := by decide +kernel
theorem dX9_meetings_22 : decode cX9_meetings 22 = .ok (.ifCond .eq 10, 3) := by decide +kernel
theorem dX9_meetings_25 : decode cX9_meetings 25 = .ok (.aload_n 0, 1) := by decide +kernel
theorem dX9_meetings_26 : decode cX9_meetings 26 = .ok (.iload 4, 2) := by decide +kernel
theorem dX9_meetings_28 : decode cX9_meetings 28 = .ok (.invokevirtual 156, 3) := by decide +kernel
theorem dX9_meetings_31 : decode cX9_meetings 31 = .ok (.ireturn, 1) := by decide +kernel
theorem dX9_meetings_32 : decode cX9_meetings 32 = .ok (.aload_n 0, 1) := by decide +kernel
theorem dX9_meetings_33 : decode cX9_meetings 33 = .ok (.invokevirtual 296, 3) := by decide +kernel
theorem dX9_meetings_36 : decode cX9_meetings 36 = .ok (.iconst 0, 1) := by decide +kernel
theorem dX9_meetings_37 : decode cX9_meetings 37 = .ok (.istore 5, 2) := by decide +kernel
theorem dX9_meetings_39 : decode cX9_meetings 39 = .ok (.iconst 0, 1) := by decide +kernel
theorem dX9_meetings_40 : decode cX9_meetings 40 = .ok (.istore 6, 2) := by decide +kernel
theorem dX9_meetings_42 : decode cX9_meetings 42 = .ok (.iload 6, 2) := by decide +kernel
theorem dX9_meetings_44 : decode cX9_meetings 44 = .ok (.iload_n 3, 1) := by decide +kernel
theorem dX9_meetings_45 : decode cX9_meetings 45 = .ok (.if_icmp .ge 47, 3) := by decide +kernel
theorem dX9_meetings_48 : decode cX9_meetings 48 = .ok (.aload_n 0, 1) := by decide +kernel
theorem dX9_meetings_49 : decode cX9_meetings 49 = .ok (.aload_n 0, 1) := by decide +kernel
theorem dX9_meetings_50 : decode cX9_meetings 50 = .ok (.getfield 35, 3) := by decide +kernel
theorem dX9_meetings_53 : decode cX9_meetings 53 = .ok (.invokevirtual 299, 3) := by decide +kernel
theorem dX9_meetings_56 : decode cX9_meetings 56 = .ok (.pop, 1) := by decide +kernel
theorem dX9_meetings_57 : decode cX9_meetings 57 = .ok (.iload 5, 2) := by decide +kernel
theorem dX9_meetings_59 : decode cX9_meetings 59 = .ok (.aload_n 0, 1) := by decide +kernel
theorem dX9_meetings_60 : decode cX9_meetings 60 = .ok (.aload_n 0, 1) := by decide +kernel
theorem dX9_meetings_61 : decode cX9_meetings 61 = .ok (.getfield 35, 3) := by decide +kernel
theorem dX9_meetings_64 : decode cX9_meetings 64 = .ok (.iload_n 1, 1) := by decide +kernel
theorem dX9_meetings_65 : decode cX9_meetings 65 = .ok (.iaload, 1) := by decide +kernel
theorem dX9_meetings_66 : decode cX9_meetings 66 = .ok (.aload_n 0, 1) := by decide +kernel
theorem dX9_meetings_67 : decode cX9_meetings 67 = .ok (.getfield 35, 3) := by decide +kernel
theorem dX9_meetings_70 : decode cX9_meetings 70 = .ok (.iload_n 2, 1) := by decide +kernel
theorem dX9_meetings_71 : decode cX9_meetings 71 = .ok (.iaload, 1) := by decide +kernel
theorem dX9_meetings_72 : decode cX9_meetings 72 = .ok (.invokevirtual 289, 3) := by decide +kernel
theorem dX9_meetings_75 : decode cX9_meetings 75 = .ok (.ifCond .eq 7, 3) := by decide +kernel
theorem dX9_meetings_78 : decode cX9_meetings 78 = .ok (.iconst 1, 1) := by decide +kernel
theorem dX9_meetings_79 : decode cX9_meetings 79 = .ok (.goto 4, 3) := by decide +kernel
theorem dX9_meetings_82 : decode cX9_meetings 82 = .ok (.iconst 0, 1) := by decide +kernel
theorem dX9_meetings_83 : decode cX9_meetings 83 = .ok (.iadd, 1) := by decide +kernel
theorem dX9_meetings_84 : decode cX9_meetings 84 = .ok (.istore 5, 2) := by decide +kernel
theorem dX9_meetings_86 : decode cX9_meetings 86 = .ok (.iinc 6 1, 3) := by decide +kernel
theorem dX9_meetings_89 : decode cX9_meetings 89 = .ok (.goto (-47), 3) := by decide +kernel
theorem dX9_meetings_92 : decode cX9_meetings 92 = .ok (.iload 5, 2) := by decide +kernel
theorem dX9_meetings_94 : decode cX9_meetings 94 = .ok (.ireturn, 1) := by decide +kernel
theorem dX9_goneBy_0 : decode cX9_goneBy 0 = .ok (.aload_n 0, 1) := by decide +kernel
theorem dX9_goneBy_1 : decode cX9_goneBy 1 = .ok (.invokevirtual 296, 3) := by decide +kernel
theorem dX9_goneBy_4 : decode cX9_goneBy 4 = .ok (.aload_n 0, 1) := by decide +kernel
theorem dX9_goneBy_5 : decode cX9_goneBy 5 = .ok (.getfield 35, 3) := by decide +kernel
theorem dX9_goneBy_8 : decode cX9_goneBy 8 = .ok (.bipush 7, 2) := by decide +kernel
theorem dX9_goneBy_10 : decode cX9_goneBy 10 = .ok (.dup2, 1) := by decide +kernel
theorem dX9_goneBy_11 : decode cX9_goneBy 11 = .ok (.iaload, 1) := by decide +kernel
theorem dX9_goneBy_12 : decode cX9_goneBy 12 = .ok (.iload_n 1, 1) := by decide +kernel
theorem dX9_goneBy_13 : decode cX9_goneBy 13 = .ok (.ior, 1) := by decide +kernel
theorem dX9_goneBy_14 : decode cX9_goneBy 14 = .ok (.iastore, 1) := by decide +kernel
theorem dX9_goneBy_15 : decode cX9_goneBy 15 = .ok (.iconst 0, 1) := by decide +kernel
theorem dX9_goneBy_16 : decode cX9_goneBy 16 = .ok (.istore_n 3, 1) := by decide +kernel
theorem dX9_goneBy_17 : decode cX9_goneBy 17 = .ok (.iconst 0, 1) := by decide +kernel
theorem dX9_goneBy_18 : decode cX9_goneBy 18 = .ok (.istore 4, 2) := by decide +kernel
theorem dX9_goneBy_20 : decode cX9_goneBy 20 = .ok (.iload 4, 2) := by decide +kernel
theorem dX9_goneBy_22 : decode cX9_goneBy 22 = .ok (.iload_n 2, 1) := by decide +kernel
theorem dX9_goneBy_23 : decode cX9_goneBy 23 = .ok (.if_icmp .ge 23, 3) := by decide +kernel
theorem dX9_goneBy_26 : decode cX9_goneBy 26 = .ok (.iload_n 3, 1) := by decide +kernel
theorem dX9_goneBy_27 : decode cX9_goneBy 27 = .ok (.aload_n 0, 1) := by decide +kernel
theorem dX9_goneBy_28 : decode cX9_goneBy 28 = .ok (.aload_n 0, 1) := by decide +kernel
theorem dX9_goneBy_29 : decode cX9_goneBy 29 = .ok (.getfield 35, 3) := by decide +kernel
theorem dX9_goneBy_32 : decode cX9_goneBy 32 = .ok (.invokevirtual 299, 3) := by decide +kernel
theorem dX9_goneBy_35 : decode cX9_goneBy 35 = .ok (.invokestatic 280, 3) := by decide +kernel
theorem dX9_goneBy_38 : decode cX9_goneBy 38 = .ok (.iadd, 1) := by decide +kernel
theorem dX9_goneBy_39 : decode cX9_goneBy 39 = .ok (.istore_n 3, 1) := by decide +kernel
theorem dX9_goneBy_40 : decode cX9_goneBy 40 = .ok (.iinc 4 1, 3) := by decide +kernel
theorem dX9_goneBy_43 : decode cX9_goneBy 43 = .ok (.goto (-23), 3) := by decide +kernel
theorem dX9_goneBy_46 : decode cX9_goneBy 46 = .ok (.iload_n 3, 1) := by decide +kernel
theorem dX9_goneBy_47 : decode cX9_goneBy 47 = .ok (.ireturn, 1) := by decide +kernel
theorem dX9_mostMeet_0 : decode cX9_mostMeet 0 = .ok (.aload_n 0, 1) := by decide +kernel
theorem dX9_mostMeet_1 : decode cX9_mostMeet 1 = .ok (.invokevirtual 153, 3) := by decide +kernel
theorem dX9_mostMeet_4 : decode cX9_mostMeet 4 = .ok (.aload_n 0, 1) := by decide +kernel
theorem dX9_mostMeet_5 : decode cX9_mostMeet 5 = .ok (.getfield 166, 3) := by decide +kernel
theorem dX9_mostMeet_8 : decode cX9_mostMeet 8 = .ok (.ifCond .ne 9, 3) := by decide +kernel
theorem dX9_mostMeet_11 : decode cX9_mostMeet 11 = .ok (.aload_n 0, 1) := by decide +kernel
theorem dX9_mostMeet_12 : decode cX9_mostMeet 12 = .ok (.iconst 1, 1) := by decide +kernel
theorem dX9_mostMeet_13 : decode cX9_mostMeet 13 = .ok (.invokevirtual 156, 3) := by decide +kernel
theorem dX9_mostMeet_16 : decode cX9_mostMeet 16 = .ok (.ireturn, 1) := by decide +kernel
theorem dX9_mostMeet_17 : decode cX9_mostMeet 17 = .ok (.iconst 0, 1) := by decide +kernel
theorem dX9_mostMeet_18 : decode cX9_mostMeet 18 = .ok (.istore_n 1, 1) := by decide +kernel
theorem dX9_mostMeet_19 : decode cX9_mostMeet 19 = .ok (.iload_n 1, 1) := by decide +kernel
theorem dX9_mostMeet_20 : decode cX9_mostMeet 20 = .ok (.bipush 49, 2) := by decide +kernel
theorem dX9_mostMeet_22 : decode cX9_mostMeet 22 = .ok (.if_icmp .ge 16, 3) := by decide +kernel
theorem dX9_mostMeet_25 : decode cX9_mostMeet 25 = .ok (.aload_n 0, 1) := by decide +kernel
theorem dX9_mostMeet_26 : decode cX9_mostMeet 26 = .ok (.getfield 38, 3) := by decide +kernel
theorem dX9_mostMeet_29 : decode cX9_mostMeet 29 = .ok (.iload_n 1, 1) := by decide +kernel
theorem dX9_mostMeet_30 : decode cX9_mostMeet 30 = .ok (.iconst 0, 1) := by decide +kernel
theorem dX9_mostMeet_31 : decode cX9_mostMeet 31 = .ok (.iastore, 1) := by decide +kernel
theorem dX9_mostMeet_32 : decode cX9_mostMeet 32 = .ok (.iinc 1 1, 3) := by decide +kernel
theorem dX9_mostMeet_35 : decode cX9_mostMeet 35 = .ok (.goto (-16), 3) := by decide +kernel
theorem dX9_mostMeet_38 : decode cX9_mostMeet 38 = .ok (.aload_n 0, 1) := by decide +kernel
theorem dX9_mostMeet_39 : decode cX9_mostMeet 39 = .ok (.invokevirtual 296, 3) := by decide +kernel
theorem dX9_mostMeet_42 : decode cX9_mostMeet 42 = .ok (.iconst 0, 1) := by decide +kernel
theorem dX9_mostMeet_43 : decode cX9_mostMeet 43 = .ok (.istore_n 1, 1) := by decide +kernel
theorem dX9_mostMeet_44 : decode cX9_mostMeet 44 = .ok (.iload_n 1, 1) := by decide +kernel
theorem dX9_mostMeet_45 : decode cX9_mostMeet 45 = .ok (.bipush 60, 2) := by decide +kernel
theorem dX9_mostMeet_47 : decode cX9_mostMeet 47 = .ok (.if_icmp .ge 94, 3) := by decide +kernel
theorem dX9_mostMeet_50 : decode cX9_mostMeet 50 = .ok (.aload_n 0, 1) := by decide +kernel
theorem dX9_mostMeet_51 : decode cX9_mostMeet 51 = .ok (.aload_n 0, 1) := by decide +kernel
theorem dX9_mostMeet_52 : decode cX9_mostMeet 52 = .ok (.getfield 35, 3) := by decide +kernel
theorem dX9_mostMeet_55 : decode cX9_mostMeet 55 = .ok (.invokevirtual 299, 3) := by decide +kernel
theorem dX9_mostMeet_58 : decode cX9_mostMeet 58 = .ok (.pop, 1) := by decide +kernel
theorem dX9_mostMeet_59 : decode cX9_mostMeet 59 = .ok (.iconst 0, 1) := by decide +kernel
theorem dX9_mostMeet_60 : decode cX9_mostMeet 60 = .ok (.istore_n 2, 1) := by decide +kernel
theorem dX9_mostMeet_61 : decode cX9_mostMeet 61 = .ok (.iload_n 2, 1) := by decide +kernel
theorem dX9_mostMeet_62 : decode cX9_mostMeet 62 = .ok (.aload_n 0, 1) := by decide +kernel
theorem dX9_mostMeet_63 : decode cX9_mostMeet 63 = .ok (.getfield 20, 3) := by decide +kernel
theorem dX9_mostMeet_66 : decode cX9_mostMeet 66 = .ok (.iconst 3, 1) := by decide +kernel
theorem dX9_mostMeet_67 : decode cX9_mostMeet 67 = .ok (.iaload, 1) := by decide +kernel
theorem dX9_mostMeet_68 : decode cX9_mostMeet 68 = .ok (.if_icmp .ge 67, 3) := by decide +kernel
theorem dX9_mostMeet_71 : decode cX9_mostMeet 71 = .ok (.iload_n 2, 1) := by decide +kernel
theorem dX9_mostMeet_72 : decode cX9_mostMeet 72 = .ok (.iconst 1, 1) := by decide +kernel
theorem dX9_mostMeet_73 : decode cX9_mostMeet 73 = .ok (.iadd, 1) := by decide +kernel
theorem dX9_mostMeet_74 : decode cX9_mostMeet 74 = .ok (.istore_n 3, 1) := by decide +kernel
theorem dX9_mostMeet_75 : decode cX9_mostMeet 75 = .ok (.iload_n 3, 1) := by decide +kernel
theorem dX9_mostMeet_76 : decode cX9_mostMeet 76 = .ok (.aload_n 0, 1) := by decide +kernel
theorem dX9_mostMeet_77 : decode cX9_mostMeet 77 = .ok (.getfield 20, 3) := by decide +kernel
theorem dX9_mostMeet_80 : decode cX9_mostMeet 80 = .ok (.iconst 3, 1) := by decide +kernel
theorem dX9_mostMeet_81 : decode cX9_mostMeet 81 = .ok (.iaload, 1) := by decide +kernel
theorem dX9_mostMeet_82 : decode cX9_mostMeet 82 = .ok (.if_icmp .ge 47, 3) := by decide +kernel
theorem dX9_mostMeet_85 : decode cX9_mostMeet 85 = .ok (.aload_n 0, 1) := by decide +kernel
theorem dX9_mostMeet_86 : decode cX9_mostMeet 86 = .ok (.getfield 38, 3) := by decide +kernel
theorem dX9_mostMeet_89 : decode cX9_mostMeet 89 = .ok (.bipush 7, 2) := by decide +kernel
theorem dX9_mostMeet_91 : decode cX9_mostMeet 91 = .ok (.iload_n 2, 1) := by decide +kernel
theorem dX9_mostMeet_92 : decode cX9_mostMeet 92 = .ok (.imul, 1) := by decide +kernel
theorem dX9_mostMeet_93 : decode cX9_mostMeet 93 = .ok (.iload_n 3, 1) := by decide +kernel
theorem dX9_mostMeet_94 : decode cX9_mostMeet 94 = .ok (.iadd, 1) := by decide +kernel
theorem dX9_mostMeet_95 : decode cX9_mostMeet 95 = .ok (.dup2, 1) := by decide +kernel
theorem dX9_mostMeet_96 : decode cX9_mostMeet 96 = .ok (.iaload, 1) := by decide +kernel
theorem dX9_mostMeet_97 : decode cX9_mostMeet 97 = .ok (.aload_n 0, 1) := by decide +kernel
theorem dX9_mostMeet_98 : decode cX9_mostMeet 98 = .ok (.aload_n 0, 1) := by decide +kernel
theorem dX9_mostMeet_99 : decode cX9_mostMeet 99 = .ok (.getfield 35, 3) := by decide +kernel
theorem dX9_mostMeet_102 : decode cX9_mostMeet 102 = .ok (.iload_n 2, 1) := by decide +kernel
theorem dX9_mostMeet_103 : decode cX9_mostMeet 103 = .ok (.iaload, 1) := by decide +kernel
theorem dX9_mostMeet_104 : decode cX9_mostMeet 104 = .ok (.aload_n 0, 1) := by decide +kernel
theorem dX9_mostMeet_105 : decode cX9_mostMeet 105 = .ok (.getfield 35, 3) := by decide +kernel
theorem dX9_mostMeet_108 : decode cX9_mostMeet 108 = .ok (.iload_n 3, 1) := by decide +kernel
theorem dX9_mostMeet_109 : decode cX9_mostMeet 109 = .ok (.iaload, 1) := by decide +kernel
theorem dX9_mostMeet_110 : decode cX9_mostMeet 110 = .ok (.invokevirtual 289, 3) := by decide +kernel
theorem dX9_mostMeet_113 : decode cX9_mostMeet 113 = .ok (.ifCond .eq 7, 3) := by decide +kernel
theorem dX9_mostMeet_116 : decode cX9_mostMeet 116 = .ok (.iconst 1, 1) := by decide +kernel
theorem dX9_mostMeet_117 : decode cX9_mostMeet 117 = .ok (.goto 4, 3) := by decide +kernel
theorem dX9_mostMeet_120 : decode cX9_mostMeet 120 = .ok (.iconst 0, 1) := by decide +kernel
theorem dX9_mostMeet_121 : decode cX9_mostMeet 121 = .ok (.iadd, 1) := by decide +kernel
theorem dX9_mostMeet_122 : decode cX9_mostMeet 122 = .ok (.iastore, 1) := by decide +kernel
theorem dX9_mostMeet_123 : decode cX9_mostMeet 123 = .ok (.iinc 3 1, 3) := by decide +kernel
theorem dX9_mostMeet_126 : decode cX9_mostMeet 126 = .ok (.goto (-51), 3) := by decide +kernel
theorem dX9_mostMeet_129 : decode cX9_mostMeet 129 = .ok (.iinc 2 1, 3) := by decide +kernel
theorem dX9_mostMeet_132 : decode cX9_mostMeet 132 = .ok (.goto (-71), 3) := by decide +kernel
theorem dX9_mostMeet_135 : decode cX9_mostMeet 135 = .ok (.iinc 1 1, 3) := by decide +kernel
theorem dX9_mostMeet_138 : decode cX9_mostMeet 138 = .ok (.goto (-94), 3) := by decide +kernel
theorem dX9_mostMeet_141 : decode cX9_mostMeet 141 = .ok (.bipush (-2), 2) := by decide +kernel
theorem dX9_mostMeet_143 : decode cX9_mostMeet 143 = .ok (.istore_n 1, 1) := by decide +kernel
theorem dX9_mostMeet_144 : decode cX9_mostMeet 144 = .ok (.iconst 0, 1) := by decide +kernel
theorem dX9_mostMeet_145 : decode cX9_mostMeet 145 = .ok (.istore_n 2, 1) := by decide +kernel
theorem dX9_mostMeet_146 : decode cX9_mostMeet 146 = .ok (.iconst 0, 1) := by decide +kernel
theorem dX9_mostMeet_147 : decode cX9_mostMeet 147 = .ok (.istore_n 3, 1) := by decide +kernel
theorem dX9_mostMeet_148 : decode cX9_mostMeet 148 = .ok (.iload_n 3, 1) := by decide +kernel
theorem dX9_mostMeet_149 : decode cX9_mostMeet 149 = .ok (.bipush 49, 2) := by decide +kernel
theorem dX9_mostMeet_151 : decode cX9_mostMeet 151 = .ok (.if_icmp .ge 42, 3) := by decide +kernel
theorem dX9_mostMeet_154 : decode cX9_mostMeet 154 = .ok (.aload_n 0, 1) := by decide +kernel
theorem dX9_mostMeet_155 : decode cX9_mostMeet 155 = .ok (.getfield 38, 3) := by decide +kernel
theorem dX9_mostMeet_158 : decode cX9_mostMeet 158 = .ok (.iload_n 3, 1) := by decide +kernel
theorem dX9_mostMeet_159 : decode cX9_mostMeet 159 = .ok (.iaload, 1) := by decide +kernel
theorem dX9_mostMeet_160 : decode cX9_mostMeet 160 = .ok (.iload_n 2, 1) := by decide +kernel
theorem dX9_mostMeet_161 : decode cX9_mostMeet 161 = .ok (.if_icmp .gt 6, 3) := by decide +kernel
theorem dX9_mostMeet_164 : decode cX9_mostMeet 164 = .ok (.goto 23, 3) := by decide +kernel
theorem dX9_mostMeet_167 : decode cX9_mostMeet 167 = .ok (.bipush 10, 2) := by decide +kernel
theorem dX9_mostMeet_169 : decode cX9_mostMeet 169 = .ok (.iload_n 3, 1) := by decide +kernel
theorem dX9_mostMeet_170 : decode cX9_mostMeet 170 = .ok (.bipush 7, 2) := by decide +kernel
theorem dX9_mostMeet_172 : decode cX9_mostMeet 172 = .ok (.idiv, 1) := by decide +kernel
theorem dX9_mostMeet_173 : decode cX9_mostMeet 173 = .ok (.imul, 1) := by decide +kernel
theorem dX9_mostMeet_174 : decode cX9_mostMeet 174 = .ok (.iload_n 3, 1) := by decide +kernel
theorem dX9_mostMeet_175 : decode cX9_mostMeet 175 = .ok (.bipush 7, 2) := by decide +kernel
theorem dX9_mostMeet_177 : decode cX9_mostMeet 177 = .ok (.irem, 1) := by decide +kernel
theorem dX9_mostMeet_178 : decode cX9_mostMeet 178 = .ok (.iadd, 1) := by decide +kernel
theorem dX9_mostMeet_179 : decode cX9_mostMeet 179 = .ok (.istore_n 1, 1) := by decide +kernel
theorem dX9_mostMeet_180 : decode cX9_mostMeet 180 = .ok (.aload_n 0, 1) := by decide +kernel
theorem dX9_mostMeet_181 : decode cX9_mostMeet 181 = .ok (.getfield 38, 3) := by decide +kernel
theorem dX9_mostMeet_184 : decode cX9_mostMeet 184 = .ok (.iload_n 3, 1) := by decide +kernel
theorem dX9_mostMeet_185 : decode cX9_mostMeet 185 = .ok (.iaload, 1) := by decide +kernel
theorem dX9_mostMeet_186 : decode cX9_mostMeet 186 = .ok (.istore_n 2, 1) := by decide +kernel
theorem dX9_mostMeet_187 : decode cX9_mostMeet 187 = .ok (.iinc 3 1, 3) := by decide +kernel
theorem dX9_mostMeet_190 : decode cX9_mostMeet 190 = .ok (.goto (-42), 3) := by decide +kernel
theorem dX9_mostMeet_193 : decode cX9_mostMeet 193 = .ok (.iload_n 1, 1) := by decide +kernel
theorem dX9_mostMeet_194 : decode cX9_mostMeet 194 = .ok (.ireturn, 1) := by decide +kernel
theorem dX9_toWiden_0 : decode cX9_toWiden 0 = .ok (.aload_n 0, 1) := by decide +kernel
theorem dX9_toWiden_1 : decode cX9_toWiden 1 = .ok (.invokevirtual 153, 3) := by decide +kernel
theorem dX9_toWiden_4 : decode cX9_toWiden 4 = .ok (.aload_n 0, 1) := by decide +kernel
theorem dX9_toWiden_5 : decode cX9_toWiden 5 = .ok (.getfield 166, 3) := by decide +kernel
theorem dX9_toWiden_8 : decode cX9_toWiden 8 = .ok (.ifCond .ne 9, 3) := by decide +kernel
theorem dX9_toWiden_11 : decode cX9_toWiden 11 = .ok (.aload_n 0, 1) := by decide +kernel
theorem dX9_toWiden_12 : decode cX9_toWiden 12 = .ok (.iconst 1, 1) := by decide +kernel
theorem dX9_toWiden_13 : decode cX9_toWiden 13 = .ok (.invokevirtual 156, 3) := by decide +kernel
theorem dX9_toWiden_16 : decode cX9_toWiden 16 = .ok (.ireturn, 1) := by decide +kernel
theorem dX9_toWiden_17 : decode cX9_toWiden 17 = .ok (.bipush (-2), 2) := by decide +kernel
theorem dX9_toWiden_19 : decode cX9_toWiden 19 = .ok (.istore_n 1, 1) := by decide +kernel
theorem dX9_toWiden_20 : decode cX9_toWiden 20 = .ok (.aload_n 0, 1) := by decide +kernel
theorem dX9_toWiden_21 : decode cX9_toWiden 21 = .ok (.iconst 0, 1) := by decide +kernel
theorem dX9_toWiden_22 : decode cX9_toWiden 22 = .ok (.bipush 60, 2) := by decide +kernel
theorem dX9_toWiden_24 : decode cX9_toWiden 24 = .ok (.invokevirtual 308, 3) := by decide +kernel
theorem dX9_toWiden_27 : decode cX9_toWiden 27 = .ok (.istore_n 2, 1) := by decide +kernel
theorem dX9_toWiden_28 : decode cX9_toWiden 28 = .ok (.iconst 0, 1) := by decide +kernel
theorem dX9_toWiden_29 : decode cX9_toWiden 29 = .ok (.istore_n 3, 1) := by decide +kernel
theorem dX9_toWiden_30 : decode cX9_toWiden 30 = .ok (.iload_n 3, 1) := by decide +kernel
theorem dX9_toWiden_31 : decode cX9_toWiden 31 = .ok (.bipush 36, 2) := by decide +kernel
theorem dX9_toWiden_33 : decode cX9_toWiden 33 = .ok (.if_icmp .ge 75, 3) := by decide +kernel
theorem dX9_toWiden_36 : decode cX9_toWiden 36 = .ok (.aload_n 0, 1) := by decide +kernel
theorem dX9_toWiden_37 : decode cX9_toWiden 37 = .ok (.getfield 20, 3) := by decide +kernel
theorem dX9_toWiden_40 : decode cX9_toWiden 40 = .ok (.bipush 16, 2) := by decide +kernel
theorem dX9_toWiden_42 : decode cX9_toWiden 42 = .ok (.iload_n 3, 1) := by decide +kernel
theorem dX9_toWiden_43 : decode cX9_toWiden 43 = .ok (.iadd, 1) := by decide +kernel
theorem dX9_toWiden_44 : decode cX9_toWiden 44 = .ok (.iaload, 1) := by decide +kernel
theorem dX9_toWiden_45 : decode cX9_toWiden 45 = .ok (.istore 4, 2) := by decide +kernel
theorem dX9_toWiden_47 : decode cX9_toWiden 47 = .ok (.iload 4, 2) := by decide +kernel
theorem dX9_toWiden_49 : decode cX9_toWiden 49 = .ok (.ifCond .ne 6, 3) := by decide +kernel
theorem dX9_toWiden_52 : decode cX9_toWiden 52 = .ok (.goto 50, 3) := by decide +kernel
theorem dX9_toWiden_55 : decode cX9_toWiden 55 = .ok (.aload_n 0, 1) := by decide +kernel
theorem dX9_toWiden_56 : decode cX9_toWiden 56 = .ok (.getfield 20, 3) := by decide +kernel
theorem dX9_toWiden_59 : decode cX9_toWiden 59 = .ok (.bipush 16, 2) := by decide +kernel
theorem dX9_toWiden_61 : decode cX9_toWiden 61 = .ok (.iload_n 3, 1) := by decide +kernel
theorem dX9_toWiden_62 : decode cX9_toWiden 62 = .ok (.iadd, 1) := by decide +kernel
theorem dX9_toWiden_63 : decode cX9_toWiden 63 = .ok (.iconst 0, 1) := by decide +kernel
theorem dX9_toWiden_64 : decode cX9_toWiden 64 = .ok (.iastore, 1) := by decide +kernel
theorem dX9_toWiden_65 : decode cX9_toWiden 65 = .ok (.aload_n 0, 1) := by decide +kernel
theorem dX9_toWiden_66 : decode cX9_toWiden 66 = .ok (.iconst 0, 1) := by decide +kernel
theorem dX9_toWiden_67 : decode cX9_toWiden 67 = .ok (.bipush 60, 2) := by decide +kernel
theorem dX9_toWiden_69 : decode cX9_toWiden 69 = .ok (.invokevirtual 308, 3) := by decide +kernel
theorem dX9_toWiden_72 : decode cX9_toWiden 72 = .ok (.istore 5, 2) := by decide +kernel
theorem dX9_toWiden_74 : decode cX9_toWiden 74 = .ok (.aload_n 0, 1) := by decide +kernel
theorem dX9_toWiden_75 : decode cX9_toWiden 75 = .ok (.getfield 20, 3) := by decide +kernel
theorem dX9_toWiden_78 : decode cX9_toWiden 78 = .ok (.bipush 16, 2) := by decide +kernel
theorem dX9_toWiden_80 : decode cX9_toWiden 80 = .ok (.iload_n 3, 1) := by decide +kernel
theorem dX9_toWiden_81 : decode cX9_toWiden 81 = .ok (.iadd, 1) := by decide +kernel
theorem dX9_toWiden_82 : decode cX9_toWiden 82 = .ok (.iload 4, 2) := by decide +kernel
theorem dX9_toWiden_84 : decode cX9_toWiden 84 = .ok (.iastore, 1) := by decide +kernel
theorem dX9_toWiden_85 : decode cX9_toWiden 85 = .ok (.iload 5, 2) := by decide +kernel
theorem dX9_toWiden_87 : decode cX9_toWiden 87 = .ok (.iload_n 2, 1) := by decide +kernel
theorem dX9_toWiden_88 : decode cX9_toWiden 88 = .ok (.if_icmp .gt 6, 3) := by decide +kernel
theorem dX9_toWiden_91 : decode cX9_toWiden 91 = .ok (.goto 11, 3) := by decide +kernel
theorem dX9_toWiden_94 : decode cX9_toWiden 94 = .ok (.iload_n 3, 1) := by decide +kernel
theorem dX9_toWiden_95 : decode cX9_toWiden 95 = .ok (.invokestatic 302, 3) := by decide +kernel
theorem dX9_toWiden_98 : decode cX9_toWiden 98 = .ok (.istore_n 1, 1) := by decide +kernel
theorem dX9_toWiden_99 : decode cX9_toWiden 99 = .ok (.iload 5, 2) := by decide +kernel
theorem dX9_toWiden_101 : decode cX9_toWiden 101 = .ok (.istore_n 2, 1) := by decide +kernel
theorem dX9_toWiden_102 : decode cX9_toWiden 102 = .ok (.iinc 3 1, 3) := by decide +kernel
theorem dX9_toWiden_105 : decode cX9_toWiden 105 = .ok (.goto (-75), 3) := by decide +kernel
theorem dX9_toWiden_108 : decode cX9_toWiden 108 = .ok (.iload_n 1, 1) := by decide +kernel
theorem dX9_toWiden_109 : decode cX9_toWiden 109 = .ok (.ireturn, 1) := by decide +kernel
theorem dX9_worstHeld_0 : decode cX9_worstHeld 0 = .ok (.aload_n 0, 1) := by decide +kernel
theorem dX9_worstHeld_1 : decode cX9_worstHeld 1 = .ok (.invokevirtual 153, 3) := by decide +kernel
theorem dX9_worstHeld_4 : decode cX9_worstHeld 4 = .ok (.aload_n 0, 1) := by decide +kernel
theorem dX9_worstHeld_5 : decode cX9_worstHeld 5 = .ok (.aload_n 0, 1) := by decide +kernel
theorem dX9_worstHeld_6 : decode cX9_worstHeld 6 = .ok (.getfield 166, 3) := by decide +kernel
theorem dX9_worstHeld_9 : decode cX9_worstHeld 9 = .ok (.iload_n 1, 1) := by decide +kernel
theorem dX9_worstHeld_10 : decode cX9_worstHeld 10 = .ok (.bipush 60, 2) := by decide +kernel
theorem dX9_worstHeld_12 : decode cX9_worstHeld 12 = .ok (.invokevirtual 292, 3) := by decide +kernel
theorem dX9_worstHeld_15 : decode cX9_worstHeld 15 = .ok (.istore_n 2, 1) := by decide +kernel
theorem dX9_worstHeld_16 : decode cX9_worstHeld 16 = .ok (.iload_n 2, 1) := by decide +kernel
theorem dX9_worstHeld_17 : decode cX9_worstHeld 17 = .ok (.ifCond .eq 9, 3) := by decide +kernel
theorem dX9_worstHeld_20 : decode cX9_worstHeld 20 = .ok (.aload_n 0, 1) := by decide +kernel
theorem dX9_worstHeld_21 : decode cX9_worstHeld 21 = .ok (.iload_n 2, 1) := by decide +kernel
theorem dX9_worstHeld_22 : decode cX9_worstHeld 22 = .ok (.invokevirtual 156, 3) := by decide +kernel
theorem dX9_worstHeld_25 : decode cX9_worstHeld 25 = .ok (.ireturn, 1) := by decide +kernel
theorem dX9_worstHeld_26 : decode cX9_worstHeld 26 = .ok (.bipush (-2), 2) := by decide +kernel
theorem dX9_worstHeld_28 : decode cX9_worstHeld 28 = .ok (.istore_n 3, 1) := by decide +kernel
theorem dX9_worstHeld_29 : decode cX9_worstHeld 29 = .ok (.ldc_w 311, 3) := by decide +kernel
theorem dX9_worstHeld_32 : decode cX9_worstHeld 32 = .ok (.istore 4, 2) := by decide +kernel
theorem dX9_worstHeld_34 : decode cX9_worstHeld 34 = .ok (.iconst 0, 1) := by decide +kernel
theorem dX9_worstHeld_35 : decode cX9_worstHeld 35 = .ok (.istore 5, 2) := by decide +kernel
theorem dX9_worstHeld_37 : decode cX9_worstHeld 37 = .ok (.iload 5, 2) := by decide +kernel
theorem dX9_worstHeld_39 : decode cX9_worstHeld 39 = .ok (.aload_n 0, 1) := by decide +kernel
theorem dX9_worstHeld_40 : decode cX9_worstHeld 40 = .ok (.getfield 20, 3) := by decide +kernel
theorem dX9_worstHeld_43 : decode cX9_worstHeld 43 = .ok (.iconst 3, 1) := by decide +kernel
theorem dX9_worstHeld_44 : decode cX9_worstHeld 44 = .ok (.iaload, 1) := by decide +kernel
theorem dX9_worstHeld_45 : decode cX9_worstHeld 45 = .ok (.if_icmp .ge 37, 3) := by decide +kernel
theorem dX9_worstHeld_48 : decode cX9_worstHeld 48 = .ok (.aload_n 0, 1) := by decide +kernel
theorem dX9_worstHeld_49 : decode cX9_worstHeld 49 = .ok (.iconst 1, 1) := by decide +kernel
theorem dX9_worstHeld_50 : decode cX9_worstHeld 50 = .ok (.iload 5, 2) := by decide +kernel
theorem dX9_worstHeld_52 : decode cX9_worstHeld 52 = .ok (.ishl, 1) := by decide +kernel
theorem dX9_worstHeld_53 : decode cX9_worstHeld 53 = .ok (.iload_n 1, 1) := by decide +kernel
theorem dX9_worstHeld_54 : decode cX9_worstHeld 54 = .ok (.invokevirtual 308, 3) := by decide +kernel
theorem dX9_worstHeld_57 : decode cX9_worstHeld 57 = .ok (.istore 6, 2) := by decide +kernel
theorem dX9_worstHeld_59 : decode cX9_worstHeld 59 = .ok (.iload 6, 2) := by decide +kernel
theorem dX9_worstHeld_61 : decode cX9_worstHeld 61 = .ok (.iload 4, 2) := by decide +kernel
theorem dX9_worstHeld_63 : decode cX9_worstHeld 63 = .ok (.if_icmp .lt 6, 3) := by decide +kernel
theorem dX9_worstHeld_66 : decode cX9_worstHeld 66 = .ok (.goto 10, 3) := by decide +kernel
theorem dX9_worstHeld_69 : decode cX9_worstHeld 69 = .ok (.iload 5, 2) := by decide +kernel
theorem dX9_worstHeld_71 : decode cX9_worstHeld 71 = .ok (.istore_n 3, 1) := by decide +kernel
theorem dX9_worstHeld_72 : decode cX9_worstHeld 72 = .ok (.iload 6, 2) := by decide +kernel
theorem dX9_worstHeld_74 : decode cX9_worstHeld 74 = .ok (.istore 4, 2) := by decide +kernel
theorem dX9_worstHeld_76 : decode cX9_worstHeld 76 = .ok (.iinc 5 1, 3) := by decide +kernel
theorem dX9_worstHeld_79 : decode cX9_worstHeld 79 = .ok (.goto (-42), 3) := by decide +kernel
theorem dX9_worstHeld_82 : decode cX9_worstHeld 82 = .ok (.iload_n 3, 1) := by decide +kernel
theorem dX9_worstHeld_83 : decode cX9_worstHeld 83 = .ok (.ireturn, 1) := by decide +kernel
theorem dX9_isThereBy_0 : decode cX9_isThereBy 0 = .ok (.aload_n 0, 1) := by decide +kernel
theorem dX9_isThereBy_1 : decode cX9_isThereBy 1 = .ok (.invokevirtual 296, 3) := by decide +kernel
theorem dX9_isThereBy_4 : decode cX9_isThereBy 4 = .ok (.aload_n 0, 1) := by decide +kernel
theorem dX9_isThereBy_5 : decode cX9_isThereBy 5 = .ok (.getfield 35, 3) := by decide +kernel
theorem dX9_isThereBy_8 : decode cX9_isThereBy 8 = .ok (.bipush 7, 2) := by decide +kernel
theorem dX9_isThereBy_10 : decode cX9_isThereBy 10 = .ok (.dup2, 1) := by decide +kernel
theorem dX9_isThereBy_11 : decode cX9_isThereBy 11 = .ok (.iaload, 1) := by decide +kernel
theorem dX9_isThereBy_12 : decode cX9_isThereBy 12 = .ok (.iload_n 1, 1) := by decide +kernel
theorem dX9_isThereBy_13 : decode cX9_isThereBy 13 = .ok (.ior, 1) := by decide +kernel
theorem dX9_isThereBy_14 : decode cX9_isThereBy 14 = .ok (.iastore, 1) := by decide +kernel
theorem dX9_isThereBy_15 : decode cX9_isThereBy 15 = .ok (.iconst 0, 1) := by decide +kernel
theorem dX9_isThereBy_16 : decode cX9_isThereBy 16 = .ok (.istore 5, 2) := by decide +kernel
theorem dX9_isThereBy_18 : decode cX9_isThereBy 18 = .ok (.iload 5, 2) := by decide +kernel
theorem dX9_isThereBy_20 : decode cX9_isThereBy 20 = .ok (.iload 4, 2) := by decide +kernel
theorem dX9_isThereBy_22 : decode cX9_isThereBy 22 = .ok (.if_icmp .ge 18, 3) := by decide +kernel
theorem dX9_isThereBy_25 : decode cX9_isThereBy 25 = .ok (.aload_n 0, 1) := by decide +kernel
theorem dX9_isThereBy_26 : decode cX9_isThereBy 26 = .ok (.aload_n 0, 1) := by decide +kernel
theorem dX9_isThereBy_27 : decode cX9_isThereBy 27 = .ok (.getfield 35, 3) := by decide +kernel
theorem dX9_isThereBy_30 : decode cX9_isThereBy 30 = .ok (.invokevirtual 299, 3) := by decide +kernel
theorem dX9_isThereBy_33 : decode cX9_isThereBy 33 = .ok (.pop, 1) := by decide +kernel
theorem dX9_isThereBy_34 : decode cX9_isThereBy 34 = .ok (.iinc 5 1, 3) := by decide +kernel
theorem dX9_isThereBy_37 : decode cX9_isThereBy 37 = .ok (.goto (-19), 3) := by decide +kernel
theorem dX9_isThereBy_40 : decode cX9_isThereBy 40 = .ok (.aload_n 0, 1) := by decide +kernel
theorem dX9_isThereBy_41 : decode cX9_isThereBy 41 = .ok (.getfield 35, 3) := by decide +kernel
theorem dX9_isThereBy_44 : decode cX9_isThereBy 44 = .ok (.iload_n 2, 1) := by decide +kernel
theorem dX9_isThereBy_45 : decode cX9_isThereBy 45 = .ok (.iaload, 1) := by decide +kernel
theorem dX9_isThereBy_46 : decode cX9_isThereBy 46 = .ok (.iload_n 3, 1) := by decide +kernel
theorem dX9_isThereBy_47 : decode cX9_isThereBy 47 = .ok (.if_icmp .ne 7, 3) := by decide +kernel
theorem dX9_isThereBy_50 : decode cX9_isThereBy 50 = .ok (.iconst 1, 1) := by decide +kernel
theorem dX9_isThereBy_51 : decode cX9_isThereBy 51 = .ok (.goto 4, 3) := by decide +kernel
theorem dX9_isThereBy_54 : decode cX9_isThereBy 54 = .ok (.iconst 0, 1) := by decide +kernel
theorem dX9_isThereBy_55 : decode cX9_isThereBy 55 = .ok (.ireturn, 1) := by decide +kernel
theorem dX9_doMeetBy_0 : decode cX9_doMeetBy 0 = .ok (.aload_n 0, 1) := by decide +kernel
theorem dX9_doMeetBy_1 : decode cX9_doMeetBy 1 = .ok (.invokevirtual 296, 3) := by decide +kernel
theorem dX9_doMeetBy_4 : decode cX9_doMeetBy 4 = .ok (.aload_n 0, 1) := by decide +kernel
theorem dX9_doMeetBy_5 : decode cX9_doMeetBy 5 = .ok (.getfield 35, 3) := by decide +kernel
theorem dX9_doMeetBy_8 : decode cX9_doMeetBy 8 = .ok (.bipush 7, 2) := by decide +kernel
theorem dX9_doMeetBy_10 : decode cX9_doMeetBy 10 = .ok (.dup2, 1) := by decide +kernel
theorem dX9_doMeetBy_11 : decode cX9_doMeetBy 11 = .ok (.iaload, 1) := by decide +kernel
theorem dX9_doMeetBy_12 : decode cX9_doMeetBy 12 = .ok (.iload_n 1, 1) := by decide +kernel
theorem dX9_doMeetBy_13 : decode cX9_doMeetBy 13 = .ok (.ior, 1) := by decide +kernel
theorem dX9_doMeetBy_14 : decode cX9_doMeetBy 14 = .ok (.iastore, 1) := by decide +kernel
theorem dX9_doMeetBy_15 : decode cX9_doMeetBy 15 = .ok (.iconst 0, 1) := by decide +kernel
theorem dX9_doMeetBy_16 : decode cX9_doMeetBy 16 = .ok (.istore 5, 2) := by decide +kernel
theorem dX9_doMeetBy_18 : decode cX9_doMeetBy 18 = .ok (.iload 5, 2) := by decide +kernel
theorem dX9_doMeetBy_20 : decode cX9_doMeetBy 20 = .ok (.iload 4, 2) := by decide +kernel
theorem dX9_doMeetBy_22 : decode cX9_doMeetBy 22 = .ok (.if_icmp .ge 18, 3) := by decide +kernel
theorem dX9_doMeetBy_25 : decode cX9_doMeetBy 25 = .ok (.aload_n 0, 1) := by decide +kernel
theorem dX9_doMeetBy_26 : decode cX9_doMeetBy 26 = .ok (.aload_n 0, 1) := by decide +kernel
theorem dX9_doMeetBy_27 : decode cX9_doMeetBy 27 = .ok (.getfield 35, 3) := by decide +kernel
theorem dX9_doMeetBy_30 : decode cX9_doMeetBy 30 = .ok (.invokevirtual 299, 3) := by decide +kernel
theorem dX9_doMeetBy_33 : decode cX9_doMeetBy 33 = .ok (.pop, 1) := by decide +kernel
theorem dX9_doMeetBy_34 : decode cX9_doMeetBy 34 = .ok (.iinc 5 1, 3) := by decide +kernel
theorem dX9_doMeetBy_37 : decode cX9_doMeetBy 37 = .ok (.goto (-19), 3) := by decide +kernel
theorem dX9_doMeetBy_40 : decode cX9_doMeetBy 40 = .ok (.aload_n 0, 1) := by decide +kernel
theorem dX9_doMeetBy_41 : decode cX9_doMeetBy 41 = .ok (.aload_n 0, 1) := by decide +kernel
theorem dX9_doMeetBy_42 : decode cX9_doMeetBy 42 = .ok (.getfield 35, 3) := by decide +kernel
theorem dX9_doMeetBy_45 : decode cX9_doMeetBy 45 = .ok (.iload_n 2, 1) := by decide +kernel
theorem dX9_doMeetBy_46 : decode cX9_doMeetBy 46 = .ok (.iaload, 1) := by decide +kernel
theorem dX9_doMeetBy_47 : decode cX9_doMeetBy 47 = .ok (.aload_n 0, 1) := by decide +kernel
theorem dX9_doMeetBy_48 : decode cX9_doMeetBy 48 = .ok (.getfield 35, 3) := by decide +kernel
theorem dX9_doMeetBy_51 : decode cX9_doMeetBy 51 = .ok (.iload_n 3, 1) := by decide +kernel
theorem dX9_doMeetBy_52 : decode cX9_doMeetBy 52 = .ok (.iaload, 1) := by decide +kernel
theorem dX9_doMeetBy_53 : decode cX9_doMeetBy 53 = .ok (.invokevirtual 289, 3) := by decide +kernel
theorem dX9_doMeetBy_56 : decode cX9_doMeetBy 56 = .ok (.ireturn, 1) := by decide +kernel
theorem dX9_allThings_0 : decode cX9_allThings 0 = .ok (.iconst 1, 1) := by decide +kernel
theorem dX9_allThings_1 : decode cX9_allThings 1 = .ok (.aload_n 0, 1) := by decide +kernel
theorem dX9_allThings_2 : decode cX9_allThings 2 = .ok (.getfield 20, 3) := by decide +kernel
theorem dX9_allThings_5 : decode cX9_allThings 5 = .ok (.iconst 3, 1) := by decide +kernel
theorem dX9_allThings_6 : decode cX9_allThings 6 = .ok (.iaload, 1) := by decide +kernel
theorem dX9_allThings_7 : decode cX9_allThings 7 = .ok (.ishl, 1) := by decide +kernel
theorem dX9_allThings_8 : decode cX9_allThings 8 = .ok (.iconst 1, 1) := by decide +kernel
theorem dX9_allThings_9 : decode cX9_allThings 9 = .ok (.isub, 1) := by decide +kernel
theorem dX9_allThings_10 : decode cX9_allThings 10 = .ok (.ireturn, 1) := by decide +kernel
theorem dX9_holds_0 : decode cX9_holds 0 = .ok (.aload_n 0, 1) := by decide +kernel
theorem dX9_holds_1 : decode cX9_holds 1 = .ok (.invokevirtual 153, 3) := by decide +kernel
theorem dX9_holds_4 : decode cX9_holds 4 = .ok (.aload_n 0, 1) := by decide +kernel
theorem dX9_holds_5 : decode cX9_holds 5 = .ok (.aload_n 0, 1) := by decide +kernel
theorem dX9_holds_6 : decode cX9_holds 6 = .ok (.iload_n 1, 1) := by decide +kernel
theorem dX9_holds_7 : decode cX9_holds 7 = .ok (.invokevirtual 283, 3) := by decide +kernel
theorem dX9_holds_10 : decode cX9_holds 10 = .ok (.ifCond .eq 16, 3) := by decide +kernel
theorem dX9_holds_13 : decode cX9_holds 13 = .ok (.aload_n 0, 1) := by decide +kernel
theorem dX9_holds_14 : decode cX9_holds 14 = .ok (.iload_n 2, 1) := by decide +kernel
theorem dX9_holds_15 : decode cX9_holds 15 = .ok (.iload_n 3, 1) := by decide +kernel
theorem dX9_holds_16 : decode cX9_holds 16 = .ok (.invokevirtual 286, 3) := by decide +kernel
theorem dX9_holds_19 : decode cX9_holds 19 = .ok (.ifCond .eq 7, 3) := by decide +kernel
theorem dX9_holds_22 : decode cX9_holds 22 = .ok (.iconst 1, 1) := by decide +kernel
theorem dX9_holds_23 : decode cX9_holds 23 = .ok (.goto 4, 3) := by decide +kernel
theorem dX9_holds_26 : decode cX9_holds 26 = .ok (.iconst 0, 1) := by decide +kernel
theorem dX9_holds_27 : decode cX9_holds 27 = .ok (.iload 4, 2) := by decide +kernel
