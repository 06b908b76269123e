theorem dX7_share_143 : decode cX7_share 143 = .ok (.idiv, 1) := by decide +kernel
theorem dX7_share_144 : decode cX7_share 144 = .ok (.iload 5, 2) := by decide +kernel
theorem dX7_share_146 : decode cX7_share 146 = .ok (.iload 4, 2) := by decide +kernel
theorem dX7_share_148 : decode cX7_share 148 = .ok (.if_icmp .ge 7, 3) := by decide +kernel
theorem dX7_share_151 : decode cX7_share 151 = .ok (.iconst 1, 1) := by decide +kernel
theorem dX7_share_152 : decode cX7_share 152 = .ok (.goto 4, 3) := by decide +kernel
theorem dX7_share_155 : decode cX7_share 155 = .ok (.iconst 0, 1) := by decide +kernel
theorem dX7_share_156 : decode cX7_share 156 = .ok (.iadd, 1) := by decide +kernel
theorem dX7_share_157 : decode cX7_share 157 = .ok (.ireturn, 1) := by decide +kernel
theorem dX7_turnWind_0 : decode cX7_turnWind 0 = .ok (.aload_n 0, 1) := by decide +kernel
theorem dX7_turnWind_1 : decode cX7_turnWind 1 = .ok (.bipush 8, 2) := by decide +kernel
theorem dX7_turnWind_3 : decode cX7_turnWind 3 = .ok (.aload_n 0, 1) := by decide +kernel
theorem dX7_turnWind_4 : decode cX7_turnWind 4 = .ok (.bipush 6, 2) := by decide +kernel
theorem dX7_turnWind_6 : decode cX7_turnWind 6 = .ok (.iaload, 1) := by decide +kernel
theorem dX7_turnWind_7 : decode cX7_turnWind 7 = .ok (.aload_n 0, 1) := by decide +kernel
theorem dX7_turnWind_8 : decode cX7_turnWind 8 = .ok (.iconst 1, 1) := by decide +kernel
theorem dX7_turnWind_9 : decode cX7_turnWind 9 = .ok (.iaload, 1) := by decide +kernel
theorem dX7_turnWind_10 : decode cX7_turnWind 10 = .ok (.irem, 1) := by decide +kernel
theorem dX7_turnWind_11 : decode cX7_turnWind 11 = .ok (.iadd, 1) := by decide +kernel
theorem dX7_turnWind_12 : decode cX7_turnWind 12 = .ok (.iconst 4, 1) := by decide +kernel
theorem dX7_turnWind_13 : decode cX7_turnWind 13 = .ok (.aload_n 0, 1) := by decide +kernel
theorem dX7_turnWind_14 : decode cX7_turnWind 14 = .ok (.invokestatic 167, 3) := by decide +kernel
theorem dX7_turnWind_17 : decode cX7_turnWind 17 = .ok (.isub, 1) := by decide +kernel
theorem dX7_turnWind_18 : decode cX7_turnWind 18 = .ok (.iastore, 1) := by decide +kernel
theorem dX7_turnWind_19 : decode cX7_turnWind 19 = .ok (.return_, 1) := by decide +kernel
theorem dX7_afterTurns_0 : decode cX7_afterTurns 0 = .ok (.aload_n 0, 1) := by decide +kernel
theorem dX7_afterTurns_1 : decode cX7_afterTurns 1 = .ok (.getfield 19, 3) := by decide +kernel
theorem dX7_afterTurns_4 : decode cX7_afterTurns 4 = .ok (.iconst 4, 1) := by decide +kernel
theorem dX7_afterTurns_5 : decode cX7_afterTurns 5 = .ok (.iaload, 1) := by decide +kernel
theorem dX7_afterTurns_6 : decode cX7_afterTurns 6 = .ok (.iload_n 1, 1) := by decide +kernel
theorem dX7_afterTurns_7 : decode cX7_afterTurns 7 = .ok (.iadd, 1) := by decide +kernel
theorem dX7_afterTurns_8 : decode cX7_afterTurns 8 = .ok (.istore 6, 2) := by decide +kernel
theorem dX7_afterTurns_10 : decode cX7_afterTurns 10 = .ok (.aload_n 0, 1) := by decide +kernel
theorem dX7_afterTurns_11 : decode cX7_afterTurns 11 = .ok (.iload 6, 2) := by decide +kernel
theorem dX7_afterTurns_13 : decode cX7_afterTurns 13 = .ok (.invokevirtual 202, 3) := by decide +kernel
theorem dX7_afterTurns_16 : decode cX7_afterTurns 16 = .ok (.ifCond .eq 14, 3) := by decide +kernel
theorem dX7_afterTurns_19 : decode cX7_afterTurns 19 = .ok (.aload_n 0, 1) := by decide +kernel
theorem dX7_afterTurns_20 : decode cX7_afterTurns 20 = .ok (.iload 6, 2) := by decide +kernel
theorem dX7_afterTurns_22 : decode cX7_afterTurns 22 = .ok (.iload_n 3, 1) := by decide +kernel
theorem dX7_afterTurns_23 : decode cX7_afterTurns 23 = .ok (.iadd, 1) := by decide +kernel
theorem dX7_afterTurns_24 : decode cX7_afterTurns 24 = .ok (.invokevirtual 202, 3) := by decide +kernel
theorem dX7_afterTurns_27 : decode cX7_afterTurns 27 = .ok (.ifCond .ne 6, 3) := by decide +kernel
theorem dX7_afterTurns_30 : decode cX7_afterTurns 30 = .ok (.ldc 90, 2) := by decide +kernel
theorem dX7_afterTurns_32 : decode cX7_afterTurns 32 = .ok (.ireturn, 1) := by decide +kernel
theorem dX7_afterTurns_33 : decode cX7_afterTurns 33 = .ok (.aload_n 0, 1) := by decide +kernel
theorem dX7_afterTurns_34 : decode cX7_afterTurns 34 = .ok (.invokevirtual 231, 3) := by decide +kernel
theorem dX7_afterTurns_37 : decode cX7_afterTurns 37 = .ok (.iconst 0, 1) := by decide +kernel
theorem dX7_afterTurns_38 : decode cX7_afterTurns 38 = .ok (.istore 7, 2) := by decide +kernel
theorem dX7_afterTurns_40 : decode cX7_afterTurns 40 = .ok (.iload 7, 2) := by decide +kernel
theorem dX7_afterTurns_42 : decode cX7_afterTurns 42 = .ok (.iload_n 2, 1) := by decide +kernel
theorem dX7_afterTurns_43 : decode cX7_afterTurns 43 = .ok (.iload 4, 2) := by decide +kernel
theorem dX7_afterTurns_45 : decode cX7_afterTurns 45 = .ok (.iadd, 1) := by decide +kernel
theorem dX7_afterTurns_46 : decode cX7_afterTurns 46 = .ok (.if_icmp .ge 16, 3) := by decide +kernel
theorem dX7_afterTurns_49 : decode cX7_afterTurns 49 = .ok (.aload_n 0, 1) := by decide +kernel
theorem dX7_afterTurns_50 : decode cX7_afterTurns 50 = .ok (.getfield 25, 3) := by decide +kernel
theorem dX7_afterTurns_53 : decode cX7_afterTurns 53 = .ok (.invokestatic 252, 3) := by decide +kernel
theorem dX7_afterTurns_56 : decode cX7_afterTurns 56 = .ok (.iinc 7 1, 3) := by decide +kernel
theorem dX7_afterTurns_59 : decode cX7_afterTurns 59 = .ok (.goto (-19), 3) := by decide +kernel
theorem dX7_afterTurns_62 : decode cX7_afterTurns 62 = .ok (.aload_n 0, 1) := by decide +kernel
theorem dX7_afterTurns_63 : decode cX7_afterTurns 63 = .ok (.getfield 25, 3) := by decide +kernel
theorem dX7_afterTurns_66 : decode cX7_afterTurns 66 = .ok (.iload 5, 2) := by decide +kernel
theorem dX7_afterTurns_68 : decode cX7_afterTurns 68 = .ok (.invokestatic 234, 3) := by decide +kernel
theorem dX7_afterTurns_71 : decode cX7_afterTurns 71 = .ok (.aload_n 0, 1) := by decide +kernel
theorem dX7_afterTurns_72 : decode cX7_afterTurns 72 = .ok (.getfield 25, 3) := by decide +kernel
theorem dX7_afterTurns_75 : decode cX7_afterTurns 75 = .ok (.iload 6, 2) := by decide +kernel
theorem dX7_afterTurns_77 : decode cX7_afterTurns 77 = .ok (.iload_n 3, 1) := by decide +kernel
theorem dX7_afterTurns_78 : decode cX7_afterTurns 78 = .ok (.iadd, 1) := by decide +kernel
theorem dX7_afterTurns_79 : decode cX7_afterTurns 79 = .ok (.invokestatic 226, 3) := by decide +kernel
theorem dX7_afterTurns_82 : decode cX7_afterTurns 82 = .ok (.ireturn, 1) := by decide +kernel
theorem dX7_byTurns_0 : decode cX7_byTurns 0 = .ok (.aload_n 0, 1) := by decide +kernel
theorem dX7_byTurns_1 : decode cX7_byTurns 1 = .ok (.iconst 0, 1) := by decide +kernel
theorem dX7_byTurns_2 : decode cX7_byTurns 2 = .ok (.putfield 47, 3) := by decide +kernel
theorem dX7_byTurns_5 : decode cX7_byTurns 5 = .ok (.aload_n 0, 1) := by decide +kernel
theorem dX7_byTurns_6 : decode cX7_byTurns 6 = .ok (.invokevirtual 187, 3) := by decide +kernel
theorem dX7_byTurns_9 : decode cX7_byTurns 9 = .ok (.ifCond .ne 6, 3) := by decide +kernel
theorem dX7_byTurns_12 : decode cX7_byTurns 12 = .ok (.ldc 190, 2) := by decide +kernel
theorem dX7_byTurns_14 : decode cX7_byTurns 14 = .ok (.ireturn, 1) := by decide +kernel
theorem dX7_byTurns_15 : decode cX7_byTurns 15 = .ok (.iload_n 1, 1) := by decide +kernel
theorem dX7_byTurns_16 : decode cX7_byTurns 16 = .ok (.i2l, 1) := by decide +kernel
theorem dX7_byTurns_17 : decode cX7_byTurns 17 = .ok (.lconst 0, 1) := by decide +kernel
theorem dX7_byTurns_18 : decode cX7_byTurns 18 = .ok (.ldc2_w 208, 3) := by decide +kernel
theorem dX7_byTurns_21 : decode cX7_byTurns 21 = .ok (.invokestatic 57, 3) := by decide +kernel
theorem dX7_byTurns_24 : decode cX7_byTurns 24 = .ok (.ifCond .eq 15, 3) := by decide +kernel
theorem dX7_byTurns_27 : decode cX7_byTurns 27 = .ok (.iload_n 2, 1) := by decide +kernel
theorem dX7_byTurns_28 : decode cX7_byTurns 28 = .ok (.i2l, 1) := by decide +kernel
theorem dX7_byTurns_29 : decode cX7_byTurns 29 = .ok (.lconst 1, 1) := by decide +kernel
theorem dX7_byTurns_30 : decode cX7_byTurns 30 = .ok (.ldc2_w 255, 3) := by decide +kernel
theorem dX7_byTurns_33 : decode cX7_byTurns 33 = .ok (.invokestatic 57, 3) := by decide +kernel
theorem dX7_byTurns_36 : decode cX7_byTurns 36 = .ok (.ifCond .ne 6, 3) := by decide +kernel
theorem dX7_byTurns_39 : decode cX7_byTurns 39 = .ok (.ldc 67, 2) := by decide +kernel
theorem dX7_byTurns_41 : decode cX7_byTurns 41 = .ok (.ireturn, 1) := by decide +kernel
theorem dX7_byTurns_42 : decode cX7_byTurns 42 = .ok (.ldc 90, 2) := by decide +kernel
theorem dX7_byTurns_44 : decode cX7_byTurns 44 = .ok (.istore_n 3, 1) := by decide +kernel
theorem dX7_byTurns_45 : decode cX7_byTurns 45 = .ok (.iload_n 1, 1) := by decide +kernel
theorem dX7_byTurns_46 : decode cX7_byTurns 46 = .ok (.ifCond .le 7, 3) := by decide +kernel
theorem dX7_byTurns_49 : decode cX7_byTurns 49 = .ok (.iconst (-1), 1) := by decide +kernel
theorem dX7_byTurns_50 : decode cX7_byTurns 50 = .ok (.goto 4, 3) := by decide +kernel
theorem dX7_byTurns_53 : decode cX7_byTurns 53 = .ok (.iconst 0, 1) := by decide +kernel
theorem dX7_byTurns_54 : decode cX7_byTurns 54 = .ok (.istore 4, 2) := by decide +kernel
theorem dX7_byTurns_56 : decode cX7_byTurns 56 = .ok (.iload 4, 2) := by decide +kernel
theorem dX7_byTurns_58 : decode cX7_byTurns 58 = .ok (.iload_n 1, 1) := by decide +kernel
theorem dX7_byTurns_59 : decode cX7_byTurns 59 = .ok (.ifCond .le 7, 3) := by decide +kernel
theorem dX7_byTurns_62 : decode cX7_byTurns 62 = .ok (.iconst 1, 1) := by decide +kernel
theorem dX7_byTurns_63 : decode cX7_byTurns 63 = .ok (.goto 4, 3) := by decide +kernel
theorem dX7_byTurns_66 : decode cX7_byTurns 66 = .ok (.iconst 0, 1) := by decide +kernel
theorem dX7_byTurns_67 : decode cX7_byTurns 67 = .ok (.if_icmp .gt 205, 3) := by decide +kernel
theorem dX7_byTurns_70 : decode cX7_byTurns 70 = .ok (.ldc 90, 2) := by decide +kernel
theorem dX7_byTurns_72 : decode cX7_byTurns 72 = .ok (.istore 5, 2) := by decide +kernel
theorem dX7_byTurns_74 : decode cX7_byTurns 74 = .ok (.iconst 0, 1) := by decide +kernel
theorem dX7_byTurns_75 : decode cX7_byTurns 75 = .ok (.istore 6, 2) := by decide +kernel
theorem dX7_byTurns_77 : decode cX7_byTurns 77 = .ok (.iload 6, 2) := by decide +kernel
theorem dX7_byTurns_79 : decode cX7_byTurns 79 = .ok (.iload_n 1, 1) := by decide +kernel
theorem dX7_byTurns_80 : decode cX7_byTurns 80 = .ok (.iconst 1, 1) := by decide +kernel
theorem dX7_byTurns_81 : decode cX7_byTurns 81 = .ok (.if_icmp .le 7, 3) := by decide +kernel
theorem dX7_byTurns_84 : decode cX7_byTurns 84 = .ok (.iconst 1, 1) := by decide +kernel
theorem dX7_byTurns_85 : decode cX7_byTurns 85 = .ok (.goto 4, 3) := by decide +kernel
theorem dX7_byTurns_88 : decode cX7_byTurns 88 = .ok (.iconst 0, 1) := by decide +kernel
theorem dX7_byTurns_89 : decode cX7_byTurns 89 = .ok (.if_icmp .gt 151, 3) := by decide +kernel
theorem dX7_byTurns_92 : decode cX7_byTurns 92 = .ok (.ldc 90, 2) := by decide +kernel
theorem dX7_byTurns_94 : decode cX7_byTurns 94 = .ok (.istore 7, 2) := by decide +kernel
theorem dX7_byTurns_96 : decode cX7_byTurns 96 = .ok (.iload_n 1, 1) := by decide +kernel
theorem dX7_byTurns_97 : decode cX7_byTurns 97 = .ok (.iconst 2, 1) := by decide +kernel
theorem dX7_byTurns_98 : decode cX7_byTurns 98 = .ok (.if_icmp .le 7, 3) := by decide +kernel
theorem dX7_byTurns_101 : decode cX7_byTurns 101 = .ok (.iconst (-1), 1) := by decide +kernel
theorem dX7_byTurns_102 : decode cX7_byTurns 102 = .ok (.goto 4, 3) := by decide +kernel
theorem dX7_byTurns_105 : decode cX7_byTurns 105 = .ok (.iconst 0, 1) := by decide +kernel
theorem dX7_byTurns_106 : decode cX7_byTurns 106 = .ok (.istore 8, 2) := by decide +kernel
theorem dX7_byTurns_108 : decode cX7_byTurns 108 = .ok (.iload 8, 2) := by decide +kernel
theorem dX7_byTurns_110 : decode cX7_byTurns 110 = .ok (.iload_n 1, 1) := by decide +kernel
theorem dX7_byTurns_111 : decode cX7_byTurns 111 = .ok (.iconst 2, 1) := by decide +kernel
theorem dX7_byTurns_112 : decode cX7_byTurns 112 = .ok (.if_icmp .le 7, 3) := by decide +kernel
theorem dX7_byTurns_115 : decode cX7_byTurns 115 = .ok (.iconst 1, 1) := by decide +kernel
theorem dX7_byTurns_116 : decode cX7_byTurns 116 = .ok (.goto 4, 3) := by decide +kernel
theorem dX7_byTurns_119 : decode cX7_byTurns 119 = .ok (.iconst 0, 1) := by decide +kernel
theorem dX7_byTurns_120 : decode cX7_byTurns 120 = .ok (.if_icmp .gt 98, 3) := by decide +kernel
theorem dX7_byTurns_123 : decode cX7_byTurns 123 = .ok (.ldc 90, 2) := by decide +kernel
theorem dX7_byTurns_125 : decode cX7_byTurns 125 = .ok (.istore 9, 2) := by decide +kernel
theorem dX7_byTurns_127 : decode cX7_byTurns 127 = .ok (.iconst 0, 1) := by decide +kernel
theorem dX7_byTurns_128 : decode cX7_byTurns 128 = .ok (.istore 10, 2) := by decide +kernel
theorem dX7_byTurns_130 : decode cX7_byTurns 130 = .ok (.iload 10, 2) := by decide +kernel
theorem dX7_byTurns_132 : decode cX7_byTurns 132 = .ok (.iload_n 1, 1) := by decide +kernel
theorem dX7_byTurns_133 : decode cX7_byTurns 133 = .ok (.iconst 3, 1) := by decide +kernel
theorem dX7_byTurns_134 : decode cX7_byTurns 134 = .ok (.if_icmp .le 7, 3) := by decide +kernel
theorem dX7_byTurns_137 : decode cX7_byTurns 137 = .ok (.iconst 1, 1) := by decide +kernel
theorem dX7_byTurns_138 : decode cX7_byTurns 138 = .ok (.goto 4, 3) := by decide +kernel
theorem dX7_byTurns_141 : decode cX7_byTurns 141 = .ok (.iconst 0, 1) := by decide +kernel
theorem dX7_byTurns_142 : decode cX7_byTurns 142 = .ok (.if_icmp .gt 40, 3) := by decide +kernel
theorem dX7_byTurns_145 : decode cX7_byTurns 145 = .ok (.aload_n 0, 1) := by decide +kernel
theorem dX7_byTurns_146 : decode cX7_byTurns 146 = .ok (.iload 4, 2) := by decide +kernel
theorem dX7_byTurns_148 : decode cX7_byTurns 148 = .ok (.iload 6, 2) := by decide +kernel
theorem dX7_byTurns_150 : decode cX7_byTurns 150 = .ok (.iload 8, 2) := by decide +kernel
theorem dX7_byTurns_152 : decode cX7_byTurns 152 = .ok (.iload 10, 2) := by decide +kernel
theorem dX7_byTurns_154 : decode cX7_byTurns 154 = .ok (.iload_n 2, 1) := by decide +kernel
theorem dX7_byTurns_155 : decode cX7_byTurns 155 = .ok (.invokevirtual 257, 3) := by decide +kernel
theorem dX7_byTurns_158 : decode cX7_byTurns 158 = .ok (.istore 11, 2) := by decide +kernel
theorem dX7_byTurns_160 : decode cX7_byTurns 160 = .ok (.iload 11, 2) := by decide +kernel
theorem dX7_byTurns_162 : decode cX7_byTurns 162 = .ok (.iload 9, 2) := by decide +kernel
theorem dX7_byTurns_164 : decode cX7_byTurns 164 = .ok (.if_icmp .le 8, 3) := by decide +kernel
theorem dX7_byTurns_167 : decode cX7_byTurns 167 = .ok (.iload 11, 2) := by decide +kernel
theorem dX7_byTurns_169 : decode cX7_byTurns 169 = .ok (.goto 5, 3) := by decide +kernel
theorem dX7_byTurns_172 : decode cX7_byTurns 172 = .ok (.iload 9, 2) := by decide +kernel
theorem dX7_byTurns_174 : decode cX7_byTurns 174 = .ok (.istore 9, 2) := by decide +kernel
theorem dX7_byTurns_176 : decode cX7_byTurns 176 = .ok (.iinc 10 1, 3) := by decide +kernel
theorem dX7_byTurns_179 : decode cX7_byTurns 179 = .ok (.goto (-49), 3) := by decide +kernel
theorem dX7_byTurns_182 : decode cX7_byTurns 182 = .ok (.iload 9, 2) := by decide +kernel
theorem dX7_byTurns_184 : decode cX7_byTurns 184 = .ok (.ldc 90, 2) := by decide +kernel
theorem dX7_byTurns_186 : decode cX7_byTurns 186 = .ok (.if_icmp .eq 22, 3) := by decide +kernel
theorem dX7_byTurns_189 : decode cX7_byTurns 189 = .ok (.iload 7, 2) := by decide +kernel
theorem dX7_byTurns_191 : decode cX7_byTurns 191 = .ok (.ldc 90, 2) := by decide +kernel
theorem dX7_byTurns_193 : decode cX7_byTurns 193 = .ok (.if_icmp .eq 10, 3) := by decide +kernel
theorem dX7_byTurns_196 : decode cX7_byTurns 196 = .ok (.iload 9, 2) := by decide +kernel
theorem dX7_byTurns_198 : decode cX7_byTurns 198 = .ok (.iload 7, 2) := by decide +kernel
theorem dX7_byTurns_200 : decode cX7_byTurns 200 = .ok (.if_icmp .ge 8, 3) := by decide +kernel
theorem dX7_byTurns_203 : decode cX7_byTurns 203 = .ok (.iload 9, 2) := by decide +kernel
theorem dX7_byTurns_205 : decode cX7_byTurns 205 = .ok (.goto 5, 3) := by decide +kernel
theorem dX7_byTurns_208 : decode cX7_byTurns 208 = .ok (.iload 7, 2) := by decide +kernel
theorem dX7_byTurns_210 : decode cX7_byTurns 210 = .ok (.istore 7, 2) := by decide +kernel
theorem dX7_byTurns_212 : decode cX7_byTurns 212 = .ok (.iinc 8 1, 3) := by decide +kernel
theorem dX7_byTurns_215 : decode cX7_byTurns 215 = .ok (.goto (-107), 3) := by decide +kernel
theorem dX7_byTurns_218 : decode cX7_byTurns 218 = .ok (.iload 7, 2) := by decide +kernel
theorem dX7_byTurns_220 : decode cX7_byTurns 220 = .ok (.iload 5, 2) := by decide +kernel
theorem dX7_byTurns_222 : decode cX7_byTurns 222 = .ok (.if_icmp .le 8, 3) := by decide +kernel
theorem dX7_byTurns_225 : decode cX7_byTurns 225 = .ok (.iload 7, 2) := by decide +kernel
theorem dX7_byTurns_227 : decode cX7_byTurns 227 = .ok (.goto 5, 3) := by decide +kernel
theorem dX7_byTurns_230 : decode cX7_byTurns 230 = .ok (.iload 5, 2) := by decide +kernel
theorem dX7_byTurns_232 : decode cX7_byTurns 232 = .ok (.istore 5, 2) := by decide +kernel
theorem dX7_byTurns_234 : decode cX7_byTurns 234 = .ok (.iinc 6 1, 3) := by decide +kernel
theorem dX7_byTurns_237 : decode cX7_byTurns 237 = .ok (.goto (-160), 3) := by decide +kernel
theorem dX7_byTurns_240 : decode cX7_byTurns 240 = .ok (.iload 5, 2) := by decide +kernel
theorem dX7_byTurns_242 : decode cX7_byTurns 242 = .ok (.ldc 90, 2) := by decide +kernel
theorem dX7_byTurns_244 : decode cX7_byTurns 244 = .ok (.if_icmp .eq 20, 3) := by decide +kernel
theorem dX7_byTurns_247 : decode cX7_byTurns 247 = .ok (.iload_n 3, 1) := by decide +kernel
theorem dX7_byTurns_248 : decode cX7_byTurns 248 = .ok (.ldc 90, 2) := by decide +kernel
theorem dX7_byTurns_250 : decode cX7_byTurns 250 = .ok (.if_icmp .eq 9, 3) := by decide +kernel
theorem dX7_byTurns_253 : decode cX7_byTurns 253 = .ok (.iload 5, 2) := by decide +kernel
theorem dX7_byTurns_255 : decode cX7_byTurns 255 = .ok (.iload_n 3, 1) := by decide +kernel
theorem dX7_byTurns_256 : decode cX7_byTurns 256 = .ok (.if_icmp .ge 8, 3) := by decide +kernel
theorem dX7_byTurns_259 : decode cX7_byTurns 259 = .ok (.iload 5, 2) := by decide +kernel
theorem dX7_byTurns_261 : decode cX7_byTurns 261 = .ok (.goto 4, 3) := by decide +kernel
theorem dX7_byTurns_264 : decode cX7_byTurns 264 = .ok (.iload_n 3, 1) := by decide +kernel
theorem dX7_byTurns_265 : decode cX7_byTurns 265 = .ok (.istore_n 3, 1) := by decide +kernel
theorem dX7_byTurns_266 : decode cX7_byTurns 266 = .ok (.iinc 4 1, 3) := by decide +kernel
theorem dX7_byTurns_269 : decode cX7_byTurns 269 = .ok (.goto (-213), 3) := by decide +kernel
theorem dX7_byTurns_272 : decode cX7_byTurns 272 = .ok (.iload_n 3, 1) := by decide +kernel
theorem dX7_byTurns_273 : decode cX7_byTurns 273 = .ok (.ireturn, 1) := by decide +kernel
theorem dX7_rowFound_0 : decode cX7_rowFound 0 = .ok (.aload_n 0, 1) := by decide +kernel
theorem dX7_rowFound_1 : decode cX7_rowFound 1 = .ok (.getfield 7, 3) := by decide +kernel
theorem dX7_rowFound_4 : decode cX7_rowFound 4 = .ok (.iload_n 1, 1) := by decide +kernel
theorem dX7_rowFound_5 : decode cX7_rowFound 5 = .ok (.iaload, 1) := by decide +kernel
theorem dX7_rowFound_6 : decode cX7_rowFound 6 = .ok (.ifCond .ge 9, 3) := by decide +kernel
theorem dX7_rowFound_9 : decode cX7_rowFound 9 = .ok (.aload_n 0, 1) := by decide +kernel
theorem dX7_rowFound_10 : decode cX7_rowFound 10 = .ok (.iconst 1, 1) := by decide +kernel
theorem dX7_rowFound_11 : decode cX7_rowFound 11 = .ok (.invokevirtual 68, 3) := by decide +kernel
theorem dX7_rowFound_14 : decode cX7_rowFound 14 = .ok (.ireturn, 1) := by decide +kernel
theorem dX7_rowFound_15 : decode cX7_rowFound 15 = .ok (.iload_n 2, 1) := by decide +kernel
theorem dX7_rowFound_16 : decode cX7_rowFound 16 = .ok (.ifCond .lt 19, 3) := by decide +kernel
theorem dX7_rowFound_19 : decode cX7_rowFound 19 = .ok (.iload_n 2, 1) := by decide +kernel
theorem dX7_rowFound_20 : decode cX7_rowFound 20 = .ok (.i2l, 1) := by decide +kernel
theorem dX7_rowFound_21 : decode cX7_rowFound 21 = .ok (.iload_n 3, 1) := by decide +kernel
theorem dX7_rowFound_22 : decode cX7_rowFound 22 = .ok (.i2l, 1) := by decide +kernel
theorem dX7_rowFound_23 : decode cX7_rowFound 23 = .ok (.ladd, 1) := by decide +kernel
theorem dX7_rowFound_24 : decode cX7_rowFound 24 = .ok (.aload_n 0, 1) := by decide +kernel
theorem dX7_rowFound_25 : decode cX7_rowFound 25 = .ok (.getfield 13, 3) := by decide +kernel
theorem dX7_rowFound_28 : decode cX7_rowFound 28 = .ok (.iload_n 1, 1) := by decide +kernel
theorem dX7_rowFound_29 : decode cX7_rowFound 29 = .ok (.iaload, 1) := by decide +kernel
theorem dX7_rowFound_30 : decode cX7_rowFound 30 = .ok (.i2l, 1) := by decide +kernel
theorem dX7_rowFound_31 : decode cX7_rowFound 31 = .ok (.lcmp, 1) := by decide +kernel
theorem dX7_rowFound_32 : decode cX7_rowFound 32 = .ok (.ifCond .le 9, 3) := by decide +kernel
theorem dX7_rowFound_35 : decode cX7_rowFound 35 = .ok (.aload_n 0, 1) := by decide +kernel
theorem dX7_rowFound_36 : decode cX7_rowFound 36 = .ok (.iconst 2, 1) := by decide +kernel
theorem dX7_rowFound_37 : decode cX7_rowFound 37 = .ok (.invokevirtual 68, 3) := by decide +kernel
theorem dX7_rowFound_40 : decode cX7_rowFound 40 = .ok (.ireturn, 1) := by decide +kernel
theorem dX7_rowFound_41 : decode cX7_rowFound 41 = .ok (.aload_n 0, 1) := by decide +kernel
theorem dX7_rowFound_42 : decode cX7_rowFound 42 = .ok (.iconst 0, 1) := by decide +kernel
theorem dX7_rowFound_43 : decode cX7_rowFound 43 = .ok (.putfield 51, 3) := by decide +kernel
theorem dX7_rowFound_46 : decode cX7_rowFound 46 = .ok (.iconst 0, 1) := by decide +kernel
theorem dX7_rowFound_47 : decode cX7_rowFound 47 = .ok (.ireturn, 1) := by decide +kernel
theorem dX7_isMany_0 : decode cX7_isMany 0 = .ok (.iload_n 0, 1) := by decide +kernel
theorem dX7_isMany_1 : decode cX7_isMany 1 = .ok (.invokestatic 61, 3) := by decide +kernel
theorem dX7_isMany_4 : decode cX7_isMany 4 = .ok (.ifCond .eq 19, 3) := by decide +kernel
theorem dX7_isMany_7 : decode cX7_isMany 7 = .ok (.iload_n 1, 1) := by decide +kernel
theorem dX7_isMany_8 : decode cX7_isMany 8 = .ok (.i2l, 1) := by decide +kernel
theorem dX7_isMany_9 : decode cX7_isMany 9 = .ok (.lconst 1, 1) := by decide +kernel
theorem dX7_isMany_10 : decode cX7_isMany 10 = .ok (.ldc2_w 261, 3) := by decide +kernel
theorem dX7_isMany_13 : decode cX7_isMany 13 = .ok (.invokestatic 57, 3) := by decide +kernel
theorem dX7_isMany_16 : decode cX7_isMany 16 = .ok (.ifCond .eq 7, 3) := by decide +kernel
theorem dX7_isMany_19 : decode cX7_isMany 19 = .ok (.iconst 1, 1) := by decide +kernel
theorem dX7_isMany_20 : decode cX7_isMany 20 = .ok (.goto 4, 3) := by decide +kernel
theorem dX7_isMany_23 : decode cX7_isMany 23 = .ok (.iconst 0, 1) := by decide +kernel
theorem dX7_isMany_24 : decode cX7_isMany 24 = .ok (.ireturn, 1) := by decide +kernel
theorem dX7_allSo_0 : decode cX7_allSo 0 = .ok (.iconst 0, 1) := by decide +kernel
theorem dX7_allSo_1 : decode cX7_allSo 1 = .ok (.istore 6, 2) := by decide +kernel
theorem dX7_allSo_3 : decode cX7_allSo 3 = .ok (.iload_n 2, 1) := by decide +kernel
theorem dX7_allSo_4 : decode cX7_allSo 4 = .ok (.istore 7, 2) := by decide +kernel
theorem dX7_allSo_6 : decode cX7_allSo 6 = .ok (.iload 7, 2) := by decide +kernel
theorem dX7_allSo_8 : decode cX7_allSo 8 = .ok (.iload_n 3, 1) := by decide +kernel
theorem dX7_allSo_9 : decode cX7_allSo 9 = .ok (.if_icmp .gt 103, 3) := by decide +kernel
theorem dX7_allSo_12 : decode cX7_allSo 12 = .ok (.aload_n 0, 1) := by decide +kernel
theorem dX7_allSo_13 : decode cX7_allSo 13 = .ok (.invokevirtual 231, 3) := by decide +kernel
theorem dX7_allSo_16 : decode cX7_allSo 16 = .ok (.aload_n 0, 1) := by decide +kernel
theorem dX7_allSo_17 : decode cX7_allSo 17 = .ok (.getfield 25, 3) := by decide +kernel
theorem dX7_allSo_20 : decode cX7_allSo 20 = .ok (.iload_n 1, 1) := by decide +kernel
theorem dX7_allSo_21 : decode cX7_allSo 21 = .ok (.iload 7, 2) := by decide +kernel
theorem dX7_allSo_23 : decode cX7_allSo 23 = .ok (.iastore, 1) := by decide +kernel
theorem dX7_allSo_24 : decode cX7_allSo 24 = .ok (.iconst 1, 1) := by decide +kernel
theorem dX7_allSo_25 : decode cX7_allSo 25 = .ok (.istore 8, 2) := by decide +kernel
theorem dX7_allSo_27 : decode cX7_allSo 27 = .ok (.iconst 0, 1) := by decide +kernel
theorem dX7_allSo_28 : decode cX7_allSo 28 = .ok (.istore 9, 2) := by decide +kernel
theorem dX7_allSo_30 : decode cX7_allSo 30 = .ok (.iload 9, 2) := by decide +kernel
theorem dX7_allSo_32 : decode cX7_allSo 32 = .ok (.iload 5, 2) := by decide +kernel
theorem dX7_allSo_34 : decode cX7_allSo 34 = .ok (.if_icmp .ge 54, 3) := by decide +kernel
theorem dX7_allSo_37 : decode cX7_allSo 37 = .ok (.aload_n 0, 1) := by decide +kernel
theorem dX7_allSo_38 : decode cX7_allSo 38 = .ok (.getfield 25, 3) := by decide +kernel
theorem dX7_allSo_41 : decode cX7_allSo 41 = .ok (.invokestatic 183, 3) := by decide +kernel
theorem dX7_allSo_44 : decode cX7_allSo 44 = .ok (.iload 8, 2) := by decide +kernel
theorem dX7_allSo_46 : decode cX7_allSo 46 = .ok (.ifCond .eq 33, 3) := by decide +kernel
theorem dX7_allSo_49 : decode cX7_allSo 49 = .ok (.aload_n 0, 1) := by decide +kernel
theorem dX7_allSo_50 : decode cX7_allSo 50 = .ok (.getfield 25, 3) := by decide +kernel
theorem dX7_allSo_53 : decode cX7_allSo 53 = .ok (.aload_n 0, 1) := by decide +kernel
theorem dX7_allSo_54 : decode cX7_allSo 54 = .ok (.getfield 25, 3) := by decide +kernel
theorem dX7_allSo_57 : decode cX7_allSo 57 = .ok (.iconst 4, 1) := by decide +kernel
theorem dX7_allSo_58 : decode cX7_allSo 58 = .ok (.iaload, 1) := by decide +kernel
theorem dX7_allSo_59 : decode cX7_allSo 59 = .ok (.invokestatic 226, 3) := by decide +kernel
theorem dX7_allSo_62 : decode cX7_allSo 62 = .ok (.aload_n 0, 1) := by decide +kernel
theorem dX7_allSo_63 : decode cX7_allSo 63 = .ok (.getfield 16, 3) := by decide +kernel
theorem dX7_allSo_66 : decode cX7_allSo 66 = .ok (.iload 4, 2) := by decide +kernel
theorem dX7_allSo_68 : decode cX7_allSo 68 = .ok (.iload 9, 2) := by decide +kernel
theorem dX7_allSo_70 : decode cX7_allSo 70 = .ok (.iadd, 1) := by decide +kernel
theorem dX7_allSo_71 : decode cX7_allSo 71 = .ok (.iaload, 1) := by decide +kernel
theorem dX7_allSo_72 : decode cX7_allSo 72 = .ok (.if_icmp .ne 7, 3) := by decide +kernel
theorem dX7_allSo_75 : decode cX7_allSo 75 = .ok (.iconst 1, 1) := by decide +kernel
theorem dX7_allSo_76 : decode cX7_allSo 76 = .ok (.goto 4, 3) := by decide +kernel
theorem dX7_allSo_79 : decode cX7_allSo 79 = .ok (.iconst 0, 1) := by decide +kernel
theorem dX7_allSo_80 : decode cX7_allSo 80 = .ok (.istore 8, 2) := by decide +kernel
theorem dX7_allSo_82 : decode cX7_allSo 82 = .ok (.iinc 9 1, 3) := by decide +kernel
theorem dX7_allSo_85 : decode cX7_allSo 85 = .ok (.goto (-55), 3) := by decide +kernel
theorem dX7_allSo_88 : decode cX7_allSo 88 = .ok (.iload 6, 2) := by decide +kernel
theorem dX7_allSo_90 : decode cX7_allSo 90 = .ok (.iload 8, 2) := by decide +kernel
theorem dX7_allSo_92 : decode cX7_allSo 92 = .ok (.ifCond .eq 10, 3) := by decide +kernel
theorem dX7_allSo_95 : decode cX7_allSo 95 = .ok (.iconst 1, 1) := by decide +kernel
theorem dX7_allSo_96 : decode cX7_allSo 96 = .ok (.iload 7, 2) := by decide +kernel
theorem dX7_allSo_98 : decode cX7_allSo 98 = .ok (.ishl, 1) := by decide +kernel
theorem dX7_allSo_99 : decode cX7_allSo 99 = .ok (.goto 4, 3) := by decide +kernel
theorem dX7_allSo_102 : decode cX7_allSo 102 = .ok (.iconst 0, 1) := by decide +kernel
theorem dX7_allSo_103 : decode cX7_allSo 103 = .ok (.ior, 1) := by decide +kernel
theorem dX7_allSo_104 : decode cX7_allSo 104 = .ok (.istore 6, 2) := by decide +kernel
theorem dX7_allSo_106 : decode cX7_allSo 106 = .ok (.iinc 7 1, 3) := by decide +kernel
theorem dX7_allSo_109 : decode cX7_allSo 109 = .ok (.goto (-103), 3) := by decide +kernel
theorem dX7_allSo_112 : decode cX7_allSo 112 = .ok (.iload 6, 2) := by decide +kernel
theorem dX7_allSo_114 : decode cX7_allSo 114 = .ok (.ireturn, 1) := by decide +kernel
theorem dX7_who_0 : decode cX7_who 0 = .ok (.aload_n 0, 1) := by decide +kernel
theorem dX7_who_1 : decode cX7_who 1 = .ok (.iconst 0, 1) := by decide +kernel
theorem dX7_who_2 : decode cX7_who 2 = .ok (.putfield 47, 3) := by decide +kernel
theorem dX7_who_5 : decode cX7_who 5 = .ok (.aload_n 0, 1) := by decide +kernel
theorem dX7_who_6 : decode cX7_who 6 = .ok (.iload_n 1, 1) := by decide +kernel
theorem dX7_who_7 : decode cX7_who 7 = .ok (.invokevirtual 212, 3) := by decide +kernel
theorem dX7_who_10 : decode cX7_who 10 = .ok (.ifCond .eq 24, 3) := by decide +kernel
theorem dX7_who_13 : decode cX7_who 13 = .ok (.iload_n 2, 1) := by decide +kernel
theorem dX7_who_14 : decode cX7_who 14 = .ok (.i2l, 1) := by decide +kernel
theorem dX7_who_15 : decode cX7_who 15 = .ok (.lconst 0, 1) := by decide +kernel
theorem dX7_who_16 : decode cX7_who 16 = .ok (.ldc2_w 65, 3) := by decide +kernel
theorem dX7_who_19 : decode cX7_who 19 = .ok (.invokestatic 57, 3) := by decide +kernel
theorem dX7_who_22 : decode cX7_who 22 = .ok (.ifCond .eq 12, 3) := by decide +kernel
theorem dX7_who_25 : decode cX7_who 25 = .ok (.iload_n 3, 1) := by decide +kernel
theorem dX7_who_26 : decode cX7_who 26 = .ok (.iload 5, 2) := by decide +kernel
theorem dX7_who_28 : decode cX7_who 28 = .ok (.invokestatic 263, 3) := by decide +kernel
theorem dX7_who_31 : decode cX7_who 31 = .ok (.ifCond .ne 6, 3) := by decide +kernel
theorem dX7_who_34 : decode cX7_who 34 = .ok (.ldc 67, 2) := by decide +kernel
theorem dX7_who_36 : decode cX7_who 36 = .ok (.ireturn, 1) := by decide +kernel
theorem dX7_who_37 : decode cX7_who 37 = .ok (.aload_n 0, 1) := by decide +kernel
theorem dX7_who_38 : decode cX7_who 38 = .ok (.getfield 19, 3) := by decide +kernel
theorem dX7_who_41 : decode cX7_who 41 = .ok (.iload_n 1, 1) := by decide +kernel
theorem dX7_who_42 : decode cX7_who 42 = .ok (.invokestatic 156, 3) := by decide +kernel
theorem dX7_who_45 : decode cX7_who 45 = .ok (.ifCond .ne 6, 3) := by decide +kernel
theorem dX7_who_48 : decode cX7_who 48 = .ok (.ldc 190, 2) := by decide +kernel
theorem dX7_who_50 : decode cX7_who 50 = .ok (.ireturn, 1) := by decide +kernel
theorem dX7_who_51 : decode cX7_who 51 = .ok (.aload_n 0, 1) := by decide +kernel
theorem dX7_who_52 : decode cX7_who 52 = .ok (.iload_n 3, 1) := by decide +kernel
theorem dX7_who_53 : decode cX7_who 53 = .ok (.iload 4, 2) := by decide +kernel
theorem dX7_who_55 : decode cX7_who 55 = .ok (.iload 5, 2) := by decide +kernel
theorem dX7_who_57 : decode cX7_who 57 = .ok (.invokevirtual 266, 3) := by decide +kernel
theorem dX7_who_60 : decode cX7_who 60 = .ok (.istore 6, 2) := by decide +kernel
theorem dX7_who_62 : decode cX7_who 62 = .ok (.iload 6, 2) := by decide +kernel
theorem dX7_who_64 : decode cX7_who 64 = .ok (.ifCond .eq 6, 3) := by decide +kernel
theorem dX7_who_67 : decode cX7_who 67 = .ok (.iload 6, 2) := by decide +kernel
theorem dX7_who_69 : decode cX7_who 69 = .ok (.ireturn, 1) := by decide +kernel
theorem dX7_who_70 : decode cX7_who 70 = .ok (.bipush 14, 2) := by decide +kernel
theorem dX7_who_72 : decode cX7_who 72 = .ok (.bipush 6, 2) := by decide +kernel
theorem dX7_who_74 : decode cX7_who 74 = .ok (.iload_n 1, 1) := by decide +kernel
theorem dX7_who_75 : decode cX7_who 75 = .ok (.imul, 1) := by decide +kernel
theorem dX7_who_76 : decode cX7_who 76 = .ok (.iadd, 1) := by decide +kernel
theorem dX7_who_77 : decode cX7_who 77 = .ok (.iload_n 2, 1) := by decide +kernel
theorem dX7_who_78 : decode cX7_who 78 = .ok (.ifCond .ne 7, 3) := by decide +kernel
theorem dX7_who_81 : decode cX7_who 81 = .ok (.iconst 0, 1) := by decide +kernel
theorem dX7_who_82 : decode cX7_who 82 = .ok (.goto 13, 3) := by decide +kernel
theorem dX7_who_85 : decode cX7_who 85 = .ok (.iload_n 2, 1) := by decide +kernel
theorem dX7_who_86 : decode cX7_who 86 = .ok (.iconst 1, 1) := by decide +kernel
theorem dX7_who_87 : decode cX7_who 87 = .ok (.if_icmp .ne 7, 3) := by decide +kernel
theorem dX7_who_90 : decode cX7_who 90 = .ok (.iconst 1, 1) := by decide +kernel
theorem dX7_who_91 : decode cX7_who 91 = .ok (.goto 4, 3) := by decide +kernel
theorem dX7_who_94 : decode cX7_who 94 = .ok (.iconst 3, 1) := by decide +kernel
theorem dX7_who_95 : decode cX7_who 95 = .ok (.iadd, 1) := by decide +kernel
theorem dX7_who_96 : decode cX7_who 96 = .ok (.istore 7, 2) := by decide +kernel
theorem dX7_who_98 : decode cX7_who 98 = .ok (.aload_n 0, 1) := by decide +kernel
theorem dX7_who_99 : decode cX7_who 99 = .ok (.iload 7, 2) := by decide +kernel
theorem dX7_who_101 : decode cX7_who 101 = .ok (.iload_n 2, 1) := by decide +kernel
theorem dX7_who_102 : decode cX7_who 102 = .ok (.iconst 1, 1) := by decide +kernel
theorem dX7_who_103 : decode cX7_who 103 = .ok (.if_icmp .ne 7, 3) := by decide +kernel
theorem dX7_who_106 : decode cX7_who 106 = .ok (.iconst 0, 1) := by decide +kernel
theorem dX7_who_107 : decode cX7_who 107 = .ok (.goto 4, 3) := by decide +kernel
theorem dX7_who_110 : decode cX7_who 110 = .ok (.iconst 1, 1) := by decide +kernel
theorem dX7_who_111 : decode cX7_who 111 = .ok (.iload_n 2, 1) := by decide +kernel
theorem dX7_who_112 : decode cX7_who 112 = .ok (.ifCond .ne 7, 3) := by decide +kernel
theorem dX7_who_115 : decode cX7_who 115 = .ok (.iconst 5, 1) := by decide +kernel
theorem dX7_who_116 : decode cX7_who 116 = .ok (.goto 21, 3) := by decide +kernel
theorem dX7_who_119 : decode cX7_who 119 = .ok (.iload_n 2, 1) := by decide +kernel
theorem dX7_who_120 : decode cX7_who 120 = .ok (.iconst 1, 1) := by decide +kernel
theorem dX7_who_121 : decode cX7_who 121 = .ok (.if_icmp .ne 14, 3) := by decide +kernel
theorem dX7_who_124 : decode cX7_who 124 = .ok (.aload_n 0, 1) := by decide +kernel
theorem dX7_who_125 : decode cX7_who 125 = .ok (.getfield 19, 3) := by decide +kernel
theorem dX7_who_128 : decode cX7_who 128 = .ok (.iconst 2, 1) := by decide +kernel
theorem dX7_who_129 : decode cX7_who 129 = .ok (.iaload, 1) := by decide +kernel
theorem dX7_who_130 : decode cX7_who 130 = .ok (.iconst 1, 1) := by decide +kernel
theorem dX7_who_131 : decode cX7_who 131 = .ok (.isub, 1) := by decide +kernel
theorem dX7_who_132 : decode cX7_who 132 = .ok (.goto 5, 3) := by decide +kernel
theorem dX7_who_135 : decode cX7_who 135 = .ok (.bipush 9, 2) := by decide +kernel
theorem dX7_who_137 : decode cX7_who 137 = .ok (.bipush 40, 2) := by decide +kernel
theorem dX7_who_139 : decode cX7_who 139 = .ok (.iload_n 3, 1) := by decide +kernel
theorem dX7_who_140 : decode cX7_who 140 = .ok (.imul, 1) := by decide +kernel
theorem dX7_who_141 : decode cX7_who 141 = .ok (.iload 4, 2) := by decide +kernel
theorem dX7_who_143 : decode cX7_who 143 = .ok (.iadd, 1) := by decide +kernel
theorem dX7_who_144 : decode cX7_who 144 = .ok (.iload 5, 2) := by decide +kernel
theorem dX7_who_146 : decode cX7_who 146 = .ok (.invokevirtual 270, 3) := by decide +kernel
theorem dX7_who_149 : decode cX7_who 149 = .ok (.ireturn, 1) := by decide +kernel
theorem dX7_gusts_0 : decode cX7_gusts 0 = .ok (.aload_n 0, 1) := by decide +kernel
theorem dX7_gusts_1 : decode cX7_gusts 1 = .ok (.iconst 0, 1) := by decide +kernel
theorem dX7_gusts_2 : decode cX7_gusts 2 = .ok (.putfield 47, 3) := by decide +kernel
theorem dX7_gusts_5 : decode cX7_gusts 5 = .ok (.aload_n 0, 1) := by decide +kernel
theorem dX7_gusts_6 : decode cX7_gusts 6 = .ok (.iload_n 1, 1) := by decide +kernel
theorem dX7_gusts_7 : decode cX7_gusts 7 = .ok (.invokevirtual 205, 3) := by decide +kernel
theorem dX7_gusts_10 : decode cX7_gusts 10 = .ok (.ifCond .eq 12, 3) := by decide +kernel
theorem dX7_gusts_13 : decode cX7_gusts 13 = .ok (.iload_n 2, 1) := by decide +kernel
theorem dX7_gusts_14 : decode cX7_gusts 14 = .ok (.iload 4, 2) := by decide +kernel
theorem dX7_gusts_16 : decode cX7_gusts 16 = .ok (.invokestatic 263, 3) := by decide +kernel
theorem dX7_gusts_19 : decode cX7_gusts 19 = .ok (.ifCond .ne 6, 3) := by decide +kernel
theorem dX7_gusts_22 : decode cX7_gusts 22 = .ok (.ldc 67, 2) := by decide +kernel
theorem dX7_gusts_24 : decode cX7_gusts 24 = .ok (.ireturn, 1) := by decide +kernel
theorem dX7_gusts_25 : decode cX7_gusts 25 = .ok (.aload_n 0, 1) := by decide +kernel
theorem dX7_gusts_26 : decode cX7_gusts 26 = .ok (.iload_n 2, 1) := by decide +kernel
theorem dX7_gusts_27 : decode cX7_gusts 27 = .ok (.iload_n 3, 1) := by decide +kernel
theorem dX7_gusts_28 : decode cX7_gusts 28 = .ok (.iload 4, 2) := by decide +kernel
theorem dX7_gusts_30 : decode cX7_gusts 30 = .ok (.invokevirtual 266, 3) := by decide +kernel
theorem dX7_gusts_33 : decode cX7_gusts 33 = .ok (.istore 5, 2) := by decide +kernel
theorem dX7_gusts_35 : decode cX7_gusts 35 = .ok (.iload 5, 2) := by decide +kernel
theorem dX7_gusts_37 : decode cX7_gusts 37 = .ok (.ifCond .eq 8, 3) := by decide +kernel
theorem dX7_gusts_40 : decode cX7_gusts 40 = .ok (.iload 5, 2) := by decide +kernel
theorem dX7_gusts_42 : decode cX7_gusts 42 = .ok (.goto 21, 3) := by decide +kernel
theorem dX7_gusts_45 : decode cX7_gusts 45 = .ok (.aload_n 0, 1) := by decide +kernel
theorem dX7_gusts_46 : decode cX7_gusts 46 = .ok (.bipush 8, 2) := by decide +kernel
theorem dX7_gusts_48 : decode cX7_gusts 48 = .ok (.iload_n 1, 1) := by decide +kernel
theorem dX7_gusts_49 : decode cX7_gusts 49 = .ok (.iadd, 1) := by decide +kernel
theorem dX7_gusts_50 : decode cX7_gusts 50 = .ok (.iconst 0, 1) := by decide +kernel
theorem dX7_gusts_51 : decode cX7_gusts 51 = .ok (.iconst 4, 1) := by decide +kernel
theorem dX7_gusts_52 : decode cX7_gusts 52 = .ok (.bipush 40, 2) := by decide +kernel
theorem dX7_gusts_54 : decode cX7_gusts 54 = .ok (.iload_n 2, 1) := by decide +kernel
theorem dX7_gusts_55 : decode cX7_gusts 55 = .ok (.imul, 1) := by decide +kernel
theorem dX7_gusts_56 : decode cX7_gusts 56 = .ok (.iload_n 3, 1) := by decide +kernel
theorem dX7_gusts_57 : decode cX7_gusts 57 = .ok (.iadd, 1) := by decide +kernel
theorem dX7_gusts_58 : decode cX7_gusts 58 = .ok (.iload 4, 2) := by decide +kernel
theorem dX7_gusts_60 : decode cX7_gusts 60 = .ok (.invokevirtual 270, 3) := by decide +kernel
theorem dX7_gusts_63 : decode cX7_gusts 63 = .ok (.ireturn, 1) := by decide +kernel
theorem dX7_lift_0 : decode cX7_lift 0 = .ok (.aload_n 0, 1) := by decide +kernel
theorem dX7_lift_1 : decode cX7_lift 1 = .ok (.iconst 0, 1) := by decide +kernel
theorem dX7_lift_2 : decode cX7_lift 2 = .ok (.putfield 47, 3) := by decide +kernel
theorem dX7_lift_5 : decode cX7_lift 5 = .ok (.aload_n 0, 1) := by decide +kernel
theorem dX7_lift_6 : decode cX7_lift 6 = .ok (.iload_n 1, 1) := by decide +kernel
theorem dX7_lift_7 : decode cX7_lift 7 = .ok (.invokevirtual 202, 3) := by decide +kernel
theorem dX7_lift_10 : decode cX7_lift 10 = .ok (.ifCond .eq 38, 3) := by decide +kernel
theorem dX7_lift_13 : decode cX7_lift 13 = .ok (.iload_n 2, 1) := by decide +kernel
theorem dX7_lift_14 : decode cX7_lift 14 = .ok (.i2l, 1) := by decide +kernel
theorem dX7_lift_15 : decode cX7_lift 15 = .ok (.lconst 0, 1) := by decide +kernel
theorem dX7_lift_16 : decode cX7_lift 16 = .ok (.ldc2_w 229, 3) := by decide +kernel
theorem dX7_lift_19 : decode cX7_lift 19 = .ok (.invokestatic 57, 3) := by decide +kernel
theorem dX7_lift_22 : decode cX7_lift 22 = .ok (.ifCond .eq 26, 3) := by decide +kernel
theorem dX7_lift_25 : decode cX7_lift 25 = .ok (.iload_n 3, 1) := by decide +kernel
theorem dX7_lift_26 : decode cX7_lift 26 = .ok (.i2l, 1) := by decide +kernel
theorem dX7_lift_27 : decode cX7_lift 27 = .ok (.lconst 0, 1) := by decide +kernel
theorem dX7_lift_28 : decode cX7_lift 28 = .ok (.ldc2_w 273, 3) := by decide +kernel
theorem dX7_lift_31 : decode cX7_lift 31 = .ok (.invokestatic 57, 3) := by decide +kernel
theorem dX7_lift_34 : decode cX7_lift 34 = .ok (.ifCond .eq 14, 3) := by decide +kernel
theorem dX7_lift_37 : decode cX7_lift 37 = .ok (.iload 4, 2) := by decide +kernel
theorem dX7_lift_39 : decode cX7_lift 39 = .ok (.i2l, 1) := by decide +kernel
theorem dX7_lift_40 : decode cX7_lift 40 = .ok (.lconst 0, 1) := by decide +kernel
theorem dX7_lift_41 : decode cX7_lift 41 = .ok (.lconst 1, 1) := by decide +kernel
theorem dX7_lift_42 : decode cX7_lift 42 = .ok (.invokestatic 57, 3) := by decide +kernel
theorem dX7_lift_45 : decode cX7_lift 45 = .ok (.ifCond .ne 7, 3) := by decide +kernel
theorem dX7_lift_48 : decode cX7_lift 48 = .ok (.ldc2_w 275, 3) := by decide +kernel
theorem dX7_lift_51 : decode cX7_lift 51 = .ok (.lreturn, 1) := by decide +kernel
theorem dX7_lift_52 : decode cX7_lift 52 = .ok (.lconst 0, 1) := by decide +kernel
theorem dX7_lift_53 : decode cX7_lift 53 = .ok (.lstore 5, 2) := by decide +kernel
theorem dX7_lift_55 : decode cX7_lift 55 = .ok (.lconst 0, 1) := by decide +kernel
theorem dX7_lift_56 : decode cX7_lift 56 = .ok (.lstore 7, 2) := by decide +kernel
theorem dX7_lift_58 : decode cX7_lift 58 = .ok (.iconst 0, 1) := by decide +kernel
theorem dX7_lift_59 : decode cX7_lift 59 = .ok (.istore 9, 2) := by decide +kernel
theorem dX7_lift_61 : decode cX7_lift 61 = .ok (.iload 9, 2) := by decide +kernel
theorem dX7_lift_63 : decode cX7_lift 63 = .ok (.iconst 1, 1) := by decide +kernel
theorem dX7_lift_64 : decode cX7_lift 64 = .ok (.aload_n 0, 1) := by decide +kernel
theorem dX7_lift_65 : decode cX7_lift 65 = .ok (.getfield 19, 3) := by decide +kernel
theorem dX7_lift_68 : decode cX7_lift 68 = .ok (.iconst 0, 1) := by decide +kernel
theorem dX7_lift_69 : decode cX7_lift 69 = .ok (.iaload, 1) := by decide +kernel
theorem dX7_lift_70 : decode cX7_lift 70 = .ok (.ishl, 1) := by decide +kernel
theorem dX7_lift_71 : decode cX7_lift 71 = .ok (.if_icmp .ge 151, 3) := by decide +kernel
theorem dX7_lift_74 : decode cX7_lift 74 = .ok (.iload 9, 2) := by decide +kernel
theorem dX7_lift_76 : decode cX7_lift 76 = .ok (.aload_n 0, 1) := by decide +kernel
theorem dX7_lift_77 : decode cX7_lift 77 = .ok (.getfield 19, 3) := by decide +kernel
theorem dX7_lift_80 : decode cX7_lift 80 = .ok (.invokestatic 220, 3) := by decide +kernel
theorem dX7_lift_83 : decode cX7_lift 83 = .ok (.iconst (-1), 1) := by decide +kernel
theorem dX7_lift_84 : decode cX7_lift 84 = .ok (.ixor, 1) := by decide +kernel
theorem dX7_lift_85 : decode cX7_lift 85 = .ok (.iand, 1) := by decide +kernel
theorem dX7_lift_86 : decode cX7_lift 86 = .ok (.ifCond .ne 130, 3) := by decide +kernel
theorem dX7_lift_89 : decode cX7_lift 89 = .ok (.lconst 1, 1) := by decide +kernel
theorem dX7_lift_90 : decode cX7_lift 90 = .ok (.lstore 10, 2) := by decide +kernel
theorem dX7_lift_92 : decode cX7_lift 92 = .ok (.aload_n 0, 1) := by decide +kernel
theorem dX7_lift_93 : decode cX7_lift 93 = .ok (.invokevirtual 231, 3) := by decide +kernel
theorem dX7_lift_96 : decode cX7_lift 96 = .ok (.iconst 0, 1) := by decide +kernel
theorem dX7_lift_97 : decode cX7_lift 97 = .ok (.istore 12, 2) := by decide +kernel
theorem dX7_lift_99 : decode cX7_lift 99 = .ok (.iload 12, 2) := by decide +kernel
theorem dX7_lift_101 : decode cX7_lift 101 = .ok (.aload_n 0, 1) := by decide +kernel
theorem dX7_lift_102 : decode cX7_lift 102 = .ok (.getfield 19, 3) := by decide +kernel
theorem dX7_lift_105 : decode cX7_lift 105 = .ok (.iconst 0, 1) := by decide +kernel
theorem dX7_lift_106 : decode cX7_lift 106 = .ok (.iaload, 1) := by decide +kernel
theorem dX7_lift_107 : decode cX7_lift 107 = .ok (.if_icmp .ge 72, 3) := by decide +kernel
theorem dX7_lift_110 : decode cX7_lift 110 = .ok (.aload_n 0, 1) := by decide +kernel
theorem dX7_lift_111 : decode cX7_lift 111 = .ok (.getfield 19, 3) := by decide +kernel
theorem dX7_lift_114 : decode cX7_lift 114 = .ok (.iload 12, 2) := by decide +kernel
theorem dX7_lift_116 : decode cX7_lift 116 = .ok (.invokestatic 156, 3) := by decide +kernel
theorem dX7_lift_119 : decode cX7_lift 119 = .ok (.ifCond .eq 54, 3) := by decide +kernel
theorem dX7_lift_122 : decode cX7_lift 122 = .ok (.lload 10, 2) := by decide +kernel
theorem dX7_lift_124 : decode cX7_lift 124 = .ok (.iload 9, 2) := by decide +kernel
theorem dX7_lift_126 : decode cX7_lift 126 = .ok (.iload 12, 2) := by decide +kernel
theorem dX7_lift_128 : decode cX7_lift 128 = .ok (.invokestatic 175, 3) := by decide +kernel
theorem dX7_lift_131 : decode cX7_lift 131 = .ok (.ifCond .eq 8, 3) := by decide +kernel
theorem dX7_lift_134 : decode cX7_lift 134 = .ok (.iload_n 3, 1) := by decide +kernel
theorem dX7_lift_135 : decode cX7_lift 135 = .ok (.i2l, 1) := by decide +kernel
theorem dX7_lift_136 : decode cX7_lift 136 = .ok (.goto 9, 3) := by decide +kernel
theorem dX7_lift_139 : decode cX7_lift 139 = .ok (.ldc2_w 273, 3) := by decide +kernel
theorem dX7_lift_142 : decode cX7_lift 142 = .ok (.iload_n 3, 1) := by decide +kernel
theorem dX7_lift_143 : decode cX7_lift 143 = .ok (.i2l, 1) := by decide +kernel
theorem dX7_lift_144 : decode cX7_lift 144 = .ok (.lsub, 1) := by decide +kernel
theorem dX7_lift_145 : decode cX7_lift 145 = .ok (.lmul, 1) := by decide +kernel
theorem dX7_lift_146 : decode cX7_lift 146 = .ok (.lstore 10, 2) := by decide +kernel
theorem dX7_lift_148 : decode cX7_lift 148 = .ok (.aload_n 0, 1) := by decide +kernel
theorem dX7_lift_149 : decode cX7_lift 149 = .ok (.getfield 25, 3) := by decide +kernel
theorem dX7_lift_152 : decode cX7_lift 152 = .ok (.iload 12, 2) := by decide +kernel
theorem dX7_lift_154 : decode cX7_lift 154 = .ok (.iconst 5, 1) := by decide +kernel
theorem dX7_lift_155 : decode cX7_lift 155 = .ok (.iload 9, 2) := by decide +kernel
theorem dX7_lift_157 : decode cX7_lift 157 = .ok (.iload 12, 2) := by decide +kernel
theorem dX7_lift_159 : decode cX7_lift 159 = .ok (.invokestatic 175, 3) := by decide +kernel
theorem dX7_lift_162 : decode cX7_lift 162 = .ok (.ifCond .eq 7, 3) := by decide +kernel
theorem dX7_lift_165 : decode cX7_lift 165 = .ok (.iconst 0, 1) := by decide +kernel
theorem dX7_lift_166 : decode cX7_lift 166 = .ok (.goto 4, 3) := by decide +kernel
theorem dX7_lift_169 : decode cX7_lift 169 = .ok (.iconst 1, 1) := by decide +kernel
theorem dX7_lift_170 : decode cX7_lift 170 = .ok (.invokestatic 163, 3) := by decide +kernel
theorem dX7_lift_173 : decode cX7_lift 173 = .ok (.iinc 12 1, 3) := by decide +kernel
theorem dX7_lift_176 : decode cX7_lift 176 = .ok (.goto (-77), 3) := by decide +kernel
theorem dX7_lift_179 : decode cX7_lift 179 = .ok (.aload_n 0, 1) := by decide +kernel
theorem dX7_lift_180 : decode cX7_lift 180 = .ok (.getfield 25, 3) := by decide +kernel
theorem dX7_lift_183 : decode cX7_lift 183 = .ok (.iload_n 2, 1) := by decide +kernel
theorem dX7_lift_184 : decode cX7_lift 184 = .ok (.invokestatic 234, 3) := by decide +kernel
theorem dX7_lift_187 : decode cX7_lift 187 = .ok (.lload 7, 2) := by decide +kernel
theorem dX7_lift_189 : decode cX7_lift 189 = .ok (.lload 10, 2) := by decide +kernel
theorem dX7_lift_191 : decode cX7_lift 191 = .ok (.ladd, 1) := by decide +kernel
theorem dX7_lift_192 : decode cX7_lift 192 = .ok (.lstore 7, 2) := by decide +kernel
theorem dX7_lift_194 : decode cX7_lift 194 = .ok (.lload 5, 2) := by decide +kernel
theorem dX7_lift_196 : decode cX7_lift 196 = .ok (.aload_n 0, 1) := by decide +kernel
theorem dX7_lift_197 : decode cX7_lift 197 = .ok (.getfield 25, 3) := by decide +kernel
theorem dX7_lift_200 : decode cX7_lift 200 = .ok (.iload_n 1, 1) := by decide +kernel
theorem dX7_lift_201 : decode cX7_lift 201 = .ok (.invokestatic 226, 3) := by decide +kernel
theorem dX7_lift_204 : decode cX7_lift 204 = .ok (.ifCond .ne 8, 3) := by decide +kernel
theorem dX7_lift_207 : decode cX7_lift 207 = .ok (.lload 10, 2) := by decide +kernel
theorem dX7_lift_209 : decode cX7_lift 209 = .ok (.goto 4, 3) := by decide +kernel
theorem dX7_lift_212 : decode cX7_lift 212 = .ok (.lconst 0, 1) := by decide +kernel
theorem dX7_lift_213 : decode cX7_lift 213 = .ok (.ladd, 1) := by decide +kernel
theorem dX7_lift_214 : decode cX7_lift 214 = .ok (.lstore 5, 2) := by decide +kernel
theorem dX7_lift_216 : decode cX7_lift 216 = .ok (.iinc 9 1, 3) := by decide +kernel
theorem dX7_lift_219 : decode cX7_lift 219 = .ok (.goto (-158), 3) := by decide +kernel
theorem dX7_lift_222 : decode cX7_lift 222 = .ok (.lload 5, 2) := by decide +kernel
theorem dX7_lift_224 : decode cX7_lift 224 = .ok (.lstore 9, 2) := by decide +kernel
theorem dX7_lift_226 : decode cX7_lift 226 = .ok (.lload 7, 2) := by decide +kernel
theorem dX7_lift_228 : decode cX7_lift 228 = .ok (.lstore 11, 2) := by decide +kernel
theorem dX7_lift_230 : decode cX7_lift 230 = .ok (.lload 11, 2) := by decide +kernel
theorem dX7_lift_232 : decode cX7_lift 232 = .ok (.lconst 0, 1) := by decide +kernel
theorem dX7_lift_233 : decode cX7_lift 233 = .ok (.lcmp, 1) := by decide +kernel
theorem dX7_lift_234 : decode cX7_lift 234 = .ok (.ifCond .eq 21, 3) := by decide +kernel
theorem dX7_lift_237 : decode cX7_lift 237 = .ok (.lload 9, 2) := by decide +kernel
theorem dX7_lift_239 : decode cX7_lift 239 = .ok (.lload 11, 2) := by decide +kernel
theorem dX7_lift_241 : decode cX7_lift 241 = .ok (.lrem, 1) := by decide +kernel
theorem dX7_lift_242 : decode cX7_lift 242 = .ok (.lstore 13, 2) := by decide +kernel
theorem dX7_lift_244 : decode cX7_lift 244 = .ok (.lload 11, 2) := by decide +kernel
theorem dX7_lift_246 : decode cX7_lift 246 = .ok (.lstore 9, 2) := by decide +kernel
theorem dX7_lift_248 : decode cX7_lift 248 = .ok (.lload 13, 2) := by decide +kernel
theorem dX7_lift_250 : decode cX7_lift 250 = .ok (.lstore 11, 2) := by decide +kernel
theorem dX7_lift_252 : decode cX7_lift 252 = .ok (.goto (-22), 3) := by decide +kernel
theorem dX7_lift_255 : decode cX7_lift 255 = .ok (.iload 4, 2) := by decide +kernel
theorem dX7_lift_257 : decode cX7_lift 257 = .ok (.ifCond .ne 8, 3) := by decide +kernel
theorem dX7_lift_260 : decode cX7_lift 260 = .ok (.lload 5, 2) := by decide +kernel
theorem dX7_lift_262 : decode cX7_lift 262 = .ok (.goto 5, 3) := by decide +kernel
theorem dX7_lift_265 : decode cX7_lift 265 = .ok (.lload 7, 2) := by decide +kernel
theorem dX7_lift_267 : decode cX7_lift 267 = .ok (.lload 9, 2) := by decide +kernel
theorem dX7_lift_269 : decode cX7_lift 269 = .ok (.ldiv, 1) := by decide +kernel
theorem dX7_lift_270 : decode cX7_lift 270 = .ok (.lreturn, 1) := by decide +kernel
theorem dX7_drawn_0 : decode cX7_drawn 0 = .ok (.aload_n 0, 1) := by decide +kernel
theorem dX7_drawn_1 : decode cX7_drawn 1 = .ok (.iconst 0, 1) := by decide +kernel
theorem dX7_drawn_2 : decode cX7_drawn 2 = .ok (.putfield 47, 3) := by decide +kernel
theorem dX7_drawn_5 : decode cX7_drawn 5 = .ok (.aload_n 0, 1) := by decide +kernel
theorem dX7_drawn_6 : decode cX7_drawn 6 = .ok (.invokevirtual 187, 3) := by decide +kernel
theorem dX7_drawn_9 : decode cX7_drawn 9 = .ok (.ifCond .ne 6, 3) := by decide +kernel
theorem dX7_drawn_12 : decode cX7_drawn 12 = .ok (.ldc 190, 2) := by decide +kernel
theorem dX7_drawn_14 : decode cX7_drawn 14 = .ok (.ireturn, 1) := by decide +kernel
theorem dX7_drawn_15 : decode cX7_drawn 15 = .ok (.iload_n 1, 1) := by decide +kernel
theorem dX7_drawn_16 : decode cX7_drawn 16 = .ok (.i2l, 1) := by decide +kernel
theorem dX7_drawn_17 : decode cX7_drawn 17 = .ok (.lconst 0, 1) := by decide +kernel
theorem dX7_drawn_18 : decode cX7_drawn 18 = .ok (.ldc2_w 229, 3) := by decide +kernel
theorem dX7_drawn_21 : decode cX7_drawn 21 = .ok (.invokestatic 57, 3) := by decide +kernel
theorem dX7_drawn_24 : decode cX7_drawn 24 = .ok (.ifCond .eq 25, 3) := by decide +kernel
theorem dX7_drawn_27 : decode cX7_drawn 27 = .ok (.iload_n 2, 1) := by decide +kernel
theorem dX7_drawn_28 : decode cX7_drawn 28 = .ok (.i2l, 1) := by decide +kernel
theorem dX7_drawn_29 : decode cX7_drawn 29 = .ok (.lconst 1, 1) := by decide +kernel
theorem dX7_drawn_30 : decode cX7_drawn 30 = .ok (.ldc2_w 277, 3) := by decide +kernel
theorem dX7_drawn_33 : decode cX7_drawn 33 = .ok (.invokestatic 57, 3) := by decide +kernel
theorem dX7_drawn_36 : decode cX7_drawn 36 = .ok (.ifCond .eq 13, 3) := by decide +kernel
theorem dX7_drawn_39 : decode cX7_drawn 39 = .ok (.iload_n 3, 1) := by decide +kernel
theorem dX7_drawn_40 : decode cX7_drawn 40 = .ok (.i2l, 1) := by decide +kernel
theorem dX7_drawn_41 : decode cX7_drawn 41 = .ok (.lconst 0, 1) := by decide +kernel
theorem dX7_drawn_42 : decode cX7_drawn 42 = .ok (.lconst 1, 1) := by decide +kernel
theorem dX7_drawn_43 : decode cX7_drawn 43 = .ok (.invokestatic 57, 3) := by decide +kernel
theorem dX7_drawn_46 : decode cX7_drawn 46 = .ok (.ifCond .ne 6, 3) := by decide +kernel
theorem dX7_drawn_49 : decode cX7_drawn 49 = .ok (.ldc 67, 2) := by decide +kernel
theorem dX7_drawn_51 : decode cX7_drawn 51 = .ok (.ireturn, 1) := by decide +kernel
theorem dX7_drawn_52 : decode cX7_drawn 52 = .ok (.aload_n 0, 1) := by decide +kernel
theorem dX7_drawn_53 : decode cX7_drawn 53 = .ok (.invokevirtual 231, 3) := by decide +kernel
theorem dX7_drawn_56 : decode cX7_drawn 56 = .ok (.iload_n 2, 1) := by decide +kernel
theorem dX7_drawn_57 : decode cX7_drawn 57 = .ok (.i2l, 1) := by decide +kernel
theorem dX7_drawn_58 : decode cX7_drawn 58 = .ok (.lstore 4, 2) := by decide +kernel
theorem dX7_drawn_60 : decode cX7_drawn 60 = .ok (.iconst 0, 1) := by decide +kernel
theorem dX7_drawn_61 : decode cX7_drawn 61 = .ok (.istore 6, 2) := by decide +kernel
theorem dX7_drawn_63 : decode cX7_drawn 63 = .ok (.iconst 0, 1) := by decide +kernel
theorem dX7_drawn_64 : decode cX7_drawn 64 = .ok (.istore 7, 2) := by decide +kernel
theorem dX7_drawn_66 : decode cX7_drawn 66 = .ok (.iload 7, 2) := by decide +kernel
theorem dX7_drawn_68 : decode cX7_drawn 68 = .ok (.iload_n 1, 1) := by decide +kernel
theorem dX7_drawn_69 : decode cX7_drawn 69 = .ok (.if_icmp .ge 137, 3) := by decide +kernel
theorem dX7_drawn_72 : decode cX7_drawn 72 = .ok (.lload 4, 2) := by decide +kernel
theorem dX7_drawn_74 : decode cX7_drawn 74 = .ok (.ldc2_w 279, 3) := by decide +kernel
theorem dX7_drawn_77 : decode cX7_drawn 77 = .ok (.lmul, 1) := by decide +kernel
theorem dX7_drawn_78 : decode cX7_drawn 78 = .ok (.ldc2_w 281, 3) := by decide +kernel
theorem dX7_drawn_81 : decode cX7_drawn 81 = .ok (.lrem, 1) := by decide +kernel
theorem dX7_drawn_82 : decode cX7_drawn 82 = .ok (.lstore 4, 2) := by decide +kernel
theorem dX7_drawn_84 : decode cX7_drawn 84 = .ok (.lload 4, 2) := by decide +kernel
theorem dX7_drawn_86 : decode cX7_drawn 86 = .ok (.ldc2_w 283, 3) := by decide +kernel
theorem dX7_drawn_89 : decode cX7_drawn 89 = .ok (.lrem, 1) := by decide +kernel
theorem dX7_drawn_90 : decode cX7_drawn 90 = .ok (.lconst 0, 1) := by decide +kernel
theorem dX7_drawn_91 : decode cX7_drawn 91 = .ok (.lcmp, 1) := by decide +kernel
theorem dX7_drawn_92 : decode cX7_drawn 92 = .ok (.ifCond .ne 29, 3) := by decide +kernel
theorem dX7_drawn_95 : decode cX7_drawn 95 = .ok (.aload_n 0, 1) := by decide +kernel
theorem dX7_drawn_96 : decode cX7_drawn 96 = .ok (.getfield 25, 3) := by decide +kernel
theorem dX7_drawn_99 : decode cX7_drawn 99 = .ok (.bipush 8, 2) := by decide +kernel
theorem dX7_drawn_101 : decode cX7_drawn 101 = .ok (.lload 4, 2) := by decide +kernel
theorem dX7_drawn_103 : decode cX7_drawn 103 = .ok (.aload_n 0, 1) := by decide +kernel
theorem dX7_drawn_104 : decode cX7_drawn 104 = .ok (.getfield 25, 3) := by decide +kernel
theorem dX7_drawn_107 : decode cX7_drawn 107 = .ok (.iconst 1, 1) := by decide +kernel
theorem dX7_drawn_108 : decode cX7_drawn 108 = .ok (.iaload, 1) := by decide +kernel
theorem dX7_drawn_109 : decode cX7_drawn 109 = .ok (.i2l, 1) := by decide +kernel
theorem dX7_drawn_110 : decode cX7_drawn 110 = .ok (.lrem, 1) := by decide +kernel
theorem dX7_drawn_111 : decode cX7_drawn 111 = .ok (.l2i, 1) := by decide +kernel
theorem dX7_drawn_112 : decode cX7_drawn 112 = .ok (.iadd, 1) := by decide +kernel
theorem dX7_drawn_113 : decode cX7_drawn 113 = .ok (.lload 4, 2) := by decide +kernel
theorem dX7_drawn_115 : decode cX7_drawn 115 = .ok (.ldc2_w 285, 3) := by decide +kernel
theorem dX7_drawn_118 : decode cX7_drawn 118 = .ok (.lrem, 1) := by decide +kernel
theorem dX7_drawn_119 : decode cX7_drawn 119 = .ok (.l2i, 1) := by decide +kernel
theorem dX7_drawn_120 : decode cX7_drawn 120 = .ok (.iastore, 1) := by decide +kernel
theorem dX7_drawn_121 : decode cX7_drawn 121 = .ok (.lload 4, 2) := by decide +kernel
theorem dX7_drawn_123 : decode cX7_drawn 123 = .ok (.aload_n 0, 1) := by decide +kernel
theorem dX7_drawn_124 : decode cX7_drawn 124 = .ok (.getfield 25, 3) := by decide +kernel
theorem dX7_drawn_127 : decode cX7_drawn 127 = .ok (.iconst 0, 1) := by decide +kernel
theorem dX7_drawn_128 : decode cX7_drawn 128 = .ok (.iaload, 1) := by decide +kernel
theorem dX7_drawn_129 : decode cX7_drawn 129 = .ok (.i2l, 1) := by decide +kernel
theorem dX7_drawn_130 : decode cX7_drawn 130 = .ok (.lrem, 1) := by decide +kernel
theorem dX7_drawn_131 : decode cX7_drawn 131 = .ok (.l2i, 1) := by decide +kernel
theorem dX7_drawn_132 : decode cX7_drawn 132 = .ok (.istore 8, 2) := by decide +kernel
theorem dX7_drawn_134 : decode cX7_drawn 134 = .ok (.aload_n 0, 1) := by decide +kernel
theorem dX7_drawn_135 : decode cX7_drawn 135 = .ok (.getfield 25, 3) := by decide +kernel
theorem dX7_drawn_138 : decode cX7_drawn 138 = .ok (.iload 8, 2) := by decide +kernel
theorem dX7_drawn_140 : decode cX7_drawn 140 = .ok (.invokestatic 156, 3) := by decide +kernel
theorem dX7_drawn_143 : decode cX7_drawn 143 = .ok (.ifCond .ne 32, 3) := by decide +kernel
theorem dX7_drawn_146 : decode cX7_drawn 146 = .ok (.aload_n 0, 1) := by decide +kernel
theorem dX7_drawn_147 : decode cX7_drawn 147 = .ok (.getfield 25, 3) := by decide +kernel
theorem dX7_drawn_150 : decode cX7_drawn 150 = .ok (.iload 8, 2) := by decide +kernel
theorem dX7_drawn_152 : decode cX7_drawn 152 = .ok (.lload 4, 2) := by decide +kernel
theorem dX7_drawn_154 : decode cX7_drawn 154 = .ok (.aload_n 0, 1) := by decide +kernel
theorem dX7_drawn_155 : decode cX7_drawn 155 = .ok (.getfield 25, 3) := by decide +kernel
theorem dX7_drawn_158 : decode cX7_drawn 158 = .ok (.iconst 2, 1) := by decide +kernel
theorem dX7_drawn_159 : decode cX7_drawn 159 = .ok (.iaload, 1) := by decide +kernel
theorem dX7_drawn_160 : decode cX7_drawn 160 = .ok (.i2l, 1) := by decide +kernel
theorem dX7_drawn_161 : decode cX7_drawn 161 = .ok (.lrem, 1) := by decide +kernel
theorem dX7_drawn_162 : decode cX7_drawn 162 = .ok (.l2i, 1) := by decide +kernel
theorem dX7_drawn_163 : decode cX7_drawn 163 = .ok (.lload 4, 2) := by decide +kernel
theorem dX7_drawn_165 : decode cX7_drawn 165 = .ok (.ldc2_w 215, 3) := by decide +kernel
theorem dX7_drawn_168 : decode cX7_drawn 168 = .ok (.lrem, 1) := by decide +kernel
theorem dX7_drawn_169 : decode cX7_drawn 169 = .ok (.l2i, 1) := by decide +kernel
theorem dX7_drawn_170 : decode cX7_drawn 170 = .ok (.iconst 1, 1) := by decide +kernel
theorem dX7_drawn_171 : decode cX7_drawn 171 = .ok (.iadd, 1) := by decide +kernel
theorem dX7_drawn_172 : decode cX7_drawn 172 = .ok (.invokestatic 217, 3) := by decide +kernel
theorem dX7_drawn_175 : decode cX7_drawn 175 = .ok (.aload_n 0, 1) := by decide +kernel
theorem dX7_drawn_176 : decode cX7_drawn 176 = .ok (.getfield 25, 3) := by decide +kernel
theorem dX7_drawn_179 : decode cX7_drawn 179 = .ok (.invokestatic 183, 3) := by decide +kernel
theorem dX7_drawn_182 : decode cX7_drawn 182 = .ok (.iload 6, 2) := by decide +kernel
theorem dX7_drawn_184 : decode cX7_drawn 184 = .ok (.aload_n 0, 1) := by decide +kernel
theorem dX7_drawn_185 : decode cX7_drawn 185 = .ok (.getfield 25, 3) := by decide +kernel
theorem dX7_drawn_188 : decode cX7_drawn 188 = .ok (.aload_n 0, 1) := by decide +kernel
theorem dX7_drawn_189 : decode cX7_drawn 189 = .ok (.getfield 25, 3) := by decide +kernel
theorem dX7_drawn_192 : decode cX7_drawn 192 = .ok (.iconst 3, 1) := by decide +kernel
theorem dX7_drawn_193 : decode cX7_drawn 193 = .ok (.iaload, 1) := by decide +kernel
theorem dX7_drawn_194 : decode cX7_drawn 194 = .ok (.invokestatic 226, 3) := by decide +kernel
theorem dX7_drawn_197 : decode cX7_drawn 197 = .ok (.iadd, 1) := by decide +kernel
theorem dX7_drawn_198 : decode cX7_drawn 198 = .ok (.istore 6, 2) := by decide +kernel
theorem dX7_drawn_200 : decode cX7_drawn 200 = .ok (.iinc 7 1, 3) := by decide +kernel
theorem dX7_drawn_203 : decode cX7_drawn 203 = .ok (.goto (-137), 3) := by decide +kernel
theorem dX7_drawn_206 : decode cX7_drawn 206 = .ok (.iload_n 3, 1) := by decide +kernel
theorem dX7_drawn_207 : decode cX7_drawn 207 = .ok (.ifCond .ne 16, 3) := by decide +kernel
theorem dX7_drawn_210 : decode cX7_drawn 210 = .ok (.aload_n 0, 1) := by decide +kernel
theorem dX7_drawn_211 : decode cX7_drawn 211 = .ok (.getfield 25, 3) := by decide +kernel
theorem dX7_drawn_214 : decode cX7_drawn 214 = .ok (.invokestatic 196, 3) := by decide +kernel
theorem dX7_drawn_217 : decode cX7_drawn 217 = .ok (.invokestatic 199, 3) := by decide +kernel
theorem dX7_drawn_220 : decode cX7_drawn 220 = .ok (.goto 5, 3) := by decide +kernel
theorem dX7_drawn_223 : decode cX7_drawn 223 = .ok (.iload 6, 2) := by decide +kernel
theorem dX7_drawn_225 : decode cX7_drawn 225 = .ok (.ireturn, 1) := by decide +kernel
theorem dX7_image_0 : decode cX7_image 0 = .ok (.aload_n 0, 1) := by decide +kernel
theorem dX7_image_1 : decode cX7_image 1 = .ok (.iconst 0, 1) := by decide +kernel
theorem dX7_image_2 : decode cX7_image 2 = .ok (.putfield 47, 3) := by decide +kernel
theorem dX7_image_5 : decode cX7_image 5 = .ok (.iload_n 1, 1) := by decide +kernel
theorem dX7_image_6 : decode cX7_image 6 = .ok (.i2l, 1) := by decide +kernel
theorem dX7_image_7 : decode cX7_image 7 = .ok (.lconst 0, 1) := by decide +kernel
theorem dX7_image_8 : decode cX7_image 8 = .ok (.lconst 1, 1) := by decide +kernel
theorem dX7_image_9 : decode cX7_image 9 = .ok (.invokestatic 57, 3) := by decide +kernel
theorem dX7_image_12 : decode cX7_image 12 = .ok (.ifCond .ne 6, 3) := by decide +kernel
theorem dX7_image_15 : decode cX7_image 15 = .ok (.ldc 67, 2) := by decide +kernel
theorem dX7_image_17 : decode cX7_image 17 = .ok (.ireturn, 1) := by decide +kernel
theorem dX7_image_18 : decode cX7_image 18 = .ok (.aload_n 0, 1) := by decide +kernel
theorem dX7_image_19 : decode cX7_image 19 = .ok (.invokevirtual 187, 3) := by decide +kernel
theorem dX7_image_22 : decode cX7_image 22 = .ok (.ifCond .ne 6, 3) := by decide +kernel
theorem dX7_image_25 : decode cX7_image 25 = .ok (.ldc 190, 2) := by decide +kernel
theorem dX7_image_27 : decode cX7_image 27 = .ok (.ireturn, 1) := by decide +kernel
theorem dX7_image_28 : decode cX7_image 28 = .ok (.iconst 0, 1) := by decide +kernel
theorem dX7_image_29 : decode cX7_image 29 = .ok (.istore_n 2, 1) := by decide +kernel
theorem dX7_image_30 : decode cX7_image 30 = .ok (.iload_n 2, 1) := by decide +kernel
theorem dX7_image_31 : decode cX7_image 31 = .ok (.bipush 50, 2) := by decide +kernel
theorem dX7_image_33 : decode cX7_image 33 = .ok (.if_icmp .ge 26, 3) := by decide +kernel
theorem dX7_image_36 : decode cX7_image 36 = .ok (.aload_n 0, 1) := by decide +kernel
theorem dX7_image_37 : decode cX7_image 37 = .ok (.getfield 41, 3) := by decide +kernel
theorem dX7_image_40 : decode cX7_image 40 = .ok (.bipush 50, 2) := by decide +kernel
theorem dX7_image_42 : decode cX7_image 42 = .ok (.iload_n 1, 1) := by decide +kernel
theorem dX7_image_43 : decode cX7_image 43 = .ok (.imul, 1) := by decide +kernel
theorem dX7_image_44 : decode cX7_image 44 = .ok (.iload_n 2, 1) := by decide +kernel
theorem dX7_image_45 : decode cX7_image 45 = .ok (.iadd, 1) := by decide +kernel
theorem dX7_image_46 : decode cX7_image 46 = .ok (.aload_n 0, 1) := by decide +kernel
theorem dX7_image_47 : decode cX7_image 47 = .ok (.getfield 19, 3) := by decide +kernel
theorem dX7_image_50 : decode cX7_image 50 = .ok (.iload_n 2, 1) := by decide +kernel
theorem dX7_image_51 : decode cX7_image 51 = .ok (.iaload, 1) := by decide +kernel
theorem dX7_image_52 : decode cX7_image 52 = .ok (.iastore, 1) := by decide +kernel
theorem dX7_image_53 : decode cX7_image 53 = .ok (.iinc 2 1, 3) := by decide +kernel
theorem dX7_image_56 : decode cX7_image 56 = .ok (.goto (-26), 3) := by decide +kernel
theorem dX7_image_59 : decode cX7_image 59 = .ok (.aload_n 0, 1) := by decide +kernel
theorem dX7_image_60 : decode cX7_image 60 = .ok (.getfield 37, 3) := by decide +kernel
theorem dX7_image_63 : decode cX7_image 63 = .ok (.iload_n 1, 1) := by decide +kernel
theorem dX7_image_64 : decode cX7_image 64 = .ok (.iconst 1, 1) := by decide +kernel
theorem dX7_image_65 : decode cX7_image 65 = .ok (.bastore, 1) := by decide +kernel
theorem dX7_image_66 : decode cX7_image 66 = .ok (.iconst 1, 1) := by decide +kernel
theorem dX7_image_67 : decode cX7_image 67 = .ok (.ireturn, 1) := by decide +kernel
theorem dX7_restore_0 : decode cX7_restore 0 = .ok (.aload_n 0, 1) := by decide +kernel
theorem dX7_restore_1 : decode cX7_restore 1 = .ok (.iconst 0, 1) := by decide +kernel
theorem dX7_restore_2 : decode cX7_restore 2 = .ok (.putfield 47, 3) := by decide +kernel
theorem dX7_restore_5 : decode cX7_restore 5 = .ok (.iload_n 1, 1) := by decide +kernel
theorem dX7_restore_6 : decode cX7_restore 6 = .ok (.i2l, 1) := by decide +kernel
theorem dX7_restore_7 : decode cX7_restore 7 = .ok (.lconst 0, 1) := by decide +kernel
theorem dX7_restore_8 : decode cX7_restore 8 = .ok (.lconst 1, 1) := by decide +kernel
theorem dX7_restore_9 : decode cX7_restore 9 = .ok (.invokestatic 57, 3) := by decide +kernel
theorem dX7_restore_12 : decode cX7_restore 12 = .ok (.ifCond .ne 6, 3) := by decide +kernel
theorem dX7_restore_15 : decode cX7_restore 15 = .ok (.ldc 67, 2) := by decide +kernel
theorem dX7_restore_17 : decode cX7_restore 17 = .ok (.ireturn, 1) := by decide +kernel
theorem dX7_restore_18 : decode cX7_restore 18 = .ok (.aload_n 0, 1) := by decide +kernel
theorem dX7_restore_19 : decode cX7_restore 19 = .ok (.getfield 37, 3) := by decide +kernel
theorem dX7_restore_22 : decode cX7_restore 22 = .ok (.iload_n 1, 1) := by decide +kernel
theorem dX7_restore_23 : decode cX7_restore 23 = .ok (.baload, 1) := by decide +kernel
theorem dX7_restore_24 : decode cX7_restore 24 = .ok (.ifCond .ne 6, 3) := by decide +kernel
theorem dX7_restore_27 : decode cX7_restore 27 = .ok (.ldc 190, 2) := by decide +kernel
theorem dX7_restore_29 : decode cX7_restore 29 = .ok (.ireturn, 1) := by decide +kernel
theorem dX7_restore_30 : decode cX7_restore 30 = .ok (.iconst 0, 1) := by decide +kernel
theorem dX7_restore_31 : decode cX7_restore 31 = .ok (.istore_n 2, 1) := by decide +kernel
theorem dX7_restore_32 : decode cX7_restore 32 = .ok (.iload_n 2, 1) := by decide +kernel
theorem dX7_restore_33 : decode cX7_restore 33 = .ok (.bipush 50, 2) := by decide +kernel
theorem dX7_restore_35 : decode cX7_restore 35 = .ok (.if_icmp .ge 26, 3) := by decide +kernel
theorem dX7_restore_38 : decode cX7_restore 38 = .ok (.aload_n 0, 1) := by decide +kernel
theorem dX7_restore_39 : decode cX7_restore 39 = .ok (.getfield 19, 3) := by decide +kernel
theorem dX7_restore_42 : decode cX7_restore 42 = .ok (.iload_n 2, 1) := by decide +kernel
theorem dX7_restore_43 : decode cX7_restore 43 = .ok (.aload_n 0, 1) := by decide +kernel
theorem dX7_restore_44 : decode cX7_restore 44 = .ok (.getfield 41, 3) := by decide +kernel
theorem dX7_restore_47 : decode cX7_restore 47 = .ok (.bipush 50, 2) := by decide +kernel
theorem dX7_restore_49 : decode cX7_restore 49 = .ok (.iload_n 1, 1) := by decide +kernel
theorem dX7_restore_50 : decode cX7_restore 50 = .ok (.imul, 1) := by decide +kernel
theorem dX7_restore_51 : decode cX7_restore 51 = .ok (.iload_n 2, 1) := by decide +kernel
theorem dX7_restore_52 : decode cX7_restore 52 = .ok (.iadd, 1) := by decide +kernel
theorem dX7_restore_53 : decode cX7_restore 53 = .ok (.iaload, 1) := by decide +kernel
theorem dX7_restore_54 : decode cX7_restore 54 = .ok (.iastore, 1) := by decide +kernel
theorem dX7_restore_55 : decode cX7_restore 55 = .ok (.iinc 2 1, 3) := by decide +kernel
theorem dX7_restore_58 : decode cX7_restore 58 = .ok (.goto (-26), 3) := by decide +kernel
theorem dX7_restore_61 : decode cX7_restore 61 = .ok (.aload_n 0, 1) := by decide +kernel
theorem dX7_restore_62 : decode cX7_restore 62 = .ok (.iconst 0, 1) := by decide +kernel
theorem dX7_restore_63 : decode cX7_restore 63 = .ok (.putfield 149, 3) := by decide +kernel
theorem dX7_restore_66 : decode cX7_restore 66 = .ok (.iconst 1, 1) := by decide +kernel
theorem dX7_restore_67 : decode cX7_restore 67 = .ok (.ireturn, 1) := by decide +kernel
theorem dX7_isOf_0 : decode cX7_isOf 0 = .ok (.iload_n 1, 1) := by decide +kernel
theorem dX7_isOf_1 : decode cX7_isOf 1 = .ok (.ifCond .eq 28, 3) := by decide +kernel
theorem dX7_isOf_4 : decode cX7_isOf 4 = .ok (.iload_n 0, 1) := by decide +kernel
theorem dX7_isOf_5 : decode cX7_isOf 5 = .ok (.iload_n 1, 1) := by decide +kernel
theorem dX7_isOf_6 : decode cX7_isOf 6 = .ok (.if_icmp .eq 23, 3) := by decide +kernel
theorem dX7_isOf_9 : decode cX7_isOf 9 = .ok (.iload_n 1, 1) := by decide +kernel
theorem dX7_isOf_10 : decode cX7_isOf 10 = .ok (.iconst 1, 1) := by decide +kernel
theorem dX7_isOf_11 : decode cX7_isOf 11 = .ok (.if_icmp .ne 8, 3) := by decide +kernel
theorem dX7_isOf_14 : decode cX7_isOf 14 = .ok (.iload_n 0, 1) := by decide +kernel
theorem dX7_isOf_15 : decode cX7_isOf 15 = .ok (.iconst 4, 1) := by decide +kernel
theorem dX7_isOf_16 : decode cX7_isOf 16 = .ok (.if_icmp .lt 13, 3) := by decide +kernel
theorem dX7_isOf_19 : decode cX7_isOf 19 = .ok (.iload_n 1, 1) := by decide +kernel
theorem dX7_isOf_20 : decode cX7_isOf 20 = .ok (.iconst 4, 1) := by decide +kernel
theorem dX7_isOf_21 : decode cX7_isOf 21 = .ok (.if_icmp .ne 12, 3) := by decide +kernel
theorem dX7_isOf_24 : decode cX7_isOf 24 = .ok (.iload_n 0, 1) := by decide +kernel
theorem dX7_isOf_25 : decode cX7_isOf 25 = .ok (.iconst 5, 1) := by decide +kernel
theorem dX7_isOf_26 : decode cX7_isOf 26 = .ok (.if_icmp .ne 7, 3) := by decide +kernel
theorem dX7_isOf_29 : decode cX7_isOf 29 = .ok (.iconst 1, 1) := by decide +kernel
theorem dX7_isOf_30 : decode cX7_isOf 30 = .ok (.goto 4, 3) := by decide +kernel
theorem dX7_isOf_33 : decode cX7_isOf 33 = .ok (.iconst 0, 1) := by decide +kernel
theorem dX7_isOf_34 : decode cX7_isOf 34 = .ok (.ireturn, 1) := by decide +kernel
theorem dX7_kind_0 : decode cX7_kind 0 = .ok (.aload_n 0, 1) := by decide +kernel
theorem dX7_kind_1 : decode cX7_kind 1 = .ok (.iconst 0, 1) := by decide +kernel
theorem dX7_kind_2 : decode cX7_kind 2 = .ok (.putfield 47, 3) := by decide +kernel
theorem dX7_kind_5 : decode cX7_kind 5 = .ok (.aload_n 0, 1) := by decide +kernel
theorem dX7_kind_6 : decode cX7_kind 6 = .ok (.iload_n 1, 1) := by decide +kernel
theorem dX7_kind_7 : decode cX7_kind 7 = .ok (.invokevirtual 212, 3) := by decide +kernel
theorem dX7_kind_10 : decode cX7_kind 10 = .ok (.ifCond .eq 15, 3) := by decide +kernel
theorem dX7_kind_13 : decode cX7_kind 13 = .ok (.aload_n 0, 1) := by decide +kernel
theorem dX7_kind_14 : decode cX7_kind 14 = .ok (.getfield 19, 3) := by decide +kernel
theorem dX7_kind_17 : decode cX7_kind 17 = .ok (.iload_n 1, 1) := by decide +kernel
theorem dX7_kind_18 : decode cX7_kind 18 = .ok (.iconst 0, 1) := by decide +kernel
theorem dX7_kind_19 : decode cX7_kind 19 = .ok (.invokestatic 152, 3) := by decide +kernel
theorem dX7_kind_22 : decode cX7_kind 22 = .ok (.goto 5, 3) := by decide +kernel
theorem dX7_kind_25 : decode cX7_kind 25 = .ok (.ldc 67, 2) := by decide +kernel
theorem dX7_kind_27 : decode cX7_kind 27 = .ok (.ireturn, 1) := by decide +kernel
theorem dX7_as_0 : decode cX7_as 0 = .ok (.aload_n 0, 1) := by decide +kernel
theorem dX7_as_1 : decode cX7_as 1 = .ok (.iconst 0, 1) := by decide +kernel
theorem dX7_as_2 : decode cX7_as 2 = .ok (.putfield 47, 3) := by decide +kernel
theorem dX7_as_5 : decode cX7_as 5 = .ok (.aload_n 0, 1) := by decide +kernel
theorem dX7_as_6 : decode cX7_as 6 = .ok (.iload_n 1, 1) := by decide +kernel
theorem dX7_as_7 : decode cX7_as 7 = .ok (.invokevirtual 212, 3) := by decide +kernel
theorem dX7_as_10 : decode cX7_as 10 = .ok (.ifCond .eq 15, 3) := by decide +kernel
theorem dX7_as_13 : decode cX7_as 13 = .ok (.iload_n 2, 1) := by decide +kernel
theorem dX7_as_14 : decode cX7_as 14 = .ok (.i2l, 1) := by decide +kernel
theorem dX7_as_15 : decode cX7_as 15 = .ok (.lconst 0, 1) := by decide +kernel
theorem dX7_as_16 : decode cX7_as 16 = .ok (.ldc2_w 285, 3) := by decide +kernel
theorem dX7_as_19 : decode cX7_as 19 = .ok (.invokestatic 57, 3) := by decide +kernel
theorem dX7_as_22 : decode cX7_as 22 = .ok (.ifCond .ne 6, 3) := by decide +kernel
theorem dX7_as_25 : decode cX7_as 25 = .ok (.ldc 67, 2) := by decide +kernel
theorem dX7_as_27 : decode cX7_as 27 = .ok (.ireturn, 1) := by decide +kernel
theorem dX7_as_28 : decode cX7_as 28 = .ok (.aload_n 0, 1) := by decide +kernel
theorem dX7_as_29 : decode cX7_as 29 = .ok (.iconst 0, 1) := by decide +kernel
theorem dX7_as_30 : decode cX7_as 30 = .ok (.putfield 51, 3) := by decide +kernel
theorem dX7_as_33 : decode cX7_as 33 = .ok (.aload_n 0, 1) := by decide +kernel
theorem dX7_as_34 : decode cX7_as 34 = .ok (.getfield 19, 3) := by decide +kernel
theorem dX7_as_37 : decode cX7_as 37 = .ok (.iload_n 1, 1) := by decide +kernel
theorem dX7_as_38 : decode cX7_as 38 = .ok (.iconst 0, 1) := by decide +kernel
theorem dX7_as_39 : decode cX7_as 39 = .ok (.invokestatic 152, 3) := by decide +kernel
theorem dX7_as_42 : decode cX7_as 42 = .ok (.iload_n 2, 1) := by decide +kernel
theorem dX7_as_43 : decode cX7_as 43 = .ok (.invokestatic 287, 3) := by decide +kernel
theorem dX7_as_46 : decode cX7_as 46 = .ok (.ifCond .eq 7, 3) := by decide +kernel
theorem dX7_as_49 : decode cX7_as 49 = .ok (.iload_n 1, 1) := by decide +kernel
theorem dX7_as_50 : decode cX7_as 50 = .ok (.goto 8, 3) := by decide +kernel
theorem dX7_as_53 : decode cX7_as 53 = .ok (.aload_n 0, 1) := by decide +kernel
theorem dX7_as_54 : decode cX7_as 54 = .ok (.iconst 3, 1) := by decide +kernel
theorem dX7_as_55 : decode cX7_as 55 = .ok (.invokevirtual 68, 3) := by decide +kernel
theorem dX7_as_58 : decode cX7_as 58 = .ok (.ireturn, 1) := by decide +kernel
theorem dX7_began_0 : decode cX7_began 0 = .ok (.aload_n 0, 1) := by decide +kernel
theorem dX7_began_1 : decode cX7_began 1 = .ok (.getfield 290, 3) := by decide +kernel
theorem dX7_began_4 : decode cX7_began 4 = .ok (.bipush 16, 2) := by decide +kernel
theorem dX7_began_6 : decode cX7_began 6 = .ok (.if_icmp .ge 23, 3) := by decide +kernel
theorem dX7_began_9 : decode cX7_began 9 = .ok (.aload_n 0, 1) := by decide +kernel
theorem dX7_began_10 : decode cX7_began 10 = .ok (.getfield 44, 3) := by decide +kernel
theorem dX7_began_13 : decode cX7_began 13 = .ok (.aload_n 0, 1) := by decide +kernel
theorem dX7_began_14 : decode cX7_began 14 = .ok (.getfield 290, 3) := by decide +kernel
theorem dX7_began_17 : decode cX7_began 17 = .ok (.iload_n 1, 1) := by decide +kernel
theorem dX7_began_18 : decode cX7_began 18 = .ok (.iastore, 1) := by decide +kernel
theorem dX7_began_19 : decode cX7_began 19 = .ok (.aload_n 0, 1) := by decide +kernel
theorem dX7_began_20 : decode cX7_began 20 = .ok (.dup, 1) := by decide +kernel
theorem dX7_began_21 : decode cX7_began 21 = .ok (.getfield 290, 3) := by decide +kernel
theorem dX7_began_24 : decode cX7_began 24 = .ok (.iconst 1, 1) := by decide +kernel
theorem dX7_began_25 : decode cX7_began 25 = .ok (.iadd, 1) := by decide +kernel
theorem dX7_began_26 : decode cX7_began 26 = .ok (.putfield 290, 3) := by decide +kernel
theorem dX7_began_29 : decode cX7_began 29 = .ok (.return_, 1) := by decide +kernel
theorem dX7_plainSize_0 : decode cX7_plainSize 0 = .ok (.aload_n 0, 1) := by decide +kernel
theorem dX7_plainSize_1 : decode cX7_plainSize 1 = .ok (.bipush 10, 2) := by decide +kernel
theorem dX7_plainSize_3 : decode cX7_plainSize 3 = .ok (.invokevirtual 293, 3) := by decide +kernel
theorem dX7_plainSize_6 : decode cX7_plainSize 6 = .ok (.aload_n 0, 1) := by decide +kernel
theorem dX7_plainSize_7 : decode cX7_plainSize 7 = .ok (.getfield 19, 3) := by decide +kernel
theorem dX7_plainSize_10 : decode cX7_plainSize 10 = .ok (.iload_n 1, 1) := by decide +kernel
theorem dX7_plainSize_11 : decode cX7_plainSize 11 = .ok (.iconst 2, 1) := by decide +kernel
theorem dX7_plainSize_12 : decode cX7_plainSize 12 = .ok (.invokestatic 152, 3) := by decide +kernel
theorem dX7_plainSize_15 : decode cX7_plainSize 15 = .ok (.ireturn, 1) := by decide +kernel
theorem dX7_haarSize_0 : decode cX7_haarSize 0 = .ok (.aload_n 0, 1) := by decide +kernel
theorem dX7_haarSize_1 : decode cX7_haarSize 1 = .ok (.getfield 19, 3) := by decide +kernel
theorem dX7_haarSize_4 : decode cX7_haarSize 4 = .ok (.iload_n 1, 1) := by decide +kernel
theorem dX7_haarSize_5 : decode cX7_haarSize 5 = .ok (.iconst 0, 1) := by decide +kernel
theorem dX7_haarSize_6 : decode cX7_haarSize 6 = .ok (.invokestatic 152, 3) := by decide +kernel
theorem dX7_haarSize_9 : decode cX7_haarSize 9 = .ok (.iconst 5, 1) := by decide +kernel
theorem dX7_haarSize_10 : decode cX7_haarSize 10 = .ok (.if_icmp .ne 7, 3) := by decide +kernel
theorem dX7_haarSize_13 : decode cX7_haarSize 13 = .ok (.iconst 1, 1) := by decide +kernel
theorem dX7_haarSize_14 : decode cX7_haarSize 14 = .ok (.goto 4, 3) := by decide +kernel
theorem dX7_haarSize_17 : decode cX7_haarSize 17 = .ok (.iconst 0, 1) := by decide +kernel
theorem dX7_haarSize_18 : decode cX7_haarSize 18 = .ok (.istore_n 2, 1) := by decide +kernel
theorem dX7_haarSize_19 : decode cX7_haarSize 19 = .ok (.iload_n 2, 1) := by decide +kernel
theorem dX7_haarSize_20 : decode cX7_haarSize 20 = .ok (.ifCond .eq 9, 3) := by decide +kernel
theorem dX7_haarSize_23 : decode cX7_haarSize 23 = .ok (.aload_n 0, 1) := by decide +kernel
theorem dX7_haarSize_24 : decode cX7_haarSize 24 = .ok (.bipush 14, 2) := by decide +kernel
theorem dX7_haarSize_26 : decode cX7_haarSize 26 = .ok (.invokevirtual 293, 3) := by decide +kernel
theorem dX7_haarSize_29 : decode cX7_haarSize 29 = .ok (.aload_n 0, 1) := by decide +kernel
theorem dX7_haarSize_30 : decode cX7_haarSize 30 = .ok (.bipush 13, 2) := by decide +kernel
theorem dX7_haarSize_32 : decode cX7_haarSize 32 = .ok (.invokevirtual 293, 3) := by decide +kernel
theorem dX7_haarSize_35 : decode cX7_haarSize 35 = .ok (.aload_n 0, 1) := by decide +kernel
theorem dX7_haarSize_36 : decode cX7_haarSize 36 = .ok (.iload_n 1, 1) := by decide +kernel
theorem dX7_haarSize_37 : decode cX7_haarSize 37 = .ok (.invokevirtual 296, 3) := by decide +kernel
theorem dX7_haarSize_40 : decode cX7_haarSize 40 = .ok (.bipush 100, 2) := by decide +kernel
theorem dX7_haarSize_42 : decode cX7_haarSize 42 = .ok (.isub, 1) := by decide +kernel
theorem dX7_haarSize_43 : decode cX7_haarSize 43 = .ok (.istore_n 3, 1) := by decide +kernel
theorem dX7_haarSize_44 : decode cX7_haarSize 44 = .ok (.iload_n 2, 1) := by decide +kernel
theorem dX7_haarSize_45 : decode cX7_haarSize 45 = .ok (.ifCond .eq 9, 3) := by decide +kernel
theorem dX7_haarSize_48 : decode cX7_haarSize 48 = .ok (.iconst 2, 1) := by decide +kernel
theorem dX7_haarSize_49 : decode cX7_haarSize 49 = .ok (.iload_n 3, 1) := by decide +kernel
theorem dX7_haarSize_50 : decode cX7_haarSize 50 = .ok (.imul, 1) := by decide +kernel
theorem dX7_haarSize_51 : decode cX7_haarSize 51 = .ok (.goto 4, 3) := by decide +kernel
theorem dX7_haarSize_54 : decode cX7_haarSize 54 = .ok (.iload_n 3, 1) := by decide +kernel
theorem dX7_haarSize_55 : decode cX7_haarSize 55 = .ok (.ireturn, 1) := by decide +kernel
theorem dX7_markOf_0 : decode cX7_markOf 0 = .ok (.aload_n 0, 1) := by decide +kernel
theorem dX7_markOf_1 : decode cX7_markOf 1 = .ok (.getfield 19, 3) := by decide +kernel
theorem dX7_markOf_4 : decode cX7_markOf 4 = .ok (.iload_n 1, 1) := by decide +kernel
theorem dX7_markOf_5 : decode cX7_markOf 5 = .ok (.iconst 0, 1) := by decide +kernel
theorem dX7_markOf_6 : decode cX7_markOf 6 = .ok (.invokestatic 152, 3) := by decide +kernel
theorem dX7_markOf_9 : decode cX7_markOf 9 = .ok (.istore_n 2, 1) := by decide +kernel
theorem dX7_markOf_10 : decode cX7_markOf 10 = .ok (.iload_n 2, 1) := by decide +kernel
theorem dX7_markOf_11 : decode cX7_markOf 11 = .ok (.iconst 4, 1) := by decide +kernel
theorem dX7_markOf_12 : decode cX7_markOf 12 = .ok (.if_icmp .lt 23, 3) := by decide +kernel
theorem dX7_markOf_15 : decode cX7_markOf 15 = .ok (.aload_n 0, 1) := by decide +kernel
theorem dX7_markOf_16 : decode cX7_markOf 16 = .ok (.bipush 23, 2) := by decide +kernel
theorem dX7_markOf_18 : decode cX7_markOf 18 = .ok (.invokevirtual 293, 3) := by decide +kernel
theorem dX7_markOf_21 : decode cX7_markOf 21 = .ok (.aload_n 0, 1) := by decide +kernel
theorem dX7_markOf_22 : decode cX7_markOf 22 = .ok (.bipush 20, 2) := by decide +kernel
theorem dX7_markOf_24 : decode cX7_markOf 24 = .ok (.invokevirtual 293, 3) := by decide +kernel
theorem dX7_markOf_27 : decode cX7_markOf 27 = .ok (.iload_n 1, 1) := by decide +kernel
theorem dX7_markOf_28 : decode cX7_markOf 28 = .ok (.aload_n 0, 1) := by decide +kernel
theorem dX7_markOf_29 : decode cX7_markOf 29 = .ok (.iload_n 1, 1) := by decide +kernel
theorem dX7_markOf_30 : decode cX7_markOf 30 = .ok (.invokevirtual 299, 3) := by decide +kernel
theorem dX7_markOf_33 : decode cX7_markOf 33 = .ok (.isub, 1) := by decide +kernel
theorem dX7_markOf_34 : decode cX7_markOf 34 = .ok (.ireturn, 1) := by decide +kernel
theorem dX7_markOf_35 : decode cX7_markOf 35 = .ok (.iload_n 2, 1) := by decide +kernel
theorem dX7_markOf_36 : decode cX7_markOf 36 = .ok (.iconst 1, 1) := by decide +kernel
theorem dX7_markOf_37 : decode cX7_markOf 37 = .ok (.if_icmp .eq 19, 3) := by decide +kernel
theorem dX7_markOf_40 : decode cX7_markOf 40 = .ok (.aload_n 0, 1) := by decide +kernel
theorem dX7_markOf_41 : decode cX7_markOf 41 = .ok (.iload_n 2, 1) := by decide +kernel
theorem dX7_markOf_42 : decode cX7_markOf 42 = .ok (.iconst 3, 1) := by decide +kernel
theorem dX7_markOf_43 : decode cX7_markOf 43 = .ok (.if_icmp .ne 8, 3) := by decide +kernel
theorem dX7_markOf_46 : decode cX7_markOf 46 = .ok (.bipush 22, 2) := by decide +kernel
theorem dX7_markOf_48 : decode cX7_markOf 48 = .ok (.goto 5, 3) := by decide +kernel
theorem dX7_markOf_51 : decode cX7_markOf 51 = .ok (.bipush 24, 2) := by decide +kernel
theorem dX7_markOf_53 : decode cX7_markOf 53 = .ok (.invokevirtual 293, 3) := by decide +kernel
theorem dX7_markOf_56 : decode cX7_markOf 56 = .ok (.aload_n 0, 1) := by decide +kernel
theorem dX7_markOf_57 : decode cX7_markOf 57 = .ok (.bipush 21, 2) := by decide +kernel
theorem dX7_markOf_59 : decode cX7_markOf 59 = .ok (.invokevirtual 293, 3) := by decide +kernel
theorem dX7_markOf_62 : decode cX7_markOf 62 = .ok (.aload_n 0, 1) := by decide +kernel
theorem dX7_markOf_63 : decode cX7_markOf 63 = .ok (.bipush 20, 2) := by decide +kernel
theorem dX7_markOf_65 : decode cX7_markOf 65 = .ok (.invokevirtual 293, 3) := by decide +kernel
theorem dX7_markOf_68 : decode cX7_markOf 68 = .ok (.iload_n 1, 1) := by decide +kernel
theorem dX7_markOf_69 : decode cX7_markOf 69 = .ok (.aload_n 0, 1) := by decide +kernel
theorem dX7_markOf_70 : decode cX7_markOf 70 = .ok (.getfield 19, 3) := by decide +kernel
theorem dX7_markOf_73 : decode cX7_markOf 73 = .ok (.iload_n 1, 1) := by decide +kernel
theorem dX7_markOf_74 : decode cX7_markOf 74 = .ok (.iconst 3, 1) := by decide +kernel
theorem dX7_markOf_75 : decode cX7_markOf 75 = .ok (.invokestatic 152, 3) := by decide +kernel
theorem dX7_markOf_78 : decode cX7_markOf 78 = .ok (.iadd, 1) := by decide +kernel
theorem dX7_markOf_79 : decode cX7_markOf 79 = .ok (.istore_n 3, 1) := by decide +kernel
theorem dX7_markOf_80 : decode cX7_markOf 80 = .ok (.iload_n 2, 1) := by decide +kernel
theorem dX7_markOf_81 : decode cX7_markOf 81 = .ok (.iconst 1, 1) := by decide +kernel
theorem dX7_markOf_82 : decode cX7_markOf 82 = .ok (.if_icmp .ne 7, 3) := by decide +kernel
theorem dX7_markOf_85 : decode cX7_markOf 85 = .ok (.iload_n 3, 1) := by decide +kernel
theorem dX7_markOf_86 : decode cX7_markOf 86 = .ok (.goto 19, 3) := by decide +kernel
theorem dX7_markOf_89 : decode cX7_markOf 89 = .ok (.iload_n 2, 1) := by decide +kernel
theorem dX7_markOf_90 : decode cX7_markOf 90 = .ok (.iconst 3, 1) := by decide +kernel
theorem dX7_markOf_91 : decode cX7_markOf 91 = .ok (.if_icmp .ne 11, 3) := by decide +kernel
theorem dX7_markOf_94 : decode cX7_markOf 94 = .ok (.iload_n 3, 1) := by decide +kernel
theorem dX7_markOf_95 : decode cX7_markOf 95 = .ok (.sipush 1000, 3) := by decide +kernel
theorem dX7_markOf_98 : decode cX7_markOf 98 = .ok (.isub, 1) := by decide +kernel
theorem dX7_markOf_99 : decode cX7_markOf 99 = .ok (.goto 6, 3) := by decide +kernel
theorem dX7_markOf_102 : decode cX7_markOf 102 = .ok (.iconst 2, 1) := by decide +kernel
theorem dX7_markOf_103 : decode cX7_markOf 103 = .ok (.iload_n 3, 1) := by decide +kernel
theorem dX7_markOf_104 : decode cX7_markOf 104 = .ok (.imul, 1) := by decide +kernel
theorem dX7_markOf_105 : decode cX7_markOf 105 = .ok (.ireturn, 1) := by decide +kernel
theorem dX7_sizeOf_0 : decode cX7_sizeOf 0 = .ok (.aload_n 0, 1) := by decide +kernel
theorem dX7_sizeOf_1 : decode cX7_sizeOf 1 = .ok (.getfield 19, 3) := by decide +kernel
theorem dX7_sizeOf_4 : decode cX7_sizeOf 4 = .ok (.iload_n 1, 1) := by decide +kernel
theorem dX7_sizeOf_5 : decode cX7_sizeOf 5 = .ok (.iconst 0, 1) := by decide +kernel
theorem dX7_sizeOf_6 : decode cX7_sizeOf 6 = .ok (.invokestatic 152, 3) := by decide +kernel
theorem dX7_sizeOf_9 : decode cX7_sizeOf 9 = .ok (.istore_n 2, 1) := by decide +kernel
theorem dX7_sizeOf_10 : decode cX7_sizeOf 10 = .ok (.iload_n 2, 1) := by decide +kernel
theorem dX7_sizeOf_11 : decode cX7_sizeOf 11 = .ok (.iconst 4, 1) := by decide +kernel
theorem dX7_sizeOf_12 : decode cX7_sizeOf 12 = .ok (.if_icmp .lt 9, 3) := by decide +kernel
theorem dX7_sizeOf_15 : decode cX7_sizeOf 15 = .ok (.aload_n 0, 1) := by decide +kernel
theorem dX7_sizeOf_16 : decode cX7_sizeOf 16 = .ok (.iload_n 1, 1) := by decide +kernel
theorem dX7_sizeOf_17 : decode cX7_sizeOf 17 = .ok (.invokevirtual 299, 3) := by decide +kernel
theorem dX7_sizeOf_20 : decode cX7_sizeOf 20 = .ok (.ireturn, 1) := by decide +kernel
theorem dX7_sizeOf_21 : decode cX7_sizeOf 21 = .ok (.iload_n 2, 1) := by decide +kernel
theorem dX7_sizeOf_22 : decode cX7_sizeOf 22 = .ok (.iconst 2, 1) := by decide +kernel
theorem dX7_sizeOf_23 : decode cX7_sizeOf 23 = .ok (.if_icmp .ne 9, 3) := by decide +kernel
theorem dX7_sizeOf_26 : decode cX7_sizeOf 26 = .ok (.aload_n 0, 1) := by decide +kernel
theorem dX7_sizeOf_27 : decode cX7_sizeOf 27 = .ok (.bipush 12, 2) := by decide +kernel
theorem dX7_sizeOf_29 : decode cX7_sizeOf 29 = .ok (.invokevirtual 293, 3) := by decide +kernel
theorem dX7_sizeOf_32 : decode cX7_sizeOf 32 = .ok (.aload_n 0, 1) := by decide +kernel
theorem dX7_sizeOf_33 : decode cX7_sizeOf 33 = .ok (.bipush 11, 2) := by decide +kernel
theorem dX7_sizeOf_35 : decode cX7_sizeOf 35 = .ok (.invokevirtual 293, 3) := by decide +kernel
theorem dX7_sizeOf_38 : decode cX7_sizeOf 38 = .ok (.aload_n 0, 1) := by decide +kernel
theorem dX7_sizeOf_39 : decode cX7_sizeOf 39 = .ok (.iload_n 1, 1) := by decide +kernel
theorem dX7_sizeOf_40 : decode cX7_sizeOf 40 = .ok (.invokevirtual 296, 3) := by decide +kernel
theorem dX7_sizeOf_43 : decode cX7_sizeOf 43 = .ok (.istore_n 3, 1) := by decide +kernel
theorem dX7_sizeOf_44 : decode cX7_sizeOf 44 = .ok (.iload_n 3, 1) := by decide +kernel
theorem dX7_sizeOf_45 : decode cX7_sizeOf 45 = .ok (.aload_n 0, 1) := by decide +kernel
theorem dX7_sizeOf_46 : decode cX7_sizeOf 46 = .ok (.iload_n 1, 1) := by decide +kernel
theorem dX7_sizeOf_47 : decode cX7_sizeOf 47 = .ok (.invokevirtual 302, 3) := by decide +kernel
theorem dX7_sizeOf_50 : decode cX7_sizeOf 50 = .ok (.iadd, 1) := by decide +kernel
theorem dX7_sizeOf_51 : decode cX7_sizeOf 51 = .ok (.istore_n 3, 1) := by decide +kernel
theorem dX7_sizeOf_52 : decode cX7_sizeOf 52 = .ok (.iload_n 2, 1) := by decide +kernel
theorem dX7_sizeOf_53 : decode cX7_sizeOf 53 = .ok (.iconst 2, 1) := by decide +kernel
theorem dX7_sizeOf_54 : decode cX7_sizeOf 54 = .ok (.if_icmp .ne 8, 3) := by decide +kernel
theorem dX7_sizeOf_57 : decode cX7_sizeOf 57 = .ok (.iload_n 3, 1) := by decide +kernel
theorem dX7_sizeOf_58 : decode cX7_sizeOf 58 = .ok (.ineg, 1) := by decide +kernel
theorem dX7_sizeOf_59 : decode cX7_sizeOf 59 = .ok (.goto 4, 3) := by decide +kernel
theorem dX7_sizeOf_62 : decode cX7_sizeOf 62 = .ok (.iload_n 3, 1) := by decide +kernel
theorem dX7_sizeOf_63 : decode cX7_sizeOf 63 = .ok (.ireturn, 1) := by decide +kernel
theorem dX7_ask_0 : decode cX7_ask 0 = .ok (.aload_n 0, 1) := by decide +kernel
theorem dX7_ask_1 : decode cX7_ask 1 = .ok (.iconst 0, 1) := by decide +kernel
theorem dX7_ask_2 : decode cX7_ask 2 = .ok (.putfield 47, 3) := by decide +kernel
theorem dX7_ask_5 : decode cX7_ask 5 = .ok (.aload_n 0, 1) := by decide +kernel
theorem dX7_ask_6 : decode cX7_ask 6 = .ok (.iload_n 1, 1) := by decide +kernel
theorem dX7_ask_7 : decode cX7_ask 7 = .ok (.invokevirtual 212, 3) := by decide +kernel
theorem dX7_ask_10 : decode cX7_ask 10 = .ok (.ifCond .eq 13, 3) := by decide +kernel
theorem dX7_ask_13 : decode cX7_ask 13 = .ok (.iload_n 2, 1) := by decide +kernel
theorem dX7_ask_14 : decode cX7_ask 14 = .ok (.i2l, 1) := by decide +kernel
theorem dX7_ask_15 : decode cX7_ask 15 = .ok (.lconst 0, 1) := by decide +kernel
theorem dX7_ask_16 : decode cX7_ask 16 = .ok (.lconst 1, 1) := by decide +kernel
theorem dX7_ask_17 : decode cX7_ask 17 = .ok (.invokestatic 57, 3) := by decide +kernel
theorem dX7_ask_20 : decode cX7_ask 20 = .ok (.ifCond .ne 6, 3) := by decide +kernel
theorem dX7_ask_23 : decode cX7_ask 23 = .ok (.ldc 67, 2) := by decide +kernel
theorem dX7_ask_25 : decode cX7_ask 25 = .ok (.ireturn, 1) := by decide +kernel
theorem dX7_ask_26 : decode cX7_ask 26 = .ok (.aload_n 0, 1) := by decide +kernel
theorem dX7_ask_27 : decode cX7_ask 27 = .ok (.iconst 0, 1) := by decide +kernel
theorem dX7_ask_28 : decode cX7_ask 28 = .ok (.putfield 290, 3) := by decide +kernel
theorem dX7_ask_31 : decode cX7_ask 31 = .ok (.iload_n 2, 1) := by decide +kernel
theorem dX7_ask_32 : decode cX7_ask 32 = .ok (.ifCond .ne 11, 3) := by decide +kernel
theorem dX7_ask_35 : decode cX7_ask 35 = .ok (.aload_n 0, 1) := by decide +kernel
theorem dX7_ask_36 : decode cX7_ask 36 = .ok (.iload_n 1, 1) := by decide +kernel
theorem dX7_ask_37 : decode cX7_ask 37 = .ok (.invokevirtual 305, 3) := by decide +kernel
theorem dX7_ask_40 : decode cX7_ask 40 = .ok (.goto 8, 3) := by decide +kernel
theorem dX7_ask_43 : decode cX7_ask 43 = .ok (.aload_n 0, 1) := by decide +kernel
theorem dX7_ask_44 : decode cX7_ask 44 = .ok (.iload_n 1, 1) := by decide +kernel
theorem dX7_ask_45 : decode cX7_ask 45 = .ok (.invokevirtual 302, 3) := by decide +kernel
theorem dX7_ask_48 : decode cX7_ask 48 = .ok (.ireturn, 1) := by decide +kernel
theorem dX7_trace_0 : decode cX7_trace 0 = .ok (.aload_n 0, 1) := by decide +kernel
theorem dX7_trace_1 : decode cX7_trace 1 = .ok (.iconst 0, 1) := by decide +kernel
theorem dX7_trace_2 : decode cX7_trace 2 = .ok (.putfield 47, 3) := by decide +kernel
theorem dX7_trace_5 : decode cX7_trace 5 = .ok (.iload_n 1, 1) := by decide +kernel
theorem dX7_trace_6 : decode cX7_trace 6 = .ok (.i2l, 1) := by decide +kernel
theorem dX7_trace_7 : decode cX7_trace 7 = .ok (.lconst 0, 1) := by decide +kernel
theorem dX7_trace_8 : decode cX7_trace 8 = .ok (.aload_n 0, 1) := by decide +kernel
theorem dX7_trace_9 : decode cX7_trace 9 = .ok (.getfield 290, 3) := by decide +kernel
theorem dX7_trace_12 : decode cX7_trace 12 = .ok (.iconst 1, 1) := by decide +kernel
theorem dX7_trace_13 : decode cX7_trace 13 = .ok (.isub, 1) := by decide +kernel
theorem dX7_trace_14 : decode cX7_trace 14 = .ok (.i2l, 1) := by decide +kernel
theorem dX7_trace_15 : decode cX7_trace 15 = .ok (.invokestatic 57, 3) := by decide +kernel
theorem dX7_trace_18 : decode cX7_trace 18 = .ok (.ifCond .eq 12, 3) := by decide +kernel
theorem dX7_trace_21 : decode cX7_trace 21 = .ok (.aload_n 0, 1) := by decide +kernel
theorem dX7_trace_22 : decode cX7_trace 22 = .ok (.getfield 44, 3) := by decide +kernel
theorem dX7_trace_25 : decode cX7_trace 25 = .ok (.iload_n 1, 1) := by decide +kernel
theorem dX7_trace_26 : decode cX7_trace 26 = .ok (.iaload, 1) := by decide +kernel
theorem dX7_trace_27 : decode cX7_trace 27 = .ok (.goto 5, 3) := by decide +kernel
theorem dX7_trace_30 : decode cX7_trace 30 = .ok (.ldc 90, 2) := by decide +kernel
theorem dX7_trace_32 : decode cX7_trace 32 = .ok (.ireturn, 1) := by decide +kernel
theorem dX7_count_0 : decode cX7_count 0 = .ok (.aload_n 0, 1) := by decide +kernel
theorem dX7_count_1 : decode cX7_count 1 = .ok (.iconst 0, 1) := by decide +kernel
theorem dX7_count_2 : decode cX7_count 2 = .ok (.putfield 47, 3) := by decide +kernel
theorem dX7_count_5 : decode cX7_count 5 = .ok (.iconst 0, 1) := by decide +kernel
theorem dX7_count_6 : decode cX7_count 6 = .ok (.istore_n 2, 1) := by decide +kernel
theorem dX7_count_7 : decode cX7_count 7 = .ok (.iload_n 1, 1) := by decide +kernel
theorem dX7_count_8 : decode cX7_count 8 = .ok (.tableswitch 135 0 7 #[48, 81, 88, 95, 103, 114, 125, 130], 48) := by decide +kernel
theorem dX7_count_56 : decode cX7_count 56 = .ok (.iconst 0, 1) := by decide +kernel
theorem dX7_count_57 : decode cX7_count 57 = .ok (.istore_n 3, 1) := by decide +kernel
theorem dX7_count_58 : decode cX7_count 58 = .ok (.iload_n 3, 1) := by decide +kernel
theorem dX7_count_59 : decode cX7_count 59 = .ok (.bipush 8, 2) := by decide +kernel
theorem dX7_count_61 : decode cX7_count 61 = .ok (.if_icmp .ge 26, 3) := by decide +kernel
theorem dX7_count_64 : decode cX7_count 64 = .ok (.iload_n 2, 1) := by decide +kernel
theorem dX7_count_65 : decode cX7_count 65 = .ok (.aload_n 0, 1) := by decide +kernel
theorem dX7_count_66 : decode cX7_count 66 = .ok (.getfield 7, 3) := by decide +kernel
theorem dX7_count_69 : decode cX7_count 69 = .ok (.iload_n 3, 1) := by decide +kernel
theorem dX7_count_70 : decode cX7_count 70 = .ok (.iaload, 1) := by decide +kernel
theorem dX7_count_71 : decode cX7_count 71 = .ok (.ifCond .lt 7, 3) := by decide +kernel
theorem dX7_count_74 : decode cX7_count 74 = .ok (.iconst 1, 1) := by decide +kernel
theorem dX7_count_75 : decode cX7_count 75 = .ok (.goto 4, 3) := by decide +kernel
theorem dX7_count_78 : decode cX7_count 78 = .ok (.iconst 0, 1) := by decide +kernel
theorem dX7_count_79 : decode cX7_count 79 = .ok (.iadd, 1) := by decide +kernel
theorem dX7_count_80 : decode cX7_count 80 = .ok (.istore_n 2, 1) := by decide +kernel
theorem dX7_count_81 : decode cX7_count 81 = .ok (.iinc 3 1, 3) := by decide +kernel
theorem dX7_count_84 : decode cX7_count 84 = .ok (.goto (-26), 3) := by decide +kernel
theorem dX7_count_87 : decode cX7_count 87 = .ok (.iload_n 2, 1) := by decide +kernel
theorem dX7_count_88 : decode cX7_count 88 = .ok (.ireturn, 1) := by decide +kernel
theorem dX7_count_89 : decode cX7_count 89 = .ok (.aload_n 0, 1) := by decide +kernel
theorem dX7_count_90 : decode cX7_count 90 = .ok (.getfield 19, 3) := by decide +kernel
theorem dX7_count_93 : decode cX7_count 93 = .ok (.iconst 0, 1) := by decide +kernel
theorem dX7_count_94 : decode cX7_count 94 = .ok (.iaload, 1) := by decide +kernel
theorem dX7_count_95 : decode cX7_count 95 = .ok (.ireturn, 1) := by decide +kernel
theorem dX7_count_96 : decode cX7_count 96 = .ok (.aload_n 0, 1) := by decide +kernel
theorem dX7_count_97 : decode cX7_count 97 = .ok (.getfield 19, 3) := by decide +kernel
theorem dX7_count_100 : decode cX7_count 100 = .ok (.iconst 1, 1) := by decide +kernel
theorem dX7_count_101 : decode cX7_count 101 = .ok (.iaload, 1) := by decide +kernel
theorem dX7_count_102 : decode cX7_count 102 = .ok (.ireturn, 1) := by decide +kernel
theorem dX7_count_103 : decode cX7_count 103 = .ok (.aload_n 0, 1) := by decide +kernel
theorem dX7_count_104 : decode cX7_count 104 = .ok (.getfield 19, 3) := by decide +kernel
theorem dX7_count_107 : decode cX7_count 107 = .ok (.bipush 6, 2) := by decide +kernel
theorem dX7_count_109 : decode cX7_count 109 = .ok (.iaload, 1) := by decide +kernel
theorem dX7_count_110 : decode cX7_count 110 = .ok (.ireturn, 1) := by decide +kernel
theorem dX7_count_111 : decode cX7_count 111 = .ok (.aload_n 0, 1) := by decide +kernel
theorem dX7_count_112 : decode cX7_count 112 = .ok (.getfield 19, 3) := by decide +kernel
theorem dX7_count_115 : decode cX7_count 115 = .ok (.invokestatic 196, 3) := by decide +kernel
theorem dX7_count_118 : decode cX7_count 118 = .ok (.invokestatic 199, 3) := by decide +kernel
theorem dX7_count_121 : decode cX7_count 121 = .ok (.ireturn, 1) := by decide +kernel
theorem dX7_count_122 : decode cX7_count 122 = .ok (.aload_n 0, 1) := by decide +kernel
theorem dX7_count_123 : decode cX7_count 123 = .ok (.getfield 19, 3) := by decide +kernel
theorem dX7_count_126 : decode cX7_count 126 = .ok (.invokestatic 220, 3) := by decide +kernel
theorem dX7_count_129 : decode cX7_count 129 = .ok (.invokestatic 199, 3) := by decide +kernel
theorem dX7_count_132 : decode cX7_count 132 = .ok (.ireturn, 1) := by decide +kernel
theorem dX7_count_133 : decode cX7_count 133 = .ok (.aload_n 0, 1) := by decide +kernel
theorem dX7_count_134 : decode cX7_count 134 = .ok (.getfield 149, 3) := by decide +kernel
theorem dX7_count_137 : decode cX7_count 137 = .ok (.ireturn, 1) := by decide +kernel
theorem dX7_count_138 : decode cX7_count 138 = .ok (.aload_n 0, 1) := by decide +kernel
theorem dX7_count_139 : decode cX7_count 139 = .ok (.getfield 74, 3) := by decide +kernel
theorem dX7_count_142 : decode cX7_count 142 = .ok (.ireturn, 1) := by decide +kernel
theorem dX7_count_143 : decode cX7_count 143 = .ok (.ldc 67, 2) := by decide +kernel
theorem dX7_count_145 : decode cX7_count 145 = .ok (.ireturn, 1) := by decide +kernel
theorem dX7_status_0 : decode cX7_status 0 = .ok (.aload_n 0, 1) := by decide +kernel
theorem dX7_status_1 : decode cX7_status 1 = .ok (.iconst 0, 1) := by decide +kernel
theorem dX7_status_2 : decode cX7_status 2 = .ok (.putfield 47, 3) := by decide +kernel
theorem dX7_status_5 : decode cX7_status 5 = .ok (.aload_n 0, 1) := by decide +kernel
theorem dX7_status_6 : decode cX7_status 6 = .ok (.getfield 51, 3) := by decide +kernel
theorem dX7_status_9 : decode cX7_status 9 = .ok (.ireturn, 1) := by decide +kernel
