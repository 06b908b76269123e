theorem dX7_drift_30 : decode cX7_drift 30 = .ok (.istore 5, 2) := by decide +kernel
theorem dX7_drift_32 : decode cX7_drift 32 = .ok (.iload_n 3, 1) := by decide +kernel
theorem dX7_drift_33 : decode cX7_drift 33 = .ok (.ifCond .eq 7, 3) := by decide +kernel
theorem dX7_drift_36 : decode cX7_drift 36 = .ok (.iconst 1, 1) := by decide +kernel
theorem dX7_drift_37 : decode cX7_drift 37 = .ok (.goto 4, 3) := by decide +kernel
theorem dX7_drift_40 : decode cX7_drift 40 = .ok (.iconst 0, 1) := by decide +kernel
theorem dX7_drift_41 : decode cX7_drift 41 = .ok (.istore 6, 2) := by decide +kernel
theorem dX7_drift_43 : decode cX7_drift 43 = .ok (.aload_n 0, 1) := by decide +kernel
theorem dX7_drift_44 : decode cX7_drift 44 = .ok (.iload_n 1, 1) := by decide +kernel
theorem dX7_drift_45 : decode cX7_drift 45 = .ok (.iconst 0, 1) := by decide +kernel
theorem dX7_drift_46 : decode cX7_drift 46 = .ok (.invokestatic 152, 3) := by decide +kernel
theorem dX7_drift_49 : decode cX7_drift 49 = .ok (.tableswitch 82 1 4 #[31, 40, 51, 65], 31) := by decide +kernel
theorem dX7_drift_80 : decode cX7_drift 80 = .ok (.iload 4, 2) := by decide +kernel
theorem dX7_drift_82 : decode cX7_drift 82 = .ok (.iload_n 2, 1) := by decide +kernel
theorem dX7_drift_83 : decode cX7_drift 83 = .ok (.iadd, 1) := by decide +kernel
theorem dX7_drift_84 : decode cX7_drift 84 = .ok (.istore 4, 2) := by decide +kernel
theorem dX7_drift_86 : decode cX7_drift 86 = .ok (.goto 67, 3) := by decide +kernel
theorem dX7_drift_89 : decode cX7_drift 89 = .ok (.iload 4, 2) := by decide +kernel
theorem dX7_drift_91 : decode cX7_drift 91 = .ok (.iload_n 2, 1) := by decide +kernel
theorem dX7_drift_92 : decode cX7_drift 92 = .ok (.iconst 2, 1) := by decide +kernel
theorem dX7_drift_93 : decode cX7_drift 93 = .ok (.idiv, 1) := by decide +kernel
theorem dX7_drift_94 : decode cX7_drift 94 = .ok (.iadd, 1) := by decide +kernel
theorem dX7_drift_95 : decode cX7_drift 95 = .ok (.istore 4, 2) := by decide +kernel
theorem dX7_drift_97 : decode cX7_drift 97 = .ok (.goto 56, 3) := by decide +kernel
theorem dX7_drift_100 : decode cX7_drift 100 = .ok (.iload 4, 2) := by decide +kernel
theorem dX7_drift_102 : decode cX7_drift 102 = .ok (.iconst 2, 1) := by decide +kernel
theorem dX7_drift_103 : decode cX7_drift 103 = .ok (.iload_n 2, 1) := by decide +kernel
theorem dX7_drift_104 : decode cX7_drift 104 = .ok (.imul, 1) := by decide +kernel
theorem dX7_drift_105 : decode cX7_drift 105 = .ok (.iadd, 1) := by decide +kernel
theorem dX7_drift_106 : decode cX7_drift 106 = .ok (.istore 4, 2) := by decide +kernel
theorem dX7_drift_108 : decode cX7_drift 108 = .ok (.iinc 6 1, 3) := by decide +kernel
theorem dX7_drift_111 : decode cX7_drift 111 = .ok (.goto 42, 3) := by decide +kernel
theorem dX7_drift_114 : decode cX7_drift 114 = .ok (.iinc 4 (-1), 3) := by decide +kernel
theorem dX7_drift_117 : decode cX7_drift 117 = .ok (.iload_n 2, 1) := by decide +kernel
theorem dX7_drift_118 : decode cX7_drift 118 = .ok (.ifCond .ne 7, 3) := by decide +kernel
theorem dX7_drift_121 : decode cX7_drift 121 = .ok (.iconst 0, 1) := by decide +kernel
theorem dX7_drift_122 : decode cX7_drift 122 = .ok (.goto 4, 3) := by decide +kernel
theorem dX7_drift_125 : decode cX7_drift 125 = .ok (.iconst 1, 1) := by decide +kernel
theorem dX7_drift_126 : decode cX7_drift 126 = .ok (.istore 6, 2) := by decide +kernel
theorem dX7_drift_128 : decode cX7_drift 128 = .ok (.goto 25, 3) := by decide +kernel
theorem dX7_drift_131 : decode cX7_drift 131 = .ok (.iload_n 2, 1) := by decide +kernel
theorem dX7_drift_132 : decode cX7_drift 132 = .ok (.ifCond .ne 18, 3) := by decide +kernel
theorem dX7_drift_135 : decode cX7_drift 135 = .ok (.iload 5, 2) := by decide +kernel
theorem dX7_drift_137 : decode cX7_drift 137 = .ok (.bipush 9, 2) := by decide +kernel
theorem dX7_drift_139 : decode cX7_drift 139 = .ok (.if_icmp .ge 7, 3) := by decide +kernel
theorem dX7_drift_142 : decode cX7_drift 142 = .ok (.iconst (-1), 1) := by decide +kernel
theorem dX7_drift_143 : decode cX7_drift 143 = .ok (.goto 8, 3) := by decide +kernel
theorem dX7_drift_146 : decode cX7_drift 146 = .ok (.iconst 0, 1) := by decide +kernel
theorem dX7_drift_147 : decode cX7_drift 147 = .ok (.goto 4, 3) := by decide +kernel
theorem dX7_drift_150 : decode cX7_drift 150 = .ok (.iconst 1, 1) := by decide +kernel
theorem dX7_drift_151 : decode cX7_drift 151 = .ok (.istore 6, 2) := by decide +kernel
theorem dX7_drift_153 : decode cX7_drift 153 = .ok (.iload 5, 2) := by decide +kernel
theorem dX7_drift_155 : decode cX7_drift 155 = .ok (.iload 6, 2) := by decide +kernel
theorem dX7_drift_157 : decode cX7_drift 157 = .ok (.isub, 1) := by decide +kernel
theorem dX7_drift_158 : decode cX7_drift 158 = .ok (.istore 5, 2) := by decide +kernel
theorem dX7_drift_160 : decode cX7_drift 160 = .ok (.iload 5, 2) := by decide +kernel
theorem dX7_drift_162 : decode cX7_drift 162 = .ok (.ifCond .le 18, 3) := by decide +kernel
theorem dX7_drift_165 : decode cX7_drift 165 = .ok (.aload_n 0, 1) := by decide +kernel
theorem dX7_drift_166 : decode cX7_drift 166 = .ok (.iload 4, 2) := by decide +kernel
theorem dX7_drift_168 : decode cX7_drift 168 = .ok (.aload_n 0, 1) := by decide +kernel
theorem dX7_drift_169 : decode cX7_drift 169 = .ok (.iload_n 1, 1) := by decide +kernel
theorem dX7_drift_170 : decode cX7_drift 170 = .ok (.iconst 2, 1) := by decide +kernel
theorem dX7_drift_171 : decode cX7_drift 171 = .ok (.invokestatic 152, 3) := by decide +kernel
theorem dX7_drift_174 : decode cX7_drift 174 = .ok (.invokestatic 160, 3) := by decide +kernel
theorem dX7_drift_177 : decode cX7_drift 177 = .ok (.ifCond .ne 11, 3) := by decide +kernel
theorem dX7_drift_180 : decode cX7_drift 180 = .ok (.aload_n 0, 1) := by decide +kernel
theorem dX7_drift_181 : decode cX7_drift 181 = .ok (.iload_n 1, 1) := by decide +kernel
theorem dX7_drift_182 : decode cX7_drift 182 = .ok (.iconst 5, 1) := by decide +kernel
theorem dX7_drift_183 : decode cX7_drift 183 = .ok (.iconst 0, 1) := by decide +kernel
theorem dX7_drift_184 : decode cX7_drift 184 = .ok (.invokestatic 163, 3) := by decide +kernel
theorem dX7_drift_187 : decode cX7_drift 187 = .ok (.return_, 1) := by decide +kernel
theorem dX7_drift_188 : decode cX7_drift 188 = .ok (.aload_n 0, 1) := by decide +kernel
theorem dX7_drift_189 : decode cX7_drift 189 = .ok (.iload_n 1, 1) := by decide +kernel
theorem dX7_drift_190 : decode cX7_drift 190 = .ok (.iconst 1, 1) := by decide +kernel
theorem dX7_drift_191 : decode cX7_drift 191 = .ok (.iload 4, 2) := by decide +kernel
theorem dX7_drift_193 : decode cX7_drift 193 = .ok (.invokestatic 163, 3) := by decide +kernel
theorem dX7_drift_196 : decode cX7_drift 196 = .ok (.aload_n 0, 1) := by decide +kernel
theorem dX7_drift_197 : decode cX7_drift 197 = .ok (.iload_n 1, 1) := by decide +kernel
theorem dX7_drift_198 : decode cX7_drift 198 = .ok (.iconst 3, 1) := by decide +kernel
theorem dX7_drift_199 : decode cX7_drift 199 = .ok (.iload 5, 2) := by decide +kernel
theorem dX7_drift_201 : decode cX7_drift 201 = .ok (.invokestatic 163, 3) := by decide +kernel
theorem dX7_drift_204 : decode cX7_drift 204 = .ok (.return_, 1) := by decide +kernel
theorem dX7_hourOf_0 : decode cX7_hourOf 0 = .ok (.aload_n 0, 1) := by decide +kernel
theorem dX7_hourOf_1 : decode cX7_hourOf 1 = .ok (.invokestatic 167, 3) := by decide +kernel
theorem dX7_hourOf_4 : decode cX7_hourOf 4 = .ok (.iconst 2, 1) := by decide +kernel
theorem dX7_hourOf_5 : decode cX7_hourOf 5 = .ok (.isub, 1) := by decide +kernel
theorem dX7_hourOf_6 : decode cX7_hourOf 6 = .ok (.istore_n 1, 1) := by decide +kernel
theorem dX7_hourOf_7 : decode cX7_hourOf 7 = .ok (.iconst 0, 1) := by decide +kernel
theorem dX7_hourOf_8 : decode cX7_hourOf 8 = .ok (.istore_n 2, 1) := by decide +kernel
theorem dX7_hourOf_9 : decode cX7_hourOf 9 = .ok (.iload_n 2, 1) := by decide +kernel
theorem dX7_hourOf_10 : decode cX7_hourOf 10 = .ok (.aload_n 0, 1) := by decide +kernel
theorem dX7_hourOf_11 : decode cX7_hourOf 11 = .ok (.iconst 0, 1) := by decide +kernel
theorem dX7_hourOf_12 : decode cX7_hourOf 12 = .ok (.iaload, 1) := by decide +kernel
theorem dX7_hourOf_13 : decode cX7_hourOf 13 = .ok (.if_icmp .ge 23, 3) := by decide +kernel
theorem dX7_hourOf_16 : decode cX7_hourOf 16 = .ok (.aload_n 0, 1) := by decide +kernel
theorem dX7_hourOf_17 : decode cX7_hourOf 17 = .ok (.iload_n 2, 1) := by decide +kernel
theorem dX7_hourOf_18 : decode cX7_hourOf 18 = .ok (.invokestatic 156, 3) := by decide +kernel
theorem dX7_hourOf_21 : decode cX7_hourOf 21 = .ok (.ifCond .eq 9, 3) := by decide +kernel
theorem dX7_hourOf_24 : decode cX7_hourOf 24 = .ok (.aload_n 0, 1) := by decide +kernel
theorem dX7_hourOf_25 : decode cX7_hourOf 25 = .ok (.iload_n 2, 1) := by decide +kernel
theorem dX7_hourOf_26 : decode cX7_hourOf 26 = .ok (.iload_n 1, 1) := by decide +kernel
theorem dX7_hourOf_27 : decode cX7_hourOf 27 = .ok (.invokestatic 171, 3) := by decide +kernel
theorem dX7_hourOf_30 : decode cX7_hourOf 30 = .ok (.iinc 2 1, 3) := by decide +kernel
theorem dX7_hourOf_33 : decode cX7_hourOf 33 = .ok (.goto (-24), 3) := by decide +kernel
theorem dX7_hourOf_36 : decode cX7_hourOf 36 = .ok (.iconst 0, 1) := by decide +kernel
theorem dX7_hourOf_37 : decode cX7_hourOf 37 = .ok (.istore_n 2, 1) := by decide +kernel
theorem dX7_hourOf_38 : decode cX7_hourOf 38 = .ok (.iload_n 2, 1) := by decide +kernel
theorem dX7_hourOf_39 : decode cX7_hourOf 39 = .ok (.aload_n 0, 1) := by decide +kernel
theorem dX7_hourOf_40 : decode cX7_hourOf 40 = .ok (.iconst 0, 1) := by decide +kernel
theorem dX7_hourOf_41 : decode cX7_hourOf 41 = .ok (.iaload, 1) := by decide +kernel
theorem dX7_hourOf_42 : decode cX7_hourOf 42 = .ok (.if_icmp .ge 65, 3) := by decide +kernel
theorem dX7_hourOf_45 : decode cX7_hourOf 45 = .ok (.aload_n 0, 1) := by decide +kernel
theorem dX7_hourOf_46 : decode cX7_hourOf 46 = .ok (.iconst 5, 1) := by decide +kernel
theorem dX7_hourOf_47 : decode cX7_hourOf 47 = .ok (.iaload, 1) := by decide +kernel
theorem dX7_hourOf_48 : decode cX7_hourOf 48 = .ok (.aload_n 0, 1) := by decide +kernel
theorem dX7_hourOf_49 : decode cX7_hourOf 49 = .ok (.bipush 6, 2) := by decide +kernel
theorem dX7_hourOf_51 : decode cX7_hourOf 51 = .ok (.iaload, 1) := by decide +kernel
theorem dX7_hourOf_52 : decode cX7_hourOf 52 = .ok (.iconst 4, 1) := by decide +kernel
theorem dX7_hourOf_53 : decode cX7_hourOf 53 = .ok (.irem, 1) := by decide +kernel
theorem dX7_hourOf_54 : decode cX7_hourOf 54 = .ok (.invokestatic 175, 3) := by decide +kernel
theorem dX7_hourOf_57 : decode cX7_hourOf 57 = .ok (.ifCond .eq 50, 3) := by decide +kernel
theorem dX7_hourOf_60 : decode cX7_hourOf 60 = .ok (.aload_n 0, 1) := by decide +kernel
theorem dX7_hourOf_61 : decode cX7_hourOf 61 = .ok (.iload_n 2, 1) := by decide +kernel
theorem dX7_hourOf_62 : decode cX7_hourOf 62 = .ok (.invokestatic 179, 3) := by decide +kernel
theorem dX7_hourOf_65 : decode cX7_hourOf 65 = .ok (.aload_n 0, 1) := by decide +kernel
theorem dX7_hourOf_66 : decode cX7_hourOf 66 = .ok (.iconst 3, 1) := by decide +kernel
theorem dX7_hourOf_67 : decode cX7_hourOf 67 = .ok (.iaload, 1) := by decide +kernel
theorem dX7_hourOf_68 : decode cX7_hourOf 68 = .ok (.invokestatic 175, 3) := by decide +kernel
theorem dX7_hourOf_71 : decode cX7_hourOf 71 = .ok (.ifCond .eq 30, 3) := by decide +kernel
theorem dX7_hourOf_74 : decode cX7_hourOf 74 = .ok (.aload_n 0, 1) := by decide +kernel
theorem dX7_hourOf_75 : decode cX7_hourOf 75 = .ok (.iload_n 2, 1) := by decide +kernel
theorem dX7_hourOf_76 : decode cX7_hourOf 76 = .ok (.iconst 4, 1) := by decide +kernel
theorem dX7_hourOf_77 : decode cX7_hourOf 77 = .ok (.invokestatic 152, 3) := by decide +kernel
theorem dX7_hourOf_80 : decode cX7_hourOf 80 = .ok (.ifCond .ne 21, 3) := by decide +kernel
theorem dX7_hourOf_83 : decode cX7_hourOf 83 = .ok (.aload_n 0, 1) := by decide +kernel
theorem dX7_hourOf_84 : decode cX7_hourOf 84 = .ok (.bipush 7, 2) := by decide +kernel
theorem dX7_hourOf_86 : decode cX7_hourOf 86 = .ok (.dup2, 1) := by decide +kernel
theorem dX7_hourOf_87 : decode cX7_hourOf 87 = .ok (.iaload, 1) := by decide +kernel
theorem dX7_hourOf_88 : decode cX7_hourOf 88 = .ok (.iconst 1, 1) := by decide +kernel
theorem dX7_hourOf_89 : decode cX7_hourOf 89 = .ok (.iadd, 1) := by decide +kernel
theorem dX7_hourOf_90 : decode cX7_hourOf 90 = .ok (.iastore, 1) := by decide +kernel
theorem dX7_hourOf_91 : decode cX7_hourOf 91 = .ok (.aload_n 0, 1) := by decide +kernel
theorem dX7_hourOf_92 : decode cX7_hourOf 92 = .ok (.iload_n 2, 1) := by decide +kernel
theorem dX7_hourOf_93 : decode cX7_hourOf 93 = .ok (.iconst 4, 1) := by decide +kernel
theorem dX7_hourOf_94 : decode cX7_hourOf 94 = .ok (.aload_n 0, 1) := by decide +kernel
theorem dX7_hourOf_95 : decode cX7_hourOf 95 = .ok (.bipush 7, 2) := by decide +kernel
theorem dX7_hourOf_97 : decode cX7_hourOf 97 = .ok (.iaload, 1) := by decide +kernel
theorem dX7_hourOf_98 : decode cX7_hourOf 98 = .ok (.invokestatic 163, 3) := by decide +kernel
theorem dX7_hourOf_101 : decode cX7_hourOf 101 = .ok (.iinc 2 1, 3) := by decide +kernel
theorem dX7_hourOf_104 : decode cX7_hourOf 104 = .ok (.goto (-66), 3) := by decide +kernel
theorem dX7_hourOf_107 : decode cX7_hourOf 107 = .ok (.aload_n 0, 1) := by decide +kernel
theorem dX7_hourOf_108 : decode cX7_hourOf 108 = .ok (.bipush 6, 2) := by decide +kernel
theorem dX7_hourOf_110 : decode cX7_hourOf 110 = .ok (.dup2, 1) := by decide +kernel
theorem dX7_hourOf_111 : decode cX7_hourOf 111 = .ok (.iaload, 1) := by decide +kernel
theorem dX7_hourOf_112 : decode cX7_hourOf 112 = .ok (.iconst 1, 1) := by decide +kernel
theorem dX7_hourOf_113 : decode cX7_hourOf 113 = .ok (.iadd, 1) := by decide +kernel
theorem dX7_hourOf_114 : decode cX7_hourOf 114 = .ok (.iastore, 1) := by decide +kernel
theorem dX7_hourOf_115 : decode cX7_hourOf 115 = .ok (.return_, 1) := by decide +kernel
theorem dX7_hoursOf_0 : decode cX7_hoursOf 0 = .ok (.iconst 0, 1) := by decide +kernel
theorem dX7_hoursOf_1 : decode cX7_hoursOf 1 = .ok (.istore_n 2, 1) := by decide +kernel
theorem dX7_hoursOf_2 : decode cX7_hoursOf 2 = .ok (.iload_n 2, 1) := by decide +kernel
theorem dX7_hoursOf_3 : decode cX7_hoursOf 3 = .ok (.iload_n 1, 1) := by decide +kernel
theorem dX7_hoursOf_4 : decode cX7_hoursOf 4 = .ok (.if_icmp .ge 13, 3) := by decide +kernel
theorem dX7_hoursOf_7 : decode cX7_hoursOf 7 = .ok (.aload_n 0, 1) := by decide +kernel
theorem dX7_hoursOf_8 : decode cX7_hoursOf 8 = .ok (.invokestatic 183, 3) := by decide +kernel
theorem dX7_hoursOf_11 : decode cX7_hoursOf 11 = .ok (.iinc 2 1, 3) := by decide +kernel
theorem dX7_hoursOf_14 : decode cX7_hoursOf 14 = .ok (.goto (-12), 3) := by decide +kernel
theorem dX7_hoursOf_17 : decode cX7_hoursOf 17 = .ok (.return_, 1) := by decide +kernel
theorem dX7_overOf_0 : decode cX7_overOf 0 = .ok (.iconst 0, 1) := by decide +kernel
theorem dX7_overOf_1 : decode cX7_overOf 1 = .ok (.istore_n 2, 1) := by decide +kernel
theorem dX7_overOf_2 : decode cX7_overOf 2 = .ok (.iconst 0, 1) := by decide +kernel
theorem dX7_overOf_3 : decode cX7_overOf 3 = .ok (.istore_n 3, 1) := by decide +kernel
theorem dX7_overOf_4 : decode cX7_overOf 4 = .ok (.iload_n 3, 1) := by decide +kernel
theorem dX7_overOf_5 : decode cX7_overOf 5 = .ok (.aload_n 0, 1) := by decide +kernel
theorem dX7_overOf_6 : decode cX7_overOf 6 = .ok (.iconst 0, 1) := by decide +kernel
theorem dX7_overOf_7 : decode cX7_overOf 7 = .ok (.iaload, 1) := by decide +kernel
theorem dX7_overOf_8 : decode cX7_overOf 8 = .ok (.if_icmp .ge 34, 3) := by decide +kernel
theorem dX7_overOf_11 : decode cX7_overOf 11 = .ok (.iload_n 2, 1) := by decide +kernel
theorem dX7_overOf_12 : decode cX7_overOf 12 = .ok (.aload_n 0, 1) := by decide +kernel
theorem dX7_overOf_13 : decode cX7_overOf 13 = .ok (.iload_n 3, 1) := by decide +kernel
theorem dX7_overOf_14 : decode cX7_overOf 14 = .ok (.invokestatic 179, 3) := by decide +kernel
theorem dX7_overOf_17 : decode cX7_overOf 17 = .ok (.iload_n 1, 1) := by decide +kernel
theorem dX7_overOf_18 : decode cX7_overOf 18 = .ok (.invokestatic 175, 3) := by decide +kernel
theorem dX7_overOf_21 : decode cX7_overOf 21 = .ok (.ifCond .eq 12, 3) := by decide +kernel
theorem dX7_overOf_24 : decode cX7_overOf 24 = .ok (.aload_n 0, 1) := by decide +kernel
theorem dX7_overOf_25 : decode cX7_overOf 25 = .ok (.iload_n 3, 1) := by decide +kernel
theorem dX7_overOf_26 : decode cX7_overOf 26 = .ok (.iconst 3, 1) := by decide +kernel
theorem dX7_overOf_27 : decode cX7_overOf 27 = .ok (.invokestatic 152, 3) := by decide +kernel
theorem dX7_overOf_30 : decode cX7_overOf 30 = .ok (.goto 4, 3) := by decide +kernel
theorem dX7_overOf_33 : decode cX7_overOf 33 = .ok (.iconst 0, 1) := by decide +kernel
theorem dX7_overOf_34 : decode cX7_overOf 34 = .ok (.iadd, 1) := by decide +kernel
theorem dX7_overOf_35 : decode cX7_overOf 35 = .ok (.istore_n 2, 1) := by decide +kernel
theorem dX7_overOf_36 : decode cX7_overOf 36 = .ok (.iinc 3 1, 3) := by decide +kernel
theorem dX7_overOf_39 : decode cX7_overOf 39 = .ok (.goto (-35), 3) := by decide +kernel
theorem dX7_overOf_42 : decode cX7_overOf 42 = .ok (.iload_n 2, 1) := by decide +kernel
theorem dX7_overOf_43 : decode cX7_overOf 43 = .ok (.ireturn, 1) := by decide +kernel
theorem dX7_ins_0 : decode cX7_ins 0 = .ok (.iconst 0, 1) := by decide +kernel
theorem dX7_ins_1 : decode cX7_ins 1 = .ok (.istore_n 1, 1) := by decide +kernel
theorem dX7_ins_2 : decode cX7_ins 2 = .ok (.iconst 0, 1) := by decide +kernel
theorem dX7_ins_3 : decode cX7_ins 3 = .ok (.istore_n 2, 1) := by decide +kernel
theorem dX7_ins_4 : decode cX7_ins 4 = .ok (.iload_n 2, 1) := by decide +kernel
theorem dX7_ins_5 : decode cX7_ins 5 = .ok (.aload_n 0, 1) := by decide +kernel
theorem dX7_ins_6 : decode cX7_ins 6 = .ok (.iconst 0, 1) := by decide +kernel
theorem dX7_ins_7 : decode cX7_ins 7 = .ok (.iaload, 1) := by decide +kernel
theorem dX7_ins_8 : decode cX7_ins 8 = .ok (.if_icmp .ge 27, 3) := by decide +kernel
theorem dX7_ins_11 : decode cX7_ins 11 = .ok (.iload_n 1, 1) := by decide +kernel
theorem dX7_ins_12 : decode cX7_ins 12 = .ok (.aload_n 0, 1) := by decide +kernel
theorem dX7_ins_13 : decode cX7_ins 13 = .ok (.iload_n 2, 1) := by decide +kernel
theorem dX7_ins_14 : decode cX7_ins 14 = .ok (.invokestatic 156, 3) := by decide +kernel
theorem dX7_ins_17 : decode cX7_ins 17 = .ok (.ifCond .eq 9, 3) := by decide +kernel
theorem dX7_ins_20 : decode cX7_ins 20 = .ok (.iconst 1, 1) := by decide +kernel
theorem dX7_ins_21 : decode cX7_ins 21 = .ok (.iload_n 2, 1) := by decide +kernel
theorem dX7_ins_22 : decode cX7_ins 22 = .ok (.ishl, 1) := by decide +kernel
theorem dX7_ins_23 : decode cX7_ins 23 = .ok (.goto 4, 3) := by decide +kernel
theorem dX7_ins_26 : decode cX7_ins 26 = .ok (.iconst 0, 1) := by decide +kernel
theorem dX7_ins_27 : decode cX7_ins 27 = .ok (.ior, 1) := by decide +kernel
theorem dX7_ins_28 : decode cX7_ins 28 = .ok (.istore_n 1, 1) := by decide +kernel
theorem dX7_ins_29 : decode cX7_ins 29 = .ok (.iinc 2 1, 3) := by decide +kernel
theorem dX7_ins_32 : decode cX7_ins 32 = .ok (.goto (-28), 3) := by decide +kernel
theorem dX7_ins_35 : decode cX7_ins 35 = .ok (.iload_n 1, 1) := by decide +kernel
theorem dX7_ins_36 : decode cX7_ins 36 = .ok (.ireturn, 1) := by decide +kernel
theorem dX7_numbered_0 : decode cX7_numbered 0 = .ok (.iconst 0, 1) := by decide +kernel
theorem dX7_numbered_1 : decode cX7_numbered 1 = .ok (.istore_n 1, 1) := by decide +kernel
theorem dX7_numbered_2 : decode cX7_numbered 2 = .ok (.iconst 0, 1) := by decide +kernel
theorem dX7_numbered_3 : decode cX7_numbered 3 = .ok (.istore_n 2, 1) := by decide +kernel
theorem dX7_numbered_4 : decode cX7_numbered 4 = .ok (.iload_n 2, 1) := by decide +kernel
theorem dX7_numbered_5 : decode cX7_numbered 5 = .ok (.aload_n 0, 1) := by decide +kernel
theorem dX7_numbered_6 : decode cX7_numbered 6 = .ok (.iconst 0, 1) := by decide +kernel
theorem dX7_numbered_7 : decode cX7_numbered 7 = .ok (.iaload, 1) := by decide +kernel
theorem dX7_numbered_8 : decode cX7_numbered 8 = .ok (.if_icmp .ge 28, 3) := by decide +kernel
theorem dX7_numbered_11 : decode cX7_numbered 11 = .ok (.iload_n 1, 1) := by decide +kernel
theorem dX7_numbered_12 : decode cX7_numbered 12 = .ok (.aload_n 0, 1) := by decide +kernel
theorem dX7_numbered_13 : decode cX7_numbered 13 = .ok (.iload_n 2, 1) := by decide +kernel
theorem dX7_numbered_14 : decode cX7_numbered 14 = .ok (.iconst 4, 1) := by decide +kernel
theorem dX7_numbered_15 : decode cX7_numbered 15 = .ok (.invokestatic 152, 3) := by decide +kernel
theorem dX7_numbered_18 : decode cX7_numbered 18 = .ok (.ifCond .le 9, 3) := by decide +kernel
theorem dX7_numbered_21 : decode cX7_numbered 21 = .ok (.iconst 1, 1) := by decide +kernel
theorem dX7_numbered_22 : decode cX7_numbered 22 = .ok (.iload_n 2, 1) := by decide +kernel
theorem dX7_numbered_23 : decode cX7_numbered 23 = .ok (.ishl, 1) := by decide +kernel
theorem dX7_numbered_24 : decode cX7_numbered 24 = .ok (.goto 4, 3) := by decide +kernel
theorem dX7_numbered_27 : decode cX7_numbered 27 = .ok (.iconst 0, 1) := by decide +kernel
theorem dX7_numbered_28 : decode cX7_numbered 28 = .ok (.ior, 1) := by decide +kernel
theorem dX7_numbered_29 : decode cX7_numbered 29 = .ok (.istore_n 1, 1) := by decide +kernel
theorem dX7_numbered_30 : decode cX7_numbered 30 = .ok (.iinc 2 1, 3) := by decide +kernel
theorem dX7_numbered_33 : decode cX7_numbered 33 = .ok (.goto (-29), 3) := by decide +kernel
theorem dX7_numbered_36 : decode cX7_numbered 36 = .ok (.iload_n 1, 1) := by decide +kernel
theorem dX7_numbered_37 : decode cX7_numbered 37 = .ok (.ireturn, 1) := by decide +kernel
theorem dX7_letIn_0 : decode cX7_letIn 0 = .ok (.aload_n 0, 1) := by decide +kernel
theorem dX7_letIn_1 : decode cX7_letIn 1 = .ok (.iload_n 1, 1) := by decide +kernel
theorem dX7_letIn_2 : decode cX7_letIn 2 = .ok (.iconst 1, 1) := by decide +kernel
theorem dX7_letIn_3 : decode cX7_letIn 3 = .ok (.iload_n 2, 1) := by decide +kernel
theorem dX7_letIn_4 : decode cX7_letIn 4 = .ok (.invokestatic 163, 3) := by decide +kernel
theorem dX7_letIn_7 : decode cX7_letIn 7 = .ok (.aload_n 0, 1) := by decide +kernel
theorem dX7_letIn_8 : decode cX7_letIn 8 = .ok (.iload_n 1, 1) := by decide +kernel
theorem dX7_letIn_9 : decode cX7_letIn 9 = .ok (.iconst 3, 1) := by decide +kernel
theorem dX7_letIn_10 : decode cX7_letIn 10 = .ok (.iload_n 3, 1) := by decide +kernel
theorem dX7_letIn_11 : decode cX7_letIn 11 = .ok (.invokestatic 163, 3) := by decide +kernel
theorem dX7_letIn_14 : decode cX7_letIn 14 = .ok (.aload_n 0, 1) := by decide +kernel
theorem dX7_letIn_15 : decode cX7_letIn 15 = .ok (.iload_n 1, 1) := by decide +kernel
theorem dX7_letIn_16 : decode cX7_letIn 16 = .ok (.iconst 5, 1) := by decide +kernel
theorem dX7_letIn_17 : decode cX7_letIn 17 = .ok (.iconst 1, 1) := by decide +kernel
theorem dX7_letIn_18 : decode cX7_letIn 18 = .ok (.invokestatic 163, 3) := by decide +kernel
theorem dX7_letIn_21 : decode cX7_letIn 21 = .ok (.return_, 1) := by decide +kernel
theorem dX7_layThen_0 : decode cX7_layThen 0 = .ok (.iconst 0, 1) := by decide +kernel
theorem dX7_layThen_1 : decode cX7_layThen 1 = .ok (.istore_n 1, 1) := by decide +kernel
theorem dX7_layThen_2 : decode cX7_layThen 2 = .ok (.iload_n 1, 1) := by decide +kernel
theorem dX7_layThen_3 : decode cX7_layThen 3 = .ok (.bipush 50, 2) := by decide +kernel
theorem dX7_layThen_5 : decode cX7_layThen 5 = .ok (.if_icmp .ge 21, 3) := by decide +kernel
theorem dX7_layThen_8 : decode cX7_layThen 8 = .ok (.aload_n 0, 1) := by decide +kernel
theorem dX7_layThen_9 : decode cX7_layThen 9 = .ok (.getfield 25, 3) := by decide +kernel
theorem dX7_layThen_12 : decode cX7_layThen 12 = .ok (.iload_n 1, 1) := by decide +kernel
theorem dX7_layThen_13 : decode cX7_layThen 13 = .ok (.aload_n 0, 1) := by decide +kernel
theorem dX7_layThen_14 : decode cX7_layThen 14 = .ok (.getfield 19, 3) := by decide +kernel
theorem dX7_layThen_17 : decode cX7_layThen 17 = .ok (.iload_n 1, 1) := by decide +kernel
theorem dX7_layThen_18 : decode cX7_layThen 18 = .ok (.iaload, 1) := by decide +kernel
theorem dX7_layThen_19 : decode cX7_layThen 19 = .ok (.iastore, 1) := by decide +kernel
theorem dX7_layThen_20 : decode cX7_layThen 20 = .ok (.iinc 1 1, 3) := by decide +kernel
theorem dX7_layThen_23 : decode cX7_layThen 23 = .ok (.goto (-21), 3) := by decide +kernel
theorem dX7_layThen_26 : decode cX7_layThen 26 = .ok (.return_, 1) := by decide +kernel
theorem dX7_keep_0 : decode cX7_keep 0 = .ok (.aload_n 0, 1) := by decide +kernel
theorem dX7_keep_1 : decode cX7_keep 1 = .ok (.getfield 149, 3) := by decide +kernel
theorem dX7_keep_4 : decode cX7_keep 4 = .ok (.bipush 24, 2) := by decide +kernel
theorem dX7_keep_6 : decode cX7_keep 6 = .ok (.if_icmp .ne 43, 3) := by decide +kernel
theorem dX7_keep_9 : decode cX7_keep 9 = .ok (.iconst 0, 1) := by decide +kernel
theorem dX7_keep_10 : decode cX7_keep 10 = .ok (.istore_n 1, 1) := by decide +kernel
theorem dX7_keep_11 : decode cX7_keep 11 = .ok (.iload_n 1, 1) := by decide +kernel
theorem dX7_keep_12 : decode cX7_keep 12 = .ok (.sipush 1150, 3) := by decide +kernel
theorem dX7_keep_15 : decode cX7_keep 15 = .ok (.if_icmp .ge 24, 3) := by decide +kernel
theorem dX7_keep_18 : decode cX7_keep 18 = .ok (.aload_n 0, 1) := by decide +kernel
theorem dX7_keep_19 : decode cX7_keep 19 = .ok (.getfield 28, 3) := by decide +kernel
theorem dX7_keep_22 : decode cX7_keep 22 = .ok (.iload_n 1, 1) := by decide +kernel
theorem dX7_keep_23 : decode cX7_keep 23 = .ok (.aload_n 0, 1) := by decide +kernel
theorem dX7_keep_24 : decode cX7_keep 24 = .ok (.getfield 28, 3) := by decide +kernel
theorem dX7_keep_27 : decode cX7_keep 27 = .ok (.iload_n 1, 1) := by decide +kernel
theorem dX7_keep_28 : decode cX7_keep 28 = .ok (.bipush 50, 2) := by decide +kernel
theorem dX7_keep_30 : decode cX7_keep 30 = .ok (.iadd, 1) := by decide +kernel
theorem dX7_keep_31 : decode cX7_keep 31 = .ok (.iaload, 1) := by decide +kernel
theorem dX7_keep_32 : decode cX7_keep 32 = .ok (.iastore, 1) := by decide +kernel
theorem dX7_keep_33 : decode cX7_keep 33 = .ok (.iinc 1 1, 3) := by decide +kernel
theorem dX7_keep_36 : decode cX7_keep 36 = .ok (.goto (-25), 3) := by decide +kernel
theorem dX7_keep_39 : decode cX7_keep 39 = .ok (.aload_n 0, 1) := by decide +kernel
theorem dX7_keep_40 : decode cX7_keep 40 = .ok (.dup, 1) := by decide +kernel
theorem dX7_keep_41 : decode cX7_keep 41 = .ok (.getfield 149, 3) := by decide +kernel
theorem dX7_keep_44 : decode cX7_keep 44 = .ok (.iconst 1, 1) := by decide +kernel
theorem dX7_keep_45 : decode cX7_keep 45 = .ok (.isub, 1) := by decide +kernel
theorem dX7_keep_46 : decode cX7_keep 46 = .ok (.putfield 149, 3) := by decide +kernel
theorem dX7_keep_49 : decode cX7_keep 49 = .ok (.iconst 0, 1) := by decide +kernel
theorem dX7_keep_50 : decode cX7_keep 50 = .ok (.istore_n 1, 1) := by decide +kernel
theorem dX7_keep_51 : decode cX7_keep 51 = .ok (.iload_n 1, 1) := by decide +kernel
theorem dX7_keep_52 : decode cX7_keep 52 = .ok (.bipush 50, 2) := by decide +kernel
theorem dX7_keep_54 : decode cX7_keep 54 = .ok (.if_icmp .ge 29, 3) := by decide +kernel
theorem dX7_keep_57 : decode cX7_keep 57 = .ok (.aload_n 0, 1) := by decide +kernel
theorem dX7_keep_58 : decode cX7_keep 58 = .ok (.getfield 28, 3) := by decide +kernel
theorem dX7_keep_61 : decode cX7_keep 61 = .ok (.bipush 50, 2) := by decide +kernel
theorem dX7_keep_63 : decode cX7_keep 63 = .ok (.aload_n 0, 1) := by decide +kernel
theorem dX7_keep_64 : decode cX7_keep 64 = .ok (.getfield 149, 3) := by decide +kernel
theorem dX7_keep_67 : decode cX7_keep 67 = .ok (.imul, 1) := by decide +kernel
theorem dX7_keep_68 : decode cX7_keep 68 = .ok (.iload_n 1, 1) := by decide +kernel
theorem dX7_keep_69 : decode cX7_keep 69 = .ok (.iadd, 1) := by decide +kernel
theorem dX7_keep_70 : decode cX7_keep 70 = .ok (.aload_n 0, 1) := by decide +kernel
theorem dX7_keep_71 : decode cX7_keep 71 = .ok (.getfield 19, 3) := by decide +kernel
theorem dX7_keep_74 : decode cX7_keep 74 = .ok (.iload_n 1, 1) := by decide +kernel
theorem dX7_keep_75 : decode cX7_keep 75 = .ok (.iaload, 1) := by decide +kernel
theorem dX7_keep_76 : decode cX7_keep 76 = .ok (.iastore, 1) := by decide +kernel
theorem dX7_keep_77 : decode cX7_keep 77 = .ok (.iinc 1 1, 3) := by decide +kernel
theorem dX7_keep_80 : decode cX7_keep 80 = .ok (.goto (-29), 3) := by decide +kernel
theorem dX7_keep_83 : decode cX7_keep 83 = .ok (.aload_n 0, 1) := by decide +kernel
theorem dX7_keep_84 : decode cX7_keep 84 = .ok (.dup, 1) := by decide +kernel
theorem dX7_keep_85 : decode cX7_keep 85 = .ok (.getfield 149, 3) := by decide +kernel
theorem dX7_keep_88 : decode cX7_keep 88 = .ok (.iconst 1, 1) := by decide +kernel
theorem dX7_keep_89 : decode cX7_keep 89 = .ok (.iadd, 1) := by decide +kernel
theorem dX7_keep_90 : decode cX7_keep 90 = .ok (.putfield 149, 3) := by decide +kernel
theorem dX7_keep_93 : decode cX7_keep 93 = .ok (.return_, 1) := by decide +kernel
theorem dX7_hours_0 : decode cX7_hours 0 = .ok (.aload_n 0, 1) := by decide +kernel
theorem dX7_hours_1 : decode cX7_hours 1 = .ok (.iconst 0, 1) := by decide +kernel
theorem dX7_hours_2 : decode cX7_hours 2 = .ok (.putfield 47, 3) := by decide +kernel
theorem dX7_hours_5 : decode cX7_hours 5 = .ok (.aload_n 0, 1) := by decide +kernel
theorem dX7_hours_6 : decode cX7_hours 6 = .ok (.invokevirtual 187, 3) := by decide +kernel
theorem dX7_hours_9 : decode cX7_hours 9 = .ok (.ifCond .ne 6, 3) := by decide +kernel
theorem dX7_hours_12 : decode cX7_hours 12 = .ok (.ldc 190, 2) := by decide +kernel
theorem dX7_hours_14 : decode cX7_hours 14 = .ok (.ireturn, 1) := by decide +kernel
theorem dX7_hours_15 : decode cX7_hours 15 = .ok (.iload_n 1, 1) := by decide +kernel
theorem dX7_hours_16 : decode cX7_hours 16 = .ok (.i2l, 1) := by decide +kernel
theorem dX7_hours_17 : decode cX7_hours 17 = .ok (.lconst 1, 1) := by decide +kernel
theorem dX7_hours_18 : decode cX7_hours 18 = .ok (.ldc2_w 191, 3) := by decide +kernel
theorem dX7_hours_21 : decode cX7_hours 21 = .ok (.invokestatic 57, 3) := by decide +kernel
theorem dX7_hours_24 : decode cX7_hours 24 = .ok (.ifCond .ne 6, 3) := by decide +kernel
theorem dX7_hours_27 : decode cX7_hours 27 = .ok (.ldc 67, 2) := by decide +kernel
theorem dX7_hours_29 : decode cX7_hours 29 = .ok (.ireturn, 1) := by decide +kernel
theorem dX7_hours_30 : decode cX7_hours 30 = .ok (.aload_n 0, 1) := by decide +kernel
theorem dX7_hours_31 : decode cX7_hours 31 = .ok (.getfield 19, 3) := by decide +kernel
theorem dX7_hours_34 : decode cX7_hours 34 = .ok (.bipush 6, 2) := by decide +kernel
theorem dX7_hours_36 : decode cX7_hours 36 = .ok (.iaload, 1) := by decide +kernel
theorem dX7_hours_37 : decode cX7_hours 37 = .ok (.iload_n 1, 1) := by decide +kernel
theorem dX7_hours_38 : decode cX7_hours 38 = .ok (.iadd, 1) := by decide +kernel
theorem dX7_hours_39 : decode cX7_hours 39 = .ok (.sipush 999, 3) := by decide +kernel
theorem dX7_hours_42 : decode cX7_hours 42 = .ok (.if_icmp .le 6, 3) := by decide +kernel
theorem dX7_hours_45 : decode cX7_hours 45 = .ok (.ldc 77, 2) := by decide +kernel
theorem dX7_hours_47 : decode cX7_hours 47 = .ok (.ireturn, 1) := by decide +kernel
theorem dX7_hours_48 : decode cX7_hours 48 = .ok (.iconst 0, 1) := by decide +kernel
theorem dX7_hours_49 : decode cX7_hours 49 = .ok (.istore_n 2, 1) := by decide +kernel
theorem dX7_hours_50 : decode cX7_hours 50 = .ok (.iload_n 2, 1) := by decide +kernel
theorem dX7_hours_51 : decode cX7_hours 51 = .ok (.iload_n 1, 1) := by decide +kernel
theorem dX7_hours_52 : decode cX7_hours 52 = .ok (.if_icmp .ge 20, 3) := by decide +kernel
theorem dX7_hours_55 : decode cX7_hours 55 = .ok (.aload_n 0, 1) := by decide +kernel
theorem dX7_hours_56 : decode cX7_hours 56 = .ok (.invokevirtual 193, 3) := by decide +kernel
theorem dX7_hours_59 : decode cX7_hours 59 = .ok (.aload_n 0, 1) := by decide +kernel
theorem dX7_hours_60 : decode cX7_hours 60 = .ok (.getfield 19, 3) := by decide +kernel
theorem dX7_hours_63 : decode cX7_hours 63 = .ok (.invokestatic 183, 3) := by decide +kernel
theorem dX7_hours_66 : decode cX7_hours 66 = .ok (.iinc 2 1, 3) := by decide +kernel
theorem dX7_hours_69 : decode cX7_hours 69 = .ok (.goto (-19), 3) := by decide +kernel
theorem dX7_hours_72 : decode cX7_hours 72 = .ok (.aload_n 0, 1) := by decide +kernel
theorem dX7_hours_73 : decode cX7_hours 73 = .ok (.getfield 19, 3) := by decide +kernel
theorem dX7_hours_76 : decode cX7_hours 76 = .ok (.invokestatic 196, 3) := by decide +kernel
theorem dX7_hours_79 : decode cX7_hours 79 = .ok (.invokestatic 199, 3) := by decide +kernel
theorem dX7_hours_82 : decode cX7_hours 82 = .ok (.ireturn, 1) := by decide +kernel
theorem dX7_step_0 : decode cX7_step 0 = .ok (.aload_n 0, 1) := by decide +kernel
theorem dX7_step_1 : decode cX7_step 1 = .ok (.iconst 0, 1) := by decide +kernel
theorem dX7_step_2 : decode cX7_step 2 = .ok (.putfield 47, 3) := by decide +kernel
theorem dX7_step_5 : decode cX7_step 5 = .ok (.aload_n 0, 1) := by decide +kernel
theorem dX7_step_6 : decode cX7_step 6 = .ok (.invokevirtual 187, 3) := by decide +kernel
theorem dX7_step_9 : decode cX7_step 9 = .ok (.ifCond .ne 6, 3) := by decide +kernel
theorem dX7_step_12 : decode cX7_step 12 = .ok (.ldc 190, 2) := by decide +kernel
theorem dX7_step_14 : decode cX7_step 14 = .ok (.ireturn, 1) := by decide +kernel
theorem dX7_step_15 : decode cX7_step 15 = .ok (.iload_n 1, 1) := by decide +kernel
theorem dX7_step_16 : decode cX7_step 16 = .ok (.i2l, 1) := by decide +kernel
theorem dX7_step_17 : decode cX7_step 17 = .ok (.lconst 0, 1) := by decide +kernel
theorem dX7_step_18 : decode cX7_step 18 = .ok (.lconst 1, 1) := by decide +kernel
theorem dX7_step_19 : decode cX7_step 19 = .ok (.invokestatic 57, 3) := by decide +kernel
theorem dX7_step_22 : decode cX7_step 22 = .ok (.ifCond .ne 6, 3) := by decide +kernel
theorem dX7_step_25 : decode cX7_step 25 = .ok (.ldc 67, 2) := by decide +kernel
theorem dX7_step_27 : decode cX7_step 27 = .ok (.ireturn, 1) := by decide +kernel
theorem dX7_step_28 : decode cX7_step 28 = .ok (.aload_n 0, 1) := by decide +kernel
theorem dX7_step_29 : decode cX7_step 29 = .ok (.getfield 19, 3) := by decide +kernel
theorem dX7_step_32 : decode cX7_step 32 = .ok (.iconst 4, 1) := by decide +kernel
theorem dX7_step_33 : decode cX7_step 33 = .ok (.iaload, 1) := by decide +kernel
theorem dX7_step_34 : decode cX7_step 34 = .ok (.iload_n 1, 1) := by decide +kernel
theorem dX7_step_35 : decode cX7_step 35 = .ok (.ifCond .ne 7, 3) := by decide +kernel
theorem dX7_step_38 : decode cX7_step 38 = .ok (.iconst (-1), 1) := by decide +kernel
theorem dX7_step_39 : decode cX7_step 39 = .ok (.goto 4, 3) := by decide +kernel
theorem dX7_step_42 : decode cX7_step 42 = .ok (.iconst 1, 1) := by decide +kernel
theorem dX7_step_43 : decode cX7_step 43 = .ok (.iadd, 1) := by decide +kernel
theorem dX7_step_44 : decode cX7_step 44 = .ok (.istore_n 2, 1) := by decide +kernel
theorem dX7_step_45 : decode cX7_step 45 = .ok (.aload_n 0, 1) := by decide +kernel
theorem dX7_step_46 : decode cX7_step 46 = .ok (.iload_n 2, 1) := by decide +kernel
theorem dX7_step_47 : decode cX7_step 47 = .ok (.invokevirtual 202, 3) := by decide +kernel
theorem dX7_step_50 : decode cX7_step 50 = .ok (.ifCond .ne 6, 3) := by decide +kernel
theorem dX7_step_53 : decode cX7_step 53 = .ok (.ldc 190, 2) := by decide +kernel
theorem dX7_step_55 : decode cX7_step 55 = .ok (.ireturn, 1) := by decide +kernel
theorem dX7_step_56 : decode cX7_step 56 = .ok (.aload_n 0, 1) := by decide +kernel
theorem dX7_step_57 : decode cX7_step 57 = .ok (.invokevirtual 193, 3) := by decide +kernel
theorem dX7_step_60 : decode cX7_step 60 = .ok (.aload_n 0, 1) := by decide +kernel
theorem dX7_step_61 : decode cX7_step 61 = .ok (.getfield 19, 3) := by decide +kernel
theorem dX7_step_64 : decode cX7_step 64 = .ok (.iconst 4, 1) := by decide +kernel
theorem dX7_step_65 : decode cX7_step 65 = .ok (.iload_n 2, 1) := by decide +kernel
theorem dX7_step_66 : decode cX7_step 66 = .ok (.iastore, 1) := by decide +kernel
theorem dX7_step_67 : decode cX7_step 67 = .ok (.iload_n 2, 1) := by decide +kernel
theorem dX7_step_68 : decode cX7_step 68 = .ok (.ireturn, 1) := by decide +kernel
theorem dX7_wind_0 : decode cX7_wind 0 = .ok (.aload_n 0, 1) := by decide +kernel
theorem dX7_wind_1 : decode cX7_wind 1 = .ok (.iconst 0, 1) := by decide +kernel
theorem dX7_wind_2 : decode cX7_wind 2 = .ok (.putfield 47, 3) := by decide +kernel
theorem dX7_wind_5 : decode cX7_wind 5 = .ok (.aload_n 0, 1) := by decide +kernel
theorem dX7_wind_6 : decode cX7_wind 6 = .ok (.iload_n 1, 1) := by decide +kernel
theorem dX7_wind_7 : decode cX7_wind 7 = .ok (.invokevirtual 205, 3) := by decide +kernel
theorem dX7_wind_10 : decode cX7_wind 10 = .ok (.ifCond .eq 15, 3) := by decide +kernel
theorem dX7_wind_13 : decode cX7_wind 13 = .ok (.iload_n 2, 1) := by decide +kernel
theorem dX7_wind_14 : decode cX7_wind 14 = .ok (.i2l, 1) := by decide +kernel
theorem dX7_wind_15 : decode cX7_wind 15 = .ok (.lconst 0, 1) := by decide +kernel
theorem dX7_wind_16 : decode cX7_wind 16 = .ok (.ldc2_w 208, 3) := by decide +kernel
theorem dX7_wind_19 : decode cX7_wind 19 = .ok (.invokestatic 57, 3) := by decide +kernel
theorem dX7_wind_22 : decode cX7_wind 22 = .ok (.ifCond .ne 6, 3) := by decide +kernel
theorem dX7_wind_25 : decode cX7_wind 25 = .ok (.ldc 67, 2) := by decide +kernel
theorem dX7_wind_27 : decode cX7_wind 27 = .ok (.ireturn, 1) := by decide +kernel
theorem dX7_wind_28 : decode cX7_wind 28 = .ok (.aload_n 0, 1) := by decide +kernel
theorem dX7_wind_29 : decode cX7_wind 29 = .ok (.invokevirtual 193, 3) := by decide +kernel
theorem dX7_wind_32 : decode cX7_wind 32 = .ok (.aload_n 0, 1) := by decide +kernel
theorem dX7_wind_33 : decode cX7_wind 33 = .ok (.getfield 19, 3) := by decide +kernel
theorem dX7_wind_36 : decode cX7_wind 36 = .ok (.bipush 8, 2) := by decide +kernel
theorem dX7_wind_38 : decode cX7_wind 38 = .ok (.iload_n 1, 1) := by decide +kernel
theorem dX7_wind_39 : decode cX7_wind 39 = .ok (.iadd, 1) := by decide +kernel
theorem dX7_wind_40 : decode cX7_wind 40 = .ok (.iaload, 1) := by decide +kernel
theorem dX7_wind_41 : decode cX7_wind 41 = .ok (.istore_n 3, 1) := by decide +kernel
theorem dX7_wind_42 : decode cX7_wind 42 = .ok (.aload_n 0, 1) := by decide +kernel
theorem dX7_wind_43 : decode cX7_wind 43 = .ok (.getfield 19, 3) := by decide +kernel
theorem dX7_wind_46 : decode cX7_wind 46 = .ok (.bipush 8, 2) := by decide +kernel
theorem dX7_wind_48 : decode cX7_wind 48 = .ok (.iload_n 1, 1) := by decide +kernel
theorem dX7_wind_49 : decode cX7_wind 49 = .ok (.iadd, 1) := by decide +kernel
theorem dX7_wind_50 : decode cX7_wind 50 = .ok (.iload_n 2, 1) := by decide +kernel
theorem dX7_wind_51 : decode cX7_wind 51 = .ok (.iastore, 1) := by decide +kernel
theorem dX7_wind_52 : decode cX7_wind 52 = .ok (.iload_n 3, 1) := by decide +kernel
theorem dX7_wind_53 : decode cX7_wind 53 = .ok (.ireturn, 1) := by decide +kernel
theorem dX7_wake_0 : decode cX7_wake 0 = .ok (.aload_n 0, 1) := by decide +kernel
theorem dX7_wake_1 : decode cX7_wake 1 = .ok (.iconst 0, 1) := by decide +kernel
theorem dX7_wake_2 : decode cX7_wake 2 = .ok (.putfield 47, 3) := by decide +kernel
theorem dX7_wake_5 : decode cX7_wake 5 = .ok (.aload_n 0, 1) := by decide +kernel
theorem dX7_wake_6 : decode cX7_wake 6 = .ok (.invokevirtual 187, 3) := by decide +kernel
theorem dX7_wake_9 : decode cX7_wake 9 = .ok (.ifCond .ne 6, 3) := by decide +kernel
theorem dX7_wake_12 : decode cX7_wake 12 = .ok (.ldc 190, 2) := by decide +kernel
theorem dX7_wake_14 : decode cX7_wake 14 = .ok (.ireturn, 1) := by decide +kernel
theorem dX7_wake_15 : decode cX7_wake 15 = .ok (.iload_n 1, 1) := by decide +kernel
theorem dX7_wake_16 : decode cX7_wake 16 = .ok (.i2l, 1) := by decide +kernel
theorem dX7_wake_17 : decode cX7_wake 17 = .ok (.lconst 0, 1) := by decide +kernel
theorem dX7_wake_18 : decode cX7_wake 18 = .ok (.ldc2_w 210, 3) := by decide +kernel
theorem dX7_wake_21 : decode cX7_wake 21 = .ok (.invokestatic 57, 3) := by decide +kernel
theorem dX7_wake_24 : decode cX7_wake 24 = .ok (.ifCond .ne 6, 3) := by decide +kernel
theorem dX7_wake_27 : decode cX7_wake 27 = .ok (.ldc 67, 2) := by decide +kernel
theorem dX7_wake_29 : decode cX7_wake 29 = .ok (.ireturn, 1) := by decide +kernel
theorem dX7_wake_30 : decode cX7_wake 30 = .ok (.aload_n 0, 1) := by decide +kernel
theorem dX7_wake_31 : decode cX7_wake 31 = .ok (.invokevirtual 193, 3) := by decide +kernel
theorem dX7_wake_34 : decode cX7_wake 34 = .ok (.aload_n 0, 1) := by decide +kernel
theorem dX7_wake_35 : decode cX7_wake 35 = .ok (.getfield 19, 3) := by decide +kernel
theorem dX7_wake_38 : decode cX7_wake 38 = .ok (.iconst 5, 1) := by decide +kernel
theorem dX7_wake_39 : decode cX7_wake 39 = .ok (.iaload, 1) := by decide +kernel
theorem dX7_wake_40 : decode cX7_wake 40 = .ok (.istore_n 2, 1) := by decide +kernel
theorem dX7_wake_41 : decode cX7_wake 41 = .ok (.aload_n 0, 1) := by decide +kernel
theorem dX7_wake_42 : decode cX7_wake 42 = .ok (.getfield 19, 3) := by decide +kernel
theorem dX7_wake_45 : decode cX7_wake 45 = .ok (.iconst 5, 1) := by decide +kernel
theorem dX7_wake_46 : decode cX7_wake 46 = .ok (.iload_n 1, 1) := by decide +kernel
theorem dX7_wake_47 : decode cX7_wake 47 = .ok (.iastore, 1) := by decide +kernel
theorem dX7_wake_48 : decode cX7_wake 48 = .ok (.iload_n 2, 1) := by decide +kernel
theorem dX7_wake_49 : decode cX7_wake 49 = .ok (.ireturn, 1) := by decide +kernel
theorem dX7_let_0 : decode cX7_let 0 = .ok (.aload_n 0, 1) := by decide +kernel
theorem dX7_let_1 : decode cX7_let 1 = .ok (.iconst 0, 1) := by decide +kernel
theorem dX7_let_2 : decode cX7_let 2 = .ok (.putfield 47, 3) := by decide +kernel
theorem dX7_let_5 : decode cX7_let 5 = .ok (.aload_n 0, 1) := by decide +kernel
theorem dX7_let_6 : decode cX7_let 6 = .ok (.iload_n 1, 1) := by decide +kernel
theorem dX7_let_7 : decode cX7_let 7 = .ok (.invokevirtual 212, 3) := by decide +kernel
theorem dX7_let_10 : decode cX7_let 10 = .ok (.ifCond .eq 23, 3) := by decide +kernel
theorem dX7_let_13 : decode cX7_let 13 = .ok (.aload_n 0, 1) := by decide +kernel
theorem dX7_let_14 : decode cX7_let 14 = .ok (.iload_n 2, 1) := by decide +kernel
theorem dX7_let_15 : decode cX7_let 15 = .ok (.invokevirtual 202, 3) := by decide +kernel
theorem dX7_let_18 : decode cX7_let 18 = .ok (.ifCond .eq 15, 3) := by decide +kernel
theorem dX7_let_21 : decode cX7_let 21 = .ok (.iload_n 3, 1) := by decide +kernel
theorem dX7_let_22 : decode cX7_let 22 = .ok (.i2l, 1) := by decide +kernel
theorem dX7_let_23 : decode cX7_let 23 = .ok (.lconst 1, 1) := by decide +kernel
theorem dX7_let_24 : decode cX7_let 24 = .ok (.ldc2_w 215, 3) := by decide +kernel
theorem dX7_let_27 : decode cX7_let 27 = .ok (.invokestatic 57, 3) := by decide +kernel
theorem dX7_let_30 : decode cX7_let 30 = .ok (.ifCond .ne 6, 3) := by decide +kernel
theorem dX7_let_33 : decode cX7_let 33 = .ok (.ldc 67, 2) := by decide +kernel
theorem dX7_let_35 : decode cX7_let 35 = .ok (.ireturn, 1) := by decide +kernel
theorem dX7_let_36 : decode cX7_let 36 = .ok (.aload_n 0, 1) := by decide +kernel
theorem dX7_let_37 : decode cX7_let 37 = .ok (.getfield 19, 3) := by decide +kernel
theorem dX7_let_40 : decode cX7_let 40 = .ok (.iload_n 1, 1) := by decide +kernel
theorem dX7_let_41 : decode cX7_let 41 = .ok (.invokestatic 156, 3) := by decide +kernel
theorem dX7_let_44 : decode cX7_let 44 = .ok (.ifCond .eq 6, 3) := by decide +kernel
theorem dX7_let_47 : decode cX7_let 47 = .ok (.ldc 190, 2) := by decide +kernel
theorem dX7_let_49 : decode cX7_let 49 = .ok (.ireturn, 1) := by decide +kernel
theorem dX7_let_50 : decode cX7_let 50 = .ok (.aload_n 0, 1) := by decide +kernel
theorem dX7_let_51 : decode cX7_let 51 = .ok (.invokevirtual 193, 3) := by decide +kernel
theorem dX7_let_54 : decode cX7_let 54 = .ok (.aload_n 0, 1) := by decide +kernel
theorem dX7_let_55 : decode cX7_let 55 = .ok (.getfield 19, 3) := by decide +kernel
theorem dX7_let_58 : decode cX7_let 58 = .ok (.iload_n 1, 1) := by decide +kernel
theorem dX7_let_59 : decode cX7_let 59 = .ok (.iload_n 2, 1) := by decide +kernel
theorem dX7_let_60 : decode cX7_let 60 = .ok (.iload_n 3, 1) := by decide +kernel
theorem dX7_let_61 : decode cX7_let 61 = .ok (.invokestatic 217, 3) := by decide +kernel
theorem dX7_let_64 : decode cX7_let 64 = .ok (.aload_n 0, 1) := by decide +kernel
theorem dX7_let_65 : decode cX7_let 65 = .ok (.getfield 19, 3) := by decide +kernel
theorem dX7_let_68 : decode cX7_let 68 = .ok (.invokestatic 220, 3) := by decide +kernel
theorem dX7_let_71 : decode cX7_let 71 = .ok (.ireturn, 1) := by decide +kernel
theorem dX7_undo_0 : decode cX7_undo 0 = .ok (.aload_n 0, 1) := by decide +kernel
theorem dX7_undo_1 : decode cX7_undo 1 = .ok (.iconst 0, 1) := by decide +kernel
theorem dX7_undo_2 : decode cX7_undo 2 = .ok (.putfield 47, 3) := by decide +kernel
theorem dX7_undo_5 : decode cX7_undo 5 = .ok (.aload_n 0, 1) := by decide +kernel
theorem dX7_undo_6 : decode cX7_undo 6 = .ok (.getfield 149, 3) := by decide +kernel
theorem dX7_undo_9 : decode cX7_undo 9 = .ok (.ifCond .ne 6, 3) := by decide +kernel
theorem dX7_undo_12 : decode cX7_undo 12 = .ok (.ldc 190, 2) := by decide +kernel
theorem dX7_undo_14 : decode cX7_undo 14 = .ok (.ireturn, 1) := by decide +kernel
theorem dX7_undo_15 : decode cX7_undo 15 = .ok (.aload_n 0, 1) := by decide +kernel
theorem dX7_undo_16 : decode cX7_undo 16 = .ok (.dup, 1) := by decide +kernel
theorem dX7_undo_17 : decode cX7_undo 17 = .ok (.getfield 149, 3) := by decide +kernel
theorem dX7_undo_20 : decode cX7_undo 20 = .ok (.iconst 1, 1) := by decide +kernel
theorem dX7_undo_21 : decode cX7_undo 21 = .ok (.isub, 1) := by decide +kernel
theorem dX7_undo_22 : decode cX7_undo 22 = .ok (.putfield 149, 3) := by decide +kernel
theorem dX7_undo_25 : decode cX7_undo 25 = .ok (.iconst 0, 1) := by decide +kernel
theorem dX7_undo_26 : decode cX7_undo 26 = .ok (.istore_n 1, 1) := by decide +kernel
theorem dX7_undo_27 : decode cX7_undo 27 = .ok (.iload_n 1, 1) := by decide +kernel
theorem dX7_undo_28 : decode cX7_undo 28 = .ok (.bipush 50, 2) := by decide +kernel
theorem dX7_undo_30 : decode cX7_undo 30 = .ok (.if_icmp .ge 29, 3) := by decide +kernel
theorem dX7_undo_33 : decode cX7_undo 33 = .ok (.aload_n 0, 1) := by decide +kernel
theorem dX7_undo_34 : decode cX7_undo 34 = .ok (.getfield 19, 3) := by decide +kernel
theorem dX7_undo_37 : decode cX7_undo 37 = .ok (.iload_n 1, 1) := by decide +kernel
theorem dX7_undo_38 : decode cX7_undo 38 = .ok (.aload_n 0, 1) := by decide +kernel
theorem dX7_undo_39 : decode cX7_undo 39 = .ok (.getfield 28, 3) := by decide +kernel
theorem dX7_undo_42 : decode cX7_undo 42 = .ok (.bipush 50, 2) := by decide +kernel
theorem dX7_undo_44 : decode cX7_undo 44 = .ok (.aload_n 0, 1) := by decide +kernel
theorem dX7_undo_45 : decode cX7_undo 45 = .ok (.getfield 149, 3) := by decide +kernel
theorem dX7_undo_48 : decode cX7_undo 48 = .ok (.imul, 1) := by decide +kernel
theorem dX7_undo_49 : decode cX7_undo 49 = .ok (.iload_n 1, 1) := by decide +kernel
theorem dX7_undo_50 : decode cX7_undo 50 = .ok (.iadd, 1) := by decide +kernel
theorem dX7_undo_51 : decode cX7_undo 51 = .ok (.iaload, 1) := by decide +kernel
theorem dX7_undo_52 : decode cX7_undo 52 = .ok (.iastore, 1) := by decide +kernel
theorem dX7_undo_53 : decode cX7_undo 53 = .ok (.iinc 1 1, 3) := by decide +kernel
theorem dX7_undo_56 : decode cX7_undo 56 = .ok (.goto (-29), 3) := by decide +kernel
theorem dX7_undo_59 : decode cX7_undo 59 = .ok (.aload_n 0, 1) := by decide +kernel
theorem dX7_undo_60 : decode cX7_undo 60 = .ok (.getfield 149, 3) := by decide +kernel
theorem dX7_undo_63 : decode cX7_undo 63 = .ok (.ireturn, 1) := by decide +kernel
theorem dX7_told_0 : decode cX7_told 0 = .ok (.iload_n 2, 1) := by decide +kernel
theorem dX7_told_1 : decode cX7_told 1 = .ok (.lookupswitch 66 #[(0, 27), (1, 47)], 27) := by decide +kernel
theorem dX7_told_28 : decode cX7_told 28 = .ok (.aload_n 0, 1) := by decide +kernel
theorem dX7_told_29 : decode cX7_told 29 = .ok (.iload_n 1, 1) := by decide +kernel
theorem dX7_told_30 : decode cX7_told 30 = .ok (.invokestatic 156, 3) := by decide +kernel
theorem dX7_told_33 : decode cX7_told 33 = .ok (.ifCond .eq 12, 3) := by decide +kernel
theorem dX7_told_36 : decode cX7_told 36 = .ok (.aload_n 0, 1) := by decide +kernel
theorem dX7_told_37 : decode cX7_told 37 = .ok (.iload_n 1, 1) := by decide +kernel
theorem dX7_told_38 : decode cX7_told 38 = .ok (.iconst 1, 1) := by decide +kernel
theorem dX7_told_39 : decode cX7_told 39 = .ok (.invokestatic 152, 3) := by decide +kernel
theorem dX7_told_42 : decode cX7_told 42 = .ok (.goto 5, 3) := by decide +kernel
theorem dX7_told_45 : decode cX7_told 45 = .ok (.ldc 90, 2) := by decide +kernel
theorem dX7_told_47 : decode cX7_told 47 = .ok (.ireturn, 1) := by decide +kernel
theorem dX7_told_48 : decode cX7_told 48 = .ok (.aload_n 0, 1) := by decide +kernel
theorem dX7_told_49 : decode cX7_told 49 = .ok (.iload_n 1, 1) := by decide +kernel
theorem dX7_told_50 : decode cX7_told 50 = .ok (.invokestatic 156, 3) := by decide +kernel
theorem dX7_told_53 : decode cX7_told 53 = .ok (.ifCond .eq 12, 3) := by decide +kernel
theorem dX7_told_56 : decode cX7_told 56 = .ok (.aload_n 0, 1) := by decide +kernel
theorem dX7_told_57 : decode cX7_told 57 = .ok (.iload_n 1, 1) := by decide +kernel
theorem dX7_told_58 : decode cX7_told 58 = .ok (.iconst 3, 1) := by decide +kernel
theorem dX7_told_59 : decode cX7_told 59 = .ok (.invokestatic 152, 3) := by decide +kernel
theorem dX7_told_62 : decode cX7_told 62 = .ok (.goto 4, 3) := by decide +kernel
theorem dX7_told_65 : decode cX7_told 65 = .ok (.iconst 0, 1) := by decide +kernel
theorem dX7_told_66 : decode cX7_told 66 = .ok (.ireturn, 1) := by decide +kernel
theorem dX7_told_67 : decode cX7_told 67 = .ok (.aload_n 0, 1) := by decide +kernel
theorem dX7_told_68 : decode cX7_told 68 = .ok (.iload_n 1, 1) := by decide +kernel
theorem dX7_told_69 : decode cX7_told 69 = .ok (.iconst 4, 1) := by decide +kernel
theorem dX7_told_70 : decode cX7_told 70 = .ok (.invokestatic 152, 3) := by decide +kernel
theorem dX7_told_73 : decode cX7_told 73 = .ok (.ireturn, 1) := by decide +kernel
theorem dX7_sheet_0 : decode cX7_sheet 0 = .ok (.aload_n 0, 1) := by decide +kernel
theorem dX7_sheet_1 : decode cX7_sheet 1 = .ok (.iconst 0, 1) := by decide +kernel
theorem dX7_sheet_2 : decode cX7_sheet 2 = .ok (.putfield 47, 3) := by decide +kernel
theorem dX7_sheet_5 : decode cX7_sheet 5 = .ok (.aload_n 0, 1) := by decide +kernel
theorem dX7_sheet_6 : decode cX7_sheet 6 = .ok (.iload_n 1, 1) := by decide +kernel
theorem dX7_sheet_7 : decode cX7_sheet 7 = .ok (.invokevirtual 212, 3) := by decide +kernel
theorem dX7_sheet_10 : decode cX7_sheet 10 = .ok (.ifCond .ne 6, 3) := by decide +kernel
theorem dX7_sheet_13 : decode cX7_sheet 13 = .ok (.ldc 67, 2) := by decide +kernel
theorem dX7_sheet_15 : decode cX7_sheet 15 = .ok (.ireturn, 1) := by decide +kernel
theorem dX7_sheet_16 : decode cX7_sheet 16 = .ok (.iload_n 2, 1) := by decide +kernel
theorem dX7_sheet_17 : decode cX7_sheet 17 = .ok (.tableswitch 76 0 4 #[35, 45, 55, 55, 67], 35) := by decide +kernel
theorem dX7_sheet_52 : decode cX7_sheet 52 = .ok (.aload_n 0, 1) := by decide +kernel
theorem dX7_sheet_53 : decode cX7_sheet 53 = .ok (.getfield 19, 3) := by decide +kernel
theorem dX7_sheet_56 : decode cX7_sheet 56 = .ok (.iload_n 1, 1) := by decide +kernel
theorem dX7_sheet_57 : decode cX7_sheet 57 = .ok (.iconst 0, 1) := by decide +kernel
theorem dX7_sheet_58 : decode cX7_sheet 58 = .ok (.invokestatic 223, 3) := by decide +kernel
theorem dX7_sheet_61 : decode cX7_sheet 61 = .ok (.ireturn, 1) := by decide +kernel
theorem dX7_sheet_62 : decode cX7_sheet 62 = .ok (.aload_n 0, 1) := by decide +kernel
theorem dX7_sheet_63 : decode cX7_sheet 63 = .ok (.getfield 19, 3) := by decide +kernel
theorem dX7_sheet_66 : decode cX7_sheet 66 = .ok (.iload_n 1, 1) := by decide +kernel
theorem dX7_sheet_67 : decode cX7_sheet 67 = .ok (.iconst 2, 1) := by decide +kernel
theorem dX7_sheet_68 : decode cX7_sheet 68 = .ok (.invokestatic 152, 3) := by decide +kernel
theorem dX7_sheet_71 : decode cX7_sheet 71 = .ok (.ireturn, 1) := by decide +kernel
theorem dX7_sheet_72 : decode cX7_sheet 72 = .ok (.aload_n 0, 1) := by decide +kernel
theorem dX7_sheet_73 : decode cX7_sheet 73 = .ok (.getfield 19, 3) := by decide +kernel
theorem dX7_sheet_76 : decode cX7_sheet 76 = .ok (.iload_n 1, 1) := by decide +kernel
theorem dX7_sheet_77 : decode cX7_sheet 77 = .ok (.iload_n 2, 1) := by decide +kernel
theorem dX7_sheet_78 : decode cX7_sheet 78 = .ok (.iconst 1, 1) := by decide +kernel
theorem dX7_sheet_79 : decode cX7_sheet 79 = .ok (.isub, 1) := by decide +kernel
theorem dX7_sheet_80 : decode cX7_sheet 80 = .ok (.invokestatic 223, 3) := by decide +kernel
theorem dX7_sheet_83 : decode cX7_sheet 83 = .ok (.ireturn, 1) := by decide +kernel
theorem dX7_sheet_84 : decode cX7_sheet 84 = .ok (.aload_n 0, 1) := by decide +kernel
theorem dX7_sheet_85 : decode cX7_sheet 85 = .ok (.getfield 19, 3) := by decide +kernel
theorem dX7_sheet_88 : decode cX7_sheet 88 = .ok (.iload_n 1, 1) := by decide +kernel
theorem dX7_sheet_89 : decode cX7_sheet 89 = .ok (.invokestatic 179, 3) := by decide +kernel
theorem dX7_sheet_92 : decode cX7_sheet 92 = .ok (.ireturn, 1) := by decide +kernel
theorem dX7_sheet_93 : decode cX7_sheet 93 = .ok (.ldc 67, 2) := by decide +kernel
theorem dX7_sheet_95 : decode cX7_sheet 95 = .ok (.ireturn, 1) := by decide +kernel
theorem dX7_cell_0 : decode cX7_cell 0 = .ok (.aload_n 0, 1) := by decide +kernel
theorem dX7_cell_1 : decode cX7_cell 1 = .ok (.iconst 0, 1) := by decide +kernel
theorem dX7_cell_2 : decode cX7_cell 2 = .ok (.putfield 47, 3) := by decide +kernel
theorem dX7_cell_5 : decode cX7_cell 5 = .ok (.aload_n 0, 1) := by decide +kernel
theorem dX7_cell_6 : decode cX7_cell 6 = .ok (.iload_n 1, 1) := by decide +kernel
theorem dX7_cell_7 : decode cX7_cell 7 = .ok (.invokevirtual 202, 3) := by decide +kernel
theorem dX7_cell_10 : decode cX7_cell 10 = .ok (.ifCond .eq 15, 3) := by decide +kernel
theorem dX7_cell_13 : decode cX7_cell 13 = .ok (.iload_n 2, 1) := by decide +kernel
theorem dX7_cell_14 : decode cX7_cell 14 = .ok (.i2l, 1) := by decide +kernel
theorem dX7_cell_15 : decode cX7_cell 15 = .ok (.lconst 0, 1) := by decide +kernel
theorem dX7_cell_16 : decode cX7_cell 16 = .ok (.ldc2_w 65, 3) := by decide +kernel
theorem dX7_cell_19 : decode cX7_cell 19 = .ok (.invokestatic 57, 3) := by decide +kernel
theorem dX7_cell_22 : decode cX7_cell 22 = .ok (.ifCond .ne 6, 3) := by decide +kernel
theorem dX7_cell_25 : decode cX7_cell 25 = .ok (.ldc 67, 2) := by decide +kernel
theorem dX7_cell_27 : decode cX7_cell 27 = .ok (.ireturn, 1) := by decide +kernel
theorem dX7_cell_28 : decode cX7_cell 28 = .ok (.iconst 0, 1) := by decide +kernel
theorem dX7_cell_29 : decode cX7_cell 29 = .ok (.istore_n 3, 1) := by decide +kernel
theorem dX7_cell_30 : decode cX7_cell 30 = .ok (.iconst 0, 1) := by decide +kernel
theorem dX7_cell_31 : decode cX7_cell 31 = .ok (.istore 4, 2) := by decide +kernel
theorem dX7_cell_33 : decode cX7_cell 33 = .ok (.iload 4, 2) := by decide +kernel
theorem dX7_cell_35 : decode cX7_cell 35 = .ok (.aload_n 0, 1) := by decide +kernel
theorem dX7_cell_36 : decode cX7_cell 36 = .ok (.getfield 19, 3) := by decide +kernel
theorem dX7_cell_39 : decode cX7_cell 39 = .ok (.iconst 0, 1) := by decide +kernel
theorem dX7_cell_40 : decode cX7_cell 40 = .ok (.iaload, 1) := by decide +kernel
theorem dX7_cell_41 : decode cX7_cell 41 = .ok (.if_icmp .ge 36, 3) := by decide +kernel
theorem dX7_cell_44 : decode cX7_cell 44 = .ok (.iload_n 3, 1) := by decide +kernel
theorem dX7_cell_45 : decode cX7_cell 45 = .ok (.aload_n 0, 1) := by decide +kernel
theorem dX7_cell_46 : decode cX7_cell 46 = .ok (.getfield 19, 3) := by decide +kernel
theorem dX7_cell_49 : decode cX7_cell 49 = .ok (.iload 4, 2) := by decide +kernel
theorem dX7_cell_51 : decode cX7_cell 51 = .ok (.invokestatic 179, 3) := by decide +kernel
theorem dX7_cell_54 : decode cX7_cell 54 = .ok (.iload_n 1, 1) := by decide +kernel
theorem dX7_cell_55 : decode cX7_cell 55 = .ok (.invokestatic 175, 3) := by decide +kernel
theorem dX7_cell_58 : decode cX7_cell 58 = .ok (.ifCond .eq 10, 3) := by decide +kernel
theorem dX7_cell_61 : decode cX7_cell 61 = .ok (.iconst 1, 1) := by decide +kernel
theorem dX7_cell_62 : decode cX7_cell 62 = .ok (.iload 4, 2) := by decide +kernel
theorem dX7_cell_64 : decode cX7_cell 64 = .ok (.ishl, 1) := by decide +kernel
theorem dX7_cell_65 : decode cX7_cell 65 = .ok (.goto 4, 3) := by decide +kernel
theorem dX7_cell_68 : decode cX7_cell 68 = .ok (.iconst 0, 1) := by decide +kernel
theorem dX7_cell_69 : decode cX7_cell 69 = .ok (.ior, 1) := by decide +kernel
theorem dX7_cell_70 : decode cX7_cell 70 = .ok (.istore_n 3, 1) := by decide +kernel
theorem dX7_cell_71 : decode cX7_cell 71 = .ok (.iinc 4 1, 3) := by decide +kernel
theorem dX7_cell_74 : decode cX7_cell 74 = .ok (.goto (-41), 3) := by decide +kernel
theorem dX7_cell_77 : decode cX7_cell 77 = .ok (.iload_n 2, 1) := by decide +kernel
theorem dX7_cell_78 : decode cX7_cell 78 = .ok (.ifCond .ne 14, 3) := by decide +kernel
theorem dX7_cell_81 : decode cX7_cell 81 = .ok (.aload_n 0, 1) := by decide +kernel
theorem dX7_cell_82 : decode cX7_cell 82 = .ok (.getfield 19, 3) := by decide +kernel
theorem dX7_cell_85 : decode cX7_cell 85 = .ok (.iload_n 1, 1) := by decide +kernel
theorem dX7_cell_86 : decode cX7_cell 86 = .ok (.invokestatic 226, 3) := by decide +kernel
theorem dX7_cell_89 : decode cX7_cell 89 = .ok (.goto 27, 3) := by decide +kernel
theorem dX7_cell_92 : decode cX7_cell 92 = .ok (.iload_n 2, 1) := by decide +kernel
theorem dX7_cell_93 : decode cX7_cell 93 = .ok (.iconst 1, 1) := by decide +kernel
theorem dX7_cell_94 : decode cX7_cell 94 = .ok (.if_icmp .ne 7, 3) := by decide +kernel
theorem dX7_cell_97 : decode cX7_cell 97 = .ok (.iload_n 3, 1) := by decide +kernel
theorem dX7_cell_98 : decode cX7_cell 98 = .ok (.goto 18, 3) := by decide +kernel
theorem dX7_cell_101 : decode cX7_cell 101 = .ok (.aload_n 0, 1) := by decide +kernel
theorem dX7_cell_102 : decode cX7_cell 102 = .ok (.getfield 19, 3) := by decide +kernel
theorem dX7_cell_105 : decode cX7_cell 105 = .ok (.iconst 4, 1) := by decide +kernel
theorem dX7_cell_106 : decode cX7_cell 106 = .ok (.iaload, 1) := by decide +kernel
theorem dX7_cell_107 : decode cX7_cell 107 = .ok (.iload_n 1, 1) := by decide +kernel
theorem dX7_cell_108 : decode cX7_cell 108 = .ok (.if_icmp .ne 7, 3) := by decide +kernel
theorem dX7_cell_111 : decode cX7_cell 111 = .ok (.iconst 1, 1) := by decide +kernel
theorem dX7_cell_112 : decode cX7_cell 112 = .ok (.goto 4, 3) := by decide +kernel
theorem dX7_cell_115 : decode cX7_cell 115 = .ok (.iconst 0, 1) := by decide +kernel
theorem dX7_cell_116 : decode cX7_cell 116 = .ok (.ireturn, 1) := by decide +kernel
theorem dX7_stand_0 : decode cX7_stand 0 = .ok (.aload_n 0, 1) := by decide +kernel
theorem dX7_stand_1 : decode cX7_stand 1 = .ok (.iconst 0, 1) := by decide +kernel
theorem dX7_stand_2 : decode cX7_stand 2 = .ok (.putfield 47, 3) := by decide +kernel
theorem dX7_stand_5 : decode cX7_stand 5 = .ok (.aload_n 0, 1) := by decide +kernel
theorem dX7_stand_6 : decode cX7_stand 6 = .ok (.invokevirtual 187, 3) := by decide +kernel
theorem dX7_stand_9 : decode cX7_stand 9 = .ok (.ifCond .ne 6, 3) := by decide +kernel
theorem dX7_stand_12 : decode cX7_stand 12 = .ok (.ldc 190, 2) := by decide +kernel
theorem dX7_stand_14 : decode cX7_stand 14 = .ok (.ireturn, 1) := by decide +kernel
theorem dX7_stand_15 : decode cX7_stand 15 = .ok (.iload_n 1, 1) := by decide +kernel
theorem dX7_stand_16 : decode cX7_stand 16 = .ok (.tableswitch 91 0 7 #[48, 48, 48, 48, 57, 65, 73, 83], 48) := by decide +kernel
theorem dX7_stand_64 : decode cX7_stand 64 = .ok (.aload_n 0, 1) := by decide +kernel
theorem dX7_stand_65 : decode cX7_stand 65 = .ok (.getfield 19, 3) := by decide +kernel
theorem dX7_stand_68 : decode cX7_stand 68 = .ok (.iconst 2, 1) := by decide +kernel
theorem dX7_stand_69 : decode cX7_stand 69 = .ok (.iload_n 1, 1) := by decide +kernel
theorem dX7_stand_70 : decode cX7_stand 70 = .ok (.iadd, 1) := by decide +kernel
theorem dX7_stand_71 : decode cX7_stand 71 = .ok (.iaload, 1) := by decide +kernel
theorem dX7_stand_72 : decode cX7_stand 72 = .ok (.ireturn, 1) := by decide +kernel
theorem dX7_stand_73 : decode cX7_stand 73 = .ok (.aload_n 0, 1) := by decide +kernel
theorem dX7_stand_74 : decode cX7_stand 74 = .ok (.getfield 19, 3) := by decide +kernel
theorem dX7_stand_77 : decode cX7_stand 77 = .ok (.invokestatic 220, 3) := by decide +kernel
theorem dX7_stand_80 : decode cX7_stand 80 = .ok (.ireturn, 1) := by decide +kernel
theorem dX7_stand_81 : decode cX7_stand 81 = .ok (.aload_n 0, 1) := by decide +kernel
theorem dX7_stand_82 : decode cX7_stand 82 = .ok (.getfield 19, 3) := by decide +kernel
theorem dX7_stand_85 : decode cX7_stand 85 = .ok (.invokestatic 196, 3) := by decide +kernel
theorem dX7_stand_88 : decode cX7_stand 88 = .ok (.ireturn, 1) := by decide +kernel
theorem dX7_stand_89 : decode cX7_stand 89 = .ok (.aload_n 0, 1) := by decide +kernel
theorem dX7_stand_90 : decode cX7_stand 90 = .ok (.getfield 19, 3) := by decide +kernel
theorem dX7_stand_93 : decode cX7_stand 93 = .ok (.bipush 7, 2) := by decide +kernel
theorem dX7_stand_95 : decode cX7_stand 95 = .ok (.iaload, 1) := by decide +kernel
theorem dX7_stand_96 : decode cX7_stand 96 = .ok (.iconst 1, 1) := by decide +kernel
theorem dX7_stand_97 : decode cX7_stand 97 = .ok (.iadd, 1) := by decide +kernel
theorem dX7_stand_98 : decode cX7_stand 98 = .ok (.ireturn, 1) := by decide +kernel
theorem dX7_stand_99 : decode cX7_stand 99 = .ok (.aload_n 0, 1) := by decide +kernel
theorem dX7_stand_100 : decode cX7_stand 100 = .ok (.getfield 19, 3) := by decide +kernel
theorem dX7_stand_103 : decode cX7_stand 103 = .ok (.invokestatic 167, 3) := by decide +kernel
theorem dX7_stand_106 : decode cX7_stand 106 = .ok (.ireturn, 1) := by decide +kernel
theorem dX7_stand_107 : decode cX7_stand 107 = .ok (.ldc 67, 2) := by decide +kernel
theorem dX7_stand_109 : decode cX7_stand 109 = .ok (.ireturn, 1) := by decide +kernel
theorem dX7_ahead_0 : decode cX7_ahead 0 = .ok (.aload_n 0, 1) := by decide +kernel
theorem dX7_ahead_1 : decode cX7_ahead 1 = .ok (.iconst 0, 1) := by decide +kernel
theorem dX7_ahead_2 : decode cX7_ahead 2 = .ok (.putfield 47, 3) := by decide +kernel
theorem dX7_ahead_5 : decode cX7_ahead 5 = .ok (.aload_n 0, 1) := by decide +kernel
theorem dX7_ahead_6 : decode cX7_ahead 6 = .ok (.iload_n 1, 1) := by decide +kernel
theorem dX7_ahead_7 : decode cX7_ahead 7 = .ok (.invokevirtual 212, 3) := by decide +kernel
theorem dX7_ahead_10 : decode cX7_ahead 10 = .ok (.ifCond .eq 27, 3) := by decide +kernel
theorem dX7_ahead_13 : decode cX7_ahead 13 = .ok (.iload_n 2, 1) := by decide +kernel
theorem dX7_ahead_14 : decode cX7_ahead 14 = .ok (.i2l, 1) := by decide +kernel
theorem dX7_ahead_15 : decode cX7_ahead 15 = .ok (.lconst 0, 1) := by decide +kernel
theorem dX7_ahead_16 : decode cX7_ahead 16 = .ok (.ldc2_w 229, 3) := by decide +kernel
theorem dX7_ahead_19 : decode cX7_ahead 19 = .ok (.invokestatic 57, 3) := by decide +kernel
theorem dX7_ahead_22 : decode cX7_ahead 22 = .ok (.ifCond .eq 15, 3) := by decide +kernel
theorem dX7_ahead_25 : decode cX7_ahead 25 = .ok (.iload_n 3, 1) := by decide +kernel
theorem dX7_ahead_26 : decode cX7_ahead 26 = .ok (.i2l, 1) := by decide +kernel
theorem dX7_ahead_27 : decode cX7_ahead 27 = .ok (.lconst 0, 1) := by decide +kernel
theorem dX7_ahead_28 : decode cX7_ahead 28 = .ok (.ldc2_w 65, 3) := by decide +kernel
theorem dX7_ahead_31 : decode cX7_ahead 31 = .ok (.invokestatic 57, 3) := by decide +kernel
theorem dX7_ahead_34 : decode cX7_ahead 34 = .ok (.ifCond .ne 6, 3) := by decide +kernel
theorem dX7_ahead_37 : decode cX7_ahead 37 = .ok (.ldc 67, 2) := by decide +kernel
theorem dX7_ahead_39 : decode cX7_ahead 39 = .ok (.ireturn, 1) := by decide +kernel
theorem dX7_ahead_40 : decode cX7_ahead 40 = .ok (.aload_n 0, 1) := by decide +kernel
theorem dX7_ahead_41 : decode cX7_ahead 41 = .ok (.invokevirtual 231, 3) := by decide +kernel
theorem dX7_ahead_44 : decode cX7_ahead 44 = .ok (.aload_n 0, 1) := by decide +kernel
theorem dX7_ahead_45 : decode cX7_ahead 45 = .ok (.getfield 25, 3) := by decide +kernel
theorem dX7_ahead_48 : decode cX7_ahead 48 = .ok (.iload_n 2, 1) := by decide +kernel
theorem dX7_ahead_49 : decode cX7_ahead 49 = .ok (.invokestatic 234, 3) := by decide +kernel
theorem dX7_ahead_52 : decode cX7_ahead 52 = .ok (.aload_n 0, 1) := by decide +kernel
theorem dX7_ahead_53 : decode cX7_ahead 53 = .ok (.getfield 25, 3) := by decide +kernel
theorem dX7_ahead_56 : decode cX7_ahead 56 = .ok (.iload_n 1, 1) := by decide +kernel
theorem dX7_ahead_57 : decode cX7_ahead 57 = .ok (.iload_n 3, 1) := by decide +kernel
theorem dX7_ahead_58 : decode cX7_ahead 58 = .ok (.invokestatic 223, 3) := by decide +kernel
theorem dX7_ahead_61 : decode cX7_ahead 61 = .ok (.ireturn, 1) := by decide +kernel
theorem dX7_over_0 : decode cX7_over 0 = .ok (.aload_n 0, 1) := by decide +kernel
theorem dX7_over_1 : decode cX7_over 1 = .ok (.iconst 0, 1) := by decide +kernel
theorem dX7_over_2 : decode cX7_over 2 = .ok (.putfield 47, 3) := by decide +kernel
theorem dX7_over_5 : decode cX7_over 5 = .ok (.aload_n 0, 1) := by decide +kernel
theorem dX7_over_6 : decode cX7_over 6 = .ok (.iload_n 1, 1) := by decide +kernel
theorem dX7_over_7 : decode cX7_over 7 = .ok (.invokevirtual 202, 3) := by decide +kernel
theorem dX7_over_10 : decode cX7_over 10 = .ok (.ifCond .eq 15, 3) := by decide +kernel
theorem dX7_over_13 : decode cX7_over 13 = .ok (.iload_n 2, 1) := by decide +kernel
theorem dX7_over_14 : decode cX7_over 14 = .ok (.i2l, 1) := by decide +kernel
theorem dX7_over_15 : decode cX7_over 15 = .ok (.lconst 0, 1) := by decide +kernel
theorem dX7_over_16 : decode cX7_over 16 = .ok (.ldc2_w 229, 3) := by decide +kernel
theorem dX7_over_19 : decode cX7_over 19 = .ok (.invokestatic 57, 3) := by decide +kernel
theorem dX7_over_22 : decode cX7_over 22 = .ok (.ifCond .ne 6, 3) := by decide +kernel
theorem dX7_over_25 : decode cX7_over 25 = .ok (.ldc 67, 2) := by decide +kernel
theorem dX7_over_27 : decode cX7_over 27 = .ok (.ireturn, 1) := by decide +kernel
theorem dX7_over_28 : decode cX7_over 28 = .ok (.aload_n 0, 1) := by decide +kernel
theorem dX7_over_29 : decode cX7_over 29 = .ok (.invokevirtual 231, 3) := by decide +kernel
theorem dX7_over_32 : decode cX7_over 32 = .ok (.aload_n 0, 1) := by decide +kernel
theorem dX7_over_33 : decode cX7_over 33 = .ok (.getfield 25, 3) := by decide +kernel
theorem dX7_over_36 : decode cX7_over 36 = .ok (.iload_n 2, 1) := by decide +kernel
theorem dX7_over_37 : decode cX7_over 37 = .ok (.invokestatic 234, 3) := by decide +kernel
theorem dX7_over_40 : decode cX7_over 40 = .ok (.aload_n 0, 1) := by decide +kernel
theorem dX7_over_41 : decode cX7_over 41 = .ok (.getfield 25, 3) := by decide +kernel
theorem dX7_over_44 : decode cX7_over 44 = .ok (.iload_n 1, 1) := by decide +kernel
theorem dX7_over_45 : decode cX7_over 45 = .ok (.invokestatic 226, 3) := by decide +kernel
theorem dX7_over_48 : decode cX7_over 48 = .ok (.ireturn, 1) := by decide +kernel
theorem dX7_when_0 : decode cX7_when 0 = .ok (.aload_n 0, 1) := by decide +kernel
theorem dX7_when_1 : decode cX7_when 1 = .ok (.iconst 0, 1) := by decide +kernel
theorem dX7_when_2 : decode cX7_when 2 = .ok (.putfield 47, 3) := by decide +kernel
theorem dX7_when_5 : decode cX7_when 5 = .ok (.aload_n 0, 1) := by decide +kernel
theorem dX7_when_6 : decode cX7_when 6 = .ok (.iload_n 1, 1) := by decide +kernel
theorem dX7_when_7 : decode cX7_when 7 = .ok (.invokevirtual 212, 3) := by decide +kernel
theorem dX7_when_10 : decode cX7_when 10 = .ok (.ifCond .eq 13, 3) := by decide +kernel
theorem dX7_when_13 : decode cX7_when 13 = .ok (.iload_n 2, 1) := by decide +kernel
theorem dX7_when_14 : decode cX7_when 14 = .ok (.i2l, 1) := by decide +kernel
theorem dX7_when_15 : decode cX7_when 15 = .ok (.lconst 0, 1) := by decide +kernel
theorem dX7_when_16 : decode cX7_when 16 = .ok (.lconst 1, 1) := by decide +kernel
theorem dX7_when_17 : decode cX7_when 17 = .ok (.invokestatic 57, 3) := by decide +kernel
theorem dX7_when_20 : decode cX7_when 20 = .ok (.ifCond .ne 6, 3) := by decide +kernel
theorem dX7_when_23 : decode cX7_when 23 = .ok (.ldc 67, 2) := by decide +kernel
theorem dX7_when_25 : decode cX7_when 25 = .ok (.ireturn, 1) := by decide +kernel
theorem dX7_when_26 : decode cX7_when 26 = .ok (.aload_n 0, 1) := by decide +kernel
theorem dX7_when_27 : decode cX7_when 27 = .ok (.invokevirtual 231, 3) := by decide +kernel
theorem dX7_when_30 : decode cX7_when 30 = .ok (.iconst 0, 1) := by decide +kernel
theorem dX7_when_31 : decode cX7_when 31 = .ok (.istore_n 3, 1) := by decide +kernel
theorem dX7_when_32 : decode cX7_when 32 = .ok (.iload_n 3, 1) := by decide +kernel
theorem dX7_when_33 : decode cX7_when 33 = .ok (.bipush 60, 2) := by decide +kernel
theorem dX7_when_35 : decode cX7_when 35 = .ok (.if_icmp .gt 48, 3) := by decide +kernel
theorem dX7_when_38 : decode cX7_when 38 = .ok (.iload_n 2, 1) := by decide +kernel
theorem dX7_when_39 : decode cX7_when 39 = .ok (.ifCond .ne 17, 3) := by decide +kernel
theorem dX7_when_42 : decode cX7_when 42 = .ok (.aload_n 0, 1) := by decide +kernel
theorem dX7_when_43 : decode cX7_when 43 = .ok (.getfield 25, 3) := by decide +kernel
theorem dX7_when_46 : decode cX7_when 46 = .ok (.iload_n 1, 1) := by decide +kernel
theorem dX7_when_47 : decode cX7_when 47 = .ok (.invokestatic 156, 3) := by decide +kernel
theorem dX7_when_50 : decode cX7_when 50 = .ok (.ifCond .ne 20, 3) := by decide +kernel
theorem dX7_when_53 : decode cX7_when 53 = .ok (.goto 15, 3) := by decide +kernel
theorem dX7_when_56 : decode cX7_when 56 = .ok (.aload_n 0, 1) := by decide +kernel
theorem dX7_when_57 : decode cX7_when 57 = .ok (.getfield 25, 3) := by decide +kernel
theorem dX7_when_60 : decode cX7_when 60 = .ok (.iload_n 1, 1) := by decide +kernel
theorem dX7_when_61 : decode cX7_when 61 = .ok (.iconst 4, 1) := by decide +kernel
theorem dX7_when_62 : decode cX7_when 62 = .ok (.invokestatic 152, 3) := by decide +kernel
theorem dX7_when_65 : decode cX7_when 65 = .ok (.ifCond .le 5, 3) := by decide +kernel
theorem dX7_when_68 : decode cX7_when 68 = .ok (.iload_n 3, 1) := by decide +kernel
theorem dX7_when_69 : decode cX7_when 69 = .ok (.ireturn, 1) := by decide +kernel
theorem dX7_when_70 : decode cX7_when 70 = .ok (.aload_n 0, 1) := by decide +kernel
theorem dX7_when_71 : decode cX7_when 71 = .ok (.getfield 25, 3) := by decide +kernel
theorem dX7_when_74 : decode cX7_when 74 = .ok (.invokestatic 183, 3) := by decide +kernel
theorem dX7_when_77 : decode cX7_when 77 = .ok (.iinc 3 1, 3) := by decide +kernel
theorem dX7_when_80 : decode cX7_when 80 = .ok (.goto (-48), 3) := by decide +kernel
theorem dX7_when_83 : decode cX7_when 83 = .ok (.ldc 90, 2) := by decide +kernel
theorem dX7_when_85 : decode cX7_when 85 = .ok (.ireturn, 1) := by decide +kernel
theorem dX7_overlap_0 : decode cX7_overlap 0 = .ok (.aload_n 0, 1) := by decide +kernel
theorem dX7_overlap_1 : decode cX7_overlap 1 = .ok (.iconst 0, 1) := by decide +kernel
theorem dX7_overlap_2 : decode cX7_overlap 2 = .ok (.putfield 47, 3) := by decide +kernel
theorem dX7_overlap_5 : decode cX7_overlap 5 = .ok (.aload_n 0, 1) := by decide +kernel
theorem dX7_overlap_6 : decode cX7_overlap 6 = .ok (.invokevirtual 187, 3) := by decide +kernel
theorem dX7_overlap_9 : decode cX7_overlap 9 = .ok (.ifCond .ne 6, 3) := by decide +kernel
theorem dX7_overlap_12 : decode cX7_overlap 12 = .ok (.ldc 190, 2) := by decide +kernel
theorem dX7_overlap_14 : decode cX7_overlap 14 = .ok (.ireturn, 1) := by decide +kernel
theorem dX7_overlap_15 : decode cX7_overlap 15 = .ok (.iload_n 1, 1) := by decide +kernel
theorem dX7_overlap_16 : decode cX7_overlap 16 = .ok (.i2l, 1) := by decide +kernel
theorem dX7_overlap_17 : decode cX7_overlap 17 = .ok (.lconst 0, 1) := by decide +kernel
theorem dX7_overlap_18 : decode cX7_overlap 18 = .ok (.lconst 1, 1) := by decide +kernel
theorem dX7_overlap_19 : decode cX7_overlap 19 = .ok (.invokestatic 57, 3) := by decide +kernel
theorem dX7_overlap_22 : decode cX7_overlap 22 = .ok (.ifCond .ne 6, 3) := by decide +kernel
theorem dX7_overlap_25 : decode cX7_overlap 25 = .ok (.ldc 67, 2) := by decide +kernel
theorem dX7_overlap_27 : decode cX7_overlap 27 = .ok (.ireturn, 1) := by decide +kernel
theorem dX7_overlap_28 : decode cX7_overlap 28 = .ok (.aload_n 0, 1) := by decide +kernel
theorem dX7_overlap_29 : decode cX7_overlap 29 = .ok (.invokevirtual 231, 3) := by decide +kernel
theorem dX7_overlap_32 : decode cX7_overlap 32 = .ok (.iconst 0, 1) := by decide +kernel
theorem dX7_overlap_33 : decode cX7_overlap 33 = .ok (.istore_n 2, 1) := by decide +kernel
theorem dX7_overlap_34 : decode cX7_overlap 34 = .ok (.iload_n 2, 1) := by decide +kernel
theorem dX7_overlap_35 : decode cX7_overlap 35 = .ok (.bipush 60, 2) := by decide +kernel
theorem dX7_overlap_37 : decode cX7_overlap 37 = .ok (.if_icmp .gt 93, 3) := by decide +kernel
theorem dX7_overlap_40 : decode cX7_overlap 40 = .ok (.iconst 0, 1) := by decide +kernel
theorem dX7_overlap_41 : decode cX7_overlap 41 = .ok (.istore_n 3, 1) := by decide +kernel
theorem dX7_overlap_42 : decode cX7_overlap 42 = .ok (.iload_n 3, 1) := by decide +kernel
theorem dX7_overlap_43 : decode cX7_overlap 43 = .ok (.aload_n 0, 1) := by decide +kernel
theorem dX7_overlap_44 : decode cX7_overlap 44 = .ok (.getfield 19, 3) := by decide +kernel
theorem dX7_overlap_47 : decode cX7_overlap 47 = .ok (.iconst 0, 1) := by decide +kernel
theorem dX7_overlap_48 : decode cX7_overlap 48 = .ok (.iaload, 1) := by decide +kernel
theorem dX7_overlap_49 : decode cX7_overlap 49 = .ok (.if_icmp .ge 68, 3) := by decide +kernel
theorem dX7_overlap_52 : decode cX7_overlap 52 = .ok (.iload_n 3, 1) := by decide +kernel
theorem dX7_overlap_53 : decode cX7_overlap 53 = .ok (.iconst 1, 1) := by decide +kernel
theorem dX7_overlap_54 : decode cX7_overlap 54 = .ok (.iadd, 1) := by decide +kernel
theorem dX7_overlap_55 : decode cX7_overlap 55 = .ok (.istore 4, 2) := by decide +kernel
theorem dX7_overlap_57 : decode cX7_overlap 57 = .ok (.iload 4, 2) := by decide +kernel
theorem dX7_overlap_59 : decode cX7_overlap 59 = .ok (.aload_n 0, 1) := by decide +kernel
theorem dX7_overlap_60 : decode cX7_overlap 60 = .ok (.getfield 19, 3) := by decide +kernel
theorem dX7_overlap_63 : decode cX7_overlap 63 = .ok (.iconst 0, 1) := by decide +kernel
theorem dX7_overlap_64 : decode cX7_overlap 64 = .ok (.iaload, 1) := by decide +kernel
theorem dX7_overlap_65 : decode cX7_overlap 65 = .ok (.if_icmp .ge 46, 3) := by decide +kernel
theorem dX7_overlap_68 : decode cX7_overlap 68 = .ok (.aload_n 0, 1) := by decide +kernel
theorem dX7_overlap_69 : decode cX7_overlap 69 = .ok (.getfield 25, 3) := by decide +kernel
theorem dX7_overlap_72 : decode cX7_overlap 72 = .ok (.iload_n 3, 1) := by decide +kernel
theorem dX7_overlap_73 : decode cX7_overlap 73 = .ok (.invokestatic 179, 3) := by decide +kernel
theorem dX7_overlap_76 : decode cX7_overlap 76 = .ok (.aload_n 0, 1) := by decide +kernel
theorem dX7_overlap_77 : decode cX7_overlap 77 = .ok (.getfield 25, 3) := by decide +kernel
theorem dX7_overlap_80 : decode cX7_overlap 80 = .ok (.iload 4, 2) := by decide +kernel
theorem dX7_overlap_82 : decode cX7_overlap 82 = .ok (.invokestatic 179, 3) := by decide +kernel
theorem dX7_overlap_85 : decode cX7_overlap 85 = .ok (.iand, 1) := by decide +kernel
theorem dX7_overlap_86 : decode cX7_overlap 86 = .ok (.ifCond .eq 19, 3) := by decide +kernel
theorem dX7_overlap_89 : decode cX7_overlap 89 = .ok (.iload_n 1, 1) := by decide +kernel
theorem dX7_overlap_90 : decode cX7_overlap 90 = .ok (.ifCond .ne 7, 3) := by decide +kernel
theorem dX7_overlap_93 : decode cX7_overlap 93 = .ok (.iload_n 2, 1) := by decide +kernel
theorem dX7_overlap_94 : decode cX7_overlap 94 = .ok (.goto 10, 3) := by decide +kernel
theorem dX7_overlap_97 : decode cX7_overlap 97 = .ok (.bipush 10, 2) := by decide +kernel
theorem dX7_overlap_99 : decode cX7_overlap 99 = .ok (.iload_n 3, 1) := by decide +kernel
theorem dX7_overlap_100 : decode cX7_overlap 100 = .ok (.imul, 1) := by decide +kernel
theorem dX7_overlap_101 : decode cX7_overlap 101 = .ok (.iload 4, 2) := by decide +kernel
theorem dX7_overlap_103 : decode cX7_overlap 103 = .ok (.iadd, 1) := by decide +kernel
theorem dX7_overlap_104 : decode cX7_overlap 104 = .ok (.ireturn, 1) := by decide +kernel
theorem dX7_overlap_105 : decode cX7_overlap 105 = .ok (.iinc 4 1, 3) := by decide +kernel
theorem dX7_overlap_108 : decode cX7_overlap 108 = .ok (.goto (-51), 3) := by decide +kernel
theorem dX7_overlap_111 : decode cX7_overlap 111 = .ok (.iinc 3 1, 3) := by decide +kernel
theorem dX7_overlap_114 : decode cX7_overlap 114 = .ok (.goto (-72), 3) := by decide +kernel
theorem dX7_overlap_117 : decode cX7_overlap 117 = .ok (.aload_n 0, 1) := by decide +kernel
theorem dX7_overlap_118 : decode cX7_overlap 118 = .ok (.getfield 25, 3) := by decide +kernel
theorem dX7_overlap_121 : decode cX7_overlap 121 = .ok (.invokestatic 183, 3) := by decide +kernel
theorem dX7_overlap_124 : decode cX7_overlap 124 = .ok (.iinc 2 1, 3) := by decide +kernel
theorem dX7_overlap_127 : decode cX7_overlap 127 = .ok (.goto (-93), 3) := by decide +kernel
theorem dX7_overlap_130 : decode cX7_overlap 130 = .ok (.ldc 90, 2) := by decide +kernel
theorem dX7_overlap_132 : decode cX7_overlap 132 = .ok (.ireturn, 1) := by decide +kernel
theorem dX7_walk_0 : decode cX7_walk 0 = .ok (.aload_n 0, 1) := by decide +kernel
theorem dX7_walk_1 : decode cX7_walk 1 = .ok (.iconst 0, 1) := by decide +kernel
theorem dX7_walk_2 : decode cX7_walk 2 = .ok (.putfield 47, 3) := by decide +kernel
theorem dX7_walk_5 : decode cX7_walk 5 = .ok (.aload_n 0, 1) := by decide +kernel
theorem dX7_walk_6 : decode cX7_walk 6 = .ok (.invokevirtual 187, 3) := by decide +kernel
theorem dX7_walk_9 : decode cX7_walk 9 = .ok (.ifCond .ne 6, 3) := by decide +kernel
theorem dX7_walk_12 : decode cX7_walk 12 = .ok (.ldc 190, 2) := by decide +kernel
theorem dX7_walk_14 : decode cX7_walk 14 = .ok (.ireturn, 1) := by decide +kernel
theorem dX7_walk_15 : decode cX7_walk 15 = .ok (.iload_n 1, 1) := by decide +kernel
theorem dX7_walk_16 : decode cX7_walk 16 = .ok (.i2l, 1) := by decide +kernel
theorem dX7_walk_17 : decode cX7_walk 17 = .ok (.lconst 1, 1) := by decide +kernel
theorem dX7_walk_18 : decode cX7_walk 18 = .ok (.ldc2_w 238, 3) := by decide +kernel
theorem dX7_walk_21 : decode cX7_walk 21 = .ok (.invokestatic 57, 3) := by decide +kernel
theorem dX7_walk_24 : decode cX7_walk 24 = .ok (.ifCond .eq 8, 3) := by decide +kernel
theorem dX7_walk_27 : decode cX7_walk 27 = .ok (.iload_n 2, 1) := by decide +kernel
theorem dX7_walk_28 : decode cX7_walk 28 = .ok (.iconst (-1), 1) := by decide +kernel
theorem dX7_walk_29 : decode cX7_walk 29 = .ok (.if_icmp .ge 6, 3) := by decide +kernel
theorem dX7_walk_32 : decode cX7_walk 32 = .ok (.ldc 67, 2) := by decide +kernel
theorem dX7_walk_34 : decode cX7_walk 34 = .ok (.ireturn, 1) := by decide +kernel
theorem dX7_walk_35 : decode cX7_walk 35 = .ok (.aload_n 0, 1) := by decide +kernel
theorem dX7_walk_36 : decode cX7_walk 36 = .ok (.invokevirtual 231, 3) := by decide +kernel
theorem dX7_walk_39 : decode cX7_walk 39 = .ok (.iconst 0, 1) := by decide +kernel
theorem dX7_walk_40 : decode cX7_walk 40 = .ok (.istore_n 3, 1) := by decide +kernel
theorem dX7_walk_41 : decode cX7_walk 41 = .ok (.iload_n 3, 1) := by decide +kernel
theorem dX7_walk_42 : decode cX7_walk 42 = .ok (.iload_n 1, 1) := by decide +kernel
theorem dX7_walk_43 : decode cX7_walk 43 = .ok (.if_icmp .ge 57, 3) := by decide +kernel
theorem dX7_walk_46 : decode cX7_walk 46 = .ok (.aload_n 0, 1) := by decide +kernel
theorem dX7_walk_47 : decode cX7_walk 47 = .ok (.getfield 25, 3) := by decide +kernel
theorem dX7_walk_50 : decode cX7_walk 50 = .ok (.invokestatic 183, 3) := by decide +kernel
theorem dX7_walk_53 : decode cX7_walk 53 = .ok (.iconst 0, 1) := by decide +kernel
theorem dX7_walk_54 : decode cX7_walk 54 = .ok (.istore 4, 2) := by decide +kernel
theorem dX7_walk_56 : decode cX7_walk 56 = .ok (.iload 4, 2) := by decide +kernel
theorem dX7_walk_58 : decode cX7_walk 58 = .ok (.aload_n 0, 1) := by decide +kernel
theorem dX7_walk_59 : decode cX7_walk 59 = .ok (.getfield 19, 3) := by decide +kernel
theorem dX7_walk_62 : decode cX7_walk 62 = .ok (.iconst 2, 1) := by decide +kernel
theorem dX7_walk_63 : decode cX7_walk 63 = .ok (.iaload, 1) := by decide +kernel
theorem dX7_walk_64 : decode cX7_walk 64 = .ok (.if_icmp .ge 30, 3) := by decide +kernel
theorem dX7_walk_67 : decode cX7_walk 67 = .ok (.aload_n 0, 1) := by decide +kernel
theorem dX7_walk_68 : decode cX7_walk 68 = .ok (.getfield 34, 3) := by decide +kernel
theorem dX7_walk_71 : decode cX7_walk 71 = .ok (.bipush 16, 2) := by decide +kernel
theorem dX7_walk_73 : decode cX7_walk 73 = .ok (.iload_n 3, 1) := by decide +kernel
theorem dX7_walk_74 : decode cX7_walk 74 = .ok (.imul, 1) := by decide +kernel
theorem dX7_walk_75 : decode cX7_walk 75 = .ok (.iload 4, 2) := by decide +kernel
theorem dX7_walk_77 : decode cX7_walk 77 = .ok (.iadd, 1) := by decide +kernel
theorem dX7_walk_78 : decode cX7_walk 78 = .ok (.aload_n 0, 1) := by decide +kernel
theorem dX7_walk_79 : decode cX7_walk 79 = .ok (.getfield 25, 3) := by decide +kernel
theorem dX7_walk_82 : decode cX7_walk 82 = .ok (.iload 4, 2) := by decide +kernel
theorem dX7_walk_84 : decode cX7_walk 84 = .ok (.invokestatic 226, 3) := by decide +kernel
theorem dX7_walk_87 : decode cX7_walk 87 = .ok (.iastore, 1) := by decide +kernel
theorem dX7_walk_88 : decode cX7_walk 88 = .ok (.iinc 4 1, 3) := by decide +kernel
theorem dX7_walk_91 : decode cX7_walk 91 = .ok (.goto (-35), 3) := by decide +kernel
theorem dX7_walk_94 : decode cX7_walk 94 = .ok (.iinc 3 1, 3) := by decide +kernel
theorem dX7_walk_97 : decode cX7_walk 97 = .ok (.goto (-56), 3) := by decide +kernel
theorem dX7_walk_100 : decode cX7_walk 100 = .ok (.iconst 1, 1) := by decide +kernel
theorem dX7_walk_101 : decode cX7_walk 101 = .ok (.istore_n 3, 1) := by decide +kernel
theorem dX7_walk_102 : decode cX7_walk 102 = .ok (.iconst 0, 1) := by decide +kernel
theorem dX7_walk_103 : decode cX7_walk 103 = .ok (.istore 4, 2) := by decide +kernel
theorem dX7_walk_105 : decode cX7_walk 105 = .ok (.iload 4, 2) := by decide +kernel
theorem dX7_walk_107 : decode cX7_walk 107 = .ok (.iload_n 1, 1) := by decide +kernel
theorem dX7_walk_108 : decode cX7_walk 108 = .ok (.if_icmp .ge 13, 3) := by decide +kernel
theorem dX7_walk_111 : decode cX7_walk 111 = .ok (.iload_n 3, 1) := by decide +kernel
theorem dX7_walk_112 : decode cX7_walk 112 = .ok (.iconst 3, 1) := by decide +kernel
theorem dX7_walk_113 : decode cX7_walk 113 = .ok (.imul, 1) := by decide +kernel
theorem dX7_walk_114 : decode cX7_walk 114 = .ok (.istore_n 3, 1) := by decide +kernel
theorem dX7_walk_115 : decode cX7_walk 115 = .ok (.iinc 4 1, 3) := by decide +kernel
theorem dX7_walk_118 : decode cX7_walk 118 = .ok (.goto (-13), 3) := by decide +kernel
theorem dX7_walk_121 : decode cX7_walk 121 = .ok (.ldc 90, 2) := by decide +kernel
theorem dX7_walk_123 : decode cX7_walk 123 = .ok (.istore 4, 2) := by decide +kernel
theorem dX7_walk_125 : decode cX7_walk 125 = .ok (.iconst 0, 1) := by decide +kernel
theorem dX7_walk_126 : decode cX7_walk 126 = .ok (.istore 5, 2) := by decide +kernel
theorem dX7_walk_128 : decode cX7_walk 128 = .ok (.iconst 0, 1) := by decide +kernel
theorem dX7_walk_129 : decode cX7_walk 129 = .ok (.istore 6, 2) := by decide +kernel
theorem dX7_walk_131 : decode cX7_walk 131 = .ok (.iload 6, 2) := by decide +kernel
theorem dX7_walk_133 : decode cX7_walk 133 = .ok (.iload_n 3, 1) := by decide +kernel
theorem dX7_walk_134 : decode cX7_walk 134 = .ok (.if_icmp .ge 148, 3) := by decide +kernel
theorem dX7_walk_137 : decode cX7_walk 137 = .ok (.aload_n 0, 1) := by decide +kernel
theorem dX7_walk_138 : decode cX7_walk 138 = .ok (.getfield 19, 3) := by decide +kernel
theorem dX7_walk_141 : decode cX7_walk 141 = .ok (.iconst 4, 1) := by decide +kernel
theorem dX7_walk_142 : decode cX7_walk 142 = .ok (.iaload, 1) := by decide +kernel
theorem dX7_walk_143 : decode cX7_walk 143 = .ok (.istore 7, 2) := by decide +kernel
theorem dX7_walk_145 : decode cX7_walk 145 = .ok (.iload_n 3, 1) := by decide +kernel
theorem dX7_walk_146 : decode cX7_walk 146 = .ok (.iconst 3, 1) := by decide +kernel
theorem dX7_walk_147 : decode cX7_walk 147 = .ok (.idiv, 1) := by decide +kernel
theorem dX7_walk_148 : decode cX7_walk 148 = .ok (.istore 8, 2) := by decide +kernel
theorem dX7_walk_150 : decode cX7_walk 150 = .ok (.iconst 0, 1) := by decide +kernel
theorem dX7_walk_151 : decode cX7_walk 151 = .ok (.istore 9, 2) := by decide +kernel
theorem dX7_walk_153 : decode cX7_walk 153 = .ok (.iconst 1, 1) := by decide +kernel
theorem dX7_walk_154 : decode cX7_walk 154 = .ok (.istore 10, 2) := by decide +kernel
theorem dX7_walk_156 : decode cX7_walk 156 = .ok (.iconst 0, 1) := by decide +kernel
theorem dX7_walk_157 : decode cX7_walk 157 = .ok (.istore 11, 2) := by decide +kernel
theorem dX7_walk_159 : decode cX7_walk 159 = .ok (.iload 11, 2) := by decide +kernel
theorem dX7_walk_161 : decode cX7_walk 161 = .ok (.iload_n 1, 1) := by decide +kernel
theorem dX7_walk_162 : decode cX7_walk 162 = .ok (.if_icmp .ge 87, 3) := by decide +kernel
theorem dX7_walk_165 : decode cX7_walk 165 = .ok (.iload 7, 2) := by decide +kernel
theorem dX7_walk_167 : decode cX7_walk 167 = .ok (.iload 6, 2) := by decide +kernel
theorem dX7_walk_169 : decode cX7_walk 169 = .ok (.iload 8, 2) := by decide +kernel
theorem dX7_walk_171 : decode cX7_walk 171 = .ok (.idiv, 1) := by decide +kernel
theorem dX7_walk_172 : decode cX7_walk 172 = .ok (.iconst 3, 1) := by decide +kernel
theorem dX7_walk_173 : decode cX7_walk 173 = .ok (.irem, 1) := by decide +kernel
theorem dX7_walk_174 : decode cX7_walk 174 = .ok (.iconst 1, 1) := by decide +kernel
theorem dX7_walk_175 : decode cX7_walk 175 = .ok (.isub, 1) := by decide +kernel
theorem dX7_walk_176 : decode cX7_walk 176 = .ok (.iadd, 1) := by decide +kernel
theorem dX7_walk_177 : decode cX7_walk 177 = .ok (.istore 7, 2) := by decide +kernel
theorem dX7_walk_179 : decode cX7_walk 179 = .ok (.iload 8, 2) := by decide +kernel
theorem dX7_walk_181 : decode cX7_walk 181 = .ok (.iconst 1, 1) := by decide +kernel
theorem dX7_walk_182 : decode cX7_walk 182 = .ok (.if_icmp .le 10, 3) := by decide +kernel
theorem dX7_walk_185 : decode cX7_walk 185 = .ok (.iload 8, 2) := by decide +kernel
theorem dX7_walk_187 : decode cX7_walk 187 = .ok (.iconst 3, 1) := by decide +kernel
theorem dX7_walk_188 : decode cX7_walk 188 = .ok (.idiv, 1) := by decide +kernel
theorem dX7_walk_189 : decode cX7_walk 189 = .ok (.goto 4, 3) := by decide +kernel
theorem dX7_walk_192 : decode cX7_walk 192 = .ok (.iconst 1, 1) := by decide +kernel
theorem dX7_walk_193 : decode cX7_walk 193 = .ok (.istore 8, 2) := by decide +kernel
theorem dX7_walk_195 : decode cX7_walk 195 = .ok (.iload 10, 2) := by decide +kernel
theorem dX7_walk_197 : decode cX7_walk 197 = .ok (.ifCond .eq 16, 3) := by decide +kernel
theorem dX7_walk_200 : decode cX7_walk 200 = .ok (.aload_n 0, 1) := by decide +kernel
theorem dX7_walk_201 : decode cX7_walk 201 = .ok (.iload 7, 2) := by decide +kernel
theorem dX7_walk_203 : decode cX7_walk 203 = .ok (.invokevirtual 202, 3) := by decide +kernel
theorem dX7_walk_206 : decode cX7_walk 206 = .ok (.ifCond .eq 7, 3) := by decide +kernel
theorem dX7_walk_209 : decode cX7_walk 209 = .ok (.iconst 1, 1) := by decide +kernel
theorem dX7_walk_210 : decode cX7_walk 210 = .ok (.goto 4, 3) := by decide +kernel
theorem dX7_walk_213 : decode cX7_walk 213 = .ok (.iconst 0, 1) := by decide +kernel
theorem dX7_walk_214 : decode cX7_walk 214 = .ok (.istore 10, 2) := by decide +kernel
theorem dX7_walk_216 : decode cX7_walk 216 = .ok (.iload 9, 2) := by decide +kernel
theorem dX7_walk_218 : decode cX7_walk 218 = .ok (.iload 10, 2) := by decide +kernel
theorem dX7_walk_220 : decode cX7_walk 220 = .ok (.ifCond .eq 19, 3) := by decide +kernel
theorem dX7_walk_223 : decode cX7_walk 223 = .ok (.aload_n 0, 1) := by decide +kernel
theorem dX7_walk_224 : decode cX7_walk 224 = .ok (.getfield 34, 3) := by decide +kernel
theorem dX7_walk_227 : decode cX7_walk 227 = .ok (.bipush 16, 2) := by decide +kernel
theorem dX7_walk_229 : decode cX7_walk 229 = .ok (.iload 11, 2) := by decide +kernel
theorem dX7_walk_231 : decode cX7_walk 231 = .ok (.imul, 1) := by decide +kernel
theorem dX7_walk_232 : decode cX7_walk 232 = .ok (.iload 7, 2) := by decide +kernel
theorem dX7_walk_234 : decode cX7_walk 234 = .ok (.iadd, 1) := by decide +kernel
theorem dX7_walk_235 : decode cX7_walk 235 = .ok (.iaload, 1) := by decide +kernel
theorem dX7_walk_236 : decode cX7_walk 236 = .ok (.goto 4, 3) := by decide +kernel
theorem dX7_walk_239 : decode cX7_walk 239 = .ok (.iconst 0, 1) := by decide +kernel
theorem dX7_walk_240 : decode cX7_walk 240 = .ok (.iadd, 1) := by decide +kernel
theorem dX7_walk_241 : decode cX7_walk 241 = .ok (.istore 9, 2) := by decide +kernel
theorem dX7_walk_243 : decode cX7_walk 243 = .ok (.iinc 11 1, 3) := by decide +kernel
theorem dX7_walk_246 : decode cX7_walk 246 = .ok (.goto (-87), 3) := by decide +kernel
theorem dX7_walk_249 : decode cX7_walk 249 = .ok (.iload 10, 2) := by decide +kernel
theorem dX7_walk_251 : decode cX7_walk 251 = .ok (.ifCond .eq 25, 3) := by decide +kernel
theorem dX7_walk_254 : decode cX7_walk 254 = .ok (.iload 4, 2) := by decide +kernel
theorem dX7_walk_256 : decode cX7_walk 256 = .ok (.ldc 90, 2) := by decide +kernel
theorem dX7_walk_258 : decode cX7_walk 258 = .ok (.if_icmp .eq 10, 3) := by decide +kernel
theorem dX7_walk_261 : decode cX7_walk 261 = .ok (.iload 9, 2) := by decide +kernel
theorem dX7_walk_263 : decode cX7_walk 263 = .ok (.iload 4, 2) := by decide +kernel
theorem dX7_walk_265 : decode cX7_walk 265 = .ok (.if_icmp .ge 11, 3) := by decide +kernel
theorem dX7_walk_268 : decode cX7_walk 268 = .ok (.iload 9, 2) := by decide +kernel
theorem dX7_walk_270 : decode cX7_walk 270 = .ok (.istore 4, 2) := by decide +kernel
theorem dX7_walk_272 : decode cX7_walk 272 = .ok (.iload 6, 2) := by decide +kernel
theorem dX7_walk_274 : decode cX7_walk 274 = .ok (.istore 5, 2) := by decide +kernel
theorem dX7_walk_276 : decode cX7_walk 276 = .ok (.iinc 6 1, 3) := by decide +kernel
theorem dX7_walk_279 : decode cX7_walk 279 = .ok (.goto (-148), 3) := by decide +kernel
theorem dX7_walk_282 : decode cX7_walk 282 = .ok (.iload_n 2, 1) := by decide +kernel
theorem dX7_walk_283 : decode cX7_walk 283 = .ok (.iconst (-1), 1) := by decide +kernel
theorem dX7_walk_284 : decode cX7_walk 284 = .ok (.if_icmp .ne 6, 3) := by decide +kernel
theorem dX7_walk_287 : decode cX7_walk 287 = .ok (.iload 4, 2) := by decide +kernel
theorem dX7_walk_289 : decode cX7_walk 289 = .ok (.ireturn, 1) := by decide +kernel
theorem dX7_walk_290 : decode cX7_walk 290 = .ok (.aload_n 0, 1) := by decide +kernel
theorem dX7_walk_291 : decode cX7_walk 291 = .ok (.getfield 19, 3) := by decide +kernel
theorem dX7_walk_294 : decode cX7_walk 294 = .ok (.iconst 4, 1) := by decide +kernel
theorem dX7_walk_295 : decode cX7_walk 295 = .ok (.iaload, 1) := by decide +kernel
theorem dX7_walk_296 : decode cX7_walk 296 = .ok (.istore 6, 2) := by decide +kernel
theorem dX7_walk_298 : decode cX7_walk 298 = .ok (.iload_n 3, 1) := by decide +kernel
theorem dX7_walk_299 : decode cX7_walk 299 = .ok (.iconst 3, 1) := by decide +kernel
theorem dX7_walk_300 : decode cX7_walk 300 = .ok (.idiv, 1) := by decide +kernel
theorem dX7_walk_301 : decode cX7_walk 301 = .ok (.istore 7, 2) := by decide +kernel
theorem dX7_walk_303 : decode cX7_walk 303 = .ok (.iconst 0, 1) := by decide +kernel
theorem dX7_walk_304 : decode cX7_walk 304 = .ok (.istore 8, 2) := by decide +kernel
theorem dX7_walk_306 : decode cX7_walk 306 = .ok (.iload 8, 2) := by decide +kernel
theorem dX7_walk_308 : decode cX7_walk 308 = .ok (.iload_n 2, 1) := by decide +kernel
theorem dX7_walk_309 : decode cX7_walk 309 = .ok (.if_icmp .gt 44, 3) := by decide +kernel
theorem dX7_walk_312 : decode cX7_walk 312 = .ok (.iload_n 2, 1) := by decide +kernel
theorem dX7_walk_313 : decode cX7_walk 313 = .ok (.iload_n 1, 1) := by decide +kernel
theorem dX7_walk_314 : decode cX7_walk 314 = .ok (.if_icmp .ge 39, 3) := by decide +kernel
theorem dX7_walk_317 : decode cX7_walk 317 = .ok (.iload 6, 2) := by decide +kernel
theorem dX7_walk_319 : decode cX7_walk 319 = .ok (.iload 5, 2) := by decide +kernel
theorem dX7_walk_321 : decode cX7_walk 321 = .ok (.iload 7, 2) := by decide +kernel
theorem dX7_walk_323 : decode cX7_walk 323 = .ok (.idiv, 1) := by decide +kernel
theorem dX7_walk_324 : decode cX7_walk 324 = .ok (.iconst 3, 1) := by decide +kernel
theorem dX7_walk_325 : decode cX7_walk 325 = .ok (.irem, 1) := by decide +kernel
theorem dX7_walk_326 : decode cX7_walk 326 = .ok (.iconst 1, 1) := by decide +kernel
theorem dX7_walk_327 : decode cX7_walk 327 = .ok (.isub, 1) := by decide +kernel
theorem dX7_walk_328 : decode cX7_walk 328 = .ok (.iadd, 1) := by decide +kernel
theorem dX7_walk_329 : decode cX7_walk 329 = .ok (.istore 6, 2) := by decide +kernel
theorem dX7_walk_331 : decode cX7_walk 331 = .ok (.iload 7, 2) := by decide +kernel
theorem dX7_walk_333 : decode cX7_walk 333 = .ok (.iconst 1, 1) := by decide +kernel
theorem dX7_walk_334 : decode cX7_walk 334 = .ok (.if_icmp .le 10, 3) := by decide +kernel
theorem dX7_walk_337 : decode cX7_walk 337 = .ok (.iload 7, 2) := by decide +kernel
theorem dX7_walk_339 : decode cX7_walk 339 = .ok (.iconst 3, 1) := by decide +kernel
theorem dX7_walk_340 : decode cX7_walk 340 = .ok (.idiv, 1) := by decide +kernel
theorem dX7_walk_341 : decode cX7_walk 341 = .ok (.goto 4, 3) := by decide +kernel
theorem dX7_walk_344 : decode cX7_walk 344 = .ok (.iconst 1, 1) := by decide +kernel
theorem dX7_walk_345 : decode cX7_walk 345 = .ok (.istore 7, 2) := by decide +kernel
theorem dX7_walk_347 : decode cX7_walk 347 = .ok (.iinc 8 1, 3) := by decide +kernel
theorem dX7_walk_350 : decode cX7_walk 350 = .ok (.goto (-44), 3) := by decide +kernel
theorem dX7_walk_353 : decode cX7_walk 353 = .ok (.iload_n 2, 1) := by decide +kernel
theorem dX7_walk_354 : decode cX7_walk 354 = .ok (.iload_n 1, 1) := by decide +kernel
theorem dX7_walk_355 : decode cX7_walk 355 = .ok (.if_icmp .ge 8, 3) := by decide +kernel
theorem dX7_walk_358 : decode cX7_walk 358 = .ok (.iload 6, 2) := by decide +kernel
theorem dX7_walk_360 : decode cX7_walk 360 = .ok (.goto 5, 3) := by decide +kernel
theorem dX7_walk_363 : decode cX7_walk 363 = .ok (.ldc 90, 2) := by decide +kernel
theorem dX7_walk_365 : decode cX7_walk 365 = .ok (.ireturn, 1) := by decide +kernel
theorem dX7_meet_0 : decode cX7_meet 0 = .ok (.aload_n 0, 1) := by decide +kernel
theorem dX7_meet_1 : decode cX7_meet 1 = .ok (.iconst 0, 1) := by decide +kernel
theorem dX7_meet_2 : decode cX7_meet 2 = .ok (.putfield 47, 3) := by decide +kernel
theorem dX7_meet_5 : decode cX7_meet 5 = .ok (.aload_n 0, 1) := by decide +kernel
theorem dX7_meet_6 : decode cX7_meet 6 = .ok (.iload_n 1, 1) := by decide +kernel
theorem dX7_meet_7 : decode cX7_meet 7 = .ok (.invokevirtual 212, 3) := by decide +kernel
theorem dX7_meet_10 : decode cX7_meet 10 = .ok (.ifCond .ne 6, 3) := by decide +kernel
theorem dX7_meet_13 : decode cX7_meet 13 = .ok (.ldc 67, 2) := by decide +kernel
theorem dX7_meet_15 : decode cX7_meet 15 = .ok (.ireturn, 1) := by decide +kernel
theorem dX7_meet_16 : decode cX7_meet 16 = .ok (.aload_n 0, 1) := by decide +kernel
theorem dX7_meet_17 : decode cX7_meet 17 = .ok (.invokevirtual 231, 3) := by decide +kernel
theorem dX7_meet_20 : decode cX7_meet 20 = .ok (.iconst 1, 1) := by decide +kernel
theorem dX7_meet_21 : decode cX7_meet 21 = .ok (.aload_n 0, 1) := by decide +kernel
theorem dX7_meet_22 : decode cX7_meet 22 = .ok (.getfield 19, 3) := by decide +kernel
theorem dX7_meet_25 : decode cX7_meet 25 = .ok (.iconst 4, 1) := by decide +kernel
theorem dX7_meet_26 : decode cX7_meet 26 = .ok (.iaload, 1) := by decide +kernel
theorem dX7_meet_27 : decode cX7_meet 27 = .ok (.ishl, 1) := by decide +kernel
theorem dX7_meet_28 : decode cX7_meet 28 = .ok (.istore_n 2, 1) := by decide +kernel
theorem dX7_meet_29 : decode cX7_meet 29 = .ok (.iconst 0, 1) := by decide +kernel
theorem dX7_meet_30 : decode cX7_meet 30 = .ok (.istore_n 3, 1) := by decide +kernel
theorem dX7_meet_31 : decode cX7_meet 31 = .ok (.iload_n 3, 1) := by decide +kernel
theorem dX7_meet_32 : decode cX7_meet 32 = .ok (.bipush 20, 2) := by decide +kernel
theorem dX7_meet_34 : decode cX7_meet 34 = .ok (.if_icmp .gt 52, 3) := by decide +kernel
theorem dX7_meet_37 : decode cX7_meet 37 = .ok (.aload_n 0, 1) := by decide +kernel
theorem dX7_meet_38 : decode cX7_meet 38 = .ok (.getfield 25, 3) := by decide +kernel
theorem dX7_meet_41 : decode cX7_meet 41 = .ok (.iload_n 1, 1) := by decide +kernel
theorem dX7_meet_42 : decode cX7_meet 42 = .ok (.invokestatic 179, 3) := by decide +kernel
theorem dX7_meet_45 : decode cX7_meet 45 = .ok (.iload_n 2, 1) := by decide +kernel
theorem dX7_meet_46 : decode cX7_meet 46 = .ok (.iand, 1) := by decide +kernel
theorem dX7_meet_47 : decode cX7_meet 47 = .ok (.ifCond .eq 5, 3) := by decide +kernel
theorem dX7_meet_50 : decode cX7_meet 50 = .ok (.iload_n 3, 1) := by decide +kernel
theorem dX7_meet_51 : decode cX7_meet 51 = .ok (.ireturn, 1) := by decide +kernel
theorem dX7_meet_52 : decode cX7_meet 52 = .ok (.iload_n 2, 1) := by decide +kernel
theorem dX7_meet_53 : decode cX7_meet 53 = .ok (.iload_n 2, 1) := by decide +kernel
theorem dX7_meet_54 : decode cX7_meet 54 = .ok (.iconst 1, 1) := by decide +kernel
theorem dX7_meet_55 : decode cX7_meet 55 = .ok (.ishl, 1) := by decide +kernel
theorem dX7_meet_56 : decode cX7_meet 56 = .ok (.ior, 1) := by decide +kernel
theorem dX7_meet_57 : decode cX7_meet 57 = .ok (.iload_n 2, 1) := by decide +kernel
theorem dX7_meet_58 : decode cX7_meet 58 = .ok (.iconst 1, 1) := by decide +kernel
theorem dX7_meet_59 : decode cX7_meet 59 = .ok (.ishr, 1) := by decide +kernel
theorem dX7_meet_60 : decode cX7_meet 60 = .ok (.ior, 1) := by decide +kernel
theorem dX7_meet_61 : decode cX7_meet 61 = .ok (.iconst 1, 1) := by decide +kernel
theorem dX7_meet_62 : decode cX7_meet 62 = .ok (.aload_n 0, 1) := by decide +kernel
theorem dX7_meet_63 : decode cX7_meet 63 = .ok (.getfield 19, 3) := by decide +kernel
theorem dX7_meet_66 : decode cX7_meet 66 = .ok (.iconst 2, 1) := by decide +kernel
theorem dX7_meet_67 : decode cX7_meet 67 = .ok (.iaload, 1) := by decide +kernel
theorem dX7_meet_68 : decode cX7_meet 68 = .ok (.ishl, 1) := by decide +kernel
theorem dX7_meet_69 : decode cX7_meet 69 = .ok (.iconst 1, 1) := by decide +kernel
theorem dX7_meet_70 : decode cX7_meet 70 = .ok (.isub, 1) := by decide +kernel
theorem dX7_meet_71 : decode cX7_meet 71 = .ok (.iand, 1) := by decide +kernel
theorem dX7_meet_72 : decode cX7_meet 72 = .ok (.istore_n 2, 1) := by decide +kernel
theorem dX7_meet_73 : decode cX7_meet 73 = .ok (.aload_n 0, 1) := by decide +kernel
theorem dX7_meet_74 : decode cX7_meet 74 = .ok (.getfield 25, 3) := by decide +kernel
theorem dX7_meet_77 : decode cX7_meet 77 = .ok (.invokestatic 183, 3) := by decide +kernel
theorem dX7_meet_80 : decode cX7_meet 80 = .ok (.iinc 3 1, 3) := by decide +kernel
theorem dX7_meet_83 : decode cX7_meet 83 = .ok (.goto (-52), 3) := by decide +kernel
theorem dX7_meet_86 : decode cX7_meet 86 = .ok (.ldc 90, 2) := by decide +kernel
theorem dX7_meet_88 : decode cX7_meet 88 = .ok (.ireturn, 1) := by decide +kernel
theorem dX7_site_0 : decode cX7_site 0 = .ok (.aload_n 0, 1) := by decide +kernel
theorem dX7_site_1 : decode cX7_site 1 = .ok (.iconst 0, 1) := by decide +kernel
theorem dX7_site_2 : decode cX7_site 2 = .ok (.putfield 47, 3) := by decide +kernel
theorem dX7_site_5 : decode cX7_site 5 = .ok (.aload_n 0, 1) := by decide +kernel
theorem dX7_site_6 : decode cX7_site 6 = .ok (.invokevirtual 187, 3) := by decide +kernel
theorem dX7_site_9 : decode cX7_site 9 = .ok (.ifCond .ne 6, 3) := by decide +kernel
theorem dX7_site_12 : decode cX7_site 12 = .ok (.ldc 190, 2) := by decide +kernel
theorem dX7_site_14 : decode cX7_site 14 = .ok (.ireturn, 1) := by decide +kernel
theorem dX7_site_15 : decode cX7_site 15 = .ok (.iload_n 1, 1) := by decide +kernel
theorem dX7_site_16 : decode cX7_site 16 = .ok (.i2l, 1) := by decide +kernel
theorem dX7_site_17 : decode cX7_site 17 = .ok (.lconst 1, 1) := by decide +kernel
theorem dX7_site_18 : decode cX7_site 18 = .ok (.ldc2_w 240, 3) := by decide +kernel
theorem dX7_site_21 : decode cX7_site 21 = .ok (.invokestatic 57, 3) := by decide +kernel
theorem dX7_site_24 : decode cX7_site 24 = .ok (.ifCond .eq 13, 3) := by decide +kernel
theorem dX7_site_27 : decode cX7_site 27 = .ok (.iload_n 2, 1) := by decide +kernel
theorem dX7_site_28 : decode cX7_site 28 = .ok (.i2l, 1) := by decide +kernel
theorem dX7_site_29 : decode cX7_site 29 = .ok (.lconst 0, 1) := by decide +kernel
theorem dX7_site_30 : decode cX7_site 30 = .ok (.lconst 1, 1) := by decide +kernel
theorem dX7_site_31 : decode cX7_site 31 = .ok (.invokestatic 57, 3) := by decide +kernel
theorem dX7_site_34 : decode cX7_site 34 = .ok (.ifCond .ne 6, 3) := by decide +kernel
theorem dX7_site_37 : decode cX7_site 37 = .ok (.ldc 67, 2) := by decide +kernel
theorem dX7_site_39 : decode cX7_site 39 = .ok (.ireturn, 1) := by decide +kernel
theorem dX7_site_40 : decode cX7_site 40 = .ok (.iconst (-1), 1) := by decide +kernel
theorem dX7_site_41 : decode cX7_site 41 = .ok (.istore_n 3, 1) := by decide +kernel
theorem dX7_site_42 : decode cX7_site 42 = .ok (.iconst 0, 1) := by decide +kernel
theorem dX7_site_43 : decode cX7_site 43 = .ok (.istore 4, 2) := by decide +kernel
theorem dX7_site_45 : decode cX7_site 45 = .ok (.iconst 0, 1) := by decide +kernel
theorem dX7_site_46 : decode cX7_site 46 = .ok (.istore 5, 2) := by decide +kernel
theorem dX7_site_48 : decode cX7_site 48 = .ok (.iload 5, 2) := by decide +kernel
theorem dX7_site_50 : decode cX7_site 50 = .ok (.aload_n 0, 1) := by decide +kernel
theorem dX7_site_51 : decode cX7_site 51 = .ok (.getfield 19, 3) := by decide +kernel
theorem dX7_site_54 : decode cX7_site 54 = .ok (.iconst 2, 1) := by decide +kernel
theorem dX7_site_55 : decode cX7_site 55 = .ok (.iaload, 1) := by decide +kernel
theorem dX7_site_56 : decode cX7_site 56 = .ok (.if_icmp .ge 54, 3) := by decide +kernel
theorem dX7_site_59 : decode cX7_site 59 = .ok (.aload_n 0, 1) := by decide +kernel
theorem dX7_site_60 : decode cX7_site 60 = .ok (.invokevirtual 231, 3) := by decide +kernel
theorem dX7_site_63 : decode cX7_site 63 = .ok (.aload_n 0, 1) := by decide +kernel
theorem dX7_site_64 : decode cX7_site 64 = .ok (.getfield 25, 3) := by decide +kernel
theorem dX7_site_67 : decode cX7_site 67 = .ok (.iconst 3, 1) := by decide +kernel
theorem dX7_site_68 : decode cX7_site 68 = .ok (.iload 5, 2) := by decide +kernel
theorem dX7_site_70 : decode cX7_site 70 = .ok (.iastore, 1) := by decide +kernel
theorem dX7_site_71 : decode cX7_site 71 = .ok (.aload_n 0, 1) := by decide +kernel
theorem dX7_site_72 : decode cX7_site 72 = .ok (.getfield 25, 3) := by decide +kernel
theorem dX7_site_75 : decode cX7_site 75 = .ok (.iload_n 1, 1) := by decide +kernel
theorem dX7_site_76 : decode cX7_site 76 = .ok (.invokestatic 234, 3) := by decide +kernel
theorem dX7_site_79 : decode cX7_site 79 = .ok (.aload_n 0, 1) := by decide +kernel
theorem dX7_site_80 : decode cX7_site 80 = .ok (.getfield 25, 3) := by decide +kernel
theorem dX7_site_83 : decode cX7_site 83 = .ok (.invokestatic 196, 3) := by decide +kernel
theorem dX7_site_86 : decode cX7_site 86 = .ok (.invokestatic 199, 3) := by decide +kernel
theorem dX7_site_89 : decode cX7_site 89 = .ok (.istore 6, 2) := by decide +kernel
theorem dX7_site_91 : decode cX7_site 91 = .ok (.iload 6, 2) := by decide +kernel
theorem dX7_site_93 : decode cX7_site 93 = .ok (.iload_n 3, 1) := by decide +kernel
theorem dX7_site_94 : decode cX7_site 94 = .ok (.if_icmp .le 10, 3) := by decide +kernel
theorem dX7_site_97 : decode cX7_site 97 = .ok (.iload 6, 2) := by decide +kernel
theorem dX7_site_99 : decode cX7_site 99 = .ok (.istore_n 3, 1) := by decide +kernel
theorem dX7_site_100 : decode cX7_site 100 = .ok (.iload 5, 2) := by decide +kernel
theorem dX7_site_102 : decode cX7_site 102 = .ok (.istore 4, 2) := by decide +kernel
theorem dX7_site_104 : decode cX7_site 104 = .ok (.iinc 5 1, 3) := by decide +kernel
theorem dX7_site_107 : decode cX7_site 107 = .ok (.goto (-59), 3) := by decide +kernel
theorem dX7_site_110 : decode cX7_site 110 = .ok (.iload_n 2, 1) := by decide +kernel
theorem dX7_site_111 : decode cX7_site 111 = .ok (.ifCond .ne 8, 3) := by decide +kernel
theorem dX7_site_114 : decode cX7_site 114 = .ok (.iload 4, 2) := by decide +kernel
theorem dX7_site_116 : decode cX7_site 116 = .ok (.goto 4, 3) := by decide +kernel
theorem dX7_site_119 : decode cX7_site 119 = .ok (.iload_n 3, 1) := by decide +kernel
theorem dX7_site_120 : decode cX7_site 120 = .ok (.ireturn, 1) := by decide +kernel
theorem dX7_numberedBy_0 : decode cX7_numberedBy 0 = .ok (.aload_n 0, 1) := by decide +kernel
theorem dX7_numberedBy_1 : decode cX7_numberedBy 1 = .ok (.invokevirtual 231, 3) := by decide +kernel
theorem dX7_numberedBy_4 : decode cX7_numberedBy 4 = .ok (.aload_n 0, 1) := by decide +kernel
theorem dX7_numberedBy_5 : decode cX7_numberedBy 5 = .ok (.getfield 25, 3) := by decide +kernel
theorem dX7_numberedBy_8 : decode cX7_numberedBy 8 = .ok (.iconst 5, 1) := by decide +kernel
theorem dX7_numberedBy_9 : decode cX7_numberedBy 9 = .ok (.iload_n 1, 1) := by decide +kernel
theorem dX7_numberedBy_10 : decode cX7_numberedBy 10 = .ok (.iastore, 1) := by decide +kernel
theorem dX7_numberedBy_11 : decode cX7_numberedBy 11 = .ok (.aload_n 0, 1) := by decide +kernel
theorem dX7_numberedBy_12 : decode cX7_numberedBy 12 = .ok (.getfield 25, 3) := by decide +kernel
theorem dX7_numberedBy_15 : decode cX7_numberedBy 15 = .ok (.iload_n 2, 1) := by decide +kernel
theorem dX7_numberedBy_16 : decode cX7_numberedBy 16 = .ok (.invokestatic 234, 3) := by decide +kernel
theorem dX7_numberedBy_19 : decode cX7_numberedBy 19 = .ok (.aload_n 0, 1) := by decide +kernel
theorem dX7_numberedBy_20 : decode cX7_numberedBy 20 = .ok (.getfield 25, 3) := by decide +kernel
theorem dX7_numberedBy_23 : decode cX7_numberedBy 23 = .ok (.invokestatic 196, 3) := by decide +kernel
theorem dX7_numberedBy_26 : decode cX7_numberedBy 26 = .ok (.invokestatic 199, 3) := by decide +kernel
theorem dX7_numberedBy_29 : decode cX7_numberedBy 29 = .ok (.ireturn, 1) := by decide +kernel
theorem dX7_waking_0 : decode cX7_waking 0 = .ok (.aload_n 0, 1) := by decide +kernel
theorem dX7_waking_1 : decode cX7_waking 1 = .ok (.iconst 0, 1) := by decide +kernel
theorem dX7_waking_2 : decode cX7_waking 2 = .ok (.putfield 47, 3) := by decide +kernel
theorem dX7_waking_5 : decode cX7_waking 5 = .ok (.aload_n 0, 1) := by decide +kernel
theorem dX7_waking_6 : decode cX7_waking 6 = .ok (.invokevirtual 187, 3) := by decide +kernel
theorem dX7_waking_9 : decode cX7_waking 9 = .ok (.ifCond .ne 6, 3) := by decide +kernel
theorem dX7_waking_12 : decode cX7_waking 12 = .ok (.ldc 190, 2) := by decide +kernel
theorem dX7_waking_14 : decode cX7_waking 14 = .ok (.ireturn, 1) := by decide +kernel
theorem dX7_waking_15 : decode cX7_waking 15 = .ok (.iload_n 1, 1) := by decide +kernel
theorem dX7_waking_16 : decode cX7_waking 16 = .ok (.i2l, 1) := by decide +kernel
theorem dX7_waking_17 : decode cX7_waking 17 = .ok (.lconst 1, 1) := by decide +kernel
theorem dX7_waking_18 : decode cX7_waking 18 = .ok (.ldc2_w 240, 3) := by decide +kernel
theorem dX7_waking_21 : decode cX7_waking 21 = .ok (.invokestatic 57, 3) := by decide +kernel
theorem dX7_waking_24 : decode cX7_waking 24 = .ok (.ifCond .eq 13, 3) := by decide +kernel
theorem dX7_waking_27 : decode cX7_waking 27 = .ok (.iload_n 2, 1) := by decide +kernel
theorem dX7_waking_28 : decode cX7_waking 28 = .ok (.i2l, 1) := by decide +kernel
theorem dX7_waking_29 : decode cX7_waking 29 = .ok (.lconst 0, 1) := by decide +kernel
theorem dX7_waking_30 : decode cX7_waking 30 = .ok (.lconst 1, 1) := by decide +kernel
theorem dX7_waking_31 : decode cX7_waking 31 = .ok (.invokestatic 57, 3) := by decide +kernel
theorem dX7_waking_34 : decode cX7_waking 34 = .ok (.ifCond .ne 6, 3) := by decide +kernel
theorem dX7_waking_37 : decode cX7_waking 37 = .ok (.ldc 67, 2) := by decide +kernel
theorem dX7_waking_39 : decode cX7_waking 39 = .ok (.ireturn, 1) := by decide +kernel
theorem dX7_waking_40 : decode cX7_waking 40 = .ok (.aload_n 0, 1) := by decide +kernel
theorem dX7_waking_41 : decode cX7_waking 41 = .ok (.bipush 15, 2) := by decide +kernel
theorem dX7_waking_43 : decode cX7_waking 43 = .ok (.iload_n 1, 1) := by decide +kernel
theorem dX7_waking_44 : decode cX7_waking 44 = .ok (.invokevirtual 242, 3) := by decide +kernel
theorem dX7_waking_47 : decode cX7_waking 47 = .ok (.istore_n 3, 1) := by decide +kernel
theorem dX7_waking_48 : decode cX7_waking 48 = .ok (.bipush 15, 2) := by decide +kernel
theorem dX7_waking_50 : decode cX7_waking 50 = .ok (.istore 4, 2) := by decide +kernel
theorem dX7_waking_52 : decode cX7_waking 52 = .ok (.bipush 14, 2) := by decide +kernel
theorem dX7_waking_54 : decode cX7_waking 54 = .ok (.istore 5, 2) := by decide +kernel
theorem dX7_waking_56 : decode cX7_waking 56 = .ok (.iload 5, 2) := by decide +kernel
theorem dX7_waking_58 : decode cX7_waking 58 = .ok (.ifCond .lt 37, 3) := by decide +kernel
theorem dX7_waking_61 : decode cX7_waking 61 = .ok (.iload 5, 2) := by decide +kernel
theorem dX7_waking_63 : decode cX7_waking 63 = .ok (.invokestatic 199, 3) := by decide +kernel
theorem dX7_waking_66 : decode cX7_waking 66 = .ok (.iload 4, 2) := by decide +kernel
theorem dX7_waking_68 : decode cX7_waking 68 = .ok (.invokestatic 199, 3) := by decide +kernel
theorem dX7_waking_71 : decode cX7_waking 71 = .ok (.if_icmp .gt 18, 3) := by decide +kernel
theorem dX7_waking_74 : decode cX7_waking 74 = .ok (.aload_n 0, 1) := by decide +kernel
theorem dX7_waking_75 : decode cX7_waking 75 = .ok (.iload 5, 2) := by decide +kernel
theorem dX7_waking_77 : decode cX7_waking 77 = .ok (.iload_n 1, 1) := by decide +kernel
theorem dX7_waking_78 : decode cX7_waking 78 = .ok (.invokevirtual 242, 3) := by decide +kernel
theorem dX7_waking_81 : decode cX7_waking 81 = .ok (.iload_n 3, 1) := by decide +kernel
theorem dX7_waking_82 : decode cX7_waking 82 = .ok (.if_icmp .ne 7, 3) := by decide +kernel
theorem dX7_waking_85 : decode cX7_waking 85 = .ok (.iload 5, 2) := by decide +kernel
theorem dX7_waking_87 : decode cX7_waking 87 = .ok (.istore 4, 2) := by decide +kernel
theorem dX7_waking_89 : decode cX7_waking 89 = .ok (.iinc 5 (-1), 3) := by decide +kernel
theorem dX7_waking_92 : decode cX7_waking 92 = .ok (.goto (-36), 3) := by decide +kernel
theorem dX7_waking_95 : decode cX7_waking 95 = .ok (.iload_n 2, 1) := by decide +kernel
theorem dX7_waking_96 : decode cX7_waking 96 = .ok (.ifCond .ne 8, 3) := by decide +kernel
theorem dX7_waking_99 : decode cX7_waking 99 = .ok (.iload 4, 2) := by decide +kernel
theorem dX7_waking_101 : decode cX7_waking 101 = .ok (.goto 8, 3) := by decide +kernel
theorem dX7_waking_104 : decode cX7_waking 104 = .ok (.iload 4, 2) := by decide +kernel
theorem dX7_waking_106 : decode cX7_waking 106 = .ok (.invokestatic 199, 3) := by decide +kernel
theorem dX7_waking_109 : decode cX7_waking 109 = .ok (.ireturn, 1) := by decide +kernel
theorem dX7_meant_0 : decode cX7_meant 0 = .ok (.aload_n 0, 1) := by decide +kernel
theorem dX7_meant_1 : decode cX7_meant 1 = .ok (.iconst 0, 1) := by decide +kernel
theorem dX7_meant_2 : decode cX7_meant 2 = .ok (.putfield 47, 3) := by decide +kernel
theorem dX7_meant_5 : decode cX7_meant 5 = .ok (.aload_n 0, 1) := by decide +kernel
theorem dX7_meant_6 : decode cX7_meant 6 = .ok (.invokevirtual 187, 3) := by decide +kernel
theorem dX7_meant_9 : decode cX7_meant 9 = .ok (.ifCond .ne 6, 3) := by decide +kernel
theorem dX7_meant_12 : decode cX7_meant 12 = .ok (.ldc 190, 2) := by decide +kernel
theorem dX7_meant_14 : decode cX7_meant 14 = .ok (.ireturn, 1) := by decide +kernel
theorem dX7_meant_15 : decode cX7_meant 15 = .ok (.iload_n 1, 1) := by decide +kernel
theorem dX7_meant_16 : decode cX7_meant 16 = .ok (.i2l, 1) := by decide +kernel
theorem dX7_meant_17 : decode cX7_meant 17 = .ok (.lconst 0, 1) := by decide +kernel
theorem dX7_meant_18 : decode cX7_meant 18 = .ok (.ldc2_w 245, 3) := by decide +kernel
theorem dX7_meant_21 : decode cX7_meant 21 = .ok (.invokestatic 57, 3) := by decide +kernel
theorem dX7_meant_24 : decode cX7_meant 24 = .ok (.ifCond .eq 15, 3) := by decide +kernel
theorem dX7_meant_27 : decode cX7_meant 27 = .ok (.iload_n 2, 1) := by decide +kernel
theorem dX7_meant_28 : decode cX7_meant 28 = .ok (.i2l, 1) := by decide +kernel
theorem dX7_meant_29 : decode cX7_meant 29 = .ok (.lconst 0, 1) := by decide +kernel
theorem dX7_meant_30 : decode cX7_meant 30 = .ok (.ldc2_w 65, 3) := by decide +kernel
theorem dX7_meant_33 : decode cX7_meant 33 = .ok (.invokestatic 57, 3) := by decide +kernel
theorem dX7_meant_36 : decode cX7_meant 36 = .ok (.ifCond .ne 6, 3) := by decide +kernel
theorem dX7_meant_39 : decode cX7_meant 39 = .ok (.ldc 67, 2) := by decide +kernel
theorem dX7_meant_41 : decode cX7_meant 41 = .ok (.ireturn, 1) := by decide +kernel
theorem dX7_meant_42 : decode cX7_meant 42 = .ok (.iconst 0, 1) := by decide +kernel
theorem dX7_meant_43 : decode cX7_meant 43 = .ok (.istore_n 3, 1) := by decide +kernel
theorem dX7_meant_44 : decode cX7_meant 44 = .ok (.iconst 0, 1) := by decide +kernel
theorem dX7_meant_45 : decode cX7_meant 45 = .ok (.istore 4, 2) := by decide +kernel
theorem dX7_meant_47 : decode cX7_meant 47 = .ok (.iconst 0, 1) := by decide +kernel
theorem dX7_meant_48 : decode cX7_meant 48 = .ok (.istore 5, 2) := by decide +kernel
theorem dX7_meant_50 : decode cX7_meant 50 = .ok (.iconst 0, 1) := by decide +kernel
theorem dX7_meant_51 : decode cX7_meant 51 = .ok (.istore 6, 2) := by decide +kernel
theorem dX7_meant_53 : decode cX7_meant 53 = .ok (.iload 6, 2) := by decide +kernel
theorem dX7_meant_55 : decode cX7_meant 55 = .ok (.iconst 1, 1) := by decide +kernel
theorem dX7_meant_56 : decode cX7_meant 56 = .ok (.aload_n 0, 1) := by decide +kernel
theorem dX7_meant_57 : decode cX7_meant 57 = .ok (.getfield 19, 3) := by decide +kernel
theorem dX7_meant_60 : decode cX7_meant 60 = .ok (.iconst 0, 1) := by decide +kernel
theorem dX7_meant_61 : decode cX7_meant 61 = .ok (.iaload, 1) := by decide +kernel
theorem dX7_meant_62 : decode cX7_meant 62 = .ok (.ishl, 1) := by decide +kernel
theorem dX7_meant_63 : decode cX7_meant 63 = .ok (.if_icmp .ge 108, 3) := by decide +kernel
theorem dX7_meant_66 : decode cX7_meant 66 = .ok (.iconst 0, 1) := by decide +kernel
theorem dX7_meant_67 : decode cX7_meant 67 = .ok (.istore 7, 2) := by decide +kernel
theorem dX7_meant_69 : decode cX7_meant 69 = .ok (.iconst 0, 1) := by decide +kernel
theorem dX7_meant_70 : decode cX7_meant 70 = .ok (.istore 8, 2) := by decide +kernel
theorem dX7_meant_72 : decode cX7_meant 72 = .ok (.iload 8, 2) := by decide +kernel
theorem dX7_meant_74 : decode cX7_meant 74 = .ok (.aload_n 0, 1) := by decide +kernel
theorem dX7_meant_75 : decode cX7_meant 75 = .ok (.getfield 19, 3) := by decide +kernel
theorem dX7_meant_78 : decode cX7_meant 78 = .ok (.iconst 0, 1) := by decide +kernel
theorem dX7_meant_79 : decode cX7_meant 79 = .ok (.iaload, 1) := by decide +kernel
theorem dX7_meant_80 : decode cX7_meant 80 = .ok (.if_icmp .ge 38, 3) := by decide +kernel
theorem dX7_meant_83 : decode cX7_meant 83 = .ok (.iload 7, 2) := by decide +kernel
theorem dX7_meant_85 : decode cX7_meant 85 = .ok (.iload 6, 2) := by decide +kernel
theorem dX7_meant_87 : decode cX7_meant 87 = .ok (.iload 8, 2) := by decide +kernel
theorem dX7_meant_89 : decode cX7_meant 89 = .ok (.invokestatic 175, 3) := by decide +kernel
theorem dX7_meant_92 : decode cX7_meant 92 = .ok (.ifCond .eq 16, 3) := by decide +kernel
theorem dX7_meant_95 : decode cX7_meant 95 = .ok (.aload_n 0, 1) := by decide +kernel
theorem dX7_meant_96 : decode cX7_meant 96 = .ok (.getfield 19, 3) := by decide +kernel
theorem dX7_meant_99 : decode cX7_meant 99 = .ok (.iload 8, 2) := by decide +kernel
theorem dX7_meant_101 : decode cX7_meant 101 = .ok (.iconst 3, 1) := by decide +kernel
theorem dX7_meant_102 : decode cX7_meant 102 = .ok (.invokestatic 152, 3) := by decide +kernel
theorem dX7_meant_105 : decode cX7_meant 105 = .ok (.goto 4, 3) := by decide +kernel
theorem dX7_meant_108 : decode cX7_meant 108 = .ok (.iconst 0, 1) := by decide +kernel
theorem dX7_meant_109 : decode cX7_meant 109 = .ok (.iadd, 1) := by decide +kernel
theorem dX7_meant_110 : decode cX7_meant 110 = .ok (.istore 7, 2) := by decide +kernel
theorem dX7_meant_112 : decode cX7_meant 112 = .ok (.iinc 8 1, 3) := by decide +kernel
theorem dX7_meant_115 : decode cX7_meant 115 = .ok (.goto (-43), 3) := by decide +kernel
theorem dX7_meant_118 : decode cX7_meant 118 = .ok (.iload 6, 2) := by decide +kernel
theorem dX7_meant_120 : decode cX7_meant 120 = .ok (.aload_n 0, 1) := by decide +kernel
theorem dX7_meant_121 : decode cX7_meant 121 = .ok (.getfield 19, 3) := by decide +kernel
theorem dX7_meant_124 : decode cX7_meant 124 = .ok (.invokestatic 220, 3) := by decide +kernel
theorem dX7_meant_127 : decode cX7_meant 127 = .ok (.iconst (-1), 1) := by decide +kernel
theorem dX7_meant_128 : decode cX7_meant 128 = .ok (.ixor, 1) := by decide +kernel
theorem dX7_meant_129 : decode cX7_meant 129 = .ok (.iand, 1) := by decide +kernel
theorem dX7_meant_130 : decode cX7_meant 130 = .ok (.ifCond .ne 35, 3) := by decide +kernel
theorem dX7_meant_133 : decode cX7_meant 133 = .ok (.iload 7, 2) := by decide +kernel
theorem dX7_meant_135 : decode cX7_meant 135 = .ok (.iload_n 1, 1) := by decide +kernel
theorem dX7_meant_136 : decode cX7_meant 136 = .ok (.if_icmp .ne 29, 3) := by decide +kernel
theorem dX7_meant_139 : decode cX7_meant 139 = .ok (.iload_n 3, 1) := by decide +kernel
theorem dX7_meant_140 : decode cX7_meant 140 = .ok (.ifCond .ne 8, 3) := by decide +kernel
theorem dX7_meant_143 : decode cX7_meant 143 = .ok (.iload 6, 2) := by decide +kernel
theorem dX7_meant_145 : decode cX7_meant 145 = .ok (.goto 8, 3) := by decide +kernel
theorem dX7_meant_148 : decode cX7_meant 148 = .ok (.iload 4, 2) := by decide +kernel
theorem dX7_meant_150 : decode cX7_meant 150 = .ok (.iload 6, 2) := by decide +kernel
theorem dX7_meant_152 : decode cX7_meant 152 = .ok (.iand, 1) := by decide +kernel
theorem dX7_meant_153 : decode cX7_meant 153 = .ok (.istore 4, 2) := by decide +kernel
theorem dX7_meant_155 : decode cX7_meant 155 = .ok (.iload 5, 2) := by decide +kernel
theorem dX7_meant_157 : decode cX7_meant 157 = .ok (.iload 6, 2) := by decide +kernel
theorem dX7_meant_159 : decode cX7_meant 159 = .ok (.ior, 1) := by decide +kernel
theorem dX7_meant_160 : decode cX7_meant 160 = .ok (.istore 5, 2) := by decide +kernel
theorem dX7_meant_162 : decode cX7_meant 162 = .ok (.iinc 3 1, 3) := by decide +kernel
theorem dX7_meant_165 : decode cX7_meant 165 = .ok (.iinc 6 1, 3) := by decide +kernel
theorem dX7_meant_168 : decode cX7_meant 168 = .ok (.goto (-115), 3) := by decide +kernel
theorem dX7_meant_171 : decode cX7_meant 171 = .ok (.iload_n 2, 1) := by decide +kernel
theorem dX7_meant_172 : decode cX7_meant 172 = .ok (.ifCond .ne 7, 3) := by decide +kernel
theorem dX7_meant_175 : decode cX7_meant 175 = .ok (.iload_n 3, 1) := by decide +kernel
theorem dX7_meant_176 : decode cX7_meant 176 = .ok (.goto 15, 3) := by decide +kernel
theorem dX7_meant_179 : decode cX7_meant 179 = .ok (.iload_n 2, 1) := by decide +kernel
theorem dX7_meant_180 : decode cX7_meant 180 = .ok (.iconst 1, 1) := by decide +kernel
theorem dX7_meant_181 : decode cX7_meant 181 = .ok (.if_icmp .ne 8, 3) := by decide +kernel
theorem dX7_meant_184 : decode cX7_meant 184 = .ok (.iload 4, 2) := by decide +kernel
theorem dX7_meant_186 : decode cX7_meant 186 = .ok (.goto 5, 3) := by decide +kernel
theorem dX7_meant_189 : decode cX7_meant 189 = .ok (.iload 5, 2) := by decide +kernel
theorem dX7_meant_191 : decode cX7_meant 191 = .ok (.ireturn, 1) := by decide +kernel
theorem dX7_pailsOf_0 : decode cX7_pailsOf 0 = .ok (.aload_n 0, 1) := by decide +kernel
theorem dX7_pailsOf_1 : decode cX7_pailsOf 1 = .ok (.getfield 19, 3) := by decide +kernel
theorem dX7_pailsOf_4 : decode cX7_pailsOf 4 = .ok (.iload_n 1, 1) := by decide +kernel
theorem dX7_pailsOf_5 : decode cX7_pailsOf 5 = .ok (.invokestatic 156, 3) := by decide +kernel
theorem dX7_pailsOf_8 : decode cX7_pailsOf 8 = .ok (.ifCond .eq 25, 3) := by decide +kernel
theorem dX7_pailsOf_11 : decode cX7_pailsOf 11 = .ok (.aload_n 0, 1) := by decide +kernel
theorem dX7_pailsOf_12 : decode cX7_pailsOf 12 = .ok (.getfield 19, 3) := by decide +kernel
theorem dX7_pailsOf_15 : decode cX7_pailsOf 15 = .ok (.iload_n 1, 1) := by decide +kernel
theorem dX7_pailsOf_16 : decode cX7_pailsOf 16 = .ok (.iconst 2, 1) := by decide +kernel
theorem dX7_pailsOf_17 : decode cX7_pailsOf 17 = .ok (.invokestatic 152, 3) := by decide +kernel
theorem dX7_pailsOf_20 : decode cX7_pailsOf 20 = .ok (.aload_n 0, 1) := by decide +kernel
theorem dX7_pailsOf_21 : decode cX7_pailsOf 21 = .ok (.getfield 19, 3) := by decide +kernel
theorem dX7_pailsOf_24 : decode cX7_pailsOf 24 = .ok (.iload_n 1, 1) := by decide +kernel
theorem dX7_pailsOf_25 : decode cX7_pailsOf 25 = .ok (.iconst 3, 1) := by decide +kernel
theorem dX7_pailsOf_26 : decode cX7_pailsOf 26 = .ok (.invokestatic 152, 3) := by decide +kernel
theorem dX7_pailsOf_29 : decode cX7_pailsOf 29 = .ok (.imul, 1) := by decide +kernel
theorem dX7_pailsOf_30 : decode cX7_pailsOf 30 = .ok (.goto 4, 3) := by decide +kernel
theorem dX7_pailsOf_33 : decode cX7_pailsOf 33 = .ok (.iconst 0, 1) := by decide +kernel
theorem dX7_pailsOf_34 : decode cX7_pailsOf 34 = .ok (.ireturn, 1) := by decide +kernel
theorem dX7_share_0 : decode cX7_share 0 = .ok (.aload_n 0, 1) := by decide +kernel
theorem dX7_share_1 : decode cX7_share 1 = .ok (.iconst 0, 1) := by decide +kernel
theorem dX7_share_2 : decode cX7_share 2 = .ok (.putfield 47, 3) := by decide +kernel
theorem dX7_share_5 : decode cX7_share 5 = .ok (.aload_n 0, 1) := by decide +kernel
theorem dX7_share_6 : decode cX7_share 6 = .ok (.iload_n 1, 1) := by decide +kernel
theorem dX7_share_7 : decode cX7_share 7 = .ok (.invokevirtual 212, 3) := by decide +kernel
theorem dX7_share_10 : decode cX7_share 10 = .ok (.ifCond .eq 15, 3) := by decide +kernel
theorem dX7_share_13 : decode cX7_share 13 = .ok (.iload_n 2, 1) := by decide +kernel
theorem dX7_share_14 : decode cX7_share 14 = .ok (.i2l, 1) := by decide +kernel
theorem dX7_share_15 : decode cX7_share 15 = .ok (.lconst 0, 1) := by decide +kernel
theorem dX7_share_16 : decode cX7_share 16 = .ok (.ldc2_w 247, 3) := by decide +kernel
theorem dX7_share_19 : decode cX7_share 19 = .ok (.invokestatic 57, 3) := by decide +kernel
theorem dX7_share_22 : decode cX7_share 22 = .ok (.ifCond .ne 6, 3) := by decide +kernel
theorem dX7_share_25 : decode cX7_share 25 = .ok (.ldc 67, 2) := by decide +kernel
theorem dX7_share_27 : decode cX7_share 27 = .ok (.ireturn, 1) := by decide +kernel
theorem dX7_share_28 : decode cX7_share 28 = .ok (.aload_n 0, 1) := by decide +kernel
theorem dX7_share_29 : decode cX7_share 29 = .ok (.iload_n 1, 1) := by decide +kernel
theorem dX7_share_30 : decode cX7_share 30 = .ok (.invokevirtual 249, 3) := by decide +kernel
theorem dX7_share_33 : decode cX7_share 33 = .ok (.ifCond .ne 5, 3) := by decide +kernel
theorem dX7_share_36 : decode cX7_share 36 = .ok (.iconst 0, 1) := by decide +kernel
theorem dX7_share_37 : decode cX7_share 37 = .ok (.ireturn, 1) := by decide +kernel
theorem dX7_share_38 : decode cX7_share 38 = .ok (.iconst 0, 1) := by decide +kernel
theorem dX7_share_39 : decode cX7_share 39 = .ok (.istore_n 3, 1) := by decide +kernel
theorem dX7_share_40 : decode cX7_share 40 = .ok (.iconst 0, 1) := by decide +kernel
theorem dX7_share_41 : decode cX7_share 41 = .ok (.istore 4, 2) := by decide +kernel
theorem dX7_share_43 : decode cX7_share 43 = .ok (.iload 4, 2) := by decide +kernel
theorem dX7_share_45 : decode cX7_share 45 = .ok (.aload_n 0, 1) := by decide +kernel
theorem dX7_share_46 : decode cX7_share 46 = .ok (.getfield 19, 3) := by decide +kernel
theorem dX7_share_49 : decode cX7_share 49 = .ok (.iconst 0, 1) := by decide +kernel
theorem dX7_share_50 : decode cX7_share 50 = .ok (.iaload, 1) := by decide +kernel
theorem dX7_share_51 : decode cX7_share 51 = .ok (.if_icmp .ge 18, 3) := by decide +kernel
theorem dX7_share_54 : decode cX7_share 54 = .ok (.iload_n 3, 1) := by decide +kernel
theorem dX7_share_55 : decode cX7_share 55 = .ok (.aload_n 0, 1) := by decide +kernel
theorem dX7_share_56 : decode cX7_share 56 = .ok (.iload 4, 2) := by decide +kernel
theorem dX7_share_58 : decode cX7_share 58 = .ok (.invokevirtual 249, 3) := by decide +kernel
theorem dX7_share_61 : decode cX7_share 61 = .ok (.iadd, 1) := by decide +kernel
theorem dX7_share_62 : decode cX7_share 62 = .ok (.istore_n 3, 1) := by decide +kernel
theorem dX7_share_63 : decode cX7_share 63 = .ok (.iinc 4 1, 3) := by decide +kernel
theorem dX7_share_66 : decode cX7_share 66 = .ok (.goto (-23), 3) := by decide +kernel
theorem dX7_share_69 : decode cX7_share 69 = .ok (.iload_n 2, 1) := by decide +kernel
theorem dX7_share_70 : decode cX7_share 70 = .ok (.istore 4, 2) := by decide +kernel
theorem dX7_share_72 : decode cX7_share 72 = .ok (.iconst 0, 1) := by decide +kernel
theorem dX7_share_73 : decode cX7_share 73 = .ok (.istore 5, 2) := by decide +kernel
theorem dX7_share_75 : decode cX7_share 75 = .ok (.iconst 0, 1) := by decide +kernel
theorem dX7_share_76 : decode cX7_share 76 = .ok (.istore 6, 2) := by decide +kernel
theorem dX7_share_78 : decode cX7_share 78 = .ok (.iload 6, 2) := by decide +kernel
theorem dX7_share_80 : decode cX7_share 80 = .ok (.aload_n 0, 1) := by decide +kernel
theorem dX7_share_81 : decode cX7_share 81 = .ok (.getfield 19, 3) := by decide +kernel
theorem dX7_share_84 : decode cX7_share 84 = .ok (.iconst 0, 1) := by decide +kernel
theorem dX7_share_85 : decode cX7_share 85 = .ok (.iaload, 1) := by decide +kernel
theorem dX7_share_86 : decode cX7_share 86 = .ok (.if_icmp .ge 49, 3) := by decide +kernel
theorem dX7_share_89 : decode cX7_share 89 = .ok (.iload 4, 2) := by decide +kernel
theorem dX7_share_91 : decode cX7_share 91 = .ok (.iload_n 2, 1) := by decide +kernel
theorem dX7_share_92 : decode cX7_share 92 = .ok (.aload_n 0, 1) := by decide +kernel
theorem dX7_share_93 : decode cX7_share 93 = .ok (.iload 6, 2) := by decide +kernel
theorem dX7_share_95 : decode cX7_share 95 = .ok (.invokevirtual 249, 3) := by decide +kernel
theorem dX7_share_98 : decode cX7_share 98 = .ok (.imul, 1) := by decide +kernel
theorem dX7_share_99 : decode cX7_share 99 = .ok (.iload_n 3, 1) := by decide +kernel
theorem dX7_share_100 : decode cX7_share 100 = .ok (.idiv, 1) := by decide +kernel
theorem dX7_share_101 : decode cX7_share 101 = .ok (.isub, 1) := by decide +kernel
theorem dX7_share_102 : decode cX7_share 102 = .ok (.istore 4, 2) := by decide +kernel
theorem dX7_share_104 : decode cX7_share 104 = .ok (.iload 5, 2) := by decide +kernel
theorem dX7_share_106 : decode cX7_share 106 = .ok (.iload 6, 2) := by decide +kernel
theorem dX7_share_108 : decode cX7_share 108 = .ok (.iload_n 1, 1) := by decide +kernel
theorem dX7_share_109 : decode cX7_share 109 = .ok (.if_icmp .ge 16, 3) := by decide +kernel
theorem dX7_share_112 : decode cX7_share 112 = .ok (.aload_n 0, 1) := by decide +kernel
theorem dX7_share_113 : decode cX7_share 113 = .ok (.iload 6, 2) := by decide +kernel
theorem dX7_share_115 : decode cX7_share 115 = .ok (.invokevirtual 249, 3) := by decide +kernel
theorem dX7_share_118 : decode cX7_share 118 = .ok (.ifCond .le 7, 3) := by decide +kernel
theorem dX7_share_121 : decode cX7_share 121 = .ok (.iconst 1, 1) := by decide +kernel
theorem dX7_share_122 : decode cX7_share 122 = .ok (.goto 4, 3) := by decide +kernel
theorem dX7_share_125 : decode cX7_share 125 = .ok (.iconst 0, 1) := by decide +kernel
theorem dX7_share_126 : decode cX7_share 126 = .ok (.iadd, 1) := by decide +kernel
theorem dX7_share_127 : decode cX7_share 127 = .ok (.istore 5, 2) := by decide +kernel
theorem dX7_share_129 : decode cX7_share 129 = .ok (.iinc 6 1, 3) := by decide +kernel
theorem dX7_share_132 : decode cX7_share 132 = .ok (.goto (-54), 3) := by decide +kernel
theorem dX7_share_135 : decode cX7_share 135 = .ok (.iload_n 2, 1) := by decide +kernel
theorem dX7_share_136 : decode cX7_share 136 = .ok (.aload_n 0, 1) := by decide +kernel
theorem dX7_share_137 : decode cX7_share 137 = .ok (.iload_n 1, 1) := by decide +kernel
theorem dX7_share_138 : decode cX7_share 138 = .ok (.invokevirtual 249, 3) := by decide +kernel
theorem dX7_share_141 : decode cX7_share 141 = .ok (.imul, 1) := by decide +kernel
theorem dX7_share_142 : decode cX7_share 142 = .ok (.iload_n 3, 1) := by decide +kernel
