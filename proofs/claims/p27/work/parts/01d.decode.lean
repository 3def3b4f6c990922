theorem dL_part_0 : decode cL_part 0 = .ok (.iload_n 1, 1) := by decide +kernel
theorem dL_part_1 : decode cL_part 1 = .ok (.aload_n 0, 1) := by decide +kernel
theorem dL_part_2 : decode cL_part 2 = .ok (.arraylength, 1) := by decide +kernel
theorem dL_part_3 : decode cL_part 3 = .ok (.if_icmp .ge 9, 3) := by decide +kernel
theorem dL_part_6 : decode cL_part 6 = .ok (.aload_n 0, 1) := by decide +kernel
theorem dL_part_7 : decode cL_part 7 = .ok (.iload_n 1, 1) := by decide +kernel
theorem dL_part_8 : decode cL_part 8 = .ok (.iaload, 1) := by decide +kernel
theorem dL_part_9 : decode cL_part 9 = .ok (.goto 16, 3) := by decide +kernel
theorem dL_part_12 : decode cL_part 12 = .ok (.sipush 1061, 3) := by decide +kernel
theorem dL_part_15 : decode cL_part 15 = .ok (.iload_n 1, 1) := by decide +kernel
theorem dL_part_16 : decode cL_part 16 = .ok (.imul, 1) := by decide +kernel
theorem dL_part_17 : decode cL_part 17 = .ok (.sipush 947, 3) := by decide +kernel
theorem dL_part_20 : decode cL_part 20 = .ok (.iload_n 1, 1) := by decide +kernel
theorem dL_part_21 : decode cL_part 21 = .ok (.imul, 1) := by decide +kernel
theorem dL_part_22 : decode cL_part 22 = .ok (.iload_n 1, 1) := by decide +kernel
theorem dL_part_23 : decode cL_part 23 = .ok (.imul, 1) := by decide +kernel
theorem dL_part_24 : decode cL_part 24 = .ok (.iadd, 1) := by decide +kernel
theorem dL_part_25 : decode cL_part 25 = .ok (.istore_n 3, 1) := by decide +kernel
theorem dL_part_26 : decode cL_part 26 = .ok (.iload_n 3, 1) := by decide +kernel
theorem dL_part_27 : decode cL_part 27 = .ok (.ldc 7, 2) := by decide +kernel
theorem dL_part_29 : decode cL_part 29 = .ok (.iand, 1) := by decide +kernel
theorem dL_part_30 : decode cL_part 30 = .ok (.iload_n 2, 1) := by decide +kernel
theorem dL_part_31 : decode cL_part 31 = .ok (.irem, 1) := by decide +kernel
theorem dL_part_32 : decode cL_part 32 = .ok (.ireturn, 1) := by decide +kernel
theorem dL_does_0 : decode cL_does 0 = .ok (.iload_n 1, 1) := by decide +kernel
theorem dL_does_1 : decode cL_does 1 = .ok (.ifCond .ne 18, 3) := by decide +kernel
theorem dL_does_4 : decode cL_does 4 = .ok (.aload_n 0, 1) := by decide +kernel
theorem dL_does_5 : decode cL_does 5 = .ok (.iload_n 2, 1) := by decide +kernel
theorem dL_does_6 : decode cL_does 6 = .ok (.iload_n 3, 1) := by decide +kernel
theorem dL_does_7 : decode cL_does 7 = .ok (.iload 4, 2) := by decide +kernel
theorem dL_does_9 : decode cL_does 9 = .ok (.iload 5, 2) := by decide +kernel
theorem dL_does_11 : decode cL_does 11 = .ok (.iload 6, 2) := by decide +kernel
theorem dL_does_13 : decode cL_does 13 = .ok (.invokevirtual 8, 3) := by decide +kernel
theorem dL_does_16 : decode cL_does 16 = .ok (.goto 209, 3) := by decide +kernel
theorem dL_does_19 : decode cL_does 19 = .ok (.iload_n 1, 1) := by decide +kernel
theorem dL_does_20 : decode cL_does 20 = .ok (.iconst 1, 1) := by decide +kernel
theorem dL_does_21 : decode cL_does 21 = .ok (.if_icmp .ne 14, 3) := by decide +kernel
theorem dL_does_24 : decode cL_does 24 = .ok (.aload_n 0, 1) := by decide +kernel
theorem dL_does_25 : decode cL_does 25 = .ok (.iload_n 2, 1) := by decide +kernel
theorem dL_does_26 : decode cL_does 26 = .ok (.iload_n 3, 1) := by decide +kernel
theorem dL_does_27 : decode cL_does 27 = .ok (.iload 4, 2) := by decide +kernel
theorem dL_does_29 : decode cL_does 29 = .ok (.invokevirtual 14, 3) := by decide +kernel
theorem dL_does_32 : decode cL_does 32 = .ok (.goto 193, 3) := by decide +kernel
theorem dL_does_35 : decode cL_does 35 = .ok (.iload_n 1, 1) := by decide +kernel
theorem dL_does_36 : decode cL_does 36 = .ok (.iconst 2, 1) := by decide +kernel
theorem dL_does_37 : decode cL_does 37 = .ok (.if_icmp .ne 14, 3) := by decide +kernel
theorem dL_does_40 : decode cL_does 40 = .ok (.aload_n 0, 1) := by decide +kernel
theorem dL_does_41 : decode cL_does 41 = .ok (.iload_n 2, 1) := by decide +kernel
theorem dL_does_42 : decode cL_does 42 = .ok (.iload_n 3, 1) := by decide +kernel
theorem dL_does_43 : decode cL_does 43 = .ok (.iload 4, 2) := by decide +kernel
theorem dL_does_45 : decode cL_does 45 = .ok (.invokevirtual 18, 3) := by decide +kernel
theorem dL_does_48 : decode cL_does 48 = .ok (.goto 177, 3) := by decide +kernel
theorem dL_does_51 : decode cL_does 51 = .ok (.iload_n 1, 1) := by decide +kernel
theorem dL_does_52 : decode cL_does 52 = .ok (.iconst 3, 1) := by decide +kernel
theorem dL_does_53 : decode cL_does 53 = .ok (.if_icmp .ne 11, 3) := by decide +kernel
theorem dL_does_56 : decode cL_does 56 = .ok (.aload_n 0, 1) := by decide +kernel
theorem dL_does_57 : decode cL_does 57 = .ok (.iload_n 2, 1) := by decide +kernel
theorem dL_does_58 : decode cL_does 58 = .ok (.invokevirtual 21, 3) := by decide +kernel
theorem dL_does_61 : decode cL_does 61 = .ok (.goto 164, 3) := by decide +kernel
theorem dL_does_64 : decode cL_does 64 = .ok (.iload_n 1, 1) := by decide +kernel
theorem dL_does_65 : decode cL_does 65 = .ok (.iconst 4, 1) := by decide +kernel
theorem dL_does_66 : decode cL_does 66 = .ok (.if_icmp .ne 18, 3) := by decide +kernel
theorem dL_does_69 : decode cL_does 69 = .ok (.aload_n 0, 1) := by decide +kernel
theorem dL_does_70 : decode cL_does 70 = .ok (.iload_n 2, 1) := by decide +kernel
theorem dL_does_71 : decode cL_does 71 = .ok (.iload_n 3, 1) := by decide +kernel
theorem dL_does_72 : decode cL_does 72 = .ok (.iload 4, 2) := by decide +kernel
theorem dL_does_74 : decode cL_does 74 = .ok (.iload 5, 2) := by decide +kernel
theorem dL_does_76 : decode cL_does 76 = .ok (.iload 6, 2) := by decide +kernel
theorem dL_does_78 : decode cL_does 78 = .ok (.invokevirtual 25, 3) := by decide +kernel
theorem dL_does_81 : decode cL_does 81 = .ok (.goto 144, 3) := by decide +kernel
theorem dL_does_84 : decode cL_does 84 = .ok (.iload_n 1, 1) := by decide +kernel
theorem dL_does_85 : decode cL_does 85 = .ok (.iconst 5, 1) := by decide +kernel
theorem dL_does_86 : decode cL_does 86 = .ok (.if_icmp .ne 14, 3) := by decide +kernel
theorem dL_does_89 : decode cL_does 89 = .ok (.aload_n 0, 1) := by decide +kernel
theorem dL_does_90 : decode cL_does 90 = .ok (.iload_n 2, 1) := by decide +kernel
theorem dL_does_91 : decode cL_does 91 = .ok (.iload_n 3, 1) := by decide +kernel
theorem dL_does_92 : decode cL_does 92 = .ok (.iload 4, 2) := by decide +kernel
theorem dL_does_94 : decode cL_does 94 = .ok (.invokevirtual 28, 3) := by decide +kernel
theorem dL_does_97 : decode cL_does 97 = .ok (.goto 128, 3) := by decide +kernel
theorem dL_does_100 : decode cL_does 100 = .ok (.iload_n 1, 1) := by decide +kernel
theorem dL_does_101 : decode cL_does 101 = .ok (.bipush 6, 2) := by decide +kernel
theorem dL_does_103 : decode cL_does 103 = .ok (.if_icmp .ne 10, 3) := by decide +kernel
theorem dL_does_106 : decode cL_does 106 = .ok (.aload_n 0, 1) := by decide +kernel
theorem dL_does_107 : decode cL_does 107 = .ok (.invokevirtual 31, 3) := by decide +kernel
theorem dL_does_110 : decode cL_does 110 = .ok (.goto 115, 3) := by decide +kernel
theorem dL_does_113 : decode cL_does 113 = .ok (.iload_n 1, 1) := by decide +kernel
theorem dL_does_114 : decode cL_does 114 = .ok (.bipush 7, 2) := by decide +kernel
theorem dL_does_116 : decode cL_does 116 = .ok (.if_icmp .ne 11, 3) := by decide +kernel
theorem dL_does_119 : decode cL_does 119 = .ok (.aload_n 0, 1) := by decide +kernel
theorem dL_does_120 : decode cL_does 120 = .ok (.iload_n 2, 1) := by decide +kernel
theorem dL_does_121 : decode cL_does 121 = .ok (.invokevirtual 35, 3) := by decide +kernel
theorem dL_does_124 : decode cL_does 124 = .ok (.goto 101, 3) := by decide +kernel
theorem dL_does_127 : decode cL_does 127 = .ok (.iload_n 1, 1) := by decide +kernel
theorem dL_does_128 : decode cL_does 128 = .ok (.bipush 8, 2) := by decide +kernel
theorem dL_does_130 : decode cL_does 130 = .ok (.if_icmp .ne 14, 3) := by decide +kernel
theorem dL_does_133 : decode cL_does 133 = .ok (.aload_n 0, 1) := by decide +kernel
theorem dL_does_134 : decode cL_does 134 = .ok (.iload_n 2, 1) := by decide +kernel
theorem dL_does_135 : decode cL_does 135 = .ok (.iload_n 3, 1) := by decide +kernel
theorem dL_does_136 : decode cL_does 136 = .ok (.iload 4, 2) := by decide +kernel
theorem dL_does_138 : decode cL_does 138 = .ok (.invokevirtual 38, 3) := by decide +kernel
theorem dL_does_141 : decode cL_does 141 = .ok (.goto 84, 3) := by decide +kernel
theorem dL_does_144 : decode cL_does 144 = .ok (.iload_n 1, 1) := by decide +kernel
theorem dL_does_145 : decode cL_does 145 = .ok (.bipush 9, 2) := by decide +kernel
theorem dL_does_147 : decode cL_does 147 = .ok (.if_icmp .ne 12, 3) := by decide +kernel
theorem dL_does_150 : decode cL_does 150 = .ok (.aload_n 0, 1) := by decide +kernel
theorem dL_does_151 : decode cL_does 151 = .ok (.iload_n 2, 1) := by decide +kernel
theorem dL_does_152 : decode cL_does 152 = .ok (.iload_n 3, 1) := by decide +kernel
theorem dL_does_153 : decode cL_does 153 = .ok (.invokevirtual 41, 3) := by decide +kernel
theorem dL_does_156 : decode cL_does 156 = .ok (.goto 69, 3) := by decide +kernel
theorem dL_does_159 : decode cL_does 159 = .ok (.iload_n 1, 1) := by decide +kernel
theorem dL_does_160 : decode cL_does 160 = .ok (.bipush 10, 2) := by decide +kernel
theorem dL_does_162 : decode cL_does 162 = .ok (.if_icmp .ne 11, 3) := by decide +kernel
theorem dL_does_165 : decode cL_does 165 = .ok (.aload_n 0, 1) := by decide +kernel
theorem dL_does_166 : decode cL_does 166 = .ok (.iload_n 2, 1) := by decide +kernel
theorem dL_does_167 : decode cL_does 167 = .ok (.invokevirtual 45, 3) := by decide +kernel
theorem dL_does_170 : decode cL_does 170 = .ok (.goto 55, 3) := by decide +kernel
theorem dL_does_173 : decode cL_does 173 = .ok (.iload_n 1, 1) := by decide +kernel
theorem dL_does_174 : decode cL_does 174 = .ok (.bipush 11, 2) := by decide +kernel
theorem dL_does_176 : decode cL_does 176 = .ok (.if_icmp .ne 11, 3) := by decide +kernel
theorem dL_does_179 : decode cL_does 179 = .ok (.aload_n 0, 1) := by decide +kernel
theorem dL_does_180 : decode cL_does 180 = .ok (.iload_n 2, 1) := by decide +kernel
theorem dL_does_181 : decode cL_does 181 = .ok (.invokevirtual 48, 3) := by decide +kernel
theorem dL_does_184 : decode cL_does 184 = .ok (.goto 41, 3) := by decide +kernel
theorem dL_does_187 : decode cL_does 187 = .ok (.iload_n 1, 1) := by decide +kernel
theorem dL_does_188 : decode cL_does 188 = .ok (.bipush 12, 2) := by decide +kernel
theorem dL_does_190 : decode cL_does 190 = .ok (.if_icmp .ne 12, 3) := by decide +kernel
theorem dL_does_193 : decode cL_does 193 = .ok (.aload_n 0, 1) := by decide +kernel
theorem dL_does_194 : decode cL_does 194 = .ok (.iload_n 2, 1) := by decide +kernel
theorem dL_does_195 : decode cL_does 195 = .ok (.iload_n 3, 1) := by decide +kernel
theorem dL_does_196 : decode cL_does 196 = .ok (.invokevirtual 51, 3) := by decide +kernel
theorem dL_does_199 : decode cL_does 199 = .ok (.goto 26, 3) := by decide +kernel
theorem dL_does_202 : decode cL_does 202 = .ok (.iload_n 1, 1) := by decide +kernel
theorem dL_does_203 : decode cL_does 203 = .ok (.bipush 13, 2) := by decide +kernel
theorem dL_does_205 : decode cL_does 205 = .ok (.if_icmp .ne 14, 3) := by decide +kernel
theorem dL_does_208 : decode cL_does 208 = .ok (.aload_n 0, 1) := by decide +kernel
theorem dL_does_209 : decode cL_does 209 = .ok (.iload_n 2, 1) := by decide +kernel
theorem dL_does_210 : decode cL_does 210 = .ok (.iload_n 3, 1) := by decide +kernel
theorem dL_does_211 : decode cL_does 211 = .ok (.iload 4, 2) := by decide +kernel
theorem dL_does_213 : decode cL_does 213 = .ok (.invokevirtual 54, 3) := by decide +kernel
theorem dL_does_216 : decode cL_does 216 = .ok (.goto 9, 3) := by decide +kernel
theorem dL_does_219 : decode cL_does 219 = .ok (.aload_n 0, 1) := by decide +kernel
theorem dL_does_220 : decode cL_does 220 = .ok (.iload_n 2, 1) := by decide +kernel
theorem dL_does_221 : decode cL_does 221 = .ok (.iload_n 3, 1) := by decide +kernel
theorem dL_does_222 : decode cL_does 222 = .ok (.invokevirtual 57, 3) := by decide +kernel
theorem dL_does_225 : decode cL_does 225 = .ok (.ireturn, 1) := by decide +kernel
theorem dL_does_226 : decode cL_does 226 = .ok (.astore 7, 2) := by decide +kernel
theorem dL_does_228 : decode cL_does 228 = .ok (.ldc 62, 2) := by decide +kernel
theorem dL_does_230 : decode cL_does 230 = .ok (.ireturn, 1) := by decide +kernel
theorem dL_does_231 : decode cL_does 231 = .ok (.astore 7, 2) := by decide +kernel
theorem dL_does_233 : decode cL_does 233 = .ok (.ldc 65, 2) := by decide +kernel
theorem dL_does_235 : decode cL_does 235 = .ok (.ireturn, 1) := by decide +kernel
theorem dL_does_236 : decode cL_does 236 = .ok (.astore 7, 2) := by decide +kernel
theorem dL_does_238 : decode cL_does 238 = .ok (.ldc 68, 2) := by decide +kernel
theorem dL_does_240 : decode cL_does 240 = .ok (.ireturn, 1) := by decide +kernel
theorem dL_four_0 : decode cL_four 0 = .ok (.aload_n 0, 1) := by decide +kernel
theorem dL_four_1 : decode cL_four 1 = .ok (.iload_n 1, 1) := by decide +kernel
theorem dL_four_2 : decode cL_four 2 = .ok (.bipush 16, 2) := by decide +kernel
theorem dL_four_4 : decode cL_four 4 = .ok (.idiv, 1) := by decide +kernel
theorem dL_four_5 : decode cL_four 5 = .ok (.laload, 1) := by decide +kernel
theorem dL_four_6 : decode cL_four 6 = .ok (.iconst 4, 1) := by decide +kernel
theorem dL_four_7 : decode cL_four 7 = .ok (.iload_n 1, 1) := by decide +kernel
theorem dL_four_8 : decode cL_four 8 = .ok (.bipush 16, 2) := by decide +kernel
theorem dL_four_10 : decode cL_four 10 = .ok (.irem, 1) := by decide +kernel
theorem dL_four_11 : decode cL_four 11 = .ok (.imul, 1) := by decide +kernel
theorem dL_four_12 : decode cL_four 12 = .ok (.lushr, 1) := by decide +kernel
theorem dL_four_13 : decode cL_four 13 = .ok (.ldc2_w 69, 3) := by decide +kernel
theorem dL_four_16 : decode cL_four 16 = .ok (.land, 1) := by decide +kernel
theorem dL_four_17 : decode cL_four 17 = .ok (.l2i, 1) := by decide +kernel
theorem dL_four_18 : decode cL_four 18 = .ok (.ireturn, 1) := by decide +kernel
theorem dL_sets_0 : decode cL_sets 0 = .ok (.aload_n 0, 1) := by decide +kernel
theorem dL_sets_1 : decode cL_sets 1 = .ok (.iload_n 1, 1) := by decide +kernel
theorem dL_sets_2 : decode cL_sets 2 = .ok (.bipush 16, 2) := by decide +kernel
theorem dL_sets_4 : decode cL_sets 4 = .ok (.idiv, 1) := by decide +kernel
theorem dL_sets_5 : decode cL_sets 5 = .ok (.dup2, 1) := by decide +kernel
theorem dL_sets_6 : decode cL_sets 6 = .ok (.laload, 1) := by decide +kernel
theorem dL_sets_7 : decode cL_sets 7 = .ok (.ldc2_w 69, 3) := by decide +kernel
theorem dL_sets_10 : decode cL_sets 10 = .ok (.iconst 4, 1) := by decide +kernel
theorem dL_sets_11 : decode cL_sets 11 = .ok (.iload_n 1, 1) := by decide +kernel
theorem dL_sets_12 : decode cL_sets 12 = .ok (.bipush 16, 2) := by decide +kernel
theorem dL_sets_14 : decode cL_sets 14 = .ok (.irem, 1) := by decide +kernel
theorem dL_sets_15 : decode cL_sets 15 = .ok (.imul, 1) := by decide +kernel
theorem dL_sets_16 : decode cL_sets 16 = .ok (.lshl, 1) := by decide +kernel
theorem dL_sets_17 : decode cL_sets 17 = .ok (.ldc2_w 71, 3) := by decide +kernel
theorem dL_sets_20 : decode cL_sets 20 = .ok (.lxor, 1) := by decide +kernel
theorem dL_sets_21 : decode cL_sets 21 = .ok (.land, 1) := by decide +kernel
theorem dL_sets_22 : decode cL_sets 22 = .ok (.lastore, 1) := by decide +kernel
theorem dL_sets_23 : decode cL_sets 23 = .ok (.aload_n 0, 1) := by decide +kernel
theorem dL_sets_24 : decode cL_sets 24 = .ok (.iload_n 1, 1) := by decide +kernel
theorem dL_sets_25 : decode cL_sets 25 = .ok (.bipush 16, 2) := by decide +kernel
theorem dL_sets_27 : decode cL_sets 27 = .ok (.idiv, 1) := by decide +kernel
theorem dL_sets_28 : decode cL_sets 28 = .ok (.dup2, 1) := by decide +kernel
theorem dL_sets_29 : decode cL_sets 29 = .ok (.laload, 1) := by decide +kernel
theorem dL_sets_30 : decode cL_sets 30 = .ok (.iload_n 2, 1) := by decide +kernel
theorem dL_sets_31 : decode cL_sets 31 = .ok (.i2l, 1) := by decide +kernel
theorem dL_sets_32 : decode cL_sets 32 = .ok (.iconst 4, 1) := by decide +kernel
theorem dL_sets_33 : decode cL_sets 33 = .ok (.iload_n 1, 1) := by decide +kernel
theorem dL_sets_34 : decode cL_sets 34 = .ok (.bipush 16, 2) := by decide +kernel
theorem dL_sets_36 : decode cL_sets 36 = .ok (.irem, 1) := by decide +kernel
theorem dL_sets_37 : decode cL_sets 37 = .ok (.imul, 1) := by decide +kernel
theorem dL_sets_38 : decode cL_sets 38 = .ok (.lshl, 1) := by decide +kernel
theorem dL_sets_39 : decode cL_sets 39 = .ok (.lor, 1) := by decide +kernel
theorem dL_sets_40 : decode cL_sets 40 = .ok (.lastore, 1) := by decide +kernel
theorem dL_sets_41 : decode cL_sets 41 = .ok (.return_, 1) := by decide +kernel
theorem dL_firm_0 : decode cL_firm 0 = .ok (.aload_n 0, 1) := by decide +kernel
theorem dL_firm_1 : decode cL_firm 1 = .ok (.iload_n 1, 1) := by decide +kernel
theorem dL_firm_2 : decode cL_firm 2 = .ok (.bipush 8, 2) := by decide +kernel
theorem dL_firm_4 : decode cL_firm 4 = .ok (.idiv, 1) := by decide +kernel
theorem dL_firm_5 : decode cL_firm 5 = .ok (.laload, 1) := by decide +kernel
theorem dL_firm_6 : decode cL_firm 6 = .ok (.bipush 8, 2) := by decide +kernel
theorem dL_firm_8 : decode cL_firm 8 = .ok (.iload_n 1, 1) := by decide +kernel
theorem dL_firm_9 : decode cL_firm 9 = .ok (.bipush 8, 2) := by decide +kernel
theorem dL_firm_11 : decode cL_firm 11 = .ok (.irem, 1) := by decide +kernel
theorem dL_firm_12 : decode cL_firm 12 = .ok (.imul, 1) := by decide +kernel
theorem dL_firm_13 : decode cL_firm 13 = .ok (.lushr, 1) := by decide +kernel
theorem dL_firm_14 : decode cL_firm 14 = .ok (.ldc2_w 73, 3) := by decide +kernel
theorem dL_firm_17 : decode cL_firm 17 = .ok (.land, 1) := by decide +kernel
theorem dL_firm_18 : decode cL_firm 18 = .ok (.l2i, 1) := by decide +kernel
theorem dL_firm_19 : decode cL_firm 19 = .ok (.ireturn, 1) := by decide +kernel
theorem dL_hipX_0 : decode cL_hipX 0 = .ok (.aload_n 1, 1) := by decide +kernel
theorem dL_hipX_1 : decode cL_hipX 1 = .ok (.iconst 1, 1) := by decide +kernel
theorem dL_hipX_2 : decode cL_hipX 2 = .ok (.iaload, 1) := by decide +kernel
theorem dL_hipX_3 : decode cL_hipX 3 = .ok (.aload_n 0, 1) := by decide +kernel
theorem dL_hipX_4 : decode cL_hipX 4 = .ok (.iload_n 2, 1) := by decide +kernel
theorem dL_hipX_5 : decode cL_hipX 5 = .ok (.iaload, 1) := by decide +kernel
theorem dL_hipX_6 : decode cL_hipX 6 = .ok (.bipush 11, 2) := by decide +kernel
theorem dL_hipX_8 : decode cL_hipX 8 = .ok (.irem, 1) := by decide +kernel
theorem dL_hipX_9 : decode cL_hipX 9 = .ok (.iadd, 1) := by decide +kernel
theorem dL_hipX_10 : decode cL_hipX 10 = .ok (.iconst 5, 1) := by decide +kernel
theorem dL_hipX_11 : decode cL_hipX 11 = .ok (.isub, 1) := by decide +kernel
theorem dL_hipX_12 : decode cL_hipX 12 = .ok (.ireturn, 1) := by decide +kernel
theorem dL_hipY_0 : decode cL_hipY 0 = .ok (.aload_n 1, 1) := by decide +kernel
theorem dL_hipY_1 : decode cL_hipY 1 = .ok (.iconst 2, 1) := by decide +kernel
theorem dL_hipY_2 : decode cL_hipY 2 = .ok (.iaload, 1) := by decide +kernel
theorem dL_hipY_3 : decode cL_hipY 3 = .ok (.aload_n 0, 1) := by decide +kernel
theorem dL_hipY_4 : decode cL_hipY 4 = .ok (.iload_n 2, 1) := by decide +kernel
theorem dL_hipY_5 : decode cL_hipY 5 = .ok (.iaload, 1) := by decide +kernel
theorem dL_hipY_6 : decode cL_hipY 6 = .ok (.bipush 11, 2) := by decide +kernel
theorem dL_hipY_8 : decode cL_hipY 8 = .ok (.idiv, 1) := by decide +kernel
theorem dL_hipY_9 : decode cL_hipY 9 = .ok (.bipush 11, 2) := by decide +kernel
theorem dL_hipY_11 : decode cL_hipY 11 = .ok (.irem, 1) := by decide +kernel
theorem dL_hipY_12 : decode cL_hipY 12 = .ok (.iadd, 1) := by decide +kernel
theorem dL_hipY_13 : decode cL_hipY 13 = .ok (.iconst 5, 1) := by decide +kernel
theorem dL_hipY_14 : decode cL_hipY 14 = .ok (.isub, 1) := by decide +kernel
theorem dL_hipY_15 : decode cL_hipY 15 = .ok (.ireturn, 1) := by decide +kernel
theorem dL_isIn_0 : decode cL_isIn 0 = .ok (.iload_n 0, 1) := by decide +kernel
theorem dL_isIn_1 : decode cL_isIn 1 = .ok (.ifCond .lt 23, 3) := by decide +kernel
theorem dL_isIn_4 : decode cL_isIn 4 = .ok (.iload_n 1, 1) := by decide +kernel
theorem dL_isIn_5 : decode cL_isIn 5 = .ok (.ifCond .lt 19, 3) := by decide +kernel
theorem dL_isIn_8 : decode cL_isIn 8 = .ok (.iload_n 0, 1) := by decide +kernel
theorem dL_isIn_9 : decode cL_isIn 9 = .ok (.bipush 20, 2) := by decide +kernel
theorem dL_isIn_11 : decode cL_isIn 11 = .ok (.if_icmp .ge 13, 3) := by decide +kernel
theorem dL_isIn_14 : decode cL_isIn 14 = .ok (.iload_n 1, 1) := by decide +kernel
theorem dL_isIn_15 : decode cL_isIn 15 = .ok (.bipush 20, 2) := by decide +kernel
theorem dL_isIn_17 : decode cL_isIn 17 = .ok (.if_icmp .ge 7, 3) := by decide +kernel
theorem dL_isIn_20 : decode cL_isIn 20 = .ok (.iconst 1, 1) := by decide +kernel
theorem dL_isIn_21 : decode cL_isIn 21 = .ok (.goto 4, 3) := by decide +kernel
theorem dL_isIn_24 : decode cL_isIn 24 = .ok (.iconst 0, 1) := by decide +kernel
theorem dL_isIn_25 : decode cL_isIn 25 = .ok (.ireturn, 1) := by decide +kernel
theorem dL_isNear_0 : decode cL_isNear 0 = .ok (.iload_n 3, 1) := by decide +kernel
theorem dL_isNear_1 : decode cL_isNear 1 = .ok (.aload_n 0, 1) := by decide +kernel
theorem dL_isNear_2 : decode cL_isNear 2 = .ok (.aload_n 1, 1) := by decide +kernel
theorem dL_isNear_3 : decode cL_isNear 3 = .ok (.iload_n 2, 1) := by decide +kernel
theorem dL_isNear_4 : decode cL_isNear 4 = .ok (.invokestatic 75, 3) := by decide +kernel
theorem dL_isNear_7 : decode cL_isNear 7 = .ok (.isub, 1) := by decide +kernel
theorem dL_isNear_8 : decode cL_isNear 8 = .ok (.istore 5, 2) := by decide +kernel
theorem dL_isNear_10 : decode cL_isNear 10 = .ok (.iload 4, 2) := by decide +kernel
theorem dL_isNear_12 : decode cL_isNear 12 = .ok (.aload_n 0, 1) := by decide +kernel
theorem dL_isNear_13 : decode cL_isNear 13 = .ok (.aload_n 1, 1) := by decide +kernel
theorem dL_isNear_14 : decode cL_isNear 14 = .ok (.iload_n 2, 1) := by decide +kernel
theorem dL_isNear_15 : decode cL_isNear 15 = .ok (.invokestatic 81, 3) := by decide +kernel
theorem dL_isNear_18 : decode cL_isNear 18 = .ok (.isub, 1) := by decide +kernel
theorem dL_isNear_19 : decode cL_isNear 19 = .ok (.istore 6, 2) := by decide +kernel
theorem dL_isNear_21 : decode cL_isNear 21 = .ok (.iload 5, 2) := by decide +kernel
theorem dL_isNear_23 : decode cL_isNear 23 = .ok (.iload 5, 2) := by decide +kernel
theorem dL_isNear_25 : decode cL_isNear 25 = .ok (.imul, 1) := by decide +kernel
theorem dL_isNear_26 : decode cL_isNear 26 = .ok (.iload 6, 2) := by decide +kernel
theorem dL_isNear_28 : decode cL_isNear 28 = .ok (.iload 6, 2) := by decide +kernel
theorem dL_isNear_30 : decode cL_isNear 30 = .ok (.imul, 1) := by decide +kernel
theorem dL_isNear_31 : decode cL_isNear 31 = .ok (.iadd, 1) := by decide +kernel
theorem dL_isNear_32 : decode cL_isNear 32 = .ok (.aload_n 0, 1) := by decide +kernel
theorem dL_isNear_33 : decode cL_isNear 33 = .ok (.iload_n 2, 1) := by decide +kernel
theorem dL_isNear_34 : decode cL_isNear 34 = .ok (.iaload, 1) := by decide +kernel
theorem dL_isNear_35 : decode cL_isNear 35 = .ok (.bipush 121, 2) := by decide +kernel
theorem dL_isNear_37 : decode cL_isNear 37 = .ok (.idiv, 1) := by decide +kernel
theorem dL_isNear_38 : decode cL_isNear 38 = .ok (.aload_n 0, 1) := by decide +kernel
theorem dL_isNear_39 : decode cL_isNear 39 = .ok (.iload_n 2, 1) := by decide +kernel
theorem dL_isNear_40 : decode cL_isNear 40 = .ok (.iaload, 1) := by decide +kernel
theorem dL_isNear_41 : decode cL_isNear 41 = .ok (.bipush 121, 2) := by decide +kernel
theorem dL_isNear_43 : decode cL_isNear 43 = .ok (.idiv, 1) := by decide +kernel
theorem dL_isNear_44 : decode cL_isNear 44 = .ok (.imul, 1) := by decide +kernel
theorem dL_isNear_45 : decode cL_isNear 45 = .ok (.if_icmp .gt 7, 3) := by decide +kernel
theorem dL_isNear_48 : decode cL_isNear 48 = .ok (.iconst 1, 1) := by decide +kernel
theorem dL_isNear_49 : decode cL_isNear 49 = .ok (.goto 4, 3) := by decide +kernel
theorem dL_isNear_52 : decode cL_isNear 52 = .ok (.iconst 0, 1) := by decide +kernel
theorem dL_isNear_53 : decode cL_isNear 53 = .ok (.ireturn, 1) := by decide +kernel
theorem dL_far_0 : decode cL_far 0 = .ok (.iload_n 3, 1) := by decide +kernel
theorem dL_far_1 : decode cL_far 1 = .ok (.aload_n 0, 1) := by decide +kernel
theorem dL_far_2 : decode cL_far 2 = .ok (.aload_n 1, 1) := by decide +kernel
theorem dL_far_3 : decode cL_far 3 = .ok (.iload_n 2, 1) := by decide +kernel
theorem dL_far_4 : decode cL_far 4 = .ok (.invokestatic 75, 3) := by decide +kernel
theorem dL_far_7 : decode cL_far 7 = .ok (.isub, 1) := by decide +kernel
theorem dL_far_8 : decode cL_far 8 = .ok (.istore 5, 2) := by decide +kernel
theorem dL_far_10 : decode cL_far 10 = .ok (.iload 4, 2) := by decide +kernel
theorem dL_far_12 : decode cL_far 12 = .ok (.aload_n 0, 1) := by decide +kernel
theorem dL_far_13 : decode cL_far 13 = .ok (.aload_n 1, 1) := by decide +kernel
theorem dL_far_14 : decode cL_far 14 = .ok (.iload_n 2, 1) := by decide +kernel
theorem dL_far_15 : decode cL_far 15 = .ok (.invokestatic 81, 3) := by decide +kernel
theorem dL_far_18 : decode cL_far 18 = .ok (.isub, 1) := by decide +kernel
theorem dL_far_19 : decode cL_far 19 = .ok (.istore 6, 2) := by decide +kernel
theorem dL_far_21 : decode cL_far 21 = .ok (.iload 5, 2) := by decide +kernel
theorem dL_far_23 : decode cL_far 23 = .ok (.ifCond .ge 9, 3) := by decide +kernel
theorem dL_far_26 : decode cL_far 26 = .ok (.iload 5, 2) := by decide +kernel
theorem dL_far_28 : decode cL_far 28 = .ok (.ineg, 1) := by decide +kernel
theorem dL_far_29 : decode cL_far 29 = .ok (.goto 5, 3) := by decide +kernel
theorem dL_far_32 : decode cL_far 32 = .ok (.iload 5, 2) := by decide +kernel
theorem dL_far_34 : decode cL_far 34 = .ok (.iload 6, 2) := by decide +kernel
theorem dL_far_36 : decode cL_far 36 = .ok (.ifCond .ge 9, 3) := by decide +kernel
theorem dL_far_39 : decode cL_far 39 = .ok (.iload 6, 2) := by decide +kernel
theorem dL_far_41 : decode cL_far 41 = .ok (.ineg, 1) := by decide +kernel
theorem dL_far_42 : decode cL_far 42 = .ok (.goto 5, 3) := by decide +kernel
theorem dL_far_45 : decode cL_far 45 = .ok (.iload 6, 2) := by decide +kernel
theorem dL_far_47 : decode cL_far 47 = .ok (.iadd, 1) := by decide +kernel
theorem dL_far_48 : decode cL_far 48 = .ok (.ireturn, 1) := by decide +kernel
theorem dL_isTaken_0 : decode cL_isTaken 0 = .ok (.iconst 0, 1) := by decide +kernel
theorem dL_isTaken_1 : decode cL_isTaken 1 = .ok (.istore 5, 2) := by decide +kernel
theorem dL_isTaken_3 : decode cL_isTaken 3 = .ok (.iconst 0, 1) := by decide +kernel
theorem dL_isTaken_4 : decode cL_isTaken 4 = .ok (.istore 6, 2) := by decide +kernel
theorem dL_isTaken_6 : decode cL_isTaken 6 = .ok (.iload 6, 2) := by decide +kernel
theorem dL_isTaken_8 : decode cL_isTaken 8 = .ok (.bipush 6, 2) := by decide +kernel
theorem dL_isTaken_10 : decode cL_isTaken 10 = .ok (.if_icmp .ge 48, 3) := by decide +kernel
theorem dL_isTaken_13 : decode cL_isTaken 13 = .ok (.iload 5, 2) := by decide +kernel
theorem dL_isTaken_15 : decode cL_isTaken 15 = .ok (.ifCond .ne 30, 3) := by decide +kernel
theorem dL_isTaken_18 : decode cL_isTaken 18 = .ok (.iload_n 2, 1) := by decide +kernel
theorem dL_isTaken_19 : decode cL_isTaken 19 = .ok (.iload 6, 2) := by decide +kernel
theorem dL_isTaken_21 : decode cL_isTaken 21 = .ok (.ishr, 1) := by decide +kernel
theorem dL_isTaken_22 : decode cL_isTaken 22 = .ok (.iconst 1, 1) := by decide +kernel
theorem dL_isTaken_23 : decode cL_isTaken 23 = .ok (.iand, 1) := by decide +kernel
theorem dL_isTaken_24 : decode cL_isTaken 24 = .ok (.iconst 1, 1) := by decide +kernel
theorem dL_isTaken_25 : decode cL_isTaken 25 = .ok (.if_icmp .ne 24, 3) := by decide +kernel
theorem dL_isTaken_28 : decode cL_isTaken 28 = .ok (.aload_n 0, 1) := by decide +kernel
theorem dL_isTaken_29 : decode cL_isTaken 29 = .ok (.iload 6, 2) := by decide +kernel
theorem dL_isTaken_31 : decode cL_isTaken 31 = .ok (.iaload, 1) := by decide +kernel
theorem dL_isTaken_32 : decode cL_isTaken 32 = .ok (.iload_n 3, 1) := by decide +kernel
theorem dL_isTaken_33 : decode cL_isTaken 33 = .ok (.if_icmp .ne 16, 3) := by decide +kernel
theorem dL_isTaken_36 : decode cL_isTaken 36 = .ok (.aload_n 1, 1) := by decide +kernel
theorem dL_isTaken_37 : decode cL_isTaken 37 = .ok (.iload 6, 2) := by decide +kernel
theorem dL_isTaken_39 : decode cL_isTaken 39 = .ok (.iaload, 1) := by decide +kernel
theorem dL_isTaken_40 : decode cL_isTaken 40 = .ok (.iload 4, 2) := by decide +kernel
theorem dL_isTaken_42 : decode cL_isTaken 42 = .ok (.if_icmp .ne 7, 3) := by decide +kernel
theorem dL_isTaken_45 : decode cL_isTaken 45 = .ok (.iconst 1, 1) := by decide +kernel
theorem dL_isTaken_46 : decode cL_isTaken 46 = .ok (.goto 4, 3) := by decide +kernel
theorem dL_isTaken_49 : decode cL_isTaken 49 = .ok (.iconst 0, 1) := by decide +kernel
theorem dL_isTaken_50 : decode cL_isTaken 50 = .ok (.istore 5, 2) := by decide +kernel
theorem dL_isTaken_52 : decode cL_isTaken 52 = .ok (.iinc 6 1, 3) := by decide +kernel
theorem dL_isTaken_55 : decode cL_isTaken 55 = .ok (.goto (-49), 3) := by decide +kernel
theorem dL_isTaken_58 : decode cL_isTaken 58 = .ok (.iload 5, 2) := by decide +kernel
theorem dL_isTaken_60 : decode cL_isTaken 60 = .ok (.ireturn, 1) := by decide +kernel
theorem dL_holds_0 : decode cL_holds 0 = .ok (.bipush 10, 2) := by decide +kernel
theorem dL_holds_2 : decode cL_holds 2 = .ok (.aload_n 2, 1) := by decide +kernel
theorem dL_holds_3 : decode cL_holds 3 = .ok (.iconst 4, 1) := by decide +kernel
theorem dL_holds_4 : decode cL_holds 4 = .ok (.iaload, 1) := by decide +kernel
theorem dL_holds_5 : decode cL_holds 5 = .ok (.iadd, 1) := by decide +kernel
theorem dL_holds_6 : decode cL_holds 6 = .ok (.istore 4, 2) := by decide +kernel
theorem dL_holds_8 : decode cL_holds 8 = .ok (.iload 4, 2) := by decide +kernel
theorem dL_holds_10 : decode cL_holds 10 = .ok (.aload_n 2, 1) := by decide +kernel
theorem dL_holds_11 : decode cL_holds 11 = .ok (.iconst 1, 1) := by decide +kernel
theorem dL_holds_12 : decode cL_holds 12 = .ok (.iaload, 1) := by decide +kernel
theorem dL_holds_13 : decode cL_holds 13 = .ok (.imul, 1) := by decide +kernel
theorem dL_holds_14 : decode cL_holds 14 = .ok (.aload_n 2, 1) := by decide +kernel
theorem dL_holds_15 : decode cL_holds 15 = .ok (.iconst 4, 1) := by decide +kernel
theorem dL_holds_16 : decode cL_holds 16 = .ok (.iaload, 1) := by decide +kernel
theorem dL_holds_17 : decode cL_holds 17 = .ok (.aload_n 2, 1) := by decide +kernel
theorem dL_holds_18 : decode cL_holds 18 = .ok (.iconst 5, 1) := by decide +kernel
theorem dL_holds_19 : decode cL_holds 19 = .ok (.iaload, 1) := by decide +kernel
theorem dL_holds_20 : decode cL_holds 20 = .ok (.imul, 1) := by decide +kernel
theorem dL_holds_21 : decode cL_holds 21 = .ok (.iadd, 1) := by decide +kernel
theorem dL_holds_22 : decode cL_holds 22 = .ok (.istore 5, 2) := by decide +kernel
theorem dL_holds_24 : decode cL_holds 24 = .ok (.iload 4, 2) := by decide +kernel
theorem dL_holds_26 : decode cL_holds 26 = .ok (.aload_n 2, 1) := by decide +kernel
theorem dL_holds_27 : decode cL_holds 27 = .ok (.iconst 2, 1) := by decide +kernel
theorem dL_holds_28 : decode cL_holds 28 = .ok (.iaload, 1) := by decide +kernel
theorem dL_holds_29 : decode cL_holds 29 = .ok (.imul, 1) := by decide +kernel
theorem dL_holds_30 : decode cL_holds 30 = .ok (.aload_n 2, 1) := by decide +kernel
theorem dL_holds_31 : decode cL_holds 31 = .ok (.iconst 4, 1) := by decide +kernel
theorem dL_holds_32 : decode cL_holds 32 = .ok (.iaload, 1) := by decide +kernel
theorem dL_holds_33 : decode cL_holds 33 = .ok (.aload_n 2, 1) := by decide +kernel
theorem dL_holds_34 : decode cL_holds 34 = .ok (.bipush 6, 2) := by decide +kernel
theorem dL_holds_36 : decode cL_holds 36 = .ok (.iaload, 1) := by decide +kernel
theorem dL_holds_37 : decode cL_holds 37 = .ok (.imul, 1) := by decide +kernel
theorem dL_holds_38 : decode cL_holds 38 = .ok (.iadd, 1) := by decide +kernel
theorem dL_holds_39 : decode cL_holds 39 = .ok (.istore 6, 2) := by decide +kernel
theorem dL_holds_41 : decode cL_holds 41 = .ok (.iconst 0, 1) := by decide +kernel
theorem dL_holds_42 : decode cL_holds 42 = .ok (.istore 7, 2) := by decide +kernel
theorem dL_holds_44 : decode cL_holds 44 = .ok (.iload 7, 2) := by decide +kernel
theorem dL_holds_46 : decode cL_holds 46 = .ok (.bipush 6, 2) := by decide +kernel
theorem dL_holds_48 : decode cL_holds 48 = .ok (.if_icmp .ge 299, 3) := by decide +kernel
theorem dL_holds_51 : decode cL_holds 51 = .ok (.iload 7, 2) := by decide +kernel
theorem dL_holds_53 : decode cL_holds 53 = .ok (.istore 8, 2) := by decide +kernel
theorem dL_holds_55 : decode cL_holds 55 = .ok (.iload 8, 2) := by decide +kernel
theorem dL_holds_57 : decode cL_holds 57 = .ok (.bipush 6, 2) := by decide +kernel
theorem dL_holds_59 : decode cL_holds 59 = .ok (.if_icmp .ge 282, 3) := by decide +kernel
theorem dL_holds_62 : decode cL_holds 62 = .ok (.iload 8, 2) := by decide +kernel
theorem dL_holds_64 : decode cL_holds 64 = .ok (.istore 9, 2) := by decide +kernel
theorem dL_holds_66 : decode cL_holds 66 = .ok (.iload 9, 2) := by decide +kernel
theorem dL_holds_68 : decode cL_holds 68 = .ok (.bipush 6, 2) := by decide +kernel
theorem dL_holds_70 : decode cL_holds 70 = .ok (.if_icmp .ge 265, 3) := by decide +kernel
theorem dL_holds_73 : decode cL_holds 73 = .ok (.iload_n 3, 1) := by decide +kernel
theorem dL_holds_74 : decode cL_holds 74 = .ok (.iload 7, 2) := by decide +kernel
theorem dL_holds_76 : decode cL_holds 76 = .ok (.ishr, 1) := by decide +kernel
theorem dL_holds_77 : decode cL_holds 77 = .ok (.iload_n 3, 1) := by decide +kernel
theorem dL_holds_78 : decode cL_holds 78 = .ok (.iload 8, 2) := by decide +kernel
theorem dL_holds_80 : decode cL_holds 80 = .ok (.ishr, 1) := by decide +kernel
theorem dL_holds_81 : decode cL_holds 81 = .ok (.iand, 1) := by decide +kernel
theorem dL_holds_82 : decode cL_holds 82 = .ok (.iload_n 3, 1) := by decide +kernel
theorem dL_holds_83 : decode cL_holds 83 = .ok (.iload 9, 2) := by decide +kernel
theorem dL_holds_85 : decode cL_holds 85 = .ok (.ishr, 1) := by decide +kernel
theorem dL_holds_86 : decode cL_holds 86 = .ok (.iand, 1) := by decide +kernel
theorem dL_holds_87 : decode cL_holds 87 = .ok (.iconst 1, 1) := by decide +kernel
theorem dL_holds_88 : decode cL_holds 88 = .ok (.iand, 1) := by decide +kernel
theorem dL_holds_89 : decode cL_holds 89 = .ok (.iconst 1, 1) := by decide +kernel
theorem dL_holds_90 : decode cL_holds 90 = .ok (.if_icmp .ne 239, 3) := by decide +kernel
theorem dL_holds_93 : decode cL_holds 93 = .ok (.iload 5, 2) := by decide +kernel
theorem dL_holds_95 : decode cL_holds 95 = .ok (.iload 4, 2) := by decide +kernel
theorem dL_holds_97 : decode cL_holds 97 = .ok (.aload_n 0, 1) := by decide +kernel
theorem dL_holds_98 : decode cL_holds 98 = .ok (.iload 7, 2) := by decide +kernel
theorem dL_holds_100 : decode cL_holds 100 = .ok (.iaload, 1) := by decide +kernel
theorem dL_holds_101 : decode cL_holds 101 = .ok (.imul, 1) := by decide +kernel
theorem dL_holds_102 : decode cL_holds 102 = .ok (.isub, 1) := by decide +kernel
theorem dL_holds_103 : decode cL_holds 103 = .ok (.istore 10, 2) := by decide +kernel
theorem dL_holds_105 : decode cL_holds 105 = .ok (.iload 6, 2) := by decide +kernel
theorem dL_holds_107 : decode cL_holds 107 = .ok (.iload 4, 2) := by decide +kernel
theorem dL_holds_109 : decode cL_holds 109 = .ok (.aload_n 1, 1) := by decide +kernel
theorem dL_holds_110 : decode cL_holds 110 = .ok (.iload 7, 2) := by decide +kernel
theorem dL_holds_112 : decode cL_holds 112 = .ok (.iaload, 1) := by decide +kernel
theorem dL_holds_113 : decode cL_holds 113 = .ok (.imul, 1) := by decide +kernel
theorem dL_holds_114 : decode cL_holds 114 = .ok (.isub, 1) := by decide +kernel
theorem dL_holds_115 : decode cL_holds 115 = .ok (.istore 11, 2) := by decide +kernel
theorem dL_holds_117 : decode cL_holds 117 = .ok (.iload 5, 2) := by decide +kernel
theorem dL_holds_119 : decode cL_holds 119 = .ok (.iload 4, 2) := by decide +kernel
theorem dL_holds_121 : decode cL_holds 121 = .ok (.aload_n 0, 1) := by decide +kernel
theorem dL_holds_122 : decode cL_holds 122 = .ok (.iload 8, 2) := by decide +kernel
theorem dL_holds_124 : decode cL_holds 124 = .ok (.iaload, 1) := by decide +kernel
theorem dL_holds_125 : decode cL_holds 125 = .ok (.imul, 1) := by decide +kernel
theorem dL_holds_126 : decode cL_holds 126 = .ok (.isub, 1) := by decide +kernel
theorem dL_holds_127 : decode cL_holds 127 = .ok (.istore 12, 2) := by decide +kernel
theorem dL_holds_129 : decode cL_holds 129 = .ok (.iload 6, 2) := by decide +kernel
theorem dL_holds_131 : decode cL_holds 131 = .ok (.iload 4, 2) := by decide +kernel
theorem dL_holds_133 : decode cL_holds 133 = .ok (.aload_n 1, 1) := by decide +kernel
theorem dL_holds_134 : decode cL_holds 134 = .ok (.iload 8, 2) := by decide +kernel
theorem dL_holds_136 : decode cL_holds 136 = .ok (.iaload, 1) := by decide +kernel
theorem dL_holds_137 : decode cL_holds 137 = .ok (.imul, 1) := by decide +kernel
theorem dL_holds_138 : decode cL_holds 138 = .ok (.isub, 1) := by decide +kernel
theorem dL_holds_139 : decode cL_holds 139 = .ok (.istore 13, 2) := by decide +kernel
theorem dL_holds_141 : decode cL_holds 141 = .ok (.iload 5, 2) := by decide +kernel
theorem dL_holds_143 : decode cL_holds 143 = .ok (.iload 4, 2) := by decide +kernel
theorem dL_holds_145 : decode cL_holds 145 = .ok (.aload_n 0, 1) := by decide +kernel
theorem dL_holds_146 : decode cL_holds 146 = .ok (.iload 9, 2) := by decide +kernel
theorem dL_holds_148 : decode cL_holds 148 = .ok (.iaload, 1) := by decide +kernel
theorem dL_holds_149 : decode cL_holds 149 = .ok (.imul, 1) := by decide +kernel
theorem dL_holds_150 : decode cL_holds 150 = .ok (.isub, 1) := by decide +kernel
theorem dL_holds_151 : decode cL_holds 151 = .ok (.istore 14, 2) := by decide +kernel
theorem dL_holds_153 : decode cL_holds 153 = .ok (.iload 6, 2) := by decide +kernel
theorem dL_holds_155 : decode cL_holds 155 = .ok (.iload 4, 2) := by decide +kernel
theorem dL_holds_157 : decode cL_holds 157 = .ok (.aload_n 1, 1) := by decide +kernel
theorem dL_holds_158 : decode cL_holds 158 = .ok (.iload 9, 2) := by decide +kernel
theorem dL_holds_160 : decode cL_holds 160 = .ok (.iaload, 1) := by decide +kernel
theorem dL_holds_161 : decode cL_holds 161 = .ok (.imul, 1) := by decide +kernel
theorem dL_holds_162 : decode cL_holds 162 = .ok (.isub, 1) := by decide +kernel
theorem dL_holds_163 : decode cL_holds 163 = .ok (.istore 15, 2) := by decide +kernel
theorem dL_holds_165 : decode cL_holds 165 = .ok (.iload 10, 2) := by decide +kernel
theorem dL_holds_167 : decode cL_holds 167 = .ok (.iload 13, 2) := by decide +kernel
theorem dL_holds_169 : decode cL_holds 169 = .ok (.imul, 1) := by decide +kernel
theorem dL_holds_170 : decode cL_holds 170 = .ok (.iload 11, 2) := by decide +kernel
theorem dL_holds_172 : decode cL_holds 172 = .ok (.iload 12, 2) := by decide +kernel
theorem dL_holds_174 : decode cL_holds 174 = .ok (.imul, 1) := by decide +kernel
theorem dL_holds_175 : decode cL_holds 175 = .ok (.isub, 1) := by decide +kernel
theorem dL_holds_176 : decode cL_holds 176 = .ok (.istore 16, 2) := by decide +kernel
theorem dL_holds_178 : decode cL_holds 178 = .ok (.iload 12, 2) := by decide +kernel
theorem dL_holds_180 : decode cL_holds 180 = .ok (.iload 15, 2) := by decide +kernel
theorem dL_holds_182 : decode cL_holds 182 = .ok (.imul, 1) := by decide +kernel
theorem dL_holds_183 : decode cL_holds 183 = .ok (.iload 13, 2) := by decide +kernel
theorem dL_holds_185 : decode cL_holds 185 = .ok (.iload 14, 2) := by decide +kernel
theorem dL_holds_187 : decode cL_holds 187 = .ok (.imul, 1) := by decide +kernel
theorem dL_holds_188 : decode cL_holds 188 = .ok (.isub, 1) := by decide +kernel
theorem dL_holds_189 : decode cL_holds 189 = .ok (.istore 17, 2) := by decide +kernel
theorem dL_holds_191 : decode cL_holds 191 = .ok (.iload 14, 2) := by decide +kernel
theorem dL_holds_193 : decode cL_holds 193 = .ok (.iload 11, 2) := by decide +kernel
theorem dL_holds_195 : decode cL_holds 195 = .ok (.imul, 1) := by decide +kernel
theorem dL_holds_196 : decode cL_holds 196 = .ok (.iload 15, 2) := by decide +kernel
theorem dL_holds_198 : decode cL_holds 198 = .ok (.iload 10, 2) := by decide +kernel
theorem dL_holds_200 : decode cL_holds 200 = .ok (.imul, 1) := by decide +kernel
theorem dL_holds_201 : decode cL_holds 201 = .ok (.isub, 1) := by decide +kernel
theorem dL_holds_202 : decode cL_holds 202 = .ok (.istore 18, 2) := by decide +kernel
theorem dL_holds_204 : decode cL_holds 204 = .ok (.iload 16, 2) := by decide +kernel
theorem dL_holds_206 : decode cL_holds 206 = .ok (.ifCond .lt 13, 3) := by decide +kernel
theorem dL_holds_209 : decode cL_holds 209 = .ok (.iload 17, 2) := by decide +kernel
theorem dL_holds_211 : decode cL_holds 211 = .ok (.ifCond .lt 8, 3) := by decide +kernel
theorem dL_holds_214 : decode cL_holds 214 = .ok (.iload 18, 2) := by decide +kernel
theorem dL_holds_216 : decode cL_holds 216 = .ok (.ifCond .ge 18, 3) := by decide +kernel
theorem dL_holds_219 : decode cL_holds 219 = .ok (.iload 16, 2) := by decide +kernel
theorem dL_holds_221 : decode cL_holds 221 = .ok (.ifCond .gt 17, 3) := by decide +kernel
theorem dL_holds_224 : decode cL_holds 224 = .ok (.iload 17, 2) := by decide +kernel
theorem dL_holds_226 : decode cL_holds 226 = .ok (.ifCond .gt 12, 3) := by decide +kernel
theorem dL_holds_229 : decode cL_holds 229 = .ok (.iload 18, 2) := by decide +kernel
theorem dL_holds_231 : decode cL_holds 231 = .ok (.ifCond .gt 7, 3) := by decide +kernel
theorem dL_holds_234 : decode cL_holds 234 = .ok (.iconst 1, 1) := by decide +kernel
theorem dL_holds_235 : decode cL_holds 235 = .ok (.goto 4, 3) := by decide +kernel
theorem dL_holds_238 : decode cL_holds 238 = .ok (.iconst 0, 1) := by decide +kernel
theorem dL_holds_239 : decode cL_holds 239 = .ok (.istore 19, 2) := by decide +kernel
theorem dL_holds_241 : decode cL_holds 241 = .ok (.iload 16, 2) := by decide +kernel
theorem dL_holds_243 : decode cL_holds 243 = .ok (.ifCond .ne 17, 3) := by decide +kernel
theorem dL_holds_246 : decode cL_holds 246 = .ok (.iload 17, 2) := by decide +kernel
theorem dL_holds_248 : decode cL_holds 248 = .ok (.ifCond .ne 12, 3) := by decide +kernel
theorem dL_holds_251 : decode cL_holds 251 = .ok (.iload 18, 2) := by decide +kernel
theorem dL_holds_253 : decode cL_holds 253 = .ok (.ifCond .ne 7, 3) := by decide +kernel
theorem dL_holds_256 : decode cL_holds 256 = .ok (.iconst 1, 1) := by decide +kernel
theorem dL_holds_257 : decode cL_holds 257 = .ok (.goto 4, 3) := by decide +kernel
theorem dL_holds_260 : decode cL_holds 260 = .ok (.iconst 0, 1) := by decide +kernel
theorem dL_holds_261 : decode cL_holds 261 = .ok (.istore 20, 2) := by decide +kernel
theorem dL_holds_263 : decode cL_holds 263 = .ok (.iload 10, 2) := by decide +kernel
theorem dL_holds_265 : decode cL_holds 265 = .ok (.iload 12, 2) := by decide +kernel
theorem dL_holds_267 : decode cL_holds 267 = .ok (.imul, 1) := by decide +kernel
theorem dL_holds_268 : decode cL_holds 268 = .ok (.iload 11, 2) := by decide +kernel
theorem dL_holds_270 : decode cL_holds 270 = .ok (.iload 13, 2) := by decide +kernel
theorem dL_holds_272 : decode cL_holds 272 = .ok (.imul, 1) := by decide +kernel
theorem dL_holds_273 : decode cL_holds 273 = .ok (.iadd, 1) := by decide +kernel
theorem dL_holds_274 : decode cL_holds 274 = .ok (.ifCond .le 31, 3) := by decide +kernel
theorem dL_holds_277 : decode cL_holds 277 = .ok (.iload 12, 2) := by decide +kernel
theorem dL_holds_279 : decode cL_holds 279 = .ok (.iload 14, 2) := by decide +kernel
theorem dL_holds_281 : decode cL_holds 281 = .ok (.imul, 1) := by decide +kernel
theorem dL_holds_282 : decode cL_holds 282 = .ok (.iload 13, 2) := by decide +kernel
theorem dL_holds_284 : decode cL_holds 284 = .ok (.iload 15, 2) := by decide +kernel
theorem dL_holds_286 : decode cL_holds 286 = .ok (.imul, 1) := by decide +kernel
theorem dL_holds_287 : decode cL_holds 287 = .ok (.iadd, 1) := by decide +kernel
theorem dL_holds_288 : decode cL_holds 288 = .ok (.ifCond .le 17, 3) := by decide +kernel
theorem dL_holds_291 : decode cL_holds 291 = .ok (.iload 10, 2) := by decide +kernel
theorem dL_holds_293 : decode cL_holds 293 = .ok (.iload 14, 2) := by decide +kernel
theorem dL_holds_295 : decode cL_holds 295 = .ok (.imul, 1) := by decide +kernel
theorem dL_holds_296 : decode cL_holds 296 = .ok (.iload 11, 2) := by decide +kernel
theorem dL_holds_298 : decode cL_holds 298 = .ok (.iload 15, 2) := by decide +kernel
theorem dL_holds_300 : decode cL_holds 300 = .ok (.imul, 1) := by decide +kernel
theorem dL_holds_301 : decode cL_holds 301 = .ok (.iadd, 1) := by decide +kernel
theorem dL_holds_302 : decode cL_holds 302 = .ok (.ifCond .gt 7, 3) := by decide +kernel
theorem dL_holds_305 : decode cL_holds 305 = .ok (.iconst 1, 1) := by decide +kernel
theorem dL_holds_306 : decode cL_holds 306 = .ok (.goto 4, 3) := by decide +kernel
theorem dL_holds_309 : decode cL_holds 309 = .ok (.iconst 0, 1) := by decide +kernel
theorem dL_holds_310 : decode cL_holds 310 = .ok (.istore 21, 2) := by decide +kernel
theorem dL_holds_312 : decode cL_holds 312 = .ok (.iload 19, 2) := by decide +kernel
theorem dL_holds_314 : decode cL_holds 314 = .ok (.ifCond .eq 15, 3) := by decide +kernel
theorem dL_holds_317 : decode cL_holds 317 = .ok (.iload 20, 2) := by decide +kernel
theorem dL_holds_319 : decode cL_holds 319 = .ok (.ifCond .eq 8, 3) := by decide +kernel
theorem dL_holds_322 : decode cL_holds 322 = .ok (.iload 21, 2) := by decide +kernel
theorem dL_holds_324 : decode cL_holds 324 = .ok (.ifCond .eq 5, 3) := by decide +kernel
theorem dL_holds_327 : decode cL_holds 327 = .ok (.iconst 1, 1) := by decide +kernel
theorem dL_holds_328 : decode cL_holds 328 = .ok (.ireturn, 1) := by decide +kernel
theorem dL_holds_329 : decode cL_holds 329 = .ok (.iinc 9 1, 3) := by decide +kernel
theorem dL_holds_332 : decode cL_holds 332 = .ok (.goto (-266), 3) := by decide +kernel
theorem dL_holds_335 : decode cL_holds 335 = .ok (.iinc 8 1, 3) := by decide +kernel
theorem dL_holds_338 : decode cL_holds 338 = .ok (.goto (-283), 3) := by decide +kernel
theorem dL_holds_341 : decode cL_holds 341 = .ok (.iinc 7 1, 3) := by decide +kernel
theorem dL_holds_344 : decode cL_holds 344 = .ok (.goto (-300), 3) := by decide +kernel
theorem dL_holds_347 : decode cL_holds 347 = .ok (.iconst 0, 1) := by decide +kernel
theorem dL_holds_348 : decode cL_holds 348 = .ok (.ireturn, 1) := by decide +kernel
theorem dL_many_0 : decode cL_many 0 = .ok (.iconst 0, 1) := by decide +kernel
theorem dL_many_1 : decode cL_many 1 = .ok (.istore_n 1, 1) := by decide +kernel
theorem dL_many_2 : decode cL_many 2 = .ok (.iconst 0, 1) := by decide +kernel
theorem dL_many_3 : decode cL_many 3 = .ok (.istore_n 2, 1) := by decide +kernel
theorem dL_many_4 : decode cL_many 4 = .ok (.iload_n 2, 1) := by decide +kernel
theorem dL_many_5 : decode cL_many 5 = .ok (.bipush 6, 2) := by decide +kernel
theorem dL_many_7 : decode cL_many 7 = .ok (.if_icmp .ge 17, 3) := by decide +kernel
theorem dL_many_10 : decode cL_many 10 = .ok (.iload_n 1, 1) := by decide +kernel
theorem dL_many_11 : decode cL_many 11 = .ok (.iload_n 0, 1) := by decide +kernel
theorem dL_many_12 : decode cL_many 12 = .ok (.iload_n 2, 1) := by decide +kernel
theorem dL_many_13 : decode cL_many 13 = .ok (.ishr, 1) := by decide +kernel
theorem dL_many_14 : decode cL_many 14 = .ok (.iconst 1, 1) := by decide +kernel
theorem dL_many_15 : decode cL_many 15 = .ok (.iand, 1) := by decide +kernel
theorem dL_many_16 : decode cL_many 16 = .ok (.iadd, 1) := by decide +kernel
theorem dL_many_17 : decode cL_many 17 = .ok (.istore_n 1, 1) := by decide +kernel
theorem dL_many_18 : decode cL_many 18 = .ok (.iinc 2 1, 3) := by decide +kernel
theorem dL_many_21 : decode cL_many 21 = .ok (.goto (-17), 3) := by decide +kernel
theorem dL_many_24 : decode cL_many 24 = .ok (.iload_n 1, 1) := by decide +kernel
theorem dL_many_25 : decode cL_many 25 = .ok (.ireturn, 1) := by decide +kernel
theorem dL_pressure_0 : decode cL_pressure 0 = .ok (.iload_n 1, 1) := by decide +kernel
theorem dL_pressure_1 : decode cL_pressure 1 = .ok (.invokestatic 84, 3) := by decide +kernel
theorem dL_pressure_4 : decode cL_pressure 4 = .ok (.istore_n 2, 1) := by decide +kernel
theorem dL_pressure_5 : decode cL_pressure 5 = .ok (.iload_n 2, 1) := by decide +kernel
theorem dL_pressure_6 : decode cL_pressure 6 = .ok (.ifCond .ne 7, 3) := by decide +kernel
theorem dL_pressure_9 : decode cL_pressure 9 = .ok (.iconst 0, 1) := by decide +kernel
theorem dL_pressure_10 : decode cL_pressure 10 = .ok (.goto 28, 3) := by decide +kernel
theorem dL_pressure_13 : decode cL_pressure 13 = .ok (.bipush 10, 2) := by decide +kernel
theorem dL_pressure_15 : decode cL_pressure 15 = .ok (.aload_n 0, 1) := by decide +kernel
theorem dL_pressure_16 : decode cL_pressure 16 = .ok (.iconst 4, 1) := by decide +kernel
theorem dL_pressure_17 : decode cL_pressure 17 = .ok (.iaload, 1) := by decide +kernel
theorem dL_pressure_18 : decode cL_pressure 18 = .ok (.iadd, 1) := by decide +kernel
theorem dL_pressure_19 : decode cL_pressure 19 = .ok (.iload_n 2, 1) := by decide +kernel
theorem dL_pressure_20 : decode cL_pressure 20 = .ok (.idiv, 1) := by decide +kernel
theorem dL_pressure_21 : decode cL_pressure 21 = .ok (.bipush 10, 2) := by decide +kernel
theorem dL_pressure_23 : decode cL_pressure 23 = .ok (.aload_n 0, 1) := by decide +kernel
theorem dL_pressure_24 : decode cL_pressure 24 = .ok (.iconst 4, 1) := by decide +kernel
theorem dL_pressure_25 : decode cL_pressure 25 = .ok (.iaload, 1) := by decide +kernel
theorem dL_pressure_26 : decode cL_pressure 26 = .ok (.iadd, 1) := by decide +kernel
theorem dL_pressure_27 : decode cL_pressure 27 = .ok (.iload_n 2, 1) := by decide +kernel
theorem dL_pressure_28 : decode cL_pressure 28 = .ok (.irem, 1) := by decide +kernel
theorem dL_pressure_29 : decode cL_pressure 29 = .ok (.ifCond .le 7, 3) := by decide +kernel
theorem dL_pressure_32 : decode cL_pressure 32 = .ok (.iconst 1, 1) := by decide +kernel
theorem dL_pressure_33 : decode cL_pressure 33 = .ok (.goto 4, 3) := by decide +kernel
theorem dL_pressure_36 : decode cL_pressure 36 = .ok (.iconst 0, 1) := by decide +kernel
theorem dL_pressure_37 : decode cL_pressure 37 = .ok (.iadd, 1) := by decide +kernel
theorem dL_pressure_38 : decode cL_pressure 38 = .ok (.ireturn, 1) := by decide +kernel
theorem dL_level_0 : decode cL_level 0 = .ok (.iconst 0, 1) := by decide +kernel
theorem dL_level_1 : decode cL_level 1 = .ok (.istore 4, 2) := by decide +kernel
theorem dL_level_3 : decode cL_level 3 = .ok (.iconst 0, 1) := by decide +kernel
theorem dL_level_4 : decode cL_level 4 = .ok (.istore 5, 2) := by decide +kernel
theorem dL_level_6 : decode cL_level 6 = .ok (.iload 5, 2) := by decide +kernel
theorem dL_level_8 : decode cL_level 8 = .ok (.bipush 6, 2) := by decide +kernel
theorem dL_level_10 : decode cL_level 10 = .ok (.if_icmp .ge 61, 3) := by decide +kernel
theorem dL_level_13 : decode cL_level 13 = .ok (.iload_n 3, 1) := by decide +kernel
theorem dL_level_14 : decode cL_level 14 = .ok (.iload 5, 2) := by decide +kernel
theorem dL_level_16 : decode cL_level 16 = .ok (.ishr, 1) := by decide +kernel
theorem dL_level_17 : decode cL_level 17 = .ok (.iconst 1, 1) := by decide +kernel
theorem dL_level_18 : decode cL_level 18 = .ok (.iand, 1) := by decide +kernel
theorem dL_level_19 : decode cL_level 19 = .ok (.iconst 1, 1) := by decide +kernel
theorem dL_level_20 : decode cL_level 20 = .ok (.if_icmp .ne 26, 3) := by decide +kernel
theorem dL_level_23 : decode cL_level 23 = .ok (.aload_n 0, 1) := by decide +kernel
theorem dL_level_24 : decode cL_level 24 = .ok (.sipush 400, 3) := by decide +kernel
theorem dL_level_27 : decode cL_level 27 = .ok (.bipush 20, 2) := by decide +kernel
theorem dL_level_29 : decode cL_level 29 = .ok (.aload_n 2, 1) := by decide +kernel
theorem dL_level_30 : decode cL_level 30 = .ok (.iload 5, 2) := by decide +kernel
theorem dL_level_32 : decode cL_level 32 = .ok (.iaload, 1) := by decide +kernel
theorem dL_level_33 : decode cL_level 33 = .ok (.imul, 1) := by decide +kernel
theorem dL_level_34 : decode cL_level 34 = .ok (.iadd, 1) := by decide +kernel
theorem dL_level_35 : decode cL_level 35 = .ok (.aload_n 1, 1) := by decide +kernel
theorem dL_level_36 : decode cL_level 36 = .ok (.iload 5, 2) := by decide +kernel
theorem dL_level_38 : decode cL_level 38 = .ok (.iaload, 1) := by decide +kernel
theorem dL_level_39 : decode cL_level 39 = .ok (.iadd, 1) := by decide +kernel
theorem dL_level_40 : decode cL_level 40 = .ok (.invokestatic 87, 3) := by decide +kernel
theorem dL_level_43 : decode cL_level 43 = .ok (.goto 4, 3) := by decide +kernel
theorem dL_level_46 : decode cL_level 46 = .ok (.iconst 0, 1) := by decide +kernel
theorem dL_level_47 : decode cL_level 47 = .ok (.istore 6, 2) := by decide +kernel
theorem dL_level_49 : decode cL_level 49 = .ok (.iload 6, 2) := by decide +kernel
theorem dL_level_51 : decode cL_level 51 = .ok (.iload 4, 2) := by decide +kernel
theorem dL_level_53 : decode cL_level 53 = .ok (.if_icmp .le 8, 3) := by decide +kernel
theorem dL_level_56 : decode cL_level 56 = .ok (.iload 6, 2) := by decide +kernel
theorem dL_level_58 : decode cL_level 58 = .ok (.goto 5, 3) := by decide +kernel
theorem dL_level_61 : decode cL_level 61 = .ok (.iload 4, 2) := by decide +kernel
theorem dL_level_63 : decode cL_level 63 = .ok (.istore 4, 2) := by decide +kernel
theorem dL_level_65 : decode cL_level 65 = .ok (.iinc 5 1, 3) := by decide +kernel
theorem dL_level_68 : decode cL_level 68 = .ok (.goto (-62), 3) := by decide +kernel
theorem dL_level_71 : decode cL_level 71 = .ok (.iload 4, 2) := by decide +kernel
theorem dL_level_73 : decode cL_level 73 = .ok (.ireturn, 1) := by decide +kernel
theorem dL_breaks_0 : decode cL_breaks 0 = .ok (.aload_n 0, 1) := by decide +kernel
theorem dL_breaks_1 : decode cL_breaks 1 = .ok (.bipush 10, 2) := by decide +kernel
theorem dL_breaks_3 : decode cL_breaks 3 = .ok (.aload_n 0, 1) := by decide +kernel
theorem dL_breaks_4 : decode cL_breaks 4 = .ok (.bipush 9, 2) := by decide +kernel
theorem dL_breaks_6 : decode cL_breaks 6 = .ok (.iaload, 1) := by decide +kernel
theorem dL_breaks_7 : decode cL_breaks 7 = .ok (.ifCond .ne 11, 3) := by decide +kernel
theorem dL_breaks_10 : decode cL_breaks 10 = .ok (.iload_n 1, 1) := by decide +kernel
theorem dL_breaks_11 : decode cL_breaks 11 = .ok (.iconst 4, 1) := by decide +kernel
theorem dL_breaks_12 : decode cL_breaks 12 = .ok (.iload_n 2, 1) := by decide +kernel
theorem dL_breaks_13 : decode cL_breaks 13 = .ok (.imul, 1) := by decide +kernel
theorem dL_breaks_14 : decode cL_breaks 14 = .ok (.iadd, 1) := by decide +kernel
theorem dL_breaks_15 : decode cL_breaks 15 = .ok (.goto 7, 3) := by decide +kernel
theorem dL_breaks_18 : decode cL_breaks 18 = .ok (.aload_n 0, 1) := by decide +kernel
theorem dL_breaks_19 : decode cL_breaks 19 = .ok (.bipush 10, 2) := by decide +kernel
theorem dL_breaks_21 : decode cL_breaks 21 = .ok (.iaload, 1) := by decide +kernel
theorem dL_breaks_22 : decode cL_breaks 22 = .ok (.iastore, 1) := by decide +kernel
theorem dL_breaks_23 : decode cL_breaks 23 = .ok (.aload_n 0, 1) := by decide +kernel
theorem dL_breaks_24 : decode cL_breaks 24 = .ok (.bipush 14, 2) := by decide +kernel
theorem dL_breaks_26 : decode cL_breaks 26 = .ok (.aload_n 0, 1) := by decide +kernel
theorem dL_breaks_27 : decode cL_breaks 27 = .ok (.bipush 14, 2) := by decide +kernel
theorem dL_breaks_29 : decode cL_breaks 29 = .ok (.iaload, 1) := by decide +kernel
theorem dL_breaks_30 : decode cL_breaks 30 = .ok (.ifCond .ne 7, 3) := by decide +kernel
theorem dL_breaks_33 : decode cL_breaks 33 = .ok (.iload_n 1, 1) := by decide +kernel
theorem dL_breaks_34 : decode cL_breaks 34 = .ok (.goto 7, 3) := by decide +kernel
theorem dL_breaks_37 : decode cL_breaks 37 = .ok (.aload_n 0, 1) := by decide +kernel
theorem dL_breaks_38 : decode cL_breaks 38 = .ok (.bipush 14, 2) := by decide +kernel
theorem dL_breaks_40 : decode cL_breaks 40 = .ok (.iaload, 1) := by decide +kernel
theorem dL_breaks_41 : decode cL_breaks 41 = .ok (.iastore, 1) := by decide +kernel
theorem dL_breaks_42 : decode cL_breaks 42 = .ok (.aload_n 0, 1) := by decide +kernel
theorem dL_breaks_43 : decode cL_breaks 43 = .ok (.bipush 9, 2) := by decide +kernel
theorem dL_breaks_45 : decode cL_breaks 45 = .ok (.dup2, 1) := by decide +kernel
theorem dL_breaks_46 : decode cL_breaks 46 = .ok (.iaload, 1) := by decide +kernel
theorem dL_breaks_47 : decode cL_breaks 47 = .ok (.iconst 1, 1) := by decide +kernel
theorem dL_breaks_48 : decode cL_breaks 48 = .ok (.iadd, 1) := by decide +kernel
theorem dL_breaks_49 : decode cL_breaks 49 = .ok (.iastore, 1) := by decide +kernel
theorem dL_breaks_50 : decode cL_breaks 50 = .ok (.return_, 1) := by decide +kernel
theorem dL_sinking_0 : decode cL_sinking 0 = .ok (.iconst 0, 1) := by decide +kernel
theorem dL_sinking_1 : decode cL_sinking 1 = .ok (.istore 5, 2) := by decide +kernel
theorem dL_sinking_3 : decode cL_sinking 3 = .ok (.iconst 0, 1) := by decide +kernel
theorem dL_sinking_4 : decode cL_sinking 4 = .ok (.istore 6, 2) := by decide +kernel
theorem dL_sinking_6 : decode cL_sinking 6 = .ok (.iload 6, 2) := by decide +kernel
theorem dL_sinking_8 : decode cL_sinking 8 = .ok (.bipush 6, 2) := by decide +kernel
theorem dL_sinking_10 : decode cL_sinking 10 = .ok (.if_icmp .ge 58, 3) := by decide +kernel
theorem dL_sinking_13 : decode cL_sinking 13 = .ok (.iload 5, 2) := by decide +kernel
theorem dL_sinking_15 : decode cL_sinking 15 = .ok (.iload 4, 2) := by decide +kernel
theorem dL_sinking_17 : decode cL_sinking 17 = .ok (.iload 6, 2) := by decide +kernel
theorem dL_sinking_19 : decode cL_sinking 19 = .ok (.ishr, 1) := by decide +kernel
theorem dL_sinking_20 : decode cL_sinking 20 = .ok (.iconst 1, 1) := by decide +kernel
theorem dL_sinking_21 : decode cL_sinking 21 = .ok (.iand, 1) := by decide +kernel
theorem dL_sinking_22 : decode cL_sinking 22 = .ok (.iconst 1, 1) := by decide +kernel
theorem dL_sinking_23 : decode cL_sinking 23 = .ok (.if_icmp .ne 35, 3) := by decide +kernel
theorem dL_sinking_26 : decode cL_sinking 26 = .ok (.aload_n 0, 1) := by decide +kernel
theorem dL_sinking_27 : decode cL_sinking 27 = .ok (.bipush 20, 2) := by decide +kernel
theorem dL_sinking_29 : decode cL_sinking 29 = .ok (.aload_n 2, 1) := by decide +kernel
theorem dL_sinking_30 : decode cL_sinking 30 = .ok (.iload 6, 2) := by decide +kernel
theorem dL_sinking_32 : decode cL_sinking 32 = .ok (.iaload, 1) := by decide +kernel
theorem dL_sinking_33 : decode cL_sinking 33 = .ok (.imul, 1) := by decide +kernel
theorem dL_sinking_34 : decode cL_sinking 34 = .ok (.aload_n 1, 1) := by decide +kernel
theorem dL_sinking_35 : decode cL_sinking 35 = .ok (.iload 6, 2) := by decide +kernel
theorem dL_sinking_37 : decode cL_sinking 37 = .ok (.iaload, 1) := by decide +kernel
theorem dL_sinking_38 : decode cL_sinking 38 = .ok (.iadd, 1) := by decide +kernel
theorem dL_sinking_39 : decode cL_sinking 39 = .ok (.invokestatic 91, 3) := by decide +kernel
theorem dL_sinking_42 : decode cL_sinking 42 = .ok (.aload_n 3, 1) := by decide +kernel
theorem dL_sinking_43 : decode cL_sinking 43 = .ok (.iload 4, 2) := by decide +kernel
theorem dL_sinking_45 : decode cL_sinking 45 = .ok (.invokestatic 94, 3) := by decide +kernel
theorem dL_sinking_48 : decode cL_sinking 48 = .ok (.if_icmp .ge 10, 3) := by decide +kernel
theorem dL_sinking_51 : decode cL_sinking 51 = .ok (.iconst 1, 1) := by decide +kernel
theorem dL_sinking_52 : decode cL_sinking 52 = .ok (.iload 6, 2) := by decide +kernel
theorem dL_sinking_54 : decode cL_sinking 54 = .ok (.ishl, 1) := by decide +kernel
theorem dL_sinking_55 : decode cL_sinking 55 = .ok (.goto 4, 3) := by decide +kernel
theorem dL_sinking_58 : decode cL_sinking 58 = .ok (.iconst 0, 1) := by decide +kernel
theorem dL_sinking_59 : decode cL_sinking 59 = .ok (.iadd, 1) := by decide +kernel
theorem dL_sinking_60 : decode cL_sinking 60 = .ok (.istore 5, 2) := by decide +kernel
theorem dL_sinking_62 : decode cL_sinking 62 = .ok (.iinc 6 1, 3) := by decide +kernel
theorem dL_sinking_65 : decode cL_sinking 65 = .ok (.goto (-59), 3) := by decide +kernel
theorem dL_sinking_68 : decode cL_sinking 68 = .ok (.iload 5, 2) := by decide +kernel
theorem dL_sinking_70 : decode cL_sinking 70 = .ok (.ireturn, 1) := by decide +kernel
theorem dL_settles_0 : decode cL_settles 0 = .ok (.aload 5, 2) := by decide +kernel
theorem dL_settles_2 : decode cL_settles 2 = .ok (.iconst 0, 1) := by decide +kernel
theorem dL_settles_3 : decode cL_settles 3 = .ok (.iaload, 1) := by decide +kernel
theorem dL_settles_4 : decode cL_settles 4 = .ok (.iconst 1, 1) := by decide +kernel
theorem dL_settles_5 : decode cL_settles 5 = .ok (.if_icmp .ne 19, 3) := by decide +kernel
theorem dL_settles_8 : decode cL_settles 8 = .ok (.aload_n 1, 1) := by decide +kernel
theorem dL_settles_9 : decode cL_settles 9 = .ok (.aload_n 2, 1) := by decide +kernel
theorem dL_settles_10 : decode cL_settles 10 = .ok (.aload_n 3, 1) := by decide +kernel
theorem dL_settles_11 : decode cL_settles 11 = .ok (.aload 5, 2) := by decide +kernel
theorem dL_settles_13 : decode cL_settles 13 = .ok (.aload 5, 2) := by decide +kernel
theorem dL_settles_15 : decode cL_settles 15 = .ok (.bipush 8, 2) := by decide +kernel
theorem dL_settles_17 : decode cL_settles 17 = .ok (.iaload, 1) := by decide +kernel
theorem dL_settles_18 : decode cL_settles 18 = .ok (.invokestatic 98, 3) := by decide +kernel
theorem dL_settles_21 : decode cL_settles 21 = .ok (.goto 4, 3) := by decide +kernel
theorem dL_settles_24 : decode cL_settles 24 = .ok (.iconst 0, 1) := by decide +kernel
theorem dL_settles_25 : decode cL_settles 25 = .ok (.istore 6, 2) := by decide +kernel
theorem dL_settles_27 : decode cL_settles 27 = .ok (.iload 6, 2) := by decide +kernel
theorem dL_settles_29 : decode cL_settles 29 = .ok (.ifCond .le 123, 3) := by decide +kernel
theorem dL_settles_32 : decode cL_settles 32 = .ok (.iconst 0, 1) := by decide +kernel
theorem dL_settles_33 : decode cL_settles 33 = .ok (.istore 7, 2) := by decide +kernel
theorem dL_settles_35 : decode cL_settles 35 = .ok (.iload 7, 2) := by decide +kernel
theorem dL_settles_37 : decode cL_settles 37 = .ok (.bipush 6, 2) := by decide +kernel
theorem dL_settles_39 : decode cL_settles 39 = .ok (.if_icmp .ge 85, 3) := by decide +kernel
theorem dL_settles_42 : decode cL_settles 42 = .ok (.iload 6, 2) := by decide +kernel
theorem dL_settles_44 : decode cL_settles 44 = .ok (.iload 7, 2) := by decide +kernel
theorem dL_settles_46 : decode cL_settles 46 = .ok (.ishr, 1) := by decide +kernel
theorem dL_settles_47 : decode cL_settles 47 = .ok (.iconst 1, 1) := by decide +kernel
theorem dL_settles_48 : decode cL_settles 48 = .ok (.iand, 1) := by decide +kernel
theorem dL_settles_49 : decode cL_settles 49 = .ok (.iconst 1, 1) := by decide +kernel
theorem dL_settles_50 : decode cL_settles 50 = .ok (.if_icmp .ne 68, 3) := by decide +kernel
theorem dL_settles_53 : decode cL_settles 53 = .ok (.bipush 20, 2) := by decide +kernel
theorem dL_settles_55 : decode cL_settles 55 = .ok (.aload_n 3, 1) := by decide +kernel
theorem dL_settles_56 : decode cL_settles 56 = .ok (.iload 7, 2) := by decide +kernel
theorem dL_settles_58 : decode cL_settles 58 = .ok (.iaload, 1) := by decide +kernel
theorem dL_settles_59 : decode cL_settles 59 = .ok (.imul, 1) := by decide +kernel
theorem dL_settles_60 : decode cL_settles 60 = .ok (.aload_n 2, 1) := by decide +kernel
theorem dL_settles_61 : decode cL_settles 61 = .ok (.iload 7, 2) := by decide +kernel
theorem dL_settles_63 : decode cL_settles 63 = .ok (.iaload, 1) := by decide +kernel
theorem dL_settles_64 : decode cL_settles 64 = .ok (.iadd, 1) := by decide +kernel
theorem dL_settles_65 : decode cL_settles 65 = .ok (.istore 8, 2) := by decide +kernel
theorem dL_settles_67 : decode cL_settles 67 = .ok (.aload_n 0, 1) := by decide +kernel
theorem dL_settles_68 : decode cL_settles 68 = .ok (.iload 8, 2) := by decide +kernel
theorem dL_settles_70 : decode cL_settles 70 = .ok (.invokestatic 87, 3) := by decide +kernel
theorem dL_settles_73 : decode cL_settles 73 = .ok (.ifCond .ne 7, 3) := by decide +kernel
theorem dL_settles_76 : decode cL_settles 76 = .ok (.iconst 0, 1) := by decide +kernel
theorem dL_settles_77 : decode cL_settles 77 = .ok (.goto 11, 3) := by decide +kernel
theorem dL_settles_80 : decode cL_settles 80 = .ok (.aload_n 0, 1) := by decide +kernel
theorem dL_settles_81 : decode cL_settles 81 = .ok (.iload 8, 2) := by decide +kernel
theorem dL_settles_83 : decode cL_settles 83 = .ok (.invokestatic 87, 3) := by decide +kernel
theorem dL_settles_86 : decode cL_settles 86 = .ok (.iconst 1, 1) := by decide +kernel
theorem dL_settles_87 : decode cL_settles 87 = .ok (.isub, 1) := by decide +kernel
theorem dL_settles_88 : decode cL_settles 88 = .ok (.istore 9, 2) := by decide +kernel
theorem dL_settles_90 : decode cL_settles 90 = .ok (.aload_n 0, 1) := by decide +kernel
theorem dL_settles_91 : decode cL_settles 91 = .ok (.iload 8, 2) := by decide +kernel
theorem dL_settles_93 : decode cL_settles 93 = .ok (.iload 9, 2) := by decide +kernel
theorem dL_settles_95 : decode cL_settles 95 = .ok (.invokestatic 102, 3) := by decide +kernel
theorem dL_settles_98 : decode cL_settles 98 = .ok (.aload_n 0, 1) := by decide +kernel
theorem dL_settles_99 : decode cL_settles 99 = .ok (.sipush 400, 3) := by decide +kernel
theorem dL_settles_102 : decode cL_settles 102 = .ok (.iload 8, 2) := by decide +kernel
theorem dL_settles_104 : decode cL_settles 104 = .ok (.iadd, 1) := by decide +kernel
theorem dL_settles_105 : decode cL_settles 105 = .ok (.iload 9, 2) := by decide +kernel
theorem dL_settles_107 : decode cL_settles 107 = .ok (.invokestatic 102, 3) := by decide +kernel
theorem dL_settles_110 : decode cL_settles 110 = .ok (.aload 5, 2) := by decide +kernel
theorem dL_settles_112 : decode cL_settles 112 = .ok (.iconst 2, 1) := by decide +kernel
theorem dL_settles_113 : decode cL_settles 113 = .ok (.iload 8, 2) := by decide +kernel
theorem dL_settles_115 : decode cL_settles 115 = .ok (.invokestatic 106, 3) := by decide +kernel
theorem dL_settles_118 : decode cL_settles 118 = .ok (.iinc 7 1, 3) := by decide +kernel
theorem dL_settles_121 : decode cL_settles 121 = .ok (.goto (-86), 3) := by decide +kernel
theorem dL_settles_124 : decode cL_settles 124 = .ok (.aload 5, 2) := by decide +kernel
theorem dL_settles_126 : decode cL_settles 126 = .ok (.bipush 8, 2) := by decide +kernel
theorem dL_settles_128 : decode cL_settles 128 = .ok (.dup2, 1) := by decide +kernel
theorem dL_settles_129 : decode cL_settles 129 = .ok (.iaload, 1) := by decide +kernel
theorem dL_settles_130 : decode cL_settles 130 = .ok (.iload 6, 2) := by decide +kernel
theorem dL_settles_132 : decode cL_settles 132 = .ok (.isub, 1) := by decide +kernel
theorem dL_settles_133 : decode cL_settles 133 = .ok (.iastore, 1) := by decide +kernel
theorem dL_settles_134 : decode cL_settles 134 = .ok (.aload_n 1, 1) := by decide +kernel
theorem dL_settles_135 : decode cL_settles 135 = .ok (.aload_n 2, 1) := by decide +kernel
theorem dL_settles_136 : decode cL_settles 136 = .ok (.aload_n 3, 1) := by decide +kernel
theorem dL_settles_137 : decode cL_settles 137 = .ok (.aload 5, 2) := by decide +kernel
theorem dL_settles_139 : decode cL_settles 139 = .ok (.aload 5, 2) := by decide +kernel
theorem dL_settles_141 : decode cL_settles 141 = .ok (.bipush 8, 2) := by decide +kernel
theorem dL_settles_143 : decode cL_settles 143 = .ok (.iaload, 1) := by decide +kernel
theorem dL_settles_144 : decode cL_settles 144 = .ok (.invokestatic 98, 3) := by decide +kernel
theorem dL_settles_147 : decode cL_settles 147 = .ok (.istore 6, 2) := by decide +kernel
theorem dL_settles_149 : decode cL_settles 149 = .ok (.goto (-122), 3) := by decide +kernel
theorem dL_settles_152 : decode cL_settles 152 = .ok (.aload 5, 2) := by decide +kernel
theorem dL_settles_154 : decode cL_settles 154 = .ok (.iconst 0, 1) := by decide +kernel
theorem dL_settles_155 : decode cL_settles 155 = .ok (.iaload, 1) := by decide +kernel
theorem dL_settles_156 : decode cL_settles 156 = .ok (.iconst 1, 1) := by decide +kernel
theorem dL_settles_157 : decode cL_settles 157 = .ok (.if_icmp .ne 251, 3) := by decide +kernel
theorem dL_settles_160 : decode cL_settles 160 = .ok (.aload_n 2, 1) := by decide +kernel
theorem dL_settles_161 : decode cL_settles 161 = .ok (.aload_n 3, 1) := by decide +kernel
theorem dL_settles_162 : decode cL_settles 162 = .ok (.aload 5, 2) := by decide +kernel
theorem dL_settles_164 : decode cL_settles 164 = .ok (.aload 5, 2) := by decide +kernel
theorem dL_settles_166 : decode cL_settles 166 = .ok (.bipush 8, 2) := by decide +kernel
theorem dL_settles_168 : decode cL_settles 168 = .ok (.iaload, 1) := by decide +kernel
theorem dL_settles_169 : decode cL_settles 169 = .ok (.invokestatic 110, 3) := by decide +kernel
theorem dL_settles_172 : decode cL_settles 172 = .ok (.ifCond .ne 236, 3) := by decide +kernel
theorem dL_settles_175 : decode cL_settles 175 = .ok (.aload 5, 2) := by decide +kernel
theorem dL_settles_177 : decode cL_settles 177 = .ok (.bipush 8, 2) := by decide +kernel
theorem dL_settles_179 : decode cL_settles 179 = .ok (.iaload, 1) := by decide +kernel
theorem dL_settles_180 : decode cL_settles 180 = .ok (.invokestatic 84, 3) := by decide +kernel
theorem dL_settles_183 : decode cL_settles 183 = .ok (.istore 7, 2) := by decide +kernel
theorem dL_settles_185 : decode cL_settles 185 = .ok (.iload 7, 2) := by decide +kernel
theorem dL_settles_187 : decode cL_settles 187 = .ok (.bipush 10, 2) := by decide +kernel
theorem dL_settles_189 : decode cL_settles 189 = .ok (.aload 5, 2) := by decide +kernel
theorem dL_settles_191 : decode cL_settles 191 = .ok (.iconst 4, 1) := by decide +kernel
theorem dL_settles_192 : decode cL_settles 192 = .ok (.iaload, 1) := by decide +kernel
theorem dL_settles_193 : decode cL_settles 193 = .ok (.iadd, 1) := by decide +kernel
theorem dL_settles_194 : decode cL_settles 194 = .ok (.aload 5, 2) := by decide +kernel
theorem dL_settles_196 : decode cL_settles 196 = .ok (.iconst 1, 1) := by decide +kernel
theorem dL_settles_197 : decode cL_settles 197 = .ok (.iaload, 1) := by decide +kernel
theorem dL_settles_198 : decode cL_settles 198 = .ok (.imul, 1) := by decide +kernel
theorem dL_settles_199 : decode cL_settles 199 = .ok (.aload 5, 2) := by decide +kernel
theorem dL_settles_201 : decode cL_settles 201 = .ok (.iconst 4, 1) := by decide +kernel
theorem dL_settles_202 : decode cL_settles 202 = .ok (.iaload, 1) := by decide +kernel
theorem dL_settles_203 : decode cL_settles 203 = .ok (.aload 5, 2) := by decide +kernel
theorem dL_settles_205 : decode cL_settles 205 = .ok (.iconst 5, 1) := by decide +kernel
theorem dL_settles_206 : decode cL_settles 206 = .ok (.iaload, 1) := by decide +kernel
theorem dL_settles_207 : decode cL_settles 207 = .ok (.imul, 1) := by decide +kernel
theorem dL_settles_208 : decode cL_settles 208 = .ok (.iadd, 1) := by decide +kernel
theorem dL_settles_209 : decode cL_settles 209 = .ok (.imul, 1) := by decide +kernel
theorem dL_settles_210 : decode cL_settles 210 = .ok (.istore 8, 2) := by decide +kernel
theorem dL_settles_212 : decode cL_settles 212 = .ok (.iload 7, 2) := by decide +kernel
theorem dL_settles_214 : decode cL_settles 214 = .ok (.bipush 10, 2) := by decide +kernel
theorem dL_settles_216 : decode cL_settles 216 = .ok (.aload 5, 2) := by decide +kernel
theorem dL_settles_218 : decode cL_settles 218 = .ok (.iconst 4, 1) := by decide +kernel
theorem dL_settles_219 : decode cL_settles 219 = .ok (.iaload, 1) := by decide +kernel
theorem dL_settles_220 : decode cL_settles 220 = .ok (.iadd, 1) := by decide +kernel
theorem dL_settles_221 : decode cL_settles 221 = .ok (.aload 5, 2) := by decide +kernel
theorem dL_settles_223 : decode cL_settles 223 = .ok (.iconst 2, 1) := by decide +kernel
theorem dL_settles_224 : decode cL_settles 224 = .ok (.iaload, 1) := by decide +kernel
theorem dL_settles_225 : decode cL_settles 225 = .ok (.imul, 1) := by decide +kernel
theorem dL_settles_226 : decode cL_settles 226 = .ok (.aload 5, 2) := by decide +kernel
theorem dL_settles_228 : decode cL_settles 228 = .ok (.iconst 4, 1) := by decide +kernel
theorem dL_settles_229 : decode cL_settles 229 = .ok (.iaload, 1) := by decide +kernel
theorem dL_settles_230 : decode cL_settles 230 = .ok (.aload 5, 2) := by decide +kernel
theorem dL_settles_232 : decode cL_settles 232 = .ok (.bipush 6, 2) := by decide +kernel
theorem dL_settles_234 : decode cL_settles 234 = .ok (.iaload, 1) := by decide +kernel
theorem dL_settles_235 : decode cL_settles 235 = .ok (.imul, 1) := by decide +kernel
theorem dL_settles_236 : decode cL_settles 236 = .ok (.iadd, 1) := by decide +kernel
theorem dL_settles_237 : decode cL_settles 237 = .ok (.imul, 1) := by decide +kernel
theorem dL_settles_238 : decode cL_settles 238 = .ok (.istore 9, 2) := by decide +kernel
theorem dL_settles_240 : decode cL_settles 240 = .ok (.iconst 0, 1) := by decide +kernel
theorem dL_settles_241 : decode cL_settles 241 = .ok (.istore 10, 2) := by decide +kernel
theorem dL_settles_243 : decode cL_settles 243 = .ok (.iload 10, 2) := by decide +kernel
theorem dL_settles_245 : decode cL_settles 245 = .ok (.bipush 6, 2) := by decide +kernel
theorem dL_settles_247 : decode cL_settles 247 = .ok (.if_icmp .ge 65, 3) := by decide +kernel
theorem dL_settles_250 : decode cL_settles 250 = .ok (.iload 8, 2) := by decide +kernel
theorem dL_settles_252 : decode cL_settles 252 = .ok (.aload 5, 2) := by decide +kernel
theorem dL_settles_254 : decode cL_settles 254 = .ok (.bipush 8, 2) := by decide +kernel
theorem dL_settles_256 : decode cL_settles 256 = .ok (.iaload, 1) := by decide +kernel
theorem dL_settles_257 : decode cL_settles 257 = .ok (.iload 10, 2) := by decide +kernel
theorem dL_settles_259 : decode cL_settles 259 = .ok (.ishr, 1) := by decide +kernel
theorem dL_settles_260 : decode cL_settles 260 = .ok (.iconst 1, 1) := by decide +kernel
theorem dL_settles_261 : decode cL_settles 261 = .ok (.iand, 1) := by decide +kernel
theorem dL_settles_262 : decode cL_settles 262 = .ok (.bipush 10, 2) := by decide +kernel
theorem dL_settles_264 : decode cL_settles 264 = .ok (.aload 5, 2) := by decide +kernel
theorem dL_settles_266 : decode cL_settles 266 = .ok (.iconst 4, 1) := by decide +kernel
theorem dL_settles_267 : decode cL_settles 267 = .ok (.iaload, 1) := by decide +kernel
theorem dL_settles_268 : decode cL_settles 268 = .ok (.iadd, 1) := by decide +kernel
theorem dL_settles_269 : decode cL_settles 269 = .ok (.imul, 1) := by decide +kernel
theorem dL_settles_270 : decode cL_settles 270 = .ok (.aload_n 2, 1) := by decide +kernel
theorem dL_settles_271 : decode cL_settles 271 = .ok (.iload 10, 2) := by decide +kernel
theorem dL_settles_273 : decode cL_settles 273 = .ok (.iaload, 1) := by decide +kernel
theorem dL_settles_274 : decode cL_settles 274 = .ok (.imul, 1) := by decide +kernel
theorem dL_settles_275 : decode cL_settles 275 = .ok (.isub, 1) := by decide +kernel
theorem dL_settles_276 : decode cL_settles 276 = .ok (.istore 8, 2) := by decide +kernel
theorem dL_settles_278 : decode cL_settles 278 = .ok (.iload 9, 2) := by decide +kernel
theorem dL_settles_280 : decode cL_settles 280 = .ok (.aload 5, 2) := by decide +kernel
theorem dL_settles_282 : decode cL_settles 282 = .ok (.bipush 8, 2) := by decide +kernel
theorem dL_settles_284 : decode cL_settles 284 = .ok (.iaload, 1) := by decide +kernel
theorem dL_settles_285 : decode cL_settles 285 = .ok (.iload 10, 2) := by decide +kernel
theorem dL_settles_287 : decode cL_settles 287 = .ok (.ishr, 1) := by decide +kernel
theorem dL_settles_288 : decode cL_settles 288 = .ok (.iconst 1, 1) := by decide +kernel
theorem dL_settles_289 : decode cL_settles 289 = .ok (.iand, 1) := by decide +kernel
theorem dL_settles_290 : decode cL_settles 290 = .ok (.bipush 10, 2) := by decide +kernel
theorem dL_settles_292 : decode cL_settles 292 = .ok (.aload 5, 2) := by decide +kernel
theorem dL_settles_294 : decode cL_settles 294 = .ok (.iconst 4, 1) := by decide +kernel
theorem dL_settles_295 : decode cL_settles 295 = .ok (.iaload, 1) := by decide +kernel
theorem dL_settles_296 : decode cL_settles 296 = .ok (.iadd, 1) := by decide +kernel
theorem dL_settles_297 : decode cL_settles 297 = .ok (.imul, 1) := by decide +kernel
theorem dL_settles_298 : decode cL_settles 298 = .ok (.aload_n 3, 1) := by decide +kernel
theorem dL_settles_299 : decode cL_settles 299 = .ok (.iload 10, 2) := by decide +kernel
theorem dL_settles_301 : decode cL_settles 301 = .ok (.iaload, 1) := by decide +kernel
theorem dL_settles_302 : decode cL_settles 302 = .ok (.imul, 1) := by decide +kernel
theorem dL_settles_303 : decode cL_settles 303 = .ok (.isub, 1) := by decide +kernel
theorem dL_settles_304 : decode cL_settles 304 = .ok (.istore 9, 2) := by decide +kernel
theorem dL_settles_306 : decode cL_settles 306 = .ok (.iinc 10 1, 3) := by decide +kernel
theorem dL_settles_309 : decode cL_settles 309 = .ok (.goto (-66), 3) := by decide +kernel
theorem dL_settles_312 : decode cL_settles 312 = .ok (.iload 8, 2) := by decide +kernel
theorem dL_settles_314 : decode cL_settles 314 = .ok (.ifCond .le 8, 3) := by decide +kernel
theorem dL_settles_317 : decode cL_settles 317 = .ok (.bipush 6, 2) := by decide +kernel
theorem dL_settles_319 : decode cL_settles 319 = .ok (.goto 13, 3) := by decide +kernel
theorem dL_settles_322 : decode cL_settles 322 = .ok (.iload 8, 2) := by decide +kernel
theorem dL_settles_324 : decode cL_settles 324 = .ok (.ifCond .ge 7, 3) := by decide +kernel
theorem dL_settles_327 : decode cL_settles 327 = .ok (.iconst 0, 1) := by decide +kernel
theorem dL_settles_328 : decode cL_settles 328 = .ok (.goto 4, 3) := by decide +kernel
theorem dL_settles_331 : decode cL_settles 331 = .ok (.iconst 3, 1) := by decide +kernel
theorem dL_settles_332 : decode cL_settles 332 = .ok (.iload 9, 2) := by decide +kernel
theorem dL_settles_334 : decode cL_settles 334 = .ok (.ifCond .le 7, 3) := by decide +kernel
theorem dL_settles_337 : decode cL_settles 337 = .ok (.iconst 2, 1) := by decide +kernel
theorem dL_settles_338 : decode cL_settles 338 = .ok (.goto 13, 3) := by decide +kernel
theorem dL_settles_341 : decode cL_settles 341 = .ok (.iload 9, 2) := by decide +kernel
theorem dL_settles_343 : decode cL_settles 343 = .ok (.ifCond .ge 7, 3) := by decide +kernel
theorem dL_settles_346 : decode cL_settles 346 = .ok (.iconst 0, 1) := by decide +kernel
theorem dL_settles_347 : decode cL_settles 347 = .ok (.goto 4, 3) := by decide +kernel
theorem dL_settles_350 : decode cL_settles 350 = .ok (.iconst 1, 1) := by decide +kernel
theorem dL_settles_351 : decode cL_settles 351 = .ok (.iadd, 1) := by decide +kernel
theorem dL_settles_352 : decode cL_settles 352 = .ok (.istore 10, 2) := by decide +kernel
theorem dL_settles_354 : decode cL_settles 354 = .ok (.aload 4, 2) := by decide +kernel
theorem dL_settles_356 : decode cL_settles 356 = .ok (.aload 5, 2) := by decide +kernel
theorem dL_settles_358 : decode cL_settles 358 = .ok (.bipush 11, 2) := by decide +kernel
theorem dL_settles_360 : decode cL_settles 360 = .ok (.iaload, 1) := by decide +kernel
theorem dL_settles_361 : decode cL_settles 361 = .ok (.bipush 40, 2) := by decide +kernel
theorem dL_settles_363 : decode cL_settles 363 = .ok (.if_icmp .ge 11, 3) := by decide +kernel
theorem dL_settles_366 : decode cL_settles 366 = .ok (.aload 5, 2) := by decide +kernel
theorem dL_settles_368 : decode cL_settles 368 = .ok (.bipush 11, 2) := by decide +kernel
theorem dL_settles_370 : decode cL_settles 370 = .ok (.iaload, 1) := by decide +kernel
theorem dL_settles_371 : decode cL_settles 371 = .ok (.goto 5, 3) := by decide +kernel
theorem dL_settles_374 : decode cL_settles 374 = .ok (.bipush 40, 2) := by decide +kernel
theorem dL_settles_376 : decode cL_settles 376 = .ok (.iload 10, 2) := by decide +kernel
theorem dL_settles_378 : decode cL_settles 378 = .ok (.bipush 9, 2) := by decide +kernel
theorem dL_settles_380 : decode cL_settles 380 = .ok (.aload 5, 2) := by decide +kernel
theorem dL_settles_382 : decode cL_settles 382 = .ok (.bipush 10, 2) := by decide +kernel
theorem dL_settles_384 : decode cL_settles 384 = .ok (.iaload, 1) := by decide +kernel
theorem dL_settles_385 : decode cL_settles 385 = .ok (.imul, 1) := by decide +kernel
theorem dL_settles_386 : decode cL_settles 386 = .ok (.iadd, 1) := by decide +kernel
theorem dL_settles_387 : decode cL_settles 387 = .ok (.iastore, 1) := by decide +kernel
theorem dL_settles_388 : decode cL_settles 388 = .ok (.aload 5, 2) := by decide +kernel
theorem dL_settles_390 : decode cL_settles 390 = .ok (.bipush 11, 2) := by decide +kernel
theorem dL_settles_392 : decode cL_settles 392 = .ok (.dup2, 1) := by decide +kernel
theorem dL_settles_393 : decode cL_settles 393 = .ok (.iaload, 1) := by decide +kernel
theorem dL_settles_394 : decode cL_settles 394 = .ok (.iconst 1, 1) := by decide +kernel
theorem dL_settles_395 : decode cL_settles 395 = .ok (.iadd, 1) := by decide +kernel
theorem dL_settles_396 : decode cL_settles 396 = .ok (.iastore, 1) := by decide +kernel
theorem dL_settles_397 : decode cL_settles 397 = .ok (.aload 5, 2) := by decide +kernel
theorem dL_settles_399 : decode cL_settles 399 = .ok (.iconst 0, 1) := by decide +kernel
theorem dL_settles_400 : decode cL_settles 400 = .ok (.iconst 0, 1) := by decide +kernel
theorem dL_settles_401 : decode cL_settles 401 = .ok (.iastore, 1) := by decide +kernel
theorem dL_settles_402 : decode cL_settles 402 = .ok (.aload 5, 2) := by decide +kernel
theorem dL_settles_404 : decode cL_settles 404 = .ok (.bipush 8, 2) := by decide +kernel
theorem dL_settles_406 : decode cL_settles 406 = .ok (.iconst 0, 1) := by decide +kernel
theorem dL_settles_407 : decode cL_settles 407 = .ok (.iastore, 1) := by decide +kernel
theorem dL_settles_408 : decode cL_settles 408 = .ok (.return_, 1) := by decide +kernel
theorem dL_comes_0 : decode cL_comes 0 = .ok (.bipush 20, 2) := by decide +kernel
theorem dL_comes_2 : decode cL_comes 2 = .ok (.iload 8, 2) := by decide +kernel
theorem dL_comes_4 : decode cL_comes 4 = .ok (.imul, 1) := by decide +kernel
theorem dL_comes_5 : decode cL_comes 5 = .ok (.iload 7, 2) := by decide +kernel
theorem dL_comes_7 : decode cL_comes 7 = .ok (.iadd, 1) := by decide +kernel
theorem dL_comes_8 : decode cL_comes 8 = .ok (.istore 9, 2) := by decide +kernel
theorem dL_comes_10 : decode cL_comes 10 = .ok (.aload_n 0, 1) := by decide +kernel
theorem dL_comes_11 : decode cL_comes 11 = .ok (.iload 9, 2) := by decide +kernel
theorem dL_comes_13 : decode cL_comes 13 = .ok (.invokestatic 87, 3) := by decide +kernel
theorem dL_comes_16 : decode cL_comes 16 = .ok (.istore 10, 2) := by decide +kernel
theorem dL_comes_18 : decode cL_comes 18 = .ok (.iload 10, 2) := by decide +kernel
theorem dL_comes_20 : decode cL_comes 20 = .ok (.aload_n 0, 1) := by decide +kernel
theorem dL_comes_21 : decode cL_comes 21 = .ok (.sipush 400, 3) := by decide +kernel
theorem dL_comes_24 : decode cL_comes 24 = .ok (.iload 9, 2) := by decide +kernel
theorem dL_comes_26 : decode cL_comes 26 = .ok (.iadd, 1) := by decide +kernel
theorem dL_comes_27 : decode cL_comes 27 = .ok (.invokestatic 87, 3) := by decide +kernel
theorem dL_comes_30 : decode cL_comes 30 = .ok (.isub, 1) := by decide +kernel
theorem dL_comes_31 : decode cL_comes 31 = .ok (.istore 11, 2) := by decide +kernel
theorem dL_comes_33 : decode cL_comes 33 = .ok (.aload_n 0, 1) := by decide +kernel
theorem dL_comes_34 : decode cL_comes 34 = .ok (.sipush 400, 3) := by decide +kernel
theorem dL_comes_37 : decode cL_comes 37 = .ok (.iload 9, 2) := by decide +kernel
theorem dL_comes_39 : decode cL_comes 39 = .ok (.iadd, 1) := by decide +kernel
theorem dL_comes_40 : decode cL_comes 40 = .ok (.iload 10, 2) := by decide +kernel
theorem dL_comes_42 : decode cL_comes 42 = .ok (.invokestatic 102, 3) := by decide +kernel
theorem dL_comes_45 : decode cL_comes 45 = .ok (.iload 11, 2) := by decide +kernel
theorem dL_comes_47 : decode cL_comes 47 = .ok (.iconst 1, 1) := by decide +kernel
theorem dL_comes_48 : decode cL_comes 48 = .ok (.if_icmp .gt 9, 3) := by decide +kernel
theorem dL_comes_51 : decode cL_comes 51 = .ok (.iload 11, 2) := by decide +kernel
theorem dL_comes_53 : decode cL_comes 53 = .ok (.iconst (-1), 1) := by decide +kernel
theorem dL_comes_54 : decode cL_comes 54 = .ok (.if_icmp .ge 12, 3) := by decide +kernel
theorem dL_comes_57 : decode cL_comes 57 = .ok (.aload 5, 2) := by decide +kernel
theorem dL_comes_59 : decode cL_comes 59 = .ok (.iconst 1, 1) := by decide +kernel
theorem dL_comes_60 : decode cL_comes 60 = .ok (.iload 9, 2) := by decide +kernel
theorem dL_comes_62 : decode cL_comes 62 = .ok (.invokestatic 106, 3) := by decide +kernel
theorem dL_comes_65 : decode cL_comes 65 = .ok (.return_, 1) := by decide +kernel
theorem dL_comes_66 : decode cL_comes 66 = .ok (.iconst (-1), 1) := by decide +kernel
theorem dL_comes_67 : decode cL_comes 67 = .ok (.istore 12, 2) := by decide +kernel
theorem dL_comes_69 : decode cL_comes 69 = .ok (.iconst 0, 1) := by decide +kernel
theorem dL_comes_70 : decode cL_comes 70 = .ok (.istore 13, 2) := by decide +kernel
theorem dL_comes_72 : decode cL_comes 72 = .ok (.iload 13, 2) := by decide +kernel
theorem dL_comes_74 : decode cL_comes 74 = .ok (.sipush 400, 3) := by decide +kernel
theorem dL_comes_77 : decode cL_comes 77 = .ok (.if_icmp .ge 103, 3) := by decide +kernel
theorem dL_comes_80 : decode cL_comes 80 = .ok (.iload 13, 2) := by decide +kernel
theorem dL_comes_82 : decode cL_comes 82 = .ok (.bipush 20, 2) := by decide +kernel
theorem dL_comes_84 : decode cL_comes 84 = .ok (.irem, 1) := by decide +kernel
theorem dL_comes_85 : decode cL_comes 85 = .ok (.iload 7, 2) := by decide +kernel
theorem dL_comes_87 : decode cL_comes 87 = .ok (.isub, 1) := by decide +kernel
theorem dL_comes_88 : decode cL_comes 88 = .ok (.istore 14, 2) := by decide +kernel
theorem dL_comes_90 : decode cL_comes 90 = .ok (.iload 13, 2) := by decide +kernel
theorem dL_comes_92 : decode cL_comes 92 = .ok (.bipush 20, 2) := by decide +kernel
theorem dL_comes_94 : decode cL_comes 94 = .ok (.idiv, 1) := by decide +kernel
theorem dL_comes_95 : decode cL_comes 95 = .ok (.iload 8, 2) := by decide +kernel
theorem dL_comes_97 : decode cL_comes 97 = .ok (.isub, 1) := by decide +kernel
theorem dL_comes_98 : decode cL_comes 98 = .ok (.istore 15, 2) := by decide +kernel
theorem dL_comes_100 : decode cL_comes 100 = .ok (.iload 14, 2) := by decide +kernel
theorem dL_comes_102 : decode cL_comes 102 = .ok (.iload 14, 2) := by decide +kernel
theorem dL_comes_104 : decode cL_comes 104 = .ok (.imul, 1) := by decide +kernel
theorem dL_comes_105 : decode cL_comes 105 = .ok (.iload 15, 2) := by decide +kernel
theorem dL_comes_107 : decode cL_comes 107 = .ok (.iload 15, 2) := by decide +kernel
theorem dL_comes_109 : decode cL_comes 109 = .ok (.imul, 1) := by decide +kernel
theorem dL_comes_110 : decode cL_comes 110 = .ok (.iadd, 1) := by decide +kernel
theorem dL_comes_111 : decode cL_comes 111 = .ok (.iconst 1, 1) := by decide +kernel
theorem dL_comes_112 : decode cL_comes 112 = .ok (.if_icmp .ne 25, 3) := by decide +kernel
theorem dL_comes_115 : decode cL_comes 115 = .ok (.iload 10, 2) := by decide +kernel
theorem dL_comes_117 : decode cL_comes 117 = .ok (.aload_n 0, 1) := by decide +kernel
theorem dL_comes_118 : decode cL_comes 118 = .ok (.iload 13, 2) := by decide +kernel
theorem dL_comes_120 : decode cL_comes 120 = .ok (.invokestatic 87, 3) := by decide +kernel
theorem dL_comes_123 : decode cL_comes 123 = .ok (.isub, 1) := by decide +kernel
theorem dL_comes_124 : decode cL_comes 124 = .ok (.aload_n 1, 1) := by decide +kernel
theorem dL_comes_125 : decode cL_comes 125 = .ok (.iload 9, 2) := by decide +kernel
theorem dL_comes_127 : decode cL_comes 127 = .ok (.invokestatic 87, 3) := by decide +kernel
theorem dL_comes_130 : decode cL_comes 130 = .ok (.if_icmp .le 7, 3) := by decide +kernel
theorem dL_comes_133 : decode cL_comes 133 = .ok (.iconst 1, 1) := by decide +kernel
theorem dL_comes_134 : decode cL_comes 134 = .ok (.goto 4, 3) := by decide +kernel
theorem dL_comes_137 : decode cL_comes 137 = .ok (.iconst 0, 1) := by decide +kernel
theorem dL_comes_138 : decode cL_comes 138 = .ok (.istore 16, 2) := by decide +kernel
theorem dL_comes_140 : decode cL_comes 140 = .ok (.iload 16, 2) := by decide +kernel
theorem dL_comes_142 : decode cL_comes 142 = .ok (.ifCond .eq 28, 3) := by decide +kernel
theorem dL_comes_145 : decode cL_comes 145 = .ok (.iload 12, 2) := by decide +kernel
theorem dL_comes_147 : decode cL_comes 147 = .ok (.ifCond .lt 18, 3) := by decide +kernel
theorem dL_comes_150 : decode cL_comes 150 = .ok (.aload_n 0, 1) := by decide +kernel
theorem dL_comes_151 : decode cL_comes 151 = .ok (.iload 13, 2) := by decide +kernel
theorem dL_comes_153 : decode cL_comes 153 = .ok (.invokestatic 87, 3) := by decide +kernel
theorem dL_comes_156 : decode cL_comes 156 = .ok (.aload_n 0, 1) := by decide +kernel
theorem dL_comes_157 : decode cL_comes 157 = .ok (.iload 12, 2) := by decide +kernel
theorem dL_comes_159 : decode cL_comes 159 = .ok (.invokestatic 87, 3) := by decide +kernel
theorem dL_comes_162 : decode cL_comes 162 = .ok (.if_icmp .ge 8, 3) := by decide +kernel
theorem dL_comes_165 : decode cL_comes 165 = .ok (.iload 13, 2) := by decide +kernel
theorem dL_comes_167 : decode cL_comes 167 = .ok (.goto 5, 3) := by decide +kernel
theorem dL_comes_170 : decode cL_comes 170 = .ok (.iload 12, 2) := by decide +kernel
theorem dL_comes_172 : decode cL_comes 172 = .ok (.istore 12, 2) := by decide +kernel
theorem dL_comes_174 : decode cL_comes 174 = .ok (.iinc 13 1, 3) := by decide +kernel
theorem dL_comes_177 : decode cL_comes 177 = .ok (.goto (-105), 3) := by decide +kernel
theorem dL_comes_180 : decode cL_comes 180 = .ok (.iload 12, 2) := by decide +kernel
theorem dL_comes_182 : decode cL_comes 182 = .ok (.ifCond .ge 8, 3) := by decide +kernel
theorem dL_comes_185 : decode cL_comes 185 = .ok (.iload 9, 2) := by decide +kernel
theorem dL_comes_187 : decode cL_comes 187 = .ok (.goto 5, 3) := by decide +kernel
theorem dL_comes_190 : decode cL_comes 190 = .ok (.iload 12, 2) := by decide +kernel
theorem dL_comes_192 : decode cL_comes 192 = .ok (.istore 13, 2) := by decide +kernel
theorem dL_comes_194 : decode cL_comes 194 = .ok (.iload 12, 2) := by decide +kernel
theorem dL_comes_196 : decode cL_comes 196 = .ok (.ifCond .lt 27, 3) := by decide +kernel
theorem dL_comes_199 : decode cL_comes 199 = .ok (.aload 5, 2) := by decide +kernel
theorem dL_comes_201 : decode cL_comes 201 = .ok (.iconst 3, 1) := by decide +kernel
theorem dL_comes_202 : decode cL_comes 202 = .ok (.iload 9, 2) := by decide +kernel
theorem dL_comes_204 : decode cL_comes 204 = .ok (.invokestatic 106, 3) := by decide +kernel
theorem dL_comes_207 : decode cL_comes 207 = .ok (.aload_n 0, 1) := by decide +kernel
theorem dL_comes_208 : decode cL_comes 208 = .ok (.sipush 400, 3) := by decide +kernel
theorem dL_comes_211 : decode cL_comes 211 = .ok (.iload 12, 2) := by decide +kernel
theorem dL_comes_213 : decode cL_comes 213 = .ok (.iadd, 1) := by decide +kernel
theorem dL_comes_214 : decode cL_comes 214 = .ok (.aload_n 0, 1) := by decide +kernel
theorem dL_comes_215 : decode cL_comes 215 = .ok (.iload 12, 2) := by decide +kernel
theorem dL_comes_217 : decode cL_comes 217 = .ok (.invokestatic 87, 3) := by decide +kernel
theorem dL_comes_220 : decode cL_comes 220 = .ok (.invokestatic 102, 3) := by decide +kernel
theorem dL_comes_223 : decode cL_comes 223 = .ok (.iload 12, 2) := by decide +kernel
theorem dL_comes_225 : decode cL_comes 225 = .ok (.ifCond .lt 48, 3) := by decide +kernel
theorem dL_comes_228 : decode cL_comes 228 = .ok (.aload_n 2, 1) := by decide +kernel
theorem dL_comes_229 : decode cL_comes 229 = .ok (.aload 5, 2) := by decide +kernel
theorem dL_comes_231 : decode cL_comes 231 = .ok (.iload 6, 2) := by decide +kernel
theorem dL_comes_233 : decode cL_comes 233 = .ok (.iload 12, 2) := by decide +kernel
theorem dL_comes_235 : decode cL_comes 235 = .ok (.bipush 20, 2) := by decide +kernel
theorem dL_comes_237 : decode cL_comes 237 = .ok (.irem, 1) := by decide +kernel
theorem dL_comes_238 : decode cL_comes 238 = .ok (.iload 12, 2) := by decide +kernel
theorem dL_comes_240 : decode cL_comes 240 = .ok (.bipush 20, 2) := by decide +kernel
theorem dL_comes_242 : decode cL_comes 242 = .ok (.idiv, 1) := by decide +kernel
theorem dL_comes_243 : decode cL_comes 243 = .ok (.invokestatic 114, 3) := by decide +kernel
theorem dL_comes_246 : decode cL_comes 246 = .ok (.ifCond .eq 31, 3) := by decide +kernel
theorem dL_comes_249 : decode cL_comes 249 = .ok (.aload_n 3, 1) := by decide +kernel
theorem dL_comes_250 : decode cL_comes 250 = .ok (.aload 4, 2) := by decide +kernel
theorem dL_comes_252 : decode cL_comes 252 = .ok (.aload 5, 2) := by decide +kernel
theorem dL_comes_254 : decode cL_comes 254 = .ok (.bipush 8, 2) := by decide +kernel
theorem dL_comes_256 : decode cL_comes 256 = .ok (.iaload, 1) := by decide +kernel
theorem dL_comes_257 : decode cL_comes 257 = .ok (.iload 12, 2) := by decide +kernel
theorem dL_comes_259 : decode cL_comes 259 = .ok (.bipush 20, 2) := by decide +kernel
theorem dL_comes_261 : decode cL_comes 261 = .ok (.irem, 1) := by decide +kernel
theorem dL_comes_262 : decode cL_comes 262 = .ok (.iload 12, 2) := by decide +kernel
theorem dL_comes_264 : decode cL_comes 264 = .ok (.bipush 20, 2) := by decide +kernel
theorem dL_comes_266 : decode cL_comes 266 = .ok (.idiv, 1) := by decide +kernel
theorem dL_comes_267 : decode cL_comes 267 = .ok (.invokestatic 118, 3) := by decide +kernel
theorem dL_comes_270 : decode cL_comes 270 = .ok (.ifCond .ne 7, 3) := by decide +kernel
theorem dL_comes_273 : decode cL_comes 273 = .ok (.iconst 1, 1) := by decide +kernel
theorem dL_comes_274 : decode cL_comes 274 = .ok (.goto 4, 3) := by decide +kernel
theorem dL_comes_277 : decode cL_comes 277 = .ok (.iconst 0, 1) := by decide +kernel
theorem dL_comes_278 : decode cL_comes 278 = .ok (.istore 14, 2) := by decide +kernel
theorem dL_comes_280 : decode cL_comes 280 = .ok (.iload 14, 2) := by decide +kernel
theorem dL_comes_282 : decode cL_comes 282 = .ok (.ifCond .eq 34, 3) := by decide +kernel
theorem dL_comes_285 : decode cL_comes 285 = .ok (.aload_n 3, 1) := by decide +kernel
theorem dL_comes_286 : decode cL_comes 286 = .ok (.iload 6, 2) := by decide +kernel
theorem dL_comes_288 : decode cL_comes 288 = .ok (.iload 13, 2) := by decide +kernel
theorem dL_comes_290 : decode cL_comes 290 = .ok (.bipush 20, 2) := by decide +kernel
theorem dL_comes_292 : decode cL_comes 292 = .ok (.irem, 1) := by decide +kernel
theorem dL_comes_293 : decode cL_comes 293 = .ok (.iastore, 1) := by decide +kernel
theorem dL_comes_294 : decode cL_comes 294 = .ok (.aload 4, 2) := by decide +kernel
theorem dL_comes_296 : decode cL_comes 296 = .ok (.iload 6, 2) := by decide +kernel
theorem dL_comes_298 : decode cL_comes 298 = .ok (.iload 13, 2) := by decide +kernel
theorem dL_comes_300 : decode cL_comes 300 = .ok (.bipush 20, 2) := by decide +kernel
theorem dL_comes_302 : decode cL_comes 302 = .ok (.idiv, 1) := by decide +kernel
theorem dL_comes_303 : decode cL_comes 303 = .ok (.iastore, 1) := by decide +kernel
theorem dL_comes_304 : decode cL_comes 304 = .ok (.aload 5, 2) := by decide +kernel
theorem dL_comes_306 : decode cL_comes 306 = .ok (.bipush 8, 2) := by decide +kernel
theorem dL_comes_308 : decode cL_comes 308 = .ok (.dup2, 1) := by decide +kernel
theorem dL_comes_309 : decode cL_comes 309 = .ok (.iaload, 1) := by decide +kernel
theorem dL_comes_310 : decode cL_comes 310 = .ok (.iconst 1, 1) := by decide +kernel
theorem dL_comes_311 : decode cL_comes 311 = .ok (.iload 6, 2) := by decide +kernel
theorem dL_comes_313 : decode cL_comes 313 = .ok (.ishl, 1) := by decide +kernel
theorem dL_comes_314 : decode cL_comes 314 = .ok (.ior, 1) := by decide +kernel
theorem dL_comes_315 : decode cL_comes 315 = .ok (.iastore, 1) := by decide +kernel
theorem dL_comes_316 : decode cL_comes 316 = .ok (.return_, 1) := by decide +kernel
theorem dL_lifts_0 : decode cL_lifts 0 = .ok (.aload 5, 2) := by decide +kernel
theorem dL_lifts_2 : decode cL_lifts 2 = .ok (.bipush 8, 2) := by decide +kernel
theorem dL_lifts_4 : decode cL_lifts 4 = .ok (.iaload, 1) := by decide +kernel
theorem dL_lifts_5 : decode cL_lifts 5 = .ok (.iconst 1, 1) := by decide +kernel
theorem dL_lifts_6 : decode cL_lifts 6 = .ok (.iload 6, 2) := by decide +kernel
theorem dL_lifts_8 : decode cL_lifts 8 = .ok (.ishl, 1) := by decide +kernel
theorem dL_lifts_9 : decode cL_lifts 9 = .ok (.iconst (-1), 1) := by decide +kernel
theorem dL_lifts_10 : decode cL_lifts 10 = .ok (.ixor, 1) := by decide +kernel
theorem dL_lifts_11 : decode cL_lifts 11 = .ok (.iand, 1) := by decide +kernel
theorem dL_lifts_12 : decode cL_lifts 12 = .ok (.istore 7, 2) := by decide +kernel
theorem dL_lifts_14 : decode cL_lifts 14 = .ok (.aload 5, 2) := by decide +kernel
theorem dL_lifts_16 : decode cL_lifts 16 = .ok (.iconst 0, 1) := by decide +kernel
theorem dL_lifts_17 : decode cL_lifts 17 = .ok (.iaload, 1) := by decide +kernel
theorem dL_lifts_18 : decode cL_lifts 18 = .ok (.iconst 1, 1) := by decide +kernel
theorem dL_lifts_19 : decode cL_lifts 19 = .ok (.if_icmp .ne 36, 3) := by decide +kernel
theorem dL_lifts_22 : decode cL_lifts 22 = .ok (.iload 7, 2) := by decide +kernel
theorem dL_lifts_24 : decode cL_lifts 24 = .ok (.aload 5, 2) := by decide +kernel
theorem dL_lifts_26 : decode cL_lifts 26 = .ok (.bipush 8, 2) := by decide +kernel
theorem dL_lifts_28 : decode cL_lifts 28 = .ok (.iaload, 1) := by decide +kernel
theorem dL_lifts_29 : decode cL_lifts 29 = .ok (.if_icmp .eq 26, 3) := by decide +kernel
theorem dL_lifts_32 : decode cL_lifts 32 = .ok (.aload 5, 2) := by decide +kernel
theorem dL_lifts_34 : decode cL_lifts 34 = .ok (.iconst 3, 1) := by decide +kernel
theorem dL_lifts_35 : decode cL_lifts 35 = .ok (.iaload, 1) := by decide +kernel
theorem dL_lifts_36 : decode cL_lifts 36 = .ok (.ifCond .le 19, 3) := by decide +kernel
theorem dL_lifts_39 : decode cL_lifts 39 = .ok (.aload_n 2, 1) := by decide +kernel
theorem dL_lifts_40 : decode cL_lifts 40 = .ok (.aload_n 3, 1) := by decide +kernel
theorem dL_lifts_41 : decode cL_lifts 41 = .ok (.aload 5, 2) := by decide +kernel
theorem dL_lifts_43 : decode cL_lifts 43 = .ok (.iload 7, 2) := by decide +kernel
theorem dL_lifts_45 : decode cL_lifts 45 = .ok (.invokestatic 110, 3) := by decide +kernel
theorem dL_lifts_48 : decode cL_lifts 48 = .ok (.ifCond .eq 7, 3) := by decide +kernel
theorem dL_lifts_51 : decode cL_lifts 51 = .ok (.iconst 1, 1) := by decide +kernel
theorem dL_lifts_52 : decode cL_lifts 52 = .ok (.goto 4, 3) := by decide +kernel
theorem dL_lifts_55 : decode cL_lifts 55 = .ok (.iconst 0, 1) := by decide +kernel
theorem dL_lifts_56 : decode cL_lifts 56 = .ok (.istore 8, 2) := by decide +kernel
theorem dL_lifts_58 : decode cL_lifts 58 = .ok (.aload 5, 2) := by decide +kernel
theorem dL_lifts_60 : decode cL_lifts 60 = .ok (.bipush 14, 2) := by decide +kernel
theorem dL_lifts_62 : decode cL_lifts 62 = .ok (.iconst 0, 1) := by decide +kernel
theorem dL_lifts_63 : decode cL_lifts 63 = .ok (.iastore, 1) := by decide +kernel
theorem dL_lifts_64 : decode cL_lifts 64 = .ok (.iload 8, 2) := by decide +kernel
theorem dL_lifts_66 : decode cL_lifts 66 = .ok (.ifCond .eq 29, 3) := by decide +kernel
theorem dL_lifts_69 : decode cL_lifts 69 = .ok (.aload 5, 2) := by decide +kernel
theorem dL_lifts_71 : decode cL_lifts 71 = .ok (.iconst 3, 1) := by decide +kernel
theorem dL_lifts_72 : decode cL_lifts 72 = .ok (.dup2, 1) := by decide +kernel
theorem dL_lifts_73 : decode cL_lifts 73 = .ok (.iaload, 1) := by decide +kernel
theorem dL_lifts_74 : decode cL_lifts 74 = .ok (.iconst 1, 1) := by decide +kernel
theorem dL_lifts_75 : decode cL_lifts 75 = .ok (.isub, 1) := by decide +kernel
theorem dL_lifts_76 : decode cL_lifts 76 = .ok (.iastore, 1) := by decide +kernel
theorem dL_lifts_77 : decode cL_lifts 77 = .ok (.aload 5, 2) := by decide +kernel
theorem dL_lifts_79 : decode cL_lifts 79 = .ok (.bipush 8, 2) := by decide +kernel
theorem dL_lifts_81 : decode cL_lifts 81 = .ok (.iload 7, 2) := by decide +kernel
theorem dL_lifts_83 : decode cL_lifts 83 = .ok (.iastore, 1) := by decide +kernel
theorem dL_lifts_84 : decode cL_lifts 84 = .ok (.aload_n 0, 1) := by decide +kernel
theorem dL_lifts_85 : decode cL_lifts 85 = .ok (.aload_n 1, 1) := by decide +kernel
theorem dL_lifts_86 : decode cL_lifts 86 = .ok (.aload_n 2, 1) := by decide +kernel
theorem dL_lifts_87 : decode cL_lifts 87 = .ok (.aload_n 3, 1) := by decide +kernel
theorem dL_lifts_88 : decode cL_lifts 88 = .ok (.aload 4, 2) := by decide +kernel
theorem dL_lifts_90 : decode cL_lifts 90 = .ok (.aload 5, 2) := by decide +kernel
theorem dL_lifts_92 : decode cL_lifts 92 = .ok (.invokestatic 121, 3) := by decide +kernel
theorem dL_lifts_95 : decode cL_lifts 95 = .ok (.iload 8, 2) := by decide +kernel
theorem dL_lifts_97 : decode cL_lifts 97 = .ok (.ireturn, 1) := by decide +kernel
theorem dL_places_0 : decode cL_places 0 = .ok (.aload_n 0, 1) := by decide +kernel
theorem dL_places_1 : decode cL_places 1 = .ok (.sipush 400, 3) := by decide +kernel
theorem dL_places_4 : decode cL_places 4 = .ok (.bipush 20, 2) := by decide +kernel
theorem dL_places_6 : decode cL_places 6 = .ok (.iload 10, 2) := by decide +kernel
theorem dL_places_8 : decode cL_places 8 = .ok (.imul, 1) := by decide +kernel
theorem dL_places_9 : decode cL_places 9 = .ok (.iadd, 1) := by decide +kernel
theorem dL_places_10 : decode cL_places 10 = .ok (.iload 9, 2) := by decide +kernel
theorem dL_places_12 : decode cL_places 12 = .ok (.iadd, 1) := by decide +kernel
theorem dL_places_13 : decode cL_places 13 = .ok (.invokestatic 87, 3) := by decide +kernel
theorem dL_places_16 : decode cL_places 16 = .ok (.aload_n 0, 1) := by decide +kernel
theorem dL_places_17 : decode cL_places 17 = .ok (.aload 4, 2) := by decide +kernel
theorem dL_places_19 : decode cL_places 19 = .ok (.aload 5, 2) := by decide +kernel
theorem dL_places_21 : decode cL_places 21 = .ok (.aload 7, 2) := by decide +kernel
theorem dL_places_23 : decode cL_places 23 = .ok (.bipush 8, 2) := by decide +kernel
theorem dL_places_25 : decode cL_places 25 = .ok (.iaload, 1) := by decide +kernel
theorem dL_places_26 : decode cL_places 26 = .ok (.invokestatic 125, 3) := by decide +kernel
theorem dL_places_29 : decode cL_places 29 = .ok (.isub, 1) := by decide +kernel
theorem dL_places_30 : decode cL_places 30 = .ok (.istore 11, 2) := by decide +kernel
theorem dL_places_32 : decode cL_places 32 = .ok (.iconst 1, 1) := by decide +kernel
theorem dL_places_33 : decode cL_places 33 = .ok (.aload_n 3, 1) := by decide +kernel
theorem dL_places_34 : decode cL_places 34 = .ok (.aload 7, 2) := by decide +kernel
theorem dL_places_36 : decode cL_places 36 = .ok (.iload 8, 2) := by decide +kernel
theorem dL_places_38 : decode cL_places 38 = .ok (.iload 9, 2) := by decide +kernel
theorem dL_places_40 : decode cL_places 40 = .ok (.iload 10, 2) := by decide +kernel
theorem dL_places_42 : decode cL_places 42 = .ok (.invokestatic 129, 3) := by decide +kernel
theorem dL_places_45 : decode cL_places 45 = .ok (.iadd, 1) := by decide +kernel
theorem dL_places_46 : decode cL_places 46 = .ok (.istore 12, 2) := by decide +kernel
theorem dL_places_48 : decode cL_places 48 = .ok (.aload 7, 2) := by decide +kernel
theorem dL_places_50 : decode cL_places 50 = .ok (.iconst 0, 1) := by decide +kernel
theorem dL_places_51 : decode cL_places 51 = .ok (.iaload, 1) := by decide +kernel
theorem dL_places_52 : decode cL_places 52 = .ok (.iconst 1, 1) := by decide +kernel
theorem dL_places_53 : decode cL_places 53 = .ok (.if_icmp .ne 76, 3) := by decide +kernel
theorem dL_places_56 : decode cL_places 56 = .ok (.aload 7, 2) := by decide +kernel
theorem dL_places_58 : decode cL_places 58 = .ok (.bipush 8, 2) := by decide +kernel
theorem dL_places_60 : decode cL_places 60 = .ok (.iaload, 1) := by decide +kernel
theorem dL_places_61 : decode cL_places 61 = .ok (.iload 8, 2) := by decide +kernel
theorem dL_places_63 : decode cL_places 63 = .ok (.ishr, 1) := by decide +kernel
theorem dL_places_64 : decode cL_places 64 = .ok (.iconst 1, 1) := by decide +kernel
theorem dL_places_65 : decode cL_places 65 = .ok (.iand, 1) := by decide +kernel
theorem dL_places_66 : decode cL_places 66 = .ok (.ifCond .ne 63, 3) := by decide +kernel
theorem dL_places_69 : decode cL_places 69 = .ok (.aload 7, 2) := by decide +kernel
theorem dL_places_71 : decode cL_places 71 = .ok (.iconst 3, 1) := by decide +kernel
theorem dL_places_72 : decode cL_places 72 = .ok (.iaload, 1) := by decide +kernel
theorem dL_places_73 : decode cL_places 73 = .ok (.iload 12, 2) := by decide +kernel
theorem dL_places_75 : decode cL_places 75 = .ok (.if_icmp .lt 54, 3) := by decide +kernel
theorem dL_places_78 : decode cL_places 78 = .ok (.aload_n 3, 1) := by decide +kernel
theorem dL_places_79 : decode cL_places 79 = .ok (.aload 7, 2) := by decide +kernel
theorem dL_places_81 : decode cL_places 81 = .ok (.iload 8, 2) := by decide +kernel
theorem dL_places_83 : decode cL_places 83 = .ok (.iload 9, 2) := by decide +kernel
theorem dL_places_85 : decode cL_places 85 = .ok (.iload 10, 2) := by decide +kernel
theorem dL_places_87 : decode cL_places 87 = .ok (.invokestatic 114, 3) := by decide +kernel
theorem dL_places_90 : decode cL_places 90 = .ok (.ifCond .eq 39, 3) := by decide +kernel
theorem dL_places_93 : decode cL_places 93 = .ok (.aload 4, 2) := by decide +kernel
theorem dL_places_95 : decode cL_places 95 = .ok (.aload 5, 2) := by decide +kernel
theorem dL_places_97 : decode cL_places 97 = .ok (.aload 7, 2) := by decide +kernel
theorem dL_places_99 : decode cL_places 99 = .ok (.bipush 8, 2) := by decide +kernel
theorem dL_places_101 : decode cL_places 101 = .ok (.iaload, 1) := by decide +kernel
theorem dL_places_102 : decode cL_places 102 = .ok (.iload 9, 2) := by decide +kernel
theorem dL_places_104 : decode cL_places 104 = .ok (.iload 10, 2) := by decide +kernel
theorem dL_places_106 : decode cL_places 106 = .ok (.invokestatic 118, 3) := by decide +kernel
theorem dL_places_109 : decode cL_places 109 = .ok (.ifCond .ne 20, 3) := by decide +kernel
theorem dL_places_112 : decode cL_places 112 = .ok (.iload 11, 2) := by decide +kernel
theorem dL_places_114 : decode cL_places 114 = .ok (.iconst 3, 1) := by decide +kernel
theorem dL_places_115 : decode cL_places 115 = .ok (.if_icmp .ge 14, 3) := by decide +kernel
theorem dL_places_118 : decode cL_places 118 = .ok (.iload 11, 2) := by decide +kernel
theorem dL_places_120 : decode cL_places 120 = .ok (.bipush (-3), 2) := by decide +kernel
theorem dL_places_122 : decode cL_places 122 = .ok (.if_icmp .le 7, 3) := by decide +kernel
theorem dL_places_125 : decode cL_places 125 = .ok (.iconst 1, 1) := by decide +kernel
theorem dL_places_126 : decode cL_places 126 = .ok (.goto 4, 3) := by decide +kernel
theorem dL_places_129 : decode cL_places 129 = .ok (.iconst 0, 1) := by decide +kernel
theorem dL_places_130 : decode cL_places 130 = .ok (.istore 13, 2) := by decide +kernel
theorem dL_places_132 : decode cL_places 132 = .ok (.aload 7, 2) := by decide +kernel
theorem dL_places_134 : decode cL_places 134 = .ok (.bipush 14, 2) := by decide +kernel
theorem dL_places_136 : decode cL_places 136 = .ok (.iconst 0, 1) := by decide +kernel
theorem dL_places_137 : decode cL_places 137 = .ok (.iastore, 1) := by decide +kernel
theorem dL_places_138 : decode cL_places 138 = .ok (.iload 13, 2) := by decide +kernel
theorem dL_places_140 : decode cL_places 140 = .ok (.ifCond .eq 43, 3) := by decide +kernel
theorem dL_places_143 : decode cL_places 143 = .ok (.aload 7, 2) := by decide +kernel
theorem dL_places_145 : decode cL_places 145 = .ok (.iconst 3, 1) := by decide +kernel
theorem dL_places_146 : decode cL_places 146 = .ok (.dup2, 1) := by decide +kernel
theorem dL_places_147 : decode cL_places 147 = .ok (.iaload, 1) := by decide +kernel
theorem dL_places_148 : decode cL_places 148 = .ok (.iload 12, 2) := by decide +kernel
theorem dL_places_150 : decode cL_places 150 = .ok (.isub, 1) := by decide +kernel
theorem dL_places_151 : decode cL_places 151 = .ok (.iastore, 1) := by decide +kernel
theorem dL_places_152 : decode cL_places 152 = .ok (.aload_n 0, 1) := by decide +kernel
theorem dL_places_153 : decode cL_places 153 = .ok (.aload_n 1, 1) := by decide +kernel
theorem dL_places_154 : decode cL_places 154 = .ok (.aload_n 3, 1) := by decide +kernel
theorem dL_places_155 : decode cL_places 155 = .ok (.aload 4, 2) := by decide +kernel
theorem dL_places_157 : decode cL_places 157 = .ok (.aload 5, 2) := by decide +kernel
theorem dL_places_159 : decode cL_places 159 = .ok (.aload 7, 2) := by decide +kernel
theorem dL_places_161 : decode cL_places 161 = .ok (.iload 8, 2) := by decide +kernel
theorem dL_places_163 : decode cL_places 163 = .ok (.iload 9, 2) := by decide +kernel
theorem dL_places_165 : decode cL_places 165 = .ok (.iload 10, 2) := by decide +kernel
theorem dL_places_167 : decode cL_places 167 = .ok (.invokestatic 133, 3) := by decide +kernel
theorem dL_places_170 : decode cL_places 170 = .ok (.aload_n 0, 1) := by decide +kernel
theorem dL_places_171 : decode cL_places 171 = .ok (.aload_n 2, 1) := by decide +kernel
theorem dL_places_172 : decode cL_places 172 = .ok (.aload 4, 2) := by decide +kernel
theorem dL_places_174 : decode cL_places 174 = .ok (.aload 5, 2) := by decide +kernel
theorem dL_places_176 : decode cL_places 176 = .ok (.aload 6, 2) := by decide +kernel
theorem dL_places_178 : decode cL_places 178 = .ok (.aload 7, 2) := by decide +kernel
theorem dL_places_180 : decode cL_places 180 = .ok (.invokestatic 121, 3) := by decide +kernel
theorem dL_places_183 : decode cL_places 183 = .ok (.iload 13, 2) := by decide +kernel
theorem dL_places_185 : decode cL_places 185 = .ok (.ireturn, 1) := by decide +kernel
theorem dL_canShift_0 : decode cL_canShift 0 = .ok (.aload_n 3, 1) := by decide +kernel
theorem dL_canShift_1 : decode cL_canShift 1 = .ok (.iconst 1, 1) := by decide +kernel
theorem dL_canShift_2 : decode cL_canShift 2 = .ok (.dup2, 1) := by decide +kernel
theorem dL_canShift_3 : decode cL_canShift 3 = .ok (.iaload, 1) := by decide +kernel
theorem dL_canShift_4 : decode cL_canShift 4 = .ok (.iload 4, 2) := by decide +kernel
theorem dL_canShift_6 : decode cL_canShift 6 = .ok (.iadd, 1) := by decide +kernel
theorem dL_canShift_7 : decode cL_canShift 7 = .ok (.iastore, 1) := by decide +kernel
theorem dL_canShift_8 : decode cL_canShift 8 = .ok (.aload_n 3, 1) := by decide +kernel
theorem dL_canShift_9 : decode cL_canShift 9 = .ok (.iconst 2, 1) := by decide +kernel
theorem dL_canShift_10 : decode cL_canShift 10 = .ok (.dup2, 1) := by decide +kernel
theorem dL_canShift_11 : decode cL_canShift 11 = .ok (.iaload, 1) := by decide +kernel
theorem dL_canShift_12 : decode cL_canShift 12 = .ok (.iload 5, 2) := by decide +kernel
theorem dL_canShift_14 : decode cL_canShift 14 = .ok (.iadd, 1) := by decide +kernel
theorem dL_canShift_15 : decode cL_canShift 15 = .ok (.iastore, 1) := by decide +kernel
theorem dL_canShift_16 : decode cL_canShift 16 = .ok (.aload_n 3, 1) := by decide +kernel
theorem dL_canShift_17 : decode cL_canShift 17 = .ok (.iconst 0, 1) := by decide +kernel
theorem dL_canShift_18 : decode cL_canShift 18 = .ok (.iaload, 1) := by decide +kernel
theorem dL_canShift_19 : decode cL_canShift 19 = .ok (.iconst 1, 1) := by decide +kernel
theorem dL_canShift_20 : decode cL_canShift 20 = .ok (.if_icmp .ne 32, 3) := by decide +kernel
theorem dL_canShift_23 : decode cL_canShift 23 = .ok (.aload_n 3, 1) := by decide +kernel
theorem dL_canShift_24 : decode cL_canShift 24 = .ok (.iconst 1, 1) := by decide +kernel
theorem dL_canShift_25 : decode cL_canShift 25 = .ok (.iaload, 1) := by decide +kernel
theorem dL_canShift_26 : decode cL_canShift 26 = .ok (.aload_n 3, 1) := by decide +kernel
theorem dL_canShift_27 : decode cL_canShift 27 = .ok (.iconst 2, 1) := by decide +kernel
theorem dL_canShift_28 : decode cL_canShift 28 = .ok (.iaload, 1) := by decide +kernel
theorem dL_canShift_29 : decode cL_canShift 29 = .ok (.invokestatic 137, 3) := by decide +kernel
theorem dL_canShift_32 : decode cL_canShift 32 = .ok (.ifCond .eq 20, 3) := by decide +kernel
theorem dL_canShift_35 : decode cL_canShift 35 = .ok (.aload_n 1, 1) := by decide +kernel
theorem dL_canShift_36 : decode cL_canShift 36 = .ok (.aload_n 2, 1) := by decide +kernel
theorem dL_canShift_37 : decode cL_canShift 37 = .ok (.aload_n 3, 1) := by decide +kernel
theorem dL_canShift_38 : decode cL_canShift 38 = .ok (.aload_n 3, 1) := by decide +kernel
theorem dL_canShift_39 : decode cL_canShift 39 = .ok (.bipush 8, 2) := by decide +kernel
theorem dL_canShift_41 : decode cL_canShift 41 = .ok (.iaload, 1) := by decide +kernel
theorem dL_canShift_42 : decode cL_canShift 42 = .ok (.invokestatic 110, 3) := by decide +kernel
theorem dL_canShift_45 : decode cL_canShift 45 = .ok (.ifCond .eq 7, 3) := by decide +kernel
theorem dL_canShift_48 : decode cL_canShift 48 = .ok (.iconst 1, 1) := by decide +kernel
theorem dL_canShift_49 : decode cL_canShift 49 = .ok (.goto 4, 3) := by decide +kernel
theorem dL_canShift_52 : decode cL_canShift 52 = .ok (.iconst 0, 1) := by decide +kernel
theorem dL_canShift_53 : decode cL_canShift 53 = .ok (.istore 6, 2) := by decide +kernel
theorem dL_canShift_55 : decode cL_canShift 55 = .ok (.iconst 0, 1) := by decide +kernel
theorem dL_canShift_56 : decode cL_canShift 56 = .ok (.istore 7, 2) := by decide +kernel
theorem dL_canShift_58 : decode cL_canShift 58 = .ok (.iload 7, 2) := by decide +kernel
theorem dL_canShift_60 : decode cL_canShift 60 = .ok (.aload_n 3, 1) := by decide +kernel
theorem dL_canShift_61 : decode cL_canShift 61 = .ok (.bipush 7, 2) := by decide +kernel
theorem dL_canShift_63 : decode cL_canShift 63 = .ok (.iaload, 1) := by decide +kernel
theorem dL_canShift_64 : decode cL_canShift 64 = .ok (.if_icmp .ge 51, 3) := by decide +kernel
theorem dL_canShift_67 : decode cL_canShift 67 = .ok (.iload 6, 2) := by decide +kernel
theorem dL_canShift_69 : decode cL_canShift 69 = .ok (.ifCond .eq 37, 3) := by decide +kernel
theorem dL_canShift_72 : decode cL_canShift 72 = .ok (.aload_n 3, 1) := by decide +kernel
theorem dL_canShift_73 : decode cL_canShift 73 = .ok (.bipush 8, 2) := by decide +kernel
theorem dL_canShift_75 : decode cL_canShift 75 = .ok (.iaload, 1) := by decide +kernel
theorem dL_canShift_76 : decode cL_canShift 76 = .ok (.iload 7, 2) := by decide +kernel
theorem dL_canShift_78 : decode cL_canShift 78 = .ok (.ishr, 1) := by decide +kernel
theorem dL_canShift_79 : decode cL_canShift 79 = .ok (.iconst 1, 1) := by decide +kernel
theorem dL_canShift_80 : decode cL_canShift 80 = .ok (.iand, 1) := by decide +kernel
theorem dL_canShift_81 : decode cL_canShift 81 = .ok (.ifCond .eq 21, 3) := by decide +kernel
theorem dL_canShift_84 : decode cL_canShift 84 = .ok (.aload_n 0, 1) := by decide +kernel
theorem dL_canShift_85 : decode cL_canShift 85 = .ok (.aload_n 3, 1) := by decide +kernel
theorem dL_canShift_86 : decode cL_canShift 86 = .ok (.iload 7, 2) := by decide +kernel
theorem dL_canShift_88 : decode cL_canShift 88 = .ok (.aload_n 1, 1) := by decide +kernel
theorem dL_canShift_89 : decode cL_canShift 89 = .ok (.iload 7, 2) := by decide +kernel
theorem dL_canShift_91 : decode cL_canShift 91 = .ok (.iaload, 1) := by decide +kernel
theorem dL_canShift_92 : decode cL_canShift 92 = .ok (.aload_n 2, 1) := by decide +kernel
theorem dL_canShift_93 : decode cL_canShift 93 = .ok (.iload 7, 2) := by decide +kernel
theorem dL_canShift_95 : decode cL_canShift 95 = .ok (.iaload, 1) := by decide +kernel
theorem dL_canShift_96 : decode cL_canShift 96 = .ok (.invokestatic 114, 3) := by decide +kernel
theorem dL_canShift_99 : decode cL_canShift 99 = .ok (.ifCond .eq 7, 3) := by decide +kernel
theorem dL_canShift_102 : decode cL_canShift 102 = .ok (.iconst 1, 1) := by decide +kernel
theorem dL_canShift_103 : decode cL_canShift 103 = .ok (.goto 4, 3) := by decide +kernel
theorem dL_canShift_106 : decode cL_canShift 106 = .ok (.iconst 0, 1) := by decide +kernel
theorem dL_canShift_107 : decode cL_canShift 107 = .ok (.istore 6, 2) := by decide +kernel
theorem dL_canShift_109 : decode cL_canShift 109 = .ok (.iinc 7 1, 3) := by decide +kernel
theorem dL_canShift_112 : decode cL_canShift 112 = .ok (.goto (-54), 3) := by decide +kernel
theorem dL_canShift_115 : decode cL_canShift 115 = .ok (.aload_n 3, 1) := by decide +kernel
theorem dL_canShift_116 : decode cL_canShift 116 = .ok (.iconst 1, 1) := by decide +kernel
theorem dL_canShift_117 : decode cL_canShift 117 = .ok (.dup2, 1) := by decide +kernel
theorem dL_canShift_118 : decode cL_canShift 118 = .ok (.iaload, 1) := by decide +kernel
theorem dL_canShift_119 : decode cL_canShift 119 = .ok (.iload 4, 2) := by decide +kernel
theorem dL_canShift_121 : decode cL_canShift 121 = .ok (.isub, 1) := by decide +kernel
theorem dL_canShift_122 : decode cL_canShift 122 = .ok (.iastore, 1) := by decide +kernel
theorem dL_canShift_123 : decode cL_canShift 123 = .ok (.aload_n 3, 1) := by decide +kernel
theorem dL_canShift_124 : decode cL_canShift 124 = .ok (.iconst 2, 1) := by decide +kernel
theorem dL_canShift_125 : decode cL_canShift 125 = .ok (.dup2, 1) := by decide +kernel
theorem dL_canShift_126 : decode cL_canShift 126 = .ok (.iaload, 1) := by decide +kernel
theorem dL_canShift_127 : decode cL_canShift 127 = .ok (.iload 5, 2) := by decide +kernel
theorem dL_canShift_129 : decode cL_canShift 129 = .ok (.isub, 1) := by decide +kernel
theorem dL_canShift_130 : decode cL_canShift 130 = .ok (.iastore, 1) := by decide +kernel
theorem dL_canShift_131 : decode cL_canShift 131 = .ok (.iload 6, 2) := by decide +kernel
theorem dL_canShift_133 : decode cL_canShift 133 = .ok (.ireturn, 1) := by decide +kernel
theorem dL_shifts_0 : decode cL_shifts 0 = .ok (.iconst 1, 1) := by decide +kernel
theorem dL_shifts_1 : decode cL_shifts 1 = .ok (.aload 6, 2) := by decide +kernel
theorem dL_shifts_3 : decode cL_shifts 3 = .ok (.iconst 4, 1) := by decide +kernel
theorem dL_shifts_4 : decode cL_shifts 4 = .ok (.iaload, 1) := by decide +kernel
theorem dL_shifts_5 : decode cL_shifts 5 = .ok (.bipush 9, 2) := by decide +kernel
theorem dL_shifts_7 : decode cL_shifts 7 = .ok (.iadd, 1) := by decide +kernel
theorem dL_shifts_8 : decode cL_shifts 8 = .ok (.bipush 10, 2) := by decide +kernel
theorem dL_shifts_10 : decode cL_shifts 10 = .ok (.idiv, 1) := by decide +kernel
theorem dL_shifts_11 : decode cL_shifts 11 = .ok (.iadd, 1) := by decide +kernel
theorem dL_shifts_12 : decode cL_shifts 12 = .ok (.istore 9, 2) := by decide +kernel
theorem dL_shifts_14 : decode cL_shifts 14 = .ok (.aload_n 2, 1) := by decide +kernel
theorem dL_shifts_15 : decode cL_shifts 15 = .ok (.aload_n 3, 1) := by decide +kernel
theorem dL_shifts_16 : decode cL_shifts 16 = .ok (.aload 4, 2) := by decide +kernel
theorem dL_shifts_18 : decode cL_shifts 18 = .ok (.aload 6, 2) := by decide +kernel
theorem dL_shifts_20 : decode cL_shifts 20 = .ok (.iload 7, 2) := by decide +kernel
theorem dL_shifts_22 : decode cL_shifts 22 = .ok (.iload 8, 2) := by decide +kernel
theorem dL_shifts_24 : decode cL_shifts 24 = .ok (.invokestatic 141, 3) := by decide +kernel
theorem dL_shifts_27 : decode cL_shifts 27 = .ok (.ifCond .eq 16, 3) := by decide +kernel
theorem dL_shifts_30 : decode cL_shifts 30 = .ok (.aload 6, 2) := by decide +kernel
theorem dL_shifts_32 : decode cL_shifts 32 = .ok (.iconst 3, 1) := by decide +kernel
theorem dL_shifts_33 : decode cL_shifts 33 = .ok (.iaload, 1) := by decide +kernel
theorem dL_shifts_34 : decode cL_shifts 34 = .ok (.iload 9, 2) := by decide +kernel
theorem dL_shifts_36 : decode cL_shifts 36 = .ok (.if_icmp .lt 7, 3) := by decide +kernel
theorem dL_shifts_39 : decode cL_shifts 39 = .ok (.iconst 1, 1) := by decide +kernel
theorem dL_shifts_40 : decode cL_shifts 40 = .ok (.goto 4, 3) := by decide +kernel
theorem dL_shifts_43 : decode cL_shifts 43 = .ok (.iconst 0, 1) := by decide +kernel
theorem dL_shifts_44 : decode cL_shifts 44 = .ok (.istore 10, 2) := by decide +kernel
theorem dL_shifts_46 : decode cL_shifts 46 = .ok (.aload 6, 2) := by decide +kernel
theorem dL_shifts_48 : decode cL_shifts 48 = .ok (.bipush 14, 2) := by decide +kernel
theorem dL_shifts_50 : decode cL_shifts 50 = .ok (.iconst 0, 1) := by decide +kernel
theorem dL_shifts_51 : decode cL_shifts 51 = .ok (.iastore, 1) := by decide +kernel
theorem dL_shifts_52 : decode cL_shifts 52 = .ok (.iload 10, 2) := by decide +kernel
theorem dL_shifts_54 : decode cL_shifts 54 = .ok (.ifCond .eq 42, 3) := by decide +kernel
theorem dL_shifts_57 : decode cL_shifts 57 = .ok (.aload 6, 2) := by decide +kernel
theorem dL_shifts_59 : decode cL_shifts 59 = .ok (.iconst 3, 1) := by decide +kernel
theorem dL_shifts_60 : decode cL_shifts 60 = .ok (.dup2, 1) := by decide +kernel
theorem dL_shifts_61 : decode cL_shifts 61 = .ok (.iaload, 1) := by decide +kernel
theorem dL_shifts_62 : decode cL_shifts 62 = .ok (.iload 9, 2) := by decide +kernel
theorem dL_shifts_64 : decode cL_shifts 64 = .ok (.isub, 1) := by decide +kernel
theorem dL_shifts_65 : decode cL_shifts 65 = .ok (.iastore, 1) := by decide +kernel
theorem dL_shifts_66 : decode cL_shifts 66 = .ok (.aload 6, 2) := by decide +kernel
theorem dL_shifts_68 : decode cL_shifts 68 = .ok (.iconst 1, 1) := by decide +kernel
theorem dL_shifts_69 : decode cL_shifts 69 = .ok (.dup2, 1) := by decide +kernel
theorem dL_shifts_70 : decode cL_shifts 70 = .ok (.iaload, 1) := by decide +kernel
theorem dL_shifts_71 : decode cL_shifts 71 = .ok (.iload 7, 2) := by decide +kernel
theorem dL_shifts_73 : decode cL_shifts 73 = .ok (.iadd, 1) := by decide +kernel
theorem dL_shifts_74 : decode cL_shifts 74 = .ok (.iastore, 1) := by decide +kernel
theorem dL_shifts_75 : decode cL_shifts 75 = .ok (.aload 6, 2) := by decide +kernel
theorem dL_shifts_77 : decode cL_shifts 77 = .ok (.iconst 2, 1) := by decide +kernel
theorem dL_shifts_78 : decode cL_shifts 78 = .ok (.dup2, 1) := by decide +kernel
theorem dL_shifts_79 : decode cL_shifts 79 = .ok (.iaload, 1) := by decide +kernel
theorem dL_shifts_80 : decode cL_shifts 80 = .ok (.iload 8, 2) := by decide +kernel
theorem dL_shifts_82 : decode cL_shifts 82 = .ok (.iadd, 1) := by decide +kernel
theorem dL_shifts_83 : decode cL_shifts 83 = .ok (.iastore, 1) := by decide +kernel
theorem dL_shifts_84 : decode cL_shifts 84 = .ok (.aload_n 0, 1) := by decide +kernel
theorem dL_shifts_85 : decode cL_shifts 85 = .ok (.aload_n 1, 1) := by decide +kernel
theorem dL_shifts_86 : decode cL_shifts 86 = .ok (.aload_n 3, 1) := by decide +kernel
theorem dL_shifts_87 : decode cL_shifts 87 = .ok (.aload 4, 2) := by decide +kernel
theorem dL_shifts_89 : decode cL_shifts 89 = .ok (.aload 5, 2) := by decide +kernel
theorem dL_shifts_91 : decode cL_shifts 91 = .ok (.aload 6, 2) := by decide +kernel
theorem dL_shifts_93 : decode cL_shifts 93 = .ok (.invokestatic 121, 3) := by decide +kernel
theorem dL_shifts_96 : decode cL_shifts 96 = .ok (.iload 10, 2) := by decide +kernel
theorem dL_shifts_98 : decode cL_shifts 98 = .ok (.ireturn, 1) := by decide +kernel
theorem dL_nearest_0 : decode cL_nearest 0 = .ok (.iconst 0, 1) := by decide +kernel
theorem dL_nearest_1 : decode cL_nearest 1 = .ok (.istore_n 2, 1) := by decide +kernel
theorem dL_nearest_2 : decode cL_nearest 2 = .ok (.iload_n 2, 1) := by decide +kernel
theorem dL_nearest_3 : decode cL_nearest 3 = .ok (.bipush 63, 2) := by decide +kernel
theorem dL_nearest_5 : decode cL_nearest 5 = .ok (.if_icmp .ge 17, 3) := by decide +kernel
theorem dL_nearest_8 : decode cL_nearest 8 = .ok (.lload_n 0, 1) := by decide +kernel
theorem dL_nearest_9 : decode cL_nearest 9 = .ok (.iload_n 2, 1) := by decide +kernel
theorem dL_nearest_10 : decode cL_nearest 10 = .ok (.lshr, 1) := by decide +kernel
theorem dL_nearest_11 : decode cL_nearest 11 = .ok (.lconst 0, 1) := by decide +kernel
theorem dL_nearest_12 : decode cL_nearest 12 = .ok (.lcmp, 1) := by decide +kernel
theorem dL_nearest_13 : decode cL_nearest 13 = .ok (.ifCond .le 9, 3) := by decide +kernel
theorem dL_nearest_16 : decode cL_nearest 16 = .ok (.iinc 2 1, 3) := by decide +kernel
theorem dL_nearest_19 : decode cL_nearest 19 = .ok (.goto (-17), 3) := by decide +kernel
theorem dL_nearest_22 : decode cL_nearest 22 = .ok (.iload_n 2, 1) := by decide +kernel
theorem dL_nearest_23 : decode cL_nearest 23 = .ok (.bipush 24, 2) := by decide +kernel
theorem dL_nearest_25 : decode cL_nearest 25 = .ok (.isub, 1) := by decide +kernel
theorem dL_nearest_26 : decode cL_nearest 26 = .ok (.istore_n 3, 1) := by decide +kernel
theorem dL_nearest_27 : decode cL_nearest 27 = .ok (.iload_n 3, 1) := by decide +kernel
theorem dL_nearest_28 : decode cL_nearest 28 = .ok (.ifCond .gt 10, 3) := by decide +kernel
theorem dL_nearest_31 : decode cL_nearest 31 = .ok (.lload_n 0, 1) := by decide +kernel
theorem dL_nearest_32 : decode cL_nearest 32 = .ok (.iload_n 3, 1) := by decide +kernel
theorem dL_nearest_33 : decode cL_nearest 33 = .ok (.ineg, 1) := by decide +kernel
theorem dL_nearest_34 : decode cL_nearest 34 = .ok (.lshl, 1) := by decide +kernel
theorem dL_nearest_35 : decode cL_nearest 35 = .ok (.goto 6, 3) := by decide +kernel
theorem dL_nearest_38 : decode cL_nearest 38 = .ok (.lload_n 0, 1) := by decide +kernel
theorem dL_nearest_39 : decode cL_nearest 39 = .ok (.iload_n 3, 1) := by decide +kernel
theorem dL_nearest_40 : decode cL_nearest 40 = .ok (.lshr, 1) := by decide +kernel
theorem dL_nearest_41 : decode cL_nearest 41 = .ok (.lstore 4, 2) := by decide +kernel
theorem dL_nearest_43 : decode cL_nearest 43 = .ok (.iload_n 3, 1) := by decide +kernel
theorem dL_nearest_44 : decode cL_nearest 44 = .ok (.ifCond .gt 7, 3) := by decide +kernel
theorem dL_nearest_47 : decode cL_nearest 47 = .ok (.lconst 0, 1) := by decide +kernel
theorem dL_nearest_48 : decode cL_nearest 48 = .ok (.goto 9, 3) := by decide +kernel
theorem dL_nearest_51 : decode cL_nearest 51 = .ok (.lload_n 0, 1) := by decide +kernel
theorem dL_nearest_52 : decode cL_nearest 52 = .ok (.lload 4, 2) := by decide +kernel
theorem dL_nearest_54 : decode cL_nearest 54 = .ok (.iload_n 3, 1) := by decide +kernel
theorem dL_nearest_55 : decode cL_nearest 55 = .ok (.lshl, 1) := by decide +kernel
theorem dL_nearest_56 : decode cL_nearest 56 = .ok (.lsub, 1) := by decide +kernel
theorem dL_nearest_57 : decode cL_nearest 57 = .ok (.lstore 6, 2) := by decide +kernel
theorem dL_nearest_59 : decode cL_nearest 59 = .ok (.iload_n 3, 1) := by decide +kernel
theorem dL_nearest_60 : decode cL_nearest 60 = .ok (.ifCond .gt 7, 3) := by decide +kernel
theorem dL_nearest_63 : decode cL_nearest 63 = .ok (.lconst 1, 1) := by decide +kernel
theorem dL_nearest_64 : decode cL_nearest 64 = .ok (.goto 8, 3) := by decide +kernel
theorem dL_nearest_67 : decode cL_nearest 67 = .ok (.lconst 1, 1) := by decide +kernel
theorem dL_nearest_68 : decode cL_nearest 68 = .ok (.iload_n 3, 1) := by decide +kernel
theorem dL_nearest_69 : decode cL_nearest 69 = .ok (.iconst 1, 1) := by decide +kernel
theorem dL_nearest_70 : decode cL_nearest 70 = .ok (.isub, 1) := by decide +kernel
theorem dL_nearest_71 : decode cL_nearest 71 = .ok (.lshl, 1) := by decide +kernel
theorem dL_nearest_72 : decode cL_nearest 72 = .ok (.lstore 8, 2) := by decide +kernel
theorem dL_nearest_74 : decode cL_nearest 74 = .ok (.lload 4, 2) := by decide +kernel
theorem dL_nearest_76 : decode cL_nearest 76 = .ok (.lload 6, 2) := by decide +kernel
theorem dL_nearest_78 : decode cL_nearest 78 = .ok (.lload 8, 2) := by decide +kernel
theorem dL_nearest_80 : decode cL_nearest 80 = .ok (.lcmp, 1) := by decide +kernel
theorem dL_nearest_81 : decode cL_nearest 81 = .ok (.ifCond .gt 22, 3) := by decide +kernel
theorem dL_nearest_84 : decode cL_nearest 84 = .ok (.lload 6, 2) := by decide +kernel
theorem dL_nearest_86 : decode cL_nearest 86 = .ok (.lload 8, 2) := by decide +kernel
theorem dL_nearest_88 : decode cL_nearest 88 = .ok (.lcmp, 1) := by decide +kernel
theorem dL_nearest_89 : decode cL_nearest 89 = .ok (.ifCond .ne 18, 3) := by decide +kernel
theorem dL_nearest_92 : decode cL_nearest 92 = .ok (.lload 4, 2) := by decide +kernel
theorem dL_nearest_94 : decode cL_nearest 94 = .ok (.ldc2_w 145, 3) := by decide +kernel
theorem dL_nearest_97 : decode cL_nearest 97 = .ok (.lrem, 1) := by decide +kernel
theorem dL_nearest_98 : decode cL_nearest 98 = .ok (.lconst 1, 1) := by decide +kernel
theorem dL_nearest_99 : decode cL_nearest 99 = .ok (.lcmp, 1) := by decide +kernel
theorem dL_nearest_100 : decode cL_nearest 100 = .ok (.ifCond .ne 7, 3) := by decide +kernel
theorem dL_nearest_103 : decode cL_nearest 103 = .ok (.lconst 1, 1) := by decide +kernel
theorem dL_nearest_104 : decode cL_nearest 104 = .ok (.goto 4, 3) := by decide +kernel
theorem dL_nearest_107 : decode cL_nearest 107 = .ok (.lconst 0, 1) := by decide +kernel
theorem dL_nearest_108 : decode cL_nearest 108 = .ok (.ladd, 1) := by decide +kernel
theorem dL_nearest_109 : decode cL_nearest 109 = .ok (.lstore 4, 2) := by decide +kernel
theorem dL_nearest_111 : decode cL_nearest 111 = .ok (.iload_n 3, 1) := by decide +kernel
theorem dL_nearest_112 : decode cL_nearest 112 = .ok (.lload 4, 2) := by decide +kernel
theorem dL_nearest_114 : decode cL_nearest 114 = .ok (.ldc2_w 147, 3) := by decide +kernel
theorem dL_nearest_117 : decode cL_nearest 117 = .ok (.lcmp, 1) := by decide +kernel
theorem dL_nearest_118 : decode cL_nearest 118 = .ok (.ifCond .ne 7, 3) := by decide +kernel
theorem dL_nearest_121 : decode cL_nearest 121 = .ok (.iconst 1, 1) := by decide +kernel
theorem dL_nearest_122 : decode cL_nearest 122 = .ok (.goto 4, 3) := by decide +kernel
theorem dL_nearest_125 : decode cL_nearest 125 = .ok (.iconst 0, 1) := by decide +kernel
theorem dL_nearest_126 : decode cL_nearest 126 = .ok (.iadd, 1) := by decide +kernel
theorem dL_nearest_127 : decode cL_nearest 127 = .ok (.istore_n 3, 1) := by decide +kernel
theorem dL_nearest_128 : decode cL_nearest 128 = .ok (.lload 4, 2) := by decide +kernel
theorem dL_nearest_130 : decode cL_nearest 130 = .ok (.ldc2_w 147, 3) := by decide +kernel
theorem dL_nearest_133 : decode cL_nearest 133 = .ok (.lcmp, 1) := by decide +kernel
theorem dL_nearest_134 : decode cL_nearest 134 = .ok (.ifCond .ne 9, 3) := by decide +kernel
theorem dL_nearest_137 : decode cL_nearest 137 = .ok (.ldc2_w 149, 3) := by decide +kernel
theorem dL_nearest_140 : decode cL_nearest 140 = .ok (.goto 5, 3) := by decide +kernel
theorem dL_nearest_143 : decode cL_nearest 143 = .ok (.lload 4, 2) := by decide +kernel
theorem dL_nearest_145 : decode cL_nearest 145 = .ok (.lstore 4, 2) := by decide +kernel
theorem dL_nearest_147 : decode cL_nearest 147 = .ok (.lload 4, 2) := by decide +kernel
theorem dL_nearest_149 : decode cL_nearest 149 = .ok (.iload_n 3, 1) := by decide +kernel
theorem dL_nearest_150 : decode cL_nearest 150 = .ok (.bipush 64, 2) := by decide +kernel
theorem dL_nearest_152 : decode cL_nearest 152 = .ok (.iadd, 1) := by decide +kernel
theorem dL_nearest_153 : decode cL_nearest 153 = .ok (.i2l, 1) := by decide +kernel
theorem dL_nearest_154 : decode cL_nearest 154 = .ok (.bipush 32, 2) := by decide +kernel
theorem dL_nearest_156 : decode cL_nearest 156 = .ok (.lshl, 1) := by decide +kernel
theorem dL_nearest_157 : decode cL_nearest 157 = .ok (.ladd, 1) := by decide +kernel
theorem dL_nearest_158 : decode cL_nearest 158 = .ok (.lreturn, 1) := by decide +kernel
theorem dL_bits_0 : decode cL_bits 0 = .ok (.lload_n 0, 1) := by decide +kernel
theorem dL_bits_1 : decode cL_bits 1 = .ok (.lconst 0, 1) := by decide +kernel
theorem dL_bits_2 : decode cL_bits 2 = .ok (.lcmp, 1) := by decide +kernel
theorem dL_bits_3 : decode cL_bits 3 = .ok (.ifCond .ne 5, 3) := by decide +kernel
theorem dL_bits_6 : decode cL_bits 6 = .ok (.iconst 0, 1) := by decide +kernel
theorem dL_bits_7 : decode cL_bits 7 = .ok (.ireturn, 1) := by decide +kernel
theorem dL_bits_8 : decode cL_bits 8 = .ok (.lload_n 0, 1) := by decide +kernel
theorem dL_bits_9 : decode cL_bits 9 = .ok (.invokestatic 151, 3) := by decide +kernel
theorem dL_bits_12 : decode cL_bits 12 = .ok (.lstore 4, 2) := by decide +kernel
theorem dL_bits_14 : decode cL_bits 14 = .ok (.lload_n 2, 1) := by decide +kernel
theorem dL_bits_15 : decode cL_bits 15 = .ok (.invokestatic 151, 3) := by decide +kernel
theorem dL_bits_18 : decode cL_bits 18 = .ok (.lstore 6, 2) := by decide +kernel
theorem dL_bits_20 : decode cL_bits 20 = .ok (.lload 4, 2) := by decide +kernel
theorem dL_bits_22 : decode cL_bits 22 = .ok (.ldc2_w 155, 3) := by decide +kernel
theorem dL_bits_25 : decode cL_bits 25 = .ok (.lrem, 1) := by decide +kernel
theorem dL_bits_26 : decode cL_bits 26 = .ok (.lstore 8, 2) := by decide +kernel
theorem dL_bits_28 : decode cL_bits 28 = .ok (.lload 6, 2) := by decide +kernel
theorem dL_bits_30 : decode cL_bits 30 = .ok (.ldc2_w 155, 3) := by decide +kernel
theorem dL_bits_33 : decode cL_bits 33 = .ok (.lrem, 1) := by decide +kernel
theorem dL_bits_34 : decode cL_bits 34 = .ok (.lstore 10, 2) := by decide +kernel
theorem dL_bits_36 : decode cL_bits 36 = .ok (.lload 4, 2) := by decide +kernel
theorem dL_bits_38 : decode cL_bits 38 = .ok (.bipush 32, 2) := by decide +kernel
theorem dL_bits_40 : decode cL_bits 40 = .ok (.lshr, 1) := by decide +kernel
theorem dL_bits_41 : decode cL_bits 41 = .ok (.l2i, 1) := by decide +kernel
theorem dL_bits_42 : decode cL_bits 42 = .ok (.lload 6, 2) := by decide +kernel
theorem dL_bits_44 : decode cL_bits 44 = .ok (.bipush 32, 2) := by decide +kernel
theorem dL_bits_46 : decode cL_bits 46 = .ok (.lshr, 1) := by decide +kernel
theorem dL_bits_47 : decode cL_bits 47 = .ok (.l2i, 1) := by decide +kernel
theorem dL_bits_48 : decode cL_bits 48 = .ok (.isub, 1) := by decide +kernel
theorem dL_bits_49 : decode cL_bits 49 = .ok (.lload 8, 2) := by decide +kernel
theorem dL_bits_51 : decode cL_bits 51 = .ok (.lload 10, 2) := by decide +kernel
theorem dL_bits_53 : decode cL_bits 53 = .ok (.lcmp, 1) := by decide +kernel
theorem dL_bits_54 : decode cL_bits 54 = .ok (.ifCond .ge 8, 3) := by decide +kernel
theorem dL_bits_57 : decode cL_bits 57 = .ok (.bipush 24, 2) := by decide +kernel
theorem dL_bits_59 : decode cL_bits 59 = .ok (.goto 5, 3) := by decide +kernel
theorem dL_bits_62 : decode cL_bits 62 = .ok (.bipush 23, 2) := by decide +kernel
theorem dL_bits_64 : decode cL_bits 64 = .ok (.isub, 1) := by decide +kernel
theorem dL_bits_65 : decode cL_bits 65 = .ok (.istore 12, 2) := by decide +kernel
theorem dL_bits_67 : decode cL_bits 67 = .ok (.lload 8, 2) := by decide +kernel
theorem dL_bits_69 : decode cL_bits 69 = .ok (.lload 8, 2) := by decide +kernel
theorem dL_bits_71 : decode cL_bits 71 = .ok (.lload 10, 2) := by decide +kernel
theorem dL_bits_73 : decode cL_bits 73 = .ok (.lcmp, 1) := by decide +kernel
theorem dL_bits_74 : decode cL_bits 74 = .ok (.ifCond .ge 8, 3) := by decide +kernel
theorem dL_bits_77 : decode cL_bits 77 = .ok (.bipush 24, 2) := by decide +kernel
theorem dL_bits_79 : decode cL_bits 79 = .ok (.goto 5, 3) := by decide +kernel
theorem dL_bits_82 : decode cL_bits 82 = .ok (.bipush 23, 2) := by decide +kernel
theorem dL_bits_84 : decode cL_bits 84 = .ok (.lshl, 1) := by decide +kernel
theorem dL_bits_85 : decode cL_bits 85 = .ok (.lstore 13, 2) := by decide +kernel
theorem dL_bits_87 : decode cL_bits 87 = .ok (.lload 13, 2) := by decide +kernel
theorem dL_bits_89 : decode cL_bits 89 = .ok (.lload 10, 2) := by decide +kernel
theorem dL_bits_91 : decode cL_bits 91 = .ok (.ldiv, 1) := by decide +kernel
theorem dL_bits_92 : decode cL_bits 92 = .ok (.lstore 15, 2) := by decide +kernel
theorem dL_bits_94 : decode cL_bits 94 = .ok (.lload 13, 2) := by decide +kernel
theorem dL_bits_96 : decode cL_bits 96 = .ok (.lload 10, 2) := by decide +kernel
theorem dL_bits_98 : decode cL_bits 98 = .ok (.lrem, 1) := by decide +kernel
theorem dL_bits_99 : decode cL_bits 99 = .ok (.ldc2_w 145, 3) := by decide +kernel
theorem dL_bits_102 : decode cL_bits 102 = .ok (.lmul, 1) := by decide +kernel
theorem dL_bits_103 : decode cL_bits 103 = .ok (.lstore 17, 2) := by decide +kernel
theorem dL_bits_105 : decode cL_bits 105 = .ok (.lload 15, 2) := by decide +kernel
theorem dL_bits_107 : decode cL_bits 107 = .ok (.lload 17, 2) := by decide +kernel
theorem dL_bits_109 : decode cL_bits 109 = .ok (.lload 10, 2) := by decide +kernel
theorem dL_bits_111 : decode cL_bits 111 = .ok (.lcmp, 1) := by decide +kernel
theorem dL_bits_112 : decode cL_bits 112 = .ok (.ifCond .gt 22, 3) := by decide +kernel
theorem dL_bits_115 : decode cL_bits 115 = .ok (.lload 17, 2) := by decide +kernel
theorem dL_bits_117 : decode cL_bits 117 = .ok (.lload 10, 2) := by decide +kernel
theorem dL_bits_119 : decode cL_bits 119 = .ok (.lcmp, 1) := by decide +kernel
theorem dL_bits_120 : decode cL_bits 120 = .ok (.ifCond .ne 18, 3) := by decide +kernel
theorem dL_bits_123 : decode cL_bits 123 = .ok (.lload 15, 2) := by decide +kernel
theorem dL_bits_125 : decode cL_bits 125 = .ok (.ldc2_w 145, 3) := by decide +kernel
theorem dL_bits_128 : decode cL_bits 128 = .ok (.lrem, 1) := by decide +kernel
theorem dL_bits_129 : decode cL_bits 129 = .ok (.lconst 1, 1) := by decide +kernel
theorem dL_bits_130 : decode cL_bits 130 = .ok (.lcmp, 1) := by decide +kernel
theorem dL_bits_131 : decode cL_bits 131 = .ok (.ifCond .ne 7, 3) := by decide +kernel
theorem dL_bits_134 : decode cL_bits 134 = .ok (.lconst 1, 1) := by decide +kernel
theorem dL_bits_135 : decode cL_bits 135 = .ok (.goto 4, 3) := by decide +kernel
theorem dL_bits_138 : decode cL_bits 138 = .ok (.lconst 0, 1) := by decide +kernel
theorem dL_bits_139 : decode cL_bits 139 = .ok (.ladd, 1) := by decide +kernel
theorem dL_bits_140 : decode cL_bits 140 = .ok (.lstore 15, 2) := by decide +kernel
theorem dL_bits_142 : decode cL_bits 142 = .ok (.iload 12, 2) := by decide +kernel
theorem dL_bits_144 : decode cL_bits 144 = .ok (.lload 15, 2) := by decide +kernel
theorem dL_bits_146 : decode cL_bits 146 = .ok (.ldc2_w 147, 3) := by decide +kernel
theorem dL_bits_149 : decode cL_bits 149 = .ok (.lcmp, 1) := by decide +kernel
theorem dL_bits_150 : decode cL_bits 150 = .ok (.ifCond .ne 7, 3) := by decide +kernel
theorem dL_bits_153 : decode cL_bits 153 = .ok (.iconst 1, 1) := by decide +kernel
theorem dL_bits_154 : decode cL_bits 154 = .ok (.goto 4, 3) := by decide +kernel
theorem dL_bits_157 : decode cL_bits 157 = .ok (.iconst 0, 1) := by decide +kernel
theorem dL_bits_158 : decode cL_bits 158 = .ok (.iadd, 1) := by decide +kernel
theorem dL_bits_159 : decode cL_bits 159 = .ok (.istore 12, 2) := by decide +kernel
theorem dL_bits_161 : decode cL_bits 161 = .ok (.lload 15, 2) := by decide +kernel
theorem dL_bits_163 : decode cL_bits 163 = .ok (.ldc2_w 147, 3) := by decide +kernel
theorem dL_bits_166 : decode cL_bits 166 = .ok (.lcmp, 1) := by decide +kernel
theorem dL_bits_167 : decode cL_bits 167 = .ok (.ifCond .ne 9, 3) := by decide +kernel
theorem dL_bits_170 : decode cL_bits 170 = .ok (.ldc2_w 149, 3) := by decide +kernel
theorem dL_bits_173 : decode cL_bits 173 = .ok (.goto 5, 3) := by decide +kernel
theorem dL_bits_176 : decode cL_bits 176 = .ok (.lload 15, 2) := by decide +kernel
theorem dL_bits_178 : decode cL_bits 178 = .ok (.lstore 15, 2) := by decide +kernel
theorem dL_bits_180 : decode cL_bits 180 = .ok (.iload 12, 2) := by decide +kernel
theorem dL_bits_182 : decode cL_bits 182 = .ok (.sipush 150, 3) := by decide +kernel
theorem dL_bits_185 : decode cL_bits 185 = .ok (.iadd, 1) := by decide +kernel
theorem dL_bits_186 : decode cL_bits 186 = .ok (.bipush 23, 2) := by decide +kernel
theorem dL_bits_188 : decode cL_bits 188 = .ok (.ishl, 1) := by decide +kernel
theorem dL_bits_189 : decode cL_bits 189 = .ok (.lload 15, 2) := by decide +kernel
theorem dL_bits_191 : decode cL_bits 191 = .ok (.ldc2_w 149, 3) := by decide +kernel
theorem dL_bits_194 : decode cL_bits 194 = .ok (.lsub, 1) := by decide +kernel
theorem dL_bits_195 : decode cL_bits 195 = .ok (.l2i, 1) := by decide +kernel
theorem dL_bits_196 : decode cL_bits 196 = .ok (.iadd, 1) := by decide +kernel
theorem dL_bits_197 : decode cL_bits 197 = .ok (.ireturn, 1) := by decide +kernel
theorem dL_isEdge_0 : decode cL_isEdge 0 = .ok (.iload_n 3, 1) := by decide +kernel
theorem dL_isEdge_1 : decode cL_isEdge 1 = .ok (.iload 4, 2) := by decide +kernel
theorem dL_isEdge_3 : decode cL_isEdge 3 = .ok (.if_icmp .eq 21, 3) := by decide +kernel
theorem dL_isEdge_6 : decode cL_isEdge 6 = .ok (.iload_n 2, 1) := by decide +kernel
theorem dL_isEdge_7 : decode cL_isEdge 7 = .ok (.iload_n 3, 1) := by decide +kernel
theorem dL_isEdge_8 : decode cL_isEdge 8 = .ok (.ishr, 1) := by decide +kernel
theorem dL_isEdge_9 : decode cL_isEdge 9 = .ok (.iload_n 2, 1) := by decide +kernel
theorem dL_isEdge_10 : decode cL_isEdge 10 = .ok (.iload 4, 2) := by decide +kernel
theorem dL_isEdge_12 : decode cL_isEdge 12 = .ok (.ishr, 1) := by decide +kernel
theorem dL_isEdge_13 : decode cL_isEdge 13 = .ok (.iand, 1) := by decide +kernel
theorem dL_isEdge_14 : decode cL_isEdge 14 = .ok (.iconst 1, 1) := by decide +kernel
theorem dL_isEdge_15 : decode cL_isEdge 15 = .ok (.iand, 1) := by decide +kernel
theorem dL_isEdge_16 : decode cL_isEdge 16 = .ok (.iconst 1, 1) := by decide +kernel
theorem dL_isEdge_17 : decode cL_isEdge 17 = .ok (.if_icmp .ne 7, 3) := by decide +kernel
theorem dL_isEdge_20 : decode cL_isEdge 20 = .ok (.iconst 1, 1) := by decide +kernel
theorem dL_isEdge_21 : decode cL_isEdge 21 = .ok (.goto 4, 3) := by decide +kernel
theorem dL_isEdge_24 : decode cL_isEdge 24 = .ok (.iconst 0, 1) := by decide +kernel
theorem dL_isEdge_25 : decode cL_isEdge 25 = .ok (.istore 5, 2) := by decide +kernel
theorem dL_isEdge_27 : decode cL_isEdge 27 = .ok (.iconst 0, 1) := by decide +kernel
theorem dL_isEdge_28 : decode cL_isEdge 28 = .ok (.istore 6, 2) := by decide +kernel
theorem dL_isEdge_30 : decode cL_isEdge 30 = .ok (.iload 6, 2) := by decide +kernel
theorem dL_isEdge_32 : decode cL_isEdge 32 = .ok (.bipush 6, 2) := by decide +kernel
theorem dL_isEdge_34 : decode cL_isEdge 34 = .ok (.if_icmp .ge 121, 3) := by decide +kernel
theorem dL_isEdge_37 : decode cL_isEdge 37 = .ok (.iload 5, 2) := by decide +kernel
theorem dL_isEdge_39 : decode cL_isEdge 39 = .ok (.ifCond .eq 116, 3) := by decide +kernel
theorem dL_isEdge_42 : decode cL_isEdge 42 = .ok (.aload_n 0, 1) := by decide +kernel
theorem dL_isEdge_43 : decode cL_isEdge 43 = .ok (.iload 4, 2) := by decide +kernel
theorem dL_isEdge_45 : decode cL_isEdge 45 = .ok (.iaload, 1) := by decide +kernel
theorem dL_isEdge_46 : decode cL_isEdge 46 = .ok (.aload_n 0, 1) := by decide +kernel
theorem dL_isEdge_47 : decode cL_isEdge 47 = .ok (.iload_n 3, 1) := by decide +kernel
theorem dL_isEdge_48 : decode cL_isEdge 48 = .ok (.iaload, 1) := by decide +kernel
theorem dL_isEdge_49 : decode cL_isEdge 49 = .ok (.isub, 1) := by decide +kernel
theorem dL_isEdge_50 : decode cL_isEdge 50 = .ok (.aload_n 1, 1) := by decide +kernel
theorem dL_isEdge_51 : decode cL_isEdge 51 = .ok (.iload 6, 2) := by decide +kernel
theorem dL_isEdge_53 : decode cL_isEdge 53 = .ok (.iaload, 1) := by decide +kernel
theorem dL_isEdge_54 : decode cL_isEdge 54 = .ok (.aload_n 1, 1) := by decide +kernel
theorem dL_isEdge_55 : decode cL_isEdge 55 = .ok (.iload_n 3, 1) := by decide +kernel
theorem dL_isEdge_56 : decode cL_isEdge 56 = .ok (.iaload, 1) := by decide +kernel
theorem dL_isEdge_57 : decode cL_isEdge 57 = .ok (.isub, 1) := by decide +kernel
theorem dL_isEdge_58 : decode cL_isEdge 58 = .ok (.imul, 1) := by decide +kernel
theorem dL_isEdge_59 : decode cL_isEdge 59 = .ok (.aload_n 1, 1) := by decide +kernel
theorem dL_isEdge_60 : decode cL_isEdge 60 = .ok (.iload 4, 2) := by decide +kernel
theorem dL_isEdge_62 : decode cL_isEdge 62 = .ok (.iaload, 1) := by decide +kernel
theorem dL_isEdge_63 : decode cL_isEdge 63 = .ok (.aload_n 1, 1) := by decide +kernel
theorem dL_isEdge_64 : decode cL_isEdge 64 = .ok (.iload_n 3, 1) := by decide +kernel
theorem dL_isEdge_65 : decode cL_isEdge 65 = .ok (.iaload, 1) := by decide +kernel
theorem dL_isEdge_66 : decode cL_isEdge 66 = .ok (.isub, 1) := by decide +kernel
theorem dL_isEdge_67 : decode cL_isEdge 67 = .ok (.aload_n 0, 1) := by decide +kernel
theorem dL_isEdge_68 : decode cL_isEdge 68 = .ok (.iload 6, 2) := by decide +kernel
theorem dL_isEdge_70 : decode cL_isEdge 70 = .ok (.iaload, 1) := by decide +kernel
theorem dL_isEdge_71 : decode cL_isEdge 71 = .ok (.aload_n 0, 1) := by decide +kernel
theorem dL_isEdge_72 : decode cL_isEdge 72 = .ok (.iload_n 3, 1) := by decide +kernel
theorem dL_isEdge_73 : decode cL_isEdge 73 = .ok (.iaload, 1) := by decide +kernel
theorem dL_isEdge_74 : decode cL_isEdge 74 = .ok (.isub, 1) := by decide +kernel
theorem dL_isEdge_75 : decode cL_isEdge 75 = .ok (.imul, 1) := by decide +kernel
theorem dL_isEdge_76 : decode cL_isEdge 76 = .ok (.isub, 1) := by decide +kernel
theorem dL_isEdge_77 : decode cL_isEdge 77 = .ok (.istore 7, 2) := by decide +kernel
theorem dL_isEdge_79 : decode cL_isEdge 79 = .ok (.aload_n 0, 1) := by decide +kernel
theorem dL_isEdge_80 : decode cL_isEdge 80 = .ok (.iload 6, 2) := by decide +kernel
theorem dL_isEdge_82 : decode cL_isEdge 82 = .ok (.iaload, 1) := by decide +kernel
theorem dL_isEdge_83 : decode cL_isEdge 83 = .ok (.aload_n 0, 1) := by decide +kernel
theorem dL_isEdge_84 : decode cL_isEdge 84 = .ok (.iload_n 3, 1) := by decide +kernel
theorem dL_isEdge_85 : decode cL_isEdge 85 = .ok (.iaload, 1) := by decide +kernel
theorem dL_isEdge_86 : decode cL_isEdge 86 = .ok (.isub, 1) := by decide +kernel
theorem dL_isEdge_87 : decode cL_isEdge 87 = .ok (.aload_n 0, 1) := by decide +kernel
theorem dL_isEdge_88 : decode cL_isEdge 88 = .ok (.iload 6, 2) := by decide +kernel
theorem dL_isEdge_90 : decode cL_isEdge 90 = .ok (.iaload, 1) := by decide +kernel
theorem dL_isEdge_91 : decode cL_isEdge 91 = .ok (.aload_n 0, 1) := by decide +kernel
theorem dL_isEdge_92 : decode cL_isEdge 92 = .ok (.iload 4, 2) := by decide +kernel
theorem dL_isEdge_94 : decode cL_isEdge 94 = .ok (.iaload, 1) := by decide +kernel
theorem dL_isEdge_95 : decode cL_isEdge 95 = .ok (.isub, 1) := by decide +kernel
theorem dL_isEdge_96 : decode cL_isEdge 96 = .ok (.imul, 1) := by decide +kernel
theorem dL_isEdge_97 : decode cL_isEdge 97 = .ok (.aload_n 1, 1) := by decide +kernel
theorem dL_isEdge_98 : decode cL_isEdge 98 = .ok (.iload 6, 2) := by decide +kernel
theorem dL_isEdge_100 : decode cL_isEdge 100 = .ok (.iaload, 1) := by decide +kernel
theorem dL_isEdge_101 : decode cL_isEdge 101 = .ok (.aload_n 1, 1) := by decide +kernel
theorem dL_isEdge_102 : decode cL_isEdge 102 = .ok (.iload_n 3, 1) := by decide +kernel
theorem dL_isEdge_103 : decode cL_isEdge 103 = .ok (.iaload, 1) := by decide +kernel
theorem dL_isEdge_104 : decode cL_isEdge 104 = .ok (.isub, 1) := by decide +kernel
theorem dL_isEdge_105 : decode cL_isEdge 105 = .ok (.aload_n 1, 1) := by decide +kernel
theorem dL_isEdge_106 : decode cL_isEdge 106 = .ok (.iload 6, 2) := by decide +kernel
theorem dL_isEdge_108 : decode cL_isEdge 108 = .ok (.iaload, 1) := by decide +kernel
theorem dL_isEdge_109 : decode cL_isEdge 109 = .ok (.aload_n 1, 1) := by decide +kernel
theorem dL_isEdge_110 : decode cL_isEdge 110 = .ok (.iload 4, 2) := by decide +kernel
theorem dL_isEdge_112 : decode cL_isEdge 112 = .ok (.iaload, 1) := by decide +kernel
theorem dL_isEdge_113 : decode cL_isEdge 113 = .ok (.isub, 1) := by decide +kernel
theorem dL_isEdge_114 : decode cL_isEdge 114 = .ok (.imul, 1) := by decide +kernel
theorem dL_isEdge_115 : decode cL_isEdge 115 = .ok (.iadd, 1) := by decide +kernel
theorem dL_isEdge_116 : decode cL_isEdge 116 = .ok (.istore 8, 2) := by decide +kernel
theorem dL_isEdge_118 : decode cL_isEdge 118 = .ok (.iload_n 2, 1) := by decide +kernel
theorem dL_isEdge_119 : decode cL_isEdge 119 = .ok (.iload 6, 2) := by decide +kernel
theorem dL_isEdge_121 : decode cL_isEdge 121 = .ok (.ishr, 1) := by decide +kernel
theorem dL_isEdge_122 : decode cL_isEdge 122 = .ok (.iconst 1, 1) := by decide +kernel
theorem dL_isEdge_123 : decode cL_isEdge 123 = .ok (.iand, 1) := by decide +kernel
theorem dL_isEdge_124 : decode cL_isEdge 124 = .ok (.ifCond .eq 18, 3) := by decide +kernel
theorem dL_isEdge_127 : decode cL_isEdge 127 = .ok (.iload 7, 2) := by decide +kernel
theorem dL_isEdge_129 : decode cL_isEdge 129 = .ok (.ifCond .gt 13, 3) := by decide +kernel
theorem dL_isEdge_132 : decode cL_isEdge 132 = .ok (.iload 7, 2) := by decide +kernel
theorem dL_isEdge_134 : decode cL_isEdge 134 = .ok (.ifCond .ne 12, 3) := by decide +kernel
theorem dL_isEdge_137 : decode cL_isEdge 137 = .ok (.iload 8, 2) := by decide +kernel
theorem dL_isEdge_139 : decode cL_isEdge 139 = .ok (.ifCond .gt 7, 3) := by decide +kernel
theorem dL_isEdge_142 : decode cL_isEdge 142 = .ok (.iconst 1, 1) := by decide +kernel
theorem dL_isEdge_143 : decode cL_isEdge 143 = .ok (.goto 4, 3) := by decide +kernel
theorem dL_isEdge_146 : decode cL_isEdge 146 = .ok (.iconst 0, 1) := by decide +kernel
theorem dL_isEdge_147 : decode cL_isEdge 147 = .ok (.istore 5, 2) := by decide +kernel
theorem dL_isEdge_149 : decode cL_isEdge 149 = .ok (.iinc 6 1, 3) := by decide +kernel
theorem dL_isEdge_152 : decode cL_isEdge 152 = .ok (.goto (-122), 3) := by decide +kernel
theorem dL_isEdge_155 : decode cL_isEdge 155 = .ok (.iload 5, 2) := by decide +kernel
theorem dL_isEdge_157 : decode cL_isEdge 157 = .ok (.ireturn, 1) := by decide +kernel
theorem dL_isSo_0 : decode cL_isSo 0 = .ok (.aload 8, 2) := by decide +kernel
theorem dL_isSo_2 : decode cL_isSo 2 = .ok (.bipush 8, 2) := by decide +kernel
theorem dL_isSo_4 : decode cL_isSo 4 = .ok (.iaload, 1) := by decide +kernel
theorem dL_isSo_5 : decode cL_isSo 5 = .ok (.istore 11, 2) := by decide +kernel
theorem dL_isSo_7 : decode cL_isSo 7 = .ok (.aload 5, 2) := by decide +kernel
theorem dL_isSo_9 : decode cL_isSo 9 = .ok (.aload 6, 2) := by decide +kernel
theorem dL_isSo_11 : decode cL_isSo 11 = .ok (.aload 8, 2) := by decide +kernel
theorem dL_isSo_13 : decode cL_isSo 13 = .ok (.iload 11, 2) := by decide +kernel
theorem dL_isSo_15 : decode cL_isSo 15 = .ok (.invokestatic 110, 3) := by decide +kernel
theorem dL_isSo_18 : decode cL_isSo 18 = .ok (.istore 12, 2) := by decide +kernel
theorem dL_isSo_20 : decode cL_isSo 20 = .ok (.aload_n 0, 1) := by decide +kernel
theorem dL_isSo_21 : decode cL_isSo 21 = .ok (.iconst 0, 1) := by decide +kernel
theorem dL_isSo_22 : decode cL_isSo 22 = .ok (.invokevirtual 157, 3) := by decide +kernel
theorem dL_isSo_25 : decode cL_isSo 25 = .ok (.aload 8, 2) := by decide +kernel
theorem dL_isSo_27 : decode cL_isSo 27 = .ok (.iconst 1, 1) := by decide +kernel
theorem dL_isSo_28 : decode cL_isSo 28 = .ok (.iaload, 1) := by decide +kernel
theorem dL_isSo_29 : decode cL_isSo 29 = .ok (.if_icmp .ne 189, 3) := by decide +kernel
theorem dL_isSo_32 : decode cL_isSo 32 = .ok (.aload_n 0, 1) := by decide +kernel
theorem dL_isSo_33 : decode cL_isSo 33 = .ok (.iconst 1, 1) := by decide +kernel
theorem dL_isSo_34 : decode cL_isSo 34 = .ok (.invokevirtual 157, 3) := by decide +kernel
theorem dL_isSo_37 : decode cL_isSo 37 = .ok (.aload 8, 2) := by decide +kernel
theorem dL_isSo_39 : decode cL_isSo 39 = .ok (.iconst 2, 1) := by decide +kernel
theorem dL_isSo_40 : decode cL_isSo 40 = .ok (.iaload, 1) := by decide +kernel
theorem dL_isSo_41 : decode cL_isSo 41 = .ok (.if_icmp .ne 177, 3) := by decide +kernel
theorem dL_isSo_44 : decode cL_isSo 44 = .ok (.aload_n 0, 1) := by decide +kernel
theorem dL_isSo_45 : decode cL_isSo 45 = .ok (.iconst 2, 1) := by decide +kernel
theorem dL_isSo_46 : decode cL_isSo 46 = .ok (.invokevirtual 157, 3) := by decide +kernel
theorem dL_isSo_49 : decode cL_isSo 49 = .ok (.aload 8, 2) := by decide +kernel
theorem dL_isSo_51 : decode cL_isSo 51 = .ok (.iconst 0, 1) := by decide +kernel
theorem dL_isSo_52 : decode cL_isSo 52 = .ok (.iaload, 1) := by decide +kernel
theorem dL_isSo_53 : decode cL_isSo 53 = .ok (.if_icmp .ne 165, 3) := by decide +kernel
theorem dL_isSo_56 : decode cL_isSo 56 = .ok (.aload_n 0, 1) := by decide +kernel
theorem dL_isSo_57 : decode cL_isSo 57 = .ok (.iconst 3, 1) := by decide +kernel
theorem dL_isSo_58 : decode cL_isSo 58 = .ok (.invokevirtual 157, 3) := by decide +kernel
theorem dL_isSo_61 : decode cL_isSo 61 = .ok (.aload 8, 2) := by decide +kernel
theorem dL_isSo_63 : decode cL_isSo 63 = .ok (.iconst 3, 1) := by decide +kernel
theorem dL_isSo_64 : decode cL_isSo 64 = .ok (.iaload, 1) := by decide +kernel
theorem dL_isSo_65 : decode cL_isSo 65 = .ok (.if_icmp .ne 153, 3) := by decide +kernel
theorem dL_isSo_68 : decode cL_isSo 68 = .ok (.aload_n 0, 1) := by decide +kernel
theorem dL_isSo_69 : decode cL_isSo 69 = .ok (.iconst 4, 1) := by decide +kernel
theorem dL_isSo_70 : decode cL_isSo 70 = .ok (.invokevirtual 157, 3) := by decide +kernel
theorem dL_isSo_73 : decode cL_isSo 73 = .ok (.aload 8, 2) := by decide +kernel
theorem dL_isSo_75 : decode cL_isSo 75 = .ok (.iconst 4, 1) := by decide +kernel
theorem dL_isSo_76 : decode cL_isSo 76 = .ok (.iaload, 1) := by decide +kernel
theorem dL_isSo_77 : decode cL_isSo 77 = .ok (.if_icmp .ne 141, 3) := by decide +kernel
theorem dL_isSo_80 : decode cL_isSo 80 = .ok (.aload_n 0, 1) := by decide +kernel
theorem dL_isSo_81 : decode cL_isSo 81 = .ok (.iconst 5, 1) := by decide +kernel
theorem dL_isSo_82 : decode cL_isSo 82 = .ok (.invokevirtual 157, 3) := by decide +kernel
theorem dL_isSo_85 : decode cL_isSo 85 = .ok (.aload_n 1, 1) := by decide +kernel
theorem dL_isSo_86 : decode cL_isSo 86 = .ok (.aload 5, 2) := by decide +kernel
theorem dL_isSo_88 : decode cL_isSo 88 = .ok (.aload 6, 2) := by decide +kernel
theorem dL_isSo_90 : decode cL_isSo 90 = .ok (.iload 11, 2) := by decide +kernel
theorem dL_isSo_92 : decode cL_isSo 92 = .ok (.invokestatic 125, 3) := by decide +kernel
theorem dL_isSo_95 : decode cL_isSo 95 = .ok (.if_icmp .ne 123, 3) := by decide +kernel
theorem dL_isSo_98 : decode cL_isSo 98 = .ok (.aload_n 0, 1) := by decide +kernel
theorem dL_isSo_99 : decode cL_isSo 99 = .ok (.bipush 6, 2) := by decide +kernel
theorem dL_isSo_101 : decode cL_isSo 101 = .ok (.invokevirtual 157, 3) := by decide +kernel
theorem dL_isSo_104 : decode cL_isSo 104 = .ok (.aload 8, 2) := by decide +kernel
theorem dL_isSo_106 : decode cL_isSo 106 = .ok (.iload 11, 2) := by decide +kernel
theorem dL_isSo_108 : decode cL_isSo 108 = .ok (.invokestatic 94, 3) := by decide +kernel
theorem dL_isSo_111 : decode cL_isSo 111 = .ok (.if_icmp .ne 107, 3) := by decide +kernel
theorem dL_isSo_114 : decode cL_isSo 114 = .ok (.aload_n 0, 1) := by decide +kernel
theorem dL_isSo_115 : decode cL_isSo 115 = .ok (.bipush 7, 2) := by decide +kernel
theorem dL_isSo_117 : decode cL_isSo 117 = .ok (.invokevirtual 157, 3) := by decide +kernel
theorem dL_isSo_120 : decode cL_isSo 120 = .ok (.iload 11, 2) := by decide +kernel
theorem dL_isSo_122 : decode cL_isSo 122 = .ok (.invokestatic 84, 3) := by decide +kernel
theorem dL_isSo_125 : decode cL_isSo 125 = .ok (.if_icmp .ne 93, 3) := by decide +kernel
theorem dL_isSo_128 : decode cL_isSo 128 = .ok (.aload_n 0, 1) := by decide +kernel
theorem dL_isSo_129 : decode cL_isSo 129 = .ok (.bipush 8, 2) := by decide +kernel
theorem dL_isSo_131 : decode cL_isSo 131 = .ok (.invokevirtual 157, 3) := by decide +kernel
theorem dL_isSo_134 : decode cL_isSo 134 = .ok (.aload 8, 2) := by decide +kernel
theorem dL_isSo_136 : decode cL_isSo 136 = .ok (.bipush 9, 2) := by decide +kernel
theorem dL_isSo_138 : decode cL_isSo 138 = .ok (.iaload, 1) := by decide +kernel
theorem dL_isSo_139 : decode cL_isSo 139 = .ok (.if_icmp .ne 79, 3) := by decide +kernel
theorem dL_isSo_142 : decode cL_isSo 142 = .ok (.aload_n 0, 1) := by decide +kernel
theorem dL_isSo_143 : decode cL_isSo 143 = .ok (.bipush 9, 2) := by decide +kernel
theorem dL_isSo_145 : decode cL_isSo 145 = .ok (.invokevirtual 157, 3) := by decide +kernel
theorem dL_isSo_148 : decode cL_isSo 148 = .ok (.aload 8, 2) := by decide +kernel
theorem dL_isSo_150 : decode cL_isSo 150 = .ok (.bipush 11, 2) := by decide +kernel
theorem dL_isSo_152 : decode cL_isSo 152 = .ok (.iaload, 1) := by decide +kernel
theorem dL_isSo_153 : decode cL_isSo 153 = .ok (.if_icmp .ne 65, 3) := by decide +kernel
theorem dL_isSo_156 : decode cL_isSo 156 = .ok (.aload_n 0, 1) := by decide +kernel
theorem dL_isSo_157 : decode cL_isSo 157 = .ok (.bipush 10, 2) := by decide +kernel
theorem dL_isSo_159 : decode cL_isSo 159 = .ok (.invokevirtual 157, 3) := by decide +kernel
theorem dL_isSo_162 : decode cL_isSo 162 = .ok (.aload 8, 2) := by decide +kernel
theorem dL_isSo_164 : decode cL_isSo 164 = .ok (.bipush 7, 2) := by decide +kernel
theorem dL_isSo_166 : decode cL_isSo 166 = .ok (.iaload, 1) := by decide +kernel
theorem dL_isSo_167 : decode cL_isSo 167 = .ok (.if_icmp .ne 51, 3) := by decide +kernel
theorem dL_isSo_170 : decode cL_isSo 170 = .ok (.aload_n 0, 1) := by decide +kernel
theorem dL_isSo_171 : decode cL_isSo 171 = .ok (.bipush 11, 2) := by decide +kernel
theorem dL_isSo_173 : decode cL_isSo 173 = .ok (.invokevirtual 157, 3) := by decide +kernel
theorem dL_isSo_176 : decode cL_isSo 176 = .ok (.aload 8, 2) := by decide +kernel
theorem dL_isSo_178 : decode cL_isSo 178 = .ok (.bipush 12, 2) := by decide +kernel
theorem dL_isSo_180 : decode cL_isSo 180 = .ok (.iaload, 1) := by decide +kernel
theorem dL_isSo_181 : decode cL_isSo 181 = .ok (.ifCond .ne 7, 3) := by decide +kernel
theorem dL_isSo_184 : decode cL_isSo 184 = .ok (.iconst (-1), 1) := by decide +kernel
theorem dL_isSo_185 : decode cL_isSo 185 = .ok (.goto 8, 3) := by decide +kernel
theorem dL_isSo_188 : decode cL_isSo 188 = .ok (.aload 8, 2) := by decide +kernel
theorem dL_isSo_190 : decode cL_isSo 190 = .ok (.bipush 13, 2) := by decide +kernel
theorem dL_isSo_192 : decode cL_isSo 192 = .ok (.iaload, 1) := by decide +kernel
theorem dL_isSo_193 : decode cL_isSo 193 = .ok (.if_icmp .ne 25, 3) := by decide +kernel
theorem dL_isSo_196 : decode cL_isSo 196 = .ok (.aload_n 0, 1) := by decide +kernel
theorem dL_isSo_197 : decode cL_isSo 197 = .ok (.invokevirtual 160, 3) := by decide +kernel
theorem dL_isSo_200 : decode cL_isSo 200 = .ok (.iload 12, 2) := by decide +kernel
theorem dL_isSo_202 : decode cL_isSo 202 = .ok (.if_icmp .ne 16, 3) := by decide +kernel
theorem dL_isSo_205 : decode cL_isSo 205 = .ok (.aload_n 0, 1) := by decide +kernel
theorem dL_isSo_206 : decode cL_isSo 206 = .ok (.invokevirtual 164, 3) := by decide +kernel
theorem dL_isSo_209 : decode cL_isSo 209 = .ok (.iload 12, 2) := by decide +kernel
theorem dL_isSo_211 : decode cL_isSo 211 = .ok (.if_icmp .ne 7, 3) := by decide +kernel
theorem dL_isSo_214 : decode cL_isSo 214 = .ok (.iconst 1, 1) := by decide +kernel
theorem dL_isSo_215 : decode cL_isSo 215 = .ok (.goto 4, 3) := by decide +kernel
theorem dL_isSo_218 : decode cL_isSo 218 = .ok (.iconst 0, 1) := by decide +kernel
theorem dL_isSo_219 : decode cL_isSo 219 = .ok (.istore 13, 2) := by decide +kernel
theorem dL_isSo_221 : decode cL_isSo 221 = .ok (.iconst 0, 1) := by decide +kernel
theorem dL_isSo_222 : decode cL_isSo 222 = .ok (.istore 14, 2) := by decide +kernel
theorem dL_isSo_224 : decode cL_isSo 224 = .ok (.iload 14, 2) := by decide +kernel
theorem dL_isSo_226 : decode cL_isSo 226 = .ok (.aload 8, 2) := by decide +kernel
theorem dL_isSo_228 : decode cL_isSo 228 = .ok (.bipush 7, 2) := by decide +kernel
theorem dL_isSo_230 : decode cL_isSo 230 = .ok (.iaload, 1) := by decide +kernel
theorem dL_isSo_231 : decode cL_isSo 231 = .ok (.if_icmp .ge 475, 3) := by decide +kernel
theorem dL_isSo_234 : decode cL_isSo 234 = .ok (.iload 13, 2) := by decide +kernel
theorem dL_isSo_236 : decode cL_isSo 236 = .ok (.ifCond .eq 470, 3) := by decide +kernel
theorem dL_isSo_239 : decode cL_isSo 239 = .ok (.iload 11, 2) := by decide +kernel
theorem dL_isSo_241 : decode cL_isSo 241 = .ok (.iload 14, 2) := by decide +kernel
theorem dL_isSo_243 : decode cL_isSo 243 = .ok (.ishr, 1) := by decide +kernel
theorem dL_isSo_244 : decode cL_isSo 244 = .ok (.iconst 1, 1) := by decide +kernel
theorem dL_isSo_245 : decode cL_isSo 245 = .ok (.iand, 1) := by decide +kernel
theorem dL_isSo_246 : decode cL_isSo 246 = .ok (.iconst 1, 1) := by decide +kernel
theorem dL_isSo_247 : decode cL_isSo 247 = .ok (.if_icmp .ne 7, 3) := by decide +kernel
theorem dL_isSo_250 : decode cL_isSo 250 = .ok (.iconst 1, 1) := by decide +kernel
theorem dL_isSo_251 : decode cL_isSo 251 = .ok (.goto 4, 3) := by decide +kernel
theorem dL_isSo_254 : decode cL_isSo 254 = .ok (.iconst 0, 1) := by decide +kernel
theorem dL_isSo_255 : decode cL_isSo 255 = .ok (.istore 15, 2) := by decide +kernel
theorem dL_isSo_257 : decode cL_isSo 257 = .ok (.aload_n 0, 1) := by decide +kernel
theorem dL_isSo_258 : decode cL_isSo 258 = .ok (.iload 14, 2) := by decide +kernel
theorem dL_isSo_260 : decode cL_isSo 260 = .ok (.iconst 0, 1) := by decide +kernel
theorem dL_isSo_261 : decode cL_isSo 261 = .ok (.invokevirtual 57, 3) := by decide +kernel
theorem dL_isSo_264 : decode cL_isSo 264 = .ok (.iload 15, 2) := by decide +kernel
theorem dL_isSo_266 : decode cL_isSo 266 = .ok (.ifCond .eq 7, 3) := by decide +kernel
theorem dL_isSo_269 : decode cL_isSo 269 = .ok (.iconst 1, 1) := by decide +kernel
theorem dL_isSo_270 : decode cL_isSo 270 = .ok (.goto 4, 3) := by decide +kernel
theorem dL_isSo_273 : decode cL_isSo 273 = .ok (.iconst 0, 1) := by decide +kernel
theorem dL_isSo_274 : decode cL_isSo 274 = .ok (.if_icmp .ne 55, 3) := by decide +kernel
theorem dL_isSo_277 : decode cL_isSo 277 = .ok (.aload_n 0, 1) := by decide +kernel
theorem dL_isSo_278 : decode cL_isSo 278 = .ok (.iload 14, 2) := by decide +kernel
theorem dL_isSo_280 : decode cL_isSo 280 = .ok (.iconst 1, 1) := by decide +kernel
theorem dL_isSo_281 : decode cL_isSo 281 = .ok (.invokevirtual 57, 3) := by decide +kernel
theorem dL_isSo_284 : decode cL_isSo 284 = .ok (.iload 15, 2) := by decide +kernel
theorem dL_isSo_286 : decode cL_isSo 286 = .ok (.ifCond .eq 11, 3) := by decide +kernel
theorem dL_isSo_289 : decode cL_isSo 289 = .ok (.aload 5, 2) := by decide +kernel
theorem dL_isSo_291 : decode cL_isSo 291 = .ok (.iload 14, 2) := by decide +kernel
theorem dL_isSo_293 : decode cL_isSo 293 = .ok (.iaload, 1) := by decide +kernel
theorem dL_isSo_294 : decode cL_isSo 294 = .ok (.goto 4, 3) := by decide +kernel
theorem dL_isSo_297 : decode cL_isSo 297 = .ok (.iconst (-1), 1) := by decide +kernel
theorem dL_isSo_298 : decode cL_isSo 298 = .ok (.if_icmp .ne 31, 3) := by decide +kernel
theorem dL_isSo_301 : decode cL_isSo 301 = .ok (.aload_n 0, 1) := by decide +kernel
theorem dL_isSo_302 : decode cL_isSo 302 = .ok (.iload 14, 2) := by decide +kernel
theorem dL_isSo_304 : decode cL_isSo 304 = .ok (.iconst 2, 1) := by decide +kernel
theorem dL_isSo_305 : decode cL_isSo 305 = .ok (.invokevirtual 57, 3) := by decide +kernel
theorem dL_isSo_308 : decode cL_isSo 308 = .ok (.iload 15, 2) := by decide +kernel
theorem dL_isSo_310 : decode cL_isSo 310 = .ok (.ifCond .eq 11, 3) := by decide +kernel
theorem dL_isSo_313 : decode cL_isSo 313 = .ok (.aload 6, 2) := by decide +kernel
theorem dL_isSo_315 : decode cL_isSo 315 = .ok (.iload 14, 2) := by decide +kernel
theorem dL_isSo_317 : decode cL_isSo 317 = .ok (.iaload, 1) := by decide +kernel
theorem dL_isSo_318 : decode cL_isSo 318 = .ok (.goto 4, 3) := by decide +kernel
theorem dL_isSo_321 : decode cL_isSo 321 = .ok (.iconst (-1), 1) := by decide +kernel
theorem dL_isSo_322 : decode cL_isSo 322 = .ok (.if_icmp .ne 7, 3) := by decide +kernel
theorem dL_isSo_325 : decode cL_isSo 325 = .ok (.iconst 1, 1) := by decide +kernel
theorem dL_isSo_326 : decode cL_isSo 326 = .ok (.goto 4, 3) := by decide +kernel
theorem dL_isSo_329 : decode cL_isSo 329 = .ok (.iconst 0, 1) := by decide +kernel
theorem dL_isSo_330 : decode cL_isSo 330 = .ok (.istore 13, 2) := by decide +kernel
theorem dL_isSo_332 : decode cL_isSo 332 = .ok (.iload 11, 2) := by decide +kernel
theorem dL_isSo_334 : decode cL_isSo 334 = .ok (.iconst 1, 1) := by decide +kernel
theorem dL_isSo_335 : decode cL_isSo 335 = .ok (.iload 14, 2) := by decide +kernel
theorem dL_isSo_337 : decode cL_isSo 337 = .ok (.ishl, 1) := by decide +kernel
theorem dL_isSo_338 : decode cL_isSo 338 = .ok (.iconst (-1), 1) := by decide +kernel
theorem dL_isSo_339 : decode cL_isSo 339 = .ok (.ixor, 1) := by decide +kernel
theorem dL_isSo_340 : decode cL_isSo 340 = .ok (.iand, 1) := by decide +kernel
theorem dL_isSo_341 : decode cL_isSo 341 = .ok (.istore 16, 2) := by decide +kernel
theorem dL_isSo_343 : decode cL_isSo 343 = .ok (.aload_n 1, 1) := by decide +kernel
theorem dL_isSo_344 : decode cL_isSo 344 = .ok (.aload 5, 2) := by decide +kernel
theorem dL_isSo_346 : decode cL_isSo 346 = .ok (.aload 6, 2) := by decide +kernel
theorem dL_isSo_348 : decode cL_isSo 348 = .ok (.iload 16, 2) := by decide +kernel
theorem dL_isSo_350 : decode cL_isSo 350 = .ok (.invokestatic 125, 3) := by decide +kernel
theorem dL_isSo_353 : decode cL_isSo 353 = .ok (.istore 17, 2) := by decide +kernel
theorem dL_isSo_355 : decode cL_isSo 355 = .ok (.iconst (-1), 1) := by decide +kernel
theorem dL_isSo_356 : decode cL_isSo 356 = .ok (.istore 18, 2) := by decide +kernel
theorem dL_isSo_358 : decode cL_isSo 358 = .ok (.sipush 10000, 3) := by decide +kernel
theorem dL_isSo_361 : decode cL_isSo 361 = .ok (.istore 19, 2) := by decide +kernel
theorem dL_isSo_363 : decode cL_isSo 363 = .ok (.iconst 0, 1) := by decide +kernel
theorem dL_isSo_364 : decode cL_isSo 364 = .ok (.istore 20, 2) := by decide +kernel
theorem dL_isSo_366 : decode cL_isSo 366 = .ok (.iload 20, 2) := by decide +kernel
theorem dL_isSo_368 : decode cL_isSo 368 = .ok (.sipush 400, 3) := by decide +kernel
theorem dL_isSo_371 : decode cL_isSo 371 = .ok (.if_icmp .ge 165, 3) := by decide +kernel
theorem dL_isSo_374 : decode cL_isSo 374 = .ok (.aload_n 1, 1) := by decide +kernel
theorem dL_isSo_375 : decode cL_isSo 375 = .ok (.sipush 400, 3) := by decide +kernel
theorem dL_isSo_378 : decode cL_isSo 378 = .ok (.iload 20, 2) := by decide +kernel
theorem dL_isSo_380 : decode cL_isSo 380 = .ok (.iadd, 1) := by decide +kernel
theorem dL_isSo_381 : decode cL_isSo 381 = .ok (.invokestatic 87, 3) := by decide +kernel
theorem dL_isSo_384 : decode cL_isSo 384 = .ok (.iload 17, 2) := by decide +kernel
theorem dL_isSo_386 : decode cL_isSo 386 = .ok (.isub, 1) := by decide +kernel
theorem dL_isSo_387 : decode cL_isSo 387 = .ok (.istore 21, 2) := by decide +kernel
theorem dL_isSo_389 : decode cL_isSo 389 = .ok (.iload 21, 2) := by decide +kernel
theorem dL_isSo_391 : decode cL_isSo 391 = .ok (.ifCond .ge 9, 3) := by decide +kernel
theorem dL_isSo_394 : decode cL_isSo 394 = .ok (.iload 21, 2) := by decide +kernel
theorem dL_isSo_396 : decode cL_isSo 396 = .ok (.ineg, 1) := by decide +kernel
theorem dL_isSo_397 : decode cL_isSo 397 = .ok (.goto 5, 3) := by decide +kernel
theorem dL_isSo_400 : decode cL_isSo 400 = .ok (.iload 21, 2) := by decide +kernel
theorem dL_isSo_402 : decode cL_isSo 402 = .ok (.istore 21, 2) := by decide +kernel
theorem dL_isSo_404 : decode cL_isSo 404 = .ok (.iload 21, 2) := by decide +kernel
theorem dL_isSo_406 : decode cL_isSo 406 = .ok (.iconst 3, 1) := by decide +kernel
theorem dL_isSo_407 : decode cL_isSo 407 = .ok (.if_icmp .ge 51, 3) := by decide +kernel
theorem dL_isSo_410 : decode cL_isSo 410 = .ok (.aload 4, 2) := by decide +kernel
theorem dL_isSo_412 : decode cL_isSo 412 = .ok (.aload 8, 2) := by decide +kernel
theorem dL_isSo_414 : decode cL_isSo 414 = .ok (.iload 14, 2) := by decide +kernel
theorem dL_isSo_416 : decode cL_isSo 416 = .ok (.iload 20, 2) := by decide +kernel
theorem dL_isSo_418 : decode cL_isSo 418 = .ok (.bipush 20, 2) := by decide +kernel
theorem dL_isSo_420 : decode cL_isSo 420 = .ok (.irem, 1) := by decide +kernel
theorem dL_isSo_421 : decode cL_isSo 421 = .ok (.iload 20, 2) := by decide +kernel
theorem dL_isSo_423 : decode cL_isSo 423 = .ok (.bipush 20, 2) := by decide +kernel
theorem dL_isSo_425 : decode cL_isSo 425 = .ok (.idiv, 1) := by decide +kernel
theorem dL_isSo_426 : decode cL_isSo 426 = .ok (.invokestatic 114, 3) := by decide +kernel
theorem dL_isSo_429 : decode cL_isSo 429 = .ok (.ifCond .eq 29, 3) := by decide +kernel
theorem dL_isSo_432 : decode cL_isSo 432 = .ok (.aload 5, 2) := by decide +kernel
theorem dL_isSo_434 : decode cL_isSo 434 = .ok (.aload 6, 2) := by decide +kernel
theorem dL_isSo_436 : decode cL_isSo 436 = .ok (.iload 16, 2) := by decide +kernel
theorem dL_isSo_438 : decode cL_isSo 438 = .ok (.iload 20, 2) := by decide +kernel
theorem dL_isSo_440 : decode cL_isSo 440 = .ok (.bipush 20, 2) := by decide +kernel
theorem dL_isSo_442 : decode cL_isSo 442 = .ok (.irem, 1) := by decide +kernel
theorem dL_isSo_443 : decode cL_isSo 443 = .ok (.iload 20, 2) := by decide +kernel
theorem dL_isSo_445 : decode cL_isSo 445 = .ok (.bipush 20, 2) := by decide +kernel
theorem dL_isSo_447 : decode cL_isSo 447 = .ok (.idiv, 1) := by decide +kernel
theorem dL_isSo_448 : decode cL_isSo 448 = .ok (.invokestatic 118, 3) := by decide +kernel
theorem dL_isSo_451 : decode cL_isSo 451 = .ok (.ifCond .ne 7, 3) := by decide +kernel
theorem dL_isSo_454 : decode cL_isSo 454 = .ok (.iconst 1, 1) := by decide +kernel
theorem dL_isSo_455 : decode cL_isSo 455 = .ok (.goto 4, 3) := by decide +kernel
theorem dL_isSo_458 : decode cL_isSo 458 = .ok (.iconst 0, 1) := by decide +kernel
theorem dL_isSo_459 : decode cL_isSo 459 = .ok (.istore 22, 2) := by decide +kernel
theorem dL_isSo_461 : decode cL_isSo 461 = .ok (.bipush 10, 2) := by decide +kernel
theorem dL_isSo_463 : decode cL_isSo 463 = .ok (.iload 21, 2) := by decide +kernel
theorem dL_isSo_465 : decode cL_isSo 465 = .ok (.imul, 1) := by decide +kernel
theorem dL_isSo_466 : decode cL_isSo 466 = .ok (.aload 4, 2) := by decide +kernel
theorem dL_isSo_468 : decode cL_isSo 468 = .ok (.aload 8, 2) := by decide +kernel
theorem dL_isSo_470 : decode cL_isSo 470 = .ok (.iload 14, 2) := by decide +kernel
theorem dL_isSo_472 : decode cL_isSo 472 = .ok (.iload 20, 2) := by decide +kernel
theorem dL_isSo_474 : decode cL_isSo 474 = .ok (.bipush 20, 2) := by decide +kernel
theorem dL_isSo_476 : decode cL_isSo 476 = .ok (.irem, 1) := by decide +kernel
theorem dL_isSo_477 : decode cL_isSo 477 = .ok (.iload 20, 2) := by decide +kernel
theorem dL_isSo_479 : decode cL_isSo 479 = .ok (.bipush 20, 2) := by decide +kernel
theorem dL_isSo_481 : decode cL_isSo 481 = .ok (.idiv, 1) := by decide +kernel
theorem dL_isSo_482 : decode cL_isSo 482 = .ok (.invokestatic 129, 3) := by decide +kernel
theorem dL_isSo_485 : decode cL_isSo 485 = .ok (.iadd, 1) := by decide +kernel
theorem dL_isSo_486 : decode cL_isSo 486 = .ok (.istore 23, 2) := by decide +kernel
theorem dL_isSo_488 : decode cL_isSo 488 = .ok (.iload 22, 2) := by decide +kernel
theorem dL_isSo_490 : decode cL_isSo 490 = .ok (.ifCond .eq 15, 3) := by decide +kernel
theorem dL_isSo_493 : decode cL_isSo 493 = .ok (.iload 23, 2) := by decide +kernel
theorem dL_isSo_495 : decode cL_isSo 495 = .ok (.iload 19, 2) := by decide +kernel
theorem dL_isSo_497 : decode cL_isSo 497 = .ok (.if_icmp .ge 8, 3) := by decide +kernel
theorem dL_isSo_500 : decode cL_isSo 500 = .ok (.iload 20, 2) := by decide +kernel
theorem dL_isSo_502 : decode cL_isSo 502 = .ok (.goto 5, 3) := by decide +kernel
theorem dL_isSo_505 : decode cL_isSo 505 = .ok (.iload 18, 2) := by decide +kernel
theorem dL_isSo_507 : decode cL_isSo 507 = .ok (.istore 18, 2) := by decide +kernel
theorem dL_isSo_509 : decode cL_isSo 509 = .ok (.iload 22, 2) := by decide +kernel
theorem dL_isSo_511 : decode cL_isSo 511 = .ok (.ifCond .eq 15, 3) := by decide +kernel
theorem dL_isSo_514 : decode cL_isSo 514 = .ok (.iload 23, 2) := by decide +kernel
theorem dL_isSo_516 : decode cL_isSo 516 = .ok (.iload 19, 2) := by decide +kernel
theorem dL_isSo_518 : decode cL_isSo 518 = .ok (.if_icmp .ge 8, 3) := by decide +kernel
theorem dL_isSo_521 : decode cL_isSo 521 = .ok (.iload 23, 2) := by decide +kernel
theorem dL_isSo_523 : decode cL_isSo 523 = .ok (.goto 5, 3) := by decide +kernel
theorem dL_isSo_526 : decode cL_isSo 526 = .ok (.iload 19, 2) := by decide +kernel
theorem dL_isSo_528 : decode cL_isSo 528 = .ok (.istore 19, 2) := by decide +kernel
theorem dL_isSo_530 : decode cL_isSo 530 = .ok (.iinc 20 1, 3) := by decide +kernel
theorem dL_isSo_533 : decode cL_isSo 533 = .ok (.goto (-167), 3) := by decide +kernel
theorem dL_isSo_536 : decode cL_isSo 536 = .ok (.iload 13, 2) := by decide +kernel
theorem dL_isSo_538 : decode cL_isSo 538 = .ok (.ifCond .eq 18, 3) := by decide +kernel
theorem dL_isSo_541 : decode cL_isSo 541 = .ok (.aload_n 0, 1) := by decide +kernel
theorem dL_isSo_542 : decode cL_isSo 542 = .ok (.iload 14, 2) := by decide +kernel
theorem dL_isSo_544 : decode cL_isSo 544 = .ok (.invokevirtual 167, 3) := by decide +kernel
theorem dL_isSo_547 : decode cL_isSo 547 = .ok (.iload 18, 2) := by decide +kernel
theorem dL_isSo_549 : decode cL_isSo 549 = .ok (.if_icmp .ne 7, 3) := by decide +kernel
theorem dL_isSo_552 : decode cL_isSo 552 = .ok (.iconst 1, 1) := by decide +kernel
theorem dL_isSo_553 : decode cL_isSo 553 = .ok (.goto 4, 3) := by decide +kernel
theorem dL_isSo_556 : decode cL_isSo 556 = .ok (.iconst 0, 1) := by decide +kernel
theorem dL_isSo_557 : decode cL_isSo 557 = .ok (.istore 13, 2) := by decide +kernel
theorem dL_isSo_559 : decode cL_isSo 559 = .ok (.iload 16, 2) := by decide +kernel
theorem dL_isSo_561 : decode cL_isSo 561 = .ok (.istore 20, 2) := by decide +kernel
theorem dL_isSo_563 : decode cL_isSo 563 = .ok (.aload 8, 2) := by decide +kernel
theorem dL_isSo_565 : decode cL_isSo 565 = .ok (.iconst 0, 1) := by decide +kernel
theorem dL_isSo_566 : decode cL_isSo 566 = .ok (.iaload, 1) := by decide +kernel
theorem dL_isSo_567 : decode cL_isSo 567 = .ok (.iconst 1, 1) := by decide +kernel
theorem dL_isSo_568 : decode cL_isSo 568 = .ok (.if_icmp .ne 33, 3) := by decide +kernel
theorem dL_isSo_571 : decode cL_isSo 571 = .ok (.iload 15, 2) := by decide +kernel
theorem dL_isSo_573 : decode cL_isSo 573 = .ok (.ifCond .eq 28, 3) := by decide +kernel
theorem dL_isSo_576 : decode cL_isSo 576 = .ok (.aload 8, 2) := by decide +kernel
theorem dL_isSo_578 : decode cL_isSo 578 = .ok (.iconst 3, 1) := by decide +kernel
theorem dL_isSo_579 : decode cL_isSo 579 = .ok (.iaload, 1) := by decide +kernel
theorem dL_isSo_580 : decode cL_isSo 580 = .ok (.ifCond .le 21, 3) := by decide +kernel
theorem dL_isSo_583 : decode cL_isSo 583 = .ok (.aload 5, 2) := by decide +kernel
theorem dL_isSo_585 : decode cL_isSo 585 = .ok (.aload 6, 2) := by decide +kernel
theorem dL_isSo_587 : decode cL_isSo 587 = .ok (.aload 8, 2) := by decide +kernel
theorem dL_isSo_589 : decode cL_isSo 589 = .ok (.iload 16, 2) := by decide +kernel
theorem dL_isSo_591 : decode cL_isSo 591 = .ok (.invokestatic 110, 3) := by decide +kernel
theorem dL_isSo_594 : decode cL_isSo 594 = .ok (.ifCond .eq 7, 3) := by decide +kernel
theorem dL_isSo_597 : decode cL_isSo 597 = .ok (.iconst 0, 1) := by decide +kernel
theorem dL_isSo_598 : decode cL_isSo 598 = .ok (.goto 4, 3) := by decide +kernel
theorem dL_isSo_601 : decode cL_isSo 601 = .ok (.iconst (-1), 1) := by decide +kernel
theorem dL_isSo_602 : decode cL_isSo 602 = .ok (.istore 21, 2) := by decide +kernel
theorem dL_isSo_604 : decode cL_isSo 604 = .ok (.iload 21, 2) := by decide +kernel
theorem dL_isSo_606 : decode cL_isSo 606 = .ok (.ifCond .ne 71, 3) := by decide +kernel
theorem dL_isSo_609 : decode cL_isSo 609 = .ok (.aload_n 3, 1) := by decide +kernel
theorem dL_isSo_610 : decode cL_isSo 610 = .ok (.aload 5, 2) := by decide +kernel
theorem dL_isSo_612 : decode cL_isSo 612 = .ok (.aload 6, 2) := by decide +kernel
theorem dL_isSo_614 : decode cL_isSo 614 = .ok (.aload 8, 2) := by decide +kernel
theorem dL_isSo_616 : decode cL_isSo 616 = .ok (.iload 20, 2) := by decide +kernel
theorem dL_isSo_618 : decode cL_isSo 618 = .ok (.invokestatic 98, 3) := by decide +kernel
theorem dL_isSo_621 : decode cL_isSo 621 = .ok (.istore 22, 2) := by decide +kernel
theorem dL_isSo_623 : decode cL_isSo 623 = .ok (.iload 22, 2) := by decide +kernel
theorem dL_isSo_625 : decode cL_isSo 625 = .ok (.ifCond .le 30, 3) := by decide +kernel
theorem dL_isSo_628 : decode cL_isSo 628 = .ok (.iconst 1, 1) := by decide +kernel
theorem dL_isSo_629 : decode cL_isSo 629 = .ok (.istore 21, 2) := by decide +kernel
theorem dL_isSo_631 : decode cL_isSo 631 = .ok (.iload 20, 2) := by decide +kernel
theorem dL_isSo_633 : decode cL_isSo 633 = .ok (.iload 22, 2) := by decide +kernel
theorem dL_isSo_635 : decode cL_isSo 635 = .ok (.isub, 1) := by decide +kernel
theorem dL_isSo_636 : decode cL_isSo 636 = .ok (.istore 20, 2) := by decide +kernel
theorem dL_isSo_638 : decode cL_isSo 638 = .ok (.aload_n 3, 1) := by decide +kernel
theorem dL_isSo_639 : decode cL_isSo 639 = .ok (.aload 5, 2) := by decide +kernel
theorem dL_isSo_641 : decode cL_isSo 641 = .ok (.aload 6, 2) := by decide +kernel
theorem dL_isSo_643 : decode cL_isSo 643 = .ok (.aload 8, 2) := by decide +kernel
theorem dL_isSo_645 : decode cL_isSo 645 = .ok (.iload 20, 2) := by decide +kernel
theorem dL_isSo_647 : decode cL_isSo 647 = .ok (.invokestatic 98, 3) := by decide +kernel
theorem dL_isSo_650 : decode cL_isSo 650 = .ok (.istore 22, 2) := by decide +kernel
theorem dL_isSo_652 : decode cL_isSo 652 = .ok (.goto (-29), 3) := by decide +kernel
theorem dL_isSo_655 : decode cL_isSo 655 = .ok (.aload 5, 2) := by decide +kernel
theorem dL_isSo_657 : decode cL_isSo 657 = .ok (.aload 6, 2) := by decide +kernel
theorem dL_isSo_659 : decode cL_isSo 659 = .ok (.aload 8, 2) := by decide +kernel
theorem dL_isSo_661 : decode cL_isSo 661 = .ok (.iload 20, 2) := by decide +kernel
theorem dL_isSo_663 : decode cL_isSo 663 = .ok (.invokestatic 110, 3) := by decide +kernel
theorem dL_isSo_666 : decode cL_isSo 666 = .ok (.ifCond .eq 8, 3) := by decide +kernel
theorem dL_isSo_669 : decode cL_isSo 669 = .ok (.iload 21, 2) := by decide +kernel
theorem dL_isSo_671 : decode cL_isSo 671 = .ok (.goto 4, 3) := by decide +kernel
theorem dL_isSo_674 : decode cL_isSo 674 = .ok (.iconst 2, 1) := by decide +kernel
theorem dL_isSo_675 : decode cL_isSo 675 = .ok (.istore 21, 2) := by decide +kernel
theorem dL_isSo_677 : decode cL_isSo 677 = .ok (.iload 13, 2) := by decide +kernel
theorem dL_isSo_679 : decode cL_isSo 679 = .ok (.ifCond .eq 18, 3) := by decide +kernel
theorem dL_isSo_682 : decode cL_isSo 682 = .ok (.aload_n 0, 1) := by decide +kernel
theorem dL_isSo_683 : decode cL_isSo 683 = .ok (.iload 14, 2) := by decide +kernel
theorem dL_isSo_685 : decode cL_isSo 685 = .ok (.invokevirtual 170, 3) := by decide +kernel
theorem dL_isSo_688 : decode cL_isSo 688 = .ok (.iload 21, 2) := by decide +kernel
theorem dL_isSo_690 : decode cL_isSo 690 = .ok (.if_icmp .ne 7, 3) := by decide +kernel
theorem dL_isSo_693 : decode cL_isSo 693 = .ok (.iconst 1, 1) := by decide +kernel
theorem dL_isSo_694 : decode cL_isSo 694 = .ok (.goto 4, 3) := by decide +kernel
theorem dL_isSo_697 : decode cL_isSo 697 = .ok (.iconst 0, 1) := by decide +kernel
theorem dL_isSo_698 : decode cL_isSo 698 = .ok (.istore 13, 2) := by decide +kernel
theorem dL_isSo_700 : decode cL_isSo 700 = .ok (.iinc 14 1, 3) := by decide +kernel
theorem dL_isSo_703 : decode cL_isSo 703 = .ok (.goto (-479), 3) := by decide +kernel
theorem dL_isSo_706 : decode cL_isSo 706 = .ok (.iconst (-1), 1) := by decide +kernel
theorem dL_isSo_707 : decode cL_isSo 707 = .ok (.istore 14, 2) := by decide +kernel
theorem dL_isSo_709 : decode cL_isSo 709 = .ok (.iconst 0, 1) := by decide +kernel
theorem dL_isSo_710 : decode cL_isSo 710 = .ok (.istore 15, 2) := by decide +kernel
theorem dL_isSo_712 : decode cL_isSo 712 = .ok (.iload 15, 2) := by decide +kernel
theorem dL_isSo_714 : decode cL_isSo 714 = .ok (.bipush 6, 2) := by decide +kernel
theorem dL_isSo_716 : decode cL_isSo 716 = .ok (.if_icmp .ge 77, 3) := by decide +kernel
theorem dL_isSo_719 : decode cL_isSo 719 = .ok (.iload 11, 2) := by decide +kernel
theorem dL_isSo_721 : decode cL_isSo 721 = .ok (.iload 15, 2) := by decide +kernel
theorem dL_isSo_723 : decode cL_isSo 723 = .ok (.ishr, 1) := by decide +kernel
theorem dL_isSo_724 : decode cL_isSo 724 = .ok (.iconst 1, 1) := by decide +kernel
theorem dL_isSo_725 : decode cL_isSo 725 = .ok (.iand, 1) := by decide +kernel
theorem dL_isSo_726 : decode cL_isSo 726 = .ok (.iconst 1, 1) := by decide +kernel
theorem dL_isSo_727 : decode cL_isSo 727 = .ok (.if_icmp .ne 43, 3) := by decide +kernel
theorem dL_isSo_730 : decode cL_isSo 730 = .ok (.iload 14, 2) := by decide +kernel
theorem dL_isSo_732 : decode cL_isSo 732 = .ok (.ifCond .lt 34, 3) := by decide +kernel
theorem dL_isSo_735 : decode cL_isSo 735 = .ok (.bipush 20, 2) := by decide +kernel
theorem dL_isSo_737 : decode cL_isSo 737 = .ok (.aload 6, 2) := by decide +kernel
theorem dL_isSo_739 : decode cL_isSo 739 = .ok (.iload 15, 2) := by decide +kernel
theorem dL_isSo_741 : decode cL_isSo 741 = .ok (.iaload, 1) := by decide +kernel
theorem dL_isSo_742 : decode cL_isSo 742 = .ok (.imul, 1) := by decide +kernel
theorem dL_isSo_743 : decode cL_isSo 743 = .ok (.aload 5, 2) := by decide +kernel
theorem dL_isSo_745 : decode cL_isSo 745 = .ok (.iload 15, 2) := by decide +kernel
theorem dL_isSo_747 : decode cL_isSo 747 = .ok (.iaload, 1) := by decide +kernel
theorem dL_isSo_748 : decode cL_isSo 748 = .ok (.iadd, 1) := by decide +kernel
theorem dL_isSo_749 : decode cL_isSo 749 = .ok (.bipush 20, 2) := by decide +kernel
theorem dL_isSo_751 : decode cL_isSo 751 = .ok (.aload 6, 2) := by decide +kernel
theorem dL_isSo_753 : decode cL_isSo 753 = .ok (.iload 14, 2) := by decide +kernel
theorem dL_isSo_755 : decode cL_isSo 755 = .ok (.iaload, 1) := by decide +kernel
theorem dL_isSo_756 : decode cL_isSo 756 = .ok (.imul, 1) := by decide +kernel
theorem dL_isSo_757 : decode cL_isSo 757 = .ok (.aload 5, 2) := by decide +kernel
theorem dL_isSo_759 : decode cL_isSo 759 = .ok (.iload 14, 2) := by decide +kernel
theorem dL_isSo_761 : decode cL_isSo 761 = .ok (.iaload, 1) := by decide +kernel
theorem dL_isSo_762 : decode cL_isSo 762 = .ok (.iadd, 1) := by decide +kernel
theorem dL_isSo_763 : decode cL_isSo 763 = .ok (.if_icmp .ge 7, 3) := by decide +kernel
theorem dL_isSo_766 : decode cL_isSo 766 = .ok (.iconst 1, 1) := by decide +kernel
theorem dL_isSo_767 : decode cL_isSo 767 = .ok (.goto 4, 3) := by decide +kernel
theorem dL_isSo_770 : decode cL_isSo 770 = .ok (.iconst 0, 1) := by decide +kernel
theorem dL_isSo_771 : decode cL_isSo 771 = .ok (.istore 16, 2) := by decide +kernel
theorem dL_isSo_773 : decode cL_isSo 773 = .ok (.iload 16, 2) := by decide +kernel
theorem dL_isSo_775 : decode cL_isSo 775 = .ok (.ifCond .eq 8, 3) := by decide +kernel
theorem dL_isSo_778 : decode cL_isSo 778 = .ok (.iload 15, 2) := by decide +kernel
theorem dL_isSo_780 : decode cL_isSo 780 = .ok (.goto 5, 3) := by decide +kernel
theorem dL_isSo_783 : decode cL_isSo 783 = .ok (.iload 14, 2) := by decide +kernel
theorem dL_isSo_785 : decode cL_isSo 785 = .ok (.istore 14, 2) := by decide +kernel
theorem dL_isSo_787 : decode cL_isSo 787 = .ok (.iinc 15 1, 3) := by decide +kernel
theorem dL_isSo_790 : decode cL_isSo 790 = .ok (.goto (-78), 3) := by decide +kernel
theorem dL_isSo_793 : decode cL_isSo 793 = .ok (.iload 14, 2) := by decide +kernel
theorem dL_isSo_795 : decode cL_isSo 795 = .ok (.istore 15, 2) := by decide +kernel
theorem dL_isSo_797 : decode cL_isSo 797 = .ok (.iconst 0, 1) := by decide +kernel
theorem dL_isSo_798 : decode cL_isSo 798 = .ok (.istore 16, 2) := by decide +kernel
theorem dL_isSo_800 : decode cL_isSo 800 = .ok (.iconst 0, 1) := by decide +kernel
theorem dL_isSo_801 : decode cL_isSo 801 = .ok (.istore 17, 2) := by decide +kernel
theorem dL_isSo_803 : decode cL_isSo 803 = .ok (.iconst 0, 1) := by decide +kernel
theorem dL_isSo_804 : decode cL_isSo 804 = .ok (.istore 18, 2) := by decide +kernel
theorem dL_isSo_806 : decode cL_isSo 806 = .ok (.iload 14, 2) := by decide +kernel
theorem dL_isSo_808 : decode cL_isSo 808 = .ok (.ifCond .lt 330, 3) := by decide +kernel
theorem dL_isSo_811 : decode cL_isSo 811 = .ok (.iload 13, 2) := by decide +kernel
theorem dL_isSo_813 : decode cL_isSo 813 = .ok (.ifCond .eq 325, 3) := by decide +kernel
theorem dL_isSo_816 : decode cL_isSo 816 = .ok (.iload 16, 2) := by decide +kernel
theorem dL_isSo_818 : decode cL_isSo 818 = .ok (.ifCond .eq 10, 3) := by decide +kernel
theorem dL_isSo_821 : decode cL_isSo 821 = .ok (.iload 14, 2) := by decide +kernel
theorem dL_isSo_823 : decode cL_isSo 823 = .ok (.iload 15, 2) := by decide +kernel
theorem dL_isSo_825 : decode cL_isSo 825 = .ok (.if_icmp .eq 313, 3) := by decide +kernel
theorem dL_isSo_828 : decode cL_isSo 828 = .ok (.aload_n 0, 1) := by decide +kernel
theorem dL_isSo_829 : decode cL_isSo 829 = .ok (.iload 16, 2) := by decide +kernel
theorem dL_isSo_831 : decode cL_isSo 831 = .ok (.invokevirtual 48, 3) := by decide +kernel
theorem dL_isSo_834 : decode cL_isSo 834 = .ok (.bipush 20, 2) := by decide +kernel
theorem dL_isSo_836 : decode cL_isSo 836 = .ok (.aload 6, 2) := by decide +kernel
theorem dL_isSo_838 : decode cL_isSo 838 = .ok (.iload 14, 2) := by decide +kernel
theorem dL_isSo_840 : decode cL_isSo 840 = .ok (.iaload, 1) := by decide +kernel
theorem dL_isSo_841 : decode cL_isSo 841 = .ok (.imul, 1) := by decide +kernel
theorem dL_isSo_842 : decode cL_isSo 842 = .ok (.aload 5, 2) := by decide +kernel
theorem dL_isSo_844 : decode cL_isSo 844 = .ok (.iload 14, 2) := by decide +kernel
theorem dL_isSo_846 : decode cL_isSo 846 = .ok (.iaload, 1) := by decide +kernel
theorem dL_isSo_847 : decode cL_isSo 847 = .ok (.iadd, 1) := by decide +kernel
theorem dL_isSo_848 : decode cL_isSo 848 = .ok (.if_icmp .ne 7, 3) := by decide +kernel
theorem dL_isSo_851 : decode cL_isSo 851 = .ok (.iconst 1, 1) := by decide +kernel
theorem dL_isSo_852 : decode cL_isSo 852 = .ok (.goto 4, 3) := by decide +kernel
theorem dL_isSo_855 : decode cL_isSo 855 = .ok (.iconst 0, 1) := by decide +kernel
theorem dL_isSo_856 : decode cL_isSo 856 = .ok (.istore 13, 2) := by decide +kernel
theorem dL_isSo_858 : decode cL_isSo 858 = .ok (.iinc 16 1, 3) := by decide +kernel
theorem dL_isSo_861 : decode cL_isSo 861 = .ok (.iconst (-1), 1) := by decide +kernel
theorem dL_isSo_862 : decode cL_isSo 862 = .ok (.istore 19, 2) := by decide +kernel
theorem dL_isSo_864 : decode cL_isSo 864 = .ok (.iconst 0, 1) := by decide +kernel
theorem dL_isSo_865 : decode cL_isSo 865 = .ok (.istore 20, 2) := by decide +kernel
theorem dL_isSo_867 : decode cL_isSo 867 = .ok (.iload 20, 2) := by decide +kernel
theorem dL_isSo_869 : decode cL_isSo 869 = .ok (.bipush 6, 2) := by decide +kernel
theorem dL_isSo_871 : decode cL_isSo 871 = .ok (.if_icmp .ge 34, 3) := by decide +kernel
theorem dL_isSo_874 : decode cL_isSo 874 = .ok (.aload 5, 2) := by decide +kernel
theorem dL_isSo_876 : decode cL_isSo 876 = .ok (.aload 6, 2) := by decide +kernel
theorem dL_isSo_878 : decode cL_isSo 878 = .ok (.iload 11, 2) := by decide +kernel
theorem dL_isSo_880 : decode cL_isSo 880 = .ok (.iload 14, 2) := by decide +kernel
theorem dL_isSo_882 : decode cL_isSo 882 = .ok (.iload 20, 2) := by decide +kernel
theorem dL_isSo_884 : decode cL_isSo 884 = .ok (.invokestatic 173, 3) := by decide +kernel
theorem dL_isSo_887 : decode cL_isSo 887 = .ok (.ifCond .eq 8, 3) := by decide +kernel
theorem dL_isSo_890 : decode cL_isSo 890 = .ok (.iload 20, 2) := by decide +kernel
theorem dL_isSo_892 : decode cL_isSo 892 = .ok (.goto 5, 3) := by decide +kernel
theorem dL_isSo_895 : decode cL_isSo 895 = .ok (.iload 19, 2) := by decide +kernel
theorem dL_isSo_897 : decode cL_isSo 897 = .ok (.istore 19, 2) := by decide +kernel
theorem dL_isSo_899 : decode cL_isSo 899 = .ok (.iinc 20 1, 3) := by decide +kernel
theorem dL_isSo_902 : decode cL_isSo 902 = .ok (.goto (-35), 3) := by decide +kernel
theorem dL_isSo_905 : decode cL_isSo 905 = .ok (.iload 19, 2) := by decide +kernel
theorem dL_isSo_907 : decode cL_isSo 907 = .ok (.ifCond .lt 224, 3) := by decide +kernel
theorem dL_isSo_910 : decode cL_isSo 910 = .ok (.bipush 10, 2) := by decide +kernel
theorem dL_isSo_912 : decode cL_isSo 912 = .ok (.aload 8, 2) := by decide +kernel
theorem dL_isSo_914 : decode cL_isSo 914 = .ok (.iconst 4, 1) := by decide +kernel
theorem dL_isSo_915 : decode cL_isSo 915 = .ok (.iaload, 1) := by decide +kernel
theorem dL_isSo_916 : decode cL_isSo 916 = .ok (.iadd, 1) := by decide +kernel
theorem dL_isSo_917 : decode cL_isSo 917 = .ok (.istore 20, 2) := by decide +kernel
theorem dL_isSo_919 : decode cL_isSo 919 = .ok (.iload 20, 2) := by decide +kernel
theorem dL_isSo_921 : decode cL_isSo 921 = .ok (.aload 8, 2) := by decide +kernel
theorem dL_isSo_923 : decode cL_isSo 923 = .ok (.iconst 1, 1) := by decide +kernel
theorem dL_isSo_924 : decode cL_isSo 924 = .ok (.iaload, 1) := by decide +kernel
theorem dL_isSo_925 : decode cL_isSo 925 = .ok (.imul, 1) := by decide +kernel
theorem dL_isSo_926 : decode cL_isSo 926 = .ok (.aload 8, 2) := by decide +kernel
theorem dL_isSo_928 : decode cL_isSo 928 = .ok (.iconst 4, 1) := by decide +kernel
theorem dL_isSo_929 : decode cL_isSo 929 = .ok (.iaload, 1) := by decide +kernel
theorem dL_isSo_930 : decode cL_isSo 930 = .ok (.aload 8, 2) := by decide +kernel
theorem dL_isSo_932 : decode cL_isSo 932 = .ok (.iconst 5, 1) := by decide +kernel
theorem dL_isSo_933 : decode cL_isSo 933 = .ok (.iaload, 1) := by decide +kernel
theorem dL_isSo_934 : decode cL_isSo 934 = .ok (.imul, 1) := by decide +kernel
theorem dL_isSo_935 : decode cL_isSo 935 = .ok (.iadd, 1) := by decide +kernel
theorem dL_isSo_936 : decode cL_isSo 936 = .ok (.iload 20, 2) := by decide +kernel
theorem dL_isSo_938 : decode cL_isSo 938 = .ok (.aload 5, 2) := by decide +kernel
theorem dL_isSo_940 : decode cL_isSo 940 = .ok (.iload 14, 2) := by decide +kernel
theorem dL_isSo_942 : decode cL_isSo 942 = .ok (.iaload, 1) := by decide +kernel
theorem dL_isSo_943 : decode cL_isSo 943 = .ok (.imul, 1) := by decide +kernel
theorem dL_isSo_944 : decode cL_isSo 944 = .ok (.isub, 1) := by decide +kernel
theorem dL_isSo_945 : decode cL_isSo 945 = .ok (.i2l, 1) := by decide +kernel
theorem dL_isSo_946 : decode cL_isSo 946 = .ok (.lstore 21, 2) := by decide +kernel
theorem dL_isSo_948 : decode cL_isSo 948 = .ok (.iload 20, 2) := by decide +kernel
theorem dL_isSo_950 : decode cL_isSo 950 = .ok (.aload 8, 2) := by decide +kernel
theorem dL_isSo_952 : decode cL_isSo 952 = .ok (.iconst 2, 1) := by decide +kernel
theorem dL_isSo_953 : decode cL_isSo 953 = .ok (.iaload, 1) := by decide +kernel
theorem dL_isSo_954 : decode cL_isSo 954 = .ok (.imul, 1) := by decide +kernel
theorem dL_isSo_955 : decode cL_isSo 955 = .ok (.aload 8, 2) := by decide +kernel
theorem dL_isSo_957 : decode cL_isSo 957 = .ok (.iconst 4, 1) := by decide +kernel
theorem dL_isSo_958 : decode cL_isSo 958 = .ok (.iaload, 1) := by decide +kernel
theorem dL_isSo_959 : decode cL_isSo 959 = .ok (.aload 8, 2) := by decide +kernel
theorem dL_isSo_961 : decode cL_isSo 961 = .ok (.bipush 6, 2) := by decide +kernel
theorem dL_isSo_963 : decode cL_isSo 963 = .ok (.iaload, 1) := by decide +kernel
theorem dL_isSo_964 : decode cL_isSo 964 = .ok (.imul, 1) := by decide +kernel
theorem dL_isSo_965 : decode cL_isSo 965 = .ok (.iadd, 1) := by decide +kernel
theorem dL_isSo_966 : decode cL_isSo 966 = .ok (.iload 20, 2) := by decide +kernel
theorem dL_isSo_968 : decode cL_isSo 968 = .ok (.aload 6, 2) := by decide +kernel
theorem dL_isSo_970 : decode cL_isSo 970 = .ok (.iload 14, 2) := by decide +kernel
theorem dL_isSo_972 : decode cL_isSo 972 = .ok (.iaload, 1) := by decide +kernel
theorem dL_isSo_973 : decode cL_isSo 973 = .ok (.imul, 1) := by decide +kernel
theorem dL_isSo_974 : decode cL_isSo 974 = .ok (.isub, 1) := by decide +kernel
theorem dL_isSo_975 : decode cL_isSo 975 = .ok (.i2l, 1) := by decide +kernel
theorem dL_isSo_976 : decode cL_isSo 976 = .ok (.lstore 23, 2) := by decide +kernel
theorem dL_isSo_978 : decode cL_isSo 978 = .ok (.aload 5, 2) := by decide +kernel
theorem dL_isSo_980 : decode cL_isSo 980 = .ok (.iload 19, 2) := by decide +kernel
theorem dL_isSo_982 : decode cL_isSo 982 = .ok (.iaload, 1) := by decide +kernel
theorem dL_isSo_983 : decode cL_isSo 983 = .ok (.aload 5, 2) := by decide +kernel
theorem dL_isSo_985 : decode cL_isSo 985 = .ok (.iload 14, 2) := by decide +kernel
theorem dL_isSo_987 : decode cL_isSo 987 = .ok (.iaload, 1) := by decide +kernel
theorem dL_isSo_988 : decode cL_isSo 988 = .ok (.isub, 1) := by decide +kernel
theorem dL_isSo_989 : decode cL_isSo 989 = .ok (.i2l, 1) := by decide +kernel
theorem dL_isSo_990 : decode cL_isSo 990 = .ok (.lload 23, 2) := by decide +kernel
theorem dL_isSo_992 : decode cL_isSo 992 = .ok (.lmul, 1) := by decide +kernel
theorem dL_isSo_993 : decode cL_isSo 993 = .ok (.aload 6, 2) := by decide +kernel
theorem dL_isSo_995 : decode cL_isSo 995 = .ok (.iload 19, 2) := by decide +kernel
theorem dL_isSo_997 : decode cL_isSo 997 = .ok (.iaload, 1) := by decide +kernel
theorem dL_isSo_998 : decode cL_isSo 998 = .ok (.aload 6, 2) := by decide +kernel
theorem dL_isSo_1000 : decode cL_isSo 1000 = .ok (.iload 14, 2) := by decide +kernel
theorem dL_isSo_1002 : decode cL_isSo 1002 = .ok (.iaload, 1) := by decide +kernel
theorem dL_isSo_1003 : decode cL_isSo 1003 = .ok (.isub, 1) := by decide +kernel
theorem dL_isSo_1004 : decode cL_isSo 1004 = .ok (.i2l, 1) := by decide +kernel
theorem dL_isSo_1005 : decode cL_isSo 1005 = .ok (.lload 21, 2) := by decide +kernel
theorem dL_isSo_1007 : decode cL_isSo 1007 = .ok (.lmul, 1) := by decide +kernel
theorem dL_isSo_1008 : decode cL_isSo 1008 = .ok (.lsub, 1) := by decide +kernel
theorem dL_isSo_1009 : decode cL_isSo 1009 = .ok (.lstore 25, 2) := by decide +kernel
theorem dL_isSo_1011 : decode cL_isSo 1011 = .ok (.aload 5, 2) := by decide +kernel
theorem dL_isSo_1013 : decode cL_isSo 1013 = .ok (.iload 19, 2) := by decide +kernel
theorem dL_isSo_1015 : decode cL_isSo 1015 = .ok (.iaload, 1) := by decide +kernel
theorem dL_isSo_1016 : decode cL_isSo 1016 = .ok (.aload 5, 2) := by decide +kernel
theorem dL_isSo_1018 : decode cL_isSo 1018 = .ok (.iload 14, 2) := by decide +kernel
theorem dL_isSo_1020 : decode cL_isSo 1020 = .ok (.iaload, 1) := by decide +kernel
theorem dL_isSo_1021 : decode cL_isSo 1021 = .ok (.isub, 1) := by decide +kernel
theorem dL_isSo_1022 : decode cL_isSo 1022 = .ok (.aload 5, 2) := by decide +kernel
theorem dL_isSo_1024 : decode cL_isSo 1024 = .ok (.iload 19, 2) := by decide +kernel
theorem dL_isSo_1026 : decode cL_isSo 1026 = .ok (.iaload, 1) := by decide +kernel
theorem dL_isSo_1027 : decode cL_isSo 1027 = .ok (.aload 5, 2) := by decide +kernel
theorem dL_isSo_1029 : decode cL_isSo 1029 = .ok (.iload 14, 2) := by decide +kernel
theorem dL_isSo_1031 : decode cL_isSo 1031 = .ok (.iaload, 1) := by decide +kernel
theorem dL_isSo_1032 : decode cL_isSo 1032 = .ok (.isub, 1) := by decide +kernel
theorem dL_isSo_1033 : decode cL_isSo 1033 = .ok (.imul, 1) := by decide +kernel
theorem dL_isSo_1034 : decode cL_isSo 1034 = .ok (.aload 6, 2) := by decide +kernel
theorem dL_isSo_1036 : decode cL_isSo 1036 = .ok (.iload 19, 2) := by decide +kernel
theorem dL_isSo_1038 : decode cL_isSo 1038 = .ok (.iaload, 1) := by decide +kernel
theorem dL_isSo_1039 : decode cL_isSo 1039 = .ok (.aload 6, 2) := by decide +kernel
theorem dL_isSo_1041 : decode cL_isSo 1041 = .ok (.iload 14, 2) := by decide +kernel
theorem dL_isSo_1043 : decode cL_isSo 1043 = .ok (.iaload, 1) := by decide +kernel
theorem dL_isSo_1044 : decode cL_isSo 1044 = .ok (.isub, 1) := by decide +kernel
theorem dL_isSo_1045 : decode cL_isSo 1045 = .ok (.aload 6, 2) := by decide +kernel
theorem dL_isSo_1047 : decode cL_isSo 1047 = .ok (.iload 19, 2) := by decide +kernel
theorem dL_isSo_1049 : decode cL_isSo 1049 = .ok (.iaload, 1) := by decide +kernel
theorem dL_isSo_1050 : decode cL_isSo 1050 = .ok (.aload 6, 2) := by decide +kernel
theorem dL_isSo_1052 : decode cL_isSo 1052 = .ok (.iload 14, 2) := by decide +kernel
theorem dL_isSo_1054 : decode cL_isSo 1054 = .ok (.iaload, 1) := by decide +kernel
theorem dL_isSo_1055 : decode cL_isSo 1055 = .ok (.isub, 1) := by decide +kernel
theorem dL_isSo_1056 : decode cL_isSo 1056 = .ok (.imul, 1) := by decide +kernel
theorem dL_isSo_1057 : decode cL_isSo 1057 = .ok (.iadd, 1) := by decide +kernel
theorem dL_isSo_1058 : decode cL_isSo 1058 = .ok (.i2l, 1) := by decide +kernel
theorem dL_isSo_1059 : decode cL_isSo 1059 = .ok (.lstore 27, 2) := by decide +kernel
theorem dL_isSo_1061 : decode cL_isSo 1061 = .ok (.lload 25, 2) := by decide +kernel
theorem dL_isSo_1063 : decode cL_isSo 1063 = .ok (.lload 25, 2) := by decide +kernel
theorem dL_isSo_1065 : decode cL_isSo 1065 = .ok (.lmul, 1) := by decide +kernel
theorem dL_isSo_1066 : decode cL_isSo 1066 = .ok (.lload 27, 2) := by decide +kernel
theorem dL_isSo_1068 : decode cL_isSo 1068 = .ok (.iload 20, 2) := by decide +kernel
theorem dL_isSo_1070 : decode cL_isSo 1070 = .ok (.i2l, 1) := by decide +kernel
theorem dL_isSo_1071 : decode cL_isSo 1071 = .ok (.lmul, 1) := by decide +kernel
theorem dL_isSo_1072 : decode cL_isSo 1072 = .ok (.iload 20, 2) := by decide +kernel
theorem dL_isSo_1074 : decode cL_isSo 1074 = .ok (.i2l, 1) := by decide +kernel
theorem dL_isSo_1075 : decode cL_isSo 1075 = .ok (.lmul, 1) := by decide +kernel
theorem dL_isSo_1076 : decode cL_isSo 1076 = .ok (.invokestatic 176, 3) := by decide +kernel
theorem dL_isSo_1079 : decode cL_isSo 1079 = .ok (.istore 29, 2) := by decide +kernel
theorem dL_isSo_1081 : decode cL_isSo 1081 = .ok (.iload 16, 2) := by decide +kernel
theorem dL_isSo_1083 : decode cL_isSo 1083 = .ok (.iconst 1, 1) := by decide +kernel
theorem dL_isSo_1084 : decode cL_isSo 1084 = .ok (.if_icmp .eq 10, 3) := by decide +kernel
theorem dL_isSo_1087 : decode cL_isSo 1087 = .ok (.iload 29, 2) := by decide +kernel
theorem dL_isSo_1089 : decode cL_isSo 1089 = .ok (.iload 17, 2) := by decide +kernel
theorem dL_isSo_1091 : decode cL_isSo 1091 = .ok (.if_icmp .ge 8, 3) := by decide +kernel
theorem dL_isSo_1094 : decode cL_isSo 1094 = .ok (.iload 29, 2) := by decide +kernel
theorem dL_isSo_1096 : decode cL_isSo 1096 = .ok (.goto 5, 3) := by decide +kernel
theorem dL_isSo_1099 : decode cL_isSo 1099 = .ok (.iload 17, 2) := by decide +kernel
theorem dL_isSo_1101 : decode cL_isSo 1101 = .ok (.istore 17, 2) := by decide +kernel
theorem dL_isSo_1103 : decode cL_isSo 1103 = .ok (.iload 18, 2) := by decide +kernel
theorem dL_isSo_1105 : decode cL_isSo 1105 = .ok (.ifCond .ne 19, 3) := by decide +kernel
theorem dL_isSo_1108 : decode cL_isSo 1108 = .ok (.aload 5, 2) := by decide +kernel
theorem dL_isSo_1110 : decode cL_isSo 1110 = .ok (.aload 6, 2) := by decide +kernel
theorem dL_isSo_1112 : decode cL_isSo 1112 = .ok (.iload 11, 2) := by decide +kernel
theorem dL_isSo_1114 : decode cL_isSo 1114 = .ok (.iload 19, 2) := by decide +kernel
theorem dL_isSo_1116 : decode cL_isSo 1116 = .ok (.iload 14, 2) := by decide +kernel
theorem dL_isSo_1118 : decode cL_isSo 1118 = .ok (.invokestatic 173, 3) := by decide +kernel
theorem dL_isSo_1121 : decode cL_isSo 1121 = .ok (.ifCond .ne 7, 3) := by decide +kernel
theorem dL_isSo_1124 : decode cL_isSo 1124 = .ok (.iconst 1, 1) := by decide +kernel
theorem dL_isSo_1125 : decode cL_isSo 1125 = .ok (.goto 4, 3) := by decide +kernel
theorem dL_isSo_1128 : decode cL_isSo 1128 = .ok (.iconst 0, 1) := by decide +kernel
theorem dL_isSo_1129 : decode cL_isSo 1129 = .ok (.istore 18, 2) := by decide +kernel
theorem dL_isSo_1131 : decode cL_isSo 1131 = .ok (.iload 19, 2) := by decide +kernel
theorem dL_isSo_1133 : decode cL_isSo 1133 = .ok (.istore 14, 2) := by decide +kernel
theorem dL_isSo_1135 : decode cL_isSo 1135 = .ok (.goto (-329), 3) := by decide +kernel
theorem dL_isSo_1138 : decode cL_isSo 1138 = .ok (.iload 13, 2) := by decide +kernel
theorem dL_isSo_1140 : decode cL_isSo 1140 = .ok (.ifCond .eq 45, 3) := by decide +kernel
theorem dL_isSo_1143 : decode cL_isSo 1143 = .ok (.aload_n 0, 1) := by decide +kernel
theorem dL_isSo_1144 : decode cL_isSo 1144 = .ok (.iload 16, 2) := by decide +kernel
theorem dL_isSo_1146 : decode cL_isSo 1146 = .ok (.invokevirtual 48, 3) := by decide +kernel
theorem dL_isSo_1149 : decode cL_isSo 1149 = .ok (.iconst (-1), 1) := by decide +kernel
theorem dL_isSo_1150 : decode cL_isSo 1150 = .ok (.if_icmp .ne 35, 3) := by decide +kernel
theorem dL_isSo_1153 : decode cL_isSo 1153 = .ok (.aload_n 0, 1) := by decide +kernel
theorem dL_isSo_1154 : decode cL_isSo 1154 = .ok (.invokevirtual 180, 3) := by decide +kernel
theorem dL_isSo_1157 : decode cL_isSo 1157 = .ok (.iload 12, 2) := by decide +kernel
theorem dL_isSo_1159 : decode cL_isSo 1159 = .ok (.ifCond .ne 8, 3) := by decide +kernel
theorem dL_isSo_1162 : decode cL_isSo 1162 = .ok (.ldc 183, 2) := by decide +kernel
theorem dL_isSo_1164 : decode cL_isSo 1164 = .ok (.goto 14, 3) := by decide +kernel
theorem dL_isSo_1167 : decode cL_isSo 1167 = .ok (.iload 18, 2) := by decide +kernel
theorem dL_isSo_1169 : decode cL_isSo 1169 = .ok (.ifCond .eq 8, 3) := by decide +kernel
theorem dL_isSo_1172 : decode cL_isSo 1172 = .ok (.iload 17, 2) := by decide +kernel
theorem dL_isSo_1174 : decode cL_isSo 1174 = .ok (.goto 4, 3) := by decide +kernel
theorem dL_isSo_1177 : decode cL_isSo 1177 = .ok (.iconst 0, 1) := by decide +kernel
theorem dL_isSo_1178 : decode cL_isSo 1178 = .ok (.if_icmp .ne 7, 3) := by decide +kernel
theorem dL_isSo_1181 : decode cL_isSo 1181 = .ok (.iconst 1, 1) := by decide +kernel
theorem dL_isSo_1182 : decode cL_isSo 1182 = .ok (.goto 4, 3) := by decide +kernel
theorem dL_isSo_1185 : decode cL_isSo 1185 = .ok (.iconst 0, 1) := by decide +kernel
theorem dL_isSo_1186 : decode cL_isSo 1186 = .ok (.istore 13, 2) := by decide +kernel
theorem dL_isSo_1188 : decode cL_isSo 1188 = .ok (.iconst 0, 1) := by decide +kernel
theorem dL_isSo_1189 : decode cL_isSo 1189 = .ok (.istore 19, 2) := by decide +kernel
theorem dL_isSo_1191 : decode cL_isSo 1191 = .ok (.iload 19, 2) := by decide +kernel
theorem dL_isSo_1193 : decode cL_isSo 1193 = .ok (.bipush 9, 2) := by decide +kernel
theorem dL_isSo_1195 : decode cL_isSo 1195 = .ok (.if_icmp .ge 153, 3) := by decide +kernel
theorem dL_isSo_1198 : decode cL_isSo 1198 = .ok (.iload 13, 2) := by decide +kernel
theorem dL_isSo_1200 : decode cL_isSo 1200 = .ok (.ifCond .eq 148, 3) := by decide +kernel
theorem dL_isSo_1203 : decode cL_isSo 1203 = .ok (.aload 8, 2) := by decide +kernel
theorem dL_isSo_1205 : decode cL_isSo 1205 = .ok (.iconst 1, 1) := by decide +kernel
theorem dL_isSo_1206 : decode cL_isSo 1206 = .ok (.iaload, 1) := by decide +kernel
theorem dL_isSo_1207 : decode cL_isSo 1207 = .ok (.iconst 4, 1) := by decide +kernel
theorem dL_isSo_1208 : decode cL_isSo 1208 = .ok (.isub, 1) := by decide +kernel
theorem dL_isSo_1209 : decode cL_isSo 1209 = .ok (.iload 9, 2) := by decide +kernel
theorem dL_isSo_1211 : decode cL_isSo 1211 = .ok (.iload 19, 2) := by decide +kernel
theorem dL_isSo_1213 : decode cL_isSo 1213 = .ok (.iadd, 1) := by decide +kernel
theorem dL_isSo_1214 : decode cL_isSo 1214 = .ok (.bipush 9, 2) := by decide +kernel
theorem dL_isSo_1216 : decode cL_isSo 1216 = .ok (.irem, 1) := by decide +kernel
theorem dL_isSo_1217 : decode cL_isSo 1217 = .ok (.iadd, 1) := by decide +kernel
theorem dL_isSo_1218 : decode cL_isSo 1218 = .ok (.istore 20, 2) := by decide +kernel
theorem dL_isSo_1220 : decode cL_isSo 1220 = .ok (.aload 8, 2) := by decide +kernel
theorem dL_isSo_1222 : decode cL_isSo 1222 = .ok (.iconst 2, 1) := by decide +kernel
theorem dL_isSo_1223 : decode cL_isSo 1223 = .ok (.iaload, 1) := by decide +kernel
theorem dL_isSo_1224 : decode cL_isSo 1224 = .ok (.iconst 4, 1) := by decide +kernel
theorem dL_isSo_1225 : decode cL_isSo 1225 = .ok (.isub, 1) := by decide +kernel
theorem dL_isSo_1226 : decode cL_isSo 1226 = .ok (.iload 10, 2) := by decide +kernel
theorem dL_isSo_1228 : decode cL_isSo 1228 = .ok (.iconst 2, 1) := by decide +kernel
theorem dL_isSo_1229 : decode cL_isSo 1229 = .ok (.iload 19, 2) := by decide +kernel
theorem dL_isSo_1231 : decode cL_isSo 1231 = .ok (.imul, 1) := by decide +kernel
theorem dL_isSo_1232 : decode cL_isSo 1232 = .ok (.iadd, 1) := by decide +kernel
theorem dL_isSo_1233 : decode cL_isSo 1233 = .ok (.bipush 9, 2) := by decide +kernel
theorem dL_isSo_1235 : decode cL_isSo 1235 = .ok (.irem, 1) := by decide +kernel
theorem dL_isSo_1236 : decode cL_isSo 1236 = .ok (.iadd, 1) := by decide +kernel
theorem dL_isSo_1237 : decode cL_isSo 1237 = .ok (.istore 21, 2) := by decide +kernel
theorem dL_isSo_1239 : decode cL_isSo 1239 = .ok (.bipush 20, 2) := by decide +kernel
theorem dL_isSo_1241 : decode cL_isSo 1241 = .ok (.iload 21, 2) := by decide +kernel
theorem dL_isSo_1243 : decode cL_isSo 1243 = .ok (.imul, 1) := by decide +kernel
theorem dL_isSo_1244 : decode cL_isSo 1244 = .ok (.iload 20, 2) := by decide +kernel
theorem dL_isSo_1246 : decode cL_isSo 1246 = .ok (.iadd, 1) := by decide +kernel
theorem dL_isSo_1247 : decode cL_isSo 1247 = .ok (.istore 22, 2) := by decide +kernel
theorem dL_isSo_1249 : decode cL_isSo 1249 = .ok (.iload 20, 2) := by decide +kernel
theorem dL_isSo_1251 : decode cL_isSo 1251 = .ok (.iload 21, 2) := by decide +kernel
theorem dL_isSo_1253 : decode cL_isSo 1253 = .ok (.invokestatic 137, 3) := by decide +kernel
theorem dL_isSo_1256 : decode cL_isSo 1256 = .ok (.ifCond .eq 79, 3) := by decide +kernel
theorem dL_isSo_1259 : decode cL_isSo 1259 = .ok (.aload_n 0, 1) := by decide +kernel
theorem dL_isSo_1260 : decode cL_isSo 1260 = .ok (.iload 20, 2) := by decide +kernel
theorem dL_isSo_1262 : decode cL_isSo 1262 = .ok (.iload 21, 2) := by decide +kernel
theorem dL_isSo_1264 : decode cL_isSo 1264 = .ok (.iconst 0, 1) := by decide +kernel
theorem dL_isSo_1265 : decode cL_isSo 1265 = .ok (.invokevirtual 54, 3) := by decide +kernel
theorem dL_isSo_1268 : decode cL_isSo 1268 = .ok (.aload_n 1, 1) := by decide +kernel
theorem dL_isSo_1269 : decode cL_isSo 1269 = .ok (.iload 22, 2) := by decide +kernel
theorem dL_isSo_1271 : decode cL_isSo 1271 = .ok (.invokestatic 87, 3) := by decide +kernel
theorem dL_isSo_1274 : decode cL_isSo 1274 = .ok (.if_icmp .ne 65, 3) := by decide +kernel
theorem dL_isSo_1277 : decode cL_isSo 1277 = .ok (.aload_n 0, 1) := by decide +kernel
theorem dL_isSo_1278 : decode cL_isSo 1278 = .ok (.iload 20, 2) := by decide +kernel
theorem dL_isSo_1280 : decode cL_isSo 1280 = .ok (.iload 21, 2) := by decide +kernel
theorem dL_isSo_1282 : decode cL_isSo 1282 = .ok (.iconst 1, 1) := by decide +kernel
theorem dL_isSo_1283 : decode cL_isSo 1283 = .ok (.invokevirtual 54, 3) := by decide +kernel
theorem dL_isSo_1286 : decode cL_isSo 1286 = .ok (.aload_n 3, 1) := by decide +kernel
theorem dL_isSo_1287 : decode cL_isSo 1287 = .ok (.iload 22, 2) := by decide +kernel
theorem dL_isSo_1289 : decode cL_isSo 1289 = .ok (.invokestatic 91, 3) := by decide +kernel
theorem dL_isSo_1292 : decode cL_isSo 1292 = .ok (.if_icmp .ne 47, 3) := by decide +kernel
theorem dL_isSo_1295 : decode cL_isSo 1295 = .ok (.aload_n 0, 1) := by decide +kernel
theorem dL_isSo_1296 : decode cL_isSo 1296 = .ok (.iload 20, 2) := by decide +kernel
theorem dL_isSo_1298 : decode cL_isSo 1298 = .ok (.iload 21, 2) := by decide +kernel
theorem dL_isSo_1300 : decode cL_isSo 1300 = .ok (.iconst 2, 1) := by decide +kernel
theorem dL_isSo_1301 : decode cL_isSo 1301 = .ok (.invokevirtual 54, 3) := by decide +kernel
theorem dL_isSo_1304 : decode cL_isSo 1304 = .ok (.aload_n 2, 1) := by decide +kernel
theorem dL_isSo_1305 : decode cL_isSo 1305 = .ok (.iload 22, 2) := by decide +kernel
theorem dL_isSo_1307 : decode cL_isSo 1307 = .ok (.invokestatic 87, 3) := by decide +kernel
theorem dL_isSo_1310 : decode cL_isSo 1310 = .ok (.if_icmp .ne 29, 3) := by decide +kernel
theorem dL_isSo_1313 : decode cL_isSo 1313 = .ok (.aload_n 0, 1) := by decide +kernel
theorem dL_isSo_1314 : decode cL_isSo 1314 = .ok (.iload 20, 2) := by decide +kernel
theorem dL_isSo_1316 : decode cL_isSo 1316 = .ok (.iload 21, 2) := by decide +kernel
theorem dL_isSo_1318 : decode cL_isSo 1318 = .ok (.iconst 3, 1) := by decide +kernel
theorem dL_isSo_1319 : decode cL_isSo 1319 = .ok (.invokevirtual 54, 3) := by decide +kernel
theorem dL_isSo_1322 : decode cL_isSo 1322 = .ok (.aload_n 1, 1) := by decide +kernel
theorem dL_isSo_1323 : decode cL_isSo 1323 = .ok (.sipush 400, 3) := by decide +kernel
theorem dL_isSo_1326 : decode cL_isSo 1326 = .ok (.iload 22, 2) := by decide +kernel
theorem dL_isSo_1328 : decode cL_isSo 1328 = .ok (.iadd, 1) := by decide +kernel
theorem dL_isSo_1329 : decode cL_isSo 1329 = .ok (.invokestatic 87, 3) := by decide +kernel
theorem dL_isSo_1332 : decode cL_isSo 1332 = .ok (.if_icmp .ne 7, 3) := by decide +kernel
theorem dL_isSo_1335 : decode cL_isSo 1335 = .ok (.iconst 1, 1) := by decide +kernel
theorem dL_isSo_1336 : decode cL_isSo 1336 = .ok (.goto 4, 3) := by decide +kernel
theorem dL_isSo_1339 : decode cL_isSo 1339 = .ok (.iconst 0, 1) := by decide +kernel
theorem dL_isSo_1340 : decode cL_isSo 1340 = .ok (.istore 13, 2) := by decide +kernel
theorem dL_isSo_1342 : decode cL_isSo 1342 = .ok (.iinc 19 1, 3) := by decide +kernel
theorem dL_isSo_1345 : decode cL_isSo 1345 = .ok (.goto (-154), 3) := by decide +kernel
theorem dL_isSo_1348 : decode cL_isSo 1348 = .ok (.aload 8, 2) := by decide +kernel
theorem dL_isSo_1350 : decode cL_isSo 1350 = .ok (.bipush 11, 2) := by decide +kernel
theorem dL_isSo_1352 : decode cL_isSo 1352 = .ok (.iaload, 1) := by decide +kernel
theorem dL_isSo_1353 : decode cL_isSo 1353 = .ok (.iconst 1, 1) := by decide +kernel
theorem dL_isSo_1354 : decode cL_isSo 1354 = .ok (.isub, 1) := by decide +kernel
theorem dL_isSo_1355 : decode cL_isSo 1355 = .ok (.istore 19, 2) := by decide +kernel
theorem dL_isSo_1357 : decode cL_isSo 1357 = .ok (.iload 19, 2) := by decide +kernel
theorem dL_isSo_1359 : decode cL_isSo 1359 = .ok (.ifCond .lt 95, 3) := by decide +kernel
theorem dL_isSo_1362 : decode cL_isSo 1362 = .ok (.iload 19, 2) := by decide +kernel
theorem dL_isSo_1364 : decode cL_isSo 1364 = .ok (.bipush 40, 2) := by decide +kernel
theorem dL_isSo_1366 : decode cL_isSo 1366 = .ok (.if_icmp .ge 88, 3) := by decide +kernel
theorem dL_isSo_1369 : decode cL_isSo 1369 = .ok (.iload 13, 2) := by decide +kernel
theorem dL_isSo_1371 : decode cL_isSo 1371 = .ok (.ifCond .eq 83, 3) := by decide +kernel
theorem dL_isSo_1374 : decode cL_isSo 1374 = .ok (.aload 7, 2) := by decide +kernel
theorem dL_isSo_1376 : decode cL_isSo 1376 = .ok (.iload 19, 2) := by decide +kernel
theorem dL_isSo_1378 : decode cL_isSo 1378 = .ok (.iaload, 1) := by decide +kernel
theorem dL_isSo_1379 : decode cL_isSo 1379 = .ok (.istore 20, 2) := by decide +kernel
theorem dL_isSo_1381 : decode cL_isSo 1381 = .ok (.aload_n 0, 1) := by decide +kernel
theorem dL_isSo_1382 : decode cL_isSo 1382 = .ok (.iload 19, 2) := by decide +kernel
theorem dL_isSo_1384 : decode cL_isSo 1384 = .ok (.iconst 0, 1) := by decide +kernel
theorem dL_isSo_1385 : decode cL_isSo 1385 = .ok (.invokevirtual 51, 3) := by decide +kernel
theorem dL_isSo_1388 : decode cL_isSo 1388 = .ok (.iload 20, 2) := by decide +kernel
theorem dL_isSo_1390 : decode cL_isSo 1390 = .ok (.bipush 9, 2) := by decide +kernel
theorem dL_isSo_1392 : decode cL_isSo 1392 = .ok (.irem, 1) := by decide +kernel
theorem dL_isSo_1393 : decode cL_isSo 1393 = .ok (.if_icmp .ne 58, 3) := by decide +kernel
theorem dL_isSo_1396 : decode cL_isSo 1396 = .ok (.aload_n 0, 1) := by decide +kernel
theorem dL_isSo_1397 : decode cL_isSo 1397 = .ok (.iload 19, 2) := by decide +kernel
theorem dL_isSo_1399 : decode cL_isSo 1399 = .ok (.iconst 1, 1) := by decide +kernel
theorem dL_isSo_1400 : decode cL_isSo 1400 = .ok (.invokevirtual 51, 3) := by decide +kernel
theorem dL_isSo_1403 : decode cL_isSo 1403 = .ok (.iload 20, 2) := by decide +kernel
theorem dL_isSo_1405 : decode cL_isSo 1405 = .ok (.bipush 9, 2) := by decide +kernel
theorem dL_isSo_1407 : decode cL_isSo 1407 = .ok (.idiv, 1) := by decide +kernel
theorem dL_isSo_1408 : decode cL_isSo 1408 = .ok (.iconst 4, 1) := by decide +kernel
theorem dL_isSo_1409 : decode cL_isSo 1409 = .ok (.irem, 1) := by decide +kernel
theorem dL_isSo_1410 : decode cL_isSo 1410 = .ok (.if_icmp .ne 41, 3) := by decide +kernel
theorem dL_isSo_1413 : decode cL_isSo 1413 = .ok (.aload_n 0, 1) := by decide +kernel
theorem dL_isSo_1414 : decode cL_isSo 1414 = .ok (.iload 19, 2) := by decide +kernel
theorem dL_isSo_1416 : decode cL_isSo 1416 = .ok (.iconst 2, 1) := by decide +kernel
theorem dL_isSo_1417 : decode cL_isSo 1417 = .ok (.invokevirtual 51, 3) := by decide +kernel
theorem dL_isSo_1420 : decode cL_isSo 1420 = .ok (.iload 20, 2) := by decide +kernel
theorem dL_isSo_1422 : decode cL_isSo 1422 = .ok (.bipush 36, 2) := by decide +kernel
theorem dL_isSo_1424 : decode cL_isSo 1424 = .ok (.idiv, 1) := by decide +kernel
theorem dL_isSo_1425 : decode cL_isSo 1425 = .ok (.bipush 20, 2) := by decide +kernel
theorem dL_isSo_1427 : decode cL_isSo 1427 = .ok (.irem, 1) := by decide +kernel
theorem dL_isSo_1428 : decode cL_isSo 1428 = .ok (.if_icmp .ne 23, 3) := by decide +kernel
theorem dL_isSo_1431 : decode cL_isSo 1431 = .ok (.aload_n 0, 1) := by decide +kernel
theorem dL_isSo_1432 : decode cL_isSo 1432 = .ok (.iload 19, 2) := by decide +kernel
theorem dL_isSo_1434 : decode cL_isSo 1434 = .ok (.iconst 3, 1) := by decide +kernel
theorem dL_isSo_1435 : decode cL_isSo 1435 = .ok (.invokevirtual 51, 3) := by decide +kernel
theorem dL_isSo_1438 : decode cL_isSo 1438 = .ok (.iload 20, 2) := by decide +kernel
theorem dL_isSo_1440 : decode cL_isSo 1440 = .ok (.sipush 720, 3) := by decide +kernel
theorem dL_isSo_1443 : decode cL_isSo 1443 = .ok (.idiv, 1) := by decide +kernel
theorem dL_isSo_1444 : decode cL_isSo 1444 = .ok (.if_icmp .ne 7, 3) := by decide +kernel
theorem dL_isSo_1447 : decode cL_isSo 1447 = .ok (.iconst 1, 1) := by decide +kernel
theorem dL_isSo_1448 : decode cL_isSo 1448 = .ok (.goto 4, 3) := by decide +kernel
theorem dL_isSo_1451 : decode cL_isSo 1451 = .ok (.iconst 0, 1) := by decide +kernel
theorem dL_isSo_1452 : decode cL_isSo 1452 = .ok (.istore 13, 2) := by decide +kernel
theorem dL_isSo_1454 : decode cL_isSo 1454 = .ok (.iload 9, 2) := by decide +kernel
theorem dL_isSo_1456 : decode cL_isSo 1456 = .ok (.iconst 4, 1) := by decide +kernel
theorem dL_isSo_1457 : decode cL_isSo 1457 = .ok (.irem, 1) := by decide +kernel
theorem dL_isSo_1458 : decode cL_isSo 1458 = .ok (.istore 20, 2) := by decide +kernel
theorem dL_isSo_1460 : decode cL_isSo 1460 = .ok (.iload 20, 2) := by decide +kernel
theorem dL_isSo_1462 : decode cL_isSo 1462 = .ok (.ifCond .ne 7, 3) := by decide +kernel
theorem dL_isSo_1465 : decode cL_isSo 1465 = .ok (.iconst 1, 1) := by decide +kernel
theorem dL_isSo_1466 : decode cL_isSo 1466 = .ok (.goto 14, 3) := by decide +kernel
theorem dL_isSo_1469 : decode cL_isSo 1469 = .ok (.iload 20, 2) := by decide +kernel
theorem dL_isSo_1471 : decode cL_isSo 1471 = .ok (.iconst 1, 1) := by decide +kernel
theorem dL_isSo_1472 : decode cL_isSo 1472 = .ok (.if_icmp .ne 7, 3) := by decide +kernel
theorem dL_isSo_1475 : decode cL_isSo 1475 = .ok (.iconst (-1), 1) := by decide +kernel
theorem dL_isSo_1476 : decode cL_isSo 1476 = .ok (.goto 4, 3) := by decide +kernel
theorem dL_isSo_1479 : decode cL_isSo 1479 = .ok (.iconst 0, 1) := by decide +kernel
theorem dL_isSo_1480 : decode cL_isSo 1480 = .ok (.istore 21, 2) := by decide +kernel
theorem dL_isSo_1482 : decode cL_isSo 1482 = .ok (.iload 20, 2) := by decide +kernel
theorem dL_isSo_1484 : decode cL_isSo 1484 = .ok (.iconst 2, 1) := by decide +kernel
theorem dL_isSo_1485 : decode cL_isSo 1485 = .ok (.if_icmp .ne 7, 3) := by decide +kernel
theorem dL_isSo_1488 : decode cL_isSo 1488 = .ok (.iconst 1, 1) := by decide +kernel
theorem dL_isSo_1489 : decode cL_isSo 1489 = .ok (.goto 14, 3) := by decide +kernel
theorem dL_isSo_1492 : decode cL_isSo 1492 = .ok (.iload 20, 2) := by decide +kernel
theorem dL_isSo_1494 : decode cL_isSo 1494 = .ok (.iconst 3, 1) := by decide +kernel
theorem dL_isSo_1495 : decode cL_isSo 1495 = .ok (.if_icmp .ne 7, 3) := by decide +kernel
theorem dL_isSo_1498 : decode cL_isSo 1498 = .ok (.iconst (-1), 1) := by decide +kernel
theorem dL_isSo_1499 : decode cL_isSo 1499 = .ok (.goto 4, 3) := by decide +kernel
theorem dL_isSo_1502 : decode cL_isSo 1502 = .ok (.iconst 0, 1) := by decide +kernel
theorem dL_isSo_1503 : decode cL_isSo 1503 = .ok (.istore 22, 2) := by decide +kernel
theorem dL_isSo_1505 : decode cL_isSo 1505 = .ok (.iload 13, 2) := by decide +kernel
theorem dL_isSo_1507 : decode cL_isSo 1507 = .ok (.ifCond .eq 159, 3) := by decide +kernel
theorem dL_isSo_1510 : decode cL_isSo 1510 = .ok (.iload 10, 2) := by decide +kernel
theorem dL_isSo_1512 : decode cL_isSo 1512 = .ok (.bipush 16, 2) := by decide +kernel
theorem dL_isSo_1514 : decode cL_isSo 1514 = .ok (.irem, 1) := by decide +kernel
theorem dL_isSo_1515 : decode cL_isSo 1515 = .ok (.ifCond .ne 151, 3) := by decide +kernel
theorem dL_isSo_1518 : decode cL_isSo 1518 = .ok (.aload 8, 2) := by decide +kernel
theorem dL_isSo_1520 : decode cL_isSo 1520 = .ok (.iconst 1, 1) := by decide +kernel
theorem dL_isSo_1521 : decode cL_isSo 1521 = .ok (.iaload, 1) := by decide +kernel
theorem dL_isSo_1522 : decode cL_isSo 1522 = .ok (.iload 21, 2) := by decide +kernel
theorem dL_isSo_1524 : decode cL_isSo 1524 = .ok (.iadd, 1) := by decide +kernel
theorem dL_isSo_1525 : decode cL_isSo 1525 = .ok (.aload 8, 2) := by decide +kernel
theorem dL_isSo_1527 : decode cL_isSo 1527 = .ok (.iconst 2, 1) := by decide +kernel
theorem dL_isSo_1528 : decode cL_isSo 1528 = .ok (.iaload, 1) := by decide +kernel
theorem dL_isSo_1529 : decode cL_isSo 1529 = .ok (.iload 22, 2) := by decide +kernel
theorem dL_isSo_1531 : decode cL_isSo 1531 = .ok (.iadd, 1) := by decide +kernel
theorem dL_isSo_1532 : decode cL_isSo 1532 = .ok (.invokestatic 137, 3) := by decide +kernel
theorem dL_isSo_1535 : decode cL_isSo 1535 = .ok (.ifCond .eq 131, 3) := by decide +kernel
theorem dL_isSo_1538 : decode cL_isSo 1538 = .ok (.aload_n 0, 1) := by decide +kernel
theorem dL_isSo_1539 : decode cL_isSo 1539 = .ok (.aload 8, 2) := by decide +kernel
theorem dL_isSo_1541 : decode cL_isSo 1541 = .ok (.iconst 1, 1) := by decide +kernel
theorem dL_isSo_1542 : decode cL_isSo 1542 = .ok (.iaload, 1) := by decide +kernel
theorem dL_isSo_1543 : decode cL_isSo 1543 = .ok (.iload 21, 2) := by decide +kernel
theorem dL_isSo_1545 : decode cL_isSo 1545 = .ok (.iadd, 1) := by decide +kernel
theorem dL_isSo_1546 : decode cL_isSo 1546 = .ok (.aload 8, 2) := by decide +kernel
theorem dL_isSo_1548 : decode cL_isSo 1548 = .ok (.iconst 2, 1) := by decide +kernel
theorem dL_isSo_1549 : decode cL_isSo 1549 = .ok (.iaload, 1) := by decide +kernel
theorem dL_isSo_1550 : decode cL_isSo 1550 = .ok (.iload 22, 2) := by decide +kernel
theorem dL_isSo_1552 : decode cL_isSo 1552 = .ok (.iadd, 1) := by decide +kernel
theorem dL_isSo_1553 : decode cL_isSo 1553 = .ok (.invokevirtual 184, 3) := by decide +kernel
theorem dL_isSo_1556 : decode cL_isSo 1556 = .ok (.istore 23, 2) := by decide +kernel
theorem dL_isSo_1558 : decode cL_isSo 1558 = .ok (.aload 4, 2) := by decide +kernel
theorem dL_isSo_1560 : decode cL_isSo 1560 = .ok (.aload 5, 2) := by decide +kernel
theorem dL_isSo_1562 : decode cL_isSo 1562 = .ok (.aload 6, 2) := by decide +kernel
theorem dL_isSo_1564 : decode cL_isSo 1564 = .ok (.aload 8, 2) := by decide +kernel
theorem dL_isSo_1566 : decode cL_isSo 1566 = .ok (.iload 21, 2) := by decide +kernel
theorem dL_isSo_1568 : decode cL_isSo 1568 = .ok (.iload 22, 2) := by decide +kernel
theorem dL_isSo_1570 : decode cL_isSo 1570 = .ok (.invokestatic 141, 3) := by decide +kernel
theorem dL_isSo_1573 : decode cL_isSo 1573 = .ok (.istore 24, 2) := by decide +kernel
theorem dL_isSo_1575 : decode cL_isSo 1575 = .ok (.aload_n 0, 1) := by decide +kernel
theorem dL_isSo_1576 : decode cL_isSo 1576 = .ok (.aload 8, 2) := by decide +kernel
theorem dL_isSo_1578 : decode cL_isSo 1578 = .ok (.iconst 1, 1) := by decide +kernel
theorem dL_isSo_1579 : decode cL_isSo 1579 = .ok (.iaload, 1) := by decide +kernel
theorem dL_isSo_1580 : decode cL_isSo 1580 = .ok (.aload 8, 2) := by decide +kernel
theorem dL_isSo_1582 : decode cL_isSo 1582 = .ok (.iconst 2, 1) := by decide +kernel
theorem dL_isSo_1583 : decode cL_isSo 1583 = .ok (.iaload, 1) := by decide +kernel
theorem dL_isSo_1584 : decode cL_isSo 1584 = .ok (.invokevirtual 184, 3) := by decide +kernel
theorem dL_isSo_1587 : decode cL_isSo 1587 = .ok (.aload 8, 2) := by decide +kernel
theorem dL_isSo_1589 : decode cL_isSo 1589 = .ok (.iconst 0, 1) := by decide +kernel
theorem dL_isSo_1590 : decode cL_isSo 1590 = .ok (.iaload, 1) := by decide +kernel
theorem dL_isSo_1591 : decode cL_isSo 1591 = .ok (.iconst 1, 1) := by decide +kernel
theorem dL_isSo_1592 : decode cL_isSo 1592 = .ok (.if_icmp .ne 7, 3) := by decide +kernel
theorem dL_isSo_1595 : decode cL_isSo 1595 = .ok (.iconst 0, 1) := by decide +kernel
theorem dL_isSo_1596 : decode cL_isSo 1596 = .ok (.goto 4, 3) := by decide +kernel
theorem dL_isSo_1599 : decode cL_isSo 1599 = .ok (.iconst (-1), 1) := by decide +kernel
theorem dL_isSo_1600 : decode cL_isSo 1600 = .ok (.if_icmp .ne 63, 3) := by decide +kernel
theorem dL_isSo_1603 : decode cL_isSo 1603 = .ok (.aload_n 0, 1) := by decide +kernel
theorem dL_isSo_1604 : decode cL_isSo 1604 = .ok (.aload 8, 2) := by decide +kernel
theorem dL_isSo_1606 : decode cL_isSo 1606 = .ok (.iconst 1, 1) := by decide +kernel
theorem dL_isSo_1607 : decode cL_isSo 1607 = .ok (.iaload, 1) := by decide +kernel
theorem dL_isSo_1608 : decode cL_isSo 1608 = .ok (.iload 21, 2) := by decide +kernel
theorem dL_isSo_1610 : decode cL_isSo 1610 = .ok (.iadd, 1) := by decide +kernel
theorem dL_isSo_1611 : decode cL_isSo 1611 = .ok (.aload 8, 2) := by decide +kernel
theorem dL_isSo_1613 : decode cL_isSo 1613 = .ok (.iconst 2, 1) := by decide +kernel
theorem dL_isSo_1614 : decode cL_isSo 1614 = .ok (.iaload, 1) := by decide +kernel
theorem dL_isSo_1615 : decode cL_isSo 1615 = .ok (.iload 22, 2) := by decide +kernel
theorem dL_isSo_1617 : decode cL_isSo 1617 = .ok (.iadd, 1) := by decide +kernel
theorem dL_isSo_1618 : decode cL_isSo 1618 = .ok (.invokevirtual 187, 3) := by decide +kernel
theorem dL_isSo_1621 : decode cL_isSo 1621 = .ok (.iload 23, 2) := by decide +kernel
theorem dL_isSo_1623 : decode cL_isSo 1623 = .ok (.if_icmp .ne 40, 3) := by decide +kernel
theorem dL_isSo_1626 : decode cL_isSo 1626 = .ok (.aload 8, 2) := by decide +kernel
theorem dL_isSo_1628 : decode cL_isSo 1628 = .ok (.iconst 0, 1) := by decide +kernel
theorem dL_isSo_1629 : decode cL_isSo 1629 = .ok (.iaload, 1) := by decide +kernel
theorem dL_isSo_1630 : decode cL_isSo 1630 = .ok (.iconst 1, 1) := by decide +kernel
theorem dL_isSo_1631 : decode cL_isSo 1631 = .ok (.if_icmp .ne 22, 3) := by decide +kernel
theorem dL_isSo_1634 : decode cL_isSo 1634 = .ok (.iload 24, 2) := by decide +kernel
theorem dL_isSo_1636 : decode cL_isSo 1636 = .ok (.iload 23, 2) := by decide +kernel
theorem dL_isSo_1638 : decode cL_isSo 1638 = .ok (.iconst 1, 1) := by decide +kernel
theorem dL_isSo_1639 : decode cL_isSo 1639 = .ok (.if_icmp .ne 7, 3) := by decide +kernel
theorem dL_isSo_1642 : decode cL_isSo 1642 = .ok (.iconst 1, 1) := by decide +kernel
theorem dL_isSo_1643 : decode cL_isSo 1643 = .ok (.goto 4, 3) := by decide +kernel
theorem dL_isSo_1646 : decode cL_isSo 1646 = .ok (.iconst 0, 1) := by decide +kernel
theorem dL_isSo_1647 : decode cL_isSo 1647 = .ok (.if_icmp .ne 16, 3) := by decide +kernel
theorem dL_isSo_1650 : decode cL_isSo 1650 = .ok (.goto 9, 3) := by decide +kernel
theorem dL_isSo_1653 : decode cL_isSo 1653 = .ok (.iload 23, 2) := by decide +kernel
theorem dL_isSo_1655 : decode cL_isSo 1655 = .ok (.iconst (-1), 1) := by decide +kernel
theorem dL_isSo_1656 : decode cL_isSo 1656 = .ok (.if_icmp .ne 7, 3) := by decide +kernel
theorem dL_isSo_1659 : decode cL_isSo 1659 = .ok (.iconst 1, 1) := by decide +kernel
theorem dL_isSo_1660 : decode cL_isSo 1660 = .ok (.goto 4, 3) := by decide +kernel
theorem dL_isSo_1663 : decode cL_isSo 1663 = .ok (.iconst 0, 1) := by decide +kernel
theorem dL_isSo_1664 : decode cL_isSo 1664 = .ok (.istore 13, 2) := by decide +kernel
theorem dL_isSo_1666 : decode cL_isSo 1666 = .ok (.iload 13, 2) := by decide +kernel
theorem dL_isSo_1668 : decode cL_isSo 1668 = .ok (.ifCond .eq 47, 3) := by decide +kernel
theorem dL_isSo_1671 : decode cL_isSo 1671 = .ok (.aload_n 0, 1) := by decide +kernel
theorem dL_isSo_1672 : decode cL_isSo 1672 = .ok (.bipush 12, 2) := by decide +kernel
theorem dL_isSo_1674 : decode cL_isSo 1674 = .ok (.aload 8, 2) := by decide +kernel
theorem dL_isSo_1676 : decode cL_isSo 1676 = .ok (.bipush 11, 2) := by decide +kernel
theorem dL_isSo_1678 : decode cL_isSo 1678 = .ok (.iaload, 1) := by decide +kernel
theorem dL_isSo_1679 : decode cL_isSo 1679 = .ok (.iconst 0, 1) := by decide +kernel
theorem dL_isSo_1680 : decode cL_isSo 1680 = .ok (.iconst 0, 1) := by decide +kernel
theorem dL_isSo_1681 : decode cL_isSo 1681 = .ok (.iconst 0, 1) := by decide +kernel
theorem dL_isSo_1682 : decode cL_isSo 1682 = .ok (.iconst 0, 1) := by decide +kernel
theorem dL_isSo_1683 : decode cL_isSo 1683 = .ok (.invokestatic 190, 3) := by decide +kernel
theorem dL_isSo_1686 : decode cL_isSo 1686 = .ok (.ldc 62, 2) := by decide +kernel
theorem dL_isSo_1688 : decode cL_isSo 1688 = .ok (.if_icmp .ne 27, 3) := by decide +kernel
theorem dL_isSo_1691 : decode cL_isSo 1691 = .ok (.aload_n 0, 1) := by decide +kernel
theorem dL_isSo_1692 : decode cL_isSo 1692 = .ok (.bipush 14, 2) := by decide +kernel
theorem dL_isSo_1694 : decode cL_isSo 1694 = .ok (.aload 8, 2) := by decide +kernel
theorem dL_isSo_1696 : decode cL_isSo 1696 = .ok (.bipush 7, 2) := by decide +kernel
theorem dL_isSo_1698 : decode cL_isSo 1698 = .ok (.iaload, 1) := by decide +kernel
theorem dL_isSo_1699 : decode cL_isSo 1699 = .ok (.iconst 0, 1) := by decide +kernel
theorem dL_isSo_1700 : decode cL_isSo 1700 = .ok (.iconst 0, 1) := by decide +kernel
theorem dL_isSo_1701 : decode cL_isSo 1701 = .ok (.iconst 0, 1) := by decide +kernel
theorem dL_isSo_1702 : decode cL_isSo 1702 = .ok (.iconst 0, 1) := by decide +kernel
theorem dL_isSo_1703 : decode cL_isSo 1703 = .ok (.invokestatic 190, 3) := by decide +kernel
theorem dL_isSo_1706 : decode cL_isSo 1706 = .ok (.ldc 62, 2) := by decide +kernel
theorem dL_isSo_1708 : decode cL_isSo 1708 = .ok (.if_icmp .ne 7, 3) := by decide +kernel
theorem dL_isSo_1711 : decode cL_isSo 1711 = .ok (.iconst 1, 1) := by decide +kernel
theorem dL_isSo_1712 : decode cL_isSo 1712 = .ok (.goto 4, 3) := by decide +kernel
theorem dL_isSo_1715 : decode cL_isSo 1715 = .ok (.iconst 0, 1) := by decide +kernel
theorem dL_isSo_1716 : decode cL_isSo 1716 = .ok (.ireturn, 1) := by decide +kernel
theorem dL_isTold_0 : decode cL_isTold 0 = .ok (.iload 10, 2) := by decide +kernel
theorem dL_isTold_2 : decode cL_isTold 2 = .ok (.bipush 29, 2) := by decide +kernel
theorem dL_isTold_4 : decode cL_isTold 4 = .ok (.irem, 1) := by decide +kernel
theorem dL_isTold_5 : decode cL_isTold 5 = .ok (.bipush 28, 2) := by decide +kernel
theorem dL_isTold_7 : decode cL_isTold 7 = .ok (.if_icmp .ne 8, 3) := by decide +kernel
theorem dL_isTold_10 : decode cL_isTold 10 = .ok (.bipush 20, 2) := by decide +kernel
theorem dL_isTold_12 : decode cL_isTold 12 = .ok (.goto 34, 3) := by decide +kernel
theorem dL_isTold_15 : decode cL_isTold 15 = .ok (.aload 8, 2) := by decide +kernel
theorem dL_isTold_17 : decode cL_isTold 17 = .ok (.iconst 1, 1) := by decide +kernel
theorem dL_isTold_18 : decode cL_isTold 18 = .ok (.iaload, 1) := by decide +kernel
theorem dL_isTold_19 : decode cL_isTold 19 = .ok (.iconst 4, 1) := by decide +kernel
theorem dL_isTold_20 : decode cL_isTold 20 = .ok (.isub, 1) := by decide +kernel
theorem dL_isTold_21 : decode cL_isTold 21 = .ok (.iload 10, 2) := by decide +kernel
theorem dL_isTold_23 : decode cL_isTold 23 = .ok (.bipush 9, 2) := by decide +kernel
theorem dL_isTold_25 : decode cL_isTold 25 = .ok (.irem, 1) := by decide +kernel
theorem dL_isTold_26 : decode cL_isTold 26 = .ok (.iadd, 1) := by decide +kernel
theorem dL_isTold_27 : decode cL_isTold 27 = .ok (.ifCond .ge 7, 3) := by decide +kernel
theorem dL_isTold_30 : decode cL_isTold 30 = .ok (.iconst 0, 1) := by decide +kernel
theorem dL_isTold_31 : decode cL_isTold 31 = .ok (.goto 15, 3) := by decide +kernel
theorem dL_isTold_34 : decode cL_isTold 34 = .ok (.aload 8, 2) := by decide +kernel
theorem dL_isTold_36 : decode cL_isTold 36 = .ok (.iconst 1, 1) := by decide +kernel
theorem dL_isTold_37 : decode cL_isTold 37 = .ok (.iaload, 1) := by decide +kernel
theorem dL_isTold_38 : decode cL_isTold 38 = .ok (.iconst 4, 1) := by decide +kernel
theorem dL_isTold_39 : decode cL_isTold 39 = .ok (.isub, 1) := by decide +kernel
theorem dL_isTold_40 : decode cL_isTold 40 = .ok (.iload 10, 2) := by decide +kernel
theorem dL_isTold_42 : decode cL_isTold 42 = .ok (.bipush 9, 2) := by decide +kernel
theorem dL_isTold_44 : decode cL_isTold 44 = .ok (.irem, 1) := by decide +kernel
theorem dL_isTold_45 : decode cL_isTold 45 = .ok (.iadd, 1) := by decide +kernel
theorem dL_isTold_46 : decode cL_isTold 46 = .ok (.istore 12, 2) := by decide +kernel
theorem dL_isTold_48 : decode cL_isTold 48 = .ok (.aload 8, 2) := by decide +kernel
theorem dL_isTold_50 : decode cL_isTold 50 = .ok (.iconst 2, 1) := by decide +kernel
theorem dL_isTold_51 : decode cL_isTold 51 = .ok (.iaload, 1) := by decide +kernel
theorem dL_isTold_52 : decode cL_isTold 52 = .ok (.iconst 4, 1) := by decide +kernel
theorem dL_isTold_53 : decode cL_isTold 53 = .ok (.isub, 1) := by decide +kernel
theorem dL_isTold_54 : decode cL_isTold 54 = .ok (.iload 11, 2) := by decide +kernel
theorem dL_isTold_56 : decode cL_isTold 56 = .ok (.bipush 9, 2) := by decide +kernel
theorem dL_isTold_58 : decode cL_isTold 58 = .ok (.irem, 1) := by decide +kernel
theorem dL_isTold_59 : decode cL_isTold 59 = .ok (.iadd, 1) := by decide +kernel
theorem dL_isTold_60 : decode cL_isTold 60 = .ok (.ifCond .ge 7, 3) := by decide +kernel
theorem dL_isTold_63 : decode cL_isTold 63 = .ok (.iconst 0, 1) := by decide +kernel
theorem dL_isTold_64 : decode cL_isTold 64 = .ok (.goto 15, 3) := by decide +kernel
theorem dL_isTold_67 : decode cL_isTold 67 = .ok (.aload 8, 2) := by decide +kernel
theorem dL_isTold_69 : decode cL_isTold 69 = .ok (.iconst 2, 1) := by decide +kernel
theorem dL_isTold_70 : decode cL_isTold 70 = .ok (.iaload, 1) := by decide +kernel
theorem dL_isTold_71 : decode cL_isTold 71 = .ok (.iconst 4, 1) := by decide +kernel
theorem dL_isTold_72 : decode cL_isTold 72 = .ok (.isub, 1) := by decide +kernel
theorem dL_isTold_73 : decode cL_isTold 73 = .ok (.iload 11, 2) := by decide +kernel
theorem dL_isTold_75 : decode cL_isTold 75 = .ok (.bipush 9, 2) := by decide +kernel
theorem dL_isTold_77 : decode cL_isTold 77 = .ok (.irem, 1) := by decide +kernel
theorem dL_isTold_78 : decode cL_isTold 78 = .ok (.iadd, 1) := by decide +kernel
theorem dL_isTold_79 : decode cL_isTold 79 = .ok (.istore 13, 2) := by decide +kernel
theorem dL_isTold_81 : decode cL_isTold 81 = .ok (.iload 12, 2) := by decide +kernel
theorem dL_isTold_83 : decode cL_isTold 83 = .ok (.iload 13, 2) := by decide +kernel
theorem dL_isTold_85 : decode cL_isTold 85 = .ok (.invokestatic 137, 3) := by decide +kernel
theorem dL_isTold_88 : decode cL_isTold 88 = .ok (.istore 14, 2) := by decide +kernel
theorem dL_isTold_90 : decode cL_isTold 90 = .ok (.iload 14, 2) := by decide +kernel
theorem dL_isTold_92 : decode cL_isTold 92 = .ok (.ifCond .eq 14, 3) := by decide +kernel
theorem dL_isTold_95 : decode cL_isTold 95 = .ok (.bipush 20, 2) := by decide +kernel
theorem dL_isTold_97 : decode cL_isTold 97 = .ok (.iload 13, 2) := by decide +kernel
theorem dL_isTold_99 : decode cL_isTold 99 = .ok (.imul, 1) := by decide +kernel
theorem dL_isTold_100 : decode cL_isTold 100 = .ok (.iload 12, 2) := by decide +kernel
theorem dL_isTold_102 : decode cL_isTold 102 = .ok (.iadd, 1) := by decide +kernel
theorem dL_isTold_103 : decode cL_isTold 103 = .ok (.goto 4, 3) := by decide +kernel
theorem dL_isTold_106 : decode cL_isTold 106 = .ok (.iconst 0, 1) := by decide +kernel
theorem dL_isTold_107 : decode cL_isTold 107 = .ok (.istore 15, 2) := by decide +kernel
theorem dL_isTold_109 : decode cL_isTold 109 = .ok (.iload 10, 2) := by decide +kernel
theorem dL_isTold_111 : decode cL_isTold 111 = .ok (.bipush 29, 2) := by decide +kernel
theorem dL_isTold_113 : decode cL_isTold 113 = .ok (.idiv, 1) := by decide +kernel
theorem dL_isTold_114 : decode cL_isTold 114 = .ok (.bipush 11, 2) := by decide +kernel
theorem dL_isTold_116 : decode cL_isTold 116 = .ok (.irem, 1) := by decide +kernel
theorem dL_isTold_117 : decode cL_isTold 117 = .ok (.bipush 10, 2) := by decide +kernel
theorem dL_isTold_119 : decode cL_isTold 119 = .ok (.if_icmp .ne 8, 3) := by decide +kernel
theorem dL_isTold_122 : decode cL_isTold 122 = .ok (.bipush 10, 2) := by decide +kernel
theorem dL_isTold_124 : decode cL_isTold 124 = .ok (.goto 10, 3) := by decide +kernel
theorem dL_isTold_127 : decode cL_isTold 127 = .ok (.iload 10, 2) := by decide +kernel
theorem dL_isTold_129 : decode cL_isTold 129 = .ok (.bipush 29, 2) := by decide +kernel
theorem dL_isTold_131 : decode cL_isTold 131 = .ok (.idiv, 1) := by decide +kernel
theorem dL_isTold_132 : decode cL_isTold 132 = .ok (.iconst 4, 1) := by decide +kernel
theorem dL_isTold_133 : decode cL_isTold 133 = .ok (.irem, 1) := by decide +kernel
theorem dL_isTold_134 : decode cL_isTold 134 = .ok (.istore 16, 2) := by decide +kernel
theorem dL_isTold_136 : decode cL_isTold 136 = .ok (.iload 9, 2) := by decide +kernel
theorem dL_isTold_138 : decode cL_isTold 138 = .ok (.ifCond .ne 266, 3) := by decide +kernel
theorem dL_isTold_141 : decode cL_isTold 141 = .ok (.iload 11, 2) := by decide +kernel
theorem dL_isTold_143 : decode cL_isTold 143 = .ok (.bipush 9, 2) := by decide +kernel
theorem dL_isTold_145 : decode cL_isTold 145 = .ok (.idiv, 1) := by decide +kernel
theorem dL_isTold_146 : decode cL_isTold 146 = .ok (.bipush 13, 2) := by decide +kernel
theorem dL_isTold_148 : decode cL_isTold 148 = .ok (.irem, 1) := by decide +kernel
theorem dL_isTold_149 : decode cL_isTold 149 = .ok (.bipush 12, 2) := by decide +kernel
theorem dL_isTold_151 : decode cL_isTold 151 = .ok (.if_icmp .ne 8, 3) := by decide +kernel
theorem dL_isTold_154 : decode cL_isTold 154 = .ok (.bipush 100, 2) := by decide +kernel
theorem dL_isTold_156 : decode cL_isTold 156 = .ok (.goto 26, 3) := by decide +kernel
theorem dL_isTold_159 : decode cL_isTold 159 = .ok (.iload 11, 2) := by decide +kernel
theorem dL_isTold_161 : decode cL_isTold 161 = .ok (.bipush 9, 2) := by decide +kernel
theorem dL_isTold_163 : decode cL_isTold 163 = .ok (.idiv, 1) := by decide +kernel
theorem dL_isTold_164 : decode cL_isTold 164 = .ok (.iconst 3, 1) := by decide +kernel
theorem dL_isTold_165 : decode cL_isTold 165 = .ok (.irem, 1) := by decide +kernel
theorem dL_isTold_166 : decode cL_isTold 166 = .ok (.ifCond .le 8, 3) := by decide +kernel
theorem dL_isTold_169 : decode cL_isTold 169 = .ok (.bipush 99, 2) := by decide +kernel
theorem dL_isTold_171 : decode cL_isTold 171 = .ok (.goto 11, 3) := by decide +kernel
theorem dL_isTold_174 : decode cL_isTold 174 = .ok (.iload 11, 2) := by decide +kernel
theorem dL_isTold_176 : decode cL_isTold 176 = .ok (.bipush 27, 2) := by decide +kernel
theorem dL_isTold_178 : decode cL_isTold 178 = .ok (.idiv, 1) := by decide +kernel
theorem dL_isTold_179 : decode cL_isTold 179 = .ok (.bipush 14, 2) := by decide +kernel
theorem dL_isTold_181 : decode cL_isTold 181 = .ok (.irem, 1) := by decide +kernel
theorem dL_isTold_182 : decode cL_isTold 182 = .ok (.istore 17, 2) := by decide +kernel
theorem dL_isTold_184 : decode cL_isTold 184 = .ok (.iload 10, 2) := by decide +kernel
theorem dL_isTold_186 : decode cL_isTold 186 = .ok (.sipush 319, 3) := by decide +kernel
theorem dL_isTold_189 : decode cL_isTold 189 = .ok (.idiv, 1) := by decide +kernel
theorem dL_isTold_190 : decode cL_isTold 190 = .ok (.iconst 3, 1) := by decide +kernel
theorem dL_isTold_191 : decode cL_isTold 191 = .ok (.irem, 1) := by decide +kernel
theorem dL_isTold_192 : decode cL_isTold 192 = .ok (.ifCond .le 14, 3) := by decide +kernel
theorem dL_isTold_195 : decode cL_isTold 195 = .ok (.iload 10, 2) := by decide +kernel
theorem dL_isTold_197 : decode cL_isTold 197 = .ok (.sipush 319, 3) := by decide +kernel
theorem dL_isTold_200 : decode cL_isTold 200 = .ok (.idiv, 1) := by decide +kernel
theorem dL_isTold_201 : decode cL_isTold 201 = .ok (.iconst 3, 1) := by decide +kernel
theorem dL_isTold_202 : decode cL_isTold 202 = .ok (.irem, 1) := by decide +kernel
theorem dL_isTold_203 : decode cL_isTold 203 = .ok (.goto 12, 3) := by decide +kernel
theorem dL_isTold_206 : decode cL_isTold 206 = .ok (.iload 10, 2) := by decide +kernel
theorem dL_isTold_208 : decode cL_isTold 208 = .ok (.sipush 957, 3) := by decide +kernel
theorem dL_isTold_211 : decode cL_isTold 211 = .ok (.idiv, 1) := by decide +kernel
theorem dL_isTold_212 : decode cL_isTold 212 = .ok (.bipush 11, 2) := by decide +kernel
theorem dL_isTold_214 : decode cL_isTold 214 = .ok (.irem, 1) := by decide +kernel
theorem dL_isTold_215 : decode cL_isTold 215 = .ok (.istore 18, 2) := by decide +kernel
theorem dL_isTold_217 : decode cL_isTold 217 = .ok (.iload 14, 2) := by decide +kernel
theorem dL_isTold_219 : decode cL_isTold 219 = .ok (.ifCond .eq 28, 3) := by decide +kernel
theorem dL_isTold_222 : decode cL_isTold 222 = .ok (.iload 16, 2) := by decide +kernel
theorem dL_isTold_224 : decode cL_isTold 224 = .ok (.bipush 10, 2) := by decide +kernel
theorem dL_isTold_226 : decode cL_isTold 226 = .ok (.if_icmp .ge 21, 3) := by decide +kernel
theorem dL_isTold_229 : decode cL_isTold 229 = .ok (.iload 17, 2) := by decide +kernel
theorem dL_isTold_231 : decode cL_isTold 231 = .ok (.bipush 100, 2) := by decide +kernel
theorem dL_isTold_233 : decode cL_isTold 233 = .ok (.if_icmp .ge 14, 3) := by decide +kernel
theorem dL_isTold_236 : decode cL_isTold 236 = .ok (.iload 18, 2) := by decide +kernel
theorem dL_isTold_238 : decode cL_isTold 238 = .ok (.bipush 10, 2) := by decide +kernel
theorem dL_isTold_240 : decode cL_isTold 240 = .ok (.if_icmp .ge 7, 3) := by decide +kernel
theorem dL_isTold_243 : decode cL_isTold 243 = .ok (.iconst 1, 1) := by decide +kernel
theorem dL_isTold_244 : decode cL_isTold 244 = .ok (.goto 4, 3) := by decide +kernel
theorem dL_isTold_247 : decode cL_isTold 247 = .ok (.iconst 0, 1) := by decide +kernel
theorem dL_isTold_248 : decode cL_isTold 248 = .ok (.istore 19, 2) := by decide +kernel
theorem dL_isTold_250 : decode cL_isTold 250 = .ok (.iload 19, 2) := by decide +kernel
theorem dL_isTold_252 : decode cL_isTold 252 = .ok (.ifCond .eq 26, 3) := by decide +kernel
theorem dL_isTold_255 : decode cL_isTold 255 = .ok (.aload 5, 2) := by decide +kernel
theorem dL_isTold_257 : decode cL_isTold 257 = .ok (.aload 6, 2) := by decide +kernel
theorem dL_isTold_259 : decode cL_isTold 259 = .ok (.aload 8, 2) := by decide +kernel
theorem dL_isTold_261 : decode cL_isTold 261 = .ok (.bipush 8, 2) := by decide +kernel
theorem dL_isTold_263 : decode cL_isTold 263 = .ok (.iaload, 1) := by decide +kernel
theorem dL_isTold_264 : decode cL_isTold 264 = .ok (.iload 12, 2) := by decide +kernel
theorem dL_isTold_266 : decode cL_isTold 266 = .ok (.iload 13, 2) := by decide +kernel
theorem dL_isTold_268 : decode cL_isTold 268 = .ok (.invokestatic 118, 3) := by decide +kernel
theorem dL_isTold_271 : decode cL_isTold 271 = .ok (.ifCond .ne 7, 3) := by decide +kernel
theorem dL_isTold_274 : decode cL_isTold 274 = .ok (.iconst 1, 1) := by decide +kernel
theorem dL_isTold_275 : decode cL_isTold 275 = .ok (.goto 4, 3) := by decide +kernel
theorem dL_isTold_278 : decode cL_isTold 278 = .ok (.iconst 0, 1) := by decide +kernel
theorem dL_isTold_279 : decode cL_isTold 279 = .ok (.istore 20, 2) := by decide +kernel
theorem dL_isTold_281 : decode cL_isTold 281 = .ok (.aload_n 1, 1) := by decide +kernel
theorem dL_isTold_282 : decode cL_isTold 282 = .ok (.iload 15, 2) := by decide +kernel
theorem dL_isTold_284 : decode cL_isTold 284 = .ok (.invokestatic 87, 3) := by decide +kernel
theorem dL_isTold_287 : decode cL_isTold 287 = .ok (.istore 21, 2) := by decide +kernel
theorem dL_isTold_289 : decode cL_isTold 289 = .ok (.iload 20, 2) := by decide +kernel
theorem dL_isTold_291 : decode cL_isTold 291 = .ok (.ifCond .eq 67, 3) := by decide +kernel
theorem dL_isTold_294 : decode cL_isTold 294 = .ok (.aload_n 1, 1) := by decide +kernel
theorem dL_isTold_295 : decode cL_isTold 295 = .ok (.iload 15, 2) := by decide +kernel
theorem dL_isTold_297 : decode cL_isTold 297 = .ok (.iload 16, 2) := by decide +kernel
theorem dL_isTold_299 : decode cL_isTold 299 = .ok (.invokestatic 102, 3) := by decide +kernel
theorem dL_isTold_302 : decode cL_isTold 302 = .ok (.aload_n 2, 1) := by decide +kernel
theorem dL_isTold_303 : decode cL_isTold 303 = .ok (.iload 15, 2) := by decide +kernel
theorem dL_isTold_305 : decode cL_isTold 305 = .ok (.iload 18, 2) := by decide +kernel
theorem dL_isTold_307 : decode cL_isTold 307 = .ok (.invokestatic 102, 3) := by decide +kernel
theorem dL_isTold_310 : decode cL_isTold 310 = .ok (.aload_n 3, 1) := by decide +kernel
theorem dL_isTold_311 : decode cL_isTold 311 = .ok (.iload 15, 2) := by decide +kernel
theorem dL_isTold_313 : decode cL_isTold 313 = .ok (.bipush 8, 2) := by decide +kernel
theorem dL_isTold_315 : decode cL_isTold 315 = .ok (.idiv, 1) := by decide +kernel
theorem dL_isTold_316 : decode cL_isTold 316 = .ok (.dup2, 1) := by decide +kernel
theorem dL_isTold_317 : decode cL_isTold 317 = .ok (.laload, 1) := by decide +kernel
theorem dL_isTold_318 : decode cL_isTold 318 = .ok (.ldc2_w 73, 3) := by decide +kernel
theorem dL_isTold_321 : decode cL_isTold 321 = .ok (.bipush 8, 2) := by decide +kernel
theorem dL_isTold_323 : decode cL_isTold 323 = .ok (.iload 15, 2) := by decide +kernel
theorem dL_isTold_325 : decode cL_isTold 325 = .ok (.bipush 8, 2) := by decide +kernel
theorem dL_isTold_327 : decode cL_isTold 327 = .ok (.irem, 1) := by decide +kernel
theorem dL_isTold_328 : decode cL_isTold 328 = .ok (.imul, 1) := by decide +kernel
theorem dL_isTold_329 : decode cL_isTold 329 = .ok (.lshl, 1) := by decide +kernel
theorem dL_isTold_330 : decode cL_isTold 330 = .ok (.ldc2_w 71, 3) := by decide +kernel
theorem dL_isTold_333 : decode cL_isTold 333 = .ok (.lxor, 1) := by decide +kernel
theorem dL_isTold_334 : decode cL_isTold 334 = .ok (.land, 1) := by decide +kernel
theorem dL_isTold_335 : decode cL_isTold 335 = .ok (.lastore, 1) := by decide +kernel
theorem dL_isTold_336 : decode cL_isTold 336 = .ok (.aload_n 3, 1) := by decide +kernel
theorem dL_isTold_337 : decode cL_isTold 337 = .ok (.iload 15, 2) := by decide +kernel
theorem dL_isTold_339 : decode cL_isTold 339 = .ok (.bipush 8, 2) := by decide +kernel
theorem dL_isTold_341 : decode cL_isTold 341 = .ok (.idiv, 1) := by decide +kernel
theorem dL_isTold_342 : decode cL_isTold 342 = .ok (.dup2, 1) := by decide +kernel
theorem dL_isTold_343 : decode cL_isTold 343 = .ok (.laload, 1) := by decide +kernel
theorem dL_isTold_344 : decode cL_isTold 344 = .ok (.iload 17, 2) := by decide +kernel
theorem dL_isTold_346 : decode cL_isTold 346 = .ok (.i2l, 1) := by decide +kernel
theorem dL_isTold_347 : decode cL_isTold 347 = .ok (.bipush 8, 2) := by decide +kernel
theorem dL_isTold_349 : decode cL_isTold 349 = .ok (.iload 15, 2) := by decide +kernel
theorem dL_isTold_351 : decode cL_isTold 351 = .ok (.bipush 8, 2) := by decide +kernel
theorem dL_isTold_353 : decode cL_isTold 353 = .ok (.irem, 1) := by decide +kernel
theorem dL_isTold_354 : decode cL_isTold 354 = .ok (.imul, 1) := by decide +kernel
theorem dL_isTold_355 : decode cL_isTold 355 = .ok (.lshl, 1) := by decide +kernel
theorem dL_isTold_356 : decode cL_isTold 356 = .ok (.lor, 1) := by decide +kernel
theorem dL_isTold_357 : decode cL_isTold 357 = .ok (.lastore, 1) := by decide +kernel
theorem dL_isTold_358 : decode cL_isTold 358 = .ok (.aload_n 0, 1) := by decide +kernel
theorem dL_isTold_359 : decode cL_isTold 359 = .ok (.iconst 0, 1) := by decide +kernel
theorem dL_isTold_360 : decode cL_isTold 360 = .ok (.iload 12, 2) := by decide +kernel
theorem dL_isTold_362 : decode cL_isTold 362 = .ok (.iload 13, 2) := by decide +kernel
theorem dL_isTold_364 : decode cL_isTold 364 = .ok (.iload 16, 2) := by decide +kernel
theorem dL_isTold_366 : decode cL_isTold 366 = .ok (.iload 17, 2) := by decide +kernel
theorem dL_isTold_368 : decode cL_isTold 368 = .ok (.iload 18, 2) := by decide +kernel
theorem dL_isTold_370 : decode cL_isTold 370 = .ok (.invokestatic 190, 3) := by decide +kernel
theorem dL_isTold_373 : decode cL_isTold 373 = .ok (.iload 19, 2) := by decide +kernel
theorem dL_isTold_375 : decode cL_isTold 375 = .ok (.ifCond .ne 8, 3) := by decide +kernel
theorem dL_isTold_378 : decode cL_isTold 378 = .ok (.ldc 65, 2) := by decide +kernel
theorem dL_isTold_380 : decode cL_isTold 380 = .ok (.goto 15, 3) := by decide +kernel
theorem dL_isTold_383 : decode cL_isTold 383 = .ok (.iload 20, 2) := by decide +kernel
theorem dL_isTold_385 : decode cL_isTold 385 = .ok (.ifCond .eq 8, 3) := by decide +kernel
theorem dL_isTold_388 : decode cL_isTold 388 = .ok (.iload 21, 2) := by decide +kernel
theorem dL_isTold_390 : decode cL_isTold 390 = .ok (.goto 5, 3) := by decide +kernel
theorem dL_isTold_393 : decode cL_isTold 393 = .ok (.ldc 68, 2) := by decide +kernel
theorem dL_isTold_395 : decode cL_isTold 395 = .ok (.if_icmp .ne 7, 3) := by decide +kernel
theorem dL_isTold_398 : decode cL_isTold 398 = .ok (.iconst 1, 1) := by decide +kernel
theorem dL_isTold_399 : decode cL_isTold 399 = .ok (.goto 4, 3) := by decide +kernel
theorem dL_isTold_402 : decode cL_isTold 402 = .ok (.iconst 0, 1) := by decide +kernel
theorem dL_isTold_403 : decode cL_isTold 403 = .ok (.ireturn, 1) := by decide +kernel
theorem dL_isTold_404 : decode cL_isTold 404 = .ok (.iload 9, 2) := by decide +kernel
theorem dL_isTold_406 : decode cL_isTold 406 = .ok (.iconst 1, 1) := by decide +kernel
theorem dL_isTold_407 : decode cL_isTold 407 = .ok (.if_icmp .ne 85, 3) := by decide +kernel
theorem dL_isTold_410 : decode cL_isTold 410 = .ok (.iload 14, 2) := by decide +kernel
theorem dL_isTold_412 : decode cL_isTold 412 = .ok (.ifCond .eq 14, 3) := by decide +kernel
theorem dL_isTold_415 : decode cL_isTold 415 = .ok (.iload 16, 2) := by decide +kernel
theorem dL_isTold_417 : decode cL_isTold 417 = .ok (.bipush 10, 2) := by decide +kernel
theorem dL_isTold_419 : decode cL_isTold 419 = .ok (.if_icmp .ge 7, 3) := by decide +kernel
theorem dL_isTold_422 : decode cL_isTold 422 = .ok (.iconst 1, 1) := by decide +kernel
theorem dL_isTold_423 : decode cL_isTold 423 = .ok (.goto 4, 3) := by decide +kernel
theorem dL_isTold_426 : decode cL_isTold 426 = .ok (.iconst 0, 1) := by decide +kernel
theorem dL_isTold_427 : decode cL_isTold 427 = .ok (.istore 17, 2) := by decide +kernel
theorem dL_isTold_429 : decode cL_isTold 429 = .ok (.aload_n 1, 1) := by decide +kernel
theorem dL_isTold_430 : decode cL_isTold 430 = .ok (.sipush 400, 3) := by decide +kernel
theorem dL_isTold_433 : decode cL_isTold 433 = .ok (.iload 15, 2) := by decide +kernel
theorem dL_isTold_435 : decode cL_isTold 435 = .ok (.iadd, 1) := by decide +kernel
theorem dL_isTold_436 : decode cL_isTold 436 = .ok (.invokestatic 87, 3) := by decide +kernel
theorem dL_isTold_439 : decode cL_isTold 439 = .ok (.istore 18, 2) := by decide +kernel
theorem dL_isTold_441 : decode cL_isTold 441 = .ok (.iload 17, 2) := by decide +kernel
theorem dL_isTold_443 : decode cL_isTold 443 = .ok (.ifCond .eq 15, 3) := by decide +kernel
theorem dL_isTold_446 : decode cL_isTold 446 = .ok (.aload_n 1, 1) := by decide +kernel
theorem dL_isTold_447 : decode cL_isTold 447 = .ok (.sipush 400, 3) := by decide +kernel
theorem dL_isTold_450 : decode cL_isTold 450 = .ok (.iload 15, 2) := by decide +kernel
theorem dL_isTold_452 : decode cL_isTold 452 = .ok (.iadd, 1) := by decide +kernel
theorem dL_isTold_453 : decode cL_isTold 453 = .ok (.iload 16, 2) := by decide +kernel
theorem dL_isTold_455 : decode cL_isTold 455 = .ok (.invokestatic 102, 3) := by decide +kernel
theorem dL_isTold_458 : decode cL_isTold 458 = .ok (.aload_n 0, 1) := by decide +kernel
theorem dL_isTold_459 : decode cL_isTold 459 = .ok (.iconst 1, 1) := by decide +kernel
theorem dL_isTold_460 : decode cL_isTold 460 = .ok (.iload 12, 2) := by decide +kernel
theorem dL_isTold_462 : decode cL_isTold 462 = .ok (.iload 13, 2) := by decide +kernel
theorem dL_isTold_464 : decode cL_isTold 464 = .ok (.iload 16, 2) := by decide +kernel
theorem dL_isTold_466 : decode cL_isTold 466 = .ok (.iconst 0, 1) := by decide +kernel
theorem dL_isTold_467 : decode cL_isTold 467 = .ok (.iconst 0, 1) := by decide +kernel
theorem dL_isTold_468 : decode cL_isTold 468 = .ok (.invokestatic 190, 3) := by decide +kernel
theorem dL_isTold_471 : decode cL_isTold 471 = .ok (.iload 17, 2) := by decide +kernel
theorem dL_isTold_473 : decode cL_isTold 473 = .ok (.ifCond .eq 8, 3) := by decide +kernel
theorem dL_isTold_476 : decode cL_isTold 476 = .ok (.iload 18, 2) := by decide +kernel
theorem dL_isTold_478 : decode cL_isTold 478 = .ok (.goto 5, 3) := by decide +kernel
theorem dL_isTold_481 : decode cL_isTold 481 = .ok (.ldc 65, 2) := by decide +kernel
theorem dL_isTold_483 : decode cL_isTold 483 = .ok (.if_icmp .ne 7, 3) := by decide +kernel
theorem dL_isTold_486 : decode cL_isTold 486 = .ok (.iconst 1, 1) := by decide +kernel
theorem dL_isTold_487 : decode cL_isTold 487 = .ok (.goto 4, 3) := by decide +kernel
theorem dL_isTold_490 : decode cL_isTold 490 = .ok (.iconst 0, 1) := by decide +kernel
theorem dL_isTold_491 : decode cL_isTold 491 = .ok (.ireturn, 1) := by decide +kernel
theorem dL_isTold_492 : decode cL_isTold 492 = .ok (.iload 9, 2) := by decide +kernel
theorem dL_isTold_494 : decode cL_isTold 494 = .ok (.iconst 2, 1) := by decide +kernel
theorem dL_isTold_495 : decode cL_isTold 495 = .ok (.if_icmp .ne 224, 3) := by decide +kernel
theorem dL_isTold_498 : decode cL_isTold 498 = .ok (.iload 10, 2) := by decide +kernel
theorem dL_isTold_500 : decode cL_isTold 500 = .ok (.bipush 13, 2) := by decide +kernel
theorem dL_isTold_502 : decode cL_isTold 502 = .ok (.irem, 1) := by decide +kernel
theorem dL_isTold_503 : decode cL_isTold 503 = .ok (.bipush 12, 2) := by decide +kernel
theorem dL_isTold_505 : decode cL_isTold 505 = .ok (.if_icmp .ne 8, 3) := by decide +kernel
theorem dL_isTold_508 : decode cL_isTold 508 = .ok (.bipush 6, 2) := by decide +kernel
theorem dL_isTold_510 : decode cL_isTold 510 = .ok (.goto 9, 3) := by decide +kernel
theorem dL_isTold_513 : decode cL_isTold 513 = .ok (.iload 10, 2) := by decide +kernel
theorem dL_isTold_515 : decode cL_isTold 515 = .ok (.iconst 5, 1) := by decide +kernel
theorem dL_isTold_516 : decode cL_isTold 516 = .ok (.irem, 1) := by decide +kernel
theorem dL_isTold_517 : decode cL_isTold 517 = .ok (.iconst 2, 1) := by decide +kernel
theorem dL_isTold_518 : decode cL_isTold 518 = .ok (.isub, 1) := by decide +kernel
theorem dL_isTold_519 : decode cL_isTold 519 = .ok (.istore 17, 2) := by decide +kernel
theorem dL_isTold_521 : decode cL_isTold 521 = .ok (.iload 10, 2) := by decide +kernel
theorem dL_isTold_523 : decode cL_isTold 523 = .ok (.bipush 13, 2) := by decide +kernel
theorem dL_isTold_525 : decode cL_isTold 525 = .ok (.idiv, 1) := by decide +kernel
theorem dL_isTold_526 : decode cL_isTold 526 = .ok (.bipush 13, 2) := by decide +kernel
theorem dL_isTold_528 : decode cL_isTold 528 = .ok (.irem, 1) := by decide +kernel
theorem dL_isTold_529 : decode cL_isTold 529 = .ok (.bipush 12, 2) := by decide +kernel
theorem dL_isTold_531 : decode cL_isTold 531 = .ok (.if_icmp .ne 8, 3) := by decide +kernel
theorem dL_isTold_534 : decode cL_isTold 534 = .ok (.bipush (-6), 2) := by decide +kernel
theorem dL_isTold_536 : decode cL_isTold 536 = .ok (.goto 12, 3) := by decide +kernel
theorem dL_isTold_539 : decode cL_isTold 539 = .ok (.iload 10, 2) := by decide +kernel
theorem dL_isTold_541 : decode cL_isTold 541 = .ok (.bipush 13, 2) := by decide +kernel
theorem dL_isTold_543 : decode cL_isTold 543 = .ok (.idiv, 1) := by decide +kernel
theorem dL_isTold_544 : decode cL_isTold 544 = .ok (.iconst 5, 1) := by decide +kernel
theorem dL_isTold_545 : decode cL_isTold 545 = .ok (.irem, 1) := by decide +kernel
theorem dL_isTold_546 : decode cL_isTold 546 = .ok (.iconst 2, 1) := by decide +kernel
theorem dL_isTold_547 : decode cL_isTold 547 = .ok (.isub, 1) := by decide +kernel
theorem dL_isTold_548 : decode cL_isTold 548 = .ok (.istore 18, 2) := by decide +kernel
theorem dL_isTold_550 : decode cL_isTold 550 = .ok (.iload 11, 2) := by decide +kernel
theorem dL_isTold_552 : decode cL_isTold 552 = .ok (.bipush 9, 2) := by decide +kernel
theorem dL_isTold_554 : decode cL_isTold 554 = .ok (.irem, 1) := by decide +kernel
theorem dL_isTold_555 : decode cL_isTold 555 = .ok (.bipush 8, 2) := by decide +kernel
theorem dL_isTold_557 : decode cL_isTold 557 = .ok (.if_icmp .ne 8, 3) := by decide +kernel
theorem dL_isTold_560 : decode cL_isTold 560 = .ok (.bipush 7, 2) := by decide +kernel
theorem dL_isTold_562 : decode cL_isTold 562 = .ok (.goto 9, 3) := by decide +kernel
theorem dL_isTold_565 : decode cL_isTold 565 = .ok (.iconst 1, 1) := by decide +kernel
theorem dL_isTold_566 : decode cL_isTold 566 = .ok (.iload 11, 2) := by decide +kernel
theorem dL_isTold_568 : decode cL_isTold 568 = .ok (.iconst 4, 1) := by decide +kernel
theorem dL_isTold_569 : decode cL_isTold 569 = .ok (.irem, 1) := by decide +kernel
theorem dL_isTold_570 : decode cL_isTold 570 = .ok (.iadd, 1) := by decide +kernel
theorem dL_isTold_571 : decode cL_isTold 571 = .ok (.istore 19, 2) := by decide +kernel
theorem dL_isTold_573 : decode cL_isTold 573 = .ok (.iload 17, 2) := by decide +kernel
theorem dL_isTold_575 : decode cL_isTold 575 = .ok (.bipush 6, 2) := by decide +kernel
theorem dL_isTold_577 : decode cL_isTold 577 = .ok (.if_icmp .ge 21, 3) := by decide +kernel
theorem dL_isTold_580 : decode cL_isTold 580 = .ok (.iload 18, 2) := by decide +kernel
theorem dL_isTold_582 : decode cL_isTold 582 = .ok (.bipush (-6), 2) := by decide +kernel
theorem dL_isTold_584 : decode cL_isTold 584 = .ok (.if_icmp .le 14, 3) := by decide +kernel
theorem dL_isTold_587 : decode cL_isTold 587 = .ok (.iload 19, 2) := by decide +kernel
theorem dL_isTold_589 : decode cL_isTold 589 = .ok (.bipush 7, 2) := by decide +kernel
theorem dL_isTold_591 : decode cL_isTold 591 = .ok (.if_icmp .ge 7, 3) := by decide +kernel
theorem dL_isTold_594 : decode cL_isTold 594 = .ok (.iconst 1, 1) := by decide +kernel
theorem dL_isTold_595 : decode cL_isTold 595 = .ok (.goto 4, 3) := by decide +kernel
theorem dL_isTold_598 : decode cL_isTold 598 = .ok (.iconst 0, 1) := by decide +kernel
theorem dL_isTold_599 : decode cL_isTold 599 = .ok (.istore 20, 2) := by decide +kernel
theorem dL_isTold_601 : decode cL_isTold 601 = .ok (.iload 20, 2) := by decide +kernel
theorem dL_isTold_603 : decode cL_isTold 603 = .ok (.ifCond .eq 24, 3) := by decide +kernel
theorem dL_isTold_606 : decode cL_isTold 606 = .ok (.aload 8, 2) := by decide +kernel
theorem dL_isTold_608 : decode cL_isTold 608 = .ok (.bipush 7, 2) := by decide +kernel
theorem dL_isTold_610 : decode cL_isTold 610 = .ok (.iaload, 1) := by decide +kernel
theorem dL_isTold_611 : decode cL_isTold 611 = .ok (.bipush 6, 2) := by decide +kernel
theorem dL_isTold_613 : decode cL_isTold 613 = .ok (.if_icmp .ge 14, 3) := by decide +kernel
theorem dL_isTold_616 : decode cL_isTold 616 = .ok (.aload 8, 2) := by decide +kernel
theorem dL_isTold_618 : decode cL_isTold 618 = .ok (.iconst 0, 1) := by decide +kernel
theorem dL_isTold_619 : decode cL_isTold 619 = .ok (.iaload, 1) := by decide +kernel
theorem dL_isTold_620 : decode cL_isTold 620 = .ok (.ifCond .ne 7, 3) := by decide +kernel
theorem dL_isTold_623 : decode cL_isTold 623 = .ok (.iconst 1, 1) := by decide +kernel
theorem dL_isTold_624 : decode cL_isTold 624 = .ok (.goto 4, 3) := by decide +kernel
theorem dL_isTold_627 : decode cL_isTold 627 = .ok (.iconst 0, 1) := by decide +kernel
theorem dL_isTold_628 : decode cL_isTold 628 = .ok (.istore 21, 2) := by decide +kernel
theorem dL_isTold_630 : decode cL_isTold 630 = .ok (.iload 21, 2) := by decide +kernel
theorem dL_isTold_632 : decode cL_isTold 632 = .ok (.ifCond .eq 38, 3) := by decide +kernel
theorem dL_isTold_635 : decode cL_isTold 635 = .ok (.aload 4, 2) := by decide +kernel
theorem dL_isTold_637 : decode cL_isTold 637 = .ok (.aload 8, 2) := by decide +kernel
theorem dL_isTold_639 : decode cL_isTold 639 = .ok (.bipush 7, 2) := by decide +kernel
theorem dL_isTold_641 : decode cL_isTold 641 = .ok (.iaload, 1) := by decide +kernel
theorem dL_isTold_642 : decode cL_isTold 642 = .ok (.iload 17, 2) := by decide +kernel
theorem dL_isTold_644 : decode cL_isTold 644 = .ok (.iconst 5, 1) := by decide +kernel
theorem dL_isTold_645 : decode cL_isTold 645 = .ok (.iadd, 1) := by decide +kernel
theorem dL_isTold_646 : decode cL_isTold 646 = .ok (.bipush 11, 2) := by decide +kernel
theorem dL_isTold_648 : decode cL_isTold 648 = .ok (.iload 18, 2) := by decide +kernel
theorem dL_isTold_650 : decode cL_isTold 650 = .ok (.iconst 5, 1) := by decide +kernel
theorem dL_isTold_651 : decode cL_isTold 651 = .ok (.iadd, 1) := by decide +kernel
theorem dL_isTold_652 : decode cL_isTold 652 = .ok (.imul, 1) := by decide +kernel
theorem dL_isTold_653 : decode cL_isTold 653 = .ok (.iadd, 1) := by decide +kernel
theorem dL_isTold_654 : decode cL_isTold 654 = .ok (.bipush 121, 2) := by decide +kernel
theorem dL_isTold_656 : decode cL_isTold 656 = .ok (.iload 19, 2) := by decide +kernel
theorem dL_isTold_658 : decode cL_isTold 658 = .ok (.imul, 1) := by decide +kernel
theorem dL_isTold_659 : decode cL_isTold 659 = .ok (.iadd, 1) := by decide +kernel
theorem dL_isTold_660 : decode cL_isTold 660 = .ok (.iastore, 1) := by decide +kernel
theorem dL_isTold_661 : decode cL_isTold 661 = .ok (.aload 8, 2) := by decide +kernel
theorem dL_isTold_663 : decode cL_isTold 663 = .ok (.bipush 7, 2) := by decide +kernel
theorem dL_isTold_665 : decode cL_isTold 665 = .ok (.dup2, 1) := by decide +kernel
theorem dL_isTold_666 : decode cL_isTold 666 = .ok (.iaload, 1) := by decide +kernel
theorem dL_isTold_667 : decode cL_isTold 667 = .ok (.iconst 1, 1) := by decide +kernel
theorem dL_isTold_668 : decode cL_isTold 668 = .ok (.iadd, 1) := by decide +kernel
theorem dL_isTold_669 : decode cL_isTold 669 = .ok (.iastore, 1) := by decide +kernel
theorem dL_isTold_670 : decode cL_isTold 670 = .ok (.aload_n 0, 1) := by decide +kernel
theorem dL_isTold_671 : decode cL_isTold 671 = .ok (.iconst 2, 1) := by decide +kernel
theorem dL_isTold_672 : decode cL_isTold 672 = .ok (.iload 17, 2) := by decide +kernel
theorem dL_isTold_674 : decode cL_isTold 674 = .ok (.iload 18, 2) := by decide +kernel
theorem dL_isTold_676 : decode cL_isTold 676 = .ok (.iload 19, 2) := by decide +kernel
theorem dL_isTold_678 : decode cL_isTold 678 = .ok (.iconst 0, 1) := by decide +kernel
theorem dL_isTold_679 : decode cL_isTold 679 = .ok (.iconst 0, 1) := by decide +kernel
theorem dL_isTold_680 : decode cL_isTold 680 = .ok (.invokestatic 190, 3) := by decide +kernel
theorem dL_isTold_683 : decode cL_isTold 683 = .ok (.iload 20, 2) := by decide +kernel
theorem dL_isTold_685 : decode cL_isTold 685 = .ok (.ifCond .ne 8, 3) := by decide +kernel
theorem dL_isTold_688 : decode cL_isTold 688 = .ok (.ldc 65, 2) := by decide +kernel
theorem dL_isTold_690 : decode cL_isTold 690 = .ok (.goto 20, 3) := by decide +kernel
theorem dL_isTold_693 : decode cL_isTold 693 = .ok (.iload 21, 2) := by decide +kernel
theorem dL_isTold_695 : decode cL_isTold 695 = .ok (.ifCond .eq 13, 3) := by decide +kernel
theorem dL_isTold_698 : decode cL_isTold 698 = .ok (.aload 8, 2) := by decide +kernel
theorem dL_isTold_700 : decode cL_isTold 700 = .ok (.bipush 7, 2) := by decide +kernel
theorem dL_isTold_702 : decode cL_isTold 702 = .ok (.iaload, 1) := by decide +kernel
theorem dL_isTold_703 : decode cL_isTold 703 = .ok (.iconst 1, 1) := by decide +kernel
theorem dL_isTold_704 : decode cL_isTold 704 = .ok (.isub, 1) := by decide +kernel
theorem dL_isTold_705 : decode cL_isTold 705 = .ok (.goto 5, 3) := by decide +kernel
theorem dL_isTold_708 : decode cL_isTold 708 = .ok (.ldc 68, 2) := by decide +kernel
theorem dL_isTold_710 : decode cL_isTold 710 = .ok (.if_icmp .ne 7, 3) := by decide +kernel
theorem dL_isTold_713 : decode cL_isTold 713 = .ok (.iconst 1, 1) := by decide +kernel
theorem dL_isTold_714 : decode cL_isTold 714 = .ok (.goto 4, 3) := by decide +kernel
theorem dL_isTold_717 : decode cL_isTold 717 = .ok (.iconst 0, 1) := by decide +kernel
theorem dL_isTold_718 : decode cL_isTold 718 = .ok (.ireturn, 1) := by decide +kernel
theorem dL_isTold_719 : decode cL_isTold 719 = .ok (.iload 9, 2) := by decide +kernel
theorem dL_isTold_721 : decode cL_isTold 721 = .ok (.iconst 3, 1) := by decide +kernel
theorem dL_isTold_722 : decode cL_isTold 722 = .ok (.if_icmp .ne 130, 3) := by decide +kernel
theorem dL_isTold_725 : decode cL_isTold 725 = .ok (.iload 10, 2) := by decide +kernel
theorem dL_isTold_727 : decode cL_isTold 727 = .ok (.bipush 9, 2) := by decide +kernel
theorem dL_isTold_729 : decode cL_isTold 729 = .ok (.irem, 1) := by decide +kernel
theorem dL_isTold_730 : decode cL_isTold 730 = .ok (.ifCond .ne 17, 3) := by decide +kernel
theorem dL_isTold_733 : decode cL_isTold 733 = .ok (.iload 10, 2) := by decide +kernel
theorem dL_isTold_735 : decode cL_isTold 735 = .ok (.bipush 9, 2) := by decide +kernel
theorem dL_isTold_737 : decode cL_isTold 737 = .ok (.idiv, 1) := by decide +kernel
theorem dL_isTold_738 : decode cL_isTold 738 = .ok (.iconst 2, 1) := by decide +kernel
theorem dL_isTold_739 : decode cL_isTold 739 = .ok (.irem, 1) := by decide +kernel
theorem dL_isTold_740 : decode cL_isTold 740 = .ok (.sipush 1001, 3) := by decide +kernel
theorem dL_isTold_743 : decode cL_isTold 743 = .ok (.imul, 1) := by decide +kernel
theorem dL_isTold_744 : decode cL_isTold 744 = .ok (.goto 10, 3) := by decide +kernel
theorem dL_isTold_747 : decode cL_isTold 747 = .ok (.iconst 1, 1) := by decide +kernel
theorem dL_isTold_748 : decode cL_isTold 748 = .ok (.iload 10, 2) := by decide +kernel
theorem dL_isTold_750 : decode cL_isTold 750 = .ok (.bipush 90, 2) := by decide +kernel
theorem dL_isTold_752 : decode cL_isTold 752 = .ok (.irem, 1) := by decide +kernel
theorem dL_isTold_753 : decode cL_isTold 753 = .ok (.iadd, 1) := by decide +kernel
theorem dL_isTold_754 : decode cL_isTold 754 = .ok (.istore 17, 2) := by decide +kernel
theorem dL_isTold_756 : decode cL_isTold 756 = .ok (.iload 17, 2) := by decide +kernel
theorem dL_isTold_758 : decode cL_isTold 758 = .ok (.ifCond .le 15, 3) := by decide +kernel
theorem dL_isTold_761 : decode cL_isTold 761 = .ok (.iload 17, 2) := by decide +kernel
theorem dL_isTold_763 : decode cL_isTold 763 = .ok (.sipush 1001, 3) := by decide +kernel
theorem dL_isTold_766 : decode cL_isTold 766 = .ok (.if_icmp .ge 7, 3) := by decide +kernel
theorem dL_isTold_769 : decode cL_isTold 769 = .ok (.iconst 1, 1) := by decide +kernel
theorem dL_isTold_770 : decode cL_isTold 770 = .ok (.goto 4, 3) := by decide +kernel
theorem dL_isTold_773 : decode cL_isTold 773 = .ok (.iconst 0, 1) := by decide +kernel
theorem dL_isTold_774 : decode cL_isTold 774 = .ok (.istore 18, 2) := by decide +kernel
theorem dL_isTold_776 : decode cL_isTold 776 = .ok (.aload 8, 2) := by decide +kernel
theorem dL_isTold_778 : decode cL_isTold 778 = .ok (.iconst 3, 1) := by decide +kernel
theorem dL_isTold_779 : decode cL_isTold 779 = .ok (.dup2, 1) := by decide +kernel
theorem dL_isTold_780 : decode cL_isTold 780 = .ok (.iaload, 1) := by decide +kernel
theorem dL_isTold_781 : decode cL_isTold 781 = .ok (.iload 18, 2) := by decide +kernel
theorem dL_isTold_783 : decode cL_isTold 783 = .ok (.ifCond .eq 8, 3) := by decide +kernel
theorem dL_isTold_786 : decode cL_isTold 786 = .ok (.iload 17, 2) := by decide +kernel
theorem dL_isTold_788 : decode cL_isTold 788 = .ok (.goto 4, 3) := by decide +kernel
theorem dL_isTold_791 : decode cL_isTold 791 = .ok (.iconst 0, 1) := by decide +kernel
theorem dL_isTold_792 : decode cL_isTold 792 = .ok (.iadd, 1) := by decide +kernel
theorem dL_isTold_793 : decode cL_isTold 793 = .ok (.iastore, 1) := by decide +kernel
theorem dL_isTold_794 : decode cL_isTold 794 = .ok (.aload 8, 2) := by decide +kernel
theorem dL_isTold_796 : decode cL_isTold 796 = .ok (.iconst 3, 1) := by decide +kernel
theorem dL_isTold_797 : decode cL_isTold 797 = .ok (.aload 8, 2) := by decide +kernel
theorem dL_isTold_799 : decode cL_isTold 799 = .ok (.iconst 3, 1) := by decide +kernel
theorem dL_isTold_800 : decode cL_isTold 800 = .ok (.iaload, 1) := by decide +kernel
theorem dL_isTold_801 : decode cL_isTold 801 = .ok (.sipush 1000, 3) := by decide +kernel
theorem dL_isTold_804 : decode cL_isTold 804 = .ok (.if_icmp .le 9, 3) := by decide +kernel
theorem dL_isTold_807 : decode cL_isTold 807 = .ok (.sipush 1000, 3) := by decide +kernel
theorem dL_isTold_810 : decode cL_isTold 810 = .ok (.goto 7, 3) := by decide +kernel
theorem dL_isTold_813 : decode cL_isTold 813 = .ok (.aload 8, 2) := by decide +kernel
theorem dL_isTold_815 : decode cL_isTold 815 = .ok (.iconst 3, 1) := by decide +kernel
theorem dL_isTold_816 : decode cL_isTold 816 = .ok (.iaload, 1) := by decide +kernel
theorem dL_isTold_817 : decode cL_isTold 817 = .ok (.iastore, 1) := by decide +kernel
theorem dL_isTold_818 : decode cL_isTold 818 = .ok (.aload_n 0, 1) := by decide +kernel
theorem dL_isTold_819 : decode cL_isTold 819 = .ok (.iconst 3, 1) := by decide +kernel
theorem dL_isTold_820 : decode cL_isTold 820 = .ok (.iload 17, 2) := by decide +kernel
theorem dL_isTold_822 : decode cL_isTold 822 = .ok (.iconst 0, 1) := by decide +kernel
theorem dL_isTold_823 : decode cL_isTold 823 = .ok (.iconst 0, 1) := by decide +kernel
theorem dL_isTold_824 : decode cL_isTold 824 = .ok (.iconst 0, 1) := by decide +kernel
theorem dL_isTold_825 : decode cL_isTold 825 = .ok (.iconst 0, 1) := by decide +kernel
theorem dL_isTold_826 : decode cL_isTold 826 = .ok (.invokestatic 190, 3) := by decide +kernel
theorem dL_isTold_829 : decode cL_isTold 829 = .ok (.iload 18, 2) := by decide +kernel
theorem dL_isTold_831 : decode cL_isTold 831 = .ok (.ifCond .eq 10, 3) := by decide +kernel
theorem dL_isTold_834 : decode cL_isTold 834 = .ok (.aload 8, 2) := by decide +kernel
theorem dL_isTold_836 : decode cL_isTold 836 = .ok (.iconst 3, 1) := by decide +kernel
theorem dL_isTold_837 : decode cL_isTold 837 = .ok (.iaload, 1) := by decide +kernel
theorem dL_isTold_838 : decode cL_isTold 838 = .ok (.goto 5, 3) := by decide +kernel
theorem dL_isTold_841 : decode cL_isTold 841 = .ok (.ldc 65, 2) := by decide +kernel
theorem dL_isTold_843 : decode cL_isTold 843 = .ok (.if_icmp .ne 7, 3) := by decide +kernel
theorem dL_isTold_846 : decode cL_isTold 846 = .ok (.iconst 1, 1) := by decide +kernel
theorem dL_isTold_847 : decode cL_isTold 847 = .ok (.goto 4, 3) := by decide +kernel
theorem dL_isTold_850 : decode cL_isTold 850 = .ok (.iconst 0, 1) := by decide +kernel
theorem dL_isTold_851 : decode cL_isTold 851 = .ok (.ireturn, 1) := by decide +kernel
theorem dL_isTold_852 : decode cL_isTold 852 = .ok (.iload 9, 2) := by decide +kernel
theorem dL_isTold_854 : decode cL_isTold 854 = .ok (.iconst 4, 1) := by decide +kernel
theorem dL_isTold_855 : decode cL_isTold 855 = .ok (.if_icmp .ne 297, 3) := by decide +kernel
theorem dL_isTold_858 : decode cL_isTold 858 = .ok (.iload 10, 2) := by decide +kernel
theorem dL_isTold_860 : decode cL_isTold 860 = .ok (.aload 8, 2) := by decide +kernel
theorem dL_isTold_862 : decode cL_isTold 862 = .ok (.bipush 7, 2) := by decide +kernel
theorem dL_isTold_864 : decode cL_isTold 864 = .ok (.iaload, 1) := by decide +kernel
theorem dL_isTold_865 : decode cL_isTold 865 = .ok (.iconst 1, 1) := by decide +kernel
theorem dL_isTold_866 : decode cL_isTold 866 = .ok (.iadd, 1) := by decide +kernel
theorem dL_isTold_867 : decode cL_isTold 867 = .ok (.irem, 1) := by decide +kernel
theorem dL_isTold_868 : decode cL_isTold 868 = .ok (.istore 17, 2) := by decide +kernel
theorem dL_isTold_870 : decode cL_isTold 870 = .ok (.iload 11, 2) := by decide +kernel
theorem dL_isTold_872 : decode cL_isTold 872 = .ok (.bipush 13, 2) := by decide +kernel
theorem dL_isTold_874 : decode cL_isTold 874 = .ok (.irem, 1) := by decide +kernel
theorem dL_isTold_875 : decode cL_isTold 875 = .ok (.bipush 12, 2) := by decide +kernel
theorem dL_isTold_877 : decode cL_isTold 877 = .ok (.if_icmp .ne 8, 3) := by decide +kernel
theorem dL_isTold_880 : decode cL_isTold 880 = .ok (.bipush 7, 2) := by decide +kernel
theorem dL_isTold_882 : decode cL_isTold 882 = .ok (.goto 9, 3) := by decide +kernel
theorem dL_isTold_885 : decode cL_isTold 885 = .ok (.iload 11, 2) := by decide +kernel
theorem dL_isTold_887 : decode cL_isTold 887 = .ok (.iconst 3, 1) := by decide +kernel
theorem dL_isTold_888 : decode cL_isTold 888 = .ok (.irem, 1) := by decide +kernel
theorem dL_isTold_889 : decode cL_isTold 889 = .ok (.iconst 1, 1) := by decide +kernel
theorem dL_isTold_890 : decode cL_isTold 890 = .ok (.isub, 1) := by decide +kernel
theorem dL_isTold_891 : decode cL_isTold 891 = .ok (.istore 18, 2) := by decide +kernel
theorem dL_isTold_893 : decode cL_isTold 893 = .ok (.iload 11, 2) := by decide +kernel
theorem dL_isTold_895 : decode cL_isTold 895 = .ok (.bipush 13, 2) := by decide +kernel
theorem dL_isTold_897 : decode cL_isTold 897 = .ok (.idiv, 1) := by decide +kernel
theorem dL_isTold_898 : decode cL_isTold 898 = .ok (.bipush 13, 2) := by decide +kernel
theorem dL_isTold_900 : decode cL_isTold 900 = .ok (.irem, 1) := by decide +kernel
theorem dL_isTold_901 : decode cL_isTold 901 = .ok (.bipush 12, 2) := by decide +kernel
theorem dL_isTold_903 : decode cL_isTold 903 = .ok (.if_icmp .ne 8, 3) := by decide +kernel
theorem dL_isTold_906 : decode cL_isTold 906 = .ok (.bipush (-7), 2) := by decide +kernel
theorem dL_isTold_908 : decode cL_isTold 908 = .ok (.goto 12, 3) := by decide +kernel
theorem dL_isTold_911 : decode cL_isTold 911 = .ok (.iload 11, 2) := by decide +kernel
theorem dL_isTold_913 : decode cL_isTold 913 = .ok (.bipush 13, 2) := by decide +kernel
theorem dL_isTold_915 : decode cL_isTold 915 = .ok (.idiv, 1) := by decide +kernel
theorem dL_isTold_916 : decode cL_isTold 916 = .ok (.iconst 3, 1) := by decide +kernel
theorem dL_isTold_917 : decode cL_isTold 917 = .ok (.irem, 1) := by decide +kernel
theorem dL_isTold_918 : decode cL_isTold 918 = .ok (.iconst 1, 1) := by decide +kernel
theorem dL_isTold_919 : decode cL_isTold 919 = .ok (.isub, 1) := by decide +kernel
theorem dL_isTold_920 : decode cL_isTold 920 = .ok (.istore 19, 2) := by decide +kernel
theorem dL_isTold_922 : decode cL_isTold 922 = .ok (.iload 10, 2) := by decide +kernel
theorem dL_isTold_924 : decode cL_isTold 924 = .ok (.bipush 7, 2) := by decide +kernel
theorem dL_isTold_926 : decode cL_isTold 926 = .ok (.idiv, 1) := by decide +kernel
theorem dL_isTold_927 : decode cL_isTold 927 = .ok (.bipush 13, 2) := by decide +kernel
theorem dL_isTold_929 : decode cL_isTold 929 = .ok (.irem, 1) := by decide +kernel
theorem dL_isTold_930 : decode cL_isTold 930 = .ok (.bipush 12, 2) := by decide +kernel
theorem dL_isTold_932 : decode cL_isTold 932 = .ok (.if_icmp .ne 7, 3) := by decide +kernel
theorem dL_isTold_935 : decode cL_isTold 935 = .ok (.iconst 2, 1) := by decide +kernel
theorem dL_isTold_936 : decode cL_isTold 936 = .ok (.goto 12, 3) := by decide +kernel
theorem dL_isTold_939 : decode cL_isTold 939 = .ok (.iload 10, 2) := by decide +kernel
theorem dL_isTold_941 : decode cL_isTold 941 = .ok (.bipush 7, 2) := by decide +kernel
theorem dL_isTold_943 : decode cL_isTold 943 = .ok (.idiv, 1) := by decide +kernel
theorem dL_isTold_944 : decode cL_isTold 944 = .ok (.iconst 3, 1) := by decide +kernel
theorem dL_isTold_945 : decode cL_isTold 945 = .ok (.irem, 1) := by decide +kernel
theorem dL_isTold_946 : decode cL_isTold 946 = .ok (.iconst 1, 1) := by decide +kernel
theorem dL_isTold_947 : decode cL_isTold 947 = .ok (.isub, 1) := by decide +kernel
theorem dL_isTold_948 : decode cL_isTold 948 = .ok (.istore 20, 2) := by decide +kernel
theorem dL_isTold_950 : decode cL_isTold 950 = .ok (.iload 10, 2) := by decide +kernel
theorem dL_isTold_952 : decode cL_isTold 952 = .ok (.bipush 21, 2) := by decide +kernel
theorem dL_isTold_954 : decode cL_isTold 954 = .ok (.idiv, 1) := by decide +kernel
theorem dL_isTold_955 : decode cL_isTold 955 = .ok (.iconst 3, 1) := by decide +kernel
theorem dL_isTold_956 : decode cL_isTold 956 = .ok (.irem, 1) := by decide +kernel
theorem dL_isTold_957 : decode cL_isTold 957 = .ok (.iconst 1, 1) := by decide +kernel
theorem dL_isTold_958 : decode cL_isTold 958 = .ok (.isub, 1) := by decide +kernel
theorem dL_isTold_959 : decode cL_isTold 959 = .ok (.istore 21, 2) := by decide +kernel
theorem dL_isTold_961 : decode cL_isTold 961 = .ok (.iload 17, 2) := by decide +kernel
theorem dL_isTold_963 : decode cL_isTold 963 = .ok (.aload 8, 2) := by decide +kernel
theorem dL_isTold_965 : decode cL_isTold 965 = .ok (.bipush 7, 2) := by decide +kernel
theorem dL_isTold_967 : decode cL_isTold 967 = .ok (.iaload, 1) := by decide +kernel
theorem dL_isTold_968 : decode cL_isTold 968 = .ok (.if_icmp .ge 7, 3) := by decide +kernel
theorem dL_isTold_971 : decode cL_isTold 971 = .ok (.iconst 1, 1) := by decide +kernel
theorem dL_isTold_972 : decode cL_isTold 972 = .ok (.goto 4, 3) := by decide +kernel
theorem dL_isTold_975 : decode cL_isTold 975 = .ok (.iconst 0, 1) := by decide +kernel
theorem dL_isTold_976 : decode cL_isTold 976 = .ok (.istore 22, 2) := by decide +kernel
theorem dL_isTold_978 : decode cL_isTold 978 = .ok (.iload 18, 2) := by decide +kernel
theorem dL_isTold_980 : decode cL_isTold 980 = .ok (.bipush 7, 2) := by decide +kernel
theorem dL_isTold_982 : decode cL_isTold 982 = .ok (.if_icmp .ge 20, 3) := by decide +kernel
theorem dL_isTold_985 : decode cL_isTold 985 = .ok (.iload 19, 2) := by decide +kernel
theorem dL_isTold_987 : decode cL_isTold 987 = .ok (.bipush (-7), 2) := by decide +kernel
theorem dL_isTold_989 : decode cL_isTold 989 = .ok (.if_icmp .le 13, 3) := by decide +kernel
theorem dL_isTold_992 : decode cL_isTold 992 = .ok (.iload 20, 2) := by decide +kernel
theorem dL_isTold_994 : decode cL_isTold 994 = .ok (.iconst 2, 1) := by decide +kernel
theorem dL_isTold_995 : decode cL_isTold 995 = .ok (.if_icmp .ge 7, 3) := by decide +kernel
theorem dL_isTold_998 : decode cL_isTold 998 = .ok (.iconst 1, 1) := by decide +kernel
theorem dL_isTold_999 : decode cL_isTold 999 = .ok (.goto 4, 3) := by decide +kernel
theorem dL_isTold_1002 : decode cL_isTold 1002 = .ok (.iconst 0, 1) := by decide +kernel
theorem dL_isTold_1003 : decode cL_isTold 1003 = .ok (.istore 23, 2) := by decide +kernel
theorem dL_isTold_1005 : decode cL_isTold 1005 = .ok (.iload 22, 2) := by decide +kernel
theorem dL_isTold_1007 : decode cL_isTold 1007 = .ok (.ifCond .eq 22, 3) := by decide +kernel
theorem dL_isTold_1010 : decode cL_isTold 1010 = .ok (.iload 23, 2) := by decide +kernel
theorem dL_isTold_1012 : decode cL_isTold 1012 = .ok (.ifCond .eq 17, 3) := by decide +kernel
theorem dL_isTold_1015 : decode cL_isTold 1015 = .ok (.aload 8, 2) := by decide +kernel
theorem dL_isTold_1017 : decode cL_isTold 1017 = .ok (.bipush 12, 2) := by decide +kernel
theorem dL_isTold_1019 : decode cL_isTold 1019 = .ok (.iaload, 1) := by decide +kernel
theorem dL_isTold_1020 : decode cL_isTold 1020 = .ok (.bipush 8, 2) := by decide +kernel
theorem dL_isTold_1022 : decode cL_isTold 1022 = .ok (.if_icmp .ge 7, 3) := by decide +kernel
theorem dL_isTold_1025 : decode cL_isTold 1025 = .ok (.iconst 1, 1) := by decide +kernel
theorem dL_isTold_1026 : decode cL_isTold 1026 = .ok (.goto 4, 3) := by decide +kernel
theorem dL_isTold_1029 : decode cL_isTold 1029 = .ok (.iconst 0, 1) := by decide +kernel
theorem dL_isTold_1030 : decode cL_isTold 1030 = .ok (.istore 24, 2) := by decide +kernel
theorem dL_isTold_1032 : decode cL_isTold 1032 = .ok (.iload 24, 2) := by decide +kernel
theorem dL_isTold_1034 : decode cL_isTold 1034 = .ok (.ifCond .eq 59, 3) := by decide +kernel
theorem dL_isTold_1037 : decode cL_isTold 1037 = .ok (.aload 7, 2) := by decide +kernel
theorem dL_isTold_1039 : decode cL_isTold 1039 = .ok (.aload 8, 2) := by decide +kernel
theorem dL_isTold_1041 : decode cL_isTold 1041 = .ok (.bipush 12, 2) := by decide +kernel
theorem dL_isTold_1043 : decode cL_isTold 1043 = .ok (.iaload, 1) := by decide +kernel
theorem dL_isTold_1044 : decode cL_isTold 1044 = .ok (.iload 17, 2) := by decide +kernel
theorem dL_isTold_1046 : decode cL_isTold 1046 = .ok (.bipush 8, 2) := by decide +kernel
theorem dL_isTold_1048 : decode cL_isTold 1048 = .ok (.iload 18, 2) := by decide +kernel
theorem dL_isTold_1050 : decode cL_isTold 1050 = .ok (.bipush 6, 2) := by decide +kernel
theorem dL_isTold_1052 : decode cL_isTold 1052 = .ok (.iadd, 1) := by decide +kernel
theorem dL_isTold_1053 : decode cL_isTold 1053 = .ok (.imul, 1) := by decide +kernel
theorem dL_isTold_1054 : decode cL_isTold 1054 = .ok (.iadd, 1) := by decide +kernel
theorem dL_isTold_1055 : decode cL_isTold 1055 = .ok (.sipush 128, 3) := by decide +kernel
theorem dL_isTold_1058 : decode cL_isTold 1058 = .ok (.iload 19, 2) := by decide +kernel
theorem dL_isTold_1060 : decode cL_isTold 1060 = .ok (.bipush 6, 2) := by decide +kernel
theorem dL_isTold_1062 : decode cL_isTold 1062 = .ok (.iadd, 1) := by decide +kernel
theorem dL_isTold_1063 : decode cL_isTold 1063 = .ok (.imul, 1) := by decide +kernel
theorem dL_isTold_1064 : decode cL_isTold 1064 = .ok (.iadd, 1) := by decide +kernel
theorem dL_isTold_1065 : decode cL_isTold 1065 = .ok (.sipush 2048, 3) := by decide +kernel
theorem dL_isTold_1068 : decode cL_isTold 1068 = .ok (.iload 20, 2) := by decide +kernel
theorem dL_isTold_1070 : decode cL_isTold 1070 = .ok (.iconst 1, 1) := by decide +kernel
theorem dL_isTold_1071 : decode cL_isTold 1071 = .ok (.iadd, 1) := by decide +kernel
theorem dL_isTold_1072 : decode cL_isTold 1072 = .ok (.imul, 1) := by decide +kernel
theorem dL_isTold_1073 : decode cL_isTold 1073 = .ok (.iadd, 1) := by decide +kernel
theorem dL_isTold_1074 : decode cL_isTold 1074 = .ok (.sipush 8192, 3) := by decide +kernel
theorem dL_isTold_1077 : decode cL_isTold 1077 = .ok (.iload 21, 2) := by decide +kernel
theorem dL_isTold_1079 : decode cL_isTold 1079 = .ok (.iconst 1, 1) := by decide +kernel
theorem dL_isTold_1080 : decode cL_isTold 1080 = .ok (.iadd, 1) := by decide +kernel
theorem dL_isTold_1081 : decode cL_isTold 1081 = .ok (.imul, 1) := by decide +kernel
theorem dL_isTold_1082 : decode cL_isTold 1082 = .ok (.iadd, 1) := by decide +kernel
theorem dL_isTold_1083 : decode cL_isTold 1083 = .ok (.iastore, 1) := by decide +kernel
theorem dL_isTold_1084 : decode cL_isTold 1084 = .ok (.aload 8, 2) := by decide +kernel
theorem dL_isTold_1086 : decode cL_isTold 1086 = .ok (.bipush 12, 2) := by decide +kernel
theorem dL_isTold_1088 : decode cL_isTold 1088 = .ok (.dup2, 1) := by decide +kernel
theorem dL_isTold_1089 : decode cL_isTold 1089 = .ok (.iaload, 1) := by decide +kernel
theorem dL_isTold_1090 : decode cL_isTold 1090 = .ok (.iconst 1, 1) := by decide +kernel
theorem dL_isTold_1091 : decode cL_isTold 1091 = .ok (.iadd, 1) := by decide +kernel
theorem dL_isTold_1092 : decode cL_isTold 1092 = .ok (.iastore, 1) := by decide +kernel
theorem dL_isTold_1093 : decode cL_isTold 1093 = .ok (.aload_n 0, 1) := by decide +kernel
theorem dL_isTold_1094 : decode cL_isTold 1094 = .ok (.iconst 4, 1) := by decide +kernel
theorem dL_isTold_1095 : decode cL_isTold 1095 = .ok (.iload 17, 2) := by decide +kernel
theorem dL_isTold_1097 : decode cL_isTold 1097 = .ok (.iload 18, 2) := by decide +kernel
theorem dL_isTold_1099 : decode cL_isTold 1099 = .ok (.iload 19, 2) := by decide +kernel
theorem dL_isTold_1101 : decode cL_isTold 1101 = .ok (.iload 20, 2) := by decide +kernel
theorem dL_isTold_1103 : decode cL_isTold 1103 = .ok (.iload 21, 2) := by decide +kernel
theorem dL_isTold_1105 : decode cL_isTold 1105 = .ok (.invokestatic 190, 3) := by decide +kernel
theorem dL_isTold_1108 : decode cL_isTold 1108 = .ok (.iload 22, 2) := by decide +kernel
theorem dL_isTold_1110 : decode cL_isTold 1110 = .ok (.ifCond .ne 8, 3) := by decide +kernel
theorem dL_isTold_1113 : decode cL_isTold 1113 = .ok (.ldc 62, 2) := by decide +kernel
theorem dL_isTold_1115 : decode cL_isTold 1115 = .ok (.goto 28, 3) := by decide +kernel
theorem dL_isTold_1118 : decode cL_isTold 1118 = .ok (.iload 23, 2) := by decide +kernel
theorem dL_isTold_1120 : decode cL_isTold 1120 = .ok (.ifCond .ne 8, 3) := by decide +kernel
theorem dL_isTold_1123 : decode cL_isTold 1123 = .ok (.ldc 65, 2) := by decide +kernel
theorem dL_isTold_1125 : decode cL_isTold 1125 = .ok (.goto 18, 3) := by decide +kernel
theorem dL_isTold_1128 : decode cL_isTold 1128 = .ok (.iload 24, 2) := by decide +kernel
theorem dL_isTold_1130 : decode cL_isTold 1130 = .ok (.ifCond .eq 11, 3) := by decide +kernel
theorem dL_isTold_1133 : decode cL_isTold 1133 = .ok (.aload 8, 2) := by decide +kernel
theorem dL_isTold_1135 : decode cL_isTold 1135 = .ok (.bipush 12, 2) := by decide +kernel
theorem dL_isTold_1137 : decode cL_isTold 1137 = .ok (.iaload, 1) := by decide +kernel
theorem dL_isTold_1138 : decode cL_isTold 1138 = .ok (.goto 5, 3) := by decide +kernel
theorem dL_isTold_1141 : decode cL_isTold 1141 = .ok (.ldc 68, 2) := by decide +kernel
theorem dL_isTold_1143 : decode cL_isTold 1143 = .ok (.if_icmp .ne 7, 3) := by decide +kernel
theorem dL_isTold_1146 : decode cL_isTold 1146 = .ok (.iconst 1, 1) := by decide +kernel
theorem dL_isTold_1147 : decode cL_isTold 1147 = .ok (.goto 4, 3) := by decide +kernel
theorem dL_isTold_1150 : decode cL_isTold 1150 = .ok (.iconst 0, 1) := by decide +kernel
theorem dL_isTold_1151 : decode cL_isTold 1151 = .ok (.ireturn, 1) := by decide +kernel
theorem dL_isTold_1152 : decode cL_isTold 1152 = .ok (.aload 8, 2) := by decide +kernel
theorem dL_isTold_1154 : decode cL_isTold 1154 = .ok (.bipush 12, 2) := by decide +kernel
theorem dL_isTold_1156 : decode cL_isTold 1156 = .ok (.iaload, 1) := by decide +kernel
theorem dL_isTold_1157 : decode cL_isTold 1157 = .ok (.istore 17, 2) := by decide +kernel
theorem dL_isTold_1159 : decode cL_isTold 1159 = .ok (.aload 8, 2) := by decide +kernel
theorem dL_isTold_1161 : decode cL_isTold 1161 = .ok (.bipush 12, 2) := by decide +kernel
theorem dL_isTold_1163 : decode cL_isTold 1163 = .ok (.iconst 0, 1) := by decide +kernel
theorem dL_isTold_1164 : decode cL_isTold 1164 = .ok (.iastore, 1) := by decide +kernel
theorem dL_isTold_1165 : decode cL_isTold 1165 = .ok (.aload 8, 2) := by decide +kernel
theorem dL_isTold_1167 : decode cL_isTold 1167 = .ok (.bipush 13, 2) := by decide +kernel
theorem dL_isTold_1169 : decode cL_isTold 1169 = .ok (.iconst 0, 1) := by decide +kernel
theorem dL_isTold_1170 : decode cL_isTold 1170 = .ok (.iastore, 1) := by decide +kernel
theorem dL_isTold_1171 : decode cL_isTold 1171 = .ok (.aload_n 0, 1) := by decide +kernel
theorem dL_isTold_1172 : decode cL_isTold 1172 = .ok (.invokevirtual 194, 3) := by decide +kernel
theorem dL_isTold_1175 : decode cL_isTold 1175 = .ok (.iload 17, 2) := by decide +kernel
theorem dL_isTold_1177 : decode cL_isTold 1177 = .ok (.if_icmp .ne 7, 3) := by decide +kernel
theorem dL_isTold_1180 : decode cL_isTold 1180 = .ok (.iconst 1, 1) := by decide +kernel
theorem dL_isTold_1181 : decode cL_isTold 1181 = .ok (.goto 4, 3) := by decide +kernel
theorem dL_isTold_1184 : decode cL_isTold 1184 = .ok (.iconst 0, 1) := by decide +kernel
theorem dL_isTold_1185 : decode cL_isTold 1185 = .ok (.ireturn, 1) := by decide +kernel
theorem dL_isDone_0 : decode cL_isDone 0 = .ok (.iload 10, 2) := by decide +kernel
theorem dL_isDone_2 : decode cL_isDone 2 = .ok (.ifCond .ne 252, 3) := by decide +kernel
theorem dL_isDone_5 : decode cL_isDone 5 = .ok (.iload 11, 2) := by decide +kernel
theorem dL_isDone_7 : decode cL_isDone 7 = .ok (.bipush 23, 2) := by decide +kernel
theorem dL_isDone_9 : decode cL_isDone 9 = .ok (.irem, 1) := by decide +kernel
theorem dL_isDone_10 : decode cL_isDone 10 = .ok (.bipush 22, 2) := by decide +kernel
theorem dL_isDone_12 : decode cL_isDone 12 = .ok (.if_icmp .ne 8, 3) := by decide +kernel
theorem dL_isDone_15 : decode cL_isDone 15 = .ok (.bipush 21, 2) := by decide +kernel
theorem dL_isDone_17 : decode cL_isDone 17 = .ok (.goto 8, 3) := by decide +kernel
theorem dL_isDone_20 : decode cL_isDone 20 = .ok (.iload 11, 2) := by decide +kernel
theorem dL_isDone_22 : decode cL_isDone 22 = .ok (.bipush 21, 2) := by decide +kernel
theorem dL_isDone_24 : decode cL_isDone 24 = .ok (.irem, 1) := by decide +kernel
theorem dL_isDone_25 : decode cL_isDone 25 = .ok (.istore 13, 2) := by decide +kernel
theorem dL_isDone_27 : decode cL_isDone 27 = .ok (.iload 12, 2) := by decide +kernel
theorem dL_isDone_29 : decode cL_isDone 29 = .ok (.bipush 7, 2) := by decide +kernel
theorem dL_isDone_31 : decode cL_isDone 31 = .ok (.irem, 1) := by decide +kernel
theorem dL_isDone_32 : decode cL_isDone 32 = .ok (.iconst 3, 1) := by decide +kernel
theorem dL_isDone_33 : decode cL_isDone 33 = .ok (.isub, 1) := by decide +kernel
theorem dL_isDone_34 : decode cL_isDone 34 = .ok (.istore 14, 2) := by decide +kernel
theorem dL_isDone_36 : decode cL_isDone 36 = .ok (.iload 12, 2) := by decide +kernel
theorem dL_isDone_38 : decode cL_isDone 38 = .ok (.bipush 7, 2) := by decide +kernel
theorem dL_isDone_40 : decode cL_isDone 40 = .ok (.idiv, 1) := by decide +kernel
theorem dL_isDone_41 : decode cL_isDone 41 = .ok (.bipush 13, 2) := by decide +kernel
theorem dL_isDone_43 : decode cL_isDone 43 = .ok (.irem, 1) := by decide +kernel
theorem dL_isDone_44 : decode cL_isDone 44 = .ok (.bipush 12, 2) := by decide +kernel
theorem dL_isDone_46 : decode cL_isDone 46 = .ok (.if_icmp .ne 8, 3) := by decide +kernel
theorem dL_isDone_49 : decode cL_isDone 49 = .ok (.bipush 6, 2) := by decide +kernel
theorem dL_isDone_51 : decode cL_isDone 51 = .ok (.goto 13, 3) := by decide +kernel
theorem dL_isDone_54 : decode cL_isDone 54 = .ok (.iload 12, 2) := by decide +kernel
theorem dL_isDone_56 : decode cL_isDone 56 = .ok (.bipush 7, 2) := by decide +kernel
theorem dL_isDone_58 : decode cL_isDone 58 = .ok (.idiv, 1) := by decide +kernel
theorem dL_isDone_59 : decode cL_isDone 59 = .ok (.bipush 7, 2) := by decide +kernel
theorem dL_isDone_61 : decode cL_isDone 61 = .ok (.irem, 1) := by decide +kernel
theorem dL_isDone_62 : decode cL_isDone 62 = .ok (.iconst 3, 1) := by decide +kernel
theorem dL_isDone_63 : decode cL_isDone 63 = .ok (.isub, 1) := by decide +kernel
theorem dL_isDone_64 : decode cL_isDone 64 = .ok (.istore 15, 2) := by decide +kernel
theorem dL_isDone_66 : decode cL_isDone 66 = .ok (.iload 13, 2) := by decide +kernel
theorem dL_isDone_68 : decode cL_isDone 68 = .ok (.bipush 21, 2) := by decide +kernel
theorem dL_isDone_70 : decode cL_isDone 70 = .ok (.if_icmp .ge 14, 3) := by decide +kernel
theorem dL_isDone_73 : decode cL_isDone 73 = .ok (.iload 15, 2) := by decide +kernel
theorem dL_isDone_75 : decode cL_isDone 75 = .ok (.bipush 6, 2) := by decide +kernel
theorem dL_isDone_77 : decode cL_isDone 77 = .ok (.if_icmp .ge 7, 3) := by decide +kernel
theorem dL_isDone_80 : decode cL_isDone 80 = .ok (.iconst 1, 1) := by decide +kernel
theorem dL_isDone_81 : decode cL_isDone 81 = .ok (.goto 4, 3) := by decide +kernel
theorem dL_isDone_84 : decode cL_isDone 84 = .ok (.iconst 0, 1) := by decide +kernel
theorem dL_isDone_85 : decode cL_isDone 85 = .ok (.istore 16, 2) := by decide +kernel
theorem dL_isDone_87 : decode cL_isDone 87 = .ok (.aload 9, 2) := by decide +kernel
theorem dL_isDone_89 : decode cL_isDone 89 = .ok (.iconst 4, 1) := by decide +kernel
theorem dL_isDone_90 : decode cL_isDone 90 = .ok (.iaload, 1) := by decide +kernel
theorem dL_isDone_91 : decode cL_isDone 91 = .ok (.istore 17, 2) := by decide +kernel
theorem dL_isDone_93 : decode cL_isDone 93 = .ok (.aload 9, 2) := by decide +kernel
theorem dL_isDone_95 : decode cL_isDone 95 = .ok (.iconst 5, 1) := by decide +kernel
theorem dL_isDone_96 : decode cL_isDone 96 = .ok (.iaload, 1) := by decide +kernel
theorem dL_isDone_97 : decode cL_isDone 97 = .ok (.istore 18, 2) := by decide +kernel
theorem dL_isDone_99 : decode cL_isDone 99 = .ok (.aload 9, 2) := by decide +kernel
theorem dL_isDone_101 : decode cL_isDone 101 = .ok (.bipush 6, 2) := by decide +kernel
theorem dL_isDone_103 : decode cL_isDone 103 = .ok (.iaload, 1) := by decide +kernel
theorem dL_isDone_104 : decode cL_isDone 104 = .ok (.istore 19, 2) := by decide +kernel
theorem dL_isDone_106 : decode cL_isDone 106 = .ok (.aload 9, 2) := by decide +kernel
theorem dL_isDone_108 : decode cL_isDone 108 = .ok (.iconst 4, 1) := by decide +kernel
theorem dL_isDone_109 : decode cL_isDone 109 = .ok (.iload 13, 2) := by decide +kernel
theorem dL_isDone_111 : decode cL_isDone 111 = .ok (.iastore, 1) := by decide +kernel
theorem dL_isDone_112 : decode cL_isDone 112 = .ok (.aload 9, 2) := by decide +kernel
theorem dL_isDone_114 : decode cL_isDone 114 = .ok (.iconst 5, 1) := by decide +kernel
theorem dL_isDone_115 : decode cL_isDone 115 = .ok (.iload 14, 2) := by decide +kernel
theorem dL_isDone_117 : decode cL_isDone 117 = .ok (.iastore, 1) := by decide +kernel
theorem dL_isDone_118 : decode cL_isDone 118 = .ok (.aload 9, 2) := by decide +kernel
theorem dL_isDone_120 : decode cL_isDone 120 = .ok (.bipush 6, 2) := by decide +kernel
theorem dL_isDone_122 : decode cL_isDone 122 = .ok (.iload 15, 2) := by decide +kernel
theorem dL_isDone_124 : decode cL_isDone 124 = .ok (.iastore, 1) := by decide +kernel
theorem dL_isDone_125 : decode cL_isDone 125 = .ok (.iload 16, 2) := by decide +kernel
theorem dL_isDone_127 : decode cL_isDone 127 = .ok (.ifCond .eq 31, 3) := by decide +kernel
theorem dL_isDone_130 : decode cL_isDone 130 = .ok (.aload 9, 2) := by decide +kernel
theorem dL_isDone_132 : decode cL_isDone 132 = .ok (.iconst 0, 1) := by decide +kernel
theorem dL_isDone_133 : decode cL_isDone 133 = .ok (.iaload, 1) := by decide +kernel
theorem dL_isDone_134 : decode cL_isDone 134 = .ok (.ifCond .eq 20, 3) := by decide +kernel
theorem dL_isDone_137 : decode cL_isDone 137 = .ok (.aload 5, 2) := by decide +kernel
theorem dL_isDone_139 : decode cL_isDone 139 = .ok (.aload 6, 2) := by decide +kernel
theorem dL_isDone_141 : decode cL_isDone 141 = .ok (.aload 9, 2) := by decide +kernel
theorem dL_isDone_143 : decode cL_isDone 143 = .ok (.aload 9, 2) := by decide +kernel
theorem dL_isDone_145 : decode cL_isDone 145 = .ok (.bipush 8, 2) := by decide +kernel
theorem dL_isDone_147 : decode cL_isDone 147 = .ok (.iaload, 1) := by decide +kernel
theorem dL_isDone_148 : decode cL_isDone 148 = .ok (.invokestatic 110, 3) := by decide +kernel
theorem dL_isDone_151 : decode cL_isDone 151 = .ok (.ifCond .eq 7, 3) := by decide +kernel
theorem dL_isDone_154 : decode cL_isDone 154 = .ok (.iconst 1, 1) := by decide +kernel
theorem dL_isDone_155 : decode cL_isDone 155 = .ok (.goto 4, 3) := by decide +kernel
theorem dL_isDone_158 : decode cL_isDone 158 = .ok (.iconst 0, 1) := by decide +kernel
theorem dL_isDone_159 : decode cL_isDone 159 = .ok (.istore 20, 2) := by decide +kernel
theorem dL_isDone_161 : decode cL_isDone 161 = .ok (.aload 9, 2) := by decide +kernel
theorem dL_isDone_163 : decode cL_isDone 163 = .ok (.bipush 14, 2) := by decide +kernel
theorem dL_isDone_165 : decode cL_isDone 165 = .ok (.iconst 0, 1) := by decide +kernel
theorem dL_isDone_166 : decode cL_isDone 166 = .ok (.iastore, 1) := by decide +kernel
theorem dL_isDone_167 : decode cL_isDone 167 = .ok (.iload 20, 2) := by decide +kernel
theorem dL_isDone_169 : decode cL_isDone 169 = .ok (.ifCond .eq 19, 3) := by decide +kernel
theorem dL_isDone_172 : decode cL_isDone 172 = .ok (.aload_n 1, 1) := by decide +kernel
theorem dL_isDone_173 : decode cL_isDone 173 = .ok (.aload_n 3, 1) := by decide +kernel
theorem dL_isDone_174 : decode cL_isDone 174 = .ok (.aload 5, 2) := by decide +kernel
theorem dL_isDone_176 : decode cL_isDone 176 = .ok (.aload 6, 2) := by decide +kernel
theorem dL_isDone_178 : decode cL_isDone 178 = .ok (.aload 8, 2) := by decide +kernel
theorem dL_isDone_180 : decode cL_isDone 180 = .ok (.aload 9, 2) := by decide +kernel
theorem dL_isDone_182 : decode cL_isDone 182 = .ok (.invokestatic 121, 3) := by decide +kernel
theorem dL_isDone_185 : decode cL_isDone 185 = .ok (.goto 22, 3) := by decide +kernel
theorem dL_isDone_188 : decode cL_isDone 188 = .ok (.aload 9, 2) := by decide +kernel
theorem dL_isDone_190 : decode cL_isDone 190 = .ok (.iconst 4, 1) := by decide +kernel
theorem dL_isDone_191 : decode cL_isDone 191 = .ok (.iload 17, 2) := by decide +kernel
theorem dL_isDone_193 : decode cL_isDone 193 = .ok (.iastore, 1) := by decide +kernel
theorem dL_isDone_194 : decode cL_isDone 194 = .ok (.aload 9, 2) := by decide +kernel
theorem dL_isDone_196 : decode cL_isDone 196 = .ok (.iconst 5, 1) := by decide +kernel
theorem dL_isDone_197 : decode cL_isDone 197 = .ok (.iload 18, 2) := by decide +kernel
theorem dL_isDone_199 : decode cL_isDone 199 = .ok (.iastore, 1) := by decide +kernel
theorem dL_isDone_200 : decode cL_isDone 200 = .ok (.aload 9, 2) := by decide +kernel
theorem dL_isDone_202 : decode cL_isDone 202 = .ok (.bipush 6, 2) := by decide +kernel
theorem dL_isDone_204 : decode cL_isDone 204 = .ok (.iload 19, 2) := by decide +kernel
theorem dL_isDone_206 : decode cL_isDone 206 = .ok (.iastore, 1) := by decide +kernel
theorem dL_isDone_207 : decode cL_isDone 207 = .ok (.aload_n 0, 1) := by decide +kernel
theorem dL_isDone_208 : decode cL_isDone 208 = .ok (.iconst 5, 1) := by decide +kernel
theorem dL_isDone_209 : decode cL_isDone 209 = .ok (.iload 13, 2) := by decide +kernel
theorem dL_isDone_211 : decode cL_isDone 211 = .ok (.iload 14, 2) := by decide +kernel
theorem dL_isDone_213 : decode cL_isDone 213 = .ok (.iload 15, 2) := by decide +kernel
theorem dL_isDone_215 : decode cL_isDone 215 = .ok (.iconst 0, 1) := by decide +kernel
theorem dL_isDone_216 : decode cL_isDone 216 = .ok (.iconst 0, 1) := by decide +kernel
theorem dL_isDone_217 : decode cL_isDone 217 = .ok (.invokestatic 190, 3) := by decide +kernel
theorem dL_isDone_220 : decode cL_isDone 220 = .ok (.iload 16, 2) := by decide +kernel
theorem dL_isDone_222 : decode cL_isDone 222 = .ok (.ifCond .ne 8, 3) := by decide +kernel
theorem dL_isDone_225 : decode cL_isDone 225 = .ok (.ldc 65, 2) := by decide +kernel
theorem dL_isDone_227 : decode cL_isDone 227 = .ok (.goto 18, 3) := by decide +kernel
theorem dL_isDone_230 : decode cL_isDone 230 = .ok (.iload 20, 2) := by decide +kernel
theorem dL_isDone_232 : decode cL_isDone 232 = .ok (.ifCond .eq 11, 3) := by decide +kernel
theorem dL_isDone_235 : decode cL_isDone 235 = .ok (.aload 9, 2) := by decide +kernel
theorem dL_isDone_237 : decode cL_isDone 237 = .ok (.bipush 14, 2) := by decide +kernel
theorem dL_isDone_239 : decode cL_isDone 239 = .ok (.iaload, 1) := by decide +kernel
theorem dL_isDone_240 : decode cL_isDone 240 = .ok (.goto 5, 3) := by decide +kernel
theorem dL_isDone_243 : decode cL_isDone 243 = .ok (.ldc 68, 2) := by decide +kernel
theorem dL_isDone_245 : decode cL_isDone 245 = .ok (.if_icmp .ne 7, 3) := by decide +kernel
theorem dL_isDone_248 : decode cL_isDone 248 = .ok (.iconst 1, 1) := by decide +kernel
theorem dL_isDone_249 : decode cL_isDone 249 = .ok (.goto 4, 3) := by decide +kernel
theorem dL_isDone_252 : decode cL_isDone 252 = .ok (.iconst 0, 1) := by decide +kernel
theorem dL_isDone_253 : decode cL_isDone 253 = .ok (.ireturn, 1) := by decide +kernel
theorem dL_isDone_254 : decode cL_isDone 254 = .ok (.iload 10, 2) := by decide +kernel
theorem dL_isDone_256 : decode cL_isDone 256 = .ok (.iconst 1, 1) := by decide +kernel
theorem dL_isDone_257 : decode cL_isDone 257 = .ok (.if_icmp .ne 421, 3) := by decide +kernel
theorem dL_isDone_260 : decode cL_isDone 260 = .ok (.aload 9, 2) := by decide +kernel
theorem dL_isDone_262 : decode cL_isDone 262 = .ok (.iconst 0, 1) := by decide +kernel
theorem dL_isDone_263 : decode cL_isDone 263 = .ok (.iaload, 1) := by decide +kernel
theorem dL_isDone_264 : decode cL_isDone 264 = .ok (.ifCond .ne 24, 3) := by decide +kernel
theorem dL_isDone_267 : decode cL_isDone 267 = .ok (.aload 9, 2) := by decide +kernel
theorem dL_isDone_269 : decode cL_isDone 269 = .ok (.bipush 7, 2) := by decide +kernel
theorem dL_isDone_271 : decode cL_isDone 271 = .ok (.iaload, 1) := by decide +kernel
theorem dL_isDone_272 : decode cL_isDone 272 = .ok (.ifCond .le 16, 3) := by decide +kernel
theorem dL_isDone_275 : decode cL_isDone 275 = .ok (.aload 9, 2) := by decide +kernel
theorem dL_isDone_277 : decode cL_isDone 277 = .ok (.iconst 3, 1) := by decide +kernel
theorem dL_isDone_278 : decode cL_isDone 278 = .ok (.iaload, 1) := by decide +kernel
theorem dL_isDone_279 : decode cL_isDone 279 = .ok (.bipush 19, 2) := by decide +kernel
theorem dL_isDone_281 : decode cL_isDone 281 = .ok (.if_icmp .le 7, 3) := by decide +kernel
theorem dL_isDone_284 : decode cL_isDone 284 = .ok (.iconst 1, 1) := by decide +kernel
theorem dL_isDone_285 : decode cL_isDone 285 = .ok (.goto 4, 3) := by decide +kernel
theorem dL_isDone_288 : decode cL_isDone 288 = .ok (.iconst 0, 1) := by decide +kernel
theorem dL_isDone_289 : decode cL_isDone 289 = .ok (.istore 13, 2) := by decide +kernel
theorem dL_isDone_291 : decode cL_isDone 291 = .ok (.iconst 0, 1) := by decide +kernel
theorem dL_isDone_292 : decode cL_isDone 292 = .ok (.istore 14, 2) := by decide +kernel
theorem dL_isDone_294 : decode cL_isDone 294 = .ok (.iload 14, 2) := by decide +kernel
theorem dL_isDone_296 : decode cL_isDone 296 = .ok (.aload 9, 2) := by decide +kernel
theorem dL_isDone_298 : decode cL_isDone 298 = .ok (.bipush 7, 2) := by decide +kernel
theorem dL_isDone_300 : decode cL_isDone 300 = .ok (.iaload, 1) := by decide +kernel
theorem dL_isDone_301 : decode cL_isDone 301 = .ok (.if_icmp .ge 171, 3) := by decide +kernel
theorem dL_isDone_304 : decode cL_isDone 304 = .ok (.iload 13, 2) := by decide +kernel
theorem dL_isDone_306 : decode cL_isDone 306 = .ok (.ifCond .eq 166, 3) := by decide +kernel
theorem dL_isDone_309 : decode cL_isDone 309 = .ok (.aload 5, 2) := by decide +kernel
theorem dL_isDone_311 : decode cL_isDone 311 = .ok (.iload 14, 2) := by decide +kernel
theorem dL_isDone_313 : decode cL_isDone 313 = .ok (.aload 4, 2) := by decide +kernel
theorem dL_isDone_315 : decode cL_isDone 315 = .ok (.aload 9, 2) := by decide +kernel
theorem dL_isDone_317 : decode cL_isDone 317 = .ok (.iload 14, 2) := by decide +kernel
theorem dL_isDone_319 : decode cL_isDone 319 = .ok (.invokestatic 75, 3) := by decide +kernel
theorem dL_isDone_322 : decode cL_isDone 322 = .ok (.iastore, 1) := by decide +kernel
theorem dL_isDone_323 : decode cL_isDone 323 = .ok (.aload 6, 2) := by decide +kernel
theorem dL_isDone_325 : decode cL_isDone 325 = .ok (.iload 14, 2) := by decide +kernel
theorem dL_isDone_327 : decode cL_isDone 327 = .ok (.aload 4, 2) := by decide +kernel
theorem dL_isDone_329 : decode cL_isDone 329 = .ok (.aload 9, 2) := by decide +kernel
theorem dL_isDone_331 : decode cL_isDone 331 = .ok (.iload 14, 2) := by decide +kernel
theorem dL_isDone_333 : decode cL_isDone 333 = .ok (.invokestatic 81, 3) := by decide +kernel
theorem dL_isDone_336 : decode cL_isDone 336 = .ok (.iastore, 1) := by decide +kernel
theorem dL_isDone_337 : decode cL_isDone 337 = .ok (.aload 5, 2) := by decide +kernel
theorem dL_isDone_339 : decode cL_isDone 339 = .ok (.iload 14, 2) := by decide +kernel
theorem dL_isDone_341 : decode cL_isDone 341 = .ok (.iaload, 1) := by decide +kernel
theorem dL_isDone_342 : decode cL_isDone 342 = .ok (.aload 6, 2) := by decide +kernel
theorem dL_isDone_344 : decode cL_isDone 344 = .ok (.iload 14, 2) := by decide +kernel
theorem dL_isDone_346 : decode cL_isDone 346 = .ok (.iaload, 1) := by decide +kernel
theorem dL_isDone_347 : decode cL_isDone 347 = .ok (.invokestatic 137, 3) := by decide +kernel
theorem dL_isDone_350 : decode cL_isDone 350 = .ok (.istore 13, 2) := by decide +kernel
theorem dL_isDone_352 : decode cL_isDone 352 = .ok (.iconst 0, 1) := by decide +kernel
theorem dL_isDone_353 : decode cL_isDone 353 = .ok (.istore 15, 2) := by decide +kernel
theorem dL_isDone_355 : decode cL_isDone 355 = .ok (.iload 15, 2) := by decide +kernel
theorem dL_isDone_357 : decode cL_isDone 357 = .ok (.iload 14, 2) := by decide +kernel
theorem dL_isDone_359 : decode cL_isDone 359 = .ok (.if_icmp .ge 107, 3) := by decide +kernel
theorem dL_isDone_362 : decode cL_isDone 362 = .ok (.iload 13, 2) := by decide +kernel
theorem dL_isDone_364 : decode cL_isDone 364 = .ok (.ifCond .eq 102, 3) := by decide +kernel
theorem dL_isDone_367 : decode cL_isDone 367 = .ok (.aload_n 1, 1) := by decide +kernel
theorem dL_isDone_368 : decode cL_isDone 368 = .ok (.sipush 400, 3) := by decide +kernel
theorem dL_isDone_371 : decode cL_isDone 371 = .ok (.bipush 20, 2) := by decide +kernel
theorem dL_isDone_373 : decode cL_isDone 373 = .ok (.aload 6, 2) := by decide +kernel
theorem dL_isDone_375 : decode cL_isDone 375 = .ok (.iload 14, 2) := by decide +kernel
theorem dL_isDone_377 : decode cL_isDone 377 = .ok (.iaload, 1) := by decide +kernel
theorem dL_isDone_378 : decode cL_isDone 378 = .ok (.imul, 1) := by decide +kernel
theorem dL_isDone_379 : decode cL_isDone 379 = .ok (.iadd, 1) := by decide +kernel
theorem dL_isDone_380 : decode cL_isDone 380 = .ok (.aload 5, 2) := by decide +kernel
theorem dL_isDone_382 : decode cL_isDone 382 = .ok (.iload 14, 2) := by decide +kernel
theorem dL_isDone_384 : decode cL_isDone 384 = .ok (.iaload, 1) := by decide +kernel
theorem dL_isDone_385 : decode cL_isDone 385 = .ok (.iadd, 1) := by decide +kernel
theorem dL_isDone_386 : decode cL_isDone 386 = .ok (.invokestatic 87, 3) := by decide +kernel
theorem dL_isDone_389 : decode cL_isDone 389 = .ok (.aload_n 1, 1) := by decide +kernel
theorem dL_isDone_390 : decode cL_isDone 390 = .ok (.sipush 400, 3) := by decide +kernel
theorem dL_isDone_393 : decode cL_isDone 393 = .ok (.bipush 20, 2) := by decide +kernel
theorem dL_isDone_395 : decode cL_isDone 395 = .ok (.aload 6, 2) := by decide +kernel
theorem dL_isDone_397 : decode cL_isDone 397 = .ok (.iload 15, 2) := by decide +kernel
theorem dL_isDone_399 : decode cL_isDone 399 = .ok (.iaload, 1) := by decide +kernel
theorem dL_isDone_400 : decode cL_isDone 400 = .ok (.imul, 1) := by decide +kernel
theorem dL_isDone_401 : decode cL_isDone 401 = .ok (.iadd, 1) := by decide +kernel
theorem dL_isDone_402 : decode cL_isDone 402 = .ok (.aload 5, 2) := by decide +kernel
theorem dL_isDone_404 : decode cL_isDone 404 = .ok (.iload 15, 2) := by decide +kernel
theorem dL_isDone_406 : decode cL_isDone 406 = .ok (.iaload, 1) := by decide +kernel
theorem dL_isDone_407 : decode cL_isDone 407 = .ok (.iadd, 1) := by decide +kernel
theorem dL_isDone_408 : decode cL_isDone 408 = .ok (.invokestatic 87, 3) := by decide +kernel
theorem dL_isDone_411 : decode cL_isDone 411 = .ok (.isub, 1) := by decide +kernel
theorem dL_isDone_412 : decode cL_isDone 412 = .ok (.istore 16, 2) := by decide +kernel
theorem dL_isDone_414 : decode cL_isDone 414 = .ok (.iload 16, 2) := by decide +kernel
theorem dL_isDone_416 : decode cL_isDone 416 = .ok (.iconst 3, 1) := by decide +kernel
theorem dL_isDone_417 : decode cL_isDone 417 = .ok (.if_icmp .ge 40, 3) := by decide +kernel
theorem dL_isDone_420 : decode cL_isDone 420 = .ok (.iload 16, 2) := by decide +kernel
theorem dL_isDone_422 : decode cL_isDone 422 = .ok (.bipush (-3), 2) := by decide +kernel
theorem dL_isDone_424 : decode cL_isDone 424 = .ok (.if_icmp .le 33, 3) := by decide +kernel
theorem dL_isDone_427 : decode cL_isDone 427 = .ok (.aload 5, 2) := by decide +kernel
theorem dL_isDone_429 : decode cL_isDone 429 = .ok (.iload 15, 2) := by decide +kernel
theorem dL_isDone_431 : decode cL_isDone 431 = .ok (.iaload, 1) := by decide +kernel
theorem dL_isDone_432 : decode cL_isDone 432 = .ok (.aload 5, 2) := by decide +kernel
theorem dL_isDone_434 : decode cL_isDone 434 = .ok (.iload 14, 2) := by decide +kernel
theorem dL_isDone_436 : decode cL_isDone 436 = .ok (.iaload, 1) := by decide +kernel
theorem dL_isDone_437 : decode cL_isDone 437 = .ok (.if_icmp .ne 16, 3) := by decide +kernel
theorem dL_isDone_440 : decode cL_isDone 440 = .ok (.aload 6, 2) := by decide +kernel
theorem dL_isDone_442 : decode cL_isDone 442 = .ok (.iload 15, 2) := by decide +kernel
theorem dL_isDone_444 : decode cL_isDone 444 = .ok (.iaload, 1) := by decide +kernel
theorem dL_isDone_445 : decode cL_isDone 445 = .ok (.aload 6, 2) := by decide +kernel
theorem dL_isDone_447 : decode cL_isDone 447 = .ok (.iload 14, 2) := by decide +kernel
theorem dL_isDone_449 : decode cL_isDone 449 = .ok (.iaload, 1) := by decide +kernel
theorem dL_isDone_450 : decode cL_isDone 450 = .ok (.if_icmp .eq 7, 3) := by decide +kernel
theorem dL_isDone_453 : decode cL_isDone 453 = .ok (.iconst 1, 1) := by decide +kernel
theorem dL_isDone_454 : decode cL_isDone 454 = .ok (.goto 4, 3) := by decide +kernel
theorem dL_isDone_457 : decode cL_isDone 457 = .ok (.iconst 0, 1) := by decide +kernel
theorem dL_isDone_458 : decode cL_isDone 458 = .ok (.istore 13, 2) := by decide +kernel
theorem dL_isDone_460 : decode cL_isDone 460 = .ok (.iinc 15 1, 3) := by decide +kernel
theorem dL_isDone_463 : decode cL_isDone 463 = .ok (.goto (-108), 3) := by decide +kernel
theorem dL_isDone_466 : decode cL_isDone 466 = .ok (.iinc 14 1, 3) := by decide +kernel
theorem dL_isDone_469 : decode cL_isDone 469 = .ok (.goto (-175), 3) := by decide +kernel
theorem dL_isDone_472 : decode cL_isDone 472 = .ok (.iload 13, 2) := by decide +kernel
theorem dL_isDone_474 : decode cL_isDone 474 = .ok (.ifCond .eq 28, 3) := by decide +kernel
theorem dL_isDone_477 : decode cL_isDone 477 = .ok (.aload 5, 2) := by decide +kernel
theorem dL_isDone_479 : decode cL_isDone 479 = .ok (.aload 6, 2) := by decide +kernel
theorem dL_isDone_481 : decode cL_isDone 481 = .ok (.aload 9, 2) := by decide +kernel
theorem dL_isDone_483 : decode cL_isDone 483 = .ok (.iconst 1, 1) := by decide +kernel
theorem dL_isDone_484 : decode cL_isDone 484 = .ok (.aload 9, 2) := by decide +kernel
theorem dL_isDone_486 : decode cL_isDone 486 = .ok (.bipush 7, 2) := by decide +kernel
theorem dL_isDone_488 : decode cL_isDone 488 = .ok (.iaload, 1) := by decide +kernel
theorem dL_isDone_489 : decode cL_isDone 489 = .ok (.ishl, 1) := by decide +kernel
theorem dL_isDone_490 : decode cL_isDone 490 = .ok (.iconst 1, 1) := by decide +kernel
theorem dL_isDone_491 : decode cL_isDone 491 = .ok (.isub, 1) := by decide +kernel
theorem dL_isDone_492 : decode cL_isDone 492 = .ok (.invokestatic 110, 3) := by decide +kernel
theorem dL_isDone_495 : decode cL_isDone 495 = .ok (.ifCond .eq 7, 3) := by decide +kernel
theorem dL_isDone_498 : decode cL_isDone 498 = .ok (.iconst 1, 1) := by decide +kernel
theorem dL_isDone_499 : decode cL_isDone 499 = .ok (.goto 4, 3) := by decide +kernel
theorem dL_isDone_502 : decode cL_isDone 502 = .ok (.iconst 0, 1) := by decide +kernel
theorem dL_isDone_503 : decode cL_isDone 503 = .ok (.istore 13, 2) := by decide +kernel
theorem dL_isDone_505 : decode cL_isDone 505 = .ok (.aload 9, 2) := by decide +kernel
theorem dL_isDone_507 : decode cL_isDone 507 = .ok (.bipush 14, 2) := by decide +kernel
theorem dL_isDone_509 : decode cL_isDone 509 = .ok (.iconst 0, 1) := by decide +kernel
theorem dL_isDone_510 : decode cL_isDone 510 = .ok (.iastore, 1) := by decide +kernel
theorem dL_isDone_511 : decode cL_isDone 511 = .ok (.iload 13, 2) := by decide +kernel
theorem dL_isDone_513 : decode cL_isDone 513 = .ok (.ifCond .eq 127, 3) := by decide +kernel
theorem dL_isDone_516 : decode cL_isDone 516 = .ok (.aload 9, 2) := by decide +kernel
theorem dL_isDone_518 : decode cL_isDone 518 = .ok (.iconst 3, 1) := by decide +kernel
theorem dL_isDone_519 : decode cL_isDone 519 = .ok (.dup2, 1) := by decide +kernel
theorem dL_isDone_520 : decode cL_isDone 520 = .ok (.iaload, 1) := by decide +kernel
theorem dL_isDone_521 : decode cL_isDone 521 = .ok (.bipush 20, 2) := by decide +kernel
theorem dL_isDone_523 : decode cL_isDone 523 = .ok (.isub, 1) := by decide +kernel
theorem dL_isDone_524 : decode cL_isDone 524 = .ok (.iastore, 1) := by decide +kernel
theorem dL_isDone_525 : decode cL_isDone 525 = .ok (.aload 9, 2) := by decide +kernel
theorem dL_isDone_527 : decode cL_isDone 527 = .ok (.iconst 0, 1) := by decide +kernel
theorem dL_isDone_528 : decode cL_isDone 528 = .ok (.iconst 1, 1) := by decide +kernel
theorem dL_isDone_529 : decode cL_isDone 529 = .ok (.iastore, 1) := by decide +kernel
theorem dL_isDone_530 : decode cL_isDone 530 = .ok (.aload 9, 2) := by decide +kernel
theorem dL_isDone_532 : decode cL_isDone 532 = .ok (.bipush 9, 2) := by decide +kernel
theorem dL_isDone_534 : decode cL_isDone 534 = .ok (.iconst 0, 1) := by decide +kernel
theorem dL_isDone_535 : decode cL_isDone 535 = .ok (.iastore, 1) := by decide +kernel
theorem dL_isDone_536 : decode cL_isDone 536 = .ok (.aload 9, 2) := by decide +kernel
theorem dL_isDone_538 : decode cL_isDone 538 = .ok (.bipush 10, 2) := by decide +kernel
theorem dL_isDone_540 : decode cL_isDone 540 = .ok (.iconst 0, 1) := by decide +kernel
theorem dL_isDone_541 : decode cL_isDone 541 = .ok (.iastore, 1) := by decide +kernel
theorem dL_isDone_542 : decode cL_isDone 542 = .ok (.iconst 0, 1) := by decide +kernel
theorem dL_isDone_543 : decode cL_isDone 543 = .ok (.istore 14, 2) := by decide +kernel
theorem dL_isDone_545 : decode cL_isDone 545 = .ok (.iload 14, 2) := by decide +kernel
theorem dL_isDone_547 : decode cL_isDone 547 = .ok (.aload 9, 2) := by decide +kernel
theorem dL_isDone_549 : decode cL_isDone 549 = .ok (.bipush 7, 2) := by decide +kernel
theorem dL_isDone_551 : decode cL_isDone 551 = .ok (.iaload, 1) := by decide +kernel
theorem dL_isDone_552 : decode cL_isDone 552 = .ok (.if_icmp .ge 75, 3) := by decide +kernel
theorem dL_isDone_555 : decode cL_isDone 555 = .ok (.aload 5, 2) := by decide +kernel
theorem dL_isDone_557 : decode cL_isDone 557 = .ok (.aload 6, 2) := by decide +kernel
theorem dL_isDone_559 : decode cL_isDone 559 = .ok (.aload 9, 2) := by decide +kernel
theorem dL_isDone_561 : decode cL_isDone 561 = .ok (.bipush 8, 2) := by decide +kernel
theorem dL_isDone_563 : decode cL_isDone 563 = .ok (.iaload, 1) := by decide +kernel
theorem dL_isDone_564 : decode cL_isDone 564 = .ok (.aload 4, 2) := by decide +kernel
theorem dL_isDone_566 : decode cL_isDone 566 = .ok (.aload 9, 2) := by decide +kernel
theorem dL_isDone_568 : decode cL_isDone 568 = .ok (.iload 14, 2) := by decide +kernel
theorem dL_isDone_570 : decode cL_isDone 570 = .ok (.invokestatic 75, 3) := by decide +kernel
theorem dL_isDone_573 : decode cL_isDone 573 = .ok (.aload 4, 2) := by decide +kernel
theorem dL_isDone_575 : decode cL_isDone 575 = .ok (.aload 9, 2) := by decide +kernel
theorem dL_isDone_577 : decode cL_isDone 577 = .ok (.iload 14, 2) := by decide +kernel
theorem dL_isDone_579 : decode cL_isDone 579 = .ok (.invokestatic 81, 3) := by decide +kernel
theorem dL_isDone_582 : decode cL_isDone 582 = .ok (.invokestatic 118, 3) := by decide +kernel
theorem dL_isDone_585 : decode cL_isDone 585 = .ok (.ifCond .ne 36, 3) := by decide +kernel
theorem dL_isDone_588 : decode cL_isDone 588 = .ok (.aload_n 1, 1) := by decide +kernel
theorem dL_isDone_589 : decode cL_isDone 589 = .ok (.aload_n 2, 1) := by decide +kernel
theorem dL_isDone_590 : decode cL_isDone 590 = .ok (.aload 4, 2) := by decide +kernel
theorem dL_isDone_592 : decode cL_isDone 592 = .ok (.aload 5, 2) := by decide +kernel
theorem dL_isDone_594 : decode cL_isDone 594 = .ok (.aload 6, 2) := by decide +kernel
theorem dL_isDone_596 : decode cL_isDone 596 = .ok (.aload 9, 2) := by decide +kernel
theorem dL_isDone_598 : decode cL_isDone 598 = .ok (.iload 14, 2) := by decide +kernel
theorem dL_isDone_600 : decode cL_isDone 600 = .ok (.aload 4, 2) := by decide +kernel
theorem dL_isDone_602 : decode cL_isDone 602 = .ok (.aload 9, 2) := by decide +kernel
theorem dL_isDone_604 : decode cL_isDone 604 = .ok (.iload 14, 2) := by decide +kernel
theorem dL_isDone_606 : decode cL_isDone 606 = .ok (.invokestatic 75, 3) := by decide +kernel
theorem dL_isDone_609 : decode cL_isDone 609 = .ok (.aload 4, 2) := by decide +kernel
theorem dL_isDone_611 : decode cL_isDone 611 = .ok (.aload 9, 2) := by decide +kernel
theorem dL_isDone_613 : decode cL_isDone 613 = .ok (.iload 14, 2) := by decide +kernel
theorem dL_isDone_615 : decode cL_isDone 615 = .ok (.invokestatic 81, 3) := by decide +kernel
theorem dL_isDone_618 : decode cL_isDone 618 = .ok (.invokestatic 133, 3) := by decide +kernel
theorem dL_isDone_621 : decode cL_isDone 621 = .ok (.iinc 14 1, 3) := by decide +kernel
theorem dL_isDone_624 : decode cL_isDone 624 = .ok (.goto (-79), 3) := by decide +kernel
theorem dL_isDone_627 : decode cL_isDone 627 = .ok (.aload_n 1, 1) := by decide +kernel
theorem dL_isDone_628 : decode cL_isDone 628 = .ok (.aload_n 3, 1) := by decide +kernel
theorem dL_isDone_629 : decode cL_isDone 629 = .ok (.aload 5, 2) := by decide +kernel
theorem dL_isDone_631 : decode cL_isDone 631 = .ok (.aload 6, 2) := by decide +kernel
theorem dL_isDone_633 : decode cL_isDone 633 = .ok (.aload 8, 2) := by decide +kernel
theorem dL_isDone_635 : decode cL_isDone 635 = .ok (.aload 9, 2) := by decide +kernel
theorem dL_isDone_637 : decode cL_isDone 637 = .ok (.invokestatic 121, 3) := by decide +kernel
theorem dL_isDone_640 : decode cL_isDone 640 = .ok (.aload_n 0, 1) := by decide +kernel
theorem dL_isDone_641 : decode cL_isDone 641 = .ok (.bipush 6, 2) := by decide +kernel
theorem dL_isDone_643 : decode cL_isDone 643 = .ok (.iconst 0, 1) := by decide +kernel
theorem dL_isDone_644 : decode cL_isDone 644 = .ok (.iconst 0, 1) := by decide +kernel
theorem dL_isDone_645 : decode cL_isDone 645 = .ok (.iconst 0, 1) := by decide +kernel
theorem dL_isDone_646 : decode cL_isDone 646 = .ok (.iconst 0, 1) := by decide +kernel
theorem dL_isDone_647 : decode cL_isDone 647 = .ok (.iconst 0, 1) := by decide +kernel
theorem dL_isDone_648 : decode cL_isDone 648 = .ok (.invokestatic 190, 3) := by decide +kernel
theorem dL_isDone_651 : decode cL_isDone 651 = .ok (.iload 13, 2) := by decide +kernel
theorem dL_isDone_653 : decode cL_isDone 653 = .ok (.ifCond .eq 14, 3) := by decide +kernel
theorem dL_isDone_656 : decode cL_isDone 656 = .ok (.aload 9, 2) := by decide +kernel
theorem dL_isDone_658 : decode cL_isDone 658 = .ok (.bipush 8, 2) := by decide +kernel
theorem dL_isDone_660 : decode cL_isDone 660 = .ok (.iaload, 1) := by decide +kernel
theorem dL_isDone_661 : decode cL_isDone 661 = .ok (.invokestatic 84, 3) := by decide +kernel
theorem dL_isDone_664 : decode cL_isDone 664 = .ok (.goto 5, 3) := by decide +kernel
theorem dL_isDone_667 : decode cL_isDone 667 = .ok (.ldc 68, 2) := by decide +kernel
theorem dL_isDone_669 : decode cL_isDone 669 = .ok (.if_icmp .ne 7, 3) := by decide +kernel
theorem dL_isDone_672 : decode cL_isDone 672 = .ok (.iconst 1, 1) := by decide +kernel
theorem dL_isDone_673 : decode cL_isDone 673 = .ok (.goto 4, 3) := by decide +kernel
theorem dL_isDone_676 : decode cL_isDone 676 = .ok (.iconst 0, 1) := by decide +kernel
theorem dL_isDone_677 : decode cL_isDone 677 = .ok (.ireturn, 1) := by decide +kernel
theorem dL_isDone_678 : decode cL_isDone 678 = .ok (.iload 11, 2) := by decide +kernel
theorem dL_isDone_680 : decode cL_isDone 680 = .ok (.aload 9, 2) := by decide +kernel
theorem dL_isDone_682 : decode cL_isDone 682 = .ok (.bipush 7, 2) := by decide +kernel
theorem dL_isDone_684 : decode cL_isDone 684 = .ok (.iaload, 1) := by decide +kernel
theorem dL_isDone_685 : decode cL_isDone 685 = .ok (.iconst 1, 1) := by decide +kernel
theorem dL_isDone_686 : decode cL_isDone 686 = .ok (.iadd, 1) := by decide +kernel
theorem dL_isDone_687 : decode cL_isDone 687 = .ok (.irem, 1) := by decide +kernel
theorem dL_isDone_688 : decode cL_isDone 688 = .ok (.istore 13, 2) := by decide +kernel
theorem dL_isDone_690 : decode cL_isDone 690 = .ok (.iload 13, 2) := by decide +kernel
theorem dL_isDone_692 : decode cL_isDone 692 = .ok (.aload 9, 2) := by decide +kernel
theorem dL_isDone_694 : decode cL_isDone 694 = .ok (.bipush 7, 2) := by decide +kernel
theorem dL_isDone_696 : decode cL_isDone 696 = .ok (.iaload, 1) := by decide +kernel
theorem dL_isDone_697 : decode cL_isDone 697 = .ok (.if_icmp .ge 7, 3) := by decide +kernel
theorem dL_isDone_700 : decode cL_isDone 700 = .ok (.iconst 1, 1) := by decide +kernel
theorem dL_isDone_701 : decode cL_isDone 701 = .ok (.goto 4, 3) := by decide +kernel
theorem dL_isDone_704 : decode cL_isDone 704 = .ok (.iconst 0, 1) := by decide +kernel
theorem dL_isDone_705 : decode cL_isDone 705 = .ok (.istore 14, 2) := by decide +kernel
theorem dL_isDone_707 : decode cL_isDone 707 = .ok (.iload 10, 2) := by decide +kernel
theorem dL_isDone_709 : decode cL_isDone 709 = .ok (.iconst 2, 1) := by decide +kernel
theorem dL_isDone_710 : decode cL_isDone 710 = .ok (.if_icmp .ne 79, 3) := by decide +kernel
theorem dL_isDone_713 : decode cL_isDone 713 = .ok (.iload 14, 2) := by decide +kernel
theorem dL_isDone_715 : decode cL_isDone 715 = .ok (.ifCond .eq 25, 3) := by decide +kernel
theorem dL_isDone_718 : decode cL_isDone 718 = .ok (.aload_n 1, 1) := by decide +kernel
theorem dL_isDone_719 : decode cL_isDone 719 = .ok (.aload_n 3, 1) := by decide +kernel
theorem dL_isDone_720 : decode cL_isDone 720 = .ok (.aload 5, 2) := by decide +kernel
theorem dL_isDone_722 : decode cL_isDone 722 = .ok (.aload 6, 2) := by decide +kernel
theorem dL_isDone_724 : decode cL_isDone 724 = .ok (.aload 8, 2) := by decide +kernel
theorem dL_isDone_726 : decode cL_isDone 726 = .ok (.aload 9, 2) := by decide +kernel
theorem dL_isDone_728 : decode cL_isDone 728 = .ok (.iload 13, 2) := by decide +kernel
theorem dL_isDone_730 : decode cL_isDone 730 = .ok (.invokestatic 197, 3) := by decide +kernel
theorem dL_isDone_733 : decode cL_isDone 733 = .ok (.ifCond .eq 7, 3) := by decide +kernel
theorem dL_isDone_736 : decode cL_isDone 736 = .ok (.iconst 1, 1) := by decide +kernel
theorem dL_isDone_737 : decode cL_isDone 737 = .ok (.goto 4, 3) := by decide +kernel
theorem dL_isDone_740 : decode cL_isDone 740 = .ok (.iconst 0, 1) := by decide +kernel
theorem dL_isDone_741 : decode cL_isDone 741 = .ok (.istore 15, 2) := by decide +kernel
theorem dL_isDone_743 : decode cL_isDone 743 = .ok (.aload_n 0, 1) := by decide +kernel
theorem dL_isDone_744 : decode cL_isDone 744 = .ok (.bipush 7, 2) := by decide +kernel
theorem dL_isDone_746 : decode cL_isDone 746 = .ok (.iload 13, 2) := by decide +kernel
theorem dL_isDone_748 : decode cL_isDone 748 = .ok (.iconst 0, 1) := by decide +kernel
theorem dL_isDone_749 : decode cL_isDone 749 = .ok (.iconst 0, 1) := by decide +kernel
theorem dL_isDone_750 : decode cL_isDone 750 = .ok (.iconst 0, 1) := by decide +kernel
theorem dL_isDone_751 : decode cL_isDone 751 = .ok (.iconst 0, 1) := by decide +kernel
theorem dL_isDone_752 : decode cL_isDone 752 = .ok (.invokestatic 190, 3) := by decide +kernel
theorem dL_isDone_755 : decode cL_isDone 755 = .ok (.iload 14, 2) := by decide +kernel
theorem dL_isDone_757 : decode cL_isDone 757 = .ok (.ifCond .ne 8, 3) := by decide +kernel
theorem dL_isDone_760 : decode cL_isDone 760 = .ok (.ldc 62, 2) := by decide +kernel
theorem dL_isDone_762 : decode cL_isDone 762 = .ok (.goto 18, 3) := by decide +kernel
theorem dL_isDone_765 : decode cL_isDone 765 = .ok (.iload 15, 2) := by decide +kernel
theorem dL_isDone_767 : decode cL_isDone 767 = .ok (.ifCond .eq 11, 3) := by decide +kernel
theorem dL_isDone_770 : decode cL_isDone 770 = .ok (.aload 9, 2) := by decide +kernel
theorem dL_isDone_772 : decode cL_isDone 772 = .ok (.bipush 14, 2) := by decide +kernel
theorem dL_isDone_774 : decode cL_isDone 774 = .ok (.iaload, 1) := by decide +kernel
theorem dL_isDone_775 : decode cL_isDone 775 = .ok (.goto 5, 3) := by decide +kernel
theorem dL_isDone_778 : decode cL_isDone 778 = .ok (.ldc 68, 2) := by decide +kernel
theorem dL_isDone_780 : decode cL_isDone 780 = .ok (.if_icmp .ne 7, 3) := by decide +kernel
theorem dL_isDone_783 : decode cL_isDone 783 = .ok (.iconst 1, 1) := by decide +kernel
theorem dL_isDone_784 : decode cL_isDone 784 = .ok (.goto 4, 3) := by decide +kernel
theorem dL_isDone_787 : decode cL_isDone 787 = .ok (.iconst 0, 1) := by decide +kernel
theorem dL_isDone_788 : decode cL_isDone 788 = .ok (.ireturn, 1) := by decide +kernel
theorem dL_isDone_789 : decode cL_isDone 789 = .ok (.iload 10, 2) := by decide +kernel
theorem dL_isDone_791 : decode cL_isDone 791 = .ok (.iconst 3, 1) := by decide +kernel
theorem dL_isDone_792 : decode cL_isDone 792 = .ok (.if_icmp .ne 168, 3) := by decide +kernel
theorem dL_isDone_795 : decode cL_isDone 795 = .ok (.iload 14, 2) := by decide +kernel
theorem dL_isDone_797 : decode cL_isDone 797 = .ok (.ifCond .eq 15, 3) := by decide +kernel
theorem dL_isDone_800 : decode cL_isDone 800 = .ok (.aload 4, 2) := by decide +kernel
theorem dL_isDone_802 : decode cL_isDone 802 = .ok (.aload 9, 2) := by decide +kernel
theorem dL_isDone_804 : decode cL_isDone 804 = .ok (.iload 13, 2) := by decide +kernel
theorem dL_isDone_806 : decode cL_isDone 806 = .ok (.invokestatic 75, 3) := by decide +kernel
theorem dL_isDone_809 : decode cL_isDone 809 = .ok (.goto 4, 3) := by decide +kernel
theorem dL_isDone_812 : decode cL_isDone 812 = .ok (.iconst 5, 1) := by decide +kernel
theorem dL_isDone_813 : decode cL_isDone 813 = .ok (.iload 12, 2) := by decide +kernel
theorem dL_isDone_815 : decode cL_isDone 815 = .ok (.iconst 5, 1) := by decide +kernel
theorem dL_isDone_816 : decode cL_isDone 816 = .ok (.irem, 1) := by decide +kernel
theorem dL_isDone_817 : decode cL_isDone 817 = .ok (.iadd, 1) := by decide +kernel
theorem dL_isDone_818 : decode cL_isDone 818 = .ok (.iconst 2, 1) := by decide +kernel
theorem dL_isDone_819 : decode cL_isDone 819 = .ok (.isub, 1) := by decide +kernel
theorem dL_isDone_820 : decode cL_isDone 820 = .ok (.istore 15, 2) := by decide +kernel
theorem dL_isDone_822 : decode cL_isDone 822 = .ok (.iload 14, 2) := by decide +kernel
theorem dL_isDone_824 : decode cL_isDone 824 = .ok (.ifCond .eq 15, 3) := by decide +kernel
theorem dL_isDone_827 : decode cL_isDone 827 = .ok (.aload 4, 2) := by decide +kernel
theorem dL_isDone_829 : decode cL_isDone 829 = .ok (.aload 9, 2) := by decide +kernel
theorem dL_isDone_831 : decode cL_isDone 831 = .ok (.iload 13, 2) := by decide +kernel
theorem dL_isDone_833 : decode cL_isDone 833 = .ok (.invokestatic 81, 3) := by decide +kernel
theorem dL_isDone_836 : decode cL_isDone 836 = .ok (.goto 4, 3) := by decide +kernel
theorem dL_isDone_839 : decode cL_isDone 839 = .ok (.iconst 5, 1) := by decide +kernel
theorem dL_isDone_840 : decode cL_isDone 840 = .ok (.iload 12, 2) := by decide +kernel
theorem dL_isDone_842 : decode cL_isDone 842 = .ok (.iconst 5, 1) := by decide +kernel
theorem dL_isDone_843 : decode cL_isDone 843 = .ok (.idiv, 1) := by decide +kernel
theorem dL_isDone_844 : decode cL_isDone 844 = .ok (.iconst 5, 1) := by decide +kernel
theorem dL_isDone_845 : decode cL_isDone 845 = .ok (.irem, 1) := by decide +kernel
theorem dL_isDone_846 : decode cL_isDone 846 = .ok (.iadd, 1) := by decide +kernel
theorem dL_isDone_847 : decode cL_isDone 847 = .ok (.iconst 2, 1) := by decide +kernel
theorem dL_isDone_848 : decode cL_isDone 848 = .ok (.isub, 1) := by decide +kernel
theorem dL_isDone_849 : decode cL_isDone 849 = .ok (.istore 16, 2) := by decide +kernel
theorem dL_isDone_851 : decode cL_isDone 851 = .ok (.iload 15, 2) := by decide +kernel
theorem dL_isDone_853 : decode cL_isDone 853 = .ok (.iload 16, 2) := by decide +kernel
theorem dL_isDone_855 : decode cL_isDone 855 = .ok (.invokestatic 137, 3) := by decide +kernel
theorem dL_isDone_858 : decode cL_isDone 858 = .ok (.istore 17, 2) := by decide +kernel
theorem dL_isDone_860 : decode cL_isDone 860 = .ok (.iload 14, 2) := by decide +kernel
theorem dL_isDone_862 : decode cL_isDone 862 = .ok (.ifCond .eq 37, 3) := by decide +kernel
theorem dL_isDone_865 : decode cL_isDone 865 = .ok (.iload 17, 2) := by decide +kernel
theorem dL_isDone_867 : decode cL_isDone 867 = .ok (.ifCond .eq 32, 3) := by decide +kernel
theorem dL_isDone_870 : decode cL_isDone 870 = .ok (.aload_n 1, 1) := by decide +kernel
theorem dL_isDone_871 : decode cL_isDone 871 = .ok (.aload_n 2, 1) := by decide +kernel
theorem dL_isDone_872 : decode cL_isDone 872 = .ok (.aload_n 3, 1) := by decide +kernel
theorem dL_isDone_873 : decode cL_isDone 873 = .ok (.aload 4, 2) := by decide +kernel
theorem dL_isDone_875 : decode cL_isDone 875 = .ok (.aload 5, 2) := by decide +kernel
theorem dL_isDone_877 : decode cL_isDone 877 = .ok (.aload 6, 2) := by decide +kernel
theorem dL_isDone_879 : decode cL_isDone 879 = .ok (.aload 8, 2) := by decide +kernel
theorem dL_isDone_881 : decode cL_isDone 881 = .ok (.aload 9, 2) := by decide +kernel
theorem dL_isDone_883 : decode cL_isDone 883 = .ok (.iload 13, 2) := by decide +kernel
theorem dL_isDone_885 : decode cL_isDone 885 = .ok (.iload 15, 2) := by decide +kernel
theorem dL_isDone_887 : decode cL_isDone 887 = .ok (.iload 16, 2) := by decide +kernel
theorem dL_isDone_889 : decode cL_isDone 889 = .ok (.invokestatic 201, 3) := by decide +kernel
theorem dL_isDone_892 : decode cL_isDone 892 = .ok (.ifCond .eq 7, 3) := by decide +kernel
theorem dL_isDone_895 : decode cL_isDone 895 = .ok (.iconst 1, 1) := by decide +kernel
theorem dL_isDone_896 : decode cL_isDone 896 = .ok (.goto 4, 3) := by decide +kernel
theorem dL_isDone_899 : decode cL_isDone 899 = .ok (.iconst 0, 1) := by decide +kernel
theorem dL_isDone_900 : decode cL_isDone 900 = .ok (.istore 18, 2) := by decide +kernel
theorem dL_isDone_902 : decode cL_isDone 902 = .ok (.aload_n 0, 1) := by decide +kernel
theorem dL_isDone_903 : decode cL_isDone 903 = .ok (.bipush 8, 2) := by decide +kernel
theorem dL_isDone_905 : decode cL_isDone 905 = .ok (.iload 13, 2) := by decide +kernel
theorem dL_isDone_907 : decode cL_isDone 907 = .ok (.iload 15, 2) := by decide +kernel
theorem dL_isDone_909 : decode cL_isDone 909 = .ok (.iload 16, 2) := by decide +kernel
theorem dL_isDone_911 : decode cL_isDone 911 = .ok (.iconst 0, 1) := by decide +kernel
theorem dL_isDone_912 : decode cL_isDone 912 = .ok (.iconst 0, 1) := by decide +kernel
theorem dL_isDone_913 : decode cL_isDone 913 = .ok (.invokestatic 190, 3) := by decide +kernel
theorem dL_isDone_916 : decode cL_isDone 916 = .ok (.iload 14, 2) := by decide +kernel
theorem dL_isDone_918 : decode cL_isDone 918 = .ok (.ifCond .ne 8, 3) := by decide +kernel
theorem dL_isDone_921 : decode cL_isDone 921 = .ok (.ldc 62, 2) := by decide +kernel
theorem dL_isDone_923 : decode cL_isDone 923 = .ok (.goto 28, 3) := by decide +kernel
theorem dL_isDone_926 : decode cL_isDone 926 = .ok (.iload 17, 2) := by decide +kernel
theorem dL_isDone_928 : decode cL_isDone 928 = .ok (.ifCond .ne 8, 3) := by decide +kernel
theorem dL_isDone_931 : decode cL_isDone 931 = .ok (.ldc 65, 2) := by decide +kernel
theorem dL_isDone_933 : decode cL_isDone 933 = .ok (.goto 18, 3) := by decide +kernel
theorem dL_isDone_936 : decode cL_isDone 936 = .ok (.iload 18, 2) := by decide +kernel
theorem dL_isDone_938 : decode cL_isDone 938 = .ok (.ifCond .eq 11, 3) := by decide +kernel
theorem dL_isDone_941 : decode cL_isDone 941 = .ok (.aload 9, 2) := by decide +kernel
theorem dL_isDone_943 : decode cL_isDone 943 = .ok (.bipush 14, 2) := by decide +kernel
theorem dL_isDone_945 : decode cL_isDone 945 = .ok (.iaload, 1) := by decide +kernel
theorem dL_isDone_946 : decode cL_isDone 946 = .ok (.goto 5, 3) := by decide +kernel
theorem dL_isDone_949 : decode cL_isDone 949 = .ok (.ldc 68, 2) := by decide +kernel
theorem dL_isDone_951 : decode cL_isDone 951 = .ok (.if_icmp .ne 7, 3) := by decide +kernel
theorem dL_isDone_954 : decode cL_isDone 954 = .ok (.iconst 1, 1) := by decide +kernel
theorem dL_isDone_955 : decode cL_isDone 955 = .ok (.goto 4, 3) := by decide +kernel
theorem dL_isDone_958 : decode cL_isDone 958 = .ok (.iconst 0, 1) := by decide +kernel
theorem dL_isDone_959 : decode cL_isDone 959 = .ok (.ireturn, 1) := by decide +kernel
theorem dL_isDone_960 : decode cL_isDone 960 = .ok (.iload 10, 2) := by decide +kernel
theorem dL_isDone_962 : decode cL_isDone 962 = .ok (.iconst 4, 1) := by decide +kernel
theorem dL_isDone_963 : decode cL_isDone 963 = .ok (.if_icmp .ne 137, 3) := by decide +kernel
theorem dL_isDone_966 : decode cL_isDone 966 = .ok (.iload 11, 2) := by decide +kernel
theorem dL_isDone_968 : decode cL_isDone 968 = .ok (.bipush 13, 2) := by decide +kernel
theorem dL_isDone_970 : decode cL_isDone 970 = .ok (.irem, 1) := by decide +kernel
theorem dL_isDone_971 : decode cL_isDone 971 = .ok (.bipush 12, 2) := by decide +kernel
theorem dL_isDone_973 : decode cL_isDone 973 = .ok (.if_icmp .ne 7, 3) := by decide +kernel
theorem dL_isDone_976 : decode cL_isDone 976 = .ok (.iconst 2, 1) := by decide +kernel
theorem dL_isDone_977 : decode cL_isDone 977 = .ok (.goto 9, 3) := by decide +kernel
theorem dL_isDone_980 : decode cL_isDone 980 = .ok (.iload 11, 2) := by decide +kernel
theorem dL_isDone_982 : decode cL_isDone 982 = .ok (.iconst 3, 1) := by decide +kernel
theorem dL_isDone_983 : decode cL_isDone 983 = .ok (.irem, 1) := by decide +kernel
theorem dL_isDone_984 : decode cL_isDone 984 = .ok (.iconst 1, 1) := by decide +kernel
theorem dL_isDone_985 : decode cL_isDone 985 = .ok (.isub, 1) := by decide +kernel
theorem dL_isDone_986 : decode cL_isDone 986 = .ok (.istore 15, 2) := by decide +kernel
theorem dL_isDone_988 : decode cL_isDone 988 = .ok (.iload 12, 2) := by decide +kernel
theorem dL_isDone_990 : decode cL_isDone 990 = .ok (.iconst 3, 1) := by decide +kernel
theorem dL_isDone_991 : decode cL_isDone 991 = .ok (.irem, 1) := by decide +kernel
theorem dL_isDone_992 : decode cL_isDone 992 = .ok (.iconst 1, 1) := by decide +kernel
theorem dL_isDone_993 : decode cL_isDone 993 = .ok (.isub, 1) := by decide +kernel
theorem dL_isDone_994 : decode cL_isDone 994 = .ok (.istore 16, 2) := by decide +kernel
theorem dL_isDone_996 : decode cL_isDone 996 = .ok (.iload 15, 2) := by decide +kernel
theorem dL_isDone_998 : decode cL_isDone 998 = .ok (.iconst 2, 1) := by decide +kernel
theorem dL_isDone_999 : decode cL_isDone 999 = .ok (.if_icmp .ge 17, 3) := by decide +kernel
theorem dL_isDone_1002 : decode cL_isDone 1002 = .ok (.iload 15, 2) := by decide +kernel
theorem dL_isDone_1004 : decode cL_isDone 1004 = .ok (.ifCond .ne 8, 3) := by decide +kernel
theorem dL_isDone_1007 : decode cL_isDone 1007 = .ok (.iload 16, 2) := by decide +kernel
theorem dL_isDone_1009 : decode cL_isDone 1009 = .ok (.ifCond .eq 7, 3) := by decide +kernel
theorem dL_isDone_1012 : decode cL_isDone 1012 = .ok (.iconst 1, 1) := by decide +kernel
theorem dL_isDone_1013 : decode cL_isDone 1013 = .ok (.goto 4, 3) := by decide +kernel
theorem dL_isDone_1016 : decode cL_isDone 1016 = .ok (.iconst 0, 1) := by decide +kernel
theorem dL_isDone_1017 : decode cL_isDone 1017 = .ok (.istore 17, 2) := by decide +kernel
theorem dL_isDone_1019 : decode cL_isDone 1019 = .ok (.iload 17, 2) := by decide +kernel
theorem dL_isDone_1021 : decode cL_isDone 1021 = .ok (.ifCond .eq 29, 3) := by decide +kernel
theorem dL_isDone_1024 : decode cL_isDone 1024 = .ok (.aload_n 1, 1) := by decide +kernel
theorem dL_isDone_1025 : decode cL_isDone 1025 = .ok (.aload_n 3, 1) := by decide +kernel
theorem dL_isDone_1026 : decode cL_isDone 1026 = .ok (.aload 4, 2) := by decide +kernel
theorem dL_isDone_1028 : decode cL_isDone 1028 = .ok (.aload 5, 2) := by decide +kernel
theorem dL_isDone_1030 : decode cL_isDone 1030 = .ok (.aload 6, 2) := by decide +kernel
theorem dL_isDone_1032 : decode cL_isDone 1032 = .ok (.aload 8, 2) := by decide +kernel
theorem dL_isDone_1034 : decode cL_isDone 1034 = .ok (.aload 9, 2) := by decide +kernel
theorem dL_isDone_1036 : decode cL_isDone 1036 = .ok (.iload 15, 2) := by decide +kernel
theorem dL_isDone_1038 : decode cL_isDone 1038 = .ok (.iload 16, 2) := by decide +kernel
theorem dL_isDone_1040 : decode cL_isDone 1040 = .ok (.invokestatic 205, 3) := by decide +kernel
theorem dL_isDone_1043 : decode cL_isDone 1043 = .ok (.ifCond .eq 7, 3) := by decide +kernel
theorem dL_isDone_1046 : decode cL_isDone 1046 = .ok (.iconst 1, 1) := by decide +kernel
theorem dL_isDone_1047 : decode cL_isDone 1047 = .ok (.goto 4, 3) := by decide +kernel
theorem dL_isDone_1050 : decode cL_isDone 1050 = .ok (.iconst 0, 1) := by decide +kernel
theorem dL_isDone_1051 : decode cL_isDone 1051 = .ok (.istore 18, 2) := by decide +kernel
theorem dL_isDone_1053 : decode cL_isDone 1053 = .ok (.aload_n 0, 1) := by decide +kernel
theorem dL_isDone_1054 : decode cL_isDone 1054 = .ok (.bipush 9, 2) := by decide +kernel
theorem dL_isDone_1056 : decode cL_isDone 1056 = .ok (.iload 15, 2) := by decide +kernel
theorem dL_isDone_1058 : decode cL_isDone 1058 = .ok (.iload 16, 2) := by decide +kernel
theorem dL_isDone_1060 : decode cL_isDone 1060 = .ok (.iconst 0, 1) := by decide +kernel
theorem dL_isDone_1061 : decode cL_isDone 1061 = .ok (.iconst 0, 1) := by decide +kernel
theorem dL_isDone_1062 : decode cL_isDone 1062 = .ok (.iconst 0, 1) := by decide +kernel
theorem dL_isDone_1063 : decode cL_isDone 1063 = .ok (.invokestatic 190, 3) := by decide +kernel
theorem dL_isDone_1066 : decode cL_isDone 1066 = .ok (.iload 17, 2) := by decide +kernel
theorem dL_isDone_1068 : decode cL_isDone 1068 = .ok (.ifCond .ne 8, 3) := by decide +kernel
theorem dL_isDone_1071 : decode cL_isDone 1071 = .ok (.ldc 65, 2) := by decide +kernel
theorem dL_isDone_1073 : decode cL_isDone 1073 = .ok (.goto 18, 3) := by decide +kernel
theorem dL_isDone_1076 : decode cL_isDone 1076 = .ok (.iload 18, 2) := by decide +kernel
theorem dL_isDone_1078 : decode cL_isDone 1078 = .ok (.ifCond .eq 11, 3) := by decide +kernel
theorem dL_isDone_1081 : decode cL_isDone 1081 = .ok (.aload 9, 2) := by decide +kernel
theorem dL_isDone_1083 : decode cL_isDone 1083 = .ok (.bipush 14, 2) := by decide +kernel
theorem dL_isDone_1085 : decode cL_isDone 1085 = .ok (.iaload, 1) := by decide +kernel
theorem dL_isDone_1086 : decode cL_isDone 1086 = .ok (.goto 5, 3) := by decide +kernel
theorem dL_isDone_1089 : decode cL_isDone 1089 = .ok (.ldc 68, 2) := by decide +kernel
theorem dL_isDone_1091 : decode cL_isDone 1091 = .ok (.if_icmp .ne 7, 3) := by decide +kernel
theorem dL_isDone_1094 : decode cL_isDone 1094 = .ok (.iconst 1, 1) := by decide +kernel
theorem dL_isDone_1095 : decode cL_isDone 1095 = .ok (.goto 4, 3) := by decide +kernel
theorem dL_isDone_1098 : decode cL_isDone 1098 = .ok (.iconst 0, 1) := by decide +kernel
theorem dL_isDone_1099 : decode cL_isDone 1099 = .ok (.ireturn, 1) := by decide +kernel
theorem dL_isDone_1100 : decode cL_isDone 1100 = .ok (.iload 12, 2) := by decide +kernel
theorem dL_isDone_1102 : decode cL_isDone 1102 = .ok (.bipush 23, 2) := by decide +kernel
theorem dL_isDone_1104 : decode cL_isDone 1104 = .ok (.irem, 1) := by decide +kernel
theorem dL_isDone_1105 : decode cL_isDone 1105 = .ok (.istore 15, 2) := by decide +kernel
theorem dL_isDone_1107 : decode cL_isDone 1107 = .ok (.iload 15, 2) := by decide +kernel
theorem dL_isDone_1109 : decode cL_isDone 1109 = .ok (.ifCond .le 14, 3) := by decide +kernel
theorem dL_isDone_1112 : decode cL_isDone 1112 = .ok (.iload 15, 2) := by decide +kernel
theorem dL_isDone_1114 : decode cL_isDone 1114 = .ok (.bipush 21, 2) := by decide +kernel
theorem dL_isDone_1116 : decode cL_isDone 1116 = .ok (.if_icmp .ge 7, 3) := by decide +kernel
theorem dL_isDone_1119 : decode cL_isDone 1119 = .ok (.iconst 1, 1) := by decide +kernel
theorem dL_isDone_1120 : decode cL_isDone 1120 = .ok (.goto 4, 3) := by decide +kernel
theorem dL_isDone_1123 : decode cL_isDone 1123 = .ok (.iconst 0, 1) := by decide +kernel
theorem dL_isDone_1124 : decode cL_isDone 1124 = .ok (.istore 16, 2) := by decide +kernel
theorem dL_isDone_1126 : decode cL_isDone 1126 = .ok (.iconst 0, 1) := by decide +kernel
theorem dL_isDone_1127 : decode cL_isDone 1127 = .ok (.istore 17, 2) := by decide +kernel
theorem dL_isDone_1129 : decode cL_isDone 1129 = .ok (.iload 16, 2) := by decide +kernel
theorem dL_isDone_1131 : decode cL_isDone 1131 = .ok (.ifCond .eq 15, 3) := by decide +kernel
theorem dL_isDone_1134 : decode cL_isDone 1134 = .ok (.aload 9, 2) := by decide +kernel
theorem dL_isDone_1136 : decode cL_isDone 1136 = .ok (.bipush 12, 2) := by decide +kernel
theorem dL_isDone_1138 : decode cL_isDone 1138 = .ok (.iaload, 1) := by decide +kernel
theorem dL_isDone_1139 : decode cL_isDone 1139 = .ok (.ifCond .le 7, 3) := by decide +kernel
theorem dL_isDone_1142 : decode cL_isDone 1142 = .ok (.iconst 1, 1) := by decide +kernel
theorem dL_isDone_1143 : decode cL_isDone 1143 = .ok (.goto 4, 3) := by decide +kernel
theorem dL_isDone_1146 : decode cL_isDone 1146 = .ok (.iconst 0, 1) := by decide +kernel
theorem dL_isDone_1147 : decode cL_isDone 1147 = .ok (.istore 18, 2) := by decide +kernel
theorem dL_isDone_1149 : decode cL_isDone 1149 = .ok (.iload 18, 2) := by decide +kernel
theorem dL_isDone_1151 : decode cL_isDone 1151 = .ok (.istore 19, 2) := by decide +kernel
theorem dL_isDone_1153 : decode cL_isDone 1153 = .ok (.iload 18, 2) := by decide +kernel
theorem dL_isDone_1155 : decode cL_isDone 1155 = .ok (.ifCond .eq 277, 3) := by decide +kernel
theorem dL_isDone_1158 : decode cL_isDone 1158 = .ok (.iload 17, 2) := by decide +kernel
theorem dL_isDone_1160 : decode cL_isDone 1160 = .ok (.iload 15, 2) := by decide +kernel
theorem dL_isDone_1162 : decode cL_isDone 1162 = .ok (.if_icmp .ge 270, 3) := by decide +kernel
theorem dL_isDone_1165 : decode cL_isDone 1165 = .ok (.aload 7, 2) := by decide +kernel
theorem dL_isDone_1167 : decode cL_isDone 1167 = .ok (.aload 9, 2) := by decide +kernel
theorem dL_isDone_1169 : decode cL_isDone 1169 = .ok (.bipush 13, 2) := by decide +kernel
theorem dL_isDone_1171 : decode cL_isDone 1171 = .ok (.iaload, 1) := by decide +kernel
theorem dL_isDone_1172 : decode cL_isDone 1172 = .ok (.iaload, 1) := by decide +kernel
theorem dL_isDone_1173 : decode cL_isDone 1173 = .ok (.istore 20, 2) := by decide +kernel
theorem dL_isDone_1175 : decode cL_isDone 1175 = .ok (.iload 20, 2) := by decide +kernel
theorem dL_isDone_1177 : decode cL_isDone 1177 = .ok (.bipush 8, 2) := by decide +kernel
theorem dL_isDone_1179 : decode cL_isDone 1179 = .ok (.irem, 1) := by decide +kernel
theorem dL_isDone_1180 : decode cL_isDone 1180 = .ok (.istore 21, 2) := by decide +kernel
theorem dL_isDone_1182 : decode cL_isDone 1182 = .ok (.aload 5, 2) := by decide +kernel
theorem dL_isDone_1184 : decode cL_isDone 1184 = .ok (.iload 21, 2) := by decide +kernel
theorem dL_isDone_1186 : decode cL_isDone 1186 = .ok (.iaload, 1) := by decide +kernel
theorem dL_isDone_1187 : decode cL_isDone 1187 = .ok (.iload 20, 2) := by decide +kernel
theorem dL_isDone_1189 : decode cL_isDone 1189 = .ok (.bipush 8, 2) := by decide +kernel
theorem dL_isDone_1191 : decode cL_isDone 1191 = .ok (.idiv, 1) := by decide +kernel
theorem dL_isDone_1192 : decode cL_isDone 1192 = .ok (.bipush 16, 2) := by decide +kernel
theorem dL_isDone_1194 : decode cL_isDone 1194 = .ok (.irem, 1) := by decide +kernel
theorem dL_isDone_1195 : decode cL_isDone 1195 = .ok (.iadd, 1) := by decide +kernel
theorem dL_isDone_1196 : decode cL_isDone 1196 = .ok (.bipush 6, 2) := by decide +kernel
theorem dL_isDone_1198 : decode cL_isDone 1198 = .ok (.isub, 1) := by decide +kernel
theorem dL_isDone_1199 : decode cL_isDone 1199 = .ok (.istore 22, 2) := by decide +kernel
theorem dL_isDone_1201 : decode cL_isDone 1201 = .ok (.aload 6, 2) := by decide +kernel
theorem dL_isDone_1203 : decode cL_isDone 1203 = .ok (.iload 21, 2) := by decide +kernel
theorem dL_isDone_1205 : decode cL_isDone 1205 = .ok (.iaload, 1) := by decide +kernel
theorem dL_isDone_1206 : decode cL_isDone 1206 = .ok (.iload 20, 2) := by decide +kernel
theorem dL_isDone_1208 : decode cL_isDone 1208 = .ok (.sipush 128, 3) := by decide +kernel
theorem dL_isDone_1211 : decode cL_isDone 1211 = .ok (.idiv, 1) := by decide +kernel
theorem dL_isDone_1212 : decode cL_isDone 1212 = .ok (.bipush 16, 2) := by decide +kernel
theorem dL_isDone_1214 : decode cL_isDone 1214 = .ok (.irem, 1) := by decide +kernel
theorem dL_isDone_1215 : decode cL_isDone 1215 = .ok (.iadd, 1) := by decide +kernel
theorem dL_isDone_1216 : decode cL_isDone 1216 = .ok (.bipush 6, 2) := by decide +kernel
theorem dL_isDone_1218 : decode cL_isDone 1218 = .ok (.isub, 1) := by decide +kernel
theorem dL_isDone_1219 : decode cL_isDone 1219 = .ok (.istore 23, 2) := by decide +kernel
theorem dL_isDone_1221 : decode cL_isDone 1221 = .ok (.iload 20, 2) := by decide +kernel
theorem dL_isDone_1223 : decode cL_isDone 1223 = .ok (.sipush 2048, 3) := by decide +kernel
theorem dL_isDone_1226 : decode cL_isDone 1226 = .ok (.idiv, 1) := by decide +kernel
theorem dL_isDone_1227 : decode cL_isDone 1227 = .ok (.iconst 4, 1) := by decide +kernel
theorem dL_isDone_1228 : decode cL_isDone 1228 = .ok (.irem, 1) := by decide +kernel
theorem dL_isDone_1229 : decode cL_isDone 1229 = .ok (.iconst 1, 1) := by decide +kernel
theorem dL_isDone_1230 : decode cL_isDone 1230 = .ok (.isub, 1) := by decide +kernel
theorem dL_isDone_1231 : decode cL_isDone 1231 = .ok (.istore 24, 2) := by decide +kernel
theorem dL_isDone_1233 : decode cL_isDone 1233 = .ok (.iload 20, 2) := by decide +kernel
theorem dL_isDone_1235 : decode cL_isDone 1235 = .ok (.sipush 8192, 3) := by decide +kernel
theorem dL_isDone_1238 : decode cL_isDone 1238 = .ok (.idiv, 1) := by decide +kernel
theorem dL_isDone_1239 : decode cL_isDone 1239 = .ok (.iconst 1, 1) := by decide +kernel
theorem dL_isDone_1240 : decode cL_isDone 1240 = .ok (.isub, 1) := by decide +kernel
theorem dL_isDone_1241 : decode cL_isDone 1241 = .ok (.istore 25, 2) := by decide +kernel
theorem dL_isDone_1243 : decode cL_isDone 1243 = .ok (.aload_n 1, 1) := by decide +kernel
theorem dL_isDone_1244 : decode cL_isDone 1244 = .ok (.aload_n 3, 1) := by decide +kernel
theorem dL_isDone_1245 : decode cL_isDone 1245 = .ok (.aload 5, 2) := by decide +kernel
theorem dL_isDone_1247 : decode cL_isDone 1247 = .ok (.aload 6, 2) := by decide +kernel
theorem dL_isDone_1249 : decode cL_isDone 1249 = .ok (.aload 8, 2) := by decide +kernel
theorem dL_isDone_1251 : decode cL_isDone 1251 = .ok (.aload 9, 2) := by decide +kernel
theorem dL_isDone_1253 : decode cL_isDone 1253 = .ok (.iload 21, 2) := by decide +kernel
theorem dL_isDone_1255 : decode cL_isDone 1255 = .ok (.invokestatic 197, 3) := by decide +kernel
theorem dL_isDone_1258 : decode cL_isDone 1258 = .ok (.ifCond .eq 25, 3) := by decide +kernel
theorem dL_isDone_1261 : decode cL_isDone 1261 = .ok (.aload 9, 2) := by decide +kernel
theorem dL_isDone_1263 : decode cL_isDone 1263 = .ok (.bipush 14, 2) := by decide +kernel
theorem dL_isDone_1265 : decode cL_isDone 1265 = .ok (.iaload, 1) := by decide +kernel
theorem dL_isDone_1266 : decode cL_isDone 1266 = .ok (.ifCond .ne 17, 3) := by decide +kernel
theorem dL_isDone_1269 : decode cL_isDone 1269 = .ok (.iload 22, 2) := by decide +kernel
theorem dL_isDone_1271 : decode cL_isDone 1271 = .ok (.iload 23, 2) := by decide +kernel
theorem dL_isDone_1273 : decode cL_isDone 1273 = .ok (.invokestatic 137, 3) := by decide +kernel
theorem dL_isDone_1276 : decode cL_isDone 1276 = .ok (.ifCond .eq 7, 3) := by decide +kernel
theorem dL_isDone_1279 : decode cL_isDone 1279 = .ok (.iconst 1, 1) := by decide +kernel
theorem dL_isDone_1280 : decode cL_isDone 1280 = .ok (.goto 4, 3) := by decide +kernel
theorem dL_isDone_1283 : decode cL_isDone 1283 = .ok (.iconst 0, 1) := by decide +kernel
theorem dL_isDone_1284 : decode cL_isDone 1284 = .ok (.istore 18, 2) := by decide +kernel
theorem dL_isDone_1286 : decode cL_isDone 1286 = .ok (.iload 18, 2) := by decide +kernel
theorem dL_isDone_1288 : decode cL_isDone 1288 = .ok (.ifCond .eq 40, 3) := by decide +kernel
theorem dL_isDone_1291 : decode cL_isDone 1291 = .ok (.aload_n 1, 1) := by decide +kernel
theorem dL_isDone_1292 : decode cL_isDone 1292 = .ok (.aload_n 2, 1) := by decide +kernel
theorem dL_isDone_1293 : decode cL_isDone 1293 = .ok (.aload_n 3, 1) := by decide +kernel
theorem dL_isDone_1294 : decode cL_isDone 1294 = .ok (.aload 4, 2) := by decide +kernel
theorem dL_isDone_1296 : decode cL_isDone 1296 = .ok (.aload 5, 2) := by decide +kernel
theorem dL_isDone_1298 : decode cL_isDone 1298 = .ok (.aload 6, 2) := by decide +kernel
theorem dL_isDone_1300 : decode cL_isDone 1300 = .ok (.aload 8, 2) := by decide +kernel
theorem dL_isDone_1302 : decode cL_isDone 1302 = .ok (.aload 9, 2) := by decide +kernel
theorem dL_isDone_1304 : decode cL_isDone 1304 = .ok (.iload 21, 2) := by decide +kernel
theorem dL_isDone_1306 : decode cL_isDone 1306 = .ok (.iload 22, 2) := by decide +kernel
theorem dL_isDone_1308 : decode cL_isDone 1308 = .ok (.iload 23, 2) := by decide +kernel
theorem dL_isDone_1310 : decode cL_isDone 1310 = .ok (.invokestatic 201, 3) := by decide +kernel
theorem dL_isDone_1313 : decode cL_isDone 1313 = .ok (.ifCond .eq 15, 3) := by decide +kernel
theorem dL_isDone_1316 : decode cL_isDone 1316 = .ok (.aload 9, 2) := by decide +kernel
theorem dL_isDone_1318 : decode cL_isDone 1318 = .ok (.bipush 14, 2) := by decide +kernel
theorem dL_isDone_1320 : decode cL_isDone 1320 = .ok (.iaload, 1) := by decide +kernel
theorem dL_isDone_1321 : decode cL_isDone 1321 = .ok (.ifCond .ne 7, 3) := by decide +kernel
theorem dL_isDone_1324 : decode cL_isDone 1324 = .ok (.iconst 1, 1) := by decide +kernel
theorem dL_isDone_1325 : decode cL_isDone 1325 = .ok (.goto 4, 3) := by decide +kernel
theorem dL_isDone_1328 : decode cL_isDone 1328 = .ok (.iconst 0, 1) := by decide +kernel
theorem dL_isDone_1329 : decode cL_isDone 1329 = .ok (.istore 18, 2) := by decide +kernel
theorem dL_isDone_1331 : decode cL_isDone 1331 = .ok (.iload 18, 2) := by decide +kernel
theorem dL_isDone_1333 : decode cL_isDone 1333 = .ok (.ifCond .eq 47, 3) := by decide +kernel
theorem dL_isDone_1336 : decode cL_isDone 1336 = .ok (.iload 24, 2) := by decide +kernel
theorem dL_isDone_1338 : decode cL_isDone 1338 = .ok (.ifCond .ne 8, 3) := by decide +kernel
theorem dL_isDone_1341 : decode cL_isDone 1341 = .ok (.iload 25, 2) := by decide +kernel
theorem dL_isDone_1343 : decode cL_isDone 1343 = .ok (.ifCond .eq 33, 3) := by decide +kernel
theorem dL_isDone_1346 : decode cL_isDone 1346 = .ok (.aload_n 1, 1) := by decide +kernel
theorem dL_isDone_1347 : decode cL_isDone 1347 = .ok (.aload_n 3, 1) := by decide +kernel
theorem dL_isDone_1348 : decode cL_isDone 1348 = .ok (.aload 4, 2) := by decide +kernel
theorem dL_isDone_1350 : decode cL_isDone 1350 = .ok (.aload 5, 2) := by decide +kernel
theorem dL_isDone_1352 : decode cL_isDone 1352 = .ok (.aload 6, 2) := by decide +kernel
theorem dL_isDone_1354 : decode cL_isDone 1354 = .ok (.aload 8, 2) := by decide +kernel
theorem dL_isDone_1356 : decode cL_isDone 1356 = .ok (.aload 9, 2) := by decide +kernel
theorem dL_isDone_1358 : decode cL_isDone 1358 = .ok (.iload 24, 2) := by decide +kernel
theorem dL_isDone_1360 : decode cL_isDone 1360 = .ok (.iload 25, 2) := by decide +kernel
theorem dL_isDone_1362 : decode cL_isDone 1362 = .ok (.invokestatic 205, 3) := by decide +kernel
theorem dL_isDone_1365 : decode cL_isDone 1365 = .ok (.ifCond .eq 15, 3) := by decide +kernel
theorem dL_isDone_1368 : decode cL_isDone 1368 = .ok (.aload 9, 2) := by decide +kernel
theorem dL_isDone_1370 : decode cL_isDone 1370 = .ok (.bipush 14, 2) := by decide +kernel
theorem dL_isDone_1372 : decode cL_isDone 1372 = .ok (.iaload, 1) := by decide +kernel
theorem dL_isDone_1373 : decode cL_isDone 1373 = .ok (.ifCond .ne 7, 3) := by decide +kernel
theorem dL_isDone_1376 : decode cL_isDone 1376 = .ok (.iconst 1, 1) := by decide +kernel
theorem dL_isDone_1377 : decode cL_isDone 1377 = .ok (.goto 4, 3) := by decide +kernel
theorem dL_isDone_1380 : decode cL_isDone 1380 = .ok (.iconst 0, 1) := by decide +kernel
theorem dL_isDone_1381 : decode cL_isDone 1381 = .ok (.istore 18, 2) := by decide +kernel
theorem dL_isDone_1383 : decode cL_isDone 1383 = .ok (.iload 17, 2) := by decide +kernel
theorem dL_isDone_1385 : decode cL_isDone 1385 = .ok (.iload 18, 2) := by decide +kernel
theorem dL_isDone_1387 : decode cL_isDone 1387 = .ok (.ifCond .eq 7, 3) := by decide +kernel
theorem dL_isDone_1390 : decode cL_isDone 1390 = .ok (.iconst 1, 1) := by decide +kernel
theorem dL_isDone_1391 : decode cL_isDone 1391 = .ok (.goto 4, 3) := by decide +kernel
theorem dL_isDone_1394 : decode cL_isDone 1394 = .ok (.iconst 0, 1) := by decide +kernel
theorem dL_isDone_1395 : decode cL_isDone 1395 = .ok (.iadd, 1) := by decide +kernel
theorem dL_isDone_1396 : decode cL_isDone 1396 = .ok (.istore 17, 2) := by decide +kernel
theorem dL_isDone_1398 : decode cL_isDone 1398 = .ok (.aload 9, 2) := by decide +kernel
theorem dL_isDone_1400 : decode cL_isDone 1400 = .ok (.bipush 13, 2) := by decide +kernel
theorem dL_isDone_1402 : decode cL_isDone 1402 = .ok (.iload 18, 2) := by decide +kernel
theorem dL_isDone_1404 : decode cL_isDone 1404 = .ok (.ifCond .eq 19, 3) := by decide +kernel
theorem dL_isDone_1407 : decode cL_isDone 1407 = .ok (.aload 9, 2) := by decide +kernel
theorem dL_isDone_1409 : decode cL_isDone 1409 = .ok (.bipush 13, 2) := by decide +kernel
theorem dL_isDone_1411 : decode cL_isDone 1411 = .ok (.iaload, 1) := by decide +kernel
theorem dL_isDone_1412 : decode cL_isDone 1412 = .ok (.iconst 1, 1) := by decide +kernel
theorem dL_isDone_1413 : decode cL_isDone 1413 = .ok (.iadd, 1) := by decide +kernel
theorem dL_isDone_1414 : decode cL_isDone 1414 = .ok (.aload 9, 2) := by decide +kernel
theorem dL_isDone_1416 : decode cL_isDone 1416 = .ok (.bipush 12, 2) := by decide +kernel
theorem dL_isDone_1418 : decode cL_isDone 1418 = .ok (.iaload, 1) := by decide +kernel
theorem dL_isDone_1419 : decode cL_isDone 1419 = .ok (.irem, 1) := by decide +kernel
theorem dL_isDone_1420 : decode cL_isDone 1420 = .ok (.goto 8, 3) := by decide +kernel
theorem dL_isDone_1423 : decode cL_isDone 1423 = .ok (.aload 9, 2) := by decide +kernel
theorem dL_isDone_1425 : decode cL_isDone 1425 = .ok (.bipush 13, 2) := by decide +kernel
theorem dL_isDone_1427 : decode cL_isDone 1427 = .ok (.iaload, 1) := by decide +kernel
theorem dL_isDone_1428 : decode cL_isDone 1428 = .ok (.iastore, 1) := by decide +kernel
theorem dL_isDone_1429 : decode cL_isDone 1429 = .ok (.goto (-276), 3) := by decide +kernel
theorem dL_isDone_1432 : decode cL_isDone 1432 = .ok (.aload_n 0, 1) := by decide +kernel
theorem dL_isDone_1433 : decode cL_isDone 1433 = .ok (.bipush 10, 2) := by decide +kernel
theorem dL_isDone_1435 : decode cL_isDone 1435 = .ok (.iload 15, 2) := by decide +kernel
theorem dL_isDone_1437 : decode cL_isDone 1437 = .ok (.iconst 0, 1) := by decide +kernel
theorem dL_isDone_1438 : decode cL_isDone 1438 = .ok (.iconst 0, 1) := by decide +kernel
theorem dL_isDone_1439 : decode cL_isDone 1439 = .ok (.iconst 0, 1) := by decide +kernel
theorem dL_isDone_1440 : decode cL_isDone 1440 = .ok (.iconst 0, 1) := by decide +kernel
theorem dL_isDone_1441 : decode cL_isDone 1441 = .ok (.invokestatic 190, 3) := by decide +kernel
theorem dL_isDone_1444 : decode cL_isDone 1444 = .ok (.iload 16, 2) := by decide +kernel
theorem dL_isDone_1446 : decode cL_isDone 1446 = .ok (.ifCond .ne 8, 3) := by decide +kernel
theorem dL_isDone_1449 : decode cL_isDone 1449 = .ok (.ldc 65, 2) := by decide +kernel
theorem dL_isDone_1451 : decode cL_isDone 1451 = .ok (.goto 15, 3) := by decide +kernel
theorem dL_isDone_1454 : decode cL_isDone 1454 = .ok (.iload 19, 2) := by decide +kernel
theorem dL_isDone_1456 : decode cL_isDone 1456 = .ok (.ifCond .eq 8, 3) := by decide +kernel
theorem dL_isDone_1459 : decode cL_isDone 1459 = .ok (.iload 17, 2) := by decide +kernel
theorem dL_isDone_1461 : decode cL_isDone 1461 = .ok (.goto 5, 3) := by decide +kernel
theorem dL_isDone_1464 : decode cL_isDone 1464 = .ok (.ldc 68, 2) := by decide +kernel
theorem dL_isDone_1466 : decode cL_isDone 1466 = .ok (.if_icmp .ne 7, 3) := by decide +kernel
theorem dL_isDone_1469 : decode cL_isDone 1469 = .ok (.iconst 1, 1) := by decide +kernel
theorem dL_isDone_1470 : decode cL_isDone 1470 = .ok (.goto 4, 3) := by decide +kernel
theorem dL_isDone_1473 : decode cL_isDone 1473 = .ok (.iconst 0, 1) := by decide +kernel
theorem dL_isDone_1474 : decode cL_isDone 1474 = .ok (.ireturn, 1) := by decide +kernel
theorem dL_law_0 : decode cL_law 0 = .ok (.new 9, 3) := by decide +kernel
theorem dL_law_3 : decode cL_law 3 = .ok (.dup, 1) := by decide +kernel
theorem dL_law_4 : decode cL_law 4 = .ok (.invokespecial 209, 3) := by decide +kernel
theorem dL_law_7 : decode cL_law 7 = .ok (.astore_n 1, 1) := by decide +kernel
theorem dL_law_8 : decode cL_law 8 = .ok (.bipush 50, 2) := by decide +kernel
theorem dL_law_10 : decode cL_law 10 = .ok (.newarray .long, 2) := by decide +kernel
theorem dL_law_12 : decode cL_law 12 = .ok (.astore_n 2, 1) := by decide +kernel
theorem dL_law_13 : decode cL_law 13 = .ok (.bipush 25, 2) := by decide +kernel
theorem dL_law_15 : decode cL_law 15 = .ok (.newarray .long, 2) := by decide +kernel
theorem dL_law_17 : decode cL_law 17 = .ok (.astore_n 3, 1) := by decide +kernel
theorem dL_law_18 : decode cL_law 18 = .ok (.bipush 50, 2) := by decide +kernel
theorem dL_law_20 : decode cL_law 20 = .ok (.newarray .long, 2) := by decide +kernel
theorem dL_law_22 : decode cL_law 22 = .ok (.astore 4, 2) := by decide +kernel
theorem dL_law_24 : decode cL_law 24 = .ok (.bipush 6, 2) := by decide +kernel
theorem dL_law_26 : decode cL_law 26 = .ok (.newarray .int, 2) := by decide +kernel
theorem dL_law_28 : decode cL_law 28 = .ok (.astore 5, 2) := by decide +kernel
theorem dL_law_30 : decode cL_law 30 = .ok (.bipush 6, 2) := by decide +kernel
theorem dL_law_32 : decode cL_law 32 = .ok (.newarray .int, 2) := by decide +kernel
theorem dL_law_34 : decode cL_law 34 = .ok (.astore 6, 2) := by decide +kernel
theorem dL_law_36 : decode cL_law 36 = .ok (.bipush 6, 2) := by decide +kernel
theorem dL_law_38 : decode cL_law 38 = .ok (.newarray .int, 2) := by decide +kernel
theorem dL_law_40 : decode cL_law 40 = .ok (.astore 7, 2) := by decide +kernel
theorem dL_law_42 : decode cL_law 42 = .ok (.bipush 8, 2) := by decide +kernel
theorem dL_law_44 : decode cL_law 44 = .ok (.newarray .int, 2) := by decide +kernel
theorem dL_law_46 : decode cL_law 46 = .ok (.astore 8, 2) := by decide +kernel
theorem dL_law_48 : decode cL_law 48 = .ok (.bipush 41, 2) := by decide +kernel
theorem dL_law_50 : decode cL_law 50 = .ok (.newarray .int, 2) := by decide +kernel
theorem dL_law_52 : decode cL_law 52 = .ok (.astore 9, 2) := by decide +kernel
theorem dL_law_54 : decode cL_law 54 = .ok (.bipush 15, 2) := by decide +kernel
theorem dL_law_56 : decode cL_law 56 = .ok (.newarray .int, 2) := by decide +kernel
theorem dL_law_58 : decode cL_law 58 = .ok (.astore 10, 2) := by decide +kernel
theorem dL_law_60 : decode cL_law 60 = .ok (.iconst 0, 1) := by decide +kernel
theorem dL_law_61 : decode cL_law 61 = .ok (.istore 11, 2) := by decide +kernel
theorem dL_law_63 : decode cL_law 63 = .ok (.iload 11, 2) := by decide +kernel
theorem dL_law_65 : decode cL_law 65 = .ok (.bipush 50, 2) := by decide +kernel
theorem dL_law_67 : decode cL_law 67 = .ok (.if_icmp .ge 26, 3) := by decide +kernel
theorem dL_law_70 : decode cL_law 70 = .ok (.aload 4, 2) := by decide +kernel
theorem dL_law_72 : decode cL_law 72 = .ok (.iload 11, 2) := by decide +kernel
theorem dL_law_74 : decode cL_law 74 = .ok (.ldc2_w 210, 3) := by decide +kernel
theorem dL_law_77 : decode cL_law 77 = .ok (.lastore, 1) := by decide +kernel
theorem dL_law_78 : decode cL_law 78 = .ok (.aload_n 3, 1) := by decide +kernel
theorem dL_law_79 : decode cL_law 79 = .ok (.iload 11, 2) := by decide +kernel
theorem dL_law_81 : decode cL_law 81 = .ok (.iconst 2, 1) := by decide +kernel
theorem dL_law_82 : decode cL_law 82 = .ok (.idiv, 1) := by decide +kernel
theorem dL_law_83 : decode cL_law 83 = .ok (.ldc2_w 212, 3) := by decide +kernel
theorem dL_law_86 : decode cL_law 86 = .ok (.lastore, 1) := by decide +kernel
theorem dL_law_87 : decode cL_law 87 = .ok (.iinc 11 1, 3) := by decide +kernel
theorem dL_law_90 : decode cL_law 90 = .ok (.goto (-27), 3) := by decide +kernel
theorem dL_law_93 : decode cL_law 93 = .ok (.aload 10, 2) := by decide +kernel
theorem dL_law_95 : decode cL_law 95 = .ok (.iconst 1, 1) := by decide +kernel
theorem dL_law_96 : decode cL_law 96 = .ok (.bipush 10, 2) := by decide +kernel
theorem dL_law_98 : decode cL_law 98 = .ok (.iastore, 1) := by decide +kernel
theorem dL_law_99 : decode cL_law 99 = .ok (.aload 10, 2) := by decide +kernel
theorem dL_law_101 : decode cL_law 101 = .ok (.iconst 2, 1) := by decide +kernel
theorem dL_law_102 : decode cL_law 102 = .ok (.bipush 10, 2) := by decide +kernel
theorem dL_law_104 : decode cL_law 104 = .ok (.iastore, 1) := by decide +kernel
theorem dL_law_105 : decode cL_law 105 = .ok (.aload 10, 2) := by decide +kernel
theorem dL_law_107 : decode cL_law 107 = .ok (.iconst 3, 1) := by decide +kernel
theorem dL_law_108 : decode cL_law 108 = .ok (.sipush 1000, 3) := by decide +kernel
theorem dL_law_111 : decode cL_law 111 = .ok (.iastore, 1) := by decide +kernel
theorem dL_law_112 : decode cL_law 112 = .ok (.aload_n 1, 1) := by decide +kernel
theorem dL_law_113 : decode cL_law 113 = .ok (.bipush 6, 2) := by decide +kernel
theorem dL_law_115 : decode cL_law 115 = .ok (.iconst 0, 1) := by decide +kernel
theorem dL_law_116 : decode cL_law 116 = .ok (.iconst 0, 1) := by decide +kernel
theorem dL_law_117 : decode cL_law 117 = .ok (.iconst 0, 1) := by decide +kernel
theorem dL_law_118 : decode cL_law 118 = .ok (.iconst 0, 1) := by decide +kernel
theorem dL_law_119 : decode cL_law 119 = .ok (.iconst 0, 1) := by decide +kernel
theorem dL_law_120 : decode cL_law 120 = .ok (.invokestatic 190, 3) := by decide +kernel
theorem dL_law_123 : decode cL_law 123 = .ok (.ldc 68, 2) := by decide +kernel
theorem dL_law_125 : decode cL_law 125 = .ok (.if_icmp .ne 104, 3) := by decide +kernel
theorem dL_law_128 : decode cL_law 128 = .ok (.aload_n 1, 1) := by decide +kernel
theorem dL_law_129 : decode cL_law 129 = .ok (.bipush 7, 2) := by decide +kernel
theorem dL_law_131 : decode cL_law 131 = .ok (.iconst 0, 1) := by decide +kernel
theorem dL_law_132 : decode cL_law 132 = .ok (.iconst 0, 1) := by decide +kernel
theorem dL_law_133 : decode cL_law 133 = .ok (.iconst 0, 1) := by decide +kernel
theorem dL_law_134 : decode cL_law 134 = .ok (.iconst 0, 1) := by decide +kernel
theorem dL_law_135 : decode cL_law 135 = .ok (.iconst 0, 1) := by decide +kernel
theorem dL_law_136 : decode cL_law 136 = .ok (.invokestatic 190, 3) := by decide +kernel
theorem dL_law_139 : decode cL_law 139 = .ok (.ldc 62, 2) := by decide +kernel
theorem dL_law_141 : decode cL_law 141 = .ok (.if_icmp .ne 88, 3) := by decide +kernel
theorem dL_law_144 : decode cL_law 144 = .ok (.aload_n 1, 1) := by decide +kernel
theorem dL_law_145 : decode cL_law 145 = .ok (.bipush 9, 2) := by decide +kernel
theorem dL_law_147 : decode cL_law 147 = .ok (.iconst 0, 1) := by decide +kernel
theorem dL_law_148 : decode cL_law 148 = .ok (.iconst 0, 1) := by decide +kernel
theorem dL_law_149 : decode cL_law 149 = .ok (.iconst 0, 1) := by decide +kernel
theorem dL_law_150 : decode cL_law 150 = .ok (.iconst 0, 1) := by decide +kernel
theorem dL_law_151 : decode cL_law 151 = .ok (.iconst 0, 1) := by decide +kernel
theorem dL_law_152 : decode cL_law 152 = .ok (.invokestatic 190, 3) := by decide +kernel
theorem dL_law_155 : decode cL_law 155 = .ok (.ldc 65, 2) := by decide +kernel
theorem dL_law_157 : decode cL_law 157 = .ok (.if_icmp .ne 72, 3) := by decide +kernel
theorem dL_law_160 : decode cL_law 160 = .ok (.aload_n 1, 1) := by decide +kernel
theorem dL_law_161 : decode cL_law 161 = .ok (.bipush 9, 2) := by decide +kernel
theorem dL_law_163 : decode cL_law 163 = .ok (.iconst 1, 1) := by decide +kernel
theorem dL_law_164 : decode cL_law 164 = .ok (.iconst 0, 1) := by decide +kernel
theorem dL_law_165 : decode cL_law 165 = .ok (.iconst 0, 1) := by decide +kernel
theorem dL_law_166 : decode cL_law 166 = .ok (.iconst 0, 1) := by decide +kernel
theorem dL_law_167 : decode cL_law 167 = .ok (.iconst 0, 1) := by decide +kernel
theorem dL_law_168 : decode cL_law 168 = .ok (.invokestatic 190, 3) := by decide +kernel
theorem dL_law_171 : decode cL_law 171 = .ok (.ldc 68, 2) := by decide +kernel
theorem dL_law_173 : decode cL_law 173 = .ok (.if_icmp .ne 56, 3) := by decide +kernel
theorem dL_law_176 : decode cL_law 176 = .ok (.aload_n 1, 1) := by decide +kernel
theorem dL_law_177 : decode cL_law 177 = .ok (.bipush 10, 2) := by decide +kernel
theorem dL_law_179 : decode cL_law 179 = .ok (.iconst 1, 1) := by decide +kernel
theorem dL_law_180 : decode cL_law 180 = .ok (.iconst 0, 1) := by decide +kernel
theorem dL_law_181 : decode cL_law 181 = .ok (.iconst 0, 1) := by decide +kernel
theorem dL_law_182 : decode cL_law 182 = .ok (.iconst 0, 1) := by decide +kernel
theorem dL_law_183 : decode cL_law 183 = .ok (.iconst 0, 1) := by decide +kernel
theorem dL_law_184 : decode cL_law 184 = .ok (.invokestatic 190, 3) := by decide +kernel
theorem dL_law_187 : decode cL_law 187 = .ok (.ldc 68, 2) := by decide +kernel
theorem dL_law_189 : decode cL_law 189 = .ok (.if_icmp .ne 40, 3) := by decide +kernel
theorem dL_law_192 : decode cL_law 192 = .ok (.aload_n 1, 1) := by decide +kernel
theorem dL_law_193 : decode cL_law 193 = .ok (.bipush 11, 2) := by decide +kernel
theorem dL_law_195 : decode cL_law 195 = .ok (.iconst (-1), 1) := by decide +kernel
theorem dL_law_196 : decode cL_law 196 = .ok (.iconst 0, 1) := by decide +kernel
theorem dL_law_197 : decode cL_law 197 = .ok (.iconst 0, 1) := by decide +kernel
theorem dL_law_198 : decode cL_law 198 = .ok (.iconst 0, 1) := by decide +kernel
theorem dL_law_199 : decode cL_law 199 = .ok (.iconst 0, 1) := by decide +kernel
theorem dL_law_200 : decode cL_law 200 = .ok (.invokestatic 190, 3) := by decide +kernel
theorem dL_law_203 : decode cL_law 203 = .ok (.ldc 65, 2) := by decide +kernel
theorem dL_law_205 : decode cL_law 205 = .ok (.if_icmp .ne 24, 3) := by decide +kernel
theorem dL_law_208 : decode cL_law 208 = .ok (.aload_n 1, 1) := by decide +kernel
theorem dL_law_209 : decode cL_law 209 = .ok (.bipush 13, 2) := by decide +kernel
theorem dL_law_211 : decode cL_law 211 = .ok (.bipush 20, 2) := by decide +kernel
theorem dL_law_213 : decode cL_law 213 = .ok (.iconst 0, 1) := by decide +kernel
theorem dL_law_214 : decode cL_law 214 = .ok (.iconst 0, 1) := by decide +kernel
theorem dL_law_215 : decode cL_law 215 = .ok (.iconst 0, 1) := by decide +kernel
theorem dL_law_216 : decode cL_law 216 = .ok (.iconst 0, 1) := by decide +kernel
theorem dL_law_217 : decode cL_law 217 = .ok (.invokestatic 190, 3) := by decide +kernel
theorem dL_law_220 : decode cL_law 220 = .ok (.ldc 65, 2) := by decide +kernel
theorem dL_law_222 : decode cL_law 222 = .ok (.if_icmp .ne 7, 3) := by decide +kernel
theorem dL_law_225 : decode cL_law 225 = .ok (.iconst 1, 1) := by decide +kernel
theorem dL_law_226 : decode cL_law 226 = .ok (.goto 4, 3) := by decide +kernel
theorem dL_law_229 : decode cL_law 229 = .ok (.iconst 0, 1) := by decide +kernel
theorem dL_law_230 : decode cL_law 230 = .ok (.istore 11, 2) := by decide +kernel
theorem dL_law_232 : decode cL_law 232 = .ok (.iconst 0, 1) := by decide +kernel
theorem dL_law_233 : decode cL_law 233 = .ok (.istore 12, 2) := by decide +kernel
theorem dL_law_235 : decode cL_law 235 = .ok (.iload 12, 2) := by decide +kernel
theorem dL_law_237 : decode cL_law 237 = .ok (.bipush 60, 2) := by decide +kernel
theorem dL_law_239 : decode cL_law 239 = .ok (.if_icmp .ge 297, 3) := by decide +kernel
theorem dL_law_242 : decode cL_law 242 = .ok (.iload 11, 2) := by decide +kernel
theorem dL_law_244 : decode cL_law 244 = .ok (.ifCond .eq 292, 3) := by decide +kernel
theorem dL_law_247 : decode cL_law 247 = .ok (.iload 12, 2) := by decide +kernel
theorem dL_law_249 : decode cL_law 249 = .ok (.iconst 4, 1) := by decide +kernel
theorem dL_law_250 : decode cL_law 250 = .ok (.if_icmp .ge 8, 3) := by decide +kernel
theorem dL_law_253 : decode cL_law 253 = .ok (.bipush 9, 2) := by decide +kernel
theorem dL_law_255 : decode cL_law 255 = .ok (.goto 36, 3) := by decide +kernel
theorem dL_law_258 : decode cL_law 258 = .ok (.iload 12, 2) := by decide +kernel
theorem dL_law_260 : decode cL_law 260 = .ok (.bipush 6, 2) := by decide +kernel
theorem dL_law_262 : decode cL_law 262 = .ok (.if_icmp .ge 7, 3) := by decide +kernel
theorem dL_law_265 : decode cL_law 265 = .ok (.iconst 0, 1) := by decide +kernel
theorem dL_law_266 : decode cL_law 266 = .ok (.goto 25, 3) := by decide +kernel
theorem dL_law_269 : decode cL_law 269 = .ok (.iload 12, 2) := by decide +kernel
theorem dL_law_271 : decode cL_law 271 = .ok (.bipush 7, 2) := by decide +kernel
theorem dL_law_273 : decode cL_law 273 = .ok (.if_icmp .ge 8, 3) := by decide +kernel
theorem dL_law_276 : decode cL_law 276 = .ok (.bipush 22, 2) := by decide +kernel
theorem dL_law_278 : decode cL_law 278 = .ok (.goto 13, 3) := by decide +kernel
theorem dL_law_281 : decode cL_law 281 = .ok (.aload_n 0, 1) := by decide +kernel
theorem dL_law_282 : decode cL_law 282 = .ok (.iconst 3, 1) := by decide +kernel
theorem dL_law_283 : decode cL_law 283 = .ok (.iload 12, 2) := by decide +kernel
theorem dL_law_285 : decode cL_law 285 = .ok (.imul, 1) := by decide +kernel
theorem dL_law_286 : decode cL_law 286 = .ok (.bipush 56, 2) := by decide +kernel
theorem dL_law_288 : decode cL_law 288 = .ok (.invokestatic 214, 3) := by decide +kernel
theorem dL_law_291 : decode cL_law 291 = .ok (.istore 13, 2) := by decide +kernel
theorem dL_law_293 : decode cL_law 293 = .ok (.aload_n 0, 1) := by decide +kernel
theorem dL_law_294 : decode cL_law 294 = .ok (.iconst 3, 1) := by decide +kernel
theorem dL_law_295 : decode cL_law 295 = .ok (.iload 12, 2) := by decide +kernel
theorem dL_law_297 : decode cL_law 297 = .ok (.imul, 1) := by decide +kernel
theorem dL_law_298 : decode cL_law 298 = .ok (.iconst 1, 1) := by decide +kernel
theorem dL_law_299 : decode cL_law 299 = .ok (.iadd, 1) := by decide +kernel
theorem dL_law_300 : decode cL_law 300 = .ok (.ldc 218, 2) := by decide +kernel
theorem dL_law_302 : decode cL_law 302 = .ok (.invokestatic 214, 3) := by decide +kernel
theorem dL_law_305 : decode cL_law 305 = .ok (.istore 14, 2) := by decide +kernel
theorem dL_law_307 : decode cL_law 307 = .ok (.aload_n 0, 1) := by decide +kernel
theorem dL_law_308 : decode cL_law 308 = .ok (.iconst 3, 1) := by decide +kernel
theorem dL_law_309 : decode cL_law 309 = .ok (.iload 12, 2) := by decide +kernel
theorem dL_law_311 : decode cL_law 311 = .ok (.imul, 1) := by decide +kernel
theorem dL_law_312 : decode cL_law 312 = .ok (.iconst 2, 1) := by decide +kernel
theorem dL_law_313 : decode cL_law 313 = .ok (.iadd, 1) := by decide +kernel
theorem dL_law_314 : decode cL_law 314 = .ok (.ldc 218, 2) := by decide +kernel
theorem dL_law_316 : decode cL_law 316 = .ok (.invokestatic 214, 3) := by decide +kernel
theorem dL_law_319 : decode cL_law 319 = .ok (.istore 15, 2) := by decide +kernel
theorem dL_law_321 : decode cL_law 321 = .ok (.iload 13, 2) := by decide +kernel
theorem dL_law_323 : decode cL_law 323 = .ok (.bipush 18, 2) := by decide +kernel
theorem dL_law_325 : decode cL_law 325 = .ok (.if_icmp .ge 86, 3) := by decide +kernel
theorem dL_law_328 : decode cL_law 328 = .ok (.aload_n 1, 1) := by decide +kernel
theorem dL_law_329 : decode cL_law 329 = .ok (.aload_n 2, 1) := by decide +kernel
theorem dL_law_330 : decode cL_law 330 = .ok (.aload_n 3, 1) := by decide +kernel
theorem dL_law_331 : decode cL_law 331 = .ok (.aload 4, 2) := by decide +kernel
theorem dL_law_333 : decode cL_law 333 = .ok (.aload 5, 2) := by decide +kernel
theorem dL_law_335 : decode cL_law 335 = .ok (.aload 6, 2) := by decide +kernel
theorem dL_law_337 : decode cL_law 337 = .ok (.aload 7, 2) := by decide +kernel
theorem dL_law_339 : decode cL_law 339 = .ok (.aload 8, 2) := by decide +kernel
theorem dL_law_341 : decode cL_law 341 = .ok (.aload 10, 2) := by decide +kernel
theorem dL_law_343 : decode cL_law 343 = .ok (.iload 13, 2) := by decide +kernel
theorem dL_law_345 : decode cL_law 345 = .ok (.bipush 6, 2) := by decide +kernel
theorem dL_law_347 : decode cL_law 347 = .ok (.if_icmp .ge 7, 3) := by decide +kernel
theorem dL_law_350 : decode cL_law 350 = .ok (.iconst 0, 1) := by decide +kernel
theorem dL_law_351 : decode cL_law 351 = .ok (.goto 48, 3) := by decide +kernel
theorem dL_law_354 : decode cL_law 354 = .ok (.iload 13, 2) := by decide +kernel
theorem dL_law_356 : decode cL_law 356 = .ok (.bipush 9, 2) := by decide +kernel
theorem dL_law_358 : decode cL_law 358 = .ok (.if_icmp .ge 7, 3) := by decide +kernel
theorem dL_law_361 : decode cL_law 361 = .ok (.iconst 1, 1) := by decide +kernel
theorem dL_law_362 : decode cL_law 362 = .ok (.goto 37, 3) := by decide +kernel
theorem dL_law_365 : decode cL_law 365 = .ok (.iload 13, 2) := by decide +kernel
theorem dL_law_367 : decode cL_law 367 = .ok (.bipush 12, 2) := by decide +kernel
theorem dL_law_369 : decode cL_law 369 = .ok (.if_icmp .ge 7, 3) := by decide +kernel
theorem dL_law_372 : decode cL_law 372 = .ok (.iconst 2, 1) := by decide +kernel
theorem dL_law_373 : decode cL_law 373 = .ok (.goto 26, 3) := by decide +kernel
theorem dL_law_376 : decode cL_law 376 = .ok (.iload 13, 2) := by decide +kernel
theorem dL_law_378 : decode cL_law 378 = .ok (.bipush 12, 2) := by decide +kernel
theorem dL_law_380 : decode cL_law 380 = .ok (.if_icmp .ne 7, 3) := by decide +kernel
theorem dL_law_383 : decode cL_law 383 = .ok (.iconst 3, 1) := by decide +kernel
theorem dL_law_384 : decode cL_law 384 = .ok (.goto 15, 3) := by decide +kernel
theorem dL_law_387 : decode cL_law 387 = .ok (.iload 13, 2) := by decide +kernel
theorem dL_law_389 : decode cL_law 389 = .ok (.bipush 17, 2) := by decide +kernel
theorem dL_law_391 : decode cL_law 391 = .ok (.if_icmp .ge 7, 3) := by decide +kernel
theorem dL_law_394 : decode cL_law 394 = .ok (.iconst 4, 1) := by decide +kernel
theorem dL_law_395 : decode cL_law 395 = .ok (.goto 4, 3) := by decide +kernel
theorem dL_law_398 : decode cL_law 398 = .ok (.iconst 5, 1) := by decide +kernel
theorem dL_law_399 : decode cL_law 399 = .ok (.iload 14, 2) := by decide +kernel
theorem dL_law_401 : decode cL_law 401 = .ok (.iload 15, 2) := by decide +kernel
theorem dL_law_403 : decode cL_law 403 = .ok (.invokestatic 219, 3) := by decide +kernel
theorem dL_law_406 : decode cL_law 406 = .ok (.istore 11, 2) := by decide +kernel
theorem dL_law_408 : decode cL_law 408 = .ok (.goto 85, 3) := by decide +kernel
theorem dL_law_411 : decode cL_law 411 = .ok (.aload_n 1, 1) := by decide +kernel
theorem dL_law_412 : decode cL_law 412 = .ok (.aload_n 2, 1) := by decide +kernel
theorem dL_law_413 : decode cL_law 413 = .ok (.aload_n 3, 1) := by decide +kernel
theorem dL_law_414 : decode cL_law 414 = .ok (.aload 4, 2) := by decide +kernel
theorem dL_law_416 : decode cL_law 416 = .ok (.aload 5, 2) := by decide +kernel
theorem dL_law_418 : decode cL_law 418 = .ok (.aload 6, 2) := by decide +kernel
theorem dL_law_420 : decode cL_law 420 = .ok (.aload 7, 2) := by decide +kernel
theorem dL_law_422 : decode cL_law 422 = .ok (.aload 8, 2) := by decide +kernel
theorem dL_law_424 : decode cL_law 424 = .ok (.aload 9, 2) := by decide +kernel
theorem dL_law_426 : decode cL_law 426 = .ok (.aload 10, 2) := by decide +kernel
theorem dL_law_428 : decode cL_law 428 = .ok (.iload 13, 2) := by decide +kernel
theorem dL_law_430 : decode cL_law 430 = .ok (.bipush 21, 2) := by decide +kernel
theorem dL_law_432 : decode cL_law 432 = .ok (.if_icmp .ge 7, 3) := by decide +kernel
theorem dL_law_435 : decode cL_law 435 = .ok (.iconst 0, 1) := by decide +kernel
theorem dL_law_436 : decode cL_law 436 = .ok (.goto 48, 3) := by decide +kernel
theorem dL_law_439 : decode cL_law 439 = .ok (.iload 13, 2) := by decide +kernel
theorem dL_law_441 : decode cL_law 441 = .ok (.bipush 29, 2) := by decide +kernel
theorem dL_law_443 : decode cL_law 443 = .ok (.if_icmp .ge 7, 3) := by decide +kernel
theorem dL_law_446 : decode cL_law 446 = .ok (.iconst 1, 1) := by decide +kernel
theorem dL_law_447 : decode cL_law 447 = .ok (.goto 37, 3) := by decide +kernel
theorem dL_law_450 : decode cL_law 450 = .ok (.iload 13, 2) := by decide +kernel
theorem dL_law_452 : decode cL_law 452 = .ok (.bipush 37, 2) := by decide +kernel
theorem dL_law_454 : decode cL_law 454 = .ok (.if_icmp .ge 7, 3) := by decide +kernel
theorem dL_law_457 : decode cL_law 457 = .ok (.iconst 2, 1) := by decide +kernel
theorem dL_law_458 : decode cL_law 458 = .ok (.goto 26, 3) := by decide +kernel
theorem dL_law_461 : decode cL_law 461 = .ok (.iload 13, 2) := by decide +kernel
theorem dL_law_463 : decode cL_law 463 = .ok (.bipush 45, 2) := by decide +kernel
theorem dL_law_465 : decode cL_law 465 = .ok (.if_icmp .ge 7, 3) := by decide +kernel
theorem dL_law_468 : decode cL_law 468 = .ok (.iconst 3, 1) := by decide +kernel
theorem dL_law_469 : decode cL_law 469 = .ok (.goto 15, 3) := by decide +kernel
theorem dL_law_472 : decode cL_law 472 = .ok (.iload 13, 2) := by decide +kernel
theorem dL_law_474 : decode cL_law 474 = .ok (.bipush 51, 2) := by decide +kernel
theorem dL_law_476 : decode cL_law 476 = .ok (.if_icmp .ge 7, 3) := by decide +kernel
theorem dL_law_479 : decode cL_law 479 = .ok (.iconst 4, 1) := by decide +kernel
theorem dL_law_480 : decode cL_law 480 = .ok (.goto 4, 3) := by decide +kernel
theorem dL_law_483 : decode cL_law 483 = .ok (.iconst 5, 1) := by decide +kernel
theorem dL_law_484 : decode cL_law 484 = .ok (.iload 14, 2) := by decide +kernel
theorem dL_law_486 : decode cL_law 486 = .ok (.iload 15, 2) := by decide +kernel
theorem dL_law_488 : decode cL_law 488 = .ok (.invokestatic 223, 3) := by decide +kernel
theorem dL_law_491 : decode cL_law 491 = .ok (.istore 11, 2) := by decide +kernel
theorem dL_law_493 : decode cL_law 493 = .ok (.iload 11, 2) := by decide +kernel
theorem dL_law_495 : decode cL_law 495 = .ok (.ifCond .eq 32, 3) := by decide +kernel
theorem dL_law_498 : decode cL_law 498 = .ok (.aload_n 1, 1) := by decide +kernel
theorem dL_law_499 : decode cL_law 499 = .ok (.aload_n 2, 1) := by decide +kernel
theorem dL_law_500 : decode cL_law 500 = .ok (.aload_n 3, 1) := by decide +kernel
theorem dL_law_501 : decode cL_law 501 = .ok (.aload 4, 2) := by decide +kernel
theorem dL_law_503 : decode cL_law 503 = .ok (.aload 5, 2) := by decide +kernel
theorem dL_law_505 : decode cL_law 505 = .ok (.aload 6, 2) := by decide +kernel
theorem dL_law_507 : decode cL_law 507 = .ok (.aload 7, 2) := by decide +kernel
theorem dL_law_509 : decode cL_law 509 = .ok (.aload 9, 2) := by decide +kernel
theorem dL_law_511 : decode cL_law 511 = .ok (.aload 10, 2) := by decide +kernel
theorem dL_law_513 : decode cL_law 513 = .ok (.iload 14, 2) := by decide +kernel
theorem dL_law_515 : decode cL_law 515 = .ok (.iload 15, 2) := by decide +kernel
theorem dL_law_517 : decode cL_law 517 = .ok (.invokestatic 227, 3) := by decide +kernel
theorem dL_law_520 : decode cL_law 520 = .ok (.ifCond .eq 7, 3) := by decide +kernel
theorem dL_law_523 : decode cL_law 523 = .ok (.iconst 1, 1) := by decide +kernel
theorem dL_law_524 : decode cL_law 524 = .ok (.goto 4, 3) := by decide +kernel
theorem dL_law_527 : decode cL_law 527 = .ok (.iconst 0, 1) := by decide +kernel
theorem dL_law_528 : decode cL_law 528 = .ok (.istore 11, 2) := by decide +kernel
theorem dL_law_530 : decode cL_law 530 = .ok (.iinc 12 1, 3) := by decide +kernel
theorem dL_law_533 : decode cL_law 533 = .ok (.goto (-298), 3) := by decide +kernel
theorem dL_law_536 : decode cL_law 536 = .ok (.iload 11, 2) := by decide +kernel
theorem dL_law_538 : decode cL_law 538 = .ok (.ireturn, 1) := by decide +kernel
