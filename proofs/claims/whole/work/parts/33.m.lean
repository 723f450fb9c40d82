theorem d12_isBarredWord_0 : decode prog_14_method_45_code 0 = .ok (.aload_n 0, 1) := by decide +kernel
theorem d12_isBarredWord_1 : decode prog_14_method_45_code 1 = .ok (.ldc_w 296, 3) := by decide +kernel
theorem d12_isBarredWord_4 : decode prog_14_method_45_code 4 = .ok (.invokevirtual 292, 3) := by decide +kernel
theorem d12_isBarredWord_7 : decode prog_14_method_45_code 7 = .ok (.ifCond .ne 93, 3) := by decide +kernel
theorem d12_isBarredWord_10 : decode prog_14_method_45_code 10 = .ok (.aload_n 0, 1) := by decide +kernel
theorem d12_isBarredWord_11 : decode prog_14_method_45_code 11 = .ok (.ldc_w 298, 3) := by decide +kernel
theorem d12_isBarredWord_14 : decode prog_14_method_45_code 14 = .ok (.invokevirtual 292, 3) := by decide +kernel
theorem d12_isBarredWord_17 : decode prog_14_method_45_code 17 = .ok (.ifCond .ne 83, 3) := by decide +kernel
theorem d12_isBarredWord_20 : decode prog_14_method_45_code 20 = .ok (.aload_n 0, 1) := by decide +kernel
theorem d12_isBarredWord_21 : decode prog_14_method_45_code 21 = .ok (.ldc_w 300, 3) := by decide +kernel
theorem d12_isBarredWord_24 : decode prog_14_method_45_code 24 = .ok (.invokevirtual 292, 3) := by decide +kernel
theorem d12_isBarredWord_27 : decode prog_14_method_45_code 27 = .ok (.ifCond .ne 73, 3) := by decide +kernel
theorem d12_isBarredWord_30 : decode prog_14_method_45_code 30 = .ok (.aload_n 0, 1) := by decide +kernel
theorem d12_isBarredWord_31 : decode prog_14_method_45_code 31 = .ok (.ldc_w 302, 3) := by decide +kernel
theorem d12_isBarredWord_34 : decode prog_14_method_45_code 34 = .ok (.invokevirtual 292, 3) := by decide +kernel
theorem d12_isBarredWord_37 : decode prog_14_method_45_code 37 = .ok (.ifCond .ne 63, 3) := by decide +kernel
theorem d12_isBarredWord_40 : decode prog_14_method_45_code 40 = .ok (.aload_n 0, 1) := by decide +kernel
theorem d12_isBarredWord_41 : decode prog_14_method_45_code 41 = .ok (.ldc_w 304, 3) := by decide +kernel
theorem d12_isBarredWord_44 : decode prog_14_method_45_code 44 = .ok (.invokevirtual 292, 3) := by decide +kernel
theorem d12_isBarredWord_47 : decode prog_14_method_45_code 47 = .ok (.ifCond .ne 53, 3) := by decide +kernel
theorem d12_isBarredWord_50 : decode prog_14_method_45_code 50 = .ok (.aload_n 0, 1) := by decide +kernel
theorem d12_isBarredWord_51 : decode prog_14_method_45_code 51 = .ok (.ldc_w 306, 3) := by decide +kernel
theorem d12_isBarredWord_54 : decode prog_14_method_45_code 54 = .ok (.invokevirtual 292, 3) := by decide +kernel
theorem d12_isBarredWord_57 : decode prog_14_method_45_code 57 = .ok (.ifCond .ne 43, 3) := by decide +kernel
theorem d12_isBarredWord_60 : decode prog_14_method_45_code 60 = .ok (.aload_n 0, 1) := by decide +kernel
theorem d12_isBarredWord_61 : decode prog_14_method_45_code 61 = .ok (.ldc_w 308, 3) := by decide +kernel
theorem d12_isBarredWord_64 : decode prog_14_method_45_code 64 = .ok (.invokevirtual 292, 3) := by decide +kernel
theorem d12_isBarredWord_67 : decode prog_14_method_45_code 67 = .ok (.ifCond .ne 33, 3) := by decide +kernel
theorem d12_isBarredWord_70 : decode prog_14_method_45_code 70 = .ok (.aload_n 0, 1) := by decide +kernel
theorem d12_isBarredWord_71 : decode prog_14_method_45_code 71 = .ok (.ldc_w 310, 3) := by decide +kernel
theorem d12_isBarredWord_74 : decode prog_14_method_45_code 74 = .ok (.invokevirtual 292, 3) := by decide +kernel
theorem d12_isBarredWord_77 : decode prog_14_method_45_code 77 = .ok (.ifCond .ne 23, 3) := by decide +kernel
theorem d12_isBarredWord_80 : decode prog_14_method_45_code 80 = .ok (.aload_n 0, 1) := by decide +kernel
theorem d12_isBarredWord_81 : decode prog_14_method_45_code 81 = .ok (.ldc_w 312, 3) := by decide +kernel
theorem d12_isBarredWord_84 : decode prog_14_method_45_code 84 = .ok (.invokevirtual 292, 3) := by decide +kernel
theorem d12_isBarredWord_87 : decode prog_14_method_45_code 87 = .ok (.ifCond .ne 13, 3) := by decide +kernel
theorem d12_isBarredWord_90 : decode prog_14_method_45_code 90 = .ok (.aload_n 0, 1) := by decide +kernel
theorem d12_isBarredWord_91 : decode prog_14_method_45_code 91 = .ok (.ldc_w 314, 3) := by decide +kernel
theorem d12_isBarredWord_94 : decode prog_14_method_45_code 94 = .ok (.invokevirtual 292, 3) := by decide +kernel
theorem d12_isBarredWord_97 : decode prog_14_method_45_code 97 = .ok (.ifCond .eq 7, 3) := by decide +kernel
theorem d12_isBarredWord_100 : decode prog_14_method_45_code 100 = .ok (.iconst 1, 1) := by decide +kernel
theorem d12_isBarredWord_101 : decode prog_14_method_45_code 101 = .ok (.goto 4, 3) := by decide +kernel
theorem d12_isBarredWord_104 : decode prog_14_method_45_code 104 = .ok (.iconst 0, 1) := by decide +kernel
theorem d12_isBarredWord_105 : decode prog_14_method_45_code 105 = .ok (.ireturn, 1) := by decide +kernel
theorem d12_name_0 : decode prog_14_method_46_code 0 = .ok (.aload_n 0, 1) := by decide +kernel
theorem d12_name_1 : decode prog_14_method_46_code 1 = .ok (.ldc_w 316, 3) := by decide +kernel
theorem d12_name_4 : decode prog_14_method_46_code 4 = .ok (.invokevirtual 292, 3) := by decide +kernel
theorem d12_name_7 : decode prog_14_method_46_code 7 = .ok (.ifCond .eq 7, 3) := by decide +kernel
theorem d12_name_10 : decode prog_14_method_46_code 10 = .ok (.iconst 0, 1) := by decide +kernel
theorem d12_name_11 : decode prog_14_method_46_code 11 = .ok (.goto 119, 3) := by decide +kernel
theorem d12_name_14 : decode prog_14_method_46_code 14 = .ok (.aload_n 0, 1) := by decide +kernel
theorem d12_name_15 : decode prog_14_method_46_code 15 = .ok (.ldc_w 318, 3) := by decide +kernel
theorem d12_name_18 : decode prog_14_method_46_code 18 = .ok (.invokevirtual 292, 3) := by decide +kernel
theorem d12_name_21 : decode prog_14_method_46_code 21 = .ok (.ifCond .eq 7, 3) := by decide +kernel
theorem d12_name_24 : decode prog_14_method_46_code 24 = .ok (.iconst 1, 1) := by decide +kernel
theorem d12_name_25 : decode prog_14_method_46_code 25 = .ok (.goto 105, 3) := by decide +kernel
theorem d12_name_28 : decode prog_14_method_46_code 28 = .ok (.aload_n 0, 1) := by decide +kernel
theorem d12_name_29 : decode prog_14_method_46_code 29 = .ok (.ldc_w 320, 3) := by decide +kernel
theorem d12_name_32 : decode prog_14_method_46_code 32 = .ok (.invokevirtual 292, 3) := by decide +kernel
theorem d12_name_35 : decode prog_14_method_46_code 35 = .ok (.ifCond .eq 7, 3) := by decide +kernel
theorem d12_name_38 : decode prog_14_method_46_code 38 = .ok (.iconst 2, 1) := by decide +kernel
theorem d12_name_39 : decode prog_14_method_46_code 39 = .ok (.goto 91, 3) := by decide +kernel
theorem d12_name_42 : decode prog_14_method_46_code 42 = .ok (.aload_n 0, 1) := by decide +kernel
theorem d12_name_43 : decode prog_14_method_46_code 43 = .ok (.ldc_w 322, 3) := by decide +kernel
theorem d12_name_46 : decode prog_14_method_46_code 46 = .ok (.invokevirtual 292, 3) := by decide +kernel
theorem d12_name_49 : decode prog_14_method_46_code 49 = .ok (.ifCond .eq 7, 3) := by decide +kernel
theorem d12_name_52 : decode prog_14_method_46_code 52 = .ok (.iconst 3, 1) := by decide +kernel
theorem d12_name_53 : decode prog_14_method_46_code 53 = .ok (.goto 77, 3) := by decide +kernel
theorem d12_name_56 : decode prog_14_method_46_code 56 = .ok (.aload_n 0, 1) := by decide +kernel
theorem d12_name_57 : decode prog_14_method_46_code 57 = .ok (.ldc_w 323, 3) := by decide +kernel
theorem d12_name_60 : decode prog_14_method_46_code 60 = .ok (.invokevirtual 292, 3) := by decide +kernel
theorem d12_name_63 : decode prog_14_method_46_code 63 = .ok (.ifCond .eq 7, 3) := by decide +kernel
theorem d12_name_66 : decode prog_14_method_46_code 66 = .ok (.iconst 4, 1) := by decide +kernel
theorem d12_name_67 : decode prog_14_method_46_code 67 = .ok (.goto 63, 3) := by decide +kernel
theorem d12_name_70 : decode prog_14_method_46_code 70 = .ok (.aload_n 0, 1) := by decide +kernel
theorem d12_name_71 : decode prog_14_method_46_code 71 = .ok (.ldc_w 325, 3) := by decide +kernel
theorem d12_name_74 : decode prog_14_method_46_code 74 = .ok (.invokevirtual 292, 3) := by decide +kernel
theorem d12_name_77 : decode prog_14_method_46_code 77 = .ok (.ifCond .eq 7, 3) := by decide +kernel
theorem d12_name_80 : decode prog_14_method_46_code 80 = .ok (.iconst 5, 1) := by decide +kernel
theorem d12_name_81 : decode prog_14_method_46_code 81 = .ok (.goto 49, 3) := by decide +kernel
theorem d12_name_84 : decode prog_14_method_46_code 84 = .ok (.aload_n 0, 1) := by decide +kernel
theorem d12_name_85 : decode prog_14_method_46_code 85 = .ok (.ldc_w 327, 3) := by decide +kernel
theorem d12_name_88 : decode prog_14_method_46_code 88 = .ok (.invokevirtual 292, 3) := by decide +kernel
theorem d12_name_91 : decode prog_14_method_46_code 91 = .ok (.ifCond .eq 8, 3) := by decide +kernel
theorem d12_name_94 : decode prog_14_method_46_code 94 = .ok (.bipush 6, 2) := by decide +kernel
theorem d12_name_96 : decode prog_14_method_46_code 96 = .ok (.goto 34, 3) := by decide +kernel
theorem d12_name_99 : decode prog_14_method_46_code 99 = .ok (.aload_n 0, 1) := by decide +kernel
theorem d12_name_100 : decode prog_14_method_46_code 100 = .ok (.ldc_w 328, 3) := by decide +kernel
theorem d12_name_103 : decode prog_14_method_46_code 103 = .ok (.invokevirtual 292, 3) := by decide +kernel
theorem d12_name_106 : decode prog_14_method_46_code 106 = .ok (.ifCond .eq 8, 3) := by decide +kernel
theorem d12_name_109 : decode prog_14_method_46_code 109 = .ok (.bipush 7, 2) := by decide +kernel
theorem d12_name_111 : decode prog_14_method_46_code 111 = .ok (.goto 19, 3) := by decide +kernel
theorem d12_name_114 : decode prog_14_method_46_code 114 = .ok (.aload_n 0, 1) := by decide +kernel
theorem d12_name_115 : decode prog_14_method_46_code 115 = .ok (.ldc_w 329, 3) := by decide +kernel
theorem d12_name_118 : decode prog_14_method_46_code 118 = .ok (.invokevirtual 292, 3) := by decide +kernel
theorem d12_name_121 : decode prog_14_method_46_code 121 = .ok (.ifCond .eq 8, 3) := by decide +kernel
theorem d12_name_124 : decode prog_14_method_46_code 124 = .ok (.bipush 8, 2) := by decide +kernel
theorem d12_name_126 : decode prog_14_method_46_code 126 = .ok (.goto 4, 3) := by decide +kernel
theorem d12_name_129 : decode prog_14_method_46_code 129 = .ok (.iconst (-1), 1) := by decide +kernel
theorem d12_name_130 : decode prog_14_method_46_code 130 = .ok (.istore_n 1, 1) := by decide +kernel
theorem d12_name_131 : decode prog_14_method_46_code 131 = .ok (.iconst 0, 1) := by decide +kernel
theorem d12_name_132 : decode prog_14_method_46_code 132 = .ok (.istore_n 2, 1) := by decide +kernel
theorem d12_name_133 : decode prog_14_method_46_code 133 = .ok (.iload_n 2, 1) := by decide +kernel
theorem d12_name_134 : decode prog_14_method_46_code 134 = .ok (.aload_n 0, 1) := by decide +kernel
theorem d12_name_135 : decode prog_14_method_46_code 135 = .ok (.getfield 331, 3) := by decide +kernel
theorem d12_name_138 : decode prog_14_method_46_code 138 = .ok (.if_icmp .ge 104, 3) := by decide +kernel
theorem d12_name_141 : decode prog_14_method_46_code 141 = .ok (.iload_n 1, 1) := by decide +kernel
theorem d12_name_142 : decode prog_14_method_46_code 142 = .ok (.iconst (-1), 1) := by decide +kernel
theorem d12_name_143 : decode prog_14_method_46_code 143 = .ok (.if_icmp .ne 99, 3) := by decide +kernel
theorem d12_name_146 : decode prog_14_method_46_code 146 = .ok (.aload_n 0, 1) := by decide +kernel
theorem d12_name_147 : decode prog_14_method_46_code 147 = .ok (.getfield 241, 3) := by decide +kernel
theorem d12_name_150 : decode prog_14_method_46_code 150 = .ok (.aload_n 0, 1) := by decide +kernel
theorem d12_name_151 : decode prog_14_method_46_code 151 = .ok (.getfield 244, 3) := by decide +kernel
theorem d12_name_154 : decode prog_14_method_46_code 154 = .ok (.isub, 1) := by decide +kernel
theorem d12_name_155 : decode prog_14_method_46_code 155 = .ok (.aload_n 0, 1) := by decide +kernel
theorem d12_name_156 : decode prog_14_method_46_code 156 = .ok (.getfield 112, 3) := by decide +kernel
theorem d12_name_159 : decode prog_14_method_46_code 159 = .ok (.iload_n 2, 1) := by decide +kernel
theorem d12_name_160 : decode prog_14_method_46_code 160 = .ok (.iaload, 1) := by decide +kernel
theorem d12_name_161 : decode prog_14_method_46_code 161 = .ok (.if_icmp .ne 7, 3) := by decide +kernel
theorem d12_name_164 : decode prog_14_method_46_code 164 = .ok (.iconst 1, 1) := by decide +kernel
theorem d12_name_165 : decode prog_14_method_46_code 165 = .ok (.goto 4, 3) := by decide +kernel
theorem d12_name_168 : decode prog_14_method_46_code 168 = .ok (.iconst 0, 1) := by decide +kernel
theorem d12_name_169 : decode prog_14_method_46_code 169 = .ok (.istore_n 3, 1) := by decide +kernel
theorem d12_name_170 : decode prog_14_method_46_code 170 = .ok (.iconst 0, 1) := by decide +kernel
theorem d12_name_171 : decode prog_14_method_46_code 171 = .ok (.istore 4, 2) := by decide +kernel
theorem d12_name_173 : decode prog_14_method_46_code 173 = .ok (.iload 4, 2) := by decide +kernel
theorem d12_name_175 : decode prog_14_method_46_code 175 = .ok (.aload_n 0, 1) := by decide +kernel
theorem d12_name_176 : decode prog_14_method_46_code 176 = .ok (.getfield 112, 3) := by decide +kernel
theorem d12_name_179 : decode prog_14_method_46_code 179 = .ok (.iload_n 2, 1) := by decide +kernel
theorem d12_name_180 : decode prog_14_method_46_code 180 = .ok (.iaload, 1) := by decide +kernel
theorem d12_name_181 : decode prog_14_method_46_code 181 = .ok (.if_icmp .ge 46, 3) := by decide +kernel
theorem d12_name_184 : decode prog_14_method_46_code 184 = .ok (.iload_n 3, 1) := by decide +kernel
theorem d12_name_185 : decode prog_14_method_46_code 185 = .ok (.ifCond .eq 42, 3) := by decide +kernel
theorem d12_name_188 : decode prog_14_method_46_code 188 = .ok (.aload_n 0, 1) := by decide +kernel
theorem d12_name_189 : decode prog_14_method_46_code 189 = .ok (.getfield 102, 3) := by decide +kernel
theorem d12_name_192 : decode prog_14_method_46_code 192 = .ok (.aload_n 0, 1) := by decide +kernel
theorem d12_name_193 : decode prog_14_method_46_code 193 = .ok (.getfield 244, 3) := by decide +kernel
theorem d12_name_196 : decode prog_14_method_46_code 196 = .ok (.iload 4, 2) := by decide +kernel
theorem d12_name_198 : decode prog_14_method_46_code 198 = .ok (.iadd, 1) := by decide +kernel
theorem d12_name_199 : decode prog_14_method_46_code 199 = .ok (.baload, 1) := by decide +kernel
theorem d12_name_200 : decode prog_14_method_46_code 200 = .ok (.aload_n 0, 1) := by decide +kernel
theorem d12_name_201 : decode prog_14_method_46_code 201 = .ok (.getfield 109, 3) := by decide +kernel
theorem d12_name_204 : decode prog_14_method_46_code 204 = .ok (.bipush 8, 2) := by decide +kernel
theorem d12_name_206 : decode prog_14_method_46_code 206 = .ok (.iload_n 2, 1) := by decide +kernel
theorem d12_name_207 : decode prog_14_method_46_code 207 = .ok (.imul, 1) := by decide +kernel
theorem d12_name_208 : decode prog_14_method_46_code 208 = .ok (.iload 4, 2) := by decide +kernel
theorem d12_name_210 : decode prog_14_method_46_code 210 = .ok (.iadd, 1) := by decide +kernel
theorem d12_name_211 : decode prog_14_method_46_code 211 = .ok (.baload, 1) := by decide +kernel
theorem d12_name_212 : decode prog_14_method_46_code 212 = .ok (.if_icmp .ne 7, 3) := by decide +kernel
theorem d12_name_215 : decode prog_14_method_46_code 215 = .ok (.iconst 1, 1) := by decide +kernel
theorem d12_name_216 : decode prog_14_method_46_code 216 = .ok (.goto 4, 3) := by decide +kernel
theorem d12_name_219 : decode prog_14_method_46_code 219 = .ok (.iconst 0, 1) := by decide +kernel
theorem d12_name_220 : decode prog_14_method_46_code 220 = .ok (.istore_n 3, 1) := by decide +kernel
theorem d12_name_221 : decode prog_14_method_46_code 221 = .ok (.iinc 4 1, 3) := by decide +kernel
theorem d12_name_224 : decode prog_14_method_46_code 224 = .ok (.goto (-51), 3) := by decide +kernel
theorem d12_name_227 : decode prog_14_method_46_code 227 = .ok (.iload_n 3, 1) := by decide +kernel
theorem d12_name_228 : decode prog_14_method_46_code 228 = .ok (.ifCond .eq 8, 3) := by decide +kernel
theorem d12_name_231 : decode prog_14_method_46_code 231 = .ok (.bipush 9, 2) := by decide +kernel
theorem d12_name_233 : decode prog_14_method_46_code 233 = .ok (.iload_n 2, 1) := by decide +kernel
theorem d12_name_234 : decode prog_14_method_46_code 234 = .ok (.iadd, 1) := by decide +kernel
theorem d12_name_235 : decode prog_14_method_46_code 235 = .ok (.istore_n 1, 1) := by decide +kernel
theorem d12_name_236 : decode prog_14_method_46_code 236 = .ok (.iinc 2 1, 3) := by decide +kernel
theorem d12_name_239 : decode prog_14_method_46_code 239 = .ok (.goto (-106), 3) := by decide +kernel
theorem d12_name_242 : decode prog_14_method_46_code 242 = .ok (.iload_n 1, 1) := by decide +kernel
theorem d12_name_243 : decode prog_14_method_46_code 243 = .ok (.ireturn, 1) := by decide +kernel
theorem d12_emits_0 : decode prog_14_method_47_code 0 = .ok (.aload_n 0, 1) := by decide +kernel
theorem d12_emits_1 : decode prog_14_method_47_code 1 = .ok (.invokevirtual 278, 3) := by decide +kernel
theorem d12_emits_4 : decode prog_14_method_47_code 4 = .ok (.ifCond .ne 4, 3) := by decide +kernel
theorem d12_emits_7 : decode prog_14_method_47_code 7 = .ok (.return_, 1) := by decide +kernel
theorem d12_emits_8 : decode prog_14_method_47_code 8 = .ok (.aload_n 0, 1) := by decide +kernel
theorem d12_emits_9 : decode prog_14_method_47_code 9 = .ok (.getfield 69, 3) := by decide +kernel
theorem d12_emits_12 : decode prog_14_method_47_code 12 = .ok (.sipush 10080, 3) := by decide +kernel
theorem d12_emits_15 : decode prog_14_method_47_code 15 = .ok (.aload_n 0, 1) := by decide +kernel
theorem d12_emits_16 : decode prog_14_method_47_code 16 = .ok (.getfield 72, 3) := by decide +kernel
theorem d12_emits_19 : decode prog_14_method_47_code 19 = .ok (.bipush 24, 2) := by decide +kernel
theorem d12_emits_21 : decode prog_14_method_47_code 21 = .ok (.iaload, 1) := by decide +kernel
theorem d12_emits_22 : decode prog_14_method_47_code 22 = .ok (.iadd, 1) := by decide +kernel
theorem d12_emits_23 : decode prog_14_method_47_code 23 = .ok (.iload_n 1, 1) := by decide +kernel
theorem d12_emits_24 : decode prog_14_method_47_code 24 = .ok (.iastore, 1) := by decide +kernel
theorem d12_emits_25 : decode prog_14_method_47_code 25 = .ok (.aload_n 0, 1) := by decide +kernel
theorem d12_emits_26 : decode prog_14_method_47_code 26 = .ok (.getfield 72, 3) := by decide +kernel
theorem d12_emits_29 : decode prog_14_method_47_code 29 = .ok (.bipush 24, 2) := by decide +kernel
theorem d12_emits_31 : decode prog_14_method_47_code 31 = .ok (.dup2, 1) := by decide +kernel
theorem d12_emits_32 : decode prog_14_method_47_code 32 = .ok (.iaload, 1) := by decide +kernel
theorem d12_emits_33 : decode prog_14_method_47_code 33 = .ok (.iconst 1, 1) := by decide +kernel
theorem d12_emits_34 : decode prog_14_method_47_code 34 = .ok (.iadd, 1) := by decide +kernel
theorem d12_emits_35 : decode prog_14_method_47_code 35 = .ok (.iastore, 1) := by decide +kernel
theorem d12_emits_36 : decode prog_14_method_47_code 36 = .ok (.return_, 1) := by decide +kernel
theorem d12_opens_0 : decode prog_14_method_48_code 0 = .ok (.aload_n 0, 1) := by decide +kernel
theorem d12_opens_1 : decode prog_14_method_48_code 1 = .ok (.getfield 334, 3) := by decide +kernel
theorem d12_opens_4 : decode prog_14_method_48_code 4 = .ok (.iconst 4, 1) := by decide +kernel
theorem d12_opens_5 : decode prog_14_method_48_code 5 = .ok (.if_icmp .ne 8, 3) := by decide +kernel
theorem d12_opens_8 : decode prog_14_method_48_code 8 = .ok (.aload_n 0, 1) := by decide +kernel
theorem d12_opens_9 : decode prog_14_method_48_code 9 = .ok (.iconst 4, 1) := by decide +kernel
theorem d12_opens_10 : decode prog_14_method_48_code 10 = .ok (.invokevirtual 288, 3) := by decide +kernel
theorem d12_opens_13 : decode prog_14_method_48_code 13 = .ok (.aload_n 0, 1) := by decide +kernel
theorem d12_opens_14 : decode prog_14_method_48_code 14 = .ok (.invokevirtual 278, 3) := by decide +kernel
theorem d12_opens_17 : decode prog_14_method_48_code 17 = .ok (.ifCond .ne 4, 3) := by decide +kernel
theorem d12_opens_20 : decode prog_14_method_48_code 20 = .ok (.return_, 1) := by decide +kernel
theorem d12_opens_21 : decode prog_14_method_48_code 21 = .ok (.aload_n 0, 1) := by decide +kernel
theorem d12_opens_22 : decode prog_14_method_48_code 22 = .ok (.dup, 1) := by decide +kernel
theorem d12_opens_23 : decode prog_14_method_48_code 23 = .ok (.getfield 334, 3) := by decide +kernel
theorem d12_opens_26 : decode prog_14_method_48_code 26 = .ok (.iconst 1, 1) := by decide +kernel
theorem d12_opens_27 : decode prog_14_method_48_code 27 = .ok (.iadd, 1) := by decide +kernel
theorem d12_opens_28 : decode prog_14_method_48_code 28 = .ok (.putfield 334, 3) := by decide +kernel
theorem d12_opens_31 : decode prog_14_method_48_code 31 = .ok (.aload_n 0, 1) := by decide +kernel
theorem d12_opens_32 : decode prog_14_method_48_code 32 = .ok (.invokevirtual 285, 3) := by decide +kernel
theorem d12_opens_35 : decode prog_14_method_48_code 35 = .ok (.return_, 1) := by decide +kernel
theorem d12_factor_0 : decode prog_14_method_49_code 0 = .ok (.aload_n 0, 1) := by decide +kernel
theorem d12_factor_1 : decode prog_14_method_49_code 1 = .ok (.invokevirtual 278, 3) := by decide +kernel
theorem d12_factor_4 : decode prog_14_method_49_code 4 = .ok (.ifCond .ne 4, 3) := by decide +kernel
theorem d12_factor_7 : decode prog_14_method_49_code 7 = .ok (.return_, 1) := by decide +kernel
theorem d12_factor_8 : decode prog_14_method_49_code 8 = .ok (.aload_n 0, 1) := by decide +kernel
theorem d12_factor_9 : decode prog_14_method_49_code 9 = .ok (.getfield 247, 3) := by decide +kernel
theorem d12_factor_12 : decode prog_14_method_49_code 12 = .ok (.iconst 2, 1) := by decide +kernel
theorem d12_factor_13 : decode prog_14_method_49_code 13 = .ok (.if_icmp .ne 18, 3) := by decide +kernel
theorem d12_factor_16 : decode prog_14_method_49_code 16 = .ok (.aload_n 0, 1) := by decide +kernel
theorem d12_factor_17 : decode prog_14_method_49_code 17 = .ok (.aload_n 0, 1) := by decide +kernel
theorem d12_factor_18 : decode prog_14_method_49_code 18 = .ok (.getfield 250, 3) := by decide +kernel
theorem d12_factor_21 : decode prog_14_method_49_code 21 = .ok (.invokevirtual 337, 3) := by decide +kernel
theorem d12_factor_24 : decode prog_14_method_49_code 24 = .ok (.aload_n 0, 1) := by decide +kernel
theorem d12_factor_25 : decode prog_14_method_49_code 25 = .ok (.invokevirtual 285, 3) := by decide +kernel
theorem d12_factor_28 : decode prog_14_method_49_code 28 = .ok (.goto 97, 3) := by decide +kernel
theorem d12_factor_31 : decode prog_14_method_49_code 31 = .ok (.aload_n 0, 1) := by decide +kernel
theorem d12_factor_32 : decode prog_14_method_49_code 32 = .ok (.getfield 247, 3) := by decide +kernel
theorem d12_factor_35 : decode prog_14_method_49_code 35 = .ok (.iconst 3, 1) := by decide +kernel
theorem d12_factor_36 : decode prog_14_method_49_code 36 = .ok (.if_icmp .ne 48, 3) := by decide +kernel
theorem d12_factor_39 : decode prog_14_method_49_code 39 = .ok (.aload_n 0, 1) := by decide +kernel
theorem d12_factor_40 : decode prog_14_method_49_code 40 = .ok (.invokevirtual 340, 3) := by decide +kernel
theorem d12_factor_43 : decode prog_14_method_49_code 43 = .ok (.ifCond .ne 41, 3) := by decide +kernel
theorem d12_factor_46 : decode prog_14_method_49_code 46 = .ok (.aload_n 0, 1) := by decide +kernel
theorem d12_factor_47 : decode prog_14_method_49_code 47 = .ok (.invokevirtual 343, 3) := by decide +kernel
theorem d12_factor_50 : decode prog_14_method_49_code 50 = .ok (.istore_n 1, 1) := by decide +kernel
theorem d12_factor_51 : decode prog_14_method_49_code 51 = .ok (.iload_n 1, 1) := by decide +kernel
theorem d12_factor_52 : decode prog_14_method_49_code 52 = .ok (.iconst (-1), 1) := by decide +kernel
theorem d12_factor_53 : decode prog_14_method_49_code 53 = .ok (.if_icmp .ne 8, 3) := by decide +kernel
theorem d12_factor_56 : decode prog_14_method_49_code 56 = .ok (.aload_n 0, 1) := by decide +kernel
theorem d12_factor_57 : decode prog_14_method_49_code 57 = .ok (.iconst 3, 1) := by decide +kernel
theorem d12_factor_58 : decode prog_14_method_49_code 58 = .ok (.invokevirtual 288, 3) := by decide +kernel
theorem d12_factor_61 : decode prog_14_method_49_code 61 = .ok (.aload_n 0, 1) := by decide +kernel
theorem d12_factor_62 : decode prog_14_method_49_code 62 = .ok (.sipush 10000, 3) := by decide +kernel
theorem d12_factor_65 : decode prog_14_method_49_code 65 = .ok (.iload_n 1, 1) := by decide +kernel
theorem d12_factor_66 : decode prog_14_method_49_code 66 = .ok (.iadd, 1) := by decide +kernel
theorem d12_factor_67 : decode prog_14_method_49_code 67 = .ok (.invokevirtual 337, 3) := by decide +kernel
theorem d12_factor_70 : decode prog_14_method_49_code 70 = .ok (.aload_n 0, 1) := by decide +kernel
theorem d12_factor_71 : decode prog_14_method_49_code 71 = .ok (.invokevirtual 278, 3) := by decide +kernel
theorem d12_factor_74 : decode prog_14_method_49_code 74 = .ok (.ifCond .eq 7, 3) := by decide +kernel
theorem d12_factor_77 : decode prog_14_method_49_code 77 = .ok (.aload_n 0, 1) := by decide +kernel
theorem d12_factor_78 : decode prog_14_method_49_code 78 = .ok (.invokevirtual 285, 3) := by decide +kernel
theorem d12_factor_81 : decode prog_14_method_49_code 81 = .ok (.goto 44, 3) := by decide +kernel
theorem d12_factor_84 : decode prog_14_method_49_code 84 = .ok (.aload_n 0, 1) := by decide +kernel
theorem d12_factor_85 : decode prog_14_method_49_code 85 = .ok (.bipush 40, 2) := by decide +kernel
theorem d12_factor_87 : decode prog_14_method_49_code 87 = .ok (.invokevirtual 282, 3) := by decide +kernel
theorem d12_factor_90 : decode prog_14_method_49_code 90 = .ok (.ifCond .eq 30, 3) := by decide +kernel
theorem d12_factor_93 : decode prog_14_method_49_code 93 = .ok (.aload_n 0, 1) := by decide +kernel
theorem d12_factor_94 : decode prog_14_method_49_code 94 = .ok (.invokevirtual 346, 3) := by decide +kernel
theorem d12_factor_97 : decode prog_14_method_49_code 97 = .ok (.aload_n 0, 1) := by decide +kernel
theorem d12_factor_98 : decode prog_14_method_49_code 98 = .ok (.invokevirtual 349, 3) := by decide +kernel
theorem d12_factor_101 : decode prog_14_method_49_code 101 = .ok (.aload_n 0, 1) := by decide +kernel
theorem d12_factor_102 : decode prog_14_method_49_code 102 = .ok (.bipush 41, 2) := by decide +kernel
theorem d12_factor_104 : decode prog_14_method_49_code 104 = .ok (.invokevirtual 352, 3) := by decide +kernel
theorem d12_factor_107 : decode prog_14_method_49_code 107 = .ok (.aload_n 0, 1) := by decide +kernel
theorem d12_factor_108 : decode prog_14_method_49_code 108 = .ok (.dup, 1) := by decide +kernel
theorem d12_factor_109 : decode prog_14_method_49_code 109 = .ok (.getfield 334, 3) := by decide +kernel
theorem d12_factor_112 : decode prog_14_method_49_code 112 = .ok (.iconst 1, 1) := by decide +kernel
theorem d12_factor_113 : decode prog_14_method_49_code 113 = .ok (.isub, 1) := by decide +kernel
theorem d12_factor_114 : decode prog_14_method_49_code 114 = .ok (.putfield 334, 3) := by decide +kernel
theorem d12_factor_117 : decode prog_14_method_49_code 117 = .ok (.goto 8, 3) := by decide +kernel
theorem d12_factor_120 : decode prog_14_method_49_code 120 = .ok (.aload_n 0, 1) := by decide +kernel
theorem d12_factor_121 : decode prog_14_method_49_code 121 = .ok (.iconst 1, 1) := by decide +kernel
theorem d12_factor_122 : decode prog_14_method_49_code 122 = .ok (.invokevirtual 288, 3) := by decide +kernel
theorem d12_factor_125 : decode prog_14_method_49_code 125 = .ok (.return_, 1) := by decide +kernel
theorem d12_product_0 : decode prog_14_method_50_code 0 = .ok (.aload_n 0, 1) := by decide +kernel
theorem d12_product_1 : decode prog_14_method_50_code 1 = .ok (.invokevirtual 355, 3) := by decide +kernel
theorem d12_product_4 : decode prog_14_method_50_code 4 = .ok (.aload_n 0, 1) := by decide +kernel
theorem d12_product_5 : decode prog_14_method_50_code 5 = .ok (.invokevirtual 278, 3) := by decide +kernel
theorem d12_product_8 : decode prog_14_method_50_code 8 = .ok (.ifCond .eq 29, 3) := by decide +kernel
theorem d12_product_11 : decode prog_14_method_50_code 11 = .ok (.aload_n 0, 1) := by decide +kernel
theorem d12_product_12 : decode prog_14_method_50_code 12 = .ok (.bipush 42, 2) := by decide +kernel
theorem d12_product_14 : decode prog_14_method_50_code 14 = .ok (.invokevirtual 282, 3) := by decide +kernel
theorem d12_product_17 : decode prog_14_method_50_code 17 = .ok (.ifCond .eq 20, 3) := by decide +kernel
theorem d12_product_20 : decode prog_14_method_50_code 20 = .ok (.aload_n 0, 1) := by decide +kernel
theorem d12_product_21 : decode prog_14_method_50_code 21 = .ok (.invokevirtual 285, 3) := by decide +kernel
theorem d12_product_24 : decode prog_14_method_50_code 24 = .ok (.aload_n 0, 1) := by decide +kernel
theorem d12_product_25 : decode prog_14_method_50_code 25 = .ok (.invokevirtual 355, 3) := by decide +kernel
theorem d12_product_28 : decode prog_14_method_50_code 28 = .ok (.aload_n 0, 1) := by decide +kernel
theorem d12_product_29 : decode prog_14_method_50_code 29 = .ok (.bipush (-3), 2) := by decide +kernel
theorem d12_product_31 : decode prog_14_method_50_code 31 = .ok (.invokevirtual 337, 3) := by decide +kernel
theorem d12_product_34 : decode prog_14_method_50_code 34 = .ok (.goto (-30), 3) := by decide +kernel
theorem d12_product_37 : decode prog_14_method_50_code 37 = .ok (.return_, 1) := by decide +kernel
theorem d12_sum_0 : decode prog_14_method_51_code 0 = .ok (.aload_n 0, 1) := by decide +kernel
theorem d12_sum_1 : decode prog_14_method_51_code 1 = .ok (.invokevirtual 358, 3) := by decide +kernel
theorem d12_sum_4 : decode prog_14_method_51_code 4 = .ok (.aload_n 0, 1) := by decide +kernel
theorem d12_sum_5 : decode prog_14_method_51_code 5 = .ok (.invokevirtual 278, 3) := by decide +kernel
theorem d12_sum_8 : decode prog_14_method_51_code 8 = .ok (.ifCond .eq 53, 3) := by decide +kernel
theorem d12_sum_11 : decode prog_14_method_51_code 11 = .ok (.aload_n 0, 1) := by decide +kernel
theorem d12_sum_12 : decode prog_14_method_51_code 12 = .ok (.bipush 43, 2) := by decide +kernel
theorem d12_sum_14 : decode prog_14_method_51_code 14 = .ok (.invokevirtual 282, 3) := by decide +kernel
theorem d12_sum_17 : decode prog_14_method_51_code 17 = .ok (.ifCond .ne 12, 3) := by decide +kernel
theorem d12_sum_20 : decode prog_14_method_51_code 20 = .ok (.aload_n 0, 1) := by decide +kernel
theorem d12_sum_21 : decode prog_14_method_51_code 21 = .ok (.bipush 45, 2) := by decide +kernel
theorem d12_sum_23 : decode prog_14_method_51_code 23 = .ok (.invokevirtual 282, 3) := by decide +kernel
theorem d12_sum_26 : decode prog_14_method_51_code 26 = .ok (.ifCond .eq 35, 3) := by decide +kernel
theorem d12_sum_29 : decode prog_14_method_51_code 29 = .ok (.aload_n 0, 1) := by decide +kernel
theorem d12_sum_30 : decode prog_14_method_51_code 30 = .ok (.bipush 43, 2) := by decide +kernel
theorem d12_sum_32 : decode prog_14_method_51_code 32 = .ok (.invokevirtual 282, 3) := by decide +kernel
theorem d12_sum_35 : decode prog_14_method_51_code 35 = .ok (.istore_n 1, 1) := by decide +kernel
theorem d12_sum_36 : decode prog_14_method_51_code 36 = .ok (.aload_n 0, 1) := by decide +kernel
theorem d12_sum_37 : decode prog_14_method_51_code 37 = .ok (.invokevirtual 285, 3) := by decide +kernel
theorem d12_sum_40 : decode prog_14_method_51_code 40 = .ok (.aload_n 0, 1) := by decide +kernel
theorem d12_sum_41 : decode prog_14_method_51_code 41 = .ok (.invokevirtual 358, 3) := by decide +kernel
theorem d12_sum_44 : decode prog_14_method_51_code 44 = .ok (.aload_n 0, 1) := by decide +kernel
theorem d12_sum_45 : decode prog_14_method_51_code 45 = .ok (.iload_n 1, 1) := by decide +kernel
theorem d12_sum_46 : decode prog_14_method_51_code 46 = .ok (.ifCond .eq 7, 3) := by decide +kernel
theorem d12_sum_49 : decode prog_14_method_51_code 49 = .ok (.iconst (-1), 1) := by decide +kernel
theorem d12_sum_50 : decode prog_14_method_51_code 50 = .ok (.goto 5, 3) := by decide +kernel
theorem d12_sum_53 : decode prog_14_method_51_code 53 = .ok (.bipush (-2), 2) := by decide +kernel
theorem d12_sum_55 : decode prog_14_method_51_code 55 = .ok (.invokevirtual 337, 3) := by decide +kernel
theorem d12_sum_58 : decode prog_14_method_51_code 58 = .ok (.goto (-54), 3) := by decide +kernel
theorem d12_sum_61 : decode prog_14_method_51_code 61 = .ok (.return_, 1) := by decide +kernel
theorem d12_compares_0 : decode prog_14_method_53_code 0 = .ok (.aload_n 0, 1) := by decide +kernel
theorem d12_compares_1 : decode prog_14_method_53_code 1 = .ok (.invokevirtual 349, 3) := by decide +kernel
theorem d12_compares_4 : decode prog_14_method_53_code 4 = .ok (.aload_n 0, 1) := by decide +kernel
theorem d12_compares_5 : decode prog_14_method_53_code 5 = .ok (.invokevirtual 278, 3) := by decide +kernel
theorem d12_compares_8 : decode prog_14_method_53_code 8 = .ok (.ifCond .ne 4, 3) := by decide +kernel
theorem d12_compares_11 : decode prog_14_method_53_code 11 = .ok (.return_, 1) := by decide +kernel
theorem d12_compares_12 : decode prog_14_method_53_code 12 = .ok (.aload_n 0, 1) := by decide +kernel
theorem d12_compares_13 : decode prog_14_method_53_code 13 = .ok (.bipush 60, 2) := by decide +kernel
theorem d12_compares_15 : decode prog_14_method_53_code 15 = .ok (.invokevirtual 282, 3) := by decide +kernel
theorem d12_compares_18 : decode prog_14_method_53_code 18 = .ok (.ifCond .eq 8, 3) := by decide +kernel
theorem d12_compares_21 : decode prog_14_method_53_code 21 = .ok (.bipush (-4), 2) := by decide +kernel
theorem d12_compares_23 : decode prog_14_method_53_code 23 = .ok (.goto 32, 3) := by decide +kernel
theorem d12_compares_26 : decode prog_14_method_53_code 26 = .ok (.aload_n 0, 1) := by decide +kernel
theorem d12_compares_27 : decode prog_14_method_53_code 27 = .ok (.bipush 62, 2) := by decide +kernel
theorem d12_compares_29 : decode prog_14_method_53_code 29 = .ok (.invokevirtual 282, 3) := by decide +kernel
theorem d12_compares_32 : decode prog_14_method_53_code 32 = .ok (.ifCond .eq 8, 3) := by decide +kernel
theorem d12_compares_35 : decode prog_14_method_53_code 35 = .ok (.bipush (-5), 2) := by decide +kernel
theorem d12_compares_37 : decode prog_14_method_53_code 37 = .ok (.goto 18, 3) := by decide +kernel
theorem d12_compares_40 : decode prog_14_method_53_code 40 = .ok (.aload_n 0, 1) := by decide +kernel
theorem d12_compares_41 : decode prog_14_method_53_code 41 = .ok (.bipush 61, 2) := by decide +kernel
theorem d12_compares_43 : decode prog_14_method_53_code 43 = .ok (.invokevirtual 282, 3) := by decide +kernel
theorem d12_compares_46 : decode prog_14_method_53_code 46 = .ok (.ifCond .eq 8, 3) := by decide +kernel
theorem d12_compares_49 : decode prog_14_method_53_code 49 = .ok (.bipush (-6), 2) := by decide +kernel
theorem d12_compares_51 : decode prog_14_method_53_code 51 = .ok (.goto 4, 3) := by decide +kernel
theorem d12_compares_54 : decode prog_14_method_53_code 54 = .ok (.iconst 0, 1) := by decide +kernel
theorem d12_compares_55 : decode prog_14_method_53_code 55 = .ok (.istore_n 1, 1) := by decide +kernel
theorem d12_compares_56 : decode prog_14_method_53_code 56 = .ok (.iload_n 1, 1) := by decide +kernel
theorem d12_compares_57 : decode prog_14_method_53_code 57 = .ok (.ifCond .ne 8, 3) := by decide +kernel
theorem d12_compares_60 : decode prog_14_method_53_code 60 = .ok (.aload_n 0, 1) := by decide +kernel
theorem d12_compares_61 : decode prog_14_method_53_code 61 = .ok (.iconst 1, 1) := by decide +kernel
theorem d12_compares_62 : decode prog_14_method_53_code 62 = .ok (.invokevirtual 288, 3) := by decide +kernel
theorem d12_compares_65 : decode prog_14_method_53_code 65 = .ok (.aload_n 0, 1) := by decide +kernel
theorem d12_compares_66 : decode prog_14_method_53_code 66 = .ok (.invokevirtual 278, 3) := by decide +kernel
theorem d12_compares_69 : decode prog_14_method_53_code 69 = .ok (.ifCond .ne 4, 3) := by decide +kernel
theorem d12_compares_72 : decode prog_14_method_53_code 72 = .ok (.return_, 1) := by decide +kernel
theorem d12_compares_73 : decode prog_14_method_53_code 73 = .ok (.aload_n 0, 1) := by decide +kernel
theorem d12_compares_74 : decode prog_14_method_53_code 74 = .ok (.invokevirtual 285, 3) := by decide +kernel
theorem d12_compares_77 : decode prog_14_method_53_code 77 = .ok (.aload_n 0, 1) := by decide +kernel
theorem d12_compares_78 : decode prog_14_method_53_code 78 = .ok (.invokevirtual 349, 3) := by decide +kernel
theorem d12_compares_81 : decode prog_14_method_53_code 81 = .ok (.aload_n 0, 1) := by decide +kernel
theorem d12_compares_82 : decode prog_14_method_53_code 82 = .ok (.iload_n 1, 1) := by decide +kernel
theorem d12_compares_83 : decode prog_14_method_53_code 83 = .ok (.invokevirtual 337, 3) := by decide +kernel
theorem d12_compares_86 : decode prog_14_method_53_code 86 = .ok (.return_, 1) := by decide +kernel
theorem d12_part_0 : decode prog_14_method_52_code 0 = .ok (.iconst 0, 1) := by decide +kernel
theorem d12_part_1 : decode prog_14_method_52_code 1 = .ok (.istore_n 1, 1) := by decide +kernel
theorem d12_part_2 : decode prog_14_method_52_code 2 = .ok (.aload_n 0, 1) := by decide +kernel
theorem d12_part_3 : decode prog_14_method_52_code 3 = .ok (.invokevirtual 278, 3) := by decide +kernel
theorem d12_part_6 : decode prog_14_method_52_code 6 = .ok (.ifCond .eq 30, 3) := by decide +kernel
theorem d12_part_9 : decode prog_14_method_52_code 9 = .ok (.aload_n 0, 1) := by decide +kernel
theorem d12_part_10 : decode prog_14_method_52_code 10 = .ok (.ldc_w 314, 3) := by decide +kernel
theorem d12_part_13 : decode prog_14_method_52_code 13 = .ok (.invokevirtual 292, 3) := by decide +kernel
theorem d12_part_16 : decode prog_14_method_52_code 16 = .ok (.ifCond .eq 20, 3) := by decide +kernel
theorem d12_part_19 : decode prog_14_method_52_code 19 = .ok (.aload_n 0, 1) := by decide +kernel
theorem d12_part_20 : decode prog_14_method_52_code 20 = .ok (.invokevirtual 285, 3) := by decide +kernel
theorem d12_part_23 : decode prog_14_method_52_code 23 = .ok (.iload_n 1, 1) := by decide +kernel
theorem d12_part_24 : decode prog_14_method_52_code 24 = .ok (.ifCond .ne 7, 3) := by decide +kernel
theorem d12_part_27 : decode prog_14_method_52_code 27 = .ok (.iconst 1, 1) := by decide +kernel
theorem d12_part_28 : decode prog_14_method_52_code 28 = .ok (.goto 4, 3) := by decide +kernel
theorem d12_part_31 : decode prog_14_method_52_code 31 = .ok (.iconst 0, 1) := by decide +kernel
theorem d12_part_32 : decode prog_14_method_52_code 32 = .ok (.istore_n 1, 1) := by decide +kernel
theorem d12_part_33 : decode prog_14_method_52_code 33 = .ok (.goto (-31), 3) := by decide +kernel
theorem d12_part_36 : decode prog_14_method_52_code 36 = .ok (.aload_n 0, 1) := by decide +kernel
theorem d12_part_37 : decode prog_14_method_52_code 37 = .ok (.invokevirtual 278, 3) := by decide +kernel
theorem d12_part_40 : decode prog_14_method_52_code 40 = .ok (.ifCond .ne 4, 3) := by decide +kernel
theorem d12_part_43 : decode prog_14_method_52_code 43 = .ok (.return_, 1) := by decide +kernel
theorem d12_part_44 : decode prog_14_method_52_code 44 = .ok (.aload_n 0, 1) := by decide +kernel
theorem d12_part_45 : decode prog_14_method_52_code 45 = .ok (.bipush 91, 2) := by decide +kernel
theorem d12_part_47 : decode prog_14_method_52_code 47 = .ok (.invokevirtual 282, 3) := by decide +kernel
theorem d12_part_50 : decode prog_14_method_52_code 50 = .ok (.ifCond .eq 30, 3) := by decide +kernel
theorem d12_part_53 : decode prog_14_method_52_code 53 = .ok (.aload_n 0, 1) := by decide +kernel
theorem d12_part_54 : decode prog_14_method_52_code 54 = .ok (.invokevirtual 346, 3) := by decide +kernel
theorem d12_part_57 : decode prog_14_method_52_code 57 = .ok (.aload_n 0, 1) := by decide +kernel
theorem d12_part_58 : decode prog_14_method_52_code 58 = .ok (.invokevirtual 361, 3) := by decide +kernel
theorem d12_part_61 : decode prog_14_method_52_code 61 = .ok (.aload_n 0, 1) := by decide +kernel
theorem d12_part_62 : decode prog_14_method_52_code 62 = .ok (.bipush 93, 2) := by decide +kernel
theorem d12_part_64 : decode prog_14_method_52_code 64 = .ok (.invokevirtual 352, 3) := by decide +kernel
theorem d12_part_67 : decode prog_14_method_52_code 67 = .ok (.aload_n 0, 1) := by decide +kernel
theorem d12_part_68 : decode prog_14_method_52_code 68 = .ok (.dup, 1) := by decide +kernel
theorem d12_part_69 : decode prog_14_method_52_code 69 = .ok (.getfield 334, 3) := by decide +kernel
theorem d12_part_72 : decode prog_14_method_52_code 72 = .ok (.iconst 1, 1) := by decide +kernel
theorem d12_part_73 : decode prog_14_method_52_code 73 = .ok (.isub, 1) := by decide +kernel
theorem d12_part_74 : decode prog_14_method_52_code 74 = .ok (.putfield 334, 3) := by decide +kernel
theorem d12_part_77 : decode prog_14_method_52_code 77 = .ok (.goto 7, 3) := by decide +kernel
theorem d12_part_80 : decode prog_14_method_52_code 80 = .ok (.aload_n 0, 1) := by decide +kernel
theorem d12_part_81 : decode prog_14_method_52_code 81 = .ok (.invokevirtual 364, 3) := by decide +kernel
theorem d12_part_84 : decode prog_14_method_52_code 84 = .ok (.iload_n 1, 1) := by decide +kernel
theorem d12_part_85 : decode prog_14_method_52_code 85 = .ok (.ifCond .eq 9, 3) := by decide +kernel
theorem d12_part_88 : decode prog_14_method_52_code 88 = .ok (.aload_n 0, 1) := by decide +kernel
theorem d12_part_89 : decode prog_14_method_52_code 89 = .ok (.bipush (-9), 2) := by decide +kernel
theorem d12_part_91 : decode prog_14_method_52_code 91 = .ok (.invokevirtual 337, 3) := by decide +kernel
theorem d12_part_94 : decode prog_14_method_52_code 94 = .ok (.return_, 1) := by decide +kernel
theorem d12_both_0 : decode prog_14_method_54_code 0 = .ok (.aload_n 0, 1) := by decide +kernel
theorem d12_both_1 : decode prog_14_method_54_code 1 = .ok (.invokevirtual 367, 3) := by decide +kernel
theorem d12_both_4 : decode prog_14_method_54_code 4 = .ok (.aload_n 0, 1) := by decide +kernel
theorem d12_both_5 : decode prog_14_method_54_code 5 = .ok (.invokevirtual 278, 3) := by decide +kernel
theorem d12_both_8 : decode prog_14_method_54_code 8 = .ok (.ifCond .eq 30, 3) := by decide +kernel
theorem d12_both_11 : decode prog_14_method_54_code 11 = .ok (.aload_n 0, 1) := by decide +kernel
theorem d12_both_12 : decode prog_14_method_54_code 12 = .ok (.ldc_w 312, 3) := by decide +kernel
theorem d12_both_15 : decode prog_14_method_54_code 15 = .ok (.invokevirtual 292, 3) := by decide +kernel
theorem d12_both_18 : decode prog_14_method_54_code 18 = .ok (.ifCond .eq 20, 3) := by decide +kernel
theorem d12_both_21 : decode prog_14_method_54_code 21 = .ok (.aload_n 0, 1) := by decide +kernel
theorem d12_both_22 : decode prog_14_method_54_code 22 = .ok (.invokevirtual 285, 3) := by decide +kernel
theorem d12_both_25 : decode prog_14_method_54_code 25 = .ok (.aload_n 0, 1) := by decide +kernel
theorem d12_both_26 : decode prog_14_method_54_code 26 = .ok (.invokevirtual 367, 3) := by decide +kernel
theorem d12_both_29 : decode prog_14_method_54_code 29 = .ok (.aload_n 0, 1) := by decide +kernel
theorem d12_both_30 : decode prog_14_method_54_code 30 = .ok (.bipush (-7), 2) := by decide +kernel
theorem d12_both_32 : decode prog_14_method_54_code 32 = .ok (.invokevirtual 337, 3) := by decide +kernel
theorem d12_both_35 : decode prog_14_method_54_code 35 = .ok (.goto (-31), 3) := by decide +kernel
theorem d12_both_38 : decode prog_14_method_54_code 38 = .ok (.return_, 1) := by decide +kernel
theorem d12_cond_0 : decode prog_14_method_55_code 0 = .ok (.aload_n 0, 1) := by decide +kernel
theorem d12_cond_1 : decode prog_14_method_55_code 1 = .ok (.invokevirtual 370, 3) := by decide +kernel
theorem d12_cond_4 : decode prog_14_method_55_code 4 = .ok (.aload_n 0, 1) := by decide +kernel
theorem d12_cond_5 : decode prog_14_method_55_code 5 = .ok (.invokevirtual 278, 3) := by decide +kernel
theorem d12_cond_8 : decode prog_14_method_55_code 8 = .ok (.ifCond .eq 30, 3) := by decide +kernel
theorem d12_cond_11 : decode prog_14_method_55_code 11 = .ok (.aload_n 0, 1) := by decide +kernel
theorem d12_cond_12 : decode prog_14_method_55_code 12 = .ok (.ldc_w 310, 3) := by decide +kernel
theorem d12_cond_15 : decode prog_14_method_55_code 15 = .ok (.invokevirtual 292, 3) := by decide +kernel
theorem d12_cond_18 : decode prog_14_method_55_code 18 = .ok (.ifCond .eq 20, 3) := by decide +kernel
theorem d12_cond_21 : decode prog_14_method_55_code 21 = .ok (.aload_n 0, 1) := by decide +kernel
theorem d12_cond_22 : decode prog_14_method_55_code 22 = .ok (.invokevirtual 285, 3) := by decide +kernel
theorem d12_cond_25 : decode prog_14_method_55_code 25 = .ok (.aload_n 0, 1) := by decide +kernel
theorem d12_cond_26 : decode prog_14_method_55_code 26 = .ok (.invokevirtual 370, 3) := by decide +kernel
theorem d12_cond_29 : decode prog_14_method_55_code 29 = .ok (.aload_n 0, 1) := by decide +kernel
theorem d12_cond_30 : decode prog_14_method_55_code 30 = .ok (.bipush (-8), 2) := by decide +kernel
theorem d12_cond_32 : decode prog_14_method_55_code 32 = .ok (.invokevirtual 337, 3) := by decide +kernel
theorem d12_cond_35 : decode prog_14_method_55_code 35 = .ok (.goto (-31), 3) := by decide +kernel
theorem d12_cond_38 : decode prog_14_method_55_code 38 = .ok (.return_, 1) := by decide +kernel
theorem d12_number_0 : decode prog_14_method_56_code 0 = .ok (.aload_n 0, 1) := by decide +kernel
theorem d12_number_1 : decode prog_14_method_56_code 1 = .ok (.invokevirtual 278, 3) := by decide +kernel
theorem d12_number_4 : decode prog_14_method_56_code 4 = .ok (.ifCond .eq 16, 3) := by decide +kernel
theorem d12_number_7 : decode prog_14_method_56_code 7 = .ok (.aload_n 0, 1) := by decide +kernel
theorem d12_number_8 : decode prog_14_method_56_code 8 = .ok (.getfield 247, 3) := by decide +kernel
theorem d12_number_11 : decode prog_14_method_56_code 11 = .ok (.iconst 2, 1) := by decide +kernel
theorem d12_number_12 : decode prog_14_method_56_code 12 = .ok (.if_icmp .eq 8, 3) := by decide +kernel
theorem d12_number_15 : decode prog_14_method_56_code 15 = .ok (.aload_n 0, 1) := by decide +kernel
theorem d12_number_16 : decode prog_14_method_56_code 16 = .ok (.iconst 1, 1) := by decide +kernel
theorem d12_number_17 : decode prog_14_method_56_code 17 = .ok (.invokevirtual 288, 3) := by decide +kernel
theorem d12_number_20 : decode prog_14_method_56_code 20 = .ok (.aload_n 0, 1) := by decide +kernel
theorem d12_number_21 : decode prog_14_method_56_code 21 = .ok (.invokevirtual 278, 3) := by decide +kernel
theorem d12_number_24 : decode prog_14_method_56_code 24 = .ok (.ifCond .eq 10, 3) := by decide +kernel
theorem d12_number_27 : decode prog_14_method_56_code 27 = .ok (.aload_n 0, 1) := by decide +kernel
theorem d12_number_28 : decode prog_14_method_56_code 28 = .ok (.getfield 250, 3) := by decide +kernel
theorem d12_number_31 : decode prog_14_method_56_code 31 = .ok (.goto 4, 3) := by decide +kernel
theorem d12_number_34 : decode prog_14_method_56_code 34 = .ok (.iconst 0, 1) := by decide +kernel
theorem d12_number_35 : decode prog_14_method_56_code 35 = .ok (.ireturn, 1) := by decide +kernel
abbrev m12_isBarredWord : MD := ("MillBoatsModel", ⟨"MillBoatsModel", "isBarredWord", "()Z"⟩, prog_14_method_45_code, 1, (some Jvm.ClassFile.FieldType.boolean))
theorem k12_isBarredWord : okY m12_isBarredWord.2.1 0 := ⟨by decide +kernel, by decide +kernel, by decide +kernel⟩
def f12_isBarredWord (σ : St) (v0 : Nat) : Option (Int32 × St) :=
  gd (ob σ v0 12) (
  bd (f12_isWord σ v0 3) fun r2 t3 => (
  (if r2 = (0 : Int32) then
  bd (f12_isWord t3 v0 4) fun r7 t8 => (
  (if r7 = (0 : Int32) then
  bd (f12_isWord t8 v0 5) fun r12 t13 => (
  (if r12 = (0 : Int32) then
  bd (f12_isWord t13 v0 6) fun r17 t18 => (
  (if r17 = (0 : Int32) then
  bd (f12_isWord t18 v0 8) fun r22 t23 => (
  (if r22 = (0 : Int32) then
  bd (f12_isWord t23 v0 7) fun r27 t28 => (
  (if r27 = (0 : Int32) then
  bd (f12_isWord t28 v0 9) fun r32 t33 => (
  (if r32 = (0 : Int32) then
  bd (f12_isWord t33 v0 10) fun r37 t38 => (
  (if r37 = (0 : Int32) then
  bd (f12_isWord t38 v0 11) fun r42 t43 => (
  (if r42 = (0 : Int32) then
  bd (f12_isWord t43 v0 12) fun r47 t48 => (
  (if r47 = (0 : Int32) then
  some ((0 : Int32), t48)
  else
  some ((1 : Int32), t48)))
  else
  some ((1 : Int32), t43)))
  else
  some ((1 : Int32), t38)))
  else
  some ((1 : Int32), t33)))
  else
  some ((1 : Int32), t28)))
  else
  some ((1 : Int32), t23)))
  else
  some ((1 : Int32), t18)))
  else
  some ((1 : Int32), t13)))
  else
  some ((1 : Int32), t8)))
  else
  some ((1 : Int32), t3))))
set_option maxRecDepth 50000 in
theorem s12_isBarredWord : ∀ (σ : St) (v0 : Nat) (r : Int32) (τ : St), f12_isBarredWord σ v0 = some (r, τ) → Call 9 m12_isBarredWord [.ref v0] σ (some (.int r)) τ := by
  intro σ v0 r τ hf
  unfold f12_isBarredWord at hf
  refine Call.of (by decide +kernel) rfl (Nat.le_of_ble_eq_true rfl) ?_
  refine ev_aload_n (j := 0) (i := 0) (q := 0) rfl rfl d12_isBarredWord_0 ?_
  refine ev_ldcwS (i := 3) rfl d12_isBarredWord_1 ?_
  obtain ⟨h1, hf⟩ := gd_some hf
  obtain ⟨r2, t3, k4, hf⟩ := bd_some hf
  have q5 := s12_isWord _ _ _ _ _ k4
  refine ev_callV (vs := [.ref (STR + 3)]) (sk := []) cls12 h1 q5 (by decide) (Nat.le_of_ble_eq_true rfl) w1642 w1644 ws68 w19 w1645 k12_isWord rfl (Nat.le_of_ble_eq_true rfl) d12_isBarredWord_4 ?_
  rcases ite_some hf with ⟨c6, hf⟩ | ⟨c6, hf⟩
  · refine ev_if_ne_P (tgt := 100) c6 (by decide) d12_isBarredWord_7 ?_
    refine ev_aload_n (j := 0) (i := 0) (q := 0) rfl rfl d12_isBarredWord_10 ?_
    refine ev_ldcwS (i := 4) rfl d12_isBarredWord_11 ?_
    obtain ⟨r7, t8, k9, hf⟩ := bd_some hf
    have q10 := s12_isWord _ _ _ _ _ k9
    refine ev_callV (vs := [.ref (STR + 4)]) (sk := []) cls12 (mono_ob q5.1 h1) q10 (by decide) (Nat.le_of_ble_eq_true rfl) w1642 w1644 ws68 w19 w1645 k12_isWord rfl (Nat.le_of_ble_eq_true rfl) d12_isBarredWord_14 ?_
    rcases ite_some hf with ⟨c11, hf⟩ | ⟨c11, hf⟩
    · refine ev_if_ne_P (tgt := 100) c11 (by decide) d12_isBarredWord_17 ?_
      refine ev_aload_n (j := 0) (i := 0) (q := 0) rfl rfl d12_isBarredWord_20 ?_
      refine ev_ldcwS (i := 5) rfl d12_isBarredWord_21 ?_
      obtain ⟨r12, t13, k14, hf⟩ := bd_some hf
      have q15 := s12_isWord _ _ _ _ _ k14
      refine ev_callV (vs := [.ref (STR + 5)]) (sk := []) cls12 (mono_ob q10.1 (mono_ob q5.1 h1)) q15 (by decide) (Nat.le_of_ble_eq_true rfl) w1642 w1644 ws68 w19 w1645 k12_isWord rfl (Nat.le_of_ble_eq_true rfl) d12_isBarredWord_24 ?_
      rcases ite_some hf with ⟨c16, hf⟩ | ⟨c16, hf⟩
      · refine ev_if_ne_P (tgt := 100) c16 (by decide) d12_isBarredWord_27 ?_
        refine ev_aload_n (j := 0) (i := 0) (q := 0) rfl rfl d12_isBarredWord_30 ?_
        refine ev_ldcwS (i := 6) rfl d12_isBarredWord_31 ?_
        obtain ⟨r17, t18, k19, hf⟩ := bd_some hf
        have q20 := s12_isWord _ _ _ _ _ k19
        refine ev_callV (vs := [.ref (STR + 6)]) (sk := []) cls12 (mono_ob q15.1 (mono_ob q10.1 (mono_ob q5.1 h1))) q20 (by decide) (Nat.le_of_ble_eq_true rfl) w1642 w1644 ws68 w19 w1645 k12_isWord rfl (Nat.le_of_ble_eq_true rfl) d12_isBarredWord_34 ?_
        rcases ite_some hf with ⟨c21, hf⟩ | ⟨c21, hf⟩
        · refine ev_if_ne_P (tgt := 100) c21 (by decide) d12_isBarredWord_37 ?_
          refine ev_aload_n (j := 0) (i := 0) (q := 0) rfl rfl d12_isBarredWord_40 ?_
          refine ev_ldcwS (i := 8) rfl d12_isBarredWord_41 ?_
          obtain ⟨r22, t23, k24, hf⟩ := bd_some hf
          have q25 := s12_isWord _ _ _ _ _ k24
          refine ev_callV (vs := [.ref (STR + 8)]) (sk := []) cls12 (mono_ob q20.1 (mono_ob q15.1 (mono_ob q10.1 (mono_ob q5.1 h1)))) q25 (by decide) (Nat.le_of_ble_eq_true rfl) w1642 w1644 ws68 w19 w1645 k12_isWord rfl (Nat.le_of_ble_eq_true rfl) d12_isBarredWord_44 ?_
          rcases ite_some hf with ⟨c26, hf⟩ | ⟨c26, hf⟩
          · refine ev_if_ne_P (tgt := 100) c26 (by decide) d12_isBarredWord_47 ?_
            refine ev_aload_n (j := 0) (i := 0) (q := 0) rfl rfl d12_isBarredWord_50 ?_
            refine ev_ldcwS (i := 7) rfl d12_isBarredWord_51 ?_
            obtain ⟨r27, t28, k29, hf⟩ := bd_some hf
            have q30 := s12_isWord _ _ _ _ _ k29
            refine ev_callV (vs := [.ref (STR + 7)]) (sk := []) cls12 (mono_ob q25.1 (mono_ob q20.1 (mono_ob q15.1 (mono_ob q10.1 (mono_ob q5.1 h1))))) q30 (by decide) (Nat.le_of_ble_eq_true rfl) w1642 w1644 ws68 w19 w1645 k12_isWord rfl (Nat.le_of_ble_eq_true rfl) d12_isBarredWord_54 ?_
            rcases ite_some hf with ⟨c31, hf⟩ | ⟨c31, hf⟩
            · refine ev_if_ne_P (tgt := 100) c31 (by decide) d12_isBarredWord_57 ?_
              refine ev_aload_n (j := 0) (i := 0) (q := 0) rfl rfl d12_isBarredWord_60 ?_
              refine ev_ldcwS (i := 9) rfl d12_isBarredWord_61 ?_
              obtain ⟨r32, t33, k34, hf⟩ := bd_some hf
              have q35 := s12_isWord _ _ _ _ _ k34
              refine ev_callV (vs := [.ref (STR + 9)]) (sk := []) cls12 (mono_ob q30.1 (mono_ob q25.1 (mono_ob q20.1 (mono_ob q15.1 (mono_ob q10.1 (mono_ob q5.1 h1)))))) q35 (by decide) (Nat.le_of_ble_eq_true rfl) w1642 w1644 ws68 w19 w1645 k12_isWord rfl (Nat.le_of_ble_eq_true rfl) d12_isBarredWord_64 ?_
              rcases ite_some hf with ⟨c36, hf⟩ | ⟨c36, hf⟩
              · refine ev_if_ne_P (tgt := 100) c36 (by decide) d12_isBarredWord_67 ?_
                refine ev_aload_n (j := 0) (i := 0) (q := 0) rfl rfl d12_isBarredWord_70 ?_
                refine ev_ldcwS (i := 10) rfl d12_isBarredWord_71 ?_
                obtain ⟨r37, t38, k39, hf⟩ := bd_some hf
                have q40 := s12_isWord _ _ _ _ _ k39
                refine ev_callV (vs := [.ref (STR + 10)]) (sk := []) cls12 (mono_ob q35.1 (mono_ob q30.1 (mono_ob q25.1 (mono_ob q20.1 (mono_ob q15.1 (mono_ob q10.1 (mono_ob q5.1 h1))))))) q40 (by decide) (Nat.le_of_ble_eq_true rfl) w1642 w1644 ws68 w19 w1645 k12_isWord rfl (Nat.le_of_ble_eq_true rfl) d12_isBarredWord_74 ?_
                rcases ite_some hf with ⟨c41, hf⟩ | ⟨c41, hf⟩
                · refine ev_if_ne_P (tgt := 100) c41 (by decide) d12_isBarredWord_77 ?_
                  refine ev_aload_n (j := 0) (i := 0) (q := 0) rfl rfl d12_isBarredWord_80 ?_
                  refine ev_ldcwS (i := 11) rfl d12_isBarredWord_81 ?_
                  obtain ⟨r42, t43, k44, hf⟩ := bd_some hf
                  have q45 := s12_isWord _ _ _ _ _ k44
                  refine ev_callV (vs := [.ref (STR + 11)]) (sk := []) cls12 (mono_ob q40.1 (mono_ob q35.1 (mono_ob q30.1 (mono_ob q25.1 (mono_ob q20.1 (mono_ob q15.1 (mono_ob q10.1 (mono_ob q5.1 h1)))))))) q45 (by decide) (Nat.le_of_ble_eq_true rfl) w1642 w1644 ws68 w19 w1645 k12_isWord rfl (Nat.le_of_ble_eq_true rfl) d12_isBarredWord_84 ?_
                  rcases ite_some hf with ⟨c46, hf⟩ | ⟨c46, hf⟩
                  · refine ev_if_ne_P (tgt := 100) c46 (by decide) d12_isBarredWord_87 ?_
                    refine ev_aload_n (j := 0) (i := 0) (q := 0) rfl rfl d12_isBarredWord_90 ?_
                    refine ev_ldcwS (i := 12) rfl d12_isBarredWord_91 ?_
                    obtain ⟨r47, t48, k49, hf⟩ := bd_some hf
                    have q50 := s12_isWord _ _ _ _ _ k49
                    refine ev_callV (vs := [.ref (STR + 12)]) (sk := []) cls12 (mono_ob q45.1 (mono_ob q40.1 (mono_ob q35.1 (mono_ob q30.1 (mono_ob q25.1 (mono_ob q20.1 (mono_ob q15.1 (mono_ob q10.1 (mono_ob q5.1 h1))))))))) q50 (by decide) (Nat.le_of_ble_eq_true rfl) w1642 w1644 ws68 w19 w1645 k12_isWord rfl (Nat.le_of_ble_eq_true rfl) d12_isBarredWord_94 ?_
                    rcases ite_some hf with ⟨c51, hf⟩ | ⟨c51, hf⟩
                    · refine ev_if_eq_P (tgt := 104) c51 (by decide) d12_isBarredWord_97 ?_
                      refine ev_iconst ci_0 d12_isBarredWord_104 ?_
                      obtain ⟨rfl, rfl⟩ := ret_some hf
                      exact ev_zret rfl (by decide) d12_isBarredWord_105
                    · refine ev_if_eq_Q (tgt := 104) c51 (by decide) d12_isBarredWord_97 ?_
                      refine ev_iconst ci_1 d12_isBarredWord_100 ?_
                      refine ev_goto (tgt := 105) (by decide) d12_isBarredWord_101 ?_
                      obtain ⟨rfl, rfl⟩ := ret_some hf
                      exact ev_zret rfl (by decide) d12_isBarredWord_105
                  · refine ev_if_ne_Q (tgt := 100) c46 (by decide) d12_isBarredWord_87 ?_
                    refine ev_iconst ci_1 d12_isBarredWord_100 ?_
                    refine ev_goto (tgt := 105) (by decide) d12_isBarredWord_101 ?_
                    obtain ⟨rfl, rfl⟩ := ret_some hf
                    exact ev_zret rfl (by decide) d12_isBarredWord_105
                · refine ev_if_ne_Q (tgt := 100) c41 (by decide) d12_isBarredWord_77 ?_
                  refine ev_iconst ci_1 d12_isBarredWord_100 ?_
                  refine ev_goto (tgt := 105) (by decide) d12_isBarredWord_101 ?_
                  obtain ⟨rfl, rfl⟩ := ret_some hf
                  exact ev_zret rfl (by decide) d12_isBarredWord_105
              · refine ev_if_ne_Q (tgt := 100) c36 (by decide) d12_isBarredWord_67 ?_
                refine ev_iconst ci_1 d12_isBarredWord_100 ?_
                refine ev_goto (tgt := 105) (by decide) d12_isBarredWord_101 ?_
                obtain ⟨rfl, rfl⟩ := ret_some hf
                exact ev_zret rfl (by decide) d12_isBarredWord_105
            · refine ev_if_ne_Q (tgt := 100) c31 (by decide) d12_isBarredWord_57 ?_
              refine ev_iconst ci_1 d12_isBarredWord_100 ?_
              refine ev_goto (tgt := 105) (by decide) d12_isBarredWord_101 ?_
              obtain ⟨rfl, rfl⟩ := ret_some hf
              exact ev_zret rfl (by decide) d12_isBarredWord_105
          · refine ev_if_ne_Q (tgt := 100) c26 (by decide) d12_isBarredWord_47 ?_
            refine ev_iconst ci_1 d12_isBarredWord_100 ?_
            refine ev_goto (tgt := 105) (by decide) d12_isBarredWord_101 ?_
            obtain ⟨rfl, rfl⟩ := ret_some hf
            exact ev_zret rfl (by decide) d12_isBarredWord_105
        · refine ev_if_ne_Q (tgt := 100) c21 (by decide) d12_isBarredWord_37 ?_
          refine ev_iconst ci_1 d12_isBarredWord_100 ?_
          refine ev_goto (tgt := 105) (by decide) d12_isBarredWord_101 ?_
          obtain ⟨rfl, rfl⟩ := ret_some hf
          exact ev_zret rfl (by decide) d12_isBarredWord_105
      · refine ev_if_ne_Q (tgt := 100) c16 (by decide) d12_isBarredWord_27 ?_
        refine ev_iconst ci_1 d12_isBarredWord_100 ?_
        refine ev_goto (tgt := 105) (by decide) d12_isBarredWord_101 ?_
        obtain ⟨rfl, rfl⟩ := ret_some hf
        exact ev_zret rfl (by decide) d12_isBarredWord_105
    · refine ev_if_ne_Q (tgt := 100) c11 (by decide) d12_isBarredWord_17 ?_
      refine ev_iconst ci_1 d12_isBarredWord_100 ?_
      refine ev_goto (tgt := 105) (by decide) d12_isBarredWord_101 ?_
      obtain ⟨rfl, rfl⟩ := ret_some hf
      exact ev_zret rfl (by decide) d12_isBarredWord_105
  · refine ev_if_ne_Q (tgt := 100) c6 (by decide) d12_isBarredWord_7 ?_
    refine ev_iconst ci_1 d12_isBarredWord_100 ?_
    refine ev_goto (tgt := 105) (by decide) d12_isBarredWord_101 ?_
    obtain ⟨rfl, rfl⟩ := ret_some hf
    exact ev_zret rfl (by decide) d12_isBarredWord_105
abbrev m12_name : MD := ("MillBoatsModel", ⟨"MillBoatsModel", "name", "()I"⟩, prog_14_method_46_code, 5, (some Jvm.ClassFile.FieldType.int))
theorem k12_name : okY m12_name.2.1 0 := ⟨by decide +kernel, by decide +kernel, by decide +kernel⟩
def f12_name_p236 (K133 : St → Nat → Int32 → Int32 → Option (Int32 × St)) (σ : St) (v0 : Nat) (v1 : Int32) (v2 : Int32) : Option (Int32 × St) :=
  lt (v2 + (1 : Int32)) fun y80 => (
  K133 σ v0 v1 y80)
set_option maxRecDepth 20000 in
theorem s12_name_p236 {K133 : St → Nat → Int32 → Int32 → Option (Int32 × St)} (hK133 : ∀ (σ : St) (v0 : Nat) (v1 : Int32) (v2 : Int32) (r : Int32) (τ : St), K133 σ v0 v1 v2 = some (r, τ) → Ev 9 m12_name 133 [(0, .ref v0), (1, .int v1), (2, .int v2)] [] σ (some (.int r)) τ) : ∀ (σ : St) (v0 : Nat) (v1 : Int32) (v2 : Int32) (r : Int32) (τ : St), f12_name_p236 K133 σ v0 v1 v2 = some (r, τ) → Ev 9 m12_name 236 [(0, .ref v0), (1, .int v1), (2, .int v2)] [] σ (some (.int r)) τ := by
  intro σ v0 v1 v2 r τ hf
  unfold f12_name_p236 at hf
  obtain ⟨y80, e81, hf⟩ := lt_some hf
  refine ev_iinc (lv2 := [(2, .int y80), (0, .ref v0), (1, .int v1)]) (i := 2) (q := 2) (v := y80) (n := 1) rfl (by rw [ci_1]; exact e81.symm) (by decide) rfl d12_name_236 ?_
  refine ev_goto (tgt := 133) (by decide) d12_name_239 ?_
  exact Ev.sub [1, 2, 0] rfl (hK133 _ _ _ _ _ _ hf)
def f12_name_p227 (K133 : St → Nat → Int32 → Int32 → Option (Int32 × St)) (σ : St) (v0 : Nat) (v1 : Int32) (v2 : Int32) (v3 : Int32) : Option (Int32 × St) :=
  (if v3 = (0 : Int32) then
  f12_name_p236 K133 σ v0 v1 v2
  else
  lt ((9 : Int32) + v2) fun y76 => (
  f12_name_p236 K133 σ v0 y76 v2))
set_option maxRecDepth 20000 in
theorem s12_name_p227 {K133 : St → Nat → Int32 → Int32 → Option (Int32 × St)} (hK133 : ∀ (σ : St) (v0 : Nat) (v1 : Int32) (v2 : Int32) (r : Int32) (τ : St), K133 σ v0 v1 v2 = some (r, τ) → Ev 9 m12_name 133 [(0, .ref v0), (1, .int v1), (2, .int v2)] [] σ (some (.int r)) τ) : ∀ (σ : St) (v0 : Nat) (v1 : Int32) (v2 : Int32) (v3 : Int32) (r : Int32) (τ : St), f12_name_p227 K133 σ v0 v1 v2 v3 = some (r, τ) → Ev 9 m12_name 227 [(0, .ref v0), (1, .int v1), (2, .int v2), (3, .int v3)] [] σ (some (.int r)) τ := by
  intro σ v0 v1 v2 v3 r τ hf
  unfold f12_name_p227 at hf
  refine ev_iload_n (j := 3) (i := 3) (q := 3) rfl rfl d12_name_227 ?_
  rcases ite_some hf with ⟨c75, hf⟩ | ⟨c75, hf⟩
  · refine ev_if_eq_P (tgt := 236) c75 (by decide) d12_name_228 ?_
    exact Ev.sub [0, 1, 2] rfl (s12_name_p236 hK133 _ _ _ _ _ _ hf)
  · refine ev_if_eq_Q (tgt := 236) c75 (by decide) d12_name_228 ?_
    refine ev_bipush cb_9 d12_name_231 ?_
    refine ev_iload_n (j := 2) (i := 2) (q := 2) rfl rfl d12_name_233 ?_
    refine ev_iadd d12_name_234 ?_
    obtain ⟨y76, e77, hf⟩ := lt_some hf
    refine ev_nmI e77 ?_
    refine ev_istore_n (lv2 := [(1, .int y76), (0, .ref v0), (2, .int v2), (3, .int v3)]) (j := 1) (i := 1) rfl (by decide) rfl d12_name_235 ?_
    exact Ev.sub [1, 0, 2] rfl (s12_name_p236 hK133 _ _ _ _ _ _ hf)
def f12_name_p220 (K133 : St → Nat → Int32 → Int32 → Option (Int32 × St)) (K173 : St → Nat → Int32 → Int32 → Int32 → Int32 → Option (Int32 × St)) (σ : St) (v0 : Nat) (v1 : Int32) (v2 : Int32) (v4 : Int32) (x0 : Int32) : Option (Int32 × St) :=
  lt (v4 + (1 : Int32)) fun y78 => (
  K173 σ v0 v1 v2 x0 y78)
set_option maxRecDepth 20000 in
theorem s12_name_p220 {K133 : St → Nat → Int32 → Int32 → Option (Int32 × St)} (hK133 : ∀ (σ : St) (v0 : Nat) (v1 : Int32) (v2 : Int32) (r : Int32) (τ : St), K133 σ v0 v1 v2 = some (r, τ) → Ev 9 m12_name 133 [(0, .ref v0), (1, .int v1), (2, .int v2)] [] σ (some (.int r)) τ) {K173 : St → Nat → Int32 → Int32 → Int32 → Int32 → Option (Int32 × St)} (hK173 : ∀ (σ : St) (v0 : Nat) (v1 : Int32) (v2 : Int32) (v3 : Int32) (v4 : Int32) (r : Int32) (τ : St), K173 σ v0 v1 v2 v3 v4 = some (r, τ) → Ev 9 m12_name 173 [(0, .ref v0), (1, .int v1), (2, .int v2), (3, .int v3), (4, .int v4)] [] σ (some (.int r)) τ) : ∀ (σ : St) (v0 : Nat) (v1 : Int32) (v2 : Int32) (v4 : Int32) (x0 : Int32) (r : Int32) (τ : St), f12_name_p220 K133 K173 σ v0 v1 v2 v4 x0 = some (r, τ) → Ev 9 m12_name 220 [(0, .ref v0), (1, .int v1), (2, .int v2), (4, .int v4)] [.int x0] σ (some (.int r)) τ := by
  intro σ v0 v1 v2 v4 x0 r τ hf
  unfold f12_name_p220 at hf
  refine ev_istore_n (lv2 := [(3, .int x0), (0, .ref v0), (1, .int v1), (2, .int v2), (4, .int v4)]) (j := 3) (i := 3) rfl (by decide) rfl d12_name_220 ?_
  obtain ⟨y78, e79, hf⟩ := lt_some hf
  refine ev_iinc (lv2 := [(4, .int y78), (3, .int x0), (0, .ref v0), (1, .int v1), (2, .int v2)]) (i := 4) (q := 4) (v := y78) (n := 1) rfl (by rw [ci_1]; exact e79.symm) (by decide) rfl d12_name_221 ?_
  refine ev_goto (tgt := 173) (by decide) d12_name_224 ?_
  exact Ev.sub [2, 3, 4, 1, 0] rfl (hK173 _ _ _ _ _ _ _ _ hf)
def f12_name_p173 (K133 : St → Nat → Int32 → Int32 → Option (Int32 × St)) : Nat → St → Nat → Int32 → Int32 → Int32 → Int32 → Option (Int32 × St)
  | 0, _, _, _, _, _, _ => none
  | n + 1, σ, v0, v1, v2, v3, v4 =>
  gd (ob σ v0 12) (
  lt (sR σ v0 46) fun b57 => (
  gd (nz b57) (
  gd (ob σ b57 14) (
  gd (inb σ b57 v2) (
  (if v4 < (sI σ b57 (ix v2)) then
  (if v3 = (0 : Int32) then
  f12_name_p227 K133 σ v0 v1 v2 v3
  else
  lt (sR σ v0 34) fun b64 => (
  gd (nz b64) (
  gd (ob σ b64 13) (
  gd (inb σ b64 ((sI σ v0 37) + v4)) (
  lt (sR σ v0 45) fun b69 => (
  gd (nz b69) (
  gd (ob σ b69 13) (
  gd (inb σ b69 (((8 : Int32) * v2) + v4)) (
  (if (sI σ b64 (ix ((sI σ v0 37) + v4))) = (sI σ b69 (ix (((8 : Int32) * v2) + v4))) then
  f12_name_p220 K133 (f12_name_p173 K133 n) σ v0 v1 v2 v4 (1 : Int32)
  else
  f12_name_p220 K133 (f12_name_p173 K133 n) σ v0 v1 v2 v4 (0 : Int32)))))))))))
  else
  f12_name_p227 K133 σ v0 v1 v2 v3))))))
set_option maxRecDepth 20000 in
theorem s12_name_p173 {K133 : St → Nat → Int32 → Int32 → Option (Int32 × St)} (hK133 : ∀ (σ : St) (v0 : Nat) (v1 : Int32) (v2 : Int32) (r : Int32) (τ : St), K133 σ v0 v1 v2 = some (r, τ) → Ev 9 m12_name 133 [(0, .ref v0), (1, .int v1), (2, .int v2)] [] σ (some (.int r)) τ) : ∀ (n : Nat) (σ : St) (v0 : Nat) (v1 : Int32) (v2 : Int32) (v3 : Int32) (v4 : Int32) (r : Int32) (τ : St), f12_name_p173 K133 n σ v0 v1 v2 v3 v4 = some (r, τ) → Ev 9 m12_name 173 [(0, .ref v0), (1, .int v1), (2, .int v2), (3, .int v3), (4, .int v4)] [] σ (some (.int r)) τ := by
  intro n
  induction n with
  | zero =>
    intro σ v0 v1 v2 v3 v4 r τ hf
    cases hf
  | succ n ih =>
    intro σ v0 v1 v2 v3 v4 r τ hf
    rw [f12_name_p173] at hf
    refine ev_iload (i := 4) (q := 4) rfl d12_name_173 ?_
    refine ev_aload_n (j := 0) (i := 0) (q := 0) rfl rfl d12_name_175 ?_
    obtain ⟨h56, hf⟩ := gd_some hf
    obtain ⟨b57, e58, hf⟩ := lt_some hf
    obtain ⟨h59, hf⟩ := gd_some hf
    refine ev_getRb cls12 (j := 46) (by decide) rfl w1297 h56 e58 (nz_ne h59) d12_name_176 ?_
    refine ev_iload_n (j := 2) (i := 2) (q := 2) rfl rfl d12_name_179 ?_
    obtain ⟨h60, hf⟩ := gd_some hf
    obtain ⟨h61, hf⟩ := gd_some hf
    refine ev_iald h60 h61 d12_name_180 ?_
    rcases ite_some hf with ⟨c62, hf⟩ | ⟨c62, hf⟩
    · refine ev_icmp_ge_P (tgt := 227) c62 (by decide) d12_name_181 ?_
      refine ev_iload_n (j := 3) (i := 3) (q := 3) rfl rfl d12_name_184 ?_
      rcases ite_some hf with ⟨c63, hf⟩ | ⟨c63, hf⟩
      · refine ev_if_eq_P (tgt := 227) c63 (by decide) d12_name_185 ?_
        exact Ev.sub [0, 1, 2, 3] rfl (s12_name_p227 hK133 _ _ _ _ _ _ _ hf)
      · refine ev_if_eq_Q (tgt := 227) c63 (by decide) d12_name_185 ?_
        refine ev_aload_n (j := 0) (i := 0) (q := 0) rfl rfl d12_name_188 ?_
        obtain ⟨b64, e65, hf⟩ := lt_some hf
        obtain ⟨h66, hf⟩ := gd_some hf
        refine ev_getRb cls12 (j := 34) (by decide) rfl w1285 h56 e65 (nz_ne h66) d12_name_189 ?_
        refine ev_aload_n (j := 0) (i := 0) (q := 0) rfl rfl d12_name_192 ?_
        refine ev_getI cls12 (j := 37) (by decide) rfl w1288 h56 d12_name_193 ?_
        refine ev_iload (i := 4) (q := 4) rfl d12_name_196 ?_
        refine ev_iadd d12_name_198 ?_
        obtain ⟨h67, hf⟩ := gd_some hf
        obtain ⟨h68, hf⟩ := gd_some hf
        refine ev_bald h67 h68 d12_name_199 ?_
        refine ev_aload_n (j := 0) (i := 0) (q := 0) rfl rfl d12_name_200 ?_
        obtain ⟨b69, e70, hf⟩ := lt_some hf
        obtain ⟨h71, hf⟩ := gd_some hf
        refine ev_getRb cls12 (j := 45) (by decide) rfl w1296 h56 e70 (nz_ne h71) d12_name_201 ?_
        refine ev_bipush cb_8 d12_name_204 ?_
        refine ev_iload_n (j := 2) (i := 2) (q := 2) rfl rfl d12_name_206 ?_
        refine ev_imul d12_name_207 ?_
        refine ev_iload (i := 4) (q := 4) rfl d12_name_208 ?_
        refine ev_iadd d12_name_210 ?_
        obtain ⟨h72, hf⟩ := gd_some hf
        obtain ⟨h73, hf⟩ := gd_some hf
        refine ev_bald h72 h73 d12_name_211 ?_
        rcases ite_some hf with ⟨c74, hf⟩ | ⟨c74, hf⟩
        · refine ev_icmp_ne_P (tgt := 219) c74 (by decide) d12_name_212 ?_
          refine ev_iconst ci_1 d12_name_215 ?_
          refine ev_goto (tgt := 220) (by decide) d12_name_216 ?_
          exact Ev.sub [0, 1, 2, 4] rfl (s12_name_p220 hK133 ih _ _ _ _ _ _ _ _ hf)
        · refine ev_icmp_ne_Q (tgt := 219) c74 (by decide) d12_name_212 ?_
          refine ev_iconst ci_0 d12_name_219 ?_
          exact Ev.sub [0, 1, 2, 4] rfl (s12_name_p220 hK133 ih _ _ _ _ _ _ _ _ hf)
    · refine ev_icmp_ge_Q (tgt := 227) c62 (by decide) d12_name_181 ?_
      exact Ev.sub [0, 1, 2, 3] rfl (s12_name_p227 hK133 _ _ _ _ _ _ _ hf)
def f12_name_p169 (K133 : St → Nat → Int32 → Int32 → Option (Int32 × St)) (σ : St) (v0 : Nat) (v1 : Int32) (v2 : Int32) (x0 : Int32) : Option (Int32 × St) :=
  f12_name_p173 K133 FU σ v0 v1 v2 x0 (0 : Int32)
set_option maxRecDepth 20000 in
theorem s12_name_p169 {K133 : St → Nat → Int32 → Int32 → Option (Int32 × St)} (hK133 : ∀ (σ : St) (v0 : Nat) (v1 : Int32) (v2 : Int32) (r : Int32) (τ : St), K133 σ v0 v1 v2 = some (r, τ) → Ev 9 m12_name 133 [(0, .ref v0), (1, .int v1), (2, .int v2)] [] σ (some (.int r)) τ) : ∀ (σ : St) (v0 : Nat) (v1 : Int32) (v2 : Int32) (x0 : Int32) (r : Int32) (τ : St), f12_name_p169 K133 σ v0 v1 v2 x0 = some (r, τ) → Ev 9 m12_name 169 [(0, .ref v0), (1, .int v1), (2, .int v2)] [.int x0] σ (some (.int r)) τ := by
  intro σ v0 v1 v2 x0 r τ hf
  unfold f12_name_p169 at hf
  refine ev_istore_n (lv2 := [(3, .int x0), (0, .ref v0), (1, .int v1), (2, .int v2)]) (j := 3) (i := 3) rfl (by decide) rfl d12_name_169 ?_
  refine ev_iconst ci_0 d12_name_170 ?_
  refine ev_istore (lv2 := [(4, .int (0 : Int32)), (3, .int x0), (0, .ref v0), (1, .int v1), (2, .int v2)]) (i := 4) (by decide) rfl d12_name_171 ?_
  exact Ev.sub [2, 3, 4, 1, 0] rfl (s12_name_p173 hK133 FU _ _ _ _ _ _ _ _ hf)
def f12_name_p133 : Nat → St → Nat → Int32 → Int32 → Option (Int32 × St)
  | 0, _, _, _, _ => none
  | n + 1, σ, v0, v1, v2 =>
  gd (ob σ v0 12) (
  (if v2 < (sI σ v0 44) then
  (if v1 = (-1 : Int32) then
  lt (sR σ v0 46) fun b50 => (
  gd (nz b50) (
  gd (ob σ b50 14) (
  gd (inb σ b50 v2) (
  (if ((sI σ v0 36) - (sI σ v0 37)) = (sI σ b50 (ix v2)) then
  f12_name_p169 (f12_name_p133 n) σ v0 v1 v2 (1 : Int32)
  else
  f12_name_p169 (f12_name_p133 n) σ v0 v1 v2 (0 : Int32))))))
  else
  some (v1, σ))
  else
  some (v1, σ)))
set_option maxRecDepth 20000 in
theorem s12_name_p133 : ∀ (n : Nat) (σ : St) (v0 : Nat) (v1 : Int32) (v2 : Int32) (r : Int32) (τ : St), f12_name_p133 n σ v0 v1 v2 = some (r, τ) → Ev 9 m12_name 133 [(0, .ref v0), (1, .int v1), (2, .int v2)] [] σ (some (.int r)) τ := by
  intro n
  induction n with
  | zero =>
    intro σ v0 v1 v2 r τ hf
    cases hf
  | succ n ih =>
    intro σ v0 v1 v2 r τ hf
    rw [f12_name_p133] at hf
    refine ev_iload_n (j := 2) (i := 2) (q := 2) rfl rfl d12_name_133 ?_
    refine ev_aload_n (j := 0) (i := 0) (q := 0) rfl rfl d12_name_134 ?_
    obtain ⟨h47, hf⟩ := gd_some hf
    refine ev_getI cls12 (j := 44) (by decide) rfl w1295 h47 d12_name_135 ?_
    rcases ite_some hf with ⟨c48, hf⟩ | ⟨c48, hf⟩
    · refine ev_icmp_ge_P (tgt := 242) c48 (by decide) d12_name_138 ?_
      refine ev_iload_n (j := 1) (i := 1) (q := 1) rfl rfl d12_name_141 ?_
      refine ev_iconst ci_m1 d12_name_142 ?_
      rcases ite_some hf with ⟨c49, hf⟩ | ⟨c49, hf⟩
      · refine ev_icmp_ne_P (tgt := 242) c49 (by decide) d12_name_143 ?_
        refine ev_aload_n (j := 0) (i := 0) (q := 0) rfl rfl d12_name_146 ?_
        refine ev_getI cls12 (j := 36) (by decide) rfl w1287 h47 d12_name_147 ?_
        refine ev_aload_n (j := 0) (i := 0) (q := 0) rfl rfl d12_name_150 ?_
        refine ev_getI cls12 (j := 37) (by decide) rfl w1288 h47 d12_name_151 ?_
        refine ev_isub d12_name_154 ?_
        refine ev_aload_n (j := 0) (i := 0) (q := 0) rfl rfl d12_name_155 ?_
        obtain ⟨b50, e51, hf⟩ := lt_some hf
        obtain ⟨h52, hf⟩ := gd_some hf
        refine ev_getRb cls12 (j := 46) (by decide) rfl w1297 h47 e51 (nz_ne h52) d12_name_156 ?_
        refine ev_iload_n (j := 2) (i := 2) (q := 2) rfl rfl d12_name_159 ?_
        obtain ⟨h53, hf⟩ := gd_some hf
        obtain ⟨h54, hf⟩ := gd_some hf
        refine ev_iald h53 h54 d12_name_160 ?_
        rcases ite_some hf with ⟨c55, hf⟩ | ⟨c55, hf⟩
        · refine ev_icmp_ne_P (tgt := 168) c55 (by decide) d12_name_161 ?_
          refine ev_iconst ci_1 d12_name_164 ?_
          refine ev_goto (tgt := 169) (by decide) d12_name_165 ?_
          exact Ev.sub [0, 1, 2] rfl (s12_name_p169 ih _ _ _ _ _ _ _ hf)
        · refine ev_icmp_ne_Q (tgt := 168) c55 (by decide) d12_name_161 ?_
          refine ev_iconst ci_0 d12_name_168 ?_
          exact Ev.sub [0, 1, 2] rfl (s12_name_p169 ih _ _ _ _ _ _ _ hf)
      · refine ev_icmp_ne_Q (tgt := 242) c49 (by decide) d12_name_143 ?_
        refine ev_iload_n (j := 1) (i := 1) (q := 1) rfl rfl d12_name_242 ?_
        obtain ⟨rfl, rfl⟩ := ret_some hf
        exact ev_iret rfl d12_name_243
    · refine ev_icmp_ge_Q (tgt := 242) c48 (by decide) d12_name_138 ?_
      refine ev_iload_n (j := 1) (i := 1) (q := 1) rfl rfl d12_name_242 ?_
      obtain ⟨rfl, rfl⟩ := ret_some hf
      exact ev_iret rfl d12_name_243
def f12_name_p130 (σ : St) (v0 : Nat) (x0 : Int32) : Option (Int32 × St) :=
  f12_name_p133 FU σ v0 x0 (0 : Int32)
set_option maxRecDepth 20000 in
theorem s12_name_p130 : ∀ (σ : St) (v0 : Nat) (x0 : Int32) (r : Int32) (τ : St), f12_name_p130 σ v0 x0 = some (r, τ) → Ev 9 m12_name 130 [(0, .ref v0)] [.int x0] σ (some (.int r)) τ := by
  intro σ v0 x0 r τ hf
  unfold f12_name_p130 at hf
  refine ev_istore_n (lv2 := [(1, .int x0), (0, .ref v0)]) (j := 1) (i := 1) rfl (by decide) rfl d12_name_130 ?_
  refine ev_iconst ci_0 d12_name_131 ?_
  refine ev_istore_n (lv2 := [(2, .int (0 : Int32)), (1, .int x0), (0, .ref v0)]) (j := 2) (i := 2) rfl (by decide) rfl d12_name_132 ?_
  exact Ev.sub [2, 1, 0] rfl (s12_name_p133 FU _ _ _ _ _ _ hf)
def f12_name (σ : St) (v0 : Nat) : Option (Int32 × St) :=
  gd (ob σ v0 12) (
  bd (f12_isWord σ v0 13) fun r2 t3 => (
  (if r2 = (0 : Int32) then
  bd (f12_isWord t3 v0 14) fun r7 t8 => (
  (if r7 = (0 : Int32) then
  bd (f12_isWord t8 v0 15) fun r12 t13 => (
  (if r12 = (0 : Int32) then
  bd (f12_isWord t13 v0 16) fun r17 t18 => (
  (if r17 = (0 : Int32) then
  bd (f12_isWord t18 v0 17) fun r22 t23 => (
  (if r22 = (0 : Int32) then
  bd (f12_isWord t23 v0 18) fun r27 t28 => (
  (if r27 = (0 : Int32) then
  bd (f12_isWord t28 v0 19) fun r32 t33 => (
  (if r32 = (0 : Int32) then
  bd (f12_isWord t33 v0 20) fun r37 t38 => (
  (if r37 = (0 : Int32) then
  bd (f12_isWord t38 v0 21) fun r42 t43 => (
  (if r42 = (0 : Int32) then
  f12_name_p130 t43 v0 (-1 : Int32)
  else
  f12_name_p130 t43 v0 (8 : Int32)))
  else
  f12_name_p130 t38 v0 (7 : Int32)))
  else
  f12_name_p130 t33 v0 (6 : Int32)))
  else
  f12_name_p130 t28 v0 (5 : Int32)))
  else
  f12_name_p130 t23 v0 (4 : Int32)))
  else
  f12_name_p130 t18 v0 (3 : Int32)))
  else
  f12_name_p130 t13 v0 (2 : Int32)))
  else
  f12_name_p130 t8 v0 (1 : Int32)))
  else
  f12_name_p130 t3 v0 (0 : Int32))))
set_option maxRecDepth 50000 in
theorem s12_name : ∀ (σ : St) (v0 : Nat) (r : Int32) (τ : St), f12_name σ v0 = some (r, τ) → Call 9 m12_name [.ref v0] σ (some (.int r)) τ := by
  intro σ v0 r τ hf
  unfold f12_name at hf
  refine Call.of (by decide +kernel) rfl (Nat.le_of_ble_eq_true rfl) ?_
  refine ev_aload_n (j := 0) (i := 0) (q := 0) rfl rfl d12_name_0 ?_
  refine ev_ldcwS (i := 13) rfl d12_name_1 ?_
  obtain ⟨h1, hf⟩ := gd_some hf
  obtain ⟨r2, t3, k4, hf⟩ := bd_some hf
  have q5 := s12_isWord _ _ _ _ _ k4
  refine ev_callV (vs := [.ref (STR + 13)]) (sk := []) cls12 h1 q5 (by decide) (Nat.le_of_ble_eq_true rfl) w1642 w1644 ws68 w19 w1645 k12_isWord rfl (Nat.le_of_ble_eq_true rfl) d12_name_4 ?_
  rcases ite_some hf with ⟨c6, hf⟩ | ⟨c6, hf⟩
  · refine ev_if_eq_P (tgt := 14) c6 (by decide) d12_name_7 ?_
    refine ev_aload_n (j := 0) (i := 0) (q := 0) rfl rfl d12_name_14 ?_
    refine ev_ldcwS (i := 14) rfl d12_name_15 ?_
    obtain ⟨r7, t8, k9, hf⟩ := bd_some hf
    have q10 := s12_isWord _ _ _ _ _ k9
    refine ev_callV (vs := [.ref (STR + 14)]) (sk := []) cls12 (mono_ob q5.1 h1) q10 (by decide) (Nat.le_of_ble_eq_true rfl) w1642 w1644 ws68 w19 w1645 k12_isWord rfl (Nat.le_of_ble_eq_true rfl) d12_name_18 ?_
    rcases ite_some hf with ⟨c11, hf⟩ | ⟨c11, hf⟩
    · refine ev_if_eq_P (tgt := 28) c11 (by decide) d12_name_21 ?_
      refine ev_aload_n (j := 0) (i := 0) (q := 0) rfl rfl d12_name_28 ?_
      refine ev_ldcwS (i := 15) rfl d12_name_29 ?_
      obtain ⟨r12, t13, k14, hf⟩ := bd_some hf
      have q15 := s12_isWord _ _ _ _ _ k14
      refine ev_callV (vs := [.ref (STR + 15)]) (sk := []) cls12 (mono_ob q10.1 (mono_ob q5.1 h1)) q15 (by decide) (Nat.le_of_ble_eq_true rfl) w1642 w1644 ws68 w19 w1645 k12_isWord rfl (Nat.le_of_ble_eq_true rfl) d12_name_32 ?_
      rcases ite_some hf with ⟨c16, hf⟩ | ⟨c16, hf⟩
      · refine ev_if_eq_P (tgt := 42) c16 (by decide) d12_name_35 ?_
        refine ev_aload_n (j := 0) (i := 0) (q := 0) rfl rfl d12_name_42 ?_
        refine ev_ldcwS (i := 16) rfl d12_name_43 ?_
        obtain ⟨r17, t18, k19, hf⟩ := bd_some hf
        have q20 := s12_isWord _ _ _ _ _ k19
        refine ev_callV (vs := [.ref (STR + 16)]) (sk := []) cls12 (mono_ob q15.1 (mono_ob q10.1 (mono_ob q5.1 h1))) q20 (by decide) (Nat.le_of_ble_eq_true rfl) w1642 w1644 ws68 w19 w1645 k12_isWord rfl (Nat.le_of_ble_eq_true rfl) d12_name_46 ?_
        rcases ite_some hf with ⟨c21, hf⟩ | ⟨c21, hf⟩
        · refine ev_if_eq_P (tgt := 56) c21 (by decide) d12_name_49 ?_
          refine ev_aload_n (j := 0) (i := 0) (q := 0) rfl rfl d12_name_56 ?_
          refine ev_ldcwS (i := 17) rfl d12_name_57 ?_
          obtain ⟨r22, t23, k24, hf⟩ := bd_some hf
          have q25 := s12_isWord _ _ _ _ _ k24
          refine ev_callV (vs := [.ref (STR + 17)]) (sk := []) cls12 (mono_ob q20.1 (mono_ob q15.1 (mono_ob q10.1 (mono_ob q5.1 h1)))) q25 (by decide) (Nat.le_of_ble_eq_true rfl) w1642 w1644 ws68 w19 w1645 k12_isWord rfl (Nat.le_of_ble_eq_true rfl) d12_name_60 ?_
          rcases ite_some hf with ⟨c26, hf⟩ | ⟨c26, hf⟩
          · refine ev_if_eq_P (tgt := 70) c26 (by decide) d12_name_63 ?_
            refine ev_aload_n (j := 0) (i := 0) (q := 0) rfl rfl d12_name_70 ?_
            refine ev_ldcwS (i := 18) rfl d12_name_71 ?_
            obtain ⟨r27, t28, k29, hf⟩ := bd_some hf
            have q30 := s12_isWord _ _ _ _ _ k29
            refine ev_callV (vs := [.ref (STR + 18)]) (sk := []) cls12 (mono_ob q25.1 (mono_ob q20.1 (mono_ob q15.1 (mono_ob q10.1 (mono_ob q5.1 h1))))) q30 (by decide) (Nat.le_of_ble_eq_true rfl) w1642 w1644 ws68 w19 w1645 k12_isWord rfl (Nat.le_of_ble_eq_true rfl) d12_name_74 ?_
            rcases ite_some hf with ⟨c31, hf⟩ | ⟨c31, hf⟩
            · refine ev_if_eq_P (tgt := 84) c31 (by decide) d12_name_77 ?_
              refine ev_aload_n (j := 0) (i := 0) (q := 0) rfl rfl d12_name_84 ?_
              refine ev_ldcwS (i := 19) rfl d12_name_85 ?_
              obtain ⟨r32, t33, k34, hf⟩ := bd_some hf
              have q35 := s12_isWord _ _ _ _ _ k34
              refine ev_callV (vs := [.ref (STR + 19)]) (sk := []) cls12 (mono_ob q30.1 (mono_ob q25.1 (mono_ob q20.1 (mono_ob q15.1 (mono_ob q10.1 (mono_ob q5.1 h1)))))) q35 (by decide) (Nat.le_of_ble_eq_true rfl) w1642 w1644 ws68 w19 w1645 k12_isWord rfl (Nat.le_of_ble_eq_true rfl) d12_name_88 ?_
              rcases ite_some hf with ⟨c36, hf⟩ | ⟨c36, hf⟩
              · refine ev_if_eq_P (tgt := 99) c36 (by decide) d12_name_91 ?_
                refine ev_aload_n (j := 0) (i := 0) (q := 0) rfl rfl d12_name_99 ?_
                refine ev_ldcwS (i := 20) rfl d12_name_100 ?_
                obtain ⟨r37, t38, k39, hf⟩ := bd_some hf
                have q40 := s12_isWord _ _ _ _ _ k39
                refine ev_callV (vs := [.ref (STR + 20)]) (sk := []) cls12 (mono_ob q35.1 (mono_ob q30.1 (mono_ob q25.1 (mono_ob q20.1 (mono_ob q15.1 (mono_ob q10.1 (mono_ob q5.1 h1))))))) q40 (by decide) (Nat.le_of_ble_eq_true rfl) w1642 w1644 ws68 w19 w1645 k12_isWord rfl (Nat.le_of_ble_eq_true rfl) d12_name_103 ?_
                rcases ite_some hf with ⟨c41, hf⟩ | ⟨c41, hf⟩
                · refine ev_if_eq_P (tgt := 114) c41 (by decide) d12_name_106 ?_
                  refine ev_aload_n (j := 0) (i := 0) (q := 0) rfl rfl d12_name_114 ?_
                  refine ev_ldcwS (i := 21) rfl d12_name_115 ?_
                  obtain ⟨r42, t43, k44, hf⟩ := bd_some hf
                  have q45 := s12_isWord _ _ _ _ _ k44
                  refine ev_callV (vs := [.ref (STR + 21)]) (sk := []) cls12 (mono_ob q40.1 (mono_ob q35.1 (mono_ob q30.1 (mono_ob q25.1 (mono_ob q20.1 (mono_ob q15.1 (mono_ob q10.1 (mono_ob q5.1 h1)))))))) q45 (by decide) (Nat.le_of_ble_eq_true rfl) w1642 w1644 ws68 w19 w1645 k12_isWord rfl (Nat.le_of_ble_eq_true rfl) d12_name_118 ?_
                  rcases ite_some hf with ⟨c46, hf⟩ | ⟨c46, hf⟩
                  · refine ev_if_eq_P (tgt := 129) c46 (by decide) d12_name_121 ?_
                    refine ev_iconst ci_m1 d12_name_129 ?_
                    exact Ev.sub [0] rfl (s12_name_p130 _ _ _ _ _ hf)
                  · refine ev_if_eq_Q (tgt := 129) c46 (by decide) d12_name_121 ?_
                    refine ev_bipush cb_8 d12_name_124 ?_
                    refine ev_goto (tgt := 130) (by decide) d12_name_126 ?_
                    exact Ev.sub [0] rfl (s12_name_p130 _ _ _ _ _ hf)
                · refine ev_if_eq_Q (tgt := 114) c41 (by decide) d12_name_106 ?_
                  refine ev_bipush cb_7 d12_name_109 ?_
                  refine ev_goto (tgt := 130) (by decide) d12_name_111 ?_
                  exact Ev.sub [0] rfl (s12_name_p130 _ _ _ _ _ hf)
              · refine ev_if_eq_Q (tgt := 99) c36 (by decide) d12_name_91 ?_
                refine ev_bipush cb_6 d12_name_94 ?_
                refine ev_goto (tgt := 130) (by decide) d12_name_96 ?_
                exact Ev.sub [0] rfl (s12_name_p130 _ _ _ _ _ hf)
            · refine ev_if_eq_Q (tgt := 84) c31 (by decide) d12_name_77 ?_
              refine ev_iconst ci_5 d12_name_80 ?_
              refine ev_goto (tgt := 130) (by decide) d12_name_81 ?_
              exact Ev.sub [0] rfl (s12_name_p130 _ _ _ _ _ hf)
          · refine ev_if_eq_Q (tgt := 70) c26 (by decide) d12_name_63 ?_
            refine ev_iconst ci_4 d12_name_66 ?_
            refine ev_goto (tgt := 130) (by decide) d12_name_67 ?_
            exact Ev.sub [0] rfl (s12_name_p130 _ _ _ _ _ hf)
        · refine ev_if_eq_Q (tgt := 56) c21 (by decide) d12_name_49 ?_
          refine ev_iconst ci_3 d12_name_52 ?_
          refine ev_goto (tgt := 130) (by decide) d12_name_53 ?_
          exact Ev.sub [0] rfl (s12_name_p130 _ _ _ _ _ hf)
      · refine ev_if_eq_Q (tgt := 42) c16 (by decide) d12_name_35 ?_
        refine ev_iconst ci_2 d12_name_38 ?_
        refine ev_goto (tgt := 130) (by decide) d12_name_39 ?_
        exact Ev.sub [0] rfl (s12_name_p130 _ _ _ _ _ hf)
    · refine ev_if_eq_Q (tgt := 28) c11 (by decide) d12_name_21 ?_
      refine ev_iconst ci_1 d12_name_24 ?_
      refine ev_goto (tgt := 130) (by decide) d12_name_25 ?_
      exact Ev.sub [0] rfl (s12_name_p130 _ _ _ _ _ hf)
  · refine ev_if_eq_Q (tgt := 14) c6 (by decide) d12_name_7 ?_
    refine ev_iconst ci_0 d12_name_10 ?_
    refine ev_goto (tgt := 130) (by decide) d12_name_11 ?_
    exact Ev.sub [0] rfl (s12_name_p130 _ _ _ _ _ hf)
abbrev m12_emits : MD := ("MillBoatsModel", ⟨"MillBoatsModel", "emits", "(I)V"⟩, prog_14_method_47_code, 2, (none : Option Jvm.ClassFile.FieldType))
theorem k12_emits : okY m12_emits.2.1 1 := ⟨by decide +kernel, by decide +kernel, by decide +kernel⟩
def f12_emits (σ : St) (v0 : Nat) (v1 : Int32) : Option (Unit × St) :=
  gd (ob σ v0 12) (
  bd (f12_isWell σ v0) fun r2 t3 => (
  (if r2 = (0 : Int32) then
  some ((), t3)
  else
  lt (sR t3 v0 23) fun b7 => (
  gd (nz b7) (
  lt (sR t3 v0 24) fun b10 => (
  gd (nz b10) (
  gd (ob t3 b10 14) (
  gd (inb t3 b10 (24 : Int32)) (
  gd (ob t3 b7 14) (
  gd (inb t3 b7 ((10080 : Int32) + (sI t3 b10 (ix (24 : Int32))))) (
  lt (wI t3 b7 (ix ((10080 : Int32) + (sI t3 b10 (ix (24 : Int32))))) v1) fun t17 => (
  lt (wI t17 b10 (ix (24 : Int32)) ((sI t17 b10 (ix (24 : Int32))) + (1 : Int32))) fun t19 => (
  some ((), t19))))))))))))))
set_option maxRecDepth 50000 in
theorem s12_emits : ∀ (σ : St) (v0 : Nat) (v1 : Int32) (r : Unit) (τ : St), f12_emits σ v0 v1 = some (r, τ) → Call 3 m12_emits [.ref v0, .int v1] σ none τ := by
  intro σ v0 v1 r τ hf
  unfold f12_emits at hf
  refine Call.of (by decide +kernel) rfl (Nat.le_of_ble_eq_true rfl) ?_
  refine ev_aload_n (j := 0) (i := 0) (q := 0) rfl rfl d12_emits_0 ?_
  obtain ⟨h1, hf⟩ := gd_some hf
  obtain ⟨r2, t3, k4, hf⟩ := bd_some hf
  have q5 := s12_isWell _ _ _ _ k4
  refine ev_callV (vs := []) (sk := []) cls12 h1 q5 (by decide) (Nat.le_of_ble_eq_true rfl) w1633 w1635 ws66 w19 w1636 k12_isWell rfl (Nat.le_of_ble_eq_true rfl) d12_emits_1 ?_
  rcases ite_some hf with ⟨c6, hf⟩ | ⟨c6, hf⟩
  · refine ev_if_ne_P (tgt := 8) c6 (by decide) d12_emits_4 ?_
    obtain ⟨-, rfl⟩ := ret_some hf
    exact ev_vret rfl d12_emits_7
  · refine ev_if_ne_Q (tgt := 8) c6 (by decide) d12_emits_4 ?_
    refine ev_aload_n (j := 0) (i := 0) (q := 0) rfl rfl d12_emits_8 ?_
    obtain ⟨b7, e8, hf⟩ := lt_some hf
    obtain ⟨h9, hf⟩ := gd_some hf
    refine ev_getRb cls12 (j := 23) (by decide) rfl w1274 (mono_ob q5.1 h1) e8 (nz_ne h9) d12_emits_9 ?_
    refine ev_sipush cs_10080 d12_emits_12 ?_
    refine ev_aload_n (j := 0) (i := 0) (q := 0) rfl rfl d12_emits_15 ?_
    obtain ⟨b10, e11, hf⟩ := lt_some hf
    obtain ⟨h12, hf⟩ := gd_some hf
    refine ev_getRb cls12 (j := 24) (by decide) rfl w1275 (mono_ob q5.1 h1) e11 (nz_ne h12) d12_emits_16 ?_
    refine ev_bipush cb_24 d12_emits_19 ?_
    obtain ⟨h13, hf⟩ := gd_some hf
    obtain ⟨h14, hf⟩ := gd_some hf
    refine ev_iald h13 h14 d12_emits_21 ?_
    refine ev_iadd d12_emits_22 ?_
    refine ev_iload_n (j := 1) (i := 1) (q := 1) rfl rfl d12_emits_23 ?_
    obtain ⟨h15, hf⟩ := gd_some hf
    obtain ⟨h16, hf⟩ := gd_some hf
    obtain ⟨t17, e18, hf⟩ := lt_some hf
    refine ev_iast h15 h16 d12_emits_24 (ev_nmS e18 ?_)
    refine ev_aload_n (j := 0) (i := 0) (q := 0) rfl rfl d12_emits_25 ?_
    refine ev_getRb cls12 (j := 24) (by decide) rfl w1275 (mono_ob (mono_eI e18) (mono_ob q5.1 h1)) (tr_I e18 e11) (nz_ne h12) d12_emits_26 ?_
    refine ev_bipush cb_24 d12_emits_29 ?_
    refine ev_dup2 rfl rfl d12_emits_31 ?_
    refine ev_iald (mono_ob (mono_eI e18) h13) (inb_m (mono_eI e18) h13 h14) d12_emits_32 ?_
    refine ev_iconst ci_1 d12_emits_33 ?_
    refine ev_iadd d12_emits_34 ?_
    obtain ⟨t19, e20, hf⟩ := lt_some hf
    refine ev_iast (mono_ob (mono_eI e18) h13) (inb_m (mono_eI e18) h13 h14) d12_emits_35 (ev_nmS e20 ?_)
    obtain ⟨-, rfl⟩ := ret_some hf
    exact ev_vret rfl d12_emits_36
abbrev m12_opens : MD := ("MillBoatsModel", ⟨"MillBoatsModel", "opens", "()V"⟩, prog_14_method_48_code, 1, (none : Option Jvm.ClassFile.FieldType))
theorem k12_opens : okY m12_opens.2.1 0 := ⟨by decide +kernel, by decide +kernel, by decide +kernel⟩
def f12_opens_p13 (σ : St) (v0 : Nat) : Option (Unit × St) :=
  gd (ob σ v0 12) (
  bd (f12_isWell σ v0) fun r8 t9 => (
  (if r8 = (0 : Int32) then
  some ((), t9)
  else
  lt (wI t9 v0 43 ((sI t9 v0 43) + (1 : Int32))) fun t13 => (
  bd (f12_next t13 v0) fun r15 t16 => (
  some ((), t16))))))
set_option maxRecDepth 20000 in
theorem s12_opens_p13 : ∀ (σ : St) (v0 : Nat) (r : Unit) (τ : St), f12_opens_p13 σ v0 = some (r, τ) → Ev 4 m12_opens 13 [(0, .ref v0)] [] σ none τ := by
  intro σ v0 r τ hf
  unfold f12_opens_p13 at hf
  refine ev_aload_n (j := 0) (i := 0) (q := 0) rfl rfl d12_opens_13 ?_
  obtain ⟨h7, hf⟩ := gd_some hf
  obtain ⟨r8, t9, k10, hf⟩ := bd_some hf
  have q11 := s12_isWell _ _ _ _ k10
  refine ev_callV (vs := []) (sk := []) cls12 h7 q11 (by decide) (Nat.le_of_ble_eq_true rfl) w1633 w1635 ws66 w19 w1636 k12_isWell rfl (Nat.le_of_ble_eq_true rfl) d12_opens_14 ?_
  rcases ite_some hf with ⟨c12, hf⟩ | ⟨c12, hf⟩
  · refine ev_if_ne_P (tgt := 21) c12 (by decide) d12_opens_17 ?_
    obtain ⟨-, rfl⟩ := ret_some hf
    exact ev_vret rfl d12_opens_20
  · refine ev_if_ne_Q (tgt := 21) c12 (by decide) d12_opens_17 ?_
    refine ev_aload_n (j := 0) (i := 0) (q := 0) rfl rfl d12_opens_21 ?_
    refine ev_dup rfl d12_opens_22 ?_
    refine ev_getI cls12 (j := 43) (by decide) rfl w1294 (mono_ob q11.1 h7) d12_opens_23 ?_
    refine ev_iconst ci_1 d12_opens_26 ?_
    refine ev_iadd d12_opens_27 ?_
    obtain ⟨t13, e14, hf⟩ := lt_some hf
    refine ev_putI cls12 (j := 43) (by decide) rfl rfl w1294 (mono_ob q11.1 h7) (fun _ => ⟨rfl, rfl⟩) d12_opens_28 (ev_nmS e14 ?_)
    refine ev_aload_n (j := 0) (i := 0) (q := 0) rfl rfl d12_opens_31 ?_
    obtain ⟨r15, t16, k17, hf⟩ := bd_some hf
    have q18 := s12_next _ _ _ _ k17
    refine ev_callV (vs := []) (sk := []) cls12 (mono_ob (mono_eI e14) (mono_ob q11.1 h7)) q18 (by decide) (Nat.le_of_ble_eq_true rfl) w1619 w1621 ws64 w19 w1622 k12_next rfl (Nat.le_of_ble_eq_true rfl) d12_opens_32 ?_
    obtain ⟨-, rfl⟩ := ret_some hf
    exact ev_vret rfl d12_opens_35
def f12_opens (σ : St) (v0 : Nat) : Option (Unit × St) :=
  gd (ob σ v0 12) (
  (if (sI σ v0 43) = (4 : Int32) then
  bd (f12_fails σ v0 (4 : Int32)) fun r3 t4 => (
  f12_opens_p13 t4 v0)
  else
  f12_opens_p13 σ v0))
set_option maxRecDepth 50000 in
theorem s12_opens : ∀ (σ : St) (v0 : Nat) (r : Unit) (τ : St), f12_opens σ v0 = some (r, τ) → Call 4 m12_opens [.ref v0] σ none τ := by
  intro σ v0 r τ hf
  unfold f12_opens at hf
  refine Call.of (by decide +kernel) rfl (Nat.le_of_ble_eq_true rfl) ?_
  refine ev_aload_n (j := 0) (i := 0) (q := 0) rfl rfl d12_opens_0 ?_
  obtain ⟨h1, hf⟩ := gd_some hf
  refine ev_getI cls12 (j := 43) (by decide) rfl w1294 h1 d12_opens_1 ?_
  refine ev_iconst ci_4 d12_opens_4 ?_
  rcases ite_some hf with ⟨c2, hf⟩ | ⟨c2, hf⟩
  · refine ev_icmp_ne_P (tgt := 13) c2 (by decide) d12_opens_5 ?_
    refine ev_aload_n (j := 0) (i := 0) (q := 0) rfl rfl d12_opens_8 ?_
    refine ev_iconst ci_4 d12_opens_9 ?_
    obtain ⟨r3, t4, k5, hf⟩ := bd_some hf
    have q6 := s12_fails _ _ _ _ _ k5
    refine ev_callV (vs := [.int (4 : Int32)]) (sk := []) cls12 h1 q6 (by decide) (Nat.le_of_ble_eq_true rfl) w1652 w1654 ws69 w19 w1655 k12_fails rfl (Nat.le_of_ble_eq_true rfl) d12_opens_10 ?_
    exact Ev.sub [0] rfl (s12_opens_p13 _ _ _ _ hf)
  · refine ev_icmp_ne_Q (tgt := 13) c2 (by decide) d12_opens_5 ?_
    exact Ev.sub [0] rfl (s12_opens_p13 _ _ _ _ hf)
abbrev m12_factor : MD := ("MillBoatsModel", ⟨"MillBoatsModel", "factor", "()V"⟩, prog_14_method_49_code, 2, (none : Option Jvm.ClassFile.FieldType))
theorem k12_factor : okY m12_factor.2.1 0 := ⟨by decide +kernel, by decide +kernel, by decide +kernel⟩
abbrev m12_product : MD := ("MillBoatsModel", ⟨"MillBoatsModel", "product", "()V"⟩, prog_14_method_50_code, 1, (none : Option Jvm.ClassFile.FieldType))
theorem k12_product : okY m12_product.2.1 0 := ⟨by decide +kernel, by decide +kernel, by decide +kernel⟩
abbrev m12_sum : MD := ("MillBoatsModel", ⟨"MillBoatsModel", "sum", "()V"⟩, prog_14_method_51_code, 2, (none : Option Jvm.ClassFile.FieldType))
theorem k12_sum : okY m12_sum.2.1 0 := ⟨by decide +kernel, by decide +kernel, by decide +kernel⟩
def f12_factor_p61 (F : St → Nat → Option (Unit × St)) (σ : St) (v0 : Nat) (v1 : Int32) : Option (Unit × St) :=
  gd (ob σ v0 12) (
  bd (f12_emits σ v0 ((10000 : Int32) + v1)) fun r32 t33 => (
  bd (f12_isWell t33 v0) fun r36 t37 => (
  (if r36 = (0 : Int32) then
  some ((), t37)
  else
  bd (f12_next t37 v0) fun r41 t42 => (
  some ((), t42))))))
set_option maxRecDepth 20000 in
theorem s12_factor_p61 {F : St → Nat → Option (Unit × St)} {dF : Nat} (hB : 10 ≤ dF) (hF : ∀ (σ : St) (a0 : Nat) (r : Unit) (τ : St), F σ a0 = some (r, τ) → Call dF m12_sum [.ref a0] σ none τ) : ∀ (σ : St) (v0 : Nat) (v1 : Int32) (r : Unit) (τ : St), f12_factor_p61 F σ v0 v1 = some (r, τ) → Ev (dF + 1) m12_factor 61 [(0, .ref v0), (1, .int v1)] [] σ none τ := by
  intro σ v0 v1 r τ hf
  unfold f12_factor_p61 at hf
  refine ev_aload_n (j := 0) (i := 0) (q := 0) rfl rfl d12_factor_61 ?_
  refine ev_sipush cs_10000 d12_factor_62 ?_
  refine ev_iload_n (j := 1) (i := 1) (q := 1) rfl rfl d12_factor_65 ?_
  refine ev_iadd d12_factor_66 ?_
  obtain ⟨h31, hf⟩ := gd_some hf
  obtain ⟨r32, t33, k34, hf⟩ := bd_some hf
  have q35 := s12_emits _ _ _ _ _ k34
  refine ev_callV (vs := [.int ((10000 : Int32) + v1)]) (sk := []) cls12 h31 q35 (by omega) (Nat.le_of_ble_eq_true rfl) w1702 w1704 ws78 w19 w1705 k12_emits rfl (Nat.le_of_ble_eq_true rfl) d12_factor_67 ?_
  refine ev_aload_n (j := 0) (i := 0) (q := 0) rfl rfl d12_factor_70 ?_
  obtain ⟨r36, t37, k38, hf⟩ := bd_some hf
  have q39 := s12_isWell _ _ _ _ k38
  refine ev_callV (vs := []) (sk := []) cls12 (mono_ob q35.1 h31) q39 (by omega) (Nat.le_of_ble_eq_true rfl) w1633 w1635 ws66 w19 w1636 k12_isWell rfl (Nat.le_of_ble_eq_true rfl) d12_factor_71 ?_
  rcases ite_some hf with ⟨c40, hf⟩ | ⟨c40, hf⟩
  · refine ev_if_eq_P (tgt := 81) c40 (by decide) d12_factor_74 ?_
    refine ev_goto (tgt := 125) (by decide) d12_factor_81 ?_
    obtain ⟨-, rfl⟩ := ret_some hf
    exact ev_vret rfl d12_factor_125
  · refine ev_if_eq_Q (tgt := 81) c40 (by decide) d12_factor_74 ?_
    refine ev_aload_n (j := 0) (i := 0) (q := 0) rfl rfl d12_factor_77 ?_
    obtain ⟨r41, t42, k43, hf⟩ := bd_some hf
    have q44 := s12_next _ _ _ _ k43
    refine ev_callV (vs := []) (sk := []) cls12 (mono_ob q39.1 (mono_ob q35.1 h31)) q44 (by omega) (Nat.le_of_ble_eq_true rfl) w1619 w1621 ws64 w19 w1622 k12_next rfl (Nat.le_of_ble_eq_true rfl) d12_factor_78 ?_
    refine ev_goto (tgt := 125) (by decide) d12_factor_81 ?_
    obtain ⟨-, rfl⟩ := ret_some hf
    exact ev_vret rfl d12_factor_125
def f12_factor_p84 (F : St → Nat → Option (Unit × St)) (σ : St) (v0 : Nat) : Option (Unit × St) :=
  gd (ob σ v0 12) (
  bd (f12_isSign σ v0 (40 : Int32)) fun r46 t47 => (
  (if r46 = (0 : Int32) then
  bd (f12_fails t47 v0 (1 : Int32)) fun r51 t52 => (
  some ((), t52))
  else
  bd (f12_opens t47 v0) fun r55 t56 => (
  bd (F t56 v0) fun r59 t60 => (
  bd (f12_wantSign t60 v0 (41 : Int32)) fun r63 t64 => (
  lt (wI t64 v0 43 ((sI t64 v0 43) - (1 : Int32))) fun t67 => (
  some ((), t67))))))))
set_option maxRecDepth 20000 in
theorem s12_factor_p84 {F : St → Nat → Option (Unit × St)} {dF : Nat} (hB : 10 ≤ dF) (hF : ∀ (σ : St) (a0 : Nat) (r : Unit) (τ : St), F σ a0 = some (r, τ) → Call dF m12_sum [.ref a0] σ none τ) : ∀ (σ : St) (v0 : Nat) (r : Unit) (τ : St), f12_factor_p84 F σ v0 = some (r, τ) → Ev (dF + 1) m12_factor 84 [(0, .ref v0)] [] σ none τ := by
  intro σ v0 r τ hf
  unfold f12_factor_p84 at hf
  refine ev_aload_n (j := 0) (i := 0) (q := 0) rfl rfl d12_factor_84 ?_
  refine ev_bipush cb_40 d12_factor_85 ?_
  obtain ⟨h45, hf⟩ := gd_some hf
  obtain ⟨r46, t47, k48, hf⟩ := bd_some hf
  have q49 := s12_isSign _ _ _ _ _ k48
  refine ev_callV (vs := [.int (40 : Int32)]) (sk := []) cls12 h45 q49 (by omega) (Nat.le_of_ble_eq_true rfl) w1686 w1688 ws74 w19 w1689 k12_isSign rfl (Nat.le_of_ble_eq_true rfl) d12_factor_87 ?_
  rcases ite_some hf with ⟨c50, hf⟩ | ⟨c50, hf⟩
  · refine ev_if_eq_P (tgt := 120) c50 (by decide) d12_factor_90 ?_
    refine ev_aload_n (j := 0) (i := 0) (q := 0) rfl rfl d12_factor_120 ?_
    refine ev_iconst ci_1 d12_factor_121 ?_
    obtain ⟨r51, t52, k53, hf⟩ := bd_some hf
    have q54 := s12_fails _ _ _ _ _ k53
    refine ev_callV (vs := [.int (1 : Int32)]) (sk := []) cls12 (mono_ob q49.1 h45) q54 (by omega) (Nat.le_of_ble_eq_true rfl) w1652 w1654 ws69 w19 w1655 k12_fails rfl (Nat.le_of_ble_eq_true rfl) d12_factor_122 ?_
    obtain ⟨-, rfl⟩ := ret_some hf
    exact ev_vret rfl d12_factor_125
  · refine ev_if_eq_Q (tgt := 120) c50 (by decide) d12_factor_90 ?_
    refine ev_aload_n (j := 0) (i := 0) (q := 0) rfl rfl d12_factor_93 ?_
    obtain ⟨r55, t56, k57, hf⟩ := bd_some hf
    have q58 := s12_opens _ _ _ _ k57
    refine ev_callV (vs := []) (sk := []) cls12 (mono_ob q49.1 h45) q58 (by omega) (Nat.le_of_ble_eq_true rfl) w1706 w1708 ws79 w19 w1709 k12_opens rfl (Nat.le_of_ble_eq_true rfl) d12_factor_94 ?_
    refine ev_aload_n (j := 0) (i := 0) (q := 0) rfl rfl d12_factor_97 ?_
    obtain ⟨r59, t60, k61, hf⟩ := bd_some hf
    have q62 := hF _ _ _ _ k61
    refine ev_callV (vs := []) (sk := []) cls12 (mono_ob q58.1 (mono_ob q49.1 h45)) q62 (by omega) (Nat.le_of_ble_eq_true rfl) w1690 w1692 ws75 w19 w1693 k12_sum rfl (Nat.le_of_ble_eq_true rfl) d12_factor_98 ?_
    refine ev_aload_n (j := 0) (i := 0) (q := 0) rfl rfl d12_factor_101 ?_
    refine ev_bipush cb_41 d12_factor_102 ?_
    obtain ⟨r63, t64, k65, hf⟩ := bd_some hf
    have q66 := s12_wantSign _ _ _ _ _ k65
    refine ev_callV (vs := [.int (41 : Int32)]) (sk := []) cls12 (mono_ob q62.1 (mono_ob q58.1 (mono_ob q49.1 h45))) q66 (by omega) (Nat.le_of_ble_eq_true rfl) w1682 w1684 ws73 w19 w1685 k12_wantSign rfl (Nat.le_of_ble_eq_true rfl) d12_factor_104 ?_
    refine ev_aload_n (j := 0) (i := 0) (q := 0) rfl rfl d12_factor_107 ?_
    refine ev_dup rfl d12_factor_108 ?_
    refine ev_getI cls12 (j := 43) (by decide) rfl w1294 (mono_ob q66.1 (mono_ob q62.1 (mono_ob q58.1 (mono_ob q49.1 h45)))) d12_factor_109 ?_
    refine ev_iconst ci_1 d12_factor_112 ?_
    refine ev_isub d12_factor_113 ?_
    obtain ⟨t67, e68, hf⟩ := lt_some hf
    refine ev_putI cls12 (j := 43) (by decide) rfl rfl w1294 (mono_ob q66.1 (mono_ob q62.1 (mono_ob q58.1 (mono_ob q49.1 h45)))) (fun _ => ⟨rfl, rfl⟩) d12_factor_114 (ev_nmS e68 ?_)
    refine ev_goto (tgt := 125) (by decide) d12_factor_117 ?_
    obtain ⟨-, rfl⟩ := ret_some hf
    exact ev_vret rfl d12_factor_125
def f12_factor (F : St → Nat → Option (Unit × St)) (σ : St) (v0 : Nat) : Option (Unit × St) :=
  gd (ob σ v0 12) (
  bd (f12_isWell σ v0) fun r2 t3 => (
  (if r2 = (0 : Int32) then
  some ((), t3)
  else
  (if (sI t3 v0 38) = (2 : Int32) then
  bd (f12_emits t3 v0 (sI t3 v0 39)) fun r8 t9 => (
  bd (f12_next t9 v0) fun r12 t13 => (
  some ((), t13)))
  else
  (if (sI t3 v0 38) = (3 : Int32) then
  bd (f12_isBarredWord t3 v0) fun r17 t18 => (
  (if r17 = (0 : Int32) then
  bd (f12_name t18 v0) fun r22 t23 => (
  (if r22 = (-1 : Int32) then
  bd (f12_fails t23 v0 (3 : Int32)) fun r27 t28 => (
  f12_factor_p61 F t28 v0 r22)
  else
  f12_factor_p61 F t23 v0 r22))
  else
  f12_factor_p84 F t18 v0))
  else
  f12_factor_p84 F t3 v0)))))
set_option maxRecDepth 50000 in
theorem s12_factor {F : St → Nat → Option (Unit × St)} {dF : Nat} (hB : 10 ≤ dF) (hF : ∀ (σ : St) (a0 : Nat) (r : Unit) (τ : St), F σ a0 = some (r, τ) → Call dF m12_sum [.ref a0] σ none τ) : ∀ (σ : St) (v0 : Nat) (r : Unit) (τ : St), f12_factor F σ v0 = some (r, τ) → Call (dF + 1) m12_factor [.ref v0] σ none τ := by
  intro σ v0 r τ hf
  unfold f12_factor at hf
  refine Call.of (by decide +kernel) rfl (Nat.le_of_ble_eq_true rfl) ?_
  refine ev_aload_n (j := 0) (i := 0) (q := 0) rfl rfl d12_factor_0 ?_
  obtain ⟨h1, hf⟩ := gd_some hf
  obtain ⟨r2, t3, k4, hf⟩ := bd_some hf
  have q5 := s12_isWell _ _ _ _ k4
  refine ev_callV (vs := []) (sk := []) cls12 h1 q5 (by omega) (Nat.le_of_ble_eq_true rfl) w1633 w1635 ws66 w19 w1636 k12_isWell rfl (Nat.le_of_ble_eq_true rfl) d12_factor_1 ?_
  rcases ite_some hf with ⟨c6, hf⟩ | ⟨c6, hf⟩
  · refine ev_if_ne_P (tgt := 8) c6 (by decide) d12_factor_4 ?_
    obtain ⟨-, rfl⟩ := ret_some hf
    exact ev_vret rfl d12_factor_7
  · refine ev_if_ne_Q (tgt := 8) c6 (by decide) d12_factor_4 ?_
    refine ev_aload_n (j := 0) (i := 0) (q := 0) rfl rfl d12_factor_8 ?_
    refine ev_getI cls12 (j := 38) (by decide) rfl w1289 (mono_ob q5.1 h1) d12_factor_9 ?_
    refine ev_iconst ci_2 d12_factor_12 ?_
    rcases ite_some hf with ⟨c7, hf⟩ | ⟨c7, hf⟩
    · refine ev_icmp_ne_P (tgt := 31) c7 (by decide) d12_factor_13 ?_
      refine ev_aload_n (j := 0) (i := 0) (q := 0) rfl rfl d12_factor_16 ?_
      refine ev_aload_n (j := 0) (i := 0) (q := 0) rfl rfl d12_factor_17 ?_
      refine ev_getI cls12 (j := 39) (by decide) rfl w1290 (mono_ob q5.1 h1) d12_factor_18 ?_
      obtain ⟨r8, t9, k10, hf⟩ := bd_some hf
      have q11 := s12_emits _ _ _ _ _ k10
      refine ev_callV (vs := [.int (sI t3 v0 39)]) (sk := []) cls12 (mono_ob q5.1 h1) q11 (by omega) (Nat.le_of_ble_eq_true rfl) w1702 w1704 ws78 w19 w1705 k12_emits rfl (Nat.le_of_ble_eq_true rfl) d12_factor_21 ?_
      refine ev_aload_n (j := 0) (i := 0) (q := 0) rfl rfl d12_factor_24 ?_
      obtain ⟨r12, t13, k14, hf⟩ := bd_some hf
      have q15 := s12_next _ _ _ _ k14
      refine ev_callV (vs := []) (sk := []) cls12 (mono_ob q11.1 (mono_ob q5.1 h1)) q15 (by omega) (Nat.le_of_ble_eq_true rfl) w1619 w1621 ws64 w19 w1622 k12_next rfl (Nat.le_of_ble_eq_true rfl) d12_factor_25 ?_
      refine ev_goto (tgt := 125) (by decide) d12_factor_28 ?_
      obtain ⟨-, rfl⟩ := ret_some hf
      exact ev_vret rfl d12_factor_125
    · refine ev_icmp_ne_Q (tgt := 31) c7 (by decide) d12_factor_13 ?_
      refine ev_aload_n (j := 0) (i := 0) (q := 0) rfl rfl d12_factor_31 ?_
      refine ev_getI cls12 (j := 38) (by decide) rfl w1289 (mono_ob q5.1 h1) d12_factor_32 ?_
      refine ev_iconst ci_3 d12_factor_35 ?_
      rcases ite_some hf with ⟨c16, hf⟩ | ⟨c16, hf⟩
      · refine ev_icmp_ne_P (tgt := 84) c16 (by decide) d12_factor_36 ?_
        refine ev_aload_n (j := 0) (i := 0) (q := 0) rfl rfl d12_factor_39 ?_
        obtain ⟨r17, t18, k19, hf⟩ := bd_some hf
        have q20 := s12_isBarredWord _ _ _ _ k19
        refine ev_callV (vs := []) (sk := []) cls12 (mono_ob q5.1 h1) q20 (by omega) (Nat.le_of_ble_eq_true rfl) w1660 w1662 ws71 w19 w1663 k12_isBarredWord rfl (Nat.le_of_ble_eq_true rfl) d12_factor_40 ?_
        rcases ite_some hf with ⟨c21, hf⟩ | ⟨c21, hf⟩
        · refine ev_if_ne_P (tgt := 84) c21 (by decide) d12_factor_43 ?_
          refine ev_aload_n (j := 0) (i := 0) (q := 0) rfl rfl d12_factor_46 ?_
          obtain ⟨r22, t23, k24, hf⟩ := bd_some hf
          have q25 := s12_name _ _ _ _ k24
          refine ev_callV (vs := []) (sk := []) cls12 (mono_ob q20.1 (mono_ob q5.1 h1)) q25 (by omega) (Nat.le_of_ble_eq_true rfl) w1669 w1671 ws72 w19 w1672 k12_name rfl (Nat.le_of_ble_eq_true rfl) d12_factor_47 ?_
          refine ev_istore_n (lv2 := [(1, .int r22), (0, .ref v0)]) (j := 1) (i := 1) rfl (by decide) rfl d12_factor_50 ?_
          refine ev_iload_n (j := 1) (i := 1) (q := 0) rfl rfl d12_factor_51 ?_
          refine ev_iconst ci_m1 d12_factor_52 ?_
          rcases ite_some hf with ⟨c26, hf⟩ | ⟨c26, hf⟩
          · refine ev_icmp_ne_P (tgt := 61) c26 (by decide) d12_factor_53 ?_
            refine ev_aload_n (j := 0) (i := 0) (q := 1) rfl rfl d12_factor_56 ?_
            refine ev_iconst ci_3 d12_factor_57 ?_
            obtain ⟨r27, t28, k29, hf⟩ := bd_some hf
            have q30 := s12_fails _ _ _ _ _ k29
            refine ev_callV (vs := [.int (3 : Int32)]) (sk := []) cls12 (mono_ob q25.1 (mono_ob q20.1 (mono_ob q5.1 h1))) q30 (by omega) (Nat.le_of_ble_eq_true rfl) w1652 w1654 ws69 w19 w1655 k12_fails rfl (Nat.le_of_ble_eq_true rfl) d12_factor_58 ?_
            exact Ev.sub [1, 0] rfl (s12_factor_p61 hB hF _ _ _ _ _ hf)
          · refine ev_icmp_ne_Q (tgt := 61) c26 (by decide) d12_factor_53 ?_
            exact Ev.sub [1, 0] rfl (s12_factor_p61 hB hF _ _ _ _ _ hf)
        · refine ev_if_ne_Q (tgt := 84) c21 (by decide) d12_factor_43 ?_
          exact Ev.sub [0] rfl (s12_factor_p84 hB hF _ _ _ _ hf)
      · refine ev_icmp_ne_Q (tgt := 84) c16 (by decide) d12_factor_36 ?_
        exact Ev.sub [0] rfl (s12_factor_p84 hB hF _ _ _ _ hf)
def f12_product_p4 (F : St → Nat → Option (Unit × St)) : Nat → St → Nat → Option (Unit × St)
  | 0, _, _ => none
  | n + 1, σ, v0 =>
  gd (ob σ v0 12) (
  bd (f12_isWell σ v0) fun r7 t8 => (
  (if r7 = (0 : Int32) then
  some ((), t8)
  else
  bd (f12_isSign t8 v0 (42 : Int32)) fun r12 t13 => (
  (if r12 = (0 : Int32) then
  some ((), t13)
  else
  bd (f12_next t13 v0) fun r17 t18 => (
  bd (f12_factor F t18 v0) fun r21 t22 => (
  bd (f12_emits t22 v0 (-3 : Int32)) fun r25 t26 => (
  (f12_product_p4 F n) t26 v0))))))))
set_option maxRecDepth 20000 in
theorem s12_product_p4 {F : St → Nat → Option (Unit × St)} {dF : Nat} (hB : 10 ≤ dF) (hF : ∀ (σ : St) (a0 : Nat) (r : Unit) (τ : St), F σ a0 = some (r, τ) → Call dF m12_sum [.ref a0] σ none τ) : ∀ (n : Nat) (σ : St) (v0 : Nat) (r : Unit) (τ : St), f12_product_p4 F n σ v0 = some (r, τ) → Ev (dF + 2) m12_product 4 [(0, .ref v0)] [] σ none τ := by
  intro n
  induction n with
  | zero =>
    intro σ v0 r τ hf
    cases hf
  | succ n ih =>
    intro σ v0 r τ hf
    rw [f12_product_p4] at hf
    refine ev_aload_n (j := 0) (i := 0) (q := 0) rfl rfl d12_product_4 ?_
    obtain ⟨h6, hf⟩ := gd_some hf
    obtain ⟨r7, t8, k9, hf⟩ := bd_some hf
    have q10 := s12_isWell _ _ _ _ k9
    refine ev_callV (vs := []) (sk := []) cls12 h6 q10 (by omega) (Nat.le_of_ble_eq_true rfl) w1633 w1635 ws66 w19 w1636 k12_isWell rfl (Nat.le_of_ble_eq_true rfl) d12_product_5 ?_
    rcases ite_some hf with ⟨c11, hf⟩ | ⟨c11, hf⟩
    · refine ev_if_eq_P (tgt := 37) c11 (by decide) d12_product_8 ?_
      obtain ⟨-, rfl⟩ := ret_some hf
      exact ev_vret rfl d12_product_37
    · refine ev_if_eq_Q (tgt := 37) c11 (by decide) d12_product_8 ?_
      refine ev_aload_n (j := 0) (i := 0) (q := 0) rfl rfl d12_product_11 ?_
      refine ev_bipush cb_42 d12_product_12 ?_
      obtain ⟨r12, t13, k14, hf⟩ := bd_some hf
      have q15 := s12_isSign _ _ _ _ _ k14
      refine ev_callV (vs := [.int (42 : Int32)]) (sk := []) cls12 (mono_ob q10.1 h6) q15 (by omega) (Nat.le_of_ble_eq_true rfl) w1686 w1688 ws74 w19 w1689 k12_isSign rfl (Nat.le_of_ble_eq_true rfl) d12_product_14 ?_
      rcases ite_some hf with ⟨c16, hf⟩ | ⟨c16, hf⟩
      · refine ev_if_eq_P (tgt := 37) c16 (by decide) d12_product_17 ?_
        obtain ⟨-, rfl⟩ := ret_some hf
        exact ev_vret rfl d12_product_37
      · refine ev_if_eq_Q (tgt := 37) c16 (by decide) d12_product_17 ?_
        refine ev_aload_n (j := 0) (i := 0) (q := 0) rfl rfl d12_product_20 ?_
        obtain ⟨r17, t18, k19, hf⟩ := bd_some hf
        have q20 := s12_next _ _ _ _ k19
        refine ev_callV (vs := []) (sk := []) cls12 (mono_ob q15.1 (mono_ob q10.1 h6)) q20 (by omega) (Nat.le_of_ble_eq_true rfl) w1619 w1621 ws64 w19 w1622 k12_next rfl (Nat.le_of_ble_eq_true rfl) d12_product_21 ?_
        refine ev_aload_n (j := 0) (i := 0) (q := 0) rfl rfl d12_product_24 ?_
        obtain ⟨r21, t22, k23, hf⟩ := bd_some hf
        have q24 := s12_factor hB hF _ _ _ _ k23
        refine ev_callV (vs := []) (sk := []) cls12 (mono_ob q20.1 (mono_ob q15.1 (mono_ob q10.1 h6))) q24 (by omega) (Nat.le_of_ble_eq_true rfl) w1698 w1700 ws77 w19 w1701 k12_factor rfl (Nat.le_of_ble_eq_true rfl) d12_product_25 ?_
        refine ev_aload_n (j := 0) (i := 0) (q := 0) rfl rfl d12_product_28 ?_
        refine ev_bipush cb_m3 d12_product_29 ?_
        obtain ⟨r25, t26, k27, hf⟩ := bd_some hf
        have q28 := s12_emits _ _ _ _ _ k27
        refine ev_callV (vs := [.int (-3 : Int32)]) (sk := []) cls12 (mono_ob q24.1 (mono_ob q20.1 (mono_ob q15.1 (mono_ob q10.1 h6)))) q28 (by omega) (Nat.le_of_ble_eq_true rfl) w1702 w1704 ws78 w19 w1705 k12_emits rfl (Nat.le_of_ble_eq_true rfl) d12_product_31 ?_
        refine ev_goto (tgt := 4) (by decide) d12_product_34 ?_
        exact Ev.sub [0] rfl (ih _ _ _ _ hf)
def f12_product (F : St → Nat → Option (Unit × St)) (σ : St) (v0 : Nat) : Option (Unit × St) :=
  gd (ob σ v0 12) (
  bd (f12_factor F σ v0) fun r2 t3 => (
  f12_product_p4 F FU t3 v0))
set_option maxRecDepth 50000 in
theorem s12_product {F : St → Nat → Option (Unit × St)} {dF : Nat} (hB : 10 ≤ dF) (hF : ∀ (σ : St) (a0 : Nat) (r : Unit) (τ : St), F σ a0 = some (r, τ) → Call dF m12_sum [.ref a0] σ none τ) : ∀ (σ : St) (v0 : Nat) (r : Unit) (τ : St), f12_product F σ v0 = some (r, τ) → Call (dF + 2) m12_product [.ref v0] σ none τ := by
  intro σ v0 r τ hf
  unfold f12_product at hf
  refine Call.of (by decide +kernel) rfl (Nat.le_of_ble_eq_true rfl) ?_
  refine ev_aload_n (j := 0) (i := 0) (q := 0) rfl rfl d12_product_0 ?_
  obtain ⟨h1, hf⟩ := gd_some hf
  obtain ⟨r2, t3, k4, hf⟩ := bd_some hf
  have q5 := s12_factor hB hF _ _ _ _ k4
  refine ev_callV (vs := []) (sk := []) cls12 h1 q5 (by omega) (Nat.le_of_ble_eq_true rfl) w1698 w1700 ws77 w19 w1701 k12_factor rfl (Nat.le_of_ble_eq_true rfl) d12_product_1 ?_
  exact Ev.sub [0] rfl (s12_product_p4 hB hF FU _ _ _ _ hf)
def f12_sum_p55 (F : St → Nat → Option (Unit × St)) (K4 : St → Nat → Option (Unit × St)) (σ : St) (v0 : Nat) (x0 : Int32) (x1 : Nat) : Option (Unit × St) :=
  gd (ob σ x1 12) (
  bd (f12_emits σ x1 x0) fun r37 t38 => (
  K4 t38 v0))
set_option maxRecDepth 20000 in
theorem s12_sum_p55 {F : St → Nat → Option (Unit × St)} {dF : Nat} (hB : 10 ≤ dF) (hF : ∀ (σ : St) (a0 : Nat) (r : Unit) (τ : St), F σ a0 = some (r, τ) → Call dF m12_sum [.ref a0] σ none τ) {K4 : St → Nat → Option (Unit × St)} (hK4 : ∀ (σ : St) (v0 : Nat) (r : Unit) (τ : St), K4 σ v0 = some (r, τ) → Ev (dF + 3) m12_sum 4 [(0, .ref v0)] [] σ none τ) : ∀ (σ : St) (v0 : Nat) (x0 : Int32) (x1 : Nat) (r : Unit) (τ : St), f12_sum_p55 F K4 σ v0 x0 x1 = some (r, τ) → Ev (dF + 3) m12_sum 55 [(0, .ref v0)] [.int x0, .ref x1] σ none τ := by
  intro σ v0 x0 x1 r τ hf
  unfold f12_sum_p55 at hf
  obtain ⟨h36, hf⟩ := gd_some hf
  obtain ⟨r37, t38, k39, hf⟩ := bd_some hf
  have q40 := s12_emits _ _ _ _ _ k39
  refine ev_callV (vs := [.int x0]) (sk := []) cls12 h36 q40 (by omega) (Nat.le_of_ble_eq_true rfl) w1702 w1704 ws78 w19 w1705 k12_emits rfl (Nat.le_of_ble_eq_true rfl) d12_sum_55 ?_
  refine ev_goto (tgt := 4) (by decide) d12_sum_58 ?_
  exact Ev.sub [0] rfl (hK4 _ _ _ _ hf)
def f12_sum_p29 (F : St → Nat → Option (Unit × St)) (K4 : St → Nat → Option (Unit × St)) (σ : St) (v0 : Nat) : Option (Unit × St) :=
  gd (ob σ v0 12) (
  bd (f12_isSign σ v0 (43 : Int32)) fun r23 t24 => (
  bd (f12_next t24 v0) fun r27 t28 => (
  bd (f12_product F t28 v0) fun r31 t32 => (
  (if r23 = (0 : Int32) then
  f12_sum_p55 F K4 t32 v0 (-2 : Int32) v0
  else
  f12_sum_p55 F K4 t32 v0 (-1 : Int32) v0)))))
set_option maxRecDepth 20000 in
theorem s12_sum_p29 {F : St → Nat → Option (Unit × St)} {dF : Nat} (hB : 10 ≤ dF) (hF : ∀ (σ : St) (a0 : Nat) (r : Unit) (τ : St), F σ a0 = some (r, τ) → Call dF m12_sum [.ref a0] σ none τ) {K4 : St → Nat → Option (Unit × St)} (hK4 : ∀ (σ : St) (v0 : Nat) (r : Unit) (τ : St), K4 σ v0 = some (r, τ) → Ev (dF + 3) m12_sum 4 [(0, .ref v0)] [] σ none τ) : ∀ (σ : St) (v0 : Nat) (r : Unit) (τ : St), f12_sum_p29 F K4 σ v0 = some (r, τ) → Ev (dF + 3) m12_sum 29 [(0, .ref v0)] [] σ none τ := by
  intro σ v0 r τ hf
  unfold f12_sum_p29 at hf
  refine ev_aload_n (j := 0) (i := 0) (q := 0) rfl rfl d12_sum_29 ?_
  refine ev_bipush cb_43 d12_sum_30 ?_
  obtain ⟨h22, hf⟩ := gd_some hf
  obtain ⟨r23, t24, k25, hf⟩ := bd_some hf
  have q26 := s12_isSign _ _ _ _ _ k25
  refine ev_callV (vs := [.int (43 : Int32)]) (sk := []) cls12 h22 q26 (by omega) (Nat.le_of_ble_eq_true rfl) w1686 w1688 ws74 w19 w1689 k12_isSign rfl (Nat.le_of_ble_eq_true rfl) d12_sum_32 ?_
  refine ev_istore_n (lv2 := [(1, .int r23), (0, .ref v0)]) (j := 1) (i := 1) rfl (by decide) rfl d12_sum_35 ?_
  refine ev_aload_n (j := 0) (i := 0) (q := 1) rfl rfl d12_sum_36 ?_
  obtain ⟨r27, t28, k29, hf⟩ := bd_some hf
  have q30 := s12_next _ _ _ _ k29
  refine ev_callV (vs := []) (sk := []) cls12 (mono_ob q26.1 h22) q30 (by omega) (Nat.le_of_ble_eq_true rfl) w1619 w1621 ws64 w19 w1622 k12_next rfl (Nat.le_of_ble_eq_true rfl) d12_sum_37 ?_
  refine ev_aload_n (j := 0) (i := 0) (q := 1) rfl rfl d12_sum_40 ?_
  obtain ⟨r31, t32, k33, hf⟩ := bd_some hf
  have q34 := s12_product hB hF _ _ _ _ k33
  refine ev_callV (vs := []) (sk := []) cls12 (mono_ob q30.1 (mono_ob q26.1 h22)) q34 (by omega) (Nat.le_of_ble_eq_true rfl) w1694 w1696 ws76 w19 w1697 k12_product rfl (Nat.le_of_ble_eq_true rfl) d12_sum_41 ?_
  refine ev_aload_n (j := 0) (i := 0) (q := 1) rfl rfl d12_sum_44 ?_
  refine ev_iload_n (j := 1) (i := 1) (q := 0) rfl rfl d12_sum_45 ?_
  rcases ite_some hf with ⟨c35, hf⟩ | ⟨c35, hf⟩
  · refine ev_if_eq_P (tgt := 53) c35 (by decide) d12_sum_46 ?_
    refine ev_bipush cb_m2 d12_sum_53 ?_
    exact Ev.sub [1] rfl (s12_sum_p55 hB hF hK4 _ _ _ _ _ _ hf)
  · refine ev_if_eq_Q (tgt := 53) c35 (by decide) d12_sum_46 ?_
    refine ev_iconst ci_m1 d12_sum_49 ?_
    refine ev_goto (tgt := 55) (by decide) d12_sum_50 ?_
    exact Ev.sub [1] rfl (s12_sum_p55 hB hF hK4 _ _ _ _ _ _ hf)
def f12_sum_p4 (F : St → Nat → Option (Unit × St)) : Nat → St → Nat → Option (Unit × St)
  | 0, _, _ => none
  | n + 1, σ, v0 =>
  gd (ob σ v0 12) (
  bd (f12_isWell σ v0) fun r7 t8 => (
  (if r7 = (0 : Int32) then
  some ((), t8)
  else
  bd (f12_isSign t8 v0 (43 : Int32)) fun r12 t13 => (
  (if r12 = (0 : Int32) then
  bd (f12_isSign t13 v0 (45 : Int32)) fun r17 t18 => (
  (if r17 = (0 : Int32) then
  some ((), t18)
  else
  f12_sum_p29 F (f12_sum_p4 F n) t18 v0))
  else
  f12_sum_p29 F (f12_sum_p4 F n) t13 v0)))))
set_option maxRecDepth 20000 in
theorem s12_sum_p4 {F : St → Nat → Option (Unit × St)} {dF : Nat} (hB : 10 ≤ dF) (hF : ∀ (σ : St) (a0 : Nat) (r : Unit) (τ : St), F σ a0 = some (r, τ) → Call dF m12_sum [.ref a0] σ none τ) : ∀ (n : Nat) (σ : St) (v0 : Nat) (r : Unit) (τ : St), f12_sum_p4 F n σ v0 = some (r, τ) → Ev (dF + 3) m12_sum 4 [(0, .ref v0)] [] σ none τ := by
  intro n
  induction n with
  | zero =>
    intro σ v0 r τ hf
    cases hf
  | succ n ih =>
    intro σ v0 r τ hf
    rw [f12_sum_p4] at hf
    refine ev_aload_n (j := 0) (i := 0) (q := 0) rfl rfl d12_sum_4 ?_
    obtain ⟨h6, hf⟩ := gd_some hf
    obtain ⟨r7, t8, k9, hf⟩ := bd_some hf
    have q10 := s12_isWell _ _ _ _ k9
    refine ev_callV (vs := []) (sk := []) cls12 h6 q10 (by omega) (Nat.le_of_ble_eq_true rfl) w1633 w1635 ws66 w19 w1636 k12_isWell rfl (Nat.le_of_ble_eq_true rfl) d12_sum_5 ?_
    rcases ite_some hf with ⟨c11, hf⟩ | ⟨c11, hf⟩
    · refine ev_if_eq_P (tgt := 61) c11 (by decide) d12_sum_8 ?_
      obtain ⟨-, rfl⟩ := ret_some hf
      exact ev_vret rfl d12_sum_61
    · refine ev_if_eq_Q (tgt := 61) c11 (by decide) d12_sum_8 ?_
      refine ev_aload_n (j := 0) (i := 0) (q := 0) rfl rfl d12_sum_11 ?_
      refine ev_bipush cb_43 d12_sum_12 ?_
      obtain ⟨r12, t13, k14, hf⟩ := bd_some hf
      have q15 := s12_isSign _ _ _ _ _ k14
      refine ev_callV (vs := [.int (43 : Int32)]) (sk := []) cls12 (mono_ob q10.1 h6) q15 (by omega) (Nat.le_of_ble_eq_true rfl) w1686 w1688 ws74 w19 w1689 k12_isSign rfl (Nat.le_of_ble_eq_true rfl) d12_sum_14 ?_
      rcases ite_some hf with ⟨c16, hf⟩ | ⟨c16, hf⟩
      · refine ev_if_ne_P (tgt := 29) c16 (by decide) d12_sum_17 ?_
        refine ev_aload_n (j := 0) (i := 0) (q := 0) rfl rfl d12_sum_20 ?_
        refine ev_bipush cb_45 d12_sum_21 ?_
        obtain ⟨r17, t18, k19, hf⟩ := bd_some hf
        have q20 := s12_isSign _ _ _ _ _ k19
        refine ev_callV (vs := [.int (45 : Int32)]) (sk := []) cls12 (mono_ob q15.1 (mono_ob q10.1 h6)) q20 (by omega) (Nat.le_of_ble_eq_true rfl) w1686 w1688 ws74 w19 w1689 k12_isSign rfl (Nat.le_of_ble_eq_true rfl) d12_sum_23 ?_
        rcases ite_some hf with ⟨c21, hf⟩ | ⟨c21, hf⟩
        · refine ev_if_eq_P (tgt := 61) c21 (by decide) d12_sum_26 ?_
          obtain ⟨-, rfl⟩ := ret_some hf
          exact ev_vret rfl d12_sum_61
        · refine ev_if_eq_Q (tgt := 61) c21 (by decide) d12_sum_26 ?_
          exact Ev.sub [0] rfl (s12_sum_p29 hB hF ih _ _ _ _ hf)
      · refine ev_if_ne_Q (tgt := 29) c16 (by decide) d12_sum_17 ?_
        exact Ev.sub [0] rfl (s12_sum_p29 hB hF ih _ _ _ _ hf)
def f12_sum_b (F : St → Nat → Option (Unit × St)) (σ : St) (v0 : Nat) : Option (Unit × St) :=
  gd (ob σ v0 12) (
  bd (f12_product F σ v0) fun r2 t3 => (
  f12_sum_p4 F FU t3 v0))
set_option maxRecDepth 50000 in
theorem s12_sum_b {F : St → Nat → Option (Unit × St)} {dF : Nat} (hB : 10 ≤ dF) (hF : ∀ (σ : St) (a0 : Nat) (r : Unit) (τ : St), F σ a0 = some (r, τ) → Call dF m12_sum [.ref a0] σ none τ) : ∀ (σ : St) (v0 : Nat) (r : Unit) (τ : St), f12_sum_b F σ v0 = some (r, τ) → Call (dF + 3) m12_sum [.ref v0] σ none τ := by
  intro σ v0 r τ hf
  unfold f12_sum_b at hf
  refine Call.of (by decide +kernel) rfl (Nat.le_of_ble_eq_true rfl) ?_
  refine ev_aload_n (j := 0) (i := 0) (q := 0) rfl rfl d12_sum_0 ?_
  obtain ⟨h1, hf⟩ := gd_some hf
  obtain ⟨r2, t3, k4, hf⟩ := bd_some hf
  have q5 := s12_product hB hF _ _ _ _ k4
  refine ev_callV (vs := []) (sk := []) cls12 h1 q5 (by omega) (Nat.le_of_ble_eq_true rfl) w1694 w1696 ws76 w19 w1697 k12_product rfl (Nat.le_of_ble_eq_true rfl) d12_sum_1 ?_
  exact Ev.sub [0] rfl (s12_sum_p4 hB hF FU _ _ _ _ hf)
def f12_sum : Nat → St → Nat → Option (Unit × St)
  | 0, _, _ => none
  | n + 1, σ, a0 => f12_sum_b (f12_sum n) σ a0
theorem s12_sum : ∀ (n : Nat) (σ : St) (a0 : Nat) (r : Unit) (τ : St), f12_sum n σ a0 = some (r, τ) → Call (10 + 3 * n) m12_sum [.ref a0] σ none τ := by
  intro n
  induction n with
  | zero =>
    intro σ a0 r τ hf
    cases hf
  | succ n ih =>
    intro σ a0 r τ hf
    rw [f12_sum] at hf
    have := s12_sum_b (F := f12_sum n) (dF := 10 + 3 * n) (by omega) ih σ a0 r τ hf
    rw [show 10 + 3 * (n + 1) = 10 + 3 * n + 3 by omega]
    exact this
abbrev m12_compares : MD := ("MillBoatsModel", ⟨"MillBoatsModel", "compares", "()V"⟩, prog_14_method_53_code, 2, (none : Option Jvm.ClassFile.FieldType))
theorem k12_compares : okY m12_compares.2.1 0 := ⟨by decide +kernel, by decide +kernel, by decide +kernel⟩
def f12_compares_p65 (σ : St) (v0 : Nat) (v1 : Int32) : Option (Unit × St) :=
  gd (ob σ v0 12) (
  bd (f12_isWell σ v0) fun r33 t34 => (
  (if r33 = (0 : Int32) then
  some ((), t34)
  else
  bd (f12_next t34 v0) fun r38 t39 => (
  bd (f12_sum 8 t39 v0) fun r42 t43 => (
  bd (f12_emits t43 v0 v1) fun r46 t47 => (
  some ((), t47)))))))
set_option maxRecDepth 20000 in
theorem s12_compares_p65 : ∀ (σ : St) (v0 : Nat) (v1 : Int32) (r : Unit) (τ : St), f12_compares_p65 σ v0 v1 = some (r, τ) → Ev 35 m12_compares 65 [(0, .ref v0), (1, .int v1)] [] σ none τ := by
  intro σ v0 v1 r τ hf
  unfold f12_compares_p65 at hf
  refine ev_aload_n (j := 0) (i := 0) (q := 0) rfl rfl d12_compares_65 ?_
  obtain ⟨h32, hf⟩ := gd_some hf
  obtain ⟨r33, t34, k35, hf⟩ := bd_some hf
  have q36 := s12_isWell _ _ _ _ k35
  refine ev_callV (vs := []) (sk := []) cls12 h32 q36 (by decide) (Nat.le_of_ble_eq_true rfl) w1633 w1635 ws66 w19 w1636 k12_isWell rfl (Nat.le_of_ble_eq_true rfl) d12_compares_66 ?_
  rcases ite_some hf with ⟨c37, hf⟩ | ⟨c37, hf⟩
  · refine ev_if_ne_P (tgt := 73) c37 (by decide) d12_compares_69 ?_
    obtain ⟨-, rfl⟩ := ret_some hf
    exact ev_vret rfl d12_compares_72
  · refine ev_if_ne_Q (tgt := 73) c37 (by decide) d12_compares_69 ?_
    refine ev_aload_n (j := 0) (i := 0) (q := 0) rfl rfl d12_compares_73 ?_
    obtain ⟨r38, t39, k40, hf⟩ := bd_some hf
    have q41 := s12_next _ _ _ _ k40
    refine ev_callV (vs := []) (sk := []) cls12 (mono_ob q36.1 h32) q41 (by decide) (Nat.le_of_ble_eq_true rfl) w1619 w1621 ws64 w19 w1622 k12_next rfl (Nat.le_of_ble_eq_true rfl) d12_compares_74 ?_
    refine ev_aload_n (j := 0) (i := 0) (q := 0) rfl rfl d12_compares_77 ?_
    obtain ⟨r42, t43, k44, hf⟩ := bd_some hf
    have q45 := s12_sum 8 _ _ _ _ k44
    refine ev_callV (vs := []) (sk := []) cls12 (mono_ob q41.1 (mono_ob q36.1 h32)) q45 (by omega) (Nat.le_of_ble_eq_true rfl) w1690 w1692 ws75 w19 w1693 k12_sum rfl (Nat.le_of_ble_eq_true rfl) d12_compares_78 ?_
    refine ev_aload_n (j := 0) (i := 0) (q := 0) rfl rfl d12_compares_81 ?_
    refine ev_iload_n (j := 1) (i := 1) (q := 1) rfl rfl d12_compares_82 ?_
    obtain ⟨r46, t47, k48, hf⟩ := bd_some hf
    have q49 := s12_emits _ _ _ _ _ k48
    refine ev_callV (vs := [.int v1]) (sk := []) cls12 (mono_ob q45.1 (mono_ob q41.1 (mono_ob q36.1 h32))) q49 (by decide) (Nat.le_of_ble_eq_true rfl) w1702 w1704 ws78 w19 w1705 k12_emits rfl (Nat.le_of_ble_eq_true rfl) d12_compares_83 ?_
    obtain ⟨-, rfl⟩ := ret_some hf
    exact ev_vret rfl d12_compares_86
def f12_compares_p55 (σ : St) (v0 : Nat) (x0 : Int32) : Option (Unit × St) :=
  (if x0 = (0 : Int32) then
  gd (ob σ v0 12) (
  bd (f12_fails σ v0 (1 : Int32)) fun r28 t29 => (
  f12_compares_p65 t29 v0 x0))
  else
  f12_compares_p65 σ v0 x0)
set_option maxRecDepth 20000 in
theorem s12_compares_p55 : ∀ (σ : St) (v0 : Nat) (x0 : Int32) (r : Unit) (τ : St), f12_compares_p55 σ v0 x0 = some (r, τ) → Ev 35 m12_compares 55 [(0, .ref v0)] [.int x0] σ none τ := by
  intro σ v0 x0 r τ hf
  unfold f12_compares_p55 at hf
  refine ev_istore_n (lv2 := [(1, .int x0), (0, .ref v0)]) (j := 1) (i := 1) rfl (by decide) rfl d12_compares_55 ?_
  refine ev_iload_n (j := 1) (i := 1) (q := 0) rfl rfl d12_compares_56 ?_
  rcases ite_some hf with ⟨c26, hf⟩ | ⟨c26, hf⟩
  · refine ev_if_ne_P (tgt := 65) c26 (by decide) d12_compares_57 ?_
    refine ev_aload_n (j := 0) (i := 0) (q := 1) rfl rfl d12_compares_60 ?_
    refine ev_iconst ci_1 d12_compares_61 ?_
    obtain ⟨h27, hf⟩ := gd_some hf
    obtain ⟨r28, t29, k30, hf⟩ := bd_some hf
    have q31 := s12_fails _ _ _ _ _ k30
    refine ev_callV (vs := [.int (1 : Int32)]) (sk := []) cls12 h27 q31 (by decide) (Nat.le_of_ble_eq_true rfl) w1652 w1654 ws69 w19 w1655 k12_fails rfl (Nat.le_of_ble_eq_true rfl) d12_compares_62 ?_
    exact Ev.sub [1, 0] rfl (s12_compares_p65 _ _ _ _ _ hf)
  · refine ev_if_ne_Q (tgt := 65) c26 (by decide) d12_compares_57 ?_
    exact Ev.sub [1, 0] rfl (s12_compares_p65 _ _ _ _ _ hf)
def f12_compares (σ : St) (v0 : Nat) : Option (Unit × St) :=
  gd (ob σ v0 12) (
  bd (f12_sum 8 σ v0) fun r2 t3 => (
  bd (f12_isWell t3 v0) fun r6 t7 => (
  (if r6 = (0 : Int32) then
  some ((), t7)
  else
  bd (f12_isSign t7 v0 (60 : Int32)) fun r11 t12 => (
  (if r11 = (0 : Int32) then
  bd (f12_isSign t12 v0 (62 : Int32)) fun r16 t17 => (
  (if r16 = (0 : Int32) then
  bd (f12_isSign t17 v0 (61 : Int32)) fun r21 t22 => (
  (if r21 = (0 : Int32) then
  f12_compares_p55 t22 v0 (0 : Int32)
  else
  f12_compares_p55 t22 v0 (-6 : Int32)))
  else
  f12_compares_p55 t17 v0 (-5 : Int32)))
  else
  f12_compares_p55 t12 v0 (-4 : Int32)))))))
set_option maxRecDepth 50000 in
theorem s12_compares : ∀ (σ : St) (v0 : Nat) (r : Unit) (τ : St), f12_compares σ v0 = some (r, τ) → Call 35 m12_compares [.ref v0] σ none τ := by
  intro σ v0 r τ hf
  unfold f12_compares at hf
  refine Call.of (by decide +kernel) rfl (Nat.le_of_ble_eq_true rfl) ?_
  refine ev_aload_n (j := 0) (i := 0) (q := 0) rfl rfl d12_compares_0 ?_
  obtain ⟨h1, hf⟩ := gd_some hf
  obtain ⟨r2, t3, k4, hf⟩ := bd_some hf
  have q5 := s12_sum 8 _ _ _ _ k4
  refine ev_callV (vs := []) (sk := []) cls12 h1 q5 (by omega) (Nat.le_of_ble_eq_true rfl) w1690 w1692 ws75 w19 w1693 k12_sum rfl (Nat.le_of_ble_eq_true rfl) d12_compares_1 ?_
  refine ev_aload_n (j := 0) (i := 0) (q := 0) rfl rfl d12_compares_4 ?_
  obtain ⟨r6, t7, k8, hf⟩ := bd_some hf
  have q9 := s12_isWell _ _ _ _ k8
  refine ev_callV (vs := []) (sk := []) cls12 (mono_ob q5.1 h1) q9 (by decide) (Nat.le_of_ble_eq_true rfl) w1633 w1635 ws66 w19 w1636 k12_isWell rfl (Nat.le_of_ble_eq_true rfl) d12_compares_5 ?_
  rcases ite_some hf with ⟨c10, hf⟩ | ⟨c10, hf⟩
  · refine ev_if_ne_P (tgt := 12) c10 (by decide) d12_compares_8 ?_
    obtain ⟨-, rfl⟩ := ret_some hf
    exact ev_vret rfl d12_compares_11
  · refine ev_if_ne_Q (tgt := 12) c10 (by decide) d12_compares_8 ?_
    refine ev_aload_n (j := 0) (i := 0) (q := 0) rfl rfl d12_compares_12 ?_
    refine ev_bipush cb_60 d12_compares_13 ?_
    obtain ⟨r11, t12, k13, hf⟩ := bd_some hf
    have q14 := s12_isSign _ _ _ _ _ k13
    refine ev_callV (vs := [.int (60 : Int32)]) (sk := []) cls12 (mono_ob q9.1 (mono_ob q5.1 h1)) q14 (by decide) (Nat.le_of_ble_eq_true rfl) w1686 w1688 ws74 w19 w1689 k12_isSign rfl (Nat.le_of_ble_eq_true rfl) d12_compares_15 ?_
    rcases ite_some hf with ⟨c15, hf⟩ | ⟨c15, hf⟩
    · refine ev_if_eq_P (tgt := 26) c15 (by decide) d12_compares_18 ?_
      refine ev_aload_n (j := 0) (i := 0) (q := 0) rfl rfl d12_compares_26 ?_
      refine ev_bipush cb_62 d12_compares_27 ?_
      obtain ⟨r16, t17, k18, hf⟩ := bd_some hf
      have q19 := s12_isSign _ _ _ _ _ k18
      refine ev_callV (vs := [.int (62 : Int32)]) (sk := []) cls12 (mono_ob q14.1 (mono_ob q9.1 (mono_ob q5.1 h1))) q19 (by decide) (Nat.le_of_ble_eq_true rfl) w1686 w1688 ws74 w19 w1689 k12_isSign rfl (Nat.le_of_ble_eq_true rfl) d12_compares_29 ?_
      rcases ite_some hf with ⟨c20, hf⟩ | ⟨c20, hf⟩
      · refine ev_if_eq_P (tgt := 40) c20 (by decide) d12_compares_32 ?_
        refine ev_aload_n (j := 0) (i := 0) (q := 0) rfl rfl d12_compares_40 ?_
        refine ev_bipush cb_61 d12_compares_41 ?_
        obtain ⟨r21, t22, k23, hf⟩ := bd_some hf
        have q24 := s12_isSign _ _ _ _ _ k23
        refine ev_callV (vs := [.int (61 : Int32)]) (sk := []) cls12 (mono_ob q19.1 (mono_ob q14.1 (mono_ob q9.1 (mono_ob q5.1 h1)))) q24 (by decide) (Nat.le_of_ble_eq_true rfl) w1686 w1688 ws74 w19 w1689 k12_isSign rfl (Nat.le_of_ble_eq_true rfl) d12_compares_43 ?_
        rcases ite_some hf with ⟨c25, hf⟩ | ⟨c25, hf⟩
        · refine ev_if_eq_P (tgt := 54) c25 (by decide) d12_compares_46 ?_
          refine ev_iconst ci_0 d12_compares_54 ?_
          exact Ev.sub [0] rfl (s12_compares_p55 _ _ _ _ _ hf)
        · refine ev_if_eq_Q (tgt := 54) c25 (by decide) d12_compares_46 ?_
          refine ev_bipush cb_m6 d12_compares_49 ?_
          refine ev_goto (tgt := 55) (by decide) d12_compares_51 ?_
          exact Ev.sub [0] rfl (s12_compares_p55 _ _ _ _ _ hf)
      · refine ev_if_eq_Q (tgt := 40) c20 (by decide) d12_compares_32 ?_
        refine ev_bipush cb_m5 d12_compares_35 ?_
        refine ev_goto (tgt := 55) (by decide) d12_compares_37 ?_
        exact Ev.sub [0] rfl (s12_compares_p55 _ _ _ _ _ hf)
    · refine ev_if_eq_Q (tgt := 26) c15 (by decide) d12_compares_18 ?_
      refine ev_bipush cb_m4 d12_compares_21 ?_
      refine ev_goto (tgt := 55) (by decide) d12_compares_23 ?_
      exact Ev.sub [0] rfl (s12_compares_p55 _ _ _ _ _ hf)
abbrev m12_part : MD := ("MillBoatsModel", ⟨"MillBoatsModel", "part", "()V"⟩, prog_14_method_52_code, 2, (none : Option Jvm.ClassFile.FieldType))
theorem k12_part : okY m12_part.2.1 0 := ⟨by decide +kernel, by decide +kernel, by decide +kernel⟩
abbrev m12_both : MD := ("MillBoatsModel", ⟨"MillBoatsModel", "both", "()V"⟩, prog_14_method_54_code, 1, (none : Option Jvm.ClassFile.FieldType))
theorem k12_both : okY m12_both.2.1 0 := ⟨by decide +kernel, by decide +kernel, by decide +kernel⟩
abbrev m12_cond : MD := ("MillBoatsModel", ⟨"MillBoatsModel", "cond", "()V"⟩, prog_14_method_55_code, 1, (none : Option Jvm.ClassFile.FieldType))
theorem k12_cond : okY m12_cond.2.1 0 := ⟨by decide +kernel, by decide +kernel, by decide +kernel⟩
def f12_part_p84 (F : St → Nat → Option (Unit × St)) (σ : St) (v0 : Nat) (v1 : Int32) : Option (Unit × St) :=
  (if v1 = (0 : Int32) then
  some ((), σ)
  else
  gd (ob σ v0 12) (
  bd (f12_emits σ v0 (-9 : Int32)) fun r48 t49 => (
  some ((), t49))))
set_option maxRecDepth 20000 in
theorem s12_part_p84 {F : St → Nat → Option (Unit × St)} {dF : Nat} (hB : 36 ≤ dF) (hF : ∀ (σ : St) (a0 : Nat) (r : Unit) (τ : St), F σ a0 = some (r, τ) → Call dF m12_cond [.ref a0] σ none τ) : ∀ (σ : St) (v0 : Nat) (v1 : Int32) (r : Unit) (τ : St), f12_part_p84 F σ v0 v1 = some (r, τ) → Ev (dF + 1) m12_part 84 [(0, .ref v0), (1, .int v1)] [] σ none τ := by
  intro σ v0 v1 r τ hf
  unfold f12_part_p84 at hf
  refine ev_iload_n (j := 1) (i := 1) (q := 1) rfl rfl d12_part_84 ?_
  rcases ite_some hf with ⟨c46, hf⟩ | ⟨c46, hf⟩
  · refine ev_if_eq_P (tgt := 94) c46 (by decide) d12_part_85 ?_
    obtain ⟨-, rfl⟩ := ret_some hf
    exact ev_vret rfl d12_part_94
  · refine ev_if_eq_Q (tgt := 94) c46 (by decide) d12_part_85 ?_
    refine ev_aload_n (j := 0) (i := 0) (q := 0) rfl rfl d12_part_88 ?_
    refine ev_bipush cb_m9 d12_part_89 ?_
    obtain ⟨h47, hf⟩ := gd_some hf
    obtain ⟨r48, t49, k50, hf⟩ := bd_some hf
    have q51 := s12_emits _ _ _ _ _ k50
    refine ev_callV (vs := [.int (-9 : Int32)]) (sk := []) cls12 h47 q51 (by omega) (Nat.le_of_ble_eq_true rfl) w1702 w1704 ws78 w19 w1705 k12_emits rfl (Nat.le_of_ble_eq_true rfl) d12_part_91 ?_
    obtain ⟨-, rfl⟩ := ret_some hf
    exact ev_vret rfl d12_part_94
def f12_part_p36 (F : St → Nat → Option (Unit × St)) (σ : St) (v0 : Nat) (v1 : Int32) : Option (Unit × St) :=
  gd (ob σ v0 12) (
  bd (f12_isWell σ v0) fun r18 t19 => (
  (if r18 = (0 : Int32) then
  some ((), t19)
  else
  bd (f12_isSign t19 v0 (91 : Int32)) fun r23 t24 => (
  (if r23 = (0 : Int32) then
  bd (f12_compares t24 v0) fun r28 t29 => (
  f12_part_p84 F t29 v0 v1)
  else
  bd (f12_opens t24 v0) fun r32 t33 => (
  bd (F t33 v0) fun r36 t37 => (
  bd (f12_wantSign t37 v0 (93 : Int32)) fun r40 t41 => (
  lt (wI t41 v0 43 ((sI t41 v0 43) - (1 : Int32))) fun t44 => (
  f12_part_p84 F t44 v0 v1)))))))))
set_option maxRecDepth 20000 in
theorem s12_part_p36 {F : St → Nat → Option (Unit × St)} {dF : Nat} (hB : 36 ≤ dF) (hF : ∀ (σ : St) (a0 : Nat) (r : Unit) (τ : St), F σ a0 = some (r, τ) → Call dF m12_cond [.ref a0] σ none τ) : ∀ (σ : St) (v0 : Nat) (v1 : Int32) (r : Unit) (τ : St), f12_part_p36 F σ v0 v1 = some (r, τ) → Ev (dF + 1) m12_part 36 [(0, .ref v0), (1, .int v1)] [] σ none τ := by
  intro σ v0 v1 r τ hf
  unfold f12_part_p36 at hf
  refine ev_aload_n (j := 0) (i := 0) (q := 0) rfl rfl d12_part_36 ?_
  obtain ⟨h17, hf⟩ := gd_some hf
  obtain ⟨r18, t19, k20, hf⟩ := bd_some hf
  have q21 := s12_isWell _ _ _ _ k20
  refine ev_callV (vs := []) (sk := []) cls12 h17 q21 (by omega) (Nat.le_of_ble_eq_true rfl) w1633 w1635 ws66 w19 w1636 k12_isWell rfl (Nat.le_of_ble_eq_true rfl) d12_part_37 ?_
  rcases ite_some hf with ⟨c22, hf⟩ | ⟨c22, hf⟩
  · refine ev_if_ne_P (tgt := 44) c22 (by decide) d12_part_40 ?_
    obtain ⟨-, rfl⟩ := ret_some hf
    exact ev_vret rfl d12_part_43
  · refine ev_if_ne_Q (tgt := 44) c22 (by decide) d12_part_40 ?_
    refine ev_aload_n (j := 0) (i := 0) (q := 0) rfl rfl d12_part_44 ?_
    refine ev_bipush cb_91 d12_part_45 ?_
    obtain ⟨r23, t24, k25, hf⟩ := bd_some hf
    have q26 := s12_isSign _ _ _ _ _ k25
    refine ev_callV (vs := [.int (91 : Int32)]) (sk := []) cls12 (mono_ob q21.1 h17) q26 (by omega) (Nat.le_of_ble_eq_true rfl) w1686 w1688 ws74 w19 w1689 k12_isSign rfl (Nat.le_of_ble_eq_true rfl) d12_part_47 ?_
    rcases ite_some hf with ⟨c27, hf⟩ | ⟨c27, hf⟩
    · refine ev_if_eq_P (tgt := 80) c27 (by decide) d12_part_50 ?_
      refine ev_aload_n (j := 0) (i := 0) (q := 0) rfl rfl d12_part_80 ?_
      obtain ⟨r28, t29, k30, hf⟩ := bd_some hf
      have q31 := s12_compares _ _ _ _ k30
      refine ev_callV (vs := []) (sk := []) cls12 (mono_ob q26.1 (mono_ob q21.1 h17)) q31 (by omega) (Nat.le_of_ble_eq_true rfl) w1738 w1740 ws87 w19 w1741 k12_compares rfl (Nat.le_of_ble_eq_true rfl) d12_part_81 ?_
      exact Ev.sub [0, 1] rfl (s12_part_p84 hB hF _ _ _ _ _ hf)
    · refine ev_if_eq_Q (tgt := 80) c27 (by decide) d12_part_50 ?_
      refine ev_aload_n (j := 0) (i := 0) (q := 0) rfl rfl d12_part_53 ?_
      obtain ⟨r32, t33, k34, hf⟩ := bd_some hf
      have q35 := s12_opens _ _ _ _ k34
      refine ev_callV (vs := []) (sk := []) cls12 (mono_ob q26.1 (mono_ob q21.1 h17)) q35 (by omega) (Nat.le_of_ble_eq_true rfl) w1706 w1708 ws79 w19 w1709 k12_opens rfl (Nat.le_of_ble_eq_true rfl) d12_part_54 ?_
      refine ev_aload_n (j := 0) (i := 0) (q := 0) rfl rfl d12_part_57 ?_
      obtain ⟨r36, t37, k38, hf⟩ := bd_some hf
      have q39 := hF _ _ _ _ k38
      refine ev_callV (vs := []) (sk := []) cls12 (mono_ob q35.1 (mono_ob q26.1 (mono_ob q21.1 h17))) q39 (by omega) (Nat.le_of_ble_eq_true rfl) w1726 w1728 ws84 w19 w1729 k12_cond rfl (Nat.le_of_ble_eq_true rfl) d12_part_58 ?_
      refine ev_aload_n (j := 0) (i := 0) (q := 0) rfl rfl d12_part_61 ?_
      refine ev_bipush cb_93 d12_part_62 ?_
      obtain ⟨r40, t41, k42, hf⟩ := bd_some hf
      have q43 := s12_wantSign _ _ _ _ _ k42
      refine ev_callV (vs := [.int (93 : Int32)]) (sk := []) cls12 (mono_ob q39.1 (mono_ob q35.1 (mono_ob q26.1 (mono_ob q21.1 h17)))) q43 (by omega) (Nat.le_of_ble_eq_true rfl) w1682 w1684 ws73 w19 w1685 k12_wantSign rfl (Nat.le_of_ble_eq_true rfl) d12_part_64 ?_
      refine ev_aload_n (j := 0) (i := 0) (q := 0) rfl rfl d12_part_67 ?_
      refine ev_dup rfl d12_part_68 ?_
      refine ev_getI cls12 (j := 43) (by decide) rfl w1294 (mono_ob q43.1 (mono_ob q39.1 (mono_ob q35.1 (mono_ob q26.1 (mono_ob q21.1 h17))))) d12_part_69 ?_
      refine ev_iconst ci_1 d12_part_72 ?_
      refine ev_isub d12_part_73 ?_
      obtain ⟨t44, e45, hf⟩ := lt_some hf
      refine ev_putI cls12 (j := 43) (by decide) rfl rfl w1294 (mono_ob q43.1 (mono_ob q39.1 (mono_ob q35.1 (mono_ob q26.1 (mono_ob q21.1 h17))))) (fun _ => ⟨rfl, rfl⟩) d12_part_74 (ev_nmS e45 ?_)
      refine ev_goto (tgt := 84) (by decide) d12_part_77 ?_
      exact Ev.sub [0, 1] rfl (s12_part_p84 hB hF _ _ _ _ _ hf)
def f12_part_p32 (F : St → Nat → Option (Unit × St)) (K2 : St → Nat → Int32 → Option (Unit × St)) (σ : St) (v0 : Nat) (x0 : Int32) : Option (Unit × St) :=
  K2 σ v0 x0
set_option maxRecDepth 20000 in
theorem s12_part_p32 {F : St → Nat → Option (Unit × St)} {dF : Nat} (hB : 36 ≤ dF) (hF : ∀ (σ : St) (a0 : Nat) (r : Unit) (τ : St), F σ a0 = some (r, τ) → Call dF m12_cond [.ref a0] σ none τ) {K2 : St → Nat → Int32 → Option (Unit × St)} (hK2 : ∀ (σ : St) (v0 : Nat) (v1 : Int32) (r : Unit) (τ : St), K2 σ v0 v1 = some (r, τ) → Ev (dF + 1) m12_part 2 [(0, .ref v0), (1, .int v1)] [] σ none τ) : ∀ (σ : St) (v0 : Nat) (x0 : Int32) (r : Unit) (τ : St), f12_part_p32 F K2 σ v0 x0 = some (r, τ) → Ev (dF + 1) m12_part 32 [(0, .ref v0)] [.int x0] σ none τ := by
  intro σ v0 x0 r τ hf
  unfold f12_part_p32 at hf
  refine ev_istore_n (lv2 := [(1, .int x0), (0, .ref v0)]) (j := 1) (i := 1) rfl (by decide) rfl d12_part_32 ?_
  refine ev_goto (tgt := 2) (by decide) d12_part_33 ?_
  exact Ev.sub [1, 0] rfl (hK2 _ _ _ _ _ hf)
def f12_part_p2 (F : St → Nat → Option (Unit × St)) : Nat → St → Nat → Int32 → Option (Unit × St)
  | 0, _, _, _ => none
  | n + 1, σ, v0, v1 =>
  gd (ob σ v0 12) (
  bd (f12_isWell σ v0) fun r2 t3 => (
  (if r2 = (0 : Int32) then
  f12_part_p36 F t3 v0 v1
  else
  bd (f12_isWord t3 v0 12) fun r7 t8 => (
  (if r7 = (0 : Int32) then
  f12_part_p36 F t8 v0 v1
  else
  bd (f12_next t8 v0) fun r12 t13 => (
  (if v1 = (0 : Int32) then
  f12_part_p32 F (f12_part_p2 F n) t13 v0 (1 : Int32)
  else
  f12_part_p32 F (f12_part_p2 F n) t13 v0 (0 : Int32))))))))
set_option maxRecDepth 20000 in
theorem s12_part_p2 {F : St → Nat → Option (Unit × St)} {dF : Nat} (hB : 36 ≤ dF) (hF : ∀ (σ : St) (a0 : Nat) (r : Unit) (τ : St), F σ a0 = some (r, τ) → Call dF m12_cond [.ref a0] σ none τ) : ∀ (n : Nat) (σ : St) (v0 : Nat) (v1 : Int32) (r : Unit) (τ : St), f12_part_p2 F n σ v0 v1 = some (r, τ) → Ev (dF + 1) m12_part 2 [(0, .ref v0), (1, .int v1)] [] σ none τ := by
  intro n
  induction n with
  | zero =>
    intro σ v0 v1 r τ hf
    cases hf
  | succ n ih =>
    intro σ v0 v1 r τ hf
    rw [f12_part_p2] at hf
    refine ev_aload_n (j := 0) (i := 0) (q := 0) rfl rfl d12_part_2 ?_
    obtain ⟨h1, hf⟩ := gd_some hf
    obtain ⟨r2, t3, k4, hf⟩ := bd_some hf
    have q5 := s12_isWell _ _ _ _ k4
    refine ev_callV (vs := []) (sk := []) cls12 h1 q5 (by omega) (Nat.le_of_ble_eq_true rfl) w1633 w1635 ws66 w19 w1636 k12_isWell rfl (Nat.le_of_ble_eq_true rfl) d12_part_3 ?_
    rcases ite_some hf with ⟨c6, hf⟩ | ⟨c6, hf⟩
    · refine ev_if_eq_P (tgt := 36) c6 (by decide) d12_part_6 ?_
      exact Ev.sub [0, 1] rfl (s12_part_p36 hB hF _ _ _ _ _ hf)
    · refine ev_if_eq_Q (tgt := 36) c6 (by decide) d12_part_6 ?_
      refine ev_aload_n (j := 0) (i := 0) (q := 0) rfl rfl d12_part_9 ?_
      refine ev_ldcwS (i := 12) rfl d12_part_10 ?_
      obtain ⟨r7, t8, k9, hf⟩ := bd_some hf
      have q10 := s12_isWord _ _ _ _ _ k9
      refine ev_callV (vs := [.ref (STR + 12)]) (sk := []) cls12 (mono_ob q5.1 h1) q10 (by omega) (Nat.le_of_ble_eq_true rfl) w1642 w1644 ws68 w19 w1645 k12_isWord rfl (Nat.le_of_ble_eq_true rfl) d12_part_13 ?_
      rcases ite_some hf with ⟨c11, hf⟩ | ⟨c11, hf⟩
      · refine ev_if_eq_P (tgt := 36) c11 (by decide) d12_part_16 ?_
        exact Ev.sub [0, 1] rfl (s12_part_p36 hB hF _ _ _ _ _ hf)
      · refine ev_if_eq_Q (tgt := 36) c11 (by decide) d12_part_16 ?_
        refine ev_aload_n (j := 0) (i := 0) (q := 0) rfl rfl d12_part_19 ?_
        obtain ⟨r12, t13, k14, hf⟩ := bd_some hf
        have q15 := s12_next _ _ _ _ k14
        refine ev_callV (vs := []) (sk := []) cls12 (mono_ob q10.1 (mono_ob q5.1 h1)) q15 (by omega) (Nat.le_of_ble_eq_true rfl) w1619 w1621 ws64 w19 w1622 k12_next rfl (Nat.le_of_ble_eq_true rfl) d12_part_20 ?_
        refine ev_iload_n (j := 1) (i := 1) (q := 1) rfl rfl d12_part_23 ?_
        rcases ite_some hf with ⟨c16, hf⟩ | ⟨c16, hf⟩
        · refine ev_if_ne_P (tgt := 31) c16 (by decide) d12_part_24 ?_
          refine ev_iconst ci_1 d12_part_27 ?_
          refine ev_goto (tgt := 32) (by decide) d12_part_28 ?_
          exact Ev.sub [0] rfl (s12_part_p32 hB hF ih _ _ _ _ _ hf)
        · refine ev_if_ne_Q (tgt := 31) c16 (by decide) d12_part_24 ?_
          refine ev_iconst ci_0 d12_part_31 ?_
          exact Ev.sub [0] rfl (s12_part_p32 hB hF ih _ _ _ _ _ hf)
def f12_part (F : St → Nat → Option (Unit × St)) (σ : St) (v0 : Nat) : Option (Unit × St) :=
  f12_part_p2 F FU σ v0 (0 : Int32)
set_option maxRecDepth 50000 in
theorem s12_part {F : St → Nat → Option (Unit × St)} {dF : Nat} (hB : 36 ≤ dF) (hF : ∀ (σ : St) (a0 : Nat) (r : Unit) (τ : St), F σ a0 = some (r, τ) → Call dF m12_cond [.ref a0] σ none τ) : ∀ (σ : St) (v0 : Nat) (r : Unit) (τ : St), f12_part F σ v0 = some (r, τ) → Call (dF + 1) m12_part [.ref v0] σ none τ := by
  intro σ v0 r τ hf
  unfold f12_part at hf
  refine Call.of (by decide +kernel) rfl (Nat.le_of_ble_eq_true rfl) ?_
  refine ev_iconst ci_0 d12_part_0 ?_
  refine ev_istore_n (lv2 := [(1, .int (0 : Int32)), (0, .ref v0)]) (j := 1) (i := 1) rfl (by decide) rfl d12_part_1 ?_
  exact Ev.sub [1, 0] rfl (s12_part_p2 hB hF FU _ _ _ _ _ hf)
def f12_both_p4 (F : St → Nat → Option (Unit × St)) : Nat → St → Nat → Option (Unit × St)
  | 0, _, _ => none
  | n + 1, σ, v0 =>
  gd (ob σ v0 12) (
  bd (f12_isWell σ v0) fun r7 t8 => (
  (if r7 = (0 : Int32) then
  some ((), t8)
  else
  bd (f12_isWord t8 v0 11) fun r12 t13 => (
  (if r12 = (0 : Int32) then
  some ((), t13)
  else
  bd (f12_next t13 v0) fun r17 t18 => (
  bd (f12_part F t18 v0) fun r21 t22 => (
  bd (f12_emits t22 v0 (-7 : Int32)) fun r25 t26 => (
  (f12_both_p4 F n) t26 v0))))))))
set_option maxRecDepth 20000 in
theorem s12_both_p4 {F : St → Nat → Option (Unit × St)} {dF : Nat} (hB : 36 ≤ dF) (hF : ∀ (σ : St) (a0 : Nat) (r : Unit) (τ : St), F σ a0 = some (r, τ) → Call dF m12_cond [.ref a0] σ none τ) : ∀ (n : Nat) (σ : St) (v0 : Nat) (r : Unit) (τ : St), f12_both_p4 F n σ v0 = some (r, τ) → Ev (dF + 2) m12_both 4 [(0, .ref v0)] [] σ none τ := by
  intro n
  induction n with
  | zero =>
    intro σ v0 r τ hf
    cases hf
  | succ n ih =>
    intro σ v0 r τ hf
    rw [f12_both_p4] at hf
    refine ev_aload_n (j := 0) (i := 0) (q := 0) rfl rfl d12_both_4 ?_
    obtain ⟨h6, hf⟩ := gd_some hf
    obtain ⟨r7, t8, k9, hf⟩ := bd_some hf
    have q10 := s12_isWell _ _ _ _ k9
    refine ev_callV (vs := []) (sk := []) cls12 h6 q10 (by omega) (Nat.le_of_ble_eq_true rfl) w1633 w1635 ws66 w19 w1636 k12_isWell rfl (Nat.le_of_ble_eq_true rfl) d12_both_5 ?_
    rcases ite_some hf with ⟨c11, hf⟩ | ⟨c11, hf⟩
    · refine ev_if_eq_P (tgt := 38) c11 (by decide) d12_both_8 ?_
      obtain ⟨-, rfl⟩ := ret_some hf
      exact ev_vret rfl d12_both_38
    · refine ev_if_eq_Q (tgt := 38) c11 (by decide) d12_both_8 ?_
      refine ev_aload_n (j := 0) (i := 0) (q := 0) rfl rfl d12_both_11 ?_
      refine ev_ldcwS (i := 11) rfl d12_both_12 ?_
      obtain ⟨r12, t13, k14, hf⟩ := bd_some hf
      have q15 := s12_isWord _ _ _ _ _ k14
      refine ev_callV (vs := [.ref (STR + 11)]) (sk := []) cls12 (mono_ob q10.1 h6) q15 (by omega) (Nat.le_of_ble_eq_true rfl) w1642 w1644 ws68 w19 w1645 k12_isWord rfl (Nat.le_of_ble_eq_true rfl) d12_both_15 ?_
      rcases ite_some hf with ⟨c16, hf⟩ | ⟨c16, hf⟩
      · refine ev_if_eq_P (tgt := 38) c16 (by decide) d12_both_18 ?_
        obtain ⟨-, rfl⟩ := ret_some hf
        exact ev_vret rfl d12_both_38
      · refine ev_if_eq_Q (tgt := 38) c16 (by decide) d12_both_18 ?_
        refine ev_aload_n (j := 0) (i := 0) (q := 0) rfl rfl d12_both_21 ?_
        obtain ⟨r17, t18, k19, hf⟩ := bd_some hf
        have q20 := s12_next _ _ _ _ k19
        refine ev_callV (vs := []) (sk := []) cls12 (mono_ob q15.1 (mono_ob q10.1 h6)) q20 (by omega) (Nat.le_of_ble_eq_true rfl) w1619 w1621 ws64 w19 w1622 k12_next rfl (Nat.le_of_ble_eq_true rfl) d12_both_22 ?_
        refine ev_aload_n (j := 0) (i := 0) (q := 0) rfl rfl d12_both_25 ?_
        obtain ⟨r21, t22, k23, hf⟩ := bd_some hf
        have q24 := s12_part hB hF _ _ _ _ k23
        refine ev_callV (vs := []) (sk := []) cls12 (mono_ob q20.1 (mono_ob q15.1 (mono_ob q10.1 h6))) q24 (by omega) (Nat.le_of_ble_eq_true rfl) w1734 w1736 ws86 w19 w1737 k12_part rfl (Nat.le_of_ble_eq_true rfl) d12_both_26 ?_
        refine ev_aload_n (j := 0) (i := 0) (q := 0) rfl rfl d12_both_29 ?_
        refine ev_bipush cb_m7 d12_both_30 ?_
        obtain ⟨r25, t26, k27, hf⟩ := bd_some hf
        have q28 := s12_emits _ _ _ _ _ k27
        refine ev_callV (vs := [.int (-7 : Int32)]) (sk := []) cls12 (mono_ob q24.1 (mono_ob q20.1 (mono_ob q15.1 (mono_ob q10.1 h6)))) q28 (by omega) (Nat.le_of_ble_eq_true rfl) w1702 w1704 ws78 w19 w1705 k12_emits rfl (Nat.le_of_ble_eq_true rfl) d12_both_32 ?_
        refine ev_goto (tgt := 4) (by decide) d12_both_35 ?_
        exact Ev.sub [0] rfl (ih _ _ _ _ hf)
def f12_both (F : St → Nat → Option (Unit × St)) (σ : St) (v0 : Nat) : Option (Unit × St) :=
  gd (ob σ v0 12) (
  bd (f12_part F σ v0) fun r2 t3 => (
  f12_both_p4 F FU t3 v0))
set_option maxRecDepth 50000 in
theorem s12_both {F : St → Nat → Option (Unit × St)} {dF : Nat} (hB : 36 ≤ dF) (hF : ∀ (σ : St) (a0 : Nat) (r : Unit) (τ : St), F σ a0 = some (r, τ) → Call dF m12_cond [.ref a0] σ none τ) : ∀ (σ : St) (v0 : Nat) (r : Unit) (τ : St), f12_both F σ v0 = some (r, τ) → Call (dF + 2) m12_both [.ref v0] σ none τ := by
  intro σ v0 r τ hf
  unfold f12_both at hf
  refine Call.of (by decide +kernel) rfl (Nat.le_of_ble_eq_true rfl) ?_
  refine ev_aload_n (j := 0) (i := 0) (q := 0) rfl rfl d12_both_0 ?_
  obtain ⟨h1, hf⟩ := gd_some hf
  obtain ⟨r2, t3, k4, hf⟩ := bd_some hf
  have q5 := s12_part hB hF _ _ _ _ k4
  refine ev_callV (vs := []) (sk := []) cls12 h1 q5 (by omega) (Nat.le_of_ble_eq_true rfl) w1734 w1736 ws86 w19 w1737 k12_part rfl (Nat.le_of_ble_eq_true rfl) d12_both_1 ?_
  exact Ev.sub [0] rfl (s12_both_p4 hB hF FU _ _ _ _ hf)
def f12_cond_p4 (F : St → Nat → Option (Unit × St)) : Nat → St → Nat → Option (Unit × St)
  | 0, _, _ => none
  | n + 1, σ, v0 =>
  gd (ob σ v0 12) (
  bd (f12_isWell σ v0) fun r7 t8 => (
  (if r7 = (0 : Int32) then
  some ((), t8)
  else
  bd (f12_isWord t8 v0 10) fun r12 t13 => (
  (if r12 = (0 : Int32) then
  some ((), t13)
  else
  bd (f12_next t13 v0) fun r17 t18 => (
  bd (f12_both F t18 v0) fun r21 t22 => (
  bd (f12_emits t22 v0 (-8 : Int32)) fun r25 t26 => (
  (f12_cond_p4 F n) t26 v0))))))))
set_option maxRecDepth 20000 in
theorem s12_cond_p4 {F : St → Nat → Option (Unit × St)} {dF : Nat} (hB : 36 ≤ dF) (hF : ∀ (σ : St) (a0 : Nat) (r : Unit) (τ : St), F σ a0 = some (r, τ) → Call dF m12_cond [.ref a0] σ none τ) : ∀ (n : Nat) (σ : St) (v0 : Nat) (r : Unit) (τ : St), f12_cond_p4 F n σ v0 = some (r, τ) → Ev (dF + 3) m12_cond 4 [(0, .ref v0)] [] σ none τ := by
  intro n
  induction n with
  | zero =>
    intro σ v0 r τ hf
    cases hf
  | succ n ih =>
    intro σ v0 r τ hf
    rw [f12_cond_p4] at hf
    refine ev_aload_n (j := 0) (i := 0) (q := 0) rfl rfl d12_cond_4 ?_
    obtain ⟨h6, hf⟩ := gd_some hf
    obtain ⟨r7, t8, k9, hf⟩ := bd_some hf
    have q10 := s12_isWell _ _ _ _ k9
    refine ev_callV (vs := []) (sk := []) cls12 h6 q10 (by omega) (Nat.le_of_ble_eq_true rfl) w1633 w1635 ws66 w19 w1636 k12_isWell rfl (Nat.le_of_ble_eq_true rfl) d12_cond_5 ?_
    rcases ite_some hf with ⟨c11, hf⟩ | ⟨c11, hf⟩
    · refine ev_if_eq_P (tgt := 38) c11 (by decide) d12_cond_8 ?_
      obtain ⟨-, rfl⟩ := ret_some hf
      exact ev_vret rfl d12_cond_38
    · refine ev_if_eq_Q (tgt := 38) c11 (by decide) d12_cond_8 ?_
      refine ev_aload_n (j := 0) (i := 0) (q := 0) rfl rfl d12_cond_11 ?_
      refine ev_ldcwS (i := 10) rfl d12_cond_12 ?_
      obtain ⟨r12, t13, k14, hf⟩ := bd_some hf
      have q15 := s12_isWord _ _ _ _ _ k14
      refine ev_callV (vs := [.ref (STR + 10)]) (sk := []) cls12 (mono_ob q10.1 h6) q15 (by omega) (Nat.le_of_ble_eq_true rfl) w1642 w1644 ws68 w19 w1645 k12_isWord rfl (Nat.le_of_ble_eq_true rfl) d12_cond_15 ?_
      rcases ite_some hf with ⟨c16, hf⟩ | ⟨c16, hf⟩
      · refine ev_if_eq_P (tgt := 38) c16 (by decide) d12_cond_18 ?_
        obtain ⟨-, rfl⟩ := ret_some hf
        exact ev_vret rfl d12_cond_38
      · refine ev_if_eq_Q (tgt := 38) c16 (by decide) d12_cond_18 ?_
        refine ev_aload_n (j := 0) (i := 0) (q := 0) rfl rfl d12_cond_21 ?_
        obtain ⟨r17, t18, k19, hf⟩ := bd_some hf
        have q20 := s12_next _ _ _ _ k19
        refine ev_callV (vs := []) (sk := []) cls12 (mono_ob q15.1 (mono_ob q10.1 h6)) q20 (by omega) (Nat.le_of_ble_eq_true rfl) w1619 w1621 ws64 w19 w1622 k12_next rfl (Nat.le_of_ble_eq_true rfl) d12_cond_22 ?_
        refine ev_aload_n (j := 0) (i := 0) (q := 0) rfl rfl d12_cond_25 ?_
        obtain ⟨r21, t22, k23, hf⟩ := bd_some hf
        have q24 := s12_both hB hF _ _ _ _ k23
        refine ev_callV (vs := []) (sk := []) cls12 (mono_ob q20.1 (mono_ob q15.1 (mono_ob q10.1 h6))) q24 (by omega) (Nat.le_of_ble_eq_true rfl) w1730 w1732 ws85 w19 w1733 k12_both rfl (Nat.le_of_ble_eq_true rfl) d12_cond_26 ?_
        refine ev_aload_n (j := 0) (i := 0) (q := 0) rfl rfl d12_cond_29 ?_
        refine ev_bipush cb_m8 d12_cond_30 ?_
        obtain ⟨r25, t26, k27, hf⟩ := bd_some hf
        have q28 := s12_emits _ _ _ _ _ k27
        refine ev_callV (vs := [.int (-8 : Int32)]) (sk := []) cls12 (mono_ob q24.1 (mono_ob q20.1 (mono_ob q15.1 (mono_ob q10.1 h6)))) q28 (by omega) (Nat.le_of_ble_eq_true rfl) w1702 w1704 ws78 w19 w1705 k12_emits rfl (Nat.le_of_ble_eq_true rfl) d12_cond_32 ?_
        refine ev_goto (tgt := 4) (by decide) d12_cond_35 ?_
        exact Ev.sub [0] rfl (ih _ _ _ _ hf)
def f12_cond_b (F : St → Nat → Option (Unit × St)) (σ : St) (v0 : Nat) : Option (Unit × St) :=
  gd (ob σ v0 12) (
  bd (f12_both F σ v0) fun r2 t3 => (
  f12_cond_p4 F FU t3 v0))
set_option maxRecDepth 50000 in
theorem s12_cond_b {F : St → Nat → Option (Unit × St)} {dF : Nat} (hB : 36 ≤ dF) (hF : ∀ (σ : St) (a0 : Nat) (r : Unit) (τ : St), F σ a0 = some (r, τ) → Call dF m12_cond [.ref a0] σ none τ) : ∀ (σ : St) (v0 : Nat) (r : Unit) (τ : St), f12_cond_b F σ v0 = some (r, τ) → Call (dF + 3) m12_cond [.ref v0] σ none τ := by
  intro σ v0 r τ hf
  unfold f12_cond_b at hf
  refine Call.of (by decide +kernel) rfl (Nat.le_of_ble_eq_true rfl) ?_
  refine ev_aload_n (j := 0) (i := 0) (q := 0) rfl rfl d12_cond_0 ?_
  obtain ⟨h1, hf⟩ := gd_some hf
  obtain ⟨r2, t3, k4, hf⟩ := bd_some hf
  have q5 := s12_both hB hF _ _ _ _ k4
  refine ev_callV (vs := []) (sk := []) cls12 h1 q5 (by omega) (Nat.le_of_ble_eq_true rfl) w1730 w1732 ws85 w19 w1733 k12_both rfl (Nat.le_of_ble_eq_true rfl) d12_cond_1 ?_
  exact Ev.sub [0] rfl (s12_cond_p4 hB hF FU _ _ _ _ hf)
def f12_cond : Nat → St → Nat → Option (Unit × St)
  | 0, _, _ => none
  | n + 1, σ, a0 => f12_cond_b (f12_cond n) σ a0
theorem s12_cond : ∀ (n : Nat) (σ : St) (a0 : Nat) (r : Unit) (τ : St), f12_cond n σ a0 = some (r, τ) → Call (36 + 3 * n) m12_cond [.ref a0] σ none τ := by
  intro n
  induction n with
  | zero =>
    intro σ a0 r τ hf
    cases hf
  | succ n ih =>
    intro σ a0 r τ hf
    rw [f12_cond] at hf
    have := s12_cond_b (F := f12_cond n) (dF := 36 + 3 * n) (by omega) ih σ a0 r τ hf
    rw [show 36 + 3 * (n + 1) = 36 + 3 * n + 3 by omega]
    exact this
abbrev m12_number : MD := ("MillBoatsModel", ⟨"MillBoatsModel", "number", "()I"⟩, prog_14_method_56_code, 1, (some Jvm.ClassFile.FieldType.int))
theorem k12_number : okY m12_number.2.1 0 := ⟨by decide +kernel, by decide +kernel, by decide +kernel⟩
def f12_number_p20 (σ : St) (v0 : Nat) : Option (Int32 × St) :=
  gd (ob σ v0 12) (
  bd (f12_isWell σ v0) fun r13 t14 => (
  (if r13 = (0 : Int32) then
  some ((0 : Int32), t14)
  else
  some (sI t14 v0 39, t14))))
set_option maxRecDepth 20000 in
theorem s12_number_p20 : ∀ (σ : St) (v0 : Nat) (r : Int32) (τ : St), f12_number_p20 σ v0 = some (r, τ) → Ev 3 m12_number 20 [(0, .ref v0)] [] σ (some (.int r)) τ := by
  intro σ v0 r τ hf
  unfold f12_number_p20 at hf
  refine ev_aload_n (j := 0) (i := 0) (q := 0) rfl rfl d12_number_20 ?_
  obtain ⟨h12, hf⟩ := gd_some hf
  obtain ⟨r13, t14, k15, hf⟩ := bd_some hf
  have q16 := s12_isWell _ _ _ _ k15
  refine ev_callV (vs := []) (sk := []) cls12 h12 q16 (by decide) (Nat.le_of_ble_eq_true rfl) w1633 w1635 ws66 w19 w1636 k12_isWell rfl (Nat.le_of_ble_eq_true rfl) d12_number_21 ?_
  rcases ite_some hf with ⟨c17, hf⟩ | ⟨c17, hf⟩
  · refine ev_if_eq_P (tgt := 34) c17 (by decide) d12_number_24 ?_
    refine ev_iconst ci_0 d12_number_34 ?_
    obtain ⟨rfl, rfl⟩ := ret_some hf
    exact ev_iret rfl d12_number_35
  · refine ev_if_eq_Q (tgt := 34) c17 (by decide) d12_number_24 ?_
    refine ev_aload_n (j := 0) (i := 0) (q := 0) rfl rfl d12_number_27 ?_
    refine ev_getI cls12 (j := 39) (by decide) rfl w1290 (mono_ob q16.1 h12) d12_number_28 ?_
    refine ev_goto (tgt := 35) (by decide) d12_number_31 ?_
    obtain ⟨rfl, rfl⟩ := ret_some hf
    exact ev_iret rfl d12_number_35
def f12_number (σ : St) (v0 : Nat) : Option (Int32 × St) :=
  gd (ob σ v0 12) (
  bd (f12_isWell σ v0) fun r2 t3 => (
  (if r2 = (0 : Int32) then
  f12_number_p20 t3 v0
  else
  (if (sI t3 v0 38) = (2 : Int32) then
  f12_number_p20 t3 v0
  else
  bd (f12_fails t3 v0 (1 : Int32)) fun r8 t9 => (
  f12_number_p20 t9 v0)))))
set_option maxRecDepth 50000 in
theorem s12_number : ∀ (σ : St) (v0 : Nat) (r : Int32) (τ : St), f12_number σ v0 = some (r, τ) → Call 3 m12_number [.ref v0] σ (some (.int r)) τ := by
  intro σ v0 r τ hf
  unfold f12_number at hf
  refine Call.of (by decide +kernel) rfl (Nat.le_of_ble_eq_true rfl) ?_
  refine ev_aload_n (j := 0) (i := 0) (q := 0) rfl rfl d12_number_0 ?_
  obtain ⟨h1, hf⟩ := gd_some hf
  obtain ⟨r2, t3, k4, hf⟩ := bd_some hf
  have q5 := s12_isWell _ _ _ _ k4
  refine ev_callV (vs := []) (sk := []) cls12 h1 q5 (by decide) (Nat.le_of_ble_eq_true rfl) w1633 w1635 ws66 w19 w1636 k12_isWell rfl (Nat.le_of_ble_eq_true rfl) d12_number_1 ?_
  rcases ite_some hf with ⟨c6, hf⟩ | ⟨c6, hf⟩
  · refine ev_if_eq_P (tgt := 20) c6 (by decide) d12_number_4 ?_
    exact Ev.sub [0] rfl (s12_number_p20 _ _ _ _ hf)
  · refine ev_if_eq_Q (tgt := 20) c6 (by decide) d12_number_4 ?_
    refine ev_aload_n (j := 0) (i := 0) (q := 0) rfl rfl d12_number_7 ?_
    refine ev_getI cls12 (j := 38) (by decide) rfl w1289 (mono_ob q5.1 h1) d12_number_8 ?_
    refine ev_iconst ci_2 d12_number_11 ?_
    rcases ite_some hf with ⟨c7, hf⟩ | ⟨c7, hf⟩
    · refine ev_icmp_eq_P (tgt := 20) c7 (by decide) d12_number_12 ?_
      exact Ev.sub [0] rfl (s12_number_p20 _ _ _ _ hf)
    · refine ev_icmp_eq_Q (tgt := 20) c7 (by decide) d12_number_12 ?_
      refine ev_aload_n (j := 0) (i := 0) (q := 0) rfl rfl d12_number_15 ?_
      refine ev_iconst ci_1 d12_number_16 ?_
      obtain ⟨r8, t9, k10, hf⟩ := bd_some hf
      have q11 := s12_fails _ _ _ _ _ k10
      refine ev_callV (vs := [.int (1 : Int32)]) (sk := []) cls12 (mono_ob q5.1 h1) q11 (by decide) (Nat.le_of_ble_eq_true rfl) w1652 w1654 ws69 w19 w1655 k12_fails rfl (Nat.le_of_ble_eq_true rfl) d12_number_17 ?_
      exact Ev.sub [0] rfl (s12_number_p20 _ _ _ _ hf)
