theorem d12_point_0 : decode prog_14_method_6_code 0 = .ok (.aload_n 0, 1) := by decide +kernel
theorem d12_point_1 : decode prog_14_method_6_code 1 = .ok (.iconst 0, 1) := by decide +kernel
theorem d12_point_2 : decode prog_14_method_6_code 2 = .ok (.putfield 1, 3) := by decide +kernel
theorem d12_point_5 : decode prog_14_method_6_code 5 = .ok (.iload_n 1, 1) := by decide +kernel
theorem d12_point_6 : decode prog_14_method_6_code 6 = .ok (.iconst 0, 1) := by decide +kernel
theorem d12_point_7 : decode prog_14_method_6_code 7 = .ok (.bipush 6, 2) := by decide +kernel
theorem d12_point_9 : decode prog_14_method_6_code 9 = .ok (.invokestatic 176, 3) := by decide +kernel
theorem d12_point_12 : decode prog_14_method_6_code 12 = .ok (.ifCond .eq 25, 3) := by decide +kernel
theorem d12_point_15 : decode prog_14_method_6_code 15 = .ok (.iload_n 2, 1) := by decide +kernel
theorem d12_point_16 : decode prog_14_method_6_code 16 = .ok (.iconst 0, 1) := by decide +kernel
theorem d12_point_17 : decode prog_14_method_6_code 17 = .ok (.sipush 400, 3) := by decide +kernel
theorem d12_point_20 : decode prog_14_method_6_code 20 = .ok (.invokestatic 176, 3) := by decide +kernel
theorem d12_point_23 : decode prog_14_method_6_code 23 = .ok (.ifCond .eq 14, 3) := by decide +kernel
theorem d12_point_26 : decode prog_14_method_6_code 26 = .ok (.iload_n 3, 1) := by decide +kernel
theorem d12_point_27 : decode prog_14_method_6_code 27 = .ok (.iconst 0, 1) := by decide +kernel
theorem d12_point_28 : decode prog_14_method_6_code 28 = .ok (.sipush 400, 3) := by decide +kernel
theorem d12_point_31 : decode prog_14_method_6_code 31 = .ok (.invokestatic 176, 3) := by decide +kernel
theorem d12_point_34 : decode prog_14_method_6_code 34 = .ok (.ifCond .ne 5, 3) := by decide +kernel
theorem d12_point_37 : decode prog_14_method_6_code 37 = .ok (.iconst 0, 1) := by decide +kernel
theorem d12_point_38 : decode prog_14_method_6_code 38 = .ok (.ireturn, 1) := by decide +kernel
theorem d12_point_39 : decode prog_14_method_6_code 39 = .ok (.bipush 8, 2) := by decide +kernel
theorem d12_point_41 : decode prog_14_method_6_code 41 = .ok (.iload_n 1, 1) := by decide +kernel
theorem d12_point_42 : decode prog_14_method_6_code 42 = .ok (.imul, 1) := by decide +kernel
theorem d12_point_43 : decode prog_14_method_6_code 43 = .ok (.istore 4, 2) := by decide +kernel
theorem d12_point_45 : decode prog_14_method_6_code 45 = .ok (.iconst 0, 1) := by decide +kernel
theorem d12_point_46 : decode prog_14_method_6_code 46 = .ok (.istore 5, 2) := by decide +kernel
theorem d12_point_48 : decode prog_14_method_6_code 48 = .ok (.iload 5, 2) := by decide +kernel
theorem d12_point_50 : decode prog_14_method_6_code 50 = .ok (.aload_n 0, 1) := by decide +kernel
theorem d12_point_51 : decode prog_14_method_6_code 51 = .ok (.getfield 17, 3) := by decide +kernel
theorem d12_point_54 : decode prog_14_method_6_code 54 = .ok (.iload_n 1, 1) := by decide +kernel
theorem d12_point_55 : decode prog_14_method_6_code 55 = .ok (.iaload, 1) := by decide +kernel
theorem d12_point_56 : decode prog_14_method_6_code 56 = .ok (.if_icmp .ge 23, 3) := by decide +kernel
theorem d12_point_59 : decode prog_14_method_6_code 59 = .ok (.aload_n 0, 1) := by decide +kernel
theorem d12_point_60 : decode prog_14_method_6_code 60 = .ok (.getfield 20, 3) := by decide +kernel
theorem d12_point_63 : decode prog_14_method_6_code 63 = .ok (.iload 4, 2) := by decide +kernel
theorem d12_point_65 : decode prog_14_method_6_code 65 = .ok (.iload 5, 2) := by decide +kernel
theorem d12_point_67 : decode prog_14_method_6_code 67 = .ok (.iadd, 1) := by decide +kernel
theorem d12_point_68 : decode prog_14_method_6_code 68 = .ok (.iaload, 1) := by decide +kernel
theorem d12_point_69 : decode prog_14_method_6_code 69 = .ok (.iload_n 2, 1) := by decide +kernel
theorem d12_point_70 : decode prog_14_method_6_code 70 = .ok (.if_icmp .ge 9, 3) := by decide +kernel
theorem d12_point_73 : decode prog_14_method_6_code 73 = .ok (.iinc 5 1, 3) := by decide +kernel
theorem d12_point_76 : decode prog_14_method_6_code 76 = .ok (.goto (-28), 3) := by decide +kernel
theorem d12_point_79 : decode prog_14_method_6_code 79 = .ok (.iload 5, 2) := by decide +kernel
theorem d12_point_81 : decode prog_14_method_6_code 81 = .ok (.aload_n 0, 1) := by decide +kernel
theorem d12_point_82 : decode prog_14_method_6_code 82 = .ok (.getfield 17, 3) := by decide +kernel
theorem d12_point_85 : decode prog_14_method_6_code 85 = .ok (.iload_n 1, 1) := by decide +kernel
theorem d12_point_86 : decode prog_14_method_6_code 86 = .ok (.iaload, 1) := by decide +kernel
theorem d12_point_87 : decode prog_14_method_6_code 87 = .ok (.if_icmp .ge 21, 3) := by decide +kernel
theorem d12_point_90 : decode prog_14_method_6_code 90 = .ok (.aload_n 0, 1) := by decide +kernel
theorem d12_point_91 : decode prog_14_method_6_code 91 = .ok (.getfield 20, 3) := by decide +kernel
theorem d12_point_94 : decode prog_14_method_6_code 94 = .ok (.iload 4, 2) := by decide +kernel
theorem d12_point_96 : decode prog_14_method_6_code 96 = .ok (.iload 5, 2) := by decide +kernel
theorem d12_point_98 : decode prog_14_method_6_code 98 = .ok (.iadd, 1) := by decide +kernel
theorem d12_point_99 : decode prog_14_method_6_code 99 = .ok (.iaload, 1) := by decide +kernel
theorem d12_point_100 : decode prog_14_method_6_code 100 = .ok (.iload_n 2, 1) := by decide +kernel
theorem d12_point_101 : decode prog_14_method_6_code 101 = .ok (.if_icmp .ne 7, 3) := by decide +kernel
theorem d12_point_104 : decode prog_14_method_6_code 104 = .ok (.iconst 1, 1) := by decide +kernel
theorem d12_point_105 : decode prog_14_method_6_code 105 = .ok (.goto 4, 3) := by decide +kernel
theorem d12_point_108 : decode prog_14_method_6_code 108 = .ok (.iconst 0, 1) := by decide +kernel
theorem d12_point_109 : decode prog_14_method_6_code 109 = .ok (.istore 6, 2) := by decide +kernel
theorem d12_point_111 : decode prog_14_method_6_code 111 = .ok (.iload 6, 2) := by decide +kernel
theorem d12_point_113 : decode prog_14_method_6_code 113 = .ok (.ifCond .ne 16, 3) := by decide +kernel
theorem d12_point_116 : decode prog_14_method_6_code 116 = .ok (.aload_n 0, 1) := by decide +kernel
theorem d12_point_117 : decode prog_14_method_6_code 117 = .ok (.getfield 17, 3) := by decide +kernel
theorem d12_point_120 : decode prog_14_method_6_code 120 = .ok (.iload_n 1, 1) := by decide +kernel
theorem d12_point_121 : decode prog_14_method_6_code 121 = .ok (.iaload, 1) := by decide +kernel
theorem d12_point_122 : decode prog_14_method_6_code 122 = .ok (.bipush 8, 2) := by decide +kernel
theorem d12_point_124 : decode prog_14_method_6_code 124 = .ok (.if_icmp .ne 5, 3) := by decide +kernel
theorem d12_point_127 : decode prog_14_method_6_code 127 = .ok (.iconst 0, 1) := by decide +kernel
theorem d12_point_128 : decode prog_14_method_6_code 128 = .ok (.ireturn, 1) := by decide +kernel
theorem d12_point_129 : decode prog_14_method_6_code 129 = .ok (.iload 6, 2) := by decide +kernel
theorem d12_point_131 : decode prog_14_method_6_code 131 = .ok (.ifCond .ne 78, 3) := by decide +kernel
theorem d12_point_134 : decode prog_14_method_6_code 134 = .ok (.aload_n 0, 1) := by decide +kernel
theorem d12_point_135 : decode prog_14_method_6_code 135 = .ok (.getfield 17, 3) := by decide +kernel
theorem d12_point_138 : decode prog_14_method_6_code 138 = .ok (.iload_n 1, 1) := by decide +kernel
theorem d12_point_139 : decode prog_14_method_6_code 139 = .ok (.iaload, 1) := by decide +kernel
theorem d12_point_140 : decode prog_14_method_6_code 140 = .ok (.istore 7, 2) := by decide +kernel
theorem d12_point_142 : decode prog_14_method_6_code 142 = .ok (.iload 7, 2) := by decide +kernel
theorem d12_point_144 : decode prog_14_method_6_code 144 = .ok (.iload 5, 2) := by decide +kernel
theorem d12_point_146 : decode prog_14_method_6_code 146 = .ok (.if_icmp .le 53, 3) := by decide +kernel
theorem d12_point_149 : decode prog_14_method_6_code 149 = .ok (.aload_n 0, 1) := by decide +kernel
theorem d12_point_150 : decode prog_14_method_6_code 150 = .ok (.getfield 20, 3) := by decide +kernel
theorem d12_point_153 : decode prog_14_method_6_code 153 = .ok (.iload 4, 2) := by decide +kernel
theorem d12_point_155 : decode prog_14_method_6_code 155 = .ok (.iload 7, 2) := by decide +kernel
theorem d12_point_157 : decode prog_14_method_6_code 157 = .ok (.iadd, 1) := by decide +kernel
theorem d12_point_158 : decode prog_14_method_6_code 158 = .ok (.aload_n 0, 1) := by decide +kernel
theorem d12_point_159 : decode prog_14_method_6_code 159 = .ok (.getfield 20, 3) := by decide +kernel
theorem d12_point_162 : decode prog_14_method_6_code 162 = .ok (.iload 4, 2) := by decide +kernel
theorem d12_point_164 : decode prog_14_method_6_code 164 = .ok (.iload 7, 2) := by decide +kernel
theorem d12_point_166 : decode prog_14_method_6_code 166 = .ok (.iadd, 1) := by decide +kernel
theorem d12_point_167 : decode prog_14_method_6_code 167 = .ok (.iconst 1, 1) := by decide +kernel
theorem d12_point_168 : decode prog_14_method_6_code 168 = .ok (.isub, 1) := by decide +kernel
theorem d12_point_169 : decode prog_14_method_6_code 169 = .ok (.iaload, 1) := by decide +kernel
theorem d12_point_170 : decode prog_14_method_6_code 170 = .ok (.iastore, 1) := by decide +kernel
theorem d12_point_171 : decode prog_14_method_6_code 171 = .ok (.aload_n 0, 1) := by decide +kernel
theorem d12_point_172 : decode prog_14_method_6_code 172 = .ok (.getfield 23, 3) := by decide +kernel
theorem d12_point_175 : decode prog_14_method_6_code 175 = .ok (.iload 4, 2) := by decide +kernel
theorem d12_point_177 : decode prog_14_method_6_code 177 = .ok (.iload 7, 2) := by decide +kernel
theorem d12_point_179 : decode prog_14_method_6_code 179 = .ok (.iadd, 1) := by decide +kernel
theorem d12_point_180 : decode prog_14_method_6_code 180 = .ok (.aload_n 0, 1) := by decide +kernel
theorem d12_point_181 : decode prog_14_method_6_code 181 = .ok (.getfield 23, 3) := by decide +kernel
theorem d12_point_184 : decode prog_14_method_6_code 184 = .ok (.iload 4, 2) := by decide +kernel
theorem d12_point_186 : decode prog_14_method_6_code 186 = .ok (.iload 7, 2) := by decide +kernel
theorem d12_point_188 : decode prog_14_method_6_code 188 = .ok (.iadd, 1) := by decide +kernel
theorem d12_point_189 : decode prog_14_method_6_code 189 = .ok (.iconst 1, 1) := by decide +kernel
theorem d12_point_190 : decode prog_14_method_6_code 190 = .ok (.isub, 1) := by decide +kernel
theorem d12_point_191 : decode prog_14_method_6_code 191 = .ok (.iaload, 1) := by decide +kernel
theorem d12_point_192 : decode prog_14_method_6_code 192 = .ok (.iastore, 1) := by decide +kernel
theorem d12_point_193 : decode prog_14_method_6_code 193 = .ok (.iinc 7 (-1), 3) := by decide +kernel
theorem d12_point_196 : decode prog_14_method_6_code 196 = .ok (.goto (-54), 3) := by decide +kernel
theorem d12_point_199 : decode prog_14_method_6_code 199 = .ok (.aload_n 0, 1) := by decide +kernel
theorem d12_point_200 : decode prog_14_method_6_code 200 = .ok (.getfield 17, 3) := by decide +kernel
theorem d12_point_203 : decode prog_14_method_6_code 203 = .ok (.iload_n 1, 1) := by decide +kernel
theorem d12_point_204 : decode prog_14_method_6_code 204 = .ok (.dup2, 1) := by decide +kernel
theorem d12_point_205 : decode prog_14_method_6_code 205 = .ok (.iaload, 1) := by decide +kernel
theorem d12_point_206 : decode prog_14_method_6_code 206 = .ok (.iconst 1, 1) := by decide +kernel
theorem d12_point_207 : decode prog_14_method_6_code 207 = .ok (.iadd, 1) := by decide +kernel
theorem d12_point_208 : decode prog_14_method_6_code 208 = .ok (.iastore, 1) := by decide +kernel
theorem d12_point_209 : decode prog_14_method_6_code 209 = .ok (.aload_n 0, 1) := by decide +kernel
theorem d12_point_210 : decode prog_14_method_6_code 210 = .ok (.getfield 20, 3) := by decide +kernel
theorem d12_point_213 : decode prog_14_method_6_code 213 = .ok (.iload 4, 2) := by decide +kernel
theorem d12_point_215 : decode prog_14_method_6_code 215 = .ok (.iload 5, 2) := by decide +kernel
theorem d12_point_217 : decode prog_14_method_6_code 217 = .ok (.iadd, 1) := by decide +kernel
theorem d12_point_218 : decode prog_14_method_6_code 218 = .ok (.iload_n 2, 1) := by decide +kernel
theorem d12_point_219 : decode prog_14_method_6_code 219 = .ok (.iastore, 1) := by decide +kernel
theorem d12_point_220 : decode prog_14_method_6_code 220 = .ok (.aload_n 0, 1) := by decide +kernel
theorem d12_point_221 : decode prog_14_method_6_code 221 = .ok (.getfield 23, 3) := by decide +kernel
theorem d12_point_224 : decode prog_14_method_6_code 224 = .ok (.iload 4, 2) := by decide +kernel
theorem d12_point_226 : decode prog_14_method_6_code 226 = .ok (.iload 5, 2) := by decide +kernel
theorem d12_point_228 : decode prog_14_method_6_code 228 = .ok (.iadd, 1) := by decide +kernel
theorem d12_point_229 : decode prog_14_method_6_code 229 = .ok (.iload_n 3, 1) := by decide +kernel
theorem d12_point_230 : decode prog_14_method_6_code 230 = .ok (.iastore, 1) := by decide +kernel
theorem d12_point_231 : decode prog_14_method_6_code 231 = .ok (.iconst 1, 1) := by decide +kernel
theorem d12_point_232 : decode prog_14_method_6_code 232 = .ok (.ireturn, 1) := by decide +kernel
theorem d12_valueOf_0 : decode prog_14_method_7_code 0 = .ok (.aload_n 0, 1) := by decide +kernel
theorem d12_valueOf_1 : decode prog_14_method_7_code 1 = .ok (.getfield 17, 3) := by decide +kernel
theorem d12_valueOf_4 : decode prog_14_method_7_code 4 = .ok (.iload_n 1, 1) := by decide +kernel
theorem d12_valueOf_5 : decode prog_14_method_7_code 5 = .ok (.iaload, 1) := by decide +kernel
theorem d12_valueOf_6 : decode prog_14_method_7_code 6 = .ok (.istore_n 3, 1) := by decide +kernel
theorem d12_valueOf_7 : decode prog_14_method_7_code 7 = .ok (.bipush 8, 2) := by decide +kernel
theorem d12_valueOf_9 : decode prog_14_method_7_code 9 = .ok (.iload_n 1, 1) := by decide +kernel
theorem d12_valueOf_10 : decode prog_14_method_7_code 10 = .ok (.imul, 1) := by decide +kernel
theorem d12_valueOf_11 : decode prog_14_method_7_code 11 = .ok (.istore 4, 2) := by decide +kernel
theorem d12_valueOf_13 : decode prog_14_method_7_code 13 = .ok (.iload_n 3, 1) := by decide +kernel
theorem d12_valueOf_14 : decode prog_14_method_7_code 14 = .ok (.ifCond .ne 5, 3) := by decide +kernel
theorem d12_valueOf_17 : decode prog_14_method_7_code 17 = .ok (.iconst 0, 1) := by decide +kernel
theorem d12_valueOf_18 : decode prog_14_method_7_code 18 = .ok (.ireturn, 1) := by decide +kernel
theorem d12_valueOf_19 : decode prog_14_method_7_code 19 = .ok (.iload_n 2, 1) := by decide +kernel
theorem d12_valueOf_20 : decode prog_14_method_7_code 20 = .ok (.aload_n 0, 1) := by decide +kernel
theorem d12_valueOf_21 : decode prog_14_method_7_code 21 = .ok (.getfield 20, 3) := by decide +kernel
theorem d12_valueOf_24 : decode prog_14_method_7_code 24 = .ok (.iload 4, 2) := by decide +kernel
theorem d12_valueOf_26 : decode prog_14_method_7_code 26 = .ok (.iaload, 1) := by decide +kernel
theorem d12_valueOf_27 : decode prog_14_method_7_code 27 = .ok (.if_icmp .gt 11, 3) := by decide +kernel
theorem d12_valueOf_30 : decode prog_14_method_7_code 30 = .ok (.aload_n 0, 1) := by decide +kernel
theorem d12_valueOf_31 : decode prog_14_method_7_code 31 = .ok (.getfield 23, 3) := by decide +kernel
theorem d12_valueOf_34 : decode prog_14_method_7_code 34 = .ok (.iload 4, 2) := by decide +kernel
theorem d12_valueOf_36 : decode prog_14_method_7_code 36 = .ok (.iaload, 1) := by decide +kernel
theorem d12_valueOf_37 : decode prog_14_method_7_code 37 = .ok (.ireturn, 1) := by decide +kernel
theorem d12_valueOf_38 : decode prog_14_method_7_code 38 = .ok (.iload_n 2, 1) := by decide +kernel
theorem d12_valueOf_39 : decode prog_14_method_7_code 39 = .ok (.aload_n 0, 1) := by decide +kernel
theorem d12_valueOf_40 : decode prog_14_method_7_code 40 = .ok (.getfield 20, 3) := by decide +kernel
theorem d12_valueOf_43 : decode prog_14_method_7_code 43 = .ok (.iload 4, 2) := by decide +kernel
theorem d12_valueOf_45 : decode prog_14_method_7_code 45 = .ok (.iload_n 3, 1) := by decide +kernel
theorem d12_valueOf_46 : decode prog_14_method_7_code 46 = .ok (.iadd, 1) := by decide +kernel
theorem d12_valueOf_47 : decode prog_14_method_7_code 47 = .ok (.iconst 1, 1) := by decide +kernel
theorem d12_valueOf_48 : decode prog_14_method_7_code 48 = .ok (.isub, 1) := by decide +kernel
theorem d12_valueOf_49 : decode prog_14_method_7_code 49 = .ok (.iaload, 1) := by decide +kernel
theorem d12_valueOf_50 : decode prog_14_method_7_code 50 = .ok (.if_icmp .lt 15, 3) := by decide +kernel
theorem d12_valueOf_53 : decode prog_14_method_7_code 53 = .ok (.aload_n 0, 1) := by decide +kernel
theorem d12_valueOf_54 : decode prog_14_method_7_code 54 = .ok (.getfield 23, 3) := by decide +kernel
theorem d12_valueOf_57 : decode prog_14_method_7_code 57 = .ok (.iload 4, 2) := by decide +kernel
theorem d12_valueOf_59 : decode prog_14_method_7_code 59 = .ok (.iload_n 3, 1) := by decide +kernel
theorem d12_valueOf_60 : decode prog_14_method_7_code 60 = .ok (.iadd, 1) := by decide +kernel
theorem d12_valueOf_61 : decode prog_14_method_7_code 61 = .ok (.iconst 1, 1) := by decide +kernel
theorem d12_valueOf_62 : decode prog_14_method_7_code 62 = .ok (.isub, 1) := by decide +kernel
theorem d12_valueOf_63 : decode prog_14_method_7_code 63 = .ok (.iaload, 1) := by decide +kernel
theorem d12_valueOf_64 : decode prog_14_method_7_code 64 = .ok (.ireturn, 1) := by decide +kernel
theorem d12_valueOf_65 : decode prog_14_method_7_code 65 = .ok (.iconst 0, 1) := by decide +kernel
theorem d12_valueOf_66 : decode prog_14_method_7_code 66 = .ok (.istore 5, 2) := by decide +kernel
theorem d12_valueOf_68 : decode prog_14_method_7_code 68 = .ok (.aload_n 0, 1) := by decide +kernel
theorem d12_valueOf_69 : decode prog_14_method_7_code 69 = .ok (.getfield 20, 3) := by decide +kernel
theorem d12_valueOf_72 : decode prog_14_method_7_code 72 = .ok (.iload 4, 2) := by decide +kernel
theorem d12_valueOf_74 : decode prog_14_method_7_code 74 = .ok (.iload 5, 2) := by decide +kernel
theorem d12_valueOf_76 : decode prog_14_method_7_code 76 = .ok (.iadd, 1) := by decide +kernel
theorem d12_valueOf_77 : decode prog_14_method_7_code 77 = .ok (.iconst 1, 1) := by decide +kernel
theorem d12_valueOf_78 : decode prog_14_method_7_code 78 = .ok (.iadd, 1) := by decide +kernel
theorem d12_valueOf_79 : decode prog_14_method_7_code 79 = .ok (.iaload, 1) := by decide +kernel
theorem d12_valueOf_80 : decode prog_14_method_7_code 80 = .ok (.iload_n 2, 1) := by decide +kernel
theorem d12_valueOf_81 : decode prog_14_method_7_code 81 = .ok (.if_icmp .ge 9, 3) := by decide +kernel
theorem d12_valueOf_84 : decode prog_14_method_7_code 84 = .ok (.iinc 5 1, 3) := by decide +kernel
theorem d12_valueOf_87 : decode prog_14_method_7_code 87 = .ok (.goto (-19), 3) := by decide +kernel
theorem d12_valueOf_90 : decode prog_14_method_7_code 90 = .ok (.aload_n 0, 1) := by decide +kernel
theorem d12_valueOf_91 : decode prog_14_method_7_code 91 = .ok (.getfield 20, 3) := by decide +kernel
theorem d12_valueOf_94 : decode prog_14_method_7_code 94 = .ok (.iload 4, 2) := by decide +kernel
theorem d12_valueOf_96 : decode prog_14_method_7_code 96 = .ok (.iload 5, 2) := by decide +kernel
theorem d12_valueOf_98 : decode prog_14_method_7_code 98 = .ok (.iadd, 1) := by decide +kernel
theorem d12_valueOf_99 : decode prog_14_method_7_code 99 = .ok (.iconst 1, 1) := by decide +kernel
theorem d12_valueOf_100 : decode prog_14_method_7_code 100 = .ok (.iadd, 1) := by decide +kernel
theorem d12_valueOf_101 : decode prog_14_method_7_code 101 = .ok (.iaload, 1) := by decide +kernel
theorem d12_valueOf_102 : decode prog_14_method_7_code 102 = .ok (.aload_n 0, 1) := by decide +kernel
theorem d12_valueOf_103 : decode prog_14_method_7_code 103 = .ok (.getfield 20, 3) := by decide +kernel
theorem d12_valueOf_106 : decode prog_14_method_7_code 106 = .ok (.iload 4, 2) := by decide +kernel
theorem d12_valueOf_108 : decode prog_14_method_7_code 108 = .ok (.iload 5, 2) := by decide +kernel
theorem d12_valueOf_110 : decode prog_14_method_7_code 110 = .ok (.iadd, 1) := by decide +kernel
theorem d12_valueOf_111 : decode prog_14_method_7_code 111 = .ok (.iaload, 1) := by decide +kernel
theorem d12_valueOf_112 : decode prog_14_method_7_code 112 = .ok (.isub, 1) := by decide +kernel
theorem d12_valueOf_113 : decode prog_14_method_7_code 113 = .ok (.istore 6, 2) := by decide +kernel
theorem d12_valueOf_115 : decode prog_14_method_7_code 115 = .ok (.aload_n 0, 1) := by decide +kernel
theorem d12_valueOf_116 : decode prog_14_method_7_code 116 = .ok (.getfield 23, 3) := by decide +kernel
theorem d12_valueOf_119 : decode prog_14_method_7_code 119 = .ok (.iload 4, 2) := by decide +kernel
theorem d12_valueOf_121 : decode prog_14_method_7_code 121 = .ok (.iload 5, 2) := by decide +kernel
theorem d12_valueOf_123 : decode prog_14_method_7_code 123 = .ok (.iadd, 1) := by decide +kernel
theorem d12_valueOf_124 : decode prog_14_method_7_code 124 = .ok (.iconst 1, 1) := by decide +kernel
theorem d12_valueOf_125 : decode prog_14_method_7_code 125 = .ok (.iadd, 1) := by decide +kernel
theorem d12_valueOf_126 : decode prog_14_method_7_code 126 = .ok (.iaload, 1) := by decide +kernel
theorem d12_valueOf_127 : decode prog_14_method_7_code 127 = .ok (.aload_n 0, 1) := by decide +kernel
theorem d12_valueOf_128 : decode prog_14_method_7_code 128 = .ok (.getfield 23, 3) := by decide +kernel
theorem d12_valueOf_131 : decode prog_14_method_7_code 131 = .ok (.iload 4, 2) := by decide +kernel
theorem d12_valueOf_133 : decode prog_14_method_7_code 133 = .ok (.iload 5, 2) := by decide +kernel
theorem d12_valueOf_135 : decode prog_14_method_7_code 135 = .ok (.iadd, 1) := by decide +kernel
theorem d12_valueOf_136 : decode prog_14_method_7_code 136 = .ok (.iaload, 1) := by decide +kernel
theorem d12_valueOf_137 : decode prog_14_method_7_code 137 = .ok (.isub, 1) := by decide +kernel
theorem d12_valueOf_138 : decode prog_14_method_7_code 138 = .ok (.iload_n 2, 1) := by decide +kernel
theorem d12_valueOf_139 : decode prog_14_method_7_code 139 = .ok (.aload_n 0, 1) := by decide +kernel
theorem d12_valueOf_140 : decode prog_14_method_7_code 140 = .ok (.getfield 20, 3) := by decide +kernel
theorem d12_valueOf_143 : decode prog_14_method_7_code 143 = .ok (.iload 4, 2) := by decide +kernel
theorem d12_valueOf_145 : decode prog_14_method_7_code 145 = .ok (.iload 5, 2) := by decide +kernel
theorem d12_valueOf_147 : decode prog_14_method_7_code 147 = .ok (.iadd, 1) := by decide +kernel
theorem d12_valueOf_148 : decode prog_14_method_7_code 148 = .ok (.iaload, 1) := by decide +kernel
theorem d12_valueOf_149 : decode prog_14_method_7_code 149 = .ok (.isub, 1) := by decide +kernel
theorem d12_valueOf_150 : decode prog_14_method_7_code 150 = .ok (.imul, 1) := by decide +kernel
theorem d12_valueOf_151 : decode prog_14_method_7_code 151 = .ok (.istore 7, 2) := by decide +kernel
theorem d12_valueOf_153 : decode prog_14_method_7_code 153 = .ok (.iload 7, 2) := by decide +kernel
theorem d12_valueOf_155 : decode prog_14_method_7_code 155 = .ok (.iload 6, 2) := by decide +kernel
theorem d12_valueOf_157 : decode prog_14_method_7_code 157 = .ok (.idiv, 1) := by decide +kernel
theorem d12_valueOf_158 : decode prog_14_method_7_code 158 = .ok (.istore 8, 2) := by decide +kernel
theorem d12_valueOf_160 : decode prog_14_method_7_code 160 = .ok (.iload 7, 2) := by decide +kernel
theorem d12_valueOf_162 : decode prog_14_method_7_code 162 = .ok (.ifCond .ge 16, 3) := by decide +kernel
theorem d12_valueOf_165 : decode prog_14_method_7_code 165 = .ok (.iload 8, 2) := by decide +kernel
theorem d12_valueOf_167 : decode prog_14_method_7_code 167 = .ok (.iload 6, 2) := by decide +kernel
theorem d12_valueOf_169 : decode prog_14_method_7_code 169 = .ok (.imul, 1) := by decide +kernel
theorem d12_valueOf_170 : decode prog_14_method_7_code 170 = .ok (.iload 7, 2) := by decide +kernel
theorem d12_valueOf_172 : decode prog_14_method_7_code 172 = .ok (.if_icmp .eq 6, 3) := by decide +kernel
theorem d12_valueOf_175 : decode prog_14_method_7_code 175 = .ok (.iinc 8 (-1), 3) := by decide +kernel
theorem d12_valueOf_178 : decode prog_14_method_7_code 178 = .ok (.aload_n 0, 1) := by decide +kernel
theorem d12_valueOf_179 : decode prog_14_method_7_code 179 = .ok (.getfield 23, 3) := by decide +kernel
theorem d12_valueOf_182 : decode prog_14_method_7_code 182 = .ok (.iload 4, 2) := by decide +kernel
theorem d12_valueOf_184 : decode prog_14_method_7_code 184 = .ok (.iload 5, 2) := by decide +kernel
theorem d12_valueOf_186 : decode prog_14_method_7_code 186 = .ok (.iadd, 1) := by decide +kernel
theorem d12_valueOf_187 : decode prog_14_method_7_code 187 = .ok (.iaload, 1) := by decide +kernel
theorem d12_valueOf_188 : decode prog_14_method_7_code 188 = .ok (.iload 8, 2) := by decide +kernel
theorem d12_valueOf_190 : decode prog_14_method_7_code 190 = .ok (.iadd, 1) := by decide +kernel
theorem d12_valueOf_191 : decode prog_14_method_7_code 191 = .ok (.ireturn, 1) := by decide +kernel
theorem d12_value_0 : decode prog_14_method_8_code 0 = .ok (.aload_n 0, 1) := by decide +kernel
theorem d12_value_1 : decode prog_14_method_8_code 1 = .ok (.iconst 0, 1) := by decide +kernel
theorem d12_value_2 : decode prog_14_method_8_code 2 = .ok (.putfield 1, 3) := by decide +kernel
theorem d12_value_5 : decode prog_14_method_8_code 5 = .ok (.iload_n 1, 1) := by decide +kernel
theorem d12_value_6 : decode prog_14_method_8_code 6 = .ok (.iconst 0, 1) := by decide +kernel
theorem d12_value_7 : decode prog_14_method_8_code 7 = .ok (.bipush 6, 2) := by decide +kernel
theorem d12_value_9 : decode prog_14_method_8_code 9 = .ok (.invokestatic 176, 3) := by decide +kernel
theorem d12_value_12 : decode prog_14_method_8_code 12 = .ok (.ifCond .eq 12, 3) := by decide +kernel
theorem d12_value_15 : decode prog_14_method_8_code 15 = .ok (.aload_n 0, 1) := by decide +kernel
theorem d12_value_16 : decode prog_14_method_8_code 16 = .ok (.iload_n 1, 1) := by decide +kernel
theorem d12_value_17 : decode prog_14_method_8_code 17 = .ok (.iload_n 2, 1) := by decide +kernel
theorem d12_value_18 : decode prog_14_method_8_code 18 = .ok (.invokevirtual 180, 3) := by decide +kernel
theorem d12_value_21 : decode prog_14_method_8_code 21 = .ok (.goto 4, 3) := by decide +kernel
theorem d12_value_24 : decode prog_14_method_8_code 24 = .ok (.iconst (-1), 1) := by decide +kernel
theorem d12_value_25 : decode prog_14_method_8_code 25 = .ok (.ireturn, 1) := by decide +kernel
theorem d12_depth_0 : decode prog_14_method_9_code 0 = .ok (.iload_n 2, 1) := by decide +kernel
theorem d12_depth_1 : decode prog_14_method_9_code 1 = .ok (.aload_n 0, 1) := by decide +kernel
theorem d12_depth_2 : decode prog_14_method_9_code 2 = .ok (.getfield 13, 3) := by decide +kernel
theorem d12_depth_5 : decode prog_14_method_9_code 5 = .ok (.iload_n 1, 1) := by decide +kernel
theorem d12_depth_6 : decode prog_14_method_9_code 6 = .ok (.iaload, 1) := by decide +kernel
theorem d12_depth_7 : decode prog_14_method_9_code 7 = .ok (.if_icmp .le 14, 3) := by decide +kernel
theorem d12_depth_10 : decode prog_14_method_9_code 10 = .ok (.iload_n 2, 1) := by decide +kernel
theorem d12_depth_11 : decode prog_14_method_9_code 11 = .ok (.aload_n 0, 1) := by decide +kernel
theorem d12_depth_12 : decode prog_14_method_9_code 12 = .ok (.getfield 13, 3) := by decide +kernel
theorem d12_depth_15 : decode prog_14_method_9_code 15 = .ok (.iload_n 1, 1) := by decide +kernel
theorem d12_depth_16 : decode prog_14_method_9_code 16 = .ok (.iaload, 1) := by decide +kernel
theorem d12_depth_17 : decode prog_14_method_9_code 17 = .ok (.isub, 1) := by decide +kernel
theorem d12_depth_18 : decode prog_14_method_9_code 18 = .ok (.goto 4, 3) := by decide +kernel
theorem d12_depth_21 : decode prog_14_method_9_code 21 = .ok (.iconst 0, 1) := by decide +kernel
theorem d12_depth_22 : decode prog_14_method_9_code 22 = .ok (.ireturn, 1) := by decide +kernel
theorem d12_mill_0 : decode prog_14_method_10_code 0 = .ok (.aload_n 0, 1) := by decide +kernel
theorem d12_mill_1 : decode prog_14_method_10_code 1 = .ok (.iconst 0, 1) := by decide +kernel
theorem d12_mill_2 : decode prog_14_method_10_code 2 = .ok (.putfield 1, 3) := by decide +kernel
theorem d12_mill_5 : decode prog_14_method_10_code 5 = .ok (.iload_n 1, 1) := by decide +kernel
theorem d12_mill_6 : decode prog_14_method_10_code 6 = .ok (.iconst 1, 1) := by decide +kernel
theorem d12_mill_7 : decode prog_14_method_10_code 7 = .ok (.bipush 9, 2) := by decide +kernel
theorem d12_mill_9 : decode prog_14_method_10_code 9 = .ok (.invokestatic 176, 3) := by decide +kernel
theorem d12_mill_12 : decode prog_14_method_10_code 12 = .ok (.ifCond .eq 33, 3) := by decide +kernel
theorem d12_mill_15 : decode prog_14_method_10_code 15 = .ok (.iload_n 2, 1) := by decide +kernel
theorem d12_mill_16 : decode prog_14_method_10_code 16 = .ok (.iconst 1, 1) := by decide +kernel
theorem d12_mill_17 : decode prog_14_method_10_code 17 = .ok (.bipush 90, 2) := by decide +kernel
theorem d12_mill_19 : decode prog_14_method_10_code 19 = .ok (.invokestatic 176, 3) := by decide +kernel
theorem d12_mill_22 : decode prog_14_method_10_code 22 = .ok (.ifCond .eq 23, 3) := by decide +kernel
theorem d12_mill_25 : decode prog_14_method_10_code 25 = .ok (.iload_n 3, 1) := by decide +kernel
theorem d12_mill_26 : decode prog_14_method_10_code 26 = .ok (.iconst 1, 1) := by decide +kernel
theorem d12_mill_27 : decode prog_14_method_10_code 27 = .ok (.sipush 2000, 3) := by decide +kernel
theorem d12_mill_30 : decode prog_14_method_10_code 30 = .ok (.invokestatic 176, 3) := by decide +kernel
theorem d12_mill_33 : decode prog_14_method_10_code 33 = .ok (.ifCond .eq 12, 3) := by decide +kernel
theorem d12_mill_36 : decode prog_14_method_10_code 36 = .ok (.aload_n 0, 1) := by decide +kernel
theorem d12_mill_37 : decode prog_14_method_10_code 37 = .ok (.getfield 184, 3) := by decide +kernel
theorem d12_mill_40 : decode prog_14_method_10_code 40 = .ok (.bipush 6, 2) := by decide +kernel
theorem d12_mill_42 : decode prog_14_method_10_code 42 = .ok (.if_icmp .ne 5, 3) := by decide +kernel
theorem d12_mill_45 : decode prog_14_method_10_code 45 = .ok (.iconst (-1), 1) := by decide +kernel
theorem d12_mill_46 : decode prog_14_method_10_code 46 = .ok (.ireturn, 1) := by decide +kernel
theorem d12_mill_47 : decode prog_14_method_10_code 47 = .ok (.aload_n 0, 1) := by decide +kernel
theorem d12_mill_48 : decode prog_14_method_10_code 48 = .ok (.getfield 26, 3) := by decide +kernel
theorem d12_mill_51 : decode prog_14_method_10_code 51 = .ok (.aload_n 0, 1) := by decide +kernel
theorem d12_mill_52 : decode prog_14_method_10_code 52 = .ok (.getfield 184, 3) := by decide +kernel
theorem d12_mill_55 : decode prog_14_method_10_code 55 = .ok (.iload_n 1, 1) := by decide +kernel
theorem d12_mill_56 : decode prog_14_method_10_code 56 = .ok (.iastore, 1) := by decide +kernel
theorem d12_mill_57 : decode prog_14_method_10_code 57 = .ok (.aload_n 0, 1) := by decide +kernel
theorem d12_mill_58 : decode prog_14_method_10_code 58 = .ok (.getfield 29, 3) := by decide +kernel
theorem d12_mill_61 : decode prog_14_method_10_code 61 = .ok (.aload_n 0, 1) := by decide +kernel
theorem d12_mill_62 : decode prog_14_method_10_code 62 = .ok (.getfield 184, 3) := by decide +kernel
theorem d12_mill_65 : decode prog_14_method_10_code 65 = .ok (.iload_n 2, 1) := by decide +kernel
theorem d12_mill_66 : decode prog_14_method_10_code 66 = .ok (.iastore, 1) := by decide +kernel
theorem d12_mill_67 : decode prog_14_method_10_code 67 = .ok (.aload_n 0, 1) := by decide +kernel
theorem d12_mill_68 : decode prog_14_method_10_code 68 = .ok (.getfield 32, 3) := by decide +kernel
theorem d12_mill_71 : decode prog_14_method_10_code 71 = .ok (.aload_n 0, 1) := by decide +kernel
theorem d12_mill_72 : decode prog_14_method_10_code 72 = .ok (.getfield 184, 3) := by decide +kernel
theorem d12_mill_75 : decode prog_14_method_10_code 75 = .ok (.iload_n 3, 1) := by decide +kernel
theorem d12_mill_76 : decode prog_14_method_10_code 76 = .ok (.iastore, 1) := by decide +kernel
theorem d12_mill_77 : decode prog_14_method_10_code 77 = .ok (.aload_n 0, 1) := by decide +kernel
theorem d12_mill_78 : decode prog_14_method_10_code 78 = .ok (.getfield 35, 3) := by decide +kernel
theorem d12_mill_81 : decode prog_14_method_10_code 81 = .ok (.aload_n 0, 1) := by decide +kernel
theorem d12_mill_82 : decode prog_14_method_10_code 82 = .ok (.getfield 184, 3) := by decide +kernel
theorem d12_mill_85 : decode prog_14_method_10_code 85 = .ok (.iconst (-1), 1) := by decide +kernel
theorem d12_mill_86 : decode prog_14_method_10_code 86 = .ok (.iastore, 1) := by decide +kernel
theorem d12_mill_87 : decode prog_14_method_10_code 87 = .ok (.aload_n 0, 1) := by decide +kernel
theorem d12_mill_88 : decode prog_14_method_10_code 88 = .ok (.getfield 47, 3) := by decide +kernel
theorem d12_mill_91 : decode prog_14_method_10_code 91 = .ok (.aload_n 0, 1) := by decide +kernel
theorem d12_mill_92 : decode prog_14_method_10_code 92 = .ok (.getfield 184, 3) := by decide +kernel
theorem d12_mill_95 : decode prog_14_method_10_code 95 = .ok (.iconst (-1), 1) := by decide +kernel
theorem d12_mill_96 : decode prog_14_method_10_code 96 = .ok (.iastore, 1) := by decide +kernel
theorem d12_mill_97 : decode prog_14_method_10_code 97 = .ok (.aload_n 0, 1) := by decide +kernel
theorem d12_mill_98 : decode prog_14_method_10_code 98 = .ok (.dup, 1) := by decide +kernel
theorem d12_mill_99 : decode prog_14_method_10_code 99 = .ok (.getfield 184, 3) := by decide +kernel
theorem d12_mill_102 : decode prog_14_method_10_code 102 = .ok (.iconst 1, 1) := by decide +kernel
theorem d12_mill_103 : decode prog_14_method_10_code 103 = .ok (.iadd, 1) := by decide +kernel
theorem d12_mill_104 : decode prog_14_method_10_code 104 = .ok (.putfield 184, 3) := by decide +kernel
theorem d12_mill_107 : decode prog_14_method_10_code 107 = .ok (.aload_n 0, 1) := by decide +kernel
theorem d12_mill_108 : decode prog_14_method_10_code 108 = .ok (.getfield 184, 3) := by decide +kernel
theorem d12_mill_111 : decode prog_14_method_10_code 111 = .ok (.iconst 1, 1) := by decide +kernel
theorem d12_mill_112 : decode prog_14_method_10_code 112 = .ok (.isub, 1) := by decide +kernel
theorem d12_mill_113 : decode prog_14_method_10_code 113 = .ok (.ireturn, 1) := by decide +kernel
theorem d12_isMill_0 : decode prog_14_method_11_code 0 = .ok (.iload_n 1, 1) := by decide +kernel
theorem d12_isMill_1 : decode prog_14_method_11_code 1 = .ok (.ifCond .lt 15, 3) := by decide +kernel
theorem d12_isMill_4 : decode prog_14_method_11_code 4 = .ok (.iload_n 1, 1) := by decide +kernel
theorem d12_isMill_5 : decode prog_14_method_11_code 5 = .ok (.aload_n 0, 1) := by decide +kernel
theorem d12_isMill_6 : decode prog_14_method_11_code 6 = .ok (.getfield 184, 3) := by decide +kernel
theorem d12_isMill_9 : decode prog_14_method_11_code 9 = .ok (.if_icmp .ge 7, 3) := by decide +kernel
theorem d12_isMill_12 : decode prog_14_method_11_code 12 = .ok (.iconst 1, 1) := by decide +kernel
theorem d12_isMill_13 : decode prog_14_method_11_code 13 = .ok (.goto 4, 3) := by decide +kernel
theorem d12_isMill_16 : decode prog_14_method_11_code 16 = .ok (.iconst 0, 1) := by decide +kernel
theorem d12_isMill_17 : decode prog_14_method_11_code 17 = .ok (.ireturn, 1) := by decide +kernel
theorem d12_millAt_0 : decode prog_14_method_12_code 0 = .ok (.iconst 0, 1) := by decide +kernel
theorem d12_millAt_1 : decode prog_14_method_12_code 1 = .ok (.istore_n 2, 1) := by decide +kernel
theorem d12_millAt_2 : decode prog_14_method_12_code 2 = .ok (.iload_n 2, 1) := by decide +kernel
theorem d12_millAt_3 : decode prog_14_method_12_code 3 = .ok (.aload_n 0, 1) := by decide +kernel
theorem d12_millAt_4 : decode prog_14_method_12_code 4 = .ok (.getfield 184, 3) := by decide +kernel
theorem d12_millAt_7 : decode prog_14_method_12_code 7 = .ok (.if_icmp .ge 21, 3) := by decide +kernel
theorem d12_millAt_10 : decode prog_14_method_12_code 10 = .ok (.aload_n 0, 1) := by decide +kernel
theorem d12_millAt_11 : decode prog_14_method_12_code 11 = .ok (.getfield 35, 3) := by decide +kernel
theorem d12_millAt_14 : decode prog_14_method_12_code 14 = .ok (.iload_n 2, 1) := by decide +kernel
theorem d12_millAt_15 : decode prog_14_method_12_code 15 = .ok (.iaload, 1) := by decide +kernel
theorem d12_millAt_16 : decode prog_14_method_12_code 16 = .ok (.iload_n 1, 1) := by decide +kernel
theorem d12_millAt_17 : decode prog_14_method_12_code 17 = .ok (.if_icmp .ne 5, 3) := by decide +kernel
theorem d12_millAt_20 : decode prog_14_method_12_code 20 = .ok (.iload_n 2, 1) := by decide +kernel
theorem d12_millAt_21 : decode prog_14_method_12_code 21 = .ok (.ireturn, 1) := by decide +kernel
theorem d12_millAt_22 : decode prog_14_method_12_code 22 = .ok (.iinc 2 1, 3) := by decide +kernel
theorem d12_millAt_25 : decode prog_14_method_12_code 25 = .ok (.goto (-23), 3) := by decide +kernel
theorem d12_millAt_28 : decode prog_14_method_12_code 28 = .ok (.iconst (-1), 1) := by decide +kernel
theorem d12_millAt_29 : decode prog_14_method_12_code 29 = .ok (.ireturn, 1) := by decide +kernel
theorem d12_moor_0 : decode prog_14_method_13_code 0 = .ok (.aload_n 0, 1) := by decide +kernel
theorem d12_moor_1 : decode prog_14_method_13_code 1 = .ok (.iconst 0, 1) := by decide +kernel
theorem d12_moor_2 : decode prog_14_method_13_code 2 = .ok (.putfield 1, 3) := by decide +kernel
theorem d12_moor_5 : decode prog_14_method_13_code 5 = .ok (.aload_n 0, 1) := by decide +kernel
theorem d12_moor_6 : decode prog_14_method_13_code 6 = .ok (.iload_n 1, 1) := by decide +kernel
theorem d12_moor_7 : decode prog_14_method_13_code 7 = .ok (.invokevirtual 187, 3) := by decide +kernel
theorem d12_moor_10 : decode prog_14_method_13_code 10 = .ok (.ifCond .eq 15, 3) := by decide +kernel
theorem d12_moor_13 : decode prog_14_method_13_code 13 = .ok (.iload_n 2, 1) := by decide +kernel
theorem d12_moor_14 : decode prog_14_method_13_code 14 = .ok (.iconst (-1), 1) := by decide +kernel
theorem d12_moor_15 : decode prog_14_method_13_code 15 = .ok (.if_icmp .eq 12, 3) := by decide +kernel
theorem d12_moor_18 : decode prog_14_method_13_code 18 = .ok (.iload_n 2, 1) := by decide +kernel
theorem d12_moor_19 : decode prog_14_method_13_code 19 = .ok (.invokestatic 172, 3) := by decide +kernel
theorem d12_moor_22 : decode prog_14_method_13_code 22 = .ok (.ifCond .ne 5, 3) := by decide +kernel
theorem d12_moor_25 : decode prog_14_method_13_code 25 = .ok (.iconst (-1), 1) := by decide +kernel
theorem d12_moor_26 : decode prog_14_method_13_code 26 = .ok (.ireturn, 1) := by decide +kernel
theorem d12_moor_27 : decode prog_14_method_13_code 27 = .ok (.aload_n 0, 1) := by decide +kernel
theorem d12_moor_28 : decode prog_14_method_13_code 28 = .ok (.getfield 35, 3) := by decide +kernel
theorem d12_moor_31 : decode prog_14_method_13_code 31 = .ok (.iload_n 1, 1) := by decide +kernel
theorem d12_moor_32 : decode prog_14_method_13_code 32 = .ok (.iaload, 1) := by decide +kernel
theorem d12_moor_33 : decode prog_14_method_13_code 33 = .ok (.bipush (-2), 2) := by decide +kernel
theorem d12_moor_35 : decode prog_14_method_13_code 35 = .ok (.if_icmp .ne 6, 3) := by decide +kernel
theorem d12_moor_38 : decode prog_14_method_13_code 38 = .ok (.bipush (-2), 2) := by decide +kernel
theorem d12_moor_40 : decode prog_14_method_13_code 40 = .ok (.ireturn, 1) := by decide +kernel
theorem d12_moor_41 : decode prog_14_method_13_code 41 = .ok (.iload_n 2, 1) := by decide +kernel
theorem d12_moor_42 : decode prog_14_method_13_code 42 = .ok (.iconst (-1), 1) := by decide +kernel
theorem d12_moor_43 : decode prog_14_method_13_code 43 = .ok (.if_icmp .ne 7, 3) := by decide +kernel
theorem d12_moor_46 : decode prog_14_method_13_code 46 = .ok (.iconst (-1), 1) := by decide +kernel
theorem d12_moor_47 : decode prog_14_method_13_code 47 = .ok (.goto 8, 3) := by decide +kernel
theorem d12_moor_50 : decode prog_14_method_13_code 50 = .ok (.aload_n 0, 1) := by decide +kernel
theorem d12_moor_51 : decode prog_14_method_13_code 51 = .ok (.iload_n 2, 1) := by decide +kernel
theorem d12_moor_52 : decode prog_14_method_13_code 52 = .ok (.invokevirtual 190, 3) := by decide +kernel
theorem d12_moor_55 : decode prog_14_method_13_code 55 = .ok (.istore_n 3, 1) := by decide +kernel
theorem d12_moor_56 : decode prog_14_method_13_code 56 = .ok (.iload_n 3, 1) := by decide +kernel
theorem d12_moor_57 : decode prog_14_method_13_code 57 = .ok (.iconst (-1), 1) := by decide +kernel
theorem d12_moor_58 : decode prog_14_method_13_code 58 = .ok (.if_icmp .eq 11, 3) := by decide +kernel
theorem d12_moor_61 : decode prog_14_method_13_code 61 = .ok (.iload_n 3, 1) := by decide +kernel
theorem d12_moor_62 : decode prog_14_method_13_code 62 = .ok (.iload_n 1, 1) := by decide +kernel
theorem d12_moor_63 : decode prog_14_method_13_code 63 = .ok (.if_icmp .eq 6, 3) := by decide +kernel
theorem d12_moor_66 : decode prog_14_method_13_code 66 = .ok (.bipush (-3), 2) := by decide +kernel
theorem d12_moor_68 : decode prog_14_method_13_code 68 = .ok (.ireturn, 1) := by decide +kernel
theorem d12_moor_69 : decode prog_14_method_13_code 69 = .ok (.aload_n 0, 1) := by decide +kernel
theorem d12_moor_70 : decode prog_14_method_13_code 70 = .ok (.getfield 35, 3) := by decide +kernel
theorem d12_moor_73 : decode prog_14_method_13_code 73 = .ok (.iload_n 1, 1) := by decide +kernel
theorem d12_moor_74 : decode prog_14_method_13_code 74 = .ok (.iload_n 2, 1) := by decide +kernel
theorem d12_moor_75 : decode prog_14_method_13_code 75 = .ok (.iastore, 1) := by decide +kernel
theorem d12_moor_76 : decode prog_14_method_13_code 76 = .ok (.iconst 0, 1) := by decide +kernel
theorem d12_moor_77 : decode prog_14_method_13_code 77 = .ok (.ireturn, 1) := by decide +kernel
theorem d12_dress_0 : decode prog_14_method_14_code 0 = .ok (.aload_n 0, 1) := by decide +kernel
theorem d12_dress_1 : decode prog_14_method_14_code 1 = .ok (.iconst 0, 1) := by decide +kernel
theorem d12_dress_2 : decode prog_14_method_14_code 2 = .ok (.putfield 1, 3) := by decide +kernel
theorem d12_dress_5 : decode prog_14_method_14_code 5 = .ok (.aload_n 0, 1) := by decide +kernel
theorem d12_dress_6 : decode prog_14_method_14_code 6 = .ok (.iload_n 1, 1) := by decide +kernel
theorem d12_dress_7 : decode prog_14_method_14_code 7 = .ok (.invokevirtual 187, 3) := by decide +kernel
theorem d12_dress_10 : decode prog_14_method_14_code 10 = .ok (.ifCond .eq 27, 3) := by decide +kernel
theorem d12_dress_13 : decode prog_14_method_14_code 13 = .ok (.aload_n 0, 1) := by decide +kernel
theorem d12_dress_14 : decode prog_14_method_14_code 14 = .ok (.getfield 35, 3) := by decide +kernel
theorem d12_dress_17 : decode prog_14_method_14_code 17 = .ok (.iload_n 1, 1) := by decide +kernel
theorem d12_dress_18 : decode prog_14_method_14_code 18 = .ok (.iaload, 1) := by decide +kernel
theorem d12_dress_19 : decode prog_14_method_14_code 19 = .ok (.bipush (-2), 2) := by decide +kernel
theorem d12_dress_21 : decode prog_14_method_14_code 21 = .ok (.if_icmp .eq 16, 3) := by decide +kernel
theorem d12_dress_24 : decode prog_14_method_14_code 24 = .ok (.aload_n 0, 1) := by decide +kernel
theorem d12_dress_25 : decode prog_14_method_14_code 25 = .ok (.getfield 47, 3) := by decide +kernel
theorem d12_dress_28 : decode prog_14_method_14_code 28 = .ok (.iload_n 1, 1) := by decide +kernel
theorem d12_dress_29 : decode prog_14_method_14_code 29 = .ok (.iaload, 1) := by decide +kernel
theorem d12_dress_30 : decode prog_14_method_14_code 30 = .ok (.aload_n 0, 1) := by decide +kernel
theorem d12_dress_31 : decode prog_14_method_14_code 31 = .ok (.getfield 194, 3) := by decide +kernel
theorem d12_dress_34 : decode prog_14_method_14_code 34 = .ok (.if_icmp .ne 5, 3) := by decide +kernel
theorem d12_dress_37 : decode prog_14_method_14_code 37 = .ok (.iconst 0, 1) := by decide +kernel
theorem d12_dress_38 : decode prog_14_method_14_code 38 = .ok (.ireturn, 1) := by decide +kernel
theorem d12_dress_39 : decode prog_14_method_14_code 39 = .ok (.aload_n 0, 1) := by decide +kernel
theorem d12_dress_40 : decode prog_14_method_14_code 40 = .ok (.getfield 47, 3) := by decide +kernel
theorem d12_dress_43 : decode prog_14_method_14_code 43 = .ok (.iload_n 1, 1) := by decide +kernel
theorem d12_dress_44 : decode prog_14_method_14_code 44 = .ok (.aload_n 0, 1) := by decide +kernel
theorem d12_dress_45 : decode prog_14_method_14_code 45 = .ok (.getfield 194, 3) := by decide +kernel
theorem d12_dress_48 : decode prog_14_method_14_code 48 = .ok (.iastore, 1) := by decide +kernel
theorem d12_dress_49 : decode prog_14_method_14_code 49 = .ok (.aload_n 0, 1) := by decide +kernel
theorem d12_dress_50 : decode prog_14_method_14_code 50 = .ok (.getfield 38, 3) := by decide +kernel
theorem d12_dress_53 : decode prog_14_method_14_code 53 = .ok (.iload_n 1, 1) := by decide +kernel
theorem d12_dress_54 : decode prog_14_method_14_code 54 = .ok (.iconst 0, 1) := by decide +kernel
theorem d12_dress_55 : decode prog_14_method_14_code 55 = .ok (.iastore, 1) := by decide +kernel
theorem d12_dress_56 : decode prog_14_method_14_code 56 = .ok (.iconst 1, 1) := by decide +kernel
theorem d12_dress_57 : decode prog_14_method_14_code 57 = .ok (.ireturn, 1) := by decide +kernel
theorem d12_worn_0 : decode prog_14_method_15_code 0 = .ok (.aload_n 0, 1) := by decide +kernel
theorem d12_worn_1 : decode prog_14_method_15_code 1 = .ok (.getfield 38, 3) := by decide +kernel
theorem d12_worn_4 : decode prog_14_method_15_code 4 = .ok (.iload_n 1, 1) := by decide +kernel
theorem d12_worn_5 : decode prog_14_method_15_code 5 = .ok (.iaload, 1) := by decide +kernel
theorem d12_worn_6 : decode prog_14_method_15_code 6 = .ok (.iconst 5, 1) := by decide +kernel
theorem d12_worn_7 : decode prog_14_method_15_code 7 = .ok (.idiv, 1) := by decide +kernel
theorem d12_worn_8 : decode prog_14_method_15_code 8 = .ok (.bipush 100, 2) := by decide +kernel
theorem d12_worn_10 : decode prog_14_method_15_code 10 = .ok (.if_icmp .le 8, 3) := by decide +kernel
theorem d12_worn_13 : decode prog_14_method_15_code 13 = .ok (.bipush 100, 2) := by decide +kernel
theorem d12_worn_15 : decode prog_14_method_15_code 15 = .ok (.goto 11, 3) := by decide +kernel
theorem d12_worn_18 : decode prog_14_method_15_code 18 = .ok (.aload_n 0, 1) := by decide +kernel
theorem d12_worn_19 : decode prog_14_method_15_code 19 = .ok (.getfield 38, 3) := by decide +kernel
theorem d12_worn_22 : decode prog_14_method_15_code 22 = .ok (.iload_n 1, 1) := by decide +kernel
theorem d12_worn_23 : decode prog_14_method_15_code 23 = .ok (.iaload, 1) := by decide +kernel
theorem d12_worn_24 : decode prog_14_method_15_code 24 = .ok (.iconst 5, 1) := by decide +kernel
theorem d12_worn_25 : decode prog_14_method_15_code 25 = .ok (.idiv, 1) := by decide +kernel
theorem d12_worn_26 : decode prog_14_method_15_code 26 = .ok (.ireturn, 1) := by decide +kernel
theorem d12_flowOf_0 : decode prog_14_method_16_code 0 = .ok (.aload_n 0, 1) := by decide +kernel
theorem d12_flowOf_1 : decode prog_14_method_16_code 1 = .ok (.getfield 35, 3) := by decide +kernel
theorem d12_flowOf_4 : decode prog_14_method_16_code 4 = .ok (.iload_n 1, 1) := by decide +kernel
theorem d12_flowOf_5 : decode prog_14_method_16_code 5 = .ok (.iaload, 1) := by decide +kernel
theorem d12_flowOf_6 : decode prog_14_method_16_code 6 = .ok (.bipush 12, 2) := by decide +kernel
theorem d12_flowOf_8 : decode prog_14_method_16_code 8 = .ok (.idiv, 1) := by decide +kernel
theorem d12_flowOf_9 : decode prog_14_method_16_code 9 = .ok (.istore_n 3, 1) := by decide +kernel
theorem d12_flowOf_10 : decode prog_14_method_16_code 10 = .ok (.aload_n 0, 1) := by decide +kernel
theorem d12_flowOf_11 : decode prog_14_method_16_code 11 = .ok (.iload_n 3, 1) := by decide +kernel
theorem d12_flowOf_12 : decode prog_14_method_16_code 12 = .ok (.iload_n 2, 1) := by decide +kernel
theorem d12_flowOf_13 : decode prog_14_method_16_code 13 = .ok (.invokevirtual 180, 3) := by decide +kernel
theorem d12_flowOf_16 : decode prog_14_method_16_code 16 = .ok (.istore 4, 2) := by decide +kernel
theorem d12_flowOf_18 : decode prog_14_method_16_code 18 = .ok (.iload 4, 2) := by decide +kernel
theorem d12_flowOf_20 : decode prog_14_method_16_code 20 = .ok (.istore 5, 2) := by decide +kernel
theorem d12_flowOf_22 : decode prog_14_method_16_code 22 = .ok (.iconst 1, 1) := by decide +kernel
theorem d12_flowOf_23 : decode prog_14_method_16_code 23 = .ok (.istore 6, 2) := by decide +kernel
theorem d12_flowOf_25 : decode prog_14_method_16_code 25 = .ok (.iload 6, 2) := by decide +kernel
theorem d12_flowOf_27 : decode prog_14_method_16_code 27 = .ok (.iconst 3, 1) := by decide +kernel
theorem d12_flowOf_28 : decode prog_14_method_16_code 28 = .ok (.if_icmp .gt 68, 3) := by decide +kernel
theorem d12_flowOf_31 : decode prog_14_method_16_code 31 = .ok (.iload 6, 2) := by decide +kernel
theorem d12_flowOf_33 : decode prog_14_method_16_code 33 = .ok (.aload_n 0, 1) := by decide +kernel
theorem d12_flowOf_34 : decode prog_14_method_16_code 34 = .ok (.getfield 35, 3) := by decide +kernel
theorem d12_flowOf_37 : decode prog_14_method_16_code 37 = .ok (.iload_n 1, 1) := by decide +kernel
theorem d12_flowOf_38 : decode prog_14_method_16_code 38 = .ok (.iaload, 1) := by decide +kernel
theorem d12_flowOf_39 : decode prog_14_method_16_code 39 = .ok (.bipush 12, 2) := by decide +kernel
theorem d12_flowOf_41 : decode prog_14_method_16_code 41 = .ok (.irem, 1) := by decide +kernel
theorem d12_flowOf_42 : decode prog_14_method_16_code 42 = .ok (.if_icmp .gt 54, 3) := by decide +kernel
theorem d12_flowOf_45 : decode prog_14_method_16_code 45 = .ok (.aload_n 0, 1) := by decide +kernel
theorem d12_flowOf_46 : decode prog_14_method_16_code 46 = .ok (.aload_n 0, 1) := by decide +kernel
theorem d12_flowOf_47 : decode prog_14_method_16_code 47 = .ok (.getfield 35, 3) := by decide +kernel
theorem d12_flowOf_50 : decode prog_14_method_16_code 50 = .ok (.iload_n 1, 1) := by decide +kernel
theorem d12_flowOf_51 : decode prog_14_method_16_code 51 = .ok (.iaload, 1) := by decide +kernel
theorem d12_flowOf_52 : decode prog_14_method_16_code 52 = .ok (.iload 6, 2) := by decide +kernel
theorem d12_flowOf_54 : decode prog_14_method_16_code 54 = .ok (.isub, 1) := by decide +kernel
theorem d12_flowOf_55 : decode prog_14_method_16_code 55 = .ok (.invokevirtual 190, 3) := by decide +kernel
theorem d12_flowOf_58 : decode prog_14_method_16_code 58 = .ok (.istore 7, 2) := by decide +kernel
theorem d12_flowOf_60 : decode prog_14_method_16_code 60 = .ok (.iload 7, 2) := by decide +kernel
theorem d12_flowOf_62 : decode prog_14_method_16_code 62 = .ok (.iconst (-1), 1) := by decide +kernel
theorem d12_flowOf_63 : decode prog_14_method_16_code 63 = .ok (.if_icmp .eq 27, 3) := by decide +kernel
theorem d12_flowOf_66 : decode prog_14_method_16_code 66 = .ok (.iload 5, 2) := by decide +kernel
theorem d12_flowOf_68 : decode prog_14_method_16_code 68 = .ok (.iload 4, 2) := by decide +kernel
theorem d12_flowOf_70 : decode prog_14_method_16_code 70 = .ok (.aload_n 0, 1) := by decide +kernel
theorem d12_flowOf_71 : decode prog_14_method_16_code 71 = .ok (.getfield 29, 3) := by decide +kernel
theorem d12_flowOf_74 : decode prog_14_method_16_code 74 = .ok (.iload 7, 2) := by decide +kernel
theorem d12_flowOf_76 : decode prog_14_method_16_code 76 = .ok (.iaload, 1) := by decide +kernel
theorem d12_flowOf_77 : decode prog_14_method_16_code 77 = .ok (.imul, 1) := by decide +kernel
theorem d12_flowOf_78 : decode prog_14_method_16_code 78 = .ok (.iconst 4, 1) := by decide +kernel
theorem d12_flowOf_79 : decode prog_14_method_16_code 79 = .ok (.iload 6, 2) := by decide +kernel
theorem d12_flowOf_81 : decode prog_14_method_16_code 81 = .ok (.isub, 1) := by decide +kernel
theorem d12_flowOf_82 : decode prog_14_method_16_code 82 = .ok (.imul, 1) := by decide +kernel
theorem d12_flowOf_83 : decode prog_14_method_16_code 83 = .ok (.sipush 400, 3) := by decide +kernel
theorem d12_flowOf_86 : decode prog_14_method_16_code 86 = .ok (.idiv, 1) := by decide +kernel
theorem d12_flowOf_87 : decode prog_14_method_16_code 87 = .ok (.isub, 1) := by decide +kernel
theorem d12_flowOf_88 : decode prog_14_method_16_code 88 = .ok (.istore 5, 2) := by decide +kernel
theorem d12_flowOf_90 : decode prog_14_method_16_code 90 = .ok (.iinc 6 1, 3) := by decide +kernel
theorem d12_flowOf_93 : decode prog_14_method_16_code 93 = .ok (.goto (-68), 3) := by decide +kernel
theorem d12_flowOf_96 : decode prog_14_method_16_code 96 = .ok (.iload 5, 2) := by decide +kernel
theorem d12_flowOf_98 : decode prog_14_method_16_code 98 = .ok (.ifCond .le 8, 3) := by decide +kernel
theorem d12_flowOf_101 : decode prog_14_method_16_code 101 = .ok (.iload 5, 2) := by decide +kernel
theorem d12_flowOf_103 : decode prog_14_method_16_code 103 = .ok (.goto 4, 3) := by decide +kernel
theorem d12_flowOf_106 : decode prog_14_method_16_code 106 = .ok (.iconst 0, 1) := by decide +kernel
theorem d12_flowOf_107 : decode prog_14_method_16_code 107 = .ok (.ireturn, 1) := by decide +kernel
theorem d12_floats_0 : decode prog_14_method_17_code 0 = .ok (.aload_n 0, 1) := by decide +kernel
theorem d12_floats_1 : decode prog_14_method_17_code 1 = .ok (.aload_n 0, 1) := by decide +kernel
theorem d12_floats_2 : decode prog_14_method_17_code 2 = .ok (.getfield 35, 3) := by decide +kernel
theorem d12_floats_5 : decode prog_14_method_17_code 5 = .ok (.iload_n 1, 1) := by decide +kernel
theorem d12_floats_6 : decode prog_14_method_17_code 6 = .ok (.iaload, 1) := by decide +kernel
theorem d12_floats_7 : decode prog_14_method_17_code 7 = .ok (.iload_n 2, 1) := by decide +kernel
theorem d12_floats_8 : decode prog_14_method_17_code 8 = .ok (.invokevirtual 197, 3) := by decide +kernel
theorem d12_floats_11 : decode prog_14_method_17_code 11 = .ok (.aload_n 0, 1) := by decide +kernel
theorem d12_floats_12 : decode prog_14_method_17_code 12 = .ok (.getfield 26, 3) := by decide +kernel
theorem d12_floats_15 : decode prog_14_method_17_code 15 = .ok (.iload_n 1, 1) := by decide +kernel
theorem d12_floats_16 : decode prog_14_method_17_code 16 = .ok (.iaload, 1) := by decide +kernel
theorem d12_floats_17 : decode prog_14_method_17_code 17 = .ok (.if_icmp .lt 7, 3) := by decide +kernel
theorem d12_floats_20 : decode prog_14_method_17_code 20 = .ok (.iconst 1, 1) := by decide +kernel
theorem d12_floats_21 : decode prog_14_method_17_code 21 = .ok (.goto 4, 3) := by decide +kernel
theorem d12_floats_24 : decode prog_14_method_17_code 24 = .ok (.iconst 0, 1) := by decide +kernel
theorem d12_floats_25 : decode prog_14_method_17_code 25 = .ok (.ireturn, 1) := by decide +kernel
theorem d12_powerOf_0 : decode prog_14_method_18_code 0 = .ok (.aload_n 0, 1) := by decide +kernel
theorem d12_powerOf_1 : decode prog_14_method_18_code 1 = .ok (.iload_n 1, 1) := by decide +kernel
theorem d12_powerOf_2 : decode prog_14_method_18_code 2 = .ok (.iload_n 2, 1) := by decide +kernel
theorem d12_powerOf_3 : decode prog_14_method_18_code 3 = .ok (.invokevirtual 200, 3) := by decide +kernel
theorem d12_powerOf_6 : decode prog_14_method_18_code 6 = .ok (.ifCond .eq 30, 3) := by decide +kernel
theorem d12_powerOf_9 : decode prog_14_method_18_code 9 = .ok (.aload_n 0, 1) := by decide +kernel
theorem d12_powerOf_10 : decode prog_14_method_18_code 10 = .ok (.bipush 6, 2) := by decide +kernel
theorem d12_powerOf_12 : decode prog_14_method_18_code 12 = .ok (.aload_n 0, 1) := by decide +kernel
theorem d12_powerOf_13 : decode prog_14_method_18_code 13 = .ok (.iload_n 1, 1) := by decide +kernel
theorem d12_powerOf_14 : decode prog_14_method_18_code 14 = .ok (.iload_n 2, 1) := by decide +kernel
theorem d12_powerOf_15 : decode prog_14_method_18_code 15 = .ok (.invokevirtual 204, 3) := by decide +kernel
theorem d12_powerOf_18 : decode prog_14_method_18_code 18 = .ok (.invokevirtual 180, 3) := by decide +kernel
theorem d12_powerOf_21 : decode prog_14_method_18_code 21 = .ok (.bipush 100, 2) := by decide +kernel
theorem d12_powerOf_23 : decode prog_14_method_18_code 23 = .ok (.aload_n 0, 1) := by decide +kernel
theorem d12_powerOf_24 : decode prog_14_method_18_code 24 = .ok (.iload_n 1, 1) := by decide +kernel
theorem d12_powerOf_25 : decode prog_14_method_18_code 25 = .ok (.invokevirtual 207, 3) := by decide +kernel
theorem d12_powerOf_28 : decode prog_14_method_18_code 28 = .ok (.isub, 1) := by decide +kernel
theorem d12_powerOf_29 : decode prog_14_method_18_code 29 = .ok (.imul, 1) := by decide +kernel
theorem d12_powerOf_30 : decode prog_14_method_18_code 30 = .ok (.bipush 100, 2) := by decide +kernel
theorem d12_powerOf_32 : decode prog_14_method_18_code 32 = .ok (.idiv, 1) := by decide +kernel
theorem d12_powerOf_33 : decode prog_14_method_18_code 33 = .ok (.goto 4, 3) := by decide +kernel
theorem d12_powerOf_36 : decode prog_14_method_18_code 36 = .ok (.iconst 0, 1) := by decide +kernel
theorem d12_powerOf_37 : decode prog_14_method_18_code 37 = .ok (.ireturn, 1) := by decide +kernel
theorem d12_pullOf_0 : decode prog_14_method_19_code 0 = .ok (.aload_n 0, 1) := by decide +kernel
theorem d12_pullOf_1 : decode prog_14_method_19_code 1 = .ok (.iload_n 1, 1) := by decide +kernel
theorem d12_pullOf_2 : decode prog_14_method_19_code 2 = .ok (.iload_n 2, 1) := by decide +kernel
theorem d12_pullOf_3 : decode prog_14_method_19_code 3 = .ok (.invokevirtual 200, 3) := by decide +kernel
theorem d12_pullOf_6 : decode prog_14_method_19_code 6 = .ok (.ifCond .ne 5, 3) := by decide +kernel
theorem d12_pullOf_9 : decode prog_14_method_19_code 9 = .ok (.iconst 0, 1) := by decide +kernel
theorem d12_pullOf_10 : decode prog_14_method_19_code 10 = .ok (.ireturn, 1) := by decide +kernel
theorem d12_pullOf_11 : decode prog_14_method_19_code 11 = .ok (.aload_n 0, 1) := by decide +kernel
theorem d12_pullOf_12 : decode prog_14_method_19_code 12 = .ok (.iload_n 1, 1) := by decide +kernel
theorem d12_pullOf_13 : decode prog_14_method_19_code 13 = .ok (.iload_n 2, 1) := by decide +kernel
theorem d12_pullOf_14 : decode prog_14_method_19_code 14 = .ok (.invokevirtual 204, 3) := by decide +kernel
theorem d12_pullOf_17 : decode prog_14_method_19_code 17 = .ok (.bipush 20, 2) := by decide +kernel
theorem d12_pullOf_19 : decode prog_14_method_19_code 19 = .ok (.aload_n 0, 1) := by decide +kernel
theorem d12_pullOf_20 : decode prog_14_method_19_code 20 = .ok (.getfield 29, 3) := by decide +kernel
theorem d12_pullOf_23 : decode prog_14_method_19_code 23 = .ok (.iload_n 1, 1) := by decide +kernel
theorem d12_pullOf_24 : decode prog_14_method_19_code 24 = .ok (.iaload, 1) := by decide +kernel
theorem d12_pullOf_25 : decode prog_14_method_19_code 25 = .ok (.iadd, 1) := by decide +kernel
theorem d12_pullOf_26 : decode prog_14_method_19_code 26 = .ok (.imul, 1) := by decide +kernel
theorem d12_pullOf_27 : decode prog_14_method_19_code 27 = .ok (.bipush 20, 2) := by decide +kernel
theorem d12_pullOf_29 : decode prog_14_method_19_code 29 = .ok (.idiv, 1) := by decide +kernel
theorem d12_pullOf_30 : decode prog_14_method_19_code 30 = .ok (.istore 4, 2) := by decide +kernel
theorem d12_pullOf_32 : decode prog_14_method_19_code 32 = .ok (.iload_n 3, 1) := by decide +kernel
theorem d12_pullOf_33 : decode prog_14_method_19_code 33 = .ok (.ifCond .eq 10, 3) := by decide +kernel
theorem d12_pullOf_36 : decode prog_14_method_19_code 36 = .ok (.iconst 2, 1) := by decide +kernel
theorem d12_pullOf_37 : decode prog_14_method_19_code 37 = .ok (.iload 4, 2) := by decide +kernel
theorem d12_pullOf_39 : decode prog_14_method_19_code 39 = .ok (.imul, 1) := by decide +kernel
theorem d12_pullOf_40 : decode prog_14_method_19_code 40 = .ok (.goto 5, 3) := by decide +kernel
theorem d12_pullOf_43 : decode prog_14_method_19_code 43 = .ok (.iload 4, 2) := by decide +kernel
theorem d12_pullOf_45 : decode prog_14_method_19_code 45 = .ok (.ireturn, 1) := by decide +kernel
theorem d12_isAsked_0 : decode prog_14_method_20_code 0 = .ok (.aload_n 0, 1) := by decide +kernel
theorem d12_isAsked_1 : decode prog_14_method_20_code 1 = .ok (.iload_n 1, 1) := by decide +kernel
theorem d12_isAsked_2 : decode prog_14_method_20_code 2 = .ok (.invokevirtual 187, 3) := by decide +kernel
theorem d12_isAsked_5 : decode prog_14_method_20_code 5 = .ok (.ifCond .eq 26, 3) := by decide +kernel
theorem d12_isAsked_8 : decode prog_14_method_20_code 8 = .ok (.aload_n 0, 1) := by decide +kernel
theorem d12_isAsked_9 : decode prog_14_method_20_code 9 = .ok (.getfield 35, 3) := by decide +kernel
theorem d12_isAsked_12 : decode prog_14_method_20_code 12 = .ok (.iload_n 1, 1) := by decide +kernel
theorem d12_isAsked_13 : decode prog_14_method_20_code 13 = .ok (.iaload, 1) := by decide +kernel
theorem d12_isAsked_14 : decode prog_14_method_20_code 14 = .ok (.ifCond .lt 17, 3) := by decide +kernel
theorem d12_isAsked_17 : decode prog_14_method_20_code 17 = .ok (.iload_n 2, 1) := by decide +kernel
theorem d12_isAsked_18 : decode prog_14_method_20_code 18 = .ok (.iconst 0, 1) := by decide +kernel
theorem d12_isAsked_19 : decode prog_14_method_20_code 19 = .ok (.bipush 20, 2) := by decide +kernel
theorem d12_isAsked_21 : decode prog_14_method_20_code 21 = .ok (.invokestatic 176, 3) := by decide +kernel
theorem d12_isAsked_24 : decode prog_14_method_20_code 24 = .ok (.ifCond .eq 7, 3) := by decide +kernel
theorem d12_isAsked_27 : decode prog_14_method_20_code 27 = .ok (.iconst 1, 1) := by decide +kernel
theorem d12_isAsked_28 : decode prog_14_method_20_code 28 = .ok (.goto 4, 3) := by decide +kernel
theorem d12_isAsked_31 : decode prog_14_method_20_code 31 = .ok (.iconst 0, 1) := by decide +kernel
theorem d12_isAsked_32 : decode prog_14_method_20_code 32 = .ok (.ireturn, 1) := by decide +kernel
theorem d12_flow_0 : decode prog_14_method_21_code 0 = .ok (.aload_n 0, 1) := by decide +kernel
theorem d12_flow_1 : decode prog_14_method_21_code 1 = .ok (.iconst 0, 1) := by decide +kernel
theorem d12_flow_2 : decode prog_14_method_21_code 2 = .ok (.putfield 1, 3) := by decide +kernel
theorem d12_flow_5 : decode prog_14_method_21_code 5 = .ok (.aload_n 0, 1) := by decide +kernel
theorem d12_flow_6 : decode prog_14_method_21_code 6 = .ok (.iload_n 1, 1) := by decide +kernel
theorem d12_flow_7 : decode prog_14_method_21_code 7 = .ok (.iload_n 2, 1) := by decide +kernel
theorem d12_flow_8 : decode prog_14_method_21_code 8 = .ok (.invokevirtual 210, 3) := by decide +kernel
theorem d12_flow_11 : decode prog_14_method_21_code 11 = .ok (.ifCond .eq 12, 3) := by decide +kernel
theorem d12_flow_14 : decode prog_14_method_21_code 14 = .ok (.aload_n 0, 1) := by decide +kernel
theorem d12_flow_15 : decode prog_14_method_21_code 15 = .ok (.iload_n 1, 1) := by decide +kernel
theorem d12_flow_16 : decode prog_14_method_21_code 16 = .ok (.iload_n 2, 1) := by decide +kernel
theorem d12_flow_17 : decode prog_14_method_21_code 17 = .ok (.invokevirtual 204, 3) := by decide +kernel
theorem d12_flow_20 : decode prog_14_method_21_code 20 = .ok (.goto 4, 3) := by decide +kernel
theorem d12_flow_23 : decode prog_14_method_21_code 23 = .ok (.iconst (-1), 1) := by decide +kernel
theorem d12_flow_24 : decode prog_14_method_21_code 24 = .ok (.ireturn, 1) := by decide +kernel
theorem d12_power_0 : decode prog_14_method_22_code 0 = .ok (.aload_n 0, 1) := by decide +kernel
theorem d12_power_1 : decode prog_14_method_22_code 1 = .ok (.iconst 0, 1) := by decide +kernel
theorem d12_power_2 : decode prog_14_method_22_code 2 = .ok (.putfield 1, 3) := by decide +kernel
theorem d12_power_5 : decode prog_14_method_22_code 5 = .ok (.aload_n 0, 1) := by decide +kernel
theorem d12_power_6 : decode prog_14_method_22_code 6 = .ok (.iload_n 1, 1) := by decide +kernel
theorem d12_power_7 : decode prog_14_method_22_code 7 = .ok (.iload_n 2, 1) := by decide +kernel
theorem d12_power_8 : decode prog_14_method_22_code 8 = .ok (.invokevirtual 210, 3) := by decide +kernel
theorem d12_power_11 : decode prog_14_method_22_code 11 = .ok (.ifCond .eq 12, 3) := by decide +kernel
theorem d12_power_14 : decode prog_14_method_22_code 14 = .ok (.aload_n 0, 1) := by decide +kernel
theorem d12_power_15 : decode prog_14_method_22_code 15 = .ok (.iload_n 1, 1) := by decide +kernel
theorem d12_power_16 : decode prog_14_method_22_code 16 = .ok (.iload_n 2, 1) := by decide +kernel
theorem d12_power_17 : decode prog_14_method_22_code 17 = .ok (.invokevirtual 213, 3) := by decide +kernel
theorem d12_power_20 : decode prog_14_method_22_code 20 = .ok (.goto 4, 3) := by decide +kernel
theorem d12_power_23 : decode prog_14_method_22_code 23 = .ok (.iconst (-1), 1) := by decide +kernel
theorem d12_power_24 : decode prog_14_method_22_code 24 = .ok (.ireturn, 1) := by decide +kernel
theorem d12_pull_0 : decode prog_14_method_23_code 0 = .ok (.aload_n 0, 1) := by decide +kernel
theorem d12_pull_1 : decode prog_14_method_23_code 1 = .ok (.iconst 0, 1) := by decide +kernel
theorem d12_pull_2 : decode prog_14_method_23_code 2 = .ok (.putfield 1, 3) := by decide +kernel
theorem d12_pull_5 : decode prog_14_method_23_code 5 = .ok (.aload_n 0, 1) := by decide +kernel
theorem d12_pull_6 : decode prog_14_method_23_code 6 = .ok (.iload_n 1, 1) := by decide +kernel
theorem d12_pull_7 : decode prog_14_method_23_code 7 = .ok (.iload_n 2, 1) := by decide +kernel
theorem d12_pull_8 : decode prog_14_method_23_code 8 = .ok (.invokevirtual 210, 3) := by decide +kernel
theorem d12_pull_11 : decode prog_14_method_23_code 11 = .ok (.ifCond .eq 13, 3) := by decide +kernel
theorem d12_pull_14 : decode prog_14_method_23_code 14 = .ok (.aload_n 0, 1) := by decide +kernel
theorem d12_pull_15 : decode prog_14_method_23_code 15 = .ok (.iload_n 1, 1) := by decide +kernel
theorem d12_pull_16 : decode prog_14_method_23_code 16 = .ok (.iload_n 2, 1) := by decide +kernel
theorem d12_pull_17 : decode prog_14_method_23_code 17 = .ok (.iload_n 3, 1) := by decide +kernel
theorem d12_pull_18 : decode prog_14_method_23_code 18 = .ok (.invokevirtual 216, 3) := by decide +kernel
theorem d12_pull_21 : decode prog_14_method_23_code 21 = .ok (.goto 4, 3) := by decide +kernel
theorem d12_pull_24 : decode prog_14_method_23_code 24 = .ok (.iconst (-1), 1) := by decide +kernel
theorem d12_pull_25 : decode prog_14_method_23_code 25 = .ok (.ireturn, 1) := by decide +kernel
abbrev m12_point : MD := ("MillBoatsModel", ⟨"MillBoatsModel", "point", "(III)Z"⟩, prog_14_method_6_code, 8, (some Jvm.ClassFile.FieldType.boolean))
theorem k12_point : okY m12_point.2.1 3 := ⟨by decide +kernel, by decide +kernel, by decide +kernel⟩
def f12_point_p209 (σ : St) (v0 : Nat) (v2 : Int32) (v3 : Int32) (v4 : Int32) (v5 : Int32) : Option (Int32 × St) :=
  gd (ob σ v0 12) (
  lt (sR σ v0 3) fun b95 => (
  gd (nz b95) (
  gd (ob σ b95 14) (
  gd (inb σ b95 (v4 + v5)) (
  lt (wI σ b95 (ix (v4 + v5)) v2) fun t100 => (
  lt (sR t100 v0 4) fun b102 => (
  gd (nz b102) (
  gd (ob t100 b102 14) (
  gd (inb t100 b102 (v4 + v5)) (
  lt (wI t100 b102 (ix (v4 + v5)) v3) fun t107 => (
  some ((1 : Int32), t107))))))))))))
set_option maxRecDepth 20000 in
theorem s12_point_p209 : ∀ (σ : St) (v0 : Nat) (v2 : Int32) (v3 : Int32) (v4 : Int32) (v5 : Int32) (r : Int32) (τ : St), f12_point_p209 σ v0 v2 v3 v4 v5 = some (r, τ) → Ev 3 m12_point 209 [(0, .ref v0), (2, .int v2), (3, .int v3), (4, .int v4), (5, .int v5)] [] σ (some (.int r)) τ := by
  intro σ v0 v2 v3 v4 v5 r τ hf
  unfold f12_point_p209 at hf
  refine ev_aload_n (j := 0) (i := 0) (q := 0) rfl rfl d12_point_209 ?_
  obtain ⟨h94, hf⟩ := gd_some hf
  obtain ⟨b95, e96, hf⟩ := lt_some hf
  obtain ⟨h97, hf⟩ := gd_some hf
  refine ev_getRb cls12 (j := 3) (by decide) rfl w1254 h94 e96 (nz_ne h97) d12_point_210 ?_
  refine ev_iload (i := 4) (q := 3) rfl d12_point_213 ?_
  refine ev_iload (i := 5) (q := 4) rfl d12_point_215 ?_
  refine ev_iadd d12_point_217 ?_
  refine ev_iload_n (j := 2) (i := 2) (q := 1) rfl rfl d12_point_218 ?_
  obtain ⟨h98, hf⟩ := gd_some hf
  obtain ⟨h99, hf⟩ := gd_some hf
  obtain ⟨t100, e101, hf⟩ := lt_some hf
  refine ev_iast h98 h99 d12_point_219 (ev_nmS e101 ?_)
  refine ev_aload_n (j := 0) (i := 0) (q := 0) rfl rfl d12_point_220 ?_
  obtain ⟨b102, e103, hf⟩ := lt_some hf
  obtain ⟨h104, hf⟩ := gd_some hf
  refine ev_getRb cls12 (j := 4) (by decide) rfl w1255 (mono_ob (mono_eI e101) h94) e103 (nz_ne h104) d12_point_221 ?_
  refine ev_iload (i := 4) (q := 3) rfl d12_point_224 ?_
  refine ev_iload (i := 5) (q := 4) rfl d12_point_226 ?_
  refine ev_iadd d12_point_228 ?_
  refine ev_iload_n (j := 3) (i := 3) (q := 2) rfl rfl d12_point_229 ?_
  obtain ⟨h105, hf⟩ := gd_some hf
  obtain ⟨h106, hf⟩ := gd_some hf
  obtain ⟨t107, e108, hf⟩ := lt_some hf
  refine ev_iast h105 h106 d12_point_230 (ev_nmS e108 ?_)
  refine ev_iconst ci_1 d12_point_231 ?_
  obtain ⟨rfl, rfl⟩ := ret_some hf
  exact ev_zret rfl (by decide) d12_point_232
def f12_point_p142 : Nat → St → Nat → Int32 → Int32 → Int32 → Int32 → Int32 → Int32 → Option (Int32 × St)
  | 0, _, _, _, _, _, _, _, _ => none
  | n + 1, σ, v0, v1, v2, v3, v4, v5, v7 =>
  (if v7 ≤ v5 then
  gd (ob σ v0 12) (
  lt (sR σ v0 2) fun b68 => (
  gd (nz b68) (
  gd (ob σ b68 14) (
  gd (inb σ b68 v1) (
  lt (wI σ b68 (ix v1) ((sI σ b68 (ix v1)) + (1 : Int32))) fun t73 => (
  f12_point_p209 t73 v0 v2 v3 v4 v5))))))
  else
  gd (ob σ v0 12) (
  lt (sR σ v0 3) fun b76 => (
  gd (nz b76) (
  gd (ob σ b76 14) (
  gd (inb σ b76 ((v4 + v7) - (1 : Int32))) (
  gd (inb σ b76 (v4 + v7)) (
  lt (wI σ b76 (ix (v4 + v7)) (sI σ b76 (ix ((v4 + v7) - (1 : Int32))))) fun t82 => (
  lt (sR t82 v0 4) fun b84 => (
  gd (nz b84) (
  gd (ob t82 b84 14) (
  gd (inb t82 b84 ((v4 + v7) - (1 : Int32))) (
  gd (inb t82 b84 (v4 + v7)) (
  lt (wI t82 b84 (ix (v4 + v7)) (sI t82 b84 (ix ((v4 + v7) - (1 : Int32))))) fun t90 => (
  lt (v7 + (-1 : Int32)) fun y92 => (
  (f12_point_p142 n) t90 v0 v1 v2 v3 v4 v5 y92)))))))))))))))
set_option maxRecDepth 20000 in
theorem s12_point_p142 : ∀ (n : Nat) (σ : St) (v0 : Nat) (v1 : Int32) (v2 : Int32) (v3 : Int32) (v4 : Int32) (v5 : Int32) (v7 : Int32) (r : Int32) (τ : St), f12_point_p142 n σ v0 v1 v2 v3 v4 v5 v7 = some (r, τ) → Ev 3 m12_point 142 [(0, .ref v0), (1, .int v1), (2, .int v2), (3, .int v3), (4, .int v4), (5, .int v5), (7, .int v7)] [] σ (some (.int r)) τ := by
  intro n
  induction n with
  | zero =>
    intro σ v0 v1 v2 v3 v4 v5 v7 r τ hf
    cases hf
  | succ n ih =>
    intro σ v0 v1 v2 v3 v4 v5 v7 r τ hf
    rw [f12_point_p142] at hf
    refine ev_iload (i := 7) (q := 6) rfl d12_point_142 ?_
    refine ev_iload (i := 5) (q := 5) rfl d12_point_144 ?_
    rcases ite_some hf with ⟨c66, hf⟩ | ⟨c66, hf⟩
    · refine ev_icmp_le_P (tgt := 199) c66 (by decide) d12_point_146 ?_
      refine ev_aload_n (j := 0) (i := 0) (q := 0) rfl rfl d12_point_199 ?_
      obtain ⟨h67, hf⟩ := gd_some hf
      obtain ⟨b68, e69, hf⟩ := lt_some hf
      obtain ⟨h70, hf⟩ := gd_some hf
      refine ev_getRb cls12 (j := 2) (by decide) rfl w1253 h67 e69 (nz_ne h70) d12_point_200 ?_
      refine ev_iload_n (j := 1) (i := 1) (q := 1) rfl rfl d12_point_203 ?_
      refine ev_dup2 rfl rfl d12_point_204 ?_
      obtain ⟨h71, hf⟩ := gd_some hf
      obtain ⟨h72, hf⟩ := gd_some hf
      refine ev_iald h71 h72 d12_point_205 ?_
      refine ev_iconst ci_1 d12_point_206 ?_
      refine ev_iadd d12_point_207 ?_
      obtain ⟨t73, e74, hf⟩ := lt_some hf
      refine ev_iast h71 h72 d12_point_208 (ev_nmS e74 ?_)
      exact Ev.sub [0, 2, 3, 4, 5] rfl (s12_point_p209 _ _ _ _ _ _ _ _ hf)
    · refine ev_icmp_le_Q (tgt := 199) c66 (by decide) d12_point_146 ?_
      refine ev_aload_n (j := 0) (i := 0) (q := 0) rfl rfl d12_point_149 ?_
      obtain ⟨h75, hf⟩ := gd_some hf
      obtain ⟨b76, e77, hf⟩ := lt_some hf
      obtain ⟨h78, hf⟩ := gd_some hf
      refine ev_getRb cls12 (j := 3) (by decide) rfl w1254 h75 e77 (nz_ne h78) d12_point_150 ?_
      refine ev_iload (i := 4) (q := 4) rfl d12_point_153 ?_
      refine ev_iload (i := 7) (q := 6) rfl d12_point_155 ?_
      refine ev_iadd d12_point_157 ?_
      refine ev_aload_n (j := 0) (i := 0) (q := 0) rfl rfl d12_point_158 ?_
      refine ev_getRb cls12 (j := 3) (by decide) rfl w1254 h75 e77 (nz_ne h78) d12_point_159 ?_
      refine ev_iload (i := 4) (q := 4) rfl d12_point_162 ?_
      refine ev_iload (i := 7) (q := 6) rfl d12_point_164 ?_
      refine ev_iadd d12_point_166 ?_
      refine ev_iconst ci_1 d12_point_167 ?_
      refine ev_isub d12_point_168 ?_
      obtain ⟨h79, hf⟩ := gd_some hf
      obtain ⟨h80, hf⟩ := gd_some hf
      refine ev_iald h79 h80 d12_point_169 ?_
      obtain ⟨h81, hf⟩ := gd_some hf
      obtain ⟨t82, e83, hf⟩ := lt_some hf
      refine ev_iast h79 h81 d12_point_170 (ev_nmS e83 ?_)
      refine ev_aload_n (j := 0) (i := 0) (q := 0) rfl rfl d12_point_171 ?_
      obtain ⟨b84, e85, hf⟩ := lt_some hf
      obtain ⟨h86, hf⟩ := gd_some hf
      refine ev_getRb cls12 (j := 4) (by decide) rfl w1255 (mono_ob (mono_eI e83) h75) e85 (nz_ne h86) d12_point_172 ?_
      refine ev_iload (i := 4) (q := 4) rfl d12_point_175 ?_
      refine ev_iload (i := 7) (q := 6) rfl d12_point_177 ?_
      refine ev_iadd d12_point_179 ?_
      refine ev_aload_n (j := 0) (i := 0) (q := 0) rfl rfl d12_point_180 ?_
      refine ev_getRb cls12 (j := 4) (by decide) rfl w1255 (mono_ob (mono_eI e83) h75) e85 (nz_ne h86) d12_point_181 ?_
      refine ev_iload (i := 4) (q := 4) rfl d12_point_184 ?_
      refine ev_iload (i := 7) (q := 6) rfl d12_point_186 ?_
      refine ev_iadd d12_point_188 ?_
      refine ev_iconst ci_1 d12_point_189 ?_
      refine ev_isub d12_point_190 ?_
      obtain ⟨h87, hf⟩ := gd_some hf
      obtain ⟨h88, hf⟩ := gd_some hf
      refine ev_iald h87 h88 d12_point_191 ?_
      obtain ⟨h89, hf⟩ := gd_some hf
      obtain ⟨t90, e91, hf⟩ := lt_some hf
      refine ev_iast h87 h89 d12_point_192 (ev_nmS e91 ?_)
      obtain ⟨y92, e93, hf⟩ := lt_some hf
      refine ev_iinc (lv2 := [(7, .int y92), (0, .ref v0), (1, .int v1), (2, .int v2), (3, .int v3), (4, .int v4), (5, .int v5)]) (i := 7) (q := 6) (v := y92) (n := -1) rfl (by rw [ci_m1]; exact e93.symm) (by decide) rfl d12_point_193 ?_
      refine ev_goto (tgt := 142) (by decide) d12_point_196 ?_
      exact Ev.sub [1, 2, 3, 4, 5, 6, 0] rfl (ih _ _ _ _ _ _ _ _ _ _ hf)
def f12_point_p129 (σ : St) (v0 : Nat) (v1 : Int32) (v2 : Int32) (v3 : Int32) (v4 : Int32) (v5 : Int32) (v6 : Int32) : Option (Int32 × St) :=
  (if v6 = (0 : Int32) then
  gd (ob σ v0 12) (
  lt (sR σ v0 2) fun b59 => (
  gd (nz b59) (
  gd (ob σ b59 14) (
  gd (inb σ b59 v1) (
  lt (sI σ b59 (ix v1)) fun y64 => (
  f12_point_p142 FU σ v0 v1 v2 v3 v4 v5 y64))))))
  else
  f12_point_p209 σ v0 v2 v3 v4 v5)
set_option maxRecDepth 20000 in
theorem s12_point_p129 : ∀ (σ : St) (v0 : Nat) (v1 : Int32) (v2 : Int32) (v3 : Int32) (v4 : Int32) (v5 : Int32) (v6 : Int32) (r : Int32) (τ : St), f12_point_p129 σ v0 v1 v2 v3 v4 v5 v6 = some (r, τ) → Ev 3 m12_point 129 [(0, .ref v0), (1, .int v1), (2, .int v2), (3, .int v3), (4, .int v4), (5, .int v5), (6, .int v6)] [] σ (some (.int r)) τ := by
  intro σ v0 v1 v2 v3 v4 v5 v6 r τ hf
  unfold f12_point_p129 at hf
  refine ev_iload (i := 6) (q := 6) rfl d12_point_129 ?_
  rcases ite_some hf with ⟨c57, hf⟩ | ⟨c57, hf⟩
  · refine ev_if_ne_P (tgt := 209) c57 (by decide) d12_point_131 ?_
    refine ev_aload_n (j := 0) (i := 0) (q := 0) rfl rfl d12_point_134 ?_
    obtain ⟨h58, hf⟩ := gd_some hf
    obtain ⟨b59, e60, hf⟩ := lt_some hf
    obtain ⟨h61, hf⟩ := gd_some hf
    refine ev_getRb cls12 (j := 2) (by decide) rfl w1253 h58 e60 (nz_ne h61) d12_point_135 ?_
    refine ev_iload_n (j := 1) (i := 1) (q := 1) rfl rfl d12_point_138 ?_
    obtain ⟨h62, hf⟩ := gd_some hf
    obtain ⟨h63, hf⟩ := gd_some hf
    refine ev_iald h62 h63 d12_point_139 ?_
    obtain ⟨y64, e65, hf⟩ := lt_some hf
    refine ev_nmI e65 ?_
    refine ev_istore (lv2 := [(7, .int y64), (0, .ref v0), (1, .int v1), (2, .int v2), (3, .int v3), (4, .int v4), (5, .int v5), (6, .int v6)]) (i := 7) (by decide) rfl d12_point_140 ?_
    exact Ev.sub [1, 2, 3, 4, 5, 6, 0] rfl (s12_point_p142 FU _ _ _ _ _ _ _ _ _ _ hf)
  · refine ev_if_ne_Q (tgt := 209) c57 (by decide) d12_point_131 ?_
    exact Ev.sub [0, 2, 3, 4, 5] rfl (s12_point_p209 _ _ _ _ _ _ _ _ hf)
def f12_point_p109 (σ : St) (v0 : Nat) (v1 : Int32) (v2 : Int32) (v3 : Int32) (v4 : Int32) (v5 : Int32) (x0 : Int32) : Option (Int32 × St) :=
  (if x0 = (0 : Int32) then
  gd (ob σ v0 12) (
  lt (sR σ v0 2) fun b51 => (
  gd (nz b51) (
  gd (ob σ b51 14) (
  gd (inb σ b51 v1) (
  (if (sI σ b51 (ix v1)) = (8 : Int32) then
  some ((0 : Int32), σ)
  else
  f12_point_p129 σ v0 v1 v2 v3 v4 v5 x0))))))
  else
  f12_point_p129 σ v0 v1 v2 v3 v4 v5 x0)
set_option maxRecDepth 20000 in
theorem s12_point_p109 : ∀ (σ : St) (v0 : Nat) (v1 : Int32) (v2 : Int32) (v3 : Int32) (v4 : Int32) (v5 : Int32) (x0 : Int32) (r : Int32) (τ : St), f12_point_p109 σ v0 v1 v2 v3 v4 v5 x0 = some (r, τ) → Ev 3 m12_point 109 [(0, .ref v0), (1, .int v1), (2, .int v2), (3, .int v3), (4, .int v4), (5, .int v5)] [.int x0] σ (some (.int r)) τ := by
  intro σ v0 v1 v2 v3 v4 v5 x0 r τ hf
  unfold f12_point_p109 at hf
  refine ev_istore (lv2 := [(6, .int x0), (0, .ref v0), (1, .int v1), (2, .int v2), (3, .int v3), (4, .int v4), (5, .int v5)]) (i := 6) (by decide) rfl d12_point_109 ?_
  refine ev_iload (i := 6) (q := 0) rfl d12_point_111 ?_
  rcases ite_some hf with ⟨c49, hf⟩ | ⟨c49, hf⟩
  · refine ev_if_ne_P (tgt := 129) c49 (by decide) d12_point_113 ?_
    refine ev_aload_n (j := 0) (i := 0) (q := 1) rfl rfl d12_point_116 ?_
    obtain ⟨h50, hf⟩ := gd_some hf
    obtain ⟨b51, e52, hf⟩ := lt_some hf
    obtain ⟨h53, hf⟩ := gd_some hf
    refine ev_getRb cls12 (j := 2) (by decide) rfl w1253 h50 e52 (nz_ne h53) d12_point_117 ?_
    refine ev_iload_n (j := 1) (i := 1) (q := 2) rfl rfl d12_point_120 ?_
    obtain ⟨h54, hf⟩ := gd_some hf
    obtain ⟨h55, hf⟩ := gd_some hf
    refine ev_iald h54 h55 d12_point_121 ?_
    refine ev_bipush cb_8 d12_point_122 ?_
    rcases ite_some hf with ⟨c56, hf⟩ | ⟨c56, hf⟩
    · refine ev_icmp_ne_P (tgt := 129) c56 (by decide) d12_point_124 ?_
      refine ev_iconst ci_0 d12_point_127 ?_
      obtain ⟨rfl, rfl⟩ := ret_some hf
      exact ev_zret rfl (by decide) d12_point_128
    · refine ev_icmp_ne_Q (tgt := 129) c56 (by decide) d12_point_124 ?_
      exact Ev.sub [1, 2, 3, 4, 5, 6, 0] rfl (s12_point_p129 _ _ _ _ _ _ _ _ _ _ hf)
  · refine ev_if_ne_Q (tgt := 129) c49 (by decide) d12_point_113 ?_
    exact Ev.sub [1, 2, 3, 4, 5, 6, 0] rfl (s12_point_p129 _ _ _ _ _ _ _ _ _ _ hf)
def f12_point_p108 (σ : St) (v0 : Nat) (v1 : Int32) (v2 : Int32) (v3 : Int32) (v4 : Int32) (v5 : Int32) : Option (Int32 × St) :=
  f12_point_p109 σ v0 v1 v2 v3 v4 v5 (0 : Int32)
set_option maxRecDepth 20000 in
theorem s12_point_p108 : ∀ (σ : St) (v0 : Nat) (v1 : Int32) (v2 : Int32) (v3 : Int32) (v4 : Int32) (v5 : Int32) (r : Int32) (τ : St), f12_point_p108 σ v0 v1 v2 v3 v4 v5 = some (r, τ) → Ev 3 m12_point 108 [(0, .ref v0), (1, .int v1), (2, .int v2), (3, .int v3), (4, .int v4), (5, .int v5)] [] σ (some (.int r)) τ := by
  intro σ v0 v1 v2 v3 v4 v5 r τ hf
  unfold f12_point_p108 at hf
  refine ev_iconst ci_0 d12_point_108 ?_
  exact Ev.sub [0, 1, 2, 3, 4, 5] rfl (s12_point_p109 _ _ _ _ _ _ _ _ _ _ hf)
def f12_point_p79 (σ : St) (v0 : Nat) (v1 : Int32) (v2 : Int32) (v3 : Int32) (v4 : Int32) (v5 : Int32) : Option (Int32 × St) :=
  gd (ob σ v0 12) (
  lt (sR σ v0 2) fun b37 => (
  gd (nz b37) (
  gd (ob σ b37 14) (
  gd (inb σ b37 v1) (
  (if v5 < (sI σ b37 (ix v1)) then
  lt (sR σ v0 3) fun b43 => (
  gd (nz b43) (
  gd (ob σ b43 14) (
  gd (inb σ b43 (v4 + v5)) (
  (if (sI σ b43 (ix (v4 + v5))) = v2 then
  f12_point_p109 σ v0 v1 v2 v3 v4 v5 (1 : Int32)
  else
  f12_point_p108 σ v0 v1 v2 v3 v4 v5)))))
  else
  f12_point_p108 σ v0 v1 v2 v3 v4 v5))))))
set_option maxRecDepth 20000 in
theorem s12_point_p79 : ∀ (σ : St) (v0 : Nat) (v1 : Int32) (v2 : Int32) (v3 : Int32) (v4 : Int32) (v5 : Int32) (r : Int32) (τ : St), f12_point_p79 σ v0 v1 v2 v3 v4 v5 = some (r, τ) → Ev 3 m12_point 79 [(0, .ref v0), (1, .int v1), (2, .int v2), (3, .int v3), (4, .int v4), (5, .int v5)] [] σ (some (.int r)) τ := by
  intro σ v0 v1 v2 v3 v4 v5 r τ hf
  unfold f12_point_p79 at hf
  refine ev_iload (i := 5) (q := 5) rfl d12_point_79 ?_
  refine ev_aload_n (j := 0) (i := 0) (q := 0) rfl rfl d12_point_81 ?_
  obtain ⟨h36, hf⟩ := gd_some hf
  obtain ⟨b37, e38, hf⟩ := lt_some hf
  obtain ⟨h39, hf⟩ := gd_some hf
  refine ev_getRb cls12 (j := 2) (by decide) rfl w1253 h36 e38 (nz_ne h39) d12_point_82 ?_
  refine ev_iload_n (j := 1) (i := 1) (q := 1) rfl rfl d12_point_85 ?_
  obtain ⟨h40, hf⟩ := gd_some hf
  obtain ⟨h41, hf⟩ := gd_some hf
  refine ev_iald h40 h41 d12_point_86 ?_
  rcases ite_some hf with ⟨c42, hf⟩ | ⟨c42, hf⟩
  · refine ev_icmp_ge_P (tgt := 108) c42 (by decide) d12_point_87 ?_
    refine ev_aload_n (j := 0) (i := 0) (q := 0) rfl rfl d12_point_90 ?_
    obtain ⟨b43, e44, hf⟩ := lt_some hf
    obtain ⟨h45, hf⟩ := gd_some hf
    refine ev_getRb cls12 (j := 3) (by decide) rfl w1254 h36 e44 (nz_ne h45) d12_point_91 ?_
    refine ev_iload (i := 4) (q := 4) rfl d12_point_94 ?_
    refine ev_iload (i := 5) (q := 5) rfl d12_point_96 ?_
    refine ev_iadd d12_point_98 ?_
    obtain ⟨h46, hf⟩ := gd_some hf
    obtain ⟨h47, hf⟩ := gd_some hf
    refine ev_iald h46 h47 d12_point_99 ?_
    refine ev_iload_n (j := 2) (i := 2) (q := 2) rfl rfl d12_point_100 ?_
    rcases ite_some hf with ⟨c48, hf⟩ | ⟨c48, hf⟩
    · refine ev_icmp_ne_P (tgt := 108) c48 (by decide) d12_point_101 ?_
      refine ev_iconst ci_1 d12_point_104 ?_
      refine ev_goto (tgt := 109) (by decide) d12_point_105 ?_
      exact Ev.sub [0, 1, 2, 3, 4, 5] rfl (s12_point_p109 _ _ _ _ _ _ _ _ _ _ hf)
    · refine ev_icmp_ne_Q (tgt := 108) c48 (by decide) d12_point_101 ?_
      exact Ev.sub [0, 1, 2, 3, 4, 5] rfl (s12_point_p108 _ _ _ _ _ _ _ _ _ hf)
  · refine ev_icmp_ge_Q (tgt := 108) c42 (by decide) d12_point_87 ?_
    exact Ev.sub [0, 1, 2, 3, 4, 5] rfl (s12_point_p108 _ _ _ _ _ _ _ _ _ hf)
def f12_point_p48 : Nat → St → Nat → Int32 → Int32 → Int32 → Int32 → Int32 → Option (Int32 × St)
  | 0, _, _, _, _, _, _, _ => none
  | n + 1, σ, v0, v1, v2, v3, v4, v5 =>
  gd (ob σ v0 12) (
  lt (sR σ v0 2) fun b22 => (
  gd (nz b22) (
  gd (ob σ b22 14) (
  gd (inb σ b22 v1) (
  (if v5 < (sI σ b22 (ix v1)) then
  lt (sR σ v0 3) fun b28 => (
  gd (nz b28) (
  gd (ob σ b28 14) (
  gd (inb σ b28 (v4 + v5)) (
  (if (sI σ b28 (ix (v4 + v5))) < v2 then
  lt (v5 + (1 : Int32)) fun y34 => (
  (f12_point_p48 n) σ v0 v1 v2 v3 v4 y34)
  else
  f12_point_p79 σ v0 v1 v2 v3 v4 v5)))))
  else
  f12_point_p79 σ v0 v1 v2 v3 v4 v5))))))
set_option maxRecDepth 20000 in
theorem s12_point_p48 : ∀ (n : Nat) (σ : St) (v0 : Nat) (v1 : Int32) (v2 : Int32) (v3 : Int32) (v4 : Int32) (v5 : Int32) (r : Int32) (τ : St), f12_point_p48 n σ v0 v1 v2 v3 v4 v5 = some (r, τ) → Ev 3 m12_point 48 [(0, .ref v0), (1, .int v1), (2, .int v2), (3, .int v3), (4, .int v4), (5, .int v5)] [] σ (some (.int r)) τ := by
  intro n
  induction n with
  | zero =>
    intro σ v0 v1 v2 v3 v4 v5 r τ hf
    cases hf
  | succ n ih =>
    intro σ v0 v1 v2 v3 v4 v5 r τ hf
    rw [f12_point_p48] at hf
    refine ev_iload (i := 5) (q := 5) rfl d12_point_48 ?_
    refine ev_aload_n (j := 0) (i := 0) (q := 0) rfl rfl d12_point_50 ?_
    obtain ⟨h21, hf⟩ := gd_some hf
    obtain ⟨b22, e23, hf⟩ := lt_some hf
    obtain ⟨h24, hf⟩ := gd_some hf
    refine ev_getRb cls12 (j := 2) (by decide) rfl w1253 h21 e23 (nz_ne h24) d12_point_51 ?_
    refine ev_iload_n (j := 1) (i := 1) (q := 1) rfl rfl d12_point_54 ?_
    obtain ⟨h25, hf⟩ := gd_some hf
    obtain ⟨h26, hf⟩ := gd_some hf
    refine ev_iald h25 h26 d12_point_55 ?_
    rcases ite_some hf with ⟨c27, hf⟩ | ⟨c27, hf⟩
    · refine ev_icmp_ge_P (tgt := 79) c27 (by decide) d12_point_56 ?_
      refine ev_aload_n (j := 0) (i := 0) (q := 0) rfl rfl d12_point_59 ?_
      obtain ⟨b28, e29, hf⟩ := lt_some hf
      obtain ⟨h30, hf⟩ := gd_some hf
      refine ev_getRb cls12 (j := 3) (by decide) rfl w1254 h21 e29 (nz_ne h30) d12_point_60 ?_
      refine ev_iload (i := 4) (q := 4) rfl d12_point_63 ?_
      refine ev_iload (i := 5) (q := 5) rfl d12_point_65 ?_
      refine ev_iadd d12_point_67 ?_
      obtain ⟨h31, hf⟩ := gd_some hf
      obtain ⟨h32, hf⟩ := gd_some hf
      refine ev_iald h31 h32 d12_point_68 ?_
      refine ev_iload_n (j := 2) (i := 2) (q := 2) rfl rfl d12_point_69 ?_
      rcases ite_some hf with ⟨c33, hf⟩ | ⟨c33, hf⟩
      · refine ev_icmp_ge_P (tgt := 79) c33 (by decide) d12_point_70 ?_
        obtain ⟨y34, e35, hf⟩ := lt_some hf
        refine ev_iinc (lv2 := [(5, .int y34), (0, .ref v0), (1, .int v1), (2, .int v2), (3, .int v3), (4, .int v4)]) (i := 5) (q := 5) (v := y34) (n := 1) rfl (by rw [ci_1]; exact e35.symm) (by decide) rfl d12_point_73 ?_
        refine ev_goto (tgt := 48) (by decide) d12_point_76 ?_
        exact Ev.sub [1, 2, 3, 4, 5, 0] rfl (ih _ _ _ _ _ _ _ _ _ hf)
      · refine ev_icmp_ge_Q (tgt := 79) c33 (by decide) d12_point_70 ?_
        exact Ev.sub [0, 1, 2, 3, 4, 5] rfl (s12_point_p79 _ _ _ _ _ _ _ _ _ hf)
    · refine ev_icmp_ge_Q (tgt := 79) c27 (by decide) d12_point_56 ?_
      exact Ev.sub [0, 1, 2, 3, 4, 5] rfl (s12_point_p79 _ _ _ _ _ _ _ _ _ hf)
def f12_point (σ : St) (v0 : Nat) (v1 : Int32) (v2 : Int32) (v3 : Int32) : Option (Int32 × St) :=
  gd (ob σ v0 12) (
  lt (wI σ v0 0 (0 : Int32)) fun t2 => (
  bd (f12_within t2 v1 (0 : Int32) (6 : Int32)) fun r4 t5 => (
  (if r4 = (0 : Int32) then
  some ((0 : Int32), t5)
  else
  bd (f12_within t5 v2 (0 : Int32) (400 : Int32)) fun r9 t10 => (
  (if r9 = (0 : Int32) then
  some ((0 : Int32), t10)
  else
  bd (f12_within t10 v3 (0 : Int32) (400 : Int32)) fun r14 t15 => (
  (if r14 = (0 : Int32) then
  some ((0 : Int32), t15)
  else
  lt ((8 : Int32) * v1) fun y19 => (
  f12_point_p48 FU t15 v0 v1 v2 v3 y19 (0 : Int32))))))))))
set_option maxRecDepth 50000 in
theorem s12_point : ∀ (σ : St) (v0 : Nat) (v1 : Int32) (v2 : Int32) (v3 : Int32) (r : Int32) (τ : St), f12_point σ v0 v1 v2 v3 = some (r, τ) → Call 3 m12_point [.ref v0, .int v1, .int v2, .int v3] σ (some (.int r)) τ := by
  intro σ v0 v1 v2 v3 r τ hf
  unfold f12_point at hf
  refine Call.of (by decide +kernel) rfl (Nat.le_of_ble_eq_true rfl) ?_
  refine ev_aload_n (j := 0) (i := 0) (q := 0) rfl rfl d12_point_0 ?_
  refine ev_iconst ci_0 d12_point_1 ?_
  obtain ⟨h1, hf⟩ := gd_some hf
  obtain ⟨t2, e3, hf⟩ := lt_some hf
  refine ev_putI cls12 (j := 0) (by decide) rfl rfl w1251 h1 (fun _ => ⟨rfl, rfl⟩) d12_point_2 (ev_nmS e3 ?_)
  refine ev_iload_n (j := 1) (i := 1) (q := 1) rfl rfl d12_point_5 ?_
  refine ev_iconst ci_0 d12_point_6 ?_
  refine ev_bipush cb_6 d12_point_7 ?_
  obtain ⟨r4, t5, k6, hf⟩ := bd_some hf
  have q7 := s12_within _ _ _ _ _ _ k6
  refine ev_callS (vs := [.int v1, .int (0 : Int32), .int (6 : Int32)]) (sk := []) q7 (by decide) (Nat.le_of_ble_eq_true rfl) w1497 w1498 w19 w1499 k12_within rfl (Nat.le_of_ble_eq_true rfl) d12_point_9 ?_
  rcases ite_some hf with ⟨c8, hf⟩ | ⟨c8, hf⟩
  · refine ev_if_eq_P (tgt := 37) c8 (by decide) d12_point_12 ?_
    refine ev_iconst ci_0 d12_point_37 ?_
    obtain ⟨rfl, rfl⟩ := ret_some hf
    exact ev_zret rfl (by decide) d12_point_38
  · refine ev_if_eq_Q (tgt := 37) c8 (by decide) d12_point_12 ?_
    refine ev_iload_n (j := 2) (i := 2) (q := 2) rfl rfl d12_point_15 ?_
    refine ev_iconst ci_0 d12_point_16 ?_
    refine ev_sipush cs_400 d12_point_17 ?_
    obtain ⟨r9, t10, k11, hf⟩ := bd_some hf
    have q12 := s12_within _ _ _ _ _ _ k11
    refine ev_callS (vs := [.int v2, .int (0 : Int32), .int (400 : Int32)]) (sk := []) q12 (by decide) (Nat.le_of_ble_eq_true rfl) w1497 w1498 w19 w1499 k12_within rfl (Nat.le_of_ble_eq_true rfl) d12_point_20 ?_
    rcases ite_some hf with ⟨c13, hf⟩ | ⟨c13, hf⟩
    · refine ev_if_eq_P (tgt := 37) c13 (by decide) d12_point_23 ?_
      refine ev_iconst ci_0 d12_point_37 ?_
      obtain ⟨rfl, rfl⟩ := ret_some hf
      exact ev_zret rfl (by decide) d12_point_38
    · refine ev_if_eq_Q (tgt := 37) c13 (by decide) d12_point_23 ?_
      refine ev_iload_n (j := 3) (i := 3) (q := 3) rfl rfl d12_point_26 ?_
      refine ev_iconst ci_0 d12_point_27 ?_
      refine ev_sipush cs_400 d12_point_28 ?_
      obtain ⟨r14, t15, k16, hf⟩ := bd_some hf
      have q17 := s12_within _ _ _ _ _ _ k16
      refine ev_callS (vs := [.int v3, .int (0 : Int32), .int (400 : Int32)]) (sk := []) q17 (by decide) (Nat.le_of_ble_eq_true rfl) w1497 w1498 w19 w1499 k12_within rfl (Nat.le_of_ble_eq_true rfl) d12_point_31 ?_
      rcases ite_some hf with ⟨c18, hf⟩ | ⟨c18, hf⟩
      · refine ev_if_ne_P (tgt := 39) c18 (by decide) d12_point_34 ?_
        refine ev_iconst ci_0 d12_point_37 ?_
        obtain ⟨rfl, rfl⟩ := ret_some hf
        exact ev_zret rfl (by decide) d12_point_38
      · refine ev_if_ne_Q (tgt := 39) c18 (by decide) d12_point_34 ?_
        refine ev_bipush cb_8 d12_point_39 ?_
        refine ev_iload_n (j := 1) (i := 1) (q := 1) rfl rfl d12_point_41 ?_
        refine ev_imul d12_point_42 ?_
        obtain ⟨y19, e20, hf⟩ := lt_some hf
        refine ev_nmI e20 ?_
        refine ev_istore (lv2 := [(4, .int y19), (0, .ref v0), (1, .int v1), (2, .int v2), (3, .int v3)]) (i := 4) (by decide) rfl d12_point_43 ?_
        refine ev_iconst ci_0 d12_point_45 ?_
        refine ev_istore (lv2 := [(5, .int (0 : Int32)), (4, .int y19), (0, .ref v0), (1, .int v1), (2, .int v2), (3, .int v3)]) (i := 5) (by decide) rfl d12_point_46 ?_
        exact Ev.sub [2, 3, 4, 5, 1, 0] rfl (s12_point_p48 FU _ _ _ _ _ _ _ _ _ hf)
abbrev m12_valueOf : MD := ("MillBoatsModel", ⟨"MillBoatsModel", "valueOf", "(II)I"⟩, prog_14_method_7_code, 9, (some Jvm.ClassFile.FieldType.int))
theorem k12_valueOf : okY m12_valueOf.2.1 2 := ⟨by decide +kernel, by decide +kernel, by decide +kernel⟩
def f12_valueOf_p178 (σ : St) (v0 : Nat) (v4 : Int32) (v5 : Int32) (v8 : Int32) : Option (Int32 × St) :=
  gd (ob σ v0 12) (
  lt (sR σ v0 4) fun b58 => (
  gd (nz b58) (
  gd (ob σ b58 14) (
  gd (inb σ b58 (v4 + v5)) (
  some ((sI σ b58 (ix (v4 + v5))) + v8, σ))))))
set_option maxRecDepth 20000 in
theorem s12_valueOf_p178 : ∀ (σ : St) (v0 : Nat) (v4 : Int32) (v5 : Int32) (v8 : Int32) (r : Int32) (τ : St), f12_valueOf_p178 σ v0 v4 v5 v8 = some (r, τ) → Ev 2 m12_valueOf 178 [(0, .ref v0), (4, .int v4), (5, .int v5), (8, .int v8)] [] σ (some (.int r)) τ := by
  intro σ v0 v4 v5 v8 r τ hf
  unfold f12_valueOf_p178 at hf
  refine ev_aload_n (j := 0) (i := 0) (q := 0) rfl rfl d12_valueOf_178 ?_
  obtain ⟨h57, hf⟩ := gd_some hf
  obtain ⟨b58, e59, hf⟩ := lt_some hf
  obtain ⟨h60, hf⟩ := gd_some hf
  refine ev_getRb cls12 (j := 4) (by decide) rfl w1255 h57 e59 (nz_ne h60) d12_valueOf_179 ?_
  refine ev_iload (i := 4) (q := 1) rfl d12_valueOf_182 ?_
  refine ev_iload (i := 5) (q := 2) rfl d12_valueOf_184 ?_
  refine ev_iadd d12_valueOf_186 ?_
  obtain ⟨h61, hf⟩ := gd_some hf
  obtain ⟨h62, hf⟩ := gd_some hf
  refine ev_iald h61 h62 d12_valueOf_187 ?_
  refine ev_iload (i := 8) (q := 3) rfl d12_valueOf_188 ?_
  refine ev_iadd d12_valueOf_190 ?_
  obtain ⟨rfl, rfl⟩ := ret_some hf
  exact ev_iret rfl d12_valueOf_191
def f12_valueOf_p68 : Nat → St → Nat → Int32 → Int32 → Int32 → Option (Int32 × St)
  | 0, _, _, _, _, _ => none
  | n + 1, σ, v0, v2, v4, v5 =>
  gd (ob σ v0 12) (
  lt (sR σ v0 3) fun b31 => (
  gd (nz b31) (
  gd (ob σ b31 14) (
  gd (inb σ b31 ((v4 + v5) + (1 : Int32))) (
  (if (sI σ b31 (ix ((v4 + v5) + (1 : Int32)))) < v2 then
  lt (v5 + (1 : Int32)) fun y37 => (
  (f12_valueOf_p68 n) σ v0 v2 v4 y37)
  else
  gd (inb σ b31 (v4 + v5)) (
  lt ((sI σ b31 (ix ((v4 + v5) + (1 : Int32)))) - (sI σ b31 (ix (v4 + v5)))) fun y40 => (
  lt (sR σ v0 4) fun b42 => (
  gd (nz b42) (
  gd (ob σ b42 14) (
  gd (inb σ b42 ((v4 + v5) + (1 : Int32))) (
  gd (inb σ b42 (v4 + v5)) (
  lt (((sI σ b42 (ix ((v4 + v5) + (1 : Int32)))) - (sI σ b42 (ix (v4 + v5)))) * (v2 - (sI σ b31 (ix (v4 + v5))))) fun y48 => (
  gd (nzI y40) (
  lt (y48 / y40) fun y51 => (
  (if y48 < (0 : Int32) then
  (if (y51 * y40) = y48 then
  f12_valueOf_p178 σ v0 v4 v5 y51
  else
  lt (y51 + (-1 : Int32)) fun y55 => (
  f12_valueOf_p178 σ v0 v4 v5 y55))
  else
  f12_valueOf_p178 σ v0 v4 v5 y51)))))))))))))))))
set_option maxRecDepth 20000 in
theorem s12_valueOf_p68 : ∀ (n : Nat) (σ : St) (v0 : Nat) (v2 : Int32) (v4 : Int32) (v5 : Int32) (r : Int32) (τ : St), f12_valueOf_p68 n σ v0 v2 v4 v5 = some (r, τ) → Ev 2 m12_valueOf 68 [(0, .ref v0), (2, .int v2), (4, .int v4), (5, .int v5)] [] σ (some (.int r)) τ := by
  intro n
  induction n with
  | zero =>
    intro σ v0 v2 v4 v5 r τ hf
    cases hf
  | succ n ih =>
    intro σ v0 v2 v4 v5 r τ hf
    rw [f12_valueOf_p68] at hf
    refine ev_aload_n (j := 0) (i := 0) (q := 0) rfl rfl d12_valueOf_68 ?_
    obtain ⟨h30, hf⟩ := gd_some hf
    obtain ⟨b31, e32, hf⟩ := lt_some hf
    obtain ⟨h33, hf⟩ := gd_some hf
    refine ev_getRb cls12 (j := 3) (by decide) rfl w1254 h30 e32 (nz_ne h33) d12_valueOf_69 ?_
    refine ev_iload (i := 4) (q := 2) rfl d12_valueOf_72 ?_
    refine ev_iload (i := 5) (q := 3) rfl d12_valueOf_74 ?_
    refine ev_iadd d12_valueOf_76 ?_
    refine ev_iconst ci_1 d12_valueOf_77 ?_
    refine ev_iadd d12_valueOf_78 ?_
    obtain ⟨h34, hf⟩ := gd_some hf
    obtain ⟨h35, hf⟩ := gd_some hf
    refine ev_iald h34 h35 d12_valueOf_79 ?_
    refine ev_iload_n (j := 2) (i := 2) (q := 1) rfl rfl d12_valueOf_80 ?_
    rcases ite_some hf with ⟨c36, hf⟩ | ⟨c36, hf⟩
    · refine ev_icmp_ge_P (tgt := 90) c36 (by decide) d12_valueOf_81 ?_
      obtain ⟨y37, e38, hf⟩ := lt_some hf
      refine ev_iinc (lv2 := [(5, .int y37), (0, .ref v0), (2, .int v2), (4, .int v4)]) (i := 5) (q := 3) (v := y37) (n := 1) rfl (by rw [ci_1]; exact e38.symm) (by decide) rfl d12_valueOf_84 ?_
      refine ev_goto (tgt := 68) (by decide) d12_valueOf_87 ?_
      exact Ev.sub [1, 2, 3, 0] rfl (ih _ _ _ _ _ _ _ hf)
    · refine ev_icmp_ge_Q (tgt := 90) c36 (by decide) d12_valueOf_81 ?_
      refine ev_aload_n (j := 0) (i := 0) (q := 0) rfl rfl d12_valueOf_90 ?_
      refine ev_getRb cls12 (j := 3) (by decide) rfl w1254 h30 e32 (nz_ne h33) d12_valueOf_91 ?_
      refine ev_iload (i := 4) (q := 2) rfl d12_valueOf_94 ?_
      refine ev_iload (i := 5) (q := 3) rfl d12_valueOf_96 ?_
      refine ev_iadd d12_valueOf_98 ?_
      refine ev_iconst ci_1 d12_valueOf_99 ?_
      refine ev_iadd d12_valueOf_100 ?_
      refine ev_iald h34 h35 d12_valueOf_101 ?_
      refine ev_aload_n (j := 0) (i := 0) (q := 0) rfl rfl d12_valueOf_102 ?_
      refine ev_getRb cls12 (j := 3) (by decide) rfl w1254 h30 e32 (nz_ne h33) d12_valueOf_103 ?_
      refine ev_iload (i := 4) (q := 2) rfl d12_valueOf_106 ?_
      refine ev_iload (i := 5) (q := 3) rfl d12_valueOf_108 ?_
      refine ev_iadd d12_valueOf_110 ?_
      obtain ⟨h39, hf⟩ := gd_some hf
      refine ev_iald h34 h39 d12_valueOf_111 ?_
      refine ev_isub d12_valueOf_112 ?_
      obtain ⟨y40, e41, hf⟩ := lt_some hf
      refine ev_nmI e41 ?_
      refine ev_istore (lv2 := [(6, .int y40), (0, .ref v0), (2, .int v2), (4, .int v4), (5, .int v5)]) (i := 6) (by decide) rfl d12_valueOf_113 ?_
      refine ev_aload_n (j := 0) (i := 0) (q := 1) rfl rfl d12_valueOf_115 ?_
      obtain ⟨b42, e43, hf⟩ := lt_some hf
      obtain ⟨h44, hf⟩ := gd_some hf
      refine ev_getRb cls12 (j := 4) (by decide) rfl w1255 h30 e43 (nz_ne h44) d12_valueOf_116 ?_
      refine ev_iload (i := 4) (q := 3) rfl d12_valueOf_119 ?_
      refine ev_iload (i := 5) (q := 4) rfl d12_valueOf_121 ?_
      refine ev_iadd d12_valueOf_123 ?_
      refine ev_iconst ci_1 d12_valueOf_124 ?_
      refine ev_iadd d12_valueOf_125 ?_
      obtain ⟨h45, hf⟩ := gd_some hf
      obtain ⟨h46, hf⟩ := gd_some hf
      refine ev_iald h45 h46 d12_valueOf_126 ?_
      refine ev_aload_n (j := 0) (i := 0) (q := 1) rfl rfl d12_valueOf_127 ?_
      refine ev_getRb cls12 (j := 4) (by decide) rfl w1255 h30 e43 (nz_ne h44) d12_valueOf_128 ?_
      refine ev_iload (i := 4) (q := 3) rfl d12_valueOf_131 ?_
      refine ev_iload (i := 5) (q := 4) rfl d12_valueOf_133 ?_
      refine ev_iadd d12_valueOf_135 ?_
      obtain ⟨h47, hf⟩ := gd_some hf
      refine ev_iald h45 h47 d12_valueOf_136 ?_
      refine ev_isub d12_valueOf_137 ?_
      refine ev_iload_n (j := 2) (i := 2) (q := 2) rfl rfl d12_valueOf_138 ?_
      refine ev_aload_n (j := 0) (i := 0) (q := 1) rfl rfl d12_valueOf_139 ?_
      refine ev_getRb cls12 (j := 3) (by decide) rfl w1254 h30 e32 (nz_ne h33) d12_valueOf_140 ?_
      refine ev_iload (i := 4) (q := 3) rfl d12_valueOf_143 ?_
      refine ev_iload (i := 5) (q := 4) rfl d12_valueOf_145 ?_
      refine ev_iadd d12_valueOf_147 ?_
      refine ev_iald h34 h39 d12_valueOf_148 ?_
      refine ev_isub d12_valueOf_149 ?_
      refine ev_imul d12_valueOf_150 ?_
      obtain ⟨y48, e49, hf⟩ := lt_some hf
      refine ev_nmI e49 ?_
      refine ev_istore (lv2 := [(7, .int y48), (6, .int y40), (0, .ref v0), (2, .int v2), (4, .int v4), (5, .int v5)]) (i := 7) (by decide) rfl d12_valueOf_151 ?_
      refine ev_iload (i := 7) (q := 0) rfl d12_valueOf_153 ?_
      refine ev_iload (i := 6) (q := 1) rfl d12_valueOf_155 ?_
      obtain ⟨h50, hf⟩ := gd_some hf
      refine ev_idiv (nzI_ne h50) d12_valueOf_157 ?_
      obtain ⟨y51, e52, hf⟩ := lt_some hf
      refine ev_nmI e52 ?_
      refine ev_istore (lv2 := [(8, .int y51), (7, .int y48), (6, .int y40), (0, .ref v0), (2, .int v2), (4, .int v4), (5, .int v5)]) (i := 8) (by decide) rfl d12_valueOf_158 ?_
      refine ev_iload (i := 7) (q := 1) rfl d12_valueOf_160 ?_
      rcases ite_some hf with ⟨c53, hf⟩ | ⟨c53, hf⟩
      · refine ev_if_ge_P (tgt := 178) c53 (by decide) d12_valueOf_162 ?_
        refine ev_iload (i := 8) (q := 0) rfl d12_valueOf_165 ?_
        refine ev_iload (i := 6) (q := 2) rfl d12_valueOf_167 ?_
        refine ev_imul d12_valueOf_169 ?_
        refine ev_iload (i := 7) (q := 1) rfl d12_valueOf_170 ?_
        rcases ite_some hf with ⟨c54, hf⟩ | ⟨c54, hf⟩
        · refine ev_icmp_eq_P (tgt := 178) c54 (by decide) d12_valueOf_172 ?_
          exact Ev.sub [3, 5, 6, 0] rfl (s12_valueOf_p178 _ _ _ _ _ _ _ hf)
        · refine ev_icmp_eq_Q (tgt := 178) c54 (by decide) d12_valueOf_172 ?_
          obtain ⟨y55, e56, hf⟩ := lt_some hf
          refine ev_iinc (lv2 := [(8, .int y55), (7, .int y48), (6, .int y40), (0, .ref v0), (2, .int v2), (4, .int v4), (5, .int v5)]) (i := 8) (q := 0) (v := y55) (n := -1) rfl (by rw [ci_m1]; exact e56.symm) (by decide) rfl d12_valueOf_175 ?_
          exact Ev.sub [3, 5, 6, 0] rfl (s12_valueOf_p178 _ _ _ _ _ _ _ hf)
      · refine ev_if_ge_Q (tgt := 178) c53 (by decide) d12_valueOf_162 ?_
        exact Ev.sub [3, 5, 6, 0] rfl (s12_valueOf_p178 _ _ _ _ _ _ _ hf)
def f12_valueOf (σ : St) (v0 : Nat) (v1 : Int32) (v2 : Int32) : Option (Int32 × St) :=
  gd (ob σ v0 12) (
  lt (sR σ v0 2) fun b2 => (
  gd (nz b2) (
  gd (ob σ b2 14) (
  gd (inb σ b2 v1) (
  lt (sI σ b2 (ix v1)) fun y7 => (
  lt ((8 : Int32) * v1) fun y9 => (
  (if y7 = (0 : Int32) then
  some ((0 : Int32), σ)
  else
  lt (sR σ v0 3) fun b12 => (
  gd (nz b12) (
  gd (ob σ b12 14) (
  gd (inb σ b12 y9) (
  (if v2 ≤ (sI σ b12 (ix y9)) then
  lt (sR σ v0 4) fun b18 => (
  gd (nz b18) (
  gd (ob σ b18 14) (
  gd (inb σ b18 y9) (
  some (sI σ b18 (ix y9), σ)))))
  else
  gd (inb σ b12 ((y9 + y7) - (1 : Int32))) (
  (if v2 < (sI σ b12 (ix ((y9 + y7) - (1 : Int32)))) then
  f12_valueOf_p68 FU σ v0 v2 y9 (0 : Int32)
  else
  lt (sR σ v0 4) fun b25 => (
  gd (nz b25) (
  gd (ob σ b25 14) (
  gd (inb σ b25 ((y9 + y7) - (1 : Int32))) (
  some (sI σ b25 (ix ((y9 + y7) - (1 : Int32))), σ))))))))))))))))))))
set_option maxRecDepth 50000 in
theorem s12_valueOf : ∀ (σ : St) (v0 : Nat) (v1 : Int32) (v2 : Int32) (r : Int32) (τ : St), f12_valueOf σ v0 v1 v2 = some (r, τ) → Call 2 m12_valueOf [.ref v0, .int v1, .int v2] σ (some (.int r)) τ := by
  intro σ v0 v1 v2 r τ hf
  unfold f12_valueOf at hf
  refine Call.of (by decide +kernel) rfl (Nat.le_of_ble_eq_true rfl) ?_
  refine ev_aload_n (j := 0) (i := 0) (q := 0) rfl rfl d12_valueOf_0 ?_
  obtain ⟨h1, hf⟩ := gd_some hf
  obtain ⟨b2, e3, hf⟩ := lt_some hf
  obtain ⟨h4, hf⟩ := gd_some hf
  refine ev_getRb cls12 (j := 2) (by decide) rfl w1253 h1 e3 (nz_ne h4) d12_valueOf_1 ?_
  refine ev_iload_n (j := 1) (i := 1) (q := 1) rfl rfl d12_valueOf_4 ?_
  obtain ⟨h5, hf⟩ := gd_some hf
  obtain ⟨h6, hf⟩ := gd_some hf
  refine ev_iald h5 h6 d12_valueOf_5 ?_
  obtain ⟨y7, e8, hf⟩ := lt_some hf
  refine ev_nmI e8 ?_
  refine ev_istore_n (lv2 := [(3, .int y7), (0, .ref v0), (1, .int v1), (2, .int v2)]) (j := 3) (i := 3) rfl (by decide) rfl d12_valueOf_6 ?_
  refine ev_bipush cb_8 d12_valueOf_7 ?_
  refine ev_iload_n (j := 1) (i := 1) (q := 2) rfl rfl d12_valueOf_9 ?_
  refine ev_imul d12_valueOf_10 ?_
  obtain ⟨y9, e10, hf⟩ := lt_some hf
  refine ev_nmI e10 ?_
  refine ev_istore (lv2 := [(4, .int y9), (3, .int y7), (0, .ref v0), (1, .int v1), (2, .int v2)]) (i := 4) (by decide) rfl d12_valueOf_11 ?_
  refine ev_iload_n (j := 3) (i := 3) (q := 1) rfl rfl d12_valueOf_13 ?_
  rcases ite_some hf with ⟨c11, hf⟩ | ⟨c11, hf⟩
  · refine ev_if_ne_P (tgt := 19) c11 (by decide) d12_valueOf_14 ?_
    refine ev_iconst ci_0 d12_valueOf_17 ?_
    obtain ⟨rfl, rfl⟩ := ret_some hf
    exact ev_iret rfl d12_valueOf_18
  · refine ev_if_ne_Q (tgt := 19) c11 (by decide) d12_valueOf_14 ?_
    refine ev_iload_n (j := 2) (i := 2) (q := 4) rfl rfl d12_valueOf_19 ?_
    refine ev_aload_n (j := 0) (i := 0) (q := 2) rfl rfl d12_valueOf_20 ?_
    obtain ⟨b12, e13, hf⟩ := lt_some hf
    obtain ⟨h14, hf⟩ := gd_some hf
    refine ev_getRb cls12 (j := 3) (by decide) rfl w1254 h1 e13 (nz_ne h14) d12_valueOf_21 ?_
    refine ev_iload (i := 4) (q := 0) rfl d12_valueOf_24 ?_
    obtain ⟨h15, hf⟩ := gd_some hf
    obtain ⟨h16, hf⟩ := gd_some hf
    refine ev_iald h15 h16 d12_valueOf_26 ?_
    rcases ite_some hf with ⟨c17, hf⟩ | ⟨c17, hf⟩
    · refine ev_icmp_gt_P (tgt := 38) c17 (by decide) d12_valueOf_27 ?_
      refine ev_aload_n (j := 0) (i := 0) (q := 2) rfl rfl d12_valueOf_30 ?_
      obtain ⟨b18, e19, hf⟩ := lt_some hf
      obtain ⟨h20, hf⟩ := gd_some hf
      refine ev_getRb cls12 (j := 4) (by decide) rfl w1255 h1 e19 (nz_ne h20) d12_valueOf_31 ?_
      refine ev_iload (i := 4) (q := 0) rfl d12_valueOf_34 ?_
      obtain ⟨h21, hf⟩ := gd_some hf
      obtain ⟨h22, hf⟩ := gd_some hf
      refine ev_iald h21 h22 d12_valueOf_36 ?_
      obtain ⟨rfl, rfl⟩ := ret_some hf
      exact ev_iret rfl d12_valueOf_37
    · refine ev_icmp_gt_Q (tgt := 38) c17 (by decide) d12_valueOf_27 ?_
      refine ev_iload_n (j := 2) (i := 2) (q := 4) rfl rfl d12_valueOf_38 ?_
      refine ev_aload_n (j := 0) (i := 0) (q := 2) rfl rfl d12_valueOf_39 ?_
      refine ev_getRb cls12 (j := 3) (by decide) rfl w1254 h1 e13 (nz_ne h14) d12_valueOf_40 ?_
      refine ev_iload (i := 4) (q := 0) rfl d12_valueOf_43 ?_
      refine ev_iload_n (j := 3) (i := 3) (q := 1) rfl rfl d12_valueOf_45 ?_
      refine ev_iadd d12_valueOf_46 ?_
      refine ev_iconst ci_1 d12_valueOf_47 ?_
      refine ev_isub d12_valueOf_48 ?_
      obtain ⟨h23, hf⟩ := gd_some hf
      refine ev_iald h15 h23 d12_valueOf_49 ?_
      rcases ite_some hf with ⟨c24, hf⟩ | ⟨c24, hf⟩
      · refine ev_icmp_lt_P (tgt := 65) c24 (by decide) d12_valueOf_50 ?_
        refine ev_iconst ci_0 d12_valueOf_65 ?_
        refine ev_istore (lv2 := [(5, .int (0 : Int32)), (4, .int y9), (3, .int y7), (0, .ref v0), (1, .int v1), (2, .int v2)]) (i := 5) (by decide) rfl d12_valueOf_66 ?_
        exact Ev.sub [3, 5, 1, 0] rfl (s12_valueOf_p68 FU _ _ _ _ _ _ _ hf)
      · refine ev_icmp_lt_Q (tgt := 65) c24 (by decide) d12_valueOf_50 ?_
        refine ev_aload_n (j := 0) (i := 0) (q := 2) rfl rfl d12_valueOf_53 ?_
        obtain ⟨b25, e26, hf⟩ := lt_some hf
        obtain ⟨h27, hf⟩ := gd_some hf
        refine ev_getRb cls12 (j := 4) (by decide) rfl w1255 h1 e26 (nz_ne h27) d12_valueOf_54 ?_
        refine ev_iload (i := 4) (q := 0) rfl d12_valueOf_57 ?_
        refine ev_iload_n (j := 3) (i := 3) (q := 1) rfl rfl d12_valueOf_59 ?_
        refine ev_iadd d12_valueOf_60 ?_
        refine ev_iconst ci_1 d12_valueOf_61 ?_
        refine ev_isub d12_valueOf_62 ?_
        obtain ⟨h28, hf⟩ := gd_some hf
        obtain ⟨h29, hf⟩ := gd_some hf
        refine ev_iald h28 h29 d12_valueOf_63 ?_
        obtain ⟨rfl, rfl⟩ := ret_some hf
        exact ev_iret rfl d12_valueOf_64
abbrev m12_value : MD := ("MillBoatsModel", ⟨"MillBoatsModel", "value", "(II)I"⟩, prog_14_method_8_code, 3, (some Jvm.ClassFile.FieldType.int))
theorem k12_value : okY m12_value.2.1 2 := ⟨by decide +kernel, by decide +kernel, by decide +kernel⟩
def f12_value (σ : St) (v0 : Nat) (v1 : Int32) (v2 : Int32) : Option (Int32 × St) :=
  gd (ob σ v0 12) (
  lt (wI σ v0 0 (0 : Int32)) fun t2 => (
  bd (f12_within t2 v1 (0 : Int32) (6 : Int32)) fun r4 t5 => (
  (if r4 = (0 : Int32) then
  some ((-1 : Int32), t5)
  else
  bd (f12_valueOf t5 v0 v1 v2) fun r9 t10 => (
  some (r9, t10))))))
set_option maxRecDepth 50000 in
theorem s12_value : ∀ (σ : St) (v0 : Nat) (v1 : Int32) (v2 : Int32) (r : Int32) (τ : St), f12_value σ v0 v1 v2 = some (r, τ) → Call 3 m12_value [.ref v0, .int v1, .int v2] σ (some (.int r)) τ := by
  intro σ v0 v1 v2 r τ hf
  unfold f12_value at hf
  refine Call.of (by decide +kernel) rfl (Nat.le_of_ble_eq_true rfl) ?_
  refine ev_aload_n (j := 0) (i := 0) (q := 0) rfl rfl d12_value_0 ?_
  refine ev_iconst ci_0 d12_value_1 ?_
  obtain ⟨h1, hf⟩ := gd_some hf
  obtain ⟨t2, e3, hf⟩ := lt_some hf
  refine ev_putI cls12 (j := 0) (by decide) rfl rfl w1251 h1 (fun _ => ⟨rfl, rfl⟩) d12_value_2 (ev_nmS e3 ?_)
  refine ev_iload_n (j := 1) (i := 1) (q := 1) rfl rfl d12_value_5 ?_
  refine ev_iconst ci_0 d12_value_6 ?_
  refine ev_bipush cb_6 d12_value_7 ?_
  obtain ⟨r4, t5, k6, hf⟩ := bd_some hf
  have q7 := s12_within _ _ _ _ _ _ k6
  refine ev_callS (vs := [.int v1, .int (0 : Int32), .int (6 : Int32)]) (sk := []) q7 (by decide) (Nat.le_of_ble_eq_true rfl) w1497 w1498 w19 w1499 k12_within rfl (Nat.le_of_ble_eq_true rfl) d12_value_9 ?_
  rcases ite_some hf with ⟨c8, hf⟩ | ⟨c8, hf⟩
  · refine ev_if_eq_P (tgt := 24) c8 (by decide) d12_value_12 ?_
    refine ev_iconst ci_m1 d12_value_24 ?_
    obtain ⟨rfl, rfl⟩ := ret_some hf
    exact ev_iret rfl d12_value_25
  · refine ev_if_eq_Q (tgt := 24) c8 (by decide) d12_value_12 ?_
    refine ev_aload_n (j := 0) (i := 0) (q := 0) rfl rfl d12_value_15 ?_
    refine ev_iload_n (j := 1) (i := 1) (q := 1) rfl rfl d12_value_16 ?_
    refine ev_iload_n (j := 2) (i := 2) (q := 2) rfl rfl d12_value_17 ?_
    obtain ⟨r9, t10, k11, hf⟩ := bd_some hf
    have q12 := s12_valueOf _ _ _ _ _ _ k11
    refine ev_callV (vs := [.int v1, .int v2]) (sk := []) cls12 (mono_ob q7.1 (mono_ob (mono_eI e3) h1)) q12 (by decide) (Nat.le_of_ble_eq_true rfl) w1508 w1510 ws51 w19 w1511 k12_valueOf rfl (Nat.le_of_ble_eq_true rfl) d12_value_18 ?_
    refine ev_goto (tgt := 25) (by decide) d12_value_21 ?_
    obtain ⟨rfl, rfl⟩ := ret_some hf
    exact ev_iret rfl d12_value_25
abbrev m12_depth : MD := ("MillBoatsModel", ⟨"MillBoatsModel", "depth", "(II)I"⟩, prog_14_method_9_code, 3, (some Jvm.ClassFile.FieldType.int))
theorem k12_depth : okY m12_depth.2.1 2 := ⟨by decide +kernel, by decide +kernel, by decide +kernel⟩
def f12_depth (σ : St) (v0 : Nat) (v1 : Int32) (v2 : Int32) : Option (Int32 × St) :=
  gd (ob σ v0 12) (
  lt (sR σ v0 1) fun b2 => (
  gd (nz b2) (
  gd (ob σ b2 14) (
  gd (inb σ b2 v1) (
  (if v2 ≤ (sI σ b2 (ix v1)) then
  some ((0 : Int32), σ)
  else
  some (v2 - (sI σ b2 (ix v1)), σ)))))))
set_option maxRecDepth 50000 in
theorem s12_depth : ∀ (σ : St) (v0 : Nat) (v1 : Int32) (v2 : Int32) (r : Int32) (τ : St), f12_depth σ v0 v1 v2 = some (r, τ) → Call 2 m12_depth [.ref v0, .int v1, .int v2] σ (some (.int r)) τ := by
  intro σ v0 v1 v2 r τ hf
  unfold f12_depth at hf
  refine Call.of (by decide +kernel) rfl (Nat.le_of_ble_eq_true rfl) ?_
  refine ev_iload_n (j := 2) (i := 2) (q := 2) rfl rfl d12_depth_0 ?_
  refine ev_aload_n (j := 0) (i := 0) (q := 0) rfl rfl d12_depth_1 ?_
  obtain ⟨h1, hf⟩ := gd_some hf
  obtain ⟨b2, e3, hf⟩ := lt_some hf
  obtain ⟨h4, hf⟩ := gd_some hf
  refine ev_getRb cls12 (j := 1) (by decide) rfl w1252 h1 e3 (nz_ne h4) d12_depth_2 ?_
  refine ev_iload_n (j := 1) (i := 1) (q := 1) rfl rfl d12_depth_5 ?_
  obtain ⟨h5, hf⟩ := gd_some hf
  obtain ⟨h6, hf⟩ := gd_some hf
  refine ev_iald h5 h6 d12_depth_6 ?_
  rcases ite_some hf with ⟨c7, hf⟩ | ⟨c7, hf⟩
  · refine ev_icmp_le_P (tgt := 21) c7 (by decide) d12_depth_7 ?_
    refine ev_iconst ci_0 d12_depth_21 ?_
    obtain ⟨rfl, rfl⟩ := ret_some hf
    exact ev_iret rfl d12_depth_22
  · refine ev_icmp_le_Q (tgt := 21) c7 (by decide) d12_depth_7 ?_
    refine ev_iload_n (j := 2) (i := 2) (q := 2) rfl rfl d12_depth_10 ?_
    refine ev_aload_n (j := 0) (i := 0) (q := 0) rfl rfl d12_depth_11 ?_
    refine ev_getRb cls12 (j := 1) (by decide) rfl w1252 h1 e3 (nz_ne h4) d12_depth_12 ?_
    refine ev_iload_n (j := 1) (i := 1) (q := 1) rfl rfl d12_depth_15 ?_
    refine ev_iald h5 h6 d12_depth_16 ?_
    refine ev_isub d12_depth_17 ?_
    refine ev_goto (tgt := 22) (by decide) d12_depth_18 ?_
    obtain ⟨rfl, rfl⟩ := ret_some hf
    exact ev_iret rfl d12_depth_22
abbrev m12_mill : MD := ("MillBoatsModel", ⟨"MillBoatsModel", "mill", "(III)I"⟩, prog_14_method_10_code, 4, (some Jvm.ClassFile.FieldType.int))
theorem k12_mill : okY m12_mill.2.1 3 := ⟨by decide +kernel, by decide +kernel, by decide +kernel⟩
def f12_mill (σ : St) (v0 : Nat) (v1 : Int32) (v2 : Int32) (v3 : Int32) : Option (Int32 × St) :=
  gd (ob σ v0 12) (
  lt (wI σ v0 0 (0 : Int32)) fun t2 => (
  bd (f12_within t2 v1 (1 : Int32) (9 : Int32)) fun r4 t5 => (
  (if r4 = (0 : Int32) then
  some ((-1 : Int32), t5)
  else
  bd (f12_within t5 v2 (1 : Int32) (90 : Int32)) fun r9 t10 => (
  (if r9 = (0 : Int32) then
  some ((-1 : Int32), t10)
  else
  bd (f12_within t10 v3 (1 : Int32) (2000 : Int32)) fun r14 t15 => (
  (if r14 = (0 : Int32) then
  some ((-1 : Int32), t15)
  else
  (if (sI t15 v0 5) = (6 : Int32) then
  some ((-1 : Int32), t15)
  else
  lt (sR t15 v0 6) fun b20 => (
  gd (nz b20) (
  gd (ob t15 b20 14) (
  gd (inb t15 b20 (sI t15 v0 5)) (
  lt (wI t15 b20 (ix (sI t15 v0 5)) v1) fun t25 => (
  lt (sR t25 v0 7) fun b27 => (
  gd (nz b27) (
  gd (ob t25 b27 14) (
  gd (inb t25 b27 (sI t25 v0 5)) (
  lt (wI t25 b27 (ix (sI t25 v0 5)) v2) fun t32 => (
  lt (sR t32 v0 8) fun b34 => (
  gd (nz b34) (
  gd (ob t32 b34 14) (
  gd (inb t32 b34 (sI t32 v0 5)) (
  lt (wI t32 b34 (ix (sI t32 v0 5)) v3) fun t39 => (
  lt (sR t39 v0 9) fun b41 => (
  gd (nz b41) (
  gd (ob t39 b41 14) (
  gd (inb t39 b41 (sI t39 v0 5)) (
  lt (wI t39 b41 (ix (sI t39 v0 5)) (-1 : Int32)) fun t46 => (
  lt (sR t46 v0 13) fun b48 => (
  gd (nz b48) (
  gd (ob t46 b48 14) (
  gd (inb t46 b48 (sI t46 v0 5)) (
  lt (wI t46 b48 (ix (sI t46 v0 5)) (-1 : Int32)) fun t53 => (
  lt (wI t53 v0 5 ((sI t53 v0 5) + (1 : Int32))) fun t55 => (
  some ((sI t55 v0 5) - (1 : Int32), t55))))))))))))))))))))))))))))))))))))
set_option maxRecDepth 50000 in
theorem s12_mill : ∀ (σ : St) (v0 : Nat) (v1 : Int32) (v2 : Int32) (v3 : Int32) (r : Int32) (τ : St), f12_mill σ v0 v1 v2 v3 = some (r, τ) → Call 3 m12_mill [.ref v0, .int v1, .int v2, .int v3] σ (some (.int r)) τ := by
  intro σ v0 v1 v2 v3 r τ hf
  unfold f12_mill at hf
  refine Call.of (by decide +kernel) rfl (Nat.le_of_ble_eq_true rfl) ?_
  refine ev_aload_n (j := 0) (i := 0) (q := 0) rfl rfl d12_mill_0 ?_
  refine ev_iconst ci_0 d12_mill_1 ?_
  obtain ⟨h1, hf⟩ := gd_some hf
  obtain ⟨t2, e3, hf⟩ := lt_some hf
  refine ev_putI cls12 (j := 0) (by decide) rfl rfl w1251 h1 (fun _ => ⟨rfl, rfl⟩) d12_mill_2 (ev_nmS e3 ?_)
  refine ev_iload_n (j := 1) (i := 1) (q := 1) rfl rfl d12_mill_5 ?_
  refine ev_iconst ci_1 d12_mill_6 ?_
  refine ev_bipush cb_9 d12_mill_7 ?_
  obtain ⟨r4, t5, k6, hf⟩ := bd_some hf
  have q7 := s12_within _ _ _ _ _ _ k6
  refine ev_callS (vs := [.int v1, .int (1 : Int32), .int (9 : Int32)]) (sk := []) q7 (by decide) (Nat.le_of_ble_eq_true rfl) w1497 w1498 w19 w1499 k12_within rfl (Nat.le_of_ble_eq_true rfl) d12_mill_9 ?_
  rcases ite_some hf with ⟨c8, hf⟩ | ⟨c8, hf⟩
  · refine ev_if_eq_P (tgt := 45) c8 (by decide) d12_mill_12 ?_
    refine ev_iconst ci_m1 d12_mill_45 ?_
    obtain ⟨rfl, rfl⟩ := ret_some hf
    exact ev_iret rfl d12_mill_46
  · refine ev_if_eq_Q (tgt := 45) c8 (by decide) d12_mill_12 ?_
    refine ev_iload_n (j := 2) (i := 2) (q := 2) rfl rfl d12_mill_15 ?_
    refine ev_iconst ci_1 d12_mill_16 ?_
    refine ev_bipush cb_90 d12_mill_17 ?_
    obtain ⟨r9, t10, k11, hf⟩ := bd_some hf
    have q12 := s12_within _ _ _ _ _ _ k11
    refine ev_callS (vs := [.int v2, .int (1 : Int32), .int (90 : Int32)]) (sk := []) q12 (by decide) (Nat.le_of_ble_eq_true rfl) w1497 w1498 w19 w1499 k12_within rfl (Nat.le_of_ble_eq_true rfl) d12_mill_19 ?_
    rcases ite_some hf with ⟨c13, hf⟩ | ⟨c13, hf⟩
    · refine ev_if_eq_P (tgt := 45) c13 (by decide) d12_mill_22 ?_
      refine ev_iconst ci_m1 d12_mill_45 ?_
      obtain ⟨rfl, rfl⟩ := ret_some hf
      exact ev_iret rfl d12_mill_46
    · refine ev_if_eq_Q (tgt := 45) c13 (by decide) d12_mill_22 ?_
      refine ev_iload_n (j := 3) (i := 3) (q := 3) rfl rfl d12_mill_25 ?_
      refine ev_iconst ci_1 d12_mill_26 ?_
      refine ev_sipush cs_2000 d12_mill_27 ?_
      obtain ⟨r14, t15, k16, hf⟩ := bd_some hf
      have q17 := s12_within _ _ _ _ _ _ k16
      refine ev_callS (vs := [.int v3, .int (1 : Int32), .int (2000 : Int32)]) (sk := []) q17 (by decide) (Nat.le_of_ble_eq_true rfl) w1497 w1498 w19 w1499 k12_within rfl (Nat.le_of_ble_eq_true rfl) d12_mill_30 ?_
      rcases ite_some hf with ⟨c18, hf⟩ | ⟨c18, hf⟩
      · refine ev_if_eq_P (tgt := 45) c18 (by decide) d12_mill_33 ?_
        refine ev_iconst ci_m1 d12_mill_45 ?_
        obtain ⟨rfl, rfl⟩ := ret_some hf
        exact ev_iret rfl d12_mill_46
      · refine ev_if_eq_Q (tgt := 45) c18 (by decide) d12_mill_33 ?_
        refine ev_aload_n (j := 0) (i := 0) (q := 0) rfl rfl d12_mill_36 ?_
        refine ev_getI cls12 (j := 5) (by decide) rfl w1256 (mono_ob q17.1 (mono_ob q12.1 (mono_ob q7.1 (mono_ob (mono_eI e3) h1)))) d12_mill_37 ?_
        refine ev_bipush cb_6 d12_mill_40 ?_
        rcases ite_some hf with ⟨c19, hf⟩ | ⟨c19, hf⟩
        · refine ev_icmp_ne_P (tgt := 47) c19 (by decide) d12_mill_42 ?_
          refine ev_iconst ci_m1 d12_mill_45 ?_
          obtain ⟨rfl, rfl⟩ := ret_some hf
          exact ev_iret rfl d12_mill_46
        · refine ev_icmp_ne_Q (tgt := 47) c19 (by decide) d12_mill_42 ?_
          refine ev_aload_n (j := 0) (i := 0) (q := 0) rfl rfl d12_mill_47 ?_
          obtain ⟨b20, e21, hf⟩ := lt_some hf
          obtain ⟨h22, hf⟩ := gd_some hf
          refine ev_getRb cls12 (j := 6) (by decide) rfl w1257 (mono_ob q17.1 (mono_ob q12.1 (mono_ob q7.1 (mono_ob (mono_eI e3) h1)))) e21 (nz_ne h22) d12_mill_48 ?_
          refine ev_aload_n (j := 0) (i := 0) (q := 0) rfl rfl d12_mill_51 ?_
          refine ev_getI cls12 (j := 5) (by decide) rfl w1256 (mono_ob q17.1 (mono_ob q12.1 (mono_ob q7.1 (mono_ob (mono_eI e3) h1)))) d12_mill_52 ?_
          refine ev_iload_n (j := 1) (i := 1) (q := 1) rfl rfl d12_mill_55 ?_
          obtain ⟨h23, hf⟩ := gd_some hf
          obtain ⟨h24, hf⟩ := gd_some hf
          obtain ⟨t25, e26, hf⟩ := lt_some hf
          refine ev_iast h23 h24 d12_mill_56 (ev_nmS e26 ?_)
          refine ev_aload_n (j := 0) (i := 0) (q := 0) rfl rfl d12_mill_57 ?_
          obtain ⟨b27, e28, hf⟩ := lt_some hf
          obtain ⟨h29, hf⟩ := gd_some hf
          refine ev_getRb cls12 (j := 7) (by decide) rfl w1258 (mono_ob (mono_eI e26) (mono_ob q17.1 (mono_ob q12.1 (mono_ob q7.1 (mono_ob (mono_eI e3) h1))))) e28 (nz_ne h29) d12_mill_58 ?_
          refine ev_aload_n (j := 0) (i := 0) (q := 0) rfl rfl d12_mill_61 ?_
          refine ev_getI cls12 (j := 5) (by decide) rfl w1256 (mono_ob (mono_eI e26) (mono_ob q17.1 (mono_ob q12.1 (mono_ob q7.1 (mono_ob (mono_eI e3) h1))))) d12_mill_62 ?_
          refine ev_iload_n (j := 2) (i := 2) (q := 2) rfl rfl d12_mill_65 ?_
          obtain ⟨h30, hf⟩ := gd_some hf
          obtain ⟨h31, hf⟩ := gd_some hf
          obtain ⟨t32, e33, hf⟩ := lt_some hf
          refine ev_iast h30 h31 d12_mill_66 (ev_nmS e33 ?_)
          refine ev_aload_n (j := 0) (i := 0) (q := 0) rfl rfl d12_mill_67 ?_
          obtain ⟨b34, e35, hf⟩ := lt_some hf
          obtain ⟨h36, hf⟩ := gd_some hf
          refine ev_getRb cls12 (j := 8) (by decide) rfl w1259 (mono_ob (mono_eI e33) (mono_ob (mono_eI e26) (mono_ob q17.1 (mono_ob q12.1 (mono_ob q7.1 (mono_ob (mono_eI e3) h1)))))) e35 (nz_ne h36) d12_mill_68 ?_
          refine ev_aload_n (j := 0) (i := 0) (q := 0) rfl rfl d12_mill_71 ?_
          refine ev_getI cls12 (j := 5) (by decide) rfl w1256 (mono_ob (mono_eI e33) (mono_ob (mono_eI e26) (mono_ob q17.1 (mono_ob q12.1 (mono_ob q7.1 (mono_ob (mono_eI e3) h1)))))) d12_mill_72 ?_
          refine ev_iload_n (j := 3) (i := 3) (q := 3) rfl rfl d12_mill_75 ?_
          obtain ⟨h37, hf⟩ := gd_some hf
          obtain ⟨h38, hf⟩ := gd_some hf
          obtain ⟨t39, e40, hf⟩ := lt_some hf
          refine ev_iast h37 h38 d12_mill_76 (ev_nmS e40 ?_)
          refine ev_aload_n (j := 0) (i := 0) (q := 0) rfl rfl d12_mill_77 ?_
          obtain ⟨b41, e42, hf⟩ := lt_some hf
          obtain ⟨h43, hf⟩ := gd_some hf
          refine ev_getRb cls12 (j := 9) (by decide) rfl w1260 (mono_ob (mono_eI e40) (mono_ob (mono_eI e33) (mono_ob (mono_eI e26) (mono_ob q17.1 (mono_ob q12.1 (mono_ob q7.1 (mono_ob (mono_eI e3) h1))))))) e42 (nz_ne h43) d12_mill_78 ?_
          refine ev_aload_n (j := 0) (i := 0) (q := 0) rfl rfl d12_mill_81 ?_
          refine ev_getI cls12 (j := 5) (by decide) rfl w1256 (mono_ob (mono_eI e40) (mono_ob (mono_eI e33) (mono_ob (mono_eI e26) (mono_ob q17.1 (mono_ob q12.1 (mono_ob q7.1 (mono_ob (mono_eI e3) h1))))))) d12_mill_82 ?_
          refine ev_iconst ci_m1 d12_mill_85 ?_
          obtain ⟨h44, hf⟩ := gd_some hf
          obtain ⟨h45, hf⟩ := gd_some hf
          obtain ⟨t46, e47, hf⟩ := lt_some hf
          refine ev_iast h44 h45 d12_mill_86 (ev_nmS e47 ?_)
          refine ev_aload_n (j := 0) (i := 0) (q := 0) rfl rfl d12_mill_87 ?_
          obtain ⟨b48, e49, hf⟩ := lt_some hf
          obtain ⟨h50, hf⟩ := gd_some hf
          refine ev_getRb cls12 (j := 13) (by decide) rfl w1264 (mono_ob (mono_eI e47) (mono_ob (mono_eI e40) (mono_ob (mono_eI e33) (mono_ob (mono_eI e26) (mono_ob q17.1 (mono_ob q12.1 (mono_ob q7.1 (mono_ob (mono_eI e3) h1)))))))) e49 (nz_ne h50) d12_mill_88 ?_
          refine ev_aload_n (j := 0) (i := 0) (q := 0) rfl rfl d12_mill_91 ?_
          refine ev_getI cls12 (j := 5) (by decide) rfl w1256 (mono_ob (mono_eI e47) (mono_ob (mono_eI e40) (mono_ob (mono_eI e33) (mono_ob (mono_eI e26) (mono_ob q17.1 (mono_ob q12.1 (mono_ob q7.1 (mono_ob (mono_eI e3) h1)))))))) d12_mill_92 ?_
          refine ev_iconst ci_m1 d12_mill_95 ?_
          obtain ⟨h51, hf⟩ := gd_some hf
          obtain ⟨h52, hf⟩ := gd_some hf
          obtain ⟨t53, e54, hf⟩ := lt_some hf
          refine ev_iast h51 h52 d12_mill_96 (ev_nmS e54 ?_)
          refine ev_aload_n (j := 0) (i := 0) (q := 0) rfl rfl d12_mill_97 ?_
          refine ev_dup rfl d12_mill_98 ?_
          refine ev_getI cls12 (j := 5) (by decide) rfl w1256 (mono_ob (mono_eI e54) (mono_ob (mono_eI e47) (mono_ob (mono_eI e40) (mono_ob (mono_eI e33) (mono_ob (mono_eI e26) (mono_ob q17.1 (mono_ob q12.1 (mono_ob q7.1 (mono_ob (mono_eI e3) h1))))))))) d12_mill_99 ?_
          refine ev_iconst ci_1 d12_mill_102 ?_
          refine ev_iadd d12_mill_103 ?_
          obtain ⟨t55, e56, hf⟩ := lt_some hf
          refine ev_putI cls12 (j := 5) (by decide) rfl rfl w1256 (mono_ob (mono_eI e54) (mono_ob (mono_eI e47) (mono_ob (mono_eI e40) (mono_ob (mono_eI e33) (mono_ob (mono_eI e26) (mono_ob q17.1 (mono_ob q12.1 (mono_ob q7.1 (mono_ob (mono_eI e3) h1))))))))) (fun _ => ⟨rfl, rfl⟩) d12_mill_104 (ev_nmS e56 ?_)
          refine ev_aload_n (j := 0) (i := 0) (q := 0) rfl rfl d12_mill_107 ?_
          refine ev_getI cls12 (j := 5) (by decide) rfl w1256 (mono_ob (mono_eI e56) (mono_ob (mono_eI e54) (mono_ob (mono_eI e47) (mono_ob (mono_eI e40) (mono_ob (mono_eI e33) (mono_ob (mono_eI e26) (mono_ob q17.1 (mono_ob q12.1 (mono_ob q7.1 (mono_ob (mono_eI e3) h1)))))))))) d12_mill_108 ?_
          refine ev_iconst ci_1 d12_mill_111 ?_
          refine ev_isub d12_mill_112 ?_
          obtain ⟨rfl, rfl⟩ := ret_some hf
          exact ev_iret rfl d12_mill_113
abbrev m12_isMill : MD := ("MillBoatsModel", ⟨"MillBoatsModel", "isMill", "(I)Z"⟩, prog_14_method_11_code, 2, (some Jvm.ClassFile.FieldType.boolean))
theorem k12_isMill : okY m12_isMill.2.1 1 := ⟨by decide +kernel, by decide +kernel, by decide +kernel⟩
def f12_isMill (σ : St) (v0 : Nat) (v1 : Int32) : Option (Int32 × St) :=
  (if v1 < (0 : Int32) then
  some ((0 : Int32), σ)
  else
  gd (ob σ v0 12) (
  (if v1 < (sI σ v0 5) then
  some ((1 : Int32), σ)
  else
  some ((0 : Int32), σ))))
set_option maxRecDepth 50000 in
theorem s12_isMill : ∀ (σ : St) (v0 : Nat) (v1 : Int32) (r : Int32) (τ : St), f12_isMill σ v0 v1 = some (r, τ) → Call 2 m12_isMill [.ref v0, .int v1] σ (some (.int r)) τ := by
  intro σ v0 v1 r τ hf
  unfold f12_isMill at hf
  refine Call.of (by decide +kernel) rfl (Nat.le_of_ble_eq_true rfl) ?_
  refine ev_iload_n (j := 1) (i := 1) (q := 1) rfl rfl d12_isMill_0 ?_
  rcases ite_some hf with ⟨c1, hf⟩ | ⟨c1, hf⟩
  · refine ev_if_lt_P (tgt := 16) c1 (by decide) d12_isMill_1 ?_
    refine ev_iconst ci_0 d12_isMill_16 ?_
    obtain ⟨rfl, rfl⟩ := ret_some hf
    exact ev_zret rfl (by decide) d12_isMill_17
  · refine ev_if_lt_Q (tgt := 16) c1 (by decide) d12_isMill_1 ?_
    refine ev_iload_n (j := 1) (i := 1) (q := 1) rfl rfl d12_isMill_4 ?_
    refine ev_aload_n (j := 0) (i := 0) (q := 0) rfl rfl d12_isMill_5 ?_
    obtain ⟨h2, hf⟩ := gd_some hf
    refine ev_getI cls12 (j := 5) (by decide) rfl w1256 h2 d12_isMill_6 ?_
    rcases ite_some hf with ⟨c3, hf⟩ | ⟨c3, hf⟩
    · refine ev_icmp_ge_P (tgt := 16) c3 (by decide) d12_isMill_9 ?_
      refine ev_iconst ci_1 d12_isMill_12 ?_
      refine ev_goto (tgt := 17) (by decide) d12_isMill_13 ?_
      obtain ⟨rfl, rfl⟩ := ret_some hf
      exact ev_zret rfl (by decide) d12_isMill_17
    · refine ev_icmp_ge_Q (tgt := 16) c3 (by decide) d12_isMill_9 ?_
      refine ev_iconst ci_0 d12_isMill_16 ?_
      obtain ⟨rfl, rfl⟩ := ret_some hf
      exact ev_zret rfl (by decide) d12_isMill_17
abbrev m12_millAt : MD := ("MillBoatsModel", ⟨"MillBoatsModel", "millAt", "(I)I"⟩, prog_14_method_12_code, 3, (some Jvm.ClassFile.FieldType.int))
theorem k12_millAt : okY m12_millAt.2.1 1 := ⟨by decide +kernel, by decide +kernel, by decide +kernel⟩
def f12_millAt_p2 : Nat → St → Nat → Int32 → Int32 → Option (Int32 × St)
  | 0, _, _, _, _ => none
  | n + 1, σ, v0, v1, v2 =>
  gd (ob σ v0 12) (
  (if v2 < (sI σ v0 5) then
  lt (sR σ v0 9) fun b3 => (
  gd (nz b3) (
  gd (ob σ b3 14) (
  gd (inb σ b3 v2) (
  (if (sI σ b3 (ix v2)) = v1 then
  some (v2, σ)
  else
  lt (v2 + (1 : Int32)) fun y9 => (
  (f12_millAt_p2 n) σ v0 v1 y9))))))
  else
  some ((-1 : Int32), σ)))
set_option maxRecDepth 20000 in
theorem s12_millAt_p2 : ∀ (n : Nat) (σ : St) (v0 : Nat) (v1 : Int32) (v2 : Int32) (r : Int32) (τ : St), f12_millAt_p2 n σ v0 v1 v2 = some (r, τ) → Ev 2 m12_millAt 2 [(0, .ref v0), (1, .int v1), (2, .int v2)] [] σ (some (.int r)) τ := by
  intro n
  induction n with
  | zero =>
    intro σ v0 v1 v2 r τ hf
    cases hf
  | succ n ih =>
    intro σ v0 v1 v2 r τ hf
    rw [f12_millAt_p2] at hf
    refine ev_iload_n (j := 2) (i := 2) (q := 2) rfl rfl d12_millAt_2 ?_
    refine ev_aload_n (j := 0) (i := 0) (q := 0) rfl rfl d12_millAt_3 ?_
    obtain ⟨h1, hf⟩ := gd_some hf
    refine ev_getI cls12 (j := 5) (by decide) rfl w1256 h1 d12_millAt_4 ?_
    rcases ite_some hf with ⟨c2, hf⟩ | ⟨c2, hf⟩
    · refine ev_icmp_ge_P (tgt := 28) c2 (by decide) d12_millAt_7 ?_
      refine ev_aload_n (j := 0) (i := 0) (q := 0) rfl rfl d12_millAt_10 ?_
      obtain ⟨b3, e4, hf⟩ := lt_some hf
      obtain ⟨h5, hf⟩ := gd_some hf
      refine ev_getRb cls12 (j := 9) (by decide) rfl w1260 h1 e4 (nz_ne h5) d12_millAt_11 ?_
      refine ev_iload_n (j := 2) (i := 2) (q := 2) rfl rfl d12_millAt_14 ?_
      obtain ⟨h6, hf⟩ := gd_some hf
      obtain ⟨h7, hf⟩ := gd_some hf
      refine ev_iald h6 h7 d12_millAt_15 ?_
      refine ev_iload_n (j := 1) (i := 1) (q := 1) rfl rfl d12_millAt_16 ?_
      rcases ite_some hf with ⟨c8, hf⟩ | ⟨c8, hf⟩
      · refine ev_icmp_ne_P (tgt := 22) c8 (by decide) d12_millAt_17 ?_
        refine ev_iload_n (j := 2) (i := 2) (q := 2) rfl rfl d12_millAt_20 ?_
        obtain ⟨rfl, rfl⟩ := ret_some hf
        exact ev_iret rfl d12_millAt_21
      · refine ev_icmp_ne_Q (tgt := 22) c8 (by decide) d12_millAt_17 ?_
        obtain ⟨y9, e10, hf⟩ := lt_some hf
        refine ev_iinc (lv2 := [(2, .int y9), (0, .ref v0), (1, .int v1)]) (i := 2) (q := 2) (v := y9) (n := 1) rfl (by rw [ci_1]; exact e10.symm) (by decide) rfl d12_millAt_22 ?_
        refine ev_goto (tgt := 2) (by decide) d12_millAt_25 ?_
        exact Ev.sub [1, 2, 0] rfl (ih _ _ _ _ _ _ hf)
    · refine ev_icmp_ge_Q (tgt := 28) c2 (by decide) d12_millAt_7 ?_
      refine ev_iconst ci_m1 d12_millAt_28 ?_
      obtain ⟨rfl, rfl⟩ := ret_some hf
      exact ev_iret rfl d12_millAt_29
def f12_millAt (σ : St) (v0 : Nat) (v1 : Int32) : Option (Int32 × St) :=
  f12_millAt_p2 FU σ v0 v1 (0 : Int32)
set_option maxRecDepth 50000 in
theorem s12_millAt : ∀ (σ : St) (v0 : Nat) (v1 : Int32) (r : Int32) (τ : St), f12_millAt σ v0 v1 = some (r, τ) → Call 2 m12_millAt [.ref v0, .int v1] σ (some (.int r)) τ := by
  intro σ v0 v1 r τ hf
  unfold f12_millAt at hf
  refine Call.of (by decide +kernel) rfl (Nat.le_of_ble_eq_true rfl) ?_
  refine ev_iconst ci_0 d12_millAt_0 ?_
  refine ev_istore_n (lv2 := [(2, .int (0 : Int32)), (0, .ref v0), (1, .int v1)]) (j := 2) (i := 2) rfl (by decide) rfl d12_millAt_1 ?_
  exact Ev.sub [1, 2, 0] rfl (s12_millAt_p2 FU _ _ _ _ _ _ hf)
abbrev m12_moor : MD := ("MillBoatsModel", ⟨"MillBoatsModel", "moor", "(II)I"⟩, prog_14_method_13_code, 4, (some Jvm.ClassFile.FieldType.int))
theorem k12_moor : okY m12_moor.2.1 2 := ⟨by decide +kernel, by decide +kernel, by decide +kernel⟩
def f12_moor_p69 (σ : St) (v0 : Nat) (v1 : Int32) (v2 : Int32) : Option (Int32 × St) :=
  gd (ob σ v0 12) (
  lt (sR σ v0 9) fun b30 => (
  gd (nz b30) (
  gd (ob σ b30 14) (
  gd (inb σ b30 v1) (
  lt (wI σ b30 (ix v1) v2) fun t35 => (
  some ((0 : Int32), t35)))))))
set_option maxRecDepth 20000 in
theorem s12_moor_p69 : ∀ (σ : St) (v0 : Nat) (v1 : Int32) (v2 : Int32) (r : Int32) (τ : St), f12_moor_p69 σ v0 v1 v2 = some (r, τ) → Ev 3 m12_moor 69 [(0, .ref v0), (1, .int v1), (2, .int v2)] [] σ (some (.int r)) τ := by
  intro σ v0 v1 v2 r τ hf
  unfold f12_moor_p69 at hf
  refine ev_aload_n (j := 0) (i := 0) (q := 0) rfl rfl d12_moor_69 ?_
  obtain ⟨h29, hf⟩ := gd_some hf
  obtain ⟨b30, e31, hf⟩ := lt_some hf
  obtain ⟨h32, hf⟩ := gd_some hf
  refine ev_getRb cls12 (j := 9) (by decide) rfl w1260 h29 e31 (nz_ne h32) d12_moor_70 ?_
  refine ev_iload_n (j := 1) (i := 1) (q := 1) rfl rfl d12_moor_73 ?_
  refine ev_iload_n (j := 2) (i := 2) (q := 2) rfl rfl d12_moor_74 ?_
  obtain ⟨h33, hf⟩ := gd_some hf
  obtain ⟨h34, hf⟩ := gd_some hf
  obtain ⟨t35, e36, hf⟩ := lt_some hf
  refine ev_iast h33 h34 d12_moor_75 (ev_nmS e36 ?_)
  refine ev_iconst ci_0 d12_moor_76 ?_
  obtain ⟨rfl, rfl⟩ := ret_some hf
  exact ev_iret rfl d12_moor_77
def f12_moor_p55 (σ : St) (v0 : Nat) (v1 : Int32) (v2 : Int32) (x0 : Int32) : Option (Int32 × St) :=
  (if x0 = (-1 : Int32) then
  f12_moor_p69 σ v0 v1 v2
  else
  (if x0 = v1 then
  f12_moor_p69 σ v0 v1 v2
  else
  some ((-3 : Int32), σ)))
set_option maxRecDepth 20000 in
theorem s12_moor_p55 : ∀ (σ : St) (v0 : Nat) (v1 : Int32) (v2 : Int32) (x0 : Int32) (r : Int32) (τ : St), f12_moor_p55 σ v0 v1 v2 x0 = some (r, τ) → Ev 3 m12_moor 55 [(0, .ref v0), (1, .int v1), (2, .int v2)] [.int x0] σ (some (.int r)) τ := by
  intro σ v0 v1 v2 x0 r τ hf
  unfold f12_moor_p55 at hf
  refine ev_istore_n (lv2 := [(3, .int x0), (0, .ref v0), (1, .int v1), (2, .int v2)]) (j := 3) (i := 3) rfl (by decide) rfl d12_moor_55 ?_
  refine ev_iload_n (j := 3) (i := 3) (q := 0) rfl rfl d12_moor_56 ?_
  refine ev_iconst ci_m1 d12_moor_57 ?_
  rcases ite_some hf with ⟨c27, hf⟩ | ⟨c27, hf⟩
  · refine ev_icmp_eq_P (tgt := 69) c27 (by decide) d12_moor_58 ?_
    exact Ev.sub [1, 2, 3] rfl (s12_moor_p69 _ _ _ _ _ _ hf)
  · refine ev_icmp_eq_Q (tgt := 69) c27 (by decide) d12_moor_58 ?_
    refine ev_iload_n (j := 3) (i := 3) (q := 0) rfl rfl d12_moor_61 ?_
    refine ev_iload_n (j := 1) (i := 1) (q := 2) rfl rfl d12_moor_62 ?_
    rcases ite_some hf with ⟨c28, hf⟩ | ⟨c28, hf⟩
    · refine ev_icmp_eq_P (tgt := 69) c28 (by decide) d12_moor_63 ?_
      exact Ev.sub [1, 2, 3] rfl (s12_moor_p69 _ _ _ _ _ _ hf)
    · refine ev_icmp_eq_Q (tgt := 69) c28 (by decide) d12_moor_63 ?_
      refine ev_bipush cb_m3 d12_moor_66 ?_
      obtain ⟨rfl, rfl⟩ := ret_some hf
      exact ev_iret rfl d12_moor_68
def f12_moor_p27 (σ : St) (v0 : Nat) (v1 : Int32) (v2 : Int32) : Option (Int32 × St) :=
  gd (ob σ v0 12) (
  lt (sR σ v0 9) fun b16 => (
  gd (nz b16) (
  gd (ob σ b16 14) (
  gd (inb σ b16 v1) (
  (if (sI σ b16 (ix v1)) = (-2 : Int32) then
  some ((-2 : Int32), σ)
  else
  (if v2 = (-1 : Int32) then
  f12_moor_p55 σ v0 v1 v2 (-1 : Int32)
  else
  bd (f12_millAt σ v0 v2) fun r23 t24 => (
  f12_moor_p55 t24 v0 v1 v2 r23))))))))
set_option maxRecDepth 20000 in
theorem s12_moor_p27 : ∀ (σ : St) (v0 : Nat) (v1 : Int32) (v2 : Int32) (r : Int32) (τ : St), f12_moor_p27 σ v0 v1 v2 = some (r, τ) → Ev 3 m12_moor 27 [(0, .ref v0), (1, .int v1), (2, .int v2)] [] σ (some (.int r)) τ := by
  intro σ v0 v1 v2 r τ hf
  unfold f12_moor_p27 at hf
  refine ev_aload_n (j := 0) (i := 0) (q := 0) rfl rfl d12_moor_27 ?_
  obtain ⟨h15, hf⟩ := gd_some hf
  obtain ⟨b16, e17, hf⟩ := lt_some hf
  obtain ⟨h18, hf⟩ := gd_some hf
  refine ev_getRb cls12 (j := 9) (by decide) rfl w1260 h15 e17 (nz_ne h18) d12_moor_28 ?_
  refine ev_iload_n (j := 1) (i := 1) (q := 1) rfl rfl d12_moor_31 ?_
  obtain ⟨h19, hf⟩ := gd_some hf
  obtain ⟨h20, hf⟩ := gd_some hf
  refine ev_iald h19 h20 d12_moor_32 ?_
  refine ev_bipush cb_m2 d12_moor_33 ?_
  rcases ite_some hf with ⟨c21, hf⟩ | ⟨c21, hf⟩
  · refine ev_icmp_ne_P (tgt := 41) c21 (by decide) d12_moor_35 ?_
    refine ev_bipush cb_m2 d12_moor_38 ?_
    obtain ⟨rfl, rfl⟩ := ret_some hf
    exact ev_iret rfl d12_moor_40
  · refine ev_icmp_ne_Q (tgt := 41) c21 (by decide) d12_moor_35 ?_
    refine ev_iload_n (j := 2) (i := 2) (q := 2) rfl rfl d12_moor_41 ?_
    refine ev_iconst ci_m1 d12_moor_42 ?_
    rcases ite_some hf with ⟨c22, hf⟩ | ⟨c22, hf⟩
    · refine ev_icmp_ne_P (tgt := 50) c22 (by decide) d12_moor_43 ?_
      refine ev_iconst ci_m1 d12_moor_46 ?_
      refine ev_goto (tgt := 55) (by decide) d12_moor_47 ?_
      exact Ev.sub [0, 1, 2] rfl (s12_moor_p55 _ _ _ _ _ _ _ hf)
    · refine ev_icmp_ne_Q (tgt := 50) c22 (by decide) d12_moor_43 ?_
      refine ev_aload_n (j := 0) (i := 0) (q := 0) rfl rfl d12_moor_50 ?_
      refine ev_iload_n (j := 2) (i := 2) (q := 2) rfl rfl d12_moor_51 ?_
      obtain ⟨r23, t24, k25, hf⟩ := bd_some hf
      have q26 := s12_millAt _ _ _ _ _ k25
      refine ev_callV (vs := [.int v2]) (sk := []) cls12 h15 q26 (by decide) (Nat.le_of_ble_eq_true rfl) w1524 w1526 ws53 w19 w1527 k12_millAt rfl (Nat.le_of_ble_eq_true rfl) d12_moor_52 ?_
      exact Ev.sub [0, 1, 2] rfl (s12_moor_p55 _ _ _ _ _ _ _ hf)
def f12_moor (σ : St) (v0 : Nat) (v1 : Int32) (v2 : Int32) : Option (Int32 × St) :=
  gd (ob σ v0 12) (
  lt (wI σ v0 0 (0 : Int32)) fun t2 => (
  bd (f12_isMill t2 v0 v1) fun r4 t5 => (
  (if r4 = (0 : Int32) then
  some ((-1 : Int32), t5)
  else
  (if v2 = (-1 : Int32) then
  f12_moor_p27 t5 v0 v1 v2
  else
  bd (f12_isBerth t5 v2) fun r10 t11 => (
  (if r10 = (0 : Int32) then
  some ((-1 : Int32), t11)
  else
  f12_moor_p27 t11 v0 v1 v2)))))))
set_option maxRecDepth 50000 in
theorem s12_moor : ∀ (σ : St) (v0 : Nat) (v1 : Int32) (v2 : Int32) (r : Int32) (τ : St), f12_moor σ v0 v1 v2 = some (r, τ) → Call 3 m12_moor [.ref v0, .int v1, .int v2] σ (some (.int r)) τ := by
  intro σ v0 v1 v2 r τ hf
  unfold f12_moor at hf
  refine Call.of (by decide +kernel) rfl (Nat.le_of_ble_eq_true rfl) ?_
  refine ev_aload_n (j := 0) (i := 0) (q := 0) rfl rfl d12_moor_0 ?_
  refine ev_iconst ci_0 d12_moor_1 ?_
  obtain ⟨h1, hf⟩ := gd_some hf
  obtain ⟨t2, e3, hf⟩ := lt_some hf
  refine ev_putI cls12 (j := 0) (by decide) rfl rfl w1251 h1 (fun _ => ⟨rfl, rfl⟩) d12_moor_2 (ev_nmS e3 ?_)
  refine ev_aload_n (j := 0) (i := 0) (q := 0) rfl rfl d12_moor_5 ?_
  refine ev_iload_n (j := 1) (i := 1) (q := 1) rfl rfl d12_moor_6 ?_
  obtain ⟨r4, t5, k6, hf⟩ := bd_some hf
  have q7 := s12_isMill _ _ _ _ _ k6
  refine ev_callV (vs := [.int v1]) (sk := []) cls12 (mono_ob (mono_eI e3) h1) q7 (by decide) (Nat.le_of_ble_eq_true rfl) w1520 w1522 ws52 w19 w1523 k12_isMill rfl (Nat.le_of_ble_eq_true rfl) d12_moor_7 ?_
  rcases ite_some hf with ⟨c8, hf⟩ | ⟨c8, hf⟩
  · refine ev_if_eq_P (tgt := 25) c8 (by decide) d12_moor_10 ?_
    refine ev_iconst ci_m1 d12_moor_25 ?_
    obtain ⟨rfl, rfl⟩ := ret_some hf
    exact ev_iret rfl d12_moor_26
  · refine ev_if_eq_Q (tgt := 25) c8 (by decide) d12_moor_10 ?_
    refine ev_iload_n (j := 2) (i := 2) (q := 2) rfl rfl d12_moor_13 ?_
    refine ev_iconst ci_m1 d12_moor_14 ?_
    rcases ite_some hf with ⟨c9, hf⟩ | ⟨c9, hf⟩
    · refine ev_icmp_eq_P (tgt := 27) c9 (by decide) d12_moor_15 ?_
      exact Ev.sub [0, 1, 2] rfl (s12_moor_p27 _ _ _ _ _ _ hf)
    · refine ev_icmp_eq_Q (tgt := 27) c9 (by decide) d12_moor_15 ?_
      refine ev_iload_n (j := 2) (i := 2) (q := 2) rfl rfl d12_moor_18 ?_
      obtain ⟨r10, t11, k12, hf⟩ := bd_some hf
      have q13 := s12_isBerth _ _ _ _ k12
      refine ev_callS (vs := [.int v2]) (sk := []) q13 (by decide) (Nat.le_of_ble_eq_true rfl) w1494 w1495 w19 w1496 k12_isBerth rfl (Nat.le_of_ble_eq_true rfl) d12_moor_19 ?_
      rcases ite_some hf with ⟨c14, hf⟩ | ⟨c14, hf⟩
      · refine ev_if_ne_P (tgt := 27) c14 (by decide) d12_moor_22 ?_
        refine ev_iconst ci_m1 d12_moor_25 ?_
        obtain ⟨rfl, rfl⟩ := ret_some hf
        exact ev_iret rfl d12_moor_26
      · refine ev_if_ne_Q (tgt := 27) c14 (by decide) d12_moor_22 ?_
        exact Ev.sub [0, 1, 2] rfl (s12_moor_p27 _ _ _ _ _ _ hf)
abbrev m12_dress : MD := ("MillBoatsModel", ⟨"MillBoatsModel", "dress", "(I)Z"⟩, prog_14_method_14_code, 2, (some Jvm.ClassFile.FieldType.boolean))
theorem k12_dress : okY m12_dress.2.1 1 := ⟨by decide +kernel, by decide +kernel, by decide +kernel⟩
def f12_dress (σ : St) (v0 : Nat) (v1 : Int32) : Option (Int32 × St) :=
  gd (ob σ v0 12) (
  lt (wI σ v0 0 (0 : Int32)) fun t2 => (
  bd (f12_isMill t2 v0 v1) fun r4 t5 => (
  (if r4 = (0 : Int32) then
  some ((0 : Int32), t5)
  else
  lt (sR t5 v0 9) fun b9 => (
  gd (nz b9) (
  gd (ob t5 b9 14) (
  gd (inb t5 b9 v1) (
  (if (sI t5 b9 (ix v1)) = (-2 : Int32) then
  some ((0 : Int32), t5)
  else
  lt (sR t5 v0 13) fun b15 => (
  gd (nz b15) (
  gd (ob t5 b15 14) (
  gd (inb t5 b15 v1) (
  (if (sI t5 b15 (ix v1)) = (sI t5 v0 14) then
  some ((0 : Int32), t5)
  else
  lt (wI t5 b15 (ix v1) (sI t5 v0 14)) fun t21 => (
  lt (sR t21 v0 10) fun b23 => (
  gd (nz b23) (
  gd (ob t21 b23 14) (
  gd (inb t21 b23 v1) (
  lt (wI t21 b23 (ix v1) (0 : Int32)) fun t28 => (
  some ((1 : Int32), t28)))))))))))))))))))))
set_option maxRecDepth 50000 in
theorem s12_dress : ∀ (σ : St) (v0 : Nat) (v1 : Int32) (r : Int32) (τ : St), f12_dress σ v0 v1 = some (r, τ) → Call 3 m12_dress [.ref v0, .int v1] σ (some (.int r)) τ := by
  intro σ v0 v1 r τ hf
  unfold f12_dress at hf
  refine Call.of (by decide +kernel) rfl (Nat.le_of_ble_eq_true rfl) ?_
  refine ev_aload_n (j := 0) (i := 0) (q := 0) rfl rfl d12_dress_0 ?_
  refine ev_iconst ci_0 d12_dress_1 ?_
  obtain ⟨h1, hf⟩ := gd_some hf
  obtain ⟨t2, e3, hf⟩ := lt_some hf
  refine ev_putI cls12 (j := 0) (by decide) rfl rfl w1251 h1 (fun _ => ⟨rfl, rfl⟩) d12_dress_2 (ev_nmS e3 ?_)
  refine ev_aload_n (j := 0) (i := 0) (q := 0) rfl rfl d12_dress_5 ?_
  refine ev_iload_n (j := 1) (i := 1) (q := 1) rfl rfl d12_dress_6 ?_
  obtain ⟨r4, t5, k6, hf⟩ := bd_some hf
  have q7 := s12_isMill _ _ _ _ _ k6
  refine ev_callV (vs := [.int v1]) (sk := []) cls12 (mono_ob (mono_eI e3) h1) q7 (by decide) (Nat.le_of_ble_eq_true rfl) w1520 w1522 ws52 w19 w1523 k12_isMill rfl (Nat.le_of_ble_eq_true rfl) d12_dress_7 ?_
  rcases ite_some hf with ⟨c8, hf⟩ | ⟨c8, hf⟩
  · refine ev_if_eq_P (tgt := 37) c8 (by decide) d12_dress_10 ?_
    refine ev_iconst ci_0 d12_dress_37 ?_
    obtain ⟨rfl, rfl⟩ := ret_some hf
    exact ev_zret rfl (by decide) d12_dress_38
  · refine ev_if_eq_Q (tgt := 37) c8 (by decide) d12_dress_10 ?_
    refine ev_aload_n (j := 0) (i := 0) (q := 0) rfl rfl d12_dress_13 ?_
    obtain ⟨b9, e10, hf⟩ := lt_some hf
    obtain ⟨h11, hf⟩ := gd_some hf
    refine ev_getRb cls12 (j := 9) (by decide) rfl w1260 (mono_ob q7.1 (mono_ob (mono_eI e3) h1)) e10 (nz_ne h11) d12_dress_14 ?_
    refine ev_iload_n (j := 1) (i := 1) (q := 1) rfl rfl d12_dress_17 ?_
    obtain ⟨h12, hf⟩ := gd_some hf
    obtain ⟨h13, hf⟩ := gd_some hf
    refine ev_iald h12 h13 d12_dress_18 ?_
    refine ev_bipush cb_m2 d12_dress_19 ?_
    rcases ite_some hf with ⟨c14, hf⟩ | ⟨c14, hf⟩
    · refine ev_icmp_eq_P (tgt := 37) c14 (by decide) d12_dress_21 ?_
      refine ev_iconst ci_0 d12_dress_37 ?_
      obtain ⟨rfl, rfl⟩ := ret_some hf
      exact ev_zret rfl (by decide) d12_dress_38
    · refine ev_icmp_eq_Q (tgt := 37) c14 (by decide) d12_dress_21 ?_
      refine ev_aload_n (j := 0) (i := 0) (q := 0) rfl rfl d12_dress_24 ?_
      obtain ⟨b15, e16, hf⟩ := lt_some hf
      obtain ⟨h17, hf⟩ := gd_some hf
      refine ev_getRb cls12 (j := 13) (by decide) rfl w1264 (mono_ob q7.1 (mono_ob (mono_eI e3) h1)) e16 (nz_ne h17) d12_dress_25 ?_
      refine ev_iload_n (j := 1) (i := 1) (q := 1) rfl rfl d12_dress_28 ?_
      obtain ⟨h18, hf⟩ := gd_some hf
      obtain ⟨h19, hf⟩ := gd_some hf
      refine ev_iald h18 h19 d12_dress_29 ?_
      refine ev_aload_n (j := 0) (i := 0) (q := 0) rfl rfl d12_dress_30 ?_
      refine ev_getI cls12 (j := 14) (by decide) rfl w1265 (mono_ob q7.1 (mono_ob (mono_eI e3) h1)) d12_dress_31 ?_
      rcases ite_some hf with ⟨c20, hf⟩ | ⟨c20, hf⟩
      · refine ev_icmp_ne_P (tgt := 39) c20 (by decide) d12_dress_34 ?_
        refine ev_iconst ci_0 d12_dress_37 ?_
        obtain ⟨rfl, rfl⟩ := ret_some hf
        exact ev_zret rfl (by decide) d12_dress_38
      · refine ev_icmp_ne_Q (tgt := 39) c20 (by decide) d12_dress_34 ?_
        refine ev_aload_n (j := 0) (i := 0) (q := 0) rfl rfl d12_dress_39 ?_
        refine ev_getRb cls12 (j := 13) (by decide) rfl w1264 (mono_ob q7.1 (mono_ob (mono_eI e3) h1)) e16 (nz_ne h17) d12_dress_40 ?_
        refine ev_iload_n (j := 1) (i := 1) (q := 1) rfl rfl d12_dress_43 ?_
        refine ev_aload_n (j := 0) (i := 0) (q := 0) rfl rfl d12_dress_44 ?_
        refine ev_getI cls12 (j := 14) (by decide) rfl w1265 (mono_ob q7.1 (mono_ob (mono_eI e3) h1)) d12_dress_45 ?_
        obtain ⟨t21, e22, hf⟩ := lt_some hf
        refine ev_iast h18 h19 d12_dress_48 (ev_nmS e22 ?_)
        refine ev_aload_n (j := 0) (i := 0) (q := 0) rfl rfl d12_dress_49 ?_
        obtain ⟨b23, e24, hf⟩ := lt_some hf
        obtain ⟨h25, hf⟩ := gd_some hf
        refine ev_getRb cls12 (j := 10) (by decide) rfl w1261 (mono_ob (mono_eI e22) (mono_ob q7.1 (mono_ob (mono_eI e3) h1))) e24 (nz_ne h25) d12_dress_50 ?_
        refine ev_iload_n (j := 1) (i := 1) (q := 1) rfl rfl d12_dress_53 ?_
        refine ev_iconst ci_0 d12_dress_54 ?_
        obtain ⟨h26, hf⟩ := gd_some hf
        obtain ⟨h27, hf⟩ := gd_some hf
        obtain ⟨t28, e29, hf⟩ := lt_some hf
        refine ev_iast h26 h27 d12_dress_55 (ev_nmS e29 ?_)
        refine ev_iconst ci_1 d12_dress_56 ?_
        obtain ⟨rfl, rfl⟩ := ret_some hf
        exact ev_zret rfl (by decide) d12_dress_57
abbrev m12_worn : MD := ("MillBoatsModel", ⟨"MillBoatsModel", "worn", "(I)I"⟩, prog_14_method_15_code, 2, (some Jvm.ClassFile.FieldType.int))
theorem k12_worn : okY m12_worn.2.1 1 := ⟨by decide +kernel, by decide +kernel, by decide +kernel⟩
def f12_worn (σ : St) (v0 : Nat) (v1 : Int32) : Option (Int32 × St) :=
  gd (ob σ v0 12) (
  lt (sR σ v0 10) fun b2 => (
  gd (nz b2) (
  gd (ob σ b2 14) (
  gd (inb σ b2 v1) (
  (if ((sI σ b2 (ix v1)) / (5 : Int32)) ≤ (100 : Int32) then
  some ((sI σ b2 (ix v1)) / (5 : Int32), σ)
  else
  some ((100 : Int32), σ)))))))
set_option maxRecDepth 50000 in
theorem s12_worn : ∀ (σ : St) (v0 : Nat) (v1 : Int32) (r : Int32) (τ : St), f12_worn σ v0 v1 = some (r, τ) → Call 2 m12_worn [.ref v0, .int v1] σ (some (.int r)) τ := by
  intro σ v0 v1 r τ hf
  unfold f12_worn at hf
  refine Call.of (by decide +kernel) rfl (Nat.le_of_ble_eq_true rfl) ?_
  refine ev_aload_n (j := 0) (i := 0) (q := 0) rfl rfl d12_worn_0 ?_
  obtain ⟨h1, hf⟩ := gd_some hf
  obtain ⟨b2, e3, hf⟩ := lt_some hf
  obtain ⟨h4, hf⟩ := gd_some hf
  refine ev_getRb cls12 (j := 10) (by decide) rfl w1261 h1 e3 (nz_ne h4) d12_worn_1 ?_
  refine ev_iload_n (j := 1) (i := 1) (q := 1) rfl rfl d12_worn_4 ?_
  obtain ⟨h5, hf⟩ := gd_some hf
  obtain ⟨h6, hf⟩ := gd_some hf
  refine ev_iald h5 h6 d12_worn_5 ?_
  refine ev_iconst ci_5 d12_worn_6 ?_
  refine ev_idiv (by decide) d12_worn_7 ?_
  refine ev_bipush cb_100 d12_worn_8 ?_
  rcases ite_some hf with ⟨c7, hf⟩ | ⟨c7, hf⟩
  · refine ev_icmp_le_P (tgt := 18) c7 (by decide) d12_worn_10 ?_
    refine ev_aload_n (j := 0) (i := 0) (q := 0) rfl rfl d12_worn_18 ?_
    refine ev_getRb cls12 (j := 10) (by decide) rfl w1261 h1 e3 (nz_ne h4) d12_worn_19 ?_
    refine ev_iload_n (j := 1) (i := 1) (q := 1) rfl rfl d12_worn_22 ?_
    refine ev_iald h5 h6 d12_worn_23 ?_
    refine ev_iconst ci_5 d12_worn_24 ?_
    refine ev_idiv (by decide) d12_worn_25 ?_
    obtain ⟨rfl, rfl⟩ := ret_some hf
    exact ev_iret rfl d12_worn_26
  · refine ev_icmp_le_Q (tgt := 18) c7 (by decide) d12_worn_10 ?_
    refine ev_bipush cb_100 d12_worn_13 ?_
    refine ev_goto (tgt := 26) (by decide) d12_worn_15 ?_
    obtain ⟨rfl, rfl⟩ := ret_some hf
    exact ev_iret rfl d12_worn_26
abbrev m12_flowOf : MD := ("MillBoatsModel", ⟨"MillBoatsModel", "flowOf", "(II)I"⟩, prog_14_method_16_code, 8, (some Jvm.ClassFile.FieldType.int))
theorem k12_flowOf : okY m12_flowOf.2.1 2 := ⟨by decide +kernel, by decide +kernel, by decide +kernel⟩
def f12_flowOf_p90 (K25 : St → Nat → Int32 → Int32 → Int32 → Int32 → Option (Int32 × St)) (σ : St) (v0 : Nat) (v1 : Int32) (v4 : Int32) (v5 : Int32) (v6 : Int32) : Option (Int32 × St) :=
  lt (v6 + (1 : Int32)) fun y33 => (
  K25 σ v0 v1 v4 v5 y33)
set_option maxRecDepth 20000 in
theorem s12_flowOf_p90 {K25 : St → Nat → Int32 → Int32 → Int32 → Int32 → Option (Int32 × St)} (hK25 : ∀ (σ : St) (v0 : Nat) (v1 : Int32) (v4 : Int32) (v5 : Int32) (v6 : Int32) (r : Int32) (τ : St), K25 σ v0 v1 v4 v5 v6 = some (r, τ) → Ev 3 m12_flowOf 25 [(0, .ref v0), (1, .int v1), (4, .int v4), (5, .int v5), (6, .int v6)] [] σ (some (.int r)) τ) : ∀ (σ : St) (v0 : Nat) (v1 : Int32) (v4 : Int32) (v5 : Int32) (v6 : Int32) (r : Int32) (τ : St), f12_flowOf_p90 K25 σ v0 v1 v4 v5 v6 = some (r, τ) → Ev 3 m12_flowOf 90 [(0, .ref v0), (1, .int v1), (4, .int v4), (5, .int v5), (6, .int v6)] [] σ (some (.int r)) τ := by
  intro σ v0 v1 v4 v5 v6 r τ hf
  unfold f12_flowOf_p90 at hf
  obtain ⟨y33, e34, hf⟩ := lt_some hf
  refine ev_iinc (lv2 := [(6, .int y33), (0, .ref v0), (1, .int v1), (4, .int v4), (5, .int v5)]) (i := 6) (q := 4) (v := y33) (n := 1) rfl (by rw [ci_1]; exact e34.symm) (by decide) rfl d12_flowOf_90 ?_
  refine ev_goto (tgt := 25) (by decide) d12_flowOf_93 ?_
  exact Ev.sub [1, 2, 3, 4, 0] rfl (hK25 _ _ _ _ _ _ _ _ hf)
def f12_flowOf_p96 (σ : St) (v5 : Int32) : Option (Int32 × St) :=
  (if v5 ≤ (0 : Int32) then
  some ((0 : Int32), σ)
  else
  some (v5, σ))
set_option maxRecDepth 20000 in
theorem s12_flowOf_p96 : ∀ (σ : St) (v5 : Int32) (r : Int32) (τ : St), f12_flowOf_p96 σ v5 = some (r, τ) → Ev 3 m12_flowOf 96 [(5, .int v5)] [] σ (some (.int r)) τ := by
  intro σ v5 r τ hf
  unfold f12_flowOf_p96 at hf
  refine ev_iload (i := 5) (q := 0) rfl d12_flowOf_96 ?_
  rcases ite_some hf with ⟨c35, hf⟩ | ⟨c35, hf⟩
  · refine ev_if_le_P (tgt := 106) c35 (by decide) d12_flowOf_98 ?_
    refine ev_iconst ci_0 d12_flowOf_106 ?_
    obtain ⟨rfl, rfl⟩ := ret_some hf
    exact ev_iret rfl d12_flowOf_107
  · refine ev_if_le_Q (tgt := 106) c35 (by decide) d12_flowOf_98 ?_
    refine ev_iload (i := 5) (q := 0) rfl d12_flowOf_101 ?_
    refine ev_goto (tgt := 107) (by decide) d12_flowOf_103 ?_
    obtain ⟨rfl, rfl⟩ := ret_some hf
    exact ev_iret rfl d12_flowOf_107
def f12_flowOf_p25 : Nat → St → Nat → Int32 → Int32 → Int32 → Int32 → Option (Int32 × St)
  | 0, _, _, _, _, _, _ => none
  | n + 1, σ, v0, v1, v4, v5, v6 =>
  (if v6 ≤ (3 : Int32) then
  gd (ob σ v0 12) (
  lt (sR σ v0 9) fun b15 => (
  gd (nz b15) (
  gd (ob σ b15 14) (
  gd (inb σ b15 v1) (
  (if v6 ≤ ((sI σ b15 (ix v1)) - (sI σ b15 (ix v1)) / (12 : Int32) * (12 : Int32)) then
  bd (f12_millAt σ v0 ((sI σ b15 (ix v1)) - v6)) fun r21 t22 => (
  (if r21 = (-1 : Int32) then
  f12_flowOf_p90 (f12_flowOf_p25 n) t22 v0 v1 v4 v5 v6
  else
  lt (sR t22 v0 7) fun b26 => (
  gd (nz b26) (
  gd (ob t22 b26 14) (
  gd (inb t22 b26 r21) (
  lt (v5 - (((v4 * (sI t22 b26 (ix r21))) * ((4 : Int32) - v6)) / (400 : Int32))) fun y31 => (
  f12_flowOf_p90 (f12_flowOf_p25 n) t22 v0 v1 v4 y31 v6)))))))
  else
  f12_flowOf_p96 σ v5))))))
  else
  f12_flowOf_p96 σ v5)
set_option maxRecDepth 20000 in
theorem s12_flowOf_p25 : ∀ (n : Nat) (σ : St) (v0 : Nat) (v1 : Int32) (v4 : Int32) (v5 : Int32) (v6 : Int32) (r : Int32) (τ : St), f12_flowOf_p25 n σ v0 v1 v4 v5 v6 = some (r, τ) → Ev 3 m12_flowOf 25 [(0, .ref v0), (1, .int v1), (4, .int v4), (5, .int v5), (6, .int v6)] [] σ (some (.int r)) τ := by
  intro n
  induction n with
  | zero =>
    intro σ v0 v1 v4 v5 v6 r τ hf
    cases hf
  | succ n ih =>
    intro σ v0 v1 v4 v5 v6 r τ hf
    rw [f12_flowOf_p25] at hf
    refine ev_iload (i := 6) (q := 4) rfl d12_flowOf_25 ?_
    refine ev_iconst ci_3 d12_flowOf_27 ?_
    rcases ite_some hf with ⟨c13, hf⟩ | ⟨c13, hf⟩
    · refine ev_icmp_gt_P (tgt := 96) c13 (by decide) d12_flowOf_28 ?_
      refine ev_iload (i := 6) (q := 4) rfl d12_flowOf_31 ?_
      refine ev_aload_n (j := 0) (i := 0) (q := 0) rfl rfl d12_flowOf_33 ?_
      obtain ⟨h14, hf⟩ := gd_some hf
      obtain ⟨b15, e16, hf⟩ := lt_some hf
      obtain ⟨h17, hf⟩ := gd_some hf
      refine ev_getRb cls12 (j := 9) (by decide) rfl w1260 h14 e16 (nz_ne h17) d12_flowOf_34 ?_
      refine ev_iload_n (j := 1) (i := 1) (q := 1) rfl rfl d12_flowOf_37 ?_
      obtain ⟨h18, hf⟩ := gd_some hf
      obtain ⟨h19, hf⟩ := gd_some hf
      refine ev_iald h18 h19 d12_flowOf_38 ?_
      refine ev_bipush cb_12 d12_flowOf_39 ?_
      refine ev_irem (by decide) d12_flowOf_41 ?_
      rcases ite_some hf with ⟨c20, hf⟩ | ⟨c20, hf⟩
      · refine ev_icmp_gt_P (tgt := 96) c20 (by decide) d12_flowOf_42 ?_
        refine ev_aload_n (j := 0) (i := 0) (q := 0) rfl rfl d12_flowOf_45 ?_
        refine ev_aload_n (j := 0) (i := 0) (q := 0) rfl rfl d12_flowOf_46 ?_
        refine ev_getRb cls12 (j := 9) (by decide) rfl w1260 h14 e16 (nz_ne h17) d12_flowOf_47 ?_
        refine ev_iload_n (j := 1) (i := 1) (q := 1) rfl rfl d12_flowOf_50 ?_
        refine ev_iald h18 h19 d12_flowOf_51 ?_
        refine ev_iload (i := 6) (q := 4) rfl d12_flowOf_52 ?_
        refine ev_isub d12_flowOf_54 ?_
        obtain ⟨r21, t22, k23, hf⟩ := bd_some hf
        have q24 := s12_millAt _ _ _ _ _ k23
        refine ev_callV (vs := [.int ((sI σ b15 (ix v1)) - v6)]) (sk := []) cls12 h14 q24 (by decide) (Nat.le_of_ble_eq_true rfl) w1524 w1526 ws53 w19 w1527 k12_millAt rfl (Nat.le_of_ble_eq_true rfl) d12_flowOf_55 ?_
        refine ev_istore (lv2 := [(7, .int r21), (0, .ref v0), (1, .int v1), (4, .int v4), (5, .int v5), (6, .int v6)]) (i := 7) (by decide) rfl d12_flowOf_58 ?_
        refine ev_iload (i := 7) (q := 0) rfl d12_flowOf_60 ?_
        refine ev_iconst ci_m1 d12_flowOf_62 ?_
        rcases ite_some hf with ⟨c25, hf⟩ | ⟨c25, hf⟩
        · refine ev_icmp_eq_P (tgt := 90) c25 (by decide) d12_flowOf_63 ?_
          exact Ev.sub [1, 2, 3, 4, 5] rfl (s12_flowOf_p90 ih _ _ _ _ _ _ _ _ hf)
        · refine ev_icmp_eq_Q (tgt := 90) c25 (by decide) d12_flowOf_63 ?_
          refine ev_iload (i := 5) (q := 4) rfl d12_flowOf_66 ?_
          refine ev_iload (i := 4) (q := 3) rfl d12_flowOf_68 ?_
          refine ev_aload_n (j := 0) (i := 0) (q := 1) rfl rfl d12_flowOf_70 ?_
          obtain ⟨b26, e27, hf⟩ := lt_some hf
          obtain ⟨h28, hf⟩ := gd_some hf
          refine ev_getRb cls12 (j := 7) (by decide) rfl w1258 (mono_ob q24.1 h14) e27 (nz_ne h28) d12_flowOf_71 ?_
          refine ev_iload (i := 7) (q := 0) rfl d12_flowOf_74 ?_
          obtain ⟨h29, hf⟩ := gd_some hf
          obtain ⟨h30, hf⟩ := gd_some hf
          refine ev_iald h29 h30 d12_flowOf_76 ?_
          refine ev_imul d12_flowOf_77 ?_
          refine ev_iconst ci_4 d12_flowOf_78 ?_
          refine ev_iload (i := 6) (q := 5) rfl d12_flowOf_79 ?_
          refine ev_isub d12_flowOf_81 ?_
          refine ev_imul d12_flowOf_82 ?_
          refine ev_sipush cs_400 d12_flowOf_83 ?_
          refine ev_idiv (by decide) d12_flowOf_86 ?_
          refine ev_isub d12_flowOf_87 ?_
          obtain ⟨y31, e32, hf⟩ := lt_some hf
          refine ev_nmI e32 ?_
          refine ev_istore (lv2 := [(5, .int y31), (7, .int r21), (0, .ref v0), (1, .int v1), (4, .int v4), (6, .int v6)]) (i := 5) (by decide) rfl d12_flowOf_88 ?_
          exact Ev.sub [2, 3, 4, 0, 5] rfl (s12_flowOf_p90 ih _ _ _ _ _ _ _ _ hf)
      · refine ev_icmp_gt_Q (tgt := 96) c20 (by decide) d12_flowOf_42 ?_
        exact Ev.sub [3] rfl (s12_flowOf_p96 _ _ _ _ hf)
    · refine ev_icmp_gt_Q (tgt := 96) c13 (by decide) d12_flowOf_28 ?_
      exact Ev.sub [3] rfl (s12_flowOf_p96 _ _ _ _ hf)
def f12_flowOf (σ : St) (v0 : Nat) (v1 : Int32) (v2 : Int32) : Option (Int32 × St) :=
  gd (ob σ v0 12) (
  lt (sR σ v0 9) fun b2 => (
  gd (nz b2) (
  gd (ob σ b2 14) (
  gd (inb σ b2 v1) (
  lt ((sI σ b2 (ix v1)) / (12 : Int32)) fun y7 => (
  bd (f12_valueOf σ v0 y7 v2) fun r9 t10 => (
  f12_flowOf_p25 FU t10 v0 v1 r9 r9 (1 : Int32))))))))
set_option maxRecDepth 50000 in
theorem s12_flowOf : ∀ (σ : St) (v0 : Nat) (v1 : Int32) (v2 : Int32) (r : Int32) (τ : St), f12_flowOf σ v0 v1 v2 = some (r, τ) → Call 3 m12_flowOf [.ref v0, .int v1, .int v2] σ (some (.int r)) τ := by
  intro σ v0 v1 v2 r τ hf
  unfold f12_flowOf at hf
  refine Call.of (by decide +kernel) rfl (Nat.le_of_ble_eq_true rfl) ?_
  refine ev_aload_n (j := 0) (i := 0) (q := 0) rfl rfl d12_flowOf_0 ?_
  obtain ⟨h1, hf⟩ := gd_some hf
  obtain ⟨b2, e3, hf⟩ := lt_some hf
  obtain ⟨h4, hf⟩ := gd_some hf
  refine ev_getRb cls12 (j := 9) (by decide) rfl w1260 h1 e3 (nz_ne h4) d12_flowOf_1 ?_
  refine ev_iload_n (j := 1) (i := 1) (q := 1) rfl rfl d12_flowOf_4 ?_
  obtain ⟨h5, hf⟩ := gd_some hf
  obtain ⟨h6, hf⟩ := gd_some hf
  refine ev_iald h5 h6 d12_flowOf_5 ?_
  refine ev_bipush cb_12 d12_flowOf_6 ?_
  refine ev_idiv (by decide) d12_flowOf_8 ?_
  obtain ⟨y7, e8, hf⟩ := lt_some hf
  refine ev_nmI e8 ?_
  refine ev_istore_n (lv2 := [(3, .int y7), (0, .ref v0), (1, .int v1), (2, .int v2)]) (j := 3) (i := 3) rfl (by decide) rfl d12_flowOf_9 ?_
  refine ev_aload_n (j := 0) (i := 0) (q := 1) rfl rfl d12_flowOf_10 ?_
  refine ev_iload_n (j := 3) (i := 3) (q := 0) rfl rfl d12_flowOf_11 ?_
  refine ev_iload_n (j := 2) (i := 2) (q := 3) rfl rfl d12_flowOf_12 ?_
  obtain ⟨r9, t10, k11, hf⟩ := bd_some hf
  have q12 := s12_valueOf _ _ _ _ _ _ k11
  refine ev_callV (vs := [.int y7, .int v2]) (sk := []) cls12 h1 q12 (by decide) (Nat.le_of_ble_eq_true rfl) w1508 w1510 ws51 w19 w1511 k12_valueOf rfl (Nat.le_of_ble_eq_true rfl) d12_flowOf_13 ?_
  refine ev_istore (lv2 := [(4, .int r9), (3, .int y7), (0, .ref v0), (1, .int v1), (2, .int v2)]) (i := 4) (by decide) rfl d12_flowOf_16 ?_
  refine ev_iload (i := 4) (q := 0) rfl d12_flowOf_18 ?_
  refine ev_istore (lv2 := [(5, .int r9), (4, .int r9), (3, .int y7), (0, .ref v0), (1, .int v1), (2, .int v2)]) (i := 5) (by decide) rfl d12_flowOf_20 ?_
  refine ev_iconst ci_1 d12_flowOf_22 ?_
  refine ev_istore (lv2 := [(6, .int (1 : Int32)), (5, .int r9), (4, .int r9), (3, .int y7), (0, .ref v0), (1, .int v1), (2, .int v2)]) (i := 6) (by decide) rfl d12_flowOf_23 ?_
  exact Ev.sub [4, 5, 2, 1, 0] rfl (s12_flowOf_p25 FU _ _ _ _ _ _ _ _ hf)
abbrev m12_floats : MD := ("MillBoatsModel", ⟨"MillBoatsModel", "floats", "(II)Z"⟩, prog_14_method_17_code, 3, (some Jvm.ClassFile.FieldType.boolean))
theorem k12_floats : okY m12_floats.2.1 2 := ⟨by decide +kernel, by decide +kernel, by decide +kernel⟩
def f12_floats (σ : St) (v0 : Nat) (v1 : Int32) (v2 : Int32) : Option (Int32 × St) :=
  gd (ob σ v0 12) (
  lt (sR σ v0 9) fun b2 => (
  gd (nz b2) (
  gd (ob σ b2 14) (
  gd (inb σ b2 v1) (
  bd (f12_depth σ v0 (sI σ b2 (ix v1)) v2) fun r7 t8 => (
  lt (sR t8 v0 6) fun b11 => (
  gd (nz b11) (
  gd (ob t8 b11 14) (
  gd (inb t8 b11 v1) (
  (if r7 < (sI t8 b11 (ix v1)) then
  some ((0 : Int32), t8)
  else
  some ((1 : Int32), t8))))))))))))
set_option maxRecDepth 50000 in
theorem s12_floats : ∀ (σ : St) (v0 : Nat) (v1 : Int32) (v2 : Int32) (r : Int32) (τ : St), f12_floats σ v0 v1 v2 = some (r, τ) → Call 3 m12_floats [.ref v0, .int v1, .int v2] σ (some (.int r)) τ := by
  intro σ v0 v1 v2 r τ hf
  unfold f12_floats at hf
  refine Call.of (by decide +kernel) rfl (Nat.le_of_ble_eq_true rfl) ?_
  refine ev_aload_n (j := 0) (i := 0) (q := 0) rfl rfl d12_floats_0 ?_
  refine ev_aload_n (j := 0) (i := 0) (q := 0) rfl rfl d12_floats_1 ?_
  obtain ⟨h1, hf⟩ := gd_some hf
  obtain ⟨b2, e3, hf⟩ := lt_some hf
  obtain ⟨h4, hf⟩ := gd_some hf
  refine ev_getRb cls12 (j := 9) (by decide) rfl w1260 h1 e3 (nz_ne h4) d12_floats_2 ?_
  refine ev_iload_n (j := 1) (i := 1) (q := 1) rfl rfl d12_floats_5 ?_
  obtain ⟨h5, hf⟩ := gd_some hf
  obtain ⟨h6, hf⟩ := gd_some hf
  refine ev_iald h5 h6 d12_floats_6 ?_
  refine ev_iload_n (j := 2) (i := 2) (q := 2) rfl rfl d12_floats_7 ?_
  obtain ⟨r7, t8, k9, hf⟩ := bd_some hf
  have q10 := s12_depth _ _ _ _ _ _ k9
  refine ev_callV (vs := [.int (sI σ b2 (ix v1)), .int v2]) (sk := []) cls12 h1 q10 (by decide) (Nat.le_of_ble_eq_true rfl) w1556 w1558 ws58 w19 w1559 k12_depth rfl (Nat.le_of_ble_eq_true rfl) d12_floats_8 ?_
  refine ev_aload_n (j := 0) (i := 0) (q := 0) rfl rfl d12_floats_11 ?_
  obtain ⟨b11, e12, hf⟩ := lt_some hf
  obtain ⟨h13, hf⟩ := gd_some hf
  refine ev_getRb cls12 (j := 6) (by decide) rfl w1257 (mono_ob q10.1 h1) e12 (nz_ne h13) d12_floats_12 ?_
  refine ev_iload_n (j := 1) (i := 1) (q := 1) rfl rfl d12_floats_15 ?_
  obtain ⟨h14, hf⟩ := gd_some hf
  obtain ⟨h15, hf⟩ := gd_some hf
  refine ev_iald h14 h15 d12_floats_16 ?_
  rcases ite_some hf with ⟨c16, hf⟩ | ⟨c16, hf⟩
  · refine ev_icmp_lt_P (tgt := 24) c16 (by decide) d12_floats_17 ?_
    refine ev_iconst ci_0 d12_floats_24 ?_
    obtain ⟨rfl, rfl⟩ := ret_some hf
    exact ev_zret rfl (by decide) d12_floats_25
  · refine ev_icmp_lt_Q (tgt := 24) c16 (by decide) d12_floats_17 ?_
    refine ev_iconst ci_1 d12_floats_20 ?_
    refine ev_goto (tgt := 25) (by decide) d12_floats_21 ?_
    obtain ⟨rfl, rfl⟩ := ret_some hf
    exact ev_zret rfl (by decide) d12_floats_25
abbrev m12_powerOf : MD := ("MillBoatsModel", ⟨"MillBoatsModel", "powerOf", "(II)I"⟩, prog_14_method_18_code, 3, (some Jvm.ClassFile.FieldType.int))
theorem k12_powerOf : okY m12_powerOf.2.1 2 := ⟨by decide +kernel, by decide +kernel, by decide +kernel⟩
def f12_powerOf (σ : St) (v0 : Nat) (v1 : Int32) (v2 : Int32) : Option (Int32 × St) :=
  gd (ob σ v0 12) (
  bd (f12_floats σ v0 v1 v2) fun r2 t3 => (
  (if r2 = (0 : Int32) then
  some ((0 : Int32), t3)
  else
  bd (f12_flowOf t3 v0 v1 v2) fun r7 t8 => (
  bd (f12_valueOf t8 v0 (6 : Int32) r7) fun r11 t12 => (
  bd (f12_worn t12 v0 v1) fun r15 t16 => (
  some ((r11 * ((100 : Int32) - r15)) / (100 : Int32), t16)))))))
set_option maxRecDepth 50000 in
theorem s12_powerOf : ∀ (σ : St) (v0 : Nat) (v1 : Int32) (v2 : Int32) (r : Int32) (τ : St), f12_powerOf σ v0 v1 v2 = some (r, τ) → Call 4 m12_powerOf [.ref v0, .int v1, .int v2] σ (some (.int r)) τ := by
  intro σ v0 v1 v2 r τ hf
  unfold f12_powerOf at hf
  refine Call.of (by decide +kernel) rfl (Nat.le_of_ble_eq_true rfl) ?_
  refine ev_aload_n (j := 0) (i := 0) (q := 0) rfl rfl d12_powerOf_0 ?_
  refine ev_iload_n (j := 1) (i := 1) (q := 1) rfl rfl d12_powerOf_1 ?_
  refine ev_iload_n (j := 2) (i := 2) (q := 2) rfl rfl d12_powerOf_2 ?_
  obtain ⟨h1, hf⟩ := gd_some hf
  obtain ⟨r2, t3, k4, hf⟩ := bd_some hf
  have q5 := s12_floats _ _ _ _ _ _ k4
  refine ev_callV (vs := [.int v1, .int v2]) (sk := []) cls12 h1 q5 (by decide) (Nat.le_of_ble_eq_true rfl) w1552 w1554 ws57 w19 w1555 k12_floats rfl (Nat.le_of_ble_eq_true rfl) d12_powerOf_3 ?_
  rcases ite_some hf with ⟨c6, hf⟩ | ⟨c6, hf⟩
  · refine ev_if_eq_P (tgt := 36) c6 (by decide) d12_powerOf_6 ?_
    refine ev_iconst ci_0 d12_powerOf_36 ?_
    obtain ⟨rfl, rfl⟩ := ret_some hf
    exact ev_iret rfl d12_powerOf_37
  · refine ev_if_eq_Q (tgt := 36) c6 (by decide) d12_powerOf_6 ?_
    refine ev_aload_n (j := 0) (i := 0) (q := 0) rfl rfl d12_powerOf_9 ?_
    refine ev_bipush cb_6 d12_powerOf_10 ?_
    refine ev_aload_n (j := 0) (i := 0) (q := 0) rfl rfl d12_powerOf_12 ?_
    refine ev_iload_n (j := 1) (i := 1) (q := 1) rfl rfl d12_powerOf_13 ?_
    refine ev_iload_n (j := 2) (i := 2) (q := 2) rfl rfl d12_powerOf_14 ?_
    obtain ⟨r7, t8, k9, hf⟩ := bd_some hf
    have q10 := s12_flowOf _ _ _ _ _ _ k9
    refine ev_callV (vs := [.int v1, .int v2]) (sk := [.int (6 : Int32), .ref v0]) cls12 (mono_ob q5.1 h1) q10 (by decide) (Nat.le_of_ble_eq_true rfl) w1540 w1542 ws55 w19 w1543 k12_flowOf rfl (Nat.le_of_ble_eq_true rfl) d12_powerOf_15 ?_
    obtain ⟨r11, t12, k13, hf⟩ := bd_some hf
    have q14 := s12_valueOf _ _ _ _ _ _ k13
    refine ev_callV (vs := [.int (6 : Int32), .int r7]) (sk := []) cls12 (mono_ob q10.1 (mono_ob q5.1 h1)) q14 (by decide) (Nat.le_of_ble_eq_true rfl) w1508 w1510 ws51 w19 w1511 k12_valueOf rfl (Nat.le_of_ble_eq_true rfl) d12_powerOf_18 ?_
    refine ev_bipush cb_100 d12_powerOf_21 ?_
    refine ev_aload_n (j := 0) (i := 0) (q := 0) rfl rfl d12_powerOf_23 ?_
    refine ev_iload_n (j := 1) (i := 1) (q := 1) rfl rfl d12_powerOf_24 ?_
    obtain ⟨r15, t16, k17, hf⟩ := bd_some hf
    have q18 := s12_worn _ _ _ _ _ k17
    refine ev_callV (vs := [.int v1]) (sk := [.int (100 : Int32), .int r11]) cls12 (mono_ob q14.1 (mono_ob q10.1 (mono_ob q5.1 h1))) q18 (by decide) (Nat.le_of_ble_eq_true rfl) w1560 w1562 ws59 w19 w1563 k12_worn rfl (Nat.le_of_ble_eq_true rfl) d12_powerOf_25 ?_
    refine ev_isub d12_powerOf_28 ?_
    refine ev_imul d12_powerOf_29 ?_
    refine ev_bipush cb_100 d12_powerOf_30 ?_
    refine ev_idiv (by decide) d12_powerOf_32 ?_
    refine ev_goto (tgt := 37) (by decide) d12_powerOf_33 ?_
    obtain ⟨rfl, rfl⟩ := ret_some hf
    exact ev_iret rfl d12_powerOf_37
abbrev m12_pullOf : MD := ("MillBoatsModel", ⟨"MillBoatsModel", "pullOf", "(IIZ)I"⟩, prog_14_method_19_code, 5, (some Jvm.ClassFile.FieldType.int))
theorem k12_pullOf : okY m12_pullOf.2.1 3 := ⟨by decide +kernel, by decide +kernel, by decide +kernel⟩
def f12_pullOf (σ : St) (v0 : Nat) (v1 : Int32) (v2 : Int32) (v3 : Int32) : Option (Int32 × St) :=
  gd (ob σ v0 12) (
  bd (f12_floats σ v0 v1 v2) fun r2 t3 => (
  (if r2 = (0 : Int32) then
  some ((0 : Int32), t3)
  else
  bd (f12_flowOf t3 v0 v1 v2) fun r7 t8 => (
  lt (sR t8 v0 7) fun b11 => (
  gd (nz b11) (
  gd (ob t8 b11 14) (
  gd (inb t8 b11 v1) (
  lt ((r7 * ((20 : Int32) + (sI t8 b11 (ix v1)))) / (20 : Int32)) fun y16 => (
  (if v3 = (0 : Int32) then
  some (y16, t8)
  else
  some ((2 : Int32) * y16, t8)))))))))))
set_option maxRecDepth 50000 in
theorem s12_pullOf : ∀ (σ : St) (v0 : Nat) (v1 : Int32) (v2 : Int32) (v3 : Int32) (r : Int32) (τ : St), f12_pullOf σ v0 v1 v2 v3 = some (r, τ) → Call 4 m12_pullOf [.ref v0, .int v1, .int v2, .int v3] σ (some (.int r)) τ := by
  intro σ v0 v1 v2 v3 r τ hf
  unfold f12_pullOf at hf
  refine Call.of (by decide +kernel) rfl (Nat.le_of_ble_eq_true rfl) ?_
  refine ev_aload_n (j := 0) (i := 0) (q := 0) rfl rfl d12_pullOf_0 ?_
  refine ev_iload_n (j := 1) (i := 1) (q := 1) rfl rfl d12_pullOf_1 ?_
  refine ev_iload_n (j := 2) (i := 2) (q := 2) rfl rfl d12_pullOf_2 ?_
  obtain ⟨h1, hf⟩ := gd_some hf
  obtain ⟨r2, t3, k4, hf⟩ := bd_some hf
  have q5 := s12_floats _ _ _ _ _ _ k4
  refine ev_callV (vs := [.int v1, .int v2]) (sk := []) cls12 h1 q5 (by decide) (Nat.le_of_ble_eq_true rfl) w1552 w1554 ws57 w19 w1555 k12_floats rfl (Nat.le_of_ble_eq_true rfl) d12_pullOf_3 ?_
  rcases ite_some hf with ⟨c6, hf⟩ | ⟨c6, hf⟩
  · refine ev_if_ne_P (tgt := 11) c6 (by decide) d12_pullOf_6 ?_
    refine ev_iconst ci_0 d12_pullOf_9 ?_
    obtain ⟨rfl, rfl⟩ := ret_some hf
    exact ev_iret rfl d12_pullOf_10
  · refine ev_if_ne_Q (tgt := 11) c6 (by decide) d12_pullOf_6 ?_
    refine ev_aload_n (j := 0) (i := 0) (q := 0) rfl rfl d12_pullOf_11 ?_
    refine ev_iload_n (j := 1) (i := 1) (q := 1) rfl rfl d12_pullOf_12 ?_
    refine ev_iload_n (j := 2) (i := 2) (q := 2) rfl rfl d12_pullOf_13 ?_
    obtain ⟨r7, t8, k9, hf⟩ := bd_some hf
    have q10 := s12_flowOf _ _ _ _ _ _ k9
    refine ev_callV (vs := [.int v1, .int v2]) (sk := []) cls12 (mono_ob q5.1 h1) q10 (by decide) (Nat.le_of_ble_eq_true rfl) w1540 w1542 ws55 w19 w1543 k12_flowOf rfl (Nat.le_of_ble_eq_true rfl) d12_pullOf_14 ?_
    refine ev_bipush cb_20 d12_pullOf_17 ?_
    refine ev_aload_n (j := 0) (i := 0) (q := 0) rfl rfl d12_pullOf_19 ?_
    obtain ⟨b11, e12, hf⟩ := lt_some hf
    obtain ⟨h13, hf⟩ := gd_some hf
    refine ev_getRb cls12 (j := 7) (by decide) rfl w1258 (mono_ob q10.1 (mono_ob q5.1 h1)) e12 (nz_ne h13) d12_pullOf_20 ?_
    refine ev_iload_n (j := 1) (i := 1) (q := 1) rfl rfl d12_pullOf_23 ?_
    obtain ⟨h14, hf⟩ := gd_some hf
    obtain ⟨h15, hf⟩ := gd_some hf
    refine ev_iald h14 h15 d12_pullOf_24 ?_
    refine ev_iadd d12_pullOf_25 ?_
    refine ev_imul d12_pullOf_26 ?_
    refine ev_bipush cb_20 d12_pullOf_27 ?_
    refine ev_idiv (by decide) d12_pullOf_29 ?_
    obtain ⟨y16, e17, hf⟩ := lt_some hf
    refine ev_nmI e17 ?_
    refine ev_istore (lv2 := [(4, .int y16), (0, .ref v0), (1, .int v1), (2, .int v2), (3, .int v3)]) (i := 4) (by decide) rfl d12_pullOf_30 ?_
    refine ev_iload_n (j := 3) (i := 3) (q := 4) rfl rfl d12_pullOf_32 ?_
    rcases ite_some hf with ⟨c18, hf⟩ | ⟨c18, hf⟩
    · refine ev_if_eq_P (tgt := 43) c18 (by decide) d12_pullOf_33 ?_
      refine ev_iload (i := 4) (q := 0) rfl d12_pullOf_43 ?_
      obtain ⟨rfl, rfl⟩ := ret_some hf
      exact ev_iret rfl d12_pullOf_45
    · refine ev_if_eq_Q (tgt := 43) c18 (by decide) d12_pullOf_33 ?_
      refine ev_iconst ci_2 d12_pullOf_36 ?_
      refine ev_iload (i := 4) (q := 0) rfl d12_pullOf_37 ?_
      refine ev_imul d12_pullOf_39 ?_
      refine ev_goto (tgt := 45) (by decide) d12_pullOf_40 ?_
      obtain ⟨rfl, rfl⟩ := ret_some hf
      exact ev_iret rfl d12_pullOf_45
abbrev m12_isAsked : MD := ("MillBoatsModel", ⟨"MillBoatsModel", "isAsked", "(II)Z"⟩, prog_14_method_20_code, 3, (some Jvm.ClassFile.FieldType.boolean))
theorem k12_isAsked : okY m12_isAsked.2.1 2 := ⟨by decide +kernel, by decide +kernel, by decide +kernel⟩
def f12_isAsked (σ : St) (v0 : Nat) (v1 : Int32) (v2 : Int32) : Option (Int32 × St) :=
  gd (ob σ v0 12) (
  bd (f12_isMill σ v0 v1) fun r2 t3 => (
  (if r2 = (0 : Int32) then
  some ((0 : Int32), t3)
  else
  lt (sR t3 v0 9) fun b7 => (
  gd (nz b7) (
  gd (ob t3 b7 14) (
  gd (inb t3 b7 v1) (
  (if (sI t3 b7 (ix v1)) < (0 : Int32) then
  some ((0 : Int32), t3)
  else
  bd (f12_within t3 v2 (0 : Int32) (20 : Int32)) fun r13 t14 => (
  (if r13 = (0 : Int32) then
  some ((0 : Int32), t14)
  else
  some ((1 : Int32), t14)))))))))))
set_option maxRecDepth 50000 in
theorem s12_isAsked : ∀ (σ : St) (v0 : Nat) (v1 : Int32) (v2 : Int32) (r : Int32) (τ : St), f12_isAsked σ v0 v1 v2 = some (r, τ) → Call 3 m12_isAsked [.ref v0, .int v1, .int v2] σ (some (.int r)) τ := by
  intro σ v0 v1 v2 r τ hf
  unfold f12_isAsked at hf
  refine Call.of (by decide +kernel) rfl (Nat.le_of_ble_eq_true rfl) ?_
  refine ev_aload_n (j := 0) (i := 0) (q := 0) rfl rfl d12_isAsked_0 ?_
  refine ev_iload_n (j := 1) (i := 1) (q := 1) rfl rfl d12_isAsked_1 ?_
  obtain ⟨h1, hf⟩ := gd_some hf
  obtain ⟨r2, t3, k4, hf⟩ := bd_some hf
  have q5 := s12_isMill _ _ _ _ _ k4
  refine ev_callV (vs := [.int v1]) (sk := []) cls12 h1 q5 (by decide) (Nat.le_of_ble_eq_true rfl) w1520 w1522 ws52 w19 w1523 k12_isMill rfl (Nat.le_of_ble_eq_true rfl) d12_isAsked_2 ?_
  rcases ite_some hf with ⟨c6, hf⟩ | ⟨c6, hf⟩
  · refine ev_if_eq_P (tgt := 31) c6 (by decide) d12_isAsked_5 ?_
    refine ev_iconst ci_0 d12_isAsked_31 ?_
    obtain ⟨rfl, rfl⟩ := ret_some hf
    exact ev_zret rfl (by decide) d12_isAsked_32
  · refine ev_if_eq_Q (tgt := 31) c6 (by decide) d12_isAsked_5 ?_
    refine ev_aload_n (j := 0) (i := 0) (q := 0) rfl rfl d12_isAsked_8 ?_
    obtain ⟨b7, e8, hf⟩ := lt_some hf
    obtain ⟨h9, hf⟩ := gd_some hf
    refine ev_getRb cls12 (j := 9) (by decide) rfl w1260 (mono_ob q5.1 h1) e8 (nz_ne h9) d12_isAsked_9 ?_
    refine ev_iload_n (j := 1) (i := 1) (q := 1) rfl rfl d12_isAsked_12 ?_
    obtain ⟨h10, hf⟩ := gd_some hf
    obtain ⟨h11, hf⟩ := gd_some hf
    refine ev_iald h10 h11 d12_isAsked_13 ?_
    rcases ite_some hf with ⟨c12, hf⟩ | ⟨c12, hf⟩
    · refine ev_if_lt_P (tgt := 31) c12 (by decide) d12_isAsked_14 ?_
      refine ev_iconst ci_0 d12_isAsked_31 ?_
      obtain ⟨rfl, rfl⟩ := ret_some hf
      exact ev_zret rfl (by decide) d12_isAsked_32
    · refine ev_if_lt_Q (tgt := 31) c12 (by decide) d12_isAsked_14 ?_
      refine ev_iload_n (j := 2) (i := 2) (q := 2) rfl rfl d12_isAsked_17 ?_
      refine ev_iconst ci_0 d12_isAsked_18 ?_
      refine ev_bipush cb_20 d12_isAsked_19 ?_
      obtain ⟨r13, t14, k15, hf⟩ := bd_some hf
      have q16 := s12_within _ _ _ _ _ _ k15
      refine ev_callS (vs := [.int v2, .int (0 : Int32), .int (20 : Int32)]) (sk := []) q16 (by decide) (Nat.le_of_ble_eq_true rfl) w1497 w1498 w19 w1499 k12_within rfl (Nat.le_of_ble_eq_true rfl) d12_isAsked_21 ?_
      rcases ite_some hf with ⟨c17, hf⟩ | ⟨c17, hf⟩
      · refine ev_if_eq_P (tgt := 31) c17 (by decide) d12_isAsked_24 ?_
        refine ev_iconst ci_0 d12_isAsked_31 ?_
        obtain ⟨rfl, rfl⟩ := ret_some hf
        exact ev_zret rfl (by decide) d12_isAsked_32
      · refine ev_if_eq_Q (tgt := 31) c17 (by decide) d12_isAsked_24 ?_
        refine ev_iconst ci_1 d12_isAsked_27 ?_
        refine ev_goto (tgt := 32) (by decide) d12_isAsked_28 ?_
        obtain ⟨rfl, rfl⟩ := ret_some hf
        exact ev_zret rfl (by decide) d12_isAsked_32
abbrev m12_flow : MD := ("MillBoatsModel", ⟨"MillBoatsModel", "flow", "(II)I"⟩, prog_14_method_21_code, 3, (some Jvm.ClassFile.FieldType.int))
theorem k12_flow : okY m12_flow.2.1 2 := ⟨by decide +kernel, by decide +kernel, by decide +kernel⟩
def f12_flow (σ : St) (v0 : Nat) (v1 : Int32) (v2 : Int32) : Option (Int32 × St) :=
  gd (ob σ v0 12) (
  lt (wI σ v0 0 (0 : Int32)) fun t2 => (
  bd (f12_isAsked t2 v0 v1 v2) fun r4 t5 => (
  (if r4 = (0 : Int32) then
  some ((-1 : Int32), t5)
  else
  bd (f12_flowOf t5 v0 v1 v2) fun r9 t10 => (
  some (r9, t10))))))
set_option maxRecDepth 50000 in
theorem s12_flow : ∀ (σ : St) (v0 : Nat) (v1 : Int32) (v2 : Int32) (r : Int32) (τ : St), f12_flow σ v0 v1 v2 = some (r, τ) → Call 4 m12_flow [.ref v0, .int v1, .int v2] σ (some (.int r)) τ := by
  intro σ v0 v1 v2 r τ hf
  unfold f12_flow at hf
  refine Call.of (by decide +kernel) rfl (Nat.le_of_ble_eq_true rfl) ?_
  refine ev_aload_n (j := 0) (i := 0) (q := 0) rfl rfl d12_flow_0 ?_
  refine ev_iconst ci_0 d12_flow_1 ?_
  obtain ⟨h1, hf⟩ := gd_some hf
  obtain ⟨t2, e3, hf⟩ := lt_some hf
  refine ev_putI cls12 (j := 0) (by decide) rfl rfl w1251 h1 (fun _ => ⟨rfl, rfl⟩) d12_flow_2 (ev_nmS e3 ?_)
  refine ev_aload_n (j := 0) (i := 0) (q := 0) rfl rfl d12_flow_5 ?_
  refine ev_iload_n (j := 1) (i := 1) (q := 1) rfl rfl d12_flow_6 ?_
  refine ev_iload_n (j := 2) (i := 2) (q := 2) rfl rfl d12_flow_7 ?_
  obtain ⟨r4, t5, k6, hf⟩ := bd_some hf
  have q7 := s12_isAsked _ _ _ _ _ _ k6
  refine ev_callV (vs := [.int v1, .int v2]) (sk := []) cls12 (mono_ob (mono_eI e3) h1) q7 (by decide) (Nat.le_of_ble_eq_true rfl) w1536 w1538 ws54 w19 w1539 k12_isAsked rfl (Nat.le_of_ble_eq_true rfl) d12_flow_8 ?_
  rcases ite_some hf with ⟨c8, hf⟩ | ⟨c8, hf⟩
  · refine ev_if_eq_P (tgt := 23) c8 (by decide) d12_flow_11 ?_
    refine ev_iconst ci_m1 d12_flow_23 ?_
    obtain ⟨rfl, rfl⟩ := ret_some hf
    exact ev_iret rfl d12_flow_24
  · refine ev_if_eq_Q (tgt := 23) c8 (by decide) d12_flow_11 ?_
    refine ev_aload_n (j := 0) (i := 0) (q := 0) rfl rfl d12_flow_14 ?_
    refine ev_iload_n (j := 1) (i := 1) (q := 1) rfl rfl d12_flow_15 ?_
    refine ev_iload_n (j := 2) (i := 2) (q := 2) rfl rfl d12_flow_16 ?_
    obtain ⟨r9, t10, k11, hf⟩ := bd_some hf
    have q12 := s12_flowOf _ _ _ _ _ _ k11
    refine ev_callV (vs := [.int v1, .int v2]) (sk := []) cls12 (mono_ob q7.1 (mono_ob (mono_eI e3) h1)) q12 (by decide) (Nat.le_of_ble_eq_true rfl) w1540 w1542 ws55 w19 w1543 k12_flowOf rfl (Nat.le_of_ble_eq_true rfl) d12_flow_17 ?_
    refine ev_goto (tgt := 24) (by decide) d12_flow_20 ?_
    obtain ⟨rfl, rfl⟩ := ret_some hf
    exact ev_iret rfl d12_flow_24
abbrev m12_power : MD := ("MillBoatsModel", ⟨"MillBoatsModel", "power", "(II)I"⟩, prog_14_method_22_code, 3, (some Jvm.ClassFile.FieldType.int))
theorem k12_power : okY m12_power.2.1 2 := ⟨by decide +kernel, by decide +kernel, by decide +kernel⟩
def f12_power (σ : St) (v0 : Nat) (v1 : Int32) (v2 : Int32) : Option (Int32 × St) :=
  gd (ob σ v0 12) (
  lt (wI σ v0 0 (0 : Int32)) fun t2 => (
  bd (f12_isAsked t2 v0 v1 v2) fun r4 t5 => (
  (if r4 = (0 : Int32) then
  some ((-1 : Int32), t5)
  else
  bd (f12_powerOf t5 v0 v1 v2) fun r9 t10 => (
  some (r9, t10))))))
set_option maxRecDepth 50000 in
theorem s12_power : ∀ (σ : St) (v0 : Nat) (v1 : Int32) (v2 : Int32) (r : Int32) (τ : St), f12_power σ v0 v1 v2 = some (r, τ) → Call 5 m12_power [.ref v0, .int v1, .int v2] σ (some (.int r)) τ := by
  intro σ v0 v1 v2 r τ hf
  unfold f12_power at hf
  refine Call.of (by decide +kernel) rfl (Nat.le_of_ble_eq_true rfl) ?_
  refine ev_aload_n (j := 0) (i := 0) (q := 0) rfl rfl d12_power_0 ?_
  refine ev_iconst ci_0 d12_power_1 ?_
  obtain ⟨h1, hf⟩ := gd_some hf
  obtain ⟨t2, e3, hf⟩ := lt_some hf
  refine ev_putI cls12 (j := 0) (by decide) rfl rfl w1251 h1 (fun _ => ⟨rfl, rfl⟩) d12_power_2 (ev_nmS e3 ?_)
  refine ev_aload_n (j := 0) (i := 0) (q := 0) rfl rfl d12_power_5 ?_
  refine ev_iload_n (j := 1) (i := 1) (q := 1) rfl rfl d12_power_6 ?_
  refine ev_iload_n (j := 2) (i := 2) (q := 2) rfl rfl d12_power_7 ?_
  obtain ⟨r4, t5, k6, hf⟩ := bd_some hf
  have q7 := s12_isAsked _ _ _ _ _ _ k6
  refine ev_callV (vs := [.int v1, .int v2]) (sk := []) cls12 (mono_ob (mono_eI e3) h1) q7 (by decide) (Nat.le_of_ble_eq_true rfl) w1536 w1538 ws54 w19 w1539 k12_isAsked rfl (Nat.le_of_ble_eq_true rfl) d12_power_8 ?_
  rcases ite_some hf with ⟨c8, hf⟩ | ⟨c8, hf⟩
  · refine ev_if_eq_P (tgt := 23) c8 (by decide) d12_power_11 ?_
    refine ev_iconst ci_m1 d12_power_23 ?_
    obtain ⟨rfl, rfl⟩ := ret_some hf
    exact ev_iret rfl d12_power_24
  · refine ev_if_eq_Q (tgt := 23) c8 (by decide) d12_power_11 ?_
    refine ev_aload_n (j := 0) (i := 0) (q := 0) rfl rfl d12_power_14 ?_
    refine ev_iload_n (j := 1) (i := 1) (q := 1) rfl rfl d12_power_15 ?_
    refine ev_iload_n (j := 2) (i := 2) (q := 2) rfl rfl d12_power_16 ?_
    obtain ⟨r9, t10, k11, hf⟩ := bd_some hf
    have q12 := s12_powerOf _ _ _ _ _ _ k11
    refine ev_callV (vs := [.int v1, .int v2]) (sk := []) cls12 (mono_ob q7.1 (mono_ob (mono_eI e3) h1)) q12 (by decide) (Nat.le_of_ble_eq_true rfl) w1548 w1550 ws56 w19 w1551 k12_powerOf rfl (Nat.le_of_ble_eq_true rfl) d12_power_17 ?_
    refine ev_goto (tgt := 24) (by decide) d12_power_20 ?_
    obtain ⟨rfl, rfl⟩ := ret_some hf
    exact ev_iret rfl d12_power_24
abbrev m12_pull : MD := ("MillBoatsModel", ⟨"MillBoatsModel", "pull", "(IIZ)I"⟩, prog_14_method_23_code, 4, (some Jvm.ClassFile.FieldType.int))
theorem k12_pull : okY m12_pull.2.1 3 := ⟨by decide +kernel, by decide +kernel, by decide +kernel⟩
def f12_pull (σ : St) (v0 : Nat) (v1 : Int32) (v2 : Int32) (v3 : Int32) : Option (Int32 × St) :=
  gd (ob σ v0 12) (
  lt (wI σ v0 0 (0 : Int32)) fun t2 => (
  bd (f12_isAsked t2 v0 v1 v2) fun r4 t5 => (
  (if r4 = (0 : Int32) then
  some ((-1 : Int32), t5)
  else
  bd (f12_pullOf t5 v0 v1 v2 v3) fun r9 t10 => (
  some (r9, t10))))))
set_option maxRecDepth 50000 in
theorem s12_pull : ∀ (σ : St) (v0 : Nat) (v1 : Int32) (v2 : Int32) (v3 : Int32) (r : Int32) (τ : St), f12_pull σ v0 v1 v2 v3 = some (r, τ) → Call 5 m12_pull [.ref v0, .int v1, .int v2, .int v3] σ (some (.int r)) τ := by
  intro σ v0 v1 v2 v3 r τ hf
  unfold f12_pull at hf
  refine Call.of (by decide +kernel) rfl (Nat.le_of_ble_eq_true rfl) ?_
  refine ev_aload_n (j := 0) (i := 0) (q := 0) rfl rfl d12_pull_0 ?_
  refine ev_iconst ci_0 d12_pull_1 ?_
  obtain ⟨h1, hf⟩ := gd_some hf
  obtain ⟨t2, e3, hf⟩ := lt_some hf
  refine ev_putI cls12 (j := 0) (by decide) rfl rfl w1251 h1 (fun _ => ⟨rfl, rfl⟩) d12_pull_2 (ev_nmS e3 ?_)
  refine ev_aload_n (j := 0) (i := 0) (q := 0) rfl rfl d12_pull_5 ?_
  refine ev_iload_n (j := 1) (i := 1) (q := 1) rfl rfl d12_pull_6 ?_
  refine ev_iload_n (j := 2) (i := 2) (q := 2) rfl rfl d12_pull_7 ?_
  obtain ⟨r4, t5, k6, hf⟩ := bd_some hf
  have q7 := s12_isAsked _ _ _ _ _ _ k6
  refine ev_callV (vs := [.int v1, .int v2]) (sk := []) cls12 (mono_ob (mono_eI e3) h1) q7 (by decide) (Nat.le_of_ble_eq_true rfl) w1536 w1538 ws54 w19 w1539 k12_isAsked rfl (Nat.le_of_ble_eq_true rfl) d12_pull_8 ?_
  rcases ite_some hf with ⟨c8, hf⟩ | ⟨c8, hf⟩
  · refine ev_if_eq_P (tgt := 24) c8 (by decide) d12_pull_11 ?_
    refine ev_iconst ci_m1 d12_pull_24 ?_
    obtain ⟨rfl, rfl⟩ := ret_some hf
    exact ev_iret rfl d12_pull_25
  · refine ev_if_eq_Q (tgt := 24) c8 (by decide) d12_pull_11 ?_
    refine ev_aload_n (j := 0) (i := 0) (q := 0) rfl rfl d12_pull_14 ?_
    refine ev_iload_n (j := 1) (i := 1) (q := 1) rfl rfl d12_pull_15 ?_
    refine ev_iload_n (j := 2) (i := 2) (q := 2) rfl rfl d12_pull_16 ?_
    refine ev_iload_n (j := 3) (i := 3) (q := 3) rfl rfl d12_pull_17 ?_
    obtain ⟨r9, t10, k11, hf⟩ := bd_some hf
    have q12 := s12_pullOf _ _ _ _ _ _ _ k11
    refine ev_callV (vs := [.int v1, .int v2, .int v3]) (sk := []) cls12 (mono_ob q7.1 (mono_ob (mono_eI e3) h1)) q12 (by decide) (Nat.le_of_ble_eq_true rfl) w1568 w1570 ws60 w19 w1571 k12_pullOf rfl (Nat.le_of_ble_eq_true rfl) d12_pull_18 ?_
    refine ev_goto (tgt := 25) (by decide) d12_pull_21 ?_
    obtain ⟨rfl, rfl⟩ := ret_some hf
    exact ev_iret rfl d12_pull_25
