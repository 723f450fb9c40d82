theorem d12_stepsTo_0 : decode prog_14_method_99_code 0 = .ok (.iconst 0, 1) := by decide +kernel
theorem d12_stepsTo_1 : decode prog_14_method_99_code 1 = .ok (.istore 4, 2) := by decide +kernel
theorem d12_stepsTo_3 : decode prog_14_method_99_code 3 = .ok (.iconst 0, 1) := by decide +kernel
theorem d12_stepsTo_4 : decode prog_14_method_99_code 4 = .ok (.istore 5, 2) := by decide +kernel
theorem d12_stepsTo_6 : decode prog_14_method_99_code 6 = .ok (.iload 5, 2) := by decide +kernel
theorem d12_stepsTo_8 : decode prog_14_method_99_code 8 = .ok (.bipush 72, 2) := by decide +kernel
theorem d12_stepsTo_10 : decode prog_14_method_99_code 10 = .ok (.if_icmp .ge 17, 3) := by decide +kernel
theorem d12_stepsTo_13 : decode prog_14_method_99_code 13 = .ok (.aload_n 0, 1) := by decide +kernel
theorem d12_stepsTo_14 : decode prog_14_method_99_code 14 = .ok (.getfield 166, 3) := by decide +kernel
theorem d12_stepsTo_17 : decode prog_14_method_99_code 17 = .ok (.iload 5, 2) := by decide +kernel
theorem d12_stepsTo_19 : decode prog_14_method_99_code 19 = .ok (.iconst (-1), 1) := by decide +kernel
theorem d12_stepsTo_20 : decode prog_14_method_99_code 20 = .ok (.iastore, 1) := by decide +kernel
theorem d12_stepsTo_21 : decode prog_14_method_99_code 21 = .ok (.iinc 5 1, 3) := by decide +kernel
theorem d12_stepsTo_24 : decode prog_14_method_99_code 24 = .ok (.goto (-18), 3) := by decide +kernel
theorem d12_stepsTo_27 : decode prog_14_method_99_code 27 = .ok (.aload_n 0, 1) := by decide +kernel
theorem d12_stepsTo_28 : decode prog_14_method_99_code 28 = .ok (.getfield 35, 3) := by decide +kernel
theorem d12_stepsTo_31 : decode prog_14_method_99_code 31 = .ok (.iload_n 1, 1) := by decide +kernel
theorem d12_stepsTo_32 : decode prog_14_method_99_code 32 = .ok (.iaload, 1) := by decide +kernel
theorem d12_stepsTo_33 : decode prog_14_method_99_code 33 = .ok (.ifCond .lt 33, 3) := by decide +kernel
theorem d12_stepsTo_36 : decode prog_14_method_99_code 36 = .ok (.aload_n 0, 1) := by decide +kernel
theorem d12_stepsTo_37 : decode prog_14_method_99_code 37 = .ok (.getfield 166, 3) := by decide +kernel
theorem d12_stepsTo_40 : decode prog_14_method_99_code 40 = .ok (.aload_n 0, 1) := by decide +kernel
theorem d12_stepsTo_41 : decode prog_14_method_99_code 41 = .ok (.getfield 35, 3) := by decide +kernel
theorem d12_stepsTo_44 : decode prog_14_method_99_code 44 = .ok (.iload_n 1, 1) := by decide +kernel
theorem d12_stepsTo_45 : decode prog_14_method_99_code 45 = .ok (.iaload, 1) := by decide +kernel
theorem d12_stepsTo_46 : decode prog_14_method_99_code 46 = .ok (.iconst 0, 1) := by decide +kernel
theorem d12_stepsTo_47 : decode prog_14_method_99_code 47 = .ok (.iastore, 1) := by decide +kernel
theorem d12_stepsTo_48 : decode prog_14_method_99_code 48 = .ok (.aload_n 0, 1) := by decide +kernel
theorem d12_stepsTo_49 : decode prog_14_method_99_code 49 = .ok (.getfield 169, 3) := by decide +kernel
theorem d12_stepsTo_52 : decode prog_14_method_99_code 52 = .ok (.iconst 0, 1) := by decide +kernel
theorem d12_stepsTo_53 : decode prog_14_method_99_code 53 = .ok (.aload_n 0, 1) := by decide +kernel
theorem d12_stepsTo_54 : decode prog_14_method_99_code 54 = .ok (.getfield 35, 3) := by decide +kernel
theorem d12_stepsTo_57 : decode prog_14_method_99_code 57 = .ok (.iload_n 1, 1) := by decide +kernel
theorem d12_stepsTo_58 : decode prog_14_method_99_code 58 = .ok (.iaload, 1) := by decide +kernel
theorem d12_stepsTo_59 : decode prog_14_method_99_code 59 = .ok (.iastore, 1) := by decide +kernel
theorem d12_stepsTo_60 : decode prog_14_method_99_code 60 = .ok (.iconst 1, 1) := by decide +kernel
theorem d12_stepsTo_61 : decode prog_14_method_99_code 61 = .ok (.istore 4, 2) := by decide +kernel
theorem d12_stepsTo_63 : decode prog_14_method_99_code 63 = .ok (.goto 61, 3) := by decide +kernel
theorem d12_stepsTo_66 : decode prog_14_method_99_code 66 = .ok (.iconst 0, 1) := by decide +kernel
theorem d12_stepsTo_67 : decode prog_14_method_99_code 67 = .ok (.istore 5, 2) := by decide +kernel
theorem d12_stepsTo_69 : decode prog_14_method_99_code 69 = .ok (.iload 5, 2) := by decide +kernel
theorem d12_stepsTo_71 : decode prog_14_method_99_code 71 = .ok (.bipush 72, 2) := by decide +kernel
theorem d12_stepsTo_73 : decode prog_14_method_99_code 73 = .ok (.if_icmp .ge 51, 3) := by decide +kernel
theorem d12_stepsTo_76 : decode prog_14_method_99_code 76 = .ok (.iload 5, 2) := by decide +kernel
theorem d12_stepsTo_78 : decode prog_14_method_99_code 78 = .ok (.invokestatic 520, 3) := by decide +kernel
theorem d12_stepsTo_81 : decode prog_14_method_99_code 81 = .ok (.ifCond .eq 37, 3) := by decide +kernel
theorem d12_stepsTo_84 : decode prog_14_method_99_code 84 = .ok (.aload_n 0, 1) := by decide +kernel
theorem d12_stepsTo_85 : decode prog_14_method_99_code 85 = .ok (.iload_n 1, 1) := by decide +kernel
theorem d12_stepsTo_86 : decode prog_14_method_99_code 86 = .ok (.iload 5, 2) := by decide +kernel
theorem d12_stepsTo_88 : decode prog_14_method_99_code 88 = .ok (.iload_n 3, 1) := by decide +kernel
theorem d12_stepsTo_89 : decode prog_14_method_99_code 89 = .ok (.invokevirtual 523, 3) := by decide +kernel
theorem d12_stepsTo_92 : decode prog_14_method_99_code 92 = .ok (.ifCond .ne 6, 3) := by decide +kernel
theorem d12_stepsTo_95 : decode prog_14_method_99_code 95 = .ok (.goto 23, 3) := by decide +kernel
theorem d12_stepsTo_98 : decode prog_14_method_99_code 98 = .ok (.aload_n 0, 1) := by decide +kernel
theorem d12_stepsTo_99 : decode prog_14_method_99_code 99 = .ok (.getfield 166, 3) := by decide +kernel
theorem d12_stepsTo_102 : decode prog_14_method_99_code 102 = .ok (.iload 5, 2) := by decide +kernel
theorem d12_stepsTo_104 : decode prog_14_method_99_code 104 = .ok (.iconst 1, 1) := by decide +kernel
theorem d12_stepsTo_105 : decode prog_14_method_99_code 105 = .ok (.iastore, 1) := by decide +kernel
theorem d12_stepsTo_106 : decode prog_14_method_99_code 106 = .ok (.aload_n 0, 1) := by decide +kernel
theorem d12_stepsTo_107 : decode prog_14_method_99_code 107 = .ok (.getfield 169, 3) := by decide +kernel
theorem d12_stepsTo_110 : decode prog_14_method_99_code 110 = .ok (.iload 4, 2) := by decide +kernel
theorem d12_stepsTo_112 : decode prog_14_method_99_code 112 = .ok (.iload 5, 2) := by decide +kernel
theorem d12_stepsTo_114 : decode prog_14_method_99_code 114 = .ok (.iastore, 1) := by decide +kernel
theorem d12_stepsTo_115 : decode prog_14_method_99_code 115 = .ok (.iinc 4 1, 3) := by decide +kernel
theorem d12_stepsTo_118 : decode prog_14_method_99_code 118 = .ok (.iinc 5 1, 3) := by decide +kernel
theorem d12_stepsTo_121 : decode prog_14_method_99_code 121 = .ok (.goto (-52), 3) := by decide +kernel
theorem d12_stepsTo_124 : decode prog_14_method_99_code 124 = .ok (.iconst (-1), 1) := by decide +kernel
theorem d12_stepsTo_125 : decode prog_14_method_99_code 125 = .ok (.istore 5, 2) := by decide +kernel
theorem d12_stepsTo_127 : decode prog_14_method_99_code 127 = .ok (.iconst 0, 1) := by decide +kernel
theorem d12_stepsTo_128 : decode prog_14_method_99_code 128 = .ok (.istore 6, 2) := by decide +kernel
theorem d12_stepsTo_130 : decode prog_14_method_99_code 130 = .ok (.iload 6, 2) := by decide +kernel
theorem d12_stepsTo_132 : decode prog_14_method_99_code 132 = .ok (.iload 4, 2) := by decide +kernel
theorem d12_stepsTo_134 : decode prog_14_method_99_code 134 = .ok (.if_icmp .ge 221, 3) := by decide +kernel
theorem d12_stepsTo_137 : decode prog_14_method_99_code 137 = .ok (.aload_n 0, 1) := by decide +kernel
theorem d12_stepsTo_138 : decode prog_14_method_99_code 138 = .ok (.getfield 169, 3) := by decide +kernel
theorem d12_stepsTo_141 : decode prog_14_method_99_code 141 = .ok (.iload 6, 2) := by decide +kernel
theorem d12_stepsTo_143 : decode prog_14_method_99_code 143 = .ok (.iaload, 1) := by decide +kernel
theorem d12_stepsTo_144 : decode prog_14_method_99_code 144 = .ok (.istore 7, 2) := by decide +kernel
theorem d12_stepsTo_146 : decode prog_14_method_99_code 146 = .ok (.iload 7, 2) := by decide +kernel
theorem d12_stepsTo_148 : decode prog_14_method_99_code 148 = .ok (.iload_n 2, 1) := by decide +kernel
theorem d12_stepsTo_149 : decode prog_14_method_99_code 149 = .ok (.if_icmp .ne 11, 3) := by decide +kernel
theorem d12_stepsTo_152 : decode prog_14_method_99_code 152 = .ok (.aload_n 0, 1) := by decide +kernel
theorem d12_stepsTo_153 : decode prog_14_method_99_code 153 = .ok (.getfield 166, 3) := by decide +kernel
theorem d12_stepsTo_156 : decode prog_14_method_99_code 156 = .ok (.iload 7, 2) := by decide +kernel
theorem d12_stepsTo_158 : decode prog_14_method_99_code 158 = .ok (.iaload, 1) := by decide +kernel
theorem d12_stepsTo_159 : decode prog_14_method_99_code 159 = .ok (.ireturn, 1) := by decide +kernel
theorem d12_stepsTo_160 : decode prog_14_method_99_code 160 = .ok (.iload_n 2, 1) := by decide +kernel
theorem d12_stepsTo_161 : decode prog_14_method_99_code 161 = .ok (.iconst (-1), 1) := by decide +kernel
theorem d12_stepsTo_162 : decode prog_14_method_99_code 162 = .ok (.if_icmp .ne 28, 3) := by decide +kernel
theorem d12_stepsTo_165 : decode prog_14_method_99_code 165 = .ok (.iload 5, 2) := by decide +kernel
theorem d12_stepsTo_167 : decode prog_14_method_99_code 167 = .ok (.iconst (-1), 1) := by decide +kernel
theorem d12_stepsTo_168 : decode prog_14_method_99_code 168 = .ok (.if_icmp .ne 22, 3) := by decide +kernel
theorem d12_stepsTo_171 : decode prog_14_method_99_code 171 = .ok (.iload 7, 2) := by decide +kernel
theorem d12_stepsTo_173 : decode prog_14_method_99_code 173 = .ok (.invokestatic 520, 3) := by decide +kernel
theorem d12_stepsTo_176 : decode prog_14_method_99_code 176 = .ok (.ifCond .eq 14, 3) := by decide +kernel
theorem d12_stepsTo_179 : decode prog_14_method_99_code 179 = .ok (.aload_n 0, 1) := by decide +kernel
theorem d12_stepsTo_180 : decode prog_14_method_99_code 180 = .ok (.getfield 166, 3) := by decide +kernel
theorem d12_stepsTo_183 : decode prog_14_method_99_code 183 = .ok (.iload 7, 2) := by decide +kernel
theorem d12_stepsTo_185 : decode prog_14_method_99_code 185 = .ok (.iaload, 1) := by decide +kernel
theorem d12_stepsTo_186 : decode prog_14_method_99_code 186 = .ok (.iconst 1, 1) := by decide +kernel
theorem d12_stepsTo_187 : decode prog_14_method_99_code 187 = .ok (.iadd, 1) := by decide +kernel
theorem d12_stepsTo_188 : decode prog_14_method_99_code 188 = .ok (.istore 5, 2) := by decide +kernel
theorem d12_stepsTo_190 : decode prog_14_method_99_code 190 = .ok (.iconst 0, 1) := by decide +kernel
theorem d12_stepsTo_191 : decode prog_14_method_99_code 191 = .ok (.istore 8, 2) := by decide +kernel
theorem d12_stepsTo_193 : decode prog_14_method_99_code 193 = .ok (.iload 8, 2) := by decide +kernel
theorem d12_stepsTo_195 : decode prog_14_method_99_code 195 = .ok (.iconst 4, 1) := by decide +kernel
theorem d12_stepsTo_196 : decode prog_14_method_99_code 196 = .ok (.if_icmp .ge 153, 3) := by decide +kernel
theorem d12_stepsTo_199 : decode prog_14_method_99_code 199 = .ok (.iload 7, 2) := by decide +kernel
theorem d12_stepsTo_201 : decode prog_14_method_99_code 201 = .ok (.bipush 12, 2) := by decide +kernel
theorem d12_stepsTo_203 : decode prog_14_method_99_code 203 = .ok (.idiv, 1) := by decide +kernel
theorem d12_stepsTo_204 : decode prog_14_method_99_code 204 = .ok (.iload 8, 2) := by decide +kernel
theorem d12_stepsTo_206 : decode prog_14_method_99_code 206 = .ok (.ifCond .ne 7, 3) := by decide +kernel
theorem d12_stepsTo_209 : decode prog_14_method_99_code 209 = .ok (.iconst 1, 1) := by decide +kernel
theorem d12_stepsTo_210 : decode prog_14_method_99_code 210 = .ok (.goto 14, 3) := by decide +kernel
theorem d12_stepsTo_213 : decode prog_14_method_99_code 213 = .ok (.iload 8, 2) := by decide +kernel
theorem d12_stepsTo_215 : decode prog_14_method_99_code 215 = .ok (.iconst 1, 1) := by decide +kernel
theorem d12_stepsTo_216 : decode prog_14_method_99_code 216 = .ok (.if_icmp .ne 7, 3) := by decide +kernel
theorem d12_stepsTo_219 : decode prog_14_method_99_code 219 = .ok (.iconst (-1), 1) := by decide +kernel
theorem d12_stepsTo_220 : decode prog_14_method_99_code 220 = .ok (.goto 4, 3) := by decide +kernel
theorem d12_stepsTo_223 : decode prog_14_method_99_code 223 = .ok (.iconst 0, 1) := by decide +kernel
theorem d12_stepsTo_224 : decode prog_14_method_99_code 224 = .ok (.iadd, 1) := by decide +kernel
theorem d12_stepsTo_225 : decode prog_14_method_99_code 225 = .ok (.istore 9, 2) := by decide +kernel
theorem d12_stepsTo_227 : decode prog_14_method_99_code 227 = .ok (.iload 7, 2) := by decide +kernel
theorem d12_stepsTo_229 : decode prog_14_method_99_code 229 = .ok (.bipush 12, 2) := by decide +kernel
theorem d12_stepsTo_231 : decode prog_14_method_99_code 231 = .ok (.irem, 1) := by decide +kernel
theorem d12_stepsTo_232 : decode prog_14_method_99_code 232 = .ok (.iload 8, 2) := by decide +kernel
theorem d12_stepsTo_234 : decode prog_14_method_99_code 234 = .ok (.iconst 2, 1) := by decide +kernel
theorem d12_stepsTo_235 : decode prog_14_method_99_code 235 = .ok (.if_icmp .ne 7, 3) := by decide +kernel
theorem d12_stepsTo_238 : decode prog_14_method_99_code 238 = .ok (.iconst 1, 1) := by decide +kernel
theorem d12_stepsTo_239 : decode prog_14_method_99_code 239 = .ok (.goto 14, 3) := by decide +kernel
theorem d12_stepsTo_242 : decode prog_14_method_99_code 242 = .ok (.iload 8, 2) := by decide +kernel
theorem d12_stepsTo_244 : decode prog_14_method_99_code 244 = .ok (.iconst 3, 1) := by decide +kernel
theorem d12_stepsTo_245 : decode prog_14_method_99_code 245 = .ok (.if_icmp .ne 7, 3) := by decide +kernel
theorem d12_stepsTo_248 : decode prog_14_method_99_code 248 = .ok (.iconst (-1), 1) := by decide +kernel
theorem d12_stepsTo_249 : decode prog_14_method_99_code 249 = .ok (.goto 4, 3) := by decide +kernel
theorem d12_stepsTo_252 : decode prog_14_method_99_code 252 = .ok (.iconst 0, 1) := by decide +kernel
theorem d12_stepsTo_253 : decode prog_14_method_99_code 253 = .ok (.iadd, 1) := by decide +kernel
theorem d12_stepsTo_254 : decode prog_14_method_99_code 254 = .ok (.istore 10, 2) := by decide +kernel
theorem d12_stepsTo_256 : decode prog_14_method_99_code 256 = .ok (.iload 9, 2) := by decide +kernel
theorem d12_stepsTo_258 : decode prog_14_method_99_code 258 = .ok (.iconst 0, 1) := by decide +kernel
theorem d12_stepsTo_259 : decode prog_14_method_99_code 259 = .ok (.iconst 5, 1) := by decide +kernel
theorem d12_stepsTo_260 : decode prog_14_method_99_code 260 = .ok (.invokestatic 176, 3) := by decide +kernel
theorem d12_stepsTo_263 : decode prog_14_method_99_code 263 = .ok (.ifCond .eq 80, 3) := by decide +kernel
theorem d12_stepsTo_266 : decode prog_14_method_99_code 266 = .ok (.iload 10, 2) := by decide +kernel
theorem d12_stepsTo_268 : decode prog_14_method_99_code 268 = .ok (.iconst 0, 1) := by decide +kernel
theorem d12_stepsTo_269 : decode prog_14_method_99_code 269 = .ok (.bipush 11, 2) := by decide +kernel
theorem d12_stepsTo_271 : decode prog_14_method_99_code 271 = .ok (.invokestatic 176, 3) := by decide +kernel
theorem d12_stepsTo_274 : decode prog_14_method_99_code 274 = .ok (.ifCond .ne 6, 3) := by decide +kernel
theorem d12_stepsTo_277 : decode prog_14_method_99_code 277 = .ok (.goto 66, 3) := by decide +kernel
theorem d12_stepsTo_280 : decode prog_14_method_99_code 280 = .ok (.bipush 12, 2) := by decide +kernel
theorem d12_stepsTo_282 : decode prog_14_method_99_code 282 = .ok (.iload 9, 2) := by decide +kernel
theorem d12_stepsTo_284 : decode prog_14_method_99_code 284 = .ok (.imul, 1) := by decide +kernel
theorem d12_stepsTo_285 : decode prog_14_method_99_code 285 = .ok (.iload 10, 2) := by decide +kernel
theorem d12_stepsTo_287 : decode prog_14_method_99_code 287 = .ok (.iadd, 1) := by decide +kernel
theorem d12_stepsTo_288 : decode prog_14_method_99_code 288 = .ok (.istore 11, 2) := by decide +kernel
theorem d12_stepsTo_290 : decode prog_14_method_99_code 290 = .ok (.aload_n 0, 1) := by decide +kernel
theorem d12_stepsTo_291 : decode prog_14_method_99_code 291 = .ok (.getfield 166, 3) := by decide +kernel
theorem d12_stepsTo_294 : decode prog_14_method_99_code 294 = .ok (.iload 11, 2) := by decide +kernel
theorem d12_stepsTo_296 : decode prog_14_method_99_code 296 = .ok (.iaload, 1) := by decide +kernel
theorem d12_stepsTo_297 : decode prog_14_method_99_code 297 = .ok (.iconst (-1), 1) := by decide +kernel
theorem d12_stepsTo_298 : decode prog_14_method_99_code 298 = .ok (.if_icmp .ne 45, 3) := by decide +kernel
theorem d12_stepsTo_301 : decode prog_14_method_99_code 301 = .ok (.aload_n 0, 1) := by decide +kernel
theorem d12_stepsTo_302 : decode prog_14_method_99_code 302 = .ok (.iload_n 1, 1) := by decide +kernel
theorem d12_stepsTo_303 : decode prog_14_method_99_code 303 = .ok (.iload 11, 2) := by decide +kernel
theorem d12_stepsTo_305 : decode prog_14_method_99_code 305 = .ok (.iload_n 3, 1) := by decide +kernel
theorem d12_stepsTo_306 : decode prog_14_method_99_code 306 = .ok (.invokevirtual 523, 3) := by decide +kernel
theorem d12_stepsTo_309 : decode prog_14_method_99_code 309 = .ok (.ifCond .ne 6, 3) := by decide +kernel
theorem d12_stepsTo_312 : decode prog_14_method_99_code 312 = .ok (.goto 31, 3) := by decide +kernel
theorem d12_stepsTo_315 : decode prog_14_method_99_code 315 = .ok (.aload_n 0, 1) := by decide +kernel
theorem d12_stepsTo_316 : decode prog_14_method_99_code 316 = .ok (.getfield 166, 3) := by decide +kernel
theorem d12_stepsTo_319 : decode prog_14_method_99_code 319 = .ok (.iload 11, 2) := by decide +kernel
theorem d12_stepsTo_321 : decode prog_14_method_99_code 321 = .ok (.aload_n 0, 1) := by decide +kernel
theorem d12_stepsTo_322 : decode prog_14_method_99_code 322 = .ok (.getfield 166, 3) := by decide +kernel
theorem d12_stepsTo_325 : decode prog_14_method_99_code 325 = .ok (.iload 7, 2) := by decide +kernel
theorem d12_stepsTo_327 : decode prog_14_method_99_code 327 = .ok (.iaload, 1) := by decide +kernel
theorem d12_stepsTo_328 : decode prog_14_method_99_code 328 = .ok (.iconst 1, 1) := by decide +kernel
theorem d12_stepsTo_329 : decode prog_14_method_99_code 329 = .ok (.iadd, 1) := by decide +kernel
theorem d12_stepsTo_330 : decode prog_14_method_99_code 330 = .ok (.iastore, 1) := by decide +kernel
theorem d12_stepsTo_331 : decode prog_14_method_99_code 331 = .ok (.aload_n 0, 1) := by decide +kernel
theorem d12_stepsTo_332 : decode prog_14_method_99_code 332 = .ok (.getfield 169, 3) := by decide +kernel
theorem d12_stepsTo_335 : decode prog_14_method_99_code 335 = .ok (.iload 4, 2) := by decide +kernel
theorem d12_stepsTo_337 : decode prog_14_method_99_code 337 = .ok (.iload 11, 2) := by decide +kernel
theorem d12_stepsTo_339 : decode prog_14_method_99_code 339 = .ok (.iastore, 1) := by decide +kernel
theorem d12_stepsTo_340 : decode prog_14_method_99_code 340 = .ok (.iinc 4 1, 3) := by decide +kernel
theorem d12_stepsTo_343 : decode prog_14_method_99_code 343 = .ok (.iinc 8 1, 3) := by decide +kernel
theorem d12_stepsTo_346 : decode prog_14_method_99_code 346 = .ok (.goto (-153), 3) := by decide +kernel
theorem d12_stepsTo_349 : decode prog_14_method_99_code 349 = .ok (.iinc 6 1, 3) := by decide +kernel
theorem d12_stepsTo_352 : decode prog_14_method_99_code 352 = .ok (.goto (-222), 3) := by decide +kernel
theorem d12_stepsTo_355 : decode prog_14_method_99_code 355 = .ok (.iload 5, 2) := by decide +kernel
theorem d12_stepsTo_357 : decode prog_14_method_99_code 357 = .ok (.ireturn, 1) := by decide +kernel
theorem d12_orders_0 : decode prog_14_method_100_code 0 = .ok (.iconst 1, 1) := by decide +kernel
theorem d12_orders_1 : decode prog_14_method_100_code 1 = .ok (.istore_n 3, 1) := by decide +kernel
theorem d12_orders_2 : decode prog_14_method_100_code 2 = .ok (.iconst 0, 1) := by decide +kernel
theorem d12_orders_3 : decode prog_14_method_100_code 3 = .ok (.istore 4, 2) := by decide +kernel
theorem d12_orders_5 : decode prog_14_method_100_code 5 = .ok (.iload 4, 2) := by decide +kernel
theorem d12_orders_7 : decode prog_14_method_100_code 7 = .ok (.aload_n 0, 1) := by decide +kernel
theorem d12_orders_8 : decode prog_14_method_100_code 8 = .ok (.getfield 184, 3) := by decide +kernel
theorem d12_orders_11 : decode prog_14_method_100_code 11 = .ok (.if_icmp .ge 37, 3) := by decide +kernel
theorem d12_orders_14 : decode prog_14_method_100_code 14 = .ok (.aload_n 0, 1) := by decide +kernel
theorem d12_orders_15 : decode prog_14_method_100_code 15 = .ok (.iload 4, 2) := by decide +kernel
theorem d12_orders_17 : decode prog_14_method_100_code 17 = .ok (.invokevirtual 487, 3) := by decide +kernel
theorem d12_orders_20 : decode prog_14_method_100_code 20 = .ok (.ifCond .eq 22, 3) := by decide +kernel
theorem d12_orders_23 : decode prog_14_method_100_code 23 = .ok (.aload_n 0, 1) := by decide +kernel
theorem d12_orders_24 : decode prog_14_method_100_code 24 = .ok (.getfield 35, 3) := by decide +kernel
theorem d12_orders_27 : decode prog_14_method_100_code 27 = .ok (.iload 4, 2) := by decide +kernel
theorem d12_orders_29 : decode prog_14_method_100_code 29 = .ok (.iaload, 1) := by decide +kernel
theorem d12_orders_30 : decode prog_14_method_100_code 30 = .ok (.aload_n 0, 1) := by decide +kernel
theorem d12_orders_31 : decode prog_14_method_100_code 31 = .ok (.getfield 145, 3) := by decide +kernel
theorem d12_orders_34 : decode prog_14_method_100_code 34 = .ok (.iload 4, 2) := by decide +kernel
theorem d12_orders_36 : decode prog_14_method_100_code 36 = .ok (.iaload, 1) := by decide +kernel
theorem d12_orders_37 : decode prog_14_method_100_code 37 = .ok (.if_icmp .eq 5, 3) := by decide +kernel
theorem d12_orders_40 : decode prog_14_method_100_code 40 = .ok (.iconst 0, 1) := by decide +kernel
theorem d12_orders_41 : decode prog_14_method_100_code 41 = .ok (.istore_n 3, 1) := by decide +kernel
theorem d12_orders_42 : decode prog_14_method_100_code 42 = .ok (.iinc 4 1, 3) := by decide +kernel
theorem d12_orders_45 : decode prog_14_method_100_code 45 = .ok (.goto (-40), 3) := by decide +kernel
theorem d12_orders_48 : decode prog_14_method_100_code 48 = .ok (.iload_n 3, 1) := by decide +kernel
theorem d12_orders_49 : decode prog_14_method_100_code 49 = .ok (.ifCond .eq 10, 3) := by decide +kernel
theorem d12_orders_52 : decode prog_14_method_100_code 52 = .ok (.aload_n 0, 1) := by decide +kernel
theorem d12_orders_53 : decode prog_14_method_100_code 53 = .ok (.iload_n 1, 1) := by decide +kernel
theorem d12_orders_54 : decode prog_14_method_100_code 54 = .ok (.putfield 526, 3) := by decide +kernel
theorem d12_orders_57 : decode prog_14_method_100_code 57 = .ok (.iconst 1, 1) := by decide +kernel
theorem d12_orders_58 : decode prog_14_method_100_code 58 = .ok (.ireturn, 1) := by decide +kernel
theorem d12_orders_59 : decode prog_14_method_100_code 59 = .ok (.iconst 0, 1) := by decide +kernel
theorem d12_orders_60 : decode prog_14_method_100_code 60 = .ok (.istore 4, 2) := by decide +kernel
theorem d12_orders_62 : decode prog_14_method_100_code 62 = .ok (.iload 4, 2) := by decide +kernel
theorem d12_orders_64 : decode prog_14_method_100_code 64 = .ok (.aload_n 0, 1) := by decide +kernel
theorem d12_orders_65 : decode prog_14_method_100_code 65 = .ok (.getfield 184, 3) := by decide +kernel
theorem d12_orders_68 : decode prog_14_method_100_code 68 = .ok (.if_icmp .ge 144, 3) := by decide +kernel
theorem d12_orders_71 : decode prog_14_method_100_code 71 = .ok (.aload_n 0, 1) := by decide +kernel
theorem d12_orders_72 : decode prog_14_method_100_code 72 = .ok (.iload 4, 2) := by decide +kernel
theorem d12_orders_74 : decode prog_14_method_100_code 74 = .ok (.invokevirtual 487, 3) := by decide +kernel
theorem d12_orders_77 : decode prog_14_method_100_code 77 = .ok (.ifCond .eq 129, 3) := by decide +kernel
theorem d12_orders_80 : decode prog_14_method_100_code 80 = .ok (.aload_n 0, 1) := by decide +kernel
theorem d12_orders_81 : decode prog_14_method_100_code 81 = .ok (.getfield 35, 3) := by decide +kernel
theorem d12_orders_84 : decode prog_14_method_100_code 84 = .ok (.iload 4, 2) := by decide +kernel
theorem d12_orders_86 : decode prog_14_method_100_code 86 = .ok (.iaload, 1) := by decide +kernel
theorem d12_orders_87 : decode prog_14_method_100_code 87 = .ok (.aload_n 0, 1) := by decide +kernel
theorem d12_orders_88 : decode prog_14_method_100_code 88 = .ok (.getfield 145, 3) := by decide +kernel
theorem d12_orders_91 : decode prog_14_method_100_code 91 = .ok (.iload 4, 2) := by decide +kernel
theorem d12_orders_93 : decode prog_14_method_100_code 93 = .ok (.iaload, 1) := by decide +kernel
theorem d12_orders_94 : decode prog_14_method_100_code 94 = .ok (.if_icmp .ne 6, 3) := by decide +kernel
theorem d12_orders_97 : decode prog_14_method_100_code 97 = .ok (.goto 109, 3) := by decide +kernel
theorem d12_orders_100 : decode prog_14_method_100_code 100 = .ok (.aload_n 0, 1) := by decide +kernel
theorem d12_orders_101 : decode prog_14_method_100_code 101 = .ok (.iload 4, 2) := by decide +kernel
theorem d12_orders_103 : decode prog_14_method_100_code 103 = .ok (.aload_n 0, 1) := by decide +kernel
theorem d12_orders_104 : decode prog_14_method_100_code 104 = .ok (.getfield 145, 3) := by decide +kernel
theorem d12_orders_107 : decode prog_14_method_100_code 107 = .ok (.iload 4, 2) := by decide +kernel
theorem d12_orders_109 : decode prog_14_method_100_code 109 = .ok (.iaload, 1) := by decide +kernel
theorem d12_orders_110 : decode prog_14_method_100_code 110 = .ok (.iload_n 2, 1) := by decide +kernel
theorem d12_orders_111 : decode prog_14_method_100_code 111 = .ok (.invokevirtual 529, 3) := by decide +kernel
theorem d12_orders_114 : decode prog_14_method_100_code 114 = .ok (.istore 5, 2) := by decide +kernel
theorem d12_orders_116 : decode prog_14_method_100_code 116 = .ok (.iload 5, 2) := by decide +kernel
theorem d12_orders_118 : decode prog_14_method_100_code 118 = .ok (.iconst (-1), 1) := by decide +kernel
theorem d12_orders_119 : decode prog_14_method_100_code 119 = .ok (.if_icmp .ne 6, 3) := by decide +kernel
theorem d12_orders_122 : decode prog_14_method_100_code 122 = .ok (.goto 84, 3) := by decide +kernel
theorem d12_orders_125 : decode prog_14_method_100_code 125 = .ok (.aload_n 0, 1) := by decide +kernel
theorem d12_orders_126 : decode prog_14_method_100_code 126 = .ok (.getfield 35, 3) := by decide +kernel
theorem d12_orders_129 : decode prog_14_method_100_code 129 = .ok (.iload 4, 2) := by decide +kernel
theorem d12_orders_131 : decode prog_14_method_100_code 131 = .ok (.iaload, 1) := by decide +kernel
theorem d12_orders_132 : decode prog_14_method_100_code 132 = .ok (.istore 6, 2) := by decide +kernel
theorem d12_orders_134 : decode prog_14_method_100_code 134 = .ok (.aload_n 0, 1) := by decide +kernel
theorem d12_orders_135 : decode prog_14_method_100_code 135 = .ok (.getfield 35, 3) := by decide +kernel
theorem d12_orders_138 : decode prog_14_method_100_code 138 = .ok (.iload 4, 2) := by decide +kernel
theorem d12_orders_140 : decode prog_14_method_100_code 140 = .ok (.aload_n 0, 1) := by decide +kernel
theorem d12_orders_141 : decode prog_14_method_100_code 141 = .ok (.getfield 145, 3) := by decide +kernel
theorem d12_orders_144 : decode prog_14_method_100_code 144 = .ok (.iload 4, 2) := by decide +kernel
theorem d12_orders_146 : decode prog_14_method_100_code 146 = .ok (.iaload, 1) := by decide +kernel
theorem d12_orders_147 : decode prog_14_method_100_code 147 = .ok (.iastore, 1) := by decide +kernel
theorem d12_orders_148 : decode prog_14_method_100_code 148 = .ok (.aload_n 0, 1) := by decide +kernel
theorem d12_orders_149 : decode prog_14_method_100_code 149 = .ok (.getfield 160, 3) := by decide +kernel
theorem d12_orders_152 : decode prog_14_method_100_code 152 = .ok (.iload_n 1, 1) := by decide +kernel
theorem d12_orders_153 : decode prog_14_method_100_code 153 = .ok (.iload 4, 2) := by decide +kernel
theorem d12_orders_155 : decode prog_14_method_100_code 155 = .ok (.iastore, 1) := by decide +kernel
theorem d12_orders_156 : decode prog_14_method_100_code 156 = .ok (.aload_n 0, 1) := by decide +kernel
theorem d12_orders_157 : decode prog_14_method_100_code 157 = .ok (.getfield 163, 3) := by decide +kernel
theorem d12_orders_160 : decode prog_14_method_100_code 160 = .ok (.iload_n 1, 1) := by decide +kernel
theorem d12_orders_161 : decode prog_14_method_100_code 161 = .ok (.iload 5, 2) := by decide +kernel
theorem d12_orders_163 : decode prog_14_method_100_code 163 = .ok (.iastore, 1) := by decide +kernel
theorem d12_orders_164 : decode prog_14_method_100_code 164 = .ok (.aload_n 0, 1) := by decide +kernel
theorem d12_orders_165 : decode prog_14_method_100_code 165 = .ok (.iload_n 1, 1) := by decide +kernel
theorem d12_orders_166 : decode prog_14_method_100_code 166 = .ok (.iconst 1, 1) := by decide +kernel
theorem d12_orders_167 : decode prog_14_method_100_code 167 = .ok (.iadd, 1) := by decide +kernel
theorem d12_orders_168 : decode prog_14_method_100_code 168 = .ok (.iload_n 2, 1) := by decide +kernel
theorem d12_orders_169 : decode prog_14_method_100_code 169 = .ok (.invokevirtual 532, 3) := by decide +kernel
theorem d12_orders_172 : decode prog_14_method_100_code 172 = .ok (.istore 7, 2) := by decide +kernel
theorem d12_orders_174 : decode prog_14_method_100_code 174 = .ok (.aload_n 0, 1) := by decide +kernel
theorem d12_orders_175 : decode prog_14_method_100_code 175 = .ok (.getfield 35, 3) := by decide +kernel
theorem d12_orders_178 : decode prog_14_method_100_code 178 = .ok (.iload 4, 2) := by decide +kernel
theorem d12_orders_180 : decode prog_14_method_100_code 180 = .ok (.iload 6, 2) := by decide +kernel
theorem d12_orders_182 : decode prog_14_method_100_code 182 = .ok (.iastore, 1) := by decide +kernel
theorem d12_orders_183 : decode prog_14_method_100_code 183 = .ok (.iload 7, 2) := by decide +kernel
theorem d12_orders_185 : decode prog_14_method_100_code 185 = .ok (.ifCond .eq 21, 3) := by decide +kernel
theorem d12_orders_188 : decode prog_14_method_100_code 188 = .ok (.aload_n 0, 1) := by decide +kernel
theorem d12_orders_189 : decode prog_14_method_100_code 189 = .ok (.getfield 160, 3) := by decide +kernel
theorem d12_orders_192 : decode prog_14_method_100_code 192 = .ok (.iload_n 1, 1) := by decide +kernel
theorem d12_orders_193 : decode prog_14_method_100_code 193 = .ok (.iload 4, 2) := by decide +kernel
theorem d12_orders_195 : decode prog_14_method_100_code 195 = .ok (.iastore, 1) := by decide +kernel
theorem d12_orders_196 : decode prog_14_method_100_code 196 = .ok (.aload_n 0, 1) := by decide +kernel
theorem d12_orders_197 : decode prog_14_method_100_code 197 = .ok (.getfield 163, 3) := by decide +kernel
theorem d12_orders_200 : decode prog_14_method_100_code 200 = .ok (.iload_n 1, 1) := by decide +kernel
theorem d12_orders_201 : decode prog_14_method_100_code 201 = .ok (.iload 5, 2) := by decide +kernel
theorem d12_orders_203 : decode prog_14_method_100_code 203 = .ok (.iastore, 1) := by decide +kernel
theorem d12_orders_204 : decode prog_14_method_100_code 204 = .ok (.iconst 1, 1) := by decide +kernel
theorem d12_orders_205 : decode prog_14_method_100_code 205 = .ok (.ireturn, 1) := by decide +kernel
theorem d12_orders_206 : decode prog_14_method_100_code 206 = .ok (.iinc 4 1, 3) := by decide +kernel
theorem d12_orders_209 : decode prog_14_method_100_code 209 = .ok (.goto (-147), 3) := by decide +kernel
theorem d12_orders_212 : decode prog_14_method_100_code 212 = .ok (.iconst 0, 1) := by decide +kernel
theorem d12_orders_213 : decode prog_14_method_100_code 213 = .ok (.ireturn, 1) := by decide +kernel
theorem d12_findMoves_0 : decode prog_14_method_101_code 0 = .ok (.aload_n 0, 1) := by decide +kernel
theorem d12_findMoves_1 : decode prog_14_method_101_code 1 = .ok (.getfield 517, 3) := by decide +kernel
theorem d12_findMoves_4 : decode prog_14_method_101_code 4 = .ok (.ifCond .ne 5, 3) := by decide +kernel
theorem d12_findMoves_7 : decode prog_14_method_101_code 7 = .ok (.iconst (-1), 1) := by decide +kernel
theorem d12_findMoves_8 : decode prog_14_method_101_code 8 = .ok (.ireturn, 1) := by decide +kernel
theorem d12_findMoves_9 : decode prog_14_method_101_code 9 = .ok (.iconst 0, 1) := by decide +kernel
theorem d12_findMoves_10 : decode prog_14_method_101_code 10 = .ok (.istore_n 1, 1) := by decide +kernel
theorem d12_findMoves_11 : decode prog_14_method_101_code 11 = .ok (.iload_n 1, 1) := by decide +kernel
theorem d12_findMoves_12 : decode prog_14_method_101_code 12 = .ok (.aload_n 0, 1) := by decide +kernel
theorem d12_findMoves_13 : decode prog_14_method_101_code 13 = .ok (.getfield 184, 3) := by decide +kernel
theorem d12_findMoves_16 : decode prog_14_method_101_code 16 = .ok (.if_icmp .ge 31, 3) := by decide +kernel
theorem d12_findMoves_19 : decode prog_14_method_101_code 19 = .ok (.aload_n 0, 1) := by decide +kernel
theorem d12_findMoves_20 : decode prog_14_method_101_code 20 = .ok (.iload_n 1, 1) := by decide +kernel
theorem d12_findMoves_21 : decode prog_14_method_101_code 21 = .ok (.invokevirtual 487, 3) := by decide +kernel
theorem d12_findMoves_24 : decode prog_14_method_101_code 24 = .ok (.ifCond .eq 17, 3) := by decide +kernel
theorem d12_findMoves_27 : decode prog_14_method_101_code 27 = .ok (.aload_n 0, 1) := by decide +kernel
theorem d12_findMoves_28 : decode prog_14_method_101_code 28 = .ok (.getfield 35, 3) := by decide +kernel
theorem d12_findMoves_31 : decode prog_14_method_101_code 31 = .ok (.iload_n 1, 1) := by decide +kernel
theorem d12_findMoves_32 : decode prog_14_method_101_code 32 = .ok (.iaload, 1) := by decide +kernel
theorem d12_findMoves_33 : decode prog_14_method_101_code 33 = .ok (.bipush (-2), 2) := by decide +kernel
theorem d12_findMoves_35 : decode prog_14_method_101_code 35 = .ok (.if_icmp .ne 6, 3) := by decide +kernel
theorem d12_findMoves_38 : decode prog_14_method_101_code 38 = .ok (.bipush (-2), 2) := by decide +kernel
theorem d12_findMoves_40 : decode prog_14_method_101_code 40 = .ok (.ireturn, 1) := by decide +kernel
theorem d12_findMoves_41 : decode prog_14_method_101_code 41 = .ok (.iinc 1 1, 3) := by decide +kernel
theorem d12_findMoves_44 : decode prog_14_method_101_code 44 = .ok (.goto (-33), 3) := by decide +kernel
theorem d12_findMoves_47 : decode prog_14_method_101_code 47 = .ok (.aload_n 0, 1) := by decide +kernel
theorem d12_findMoves_48 : decode prog_14_method_101_code 48 = .ok (.iconst 0, 1) := by decide +kernel
theorem d12_findMoves_49 : decode prog_14_method_101_code 49 = .ok (.aload_n 0, 1) := by decide +kernel
theorem d12_findMoves_50 : decode prog_14_method_101_code 50 = .ok (.aload_n 0, 1) := by decide +kernel
theorem d12_findMoves_51 : decode prog_14_method_101_code 51 = .ok (.getfield 194, 3) := by decide +kernel
theorem d12_findMoves_54 : decode prog_14_method_101_code 54 = .ok (.aload_n 0, 1) := by decide +kernel
theorem d12_findMoves_55 : decode prog_14_method_101_code 55 = .ok (.getfield 194, 3) := by decide +kernel
theorem d12_findMoves_58 : decode prog_14_method_101_code 58 = .ok (.invokevirtual 232, 3) := by decide +kernel
theorem d12_findMoves_61 : decode prog_14_method_101_code 61 = .ok (.invokevirtual 532, 3) := by decide +kernel
theorem d12_findMoves_64 : decode prog_14_method_101_code 64 = .ok (.ifCond .eq 10, 3) := by decide +kernel
theorem d12_findMoves_67 : decode prog_14_method_101_code 67 = .ok (.aload_n 0, 1) := by decide +kernel
theorem d12_findMoves_68 : decode prog_14_method_101_code 68 = .ok (.getfield 526, 3) := by decide +kernel
theorem d12_findMoves_71 : decode prog_14_method_101_code 71 = .ok (.goto 5, 3) := by decide +kernel
theorem d12_findMoves_74 : decode prog_14_method_101_code 74 = .ok (.bipush (-2), 2) := by decide +kernel
theorem d12_findMoves_76 : decode prog_14_method_101_code 76 = .ok (.ireturn, 1) := by decide +kernel
theorem d12_moves_0 : decode prog_14_method_102_code 0 = .ok (.aload_n 0, 1) := by decide +kernel
theorem d12_moves_1 : decode prog_14_method_102_code 1 = .ok (.iconst 0, 1) := by decide +kernel
theorem d12_moves_2 : decode prog_14_method_102_code 2 = .ok (.putfield 1, 3) := by decide +kernel
theorem d12_moves_5 : decode prog_14_method_102_code 5 = .ok (.aload_n 0, 1) := by decide +kernel
theorem d12_moves_6 : decode prog_14_method_102_code 6 = .ok (.invokevirtual 534, 3) := by decide +kernel
theorem d12_moves_9 : decode prog_14_method_102_code 9 = .ok (.ireturn, 1) := by decide +kernel
theorem d12_move_0 : decode prog_14_method_103_code 0 = .ok (.aload_n 0, 1) := by decide +kernel
theorem d12_move_1 : decode prog_14_method_103_code 1 = .ok (.iconst 0, 1) := by decide +kernel
theorem d12_move_2 : decode prog_14_method_103_code 2 = .ok (.putfield 1, 3) := by decide +kernel
theorem d12_move_5 : decode prog_14_method_103_code 5 = .ok (.aload_n 0, 1) := by decide +kernel
theorem d12_move_6 : decode prog_14_method_103_code 6 = .ok (.invokevirtual 534, 3) := by decide +kernel
theorem d12_move_9 : decode prog_14_method_103_code 9 = .ok (.istore_n 3, 1) := by decide +kernel
theorem d12_move_10 : decode prog_14_method_103_code 10 = .ok (.iload_n 1, 1) := by decide +kernel
theorem d12_move_11 : decode prog_14_method_103_code 11 = .ok (.ifCond .lt 17, 3) := by decide +kernel
theorem d12_move_14 : decode prog_14_method_103_code 14 = .ok (.iload_n 1, 1) := by decide +kernel
theorem d12_move_15 : decode prog_14_method_103_code 15 = .ok (.iload_n 3, 1) := by decide +kernel
theorem d12_move_16 : decode prog_14_method_103_code 16 = .ok (.if_icmp .ge 12, 3) := by decide +kernel
theorem d12_move_19 : decode prog_14_method_103_code 19 = .ok (.iload_n 2, 1) := by decide +kernel
theorem d12_move_20 : decode prog_14_method_103_code 20 = .ok (.iconst 0, 1) := by decide +kernel
theorem d12_move_21 : decode prog_14_method_103_code 21 = .ok (.iconst 1, 1) := by decide +kernel
theorem d12_move_22 : decode prog_14_method_103_code 22 = .ok (.invokestatic 176, 3) := by decide +kernel
theorem d12_move_25 : decode prog_14_method_103_code 25 = .ok (.ifCond .ne 5, 3) := by decide +kernel
theorem d12_move_28 : decode prog_14_method_103_code 28 = .ok (.iconst (-1), 1) := by decide +kernel
theorem d12_move_29 : decode prog_14_method_103_code 29 = .ok (.ireturn, 1) := by decide +kernel
theorem d12_move_30 : decode prog_14_method_103_code 30 = .ok (.iload_n 2, 1) := by decide +kernel
theorem d12_move_31 : decode prog_14_method_103_code 31 = .ok (.ifCond .ne 12, 3) := by decide +kernel
theorem d12_move_34 : decode prog_14_method_103_code 34 = .ok (.aload_n 0, 1) := by decide +kernel
theorem d12_move_35 : decode prog_14_method_103_code 35 = .ok (.getfield 160, 3) := by decide +kernel
theorem d12_move_38 : decode prog_14_method_103_code 38 = .ok (.iload_n 1, 1) := by decide +kernel
theorem d12_move_39 : decode prog_14_method_103_code 39 = .ok (.iaload, 1) := by decide +kernel
theorem d12_move_40 : decode prog_14_method_103_code 40 = .ok (.goto 9, 3) := by decide +kernel
theorem d12_move_43 : decode prog_14_method_103_code 43 = .ok (.aload_n 0, 1) := by decide +kernel
theorem d12_move_44 : decode prog_14_method_103_code 44 = .ok (.getfield 163, 3) := by decide +kernel
theorem d12_move_47 : decode prog_14_method_103_code 47 = .ok (.iload_n 1, 1) := by decide +kernel
theorem d12_move_48 : decode prog_14_method_103_code 48 = .ok (.iaload, 1) := by decide +kernel
theorem d12_move_49 : decode prog_14_method_103_code 49 = .ok (.ireturn, 1) := by decide +kernel
theorem d12_go_0 : decode prog_14_method_104_code 0 = .ok (.aload_n 0, 1) := by decide +kernel
theorem d12_go_1 : decode prog_14_method_104_code 1 = .ok (.iconst 0, 1) := by decide +kernel
theorem d12_go_2 : decode prog_14_method_104_code 2 = .ok (.putfield 1, 3) := by decide +kernel
theorem d12_go_5 : decode prog_14_method_104_code 5 = .ok (.aload_n 0, 1) := by decide +kernel
theorem d12_go_6 : decode prog_14_method_104_code 6 = .ok (.invokevirtual 534, 3) := by decide +kernel
theorem d12_go_9 : decode prog_14_method_104_code 9 = .ok (.istore_n 1, 1) := by decide +kernel
theorem d12_go_10 : decode prog_14_method_104_code 10 = .ok (.iconst 0, 1) := by decide +kernel
theorem d12_go_11 : decode prog_14_method_104_code 11 = .ok (.istore_n 2, 1) := by decide +kernel
theorem d12_go_12 : decode prog_14_method_104_code 12 = .ok (.iload_n 2, 1) := by decide +kernel
theorem d12_go_13 : decode prog_14_method_104_code 13 = .ok (.aload_n 0, 1) := by decide +kernel
theorem d12_go_14 : decode prog_14_method_104_code 14 = .ok (.getfield 184, 3) := by decide +kernel
theorem d12_go_17 : decode prog_14_method_104_code 17 = .ok (.if_icmp .ge 33, 3) := by decide +kernel
theorem d12_go_20 : decode prog_14_method_104_code 20 = .ok (.iload_n 1, 1) := by decide +kernel
theorem d12_go_21 : decode prog_14_method_104_code 21 = .ok (.ifCond .le 29, 3) := by decide +kernel
theorem d12_go_24 : decode prog_14_method_104_code 24 = .ok (.aload_n 0, 1) := by decide +kernel
theorem d12_go_25 : decode prog_14_method_104_code 25 = .ok (.iload_n 2, 1) := by decide +kernel
theorem d12_go_26 : decode prog_14_method_104_code 26 = .ok (.invokevirtual 487, 3) := by decide +kernel
theorem d12_go_29 : decode prog_14_method_104_code 29 = .ok (.ifCond .eq 15, 3) := by decide +kernel
theorem d12_go_32 : decode prog_14_method_104_code 32 = .ok (.aload_n 0, 1) := by decide +kernel
theorem d12_go_33 : decode prog_14_method_104_code 33 = .ok (.getfield 35, 3) := by decide +kernel
theorem d12_go_36 : decode prog_14_method_104_code 36 = .ok (.iload_n 2, 1) := by decide +kernel
theorem d12_go_37 : decode prog_14_method_104_code 37 = .ok (.aload_n 0, 1) := by decide +kernel
theorem d12_go_38 : decode prog_14_method_104_code 38 = .ok (.getfield 145, 3) := by decide +kernel
theorem d12_go_41 : decode prog_14_method_104_code 41 = .ok (.iload_n 2, 1) := by decide +kernel
theorem d12_go_42 : decode prog_14_method_104_code 42 = .ok (.iaload, 1) := by decide +kernel
theorem d12_go_43 : decode prog_14_method_104_code 43 = .ok (.iastore, 1) := by decide +kernel
theorem d12_go_44 : decode prog_14_method_104_code 44 = .ok (.iinc 2 1, 3) := by decide +kernel
theorem d12_go_47 : decode prog_14_method_104_code 47 = .ok (.goto (-35), 3) := by decide +kernel
theorem d12_go_50 : decode prog_14_method_104_code 50 = .ok (.iload_n 1, 1) := by decide +kernel
theorem d12_go_51 : decode prog_14_method_104_code 51 = .ok (.ireturn, 1) := by decide +kernel
theorem d12_millOf_0 : decode prog_14_method_105_code 0 = .ok (.aload_n 0, 1) := by decide +kernel
theorem d12_millOf_1 : decode prog_14_method_105_code 1 = .ok (.iconst 0, 1) := by decide +kernel
theorem d12_millOf_2 : decode prog_14_method_105_code 2 = .ok (.putfield 1, 3) := by decide +kernel
theorem d12_millOf_5 : decode prog_14_method_105_code 5 = .ok (.aload_n 0, 1) := by decide +kernel
theorem d12_millOf_6 : decode prog_14_method_105_code 6 = .ok (.iload_n 1, 1) := by decide +kernel
theorem d12_millOf_7 : decode prog_14_method_105_code 7 = .ok (.invokevirtual 187, 3) := by decide +kernel
theorem d12_millOf_10 : decode prog_14_method_105_code 10 = .ok (.ifCond .eq 13, 3) := by decide +kernel
theorem d12_millOf_13 : decode prog_14_method_105_code 13 = .ok (.iload_n 2, 1) := by decide +kernel
theorem d12_millOf_14 : decode prog_14_method_105_code 14 = .ok (.iconst 0, 1) := by decide +kernel
theorem d12_millOf_15 : decode prog_14_method_105_code 15 = .ok (.bipush 7, 2) := by decide +kernel
theorem d12_millOf_17 : decode prog_14_method_105_code 17 = .ok (.invokestatic 176, 3) := by decide +kernel
theorem d12_millOf_20 : decode prog_14_method_105_code 20 = .ok (.ifCond .ne 10, 3) := by decide +kernel
theorem d12_millOf_23 : decode prog_14_method_105_code 23 = .ok (.aload_n 0, 1) := by decide +kernel
theorem d12_millOf_24 : decode prog_14_method_105_code 24 = .ok (.iconst 1, 1) := by decide +kernel
theorem d12_millOf_25 : decode prog_14_method_105_code 25 = .ok (.putfield 1, 3) := by decide +kernel
theorem d12_millOf_28 : decode prog_14_method_105_code 28 = .ok (.iconst 0, 1) := by decide +kernel
theorem d12_millOf_29 : decode prog_14_method_105_code 29 = .ok (.ireturn, 1) := by decide +kernel
theorem d12_millOf_30 : decode prog_14_method_105_code 30 = .ok (.iload_n 2, 1) := by decide +kernel
theorem d12_millOf_31 : decode prog_14_method_105_code 31 = .ok (.tableswitch 89 0 6 #[41, 48, 55, 62, 69, 75, 82], 41) := by decide +kernel
theorem d12_millOf_72 : decode prog_14_method_105_code 72 = .ok (.aload_n 0, 1) := by decide +kernel
theorem d12_millOf_73 : decode prog_14_method_105_code 73 = .ok (.getfield 35, 3) := by decide +kernel
theorem d12_millOf_76 : decode prog_14_method_105_code 76 = .ok (.iload_n 1, 1) := by decide +kernel
theorem d12_millOf_77 : decode prog_14_method_105_code 77 = .ok (.iaload, 1) := by decide +kernel
theorem d12_millOf_78 : decode prog_14_method_105_code 78 = .ok (.ireturn, 1) := by decide +kernel
theorem d12_millOf_79 : decode prog_14_method_105_code 79 = .ok (.aload_n 0, 1) := by decide +kernel
theorem d12_millOf_80 : decode prog_14_method_105_code 80 = .ok (.getfield 26, 3) := by decide +kernel
theorem d12_millOf_83 : decode prog_14_method_105_code 83 = .ok (.iload_n 1, 1) := by decide +kernel
theorem d12_millOf_84 : decode prog_14_method_105_code 84 = .ok (.iaload, 1) := by decide +kernel
theorem d12_millOf_85 : decode prog_14_method_105_code 85 = .ok (.ireturn, 1) := by decide +kernel
theorem d12_millOf_86 : decode prog_14_method_105_code 86 = .ok (.aload_n 0, 1) := by decide +kernel
theorem d12_millOf_87 : decode prog_14_method_105_code 87 = .ok (.getfield 29, 3) := by decide +kernel
theorem d12_millOf_90 : decode prog_14_method_105_code 90 = .ok (.iload_n 1, 1) := by decide +kernel
theorem d12_millOf_91 : decode prog_14_method_105_code 91 = .ok (.iaload, 1) := by decide +kernel
theorem d12_millOf_92 : decode prog_14_method_105_code 92 = .ok (.ireturn, 1) := by decide +kernel
theorem d12_millOf_93 : decode prog_14_method_105_code 93 = .ok (.aload_n 0, 1) := by decide +kernel
theorem d12_millOf_94 : decode prog_14_method_105_code 94 = .ok (.getfield 32, 3) := by decide +kernel
theorem d12_millOf_97 : decode prog_14_method_105_code 97 = .ok (.iload_n 1, 1) := by decide +kernel
theorem d12_millOf_98 : decode prog_14_method_105_code 98 = .ok (.iaload, 1) := by decide +kernel
theorem d12_millOf_99 : decode prog_14_method_105_code 99 = .ok (.ireturn, 1) := by decide +kernel
theorem d12_millOf_100 : decode prog_14_method_105_code 100 = .ok (.aload_n 0, 1) := by decide +kernel
theorem d12_millOf_101 : decode prog_14_method_105_code 101 = .ok (.iload_n 1, 1) := by decide +kernel
theorem d12_millOf_102 : decode prog_14_method_105_code 102 = .ok (.invokevirtual 207, 3) := by decide +kernel
theorem d12_millOf_105 : decode prog_14_method_105_code 105 = .ok (.ireturn, 1) := by decide +kernel
theorem d12_millOf_106 : decode prog_14_method_105_code 106 = .ok (.aload_n 0, 1) := by decide +kernel
theorem d12_millOf_107 : decode prog_14_method_105_code 107 = .ok (.getfield 41, 3) := by decide +kernel
theorem d12_millOf_110 : decode prog_14_method_105_code 110 = .ok (.iload_n 1, 1) := by decide +kernel
theorem d12_millOf_111 : decode prog_14_method_105_code 111 = .ok (.iaload, 1) := by decide +kernel
theorem d12_millOf_112 : decode prog_14_method_105_code 112 = .ok (.ireturn, 1) := by decide +kernel
theorem d12_millOf_113 : decode prog_14_method_105_code 113 = .ok (.aload_n 0, 1) := by decide +kernel
theorem d12_millOf_114 : decode prog_14_method_105_code 114 = .ok (.getfield 44, 3) := by decide +kernel
theorem d12_millOf_117 : decode prog_14_method_105_code 117 = .ok (.iload_n 1, 1) := by decide +kernel
theorem d12_millOf_118 : decode prog_14_method_105_code 118 = .ok (.iaload, 1) := by decide +kernel
theorem d12_millOf_119 : decode prog_14_method_105_code 119 = .ok (.ireturn, 1) := by decide +kernel
theorem d12_millOf_120 : decode prog_14_method_105_code 120 = .ok (.aload_n 0, 1) := by decide +kernel
theorem d12_millOf_121 : decode prog_14_method_105_code 121 = .ok (.getfield 47, 3) := by decide +kernel
theorem d12_millOf_124 : decode prog_14_method_105_code 124 = .ok (.iload_n 1, 1) := by decide +kernel
theorem d12_millOf_125 : decode prog_14_method_105_code 125 = .ok (.iaload, 1) := by decide +kernel
theorem d12_millOf_126 : decode prog_14_method_105_code 126 = .ok (.aload_n 0, 1) := by decide +kernel
theorem d12_millOf_127 : decode prog_14_method_105_code 127 = .ok (.getfield 194, 3) := by decide +kernel
theorem d12_millOf_130 : decode prog_14_method_105_code 130 = .ok (.if_icmp .ne 7, 3) := by decide +kernel
theorem d12_millOf_133 : decode prog_14_method_105_code 133 = .ok (.iconst 1, 1) := by decide +kernel
theorem d12_millOf_134 : decode prog_14_method_105_code 134 = .ok (.goto 4, 3) := by decide +kernel
theorem d12_millOf_137 : decode prog_14_method_105_code 137 = .ok (.iconst 0, 1) := by decide +kernel
theorem d12_millOf_138 : decode prog_14_method_105_code 138 = .ok (.ireturn, 1) := by decide +kernel
theorem d12_orderOf_0 : decode prog_14_method_106_code 0 = .ok (.aload_n 0, 1) := by decide +kernel
theorem d12_orderOf_1 : decode prog_14_method_106_code 1 = .ok (.iconst 0, 1) := by decide +kernel
theorem d12_orderOf_2 : decode prog_14_method_106_code 2 = .ok (.putfield 1, 3) := by decide +kernel
theorem d12_orderOf_5 : decode prog_14_method_106_code 5 = .ok (.iload_n 1, 1) := by decide +kernel
theorem d12_orderOf_6 : decode prog_14_method_106_code 6 = .ok (.ifCond .lt 11, 3) := by decide +kernel
theorem d12_orderOf_9 : decode prog_14_method_106_code 9 = .ok (.iload_n 1, 1) := by decide +kernel
theorem d12_orderOf_10 : decode prog_14_method_106_code 10 = .ok (.aload_n 0, 1) := by decide +kernel
theorem d12_orderOf_11 : decode prog_14_method_106_code 11 = .ok (.getfield 463, 3) := by decide +kernel
theorem d12_orderOf_14 : decode prog_14_method_106_code 14 = .ok (.if_icmp .lt 5, 3) := by decide +kernel
theorem d12_orderOf_17 : decode prog_14_method_106_code 17 = .ok (.iconst (-1), 1) := by decide +kernel
theorem d12_orderOf_18 : decode prog_14_method_106_code 18 = .ok (.ireturn, 1) := by decide +kernel
theorem d12_orderOf_19 : decode prog_14_method_106_code 19 = .ok (.iload_n 2, 1) := by decide +kernel
theorem d12_orderOf_20 : decode prog_14_method_106_code 20 = .ok (.tableswitch 71 0 4 #[36, 43, 50, 57, 64], 36) := by decide +kernel
theorem d12_orderOf_56 : decode prog_14_method_106_code 56 = .ok (.aload_n 0, 1) := by decide +kernel
theorem d12_orderOf_57 : decode prog_14_method_106_code 57 = .ok (.getfield 130, 3) := by decide +kernel
theorem d12_orderOf_60 : decode prog_14_method_106_code 60 = .ok (.iload_n 1, 1) := by decide +kernel
theorem d12_orderOf_61 : decode prog_14_method_106_code 61 = .ok (.iaload, 1) := by decide +kernel
theorem d12_orderOf_62 : decode prog_14_method_106_code 62 = .ok (.ireturn, 1) := by decide +kernel
theorem d12_orderOf_63 : decode prog_14_method_106_code 63 = .ok (.aload_n 0, 1) := by decide +kernel
theorem d12_orderOf_64 : decode prog_14_method_106_code 64 = .ok (.getfield 133, 3) := by decide +kernel
theorem d12_orderOf_67 : decode prog_14_method_106_code 67 = .ok (.iload_n 1, 1) := by decide +kernel
theorem d12_orderOf_68 : decode prog_14_method_106_code 68 = .ok (.iaload, 1) := by decide +kernel
theorem d12_orderOf_69 : decode prog_14_method_106_code 69 = .ok (.ireturn, 1) := by decide +kernel
theorem d12_orderOf_70 : decode prog_14_method_106_code 70 = .ok (.aload_n 0, 1) := by decide +kernel
theorem d12_orderOf_71 : decode prog_14_method_106_code 71 = .ok (.getfield 136, 3) := by decide +kernel
theorem d12_orderOf_74 : decode prog_14_method_106_code 74 = .ok (.iload_n 1, 1) := by decide +kernel
theorem d12_orderOf_75 : decode prog_14_method_106_code 75 = .ok (.iaload, 1) := by decide +kernel
theorem d12_orderOf_76 : decode prog_14_method_106_code 76 = .ok (.ireturn, 1) := by decide +kernel
theorem d12_orderOf_77 : decode prog_14_method_106_code 77 = .ok (.aload_n 0, 1) := by decide +kernel
theorem d12_orderOf_78 : decode prog_14_method_106_code 78 = .ok (.getfield 139, 3) := by decide +kernel
theorem d12_orderOf_81 : decode prog_14_method_106_code 81 = .ok (.iload_n 1, 1) := by decide +kernel
theorem d12_orderOf_82 : decode prog_14_method_106_code 82 = .ok (.iaload, 1) := by decide +kernel
theorem d12_orderOf_83 : decode prog_14_method_106_code 83 = .ok (.ireturn, 1) := by decide +kernel
theorem d12_orderOf_84 : decode prog_14_method_106_code 84 = .ok (.aload_n 0, 1) := by decide +kernel
theorem d12_orderOf_85 : decode prog_14_method_106_code 85 = .ok (.getfield 142, 3) := by decide +kernel
theorem d12_orderOf_88 : decode prog_14_method_106_code 88 = .ok (.iload_n 1, 1) := by decide +kernel
theorem d12_orderOf_89 : decode prog_14_method_106_code 89 = .ok (.iaload, 1) := by decide +kernel
theorem d12_orderOf_90 : decode prog_14_method_106_code 90 = .ok (.ireturn, 1) := by decide +kernel
theorem d12_orderOf_91 : decode prog_14_method_106_code 91 = .ok (.iconst (-1), 1) := by decide +kernel
theorem d12_orderOf_92 : decode prog_14_method_106_code 92 = .ok (.ireturn, 1) := by decide +kernel
abbrev m12_stepsTo : MD := ("MillBoatsModel", ⟨"MillBoatsModel", "stepsTo", "(III)I"⟩, prog_14_method_99_code, 12, (some Jvm.ClassFile.FieldType.int))
theorem k12_stepsTo : okY m12_stepsTo.2.1 3 := ⟨by decide +kernel, by decide +kernel, by decide +kernel⟩
def f12_stepsTo_p343 (K130 : St → Nat → Int32 → Int32 → Int32 → Int32 → Int32 → Int32 → Option (Int32 × St)) (K193 : St → Nat → Int32 → Int32 → Int32 → Int32 → Int32 → Int32 → Int32 → Int32 → Option (Int32 × St)) (σ : St) (v0 : Nat) (v1 : Int32) (v2 : Int32) (v3 : Int32) (v4 : Int32) (v5 : Int32) (v6 : Int32) (v7 : Int32) (v8 : Int32) : Option (Int32 × St) :=
  lt (v8 + (1 : Int32)) fun y144 => (
  K193 σ v0 v1 v2 v3 v4 v5 v6 v7 y144)
set_option maxRecDepth 20000 in
theorem s12_stepsTo_p343 {K130 : St → Nat → Int32 → Int32 → Int32 → Int32 → Int32 → Int32 → Option (Int32 × St)} (hK130 : ∀ (σ : St) (v0 : Nat) (v1 : Int32) (v2 : Int32) (v3 : Int32) (v4 : Int32) (v5 : Int32) (v6 : Int32) (r : Int32) (τ : St), K130 σ v0 v1 v2 v3 v4 v5 v6 = some (r, τ) → Ev 4 m12_stepsTo 130 [(0, .ref v0), (1, .int v1), (2, .int v2), (3, .int v3), (4, .int v4), (5, .int v5), (6, .int v6)] [] σ (some (.int r)) τ) {K193 : St → Nat → Int32 → Int32 → Int32 → Int32 → Int32 → Int32 → Int32 → Int32 → Option (Int32 × St)} (hK193 : ∀ (σ : St) (v0 : Nat) (v1 : Int32) (v2 : Int32) (v3 : Int32) (v4 : Int32) (v5 : Int32) (v6 : Int32) (v7 : Int32) (v8 : Int32) (r : Int32) (τ : St), K193 σ v0 v1 v2 v3 v4 v5 v6 v7 v8 = some (r, τ) → Ev 4 m12_stepsTo 193 [(0, .ref v0), (1, .int v1), (2, .int v2), (3, .int v3), (4, .int v4), (5, .int v5), (6, .int v6), (7, .int v7), (8, .int v8)] [] σ (some (.int r)) τ) : ∀ (σ : St) (v0 : Nat) (v1 : Int32) (v2 : Int32) (v3 : Int32) (v4 : Int32) (v5 : Int32) (v6 : Int32) (v7 : Int32) (v8 : Int32) (r : Int32) (τ : St), f12_stepsTo_p343 K130 K193 σ v0 v1 v2 v3 v4 v5 v6 v7 v8 = some (r, τ) → Ev 4 m12_stepsTo 343 [(0, .ref v0), (1, .int v1), (2, .int v2), (3, .int v3), (4, .int v4), (5, .int v5), (6, .int v6), (7, .int v7), (8, .int v8)] [] σ (some (.int r)) τ := by
  intro σ v0 v1 v2 v3 v4 v5 v6 v7 v8 r τ hf
  unfold f12_stepsTo_p343 at hf
  obtain ⟨y144, e145, hf⟩ := lt_some hf
  refine ev_iinc (lv2 := [(8, .int y144), (0, .ref v0), (1, .int v1), (2, .int v2), (3, .int v3), (4, .int v4), (5, .int v5), (6, .int v6), (7, .int v7)]) (i := 8) (q := 8) (v := y144) (n := 1) rfl (by rw [ci_1]; exact e145.symm) (by decide) rfl d12_stepsTo_343 ?_
  refine ev_goto (tgt := 193) (by decide) d12_stepsTo_346 ?_
  exact Ev.sub [1, 2, 3, 4, 5, 6, 7, 8, 0] rfl (hK193 _ _ _ _ _ _ _ _ _ _ _ _ hf)
def f12_stepsTo_p253 (K130 : St → Nat → Int32 → Int32 → Int32 → Int32 → Int32 → Int32 → Option (Int32 × St)) (K193 : St → Nat → Int32 → Int32 → Int32 → Int32 → Int32 → Int32 → Int32 → Int32 → Option (Int32 × St)) (σ : St) (v0 : Nat) (v1 : Int32) (v2 : Int32) (v3 : Int32) (v4 : Int32) (v5 : Int32) (v6 : Int32) (v7 : Int32) (v8 : Int32) (v9 : Int32) (x0 : Int32) (x1 : Int32) : Option (Int32 × St) :=
  lt (x1 + x0) fun y101 => (
  bd (f12_within σ v9 (0 : Int32) (5 : Int32)) fun r103 t104 => (
  (if r103 = (0 : Int32) then
  f12_stepsTo_p343 K130 K193 t104 v0 v1 v2 v3 v4 v5 v6 v7 v8
  else
  bd (f12_within t104 y101 (0 : Int32) (11 : Int32)) fun r108 t109 => (
  (if r108 = (0 : Int32) then
  f12_stepsTo_p343 K130 K193 t109 v0 v1 v2 v3 v4 v5 v6 v7 v8
  else
  lt (((12 : Int32) * v9) + y101) fun y113 => (
  gd (ob t109 v0 12) (
  lt (sR t109 v0 77) fun b116 => (
  gd (nz b116) (
  gd (ob t109 b116 14) (
  gd (inb t109 b116 y113) (
  (if (sI t109 b116 (ix y113)) = (-1 : Int32) then
  bd (f12_isFree t109 v0 v1 y113 v3) fun r122 t123 => (
  (if r122 = (0 : Int32) then
  f12_stepsTo_p343 K130 K193 t123 v0 v1 v2 v3 v4 v5 v6 v7 v8
  else
  lt (sR t123 v0 77) fun b127 => (
  gd (nz b127) (
  gd (ob t123 b127 14) (
  gd (inb t123 b127 v7) (
  gd (inb t123 b127 y113) (
  lt (wI t123 b127 (ix y113) ((sI t123 b127 (ix v7)) + (1 : Int32))) fun t133 => (
  lt (sR t133 v0 78) fun b135 => (
  gd (nz b135) (
  gd (ob t133 b135 14) (
  gd (inb t133 b135 v4) (
  lt (wI t133 b135 (ix v4) y113) fun t140 => (
  lt (v4 + (1 : Int32)) fun y142 => (
  f12_stepsTo_p343 K130 K193 t140 v0 v1 v2 v3 y142 v5 v6 v7 v8))))))))))))))
  else
  f12_stepsTo_p343 K130 K193 t109 v0 v1 v2 v3 v4 v5 v6 v7 v8))))))))))))
set_option maxRecDepth 20000 in
theorem s12_stepsTo_p253 {K130 : St → Nat → Int32 → Int32 → Int32 → Int32 → Int32 → Int32 → Option (Int32 × St)} (hK130 : ∀ (σ : St) (v0 : Nat) (v1 : Int32) (v2 : Int32) (v3 : Int32) (v4 : Int32) (v5 : Int32) (v6 : Int32) (r : Int32) (τ : St), K130 σ v0 v1 v2 v3 v4 v5 v6 = some (r, τ) → Ev 4 m12_stepsTo 130 [(0, .ref v0), (1, .int v1), (2, .int v2), (3, .int v3), (4, .int v4), (5, .int v5), (6, .int v6)] [] σ (some (.int r)) τ) {K193 : St → Nat → Int32 → Int32 → Int32 → Int32 → Int32 → Int32 → Int32 → Int32 → Option (Int32 × St)} (hK193 : ∀ (σ : St) (v0 : Nat) (v1 : Int32) (v2 : Int32) (v3 : Int32) (v4 : Int32) (v5 : Int32) (v6 : Int32) (v7 : Int32) (v8 : Int32) (r : Int32) (τ : St), K193 σ v0 v1 v2 v3 v4 v5 v6 v7 v8 = some (r, τ) → Ev 4 m12_stepsTo 193 [(0, .ref v0), (1, .int v1), (2, .int v2), (3, .int v3), (4, .int v4), (5, .int v5), (6, .int v6), (7, .int v7), (8, .int v8)] [] σ (some (.int r)) τ) : ∀ (σ : St) (v0 : Nat) (v1 : Int32) (v2 : Int32) (v3 : Int32) (v4 : Int32) (v5 : Int32) (v6 : Int32) (v7 : Int32) (v8 : Int32) (v9 : Int32) (x0 : Int32) (x1 : Int32) (r : Int32) (τ : St), f12_stepsTo_p253 K130 K193 σ v0 v1 v2 v3 v4 v5 v6 v7 v8 v9 x0 x1 = some (r, τ) → Ev 4 m12_stepsTo 253 [(0, .ref v0), (1, .int v1), (2, .int v2), (3, .int v3), (4, .int v4), (5, .int v5), (6, .int v6), (7, .int v7), (8, .int v8), (9, .int v9)] [.int x0, .int x1] σ (some (.int r)) τ := by
  intro σ v0 v1 v2 v3 v4 v5 v6 v7 v8 v9 x0 x1 r τ hf
  unfold f12_stepsTo_p253 at hf
  refine ev_iadd d12_stepsTo_253 ?_
  obtain ⟨y101, e102, hf⟩ := lt_some hf
  refine ev_nmI e102 ?_
  refine ev_istore (lv2 := [(10, .int y101), (0, .ref v0), (1, .int v1), (2, .int v2), (3, .int v3), (4, .int v4), (5, .int v5), (6, .int v6), (7, .int v7), (8, .int v8), (9, .int v9)]) (i := 10) (by decide) rfl d12_stepsTo_254 ?_
  refine ev_iload (i := 9) (q := 10) rfl d12_stepsTo_256 ?_
  refine ev_iconst ci_0 d12_stepsTo_258 ?_
  refine ev_iconst ci_5 d12_stepsTo_259 ?_
  obtain ⟨r103, t104, k105, hf⟩ := bd_some hf
  have q106 := s12_within _ _ _ _ _ _ k105
  refine ev_callS (vs := [.int v9, .int (0 : Int32), .int (5 : Int32)]) (sk := []) q106 (by decide) (Nat.le_of_ble_eq_true rfl) w1497 w1498 w19 w1499 k12_within rfl (Nat.le_of_ble_eq_true rfl) d12_stepsTo_260 ?_
  rcases ite_some hf with ⟨c107, hf⟩ | ⟨c107, hf⟩
  · refine ev_if_eq_P (tgt := 343) c107 (by decide) d12_stepsTo_263 ?_
    exact Ev.sub [1, 2, 3, 4, 5, 6, 7, 8, 9] rfl (s12_stepsTo_p343 hK130 hK193 _ _ _ _ _ _ _ _ _ _ _ _ hf)
  · refine ev_if_eq_Q (tgt := 343) c107 (by decide) d12_stepsTo_263 ?_
    refine ev_iload (i := 10) (q := 0) rfl d12_stepsTo_266 ?_
    refine ev_iconst ci_0 d12_stepsTo_268 ?_
    refine ev_bipush cb_11 d12_stepsTo_269 ?_
    obtain ⟨r108, t109, k110, hf⟩ := bd_some hf
    have q111 := s12_within _ _ _ _ _ _ k110
    refine ev_callS (vs := [.int y101, .int (0 : Int32), .int (11 : Int32)]) (sk := []) q111 (by decide) (Nat.le_of_ble_eq_true rfl) w1497 w1498 w19 w1499 k12_within rfl (Nat.le_of_ble_eq_true rfl) d12_stepsTo_271 ?_
    rcases ite_some hf with ⟨c112, hf⟩ | ⟨c112, hf⟩
    · refine ev_if_ne_P (tgt := 280) c112 (by decide) d12_stepsTo_274 ?_
      refine ev_goto (tgt := 343) (by decide) d12_stepsTo_277 ?_
      exact Ev.sub [1, 2, 3, 4, 5, 6, 7, 8, 9] rfl (s12_stepsTo_p343 hK130 hK193 _ _ _ _ _ _ _ _ _ _ _ _ hf)
    · refine ev_if_ne_Q (tgt := 280) c112 (by decide) d12_stepsTo_274 ?_
      refine ev_bipush cb_12 d12_stepsTo_280 ?_
      refine ev_iload (i := 9) (q := 10) rfl d12_stepsTo_282 ?_
      refine ev_imul d12_stepsTo_284 ?_
      refine ev_iload (i := 10) (q := 0) rfl d12_stepsTo_285 ?_
      refine ev_iadd d12_stepsTo_287 ?_
      obtain ⟨y113, e114, hf⟩ := lt_some hf
      refine ev_nmI e114 ?_
      refine ev_istore (lv2 := [(11, .int y113), (10, .int y101), (0, .ref v0), (1, .int v1), (2, .int v2), (3, .int v3), (4, .int v4), (5, .int v5), (6, .int v6), (7, .int v7), (8, .int v8), (9, .int v9)]) (i := 11) (by decide) rfl d12_stepsTo_288 ?_
      refine ev_aload_n (j := 0) (i := 0) (q := 2) rfl rfl d12_stepsTo_290 ?_
      obtain ⟨h115, hf⟩ := gd_some hf
      obtain ⟨b116, e117, hf⟩ := lt_some hf
      obtain ⟨h118, hf⟩ := gd_some hf
      refine ev_getRb cls12 (j := 77) (by decide) rfl w1328 h115 e117 (nz_ne h118) d12_stepsTo_291 ?_
      refine ev_iload (i := 11) (q := 0) rfl d12_stepsTo_294 ?_
      obtain ⟨h119, hf⟩ := gd_some hf
      obtain ⟨h120, hf⟩ := gd_some hf
      refine ev_iald h119 h120 d12_stepsTo_296 ?_
      refine ev_iconst ci_m1 d12_stepsTo_297 ?_
      rcases ite_some hf with ⟨c121, hf⟩ | ⟨c121, hf⟩
      · refine ev_icmp_ne_P (tgt := 343) c121 (by decide) d12_stepsTo_298 ?_
        refine ev_aload_n (j := 0) (i := 0) (q := 2) rfl rfl d12_stepsTo_301 ?_
        refine ev_iload_n (j := 1) (i := 1) (q := 3) rfl rfl d12_stepsTo_302 ?_
        refine ev_iload (i := 11) (q := 0) rfl d12_stepsTo_303 ?_
        refine ev_iload_n (j := 3) (i := 3) (q := 5) rfl rfl d12_stepsTo_305 ?_
        obtain ⟨r122, t123, k124, hf⟩ := bd_some hf
        have q125 := s12_isFree _ _ _ _ _ _ _ k124
        refine ev_callV (vs := [.int v1, .int y113, .int v3]) (sk := []) cls12 h115 q125 (by decide) (Nat.le_of_ble_eq_true rfl) w1903 w1905 ws112 w19 w1906 k12_isFree rfl (Nat.le_of_ble_eq_true rfl) d12_stepsTo_306 ?_
        rcases ite_some hf with ⟨c126, hf⟩ | ⟨c126, hf⟩
        · refine ev_if_ne_P (tgt := 315) c126 (by decide) d12_stepsTo_309 ?_
          refine ev_goto (tgt := 343) (by decide) d12_stepsTo_312 ?_
          exact Ev.sub [2, 3, 4, 5, 6, 7, 8, 9, 10] rfl (s12_stepsTo_p343 hK130 hK193 _ _ _ _ _ _ _ _ _ _ _ _ hf)
        · refine ev_if_ne_Q (tgt := 315) c126 (by decide) d12_stepsTo_309 ?_
          refine ev_aload_n (j := 0) (i := 0) (q := 2) rfl rfl d12_stepsTo_315 ?_
          obtain ⟨b127, e128, hf⟩ := lt_some hf
          obtain ⟨h129, hf⟩ := gd_some hf
          refine ev_getRb cls12 (j := 77) (by decide) rfl w1328 (mono_ob q125.1 h115) e128 (nz_ne h129) d12_stepsTo_316 ?_
          refine ev_iload (i := 11) (q := 0) rfl d12_stepsTo_319 ?_
          refine ev_aload_n (j := 0) (i := 0) (q := 2) rfl rfl d12_stepsTo_321 ?_
          refine ev_getRb cls12 (j := 77) (by decide) rfl w1328 (mono_ob q125.1 h115) e128 (nz_ne h129) d12_stepsTo_322 ?_
          refine ev_iload (i := 7) (q := 9) rfl d12_stepsTo_325 ?_
          obtain ⟨h130, hf⟩ := gd_some hf
          obtain ⟨h131, hf⟩ := gd_some hf
          refine ev_iald h130 h131 d12_stepsTo_327 ?_
          refine ev_iconst ci_1 d12_stepsTo_328 ?_
          refine ev_iadd d12_stepsTo_329 ?_
          obtain ⟨h132, hf⟩ := gd_some hf
          obtain ⟨t133, e134, hf⟩ := lt_some hf
          refine ev_iast h130 h132 d12_stepsTo_330 (ev_nmS e134 ?_)
          refine ev_aload_n (j := 0) (i := 0) (q := 2) rfl rfl d12_stepsTo_331 ?_
          obtain ⟨b135, e136, hf⟩ := lt_some hf
          obtain ⟨h137, hf⟩ := gd_some hf
          refine ev_getRb cls12 (j := 78) (by decide) rfl w1329 (mono_ob (mono_eI e134) (mono_ob q125.1 h115)) e136 (nz_ne h137) d12_stepsTo_332 ?_
          refine ev_iload (i := 4) (q := 6) rfl d12_stepsTo_335 ?_
          refine ev_iload (i := 11) (q := 0) rfl d12_stepsTo_337 ?_
          obtain ⟨h138, hf⟩ := gd_some hf
          obtain ⟨h139, hf⟩ := gd_some hf
          obtain ⟨t140, e141, hf⟩ := lt_some hf
          refine ev_iast h138 h139 d12_stepsTo_339 (ev_nmS e141 ?_)
          obtain ⟨y142, e143, hf⟩ := lt_some hf
          refine ev_iinc (lv2 := [(4, .int y142), (11, .int y113), (10, .int y101), (0, .ref v0), (1, .int v1), (2, .int v2), (3, .int v3), (5, .int v5), (6, .int v6), (7, .int v7), (8, .int v8), (9, .int v9)]) (i := 4) (q := 6) (v := y142) (n := 1) rfl (by rw [ci_1]; exact e143.symm) (by decide) rfl d12_stepsTo_340 ?_
          exact Ev.sub [3, 4, 5, 6, 0, 7, 8, 9, 10] rfl (s12_stepsTo_p343 hK130 hK193 _ _ _ _ _ _ _ _ _ _ _ _ hf)
      · refine ev_icmp_ne_Q (tgt := 343) c121 (by decide) d12_stepsTo_298 ?_
        exact Ev.sub [2, 3, 4, 5, 6, 7, 8, 9, 10] rfl (s12_stepsTo_p343 hK130 hK193 _ _ _ _ _ _ _ _ _ _ _ _ hf)
def f12_stepsTo_p224 (K130 : St → Nat → Int32 → Int32 → Int32 → Int32 → Int32 → Int32 → Option (Int32 × St)) (K193 : St → Nat → Int32 → Int32 → Int32 → Int32 → Int32 → Int32 → Int32 → Int32 → Option (Int32 × St)) (σ : St) (v0 : Nat) (v1 : Int32) (v2 : Int32) (v3 : Int32) (v4 : Int32) (v5 : Int32) (v6 : Int32) (v7 : Int32) (v8 : Int32) (x0 : Int32) (x1 : Int32) : Option (Int32 × St) :=
  lt (x1 + x0) fun y97 => (
  (if v8 = (2 : Int32) then
  f12_stepsTo_p253 K130 K193 σ v0 v1 v2 v3 v4 v5 v6 v7 v8 y97 (1 : Int32) (v7 - v7 / (12 : Int32) * (12 : Int32))
  else
  (if v8 = (3 : Int32) then
  f12_stepsTo_p253 K130 K193 σ v0 v1 v2 v3 v4 v5 v6 v7 v8 y97 (-1 : Int32) (v7 - v7 / (12 : Int32) * (12 : Int32))
  else
  f12_stepsTo_p253 K130 K193 σ v0 v1 v2 v3 v4 v5 v6 v7 v8 y97 (0 : Int32) (v7 - v7 / (12 : Int32) * (12 : Int32)))))
set_option maxRecDepth 20000 in
theorem s12_stepsTo_p224 {K130 : St → Nat → Int32 → Int32 → Int32 → Int32 → Int32 → Int32 → Option (Int32 × St)} (hK130 : ∀ (σ : St) (v0 : Nat) (v1 : Int32) (v2 : Int32) (v3 : Int32) (v4 : Int32) (v5 : Int32) (v6 : Int32) (r : Int32) (τ : St), K130 σ v0 v1 v2 v3 v4 v5 v6 = some (r, τ) → Ev 4 m12_stepsTo 130 [(0, .ref v0), (1, .int v1), (2, .int v2), (3, .int v3), (4, .int v4), (5, .int v5), (6, .int v6)] [] σ (some (.int r)) τ) {K193 : St → Nat → Int32 → Int32 → Int32 → Int32 → Int32 → Int32 → Int32 → Int32 → Option (Int32 × St)} (hK193 : ∀ (σ : St) (v0 : Nat) (v1 : Int32) (v2 : Int32) (v3 : Int32) (v4 : Int32) (v5 : Int32) (v6 : Int32) (v7 : Int32) (v8 : Int32) (r : Int32) (τ : St), K193 σ v0 v1 v2 v3 v4 v5 v6 v7 v8 = some (r, τ) → Ev 4 m12_stepsTo 193 [(0, .ref v0), (1, .int v1), (2, .int v2), (3, .int v3), (4, .int v4), (5, .int v5), (6, .int v6), (7, .int v7), (8, .int v8)] [] σ (some (.int r)) τ) : ∀ (σ : St) (v0 : Nat) (v1 : Int32) (v2 : Int32) (v3 : Int32) (v4 : Int32) (v5 : Int32) (v6 : Int32) (v7 : Int32) (v8 : Int32) (x0 : Int32) (x1 : Int32) (r : Int32) (τ : St), f12_stepsTo_p224 K130 K193 σ v0 v1 v2 v3 v4 v5 v6 v7 v8 x0 x1 = some (r, τ) → Ev 4 m12_stepsTo 224 [(0, .ref v0), (1, .int v1), (2, .int v2), (3, .int v3), (4, .int v4), (5, .int v5), (6, .int v6), (7, .int v7), (8, .int v8)] [.int x0, .int x1] σ (some (.int r)) τ := by
  intro σ v0 v1 v2 v3 v4 v5 v6 v7 v8 x0 x1 r τ hf
  unfold f12_stepsTo_p224 at hf
  refine ev_iadd d12_stepsTo_224 ?_
  obtain ⟨y97, e98, hf⟩ := lt_some hf
  refine ev_nmI e98 ?_
  refine ev_istore (lv2 := [(9, .int y97), (0, .ref v0), (1, .int v1), (2, .int v2), (3, .int v3), (4, .int v4), (5, .int v5), (6, .int v6), (7, .int v7), (8, .int v8)]) (i := 9) (by decide) rfl d12_stepsTo_225 ?_
  refine ev_iload (i := 7) (q := 8) rfl d12_stepsTo_227 ?_
  refine ev_bipush cb_12 d12_stepsTo_229 ?_
  refine ev_irem (by decide) d12_stepsTo_231 ?_
  refine ev_iload (i := 8) (q := 9) rfl d12_stepsTo_232 ?_
  refine ev_iconst ci_2 d12_stepsTo_234 ?_
  rcases ite_some hf with ⟨c99, hf⟩ | ⟨c99, hf⟩
  · refine ev_icmp_ne_P (tgt := 242) c99 (by decide) d12_stepsTo_235 ?_
    refine ev_iconst ci_1 d12_stepsTo_238 ?_
    refine ev_goto (tgt := 253) (by decide) d12_stepsTo_239 ?_
    exact Ev.sub [1, 2, 3, 4, 5, 6, 7, 8, 9, 0] rfl (s12_stepsTo_p253 hK130 hK193 _ _ _ _ _ _ _ _ _ _ _ _ _ _ _ hf)
  · refine ev_icmp_ne_Q (tgt := 242) c99 (by decide) d12_stepsTo_235 ?_
    refine ev_iload (i := 8) (q := 9) rfl d12_stepsTo_242 ?_
    refine ev_iconst ci_3 d12_stepsTo_244 ?_
    rcases ite_some hf with ⟨c100, hf⟩ | ⟨c100, hf⟩
    · refine ev_icmp_ne_P (tgt := 252) c100 (by decide) d12_stepsTo_245 ?_
      refine ev_iconst ci_m1 d12_stepsTo_248 ?_
      refine ev_goto (tgt := 253) (by decide) d12_stepsTo_249 ?_
      exact Ev.sub [1, 2, 3, 4, 5, 6, 7, 8, 9, 0] rfl (s12_stepsTo_p253 hK130 hK193 _ _ _ _ _ _ _ _ _ _ _ _ _ _ _ hf)
    · refine ev_icmp_ne_Q (tgt := 252) c100 (by decide) d12_stepsTo_245 ?_
      refine ev_iconst ci_0 d12_stepsTo_252 ?_
      exact Ev.sub [1, 2, 3, 4, 5, 6, 7, 8, 9, 0] rfl (s12_stepsTo_p253 hK130 hK193 _ _ _ _ _ _ _ _ _ _ _ _ _ _ _ hf)
def f12_stepsTo_p193 (K130 : St → Nat → Int32 → Int32 → Int32 → Int32 → Int32 → Int32 → Option (Int32 × St)) : Nat → St → Nat → Int32 → Int32 → Int32 → Int32 → Int32 → Int32 → Int32 → Int32 → Option (Int32 × St)
  | 0, _, _, _, _, _, _, _, _, _, _ => none
  | n + 1, σ, v0, v1, v2, v3, v4, v5, v6, v7, v8 =>
  (if v8 < (4 : Int32) then
  (if v8 = (0 : Int32) then
  f12_stepsTo_p224 K130 (f12_stepsTo_p193 K130 n) σ v0 v1 v2 v3 v4 v5 v6 v7 v8 (1 : Int32) (v7 / (12 : Int32))
  else
  (if v8 = (1 : Int32) then
  f12_stepsTo_p224 K130 (f12_stepsTo_p193 K130 n) σ v0 v1 v2 v3 v4 v5 v6 v7 v8 (-1 : Int32) (v7 / (12 : Int32))
  else
  f12_stepsTo_p224 K130 (f12_stepsTo_p193 K130 n) σ v0 v1 v2 v3 v4 v5 v6 v7 v8 (0 : Int32) (v7 / (12 : Int32))))
  else
  lt (v6 + (1 : Int32)) fun y95 => (
  K130 σ v0 v1 v2 v3 v4 v5 y95))
set_option maxRecDepth 20000 in
theorem s12_stepsTo_p193 {K130 : St → Nat → Int32 → Int32 → Int32 → Int32 → Int32 → Int32 → Option (Int32 × St)} (hK130 : ∀ (σ : St) (v0 : Nat) (v1 : Int32) (v2 : Int32) (v3 : Int32) (v4 : Int32) (v5 : Int32) (v6 : Int32) (r : Int32) (τ : St), K130 σ v0 v1 v2 v3 v4 v5 v6 = some (r, τ) → Ev 4 m12_stepsTo 130 [(0, .ref v0), (1, .int v1), (2, .int v2), (3, .int v3), (4, .int v4), (5, .int v5), (6, .int v6)] [] σ (some (.int r)) τ) : ∀ (n : Nat) (σ : St) (v0 : Nat) (v1 : Int32) (v2 : Int32) (v3 : Int32) (v4 : Int32) (v5 : Int32) (v6 : Int32) (v7 : Int32) (v8 : Int32) (r : Int32) (τ : St), f12_stepsTo_p193 K130 n σ v0 v1 v2 v3 v4 v5 v6 v7 v8 = some (r, τ) → Ev 4 m12_stepsTo 193 [(0, .ref v0), (1, .int v1), (2, .int v2), (3, .int v3), (4, .int v4), (5, .int v5), (6, .int v6), (7, .int v7), (8, .int v8)] [] σ (some (.int r)) τ := by
  intro n
  induction n with
  | zero =>
    intro σ v0 v1 v2 v3 v4 v5 v6 v7 v8 r τ hf
    cases hf
  | succ n ih =>
    intro σ v0 v1 v2 v3 v4 v5 v6 v7 v8 r τ hf
    rw [f12_stepsTo_p193] at hf
    refine ev_iload (i := 8) (q := 8) rfl d12_stepsTo_193 ?_
    refine ev_iconst ci_4 d12_stepsTo_195 ?_
    rcases ite_some hf with ⟨c92, hf⟩ | ⟨c92, hf⟩
    · refine ev_icmp_ge_P (tgt := 349) c92 (by decide) d12_stepsTo_196 ?_
      refine ev_iload (i := 7) (q := 7) rfl d12_stepsTo_199 ?_
      refine ev_bipush cb_12 d12_stepsTo_201 ?_
      refine ev_idiv (by decide) d12_stepsTo_203 ?_
      refine ev_iload (i := 8) (q := 8) rfl d12_stepsTo_204 ?_
      rcases ite_some hf with ⟨c93, hf⟩ | ⟨c93, hf⟩
      · refine ev_if_ne_P (tgt := 213) c93 (by decide) d12_stepsTo_206 ?_
        refine ev_iconst ci_1 d12_stepsTo_209 ?_
        refine ev_goto (tgt := 224) (by decide) d12_stepsTo_210 ?_
        exact Ev.sub [0, 1, 2, 3, 4, 5, 6, 7, 8] rfl (s12_stepsTo_p224 hK130 ih _ _ _ _ _ _ _ _ _ _ _ _ _ _ hf)
      · refine ev_if_ne_Q (tgt := 213) c93 (by decide) d12_stepsTo_206 ?_
        refine ev_iload (i := 8) (q := 8) rfl d12_stepsTo_213 ?_
        refine ev_iconst ci_1 d12_stepsTo_215 ?_
        rcases ite_some hf with ⟨c94, hf⟩ | ⟨c94, hf⟩
        · refine ev_icmp_ne_P (tgt := 223) c94 (by decide) d12_stepsTo_216 ?_
          refine ev_iconst ci_m1 d12_stepsTo_219 ?_
          refine ev_goto (tgt := 224) (by decide) d12_stepsTo_220 ?_
          exact Ev.sub [0, 1, 2, 3, 4, 5, 6, 7, 8] rfl (s12_stepsTo_p224 hK130 ih _ _ _ _ _ _ _ _ _ _ _ _ _ _ hf)
        · refine ev_icmp_ne_Q (tgt := 223) c94 (by decide) d12_stepsTo_216 ?_
          refine ev_iconst ci_0 d12_stepsTo_223 ?_
          exact Ev.sub [0, 1, 2, 3, 4, 5, 6, 7, 8] rfl (s12_stepsTo_p224 hK130 ih _ _ _ _ _ _ _ _ _ _ _ _ _ _ hf)
    · refine ev_icmp_ge_Q (tgt := 349) c92 (by decide) d12_stepsTo_196 ?_
      obtain ⟨y95, e96, hf⟩ := lt_some hf
      refine ev_iinc (lv2 := [(6, .int y95), (0, .ref v0), (1, .int v1), (2, .int v2), (3, .int v3), (4, .int v4), (5, .int v5), (7, .int v7), (8, .int v8)]) (i := 6) (q := 6) (v := y95) (n := 1) rfl (by rw [ci_1]; exact e96.symm) (by decide) rfl d12_stepsTo_349 ?_
      refine ev_goto (tgt := 130) (by decide) d12_stepsTo_352 ?_
      exact Ev.sub [1, 2, 3, 4, 5, 6, 0] rfl (hK130 _ _ _ _ _ _ _ _ _ _ hf)
def f12_stepsTo_p190 (K130 : St → Nat → Int32 → Int32 → Int32 → Int32 → Int32 → Int32 → Option (Int32 × St)) (σ : St) (v0 : Nat) (v1 : Int32) (v2 : Int32) (v3 : Int32) (v4 : Int32) (v5 : Int32) (v6 : Int32) (v7 : Int32) : Option (Int32 × St) :=
  f12_stepsTo_p193 K130 FU σ v0 v1 v2 v3 v4 v5 v6 v7 (0 : Int32)
set_option maxRecDepth 20000 in
theorem s12_stepsTo_p190 {K130 : St → Nat → Int32 → Int32 → Int32 → Int32 → Int32 → Int32 → Option (Int32 × St)} (hK130 : ∀ (σ : St) (v0 : Nat) (v1 : Int32) (v2 : Int32) (v3 : Int32) (v4 : Int32) (v5 : Int32) (v6 : Int32) (r : Int32) (τ : St), K130 σ v0 v1 v2 v3 v4 v5 v6 = some (r, τ) → Ev 4 m12_stepsTo 130 [(0, .ref v0), (1, .int v1), (2, .int v2), (3, .int v3), (4, .int v4), (5, .int v5), (6, .int v6)] [] σ (some (.int r)) τ) : ∀ (σ : St) (v0 : Nat) (v1 : Int32) (v2 : Int32) (v3 : Int32) (v4 : Int32) (v5 : Int32) (v6 : Int32) (v7 : Int32) (r : Int32) (τ : St), f12_stepsTo_p190 K130 σ v0 v1 v2 v3 v4 v5 v6 v7 = some (r, τ) → Ev 4 m12_stepsTo 190 [(0, .ref v0), (1, .int v1), (2, .int v2), (3, .int v3), (4, .int v4), (5, .int v5), (6, .int v6), (7, .int v7)] [] σ (some (.int r)) τ := by
  intro σ v0 v1 v2 v3 v4 v5 v6 v7 r τ hf
  unfold f12_stepsTo_p190 at hf
  refine ev_iconst ci_0 d12_stepsTo_190 ?_
  refine ev_istore (lv2 := [(8, .int (0 : Int32)), (0, .ref v0), (1, .int v1), (2, .int v2), (3, .int v3), (4, .int v4), (5, .int v5), (6, .int v6), (7, .int v7)]) (i := 8) (by decide) rfl d12_stepsTo_191 ?_
  exact Ev.sub [1, 2, 3, 4, 5, 6, 7, 8, 0] rfl (s12_stepsTo_p193 hK130 FU _ _ _ _ _ _ _ _ _ _ _ _ hf)
def f12_stepsTo_p130 : Nat → St → Nat → Int32 → Int32 → Int32 → Int32 → Int32 → Int32 → Option (Int32 × St)
  | 0, _, _, _, _, _, _, _, _ => none
  | n + 1, σ, v0, v1, v2, v3, v4, v5, v6 =>
  (if v6 < v4 then
  gd (ob σ v0 12) (
  lt (sR σ v0 78) fun b65 => (
  gd (nz b65) (
  gd (ob σ b65 14) (
  gd (inb σ b65 v6) (
  lt (sI σ b65 (ix v6)) fun y70 => (
  (if y70 = v2 then
  lt (sR σ v0 77) fun b73 => (
  gd (nz b73) (
  gd (ob σ b73 14) (
  gd (inb σ b73 y70) (
  some (sI σ b73 (ix y70), σ)))))
  else
  (if v2 = (-1 : Int32) then
  (if v5 = (-1 : Int32) then
  bd (f12_isShore σ y70) fun r80 t81 => (
  (if r80 = (0 : Int32) then
  f12_stepsTo_p190 (f12_stepsTo_p130 n) t81 v0 v1 v2 v3 v4 v5 v6 y70
  else
  lt (sR t81 v0 77) fun b85 => (
  gd (nz b85) (
  gd (ob t81 b85 14) (
  gd (inb t81 b85 y70) (
  lt ((sI t81 b85 (ix y70)) + (1 : Int32)) fun y90 => (
  f12_stepsTo_p190 (f12_stepsTo_p130 n) t81 v0 v1 v2 v3 v4 y90 v6 y70)))))))
  else
  f12_stepsTo_p190 (f12_stepsTo_p130 n) σ v0 v1 v2 v3 v4 v5 v6 y70)
  else
  f12_stepsTo_p190 (f12_stepsTo_p130 n) σ v0 v1 v2 v3 v4 v5 v6 y70))))))))
  else
  some (v5, σ))
set_option maxRecDepth 20000 in
theorem s12_stepsTo_p130 : ∀ (n : Nat) (σ : St) (v0 : Nat) (v1 : Int32) (v2 : Int32) (v3 : Int32) (v4 : Int32) (v5 : Int32) (v6 : Int32) (r : Int32) (τ : St), f12_stepsTo_p130 n σ v0 v1 v2 v3 v4 v5 v6 = some (r, τ) → Ev 4 m12_stepsTo 130 [(0, .ref v0), (1, .int v1), (2, .int v2), (3, .int v3), (4, .int v4), (5, .int v5), (6, .int v6)] [] σ (some (.int r)) τ := by
  intro n
  induction n with
  | zero =>
    intro σ v0 v1 v2 v3 v4 v5 v6 r τ hf
    cases hf
  | succ n ih =>
    intro σ v0 v1 v2 v3 v4 v5 v6 r τ hf
    rw [f12_stepsTo_p130] at hf
    refine ev_iload (i := 6) (q := 6) rfl d12_stepsTo_130 ?_
    refine ev_iload (i := 4) (q := 4) rfl d12_stepsTo_132 ?_
    rcases ite_some hf with ⟨c63, hf⟩ | ⟨c63, hf⟩
    · refine ev_icmp_ge_P (tgt := 355) c63 (by decide) d12_stepsTo_134 ?_
      refine ev_aload_n (j := 0) (i := 0) (q := 0) rfl rfl d12_stepsTo_137 ?_
      obtain ⟨h64, hf⟩ := gd_some hf
      obtain ⟨b65, e66, hf⟩ := lt_some hf
      obtain ⟨h67, hf⟩ := gd_some hf
      refine ev_getRb cls12 (j := 78) (by decide) rfl w1329 h64 e66 (nz_ne h67) d12_stepsTo_138 ?_
      refine ev_iload (i := 6) (q := 6) rfl d12_stepsTo_141 ?_
      obtain ⟨h68, hf⟩ := gd_some hf
      obtain ⟨h69, hf⟩ := gd_some hf
      refine ev_iald h68 h69 d12_stepsTo_143 ?_
      obtain ⟨y70, e71, hf⟩ := lt_some hf
      refine ev_nmI e71 ?_
      refine ev_istore (lv2 := [(7, .int y70), (0, .ref v0), (1, .int v1), (2, .int v2), (3, .int v3), (4, .int v4), (5, .int v5), (6, .int v6)]) (i := 7) (by decide) rfl d12_stepsTo_144 ?_
      refine ev_iload (i := 7) (q := 0) rfl d12_stepsTo_146 ?_
      refine ev_iload_n (j := 2) (i := 2) (q := 3) rfl rfl d12_stepsTo_148 ?_
      rcases ite_some hf with ⟨c72, hf⟩ | ⟨c72, hf⟩
      · refine ev_icmp_ne_P (tgt := 160) c72 (by decide) d12_stepsTo_149 ?_
        refine ev_aload_n (j := 0) (i := 0) (q := 1) rfl rfl d12_stepsTo_152 ?_
        obtain ⟨b73, e74, hf⟩ := lt_some hf
        obtain ⟨h75, hf⟩ := gd_some hf
        refine ev_getRb cls12 (j := 77) (by decide) rfl w1328 h64 e74 (nz_ne h75) d12_stepsTo_153 ?_
        refine ev_iload (i := 7) (q := 0) rfl d12_stepsTo_156 ?_
        obtain ⟨h76, hf⟩ := gd_some hf
        obtain ⟨h77, hf⟩ := gd_some hf
        refine ev_iald h76 h77 d12_stepsTo_158 ?_
        obtain ⟨rfl, rfl⟩ := ret_some hf
        exact ev_iret rfl d12_stepsTo_159
      · refine ev_icmp_ne_Q (tgt := 160) c72 (by decide) d12_stepsTo_149 ?_
        refine ev_iload_n (j := 2) (i := 2) (q := 3) rfl rfl d12_stepsTo_160 ?_
        refine ev_iconst ci_m1 d12_stepsTo_161 ?_
        rcases ite_some hf with ⟨c78, hf⟩ | ⟨c78, hf⟩
        · refine ev_icmp_ne_P (tgt := 190) c78 (by decide) d12_stepsTo_162 ?_
          refine ev_iload (i := 5) (q := 6) rfl d12_stepsTo_165 ?_
          refine ev_iconst ci_m1 d12_stepsTo_167 ?_
          rcases ite_some hf with ⟨c79, hf⟩ | ⟨c79, hf⟩
          · refine ev_icmp_ne_P (tgt := 190) c79 (by decide) d12_stepsTo_168 ?_
            refine ev_iload (i := 7) (q := 0) rfl d12_stepsTo_171 ?_
            obtain ⟨r80, t81, k82, hf⟩ := bd_some hf
            have q83 := s12_isShore _ _ _ _ k82
            refine ev_callS (vs := [.int y70]) (sk := []) q83 (by decide) (Nat.le_of_ble_eq_true rfl) w1900 w1901 w19 w1902 k12_isShore rfl (Nat.le_of_ble_eq_true rfl) d12_stepsTo_173 ?_
            rcases ite_some hf with ⟨c84, hf⟩ | ⟨c84, hf⟩
            · refine ev_if_eq_P (tgt := 190) c84 (by decide) d12_stepsTo_176 ?_
              exact Ev.sub [1, 2, 3, 4, 5, 6, 7, 0] rfl (s12_stepsTo_p190 ih _ _ _ _ _ _ _ _ _ _ _ hf)
            · refine ev_if_eq_Q (tgt := 190) c84 (by decide) d12_stepsTo_176 ?_
              refine ev_aload_n (j := 0) (i := 0) (q := 1) rfl rfl d12_stepsTo_179 ?_
              obtain ⟨b85, e86, hf⟩ := lt_some hf
              obtain ⟨h87, hf⟩ := gd_some hf
              refine ev_getRb cls12 (j := 77) (by decide) rfl w1328 (mono_ob q83.1 h64) e86 (nz_ne h87) d12_stepsTo_180 ?_
              refine ev_iload (i := 7) (q := 0) rfl d12_stepsTo_183 ?_
              obtain ⟨h88, hf⟩ := gd_some hf
              obtain ⟨h89, hf⟩ := gd_some hf
              refine ev_iald h88 h89 d12_stepsTo_185 ?_
              refine ev_iconst ci_1 d12_stepsTo_186 ?_
              refine ev_iadd d12_stepsTo_187 ?_
              obtain ⟨y90, e91, hf⟩ := lt_some hf
              refine ev_nmI e91 ?_
              refine ev_istore (lv2 := [(5, .int y90), (7, .int y70), (0, .ref v0), (1, .int v1), (2, .int v2), (3, .int v3), (4, .int v4), (6, .int v6)]) (i := 5) (by decide) rfl d12_stepsTo_188 ?_
              exact Ev.sub [2, 3, 4, 5, 6, 0, 7, 1] rfl (s12_stepsTo_p190 ih _ _ _ _ _ _ _ _ _ _ _ hf)
          · refine ev_icmp_ne_Q (tgt := 190) c79 (by decide) d12_stepsTo_168 ?_
            exact Ev.sub [1, 2, 3, 4, 5, 6, 7, 0] rfl (s12_stepsTo_p190 ih _ _ _ _ _ _ _ _ _ _ _ hf)
        · refine ev_icmp_ne_Q (tgt := 190) c78 (by decide) d12_stepsTo_162 ?_
          exact Ev.sub [1, 2, 3, 4, 5, 6, 7, 0] rfl (s12_stepsTo_p190 ih _ _ _ _ _ _ _ _ _ _ _ hf)
    · refine ev_icmp_ge_Q (tgt := 355) c63 (by decide) d12_stepsTo_134 ?_
      refine ev_iload (i := 5) (q := 5) rfl d12_stepsTo_355 ?_
      obtain ⟨rfl, rfl⟩ := ret_some hf
      exact ev_iret rfl d12_stepsTo_357
def f12_stepsTo_p124 (σ : St) (v0 : Nat) (v1 : Int32) (v2 : Int32) (v3 : Int32) (v4 : Int32) : Option (Int32 × St) :=
  f12_stepsTo_p130 FU σ v0 v1 v2 v3 v4 (-1 : Int32) (0 : Int32)
set_option maxRecDepth 20000 in
theorem s12_stepsTo_p124 : ∀ (σ : St) (v0 : Nat) (v1 : Int32) (v2 : Int32) (v3 : Int32) (v4 : Int32) (r : Int32) (τ : St), f12_stepsTo_p124 σ v0 v1 v2 v3 v4 = some (r, τ) → Ev 4 m12_stepsTo 124 [(0, .ref v0), (1, .int v1), (2, .int v2), (3, .int v3), (4, .int v4)] [] σ (some (.int r)) τ := by
  intro σ v0 v1 v2 v3 v4 r τ hf
  unfold f12_stepsTo_p124 at hf
  refine ev_iconst ci_m1 d12_stepsTo_124 ?_
  refine ev_istore (lv2 := [(5, .int (-1 : Int32)), (0, .ref v0), (1, .int v1), (2, .int v2), (3, .int v3), (4, .int v4)]) (i := 5) (by decide) rfl d12_stepsTo_125 ?_
  refine ev_iconst ci_0 d12_stepsTo_127 ?_
  refine ev_istore (lv2 := [(6, .int (0 : Int32)), (5, .int (-1 : Int32)), (0, .ref v0), (1, .int v1), (2, .int v2), (3, .int v3), (4, .int v4)]) (i := 6) (by decide) rfl d12_stepsTo_128 ?_
  exact Ev.sub [2, 3, 4, 5, 6, 1, 0] rfl (s12_stepsTo_p130 FU _ _ _ _ _ _ _ _ _ _ hf)
def f12_stepsTo_p118 (K69 : St → Nat → Int32 → Int32 → Int32 → Int32 → Int32 → Option (Int32 × St)) (σ : St) (v0 : Nat) (v1 : Int32) (v2 : Int32) (v3 : Int32) (v4 : Int32) (v5 : Int32) : Option (Int32 × St) :=
  lt (v5 + (1 : Int32)) fun y61 => (
  K69 σ v0 v1 v2 v3 v4 y61)
set_option maxRecDepth 20000 in
theorem s12_stepsTo_p118 {K69 : St → Nat → Int32 → Int32 → Int32 → Int32 → Int32 → Option (Int32 × St)} (hK69 : ∀ (σ : St) (v0 : Nat) (v1 : Int32) (v2 : Int32) (v3 : Int32) (v4 : Int32) (v5 : Int32) (r : Int32) (τ : St), K69 σ v0 v1 v2 v3 v4 v5 = some (r, τ) → Ev 4 m12_stepsTo 69 [(0, .ref v0), (1, .int v1), (2, .int v2), (3, .int v3), (4, .int v4), (5, .int v5)] [] σ (some (.int r)) τ) : ∀ (σ : St) (v0 : Nat) (v1 : Int32) (v2 : Int32) (v3 : Int32) (v4 : Int32) (v5 : Int32) (r : Int32) (τ : St), f12_stepsTo_p118 K69 σ v0 v1 v2 v3 v4 v5 = some (r, τ) → Ev 4 m12_stepsTo 118 [(0, .ref v0), (1, .int v1), (2, .int v2), (3, .int v3), (4, .int v4), (5, .int v5)] [] σ (some (.int r)) τ := by
  intro σ v0 v1 v2 v3 v4 v5 r τ hf
  unfold f12_stepsTo_p118 at hf
  obtain ⟨y61, e62, hf⟩ := lt_some hf
  refine ev_iinc (lv2 := [(5, .int y61), (0, .ref v0), (1, .int v1), (2, .int v2), (3, .int v3), (4, .int v4)]) (i := 5) (q := 5) (v := y61) (n := 1) rfl (by rw [ci_1]; exact e62.symm) (by decide) rfl d12_stepsTo_118 ?_
  refine ev_goto (tgt := 69) (by decide) d12_stepsTo_121 ?_
  exact Ev.sub [1, 2, 3, 4, 5, 0] rfl (hK69 _ _ _ _ _ _ _ _ _ hf)
def f12_stepsTo_p69 : Nat → St → Nat → Int32 → Int32 → Int32 → Int32 → Int32 → Option (Int32 × St)
  | 0, _, _, _, _, _, _, _ => none
  | n + 1, σ, v0, v1, v2, v3, v4, v5 =>
  (if v5 < (72 : Int32) then
  bd (f12_isShore σ v5) fun r34 t35 => (
  (if r34 = (0 : Int32) then
  f12_stepsTo_p118 (f12_stepsTo_p69 n) t35 v0 v1 v2 v3 v4 v5
  else
  gd (ob t35 v0 12) (
  bd (f12_isFree t35 v0 v1 v5 v3) fun r40 t41 => (
  (if r40 = (0 : Int32) then
  f12_stepsTo_p118 (f12_stepsTo_p69 n) t41 v0 v1 v2 v3 v4 v5
  else
  lt (sR t41 v0 77) fun b45 => (
  gd (nz b45) (
  gd (ob t41 b45 14) (
  gd (inb t41 b45 v5) (
  lt (wI t41 b45 (ix v5) (1 : Int32)) fun t50 => (
  lt (sR t50 v0 78) fun b52 => (
  gd (nz b52) (
  gd (ob t50 b52 14) (
  gd (inb t50 b52 v4) (
  lt (wI t50 b52 (ix v4) v5) fun t57 => (
  lt (v4 + (1 : Int32)) fun y59 => (
  f12_stepsTo_p118 (f12_stepsTo_p69 n) t57 v0 v1 v2 v3 y59 v5))))))))))))))))
  else
  f12_stepsTo_p124 σ v0 v1 v2 v3 v4)
set_option maxRecDepth 20000 in
theorem s12_stepsTo_p69 : ∀ (n : Nat) (σ : St) (v0 : Nat) (v1 : Int32) (v2 : Int32) (v3 : Int32) (v4 : Int32) (v5 : Int32) (r : Int32) (τ : St), f12_stepsTo_p69 n σ v0 v1 v2 v3 v4 v5 = some (r, τ) → Ev 4 m12_stepsTo 69 [(0, .ref v0), (1, .int v1), (2, .int v2), (3, .int v3), (4, .int v4), (5, .int v5)] [] σ (some (.int r)) τ := by
  intro n
  induction n with
  | zero =>
    intro σ v0 v1 v2 v3 v4 v5 r τ hf
    cases hf
  | succ n ih =>
    intro σ v0 v1 v2 v3 v4 v5 r τ hf
    rw [f12_stepsTo_p69] at hf
    refine ev_iload (i := 5) (q := 5) rfl d12_stepsTo_69 ?_
    refine ev_bipush cb_72 d12_stepsTo_71 ?_
    rcases ite_some hf with ⟨c33, hf⟩ | ⟨c33, hf⟩
    · refine ev_icmp_ge_P (tgt := 124) c33 (by decide) d12_stepsTo_73 ?_
      refine ev_iload (i := 5) (q := 5) rfl d12_stepsTo_76 ?_
      obtain ⟨r34, t35, k36, hf⟩ := bd_some hf
      have q37 := s12_isShore _ _ _ _ k36
      refine ev_callS (vs := [.int v5]) (sk := []) q37 (by decide) (Nat.le_of_ble_eq_true rfl) w1900 w1901 w19 w1902 k12_isShore rfl (Nat.le_of_ble_eq_true rfl) d12_stepsTo_78 ?_
      rcases ite_some hf with ⟨c38, hf⟩ | ⟨c38, hf⟩
      · refine ev_if_eq_P (tgt := 118) c38 (by decide) d12_stepsTo_81 ?_
        exact Ev.sub [0, 1, 2, 3, 4, 5] rfl (s12_stepsTo_p118 ih _ _ _ _ _ _ _ _ _ hf)
      · refine ev_if_eq_Q (tgt := 118) c38 (by decide) d12_stepsTo_81 ?_
        refine ev_aload_n (j := 0) (i := 0) (q := 0) rfl rfl d12_stepsTo_84 ?_
        refine ev_iload_n (j := 1) (i := 1) (q := 1) rfl rfl d12_stepsTo_85 ?_
        refine ev_iload (i := 5) (q := 5) rfl d12_stepsTo_86 ?_
        refine ev_iload_n (j := 3) (i := 3) (q := 3) rfl rfl d12_stepsTo_88 ?_
        obtain ⟨h39, hf⟩ := gd_some hf
        obtain ⟨r40, t41, k42, hf⟩ := bd_some hf
        have q43 := s12_isFree _ _ _ _ _ _ _ k42
        refine ev_callV (vs := [.int v1, .int v5, .int v3]) (sk := []) cls12 h39 q43 (by decide) (Nat.le_of_ble_eq_true rfl) w1903 w1905 ws112 w19 w1906 k12_isFree rfl (Nat.le_of_ble_eq_true rfl) d12_stepsTo_89 ?_
        rcases ite_some hf with ⟨c44, hf⟩ | ⟨c44, hf⟩
        · refine ev_if_ne_P (tgt := 98) c44 (by decide) d12_stepsTo_92 ?_
          refine ev_goto (tgt := 118) (by decide) d12_stepsTo_95 ?_
          exact Ev.sub [0, 1, 2, 3, 4, 5] rfl (s12_stepsTo_p118 ih _ _ _ _ _ _ _ _ _ hf)
        · refine ev_if_ne_Q (tgt := 98) c44 (by decide) d12_stepsTo_92 ?_
          refine ev_aload_n (j := 0) (i := 0) (q := 0) rfl rfl d12_stepsTo_98 ?_
          obtain ⟨b45, e46, hf⟩ := lt_some hf
          obtain ⟨h47, hf⟩ := gd_some hf
          refine ev_getRb cls12 (j := 77) (by decide) rfl w1328 (mono_ob q43.1 h39) e46 (nz_ne h47) d12_stepsTo_99 ?_
          refine ev_iload (i := 5) (q := 5) rfl d12_stepsTo_102 ?_
          refine ev_iconst ci_1 d12_stepsTo_104 ?_
          obtain ⟨h48, hf⟩ := gd_some hf
          obtain ⟨h49, hf⟩ := gd_some hf
          obtain ⟨t50, e51, hf⟩ := lt_some hf
          refine ev_iast h48 h49 d12_stepsTo_105 (ev_nmS e51 ?_)
          refine ev_aload_n (j := 0) (i := 0) (q := 0) rfl rfl d12_stepsTo_106 ?_
          obtain ⟨b52, e53, hf⟩ := lt_some hf
          obtain ⟨h54, hf⟩ := gd_some hf
          refine ev_getRb cls12 (j := 78) (by decide) rfl w1329 (mono_ob (mono_eI e51) (mono_ob q43.1 h39)) e53 (nz_ne h54) d12_stepsTo_107 ?_
          refine ev_iload (i := 4) (q := 4) rfl d12_stepsTo_110 ?_
          refine ev_iload (i := 5) (q := 5) rfl d12_stepsTo_112 ?_
          obtain ⟨h55, hf⟩ := gd_some hf
          obtain ⟨h56, hf⟩ := gd_some hf
          obtain ⟨t57, e58, hf⟩ := lt_some hf
          refine ev_iast h55 h56 d12_stepsTo_114 (ev_nmS e58 ?_)
          obtain ⟨y59, e60, hf⟩ := lt_some hf
          refine ev_iinc (lv2 := [(4, .int y59), (0, .ref v0), (1, .int v1), (2, .int v2), (3, .int v3), (5, .int v5)]) (i := 4) (q := 4) (v := y59) (n := 1) rfl (by rw [ci_1]; exact e60.symm) (by decide) rfl d12_stepsTo_115 ?_
          exact Ev.sub [1, 2, 3, 4, 0, 5] rfl (s12_stepsTo_p118 ih _ _ _ _ _ _ _ _ _ hf)
    · refine ev_icmp_ge_Q (tgt := 124) c33 (by decide) d12_stepsTo_73 ?_
      exact Ev.sub [0, 1, 2, 3, 4] rfl (s12_stepsTo_p124 _ _ _ _ _ _ _ _ hf)
def f12_stepsTo_p6 : Nat → St → Nat → Int32 → Int32 → Int32 → Int32 → Int32 → Option (Int32 × St)
  | 0, _, _, _, _, _, _, _ => none
  | n + 1, σ, v0, v1, v2, v3, v4, v5 =>
  (if v5 < (72 : Int32) then
  gd (ob σ v0 12) (
  lt (sR σ v0 77) fun b3 => (
  gd (nz b3) (
  gd (ob σ b3 14) (
  gd (inb σ b3 v5) (
  lt (wI σ b3 (ix v5) (-1 : Int32)) fun t8 => (
  lt (v5 + (1 : Int32)) fun y10 => (
  (f12_stepsTo_p6 n) t8 v0 v1 v2 v3 v4 y10)))))))
  else
  gd (ob σ v0 12) (
  lt (sR σ v0 9) fun b13 => (
  gd (nz b13) (
  gd (ob σ b13 14) (
  gd (inb σ b13 v1) (
  (if (sI σ b13 (ix v1)) < (0 : Int32) then
  f12_stepsTo_p69 FU σ v0 v1 v2 v3 v4 (0 : Int32)
  else
  lt (sR σ v0 77) fun b19 => (
  gd (nz b19) (
  gd (ob σ b19 14) (
  gd (inb σ b19 (sI σ b13 (ix v1))) (
  lt (wI σ b19 (ix (sI σ b13 (ix v1))) (0 : Int32)) fun t24 => (
  lt (sR t24 v0 78) fun b26 => (
  gd (nz b26) (
  gd (ob t24 b26 14) (
  gd (inb t24 b26 (0 : Int32)) (
  lt (wI t24 b26 (ix (0 : Int32)) (sI t24 b13 (ix v1))) fun t31 => (
  f12_stepsTo_p124 t31 v0 v1 v2 v3 (1 : Int32))))))))))))))))))
set_option maxRecDepth 20000 in
theorem s12_stepsTo_p6 : ∀ (n : Nat) (σ : St) (v0 : Nat) (v1 : Int32) (v2 : Int32) (v3 : Int32) (v4 : Int32) (v5 : Int32) (r : Int32) (τ : St), f12_stepsTo_p6 n σ v0 v1 v2 v3 v4 v5 = some (r, τ) → Ev 4 m12_stepsTo 6 [(0, .ref v0), (1, .int v1), (2, .int v2), (3, .int v3), (4, .int v4), (5, .int v5)] [] σ (some (.int r)) τ := by
  intro n
  induction n with
  | zero =>
    intro σ v0 v1 v2 v3 v4 v5 r τ hf
    cases hf
  | succ n ih =>
    intro σ v0 v1 v2 v3 v4 v5 r τ hf
    rw [f12_stepsTo_p6] at hf
    refine ev_iload (i := 5) (q := 5) rfl d12_stepsTo_6 ?_
    refine ev_bipush cb_72 d12_stepsTo_8 ?_
    rcases ite_some hf with ⟨c1, hf⟩ | ⟨c1, hf⟩
    · refine ev_icmp_ge_P (tgt := 27) c1 (by decide) d12_stepsTo_10 ?_
      refine ev_aload_n (j := 0) (i := 0) (q := 0) rfl rfl d12_stepsTo_13 ?_
      obtain ⟨h2, hf⟩ := gd_some hf
      obtain ⟨b3, e4, hf⟩ := lt_some hf
      obtain ⟨h5, hf⟩ := gd_some hf
      refine ev_getRb cls12 (j := 77) (by decide) rfl w1328 h2 e4 (nz_ne h5) d12_stepsTo_14 ?_
      refine ev_iload (i := 5) (q := 5) rfl d12_stepsTo_17 ?_
      refine ev_iconst ci_m1 d12_stepsTo_19 ?_
      obtain ⟨h6, hf⟩ := gd_some hf
      obtain ⟨h7, hf⟩ := gd_some hf
      obtain ⟨t8, e9, hf⟩ := lt_some hf
      refine ev_iast h6 h7 d12_stepsTo_20 (ev_nmS e9 ?_)
      obtain ⟨y10, e11, hf⟩ := lt_some hf
      refine ev_iinc (lv2 := [(5, .int y10), (0, .ref v0), (1, .int v1), (2, .int v2), (3, .int v3), (4, .int v4)]) (i := 5) (q := 5) (v := y10) (n := 1) rfl (by rw [ci_1]; exact e11.symm) (by decide) rfl d12_stepsTo_21 ?_
      refine ev_goto (tgt := 6) (by decide) d12_stepsTo_24 ?_
      exact Ev.sub [1, 2, 3, 4, 5, 0] rfl (ih _ _ _ _ _ _ _ _ _ hf)
    · refine ev_icmp_ge_Q (tgt := 27) c1 (by decide) d12_stepsTo_10 ?_
      refine ev_aload_n (j := 0) (i := 0) (q := 0) rfl rfl d12_stepsTo_27 ?_
      obtain ⟨h12, hf⟩ := gd_some hf
      obtain ⟨b13, e14, hf⟩ := lt_some hf
      obtain ⟨h15, hf⟩ := gd_some hf
      refine ev_getRb cls12 (j := 9) (by decide) rfl w1260 h12 e14 (nz_ne h15) d12_stepsTo_28 ?_
      refine ev_iload_n (j := 1) (i := 1) (q := 1) rfl rfl d12_stepsTo_31 ?_
      obtain ⟨h16, hf⟩ := gd_some hf
      obtain ⟨h17, hf⟩ := gd_some hf
      refine ev_iald h16 h17 d12_stepsTo_32 ?_
      rcases ite_some hf with ⟨c18, hf⟩ | ⟨c18, hf⟩
      · refine ev_if_lt_P (tgt := 66) c18 (by decide) d12_stepsTo_33 ?_
        refine ev_iconst ci_0 d12_stepsTo_66 ?_
        refine ev_istore (lv2 := [(5, .int (0 : Int32)), (0, .ref v0), (1, .int v1), (2, .int v2), (3, .int v3), (4, .int v4)]) (i := 5) (by decide) rfl d12_stepsTo_67 ?_
        exact Ev.sub [1, 2, 3, 4, 5, 0] rfl (s12_stepsTo_p69 FU _ _ _ _ _ _ _ _ _ hf)
      · refine ev_if_lt_Q (tgt := 66) c18 (by decide) d12_stepsTo_33 ?_
        refine ev_aload_n (j := 0) (i := 0) (q := 0) rfl rfl d12_stepsTo_36 ?_
        obtain ⟨b19, e20, hf⟩ := lt_some hf
        obtain ⟨h21, hf⟩ := gd_some hf
        refine ev_getRb cls12 (j := 77) (by decide) rfl w1328 h12 e20 (nz_ne h21) d12_stepsTo_37 ?_
        refine ev_aload_n (j := 0) (i := 0) (q := 0) rfl rfl d12_stepsTo_40 ?_
        refine ev_getRb cls12 (j := 9) (by decide) rfl w1260 h12 e14 (nz_ne h15) d12_stepsTo_41 ?_
        refine ev_iload_n (j := 1) (i := 1) (q := 1) rfl rfl d12_stepsTo_44 ?_
        refine ev_iald h16 h17 d12_stepsTo_45 ?_
        refine ev_iconst ci_0 d12_stepsTo_46 ?_
        obtain ⟨h22, hf⟩ := gd_some hf
        obtain ⟨h23, hf⟩ := gd_some hf
        obtain ⟨t24, e25, hf⟩ := lt_some hf
        refine ev_iast h22 h23 d12_stepsTo_47 (ev_nmS e25 ?_)
        refine ev_aload_n (j := 0) (i := 0) (q := 0) rfl rfl d12_stepsTo_48 ?_
        obtain ⟨b26, e27, hf⟩ := lt_some hf
        obtain ⟨h28, hf⟩ := gd_some hf
        refine ev_getRb cls12 (j := 78) (by decide) rfl w1329 (mono_ob (mono_eI e25) h12) e27 (nz_ne h28) d12_stepsTo_49 ?_
        refine ev_iconst ci_0 d12_stepsTo_52 ?_
        refine ev_aload_n (j := 0) (i := 0) (q := 0) rfl rfl d12_stepsTo_53 ?_
        refine ev_getRb cls12 (j := 9) (by decide) rfl w1260 (mono_ob (mono_eI e25) h12) (tr_I e25 e14) (nz_ne h15) d12_stepsTo_54 ?_
        refine ev_iload_n (j := 1) (i := 1) (q := 1) rfl rfl d12_stepsTo_57 ?_
        refine ev_iald (mono_ob (mono_eI e25) h16) (inb_m (mono_eI e25) h16 h17) d12_stepsTo_58 ?_
        obtain ⟨h29, hf⟩ := gd_some hf
        obtain ⟨h30, hf⟩ := gd_some hf
        obtain ⟨t31, e32, hf⟩ := lt_some hf
        refine ev_iast h29 h30 d12_stepsTo_59 (ev_nmS e32 ?_)
        refine ev_iconst ci_1 d12_stepsTo_60 ?_
        refine ev_istore (lv2 := [(4, .int (1 : Int32)), (0, .ref v0), (1, .int v1), (2, .int v2), (3, .int v3), (5, .int v5)]) (i := 4) (by decide) rfl d12_stepsTo_61 ?_
        refine ev_goto (tgt := 124) (by decide) d12_stepsTo_63 ?_
        exact Ev.sub [1, 2, 3, 4, 0] rfl (s12_stepsTo_p124 _ _ _ _ _ _ _ _ hf)
def f12_stepsTo (σ : St) (v0 : Nat) (v1 : Int32) (v2 : Int32) (v3 : Int32) : Option (Int32 × St) :=
  f12_stepsTo_p6 FU σ v0 v1 v2 v3 (0 : Int32) (0 : Int32)
set_option maxRecDepth 50000 in
theorem s12_stepsTo : ∀ (σ : St) (v0 : Nat) (v1 : Int32) (v2 : Int32) (v3 : Int32) (r : Int32) (τ : St), f12_stepsTo σ v0 v1 v2 v3 = some (r, τ) → Call 4 m12_stepsTo [.ref v0, .int v1, .int v2, .int v3] σ (some (.int r)) τ := by
  intro σ v0 v1 v2 v3 r τ hf
  unfold f12_stepsTo at hf
  refine Call.of (by decide +kernel) rfl (Nat.le_of_ble_eq_true rfl) ?_
  refine ev_iconst ci_0 d12_stepsTo_0 ?_
  refine ev_istore (lv2 := [(4, .int (0 : Int32)), (0, .ref v0), (1, .int v1), (2, .int v2), (3, .int v3)]) (i := 4) (by decide) rfl d12_stepsTo_1 ?_
  refine ev_iconst ci_0 d12_stepsTo_3 ?_
  refine ev_istore (lv2 := [(5, .int (0 : Int32)), (4, .int (0 : Int32)), (0, .ref v0), (1, .int v1), (2, .int v2), (3, .int v3)]) (i := 5) (by decide) rfl d12_stepsTo_4 ?_
  exact Ev.sub [2, 3, 4, 5, 1, 0] rfl (s12_stepsTo_p6 FU _ _ _ _ _ _ _ _ _ hf)
abbrev m12_orders : MD := ("MillBoatsModel", ⟨"MillBoatsModel", "orders", "(II)Z"⟩, prog_14_method_100_code, 8, (some Jvm.ClassFile.FieldType.boolean))
theorem k12_orders : okY m12_orders.2.1 2 := ⟨by decide +kernel, by decide +kernel, by decide +kernel⟩
def f12_orders_p42 (F : St → Nat → Int32 → Int32 → Option (Int32 × St)) (K5 : St → Nat → Int32 → Int32 → Int32 → Int32 → Option (Int32 × St)) (σ : St) (v0 : Nat) (v1 : Int32) (v2 : Int32) (v3 : Int32) (v4 : Int32) : Option (Int32 × St) :=
  lt (v4 + (1 : Int32)) fun y22 => (
  K5 σ v0 v1 v2 v3 y22)
set_option maxRecDepth 20000 in
theorem s12_orders_p42 {F : St → Nat → Int32 → Int32 → Option (Int32 × St)} {dF : Nat} (hB : 5 ≤ dF) (hF : ∀ (σ : St) (a0 : Nat) (a1 : Int32) (a2 : Int32) (r : Int32) (τ : St), F σ a0 a1 a2 = some (r, τ) → Call dF m12_orders [.ref a0, .int a1, .int a2] σ (some (.int r)) τ) {K5 : St → Nat → Int32 → Int32 → Int32 → Int32 → Option (Int32 × St)} (hK5 : ∀ (σ : St) (v0 : Nat) (v1 : Int32) (v2 : Int32) (v3 : Int32) (v4 : Int32) (r : Int32) (τ : St), K5 σ v0 v1 v2 v3 v4 = some (r, τ) → Ev (dF + 1) m12_orders 5 [(0, .ref v0), (1, .int v1), (2, .int v2), (3, .int v3), (4, .int v4)] [] σ (some (.int r)) τ) : ∀ (σ : St) (v0 : Nat) (v1 : Int32) (v2 : Int32) (v3 : Int32) (v4 : Int32) (r : Int32) (τ : St), f12_orders_p42 F K5 σ v0 v1 v2 v3 v4 = some (r, τ) → Ev (dF + 1) m12_orders 42 [(0, .ref v0), (1, .int v1), (2, .int v2), (3, .int v3), (4, .int v4)] [] σ (some (.int r)) τ := by
  intro σ v0 v1 v2 v3 v4 r τ hf
  unfold f12_orders_p42 at hf
  obtain ⟨y22, e23, hf⟩ := lt_some hf
  refine ev_iinc (lv2 := [(4, .int y22), (0, .ref v0), (1, .int v1), (2, .int v2), (3, .int v3)]) (i := 4) (q := 4) (v := y22) (n := 1) rfl (by rw [ci_1]; exact e23.symm) (by decide) rfl d12_orders_42 ?_
  refine ev_goto (tgt := 5) (by decide) d12_orders_45 ?_
  exact Ev.sub [1, 2, 3, 4, 0] rfl (hK5 _ _ _ _ _ _ _ _ hf)
def f12_orders_p206 (F : St → Nat → Int32 → Int32 → Option (Int32 × St)) (K62 : St → Nat → Int32 → Int32 → Int32 → Option (Int32 × St)) (σ : St) (v0 : Nat) (v1 : Int32) (v2 : Int32) (v4 : Int32) : Option (Int32 × St) :=
  lt (v4 + (1 : Int32)) fun y101 => (
  K62 σ v0 v1 v2 y101)
set_option maxRecDepth 20000 in
theorem s12_orders_p206 {F : St → Nat → Int32 → Int32 → Option (Int32 × St)} {dF : Nat} (hB : 5 ≤ dF) (hF : ∀ (σ : St) (a0 : Nat) (a1 : Int32) (a2 : Int32) (r : Int32) (τ : St), F σ a0 a1 a2 = some (r, τ) → Call dF m12_orders [.ref a0, .int a1, .int a2] σ (some (.int r)) τ) {K62 : St → Nat → Int32 → Int32 → Int32 → Option (Int32 × St)} (hK62 : ∀ (σ : St) (v0 : Nat) (v1 : Int32) (v2 : Int32) (v4 : Int32) (r : Int32) (τ : St), K62 σ v0 v1 v2 v4 = some (r, τ) → Ev (dF + 1) m12_orders 62 [(0, .ref v0), (1, .int v1), (2, .int v2), (4, .int v4)] [] σ (some (.int r)) τ) : ∀ (σ : St) (v0 : Nat) (v1 : Int32) (v2 : Int32) (v4 : Int32) (r : Int32) (τ : St), f12_orders_p206 F K62 σ v0 v1 v2 v4 = some (r, τ) → Ev (dF + 1) m12_orders 206 [(0, .ref v0), (1, .int v1), (2, .int v2), (4, .int v4)] [] σ (some (.int r)) τ := by
  intro σ v0 v1 v2 v4 r τ hf
  unfold f12_orders_p206 at hf
  obtain ⟨y101, e102, hf⟩ := lt_some hf
  refine ev_iinc (lv2 := [(4, .int y101), (0, .ref v0), (1, .int v1), (2, .int v2)]) (i := 4) (q := 3) (v := y101) (n := 1) rfl (by rw [ci_1]; exact e102.symm) (by decide) rfl d12_orders_206 ?_
  refine ev_goto (tgt := 62) (by decide) d12_orders_209 ?_
  exact Ev.sub [1, 2, 3, 0] rfl (hK62 _ _ _ _ _ _ _ hf)
def f12_orders_p62 (F : St → Nat → Int32 → Int32 → Option (Int32 × St)) : Nat → St → Nat → Int32 → Int32 → Int32 → Option (Int32 × St)
  | 0, _, _, _, _, _ => none
  | n + 1, σ, v0, v1, v2, v4 =>
  gd (ob σ v0 12) (
  (if v4 < (sI σ v0 5) then
  bd (f12_isIn σ v0 v4) fun r26 t27 => (
  (if r26 = (0 : Int32) then
  f12_orders_p206 F (f12_orders_p62 F n) t27 v0 v1 v2 v4
  else
  lt (sR t27 v0 9) fun b31 => (
  gd (nz b31) (
  gd (ob t27 b31 14) (
  gd (inb t27 b31 v4) (
  lt (sR t27 v0 63) fun b36 => (
  gd (nz b36) (
  gd (ob t27 b36 14) (
  gd (inb t27 b36 v4) (
  (if (sI t27 b31 (ix v4)) = (sI t27 b36 (ix v4)) then
  f12_orders_p206 F (f12_orders_p62 F n) t27 v0 v1 v2 v4
  else
  bd (f12_stepsTo t27 v0 v4 (sI t27 b36 (ix v4)) v2) fun r42 t43 => (
  (if r42 = (-1 : Int32) then
  f12_orders_p206 F (f12_orders_p62 F n) t43 v0 v1 v2 v4
  else
  lt (sR t43 v0 9) fun b47 => (
  gd (nz b47) (
  gd (ob t43 b47 14) (
  gd (inb t43 b47 v4) (
  lt (sI t43 b47 (ix v4)) fun y52 => (
  lt (sR t43 v0 63) fun b54 => (
  gd (nz b54) (
  gd (ob t43 b54 14) (
  gd (inb t43 b54 v4) (
  lt (wI t43 b47 (ix v4) (sI t43 b54 (ix v4))) fun t59 => (
  lt (sR t59 v0 74) fun b61 => (
  gd (nz b61) (
  gd (ob t59 b61 14) (
  gd (inb t59 b61 v1) (
  lt (wI t59 b61 (ix v1) v4) fun t66 => (
  lt (sR t66 v0 75) fun b68 => (
  gd (nz b68) (
  gd (ob t66 b68 14) (
  gd (inb t66 b68 v1) (
  lt (wI t66 b68 (ix v1) r42) fun t73 => (
  bd (F t73 v0 (v1 + (1 : Int32)) v2) fun r75 t76 => (
  lt (sR t76 v0 9) fun b79 => (
  gd (nz b79) (
  gd (ob t76 b79 14) (
  gd (inb t76 b79 v4) (
  lt (wI t76 b79 (ix v4) y52) fun t84 => (
  (if r75 = (0 : Int32) then
  f12_orders_p206 F (f12_orders_p62 F n) t84 v0 v1 v2 v4
  else
  lt (sR t84 v0 74) fun b87 => (
  gd (nz b87) (
  gd (ob t84 b87 14) (
  gd (inb t84 b87 v1) (
  lt (wI t84 b87 (ix v1) v4) fun t92 => (
  lt (sR t92 v0 75) fun b94 => (
  gd (nz b94) (
  gd (ob t92 b94 14) (
  gd (inb t92 b94 v1) (
  lt (wI t92 b94 (ix v1) r42) fun t99 => (
  some ((1 : Int32), t99)))))))))))))))))))))))))))))))))))))))))))))))))))
  else
  some ((0 : Int32), σ)))
set_option maxRecDepth 20000 in
theorem s12_orders_p62 {F : St → Nat → Int32 → Int32 → Option (Int32 × St)} {dF : Nat} (hB : 5 ≤ dF) (hF : ∀ (σ : St) (a0 : Nat) (a1 : Int32) (a2 : Int32) (r : Int32) (τ : St), F σ a0 a1 a2 = some (r, τ) → Call dF m12_orders [.ref a0, .int a1, .int a2] σ (some (.int r)) τ) : ∀ (n : Nat) (σ : St) (v0 : Nat) (v1 : Int32) (v2 : Int32) (v4 : Int32) (r : Int32) (τ : St), f12_orders_p62 F n σ v0 v1 v2 v4 = some (r, τ) → Ev (dF + 1) m12_orders 62 [(0, .ref v0), (1, .int v1), (2, .int v2), (4, .int v4)] [] σ (some (.int r)) τ := by
  intro n
  induction n with
  | zero =>
    intro σ v0 v1 v2 v4 r τ hf
    cases hf
  | succ n ih =>
    intro σ v0 v1 v2 v4 r τ hf
    rw [f12_orders_p62] at hf
    refine ev_iload (i := 4) (q := 3) rfl d12_orders_62 ?_
    refine ev_aload_n (j := 0) (i := 0) (q := 0) rfl rfl d12_orders_64 ?_
    obtain ⟨h24, hf⟩ := gd_some hf
    refine ev_getI cls12 (j := 5) (by decide) rfl w1256 h24 d12_orders_65 ?_
    rcases ite_some hf with ⟨c25, hf⟩ | ⟨c25, hf⟩
    · refine ev_icmp_ge_P (tgt := 212) c25 (by decide) d12_orders_68 ?_
      refine ev_aload_n (j := 0) (i := 0) (q := 0) rfl rfl d12_orders_71 ?_
      refine ev_iload (i := 4) (q := 3) rfl d12_orders_72 ?_
      obtain ⟨r26, t27, k28, hf⟩ := bd_some hf
      have q29 := s12_isIn _ _ _ _ _ k28
      refine ev_callV (vs := [.int v4]) (sk := []) cls12 h24 q29 (by omega) (Nat.le_of_ble_eq_true rfl) w1868 w1870 ws106 w19 w1871 k12_isIn rfl (Nat.le_of_ble_eq_true rfl) d12_orders_74 ?_
      rcases ite_some hf with ⟨c30, hf⟩ | ⟨c30, hf⟩
      · refine ev_if_eq_P (tgt := 206) c30 (by decide) d12_orders_77 ?_
        exact Ev.sub [0, 1, 2, 3] rfl (s12_orders_p206 hB hF ih _ _ _ _ _ _ _ hf)
      · refine ev_if_eq_Q (tgt := 206) c30 (by decide) d12_orders_77 ?_
        refine ev_aload_n (j := 0) (i := 0) (q := 0) rfl rfl d12_orders_80 ?_
        obtain ⟨b31, e32, hf⟩ := lt_some hf
        obtain ⟨h33, hf⟩ := gd_some hf
        refine ev_getRb cls12 (j := 9) (by decide) rfl w1260 (mono_ob q29.1 h24) e32 (nz_ne h33) d12_orders_81 ?_
        refine ev_iload (i := 4) (q := 3) rfl d12_orders_84 ?_
        obtain ⟨h34, hf⟩ := gd_some hf
        obtain ⟨h35, hf⟩ := gd_some hf
        refine ev_iald h34 h35 d12_orders_86 ?_
        refine ev_aload_n (j := 0) (i := 0) (q := 0) rfl rfl d12_orders_87 ?_
        obtain ⟨b36, e37, hf⟩ := lt_some hf
        obtain ⟨h38, hf⟩ := gd_some hf
        refine ev_getRb cls12 (j := 63) (by decide) rfl w1314 (mono_ob q29.1 h24) e37 (nz_ne h38) d12_orders_88 ?_
        refine ev_iload (i := 4) (q := 3) rfl d12_orders_91 ?_
        obtain ⟨h39, hf⟩ := gd_some hf
        obtain ⟨h40, hf⟩ := gd_some hf
        refine ev_iald h39 h40 d12_orders_93 ?_
        rcases ite_some hf with ⟨c41, hf⟩ | ⟨c41, hf⟩
        · refine ev_icmp_ne_P (tgt := 100) c41 (by decide) d12_orders_94 ?_
          refine ev_goto (tgt := 206) (by decide) d12_orders_97 ?_
          exact Ev.sub [0, 1, 2, 3] rfl (s12_orders_p206 hB hF ih _ _ _ _ _ _ _ hf)
        · refine ev_icmp_ne_Q (tgt := 100) c41 (by decide) d12_orders_94 ?_
          refine ev_aload_n (j := 0) (i := 0) (q := 0) rfl rfl d12_orders_100 ?_
          refine ev_iload (i := 4) (q := 3) rfl d12_orders_101 ?_
          refine ev_aload_n (j := 0) (i := 0) (q := 0) rfl rfl d12_orders_103 ?_
          refine ev_getRb cls12 (j := 63) (by decide) rfl w1314 (mono_ob q29.1 h24) e37 (nz_ne h38) d12_orders_104 ?_
          refine ev_iload (i := 4) (q := 3) rfl d12_orders_107 ?_
          refine ev_iald h39 h40 d12_orders_109 ?_
          refine ev_iload_n (j := 2) (i := 2) (q := 2) rfl rfl d12_orders_110 ?_
          obtain ⟨r42, t43, k44, hf⟩ := bd_some hf
          have q45 := s12_stepsTo _ _ _ _ _ _ _ k44
          refine ev_callV (vs := [.int v4, .int (sI t27 b36 (ix v4)), .int v2]) (sk := []) cls12 (mono_ob q29.1 h24) q45 (by omega) (Nat.le_of_ble_eq_true rfl) w1896 w1898 ws111 w19 w1899 k12_stepsTo rfl (Nat.le_of_ble_eq_true rfl) d12_orders_111 ?_
          refine ev_istore (lv2 := [(5, .int r42), (0, .ref v0), (1, .int v1), (2, .int v2), (4, .int v4)]) (i := 5) (by decide) rfl d12_orders_114 ?_
          refine ev_iload (i := 5) (q := 0) rfl d12_orders_116 ?_
          refine ev_iconst ci_m1 d12_orders_118 ?_
          rcases ite_some hf with ⟨c46, hf⟩ | ⟨c46, hf⟩
          · refine ev_icmp_ne_P (tgt := 125) c46 (by decide) d12_orders_119 ?_
            refine ev_goto (tgt := 206) (by decide) d12_orders_122 ?_
            exact Ev.sub [1, 2, 3, 4] rfl (s12_orders_p206 hB hF ih _ _ _ _ _ _ _ hf)
          · refine ev_icmp_ne_Q (tgt := 125) c46 (by decide) d12_orders_119 ?_
            refine ev_aload_n (j := 0) (i := 0) (q := 1) rfl rfl d12_orders_125 ?_
            obtain ⟨b47, e48, hf⟩ := lt_some hf
            obtain ⟨h49, hf⟩ := gd_some hf
            refine ev_getRb cls12 (j := 9) (by decide) rfl w1260 (mono_ob q45.1 (mono_ob q29.1 h24)) e48 (nz_ne h49) d12_orders_126 ?_
            refine ev_iload (i := 4) (q := 4) rfl d12_orders_129 ?_
            obtain ⟨h50, hf⟩ := gd_some hf
            obtain ⟨h51, hf⟩ := gd_some hf
            refine ev_iald h50 h51 d12_orders_131 ?_
            obtain ⟨y52, e53, hf⟩ := lt_some hf
            refine ev_nmI e53 ?_
            refine ev_istore (lv2 := [(6, .int y52), (5, .int r42), (0, .ref v0), (1, .int v1), (2, .int v2), (4, .int v4)]) (i := 6) (by decide) rfl d12_orders_132 ?_
            refine ev_aload_n (j := 0) (i := 0) (q := 2) rfl rfl d12_orders_134 ?_
            refine ev_getRb cls12 (j := 9) (by decide) rfl w1260 (mono_ob q45.1 (mono_ob q29.1 h24)) e48 (nz_ne h49) d12_orders_135 ?_
            refine ev_iload (i := 4) (q := 5) rfl d12_orders_138 ?_
            refine ev_aload_n (j := 0) (i := 0) (q := 2) rfl rfl d12_orders_140 ?_
            obtain ⟨b54, e55, hf⟩ := lt_some hf
            obtain ⟨h56, hf⟩ := gd_some hf
            refine ev_getRb cls12 (j := 63) (by decide) rfl w1314 (mono_ob q45.1 (mono_ob q29.1 h24)) e55 (nz_ne h56) d12_orders_141 ?_
            refine ev_iload (i := 4) (q := 5) rfl d12_orders_144 ?_
            obtain ⟨h57, hf⟩ := gd_some hf
            obtain ⟨h58, hf⟩ := gd_some hf
            refine ev_iald h57 h58 d12_orders_146 ?_
            obtain ⟨t59, e60, hf⟩ := lt_some hf
            refine ev_iast h50 h51 d12_orders_147 (ev_nmS e60 ?_)
            refine ev_aload_n (j := 0) (i := 0) (q := 2) rfl rfl d12_orders_148 ?_
            obtain ⟨b61, e62, hf⟩ := lt_some hf
            obtain ⟨h63, hf⟩ := gd_some hf
            refine ev_getRb cls12 (j := 74) (by decide) rfl w1325 (mono_ob (mono_eI e60) (mono_ob q45.1 (mono_ob q29.1 h24))) e62 (nz_ne h63) d12_orders_149 ?_
            refine ev_iload_n (j := 1) (i := 1) (q := 3) rfl rfl d12_orders_152 ?_
            refine ev_iload (i := 4) (q := 5) rfl d12_orders_153 ?_
            obtain ⟨h64, hf⟩ := gd_some hf
            obtain ⟨h65, hf⟩ := gd_some hf
            obtain ⟨t66, e67, hf⟩ := lt_some hf
            refine ev_iast h64 h65 d12_orders_155 (ev_nmS e67 ?_)
            refine ev_aload_n (j := 0) (i := 0) (q := 2) rfl rfl d12_orders_156 ?_
            obtain ⟨b68, e69, hf⟩ := lt_some hf
            obtain ⟨h70, hf⟩ := gd_some hf
            refine ev_getRb cls12 (j := 75) (by decide) rfl w1326 (mono_ob (mono_eI e67) (mono_ob (mono_eI e60) (mono_ob q45.1 (mono_ob q29.1 h24)))) e69 (nz_ne h70) d12_orders_157 ?_
            refine ev_iload_n (j := 1) (i := 1) (q := 3) rfl rfl d12_orders_160 ?_
            refine ev_iload (i := 5) (q := 1) rfl d12_orders_161 ?_
            obtain ⟨h71, hf⟩ := gd_some hf
            obtain ⟨h72, hf⟩ := gd_some hf
            obtain ⟨t73, e74, hf⟩ := lt_some hf
            refine ev_iast h71 h72 d12_orders_163 (ev_nmS e74 ?_)
            refine ev_aload_n (j := 0) (i := 0) (q := 2) rfl rfl d12_orders_164 ?_
            refine ev_iload_n (j := 1) (i := 1) (q := 3) rfl rfl d12_orders_165 ?_
            refine ev_iconst ci_1 d12_orders_166 ?_
            refine ev_iadd d12_orders_167 ?_
            refine ev_iload_n (j := 2) (i := 2) (q := 4) rfl rfl d12_orders_168 ?_
            obtain ⟨r75, t76, k77, hf⟩ := bd_some hf
            have q78 := hF _ _ _ _ _ _ k77
            refine ev_callV (vs := [.int (v1 + (1 : Int32)), .int v2]) (sk := []) cls12 (mono_ob (mono_eI e74) (mono_ob (mono_eI e67) (mono_ob (mono_eI e60) (mono_ob q45.1 (mono_ob q29.1 h24))))) q78 (by omega) (Nat.le_of_ble_eq_true rfl) w1892 w1894 ws110 w19 w1895 k12_orders rfl (Nat.le_of_ble_eq_true rfl) d12_orders_169 ?_
            refine ev_istore (lv2 := [(7, .int r75), (6, .int y52), (5, .int r42), (0, .ref v0), (1, .int v1), (2, .int v2), (4, .int v4)]) (i := 7) (by decide) rfl d12_orders_172 ?_
            refine ev_aload_n (j := 0) (i := 0) (q := 3) rfl rfl d12_orders_174 ?_
            obtain ⟨b79, e80, hf⟩ := lt_some hf
            obtain ⟨h81, hf⟩ := gd_some hf
            refine ev_getRb cls12 (j := 9) (by decide) rfl w1260 (mono_ob q78.1 (mono_ob (mono_eI e74) (mono_ob (mono_eI e67) (mono_ob (mono_eI e60) (mono_ob q45.1 (mono_ob q29.1 h24)))))) e80 (nz_ne h81) d12_orders_175 ?_
            refine ev_iload (i := 4) (q := 6) rfl d12_orders_178 ?_
            refine ev_iload (i := 6) (q := 1) rfl d12_orders_180 ?_
            obtain ⟨h82, hf⟩ := gd_some hf
            obtain ⟨h83, hf⟩ := gd_some hf
            obtain ⟨t84, e85, hf⟩ := lt_some hf
            refine ev_iast h82 h83 d12_orders_182 (ev_nmS e85 ?_)
            refine ev_iload (i := 7) (q := 0) rfl d12_orders_183 ?_
            rcases ite_some hf with ⟨c86, hf⟩ | ⟨c86, hf⟩
            · refine ev_if_eq_P (tgt := 206) c86 (by decide) d12_orders_185 ?_
              exact Ev.sub [3, 4, 5, 6] rfl (s12_orders_p206 hB hF ih _ _ _ _ _ _ _ hf)
            · refine ev_if_eq_Q (tgt := 206) c86 (by decide) d12_orders_185 ?_
              refine ev_aload_n (j := 0) (i := 0) (q := 3) rfl rfl d12_orders_188 ?_
              obtain ⟨b87, e88, hf⟩ := lt_some hf
              obtain ⟨h89, hf⟩ := gd_some hf
              refine ev_getRb cls12 (j := 74) (by decide) rfl w1325 (mono_ob (mono_eI e85) (mono_ob q78.1 (mono_ob (mono_eI e74) (mono_ob (mono_eI e67) (mono_ob (mono_eI e60) (mono_ob q45.1 (mono_ob q29.1 h24))))))) e88 (nz_ne h89) d12_orders_189 ?_
              refine ev_iload_n (j := 1) (i := 1) (q := 4) rfl rfl d12_orders_192 ?_
              refine ev_iload (i := 4) (q := 6) rfl d12_orders_193 ?_
              obtain ⟨h90, hf⟩ := gd_some hf
              obtain ⟨h91, hf⟩ := gd_some hf
              obtain ⟨t92, e93, hf⟩ := lt_some hf
              refine ev_iast h90 h91 d12_orders_195 (ev_nmS e93 ?_)
              refine ev_aload_n (j := 0) (i := 0) (q := 3) rfl rfl d12_orders_196 ?_
              obtain ⟨b94, e95, hf⟩ := lt_some hf
              obtain ⟨h96, hf⟩ := gd_some hf
              refine ev_getRb cls12 (j := 75) (by decide) rfl w1326 (mono_ob (mono_eI e93) (mono_ob (mono_eI e85) (mono_ob q78.1 (mono_ob (mono_eI e74) (mono_ob (mono_eI e67) (mono_ob (mono_eI e60) (mono_ob q45.1 (mono_ob q29.1 h24)))))))) e95 (nz_ne h96) d12_orders_197 ?_
              refine ev_iload_n (j := 1) (i := 1) (q := 4) rfl rfl d12_orders_200 ?_
              refine ev_iload (i := 5) (q := 2) rfl d12_orders_201 ?_
              obtain ⟨h97, hf⟩ := gd_some hf
              obtain ⟨h98, hf⟩ := gd_some hf
              obtain ⟨t99, e100, hf⟩ := lt_some hf
              refine ev_iast h97 h98 d12_orders_203 (ev_nmS e100 ?_)
              refine ev_iconst ci_1 d12_orders_204 ?_
              obtain ⟨rfl, rfl⟩ := ret_some hf
              exact ev_zret rfl (by decide) d12_orders_205
    · refine ev_icmp_ge_Q (tgt := 212) c25 (by decide) d12_orders_68 ?_
      refine ev_iconst ci_0 d12_orders_212 ?_
      obtain ⟨rfl, rfl⟩ := ret_some hf
      exact ev_zret rfl (by decide) d12_orders_213
def f12_orders_p5 (F : St → Nat → Int32 → Int32 → Option (Int32 × St)) : Nat → St → Nat → Int32 → Int32 → Int32 → Int32 → Option (Int32 × St)
  | 0, _, _, _, _, _, _ => none
  | n + 1, σ, v0, v1, v2, v3, v4 =>
  gd (ob σ v0 12) (
  (if v4 < (sI σ v0 5) then
  bd (f12_isIn σ v0 v4) fun r3 t4 => (
  (if r3 = (0 : Int32) then
  f12_orders_p42 F (f12_orders_p5 F n) t4 v0 v1 v2 v3 v4
  else
  lt (sR t4 v0 9) fun b8 => (
  gd (nz b8) (
  gd (ob t4 b8 14) (
  gd (inb t4 b8 v4) (
  lt (sR t4 v0 63) fun b13 => (
  gd (nz b13) (
  gd (ob t4 b13 14) (
  gd (inb t4 b13 v4) (
  (if (sI t4 b8 (ix v4)) = (sI t4 b13 (ix v4)) then
  f12_orders_p42 F (f12_orders_p5 F n) t4 v0 v1 v2 v3 v4
  else
  f12_orders_p42 F (f12_orders_p5 F n) t4 v0 v1 v2 (0 : Int32) v4)))))))))))
  else
  (if v3 = (0 : Int32) then
  f12_orders_p62 F FU σ v0 v1 v2 (0 : Int32)
  else
  lt (wI σ v0 76 v1) fun t20 => (
  some ((1 : Int32), t20)))))
set_option maxRecDepth 20000 in
theorem s12_orders_p5 {F : St → Nat → Int32 → Int32 → Option (Int32 × St)} {dF : Nat} (hB : 5 ≤ dF) (hF : ∀ (σ : St) (a0 : Nat) (a1 : Int32) (a2 : Int32) (r : Int32) (τ : St), F σ a0 a1 a2 = some (r, τ) → Call dF m12_orders [.ref a0, .int a1, .int a2] σ (some (.int r)) τ) : ∀ (n : Nat) (σ : St) (v0 : Nat) (v1 : Int32) (v2 : Int32) (v3 : Int32) (v4 : Int32) (r : Int32) (τ : St), f12_orders_p5 F n σ v0 v1 v2 v3 v4 = some (r, τ) → Ev (dF + 1) m12_orders 5 [(0, .ref v0), (1, .int v1), (2, .int v2), (3, .int v3), (4, .int v4)] [] σ (some (.int r)) τ := by
  intro n
  induction n with
  | zero =>
    intro σ v0 v1 v2 v3 v4 r τ hf
    cases hf
  | succ n ih =>
    intro σ v0 v1 v2 v3 v4 r τ hf
    rw [f12_orders_p5] at hf
    refine ev_iload (i := 4) (q := 4) rfl d12_orders_5 ?_
    refine ev_aload_n (j := 0) (i := 0) (q := 0) rfl rfl d12_orders_7 ?_
    obtain ⟨h1, hf⟩ := gd_some hf
    refine ev_getI cls12 (j := 5) (by decide) rfl w1256 h1 d12_orders_8 ?_
    rcases ite_some hf with ⟨c2, hf⟩ | ⟨c2, hf⟩
    · refine ev_icmp_ge_P (tgt := 48) c2 (by decide) d12_orders_11 ?_
      refine ev_aload_n (j := 0) (i := 0) (q := 0) rfl rfl d12_orders_14 ?_
      refine ev_iload (i := 4) (q := 4) rfl d12_orders_15 ?_
      obtain ⟨r3, t4, k5, hf⟩ := bd_some hf
      have q6 := s12_isIn _ _ _ _ _ k5
      refine ev_callV (vs := [.int v4]) (sk := []) cls12 h1 q6 (by omega) (Nat.le_of_ble_eq_true rfl) w1868 w1870 ws106 w19 w1871 k12_isIn rfl (Nat.le_of_ble_eq_true rfl) d12_orders_17 ?_
      rcases ite_some hf with ⟨c7, hf⟩ | ⟨c7, hf⟩
      · refine ev_if_eq_P (tgt := 42) c7 (by decide) d12_orders_20 ?_
        exact Ev.sub [0, 1, 2, 3, 4] rfl (s12_orders_p42 hB hF ih _ _ _ _ _ _ _ _ hf)
      · refine ev_if_eq_Q (tgt := 42) c7 (by decide) d12_orders_20 ?_
        refine ev_aload_n (j := 0) (i := 0) (q := 0) rfl rfl d12_orders_23 ?_
        obtain ⟨b8, e9, hf⟩ := lt_some hf
        obtain ⟨h10, hf⟩ := gd_some hf
        refine ev_getRb cls12 (j := 9) (by decide) rfl w1260 (mono_ob q6.1 h1) e9 (nz_ne h10) d12_orders_24 ?_
        refine ev_iload (i := 4) (q := 4) rfl d12_orders_27 ?_
        obtain ⟨h11, hf⟩ := gd_some hf
        obtain ⟨h12, hf⟩ := gd_some hf
        refine ev_iald h11 h12 d12_orders_29 ?_
        refine ev_aload_n (j := 0) (i := 0) (q := 0) rfl rfl d12_orders_30 ?_
        obtain ⟨b13, e14, hf⟩ := lt_some hf
        obtain ⟨h15, hf⟩ := gd_some hf
        refine ev_getRb cls12 (j := 63) (by decide) rfl w1314 (mono_ob q6.1 h1) e14 (nz_ne h15) d12_orders_31 ?_
        refine ev_iload (i := 4) (q := 4) rfl d12_orders_34 ?_
        obtain ⟨h16, hf⟩ := gd_some hf
        obtain ⟨h17, hf⟩ := gd_some hf
        refine ev_iald h16 h17 d12_orders_36 ?_
        rcases ite_some hf with ⟨c18, hf⟩ | ⟨c18, hf⟩
        · refine ev_icmp_eq_P (tgt := 42) c18 (by decide) d12_orders_37 ?_
          exact Ev.sub [0, 1, 2, 3, 4] rfl (s12_orders_p42 hB hF ih _ _ _ _ _ _ _ _ hf)
        · refine ev_icmp_eq_Q (tgt := 42) c18 (by decide) d12_orders_37 ?_
          refine ev_iconst ci_0 d12_orders_40 ?_
          refine ev_istore_n (lv2 := [(3, .int (0 : Int32)), (0, .ref v0), (1, .int v1), (2, .int v2), (4, .int v4)]) (j := 3) (i := 3) rfl (by decide) rfl d12_orders_41 ?_
          exact Ev.sub [1, 2, 3, 0, 4] rfl (s12_orders_p42 hB hF ih _ _ _ _ _ _ _ _ hf)
    · refine ev_icmp_ge_Q (tgt := 48) c2 (by decide) d12_orders_11 ?_
      refine ev_iload_n (j := 3) (i := 3) (q := 3) rfl rfl d12_orders_48 ?_
      rcases ite_some hf with ⟨c19, hf⟩ | ⟨c19, hf⟩
      · refine ev_if_eq_P (tgt := 59) c19 (by decide) d12_orders_49 ?_
        refine ev_iconst ci_0 d12_orders_59 ?_
        refine ev_istore (lv2 := [(4, .int (0 : Int32)), (0, .ref v0), (1, .int v1), (2, .int v2), (3, .int v3)]) (i := 4) (by decide) rfl d12_orders_60 ?_
        exact Ev.sub [1, 2, 3, 0] rfl (s12_orders_p62 hB hF FU _ _ _ _ _ _ _ hf)
      · refine ev_if_eq_Q (tgt := 59) c19 (by decide) d12_orders_49 ?_
        refine ev_aload_n (j := 0) (i := 0) (q := 0) rfl rfl d12_orders_52 ?_
        refine ev_iload_n (j := 1) (i := 1) (q := 1) rfl rfl d12_orders_53 ?_
        obtain ⟨t20, e21, hf⟩ := lt_some hf
        refine ev_putI cls12 (j := 76) (by decide) rfl rfl w1327 h1 (fun _ => ⟨rfl, rfl⟩) d12_orders_54 (ev_nmS e21 ?_)
        refine ev_iconst ci_1 d12_orders_57 ?_
        obtain ⟨rfl, rfl⟩ := ret_some hf
        exact ev_zret rfl (by decide) d12_orders_58
def f12_orders_b (F : St → Nat → Int32 → Int32 → Option (Int32 × St)) (σ : St) (v0 : Nat) (v1 : Int32) (v2 : Int32) : Option (Int32 × St) :=
  f12_orders_p5 F FU σ v0 v1 v2 (1 : Int32) (0 : Int32)
set_option maxRecDepth 50000 in
theorem s12_orders_b {F : St → Nat → Int32 → Int32 → Option (Int32 × St)} {dF : Nat} (hB : 5 ≤ dF) (hF : ∀ (σ : St) (a0 : Nat) (a1 : Int32) (a2 : Int32) (r : Int32) (τ : St), F σ a0 a1 a2 = some (r, τ) → Call dF m12_orders [.ref a0, .int a1, .int a2] σ (some (.int r)) τ) : ∀ (σ : St) (v0 : Nat) (v1 : Int32) (v2 : Int32) (r : Int32) (τ : St), f12_orders_b F σ v0 v1 v2 = some (r, τ) → Call (dF + 1) m12_orders [.ref v0, .int v1, .int v2] σ (some (.int r)) τ := by
  intro σ v0 v1 v2 r τ hf
  unfold f12_orders_b at hf
  refine Call.of (by decide +kernel) rfl (Nat.le_of_ble_eq_true rfl) ?_
  refine ev_iconst ci_1 d12_orders_0 ?_
  refine ev_istore_n (lv2 := [(3, .int (1 : Int32)), (0, .ref v0), (1, .int v1), (2, .int v2)]) (j := 3) (i := 3) rfl (by decide) rfl d12_orders_1 ?_
  refine ev_iconst ci_0 d12_orders_2 ?_
  refine ev_istore (lv2 := [(4, .int (0 : Int32)), (3, .int (1 : Int32)), (0, .ref v0), (1, .int v1), (2, .int v2)]) (i := 4) (by decide) rfl d12_orders_3 ?_
  exact Ev.sub [2, 3, 4, 1, 0] rfl (s12_orders_p5 hB hF FU _ _ _ _ _ _ _ _ hf)
def f12_orders : Nat → St → Nat → Int32 → Int32 → Option (Int32 × St)
  | 0, _, _, _, _ => none
  | n + 1, σ, a0, a1, a2 => f12_orders_b (f12_orders n) σ a0 a1 a2
theorem s12_orders : ∀ (n : Nat) (σ : St) (a0 : Nat) (a1 : Int32) (a2 : Int32) (r : Int32) (τ : St), f12_orders n σ a0 a1 a2 = some (r, τ) → Call (5 + 1 * n) m12_orders [.ref a0, .int a1, .int a2] σ (some (.int r)) τ := by
  intro n
  induction n with
  | zero =>
    intro σ a0 a1 a2 r τ hf
    cases hf
  | succ n ih =>
    intro σ a0 a1 a2 r τ hf
    rw [f12_orders] at hf
    have := s12_orders_b (F := f12_orders n) (dF := 5 + 1 * n) (by omega) ih σ a0 a1 a2 r τ hf
    rw [show 5 + 1 * (n + 1) = 5 + 1 * n + 1 by omega]
    exact this
abbrev m12_findMoves : MD := ("MillBoatsModel", ⟨"MillBoatsModel", "findMoves", "()I"⟩, prog_14_method_101_code, 2, (some Jvm.ClassFile.FieldType.int))
theorem k12_findMoves : okY m12_findMoves.2.1 0 := ⟨by decide +kernel, by decide +kernel, by decide +kernel⟩
def f12_findMoves_p41 (K11 : St → Nat → Int32 → Option (Int32 × St)) (σ : St) (v0 : Nat) (v1 : Int32) : Option (Int32 × St) :=
  lt (v1 + (1 : Int32)) fun y25 => (
  K11 σ v0 y25)
set_option maxRecDepth 20000 in
theorem s12_findMoves_p41 {K11 : St → Nat → Int32 → Option (Int32 × St)} (hK11 : ∀ (σ : St) (v0 : Nat) (v1 : Int32) (r : Int32) (τ : St), K11 σ v0 v1 = some (r, τ) → Ev 16 m12_findMoves 11 [(0, .ref v0), (1, .int v1)] [] σ (some (.int r)) τ) : ∀ (σ : St) (v0 : Nat) (v1 : Int32) (r : Int32) (τ : St), f12_findMoves_p41 K11 σ v0 v1 = some (r, τ) → Ev 16 m12_findMoves 41 [(0, .ref v0), (1, .int v1)] [] σ (some (.int r)) τ := by
  intro σ v0 v1 r τ hf
  unfold f12_findMoves_p41 at hf
  obtain ⟨y25, e26, hf⟩ := lt_some hf
  refine ev_iinc (lv2 := [(1, .int y25), (0, .ref v0)]) (i := 1) (q := 1) (v := y25) (n := 1) rfl (by rw [ci_1]; exact e26.symm) (by decide) rfl d12_findMoves_41 ?_
  refine ev_goto (tgt := 11) (by decide) d12_findMoves_44 ?_
  exact Ev.sub [1, 0] rfl (hK11 _ _ _ _ _ hf)
def f12_findMoves_p11 : Nat → St → Nat → Int32 → Option (Int32 × St)
  | 0, _, _, _ => none
  | n + 1, σ, v0, v1 =>
  gd (ob σ v0 12) (
  (if v1 < (sI σ v0 5) then
  bd (f12_isIn σ v0 v1) fun r5 t6 => (
  (if r5 = (0 : Int32) then
  f12_findMoves_p41 (f12_findMoves_p11 n) t6 v0 v1
  else
  lt (sR t6 v0 9) fun b10 => (
  gd (nz b10) (
  gd (ob t6 b10 14) (
  gd (inb t6 b10 v1) (
  (if (sI t6 b10 (ix v1)) = (-2 : Int32) then
  some ((-2 : Int32), t6)
  else
  f12_findMoves_p41 (f12_findMoves_p11 n) t6 v0 v1)))))))
  else
  bd (f12_heightAt σ v0 (sI σ v0 14) (sI σ v0 14)) fun r16 t17 => (
  bd (f12_orders 10 t17 v0 (0 : Int32) r16) fun r20 t21 => (
  (if r20 = (0 : Int32) then
  some ((-2 : Int32), t21)
  else
  some (sI t21 v0 76, t21))))))
set_option maxRecDepth 20000 in
theorem s12_findMoves_p11 : ∀ (n : Nat) (σ : St) (v0 : Nat) (v1 : Int32) (r : Int32) (τ : St), f12_findMoves_p11 n σ v0 v1 = some (r, τ) → Ev 16 m12_findMoves 11 [(0, .ref v0), (1, .int v1)] [] σ (some (.int r)) τ := by
  intro n
  induction n with
  | zero =>
    intro σ v0 v1 r τ hf
    cases hf
  | succ n ih =>
    intro σ v0 v1 r τ hf
    rw [f12_findMoves_p11] at hf
    refine ev_iload_n (j := 1) (i := 1) (q := 1) rfl rfl d12_findMoves_11 ?_
    refine ev_aload_n (j := 0) (i := 0) (q := 0) rfl rfl d12_findMoves_12 ?_
    obtain ⟨h3, hf⟩ := gd_some hf
    refine ev_getI cls12 (j := 5) (by decide) rfl w1256 h3 d12_findMoves_13 ?_
    rcases ite_some hf with ⟨c4, hf⟩ | ⟨c4, hf⟩
    · refine ev_icmp_ge_P (tgt := 47) c4 (by decide) d12_findMoves_16 ?_
      refine ev_aload_n (j := 0) (i := 0) (q := 0) rfl rfl d12_findMoves_19 ?_
      refine ev_iload_n (j := 1) (i := 1) (q := 1) rfl rfl d12_findMoves_20 ?_
      obtain ⟨r5, t6, k7, hf⟩ := bd_some hf
      have q8 := s12_isIn _ _ _ _ _ k7
      refine ev_callV (vs := [.int v1]) (sk := []) cls12 h3 q8 (by decide) (Nat.le_of_ble_eq_true rfl) w1868 w1870 ws106 w19 w1871 k12_isIn rfl (Nat.le_of_ble_eq_true rfl) d12_findMoves_21 ?_
      rcases ite_some hf with ⟨c9, hf⟩ | ⟨c9, hf⟩
      · refine ev_if_eq_P (tgt := 41) c9 (by decide) d12_findMoves_24 ?_
        exact Ev.sub [0, 1] rfl (s12_findMoves_p41 ih _ _ _ _ _ hf)
      · refine ev_if_eq_Q (tgt := 41) c9 (by decide) d12_findMoves_24 ?_
        refine ev_aload_n (j := 0) (i := 0) (q := 0) rfl rfl d12_findMoves_27 ?_
        obtain ⟨b10, e11, hf⟩ := lt_some hf
        obtain ⟨h12, hf⟩ := gd_some hf
        refine ev_getRb cls12 (j := 9) (by decide) rfl w1260 (mono_ob q8.1 h3) e11 (nz_ne h12) d12_findMoves_28 ?_
        refine ev_iload_n (j := 1) (i := 1) (q := 1) rfl rfl d12_findMoves_31 ?_
        obtain ⟨h13, hf⟩ := gd_some hf
        obtain ⟨h14, hf⟩ := gd_some hf
        refine ev_iald h13 h14 d12_findMoves_32 ?_
        refine ev_bipush cb_m2 d12_findMoves_33 ?_
        rcases ite_some hf with ⟨c15, hf⟩ | ⟨c15, hf⟩
        · refine ev_icmp_ne_P (tgt := 41) c15 (by decide) d12_findMoves_35 ?_
          refine ev_bipush cb_m2 d12_findMoves_38 ?_
          obtain ⟨rfl, rfl⟩ := ret_some hf
          exact ev_iret rfl d12_findMoves_40
        · refine ev_icmp_ne_Q (tgt := 41) c15 (by decide) d12_findMoves_35 ?_
          exact Ev.sub [0, 1] rfl (s12_findMoves_p41 ih _ _ _ _ _ hf)
    · refine ev_icmp_ge_Q (tgt := 47) c4 (by decide) d12_findMoves_16 ?_
      refine ev_aload_n (j := 0) (i := 0) (q := 0) rfl rfl d12_findMoves_47 ?_
      refine ev_iconst ci_0 d12_findMoves_48 ?_
      refine ev_aload_n (j := 0) (i := 0) (q := 0) rfl rfl d12_findMoves_49 ?_
      refine ev_aload_n (j := 0) (i := 0) (q := 0) rfl rfl d12_findMoves_50 ?_
      refine ev_getI cls12 (j := 14) (by decide) rfl w1265 h3 d12_findMoves_51 ?_
      refine ev_aload_n (j := 0) (i := 0) (q := 0) rfl rfl d12_findMoves_54 ?_
      refine ev_getI cls12 (j := 14) (by decide) rfl w1265 h3 d12_findMoves_55 ?_
      obtain ⟨r16, t17, k18, hf⟩ := bd_some hf
      have q19 := s12_heightAt _ _ _ _ _ _ k18
      refine ev_callV (vs := [.int (sI σ v0 14), .int (sI σ v0 14)]) (sk := [.int (0 : Int32), .ref v0]) cls12 h3 q19 (by decide) (Nat.le_of_ble_eq_true rfl) w1595 w1597 ws62 w19 w1598 k12_heightAt rfl (Nat.le_of_ble_eq_true rfl) d12_findMoves_58 ?_
      obtain ⟨r20, t21, k22, hf⟩ := bd_some hf
      have q23 := s12_orders 10 _ _ _ _ _ _ k22
      refine ev_callV (vs := [.int (0 : Int32), .int r16]) (sk := []) cls12 (mono_ob q19.1 h3) q23 (by omega) (Nat.le_of_ble_eq_true rfl) w1892 w1894 ws110 w19 w1895 k12_orders rfl (Nat.le_of_ble_eq_true rfl) d12_findMoves_61 ?_
      rcases ite_some hf with ⟨c24, hf⟩ | ⟨c24, hf⟩
      · refine ev_if_eq_P (tgt := 74) c24 (by decide) d12_findMoves_64 ?_
        refine ev_bipush cb_m2 d12_findMoves_74 ?_
        obtain ⟨rfl, rfl⟩ := ret_some hf
        exact ev_iret rfl d12_findMoves_76
      · refine ev_if_eq_Q (tgt := 74) c24 (by decide) d12_findMoves_64 ?_
        refine ev_aload_n (j := 0) (i := 0) (q := 0) rfl rfl d12_findMoves_67 ?_
        refine ev_getI cls12 (j := 76) (by decide) rfl w1327 (mono_ob q23.1 (mono_ob q19.1 h3)) d12_findMoves_68 ?_
        refine ev_goto (tgt := 76) (by decide) d12_findMoves_71 ?_
        obtain ⟨rfl, rfl⟩ := ret_some hf
        exact ev_iret rfl d12_findMoves_76
def f12_findMoves (σ : St) (v0 : Nat) : Option (Int32 × St) :=
  gd (ob σ v0 12) (
  (if (sI σ v0 61) = (0 : Int32) then
  some ((-1 : Int32), σ)
  else
  f12_findMoves_p11 FU σ v0 (0 : Int32)))
set_option maxRecDepth 50000 in
theorem s12_findMoves : ∀ (σ : St) (v0 : Nat) (r : Int32) (τ : St), f12_findMoves σ v0 = some (r, τ) → Call 16 m12_findMoves [.ref v0] σ (some (.int r)) τ := by
  intro σ v0 r τ hf
  unfold f12_findMoves at hf
  refine Call.of (by decide +kernel) rfl (Nat.le_of_ble_eq_true rfl) ?_
  refine ev_aload_n (j := 0) (i := 0) (q := 0) rfl rfl d12_findMoves_0 ?_
  obtain ⟨h1, hf⟩ := gd_some hf
  refine ev_getI cls12 (j := 61) (by decide) rfl w1312 h1 d12_findMoves_1 ?_
  rcases ite_some hf with ⟨c2, hf⟩ | ⟨c2, hf⟩
  · refine ev_if_ne_P (tgt := 9) c2 (by decide) d12_findMoves_4 ?_
    refine ev_iconst ci_m1 d12_findMoves_7 ?_
    obtain ⟨rfl, rfl⟩ := ret_some hf
    exact ev_iret rfl d12_findMoves_8
  · refine ev_if_ne_Q (tgt := 9) c2 (by decide) d12_findMoves_4 ?_
    refine ev_iconst ci_0 d12_findMoves_9 ?_
    refine ev_istore_n (lv2 := [(1, .int (0 : Int32)), (0, .ref v0)]) (j := 1) (i := 1) rfl (by decide) rfl d12_findMoves_10 ?_
    exact Ev.sub [1, 0] rfl (s12_findMoves_p11 FU _ _ _ _ _ hf)
abbrev m12_moves : MD := ("MillBoatsModel", ⟨"MillBoatsModel", "moves", "()I"⟩, prog_14_method_102_code, 1, (some Jvm.ClassFile.FieldType.int))
theorem k12_moves : okY m12_moves.2.1 0 := ⟨by decide +kernel, by decide +kernel, by decide +kernel⟩
def f12_moves (σ : St) (v0 : Nat) : Option (Int32 × St) :=
  gd (ob σ v0 12) (
  lt (wI σ v0 0 (0 : Int32)) fun t2 => (
  bd (f12_findMoves t2 v0) fun r4 t5 => (
  some (r4, t5))))
set_option maxRecDepth 50000 in
theorem s12_moves : ∀ (σ : St) (v0 : Nat) (r : Int32) (τ : St), f12_moves σ v0 = some (r, τ) → Call 17 m12_moves [.ref v0] σ (some (.int r)) τ := by
  intro σ v0 r τ hf
  unfold f12_moves at hf
  refine Call.of (by decide +kernel) rfl (Nat.le_of_ble_eq_true rfl) ?_
  refine ev_aload_n (j := 0) (i := 0) (q := 0) rfl rfl d12_moves_0 ?_
  refine ev_iconst ci_0 d12_moves_1 ?_
  obtain ⟨h1, hf⟩ := gd_some hf
  obtain ⟨t2, e3, hf⟩ := lt_some hf
  refine ev_putI cls12 (j := 0) (by decide) rfl rfl w1251 h1 (fun _ => ⟨rfl, rfl⟩) d12_moves_2 (ev_nmS e3 ?_)
  refine ev_aload_n (j := 0) (i := 0) (q := 0) rfl rfl d12_moves_5 ?_
  obtain ⟨r4, t5, k6, hf⟩ := bd_some hf
  have q7 := s12_findMoves _ _ _ _ k6
  refine ev_callV (vs := []) (sk := []) cls12 (mono_ob (mono_eI e3) h1) q7 (by decide) (Nat.le_of_ble_eq_true rfl) w1888 w1890 ws109 w19 w1891 k12_findMoves rfl (Nat.le_of_ble_eq_true rfl) d12_moves_6 ?_
  obtain ⟨rfl, rfl⟩ := ret_some hf
  exact ev_iret rfl d12_moves_9
abbrev m12_move : MD := ("MillBoatsModel", ⟨"MillBoatsModel", "move", "(II)I"⟩, prog_14_method_103_code, 4, (some Jvm.ClassFile.FieldType.int))
theorem k12_move : okY m12_move.2.1 2 := ⟨by decide +kernel, by decide +kernel, by decide +kernel⟩
def f12_move (σ : St) (v0 : Nat) (v1 : Int32) (v2 : Int32) : Option (Int32 × St) :=
  gd (ob σ v0 12) (
  lt (wI σ v0 0 (0 : Int32)) fun t2 => (
  bd (f12_findMoves t2 v0) fun r4 t5 => (
  (if v1 < (0 : Int32) then
  some ((-1 : Int32), t5)
  else
  (if v1 < r4 then
  bd (f12_within t5 v2 (0 : Int32) (1 : Int32)) fun r10 t11 => (
  (if r10 = (0 : Int32) then
  some ((-1 : Int32), t11)
  else
  (if v2 = (0 : Int32) then
  lt (sR t11 v0 74) fun b16 => (
  gd (nz b16) (
  gd (ob t11 b16 14) (
  gd (inb t11 b16 v1) (
  some (sI t11 b16 (ix v1), t11)))))
  else
  lt (sR t11 v0 75) fun b21 => (
  gd (nz b21) (
  gd (ob t11 b21 14) (
  gd (inb t11 b21 v1) (
  some (sI t11 b21 (ix v1), t11))))))))
  else
  some ((-1 : Int32), t5))))))
set_option maxRecDepth 50000 in
theorem s12_move : ∀ (σ : St) (v0 : Nat) (v1 : Int32) (v2 : Int32) (r : Int32) (τ : St), f12_move σ v0 v1 v2 = some (r, τ) → Call 17 m12_move [.ref v0, .int v1, .int v2] σ (some (.int r)) τ := by
  intro σ v0 v1 v2 r τ hf
  unfold f12_move at hf
  refine Call.of (by decide +kernel) rfl (Nat.le_of_ble_eq_true rfl) ?_
  refine ev_aload_n (j := 0) (i := 0) (q := 0) rfl rfl d12_move_0 ?_
  refine ev_iconst ci_0 d12_move_1 ?_
  obtain ⟨h1, hf⟩ := gd_some hf
  obtain ⟨t2, e3, hf⟩ := lt_some hf
  refine ev_putI cls12 (j := 0) (by decide) rfl rfl w1251 h1 (fun _ => ⟨rfl, rfl⟩) d12_move_2 (ev_nmS e3 ?_)
  refine ev_aload_n (j := 0) (i := 0) (q := 0) rfl rfl d12_move_5 ?_
  obtain ⟨r4, t5, k6, hf⟩ := bd_some hf
  have q7 := s12_findMoves _ _ _ _ k6
  refine ev_callV (vs := []) (sk := []) cls12 (mono_ob (mono_eI e3) h1) q7 (by decide) (Nat.le_of_ble_eq_true rfl) w1888 w1890 ws109 w19 w1891 k12_findMoves rfl (Nat.le_of_ble_eq_true rfl) d12_move_6 ?_
  refine ev_istore_n (lv2 := [(3, .int r4), (0, .ref v0), (1, .int v1), (2, .int v2)]) (j := 3) (i := 3) rfl (by decide) rfl d12_move_9 ?_
  refine ev_iload_n (j := 1) (i := 1) (q := 2) rfl rfl d12_move_10 ?_
  rcases ite_some hf with ⟨c8, hf⟩ | ⟨c8, hf⟩
  · refine ev_if_lt_P (tgt := 28) c8 (by decide) d12_move_11 ?_
    refine ev_iconst ci_m1 d12_move_28 ?_
    obtain ⟨rfl, rfl⟩ := ret_some hf
    exact ev_iret rfl d12_move_29
  · refine ev_if_lt_Q (tgt := 28) c8 (by decide) d12_move_11 ?_
    refine ev_iload_n (j := 1) (i := 1) (q := 2) rfl rfl d12_move_14 ?_
    refine ev_iload_n (j := 3) (i := 3) (q := 0) rfl rfl d12_move_15 ?_
    rcases ite_some hf with ⟨c9, hf⟩ | ⟨c9, hf⟩
    · refine ev_icmp_ge_P (tgt := 28) c9 (by decide) d12_move_16 ?_
      refine ev_iload_n (j := 2) (i := 2) (q := 3) rfl rfl d12_move_19 ?_
      refine ev_iconst ci_0 d12_move_20 ?_
      refine ev_iconst ci_1 d12_move_21 ?_
      obtain ⟨r10, t11, k12, hf⟩ := bd_some hf
      have q13 := s12_within _ _ _ _ _ _ k12
      refine ev_callS (vs := [.int v2, .int (0 : Int32), .int (1 : Int32)]) (sk := []) q13 (by decide) (Nat.le_of_ble_eq_true rfl) w1497 w1498 w19 w1499 k12_within rfl (Nat.le_of_ble_eq_true rfl) d12_move_22 ?_
      rcases ite_some hf with ⟨c14, hf⟩ | ⟨c14, hf⟩
      · refine ev_if_ne_P (tgt := 30) c14 (by decide) d12_move_25 ?_
        refine ev_iconst ci_m1 d12_move_28 ?_
        obtain ⟨rfl, rfl⟩ := ret_some hf
        exact ev_iret rfl d12_move_29
      · refine ev_if_ne_Q (tgt := 30) c14 (by decide) d12_move_25 ?_
        refine ev_iload_n (j := 2) (i := 2) (q := 3) rfl rfl d12_move_30 ?_
        rcases ite_some hf with ⟨c15, hf⟩ | ⟨c15, hf⟩
        · refine ev_if_ne_P (tgt := 43) c15 (by decide) d12_move_31 ?_
          refine ev_aload_n (j := 0) (i := 0) (q := 1) rfl rfl d12_move_34 ?_
          obtain ⟨b16, e17, hf⟩ := lt_some hf
          obtain ⟨h18, hf⟩ := gd_some hf
          refine ev_getRb cls12 (j := 74) (by decide) rfl w1325 (mono_ob q13.1 (mono_ob q7.1 (mono_ob (mono_eI e3) h1))) e17 (nz_ne h18) d12_move_35 ?_
          refine ev_iload_n (j := 1) (i := 1) (q := 2) rfl rfl d12_move_38 ?_
          obtain ⟨h19, hf⟩ := gd_some hf
          obtain ⟨h20, hf⟩ := gd_some hf
          refine ev_iald h19 h20 d12_move_39 ?_
          refine ev_goto (tgt := 49) (by decide) d12_move_40 ?_
          obtain ⟨rfl, rfl⟩ := ret_some hf
          exact ev_iret rfl d12_move_49
        · refine ev_if_ne_Q (tgt := 43) c15 (by decide) d12_move_31 ?_
          refine ev_aload_n (j := 0) (i := 0) (q := 1) rfl rfl d12_move_43 ?_
          obtain ⟨b21, e22, hf⟩ := lt_some hf
          obtain ⟨h23, hf⟩ := gd_some hf
          refine ev_getRb cls12 (j := 75) (by decide) rfl w1326 (mono_ob q13.1 (mono_ob q7.1 (mono_ob (mono_eI e3) h1))) e22 (nz_ne h23) d12_move_44 ?_
          refine ev_iload_n (j := 1) (i := 1) (q := 2) rfl rfl d12_move_47 ?_
          obtain ⟨h24, hf⟩ := gd_some hf
          obtain ⟨h25, hf⟩ := gd_some hf
          refine ev_iald h24 h25 d12_move_48 ?_
          obtain ⟨rfl, rfl⟩ := ret_some hf
          exact ev_iret rfl d12_move_49
    · refine ev_icmp_ge_Q (tgt := 28) c9 (by decide) d12_move_16 ?_
      refine ev_iconst ci_m1 d12_move_28 ?_
      obtain ⟨rfl, rfl⟩ := ret_some hf
      exact ev_iret rfl d12_move_29
abbrev m12_go : MD := ("MillBoatsModel", ⟨"MillBoatsModel", "go", "()I"⟩, prog_14_method_104_code, 3, (some Jvm.ClassFile.FieldType.int))
theorem k12_go : okY m12_go.2.1 0 := ⟨by decide +kernel, by decide +kernel, by decide +kernel⟩
def f12_go_p44 (K12 : St → Nat → Int32 → Int32 → Option (Int32 × St)) (σ : St) (v0 : Nat) (v1 : Int32) (v2 : Int32) : Option (Int32 × St) :=
  lt (v2 + (1 : Int32)) fun y28 => (
  K12 σ v0 v1 y28)
set_option maxRecDepth 20000 in
theorem s12_go_p44 {K12 : St → Nat → Int32 → Int32 → Option (Int32 × St)} (hK12 : ∀ (σ : St) (v0 : Nat) (v1 : Int32) (v2 : Int32) (r : Int32) (τ : St), K12 σ v0 v1 v2 = some (r, τ) → Ev 17 m12_go 12 [(0, .ref v0), (1, .int v1), (2, .int v2)] [] σ (some (.int r)) τ) : ∀ (σ : St) (v0 : Nat) (v1 : Int32) (v2 : Int32) (r : Int32) (τ : St), f12_go_p44 K12 σ v0 v1 v2 = some (r, τ) → Ev 17 m12_go 44 [(0, .ref v0), (1, .int v1), (2, .int v2)] [] σ (some (.int r)) τ := by
  intro σ v0 v1 v2 r τ hf
  unfold f12_go_p44 at hf
  obtain ⟨y28, e29, hf⟩ := lt_some hf
  refine ev_iinc (lv2 := [(2, .int y28), (0, .ref v0), (1, .int v1)]) (i := 2) (q := 2) (v := y28) (n := 1) rfl (by rw [ci_1]; exact e29.symm) (by decide) rfl d12_go_44 ?_
  refine ev_goto (tgt := 12) (by decide) d12_go_47 ?_
  exact Ev.sub [1, 2, 0] rfl (hK12 _ _ _ _ _ _ hf)
def f12_go_p12 : Nat → St → Nat → Int32 → Int32 → Option (Int32 × St)
  | 0, _, _, _, _ => none
  | n + 1, σ, v0, v1, v2 =>
  gd (ob σ v0 12) (
  (if v2 < (sI σ v0 5) then
  (if v1 ≤ (0 : Int32) then
  some (v1, σ)
  else
  bd (f12_isIn σ v0 v2) fun r11 t12 => (
  (if r11 = (0 : Int32) then
  f12_go_p44 (f12_go_p12 n) t12 v0 v1 v2
  else
  lt (sR t12 v0 9) fun b16 => (
  gd (nz b16) (
  lt (sR t12 v0 63) fun b19 => (
  gd (nz b19) (
  gd (ob t12 b19 14) (
  gd (inb t12 b19 v2) (
  gd (ob t12 b16 14) (
  gd (inb t12 b16 v2) (
  lt (wI t12 b16 (ix v2) (sI t12 b19 (ix v2))) fun t26 => (
  f12_go_p44 (f12_go_p12 n) t26 v0 v1 v2))))))))))))
  else
  some (v1, σ)))
set_option maxRecDepth 20000 in
theorem s12_go_p12 : ∀ (n : Nat) (σ : St) (v0 : Nat) (v1 : Int32) (v2 : Int32) (r : Int32) (τ : St), f12_go_p12 n σ v0 v1 v2 = some (r, τ) → Ev 17 m12_go 12 [(0, .ref v0), (1, .int v1), (2, .int v2)] [] σ (some (.int r)) τ := by
  intro n
  induction n with
  | zero =>
    intro σ v0 v1 v2 r τ hf
    cases hf
  | succ n ih =>
    intro σ v0 v1 v2 r τ hf
    rw [f12_go_p12] at hf
    refine ev_iload_n (j := 2) (i := 2) (q := 2) rfl rfl d12_go_12 ?_
    refine ev_aload_n (j := 0) (i := 0) (q := 0) rfl rfl d12_go_13 ?_
    obtain ⟨h8, hf⟩ := gd_some hf
    refine ev_getI cls12 (j := 5) (by decide) rfl w1256 h8 d12_go_14 ?_
    rcases ite_some hf with ⟨c9, hf⟩ | ⟨c9, hf⟩
    · refine ev_icmp_ge_P (tgt := 50) c9 (by decide) d12_go_17 ?_
      refine ev_iload_n (j := 1) (i := 1) (q := 1) rfl rfl d12_go_20 ?_
      rcases ite_some hf with ⟨c10, hf⟩ | ⟨c10, hf⟩
      · refine ev_if_le_P (tgt := 50) c10 (by decide) d12_go_21 ?_
        refine ev_iload_n (j := 1) (i := 1) (q := 1) rfl rfl d12_go_50 ?_
        obtain ⟨rfl, rfl⟩ := ret_some hf
        exact ev_iret rfl d12_go_51
      · refine ev_if_le_Q (tgt := 50) c10 (by decide) d12_go_21 ?_
        refine ev_aload_n (j := 0) (i := 0) (q := 0) rfl rfl d12_go_24 ?_
        refine ev_iload_n (j := 2) (i := 2) (q := 2) rfl rfl d12_go_25 ?_
        obtain ⟨r11, t12, k13, hf⟩ := bd_some hf
        have q14 := s12_isIn _ _ _ _ _ k13
        refine ev_callV (vs := [.int v2]) (sk := []) cls12 h8 q14 (by decide) (Nat.le_of_ble_eq_true rfl) w1868 w1870 ws106 w19 w1871 k12_isIn rfl (Nat.le_of_ble_eq_true rfl) d12_go_26 ?_
        rcases ite_some hf with ⟨c15, hf⟩ | ⟨c15, hf⟩
        · refine ev_if_eq_P (tgt := 44) c15 (by decide) d12_go_29 ?_
          exact Ev.sub [0, 1, 2] rfl (s12_go_p44 ih _ _ _ _ _ _ hf)
        · refine ev_if_eq_Q (tgt := 44) c15 (by decide) d12_go_29 ?_
          refine ev_aload_n (j := 0) (i := 0) (q := 0) rfl rfl d12_go_32 ?_
          obtain ⟨b16, e17, hf⟩ := lt_some hf
          obtain ⟨h18, hf⟩ := gd_some hf
          refine ev_getRb cls12 (j := 9) (by decide) rfl w1260 (mono_ob q14.1 h8) e17 (nz_ne h18) d12_go_33 ?_
          refine ev_iload_n (j := 2) (i := 2) (q := 2) rfl rfl d12_go_36 ?_
          refine ev_aload_n (j := 0) (i := 0) (q := 0) rfl rfl d12_go_37 ?_
          obtain ⟨b19, e20, hf⟩ := lt_some hf
          obtain ⟨h21, hf⟩ := gd_some hf
          refine ev_getRb cls12 (j := 63) (by decide) rfl w1314 (mono_ob q14.1 h8) e20 (nz_ne h21) d12_go_38 ?_
          refine ev_iload_n (j := 2) (i := 2) (q := 2) rfl rfl d12_go_41 ?_
          obtain ⟨h22, hf⟩ := gd_some hf
          obtain ⟨h23, hf⟩ := gd_some hf
          refine ev_iald h22 h23 d12_go_42 ?_
          obtain ⟨h24, hf⟩ := gd_some hf
          obtain ⟨h25, hf⟩ := gd_some hf
          obtain ⟨t26, e27, hf⟩ := lt_some hf
          refine ev_iast h24 h25 d12_go_43 (ev_nmS e27 ?_)
          exact Ev.sub [0, 1, 2] rfl (s12_go_p44 ih _ _ _ _ _ _ hf)
    · refine ev_icmp_ge_Q (tgt := 50) c9 (by decide) d12_go_17 ?_
      refine ev_iload_n (j := 1) (i := 1) (q := 1) rfl rfl d12_go_50 ?_
      obtain ⟨rfl, rfl⟩ := ret_some hf
      exact ev_iret rfl d12_go_51
def f12_go (σ : St) (v0 : Nat) : Option (Int32 × St) :=
  gd (ob σ v0 12) (
  lt (wI σ v0 0 (0 : Int32)) fun t2 => (
  bd (f12_findMoves t2 v0) fun r4 t5 => (
  f12_go_p12 FU t5 v0 r4 (0 : Int32))))
set_option maxRecDepth 50000 in
theorem s12_go : ∀ (σ : St) (v0 : Nat) (r : Int32) (τ : St), f12_go σ v0 = some (r, τ) → Call 17 m12_go [.ref v0] σ (some (.int r)) τ := by
  intro σ v0 r τ hf
  unfold f12_go at hf
  refine Call.of (by decide +kernel) rfl (Nat.le_of_ble_eq_true rfl) ?_
  refine ev_aload_n (j := 0) (i := 0) (q := 0) rfl rfl d12_go_0 ?_
  refine ev_iconst ci_0 d12_go_1 ?_
  obtain ⟨h1, hf⟩ := gd_some hf
  obtain ⟨t2, e3, hf⟩ := lt_some hf
  refine ev_putI cls12 (j := 0) (by decide) rfl rfl w1251 h1 (fun _ => ⟨rfl, rfl⟩) d12_go_2 (ev_nmS e3 ?_)
  refine ev_aload_n (j := 0) (i := 0) (q := 0) rfl rfl d12_go_5 ?_
  obtain ⟨r4, t5, k6, hf⟩ := bd_some hf
  have q7 := s12_findMoves _ _ _ _ k6
  refine ev_callV (vs := []) (sk := []) cls12 (mono_ob (mono_eI e3) h1) q7 (by decide) (Nat.le_of_ble_eq_true rfl) w1888 w1890 ws109 w19 w1891 k12_findMoves rfl (Nat.le_of_ble_eq_true rfl) d12_go_6 ?_
  refine ev_istore_n (lv2 := [(1, .int r4), (0, .ref v0)]) (j := 1) (i := 1) rfl (by decide) rfl d12_go_9 ?_
  refine ev_iconst ci_0 d12_go_10 ?_
  refine ev_istore_n (lv2 := [(2, .int (0 : Int32)), (1, .int r4), (0, .ref v0)]) (j := 2) (i := 2) rfl (by decide) rfl d12_go_11 ?_
  exact Ev.sub [2, 1, 0] rfl (s12_go_p12 FU _ _ _ _ _ _ hf)
abbrev m12_millOf : MD := ("MillBoatsModel", ⟨"MillBoatsModel", "millOf", "(II)I"⟩, prog_14_method_105_code, 3, (some Jvm.ClassFile.FieldType.int))
theorem k12_millOf : okY m12_millOf.2.1 2 := ⟨by decide +kernel, by decide +kernel, by decide +kernel⟩
def f12_millOf_p23 (σ : St) (v0 : Nat) : Option (Int32 × St) :=
  gd (ob σ v0 12) (
  lt (wI σ v0 0 (1 : Int32)) fun t62 => (
  some ((0 : Int32), t62)))
set_option maxRecDepth 20000 in
theorem s12_millOf_p23 : ∀ (σ : St) (v0 : Nat) (r : Int32) (τ : St), f12_millOf_p23 σ v0 = some (r, τ) → Ev 3 m12_millOf 23 [(0, .ref v0)] [] σ (some (.int r)) τ := by
  intro σ v0 r τ hf
  unfold f12_millOf_p23 at hf
  refine ev_aload_n (j := 0) (i := 0) (q := 0) rfl rfl d12_millOf_23 ?_
  refine ev_iconst ci_1 d12_millOf_24 ?_
  obtain ⟨h61, hf⟩ := gd_some hf
  obtain ⟨t62, e63, hf⟩ := lt_some hf
  refine ev_putI cls12 (j := 0) (by decide) rfl rfl w1251 h61 (fun _ => ⟨rfl, rfl⟩) d12_millOf_25 (ev_nmS e63 ?_)
  refine ev_iconst ci_0 d12_millOf_28 ?_
  obtain ⟨rfl, rfl⟩ := ret_some hf
  exact ev_iret rfl d12_millOf_29
def f12_millOf (σ : St) (v0 : Nat) (v1 : Int32) (v2 : Int32) : Option (Int32 × St) :=
  gd (ob σ v0 12) (
  lt (wI σ v0 0 (0 : Int32)) fun t2 => (
  bd (f12_isMill t2 v0 v1) fun r4 t5 => (
  (if r4 = (0 : Int32) then
  f12_millOf_p23 t5 v0
  else
  bd (f12_within t5 v2 (0 : Int32) (7 : Int32)) fun r9 t10 => (
  (if r9 = (0 : Int32) then
  f12_millOf_p23 t10 v0
  else
  (if v2 = (0 : Int32) then
  lt (sR t10 v0 9) fun b15 => (
  gd (nz b15) (
  gd (ob t10 b15 14) (
  gd (inb t10 b15 v1) (
  some (sI t10 b15 (ix v1), t10)))))
  else
  (if v2 = (1 : Int32) then
  lt (sR t10 v0 6) fun b21 => (
  gd (nz b21) (
  gd (ob t10 b21 14) (
  gd (inb t10 b21 v1) (
  some (sI t10 b21 (ix v1), t10)))))
  else
  (if v2 = (2 : Int32) then
  lt (sR t10 v0 7) fun b27 => (
  gd (nz b27) (
  gd (ob t10 b27 14) (
  gd (inb t10 b27 v1) (
  some (sI t10 b27 (ix v1), t10)))))
  else
  (if v2 = (3 : Int32) then
  lt (sR t10 v0 8) fun b33 => (
  gd (nz b33) (
  gd (ob t10 b33 14) (
  gd (inb t10 b33 v1) (
  some (sI t10 b33 (ix v1), t10)))))
  else
  (if v2 = (4 : Int32) then
  bd (f12_worn t10 v0 v1) fun r39 t40 => (
  some (r39, t40))
  else
  (if v2 = (5 : Int32) then
  lt (sR t10 v0 11) fun b44 => (
  gd (nz b44) (
  gd (ob t10 b44 14) (
  gd (inb t10 b44 v1) (
  some (sI t10 b44 (ix v1), t10)))))
  else
  (if v2 = (6 : Int32) then
  lt (sR t10 v0 12) fun b50 => (
  gd (nz b50) (
  gd (ob t10 b50 14) (
  gd (inb t10 b50 v1) (
  some (sI t10 b50 (ix v1), t10)))))
  else
  lt (sR t10 v0 13) fun b55 => (
  gd (nz b55) (
  gd (ob t10 b55 14) (
  gd (inb t10 b55 v1) (
  (if (sI t10 b55 (ix v1)) = (sI t10 v0 14) then
  some ((1 : Int32), t10)
  else
  some ((0 : Int32), t10)))))))))))))))))))
set_option maxRecDepth 50000 in
theorem s12_millOf : ∀ (σ : St) (v0 : Nat) (v1 : Int32) (v2 : Int32) (r : Int32) (τ : St), f12_millOf σ v0 v1 v2 = some (r, τ) → Call 3 m12_millOf [.ref v0, .int v1, .int v2] σ (some (.int r)) τ := by
  intro σ v0 v1 v2 r τ hf
  unfold f12_millOf at hf
  refine Call.of (by decide +kernel) rfl (Nat.le_of_ble_eq_true rfl) ?_
  refine ev_aload_n (j := 0) (i := 0) (q := 0) rfl rfl d12_millOf_0 ?_
  refine ev_iconst ci_0 d12_millOf_1 ?_
  obtain ⟨h1, hf⟩ := gd_some hf
  obtain ⟨t2, e3, hf⟩ := lt_some hf
  refine ev_putI cls12 (j := 0) (by decide) rfl rfl w1251 h1 (fun _ => ⟨rfl, rfl⟩) d12_millOf_2 (ev_nmS e3 ?_)
  refine ev_aload_n (j := 0) (i := 0) (q := 0) rfl rfl d12_millOf_5 ?_
  refine ev_iload_n (j := 1) (i := 1) (q := 1) rfl rfl d12_millOf_6 ?_
  obtain ⟨r4, t5, k6, hf⟩ := bd_some hf
  have q7 := s12_isMill _ _ _ _ _ k6
  refine ev_callV (vs := [.int v1]) (sk := []) cls12 (mono_ob (mono_eI e3) h1) q7 (by decide) (Nat.le_of_ble_eq_true rfl) w1520 w1522 ws52 w19 w1523 k12_isMill rfl (Nat.le_of_ble_eq_true rfl) d12_millOf_7 ?_
  rcases ite_some hf with ⟨c8, hf⟩ | ⟨c8, hf⟩
  · refine ev_if_eq_P (tgt := 23) c8 (by decide) d12_millOf_10 ?_
    exact Ev.sub [0] rfl (s12_millOf_p23 _ _ _ _ hf)
  · refine ev_if_eq_Q (tgt := 23) c8 (by decide) d12_millOf_10 ?_
    refine ev_iload_n (j := 2) (i := 2) (q := 2) rfl rfl d12_millOf_13 ?_
    refine ev_iconst ci_0 d12_millOf_14 ?_
    refine ev_bipush cb_7 d12_millOf_15 ?_
    obtain ⟨r9, t10, k11, hf⟩ := bd_some hf
    have q12 := s12_within _ _ _ _ _ _ k11
    refine ev_callS (vs := [.int v2, .int (0 : Int32), .int (7 : Int32)]) (sk := []) q12 (by decide) (Nat.le_of_ble_eq_true rfl) w1497 w1498 w19 w1499 k12_within rfl (Nat.le_of_ble_eq_true rfl) d12_millOf_17 ?_
    rcases ite_some hf with ⟨c13, hf⟩ | ⟨c13, hf⟩
    · refine ev_if_ne_P (tgt := 30) c13 (by decide) d12_millOf_20 ?_
      exact Ev.sub [0] rfl (s12_millOf_p23 _ _ _ _ hf)
    · refine ev_if_ne_Q (tgt := 30) c13 (by decide) d12_millOf_20 ?_
      refine ev_iload_n (j := 2) (i := 2) (q := 2) rfl rfl d12_millOf_30 ?_
      rcases ite_some hf with ⟨c14, hf⟩ | ⟨c14, hf⟩
      · refine ev_table_in (off := 41) (tgt := 72) d12_millOf_31 (by rw [c14]; decide) (by rw [c14]; decide) (by rw [c14]; decide) (by decide) ?_
        refine ev_aload_n (j := 0) (i := 0) (q := 0) rfl rfl d12_millOf_72 ?_
        obtain ⟨b15, e16, hf⟩ := lt_some hf
        obtain ⟨h17, hf⟩ := gd_some hf
        refine ev_getRb cls12 (j := 9) (by decide) rfl w1260 (mono_ob q12.1 (mono_ob q7.1 (mono_ob (mono_eI e3) h1))) e16 (nz_ne h17) d12_millOf_73 ?_
        refine ev_iload_n (j := 1) (i := 1) (q := 1) rfl rfl d12_millOf_76 ?_
        obtain ⟨h18, hf⟩ := gd_some hf
        obtain ⟨h19, hf⟩ := gd_some hf
        refine ev_iald h18 h19 d12_millOf_77 ?_
        obtain ⟨rfl, rfl⟩ := ret_some hf
        exact ev_iret rfl d12_millOf_78
      rcases ite_some hf with ⟨c20, hf⟩ | ⟨c20, hf⟩
      · refine ev_table_in (off := 48) (tgt := 79) d12_millOf_31 (by rw [c20]; decide) (by rw [c20]; decide) (by rw [c20]; decide) (by decide) ?_
        refine ev_aload_n (j := 0) (i := 0) (q := 0) rfl rfl d12_millOf_79 ?_
        obtain ⟨b21, e22, hf⟩ := lt_some hf
        obtain ⟨h23, hf⟩ := gd_some hf
        refine ev_getRb cls12 (j := 6) (by decide) rfl w1257 (mono_ob q12.1 (mono_ob q7.1 (mono_ob (mono_eI e3) h1))) e22 (nz_ne h23) d12_millOf_80 ?_
        refine ev_iload_n (j := 1) (i := 1) (q := 1) rfl rfl d12_millOf_83 ?_
        obtain ⟨h24, hf⟩ := gd_some hf
        obtain ⟨h25, hf⟩ := gd_some hf
        refine ev_iald h24 h25 d12_millOf_84 ?_
        obtain ⟨rfl, rfl⟩ := ret_some hf
        exact ev_iret rfl d12_millOf_85
      rcases ite_some hf with ⟨c26, hf⟩ | ⟨c26, hf⟩
      · refine ev_table_in (off := 55) (tgt := 86) d12_millOf_31 (by rw [c26]; decide) (by rw [c26]; decide) (by rw [c26]; decide) (by decide) ?_
        refine ev_aload_n (j := 0) (i := 0) (q := 0) rfl rfl d12_millOf_86 ?_
        obtain ⟨b27, e28, hf⟩ := lt_some hf
        obtain ⟨h29, hf⟩ := gd_some hf
        refine ev_getRb cls12 (j := 7) (by decide) rfl w1258 (mono_ob q12.1 (mono_ob q7.1 (mono_ob (mono_eI e3) h1))) e28 (nz_ne h29) d12_millOf_87 ?_
        refine ev_iload_n (j := 1) (i := 1) (q := 1) rfl rfl d12_millOf_90 ?_
        obtain ⟨h30, hf⟩ := gd_some hf
        obtain ⟨h31, hf⟩ := gd_some hf
        refine ev_iald h30 h31 d12_millOf_91 ?_
        obtain ⟨rfl, rfl⟩ := ret_some hf
        exact ev_iret rfl d12_millOf_92
      rcases ite_some hf with ⟨c32, hf⟩ | ⟨c32, hf⟩
      · refine ev_table_in (off := 62) (tgt := 93) d12_millOf_31 (by rw [c32]; decide) (by rw [c32]; decide) (by rw [c32]; decide) (by decide) ?_
        refine ev_aload_n (j := 0) (i := 0) (q := 0) rfl rfl d12_millOf_93 ?_
        obtain ⟨b33, e34, hf⟩ := lt_some hf
        obtain ⟨h35, hf⟩ := gd_some hf
        refine ev_getRb cls12 (j := 8) (by decide) rfl w1259 (mono_ob q12.1 (mono_ob q7.1 (mono_ob (mono_eI e3) h1))) e34 (nz_ne h35) d12_millOf_94 ?_
        refine ev_iload_n (j := 1) (i := 1) (q := 1) rfl rfl d12_millOf_97 ?_
        obtain ⟨h36, hf⟩ := gd_some hf
        obtain ⟨h37, hf⟩ := gd_some hf
        refine ev_iald h36 h37 d12_millOf_98 ?_
        obtain ⟨rfl, rfl⟩ := ret_some hf
        exact ev_iret rfl d12_millOf_99
      rcases ite_some hf with ⟨c38, hf⟩ | ⟨c38, hf⟩
      · refine ev_table_in (off := 69) (tgt := 100) d12_millOf_31 (by rw [c38]; decide) (by rw [c38]; decide) (by rw [c38]; decide) (by decide) ?_
        refine ev_aload_n (j := 0) (i := 0) (q := 0) rfl rfl d12_millOf_100 ?_
        refine ev_iload_n (j := 1) (i := 1) (q := 1) rfl rfl d12_millOf_101 ?_
        obtain ⟨r39, t40, k41, hf⟩ := bd_some hf
        have q42 := s12_worn _ _ _ _ _ k41
        refine ev_callV (vs := [.int v1]) (sk := []) cls12 (mono_ob q12.1 (mono_ob q7.1 (mono_ob (mono_eI e3) h1))) q42 (by decide) (Nat.le_of_ble_eq_true rfl) w1560 w1562 ws59 w19 w1563 k12_worn rfl (Nat.le_of_ble_eq_true rfl) d12_millOf_102 ?_
        obtain ⟨rfl, rfl⟩ := ret_some hf
        exact ev_iret rfl d12_millOf_105
      rcases ite_some hf with ⟨c43, hf⟩ | ⟨c43, hf⟩
      · refine ev_table_in (off := 75) (tgt := 106) d12_millOf_31 (by rw [c43]; decide) (by rw [c43]; decide) (by rw [c43]; decide) (by decide) ?_
        refine ev_aload_n (j := 0) (i := 0) (q := 0) rfl rfl d12_millOf_106 ?_
        obtain ⟨b44, e45, hf⟩ := lt_some hf
        obtain ⟨h46, hf⟩ := gd_some hf
        refine ev_getRb cls12 (j := 11) (by decide) rfl w1262 (mono_ob q12.1 (mono_ob q7.1 (mono_ob (mono_eI e3) h1))) e45 (nz_ne h46) d12_millOf_107 ?_
        refine ev_iload_n (j := 1) (i := 1) (q := 1) rfl rfl d12_millOf_110 ?_
        obtain ⟨h47, hf⟩ := gd_some hf
        obtain ⟨h48, hf⟩ := gd_some hf
        refine ev_iald h47 h48 d12_millOf_111 ?_
        obtain ⟨rfl, rfl⟩ := ret_some hf
        exact ev_iret rfl d12_millOf_112
      rcases ite_some hf with ⟨c49, hf⟩ | ⟨c49, hf⟩
      · refine ev_table_in (off := 82) (tgt := 113) d12_millOf_31 (by rw [c49]; decide) (by rw [c49]; decide) (by rw [c49]; decide) (by decide) ?_
        refine ev_aload_n (j := 0) (i := 0) (q := 0) rfl rfl d12_millOf_113 ?_
        obtain ⟨b50, e51, hf⟩ := lt_some hf
        obtain ⟨h52, hf⟩ := gd_some hf
        refine ev_getRb cls12 (j := 12) (by decide) rfl w1263 (mono_ob q12.1 (mono_ob q7.1 (mono_ob (mono_eI e3) h1))) e51 (nz_ne h52) d12_millOf_114 ?_
        refine ev_iload_n (j := 1) (i := 1) (q := 1) rfl rfl d12_millOf_117 ?_
        obtain ⟨h53, hf⟩ := gd_some hf
        obtain ⟨h54, hf⟩ := gd_some hf
        refine ev_iald h53 h54 d12_millOf_118 ?_
        obtain ⟨rfl, rfl⟩ := ret_some hf
        exact ev_iret rfl d12_millOf_119
      refine ev_table_out (tgt := 120) d12_millOf_31 (by have nc14 : v2.toInt ≠ 0 := neI c14; have nc20 : v2.toInt ≠ 1 := neI c20; have nc26 : v2.toInt ≠ 2 := neI c26; have nc32 : v2.toInt ≠ 3 := neI c32; have nc38 : v2.toInt ≠ 4 := neI c38; have nc43 : v2.toInt ≠ 5 := neI c43; have nc49 : v2.toInt ≠ 6 := neI c49; omega) (by decide) ?_
      refine ev_aload_n (j := 0) (i := 0) (q := 0) rfl rfl d12_millOf_120 ?_
      obtain ⟨b55, e56, hf⟩ := lt_some hf
      obtain ⟨h57, hf⟩ := gd_some hf
      refine ev_getRb cls12 (j := 13) (by decide) rfl w1264 (mono_ob q12.1 (mono_ob q7.1 (mono_ob (mono_eI e3) h1))) e56 (nz_ne h57) d12_millOf_121 ?_
      refine ev_iload_n (j := 1) (i := 1) (q := 1) rfl rfl d12_millOf_124 ?_
      obtain ⟨h58, hf⟩ := gd_some hf
      obtain ⟨h59, hf⟩ := gd_some hf
      refine ev_iald h58 h59 d12_millOf_125 ?_
      refine ev_aload_n (j := 0) (i := 0) (q := 0) rfl rfl d12_millOf_126 ?_
      refine ev_getI cls12 (j := 14) (by decide) rfl w1265 (mono_ob q12.1 (mono_ob q7.1 (mono_ob (mono_eI e3) h1))) d12_millOf_127 ?_
      rcases ite_some hf with ⟨c60, hf⟩ | ⟨c60, hf⟩
      · refine ev_icmp_ne_P (tgt := 137) c60 (by decide) d12_millOf_130 ?_
        refine ev_iconst ci_1 d12_millOf_133 ?_
        refine ev_goto (tgt := 138) (by decide) d12_millOf_134 ?_
        obtain ⟨rfl, rfl⟩ := ret_some hf
        exact ev_iret rfl d12_millOf_138
      · refine ev_icmp_ne_Q (tgt := 137) c60 (by decide) d12_millOf_130 ?_
        refine ev_iconst ci_0 d12_millOf_137 ?_
        obtain ⟨rfl, rfl⟩ := ret_some hf
        exact ev_iret rfl d12_millOf_138
abbrev m12_orderOf : MD := ("MillBoatsModel", ⟨"MillBoatsModel", "orderOf", "(II)I"⟩, prog_14_method_106_code, 3, (some Jvm.ClassFile.FieldType.int))
theorem k12_orderOf : okY m12_orderOf.2.1 2 := ⟨by decide +kernel, by decide +kernel, by decide +kernel⟩
def f12_orderOf (σ : St) (v0 : Nat) (v1 : Int32) (v2 : Int32) : Option (Int32 × St) :=
  gd (ob σ v0 12) (
  lt (wI σ v0 0 (0 : Int32)) fun t2 => (
  (if v1 < (0 : Int32) then
  some ((-1 : Int32), t2)
  else
  (if v1 < (sI t2 v0 55) then
  (if v2 = (0 : Int32) then
  lt (sR t2 v0 56) fun b7 => (
  gd (nz b7) (
  gd (ob t2 b7 14) (
  gd (inb t2 b7 v1) (
  some (sI t2 b7 (ix v1), t2)))))
  else
  (if v2 = (1 : Int32) then
  lt (sR t2 v0 57) fun b13 => (
  gd (nz b13) (
  gd (ob t2 b13 14) (
  gd (inb t2 b13 v1) (
  some (sI t2 b13 (ix v1), t2)))))
  else
  (if v2 = (2 : Int32) then
  lt (sR t2 v0 58) fun b19 => (
  gd (nz b19) (
  gd (ob t2 b19 14) (
  gd (inb t2 b19 v1) (
  some (sI t2 b19 (ix v1), t2)))))
  else
  (if v2 = (3 : Int32) then
  lt (sR t2 v0 59) fun b25 => (
  gd (nz b25) (
  gd (ob t2 b25 14) (
  gd (inb t2 b25 v1) (
  some (sI t2 b25 (ix v1), t2)))))
  else
  (if v2 = (4 : Int32) then
  lt (sR t2 v0 60) fun b31 => (
  gd (nz b31) (
  gd (ob t2 b31 14) (
  gd (inb t2 b31 v1) (
  some (sI t2 b31 (ix v1), t2)))))
  else
  some ((-1 : Int32), t2))))))
  else
  some ((-1 : Int32), t2)))))
set_option maxRecDepth 50000 in
theorem s12_orderOf : ∀ (σ : St) (v0 : Nat) (v1 : Int32) (v2 : Int32) (r : Int32) (τ : St), f12_orderOf σ v0 v1 v2 = some (r, τ) → Call 2 m12_orderOf [.ref v0, .int v1, .int v2] σ (some (.int r)) τ := by
  intro σ v0 v1 v2 r τ hf
  unfold f12_orderOf at hf
  refine Call.of (by decide +kernel) rfl (Nat.le_of_ble_eq_true rfl) ?_
  refine ev_aload_n (j := 0) (i := 0) (q := 0) rfl rfl d12_orderOf_0 ?_
  refine ev_iconst ci_0 d12_orderOf_1 ?_
  obtain ⟨h1, hf⟩ := gd_some hf
  obtain ⟨t2, e3, hf⟩ := lt_some hf
  refine ev_putI cls12 (j := 0) (by decide) rfl rfl w1251 h1 (fun _ => ⟨rfl, rfl⟩) d12_orderOf_2 (ev_nmS e3 ?_)
  refine ev_iload_n (j := 1) (i := 1) (q := 1) rfl rfl d12_orderOf_5 ?_
  rcases ite_some hf with ⟨c4, hf⟩ | ⟨c4, hf⟩
  · refine ev_if_lt_P (tgt := 17) c4 (by decide) d12_orderOf_6 ?_
    refine ev_iconst ci_m1 d12_orderOf_17 ?_
    obtain ⟨rfl, rfl⟩ := ret_some hf
    exact ev_iret rfl d12_orderOf_18
  · refine ev_if_lt_Q (tgt := 17) c4 (by decide) d12_orderOf_6 ?_
    refine ev_iload_n (j := 1) (i := 1) (q := 1) rfl rfl d12_orderOf_9 ?_
    refine ev_aload_n (j := 0) (i := 0) (q := 0) rfl rfl d12_orderOf_10 ?_
    refine ev_getI cls12 (j := 55) (by decide) rfl w1306 (mono_ob (mono_eI e3) h1) d12_orderOf_11 ?_
    rcases ite_some hf with ⟨c5, hf⟩ | ⟨c5, hf⟩
    · refine ev_icmp_lt_P (tgt := 19) c5 (by decide) d12_orderOf_14 ?_
      refine ev_iload_n (j := 2) (i := 2) (q := 2) rfl rfl d12_orderOf_19 ?_
      rcases ite_some hf with ⟨c6, hf⟩ | ⟨c6, hf⟩
      · refine ev_table_in (off := 36) (tgt := 56) d12_orderOf_20 (by rw [c6]; decide) (by rw [c6]; decide) (by rw [c6]; decide) (by decide) ?_
        refine ev_aload_n (j := 0) (i := 0) (q := 0) rfl rfl d12_orderOf_56 ?_
        obtain ⟨b7, e8, hf⟩ := lt_some hf
        obtain ⟨h9, hf⟩ := gd_some hf
        refine ev_getRb cls12 (j := 56) (by decide) rfl w1307 (mono_ob (mono_eI e3) h1) e8 (nz_ne h9) d12_orderOf_57 ?_
        refine ev_iload_n (j := 1) (i := 1) (q := 1) rfl rfl d12_orderOf_60 ?_
        obtain ⟨h10, hf⟩ := gd_some hf
        obtain ⟨h11, hf⟩ := gd_some hf
        refine ev_iald h10 h11 d12_orderOf_61 ?_
        obtain ⟨rfl, rfl⟩ := ret_some hf
        exact ev_iret rfl d12_orderOf_62
      rcases ite_some hf with ⟨c12, hf⟩ | ⟨c12, hf⟩
      · refine ev_table_in (off := 43) (tgt := 63) d12_orderOf_20 (by rw [c12]; decide) (by rw [c12]; decide) (by rw [c12]; decide) (by decide) ?_
        refine ev_aload_n (j := 0) (i := 0) (q := 0) rfl rfl d12_orderOf_63 ?_
        obtain ⟨b13, e14, hf⟩ := lt_some hf
        obtain ⟨h15, hf⟩ := gd_some hf
        refine ev_getRb cls12 (j := 57) (by decide) rfl w1308 (mono_ob (mono_eI e3) h1) e14 (nz_ne h15) d12_orderOf_64 ?_
        refine ev_iload_n (j := 1) (i := 1) (q := 1) rfl rfl d12_orderOf_67 ?_
        obtain ⟨h16, hf⟩ := gd_some hf
        obtain ⟨h17, hf⟩ := gd_some hf
        refine ev_iald h16 h17 d12_orderOf_68 ?_
        obtain ⟨rfl, rfl⟩ := ret_some hf
        exact ev_iret rfl d12_orderOf_69
      rcases ite_some hf with ⟨c18, hf⟩ | ⟨c18, hf⟩
      · refine ev_table_in (off := 50) (tgt := 70) d12_orderOf_20 (by rw [c18]; decide) (by rw [c18]; decide) (by rw [c18]; decide) (by decide) ?_
        refine ev_aload_n (j := 0) (i := 0) (q := 0) rfl rfl d12_orderOf_70 ?_
        obtain ⟨b19, e20, hf⟩ := lt_some hf
        obtain ⟨h21, hf⟩ := gd_some hf
        refine ev_getRb cls12 (j := 58) (by decide) rfl w1309 (mono_ob (mono_eI e3) h1) e20 (nz_ne h21) d12_orderOf_71 ?_
        refine ev_iload_n (j := 1) (i := 1) (q := 1) rfl rfl d12_orderOf_74 ?_
        obtain ⟨h22, hf⟩ := gd_some hf
        obtain ⟨h23, hf⟩ := gd_some hf
        refine ev_iald h22 h23 d12_orderOf_75 ?_
        obtain ⟨rfl, rfl⟩ := ret_some hf
        exact ev_iret rfl d12_orderOf_76
      rcases ite_some hf with ⟨c24, hf⟩ | ⟨c24, hf⟩
      · refine ev_table_in (off := 57) (tgt := 77) d12_orderOf_20 (by rw [c24]; decide) (by rw [c24]; decide) (by rw [c24]; decide) (by decide) ?_
        refine ev_aload_n (j := 0) (i := 0) (q := 0) rfl rfl d12_orderOf_77 ?_
        obtain ⟨b25, e26, hf⟩ := lt_some hf
        obtain ⟨h27, hf⟩ := gd_some hf
        refine ev_getRb cls12 (j := 59) (by decide) rfl w1310 (mono_ob (mono_eI e3) h1) e26 (nz_ne h27) d12_orderOf_78 ?_
        refine ev_iload_n (j := 1) (i := 1) (q := 1) rfl rfl d12_orderOf_81 ?_
        obtain ⟨h28, hf⟩ := gd_some hf
        obtain ⟨h29, hf⟩ := gd_some hf
        refine ev_iald h28 h29 d12_orderOf_82 ?_
        obtain ⟨rfl, rfl⟩ := ret_some hf
        exact ev_iret rfl d12_orderOf_83
      rcases ite_some hf with ⟨c30, hf⟩ | ⟨c30, hf⟩
      · refine ev_table_in (off := 64) (tgt := 84) d12_orderOf_20 (by rw [c30]; decide) (by rw [c30]; decide) (by rw [c30]; decide) (by decide) ?_
        refine ev_aload_n (j := 0) (i := 0) (q := 0) rfl rfl d12_orderOf_84 ?_
        obtain ⟨b31, e32, hf⟩ := lt_some hf
        obtain ⟨h33, hf⟩ := gd_some hf
        refine ev_getRb cls12 (j := 60) (by decide) rfl w1311 (mono_ob (mono_eI e3) h1) e32 (nz_ne h33) d12_orderOf_85 ?_
        refine ev_iload_n (j := 1) (i := 1) (q := 1) rfl rfl d12_orderOf_88 ?_
        obtain ⟨h34, hf⟩ := gd_some hf
        obtain ⟨h35, hf⟩ := gd_some hf
        refine ev_iald h34 h35 d12_orderOf_89 ?_
        obtain ⟨rfl, rfl⟩ := ret_some hf
        exact ev_iret rfl d12_orderOf_90
      refine ev_table_out (tgt := 91) d12_orderOf_20 (by have nc6 : v2.toInt ≠ 0 := neI c6; have nc12 : v2.toInt ≠ 1 := neI c12; have nc18 : v2.toInt ≠ 2 := neI c18; have nc24 : v2.toInt ≠ 3 := neI c24; have nc30 : v2.toInt ≠ 4 := neI c30; omega) (by decide) ?_
      refine ev_iconst ci_m1 d12_orderOf_91 ?_
      obtain ⟨rfl, rfl⟩ := ret_some hf
      exact ev_iret rfl d12_orderOf_92
    · refine ev_icmp_lt_Q (tgt := 19) c5 (by decide) d12_orderOf_14 ?_
      refine ev_iconst ci_m1 d12_orderOf_17 ?_
      obtain ⟨rfl, rfl⟩ := ret_some hf
      exact ev_iret rfl d12_orderOf_18
