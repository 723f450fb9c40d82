theorem d12_thrown_0 : decode prog_14_method_1_code 0 = .ok (.aload_n 0, 1) := by decide +kernel
theorem d12_thrown_1 : decode prog_14_method_1_code 1 = .ok (.getfield 1, 3) := by decide +kernel
theorem d12_thrown_4 : decode prog_14_method_1_code 4 = .ok (.ireturn, 1) := by decide +kernel
theorem d12_within_0 : decode prog_14_method_2_code 0 = .ok (.iload_n 0, 1) := by decide +kernel
theorem d12_within_1 : decode prog_14_method_2_code 1 = .ok (.iload_n 1, 1) := by decide +kernel
theorem d12_within_2 : decode prog_14_method_2_code 2 = .ok (.if_icmp .lt 12, 3) := by decide +kernel
theorem d12_within_5 : decode prog_14_method_2_code 5 = .ok (.iload_n 0, 1) := by decide +kernel
theorem d12_within_6 : decode prog_14_method_2_code 6 = .ok (.iload_n 2, 1) := by decide +kernel
theorem d12_within_7 : decode prog_14_method_2_code 7 = .ok (.if_icmp .gt 7, 3) := by decide +kernel
theorem d12_within_10 : decode prog_14_method_2_code 10 = .ok (.iconst 1, 1) := by decide +kernel
theorem d12_within_11 : decode prog_14_method_2_code 11 = .ok (.goto 4, 3) := by decide +kernel
theorem d12_within_14 : decode prog_14_method_2_code 14 = .ok (.iconst 0, 1) := by decide +kernel
theorem d12_within_15 : decode prog_14_method_2_code 15 = .ok (.ireturn, 1) := by decide +kernel
theorem d12_init_0 : decode prog_14_method_3_code 0 = .ok (.aload_n 0, 1) := by decide +kernel
theorem d12_init_1 : decode prog_14_method_3_code 1 = .ok (.invokespecial 7, 3) := by decide +kernel
theorem d12_init_4 : decode prog_14_method_3_code 4 = .ok (.aload_n 0, 1) := by decide +kernel
theorem d12_init_5 : decode prog_14_method_3_code 5 = .ok (.bipush 72, 2) := by decide +kernel
theorem d12_init_7 : decode prog_14_method_3_code 7 = .ok (.newarray .int, 2) := by decide +kernel
theorem d12_init_9 : decode prog_14_method_3_code 9 = .ok (.putfield 13, 3) := by decide +kernel
theorem d12_init_12 : decode prog_14_method_3_code 12 = .ok (.aload_n 0, 1) := by decide +kernel
theorem d12_init_13 : decode prog_14_method_3_code 13 = .ok (.bipush 7, 2) := by decide +kernel
theorem d12_init_15 : decode prog_14_method_3_code 15 = .ok (.newarray .int, 2) := by decide +kernel
theorem d12_init_17 : decode prog_14_method_3_code 17 = .ok (.putfield 17, 3) := by decide +kernel
theorem d12_init_20 : decode prog_14_method_3_code 20 = .ok (.aload_n 0, 1) := by decide +kernel
theorem d12_init_21 : decode prog_14_method_3_code 21 = .ok (.bipush 56, 2) := by decide +kernel
theorem d12_init_23 : decode prog_14_method_3_code 23 = .ok (.newarray .int, 2) := by decide +kernel
theorem d12_init_25 : decode prog_14_method_3_code 25 = .ok (.putfield 20, 3) := by decide +kernel
theorem d12_init_28 : decode prog_14_method_3_code 28 = .ok (.aload_n 0, 1) := by decide +kernel
theorem d12_init_29 : decode prog_14_method_3_code 29 = .ok (.bipush 56, 2) := by decide +kernel
theorem d12_init_31 : decode prog_14_method_3_code 31 = .ok (.newarray .int, 2) := by decide +kernel
theorem d12_init_33 : decode prog_14_method_3_code 33 = .ok (.putfield 23, 3) := by decide +kernel
theorem d12_init_36 : decode prog_14_method_3_code 36 = .ok (.aload_n 0, 1) := by decide +kernel
theorem d12_init_37 : decode prog_14_method_3_code 37 = .ok (.bipush 6, 2) := by decide +kernel
theorem d12_init_39 : decode prog_14_method_3_code 39 = .ok (.newarray .int, 2) := by decide +kernel
theorem d12_init_41 : decode prog_14_method_3_code 41 = .ok (.putfield 26, 3) := by decide +kernel
theorem d12_init_44 : decode prog_14_method_3_code 44 = .ok (.aload_n 0, 1) := by decide +kernel
theorem d12_init_45 : decode prog_14_method_3_code 45 = .ok (.bipush 6, 2) := by decide +kernel
theorem d12_init_47 : decode prog_14_method_3_code 47 = .ok (.newarray .int, 2) := by decide +kernel
theorem d12_init_49 : decode prog_14_method_3_code 49 = .ok (.putfield 29, 3) := by decide +kernel
theorem d12_init_52 : decode prog_14_method_3_code 52 = .ok (.aload_n 0, 1) := by decide +kernel
theorem d12_init_53 : decode prog_14_method_3_code 53 = .ok (.bipush 6, 2) := by decide +kernel
theorem d12_init_55 : decode prog_14_method_3_code 55 = .ok (.newarray .int, 2) := by decide +kernel
theorem d12_init_57 : decode prog_14_method_3_code 57 = .ok (.putfield 32, 3) := by decide +kernel
theorem d12_init_60 : decode prog_14_method_3_code 60 = .ok (.aload_n 0, 1) := by decide +kernel
theorem d12_init_61 : decode prog_14_method_3_code 61 = .ok (.bipush 6, 2) := by decide +kernel
theorem d12_init_63 : decode prog_14_method_3_code 63 = .ok (.newarray .int, 2) := by decide +kernel
theorem d12_init_65 : decode prog_14_method_3_code 65 = .ok (.putfield 35, 3) := by decide +kernel
theorem d12_init_68 : decode prog_14_method_3_code 68 = .ok (.aload_n 0, 1) := by decide +kernel
theorem d12_init_69 : decode prog_14_method_3_code 69 = .ok (.bipush 6, 2) := by decide +kernel
theorem d12_init_71 : decode prog_14_method_3_code 71 = .ok (.newarray .int, 2) := by decide +kernel
theorem d12_init_73 : decode prog_14_method_3_code 73 = .ok (.putfield 38, 3) := by decide +kernel
theorem d12_init_76 : decode prog_14_method_3_code 76 = .ok (.aload_n 0, 1) := by decide +kernel
theorem d12_init_77 : decode prog_14_method_3_code 77 = .ok (.bipush 6, 2) := by decide +kernel
theorem d12_init_79 : decode prog_14_method_3_code 79 = .ok (.newarray .int, 2) := by decide +kernel
theorem d12_init_81 : decode prog_14_method_3_code 81 = .ok (.putfield 41, 3) := by decide +kernel
theorem d12_init_84 : decode prog_14_method_3_code 84 = .ok (.aload_n 0, 1) := by decide +kernel
theorem d12_init_85 : decode prog_14_method_3_code 85 = .ok (.bipush 6, 2) := by decide +kernel
theorem d12_init_87 : decode prog_14_method_3_code 87 = .ok (.newarray .int, 2) := by decide +kernel
theorem d12_init_89 : decode prog_14_method_3_code 89 = .ok (.putfield 44, 3) := by decide +kernel
theorem d12_init_92 : decode prog_14_method_3_code 92 = .ok (.aload_n 0, 1) := by decide +kernel
theorem d12_init_93 : decode prog_14_method_3_code 93 = .ok (.bipush 6, 2) := by decide +kernel
theorem d12_init_95 : decode prog_14_method_3_code 95 = .ok (.newarray .int, 2) := by decide +kernel
theorem d12_init_97 : decode prog_14_method_3_code 97 = .ok (.putfield 47, 3) := by decide +kernel
theorem d12_init_100 : decode prog_14_method_3_code 100 = .ok (.aload_n 0, 1) := by decide +kernel
theorem d12_init_101 : decode prog_14_method_3_code 101 = .ok (.sipush 200, 3) := by decide +kernel
theorem d12_init_104 : decode prog_14_method_3_code 104 = .ok (.newarray .int, 2) := by decide +kernel
theorem d12_init_106 : decode prog_14_method_3_code 106 = .ok (.putfield 50, 3) := by decide +kernel
theorem d12_init_109 : decode prog_14_method_3_code 109 = .ok (.aload_n 0, 1) := by decide +kernel
theorem d12_init_110 : decode prog_14_method_3_code 110 = .ok (.sipush 200, 3) := by decide +kernel
theorem d12_init_113 : decode prog_14_method_3_code 113 = .ok (.newarray .int, 2) := by decide +kernel
theorem d12_init_115 : decode prog_14_method_3_code 115 = .ok (.putfield 53, 3) := by decide +kernel
theorem d12_init_118 : decode prog_14_method_3_code 118 = .ok (.aload_n 0, 1) := by decide +kernel
theorem d12_init_119 : decode prog_14_method_3_code 119 = .ok (.sipush 200, 3) := by decide +kernel
theorem d12_init_122 : decode prog_14_method_3_code 122 = .ok (.newarray .int, 2) := by decide +kernel
theorem d12_init_124 : decode prog_14_method_3_code 124 = .ok (.putfield 56, 3) := by decide +kernel
theorem d12_init_127 : decode prog_14_method_3_code 127 = .ok (.aload_n 0, 1) := by decide +kernel
theorem d12_init_128 : decode prog_14_method_3_code 128 = .ok (.sipush 200, 3) := by decide +kernel
theorem d12_init_131 : decode prog_14_method_3_code 131 = .ok (.newarray .int, 2) := by decide +kernel
theorem d12_init_133 : decode prog_14_method_3_code 133 = .ok (.putfield 59, 3) := by decide +kernel
theorem d12_init_136 : decode prog_14_method_3_code 136 = .ok (.aload_n 0, 1) := by decide +kernel
theorem d12_init_137 : decode prog_14_method_3_code 137 = .ok (.sipush 200, 3) := by decide +kernel
theorem d12_init_140 : decode prog_14_method_3_code 140 = .ok (.newarray .boolean, 2) := by decide +kernel
theorem d12_init_142 : decode prog_14_method_3_code 142 = .ok (.putfield 62, 3) := by decide +kernel
theorem d12_init_145 : decode prog_14_method_3_code 145 = .ok (.aload_n 0, 1) := by decide +kernel
theorem d12_init_146 : decode prog_14_method_3_code 146 = .ok (.sipush 200, 3) := by decide +kernel
theorem d12_init_149 : decode prog_14_method_3_code 149 = .ok (.newarray .int, 2) := by decide +kernel
theorem d12_init_151 : decode prog_14_method_3_code 151 = .ok (.putfield 66, 3) := by decide +kernel
theorem d12_init_154 : decode prog_14_method_3_code 154 = .ok (.aload_n 0, 1) := by decide +kernel
theorem d12_init_155 : decode prog_14_method_3_code 155 = .ok (.sipush 10500, 3) := by decide +kernel
theorem d12_init_158 : decode prog_14_method_3_code 158 = .ok (.newarray .int, 2) := by decide +kernel
theorem d12_init_160 : decode prog_14_method_3_code 160 = .ok (.putfield 69, 3) := by decide +kernel
theorem d12_init_163 : decode prog_14_method_3_code 163 = .ok (.aload_n 0, 1) := by decide +kernel
theorem d12_init_164 : decode prog_14_method_3_code 164 = .ok (.bipush 25, 2) := by decide +kernel
theorem d12_init_166 : decode prog_14_method_3_code 166 = .ok (.newarray .int, 2) := by decide +kernel
theorem d12_init_168 : decode prog_14_method_3_code 168 = .ok (.putfield 72, 3) := by decide +kernel
theorem d12_init_171 : decode prog_14_method_3_code 171 = .ok (.aload_n 0, 1) := by decide +kernel
theorem d12_init_172 : decode prog_14_method_3_code 172 = .ok (.bipush 25, 2) := by decide +kernel
theorem d12_init_174 : decode prog_14_method_3_code 174 = .ok (.newarray .int, 2) := by decide +kernel
theorem d12_init_176 : decode prog_14_method_3_code 176 = .ok (.putfield 75, 3) := by decide +kernel
theorem d12_init_179 : decode prog_14_method_3_code 179 = .ok (.aload_n 0, 1) := by decide +kernel
theorem d12_init_180 : decode prog_14_method_3_code 180 = .ok (.sipush 500, 3) := by decide +kernel
theorem d12_init_183 : decode prog_14_method_3_code 183 = .ok (.newarray .int, 2) := by decide +kernel
theorem d12_init_185 : decode prog_14_method_3_code 185 = .ok (.putfield 78, 3) := by decide +kernel
theorem d12_init_188 : decode prog_14_method_3_code 188 = .ok (.aload_n 0, 1) := by decide +kernel
theorem d12_init_189 : decode prog_14_method_3_code 189 = .ok (.sipush 500, 3) := by decide +kernel
theorem d12_init_192 : decode prog_14_method_3_code 192 = .ok (.newarray .int, 2) := by decide +kernel
theorem d12_init_194 : decode prog_14_method_3_code 194 = .ok (.putfield 81, 3) := by decide +kernel
theorem d12_init_197 : decode prog_14_method_3_code 197 = .ok (.aload_n 0, 1) := by decide +kernel
theorem d12_init_198 : decode prog_14_method_3_code 198 = .ok (.sipush 500, 3) := by decide +kernel
theorem d12_init_201 : decode prog_14_method_3_code 201 = .ok (.newarray .int, 2) := by decide +kernel
theorem d12_init_203 : decode prog_14_method_3_code 203 = .ok (.putfield 84, 3) := by decide +kernel
theorem d12_init_206 : decode prog_14_method_3_code 206 = .ok (.aload_n 0, 1) := by decide +kernel
theorem d12_init_207 : decode prog_14_method_3_code 207 = .ok (.sipush 500, 3) := by decide +kernel
theorem d12_init_210 : decode prog_14_method_3_code 210 = .ok (.newarray .int, 2) := by decide +kernel
theorem d12_init_212 : decode prog_14_method_3_code 212 = .ok (.putfield 87, 3) := by decide +kernel
theorem d12_init_215 : decode prog_14_method_3_code 215 = .ok (.aload_n 0, 1) := by decide +kernel
theorem d12_init_216 : decode prog_14_method_3_code 216 = .ok (.sipush 500, 3) := by decide +kernel
theorem d12_init_219 : decode prog_14_method_3_code 219 = .ok (.newarray .int, 2) := by decide +kernel
theorem d12_init_221 : decode prog_14_method_3_code 221 = .ok (.putfield 90, 3) := by decide +kernel
theorem d12_init_224 : decode prog_14_method_3_code 224 = .ok (.aload_n 0, 1) := by decide +kernel
theorem d12_init_225 : decode prog_14_method_3_code 225 = .ok (.bipush 25, 2) := by decide +kernel
theorem d12_init_227 : decode prog_14_method_3_code 227 = .ok (.newarray .int, 2) := by decide +kernel
theorem d12_init_229 : decode prog_14_method_3_code 229 = .ok (.putfield 93, 3) := by decide +kernel
theorem d12_init_232 : decode prog_14_method_3_code 232 = .ok (.aload_n 0, 1) := by decide +kernel
theorem d12_init_233 : decode prog_14_method_3_code 233 = .ok (.bipush 25, 2) := by decide +kernel
theorem d12_init_235 : decode prog_14_method_3_code 235 = .ok (.newarray .int, 2) := by decide +kernel
theorem d12_init_237 : decode prog_14_method_3_code 237 = .ok (.putfield 96, 3) := by decide +kernel
theorem d12_init_240 : decode prog_14_method_3_code 240 = .ok (.aload_n 0, 1) := by decide +kernel
theorem d12_init_241 : decode prog_14_method_3_code 241 = .ok (.iconst 2, 1) := by decide +kernel
theorem d12_init_242 : decode prog_14_method_3_code 242 = .ok (.newarray .int, 2) := by decide +kernel
theorem d12_init_244 : decode prog_14_method_3_code 244 = .ok (.putfield 99, 3) := by decide +kernel
theorem d12_init_247 : decode prog_14_method_3_code 247 = .ok (.aload_n 0, 1) := by decide +kernel
theorem d12_init_248 : decode prog_14_method_3_code 248 = .ok (.sipush 400, 3) := by decide +kernel
theorem d12_init_251 : decode prog_14_method_3_code 251 = .ok (.newarray .byte, 2) := by decide +kernel
theorem d12_init_253 : decode prog_14_method_3_code 253 = .ok (.putfield 102, 3) := by decide +kernel
theorem d12_init_256 : decode prog_14_method_3_code 256 = .ok (.aload_n 0, 1) := by decide +kernel
theorem d12_init_257 : decode prog_14_method_3_code 257 = .ok (.iconst (-1), 1) := by decide +kernel
theorem d12_init_258 : decode prog_14_method_3_code 258 = .ok (.putfield 106, 3) := by decide +kernel
theorem d12_init_261 : decode prog_14_method_3_code 261 = .ok (.aload_n 0, 1) := by decide +kernel
theorem d12_init_262 : decode prog_14_method_3_code 262 = .ok (.bipush 48, 2) := by decide +kernel
theorem d12_init_264 : decode prog_14_method_3_code 264 = .ok (.newarray .byte, 2) := by decide +kernel
theorem d12_init_266 : decode prog_14_method_3_code 266 = .ok (.putfield 109, 3) := by decide +kernel
theorem d12_init_269 : decode prog_14_method_3_code 269 = .ok (.aload_n 0, 1) := by decide +kernel
theorem d12_init_270 : decode prog_14_method_3_code 270 = .ok (.bipush 6, 2) := by decide +kernel
theorem d12_init_272 : decode prog_14_method_3_code 272 = .ok (.newarray .int, 2) := by decide +kernel
theorem d12_init_274 : decode prog_14_method_3_code 274 = .ok (.putfield 112, 3) := by decide +kernel
theorem d12_init_277 : decode prog_14_method_3_code 277 = .ok (.aload_n 0, 1) := by decide +kernel
theorem d12_init_278 : decode prog_14_method_3_code 278 = .ok (.bipush 15, 2) := by decide +kernel
theorem d12_init_280 : decode prog_14_method_3_code 280 = .ok (.newarray .int, 2) := by decide +kernel
theorem d12_init_282 : decode prog_14_method_3_code 282 = .ok (.putfield 115, 3) := by decide +kernel
theorem d12_init_285 : decode prog_14_method_3_code 285 = .ok (.aload_n 0, 1) := by decide +kernel
theorem d12_init_286 : decode prog_14_method_3_code 286 = .ok (.sipush 420, 3) := by decide +kernel
theorem d12_init_289 : decode prog_14_method_3_code 289 = .ok (.newarray .int, 2) := by decide +kernel
theorem d12_init_291 : decode prog_14_method_3_code 291 = .ok (.putfield 118, 3) := by decide +kernel
theorem d12_init_294 : decode prog_14_method_3_code 294 = .ok (.aload_n 0, 1) := by decide +kernel
theorem d12_init_295 : decode prog_14_method_3_code 295 = .ok (.sipush 1500, 3) := by decide +kernel
theorem d12_init_298 : decode prog_14_method_3_code 298 = .ok (.newarray .int, 2) := by decide +kernel
theorem d12_init_300 : decode prog_14_method_3_code 300 = .ok (.putfield 121, 3) := by decide +kernel
theorem d12_init_303 : decode prog_14_method_3_code 303 = .ok (.aload_n 0, 1) := by decide +kernel
theorem d12_init_304 : decode prog_14_method_3_code 304 = .ok (.iconst 2, 1) := by decide +kernel
theorem d12_init_305 : decode prog_14_method_3_code 305 = .ok (.newarray .int, 2) := by decide +kernel
theorem d12_init_307 : decode prog_14_method_3_code 307 = .ok (.putfield 124, 3) := by decide +kernel
theorem d12_init_310 : decode prog_14_method_3_code 310 = .ok (.aload_n 0, 1) := by decide +kernel
theorem d12_init_311 : decode prog_14_method_3_code 311 = .ok (.iconst 2, 1) := by decide +kernel
theorem d12_init_312 : decode prog_14_method_3_code 312 = .ok (.newarray .int, 2) := by decide +kernel
theorem d12_init_314 : decode prog_14_method_3_code 314 = .ok (.putfield 127, 3) := by decide +kernel
theorem d12_init_317 : decode prog_14_method_3_code 317 = .ok (.aload_n 0, 1) := by decide +kernel
theorem d12_init_318 : decode prog_14_method_3_code 318 = .ok (.bipush 60, 2) := by decide +kernel
theorem d12_init_320 : decode prog_14_method_3_code 320 = .ok (.newarray .int, 2) := by decide +kernel
theorem d12_init_322 : decode prog_14_method_3_code 322 = .ok (.putfield 130, 3) := by decide +kernel
theorem d12_init_325 : decode prog_14_method_3_code 325 = .ok (.aload_n 0, 1) := by decide +kernel
theorem d12_init_326 : decode prog_14_method_3_code 326 = .ok (.bipush 60, 2) := by decide +kernel
theorem d12_init_328 : decode prog_14_method_3_code 328 = .ok (.newarray .int, 2) := by decide +kernel
theorem d12_init_330 : decode prog_14_method_3_code 330 = .ok (.putfield 133, 3) := by decide +kernel
theorem d12_init_333 : decode prog_14_method_3_code 333 = .ok (.aload_n 0, 1) := by decide +kernel
theorem d12_init_334 : decode prog_14_method_3_code 334 = .ok (.bipush 60, 2) := by decide +kernel
theorem d12_init_336 : decode prog_14_method_3_code 336 = .ok (.newarray .int, 2) := by decide +kernel
theorem d12_init_338 : decode prog_14_method_3_code 338 = .ok (.putfield 136, 3) := by decide +kernel
theorem d12_init_341 : decode prog_14_method_3_code 341 = .ok (.aload_n 0, 1) := by decide +kernel
theorem d12_init_342 : decode prog_14_method_3_code 342 = .ok (.bipush 60, 2) := by decide +kernel
theorem d12_init_344 : decode prog_14_method_3_code 344 = .ok (.newarray .int, 2) := by decide +kernel
theorem d12_init_346 : decode prog_14_method_3_code 346 = .ok (.putfield 139, 3) := by decide +kernel
theorem d12_init_349 : decode prog_14_method_3_code 349 = .ok (.aload_n 0, 1) := by decide +kernel
theorem d12_init_350 : decode prog_14_method_3_code 350 = .ok (.bipush 60, 2) := by decide +kernel
theorem d12_init_352 : decode prog_14_method_3_code 352 = .ok (.newarray .int, 2) := by decide +kernel
theorem d12_init_354 : decode prog_14_method_3_code 354 = .ok (.putfield 142, 3) := by decide +kernel
theorem d12_init_357 : decode prog_14_method_3_code 357 = .ok (.aload_n 0, 1) := by decide +kernel
theorem d12_init_358 : decode prog_14_method_3_code 358 = .ok (.bipush 6, 2) := by decide +kernel
theorem d12_init_360 : decode prog_14_method_3_code 360 = .ok (.newarray .int, 2) := by decide +kernel
theorem d12_init_362 : decode prog_14_method_3_code 362 = .ok (.putfield 145, 3) := by decide +kernel
theorem d12_init_365 : decode prog_14_method_3_code 365 = .ok (.aload_n 0, 1) := by decide +kernel
theorem d12_init_366 : decode prog_14_method_3_code 366 = .ok (.bipush 6, 2) := by decide +kernel
theorem d12_init_368 : decode prog_14_method_3_code 368 = .ok (.newarray .int, 2) := by decide +kernel
theorem d12_init_370 : decode prog_14_method_3_code 370 = .ok (.putfield 148, 3) := by decide +kernel
theorem d12_init_373 : decode prog_14_method_3_code 373 = .ok (.aload_n 0, 1) := by decide +kernel
theorem d12_init_374 : decode prog_14_method_3_code 374 = .ok (.bipush 6, 2) := by decide +kernel
theorem d12_init_376 : decode prog_14_method_3_code 376 = .ok (.newarray .int, 2) := by decide +kernel
theorem d12_init_378 : decode prog_14_method_3_code 378 = .ok (.putfield 151, 3) := by decide +kernel
theorem d12_init_381 : decode prog_14_method_3_code 381 = .ok (.aload_n 0, 1) := by decide +kernel
theorem d12_init_382 : decode prog_14_method_3_code 382 = .ok (.sipush 432, 3) := by decide +kernel
theorem d12_init_385 : decode prog_14_method_3_code 385 = .ok (.newarray .boolean, 2) := by decide +kernel
theorem d12_init_387 : decode prog_14_method_3_code 387 = .ok (.putfield 154, 3) := by decide +kernel
theorem d12_init_390 : decode prog_14_method_3_code 390 = .ok (.aload_n 0, 1) := by decide +kernel
theorem d12_init_391 : decode prog_14_method_3_code 391 = .ok (.bipush 12, 2) := by decide +kernel
theorem d12_init_393 : decode prog_14_method_3_code 393 = .ok (.newarray .int, 2) := by decide +kernel
theorem d12_init_395 : decode prog_14_method_3_code 395 = .ok (.putfield 157, 3) := by decide +kernel
theorem d12_init_398 : decode prog_14_method_3_code 398 = .ok (.aload_n 0, 1) := by decide +kernel
theorem d12_init_399 : decode prog_14_method_3_code 399 = .ok (.bipush 6, 2) := by decide +kernel
theorem d12_init_401 : decode prog_14_method_3_code 401 = .ok (.newarray .int, 2) := by decide +kernel
theorem d12_init_403 : decode prog_14_method_3_code 403 = .ok (.putfield 160, 3) := by decide +kernel
theorem d12_init_406 : decode prog_14_method_3_code 406 = .ok (.aload_n 0, 1) := by decide +kernel
theorem d12_init_407 : decode prog_14_method_3_code 407 = .ok (.bipush 6, 2) := by decide +kernel
theorem d12_init_409 : decode prog_14_method_3_code 409 = .ok (.newarray .int, 2) := by decide +kernel
theorem d12_init_411 : decode prog_14_method_3_code 411 = .ok (.putfield 163, 3) := by decide +kernel
theorem d12_init_414 : decode prog_14_method_3_code 414 = .ok (.aload_n 0, 1) := by decide +kernel
theorem d12_init_415 : decode prog_14_method_3_code 415 = .ok (.bipush 72, 2) := by decide +kernel
theorem d12_init_417 : decode prog_14_method_3_code 417 = .ok (.newarray .int, 2) := by decide +kernel
theorem d12_init_419 : decode prog_14_method_3_code 419 = .ok (.putfield 166, 3) := by decide +kernel
theorem d12_init_422 : decode prog_14_method_3_code 422 = .ok (.aload_n 0, 1) := by decide +kernel
theorem d12_init_423 : decode prog_14_method_3_code 423 = .ok (.bipush 72, 2) := by decide +kernel
theorem d12_init_425 : decode prog_14_method_3_code 425 = .ok (.newarray .int, 2) := by decide +kernel
theorem d12_init_427 : decode prog_14_method_3_code 427 = .ok (.putfield 169, 3) := by decide +kernel
theorem d12_init_430 : decode prog_14_method_3_code 430 = .ok (.return_, 1) := by decide +kernel
theorem d12_isBerth_0 : decode prog_14_method_4_code 0 = .ok (.iload_n 0, 1) := by decide +kernel
theorem d12_isBerth_1 : decode prog_14_method_4_code 1 = .ok (.ifCond .lt 13, 3) := by decide +kernel
theorem d12_isBerth_4 : decode prog_14_method_4_code 4 = .ok (.iload_n 0, 1) := by decide +kernel
theorem d12_isBerth_5 : decode prog_14_method_4_code 5 = .ok (.bipush 72, 2) := by decide +kernel
theorem d12_isBerth_7 : decode prog_14_method_4_code 7 = .ok (.if_icmp .ge 7, 3) := by decide +kernel
theorem d12_isBerth_10 : decode prog_14_method_4_code 10 = .ok (.iconst 1, 1) := by decide +kernel
theorem d12_isBerth_11 : decode prog_14_method_4_code 11 = .ok (.goto 4, 3) := by decide +kernel
theorem d12_isBerth_14 : decode prog_14_method_4_code 14 = .ok (.iconst 0, 1) := by decide +kernel
theorem d12_isBerth_15 : decode prog_14_method_4_code 15 = .ok (.ireturn, 1) := by decide +kernel
theorem d12_bed_0 : decode prog_14_method_5_code 0 = .ok (.aload_n 0, 1) := by decide +kernel
theorem d12_bed_1 : decode prog_14_method_5_code 1 = .ok (.iconst 0, 1) := by decide +kernel
theorem d12_bed_2 : decode prog_14_method_5_code 2 = .ok (.putfield 1, 3) := by decide +kernel
theorem d12_bed_5 : decode prog_14_method_5_code 5 = .ok (.iload_n 1, 1) := by decide +kernel
theorem d12_bed_6 : decode prog_14_method_5_code 6 = .ok (.invokestatic 172, 3) := by decide +kernel
theorem d12_bed_9 : decode prog_14_method_5_code 9 = .ok (.ifCond .eq 13, 3) := by decide +kernel
theorem d12_bed_12 : decode prog_14_method_5_code 12 = .ok (.iload_n 2, 1) := by decide +kernel
theorem d12_bed_13 : decode prog_14_method_5_code 13 = .ok (.iconst 0, 1) := by decide +kernel
theorem d12_bed_14 : decode prog_14_method_5_code 14 = .ok (.bipush 20, 2) := by decide +kernel
theorem d12_bed_16 : decode prog_14_method_5_code 16 = .ok (.invokestatic 176, 3) := by decide +kernel
theorem d12_bed_19 : decode prog_14_method_5_code 19 = .ok (.ifCond .ne 5, 3) := by decide +kernel
theorem d12_bed_22 : decode prog_14_method_5_code 22 = .ok (.iconst 0, 1) := by decide +kernel
theorem d12_bed_23 : decode prog_14_method_5_code 23 = .ok (.ireturn, 1) := by decide +kernel
theorem d12_bed_24 : decode prog_14_method_5_code 24 = .ok (.aload_n 0, 1) := by decide +kernel
theorem d12_bed_25 : decode prog_14_method_5_code 25 = .ok (.getfield 13, 3) := by decide +kernel
theorem d12_bed_28 : decode prog_14_method_5_code 28 = .ok (.iload_n 1, 1) := by decide +kernel
theorem d12_bed_29 : decode prog_14_method_5_code 29 = .ok (.iload_n 2, 1) := by decide +kernel
theorem d12_bed_30 : decode prog_14_method_5_code 30 = .ok (.iastore, 1) := by decide +kernel
theorem d12_bed_31 : decode prog_14_method_5_code 31 = .ok (.iconst 1, 1) := by decide +kernel
theorem d12_bed_32 : decode prog_14_method_5_code 32 = .ok (.ireturn, 1) := by decide +kernel
abbrev m12_thrown : MD := ("MillBoatsModel", ⟨"MillBoatsModel", "thrown", "()I"⟩, prog_14_method_1_code, 1, (some Jvm.ClassFile.FieldType.int))
theorem k12_thrown : okY m12_thrown.2.1 0 := ⟨by decide +kernel, by decide +kernel, by decide +kernel⟩
def f12_thrown (σ : St) (v0 : Nat) : Option (Int32 × St) :=
  gd (ob σ v0 12) (
  some (sI σ v0 0, σ))
set_option maxRecDepth 50000 in
theorem s12_thrown : ∀ (σ : St) (v0 : Nat) (r : Int32) (τ : St), f12_thrown σ v0 = some (r, τ) → Call 2 m12_thrown [.ref v0] σ (some (.int r)) τ := by
  intro σ v0 r τ hf
  unfold f12_thrown at hf
  refine Call.of (by decide +kernel) rfl (Nat.le_of_ble_eq_true rfl) ?_
  refine ev_aload_n (j := 0) (i := 0) (q := 0) rfl rfl d12_thrown_0 ?_
  obtain ⟨h1, hf⟩ := gd_some hf
  refine ev_getI cls12 (j := 0) (by decide) rfl w1251 h1 d12_thrown_1 ?_
  obtain ⟨rfl, rfl⟩ := ret_some hf
  exact ev_iret rfl d12_thrown_4
abbrev m12_within : MD := ("MillBoatsModel", ⟨"MillBoatsModel", "within", "(III)Z"⟩, prog_14_method_2_code, 3, (some Jvm.ClassFile.FieldType.boolean))
theorem k12_within : okY m12_within.2.1 3 := ⟨by decide +kernel, by decide +kernel, by decide +kernel⟩
def f12_within (σ : St) (v0 : Int32) (v1 : Int32) (v2 : Int32) : Option (Int32 × St) :=
  (if v0 < v1 then
  some ((0 : Int32), σ)
  else
  (if v0 ≤ v2 then
  some ((1 : Int32), σ)
  else
  some ((0 : Int32), σ)))
set_option maxRecDepth 50000 in
theorem s12_within : ∀ (σ : St) (v0 : Int32) (v1 : Int32) (v2 : Int32) (r : Int32) (τ : St), f12_within σ v0 v1 v2 = some (r, τ) → Call 2 m12_within [.int v0, .int v1, .int v2] σ (some (.int r)) τ := by
  intro σ v0 v1 v2 r τ hf
  unfold f12_within at hf
  refine Call.of (by decide +kernel) rfl (Nat.le_of_ble_eq_true rfl) ?_
  refine ev_iload_n (j := 0) (i := 0) (q := 0) rfl rfl d12_within_0 ?_
  refine ev_iload_n (j := 1) (i := 1) (q := 1) rfl rfl d12_within_1 ?_
  rcases ite_some hf with ⟨c1, hf⟩ | ⟨c1, hf⟩
  · refine ev_icmp_lt_P (tgt := 14) c1 (by decide) d12_within_2 ?_
    refine ev_iconst ci_0 d12_within_14 ?_
    obtain ⟨rfl, rfl⟩ := ret_some hf
    exact ev_zret rfl (by decide) d12_within_15
  · refine ev_icmp_lt_Q (tgt := 14) c1 (by decide) d12_within_2 ?_
    refine ev_iload_n (j := 0) (i := 0) (q := 0) rfl rfl d12_within_5 ?_
    refine ev_iload_n (j := 2) (i := 2) (q := 2) rfl rfl d12_within_6 ?_
    rcases ite_some hf with ⟨c2, hf⟩ | ⟨c2, hf⟩
    · refine ev_icmp_gt_P (tgt := 14) c2 (by decide) d12_within_7 ?_
      refine ev_iconst ci_1 d12_within_10 ?_
      refine ev_goto (tgt := 15) (by decide) d12_within_11 ?_
      obtain ⟨rfl, rfl⟩ := ret_some hf
      exact ev_zret rfl (by decide) d12_within_15
    · refine ev_icmp_gt_Q (tgt := 14) c2 (by decide) d12_within_7 ?_
      refine ev_iconst ci_0 d12_within_14 ?_
      obtain ⟨rfl, rfl⟩ := ret_some hf
      exact ev_zret rfl (by decide) d12_within_15
abbrev m12_init : MD := ("MillBoatsModel", ⟨"MillBoatsModel", "<init>", "()V"⟩, prog_14_method_3_code, 1, (none : Option Jvm.ClassFile.FieldType))
theorem k12_init : okY m12_init.2.1 0 := ⟨by decide +kernel, by decide +kernel, by decide +kernel⟩
set_option maxRecDepth 50000 in
def f12_init (σ : St) (v0 : Nat) : Option (Unit × St) :=
  lt (sN σ + 1) fun b1 => (
  gd (szOk (72 : Int32)) (
  lt (wN σ 14 (ix (72 : Int32))) fun t4 => (
  gd (ob t4 v0 12) (
  lt (wR t4 v0 1 b1) fun t7 => (
  lt (sN t7 + 1) fun b9 => (
  gd (szOk (7 : Int32)) (
  lt (wN t7 14 (ix (7 : Int32))) fun t12 => (
  lt (wR t12 v0 2 b9) fun t14 => (
  lt (sN t14 + 1) fun b16 => (
  gd (szOk (56 : Int32)) (
  lt (wN t14 14 (ix (56 : Int32))) fun t19 => (
  lt (wR t19 v0 3 b16) fun t21 => (
  lt (sN t21 + 1) fun b23 => (
  gd (szOk (56 : Int32)) (
  lt (wN t21 14 (ix (56 : Int32))) fun t26 => (
  lt (wR t26 v0 4 b23) fun t28 => (
  lt (sN t28 + 1) fun b30 => (
  gd (szOk (6 : Int32)) (
  lt (wN t28 14 (ix (6 : Int32))) fun t33 => (
  lt (wR t33 v0 6 b30) fun t35 => (
  lt (sN t35 + 1) fun b37 => (
  gd (szOk (6 : Int32)) (
  lt (wN t35 14 (ix (6 : Int32))) fun t40 => (
  lt (wR t40 v0 7 b37) fun t42 => (
  lt (sN t42 + 1) fun b44 => (
  gd (szOk (6 : Int32)) (
  lt (wN t42 14 (ix (6 : Int32))) fun t47 => (
  lt (wR t47 v0 8 b44) fun t49 => (
  lt (sN t49 + 1) fun b51 => (
  gd (szOk (6 : Int32)) (
  lt (wN t49 14 (ix (6 : Int32))) fun t54 => (
  lt (wR t54 v0 9 b51) fun t56 => (
  lt (sN t56 + 1) fun b58 => (
  gd (szOk (6 : Int32)) (
  lt (wN t56 14 (ix (6 : Int32))) fun t61 => (
  lt (wR t61 v0 10 b58) fun t63 => (
  lt (sN t63 + 1) fun b65 => (
  gd (szOk (6 : Int32)) (
  lt (wN t63 14 (ix (6 : Int32))) fun t68 => (
  lt (wR t68 v0 11 b65) fun t70 => (
  lt (sN t70 + 1) fun b72 => (
  gd (szOk (6 : Int32)) (
  lt (wN t70 14 (ix (6 : Int32))) fun t75 => (
  lt (wR t75 v0 12 b72) fun t77 => (
  lt (sN t77 + 1) fun b79 => (
  gd (szOk (6 : Int32)) (
  lt (wN t77 14 (ix (6 : Int32))) fun t82 => (
  lt (wR t82 v0 13 b79) fun t84 => (
  lt (sN t84 + 1) fun b86 => (
  gd (szOk (200 : Int32)) (
  lt (wN t84 14 (ix (200 : Int32))) fun t89 => (
  lt (wR t89 v0 16 b86) fun t91 => (
  lt (sN t91 + 1) fun b93 => (
  gd (szOk (200 : Int32)) (
  lt (wN t91 14 (ix (200 : Int32))) fun t96 => (
  lt (wR t96 v0 17 b93) fun t98 => (
  lt (sN t98 + 1) fun b100 => (
  gd (szOk (200 : Int32)) (
  lt (wN t98 14 (ix (200 : Int32))) fun t103 => (
  lt (wR t103 v0 18 b100) fun t105 => (
  lt (sN t105 + 1) fun b107 => (
  gd (szOk (200 : Int32)) (
  lt (wN t105 14 (ix (200 : Int32))) fun t110 => (
  lt (wR t110 v0 20 b107) fun t112 => (
  lt (sN t112 + 1) fun b114 => (
  gd (szOk (200 : Int32)) (
  lt (wN t112 16 (ix (200 : Int32))) fun t117 => (
  lt (wR t117 v0 21 b114) fun t119 => (
  lt (sN t119 + 1) fun b121 => (
  gd (szOk (200 : Int32)) (
  lt (wN t119 14 (ix (200 : Int32))) fun t124 => (
  lt (wR t124 v0 22 b121) fun t126 => (
  lt (sN t126 + 1) fun b128 => (
  gd (szOk (10500 : Int32)) (
  lt (wN t126 14 (ix (10500 : Int32))) fun t131 => (
  lt (wR t131 v0 23 b128) fun t133 => (
  lt (sN t133 + 1) fun b135 => (
  gd (szOk (25 : Int32)) (
  lt (wN t133 14 (ix (25 : Int32))) fun t138 => (
  lt (wR t138 v0 24 b135) fun t140 => (
  lt (sN t140 + 1) fun b142 => (
  gd (szOk (25 : Int32)) (
  lt (wN t140 14 (ix (25 : Int32))) fun t145 => (
  lt (wR t145 v0 25 b142) fun t147 => (
  lt (sN t147 + 1) fun b149 => (
  gd (szOk (500 : Int32)) (
  lt (wN t147 14 (ix (500 : Int32))) fun t152 => (
  lt (wR t152 v0 26 b149) fun t154 => (
  lt (sN t154 + 1) fun b156 => (
  gd (szOk (500 : Int32)) (
  lt (wN t154 14 (ix (500 : Int32))) fun t159 => (
  lt (wR t159 v0 27 b156) fun t161 => (
  lt (sN t161 + 1) fun b163 => (
  gd (szOk (500 : Int32)) (
  lt (wN t161 14 (ix (500 : Int32))) fun t166 => (
  lt (wR t166 v0 28 b163) fun t168 => (
  lt (sN t168 + 1) fun b170 => (
  gd (szOk (500 : Int32)) (
  lt (wN t168 14 (ix (500 : Int32))) fun t173 => (
  lt (wR t173 v0 29 b170) fun t175 => (
  lt (sN t175 + 1) fun b177 => (
  gd (szOk (500 : Int32)) (
  lt (wN t175 14 (ix (500 : Int32))) fun t180 => (
  lt (wR t180 v0 30 b177) fun t182 => (
  lt (sN t182 + 1) fun b184 => (
  gd (szOk (25 : Int32)) (
  lt (wN t182 14 (ix (25 : Int32))) fun t187 => (
  lt (wR t187 v0 31 b184) fun t189 => (
  lt (sN t189 + 1) fun b191 => (
  gd (szOk (25 : Int32)) (
  lt (wN t189 14 (ix (25 : Int32))) fun t194 => (
  lt (wR t194 v0 32 b191) fun t196 => (
  lt (sN t196 + 1) fun b198 => (
  gd (szOk (2 : Int32)) (
  lt (wN t196 14 (ix (2 : Int32))) fun t201 => (
  lt (wR t201 v0 33 b198) fun t203 => (
  lt (sN t203 + 1) fun b205 => (
  gd (szOk (400 : Int32)) (
  lt (wN t203 13 (ix (400 : Int32))) fun t208 => (
  lt (wR t208 v0 34 b205) fun t210 => (
  lt (wI t210 v0 42 (-1 : Int32)) fun t212 => (
  lt (sN t212 + 1) fun b214 => (
  gd (szOk (48 : Int32)) (
  lt (wN t212 13 (ix (48 : Int32))) fun t217 => (
  lt (wR t217 v0 45 b214) fun t219 => (
  lt (sN t219 + 1) fun b221 => (
  gd (szOk (6 : Int32)) (
  lt (wN t219 14 (ix (6 : Int32))) fun t224 => (
  lt (wR t224 v0 46 b221) fun t226 => (
  lt (sN t226 + 1) fun b228 => (
  gd (szOk (15 : Int32)) (
  lt (wN t226 14 (ix (15 : Int32))) fun t231 => (
  lt (wR t231 v0 47 b228) fun t233 => (
  lt (sN t233 + 1) fun b235 => (
  gd (szOk (420 : Int32)) (
  lt (wN t233 14 (ix (420 : Int32))) fun t238 => (
  lt (wR t238 v0 48 b235) fun t240 => (
  lt (sN t240 + 1) fun b242 => (
  gd (szOk (1500 : Int32)) (
  lt (wN t240 14 (ix (1500 : Int32))) fun t245 => (
  lt (wR t245 v0 50 b242) fun t247 => (
  lt (sN t247 + 1) fun b249 => (
  gd (szOk (2 : Int32)) (
  lt (wN t247 14 (ix (2 : Int32))) fun t252 => (
  lt (wR t252 v0 53 b249) fun t254 => (
  lt (sN t254 + 1) fun b256 => (
  gd (szOk (2 : Int32)) (
  lt (wN t254 14 (ix (2 : Int32))) fun t259 => (
  lt (wR t259 v0 54 b256) fun t261 => (
  lt (sN t261 + 1) fun b263 => (
  gd (szOk (60 : Int32)) (
  lt (wN t261 14 (ix (60 : Int32))) fun t266 => (
  lt (wR t266 v0 56 b263) fun t268 => (
  lt (sN t268 + 1) fun b270 => (
  gd (szOk (60 : Int32)) (
  lt (wN t268 14 (ix (60 : Int32))) fun t273 => (
  lt (wR t273 v0 57 b270) fun t275 => (
  lt (sN t275 + 1) fun b277 => (
  gd (szOk (60 : Int32)) (
  lt (wN t275 14 (ix (60 : Int32))) fun t280 => (
  lt (wR t280 v0 58 b277) fun t282 => (
  lt (sN t282 + 1) fun b284 => (
  gd (szOk (60 : Int32)) (
  lt (wN t282 14 (ix (60 : Int32))) fun t287 => (
  lt (wR t287 v0 59 b284) fun t289 => (
  lt (sN t289 + 1) fun b291 => (
  gd (szOk (60 : Int32)) (
  lt (wN t289 14 (ix (60 : Int32))) fun t294 => (
  lt (wR t294 v0 60 b291) fun t296 => (
  lt (sN t296 + 1) fun b298 => (
  gd (szOk (6 : Int32)) (
  lt (wN t296 14 (ix (6 : Int32))) fun t301 => (
  lt (wR t301 v0 63 b298) fun t303 => (
  lt (sN t303 + 1) fun b305 => (
  gd (szOk (6 : Int32)) (
  lt (wN t303 14 (ix (6 : Int32))) fun t308 => (
  lt (wR t308 v0 64 b305) fun t310 => (
  lt (sN t310 + 1) fun b312 => (
  gd (szOk (6 : Int32)) (
  lt (wN t310 14 (ix (6 : Int32))) fun t315 => (
  lt (wR t315 v0 65 b312) fun t317 => (
  lt (sN t317 + 1) fun b319 => (
  gd (szOk (432 : Int32)) (
  lt (wN t317 16 (ix (432 : Int32))) fun t322 => (
  lt (wR t322 v0 66 b319) fun t324 => (
  lt (sN t324 + 1) fun b326 => (
  gd (szOk (12 : Int32)) (
  lt (wN t324 14 (ix (12 : Int32))) fun t329 => (
  lt (wR t329 v0 67 b326) fun t331 => (
  lt (sN t331 + 1) fun b333 => (
  gd (szOk (6 : Int32)) (
  lt (wN t331 14 (ix (6 : Int32))) fun t336 => (
  lt (wR t336 v0 74 b333) fun t338 => (
  lt (sN t338 + 1) fun b340 => (
  gd (szOk (6 : Int32)) (
  lt (wN t338 14 (ix (6 : Int32))) fun t343 => (
  lt (wR t343 v0 75 b340) fun t345 => (
  lt (sN t345 + 1) fun b347 => (
  gd (szOk (72 : Int32)) (
  lt (wN t345 14 (ix (72 : Int32))) fun t350 => (
  lt (wR t350 v0 77 b347) fun t352 => (
  lt (sN t352 + 1) fun b354 => (
  gd (szOk (72 : Int32)) (
  lt (wN t352 14 (ix (72 : Int32))) fun t357 => (
  lt (wR t357 v0 78 b354) fun t359 => (
  some ((), t359)))))))))))))))))))))))))))))))))))))))))))))))))))))))))))))))))))))))))))))))))))))))))))))))))))))))))))))))))))))))))))))))))))))))))))))))))))))))))))))))))))))))))))))))))))))))))))))))))))))))))))))))
set_option maxHeartbeats 4000000 in
set_option maxRecDepth 50000 in
theorem s12_init : ∀ (σ : St) (v0 : Nat) (r : Unit) (τ : St), f12_init σ v0 = some (r, τ) → Call 2 m12_init [.ref v0] σ none τ := by
  intro σ v0 r τ hf
  unfold f12_init at hf
  refine Call.of (by decide +kernel) rfl (Nat.le_of_ble_eq_true rfl) ?_
  refine ev_aload_n (j := 0) (i := 0) (q := 0) rfl rfl d12_init_0 ?_
  refine ev_objInit w1250 w32 w33 (by decide) (Nat.le_of_ble_eq_true rfl) d12_init_1 ?_
  refine ev_aload_n (j := 0) (i := 0) (q := 0) rfl rfl d12_init_4 ?_
  refine ev_bipush cb_72 d12_init_5 ?_
  obtain ⟨b1, e2, hf⟩ := lt_some hf
  obtain ⟨h3, hf⟩ := gd_some hf
  obtain ⟨t4, e5, hf⟩ := lt_some hf
  refine ev_newa_int w59 h3 d12_init_7 (ev_nmR e2 (ev_nmS e5 ?_))
  obtain ⟨h6, hf⟩ := gd_some hf
  obtain ⟨t7, e8, hf⟩ := lt_some hf
  refine ev_putRF cls12 (j := 1) (by decide) rfl (ne_new e2) rfl w1252 rfl rfl h6 (fun _ => ⟨rfl, rfl⟩) d12_init_9 (ev_nmS e8 ?_)
  refine ev_aload_n (j := 0) (i := 0) (q := 0) rfl rfl d12_init_12 ?_
  refine ev_bipush cb_7 d12_init_13 ?_
  obtain ⟨b9, e10, hf⟩ := lt_some hf
  obtain ⟨h11, hf⟩ := gd_some hf
  obtain ⟨t12, e13, hf⟩ := lt_some hf
  refine ev_newa_int w59 h11 d12_init_15 (ev_nmR e10 (ev_nmS e13 ?_))
  obtain ⟨t14, e15, hf⟩ := lt_some hf
  refine ev_putRF cls12 (j := 2) (by decide) rfl (ne_new e10) rfl w1253 rfl rfl (mono_ob (mono_eN e13) (mono_ob (mono_eR e8) h6)) (fun _ => ⟨rfl, rfl⟩) d12_init_17 (ev_nmS e15 ?_)
  refine ev_aload_n (j := 0) (i := 0) (q := 0) rfl rfl d12_init_20 ?_
  refine ev_bipush cb_56 d12_init_21 ?_
  obtain ⟨b16, e17, hf⟩ := lt_some hf
  obtain ⟨h18, hf⟩ := gd_some hf
  obtain ⟨t19, e20, hf⟩ := lt_some hf
  refine ev_newa_int w59 h18 d12_init_23 (ev_nmR e17 (ev_nmS e20 ?_))
  obtain ⟨t21, e22, hf⟩ := lt_some hf
  refine ev_putRF cls12 (j := 3) (by decide) rfl (ne_new e17) rfl w1254 rfl rfl (mono_ob (mono_eN e20) (mono_ob (mono_eR e15) (mono_ob (mono_eN e13) (mono_ob (mono_eR e8) h6)))) (fun _ => ⟨rfl, rfl⟩) d12_init_25 (ev_nmS e22 ?_)
  refine ev_aload_n (j := 0) (i := 0) (q := 0) rfl rfl d12_init_28 ?_
  refine ev_bipush cb_56 d12_init_29 ?_
  obtain ⟨b23, e24, hf⟩ := lt_some hf
  obtain ⟨h25, hf⟩ := gd_some hf
  obtain ⟨t26, e27, hf⟩ := lt_some hf
  refine ev_newa_int w59 h25 d12_init_31 (ev_nmR e24 (ev_nmS e27 ?_))
  obtain ⟨t28, e29, hf⟩ := lt_some hf
  refine ev_putRF cls12 (j := 4) (by decide) rfl (ne_new e24) rfl w1255 rfl rfl (mono_ob (mono_eN e27) (mono_ob (mono_eR e22) (mono_ob (mono_eN e20) (mono_ob (mono_eR e15) (mono_ob (mono_eN e13) (mono_ob (mono_eR e8) h6)))))) (fun _ => ⟨rfl, rfl⟩) d12_init_33 (ev_nmS e29 ?_)
  refine ev_aload_n (j := 0) (i := 0) (q := 0) rfl rfl d12_init_36 ?_
  refine ev_bipush cb_6 d12_init_37 ?_
  obtain ⟨b30, e31, hf⟩ := lt_some hf
  obtain ⟨h32, hf⟩ := gd_some hf
  obtain ⟨t33, e34, hf⟩ := lt_some hf
  refine ev_newa_int w59 h32 d12_init_39 (ev_nmR e31 (ev_nmS e34 ?_))
  obtain ⟨t35, e36, hf⟩ := lt_some hf
  refine ev_putRF cls12 (j := 6) (by decide) rfl (ne_new e31) rfl w1257 rfl rfl (mono_ob (mono_eN e34) (mono_ob (mono_eR e29) (mono_ob (mono_eN e27) (mono_ob (mono_eR e22) (mono_ob (mono_eN e20) (mono_ob (mono_eR e15) (mono_ob (mono_eN e13) (mono_ob (mono_eR e8) h6)))))))) (fun _ => ⟨rfl, rfl⟩) d12_init_41 (ev_nmS e36 ?_)
  refine ev_aload_n (j := 0) (i := 0) (q := 0) rfl rfl d12_init_44 ?_
  refine ev_bipush cb_6 d12_init_45 ?_
  obtain ⟨b37, e38, hf⟩ := lt_some hf
  obtain ⟨h39, hf⟩ := gd_some hf
  obtain ⟨t40, e41, hf⟩ := lt_some hf
  refine ev_newa_int w59 h39 d12_init_47 (ev_nmR e38 (ev_nmS e41 ?_))
  obtain ⟨t42, e43, hf⟩ := lt_some hf
  refine ev_putRF cls12 (j := 7) (by decide) rfl (ne_new e38) rfl w1258 rfl rfl (mono_ob (mono_eN e41) (mono_ob (mono_eR e36) (mono_ob (mono_eN e34) (mono_ob (mono_eR e29) (mono_ob (mono_eN e27) (mono_ob (mono_eR e22) (mono_ob (mono_eN e20) (mono_ob (mono_eR e15) (mono_ob (mono_eN e13) (mono_ob (mono_eR e8) h6)))))))))) (fun _ => ⟨rfl, rfl⟩) d12_init_49 (ev_nmS e43 ?_)
  refine ev_aload_n (j := 0) (i := 0) (q := 0) rfl rfl d12_init_52 ?_
  refine ev_bipush cb_6 d12_init_53 ?_
  obtain ⟨b44, e45, hf⟩ := lt_some hf
  obtain ⟨h46, hf⟩ := gd_some hf
  obtain ⟨t47, e48, hf⟩ := lt_some hf
  refine ev_newa_int w59 h46 d12_init_55 (ev_nmR e45 (ev_nmS e48 ?_))
  obtain ⟨t49, e50, hf⟩ := lt_some hf
  refine ev_putRF cls12 (j := 8) (by decide) rfl (ne_new e45) rfl w1259 rfl rfl (mono_ob (mono_eN e48) (mono_ob (mono_eR e43) (mono_ob (mono_eN e41) (mono_ob (mono_eR e36) (mono_ob (mono_eN e34) (mono_ob (mono_eR e29) (mono_ob (mono_eN e27) (mono_ob (mono_eR e22) (mono_ob (mono_eN e20) (mono_ob (mono_eR e15) (mono_ob (mono_eN e13) (mono_ob (mono_eR e8) h6)))))))))))) (fun _ => ⟨rfl, rfl⟩) d12_init_57 (ev_nmS e50 ?_)
  refine ev_aload_n (j := 0) (i := 0) (q := 0) rfl rfl d12_init_60 ?_
  refine ev_bipush cb_6 d12_init_61 ?_
  obtain ⟨b51, e52, hf⟩ := lt_some hf
  obtain ⟨h53, hf⟩ := gd_some hf
  obtain ⟨t54, e55, hf⟩ := lt_some hf
  refine ev_newa_int w59 h53 d12_init_63 (ev_nmR e52 (ev_nmS e55 ?_))
  obtain ⟨t56, e57, hf⟩ := lt_some hf
  refine ev_putRF cls12 (j := 9) (by decide) rfl (ne_new e52) rfl w1260 rfl rfl (mono_ob (mono_eN e55) (mono_ob (mono_eR e50) (mono_ob (mono_eN e48) (mono_ob (mono_eR e43) (mono_ob (mono_eN e41) (mono_ob (mono_eR e36) (mono_ob (mono_eN e34) (mono_ob (mono_eR e29) (mono_ob (mono_eN e27) (mono_ob (mono_eR e22) (mono_ob (mono_eN e20) (mono_ob (mono_eR e15) (mono_ob (mono_eN e13) (mono_ob (mono_eR e8) h6)))))))))))))) (fun _ => ⟨rfl, rfl⟩) d12_init_65 (ev_nmS e57 ?_)
  refine ev_aload_n (j := 0) (i := 0) (q := 0) rfl rfl d12_init_68 ?_
  refine ev_bipush cb_6 d12_init_69 ?_
  obtain ⟨b58, e59, hf⟩ := lt_some hf
  obtain ⟨h60, hf⟩ := gd_some hf
  obtain ⟨t61, e62, hf⟩ := lt_some hf
  refine ev_newa_int w59 h60 d12_init_71 (ev_nmR e59 (ev_nmS e62 ?_))
  obtain ⟨t63, e64, hf⟩ := lt_some hf
  refine ev_putRF cls12 (j := 10) (by decide) rfl (ne_new e59) rfl w1261 rfl rfl (mono_ob (mono_eN e62) (mono_ob (mono_eR e57) (mono_ob (mono_eN e55) (mono_ob (mono_eR e50) (mono_ob (mono_eN e48) (mono_ob (mono_eR e43) (mono_ob (mono_eN e41) (mono_ob (mono_eR e36) (mono_ob (mono_eN e34) (mono_ob (mono_eR e29) (mono_ob (mono_eN e27) (mono_ob (mono_eR e22) (mono_ob (mono_eN e20) (mono_ob (mono_eR e15) (mono_ob (mono_eN e13) (mono_ob (mono_eR e8) h6)))))))))))))))) (fun _ => ⟨rfl, rfl⟩) d12_init_73 (ev_nmS e64 ?_)
  refine ev_aload_n (j := 0) (i := 0) (q := 0) rfl rfl d12_init_76 ?_
  refine ev_bipush cb_6 d12_init_77 ?_
  obtain ⟨b65, e66, hf⟩ := lt_some hf
  obtain ⟨h67, hf⟩ := gd_some hf
  obtain ⟨t68, e69, hf⟩ := lt_some hf
  refine ev_newa_int w59 h67 d12_init_79 (ev_nmR e66 (ev_nmS e69 ?_))
  obtain ⟨t70, e71, hf⟩ := lt_some hf
  refine ev_putRF cls12 (j := 11) (by decide) rfl (ne_new e66) rfl w1262 rfl rfl (mono_ob (mono_eN e69) (mono_ob (mono_eR e64) (mono_ob (mono_eN e62) (mono_ob (mono_eR e57) (mono_ob (mono_eN e55) (mono_ob (mono_eR e50) (mono_ob (mono_eN e48) (mono_ob (mono_eR e43) (mono_ob (mono_eN e41) (mono_ob (mono_eR e36) (mono_ob (mono_eN e34) (mono_ob (mono_eR e29) (mono_ob (mono_eN e27) (mono_ob (mono_eR e22) (mono_ob (mono_eN e20) (mono_ob (mono_eR e15) (mono_ob (mono_eN e13) (mono_ob (mono_eR e8) h6)))))))))))))))))) (fun _ => ⟨rfl, rfl⟩) d12_init_81 (ev_nmS e71 ?_)
  refine ev_aload_n (j := 0) (i := 0) (q := 0) rfl rfl d12_init_84 ?_
  refine ev_bipush cb_6 d12_init_85 ?_
  obtain ⟨b72, e73, hf⟩ := lt_some hf
  obtain ⟨h74, hf⟩ := gd_some hf
  obtain ⟨t75, e76, hf⟩ := lt_some hf
  refine ev_newa_int w59 h74 d12_init_87 (ev_nmR e73 (ev_nmS e76 ?_))
  obtain ⟨t77, e78, hf⟩ := lt_some hf
  refine ev_putRF cls12 (j := 12) (by decide) rfl (ne_new e73) rfl w1263 rfl rfl (mono_ob (mono_eN e76) (mono_ob (mono_eR e71) (mono_ob (mono_eN e69) (mono_ob (mono_eR e64) (mono_ob (mono_eN e62) (mono_ob (mono_eR e57) (mono_ob (mono_eN e55) (mono_ob (mono_eR e50) (mono_ob (mono_eN e48) (mono_ob (mono_eR e43) (mono_ob (mono_eN e41) (mono_ob (mono_eR e36) (mono_ob (mono_eN e34) (mono_ob (mono_eR e29) (mono_ob (mono_eN e27) (mono_ob (mono_eR e22) (mono_ob (mono_eN e20) (mono_ob (mono_eR e15) (mono_ob (mono_eN e13) (mono_ob (mono_eR e8) h6)))))))))))))))))))) (fun _ => ⟨rfl, rfl⟩) d12_init_89 (ev_nmS e78 ?_)
  refine ev_aload_n (j := 0) (i := 0) (q := 0) rfl rfl d12_init_92 ?_
  refine ev_bipush cb_6 d12_init_93 ?_
  obtain ⟨b79, e80, hf⟩ := lt_some hf
  obtain ⟨h81, hf⟩ := gd_some hf
  obtain ⟨t82, e83, hf⟩ := lt_some hf
  refine ev_newa_int w59 h81 d12_init_95 (ev_nmR e80 (ev_nmS e83 ?_))
  obtain ⟨t84, e85, hf⟩ := lt_some hf
  refine ev_putRF cls12 (j := 13) (by decide) rfl (ne_new e80) rfl w1264 rfl rfl (mono_ob (mono_eN e83) (mono_ob (mono_eR e78) (mono_ob (mono_eN e76) (mono_ob (mono_eR e71) (mono_ob (mono_eN e69) (mono_ob (mono_eR e64) (mono_ob (mono_eN e62) (mono_ob (mono_eR e57) (mono_ob (mono_eN e55) (mono_ob (mono_eR e50) (mono_ob (mono_eN e48) (mono_ob (mono_eR e43) (mono_ob (mono_eN e41) (mono_ob (mono_eR e36) (mono_ob (mono_eN e34) (mono_ob (mono_eR e29) (mono_ob (mono_eN e27) (mono_ob (mono_eR e22) (mono_ob (mono_eN e20) (mono_ob (mono_eR e15) (mono_ob (mono_eN e13) (mono_ob (mono_eR e8) h6)))))))))))))))))))))) (fun _ => ⟨rfl, rfl⟩) d12_init_97 (ev_nmS e85 ?_)
  refine ev_aload_n (j := 0) (i := 0) (q := 0) rfl rfl d12_init_100 ?_
  refine ev_sipush cs_200 d12_init_101 ?_
  obtain ⟨b86, e87, hf⟩ := lt_some hf
  obtain ⟨h88, hf⟩ := gd_some hf
  obtain ⟨t89, e90, hf⟩ := lt_some hf
  refine ev_newa_int w59 h88 d12_init_104 (ev_nmR e87 (ev_nmS e90 ?_))
  obtain ⟨t91, e92, hf⟩ := lt_some hf
  refine ev_putRF cls12 (j := 16) (by decide) rfl (ne_new e87) rfl w1267 rfl rfl (mono_ob (mono_eN e90) (mono_ob (mono_eR e85) (mono_ob (mono_eN e83) (mono_ob (mono_eR e78) (mono_ob (mono_eN e76) (mono_ob (mono_eR e71) (mono_ob (mono_eN e69) (mono_ob (mono_eR e64) (mono_ob (mono_eN e62) (mono_ob (mono_eR e57) (mono_ob (mono_eN e55) (mono_ob (mono_eR e50) (mono_ob (mono_eN e48) (mono_ob (mono_eR e43) (mono_ob (mono_eN e41) (mono_ob (mono_eR e36) (mono_ob (mono_eN e34) (mono_ob (mono_eR e29) (mono_ob (mono_eN e27) (mono_ob (mono_eR e22) (mono_ob (mono_eN e20) (mono_ob (mono_eR e15) (mono_ob (mono_eN e13) (mono_ob (mono_eR e8) h6)))))))))))))))))))))))) (fun _ => ⟨rfl, rfl⟩) d12_init_106 (ev_nmS e92 ?_)
  refine ev_aload_n (j := 0) (i := 0) (q := 0) rfl rfl d12_init_109 ?_
  refine ev_sipush cs_200 d12_init_110 ?_
  obtain ⟨b93, e94, hf⟩ := lt_some hf
  obtain ⟨h95, hf⟩ := gd_some hf
  obtain ⟨t96, e97, hf⟩ := lt_some hf
  refine ev_newa_int w59 h95 d12_init_113 (ev_nmR e94 (ev_nmS e97 ?_))
  obtain ⟨t98, e99, hf⟩ := lt_some hf
  refine ev_putRF cls12 (j := 17) (by decide) rfl (ne_new e94) rfl w1268 rfl rfl (mono_ob (mono_eN e97) (mono_ob (mono_eR e92) (mono_ob (mono_eN e90) (mono_ob (mono_eR e85) (mono_ob (mono_eN e83) (mono_ob (mono_eR e78) (mono_ob (mono_eN e76) (mono_ob (mono_eR e71) (mono_ob (mono_eN e69) (mono_ob (mono_eR e64) (mono_ob (mono_eN e62) (mono_ob (mono_eR e57) (mono_ob (mono_eN e55) (mono_ob (mono_eR e50) (mono_ob (mono_eN e48) (mono_ob (mono_eR e43) (mono_ob (mono_eN e41) (mono_ob (mono_eR e36) (mono_ob (mono_eN e34) (mono_ob (mono_eR e29) (mono_ob (mono_eN e27) (mono_ob (mono_eR e22) (mono_ob (mono_eN e20) (mono_ob (mono_eR e15) (mono_ob (mono_eN e13) (mono_ob (mono_eR e8) h6)))))))))))))))))))))))))) (fun _ => ⟨rfl, rfl⟩) d12_init_115 (ev_nmS e99 ?_)
  refine ev_aload_n (j := 0) (i := 0) (q := 0) rfl rfl d12_init_118 ?_
  refine ev_sipush cs_200 d12_init_119 ?_
  obtain ⟨b100, e101, hf⟩ := lt_some hf
  obtain ⟨h102, hf⟩ := gd_some hf
  obtain ⟨t103, e104, hf⟩ := lt_some hf
  refine ev_newa_int w59 h102 d12_init_122 (ev_nmR e101 (ev_nmS e104 ?_))
  obtain ⟨t105, e106, hf⟩ := lt_some hf
  refine ev_putRF cls12 (j := 18) (by decide) rfl (ne_new e101) rfl w1269 rfl rfl (mono_ob (mono_eN e104) (mono_ob (mono_eR e99) (mono_ob (mono_eN e97) (mono_ob (mono_eR e92) (mono_ob (mono_eN e90) (mono_ob (mono_eR e85) (mono_ob (mono_eN e83) (mono_ob (mono_eR e78) (mono_ob (mono_eN e76) (mono_ob (mono_eR e71) (mono_ob (mono_eN e69) (mono_ob (mono_eR e64) (mono_ob (mono_eN e62) (mono_ob (mono_eR e57) (mono_ob (mono_eN e55) (mono_ob (mono_eR e50) (mono_ob (mono_eN e48) (mono_ob (mono_eR e43) (mono_ob (mono_eN e41) (mono_ob (mono_eR e36) (mono_ob (mono_eN e34) (mono_ob (mono_eR e29) (mono_ob (mono_eN e27) (mono_ob (mono_eR e22) (mono_ob (mono_eN e20) (mono_ob (mono_eR e15) (mono_ob (mono_eN e13) (mono_ob (mono_eR e8) h6)))))))))))))))))))))))))))) (fun _ => ⟨rfl, rfl⟩) d12_init_124 (ev_nmS e106 ?_)
  refine ev_aload_n (j := 0) (i := 0) (q := 0) rfl rfl d12_init_127 ?_
  refine ev_sipush cs_200 d12_init_128 ?_
  obtain ⟨b107, e108, hf⟩ := lt_some hf
  obtain ⟨h109, hf⟩ := gd_some hf
  obtain ⟨t110, e111, hf⟩ := lt_some hf
  refine ev_newa_int w59 h109 d12_init_131 (ev_nmR e108 (ev_nmS e111 ?_))
  obtain ⟨t112, e113, hf⟩ := lt_some hf
  refine ev_putRF cls12 (j := 20) (by decide) rfl (ne_new e108) rfl w1271 rfl rfl (mono_ob (mono_eN e111) (mono_ob (mono_eR e106) (mono_ob (mono_eN e104) (mono_ob (mono_eR e99) (mono_ob (mono_eN e97) (mono_ob (mono_eR e92) (mono_ob (mono_eN e90) (mono_ob (mono_eR e85) (mono_ob (mono_eN e83) (mono_ob (mono_eR e78) (mono_ob (mono_eN e76) (mono_ob (mono_eR e71) (mono_ob (mono_eN e69) (mono_ob (mono_eR e64) (mono_ob (mono_eN e62) (mono_ob (mono_eR e57) (mono_ob (mono_eN e55) (mono_ob (mono_eR e50) (mono_ob (mono_eN e48) (mono_ob (mono_eR e43) (mono_ob (mono_eN e41) (mono_ob (mono_eR e36) (mono_ob (mono_eN e34) (mono_ob (mono_eR e29) (mono_ob (mono_eN e27) (mono_ob (mono_eR e22) (mono_ob (mono_eN e20) (mono_ob (mono_eR e15) (mono_ob (mono_eN e13) (mono_ob (mono_eR e8) h6)))))))))))))))))))))))))))))) (fun _ => ⟨rfl, rfl⟩) d12_init_133 (ev_nmS e113 ?_)
  refine ev_aload_n (j := 0) (i := 0) (q := 0) rfl rfl d12_init_136 ?_
  refine ev_sipush cs_200 d12_init_137 ?_
  obtain ⟨b114, e115, hf⟩ := lt_some hf
  obtain ⟨h116, hf⟩ := gd_some hf
  obtain ⟨t117, e118, hf⟩ := lt_some hf
  refine ev_newa_boolean w1489 h116 d12_init_140 (ev_nmR e115 (ev_nmS e118 ?_))
  obtain ⟨t119, e120, hf⟩ := lt_some hf
  refine ev_putRF cls12 (j := 21) (by decide) rfl (ne_new e115) rfl w1272 rfl rfl (mono_ob (mono_eN e118) (mono_ob (mono_eR e113) (mono_ob (mono_eN e111) (mono_ob (mono_eR e106) (mono_ob (mono_eN e104) (mono_ob (mono_eR e99) (mono_ob (mono_eN e97) (mono_ob (mono_eR e92) (mono_ob (mono_eN e90) (mono_ob (mono_eR e85) (mono_ob (mono_eN e83) (mono_ob (mono_eR e78) (mono_ob (mono_eN e76) (mono_ob (mono_eR e71) (mono_ob (mono_eN e69) (mono_ob (mono_eR e64) (mono_ob (mono_eN e62) (mono_ob (mono_eR e57) (mono_ob (mono_eN e55) (mono_ob (mono_eR e50) (mono_ob (mono_eN e48) (mono_ob (mono_eR e43) (mono_ob (mono_eN e41) (mono_ob (mono_eR e36) (mono_ob (mono_eN e34) (mono_ob (mono_eR e29) (mono_ob (mono_eN e27) (mono_ob (mono_eR e22) (mono_ob (mono_eN e20) (mono_ob (mono_eR e15) (mono_ob (mono_eN e13) (mono_ob (mono_eR e8) h6)))))))))))))))))))))))))))))))) (fun _ => ⟨rfl, rfl⟩) d12_init_142 (ev_nmS e120 ?_)
  refine ev_aload_n (j := 0) (i := 0) (q := 0) rfl rfl d12_init_145 ?_
  refine ev_sipush cs_200 d12_init_146 ?_
  obtain ⟨b121, e122, hf⟩ := lt_some hf
  obtain ⟨h123, hf⟩ := gd_some hf
  obtain ⟨t124, e125, hf⟩ := lt_some hf
  refine ev_newa_int w59 h123 d12_init_149 (ev_nmR e122 (ev_nmS e125 ?_))
  obtain ⟨t126, e127, hf⟩ := lt_some hf
  refine ev_putRF cls12 (j := 22) (by decide) rfl (ne_new e122) rfl w1273 rfl rfl (mono_ob (mono_eN e125) (mono_ob (mono_eR e120) (mono_ob (mono_eN e118) (mono_ob (mono_eR e113) (mono_ob (mono_eN e111) (mono_ob (mono_eR e106) (mono_ob (mono_eN e104) (mono_ob (mono_eR e99) (mono_ob (mono_eN e97) (mono_ob (mono_eR e92) (mono_ob (mono_eN e90) (mono_ob (mono_eR e85) (mono_ob (mono_eN e83) (mono_ob (mono_eR e78) (mono_ob (mono_eN e76) (mono_ob (mono_eR e71) (mono_ob (mono_eN e69) (mono_ob (mono_eR e64) (mono_ob (mono_eN e62) (mono_ob (mono_eR e57) (mono_ob (mono_eN e55) (mono_ob (mono_eR e50) (mono_ob (mono_eN e48) (mono_ob (mono_eR e43) (mono_ob (mono_eN e41) (mono_ob (mono_eR e36) (mono_ob (mono_eN e34) (mono_ob (mono_eR e29) (mono_ob (mono_eN e27) (mono_ob (mono_eR e22) (mono_ob (mono_eN e20) (mono_ob (mono_eR e15) (mono_ob (mono_eN e13) (mono_ob (mono_eR e8) h6)))))))))))))))))))))))))))))))))) (fun _ => ⟨rfl, rfl⟩) d12_init_151 (ev_nmS e127 ?_)
  refine ev_aload_n (j := 0) (i := 0) (q := 0) rfl rfl d12_init_154 ?_
  refine ev_sipush cs_10500 d12_init_155 ?_
  obtain ⟨b128, e129, hf⟩ := lt_some hf
  obtain ⟨h130, hf⟩ := gd_some hf
  obtain ⟨t131, e132, hf⟩ := lt_some hf
  refine ev_newa_int w59 h130 d12_init_158 (ev_nmR e129 (ev_nmS e132 ?_))
  obtain ⟨t133, e134, hf⟩ := lt_some hf
  refine ev_putRF cls12 (j := 23) (by decide) rfl (ne_new e129) rfl w1274 rfl rfl (mono_ob (mono_eN e132) (mono_ob (mono_eR e127) (mono_ob (mono_eN e125) (mono_ob (mono_eR e120) (mono_ob (mono_eN e118) (mono_ob (mono_eR e113) (mono_ob (mono_eN e111) (mono_ob (mono_eR e106) (mono_ob (mono_eN e104) (mono_ob (mono_eR e99) (mono_ob (mono_eN e97) (mono_ob (mono_eR e92) (mono_ob (mono_eN e90) (mono_ob (mono_eR e85) (mono_ob (mono_eN e83) (mono_ob (mono_eR e78) (mono_ob (mono_eN e76) (mono_ob (mono_eR e71) (mono_ob (mono_eN e69) (mono_ob (mono_eR e64) (mono_ob (mono_eN e62) (mono_ob (mono_eR e57) (mono_ob (mono_eN e55) (mono_ob (mono_eR e50) (mono_ob (mono_eN e48) (mono_ob (mono_eR e43) (mono_ob (mono_eN e41) (mono_ob (mono_eR e36) (mono_ob (mono_eN e34) (mono_ob (mono_eR e29) (mono_ob (mono_eN e27) (mono_ob (mono_eR e22) (mono_ob (mono_eN e20) (mono_ob (mono_eR e15) (mono_ob (mono_eN e13) (mono_ob (mono_eR e8) h6)))))))))))))))))))))))))))))))))))) (fun _ => ⟨rfl, rfl⟩) d12_init_160 (ev_nmS e134 ?_)
  refine ev_aload_n (j := 0) (i := 0) (q := 0) rfl rfl d12_init_163 ?_
  refine ev_bipush cb_25 d12_init_164 ?_
  obtain ⟨b135, e136, hf⟩ := lt_some hf
  obtain ⟨h137, hf⟩ := gd_some hf
  obtain ⟨t138, e139, hf⟩ := lt_some hf
  refine ev_newa_int w59 h137 d12_init_166 (ev_nmR e136 (ev_nmS e139 ?_))
  obtain ⟨t140, e141, hf⟩ := lt_some hf
  refine ev_putRF cls12 (j := 24) (by decide) rfl (ne_new e136) rfl w1275 rfl rfl (mono_ob (mono_eN e139) (mono_ob (mono_eR e134) (mono_ob (mono_eN e132) (mono_ob (mono_eR e127) (mono_ob (mono_eN e125) (mono_ob (mono_eR e120) (mono_ob (mono_eN e118) (mono_ob (mono_eR e113) (mono_ob (mono_eN e111) (mono_ob (mono_eR e106) (mono_ob (mono_eN e104) (mono_ob (mono_eR e99) (mono_ob (mono_eN e97) (mono_ob (mono_eR e92) (mono_ob (mono_eN e90) (mono_ob (mono_eR e85) (mono_ob (mono_eN e83) (mono_ob (mono_eR e78) (mono_ob (mono_eN e76) (mono_ob (mono_eR e71) (mono_ob (mono_eN e69) (mono_ob (mono_eR e64) (mono_ob (mono_eN e62) (mono_ob (mono_eR e57) (mono_ob (mono_eN e55) (mono_ob (mono_eR e50) (mono_ob (mono_eN e48) (mono_ob (mono_eR e43) (mono_ob (mono_eN e41) (mono_ob (mono_eR e36) (mono_ob (mono_eN e34) (mono_ob (mono_eR e29) (mono_ob (mono_eN e27) (mono_ob (mono_eR e22) (mono_ob (mono_eN e20) (mono_ob (mono_eR e15) (mono_ob (mono_eN e13) (mono_ob (mono_eR e8) h6)))))))))))))))))))))))))))))))))))))) (fun _ => ⟨rfl, rfl⟩) d12_init_168 (ev_nmS e141 ?_)
  refine ev_aload_n (j := 0) (i := 0) (q := 0) rfl rfl d12_init_171 ?_
  refine ev_bipush cb_25 d12_init_172 ?_
  obtain ⟨b142, e143, hf⟩ := lt_some hf
  obtain ⟨h144, hf⟩ := gd_some hf
  obtain ⟨t145, e146, hf⟩ := lt_some hf
  refine ev_newa_int w59 h144 d12_init_174 (ev_nmR e143 (ev_nmS e146 ?_))
  obtain ⟨t147, e148, hf⟩ := lt_some hf
  refine ev_putRF cls12 (j := 25) (by decide) rfl (ne_new e143) rfl w1276 rfl rfl (mono_ob (mono_eN e146) (mono_ob (mono_eR e141) (mono_ob (mono_eN e139) (mono_ob (mono_eR e134) (mono_ob (mono_eN e132) (mono_ob (mono_eR e127) (mono_ob (mono_eN e125) (mono_ob (mono_eR e120) (mono_ob (mono_eN e118) (mono_ob (mono_eR e113) (mono_ob (mono_eN e111) (mono_ob (mono_eR e106) (mono_ob (mono_eN e104) (mono_ob (mono_eR e99) (mono_ob (mono_eN e97) (mono_ob (mono_eR e92) (mono_ob (mono_eN e90) (mono_ob (mono_eR e85) (mono_ob (mono_eN e83) (mono_ob (mono_eR e78) (mono_ob (mono_eN e76) (mono_ob (mono_eR e71) (mono_ob (mono_eN e69) (mono_ob (mono_eR e64) (mono_ob (mono_eN e62) (mono_ob (mono_eR e57) (mono_ob (mono_eN e55) (mono_ob (mono_eR e50) (mono_ob (mono_eN e48) (mono_ob (mono_eR e43) (mono_ob (mono_eN e41) (mono_ob (mono_eR e36) (mono_ob (mono_eN e34) (mono_ob (mono_eR e29) (mono_ob (mono_eN e27) (mono_ob (mono_eR e22) (mono_ob (mono_eN e20) (mono_ob (mono_eR e15) (mono_ob (mono_eN e13) (mono_ob (mono_eR e8) h6)))))))))))))))))))))))))))))))))))))))) (fun _ => ⟨rfl, rfl⟩) d12_init_176 (ev_nmS e148 ?_)
  refine ev_aload_n (j := 0) (i := 0) (q := 0) rfl rfl d12_init_179 ?_
  refine ev_sipush cs_500 d12_init_180 ?_
  obtain ⟨b149, e150, hf⟩ := lt_some hf
  obtain ⟨h151, hf⟩ := gd_some hf
  obtain ⟨t152, e153, hf⟩ := lt_some hf
  refine ev_newa_int w59 h151 d12_init_183 (ev_nmR e150 (ev_nmS e153 ?_))
  obtain ⟨t154, e155, hf⟩ := lt_some hf
  refine ev_putRF cls12 (j := 26) (by decide) rfl (ne_new e150) rfl w1277 rfl rfl (mono_ob (mono_eN e153) (mono_ob (mono_eR e148) (mono_ob (mono_eN e146) (mono_ob (mono_eR e141) (mono_ob (mono_eN e139) (mono_ob (mono_eR e134) (mono_ob (mono_eN e132) (mono_ob (mono_eR e127) (mono_ob (mono_eN e125) (mono_ob (mono_eR e120) (mono_ob (mono_eN e118) (mono_ob (mono_eR e113) (mono_ob (mono_eN e111) (mono_ob (mono_eR e106) (mono_ob (mono_eN e104) (mono_ob (mono_eR e99) (mono_ob (mono_eN e97) (mono_ob (mono_eR e92) (mono_ob (mono_eN e90) (mono_ob (mono_eR e85) (mono_ob (mono_eN e83) (mono_ob (mono_eR e78) (mono_ob (mono_eN e76) (mono_ob (mono_eR e71) (mono_ob (mono_eN e69) (mono_ob (mono_eR e64) (mono_ob (mono_eN e62) (mono_ob (mono_eR e57) (mono_ob (mono_eN e55) (mono_ob (mono_eR e50) (mono_ob (mono_eN e48) (mono_ob (mono_eR e43) (mono_ob (mono_eN e41) (mono_ob (mono_eR e36) (mono_ob (mono_eN e34) (mono_ob (mono_eR e29) (mono_ob (mono_eN e27) (mono_ob (mono_eR e22) (mono_ob (mono_eN e20) (mono_ob (mono_eR e15) (mono_ob (mono_eN e13) (mono_ob (mono_eR e8) h6)))))))))))))))))))))))))))))))))))))))))) (fun _ => ⟨rfl, rfl⟩) d12_init_185 (ev_nmS e155 ?_)
  refine ev_aload_n (j := 0) (i := 0) (q := 0) rfl rfl d12_init_188 ?_
  refine ev_sipush cs_500 d12_init_189 ?_
  obtain ⟨b156, e157, hf⟩ := lt_some hf
  obtain ⟨h158, hf⟩ := gd_some hf
  obtain ⟨t159, e160, hf⟩ := lt_some hf
  refine ev_newa_int w59 h158 d12_init_192 (ev_nmR e157 (ev_nmS e160 ?_))
  obtain ⟨t161, e162, hf⟩ := lt_some hf
  refine ev_putRF cls12 (j := 27) (by decide) rfl (ne_new e157) rfl w1278 rfl rfl (mono_ob (mono_eN e160) (mono_ob (mono_eR e155) (mono_ob (mono_eN e153) (mono_ob (mono_eR e148) (mono_ob (mono_eN e146) (mono_ob (mono_eR e141) (mono_ob (mono_eN e139) (mono_ob (mono_eR e134) (mono_ob (mono_eN e132) (mono_ob (mono_eR e127) (mono_ob (mono_eN e125) (mono_ob (mono_eR e120) (mono_ob (mono_eN e118) (mono_ob (mono_eR e113) (mono_ob (mono_eN e111) (mono_ob (mono_eR e106) (mono_ob (mono_eN e104) (mono_ob (mono_eR e99) (mono_ob (mono_eN e97) (mono_ob (mono_eR e92) (mono_ob (mono_eN e90) (mono_ob (mono_eR e85) (mono_ob (mono_eN e83) (mono_ob (mono_eR e78) (mono_ob (mono_eN e76) (mono_ob (mono_eR e71) (mono_ob (mono_eN e69) (mono_ob (mono_eR e64) (mono_ob (mono_eN e62) (mono_ob (mono_eR e57) (mono_ob (mono_eN e55) (mono_ob (mono_eR e50) (mono_ob (mono_eN e48) (mono_ob (mono_eR e43) (mono_ob (mono_eN e41) (mono_ob (mono_eR e36) (mono_ob (mono_eN e34) (mono_ob (mono_eR e29) (mono_ob (mono_eN e27) (mono_ob (mono_eR e22) (mono_ob (mono_eN e20) (mono_ob (mono_eR e15) (mono_ob (mono_eN e13) (mono_ob (mono_eR e8) h6)))))))))))))))))))))))))))))))))))))))))))) (fun _ => ⟨rfl, rfl⟩) d12_init_194 (ev_nmS e162 ?_)
  refine ev_aload_n (j := 0) (i := 0) (q := 0) rfl rfl d12_init_197 ?_
  refine ev_sipush cs_500 d12_init_198 ?_
  obtain ⟨b163, e164, hf⟩ := lt_some hf
  obtain ⟨h165, hf⟩ := gd_some hf
  obtain ⟨t166, e167, hf⟩ := lt_some hf
  refine ev_newa_int w59 h165 d12_init_201 (ev_nmR e164 (ev_nmS e167 ?_))
  obtain ⟨t168, e169, hf⟩ := lt_some hf
  refine ev_putRF cls12 (j := 28) (by decide) rfl (ne_new e164) rfl w1279 rfl rfl (mono_ob (mono_eN e167) (mono_ob (mono_eR e162) (mono_ob (mono_eN e160) (mono_ob (mono_eR e155) (mono_ob (mono_eN e153) (mono_ob (mono_eR e148) (mono_ob (mono_eN e146) (mono_ob (mono_eR e141) (mono_ob (mono_eN e139) (mono_ob (mono_eR e134) (mono_ob (mono_eN e132) (mono_ob (mono_eR e127) (mono_ob (mono_eN e125) (mono_ob (mono_eR e120) (mono_ob (mono_eN e118) (mono_ob (mono_eR e113) (mono_ob (mono_eN e111) (mono_ob (mono_eR e106) (mono_ob (mono_eN e104) (mono_ob (mono_eR e99) (mono_ob (mono_eN e97) (mono_ob (mono_eR e92) (mono_ob (mono_eN e90) (mono_ob (mono_eR e85) (mono_ob (mono_eN e83) (mono_ob (mono_eR e78) (mono_ob (mono_eN e76) (mono_ob (mono_eR e71) (mono_ob (mono_eN e69) (mono_ob (mono_eR e64) (mono_ob (mono_eN e62) (mono_ob (mono_eR e57) (mono_ob (mono_eN e55) (mono_ob (mono_eR e50) (mono_ob (mono_eN e48) (mono_ob (mono_eR e43) (mono_ob (mono_eN e41) (mono_ob (mono_eR e36) (mono_ob (mono_eN e34) (mono_ob (mono_eR e29) (mono_ob (mono_eN e27) (mono_ob (mono_eR e22) (mono_ob (mono_eN e20) (mono_ob (mono_eR e15) (mono_ob (mono_eN e13) (mono_ob (mono_eR e8) h6)))))))))))))))))))))))))))))))))))))))))))))) (fun _ => ⟨rfl, rfl⟩) d12_init_203 (ev_nmS e169 ?_)
  refine ev_aload_n (j := 0) (i := 0) (q := 0) rfl rfl d12_init_206 ?_
  refine ev_sipush cs_500 d12_init_207 ?_
  obtain ⟨b170, e171, hf⟩ := lt_some hf
  obtain ⟨h172, hf⟩ := gd_some hf
  obtain ⟨t173, e174, hf⟩ := lt_some hf
  refine ev_newa_int w59 h172 d12_init_210 (ev_nmR e171 (ev_nmS e174 ?_))
  obtain ⟨t175, e176, hf⟩ := lt_some hf
  refine ev_putRF cls12 (j := 29) (by decide) rfl (ne_new e171) rfl w1280 rfl rfl (mono_ob (mono_eN e174) (mono_ob (mono_eR e169) (mono_ob (mono_eN e167) (mono_ob (mono_eR e162) (mono_ob (mono_eN e160) (mono_ob (mono_eR e155) (mono_ob (mono_eN e153) (mono_ob (mono_eR e148) (mono_ob (mono_eN e146) (mono_ob (mono_eR e141) (mono_ob (mono_eN e139) (mono_ob (mono_eR e134) (mono_ob (mono_eN e132) (mono_ob (mono_eR e127) (mono_ob (mono_eN e125) (mono_ob (mono_eR e120) (mono_ob (mono_eN e118) (mono_ob (mono_eR e113) (mono_ob (mono_eN e111) (mono_ob (mono_eR e106) (mono_ob (mono_eN e104) (mono_ob (mono_eR e99) (mono_ob (mono_eN e97) (mono_ob (mono_eR e92) (mono_ob (mono_eN e90) (mono_ob (mono_eR e85) (mono_ob (mono_eN e83) (mono_ob (mono_eR e78) (mono_ob (mono_eN e76) (mono_ob (mono_eR e71) (mono_ob (mono_eN e69) (mono_ob (mono_eR e64) (mono_ob (mono_eN e62) (mono_ob (mono_eR e57) (mono_ob (mono_eN e55) (mono_ob (mono_eR e50) (mono_ob (mono_eN e48) (mono_ob (mono_eR e43) (mono_ob (mono_eN e41) (mono_ob (mono_eR e36) (mono_ob (mono_eN e34) (mono_ob (mono_eR e29) (mono_ob (mono_eN e27) (mono_ob (mono_eR e22) (mono_ob (mono_eN e20) (mono_ob (mono_eR e15) (mono_ob (mono_eN e13) (mono_ob (mono_eR e8) h6)))))))))))))))))))))))))))))))))))))))))))))))) (fun _ => ⟨rfl, rfl⟩) d12_init_212 (ev_nmS e176 ?_)
  refine ev_aload_n (j := 0) (i := 0) (q := 0) rfl rfl d12_init_215 ?_
  refine ev_sipush cs_500 d12_init_216 ?_
  obtain ⟨b177, e178, hf⟩ := lt_some hf
  obtain ⟨h179, hf⟩ := gd_some hf
  obtain ⟨t180, e181, hf⟩ := lt_some hf
  refine ev_newa_int w59 h179 d12_init_219 (ev_nmR e178 (ev_nmS e181 ?_))
  obtain ⟨t182, e183, hf⟩ := lt_some hf
  refine ev_putRF cls12 (j := 30) (by decide) rfl (ne_new e178) rfl w1281 rfl rfl (mono_ob (mono_eN e181) (mono_ob (mono_eR e176) (mono_ob (mono_eN e174) (mono_ob (mono_eR e169) (mono_ob (mono_eN e167) (mono_ob (mono_eR e162) (mono_ob (mono_eN e160) (mono_ob (mono_eR e155) (mono_ob (mono_eN e153) (mono_ob (mono_eR e148) (mono_ob (mono_eN e146) (mono_ob (mono_eR e141) (mono_ob (mono_eN e139) (mono_ob (mono_eR e134) (mono_ob (mono_eN e132) (mono_ob (mono_eR e127) (mono_ob (mono_eN e125) (mono_ob (mono_eR e120) (mono_ob (mono_eN e118) (mono_ob (mono_eR e113) (mono_ob (mono_eN e111) (mono_ob (mono_eR e106) (mono_ob (mono_eN e104) (mono_ob (mono_eR e99) (mono_ob (mono_eN e97) (mono_ob (mono_eR e92) (mono_ob (mono_eN e90) (mono_ob (mono_eR e85) (mono_ob (mono_eN e83) (mono_ob (mono_eR e78) (mono_ob (mono_eN e76) (mono_ob (mono_eR e71) (mono_ob (mono_eN e69) (mono_ob (mono_eR e64) (mono_ob (mono_eN e62) (mono_ob (mono_eR e57) (mono_ob (mono_eN e55) (mono_ob (mono_eR e50) (mono_ob (mono_eN e48) (mono_ob (mono_eR e43) (mono_ob (mono_eN e41) (mono_ob (mono_eR e36) (mono_ob (mono_eN e34) (mono_ob (mono_eR e29) (mono_ob (mono_eN e27) (mono_ob (mono_eR e22) (mono_ob (mono_eN e20) (mono_ob (mono_eR e15) (mono_ob (mono_eN e13) (mono_ob (mono_eR e8) h6)))))))))))))))))))))))))))))))))))))))))))))))))) (fun _ => ⟨rfl, rfl⟩) d12_init_221 (ev_nmS e183 ?_)
  refine ev_aload_n (j := 0) (i := 0) (q := 0) rfl rfl d12_init_224 ?_
  refine ev_bipush cb_25 d12_init_225 ?_
  obtain ⟨b184, e185, hf⟩ := lt_some hf
  obtain ⟨h186, hf⟩ := gd_some hf
  obtain ⟨t187, e188, hf⟩ := lt_some hf
  refine ev_newa_int w59 h186 d12_init_227 (ev_nmR e185 (ev_nmS e188 ?_))
  obtain ⟨t189, e190, hf⟩ := lt_some hf
  refine ev_putRF cls12 (j := 31) (by decide) rfl (ne_new e185) rfl w1282 rfl rfl (mono_ob (mono_eN e188) (mono_ob (mono_eR e183) (mono_ob (mono_eN e181) (mono_ob (mono_eR e176) (mono_ob (mono_eN e174) (mono_ob (mono_eR e169) (mono_ob (mono_eN e167) (mono_ob (mono_eR e162) (mono_ob (mono_eN e160) (mono_ob (mono_eR e155) (mono_ob (mono_eN e153) (mono_ob (mono_eR e148) (mono_ob (mono_eN e146) (mono_ob (mono_eR e141) (mono_ob (mono_eN e139) (mono_ob (mono_eR e134) (mono_ob (mono_eN e132) (mono_ob (mono_eR e127) (mono_ob (mono_eN e125) (mono_ob (mono_eR e120) (mono_ob (mono_eN e118) (mono_ob (mono_eR e113) (mono_ob (mono_eN e111) (mono_ob (mono_eR e106) (mono_ob (mono_eN e104) (mono_ob (mono_eR e99) (mono_ob (mono_eN e97) (mono_ob (mono_eR e92) (mono_ob (mono_eN e90) (mono_ob (mono_eR e85) (mono_ob (mono_eN e83) (mono_ob (mono_eR e78) (mono_ob (mono_eN e76) (mono_ob (mono_eR e71) (mono_ob (mono_eN e69) (mono_ob (mono_eR e64) (mono_ob (mono_eN e62) (mono_ob (mono_eR e57) (mono_ob (mono_eN e55) (mono_ob (mono_eR e50) (mono_ob (mono_eN e48) (mono_ob (mono_eR e43) (mono_ob (mono_eN e41) (mono_ob (mono_eR e36) (mono_ob (mono_eN e34) (mono_ob (mono_eR e29) (mono_ob (mono_eN e27) (mono_ob (mono_eR e22) (mono_ob (mono_eN e20) (mono_ob (mono_eR e15) (mono_ob (mono_eN e13) (mono_ob (mono_eR e8) h6)))))))))))))))))))))))))))))))))))))))))))))))))))) (fun _ => ⟨rfl, rfl⟩) d12_init_229 (ev_nmS e190 ?_)
  refine ev_aload_n (j := 0) (i := 0) (q := 0) rfl rfl d12_init_232 ?_
  refine ev_bipush cb_25 d12_init_233 ?_
  obtain ⟨b191, e192, hf⟩ := lt_some hf
  obtain ⟨h193, hf⟩ := gd_some hf
  obtain ⟨t194, e195, hf⟩ := lt_some hf
  refine ev_newa_int w59 h193 d12_init_235 (ev_nmR e192 (ev_nmS e195 ?_))
  obtain ⟨t196, e197, hf⟩ := lt_some hf
  refine ev_putRF cls12 (j := 32) (by decide) rfl (ne_new e192) rfl w1283 rfl rfl (mono_ob (mono_eN e195) (mono_ob (mono_eR e190) (mono_ob (mono_eN e188) (mono_ob (mono_eR e183) (mono_ob (mono_eN e181) (mono_ob (mono_eR e176) (mono_ob (mono_eN e174) (mono_ob (mono_eR e169) (mono_ob (mono_eN e167) (mono_ob (mono_eR e162) (mono_ob (mono_eN e160) (mono_ob (mono_eR e155) (mono_ob (mono_eN e153) (mono_ob (mono_eR e148) (mono_ob (mono_eN e146) (mono_ob (mono_eR e141) (mono_ob (mono_eN e139) (mono_ob (mono_eR e134) (mono_ob (mono_eN e132) (mono_ob (mono_eR e127) (mono_ob (mono_eN e125) (mono_ob (mono_eR e120) (mono_ob (mono_eN e118) (mono_ob (mono_eR e113) (mono_ob (mono_eN e111) (mono_ob (mono_eR e106) (mono_ob (mono_eN e104) (mono_ob (mono_eR e99) (mono_ob (mono_eN e97) (mono_ob (mono_eR e92) (mono_ob (mono_eN e90) (mono_ob (mono_eR e85) (mono_ob (mono_eN e83) (mono_ob (mono_eR e78) (mono_ob (mono_eN e76) (mono_ob (mono_eR e71) (mono_ob (mono_eN e69) (mono_ob (mono_eR e64) (mono_ob (mono_eN e62) (mono_ob (mono_eR e57) (mono_ob (mono_eN e55) (mono_ob (mono_eR e50) (mono_ob (mono_eN e48) (mono_ob (mono_eR e43) (mono_ob (mono_eN e41) (mono_ob (mono_eR e36) (mono_ob (mono_eN e34) (mono_ob (mono_eR e29) (mono_ob (mono_eN e27) (mono_ob (mono_eR e22) (mono_ob (mono_eN e20) (mono_ob (mono_eR e15) (mono_ob (mono_eN e13) (mono_ob (mono_eR e8) h6)))))))))))))))))))))))))))))))))))))))))))))))))))))) (fun _ => ⟨rfl, rfl⟩) d12_init_237 (ev_nmS e197 ?_)
  refine ev_aload_n (j := 0) (i := 0) (q := 0) rfl rfl d12_init_240 ?_
  refine ev_iconst ci_2 d12_init_241 ?_
  obtain ⟨b198, e199, hf⟩ := lt_some hf
  obtain ⟨h200, hf⟩ := gd_some hf
  obtain ⟨t201, e202, hf⟩ := lt_some hf
  refine ev_newa_int w59 h200 d12_init_242 (ev_nmR e199 (ev_nmS e202 ?_))
  obtain ⟨t203, e204, hf⟩ := lt_some hf
  refine ev_putRF cls12 (j := 33) (by decide) rfl (ne_new e199) rfl w1284 rfl rfl (mono_ob (mono_eN e202) (mono_ob (mono_eR e197) (mono_ob (mono_eN e195) (mono_ob (mono_eR e190) (mono_ob (mono_eN e188) (mono_ob (mono_eR e183) (mono_ob (mono_eN e181) (mono_ob (mono_eR e176) (mono_ob (mono_eN e174) (mono_ob (mono_eR e169) (mono_ob (mono_eN e167) (mono_ob (mono_eR e162) (mono_ob (mono_eN e160) (mono_ob (mono_eR e155) (mono_ob (mono_eN e153) (mono_ob (mono_eR e148) (mono_ob (mono_eN e146) (mono_ob (mono_eR e141) (mono_ob (mono_eN e139) (mono_ob (mono_eR e134) (mono_ob (mono_eN e132) (mono_ob (mono_eR e127) (mono_ob (mono_eN e125) (mono_ob (mono_eR e120) (mono_ob (mono_eN e118) (mono_ob (mono_eR e113) (mono_ob (mono_eN e111) (mono_ob (mono_eR e106) (mono_ob (mono_eN e104) (mono_ob (mono_eR e99) (mono_ob (mono_eN e97) (mono_ob (mono_eR e92) (mono_ob (mono_eN e90) (mono_ob (mono_eR e85) (mono_ob (mono_eN e83) (mono_ob (mono_eR e78) (mono_ob (mono_eN e76) (mono_ob (mono_eR e71) (mono_ob (mono_eN e69) (mono_ob (mono_eR e64) (mono_ob (mono_eN e62) (mono_ob (mono_eR e57) (mono_ob (mono_eN e55) (mono_ob (mono_eR e50) (mono_ob (mono_eN e48) (mono_ob (mono_eR e43) (mono_ob (mono_eN e41) (mono_ob (mono_eR e36) (mono_ob (mono_eN e34) (mono_ob (mono_eR e29) (mono_ob (mono_eN e27) (mono_ob (mono_eR e22) (mono_ob (mono_eN e20) (mono_ob (mono_eR e15) (mono_ob (mono_eN e13) (mono_ob (mono_eR e8) h6)))))))))))))))))))))))))))))))))))))))))))))))))))))))) (fun _ => ⟨rfl, rfl⟩) d12_init_244 (ev_nmS e204 ?_)
  refine ev_aload_n (j := 0) (i := 0) (q := 0) rfl rfl d12_init_247 ?_
  refine ev_sipush cs_400 d12_init_248 ?_
  obtain ⟨b205, e206, hf⟩ := lt_some hf
  obtain ⟨h207, hf⟩ := gd_some hf
  obtain ⟨t208, e209, hf⟩ := lt_some hf
  refine ev_newa_byte w313 h207 d12_init_251 (ev_nmR e206 (ev_nmS e209 ?_))
  obtain ⟨t210, e211, hf⟩ := lt_some hf
  refine ev_putRF cls12 (j := 34) (by decide) rfl (ne_new e206) rfl w1285 rfl rfl (mono_ob (mono_eN e209) (mono_ob (mono_eR e204) (mono_ob (mono_eN e202) (mono_ob (mono_eR e197) (mono_ob (mono_eN e195) (mono_ob (mono_eR e190) (mono_ob (mono_eN e188) (mono_ob (mono_eR e183) (mono_ob (mono_eN e181) (mono_ob (mono_eR e176) (mono_ob (mono_eN e174) (mono_ob (mono_eR e169) (mono_ob (mono_eN e167) (mono_ob (mono_eR e162) (mono_ob (mono_eN e160) (mono_ob (mono_eR e155) (mono_ob (mono_eN e153) (mono_ob (mono_eR e148) (mono_ob (mono_eN e146) (mono_ob (mono_eR e141) (mono_ob (mono_eN e139) (mono_ob (mono_eR e134) (mono_ob (mono_eN e132) (mono_ob (mono_eR e127) (mono_ob (mono_eN e125) (mono_ob (mono_eR e120) (mono_ob (mono_eN e118) (mono_ob (mono_eR e113) (mono_ob (mono_eN e111) (mono_ob (mono_eR e106) (mono_ob (mono_eN e104) (mono_ob (mono_eR e99) (mono_ob (mono_eN e97) (mono_ob (mono_eR e92) (mono_ob (mono_eN e90) (mono_ob (mono_eR e85) (mono_ob (mono_eN e83) (mono_ob (mono_eR e78) (mono_ob (mono_eN e76) (mono_ob (mono_eR e71) (mono_ob (mono_eN e69) (mono_ob (mono_eR e64) (mono_ob (mono_eN e62) (mono_ob (mono_eR e57) (mono_ob (mono_eN e55) (mono_ob (mono_eR e50) (mono_ob (mono_eN e48) (mono_ob (mono_eR e43) (mono_ob (mono_eN e41) (mono_ob (mono_eR e36) (mono_ob (mono_eN e34) (mono_ob (mono_eR e29) (mono_ob (mono_eN e27) (mono_ob (mono_eR e22) (mono_ob (mono_eN e20) (mono_ob (mono_eR e15) (mono_ob (mono_eN e13) (mono_ob (mono_eR e8) h6)))))))))))))))))))))))))))))))))))))))))))))))))))))))))) (fun _ => ⟨rfl, rfl⟩) d12_init_253 (ev_nmS e211 ?_)
  refine ev_aload_n (j := 0) (i := 0) (q := 0) rfl rfl d12_init_256 ?_
  refine ev_iconst ci_m1 d12_init_257 ?_
  obtain ⟨t212, e213, hf⟩ := lt_some hf
  refine ev_putI cls12 (j := 42) (by decide) rfl rfl w1293 (mono_ob (mono_eR e211) (mono_ob (mono_eN e209) (mono_ob (mono_eR e204) (mono_ob (mono_eN e202) (mono_ob (mono_eR e197) (mono_ob (mono_eN e195) (mono_ob (mono_eR e190) (mono_ob (mono_eN e188) (mono_ob (mono_eR e183) (mono_ob (mono_eN e181) (mono_ob (mono_eR e176) (mono_ob (mono_eN e174) (mono_ob (mono_eR e169) (mono_ob (mono_eN e167) (mono_ob (mono_eR e162) (mono_ob (mono_eN e160) (mono_ob (mono_eR e155) (mono_ob (mono_eN e153) (mono_ob (mono_eR e148) (mono_ob (mono_eN e146) (mono_ob (mono_eR e141) (mono_ob (mono_eN e139) (mono_ob (mono_eR e134) (mono_ob (mono_eN e132) (mono_ob (mono_eR e127) (mono_ob (mono_eN e125) (mono_ob (mono_eR e120) (mono_ob (mono_eN e118) (mono_ob (mono_eR e113) (mono_ob (mono_eN e111) (mono_ob (mono_eR e106) (mono_ob (mono_eN e104) (mono_ob (mono_eR e99) (mono_ob (mono_eN e97) (mono_ob (mono_eR e92) (mono_ob (mono_eN e90) (mono_ob (mono_eR e85) (mono_ob (mono_eN e83) (mono_ob (mono_eR e78) (mono_ob (mono_eN e76) (mono_ob (mono_eR e71) (mono_ob (mono_eN e69) (mono_ob (mono_eR e64) (mono_ob (mono_eN e62) (mono_ob (mono_eR e57) (mono_ob (mono_eN e55) (mono_ob (mono_eR e50) (mono_ob (mono_eN e48) (mono_ob (mono_eR e43) (mono_ob (mono_eN e41) (mono_ob (mono_eR e36) (mono_ob (mono_eN e34) (mono_ob (mono_eR e29) (mono_ob (mono_eN e27) (mono_ob (mono_eR e22) (mono_ob (mono_eN e20) (mono_ob (mono_eR e15) (mono_ob (mono_eN e13) (mono_ob (mono_eR e8) h6))))))))))))))))))))))))))))))))))))))))))))))))))))))))))) (fun _ => ⟨rfl, rfl⟩) d12_init_258 (ev_nmS e213 ?_)
  refine ev_aload_n (j := 0) (i := 0) (q := 0) rfl rfl d12_init_261 ?_
  refine ev_bipush cb_48 d12_init_262 ?_
  obtain ⟨b214, e215, hf⟩ := lt_some hf
  obtain ⟨h216, hf⟩ := gd_some hf
  obtain ⟨t217, e218, hf⟩ := lt_some hf
  refine ev_newa_byte w313 h216 d12_init_264 (ev_nmR e215 (ev_nmS e218 ?_))
  obtain ⟨t219, e220, hf⟩ := lt_some hf
  refine ev_putRF cls12 (j := 45) (by decide) rfl (ne_new e215) rfl w1296 rfl rfl (mono_ob (mono_eN e218) (mono_ob (mono_eI e213) (mono_ob (mono_eR e211) (mono_ob (mono_eN e209) (mono_ob (mono_eR e204) (mono_ob (mono_eN e202) (mono_ob (mono_eR e197) (mono_ob (mono_eN e195) (mono_ob (mono_eR e190) (mono_ob (mono_eN e188) (mono_ob (mono_eR e183) (mono_ob (mono_eN e181) (mono_ob (mono_eR e176) (mono_ob (mono_eN e174) (mono_ob (mono_eR e169) (mono_ob (mono_eN e167) (mono_ob (mono_eR e162) (mono_ob (mono_eN e160) (mono_ob (mono_eR e155) (mono_ob (mono_eN e153) (mono_ob (mono_eR e148) (mono_ob (mono_eN e146) (mono_ob (mono_eR e141) (mono_ob (mono_eN e139) (mono_ob (mono_eR e134) (mono_ob (mono_eN e132) (mono_ob (mono_eR e127) (mono_ob (mono_eN e125) (mono_ob (mono_eR e120) (mono_ob (mono_eN e118) (mono_ob (mono_eR e113) (mono_ob (mono_eN e111) (mono_ob (mono_eR e106) (mono_ob (mono_eN e104) (mono_ob (mono_eR e99) (mono_ob (mono_eN e97) (mono_ob (mono_eR e92) (mono_ob (mono_eN e90) (mono_ob (mono_eR e85) (mono_ob (mono_eN e83) (mono_ob (mono_eR e78) (mono_ob (mono_eN e76) (mono_ob (mono_eR e71) (mono_ob (mono_eN e69) (mono_ob (mono_eR e64) (mono_ob (mono_eN e62) (mono_ob (mono_eR e57) (mono_ob (mono_eN e55) (mono_ob (mono_eR e50) (mono_ob (mono_eN e48) (mono_ob (mono_eR e43) (mono_ob (mono_eN e41) (mono_ob (mono_eR e36) (mono_ob (mono_eN e34) (mono_ob (mono_eR e29) (mono_ob (mono_eN e27) (mono_ob (mono_eR e22) (mono_ob (mono_eN e20) (mono_ob (mono_eR e15) (mono_ob (mono_eN e13) (mono_ob (mono_eR e8) h6))))))))))))))))))))))))))))))))))))))))))))))))))))))))))))) (fun _ => ⟨rfl, rfl⟩) d12_init_266 (ev_nmS e220 ?_)
  refine ev_aload_n (j := 0) (i := 0) (q := 0) rfl rfl d12_init_269 ?_
  refine ev_bipush cb_6 d12_init_270 ?_
  obtain ⟨b221, e222, hf⟩ := lt_some hf
  obtain ⟨h223, hf⟩ := gd_some hf
  obtain ⟨t224, e225, hf⟩ := lt_some hf
  refine ev_newa_int w59 h223 d12_init_272 (ev_nmR e222 (ev_nmS e225 ?_))
  obtain ⟨t226, e227, hf⟩ := lt_some hf
  refine ev_putRF cls12 (j := 46) (by decide) rfl (ne_new e222) rfl w1297 rfl rfl (mono_ob (mono_eN e225) (mono_ob (mono_eR e220) (mono_ob (mono_eN e218) (mono_ob (mono_eI e213) (mono_ob (mono_eR e211) (mono_ob (mono_eN e209) (mono_ob (mono_eR e204) (mono_ob (mono_eN e202) (mono_ob (mono_eR e197) (mono_ob (mono_eN e195) (mono_ob (mono_eR e190) (mono_ob (mono_eN e188) (mono_ob (mono_eR e183) (mono_ob (mono_eN e181) (mono_ob (mono_eR e176) (mono_ob (mono_eN e174) (mono_ob (mono_eR e169) (mono_ob (mono_eN e167) (mono_ob (mono_eR e162) (mono_ob (mono_eN e160) (mono_ob (mono_eR e155) (mono_ob (mono_eN e153) (mono_ob (mono_eR e148) (mono_ob (mono_eN e146) (mono_ob (mono_eR e141) (mono_ob (mono_eN e139) (mono_ob (mono_eR e134) (mono_ob (mono_eN e132) (mono_ob (mono_eR e127) (mono_ob (mono_eN e125) (mono_ob (mono_eR e120) (mono_ob (mono_eN e118) (mono_ob (mono_eR e113) (mono_ob (mono_eN e111) (mono_ob (mono_eR e106) (mono_ob (mono_eN e104) (mono_ob (mono_eR e99) (mono_ob (mono_eN e97) (mono_ob (mono_eR e92) (mono_ob (mono_eN e90) (mono_ob (mono_eR e85) (mono_ob (mono_eN e83) (mono_ob (mono_eR e78) (mono_ob (mono_eN e76) (mono_ob (mono_eR e71) (mono_ob (mono_eN e69) (mono_ob (mono_eR e64) (mono_ob (mono_eN e62) (mono_ob (mono_eR e57) (mono_ob (mono_eN e55) (mono_ob (mono_eR e50) (mono_ob (mono_eN e48) (mono_ob (mono_eR e43) (mono_ob (mono_eN e41) (mono_ob (mono_eR e36) (mono_ob (mono_eN e34) (mono_ob (mono_eR e29) (mono_ob (mono_eN e27) (mono_ob (mono_eR e22) (mono_ob (mono_eN e20) (mono_ob (mono_eR e15) (mono_ob (mono_eN e13) (mono_ob (mono_eR e8) h6))))))))))))))))))))))))))))))))))))))))))))))))))))))))))))))) (fun _ => ⟨rfl, rfl⟩) d12_init_274 (ev_nmS e227 ?_)
  refine ev_aload_n (j := 0) (i := 0) (q := 0) rfl rfl d12_init_277 ?_
  refine ev_bipush cb_15 d12_init_278 ?_
  obtain ⟨b228, e229, hf⟩ := lt_some hf
  obtain ⟨h230, hf⟩ := gd_some hf
  obtain ⟨t231, e232, hf⟩ := lt_some hf
  refine ev_newa_int w59 h230 d12_init_280 (ev_nmR e229 (ev_nmS e232 ?_))
  obtain ⟨t233, e234, hf⟩ := lt_some hf
  refine ev_putRF cls12 (j := 47) (by decide) rfl (ne_new e229) rfl w1298 rfl rfl (mono_ob (mono_eN e232) (mono_ob (mono_eR e227) (mono_ob (mono_eN e225) (mono_ob (mono_eR e220) (mono_ob (mono_eN e218) (mono_ob (mono_eI e213) (mono_ob (mono_eR e211) (mono_ob (mono_eN e209) (mono_ob (mono_eR e204) (mono_ob (mono_eN e202) (mono_ob (mono_eR e197) (mono_ob (mono_eN e195) (mono_ob (mono_eR e190) (mono_ob (mono_eN e188) (mono_ob (mono_eR e183) (mono_ob (mono_eN e181) (mono_ob (mono_eR e176) (mono_ob (mono_eN e174) (mono_ob (mono_eR e169) (mono_ob (mono_eN e167) (mono_ob (mono_eR e162) (mono_ob (mono_eN e160) (mono_ob (mono_eR e155) (mono_ob (mono_eN e153) (mono_ob (mono_eR e148) (mono_ob (mono_eN e146) (mono_ob (mono_eR e141) (mono_ob (mono_eN e139) (mono_ob (mono_eR e134) (mono_ob (mono_eN e132) (mono_ob (mono_eR e127) (mono_ob (mono_eN e125) (mono_ob (mono_eR e120) (mono_ob (mono_eN e118) (mono_ob (mono_eR e113) (mono_ob (mono_eN e111) (mono_ob (mono_eR e106) (mono_ob (mono_eN e104) (mono_ob (mono_eR e99) (mono_ob (mono_eN e97) (mono_ob (mono_eR e92) (mono_ob (mono_eN e90) (mono_ob (mono_eR e85) (mono_ob (mono_eN e83) (mono_ob (mono_eR e78) (mono_ob (mono_eN e76) (mono_ob (mono_eR e71) (mono_ob (mono_eN e69) (mono_ob (mono_eR e64) (mono_ob (mono_eN e62) (mono_ob (mono_eR e57) (mono_ob (mono_eN e55) (mono_ob (mono_eR e50) (mono_ob (mono_eN e48) (mono_ob (mono_eR e43) (mono_ob (mono_eN e41) (mono_ob (mono_eR e36) (mono_ob (mono_eN e34) (mono_ob (mono_eR e29) (mono_ob (mono_eN e27) (mono_ob (mono_eR e22) (mono_ob (mono_eN e20) (mono_ob (mono_eR e15) (mono_ob (mono_eN e13) (mono_ob (mono_eR e8) h6))))))))))))))))))))))))))))))))))))))))))))))))))))))))))))))))) (fun _ => ⟨rfl, rfl⟩) d12_init_282 (ev_nmS e234 ?_)
  refine ev_aload_n (j := 0) (i := 0) (q := 0) rfl rfl d12_init_285 ?_
  refine ev_sipush cs_420 d12_init_286 ?_
  obtain ⟨b235, e236, hf⟩ := lt_some hf
  obtain ⟨h237, hf⟩ := gd_some hf
  obtain ⟨t238, e239, hf⟩ := lt_some hf
  refine ev_newa_int w59 h237 d12_init_289 (ev_nmR e236 (ev_nmS e239 ?_))
  obtain ⟨t240, e241, hf⟩ := lt_some hf
  refine ev_putRF cls12 (j := 48) (by decide) rfl (ne_new e236) rfl w1299 rfl rfl (mono_ob (mono_eN e239) (mono_ob (mono_eR e234) (mono_ob (mono_eN e232) (mono_ob (mono_eR e227) (mono_ob (mono_eN e225) (mono_ob (mono_eR e220) (mono_ob (mono_eN e218) (mono_ob (mono_eI e213) (mono_ob (mono_eR e211) (mono_ob (mono_eN e209) (mono_ob (mono_eR e204) (mono_ob (mono_eN e202) (mono_ob (mono_eR e197) (mono_ob (mono_eN e195) (mono_ob (mono_eR e190) (mono_ob (mono_eN e188) (mono_ob (mono_eR e183) (mono_ob (mono_eN e181) (mono_ob (mono_eR e176) (mono_ob (mono_eN e174) (mono_ob (mono_eR e169) (mono_ob (mono_eN e167) (mono_ob (mono_eR e162) (mono_ob (mono_eN e160) (mono_ob (mono_eR e155) (mono_ob (mono_eN e153) (mono_ob (mono_eR e148) (mono_ob (mono_eN e146) (mono_ob (mono_eR e141) (mono_ob (mono_eN e139) (mono_ob (mono_eR e134) (mono_ob (mono_eN e132) (mono_ob (mono_eR e127) (mono_ob (mono_eN e125) (mono_ob (mono_eR e120) (mono_ob (mono_eN e118) (mono_ob (mono_eR e113) (mono_ob (mono_eN e111) (mono_ob (mono_eR e106) (mono_ob (mono_eN e104) (mono_ob (mono_eR e99) (mono_ob (mono_eN e97) (mono_ob (mono_eR e92) (mono_ob (mono_eN e90) (mono_ob (mono_eR e85) (mono_ob (mono_eN e83) (mono_ob (mono_eR e78) (mono_ob (mono_eN e76) (mono_ob (mono_eR e71) (mono_ob (mono_eN e69) (mono_ob (mono_eR e64) (mono_ob (mono_eN e62) (mono_ob (mono_eR e57) (mono_ob (mono_eN e55) (mono_ob (mono_eR e50) (mono_ob (mono_eN e48) (mono_ob (mono_eR e43) (mono_ob (mono_eN e41) (mono_ob (mono_eR e36) (mono_ob (mono_eN e34) (mono_ob (mono_eR e29) (mono_ob (mono_eN e27) (mono_ob (mono_eR e22) (mono_ob (mono_eN e20) (mono_ob (mono_eR e15) (mono_ob (mono_eN e13) (mono_ob (mono_eR e8) h6))))))))))))))))))))))))))))))))))))))))))))))))))))))))))))))))))) (fun _ => ⟨rfl, rfl⟩) d12_init_291 (ev_nmS e241 ?_)
  refine ev_aload_n (j := 0) (i := 0) (q := 0) rfl rfl d12_init_294 ?_
  refine ev_sipush cs_1500 d12_init_295 ?_
  obtain ⟨b242, e243, hf⟩ := lt_some hf
  obtain ⟨h244, hf⟩ := gd_some hf
  obtain ⟨t245, e246, hf⟩ := lt_some hf
  refine ev_newa_int w59 h244 d12_init_298 (ev_nmR e243 (ev_nmS e246 ?_))
  obtain ⟨t247, e248, hf⟩ := lt_some hf
  refine ev_putRF cls12 (j := 50) (by decide) rfl (ne_new e243) rfl w1301 rfl rfl (mono_ob (mono_eN e246) (mono_ob (mono_eR e241) (mono_ob (mono_eN e239) (mono_ob (mono_eR e234) (mono_ob (mono_eN e232) (mono_ob (mono_eR e227) (mono_ob (mono_eN e225) (mono_ob (mono_eR e220) (mono_ob (mono_eN e218) (mono_ob (mono_eI e213) (mono_ob (mono_eR e211) (mono_ob (mono_eN e209) (mono_ob (mono_eR e204) (mono_ob (mono_eN e202) (mono_ob (mono_eR e197) (mono_ob (mono_eN e195) (mono_ob (mono_eR e190) (mono_ob (mono_eN e188) (mono_ob (mono_eR e183) (mono_ob (mono_eN e181) (mono_ob (mono_eR e176) (mono_ob (mono_eN e174) (mono_ob (mono_eR e169) (mono_ob (mono_eN e167) (mono_ob (mono_eR e162) (mono_ob (mono_eN e160) (mono_ob (mono_eR e155) (mono_ob (mono_eN e153) (mono_ob (mono_eR e148) (mono_ob (mono_eN e146) (mono_ob (mono_eR e141) (mono_ob (mono_eN e139) (mono_ob (mono_eR e134) (mono_ob (mono_eN e132) (mono_ob (mono_eR e127) (mono_ob (mono_eN e125) (mono_ob (mono_eR e120) (mono_ob (mono_eN e118) (mono_ob (mono_eR e113) (mono_ob (mono_eN e111) (mono_ob (mono_eR e106) (mono_ob (mono_eN e104) (mono_ob (mono_eR e99) (mono_ob (mono_eN e97) (mono_ob (mono_eR e92) (mono_ob (mono_eN e90) (mono_ob (mono_eR e85) (mono_ob (mono_eN e83) (mono_ob (mono_eR e78) (mono_ob (mono_eN e76) (mono_ob (mono_eR e71) (mono_ob (mono_eN e69) (mono_ob (mono_eR e64) (mono_ob (mono_eN e62) (mono_ob (mono_eR e57) (mono_ob (mono_eN e55) (mono_ob (mono_eR e50) (mono_ob (mono_eN e48) (mono_ob (mono_eR e43) (mono_ob (mono_eN e41) (mono_ob (mono_eR e36) (mono_ob (mono_eN e34) (mono_ob (mono_eR e29) (mono_ob (mono_eN e27) (mono_ob (mono_eR e22) (mono_ob (mono_eN e20) (mono_ob (mono_eR e15) (mono_ob (mono_eN e13) (mono_ob (mono_eR e8) h6))))))))))))))))))))))))))))))))))))))))))))))))))))))))))))))))))))) (fun _ => ⟨rfl, rfl⟩) d12_init_300 (ev_nmS e248 ?_)
  refine ev_aload_n (j := 0) (i := 0) (q := 0) rfl rfl d12_init_303 ?_
  refine ev_iconst ci_2 d12_init_304 ?_
  obtain ⟨b249, e250, hf⟩ := lt_some hf
  obtain ⟨h251, hf⟩ := gd_some hf
  obtain ⟨t252, e253, hf⟩ := lt_some hf
  refine ev_newa_int w59 h251 d12_init_305 (ev_nmR e250 (ev_nmS e253 ?_))
  obtain ⟨t254, e255, hf⟩ := lt_some hf
  refine ev_putRF cls12 (j := 53) (by decide) rfl (ne_new e250) rfl w1304 rfl rfl (mono_ob (mono_eN e253) (mono_ob (mono_eR e248) (mono_ob (mono_eN e246) (mono_ob (mono_eR e241) (mono_ob (mono_eN e239) (mono_ob (mono_eR e234) (mono_ob (mono_eN e232) (mono_ob (mono_eR e227) (mono_ob (mono_eN e225) (mono_ob (mono_eR e220) (mono_ob (mono_eN e218) (mono_ob (mono_eI e213) (mono_ob (mono_eR e211) (mono_ob (mono_eN e209) (mono_ob (mono_eR e204) (mono_ob (mono_eN e202) (mono_ob (mono_eR e197) (mono_ob (mono_eN e195) (mono_ob (mono_eR e190) (mono_ob (mono_eN e188) (mono_ob (mono_eR e183) (mono_ob (mono_eN e181) (mono_ob (mono_eR e176) (mono_ob (mono_eN e174) (mono_ob (mono_eR e169) (mono_ob (mono_eN e167) (mono_ob (mono_eR e162) (mono_ob (mono_eN e160) (mono_ob (mono_eR e155) (mono_ob (mono_eN e153) (mono_ob (mono_eR e148) (mono_ob (mono_eN e146) (mono_ob (mono_eR e141) (mono_ob (mono_eN e139) (mono_ob (mono_eR e134) (mono_ob (mono_eN e132) (mono_ob (mono_eR e127) (mono_ob (mono_eN e125) (mono_ob (mono_eR e120) (mono_ob (mono_eN e118) (mono_ob (mono_eR e113) (mono_ob (mono_eN e111) (mono_ob (mono_eR e106) (mono_ob (mono_eN e104) (mono_ob (mono_eR e99) (mono_ob (mono_eN e97) (mono_ob (mono_eR e92) (mono_ob (mono_eN e90) (mono_ob (mono_eR e85) (mono_ob (mono_eN e83) (mono_ob (mono_eR e78) (mono_ob (mono_eN e76) (mono_ob (mono_eR e71) (mono_ob (mono_eN e69) (mono_ob (mono_eR e64) (mono_ob (mono_eN e62) (mono_ob (mono_eR e57) (mono_ob (mono_eN e55) (mono_ob (mono_eR e50) (mono_ob (mono_eN e48) (mono_ob (mono_eR e43) (mono_ob (mono_eN e41) (mono_ob (mono_eR e36) (mono_ob (mono_eN e34) (mono_ob (mono_eR e29) (mono_ob (mono_eN e27) (mono_ob (mono_eR e22) (mono_ob (mono_eN e20) (mono_ob (mono_eR e15) (mono_ob (mono_eN e13) (mono_ob (mono_eR e8) h6))))))))))))))))))))))))))))))))))))))))))))))))))))))))))))))))))))))) (fun _ => ⟨rfl, rfl⟩) d12_init_307 (ev_nmS e255 ?_)
  refine ev_aload_n (j := 0) (i := 0) (q := 0) rfl rfl d12_init_310 ?_
  refine ev_iconst ci_2 d12_init_311 ?_
  obtain ⟨b256, e257, hf⟩ := lt_some hf
  obtain ⟨h258, hf⟩ := gd_some hf
  obtain ⟨t259, e260, hf⟩ := lt_some hf
  refine ev_newa_int w59 h258 d12_init_312 (ev_nmR e257 (ev_nmS e260 ?_))
  obtain ⟨t261, e262, hf⟩ := lt_some hf
  refine ev_putRF cls12 (j := 54) (by decide) rfl (ne_new e257) rfl w1305 rfl rfl (mono_ob (mono_eN e260) (mono_ob (mono_eR e255) (mono_ob (mono_eN e253) (mono_ob (mono_eR e248) (mono_ob (mono_eN e246) (mono_ob (mono_eR e241) (mono_ob (mono_eN e239) (mono_ob (mono_eR e234) (mono_ob (mono_eN e232) (mono_ob (mono_eR e227) (mono_ob (mono_eN e225) (mono_ob (mono_eR e220) (mono_ob (mono_eN e218) (mono_ob (mono_eI e213) (mono_ob (mono_eR e211) (mono_ob (mono_eN e209) (mono_ob (mono_eR e204) (mono_ob (mono_eN e202) (mono_ob (mono_eR e197) (mono_ob (mono_eN e195) (mono_ob (mono_eR e190) (mono_ob (mono_eN e188) (mono_ob (mono_eR e183) (mono_ob (mono_eN e181) (mono_ob (mono_eR e176) (mono_ob (mono_eN e174) (mono_ob (mono_eR e169) (mono_ob (mono_eN e167) (mono_ob (mono_eR e162) (mono_ob (mono_eN e160) (mono_ob (mono_eR e155) (mono_ob (mono_eN e153) (mono_ob (mono_eR e148) (mono_ob (mono_eN e146) (mono_ob (mono_eR e141) (mono_ob (mono_eN e139) (mono_ob (mono_eR e134) (mono_ob (mono_eN e132) (mono_ob (mono_eR e127) (mono_ob (mono_eN e125) (mono_ob (mono_eR e120) (mono_ob (mono_eN e118) (mono_ob (mono_eR e113) (mono_ob (mono_eN e111) (mono_ob (mono_eR e106) (mono_ob (mono_eN e104) (mono_ob (mono_eR e99) (mono_ob (mono_eN e97) (mono_ob (mono_eR e92) (mono_ob (mono_eN e90) (mono_ob (mono_eR e85) (mono_ob (mono_eN e83) (mono_ob (mono_eR e78) (mono_ob (mono_eN e76) (mono_ob (mono_eR e71) (mono_ob (mono_eN e69) (mono_ob (mono_eR e64) (mono_ob (mono_eN e62) (mono_ob (mono_eR e57) (mono_ob (mono_eN e55) (mono_ob (mono_eR e50) (mono_ob (mono_eN e48) (mono_ob (mono_eR e43) (mono_ob (mono_eN e41) (mono_ob (mono_eR e36) (mono_ob (mono_eN e34) (mono_ob (mono_eR e29) (mono_ob (mono_eN e27) (mono_ob (mono_eR e22) (mono_ob (mono_eN e20) (mono_ob (mono_eR e15) (mono_ob (mono_eN e13) (mono_ob (mono_eR e8) h6))))))))))))))))))))))))))))))))))))))))))))))))))))))))))))))))))))))))) (fun _ => ⟨rfl, rfl⟩) d12_init_314 (ev_nmS e262 ?_)
  refine ev_aload_n (j := 0) (i := 0) (q := 0) rfl rfl d12_init_317 ?_
  refine ev_bipush cb_60 d12_init_318 ?_
  obtain ⟨b263, e264, hf⟩ := lt_some hf
  obtain ⟨h265, hf⟩ := gd_some hf
  obtain ⟨t266, e267, hf⟩ := lt_some hf
  refine ev_newa_int w59 h265 d12_init_320 (ev_nmR e264 (ev_nmS e267 ?_))
  obtain ⟨t268, e269, hf⟩ := lt_some hf
  refine ev_putRF cls12 (j := 56) (by decide) rfl (ne_new e264) rfl w1307 rfl rfl (mono_ob (mono_eN e267) (mono_ob (mono_eR e262) (mono_ob (mono_eN e260) (mono_ob (mono_eR e255) (mono_ob (mono_eN e253) (mono_ob (mono_eR e248) (mono_ob (mono_eN e246) (mono_ob (mono_eR e241) (mono_ob (mono_eN e239) (mono_ob (mono_eR e234) (mono_ob (mono_eN e232) (mono_ob (mono_eR e227) (mono_ob (mono_eN e225) (mono_ob (mono_eR e220) (mono_ob (mono_eN e218) (mono_ob (mono_eI e213) (mono_ob (mono_eR e211) (mono_ob (mono_eN e209) (mono_ob (mono_eR e204) (mono_ob (mono_eN e202) (mono_ob (mono_eR e197) (mono_ob (mono_eN e195) (mono_ob (mono_eR e190) (mono_ob (mono_eN e188) (mono_ob (mono_eR e183) (mono_ob (mono_eN e181) (mono_ob (mono_eR e176) (mono_ob (mono_eN e174) (mono_ob (mono_eR e169) (mono_ob (mono_eN e167) (mono_ob (mono_eR e162) (mono_ob (mono_eN e160) (mono_ob (mono_eR e155) (mono_ob (mono_eN e153) (mono_ob (mono_eR e148) (mono_ob (mono_eN e146) (mono_ob (mono_eR e141) (mono_ob (mono_eN e139) (mono_ob (mono_eR e134) (mono_ob (mono_eN e132) (mono_ob (mono_eR e127) (mono_ob (mono_eN e125) (mono_ob (mono_eR e120) (mono_ob (mono_eN e118) (mono_ob (mono_eR e113) (mono_ob (mono_eN e111) (mono_ob (mono_eR e106) (mono_ob (mono_eN e104) (mono_ob (mono_eR e99) (mono_ob (mono_eN e97) (mono_ob (mono_eR e92) (mono_ob (mono_eN e90) (mono_ob (mono_eR e85) (mono_ob (mono_eN e83) (mono_ob (mono_eR e78) (mono_ob (mono_eN e76) (mono_ob (mono_eR e71) (mono_ob (mono_eN e69) (mono_ob (mono_eR e64) (mono_ob (mono_eN e62) (mono_ob (mono_eR e57) (mono_ob (mono_eN e55) (mono_ob (mono_eR e50) (mono_ob (mono_eN e48) (mono_ob (mono_eR e43) (mono_ob (mono_eN e41) (mono_ob (mono_eR e36) (mono_ob (mono_eN e34) (mono_ob (mono_eR e29) (mono_ob (mono_eN e27) (mono_ob (mono_eR e22) (mono_ob (mono_eN e20) (mono_ob (mono_eR e15) (mono_ob (mono_eN e13) (mono_ob (mono_eR e8) h6))))))))))))))))))))))))))))))))))))))))))))))))))))))))))))))))))))))))))) (fun _ => ⟨rfl, rfl⟩) d12_init_322 (ev_nmS e269 ?_)
  refine ev_aload_n (j := 0) (i := 0) (q := 0) rfl rfl d12_init_325 ?_
  refine ev_bipush cb_60 d12_init_326 ?_
  obtain ⟨b270, e271, hf⟩ := lt_some hf
  obtain ⟨h272, hf⟩ := gd_some hf
  obtain ⟨t273, e274, hf⟩ := lt_some hf
  refine ev_newa_int w59 h272 d12_init_328 (ev_nmR e271 (ev_nmS e274 ?_))
  obtain ⟨t275, e276, hf⟩ := lt_some hf
  refine ev_putRF cls12 (j := 57) (by decide) rfl (ne_new e271) rfl w1308 rfl rfl (mono_ob (mono_eN e274) (mono_ob (mono_eR e269) (mono_ob (mono_eN e267) (mono_ob (mono_eR e262) (mono_ob (mono_eN e260) (mono_ob (mono_eR e255) (mono_ob (mono_eN e253) (mono_ob (mono_eR e248) (mono_ob (mono_eN e246) (mono_ob (mono_eR e241) (mono_ob (mono_eN e239) (mono_ob (mono_eR e234) (mono_ob (mono_eN e232) (mono_ob (mono_eR e227) (mono_ob (mono_eN e225) (mono_ob (mono_eR e220) (mono_ob (mono_eN e218) (mono_ob (mono_eI e213) (mono_ob (mono_eR e211) (mono_ob (mono_eN e209) (mono_ob (mono_eR e204) (mono_ob (mono_eN e202) (mono_ob (mono_eR e197) (mono_ob (mono_eN e195) (mono_ob (mono_eR e190) (mono_ob (mono_eN e188) (mono_ob (mono_eR e183) (mono_ob (mono_eN e181) (mono_ob (mono_eR e176) (mono_ob (mono_eN e174) (mono_ob (mono_eR e169) (mono_ob (mono_eN e167) (mono_ob (mono_eR e162) (mono_ob (mono_eN e160) (mono_ob (mono_eR e155) (mono_ob (mono_eN e153) (mono_ob (mono_eR e148) (mono_ob (mono_eN e146) (mono_ob (mono_eR e141) (mono_ob (mono_eN e139) (mono_ob (mono_eR e134) (mono_ob (mono_eN e132) (mono_ob (mono_eR e127) (mono_ob (mono_eN e125) (mono_ob (mono_eR e120) (mono_ob (mono_eN e118) (mono_ob (mono_eR e113) (mono_ob (mono_eN e111) (mono_ob (mono_eR e106) (mono_ob (mono_eN e104) (mono_ob (mono_eR e99) (mono_ob (mono_eN e97) (mono_ob (mono_eR e92) (mono_ob (mono_eN e90) (mono_ob (mono_eR e85) (mono_ob (mono_eN e83) (mono_ob (mono_eR e78) (mono_ob (mono_eN e76) (mono_ob (mono_eR e71) (mono_ob (mono_eN e69) (mono_ob (mono_eR e64) (mono_ob (mono_eN e62) (mono_ob (mono_eR e57) (mono_ob (mono_eN e55) (mono_ob (mono_eR e50) (mono_ob (mono_eN e48) (mono_ob (mono_eR e43) (mono_ob (mono_eN e41) (mono_ob (mono_eR e36) (mono_ob (mono_eN e34) (mono_ob (mono_eR e29) (mono_ob (mono_eN e27) (mono_ob (mono_eR e22) (mono_ob (mono_eN e20) (mono_ob (mono_eR e15) (mono_ob (mono_eN e13) (mono_ob (mono_eR e8) h6))))))))))))))))))))))))))))))))))))))))))))))))))))))))))))))))))))))))))))) (fun _ => ⟨rfl, rfl⟩) d12_init_330 (ev_nmS e276 ?_)
  refine ev_aload_n (j := 0) (i := 0) (q := 0) rfl rfl d12_init_333 ?_
  refine ev_bipush cb_60 d12_init_334 ?_
  obtain ⟨b277, e278, hf⟩ := lt_some hf
  obtain ⟨h279, hf⟩ := gd_some hf
  obtain ⟨t280, e281, hf⟩ := lt_some hf
  refine ev_newa_int w59 h279 d12_init_336 (ev_nmR e278 (ev_nmS e281 ?_))
  obtain ⟨t282, e283, hf⟩ := lt_some hf
  refine ev_putRF cls12 (j := 58) (by decide) rfl (ne_new e278) rfl w1309 rfl rfl (mono_ob (mono_eN e281) (mono_ob (mono_eR e276) (mono_ob (mono_eN e274) (mono_ob (mono_eR e269) (mono_ob (mono_eN e267) (mono_ob (mono_eR e262) (mono_ob (mono_eN e260) (mono_ob (mono_eR e255) (mono_ob (mono_eN e253) (mono_ob (mono_eR e248) (mono_ob (mono_eN e246) (mono_ob (mono_eR e241) (mono_ob (mono_eN e239) (mono_ob (mono_eR e234) (mono_ob (mono_eN e232) (mono_ob (mono_eR e227) (mono_ob (mono_eN e225) (mono_ob (mono_eR e220) (mono_ob (mono_eN e218) (mono_ob (mono_eI e213) (mono_ob (mono_eR e211) (mono_ob (mono_eN e209) (mono_ob (mono_eR e204) (mono_ob (mono_eN e202) (mono_ob (mono_eR e197) (mono_ob (mono_eN e195) (mono_ob (mono_eR e190) (mono_ob (mono_eN e188) (mono_ob (mono_eR e183) (mono_ob (mono_eN e181) (mono_ob (mono_eR e176) (mono_ob (mono_eN e174) (mono_ob (mono_eR e169) (mono_ob (mono_eN e167) (mono_ob (mono_eR e162) (mono_ob (mono_eN e160) (mono_ob (mono_eR e155) (mono_ob (mono_eN e153) (mono_ob (mono_eR e148) (mono_ob (mono_eN e146) (mono_ob (mono_eR e141) (mono_ob (mono_eN e139) (mono_ob (mono_eR e134) (mono_ob (mono_eN e132) (mono_ob (mono_eR e127) (mono_ob (mono_eN e125) (mono_ob (mono_eR e120) (mono_ob (mono_eN e118) (mono_ob (mono_eR e113) (mono_ob (mono_eN e111) (mono_ob (mono_eR e106) (mono_ob (mono_eN e104) (mono_ob (mono_eR e99) (mono_ob (mono_eN e97) (mono_ob (mono_eR e92) (mono_ob (mono_eN e90) (mono_ob (mono_eR e85) (mono_ob (mono_eN e83) (mono_ob (mono_eR e78) (mono_ob (mono_eN e76) (mono_ob (mono_eR e71) (mono_ob (mono_eN e69) (mono_ob (mono_eR e64) (mono_ob (mono_eN e62) (mono_ob (mono_eR e57) (mono_ob (mono_eN e55) (mono_ob (mono_eR e50) (mono_ob (mono_eN e48) (mono_ob (mono_eR e43) (mono_ob (mono_eN e41) (mono_ob (mono_eR e36) (mono_ob (mono_eN e34) (mono_ob (mono_eR e29) (mono_ob (mono_eN e27) (mono_ob (mono_eR e22) (mono_ob (mono_eN e20) (mono_ob (mono_eR e15) (mono_ob (mono_eN e13) (mono_ob (mono_eR e8) h6))))))))))))))))))))))))))))))))))))))))))))))))))))))))))))))))))))))))))))))) (fun _ => ⟨rfl, rfl⟩) d12_init_338 (ev_nmS e283 ?_)
  refine ev_aload_n (j := 0) (i := 0) (q := 0) rfl rfl d12_init_341 ?_
  refine ev_bipush cb_60 d12_init_342 ?_
  obtain ⟨b284, e285, hf⟩ := lt_some hf
  obtain ⟨h286, hf⟩ := gd_some hf
  obtain ⟨t287, e288, hf⟩ := lt_some hf
  refine ev_newa_int w59 h286 d12_init_344 (ev_nmR e285 (ev_nmS e288 ?_))
  obtain ⟨t289, e290, hf⟩ := lt_some hf
  refine ev_putRF cls12 (j := 59) (by decide) rfl (ne_new e285) rfl w1310 rfl rfl (mono_ob (mono_eN e288) (mono_ob (mono_eR e283) (mono_ob (mono_eN e281) (mono_ob (mono_eR e276) (mono_ob (mono_eN e274) (mono_ob (mono_eR e269) (mono_ob (mono_eN e267) (mono_ob (mono_eR e262) (mono_ob (mono_eN e260) (mono_ob (mono_eR e255) (mono_ob (mono_eN e253) (mono_ob (mono_eR e248) (mono_ob (mono_eN e246) (mono_ob (mono_eR e241) (mono_ob (mono_eN e239) (mono_ob (mono_eR e234) (mono_ob (mono_eN e232) (mono_ob (mono_eR e227) (mono_ob (mono_eN e225) (mono_ob (mono_eR e220) (mono_ob (mono_eN e218) (mono_ob (mono_eI e213) (mono_ob (mono_eR e211) (mono_ob (mono_eN e209) (mono_ob (mono_eR e204) (mono_ob (mono_eN e202) (mono_ob (mono_eR e197) (mono_ob (mono_eN e195) (mono_ob (mono_eR e190) (mono_ob (mono_eN e188) (mono_ob (mono_eR e183) (mono_ob (mono_eN e181) (mono_ob (mono_eR e176) (mono_ob (mono_eN e174) (mono_ob (mono_eR e169) (mono_ob (mono_eN e167) (mono_ob (mono_eR e162) (mono_ob (mono_eN e160) (mono_ob (mono_eR e155) (mono_ob (mono_eN e153) (mono_ob (mono_eR e148) (mono_ob (mono_eN e146) (mono_ob (mono_eR e141) (mono_ob (mono_eN e139) (mono_ob (mono_eR e134) (mono_ob (mono_eN e132) (mono_ob (mono_eR e127) (mono_ob (mono_eN e125) (mono_ob (mono_eR e120) (mono_ob (mono_eN e118) (mono_ob (mono_eR e113) (mono_ob (mono_eN e111) (mono_ob (mono_eR e106) (mono_ob (mono_eN e104) (mono_ob (mono_eR e99) (mono_ob (mono_eN e97) (mono_ob (mono_eR e92) (mono_ob (mono_eN e90) (mono_ob (mono_eR e85) (mono_ob (mono_eN e83) (mono_ob (mono_eR e78) (mono_ob (mono_eN e76) (mono_ob (mono_eR e71) (mono_ob (mono_eN e69) (mono_ob (mono_eR e64) (mono_ob (mono_eN e62) (mono_ob (mono_eR e57) (mono_ob (mono_eN e55) (mono_ob (mono_eR e50) (mono_ob (mono_eN e48) (mono_ob (mono_eR e43) (mono_ob (mono_eN e41) (mono_ob (mono_eR e36) (mono_ob (mono_eN e34) (mono_ob (mono_eR e29) (mono_ob (mono_eN e27) (mono_ob (mono_eR e22) (mono_ob (mono_eN e20) (mono_ob (mono_eR e15) (mono_ob (mono_eN e13) (mono_ob (mono_eR e8) h6))))))))))))))))))))))))))))))))))))))))))))))))))))))))))))))))))))))))))))))))) (fun _ => ⟨rfl, rfl⟩) d12_init_346 (ev_nmS e290 ?_)
  refine ev_aload_n (j := 0) (i := 0) (q := 0) rfl rfl d12_init_349 ?_
  refine ev_bipush cb_60 d12_init_350 ?_
  obtain ⟨b291, e292, hf⟩ := lt_some hf
  obtain ⟨h293, hf⟩ := gd_some hf
  obtain ⟨t294, e295, hf⟩ := lt_some hf
  refine ev_newa_int w59 h293 d12_init_352 (ev_nmR e292 (ev_nmS e295 ?_))
  obtain ⟨t296, e297, hf⟩ := lt_some hf
  refine ev_putRF cls12 (j := 60) (by decide) rfl (ne_new e292) rfl w1311 rfl rfl (mono_ob (mono_eN e295) (mono_ob (mono_eR e290) (mono_ob (mono_eN e288) (mono_ob (mono_eR e283) (mono_ob (mono_eN e281) (mono_ob (mono_eR e276) (mono_ob (mono_eN e274) (mono_ob (mono_eR e269) (mono_ob (mono_eN e267) (mono_ob (mono_eR e262) (mono_ob (mono_eN e260) (mono_ob (mono_eR e255) (mono_ob (mono_eN e253) (mono_ob (mono_eR e248) (mono_ob (mono_eN e246) (mono_ob (mono_eR e241) (mono_ob (mono_eN e239) (mono_ob (mono_eR e234) (mono_ob (mono_eN e232) (mono_ob (mono_eR e227) (mono_ob (mono_eN e225) (mono_ob (mono_eR e220) (mono_ob (mono_eN e218) (mono_ob (mono_eI e213) (mono_ob (mono_eR e211) (mono_ob (mono_eN e209) (mono_ob (mono_eR e204) (mono_ob (mono_eN e202) (mono_ob (mono_eR e197) (mono_ob (mono_eN e195) (mono_ob (mono_eR e190) (mono_ob (mono_eN e188) (mono_ob (mono_eR e183) (mono_ob (mono_eN e181) (mono_ob (mono_eR e176) (mono_ob (mono_eN e174) (mono_ob (mono_eR e169) (mono_ob (mono_eN e167) (mono_ob (mono_eR e162) (mono_ob (mono_eN e160) (mono_ob (mono_eR e155) (mono_ob (mono_eN e153) (mono_ob (mono_eR e148) (mono_ob (mono_eN e146) (mono_ob (mono_eR e141) (mono_ob (mono_eN e139) (mono_ob (mono_eR e134) (mono_ob (mono_eN e132) (mono_ob (mono_eR e127) (mono_ob (mono_eN e125) (mono_ob (mono_eR e120) (mono_ob (mono_eN e118) (mono_ob (mono_eR e113) (mono_ob (mono_eN e111) (mono_ob (mono_eR e106) (mono_ob (mono_eN e104) (mono_ob (mono_eR e99) (mono_ob (mono_eN e97) (mono_ob (mono_eR e92) (mono_ob (mono_eN e90) (mono_ob (mono_eR e85) (mono_ob (mono_eN e83) (mono_ob (mono_eR e78) (mono_ob (mono_eN e76) (mono_ob (mono_eR e71) (mono_ob (mono_eN e69) (mono_ob (mono_eR e64) (mono_ob (mono_eN e62) (mono_ob (mono_eR e57) (mono_ob (mono_eN e55) (mono_ob (mono_eR e50) (mono_ob (mono_eN e48) (mono_ob (mono_eR e43) (mono_ob (mono_eN e41) (mono_ob (mono_eR e36) (mono_ob (mono_eN e34) (mono_ob (mono_eR e29) (mono_ob (mono_eN e27) (mono_ob (mono_eR e22) (mono_ob (mono_eN e20) (mono_ob (mono_eR e15) (mono_ob (mono_eN e13) (mono_ob (mono_eR e8) h6))))))))))))))))))))))))))))))))))))))))))))))))))))))))))))))))))))))))))))))))))) (fun _ => ⟨rfl, rfl⟩) d12_init_354 (ev_nmS e297 ?_)
  refine ev_aload_n (j := 0) (i := 0) (q := 0) rfl rfl d12_init_357 ?_
  refine ev_bipush cb_6 d12_init_358 ?_
  obtain ⟨b298, e299, hf⟩ := lt_some hf
  obtain ⟨h300, hf⟩ := gd_some hf
  obtain ⟨t301, e302, hf⟩ := lt_some hf
  refine ev_newa_int w59 h300 d12_init_360 (ev_nmR e299 (ev_nmS e302 ?_))
  obtain ⟨t303, e304, hf⟩ := lt_some hf
  refine ev_putRF cls12 (j := 63) (by decide) rfl (ne_new e299) rfl w1314 rfl rfl (mono_ob (mono_eN e302) (mono_ob (mono_eR e297) (mono_ob (mono_eN e295) (mono_ob (mono_eR e290) (mono_ob (mono_eN e288) (mono_ob (mono_eR e283) (mono_ob (mono_eN e281) (mono_ob (mono_eR e276) (mono_ob (mono_eN e274) (mono_ob (mono_eR e269) (mono_ob (mono_eN e267) (mono_ob (mono_eR e262) (mono_ob (mono_eN e260) (mono_ob (mono_eR e255) (mono_ob (mono_eN e253) (mono_ob (mono_eR e248) (mono_ob (mono_eN e246) (mono_ob (mono_eR e241) (mono_ob (mono_eN e239) (mono_ob (mono_eR e234) (mono_ob (mono_eN e232) (mono_ob (mono_eR e227) (mono_ob (mono_eN e225) (mono_ob (mono_eR e220) (mono_ob (mono_eN e218) (mono_ob (mono_eI e213) (mono_ob (mono_eR e211) (mono_ob (mono_eN e209) (mono_ob (mono_eR e204) (mono_ob (mono_eN e202) (mono_ob (mono_eR e197) (mono_ob (mono_eN e195) (mono_ob (mono_eR e190) (mono_ob (mono_eN e188) (mono_ob (mono_eR e183) (mono_ob (mono_eN e181) (mono_ob (mono_eR e176) (mono_ob (mono_eN e174) (mono_ob (mono_eR e169) (mono_ob (mono_eN e167) (mono_ob (mono_eR e162) (mono_ob (mono_eN e160) (mono_ob (mono_eR e155) (mono_ob (mono_eN e153) (mono_ob (mono_eR e148) (mono_ob (mono_eN e146) (mono_ob (mono_eR e141) (mono_ob (mono_eN e139) (mono_ob (mono_eR e134) (mono_ob (mono_eN e132) (mono_ob (mono_eR e127) (mono_ob (mono_eN e125) (mono_ob (mono_eR e120) (mono_ob (mono_eN e118) (mono_ob (mono_eR e113) (mono_ob (mono_eN e111) (mono_ob (mono_eR e106) (mono_ob (mono_eN e104) (mono_ob (mono_eR e99) (mono_ob (mono_eN e97) (mono_ob (mono_eR e92) (mono_ob (mono_eN e90) (mono_ob (mono_eR e85) (mono_ob (mono_eN e83) (mono_ob (mono_eR e78) (mono_ob (mono_eN e76) (mono_ob (mono_eR e71) (mono_ob (mono_eN e69) (mono_ob (mono_eR e64) (mono_ob (mono_eN e62) (mono_ob (mono_eR e57) (mono_ob (mono_eN e55) (mono_ob (mono_eR e50) (mono_ob (mono_eN e48) (mono_ob (mono_eR e43) (mono_ob (mono_eN e41) (mono_ob (mono_eR e36) (mono_ob (mono_eN e34) (mono_ob (mono_eR e29) (mono_ob (mono_eN e27) (mono_ob (mono_eR e22) (mono_ob (mono_eN e20) (mono_ob (mono_eR e15) (mono_ob (mono_eN e13) (mono_ob (mono_eR e8) h6))))))))))))))))))))))))))))))))))))))))))))))))))))))))))))))))))))))))))))))))))))) (fun _ => ⟨rfl, rfl⟩) d12_init_362 (ev_nmS e304 ?_)
  refine ev_aload_n (j := 0) (i := 0) (q := 0) rfl rfl d12_init_365 ?_
  refine ev_bipush cb_6 d12_init_366 ?_
  obtain ⟨b305, e306, hf⟩ := lt_some hf
  obtain ⟨h307, hf⟩ := gd_some hf
  obtain ⟨t308, e309, hf⟩ := lt_some hf
  refine ev_newa_int w59 h307 d12_init_368 (ev_nmR e306 (ev_nmS e309 ?_))
  obtain ⟨t310, e311, hf⟩ := lt_some hf
  refine ev_putRF cls12 (j := 64) (by decide) rfl (ne_new e306) rfl w1315 rfl rfl (mono_ob (mono_eN e309) (mono_ob (mono_eR e304) (mono_ob (mono_eN e302) (mono_ob (mono_eR e297) (mono_ob (mono_eN e295) (mono_ob (mono_eR e290) (mono_ob (mono_eN e288) (mono_ob (mono_eR e283) (mono_ob (mono_eN e281) (mono_ob (mono_eR e276) (mono_ob (mono_eN e274) (mono_ob (mono_eR e269) (mono_ob (mono_eN e267) (mono_ob (mono_eR e262) (mono_ob (mono_eN e260) (mono_ob (mono_eR e255) (mono_ob (mono_eN e253) (mono_ob (mono_eR e248) (mono_ob (mono_eN e246) (mono_ob (mono_eR e241) (mono_ob (mono_eN e239) (mono_ob (mono_eR e234) (mono_ob (mono_eN e232) (mono_ob (mono_eR e227) (mono_ob (mono_eN e225) (mono_ob (mono_eR e220) (mono_ob (mono_eN e218) (mono_ob (mono_eI e213) (mono_ob (mono_eR e211) (mono_ob (mono_eN e209) (mono_ob (mono_eR e204) (mono_ob (mono_eN e202) (mono_ob (mono_eR e197) (mono_ob (mono_eN e195) (mono_ob (mono_eR e190) (mono_ob (mono_eN e188) (mono_ob (mono_eR e183) (mono_ob (mono_eN e181) (mono_ob (mono_eR e176) (mono_ob (mono_eN e174) (mono_ob (mono_eR e169) (mono_ob (mono_eN e167) (mono_ob (mono_eR e162) (mono_ob (mono_eN e160) (mono_ob (mono_eR e155) (mono_ob (mono_eN e153) (mono_ob (mono_eR e148) (mono_ob (mono_eN e146) (mono_ob (mono_eR e141) (mono_ob (mono_eN e139) (mono_ob (mono_eR e134) (mono_ob (mono_eN e132) (mono_ob (mono_eR e127) (mono_ob (mono_eN e125) (mono_ob (mono_eR e120) (mono_ob (mono_eN e118) (mono_ob (mono_eR e113) (mono_ob (mono_eN e111) (mono_ob (mono_eR e106) (mono_ob (mono_eN e104) (mono_ob (mono_eR e99) (mono_ob (mono_eN e97) (mono_ob (mono_eR e92) (mono_ob (mono_eN e90) (mono_ob (mono_eR e85) (mono_ob (mono_eN e83) (mono_ob (mono_eR e78) (mono_ob (mono_eN e76) (mono_ob (mono_eR e71) (mono_ob (mono_eN e69) (mono_ob (mono_eR e64) (mono_ob (mono_eN e62) (mono_ob (mono_eR e57) (mono_ob (mono_eN e55) (mono_ob (mono_eR e50) (mono_ob (mono_eN e48) (mono_ob (mono_eR e43) (mono_ob (mono_eN e41) (mono_ob (mono_eR e36) (mono_ob (mono_eN e34) (mono_ob (mono_eR e29) (mono_ob (mono_eN e27) (mono_ob (mono_eR e22) (mono_ob (mono_eN e20) (mono_ob (mono_eR e15) (mono_ob (mono_eN e13) (mono_ob (mono_eR e8) h6))))))))))))))))))))))))))))))))))))))))))))))))))))))))))))))))))))))))))))))))))))))) (fun _ => ⟨rfl, rfl⟩) d12_init_370 (ev_nmS e311 ?_)
  refine ev_aload_n (j := 0) (i := 0) (q := 0) rfl rfl d12_init_373 ?_
  refine ev_bipush cb_6 d12_init_374 ?_
  obtain ⟨b312, e313, hf⟩ := lt_some hf
  obtain ⟨h314, hf⟩ := gd_some hf
  obtain ⟨t315, e316, hf⟩ := lt_some hf
  refine ev_newa_int w59 h314 d12_init_376 (ev_nmR e313 (ev_nmS e316 ?_))
  obtain ⟨t317, e318, hf⟩ := lt_some hf
  refine ev_putRF cls12 (j := 65) (by decide) rfl (ne_new e313) rfl w1316 rfl rfl (mono_ob (mono_eN e316) (mono_ob (mono_eR e311) (mono_ob (mono_eN e309) (mono_ob (mono_eR e304) (mono_ob (mono_eN e302) (mono_ob (mono_eR e297) (mono_ob (mono_eN e295) (mono_ob (mono_eR e290) (mono_ob (mono_eN e288) (mono_ob (mono_eR e283) (mono_ob (mono_eN e281) (mono_ob (mono_eR e276) (mono_ob (mono_eN e274) (mono_ob (mono_eR e269) (mono_ob (mono_eN e267) (mono_ob (mono_eR e262) (mono_ob (mono_eN e260) (mono_ob (mono_eR e255) (mono_ob (mono_eN e253) (mono_ob (mono_eR e248) (mono_ob (mono_eN e246) (mono_ob (mono_eR e241) (mono_ob (mono_eN e239) (mono_ob (mono_eR e234) (mono_ob (mono_eN e232) (mono_ob (mono_eR e227) (mono_ob (mono_eN e225) (mono_ob (mono_eR e220) (mono_ob (mono_eN e218) (mono_ob (mono_eI e213) (mono_ob (mono_eR e211) (mono_ob (mono_eN e209) (mono_ob (mono_eR e204) (mono_ob (mono_eN e202) (mono_ob (mono_eR e197) (mono_ob (mono_eN e195) (mono_ob (mono_eR e190) (mono_ob (mono_eN e188) (mono_ob (mono_eR e183) (mono_ob (mono_eN e181) (mono_ob (mono_eR e176) (mono_ob (mono_eN e174) (mono_ob (mono_eR e169) (mono_ob (mono_eN e167) (mono_ob (mono_eR e162) (mono_ob (mono_eN e160) (mono_ob (mono_eR e155) (mono_ob (mono_eN e153) (mono_ob (mono_eR e148) (mono_ob (mono_eN e146) (mono_ob (mono_eR e141) (mono_ob (mono_eN e139) (mono_ob (mono_eR e134) (mono_ob (mono_eN e132) (mono_ob (mono_eR e127) (mono_ob (mono_eN e125) (mono_ob (mono_eR e120) (mono_ob (mono_eN e118) (mono_ob (mono_eR e113) (mono_ob (mono_eN e111) (mono_ob (mono_eR e106) (mono_ob (mono_eN e104) (mono_ob (mono_eR e99) (mono_ob (mono_eN e97) (mono_ob (mono_eR e92) (mono_ob (mono_eN e90) (mono_ob (mono_eR e85) (mono_ob (mono_eN e83) (mono_ob (mono_eR e78) (mono_ob (mono_eN e76) (mono_ob (mono_eR e71) (mono_ob (mono_eN e69) (mono_ob (mono_eR e64) (mono_ob (mono_eN e62) (mono_ob (mono_eR e57) (mono_ob (mono_eN e55) (mono_ob (mono_eR e50) (mono_ob (mono_eN e48) (mono_ob (mono_eR e43) (mono_ob (mono_eN e41) (mono_ob (mono_eR e36) (mono_ob (mono_eN e34) (mono_ob (mono_eR e29) (mono_ob (mono_eN e27) (mono_ob (mono_eR e22) (mono_ob (mono_eN e20) (mono_ob (mono_eR e15) (mono_ob (mono_eN e13) (mono_ob (mono_eR e8) h6))))))))))))))))))))))))))))))))))))))))))))))))))))))))))))))))))))))))))))))))))))))))) (fun _ => ⟨rfl, rfl⟩) d12_init_378 (ev_nmS e318 ?_)
  refine ev_aload_n (j := 0) (i := 0) (q := 0) rfl rfl d12_init_381 ?_
  refine ev_sipush cs_432 d12_init_382 ?_
  obtain ⟨b319, e320, hf⟩ := lt_some hf
  obtain ⟨h321, hf⟩ := gd_some hf
  obtain ⟨t322, e323, hf⟩ := lt_some hf
  refine ev_newa_boolean w1489 h321 d12_init_385 (ev_nmR e320 (ev_nmS e323 ?_))
  obtain ⟨t324, e325, hf⟩ := lt_some hf
  refine ev_putRF cls12 (j := 66) (by decide) rfl (ne_new e320) rfl w1317 rfl rfl (mono_ob (mono_eN e323) (mono_ob (mono_eR e318) (mono_ob (mono_eN e316) (mono_ob (mono_eR e311) (mono_ob (mono_eN e309) (mono_ob (mono_eR e304) (mono_ob (mono_eN e302) (mono_ob (mono_eR e297) (mono_ob (mono_eN e295) (mono_ob (mono_eR e290) (mono_ob (mono_eN e288) (mono_ob (mono_eR e283) (mono_ob (mono_eN e281) (mono_ob (mono_eR e276) (mono_ob (mono_eN e274) (mono_ob (mono_eR e269) (mono_ob (mono_eN e267) (mono_ob (mono_eR e262) (mono_ob (mono_eN e260) (mono_ob (mono_eR e255) (mono_ob (mono_eN e253) (mono_ob (mono_eR e248) (mono_ob (mono_eN e246) (mono_ob (mono_eR e241) (mono_ob (mono_eN e239) (mono_ob (mono_eR e234) (mono_ob (mono_eN e232) (mono_ob (mono_eR e227) (mono_ob (mono_eN e225) (mono_ob (mono_eR e220) (mono_ob (mono_eN e218) (mono_ob (mono_eI e213) (mono_ob (mono_eR e211) (mono_ob (mono_eN e209) (mono_ob (mono_eR e204) (mono_ob (mono_eN e202) (mono_ob (mono_eR e197) (mono_ob (mono_eN e195) (mono_ob (mono_eR e190) (mono_ob (mono_eN e188) (mono_ob (mono_eR e183) (mono_ob (mono_eN e181) (mono_ob (mono_eR e176) (mono_ob (mono_eN e174) (mono_ob (mono_eR e169) (mono_ob (mono_eN e167) (mono_ob (mono_eR e162) (mono_ob (mono_eN e160) (mono_ob (mono_eR e155) (mono_ob (mono_eN e153) (mono_ob (mono_eR e148) (mono_ob (mono_eN e146) (mono_ob (mono_eR e141) (mono_ob (mono_eN e139) (mono_ob (mono_eR e134) (mono_ob (mono_eN e132) (mono_ob (mono_eR e127) (mono_ob (mono_eN e125) (mono_ob (mono_eR e120) (mono_ob (mono_eN e118) (mono_ob (mono_eR e113) (mono_ob (mono_eN e111) (mono_ob (mono_eR e106) (mono_ob (mono_eN e104) (mono_ob (mono_eR e99) (mono_ob (mono_eN e97) (mono_ob (mono_eR e92) (mono_ob (mono_eN e90) (mono_ob (mono_eR e85) (mono_ob (mono_eN e83) (mono_ob (mono_eR e78) (mono_ob (mono_eN e76) (mono_ob (mono_eR e71) (mono_ob (mono_eN e69) (mono_ob (mono_eR e64) (mono_ob (mono_eN e62) (mono_ob (mono_eR e57) (mono_ob (mono_eN e55) (mono_ob (mono_eR e50) (mono_ob (mono_eN e48) (mono_ob (mono_eR e43) (mono_ob (mono_eN e41) (mono_ob (mono_eR e36) (mono_ob (mono_eN e34) (mono_ob (mono_eR e29) (mono_ob (mono_eN e27) (mono_ob (mono_eR e22) (mono_ob (mono_eN e20) (mono_ob (mono_eR e15) (mono_ob (mono_eN e13) (mono_ob (mono_eR e8) h6))))))))))))))))))))))))))))))))))))))))))))))))))))))))))))))))))))))))))))))))))))))))))) (fun _ => ⟨rfl, rfl⟩) d12_init_387 (ev_nmS e325 ?_)
  refine ev_aload_n (j := 0) (i := 0) (q := 0) rfl rfl d12_init_390 ?_
  refine ev_bipush cb_12 d12_init_391 ?_
  obtain ⟨b326, e327, hf⟩ := lt_some hf
  obtain ⟨h328, hf⟩ := gd_some hf
  obtain ⟨t329, e330, hf⟩ := lt_some hf
  refine ev_newa_int w59 h328 d12_init_393 (ev_nmR e327 (ev_nmS e330 ?_))
  obtain ⟨t331, e332, hf⟩ := lt_some hf
  refine ev_putRF cls12 (j := 67) (by decide) rfl (ne_new e327) rfl w1318 rfl rfl (mono_ob (mono_eN e330) (mono_ob (mono_eR e325) (mono_ob (mono_eN e323) (mono_ob (mono_eR e318) (mono_ob (mono_eN e316) (mono_ob (mono_eR e311) (mono_ob (mono_eN e309) (mono_ob (mono_eR e304) (mono_ob (mono_eN e302) (mono_ob (mono_eR e297) (mono_ob (mono_eN e295) (mono_ob (mono_eR e290) (mono_ob (mono_eN e288) (mono_ob (mono_eR e283) (mono_ob (mono_eN e281) (mono_ob (mono_eR e276) (mono_ob (mono_eN e274) (mono_ob (mono_eR e269) (mono_ob (mono_eN e267) (mono_ob (mono_eR e262) (mono_ob (mono_eN e260) (mono_ob (mono_eR e255) (mono_ob (mono_eN e253) (mono_ob (mono_eR e248) (mono_ob (mono_eN e246) (mono_ob (mono_eR e241) (mono_ob (mono_eN e239) (mono_ob (mono_eR e234) (mono_ob (mono_eN e232) (mono_ob (mono_eR e227) (mono_ob (mono_eN e225) (mono_ob (mono_eR e220) (mono_ob (mono_eN e218) (mono_ob (mono_eI e213) (mono_ob (mono_eR e211) (mono_ob (mono_eN e209) (mono_ob (mono_eR e204) (mono_ob (mono_eN e202) (mono_ob (mono_eR e197) (mono_ob (mono_eN e195) (mono_ob (mono_eR e190) (mono_ob (mono_eN e188) (mono_ob (mono_eR e183) (mono_ob (mono_eN e181) (mono_ob (mono_eR e176) (mono_ob (mono_eN e174) (mono_ob (mono_eR e169) (mono_ob (mono_eN e167) (mono_ob (mono_eR e162) (mono_ob (mono_eN e160) (mono_ob (mono_eR e155) (mono_ob (mono_eN e153) (mono_ob (mono_eR e148) (mono_ob (mono_eN e146) (mono_ob (mono_eR e141) (mono_ob (mono_eN e139) (mono_ob (mono_eR e134) (mono_ob (mono_eN e132) (mono_ob (mono_eR e127) (mono_ob (mono_eN e125) (mono_ob (mono_eR e120) (mono_ob (mono_eN e118) (mono_ob (mono_eR e113) (mono_ob (mono_eN e111) (mono_ob (mono_eR e106) (mono_ob (mono_eN e104) (mono_ob (mono_eR e99) (mono_ob (mono_eN e97) (mono_ob (mono_eR e92) (mono_ob (mono_eN e90) (mono_ob (mono_eR e85) (mono_ob (mono_eN e83) (mono_ob (mono_eR e78) (mono_ob (mono_eN e76) (mono_ob (mono_eR e71) (mono_ob (mono_eN e69) (mono_ob (mono_eR e64) (mono_ob (mono_eN e62) (mono_ob (mono_eR e57) (mono_ob (mono_eN e55) (mono_ob (mono_eR e50) (mono_ob (mono_eN e48) (mono_ob (mono_eR e43) (mono_ob (mono_eN e41) (mono_ob (mono_eR e36) (mono_ob (mono_eN e34) (mono_ob (mono_eR e29) (mono_ob (mono_eN e27) (mono_ob (mono_eR e22) (mono_ob (mono_eN e20) (mono_ob (mono_eR e15) (mono_ob (mono_eN e13) (mono_ob (mono_eR e8) h6))))))))))))))))))))))))))))))))))))))))))))))))))))))))))))))))))))))))))))))))))))))))))))) (fun _ => ⟨rfl, rfl⟩) d12_init_395 (ev_nmS e332 ?_)
  refine ev_aload_n (j := 0) (i := 0) (q := 0) rfl rfl d12_init_398 ?_
  refine ev_bipush cb_6 d12_init_399 ?_
  obtain ⟨b333, e334, hf⟩ := lt_some hf
  obtain ⟨h335, hf⟩ := gd_some hf
  obtain ⟨t336, e337, hf⟩ := lt_some hf
  refine ev_newa_int w59 h335 d12_init_401 (ev_nmR e334 (ev_nmS e337 ?_))
  obtain ⟨t338, e339, hf⟩ := lt_some hf
  refine ev_putRF cls12 (j := 74) (by decide) rfl (ne_new e334) rfl w1325 rfl rfl (mono_ob (mono_eN e337) (mono_ob (mono_eR e332) (mono_ob (mono_eN e330) (mono_ob (mono_eR e325) (mono_ob (mono_eN e323) (mono_ob (mono_eR e318) (mono_ob (mono_eN e316) (mono_ob (mono_eR e311) (mono_ob (mono_eN e309) (mono_ob (mono_eR e304) (mono_ob (mono_eN e302) (mono_ob (mono_eR e297) (mono_ob (mono_eN e295) (mono_ob (mono_eR e290) (mono_ob (mono_eN e288) (mono_ob (mono_eR e283) (mono_ob (mono_eN e281) (mono_ob (mono_eR e276) (mono_ob (mono_eN e274) (mono_ob (mono_eR e269) (mono_ob (mono_eN e267) (mono_ob (mono_eR e262) (mono_ob (mono_eN e260) (mono_ob (mono_eR e255) (mono_ob (mono_eN e253) (mono_ob (mono_eR e248) (mono_ob (mono_eN e246) (mono_ob (mono_eR e241) (mono_ob (mono_eN e239) (mono_ob (mono_eR e234) (mono_ob (mono_eN e232) (mono_ob (mono_eR e227) (mono_ob (mono_eN e225) (mono_ob (mono_eR e220) (mono_ob (mono_eN e218) (mono_ob (mono_eI e213) (mono_ob (mono_eR e211) (mono_ob (mono_eN e209) (mono_ob (mono_eR e204) (mono_ob (mono_eN e202) (mono_ob (mono_eR e197) (mono_ob (mono_eN e195) (mono_ob (mono_eR e190) (mono_ob (mono_eN e188) (mono_ob (mono_eR e183) (mono_ob (mono_eN e181) (mono_ob (mono_eR e176) (mono_ob (mono_eN e174) (mono_ob (mono_eR e169) (mono_ob (mono_eN e167) (mono_ob (mono_eR e162) (mono_ob (mono_eN e160) (mono_ob (mono_eR e155) (mono_ob (mono_eN e153) (mono_ob (mono_eR e148) (mono_ob (mono_eN e146) (mono_ob (mono_eR e141) (mono_ob (mono_eN e139) (mono_ob (mono_eR e134) (mono_ob (mono_eN e132) (mono_ob (mono_eR e127) (mono_ob (mono_eN e125) (mono_ob (mono_eR e120) (mono_ob (mono_eN e118) (mono_ob (mono_eR e113) (mono_ob (mono_eN e111) (mono_ob (mono_eR e106) (mono_ob (mono_eN e104) (mono_ob (mono_eR e99) (mono_ob (mono_eN e97) (mono_ob (mono_eR e92) (mono_ob (mono_eN e90) (mono_ob (mono_eR e85) (mono_ob (mono_eN e83) (mono_ob (mono_eR e78) (mono_ob (mono_eN e76) (mono_ob (mono_eR e71) (mono_ob (mono_eN e69) (mono_ob (mono_eR e64) (mono_ob (mono_eN e62) (mono_ob (mono_eR e57) (mono_ob (mono_eN e55) (mono_ob (mono_eR e50) (mono_ob (mono_eN e48) (mono_ob (mono_eR e43) (mono_ob (mono_eN e41) (mono_ob (mono_eR e36) (mono_ob (mono_eN e34) (mono_ob (mono_eR e29) (mono_ob (mono_eN e27) (mono_ob (mono_eR e22) (mono_ob (mono_eN e20) (mono_ob (mono_eR e15) (mono_ob (mono_eN e13) (mono_ob (mono_eR e8) h6))))))))))))))))))))))))))))))))))))))))))))))))))))))))))))))))))))))))))))))))))))))))))))))) (fun _ => ⟨rfl, rfl⟩) d12_init_403 (ev_nmS e339 ?_)
  refine ev_aload_n (j := 0) (i := 0) (q := 0) rfl rfl d12_init_406 ?_
  refine ev_bipush cb_6 d12_init_407 ?_
  obtain ⟨b340, e341, hf⟩ := lt_some hf
  obtain ⟨h342, hf⟩ := gd_some hf
  obtain ⟨t343, e344, hf⟩ := lt_some hf
  refine ev_newa_int w59 h342 d12_init_409 (ev_nmR e341 (ev_nmS e344 ?_))
  obtain ⟨t345, e346, hf⟩ := lt_some hf
  refine ev_putRF cls12 (j := 75) (by decide) rfl (ne_new e341) rfl w1326 rfl rfl (mono_ob (mono_eN e344) (mono_ob (mono_eR e339) (mono_ob (mono_eN e337) (mono_ob (mono_eR e332) (mono_ob (mono_eN e330) (mono_ob (mono_eR e325) (mono_ob (mono_eN e323) (mono_ob (mono_eR e318) (mono_ob (mono_eN e316) (mono_ob (mono_eR e311) (mono_ob (mono_eN e309) (mono_ob (mono_eR e304) (mono_ob (mono_eN e302) (mono_ob (mono_eR e297) (mono_ob (mono_eN e295) (mono_ob (mono_eR e290) (mono_ob (mono_eN e288) (mono_ob (mono_eR e283) (mono_ob (mono_eN e281) (mono_ob (mono_eR e276) (mono_ob (mono_eN e274) (mono_ob (mono_eR e269) (mono_ob (mono_eN e267) (mono_ob (mono_eR e262) (mono_ob (mono_eN e260) (mono_ob (mono_eR e255) (mono_ob (mono_eN e253) (mono_ob (mono_eR e248) (mono_ob (mono_eN e246) (mono_ob (mono_eR e241) (mono_ob (mono_eN e239) (mono_ob (mono_eR e234) (mono_ob (mono_eN e232) (mono_ob (mono_eR e227) (mono_ob (mono_eN e225) (mono_ob (mono_eR e220) (mono_ob (mono_eN e218) (mono_ob (mono_eI e213) (mono_ob (mono_eR e211) (mono_ob (mono_eN e209) (mono_ob (mono_eR e204) (mono_ob (mono_eN e202) (mono_ob (mono_eR e197) (mono_ob (mono_eN e195) (mono_ob (mono_eR e190) (mono_ob (mono_eN e188) (mono_ob (mono_eR e183) (mono_ob (mono_eN e181) (mono_ob (mono_eR e176) (mono_ob (mono_eN e174) (mono_ob (mono_eR e169) (mono_ob (mono_eN e167) (mono_ob (mono_eR e162) (mono_ob (mono_eN e160) (mono_ob (mono_eR e155) (mono_ob (mono_eN e153) (mono_ob (mono_eR e148) (mono_ob (mono_eN e146) (mono_ob (mono_eR e141) (mono_ob (mono_eN e139) (mono_ob (mono_eR e134) (mono_ob (mono_eN e132) (mono_ob (mono_eR e127) (mono_ob (mono_eN e125) (mono_ob (mono_eR e120) (mono_ob (mono_eN e118) (mono_ob (mono_eR e113) (mono_ob (mono_eN e111) (mono_ob (mono_eR e106) (mono_ob (mono_eN e104) (mono_ob (mono_eR e99) (mono_ob (mono_eN e97) (mono_ob (mono_eR e92) (mono_ob (mono_eN e90) (mono_ob (mono_eR e85) (mono_ob (mono_eN e83) (mono_ob (mono_eR e78) (mono_ob (mono_eN e76) (mono_ob (mono_eR e71) (mono_ob (mono_eN e69) (mono_ob (mono_eR e64) (mono_ob (mono_eN e62) (mono_ob (mono_eR e57) (mono_ob (mono_eN e55) (mono_ob (mono_eR e50) (mono_ob (mono_eN e48) (mono_ob (mono_eR e43) (mono_ob (mono_eN e41) (mono_ob (mono_eR e36) (mono_ob (mono_eN e34) (mono_ob (mono_eR e29) (mono_ob (mono_eN e27) (mono_ob (mono_eR e22) (mono_ob (mono_eN e20) (mono_ob (mono_eR e15) (mono_ob (mono_eN e13) (mono_ob (mono_eR e8) h6))))))))))))))))))))))))))))))))))))))))))))))))))))))))))))))))))))))))))))))))))))))))))))))))) (fun _ => ⟨rfl, rfl⟩) d12_init_411 (ev_nmS e346 ?_)
  refine ev_aload_n (j := 0) (i := 0) (q := 0) rfl rfl d12_init_414 ?_
  refine ev_bipush cb_72 d12_init_415 ?_
  obtain ⟨b347, e348, hf⟩ := lt_some hf
  obtain ⟨h349, hf⟩ := gd_some hf
  obtain ⟨t350, e351, hf⟩ := lt_some hf
  refine ev_newa_int w59 h349 d12_init_417 (ev_nmR e348 (ev_nmS e351 ?_))
  obtain ⟨t352, e353, hf⟩ := lt_some hf
  refine ev_putRF cls12 (j := 77) (by decide) rfl (ne_new e348) rfl w1328 rfl rfl (mono_ob (mono_eN e351) (mono_ob (mono_eR e346) (mono_ob (mono_eN e344) (mono_ob (mono_eR e339) (mono_ob (mono_eN e337) (mono_ob (mono_eR e332) (mono_ob (mono_eN e330) (mono_ob (mono_eR e325) (mono_ob (mono_eN e323) (mono_ob (mono_eR e318) (mono_ob (mono_eN e316) (mono_ob (mono_eR e311) (mono_ob (mono_eN e309) (mono_ob (mono_eR e304) (mono_ob (mono_eN e302) (mono_ob (mono_eR e297) (mono_ob (mono_eN e295) (mono_ob (mono_eR e290) (mono_ob (mono_eN e288) (mono_ob (mono_eR e283) (mono_ob (mono_eN e281) (mono_ob (mono_eR e276) (mono_ob (mono_eN e274) (mono_ob (mono_eR e269) (mono_ob (mono_eN e267) (mono_ob (mono_eR e262) (mono_ob (mono_eN e260) (mono_ob (mono_eR e255) (mono_ob (mono_eN e253) (mono_ob (mono_eR e248) (mono_ob (mono_eN e246) (mono_ob (mono_eR e241) (mono_ob (mono_eN e239) (mono_ob (mono_eR e234) (mono_ob (mono_eN e232) (mono_ob (mono_eR e227) (mono_ob (mono_eN e225) (mono_ob (mono_eR e220) (mono_ob (mono_eN e218) (mono_ob (mono_eI e213) (mono_ob (mono_eR e211) (mono_ob (mono_eN e209) (mono_ob (mono_eR e204) (mono_ob (mono_eN e202) (mono_ob (mono_eR e197) (mono_ob (mono_eN e195) (mono_ob (mono_eR e190) (mono_ob (mono_eN e188) (mono_ob (mono_eR e183) (mono_ob (mono_eN e181) (mono_ob (mono_eR e176) (mono_ob (mono_eN e174) (mono_ob (mono_eR e169) (mono_ob (mono_eN e167) (mono_ob (mono_eR e162) (mono_ob (mono_eN e160) (mono_ob (mono_eR e155) (mono_ob (mono_eN e153) (mono_ob (mono_eR e148) (mono_ob (mono_eN e146) (mono_ob (mono_eR e141) (mono_ob (mono_eN e139) (mono_ob (mono_eR e134) (mono_ob (mono_eN e132) (mono_ob (mono_eR e127) (mono_ob (mono_eN e125) (mono_ob (mono_eR e120) (mono_ob (mono_eN e118) (mono_ob (mono_eR e113) (mono_ob (mono_eN e111) (mono_ob (mono_eR e106) (mono_ob (mono_eN e104) (mono_ob (mono_eR e99) (mono_ob (mono_eN e97) (mono_ob (mono_eR e92) (mono_ob (mono_eN e90) (mono_ob (mono_eR e85) (mono_ob (mono_eN e83) (mono_ob (mono_eR e78) (mono_ob (mono_eN e76) (mono_ob (mono_eR e71) (mono_ob (mono_eN e69) (mono_ob (mono_eR e64) (mono_ob (mono_eN e62) (mono_ob (mono_eR e57) (mono_ob (mono_eN e55) (mono_ob (mono_eR e50) (mono_ob (mono_eN e48) (mono_ob (mono_eR e43) (mono_ob (mono_eN e41) (mono_ob (mono_eR e36) (mono_ob (mono_eN e34) (mono_ob (mono_eR e29) (mono_ob (mono_eN e27) (mono_ob (mono_eR e22) (mono_ob (mono_eN e20) (mono_ob (mono_eR e15) (mono_ob (mono_eN e13) (mono_ob (mono_eR e8) h6))))))))))))))))))))))))))))))))))))))))))))))))))))))))))))))))))))))))))))))))))))))))))))))))))) (fun _ => ⟨rfl, rfl⟩) d12_init_419 (ev_nmS e353 ?_)
  refine ev_aload_n (j := 0) (i := 0) (q := 0) rfl rfl d12_init_422 ?_
  refine ev_bipush cb_72 d12_init_423 ?_
  obtain ⟨b354, e355, hf⟩ := lt_some hf
  obtain ⟨h356, hf⟩ := gd_some hf
  obtain ⟨t357, e358, hf⟩ := lt_some hf
  refine ev_newa_int w59 h356 d12_init_425 (ev_nmR e355 (ev_nmS e358 ?_))
  obtain ⟨t359, e360, hf⟩ := lt_some hf
  refine ev_putRF cls12 (j := 78) (by decide) rfl (ne_new e355) rfl w1329 rfl rfl (mono_ob (mono_eN e358) (mono_ob (mono_eR e353) (mono_ob (mono_eN e351) (mono_ob (mono_eR e346) (mono_ob (mono_eN e344) (mono_ob (mono_eR e339) (mono_ob (mono_eN e337) (mono_ob (mono_eR e332) (mono_ob (mono_eN e330) (mono_ob (mono_eR e325) (mono_ob (mono_eN e323) (mono_ob (mono_eR e318) (mono_ob (mono_eN e316) (mono_ob (mono_eR e311) (mono_ob (mono_eN e309) (mono_ob (mono_eR e304) (mono_ob (mono_eN e302) (mono_ob (mono_eR e297) (mono_ob (mono_eN e295) (mono_ob (mono_eR e290) (mono_ob (mono_eN e288) (mono_ob (mono_eR e283) (mono_ob (mono_eN e281) (mono_ob (mono_eR e276) (mono_ob (mono_eN e274) (mono_ob (mono_eR e269) (mono_ob (mono_eN e267) (mono_ob (mono_eR e262) (mono_ob (mono_eN e260) (mono_ob (mono_eR e255) (mono_ob (mono_eN e253) (mono_ob (mono_eR e248) (mono_ob (mono_eN e246) (mono_ob (mono_eR e241) (mono_ob (mono_eN e239) (mono_ob (mono_eR e234) (mono_ob (mono_eN e232) (mono_ob (mono_eR e227) (mono_ob (mono_eN e225) (mono_ob (mono_eR e220) (mono_ob (mono_eN e218) (mono_ob (mono_eI e213) (mono_ob (mono_eR e211) (mono_ob (mono_eN e209) (mono_ob (mono_eR e204) (mono_ob (mono_eN e202) (mono_ob (mono_eR e197) (mono_ob (mono_eN e195) (mono_ob (mono_eR e190) (mono_ob (mono_eN e188) (mono_ob (mono_eR e183) (mono_ob (mono_eN e181) (mono_ob (mono_eR e176) (mono_ob (mono_eN e174) (mono_ob (mono_eR e169) (mono_ob (mono_eN e167) (mono_ob (mono_eR e162) (mono_ob (mono_eN e160) (mono_ob (mono_eR e155) (mono_ob (mono_eN e153) (mono_ob (mono_eR e148) (mono_ob (mono_eN e146) (mono_ob (mono_eR e141) (mono_ob (mono_eN e139) (mono_ob (mono_eR e134) (mono_ob (mono_eN e132) (mono_ob (mono_eR e127) (mono_ob (mono_eN e125) (mono_ob (mono_eR e120) (mono_ob (mono_eN e118) (mono_ob (mono_eR e113) (mono_ob (mono_eN e111) (mono_ob (mono_eR e106) (mono_ob (mono_eN e104) (mono_ob (mono_eR e99) (mono_ob (mono_eN e97) (mono_ob (mono_eR e92) (mono_ob (mono_eN e90) (mono_ob (mono_eR e85) (mono_ob (mono_eN e83) (mono_ob (mono_eR e78) (mono_ob (mono_eN e76) (mono_ob (mono_eR e71) (mono_ob (mono_eN e69) (mono_ob (mono_eR e64) (mono_ob (mono_eN e62) (mono_ob (mono_eR e57) (mono_ob (mono_eN e55) (mono_ob (mono_eR e50) (mono_ob (mono_eN e48) (mono_ob (mono_eR e43) (mono_ob (mono_eN e41) (mono_ob (mono_eR e36) (mono_ob (mono_eN e34) (mono_ob (mono_eR e29) (mono_ob (mono_eN e27) (mono_ob (mono_eR e22) (mono_ob (mono_eN e20) (mono_ob (mono_eR e15) (mono_ob (mono_eN e13) (mono_ob (mono_eR e8) h6))))))))))))))))))))))))))))))))))))))))))))))))))))))))))))))))))))))))))))))))))))))))))))))))))))) (fun _ => ⟨rfl, rfl⟩) d12_init_427 (ev_nmS e360 ?_)
  obtain ⟨-, rfl⟩ := ret_some hf
  exact ev_vret rfl d12_init_430
abbrev m12_isBerth : MD := ("MillBoatsModel", ⟨"MillBoatsModel", "isBerth", "(I)Z"⟩, prog_14_method_4_code, 1, (some Jvm.ClassFile.FieldType.boolean))
theorem k12_isBerth : okY m12_isBerth.2.1 1 := ⟨by decide +kernel, by decide +kernel, by decide +kernel⟩
def f12_isBerth (σ : St) (v0 : Int32) : Option (Int32 × St) :=
  (if v0 < (0 : Int32) then
  some ((0 : Int32), σ)
  else
  (if v0 < (72 : Int32) then
  some ((1 : Int32), σ)
  else
  some ((0 : Int32), σ)))
set_option maxRecDepth 50000 in
theorem s12_isBerth : ∀ (σ : St) (v0 : Int32) (r : Int32) (τ : St), f12_isBerth σ v0 = some (r, τ) → Call 2 m12_isBerth [.int v0] σ (some (.int r)) τ := by
  intro σ v0 r τ hf
  unfold f12_isBerth at hf
  refine Call.of (by decide +kernel) rfl (Nat.le_of_ble_eq_true rfl) ?_
  refine ev_iload_n (j := 0) (i := 0) (q := 0) rfl rfl d12_isBerth_0 ?_
  rcases ite_some hf with ⟨c1, hf⟩ | ⟨c1, hf⟩
  · refine ev_if_lt_P (tgt := 14) c1 (by decide) d12_isBerth_1 ?_
    refine ev_iconst ci_0 d12_isBerth_14 ?_
    obtain ⟨rfl, rfl⟩ := ret_some hf
    exact ev_zret rfl (by decide) d12_isBerth_15
  · refine ev_if_lt_Q (tgt := 14) c1 (by decide) d12_isBerth_1 ?_
    refine ev_iload_n (j := 0) (i := 0) (q := 0) rfl rfl d12_isBerth_4 ?_
    refine ev_bipush cb_72 d12_isBerth_5 ?_
    rcases ite_some hf with ⟨c2, hf⟩ | ⟨c2, hf⟩
    · refine ev_icmp_ge_P (tgt := 14) c2 (by decide) d12_isBerth_7 ?_
      refine ev_iconst ci_1 d12_isBerth_10 ?_
      refine ev_goto (tgt := 15) (by decide) d12_isBerth_11 ?_
      obtain ⟨rfl, rfl⟩ := ret_some hf
      exact ev_zret rfl (by decide) d12_isBerth_15
    · refine ev_icmp_ge_Q (tgt := 14) c2 (by decide) d12_isBerth_7 ?_
      refine ev_iconst ci_0 d12_isBerth_14 ?_
      obtain ⟨rfl, rfl⟩ := ret_some hf
      exact ev_zret rfl (by decide) d12_isBerth_15
abbrev m12_bed : MD := ("MillBoatsModel", ⟨"MillBoatsModel", "bed", "(II)Z"⟩, prog_14_method_5_code, 3, (some Jvm.ClassFile.FieldType.boolean))
theorem k12_bed : okY m12_bed.2.1 2 := ⟨by decide +kernel, by decide +kernel, by decide +kernel⟩
def f12_bed (σ : St) (v0 : Nat) (v1 : Int32) (v2 : Int32) : Option (Int32 × St) :=
  gd (ob σ v0 12) (
  lt (wI σ v0 0 (0 : Int32)) fun t2 => (
  bd (f12_isBerth t2 v1) fun r4 t5 => (
  (if r4 = (0 : Int32) then
  some ((0 : Int32), t5)
  else
  bd (f12_within t5 v2 (0 : Int32) (20 : Int32)) fun r9 t10 => (
  (if r9 = (0 : Int32) then
  some ((0 : Int32), t10)
  else
  lt (sR t10 v0 1) fun b14 => (
  gd (nz b14) (
  gd (ob t10 b14 14) (
  gd (inb t10 b14 v1) (
  lt (wI t10 b14 (ix v1) v2) fun t19 => (
  some ((1 : Int32), t19))))))))))))
set_option maxRecDepth 50000 in
theorem s12_bed : ∀ (σ : St) (v0 : Nat) (v1 : Int32) (v2 : Int32) (r : Int32) (τ : St), f12_bed σ v0 v1 v2 = some (r, τ) → Call 3 m12_bed [.ref v0, .int v1, .int v2] σ (some (.int r)) τ := by
  intro σ v0 v1 v2 r τ hf
  unfold f12_bed at hf
  refine Call.of (by decide +kernel) rfl (Nat.le_of_ble_eq_true rfl) ?_
  refine ev_aload_n (j := 0) (i := 0) (q := 0) rfl rfl d12_bed_0 ?_
  refine ev_iconst ci_0 d12_bed_1 ?_
  obtain ⟨h1, hf⟩ := gd_some hf
  obtain ⟨t2, e3, hf⟩ := lt_some hf
  refine ev_putI cls12 (j := 0) (by decide) rfl rfl w1251 h1 (fun _ => ⟨rfl, rfl⟩) d12_bed_2 (ev_nmS e3 ?_)
  refine ev_iload_n (j := 1) (i := 1) (q := 1) rfl rfl d12_bed_5 ?_
  obtain ⟨r4, t5, k6, hf⟩ := bd_some hf
  have q7 := s12_isBerth _ _ _ _ k6
  refine ev_callS (vs := [.int v1]) (sk := []) q7 (by decide) (Nat.le_of_ble_eq_true rfl) w1494 w1495 w19 w1496 k12_isBerth rfl (Nat.le_of_ble_eq_true rfl) d12_bed_6 ?_
  rcases ite_some hf with ⟨c8, hf⟩ | ⟨c8, hf⟩
  · refine ev_if_eq_P (tgt := 22) c8 (by decide) d12_bed_9 ?_
    refine ev_iconst ci_0 d12_bed_22 ?_
    obtain ⟨rfl, rfl⟩ := ret_some hf
    exact ev_zret rfl (by decide) d12_bed_23
  · refine ev_if_eq_Q (tgt := 22) c8 (by decide) d12_bed_9 ?_
    refine ev_iload_n (j := 2) (i := 2) (q := 2) rfl rfl d12_bed_12 ?_
    refine ev_iconst ci_0 d12_bed_13 ?_
    refine ev_bipush cb_20 d12_bed_14 ?_
    obtain ⟨r9, t10, k11, hf⟩ := bd_some hf
    have q12 := s12_within _ _ _ _ _ _ k11
    refine ev_callS (vs := [.int v2, .int (0 : Int32), .int (20 : Int32)]) (sk := []) q12 (by decide) (Nat.le_of_ble_eq_true rfl) w1497 w1498 w19 w1499 k12_within rfl (Nat.le_of_ble_eq_true rfl) d12_bed_16 ?_
    rcases ite_some hf with ⟨c13, hf⟩ | ⟨c13, hf⟩
    · refine ev_if_ne_P (tgt := 24) c13 (by decide) d12_bed_19 ?_
      refine ev_iconst ci_0 d12_bed_22 ?_
      obtain ⟨rfl, rfl⟩ := ret_some hf
      exact ev_zret rfl (by decide) d12_bed_23
    · refine ev_if_ne_Q (tgt := 24) c13 (by decide) d12_bed_19 ?_
      refine ev_aload_n (j := 0) (i := 0) (q := 0) rfl rfl d12_bed_24 ?_
      obtain ⟨b14, e15, hf⟩ := lt_some hf
      obtain ⟨h16, hf⟩ := gd_some hf
      refine ev_getRb cls12 (j := 1) (by decide) rfl w1252 (mono_ob q12.1 (mono_ob q7.1 (mono_ob (mono_eI e3) h1))) e15 (nz_ne h16) d12_bed_25 ?_
      refine ev_iload_n (j := 1) (i := 1) (q := 1) rfl rfl d12_bed_28 ?_
      refine ev_iload_n (j := 2) (i := 2) (q := 2) rfl rfl d12_bed_29 ?_
      obtain ⟨h17, hf⟩ := gd_some hf
      obtain ⟨h18, hf⟩ := gd_some hf
      obtain ⟨t19, e20, hf⟩ := lt_some hf
      refine ev_iast h17 h18 d12_bed_30 (ev_nmS e20 ?_)
      refine ev_iconst ci_1 d12_bed_31 ?_
      obtain ⟨rfl, rfl⟩ := ret_some hf
      exact ev_zret rfl (by decide) d12_bed_32
