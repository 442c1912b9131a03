theorem dL_court_0 : decode cL_court 0 = .ok (.bipush 32, 2) := by decide +kernel
theorem dL_court_2 : decode cL_court 2 = .ok (.newarray .int, 2) := by decide +kernel
theorem dL_court_4 : decode cL_court 4 = .ok (.astore 6, 2) := by decide +kernel
theorem dL_court_6 : decode cL_court 6 = .ok (.aload 5, 2) := by decide +kernel
theorem dL_court_8 : decode cL_court 8 = .ok (.bipush 18, 2) := by decide +kernel
theorem dL_court_10 : decode cL_court 10 = .ok (.aload_n 1, 1) := by decide +kernel
theorem dL_court_11 : decode cL_court 11 = .ok (.iload_n 2, 1) := by decide +kernel
theorem dL_court_12 : decode cL_court 12 = .ok (.invokestatic 15, 3) := by decide +kernel
theorem dL_court_15 : decode cL_court 15 = .ok (.iload 4, 2) := by decide +kernel
theorem dL_court_17 : decode cL_court 17 = .ok (.iconst 1, 1) := by decide +kernel
theorem dL_court_18 : decode cL_court 18 = .ok (.iadd, 1) := by decide +kernel
theorem dL_court_19 : decode cL_court 19 = .ok (.invokestatic 21, 3) := by decide +kernel
theorem dL_court_22 : decode cL_court 22 = .ok (.iastore, 1) := by decide +kernel
theorem dL_court_23 : decode cL_court 23 = .ok (.aload 5, 2) := by decide +kernel
theorem dL_court_25 : decode cL_court 25 = .ok (.bipush 19, 2) := by decide +kernel
theorem dL_court_27 : decode cL_court 27 = .ok (.aload_n 1, 1) := by decide +kernel
theorem dL_court_28 : decode cL_court 28 = .ok (.iload_n 2, 1) := by decide +kernel
theorem dL_court_29 : decode cL_court 29 = .ok (.invokestatic 15, 3) := by decide +kernel
theorem dL_court_32 : decode cL_court 32 = .ok (.bipush 8, 2) := by decide +kernel
theorem dL_court_34 : decode cL_court 34 = .ok (.ishr, 1) := by decide +kernel
theorem dL_court_35 : decode cL_court 35 = .ok (.iload 4, 2) := by decide +kernel
theorem dL_court_37 : decode cL_court 37 = .ok (.iconst 1, 1) := by decide +kernel
theorem dL_court_38 : decode cL_court 38 = .ok (.iadd, 1) := by decide +kernel
theorem dL_court_39 : decode cL_court 39 = .ok (.invokestatic 21, 3) := by decide +kernel
theorem dL_court_42 : decode cL_court 42 = .ok (.iastore, 1) := by decide +kernel
theorem dL_court_43 : decode cL_court 43 = .ok (.aload 6, 2) := by decide +kernel
theorem dL_court_45 : decode cL_court 45 = .ok (.iconst 0, 1) := by decide +kernel
theorem dL_court_46 : decode cL_court 46 = .ok (.bipush 110, 2) := by decide +kernel
theorem dL_court_48 : decode cL_court 48 = .ok (.iastore, 1) := by decide +kernel
theorem dL_court_49 : decode cL_court 49 = .ok (.aload 6, 2) := by decide +kernel
theorem dL_court_51 : decode cL_court 51 = .ok (.iconst 1, 1) := by decide +kernel
theorem dL_court_52 : decode cL_court 52 = .ok (.aload 5, 2) := by decide +kernel
theorem dL_court_54 : decode cL_court 54 = .ok (.bipush 18, 2) := by decide +kernel
theorem dL_court_56 : decode cL_court 56 = .ok (.iaload, 1) := by decide +kernel
theorem dL_court_57 : decode cL_court 57 = .ok (.invokestatic 25, 3) := by decide +kernel
theorem dL_court_60 : decode cL_court 60 = .ok (.istore 7, 2) := by decide +kernel
theorem dL_court_62 : decode cL_court 62 = .ok (.aload 6, 2) := by decide +kernel
theorem dL_court_64 : decode cL_court 64 = .ok (.iload 7, 2) := by decide +kernel
theorem dL_court_66 : decode cL_court 66 = .ok (.bipush 58, 2) := by decide +kernel
theorem dL_court_68 : decode cL_court 68 = .ok (.iastore, 1) := by decide +kernel
theorem dL_court_69 : decode cL_court 69 = .ok (.aload 6, 2) := by decide +kernel
theorem dL_court_71 : decode cL_court 71 = .ok (.iload 7, 2) := by decide +kernel
theorem dL_court_73 : decode cL_court 73 = .ok (.iconst 1, 1) := by decide +kernel
theorem dL_court_74 : decode cL_court 74 = .ok (.iadd, 1) := by decide +kernel
theorem dL_court_75 : decode cL_court 75 = .ok (.aload 5, 2) := by decide +kernel
theorem dL_court_77 : decode cL_court 77 = .ok (.bipush 19, 2) := by decide +kernel
theorem dL_court_79 : decode cL_court 79 = .ok (.iaload, 1) := by decide +kernel
theorem dL_court_80 : decode cL_court 80 = .ok (.invokestatic 25, 3) := by decide +kernel
theorem dL_court_83 : decode cL_court 83 = .ok (.istore 7, 2) := by decide +kernel
theorem dL_court_85 : decode cL_court 85 = .ok (.iconst 0, 1) := by decide +kernel
theorem dL_court_86 : decode cL_court 86 = .ok (.istore 8, 2) := by decide +kernel
theorem dL_court_88 : decode cL_court 88 = .ok (.iload 8, 2) := by decide +kernel
theorem dL_court_90 : decode cL_court 90 = .ok (.iload_n 3, 1) := by decide +kernel
theorem dL_court_91 : decode cL_court 91 = .ok (.if_icmp .ge 244, 3) := by decide +kernel
theorem dL_court_94 : decode cL_court 94 = .ok (.aload_n 1, 1) := by decide +kernel
theorem dL_court_95 : decode cL_court 95 = .ok (.iload_n 2, 1) := by decide +kernel
theorem dL_court_96 : decode cL_court 96 = .ok (.iconst 1, 1) := by decide +kernel
theorem dL_court_97 : decode cL_court 97 = .ok (.iadd, 1) := by decide +kernel
theorem dL_court_98 : decode cL_court 98 = .ok (.iload 8, 2) := by decide +kernel
theorem dL_court_100 : decode cL_court 100 = .ok (.iadd, 1) := by decide +kernel
theorem dL_court_101 : decode cL_court 101 = .ok (.invokestatic 15, 3) := by decide +kernel
theorem dL_court_104 : decode cL_court 104 = .ok (.istore 9, 2) := by decide +kernel
theorem dL_court_106 : decode cL_court 106 = .ok (.iload 9, 2) := by decide +kernel
theorem dL_court_108 : decode cL_court 108 = .ok (.iload 8, 2) := by decide +kernel
theorem dL_court_110 : decode cL_court 110 = .ok (.ifCond .ne 7, 3) := by decide +kernel
theorem dL_court_113 : decode cL_court 113 = .ok (.iconst 5, 1) := by decide +kernel
theorem dL_court_114 : decode cL_court 114 = .ok (.goto 5, 3) := by decide +kernel
theorem dL_court_117 : decode cL_court 117 = .ok (.bipush 6, 2) := by decide +kernel
theorem dL_court_119 : decode cL_court 119 = .ok (.invokestatic 21, 3) := by decide +kernel
theorem dL_court_122 : decode cL_court 122 = .ok (.istore 10, 2) := by decide +kernel
theorem dL_court_124 : decode cL_court 124 = .ok (.aload 5, 2) := by decide +kernel
theorem dL_court_126 : decode cL_court 126 = .ok (.iconst 3, 1) := by decide +kernel
theorem dL_court_127 : decode cL_court 127 = .ok (.iload 8, 2) := by decide +kernel
theorem dL_court_129 : decode cL_court 129 = .ok (.imul, 1) := by decide +kernel
theorem dL_court_130 : decode cL_court 130 = .ok (.iload 10, 2) := by decide +kernel
theorem dL_court_132 : decode cL_court 132 = .ok (.iastore, 1) := by decide +kernel
theorem dL_court_133 : decode cL_court 133 = .ok (.aload 5, 2) := by decide +kernel
theorem dL_court_135 : decode cL_court 135 = .ok (.iconst 3, 1) := by decide +kernel
theorem dL_court_136 : decode cL_court 136 = .ok (.iload 8, 2) := by decide +kernel
theorem dL_court_138 : decode cL_court 138 = .ok (.imul, 1) := by decide +kernel
theorem dL_court_139 : decode cL_court 139 = .ok (.iconst 1, 1) := by decide +kernel
theorem dL_court_140 : decode cL_court 140 = .ok (.iadd, 1) := by decide +kernel
theorem dL_court_141 : decode cL_court 141 = .ok (.iconst 1, 1) := by decide +kernel
theorem dL_court_142 : decode cL_court 142 = .ok (.iload 9, 2) := by decide +kernel
theorem dL_court_144 : decode cL_court 144 = .ok (.iconst 4, 1) := by decide +kernel
theorem dL_court_145 : decode cL_court 145 = .ok (.ishr, 1) := by decide +kernel
theorem dL_court_146 : decode cL_court 146 = .ok (.bipush 9, 2) := by decide +kernel
theorem dL_court_148 : decode cL_court 148 = .ok (.invokestatic 21, 3) := by decide +kernel
theorem dL_court_151 : decode cL_court 151 = .ok (.iadd, 1) := by decide +kernel
theorem dL_court_152 : decode cL_court 152 = .ok (.iastore, 1) := by decide +kernel
theorem dL_court_153 : decode cL_court 153 = .ok (.aload 5, 2) := by decide +kernel
theorem dL_court_155 : decode cL_court 155 = .ok (.iconst 3, 1) := by decide +kernel
theorem dL_court_156 : decode cL_court 156 = .ok (.iload 8, 2) := by decide +kernel
theorem dL_court_158 : decode cL_court 158 = .ok (.imul, 1) := by decide +kernel
theorem dL_court_159 : decode cL_court 159 = .ok (.iconst 2, 1) := by decide +kernel
theorem dL_court_160 : decode cL_court 160 = .ok (.iadd, 1) := by decide +kernel
theorem dL_court_161 : decode cL_court 161 = .ok (.iload 10, 2) := by decide +kernel
theorem dL_court_163 : decode cL_court 163 = .ok (.iconst 3, 1) := by decide +kernel
theorem dL_court_164 : decode cL_court 164 = .ok (.if_icmp .ge 8, 3) := by decide +kernel
theorem dL_court_167 : decode cL_court 167 = .ok (.bipush (-9), 2) := by decide +kernel
theorem dL_court_169 : decode cL_court 169 = .ok (.goto 50, 3) := by decide +kernel
theorem dL_court_172 : decode cL_court 172 = .ok (.iload 10, 2) := by decide +kernel
theorem dL_court_174 : decode cL_court 174 = .ok (.iconst 5, 1) := by decide +kernel
theorem dL_court_175 : decode cL_court 175 = .ok (.if_icmp .ne 16, 3) := by decide +kernel
theorem dL_court_178 : decode cL_court 178 = .ok (.iload 9, 2) := by decide +kernel
theorem dL_court_180 : decode cL_court 180 = .ok (.bipush 8, 2) := by decide +kernel
theorem dL_court_182 : decode cL_court 182 = .ok (.ishr, 1) := by decide +kernel
theorem dL_court_183 : decode cL_court 183 = .ok (.iload 8, 2) := by decide +kernel
theorem dL_court_185 : decode cL_court 185 = .ok (.invokestatic 21, 3) := by decide +kernel
theorem dL_court_188 : decode cL_court 188 = .ok (.goto 31, 3) := by decide +kernel
theorem dL_court_191 : decode cL_court 191 = .ok (.iconst 1, 1) := by decide +kernel
theorem dL_court_192 : decode cL_court 192 = .ok (.iload 9, 2) := by decide +kernel
theorem dL_court_194 : decode cL_court 194 = .ok (.bipush 8, 2) := by decide +kernel
theorem dL_court_196 : decode cL_court 196 = .ok (.ishr, 1) := by decide +kernel
theorem dL_court_197 : decode cL_court 197 = .ok (.iload 9, 2) := by decide +kernel
theorem dL_court_199 : decode cL_court 199 = .ok (.bipush 12, 2) := by decide +kernel
theorem dL_court_201 : decode cL_court 201 = .ok (.ishr, 1) := by decide +kernel
theorem dL_court_202 : decode cL_court 202 = .ok (.iconst 2, 1) := by decide +kernel
theorem dL_court_203 : decode cL_court 203 = .ok (.invokestatic 21, 3) := by decide +kernel
theorem dL_court_206 : decode cL_court 206 = .ok (.ifCond .ne 7, 3) := by decide +kernel
theorem dL_court_209 : decode cL_court 209 = .ok (.iconst 3, 1) := by decide +kernel
theorem dL_court_210 : decode cL_court 210 = .ok (.goto 5, 3) := by decide +kernel
theorem dL_court_213 : decode cL_court 213 = .ok (.bipush 9, 2) := by decide +kernel
theorem dL_court_215 : decode cL_court 215 = .ok (.invokestatic 21, 3) := by decide +kernel
theorem dL_court_218 : decode cL_court 218 = .ok (.iadd, 1) := by decide +kernel
theorem dL_court_219 : decode cL_court 219 = .ok (.iastore, 1) := by decide +kernel
theorem dL_court_220 : decode cL_court 220 = .ok (.aload 6, 2) := by decide +kernel
theorem dL_court_222 : decode cL_court 222 = .ok (.iload 7, 2) := by decide +kernel
theorem dL_court_224 : decode cL_court 224 = .ok (.iload 10, 2) := by decide +kernel
theorem dL_court_226 : decode cL_court 226 = .ok (.ifCond .ne 8, 3) := by decide +kernel
theorem dL_court_229 : decode cL_court 229 = .ok (.bipush 115, 2) := by decide +kernel
theorem dL_court_231 : decode cL_court 231 = .ok (.goto 49, 3) := by decide +kernel
theorem dL_court_234 : decode cL_court 234 = .ok (.iload 10, 2) := by decide +kernel
theorem dL_court_236 : decode cL_court 236 = .ok (.iconst 1, 1) := by decide +kernel
theorem dL_court_237 : decode cL_court 237 = .ok (.if_icmp .ne 8, 3) := by decide +kernel
theorem dL_court_240 : decode cL_court 240 = .ok (.bipush 111, 2) := by decide +kernel
theorem dL_court_242 : decode cL_court 242 = .ok (.goto 38, 3) := by decide +kernel
theorem dL_court_245 : decode cL_court 245 = .ok (.iload 10, 2) := by decide +kernel
theorem dL_court_247 : decode cL_court 247 = .ok (.iconst 2, 1) := by decide +kernel
theorem dL_court_248 : decode cL_court 248 = .ok (.if_icmp .ne 8, 3) := by decide +kernel
theorem dL_court_251 : decode cL_court 251 = .ok (.bipush 102, 2) := by decide +kernel
theorem dL_court_253 : decode cL_court 253 = .ok (.goto 27, 3) := by decide +kernel
theorem dL_court_256 : decode cL_court 256 = .ok (.iload 10, 2) := by decide +kernel
theorem dL_court_258 : decode cL_court 258 = .ok (.iconst 3, 1) := by decide +kernel
theorem dL_court_259 : decode cL_court 259 = .ok (.if_icmp .ne 8, 3) := by decide +kernel
theorem dL_court_262 : decode cL_court 262 = .ok (.bipush 100, 2) := by decide +kernel
theorem dL_court_264 : decode cL_court 264 = .ok (.goto 16, 3) := by decide +kernel
theorem dL_court_267 : decode cL_court 267 = .ok (.iload 10, 2) := by decide +kernel
theorem dL_court_269 : decode cL_court 269 = .ok (.iconst 4, 1) := by decide +kernel
theorem dL_court_270 : decode cL_court 270 = .ok (.if_icmp .ne 8, 3) := by decide +kernel
theorem dL_court_273 : decode cL_court 273 = .ok (.bipush 112, 2) := by decide +kernel
theorem dL_court_275 : decode cL_court 275 = .ok (.goto 5, 3) := by decide +kernel
theorem dL_court_278 : decode cL_court 278 = .ok (.bipush 104, 2) := by decide +kernel
theorem dL_court_280 : decode cL_court 280 = .ok (.iastore, 1) := by decide +kernel
theorem dL_court_281 : decode cL_court 281 = .ok (.aload 6, 2) := by decide +kernel
theorem dL_court_283 : decode cL_court 283 = .ok (.iload 7, 2) := by decide +kernel
theorem dL_court_285 : decode cL_court 285 = .ok (.iconst 1, 1) := by decide +kernel
theorem dL_court_286 : decode cL_court 286 = .ok (.iadd, 1) := by decide +kernel
theorem dL_court_287 : decode cL_court 287 = .ok (.bipush 48, 2) := by decide +kernel
theorem dL_court_289 : decode cL_court 289 = .ok (.aload 5, 2) := by decide +kernel
theorem dL_court_291 : decode cL_court 291 = .ok (.iconst 3, 1) := by decide +kernel
theorem dL_court_292 : decode cL_court 292 = .ok (.iload 8, 2) := by decide +kernel
theorem dL_court_294 : decode cL_court 294 = .ok (.imul, 1) := by decide +kernel
theorem dL_court_295 : decode cL_court 295 = .ok (.iconst 1, 1) := by decide +kernel
theorem dL_court_296 : decode cL_court 296 = .ok (.iadd, 1) := by decide +kernel
theorem dL_court_297 : decode cL_court 297 = .ok (.iaload, 1) := by decide +kernel
theorem dL_court_298 : decode cL_court 298 = .ok (.iadd, 1) := by decide +kernel
theorem dL_court_299 : decode cL_court 299 = .ok (.iastore, 1) := by decide +kernel
theorem dL_court_300 : decode cL_court 300 = .ok (.iinc 7 2, 3) := by decide +kernel
theorem dL_court_303 : decode cL_court 303 = .ok (.iload 10, 2) := by decide +kernel
theorem dL_court_305 : decode cL_court 305 = .ok (.iconst 2, 1) := by decide +kernel
theorem dL_court_306 : decode cL_court 306 = .ok (.if_icmp .le 23, 3) := by decide +kernel
theorem dL_court_309 : decode cL_court 309 = .ok (.aload 6, 2) := by decide +kernel
theorem dL_court_311 : decode cL_court 311 = .ok (.iload 7, 2) := by decide +kernel
theorem dL_court_313 : decode cL_court 313 = .ok (.bipush 48, 2) := by decide +kernel
theorem dL_court_315 : decode cL_court 315 = .ok (.aload 5, 2) := by decide +kernel
theorem dL_court_317 : decode cL_court 317 = .ok (.iconst 3, 1) := by decide +kernel
theorem dL_court_318 : decode cL_court 318 = .ok (.iload 8, 2) := by decide +kernel
theorem dL_court_320 : decode cL_court 320 = .ok (.imul, 1) := by decide +kernel
theorem dL_court_321 : decode cL_court 321 = .ok (.iconst 2, 1) := by decide +kernel
theorem dL_court_322 : decode cL_court 322 = .ok (.iadd, 1) := by decide +kernel
theorem dL_court_323 : decode cL_court 323 = .ok (.iaload, 1) := by decide +kernel
theorem dL_court_324 : decode cL_court 324 = .ok (.iadd, 1) := by decide +kernel
theorem dL_court_325 : decode cL_court 325 = .ok (.iastore, 1) := by decide +kernel
theorem dL_court_326 : decode cL_court 326 = .ok (.iinc 7 1, 3) := by decide +kernel
theorem dL_court_329 : decode cL_court 329 = .ok (.iinc 8 1, 3) := by decide +kernel
theorem dL_court_332 : decode cL_court 332 = .ok (.goto (-244), 3) := by decide +kernel
theorem dL_court_335 : decode cL_court 335 = .ok (.aload_n 0, 1) := by decide +kernel
theorem dL_court_336 : decode cL_court 336 = .ok (.iconst 3, 1) := by decide +kernel
theorem dL_court_337 : decode cL_court 337 = .ok (.iload 7, 2) := by decide +kernel
theorem dL_court_339 : decode cL_court 339 = .ok (.invokevirtual 29, 3) := by decide +kernel
theorem dL_court_342 : decode cL_court 342 = .ok (.iload 7, 2) := by decide +kernel
theorem dL_court_344 : decode cL_court 344 = .ok (.if_icmp .ne 7, 3) := by decide +kernel
theorem dL_court_347 : decode cL_court 347 = .ok (.iconst 1, 1) := by decide +kernel
theorem dL_court_348 : decode cL_court 348 = .ok (.goto 4, 3) := by decide +kernel
theorem dL_court_351 : decode cL_court 351 = .ok (.iconst 0, 1) := by decide +kernel
theorem dL_court_352 : decode cL_court 352 = .ok (.istore 8, 2) := by decide +kernel
theorem dL_court_354 : decode cL_court 354 = .ok (.iconst 0, 1) := by decide +kernel
theorem dL_court_355 : decode cL_court 355 = .ok (.istore 9, 2) := by decide +kernel
theorem dL_court_357 : decode cL_court 357 = .ok (.iload 9, 2) := by decide +kernel
theorem dL_court_359 : decode cL_court 359 = .ok (.iload 7, 2) := by decide +kernel
theorem dL_court_361 : decode cL_court 361 = .ok (.if_icmp .ge 39, 3) := by decide +kernel
theorem dL_court_364 : decode cL_court 364 = .ok (.iload 8, 2) := by decide +kernel
theorem dL_court_366 : decode cL_court 366 = .ok (.ifCond .eq 34, 3) := by decide +kernel
theorem dL_court_369 : decode cL_court 369 = .ok (.aload_n 0, 1) := by decide +kernel
theorem dL_court_370 : decode cL_court 370 = .ok (.iconst 3, 1) := by decide +kernel
theorem dL_court_371 : decode cL_court 371 = .ok (.iload 9, 2) := by decide +kernel
theorem dL_court_373 : decode cL_court 373 = .ok (.aload 6, 2) := by decide +kernel
theorem dL_court_375 : decode cL_court 375 = .ok (.iload 9, 2) := by decide +kernel
theorem dL_court_377 : decode cL_court 377 = .ok (.iaload, 1) := by decide +kernel
theorem dL_court_378 : decode cL_court 378 = .ok (.invokevirtual 32, 3) := by decide +kernel
theorem dL_court_381 : decode cL_court 381 = .ok (.sipush 1032, 3) := by decide +kernel
theorem dL_court_384 : decode cL_court 384 = .ok (.if_icmp .ne 7, 3) := by decide +kernel
theorem dL_court_387 : decode cL_court 387 = .ok (.iconst 1, 1) := by decide +kernel
theorem dL_court_388 : decode cL_court 388 = .ok (.goto 4, 3) := by decide +kernel
theorem dL_court_391 : decode cL_court 391 = .ok (.iconst 0, 1) := by decide +kernel
theorem dL_court_392 : decode cL_court 392 = .ok (.istore 8, 2) := by decide +kernel
theorem dL_court_394 : decode cL_court 394 = .ok (.iinc 9 1, 3) := by decide +kernel
theorem dL_court_397 : decode cL_court 397 = .ok (.goto (-40), 3) := by decide +kernel
theorem dL_court_400 : decode cL_court 400 = .ok (.iload 8, 2) := by decide +kernel
theorem dL_court_402 : decode cL_court 402 = .ok (.ifCond .eq 26, 3) := by decide +kernel
theorem dL_court_405 : decode cL_court 405 = .ok (.aload_n 0, 1) := by decide +kernel
theorem dL_court_406 : decode cL_court 406 = .ok (.iconst 3, 1) := by decide +kernel
theorem dL_court_407 : decode cL_court 407 = .ok (.invokevirtual 36, 3) := by decide +kernel
theorem dL_court_410 : decode cL_court 410 = .ok (.bipush (-9), 2) := by decide +kernel
theorem dL_court_412 : decode cL_court 412 = .ok (.if_icmp .ne 16, 3) := by decide +kernel
theorem dL_court_415 : decode cL_court 415 = .ok (.aload_n 0, 1) := by decide +kernel
theorem dL_court_416 : decode cL_court 416 = .ok (.iconst 3, 1) := by decide +kernel
theorem dL_court_417 : decode cL_court 417 = .ok (.invokevirtual 40, 3) := by decide +kernel
theorem dL_court_420 : decode cL_court 420 = .ok (.iload_n 3, 1) := by decide +kernel
theorem dL_court_421 : decode cL_court 421 = .ok (.if_icmp .ne 7, 3) := by decide +kernel
theorem dL_court_424 : decode cL_court 424 = .ok (.iconst 1, 1) := by decide +kernel
theorem dL_court_425 : decode cL_court 425 = .ok (.goto 4, 3) := by decide +kernel
theorem dL_court_428 : decode cL_court 428 = .ok (.iconst 0, 1) := by decide +kernel
theorem dL_court_429 : decode cL_court 429 = .ok (.ireturn, 1) := by decide +kernel
theorem q_865 : Cond.methodLink RL 36 yX11_fault ∈ wT := wi_t 865 (by decide +kernel) (by decide +kernel)
theorem q_868 : Cond.code yX11_fault cX11_fault 3 (some .int) ∈ wT := wi_t 868 (by decide +kernel) (by decide +kernel)
theorem q_866 : Cond.instanceMethod yX11_fault ∈ wT := wi_t 866 (by decide +kernel) (by decide +kernel)
theorem q_867 : Cond.selects RX11 yX11_fault yX11_fault ∈ wT := wi_t 867 (by decide +kernel) (by decide +kernel)
theorem q_901 : Cond.methodLink RL 40 yX11_court ∈ wT := wi_t 901 (by decide +kernel) (by decide +kernel)
theorem q_904 : Cond.code yX11_court cX11_court 4 (some .int) ∈ wT := wi_t 904 (by decide +kernel) (by decide +kernel)
theorem q_902 : Cond.instanceMethod yX11_court ∈ wT := wi_t 902 (by decide +kernel) (by decide +kernel)
theorem q_903 : Cond.selects RX11 yX11_court yX11_court ∈ wT := wi_t 903 (by decide +kernel) (by decide +kernel)
theorem q_861 : Cond.methodLink RL 32 yX11_put ∈ wT := wi_t 861 (by decide +kernel) (by decide +kernel)
theorem q_864 : Cond.code yX11_put cX11_put 6 (some .int) ∈ wT := wi_t 864 (by decide +kernel) (by decide +kernel)
theorem q_862 : Cond.instanceMethod yX11_put ∈ wT := wi_t 862 (by decide +kernel) (by decide +kernel)
theorem q_863 : Cond.selects RX11 yX11_put yX11_put ∈ wT := wi_t 863 (by decide +kernel) (by decide +kernel)
theorem q_848 : Cond.methodLink RL 29 yX11_text ∈ wT := wi_t 848 (by decide +kernel) (by decide +kernel)
theorem q_851 : Cond.code yX11_text cX11_text 4 (some .int) ∈ wT := wi_t 851 (by decide +kernel) (by decide +kernel)
theorem q_849 : Cond.instanceMethod yX11_text ∈ wT := wi_t 849 (by decide +kernel) (by decide +kernel)
theorem q_850 : Cond.selects RX11 yX11_text yX11_text ∈ wT := wi_t 850 (by decide +kernel) (by decide +kernel)
theorem q_835 : Cond.methodLink RL 15 yL_cell ∈ wT := wi_t 835 (by decide +kernel) (by decide +kernel)
theorem q_837 : Cond.code yL_cell cL_cell 2 (some .int) ∈ wT := wi_t 837 (by decide +kernel) (by decide +kernel)
theorem q_836 : Cond.static yL_cell ∈ wT := wi_t 836 (by decide +kernel) (by decide +kernel)
theorem q_845 : Cond.methodLink RL 25 yL_number ∈ wT := wi_t 845 (by decide +kernel) (by decide +kernel)
theorem q_847 : Cond.code yL_number cL_number 3 (some .int) ∈ wT := wi_t 847 (by decide +kernel) (by decide +kernel)
theorem q_846 : Cond.static yL_number ∈ wT := wi_t 846 (by decide +kernel) (by decide +kernel)
theorem kvX11_fault : KV yX11_fault RX11 cX11_fault 3 (some .int) 1 := ⟨q_866, q_867, q_1, q_868, rfl, by decide +kernel, by decide +kernel, by decide +kernel⟩
theorem kvX11_court : KV yX11_court RX11 cX11_court 4 (some .int) 1 := ⟨q_902, q_903, q_1, q_904, rfl, by decide +kernel, by decide +kernel, by decide +kernel⟩
theorem kvX11_put : KV yX11_put RX11 cX11_put 6 (some .int) 3 := ⟨q_862, q_863, q_1, q_864, rfl, by decide +kernel, by decide +kernel, by decide +kernel⟩
theorem kvX11_text : KV yX11_text RX11 cX11_text 4 (some .int) 2 := ⟨q_849, q_850, q_1, q_851, rfl, by decide +kernel, by decide +kernel, by decide +kernel⟩
theorem kvL_cell : KS yL_cell cL_cell 2 (some .int) 2 := ⟨q_836, q_0, q_837, by decide +kernel, by decide +kernel, by decide +kernel⟩
theorem kvL_number : KS yL_number cL_number 3 (some .int) 3 := ⟨q_846, q_0, q_847, by decide +kernel, by decide +kernel, by decide +kernel⟩
/-! court -/
def fL_court_400 (N L : Nat) (xs : Nat → Int32)  (a0 : Nat) (a3 : Int32) (a8 : Int32) (mm : Mm) : Option (Int32 × Mm) :=
  if a8 = 0 then (some (0, mm)) else (bd2 (fX11_fault N a0 3 mm) fun x2 m3 => if x2 = (-9) then (bd2 (fX11_court N a0 3 m3) fun x6 m7 => if x6 = a3 then (some (1, m7)) else (some (0, m7))) else (some (0, m3)))
def fL_court_392 (N L : Nat) (xs : Nat → Int32) (k357 : Nat → Int32 → Nat → Int32 → Int32 → Int32 → Mm → Option (Int32 × Mm)) (a0 : Nat) (a3 : Int32) (a6 : Nat) (a7 : Int32) (a9 : Int32) (s0 : Int32) (mm : Mm) : Option (Int32 × Mm) :=
  k357 a0 a3 a6 a7 s0 (a9 + 1) mm
def fL_court_357 (N L : Nat) (xs : Nat → Int32)  : Nat → Nat → Int32 → Nat → Int32 → Int32 → Int32 → Mm → Option (Int32 × Mm)
  | 0 => fun _ _ _ _ _ _ _ => none
  | n + 1 => fun a0 a3 a6 a7 a8 a9 mm =>
    let k357 := fL_court_357 N L xs  n
    if a7 ≤ a9 then (fL_court_400 N L xs a0 a3 a8 mm) else (if a8 = 0 then (fL_court_400 N L xs a0 a3 a8 mm) else (gd (inb a9 (ln a6)) <| bd2 (fX11_put N a0 3 a9 (rd mm a6 a9.toNatClampNeg) mm) fun x13 m14 => if x13 = 1032 then (fL_court_392 N L xs k357 a0 a3 a6 a7 a9 1 m14) else (fL_court_392 N L xs k357 a0 a3 a6 a7 a9 0 m14)))
def fL_court_352 (N L : Nat) (xs : Nat → Int32)  (a0 : Nat) (a3 : Int32) (a6 : Nat) (a7 : Int32) (s0 : Int32) (mm : Mm) : Option (Int32 × Mm) :=
  fL_court_357 N L xs N a0 a3 a6 a7 s0 0 mm
def fL_court_329 (N L : Nat) (xs : Nat → Int32) (k88 : Nat → Int32 → Int32 → Nat → Nat → Int32 → Int32 → Mm → Option (Int32 × Mm)) (a0 : Nat) (a2 : Int32) (a3 : Int32) (a5 : Nat) (a6 : Nat) (a7 : Int32) (a8 : Int32) (mm : Mm) : Option (Int32 × Mm) :=
  k88 a0 a2 a3 a5 a6 a7 (a8 + 1) mm
def fL_court_280 (N L : Nat) (xs : Nat → Int32) (k88 : Nat → Int32 → Int32 → Nat → Nat → Int32 → Int32 → Mm → Option (Int32 × Mm)) (a0 : Nat) (a2 : Int32) (a3 : Int32) (a5 : Nat) (a6 : Nat) (a7 : Int32) (a8 : Int32) (a10 : Int32) (s0 : Nat) (s1 : Int32) (s2 : Int32) (mm : Mm) : Option (Int32 × Mm) :=
  gd (inb s1 (ln s0)) <| nm (wr mm s0 s1.toNatClampNeg s2) fun m18 => gd (inb ((3 * a8) + 1) (ln a5)) <| gd (inb (a7 + 1) (ln a6)) <| nm (wr m18 a6 (a7 + 1).toNatClampNeg (48 + (rd m18 a5 (((3 * a8) + 1).toNatClampNeg)))) fun m21 => if a10 ≤ 2 then (fL_court_329 N L xs k88 a0 a2 a3 a5 a6 (a7 + 2) a8 m21) else (gd (inb ((3 * a8) + 2) (ln a5)) <| gd (inb (a7 + 2) (ln a6)) <| nm (wr m21 a6 (a7 + 2).toNatClampNeg (48 + (rd m21 a5 (((3 * a8) + 2).toNatClampNeg)))) fun m25 => fL_court_329 N L xs k88 a0 a2 a3 a5 a6 ((a7 + 2) + 1) a8 m25)
def fL_court_219 (N L : Nat) (xs : Nat → Int32) (k88 : Nat → Int32 → Int32 → Nat → Nat → Int32 → Int32 → Mm → Option (Int32 × Mm)) (a0 : Nat) (a2 : Int32) (a3 : Int32) (a5 : Nat) (a6 : Nat) (a7 : Int32) (a8 : Int32) (a10 : Int32) (s0 : Nat) (s1 : Int32) (s2 : Int32) (mm : Mm) : Option (Int32 × Mm) :=
  gd (inb s1 (ln s0)) <| nm (wr mm s0 s1.toNatClampNeg s2) fun m27 => if a10 = 0 then (fL_court_280 N L xs k88 a0 a2 a3 a5 a6 a7 a8 a10 a6 a7 115 m27) else (if a10 = 1 then (fL_court_280 N L xs k88 a0 a2 a3 a5 a6 a7 a8 a10 a6 a7 111 m27) else (if a10 = 2 then (fL_court_280 N L xs k88 a0 a2 a3 a5 a6 a7 a8 a10 a6 a7 102 m27) else (if a10 = 3 then (fL_court_280 N L xs k88 a0 a2 a3 a5 a6 a7 a8 a10 a6 a7 100 m27) else (if a10 = 4 then (fL_court_280 N L xs k88 a0 a2 a3 a5 a6 a7 a8 a10 a6 a7 112 m27) else (fL_court_280 N L xs k88 a0 a2 a3 a5 a6 a7 a8 a10 a6 a7 104 m27)))))
def fL_court_215 (N L : Nat) (xs : Nat → Int32) (k88 : Nat → Int32 → Int32 → Nat → Nat → Int32 → Int32 → Mm → Option (Int32 × Mm)) (a0 : Nat) (a2 : Int32) (a3 : Int32) (a5 : Nat) (a6 : Nat) (a7 : Int32) (a8 : Int32) (a10 : Int32) (s0 : Nat) (s1 : Int32) (s2 : Int32) (s3 : Int32) (s4 : Int32) (mm : Mm) : Option (Int32 × Mm) :=
  bd2 (fL_low N s3 s4 mm) fun x33 m34 => fL_court_219 N L xs k88 a0 a2 a3 a5 a6 a7 a8 a10 s0 s1 (s2 + x33) m34
def fL_court_119 (N L : Nat) (xs : Nat → Int32) (k88 : Nat → Int32 → Int32 → Nat → Nat → Int32 → Int32 → Mm → Option (Int32 × Mm)) (a0 : Nat) (a2 : Int32) (a3 : Int32) (a5 : Nat) (a6 : Nat) (a7 : Int32) (a8 : Int32) (a9 : Int32) (s0 : Int32) (s1 : Int32) (mm : Mm) : Option (Int32 × Mm) :=
  bd2 (fL_low N s0 s1 mm) fun x36 m37 => gd (inb (3 * a8) (ln a5)) <| nm (wr m37 a5 (3 * a8).toNatClampNeg x36) fun m40 => bd2 (fL_low N (a9 >>> ((4 : Int32) &&& 31)) 9 m40) fun x41 m42 => gd (inb ((3 * a8) + 1) (ln a5)) <| nm (wr m42 a5 ((3 * a8) + 1).toNatClampNeg (1 + x41)) fun m45 => if (3 : Int32) ≤ x36 then (if x36 = 5 then (bd2 (fL_low N (a9 >>> ((8 : Int32) &&& 31)) a8 m45) fun x52 m53 => fL_court_219 N L xs k88 a0 a2 a3 a5 a6 a7 a8 x36 a5 ((3 * a8) + 2) x52 m53) else (bd2 (fL_low N (a9 >>> ((12 : Int32) &&& 31)) 2 m45) fun x48 m49 => if x48 = 0 then (fL_court_215 N L xs k88 a0 a2 a3 a5 a6 a7 a8 x36 a5 ((3 * a8) + 2) 1 (a9 >>> ((8 : Int32) &&& 31)) 3 m49) else (fL_court_215 N L xs k88 a0 a2 a3 a5 a6 a7 a8 x36 a5 ((3 * a8) + 2) 1 (a9 >>> ((8 : Int32) &&& 31)) 9 m49))) else (fL_court_219 N L xs k88 a0 a2 a3 a5 a6 a7 a8 x36 a5 ((3 * a8) + 2) (-9) m45)
def fL_court_88 (N L : Nat) (xs : Nat → Int32)  : Nat → Nat → Int32 → Int32 → Nat → Nat → Int32 → Int32 → Mm → Option (Int32 × Mm)
  | 0 => fun _ _ _ _ _ _ _ _ => none
  | n + 1 => fun a0 a2 a3 a5 a6 a7 a8 mm =>
    let k88 := fL_court_88 N L xs  n
    if a3 ≤ a8 then (bd2 (fX11_text N a0 3 a7 mm) fun x56 m57 => if x56 = a7 then (fL_court_352 N L xs a0 a3 a6 a7 1 m57) else (fL_court_352 N L xs a0 a3 a6 a7 0 m57)) else (bd2 (fL_cell N L xs ((a2 + 1) + a8) mm) fun x60 m61 => if a8 = 0 then (fL_court_119 N L xs k88 a0 a2 a3 a5 a6 a7 a8 x60 x60 5 m61) else (fL_court_119 N L xs k88 a0 a2 a3 a5 a6 a7 a8 x60 x60 6 m61))
def fL_court_6 (N L : Nat) (xs : Nat → Int32)  (a0 : Nat) (a2 : Int32) (a3 : Int32) (a4 : Int32) (a5 : Nat) (a6 : Nat) (mm : Mm) : Option (Int32 × Mm) :=
  bd2 (fL_cell N L xs a2 mm) fun x64 m65 => bd2 (fL_low N x64 (a4 + 1) m65) fun x67 m68 => gd (inb 18 (ln a5)) <| nm (wr m68 a5 (18 : Int32).toNatClampNeg x67) fun m71 => bd2 (fL_cell N L xs a2 m71) fun x72 m73 => bd2 (fL_low N (x72 >>> ((8 : Int32) &&& 31)) (a4 + 1) m73) fun x75 m76 => gd (inb 19 (ln a5)) <| nm (wr m76 a5 (19 : Int32).toNatClampNeg x75) fun m79 => gd (inb 0 (ln a6)) <| nm (wr m79 a6 (0 : Int32).toNatClampNeg 110) fun m81 => gd (inb 18 (ln a5)) <| bd2 (fL_number N a6 1 (rd m81 a5 ((18 : Int32).toNatClampNeg)) m81) fun x83 m84 => gd (inb x83 (ln a6)) <| nm (wr m84 a6 x83.toNatClampNeg 58) fun m87 => gd (inb 19 (ln a5)) <| bd2 (fL_number N a6 (x83 + 1) (rd m87 a5 ((19 : Int32).toNatClampNeg)) m87) fun x89 m90 => fL_court_88 N L xs N a0 a2 a3 a5 a6 x89 0 m90
abbrev rmL_court : Room := { frames := 7, cells := 1, slots := 32, locals := 221 }
section W_lc
variable {p : Program} {l : Launch} {e : Env} {s : State} {m : MethodId} {args : Array Value} {below : List Frame} {meth : Method} {c : Code} {D : va_G} {ca ad : Nat → Nat} {b L : Nat} {xs : Nat → Int32}
set_option maxRecDepth 100000 in
set_option maxHeartbeats 4000000 in
theorem wL_court_400 (CS : CxS p s m meth c args cL_court 11 (some .boolean) RL D ca ad b L xs) {res : Int32 × Mm} {N : Nat}  {a0 : Nat} {a3 : Int32} {a8 : Int32} {mm : Mm} {H : Heap} {locs : List Loc} {ls : Array Slot} (ha0 : sX11 a0) (hW : Wd D ca ad s.heap mm H locs) (hl : lv_has ls 11 [(0, .ref (ad a0)), (3, .int a3), (8, .int a8), (1, .ref b)]) (hf : fL_court_400 N L xs a0 a3 a8 mm = some res) : W p l e (rmL_court) s m args below meth c H locs 1 32 (MQ below (QI D ca ad res) args s 1 32 (AA ad)) (F0 m 400 ls []) := by
  have C := CS.1
  unfold fL_court_400 at hf
  refine lv_iload C.1 C.2.1 dL_court_400 (lv_at hl 2 rfl) ?_
  refine lv_if_eq (tgt := 428) C.1 C.2.1 dL_court_402 (by decide) (fun c1 => ?_) (fun c1 => ?_)
  · have hf := if_t c1 hf
    refine lv_iconst (v := 0) C.1 C.2.1 dL_court_428 (by decide) ?_
    cases hf
    exact z_zret C hW (by decide) dL_court_429
  · have hf := if_f c1 hf
    refine lv_aload_n C.1 C.2.1 dL_court_405 rfl (lv_at hl 0 rfl) ?_
    refine lv_iconst (v := 3) C.1 C.2.1 dL_court_406 (by decide) ?_
    obtain ⟨x2, m3, r4, hf⟩ := bd2_s hf
    refine z_ci hW (z_runV C hW [.int 3] [] (ha0).1 (ha0).2.1 kX11.1 kvX11_fault q_865 (tX11_fault l C.2.2.2.2.2.2.1 ha0 r4) rfl rfl ⟨by decide, by decide⟩ rfl hl.1 rfl (Nat.le_of_ble_eq_true rfl) dL_court_407 ⟨Nat.le_of_ble_eq_true rfl, Nat.le_of_ble_eq_true rfl⟩) (fun H locs hW => ?_)
    refine lv_bipush (v := (-9)) C.1 C.2.1 dL_court_410 (by decide) ?_
    refine lv_icmp_ne (tgt := 428) C.1 C.2.1 dL_court_412 (by decide) (fun c5 => ?_) (fun c5 => ?_)
    · have hf := if_f c5 hf
      refine lv_iconst (v := 0) C.1 C.2.1 dL_court_428 (by decide) ?_
      cases hf
      exact z_zret C hW (by decide) dL_court_429
    · have hf := if_t c5 hf
      refine lv_aload_n C.1 C.2.1 dL_court_415 rfl (lv_at hl 0 rfl) ?_
      refine lv_iconst (v := 3) C.1 C.2.1 dL_court_416 (by decide) ?_
      obtain ⟨x6, m7, r8, hf⟩ := bd2_s hf
      refine z_ci hW (z_runV C hW [.int 3] [] (ha0).1 (ha0).2.1 kX11.1 kvX11_court q_901 (tX11_court l C.2.2.2.2.2.2.1 ha0 r8) rfl rfl ⟨by decide, by decide⟩ rfl hl.1 rfl (Nat.le_of_ble_eq_true rfl) dL_court_417 ⟨Nat.le_of_ble_eq_true rfl, Nat.le_of_ble_eq_true rfl⟩) (fun H locs hW => ?_)
      refine lv_iload_n C.1 C.2.1 dL_court_420 rfl (lv_at hl 1 rfl) ?_
      refine lv_icmp_ne (tgt := 428) C.1 C.2.1 dL_court_421 (by decide) (fun c9 => ?_) (fun c9 => ?_)
      · have hf := if_f c9 hf
        refine lv_iconst (v := 0) C.1 C.2.1 dL_court_428 (by decide) ?_
        cases hf
        exact z_zret C hW (by decide) dL_court_429
      · have hf := if_t c9 hf
        refine lv_iconst (v := 1) C.1 C.2.1 dL_court_424 (by decide) ?_
        refine lv_goto (tgt := 429) C.1 C.2.1 dL_court_425 (by decide) ?_
        cases hf
        exact z_zret C hW (by decide) dL_court_429
set_option maxRecDepth 100000 in
set_option maxHeartbeats 4000000 in
theorem wL_court_392 (CS : CxS p s m meth c args cL_court 11 (some .boolean) RL D ca ad b L xs) {res : Int32 × Mm} {N : Nat} {k357 : Nat → Int32 → Nat → Int32 → Int32 → Int32 → Mm → Option (Int32 × Mm)} (hk357 : ∀ (a0 : Nat) (a3 : Int32) (a6 : Nat) (a7 : Int32) (a8 : Int32) (a9 : Int32) (mm : Mm) (H : Heap) (locs : List Loc) (ls : Array Slot), (sX11 a0) → (sJ ad a6) → Wd D ca ad s.heap mm H locs → lv_has ls 11 [(0, .ref (ad a0)), (3, .int a3), (6, .ref (ad a6)), (7, .int a7), (8, .int a8), (9, .int a9), (1, .ref b)] → k357 a0 a3 a6 a7 a8 a9 mm = some res → W p l e (rmL_court) s m args below meth c H locs 1 32 (MQ below (QI D ca ad res) args s 1 32 (AA ad)) (F0 m 357 ls [])) {a0 : Nat} {a3 : Int32} {a6 : Nat} {a7 : Int32} {a9 : Int32} {s0 : Int32} {mm : Mm} {H : Heap} {locs : List Loc} {ls : Array Slot} (ha0 : sX11 a0) (ha6 : sJ ad a6) (hW : Wd D ca ad s.heap mm H locs) (hl : lv_has ls 11 [(0, .ref (ad a0)), (3, .int a3), (6, .ref (ad a6)), (7, .int a7), (9, .int a9), (1, .ref b)]) (hf : fL_court_392 N L xs k357 a0 a3 a6 a7 a9 s0 mm = some res) : W p l e (rmL_court) s m args below meth c H locs 1 32 (MQ below (QI D ca ad res) args s 1 32 (AA ad)) (F0 m 392 ls [.int s0]) := by
  have C := CS.1
  unfold fL_court_392 at hf
  refine lv_istore (lv' := [(8, .int s0), (0, .ref (ad a0)), (3, .int a3), (6, .ref (ad a6)), (7, .int a7), (9, .int a9), (1, .ref b)]) C.1 C.2.1 dL_court_392 hl (by decide) rfl (fun ls hl => ?_)
  refine lv_iinc (v := (a9 + 1)) (lv' := [(9, .int (a9 + 1)), (8, .int s0), (0, .ref (ad a0)), (3, .int a3), (6, .ref (ad a6)), (7, .int a7), (1, .ref b)]) C.1 C.2.1 dL_court_394 hl (k := 5) rfl rfl (by decide) rfl (fun ls hl => ?_)
  refine lv_goto (tgt := 357) C.1 C.2.1 dL_court_397 (by decide) ?_
  exact hk357 _ _ _ _ _ _ _ _ _ _ ha0 ha6 hW (lv_sub hl [2, 3, 4, 5, 1, 0, 6] rfl) hf
set_option maxRecDepth 100000 in
set_option maxHeartbeats 4000000 in
theorem wL_court_357 (CS : CxS p s m meth c args cL_court 11 (some .boolean) RL D ca ad b L xs) {res : Int32 × Mm} {N : Nat}  : ∀ (n : Nat) {a0 : Nat} {a3 : Int32} {a6 : Nat} {a7 : Int32} {a8 : Int32} {a9 : Int32} {mm : Mm} {H : Heap} {locs : List Loc} {ls : Array Slot}, (sX11 a0) → (sJ ad a6) → Wd D ca ad s.heap mm H locs → lv_has ls 11 [(0, .ref (ad a0)), (3, .int a3), (6, .ref (ad a6)), (7, .int a7), (8, .int a8), (9, .int a9), (1, .ref b)] → fL_court_357 N L xs n a0 a3 a6 a7 a8 a9 mm = some res → W p l e (rmL_court) s m args below meth c H locs 1 32 (MQ below (QI D ca ad res) args s 1 32 (AA ad)) (F0 m 357 ls []) := by
  have C := CS.1
  intro n
  induction n with
  | zero => intro a0 a3 a6 a7 a8 a9 mm H locs ls ha0 ha6 hW hl hf; cases hf
  | succ n ih =>
    intro a0 a3 a6 a7 a8 a9 mm H locs ls ha0 ha6 hW hl hf
    have hk357 : ∀ (a0 : Nat) (a3 : Int32) (a6 : Nat) (a7 : Int32) (a8 : Int32) (a9 : Int32) (mm : Mm) (H : Heap) (locs : List Loc) (ls : Array Slot), (sX11 a0) → (sJ ad a6) → Wd D ca ad s.heap mm H locs → lv_has ls 11 [(0, .ref (ad a0)), (3, .int a3), (6, .ref (ad a6)), (7, .int a7), (8, .int a8), (9, .int a9), (1, .ref b)] → (fL_court_357 N L xs n) a0 a3 a6 a7 a8 a9 mm = some res → W p l e (rmL_court) s m args below meth c H locs 1 32 (MQ below (QI D ca ad res) args s 1 32 (AA ad)) (F0 m 357 ls []) := fun a0 a3 a6 a7 a8 a9 mm H locs ls ha0 ha6 hW hl hf => ih ha0 ha6 hW hl hf
    unfold fL_court_357 at hf
    try dsimp only at hf
    refine lv_iload C.1 C.2.1 dL_court_357 (lv_at hl 5 rfl) ?_
    refine lv_iload C.1 C.2.1 dL_court_359 (lv_at hl 3 rfl) ?_
    refine lv_icmp_ge (tgt := 400) C.1 C.2.1 dL_court_361 (by decide) (fun c10 => ?_) (fun c10 => ?_)
    · have hf := if_t c10 hf
      exact wL_court_400 CS  ha0 hW (lv_sub hl [0, 1, 4, 6] rfl) hf
    · have hf := if_f c10 hf
      refine lv_iload C.1 C.2.1 dL_court_364 (lv_at hl 4 rfl) ?_
      refine lv_if_eq (tgt := 400) C.1 C.2.1 dL_court_366 (by decide) (fun c11 => ?_) (fun c11 => ?_)
      · have hf := if_t c11 hf
        exact wL_court_400 CS  ha0 hW (lv_sub hl [0, 1, 4, 6] rfl) hf
      · have hf := if_f c11 hf
        refine lv_aload_n C.1 C.2.1 dL_court_369 rfl (lv_at hl 0 rfl) ?_
        refine lv_iconst (v := 3) C.1 C.2.1 dL_court_370 (by decide) ?_
        refine lv_iload C.1 C.2.1 dL_court_371 (lv_at hl 5 rfl) ?_
        refine lv_aload C.1 C.2.1 dL_court_373 (lv_at hl 2 rfl) ?_
        refine lv_iload C.1 C.2.1 dL_court_375 (lv_at hl 5 rfl) ?_
        obtain ⟨g12, hf⟩ := gd_s hf
        refine z_iald C hW ha6 g12 dL_court_377 ?_
        obtain ⟨x13, m14, r15, hf⟩ := bd2_s hf
        refine z_ci hW (z_runV C hW [.int 3, .int a9, .int (rd mm a6 a9.toNatClampNeg)] [] (ha0).1 (ha0).2.1 kX11.1 kvX11_put q_861 (tX11_put l C.2.2.2.2.2.2.1 ha0 r15) rfl rfl ⟨by decide, by decide⟩ rfl hl.1 rfl (Nat.le_of_ble_eq_true rfl) dL_court_378 ⟨Nat.le_of_ble_eq_true rfl, Nat.le_of_ble_eq_true rfl⟩) (fun H locs hW => ?_)
        refine lv_sipush (v := 1032) C.1 C.2.1 dL_court_381 (by decide) ?_
        refine lv_icmp_ne (tgt := 391) C.1 C.2.1 dL_court_384 (by decide) (fun c16 => ?_) (fun c16 => ?_)
        · have hf := if_f c16 hf
          refine lv_iconst (v := 0) C.1 C.2.1 dL_court_391 (by decide) ?_
          exact wL_court_392 CS hk357 ha0 ha6 hW (lv_sub hl [0, 1, 2, 3, 5, 6] rfl) hf
        · have hf := if_t c16 hf
          refine lv_iconst (v := 1) C.1 C.2.1 dL_court_387 (by decide) ?_
          refine lv_goto (tgt := 392) C.1 C.2.1 dL_court_388 (by decide) ?_
          exact wL_court_392 CS hk357 ha0 ha6 hW (lv_sub hl [0, 1, 2, 3, 5, 6] rfl) hf
set_option maxRecDepth 100000 in
set_option maxHeartbeats 4000000 in
theorem wL_court_352 (CS : CxS p s m meth c args cL_court 11 (some .boolean) RL D ca ad b L xs) {res : Int32 × Mm} {N : Nat}  {a0 : Nat} {a3 : Int32} {a6 : Nat} {a7 : Int32} {s0 : Int32} {mm : Mm} {H : Heap} {locs : List Loc} {ls : Array Slot} (ha0 : sX11 a0) (ha6 : sJ ad a6) (hW : Wd D ca ad s.heap mm H locs) (hl : lv_has ls 11 [(0, .ref (ad a0)), (3, .int a3), (6, .ref (ad a6)), (7, .int a7), (1, .ref b)]) (hf : fL_court_352 N L xs a0 a3 a6 a7 s0 mm = some res) : W p l e (rmL_court) s m args below meth c H locs 1 32 (MQ below (QI D ca ad res) args s 1 32 (AA ad)) (F0 m 352 ls [.int s0]) := by
  have C := CS.1
  unfold fL_court_352 at hf
  refine lv_istore (lv' := [(8, .int s0), (0, .ref (ad a0)), (3, .int a3), (6, .ref (ad a6)), (7, .int a7), (1, .ref b)]) C.1 C.2.1 dL_court_352 hl (by decide) rfl (fun ls hl => ?_)
  refine lv_iconst (v := 0) C.1 C.2.1 dL_court_354 (by decide) ?_
  refine lv_istore (lv' := [(9, .int 0), (8, .int s0), (0, .ref (ad a0)), (3, .int a3), (6, .ref (ad a6)), (7, .int a7), (1, .ref b)]) C.1 C.2.1 dL_court_355 hl (by decide) rfl (fun ls hl => ?_)
  exact wL_court_357 CS  N ha0 ha6 hW (lv_sub hl [2, 3, 4, 5, 1, 0, 6] rfl) hf
set_option maxRecDepth 100000 in
set_option maxHeartbeats 4000000 in
theorem wL_court_329 (CS : CxS p s m meth c args cL_court 11 (some .boolean) RL D ca ad b L xs) {res : Int32 × Mm} {N : Nat} {k88 : Nat → Int32 → Int32 → Nat → Nat → Int32 → Int32 → Mm → Option (Int32 × Mm)} (hk88 : ∀ (a0 : Nat) (a2 : Int32) (a3 : Int32) (a5 : Nat) (a6 : Nat) (a7 : Int32) (a8 : Int32) (mm : Mm) (H : Heap) (locs : List Loc) (ls : Array Slot), (sX11 a0) → (sJ ad a5) → (sJ ad a6) → Wd D ca ad s.heap mm H locs → lv_has ls 11 [(0, .ref (ad a0)), (2, .int a2), (3, .int a3), (5, .ref (ad a5)), (6, .ref (ad a6)), (7, .int a7), (8, .int a8), (1, .ref b)] → k88 a0 a2 a3 a5 a6 a7 a8 mm = some res → W p l e (rmL_court) s m args below meth c H locs 1 32 (MQ below (QI D ca ad res) args s 1 32 (AA ad)) (F0 m 88 ls [])) {a0 : Nat} {a2 : Int32} {a3 : Int32} {a5 : Nat} {a6 : Nat} {a7 : Int32} {a8 : Int32} {mm : Mm} {H : Heap} {locs : List Loc} {ls : Array Slot} (ha0 : sX11 a0) (ha5 : sJ ad a5) (ha6 : sJ ad a6) (hW : Wd D ca ad s.heap mm H locs) (hl : lv_has ls 11 [(0, .ref (ad a0)), (2, .int a2), (3, .int a3), (5, .ref (ad a5)), (6, .ref (ad a6)), (7, .int a7), (8, .int a8), (1, .ref b)]) (hf : fL_court_329 N L xs k88 a0 a2 a3 a5 a6 a7 a8 mm = some res) : W p l e (rmL_court) s m args below meth c H locs 1 32 (MQ below (QI D ca ad res) args s 1 32 (AA ad)) (F0 m 329 ls []) := by
  have C := CS.1
  unfold fL_court_329 at hf
  refine lv_iinc (v := (a8 + 1)) (lv' := [(8, .int (a8 + 1)), (0, .ref (ad a0)), (2, .int a2), (3, .int a3), (5, .ref (ad a5)), (6, .ref (ad a6)), (7, .int a7), (1, .ref b)]) C.1 C.2.1 dL_court_329 hl (k := 6) rfl rfl (by decide) rfl (fun ls hl => ?_)
  refine lv_goto (tgt := 88) C.1 C.2.1 dL_court_332 (by decide) ?_
  exact hk88 _ _ _ _ _ _ _ _ _ _ _ ha0 ha5 ha6 hW (lv_sub hl [1, 2, 3, 4, 5, 6, 0, 7] rfl) hf
set_option maxRecDepth 100000 in
set_option maxHeartbeats 4000000 in
theorem wL_court_280 (CS : CxS p s m meth c args cL_court 11 (some .boolean) RL D ca ad b L xs) {res : Int32 × Mm} {N : Nat} {k88 : Nat → Int32 → Int32 → Nat → Nat → Int32 → Int32 → Mm → Option (Int32 × Mm)} (hk88 : ∀ (a0 : Nat) (a2 : Int32) (a3 : Int32) (a5 : Nat) (a6 : Nat) (a7 : Int32) (a8 : Int32) (mm : Mm) (H : Heap) (locs : List Loc) (ls : Array Slot), (sX11 a0) → (sJ ad a5) → (sJ ad a6) → Wd D ca ad s.heap mm H locs → lv_has ls 11 [(0, .ref (ad a0)), (2, .int a2), (3, .int a3), (5, .ref (ad a5)), (6, .ref (ad a6)), (7, .int a7), (8, .int a8), (1, .ref b)] → k88 a0 a2 a3 a5 a6 a7 a8 mm = some res → W p l e (rmL_court) s m args below meth c H locs 1 32 (MQ below (QI D ca ad res) args s 1 32 (AA ad)) (F0 m 88 ls [])) {a0 : Nat} {a2 : Int32} {a3 : Int32} {a5 : Nat} {a6 : Nat} {a7 : Int32} {a8 : Int32} {a10 : Int32} {s0 : Nat} {s1 : Int32} {s2 : Int32} {mm : Mm} {H : Heap} {locs : List Loc} {ls : Array Slot} (ha0 : sX11 a0) (ha5 : sJ ad a5) (ha6 : sJ ad a6) (hs0 : sJ ad s0) (hW : Wd D ca ad s.heap mm H locs) (hl : lv_has ls 11 [(0, .ref (ad a0)), (2, .int a2), (3, .int a3), (5, .ref (ad a5)), (6, .ref (ad a6)), (7, .int a7), (8, .int a8), (10, .int a10), (1, .ref b)]) (hf : fL_court_280 N L xs k88 a0 a2 a3 a5 a6 a7 a8 a10 s0 s1 s2 mm = some res) : W p l e (rmL_court) s m args below meth c H locs 1 32 (MQ below (QI D ca ad res) args s 1 32 (AA ad)) (F0 m 280 ls [.int s2, .int s1, .ref (ad s0)]) := by
  have C := CS.1
  unfold fL_court_280 at hf
  obtain ⟨g17, hf⟩ := gd_s hf
  refine z_iast C hW hs0 g17 dL_court_280 (fun H locs hW => ?_)
  obtain ⟨m18, em18⟩ : ∃ z, z = wr mm s0 s1.toNatClampNeg s2 := ⟨_, rfl⟩
  have hf := nm_s hf em18
  rw [← em18] at hW
  refine lv_aload C.1 C.2.1 dL_court_281 (lv_at hl 4 rfl) ?_
  refine lv_iload C.1 C.2.1 dL_court_283 (lv_at hl 5 rfl) ?_
  refine lv_iconst (v := 1) C.1 C.2.1 dL_court_285 (by decide) ?_
  refine lv_iadd C.1 C.2.1 dL_court_286 ?_
  refine lv_bipush (v := 48) C.1 C.2.1 dL_court_287 (by decide) ?_
  refine lv_aload C.1 C.2.1 dL_court_289 (lv_at hl 3 rfl) ?_
  refine lv_iconst (v := 3) C.1 C.2.1 dL_court_291 (by decide) ?_
  refine lv_iload C.1 C.2.1 dL_court_292 (lv_at hl 6 rfl) ?_
  refine lv_imul C.1 C.2.1 dL_court_294 ?_
  refine lv_iconst (v := 1) C.1 C.2.1 dL_court_295 (by decide) ?_
  refine lv_iadd C.1 C.2.1 dL_court_296 ?_
  obtain ⟨g19, hf⟩ := gd_s hf
  refine z_iald C hW ha5 g19 dL_court_297 ?_
  refine lv_iadd C.1 C.2.1 dL_court_298 ?_
  obtain ⟨g20, hf⟩ := gd_s hf
  refine z_iast C hW ha6 g20 dL_court_299 (fun H locs hW => ?_)
  obtain ⟨m21, em21⟩ : ∃ z, z = wr m18 a6 (a7 + 1).toNatClampNeg (48 + (rd m18 a5 (((3 * a8) + 1).toNatClampNeg))) := ⟨_, rfl⟩
  have hf := nm_s hf em21
  rw [← em21] at hW
  refine lv_iinc (v := (a7 + 2)) (lv' := [(7, .int (a7 + 2)), (0, .ref (ad a0)), (2, .int a2), (3, .int a3), (5, .ref (ad a5)), (6, .ref (ad a6)), (8, .int a8), (10, .int a10), (1, .ref b)]) C.1 C.2.1 dL_court_300 hl (k := 5) rfl rfl (by decide) rfl (fun ls hl => ?_)
  refine lv_iload C.1 C.2.1 dL_court_303 (lv_at hl 7 rfl) ?_
  refine lv_iconst (v := 2) C.1 C.2.1 dL_court_305 (by decide) ?_
  refine lv_icmp_le (tgt := 329) C.1 C.2.1 dL_court_306 (by decide) (fun c22 => ?_) (fun c22 => ?_)
  · have hf := if_t c22 hf
    exact wL_court_329 CS hk88 ha0 ha5 ha6 hW (lv_sub hl [1, 2, 3, 4, 5, 0, 6, 8] rfl) hf
  · have hf := if_f c22 hf
    refine lv_aload C.1 C.2.1 dL_court_309 (lv_at hl 5 rfl) ?_
    refine lv_iload C.1 C.2.1 dL_court_311 (lv_at hl 0 rfl) ?_
    refine lv_bipush (v := 48) C.1 C.2.1 dL_court_313 (by decide) ?_
    refine lv_aload C.1 C.2.1 dL_court_315 (lv_at hl 4 rfl) ?_
    refine lv_iconst (v := 3) C.1 C.2.1 dL_court_317 (by decide) ?_
    refine lv_iload C.1 C.2.1 dL_court_318 (lv_at hl 6 rfl) ?_
    refine lv_imul C.1 C.2.1 dL_court_320 ?_
    refine lv_iconst (v := 2) C.1 C.2.1 dL_court_321 (by decide) ?_
    refine lv_iadd C.1 C.2.1 dL_court_322 ?_
    obtain ⟨g23, hf⟩ := gd_s hf
    refine z_iald C hW ha5 g23 dL_court_323 ?_
    refine lv_iadd C.1 C.2.1 dL_court_324 ?_
    obtain ⟨g24, hf⟩ := gd_s hf
    refine z_iast C hW ha6 g24 dL_court_325 (fun H locs hW => ?_)
    obtain ⟨m25, em25⟩ : ∃ z, z = wr m21 a6 (a7 + 2).toNatClampNeg (48 + (rd m21 a5 (((3 * a8) + 2).toNatClampNeg))) := ⟨_, rfl⟩
    have hf := nm_s hf em25
    rw [← em25] at hW
    refine lv_iinc (v := ((a7 + 2) + 1)) (lv' := [(7, .int ((a7 + 2) + 1)), (0, .ref (ad a0)), (2, .int a2), (3, .int a3), (5, .ref (ad a5)), (6, .ref (ad a6)), (8, .int a8), (10, .int a10), (1, .ref b)]) C.1 C.2.1 dL_court_326 hl (k := 0) rfl rfl (by decide) rfl (fun ls hl => ?_)
    exact wL_court_329 CS hk88 ha0 ha5 ha6 hW (lv_sub hl [1, 2, 3, 4, 5, 0, 6, 8] rfl) hf
set_option maxRecDepth 100000 in
set_option maxHeartbeats 4000000 in
theorem wL_court_219 (CS : CxS p s m meth c args cL_court 11 (some .boolean) RL D ca ad b L xs) {res : Int32 × Mm} {N : Nat} {k88 : Nat → Int32 → Int32 → Nat → Nat → Int32 → Int32 → Mm → Option (Int32 × Mm)} (hk88 : ∀ (a0 : Nat) (a2 : Int32) (a3 : Int32) (a5 : Nat) (a6 : Nat) (a7 : Int32) (a8 : Int32) (mm : Mm) (H : Heap) (locs : List Loc) (ls : Array Slot), (sX11 a0) → (sJ ad a5) → (sJ ad a6) → Wd D ca ad s.heap mm H locs → lv_has ls 11 [(0, .ref (ad a0)), (2, .int a2), (3, .int a3), (5, .ref (ad a5)), (6, .ref (ad a6)), (7, .int a7), (8, .int a8), (1, .ref b)] → k88 a0 a2 a3 a5 a6 a7 a8 mm = some res → W p l e (rmL_court) s m args below meth c H locs 1 32 (MQ below (QI D ca ad res) args s 1 32 (AA ad)) (F0 m 88 ls [])) {a0 : Nat} {a2 : Int32} {a3 : Int32} {a5 : Nat} {a6 : Nat} {a7 : Int32} {a8 : Int32} {a10 : Int32} {s0 : Nat} {s1 : Int32} {s2 : Int32} {mm : Mm} {H : Heap} {locs : List Loc} {ls : Array Slot} (ha0 : sX11 a0) (ha5 : sJ ad a5) (ha6 : sJ ad a6) (hs0 : sJ ad s0) (hW : Wd D ca ad s.heap mm H locs) (hl : lv_has ls 11 [(0, .ref (ad a0)), (2, .int a2), (3, .int a3), (5, .ref (ad a5)), (6, .ref (ad a6)), (7, .int a7), (8, .int a8), (10, .int a10), (1, .ref b)]) (hf : fL_court_219 N L xs k88 a0 a2 a3 a5 a6 a7 a8 a10 s0 s1 s2 mm = some res) : W p l e (rmL_court) s m args below meth c H locs 1 32 (MQ below (QI D ca ad res) args s 1 32 (AA ad)) (F0 m 219 ls [.int s2, .int s1, .ref (ad s0)]) := by
  have C := CS.1
  unfold fL_court_219 at hf
  obtain ⟨g26, hf⟩ := gd_s hf
  refine z_iast C hW hs0 g26 dL_court_219 (fun H locs hW => ?_)
  obtain ⟨m27, em27⟩ : ∃ z, z = wr mm s0 s1.toNatClampNeg s2 := ⟨_, rfl⟩
  have hf := nm_s hf em27
  rw [← em27] at hW
  refine lv_aload C.1 C.2.1 dL_court_220 (lv_at hl 4 rfl) ?_
  refine lv_iload C.1 C.2.1 dL_court_222 (lv_at hl 5 rfl) ?_
  refine lv_iload C.1 C.2.1 dL_court_224 (lv_at hl 7 rfl) ?_
  refine lv_if_ne (tgt := 234) C.1 C.2.1 dL_court_226 (by decide) (fun c28 => ?_) (fun c28 => ?_)
  · have hf := if_f c28 hf
    refine lv_iload C.1 C.2.1 dL_court_234 (lv_at hl 7 rfl) ?_
    refine lv_iconst (v := 1) C.1 C.2.1 dL_court_236 (by decide) ?_
    refine lv_icmp_ne (tgt := 245) C.1 C.2.1 dL_court_237 (by decide) (fun c29 => ?_) (fun c29 => ?_)
    · have hf := if_f c29 hf
      refine lv_iload C.1 C.2.1 dL_court_245 (lv_at hl 7 rfl) ?_
      refine lv_iconst (v := 2) C.1 C.2.1 dL_court_247 (by decide) ?_
      refine lv_icmp_ne (tgt := 256) C.1 C.2.1 dL_court_248 (by decide) (fun c30 => ?_) (fun c30 => ?_)
      · have hf := if_f c30 hf
        refine lv_iload C.1 C.2.1 dL_court_256 (lv_at hl 7 rfl) ?_
        refine lv_iconst (v := 3) C.1 C.2.1 dL_court_258 (by decide) ?_
        refine lv_icmp_ne (tgt := 267) C.1 C.2.1 dL_court_259 (by decide) (fun c31 => ?_) (fun c31 => ?_)
        · have hf := if_f c31 hf
          refine lv_iload C.1 C.2.1 dL_court_267 (lv_at hl 7 rfl) ?_
          refine lv_iconst (v := 4) C.1 C.2.1 dL_court_269 (by decide) ?_
          refine lv_icmp_ne (tgt := 278) C.1 C.2.1 dL_court_270 (by decide) (fun c32 => ?_) (fun c32 => ?_)
          · have hf := if_f c32 hf
            refine lv_bipush (v := 104) C.1 C.2.1 dL_court_278 (by decide) ?_
            exact wL_court_280 CS hk88 ha0 ha5 ha6 ha6 hW (lv_sub hl [0, 1, 2, 3, 4, 5, 6, 7, 8] rfl) hf
          · have hf := if_t c32 hf
            refine lv_bipush (v := 112) C.1 C.2.1 dL_court_273 (by decide) ?_
            refine lv_goto (tgt := 280) C.1 C.2.1 dL_court_275 (by decide) ?_
            exact wL_court_280 CS hk88 ha0 ha5 ha6 ha6 hW (lv_sub hl [0, 1, 2, 3, 4, 5, 6, 7, 8] rfl) hf
        · have hf := if_t c31 hf
          refine lv_bipush (v := 100) C.1 C.2.1 dL_court_262 (by decide) ?_
          refine lv_goto (tgt := 280) C.1 C.2.1 dL_court_264 (by decide) ?_
          exact wL_court_280 CS hk88 ha0 ha5 ha6 ha6 hW (lv_sub hl [0, 1, 2, 3, 4, 5, 6, 7, 8] rfl) hf
      · have hf := if_t c30 hf
        refine lv_bipush (v := 102) C.1 C.2.1 dL_court_251 (by decide) ?_
        refine lv_goto (tgt := 280) C.1 C.2.1 dL_court_253 (by decide) ?_
        exact wL_court_280 CS hk88 ha0 ha5 ha6 ha6 hW (lv_sub hl [0, 1, 2, 3, 4, 5, 6, 7, 8] rfl) hf
    · have hf := if_t c29 hf
      refine lv_bipush (v := 111) C.1 C.2.1 dL_court_240 (by decide) ?_
      refine lv_goto (tgt := 280) C.1 C.2.1 dL_court_242 (by decide) ?_
      exact wL_court_280 CS hk88 ha0 ha5 ha6 ha6 hW (lv_sub hl [0, 1, 2, 3, 4, 5, 6, 7, 8] rfl) hf
  · have hf := if_t c28 hf
    refine lv_bipush (v := 115) C.1 C.2.1 dL_court_229 (by decide) ?_
    refine lv_goto (tgt := 280) C.1 C.2.1 dL_court_231 (by decide) ?_
    exact wL_court_280 CS hk88 ha0 ha5 ha6 ha6 hW (lv_sub hl [0, 1, 2, 3, 4, 5, 6, 7, 8] rfl) hf
set_option maxRecDepth 100000 in
set_option maxHeartbeats 4000000 in
theorem wL_court_215 (CS : CxS p s m meth c args cL_court 11 (some .boolean) RL D ca ad b L xs) {res : Int32 × Mm} {N : Nat} {k88 : Nat → Int32 → Int32 → Nat → Nat → Int32 → Int32 → Mm → Option (Int32 × Mm)} (hk88 : ∀ (a0 : Nat) (a2 : Int32) (a3 : Int32) (a5 : Nat) (a6 : Nat) (a7 : Int32) (a8 : Int32) (mm : Mm) (H : Heap) (locs : List Loc) (ls : Array Slot), (sX11 a0) → (sJ ad a5) → (sJ ad a6) → Wd D ca ad s.heap mm H locs → lv_has ls 11 [(0, .ref (ad a0)), (2, .int a2), (3, .int a3), (5, .ref (ad a5)), (6, .ref (ad a6)), (7, .int a7), (8, .int a8), (1, .ref b)] → k88 a0 a2 a3 a5 a6 a7 a8 mm = some res → W p l e (rmL_court) s m args below meth c H locs 1 32 (MQ below (QI D ca ad res) args s 1 32 (AA ad)) (F0 m 88 ls [])) {a0 : Nat} {a2 : Int32} {a3 : Int32} {a5 : Nat} {a6 : Nat} {a7 : Int32} {a8 : Int32} {a10 : Int32} {s0 : Nat} {s1 : Int32} {s2 : Int32} {s3 : Int32} {s4 : Int32} {mm : Mm} {H : Heap} {locs : List Loc} {ls : Array Slot} (ha0 : sX11 a0) (ha5 : sJ ad a5) (ha6 : sJ ad a6) (hs0 : sJ ad s0) (hW : Wd D ca ad s.heap mm H locs) (hl : lv_has ls 11 [(0, .ref (ad a0)), (2, .int a2), (3, .int a3), (5, .ref (ad a5)), (6, .ref (ad a6)), (7, .int a7), (8, .int a8), (10, .int a10), (1, .ref b)]) (hf : fL_court_215 N L xs k88 a0 a2 a3 a5 a6 a7 a8 a10 s0 s1 s2 s3 s4 mm = some res) : W p l e (rmL_court) s m args below meth c H locs 1 32 (MQ below (QI D ca ad res) args s 1 32 (AA ad)) (F0 m 215 ls [.int s4, .int s3, .int s2, .int s1, .ref (ad s0)]) := by
  have C := CS.1
  unfold fL_court_215 at hf
  obtain ⟨x33, m34, r35, hf⟩ := bd2_s hf
  refine z_ci hW (z_runS C hW [.int s3, .int s4] [.int s2, .int s1, .ref (ad s0)] kvL_low q_831 (tL_low l C.2.2.2.2.2.2.1  r35) rfl rfl ⟨by decide, by decide⟩ rfl hl.1 rfl (Nat.le_of_ble_eq_true rfl) dL_court_215 ⟨Nat.le_of_ble_eq_true rfl, Nat.le_of_ble_eq_true rfl⟩) (fun H locs hW => ?_)
  refine lv_iadd C.1 C.2.1 dL_court_218 ?_
  exact wL_court_219 CS hk88 ha0 ha5 ha6 hs0 hW (lv_sub hl [0, 1, 2, 3, 4, 5, 6, 7, 8] rfl) hf
set_option maxRecDepth 100000 in
set_option maxHeartbeats 4000000 in
theorem wL_court_119 (CS : CxS p s m meth c args cL_court 11 (some .boolean) RL D ca ad b L xs) {res : Int32 × Mm} {N : Nat} {k88 : Nat → Int32 → Int32 → Nat → Nat → Int32 → Int32 → Mm → Option (Int32 × Mm)} (hk88 : ∀ (a0 : Nat) (a2 : Int32) (a3 : Int32) (a5 : Nat) (a6 : Nat) (a7 : Int32) (a8 : Int32) (mm : Mm) (H : Heap) (locs : List Loc) (ls : Array Slot), (sX11 a0) → (sJ ad a5) → (sJ ad a6) → Wd D ca ad s.heap mm H locs → lv_has ls 11 [(0, .ref (ad a0)), (2, .int a2), (3, .int a3), (5, .ref (ad a5)), (6, .ref (ad a6)), (7, .int a7), (8, .int a8), (1, .ref b)] → k88 a0 a2 a3 a5 a6 a7 a8 mm = some res → W p l e (rmL_court) s m args below meth c H locs 1 32 (MQ below (QI D ca ad res) args s 1 32 (AA ad)) (F0 m 88 ls [])) {a0 : Nat} {a2 : Int32} {a3 : Int32} {a5 : Nat} {a6 : Nat} {a7 : Int32} {a8 : Int32} {a9 : Int32} {s0 : Int32} {s1 : Int32} {mm : Mm} {H : Heap} {locs : List Loc} {ls : Array Slot} (ha0 : sX11 a0) (ha5 : sJ ad a5) (ha6 : sJ ad a6) (hW : Wd D ca ad s.heap mm H locs) (hl : lv_has ls 11 [(0, .ref (ad a0)), (2, .int a2), (3, .int a3), (5, .ref (ad a5)), (6, .ref (ad a6)), (7, .int a7), (8, .int a8), (9, .int a9), (1, .ref b)]) (hf : fL_court_119 N L xs k88 a0 a2 a3 a5 a6 a7 a8 a9 s0 s1 mm = some res) : W p l e (rmL_court) s m args below meth c H locs 1 32 (MQ below (QI D ca ad res) args s 1 32 (AA ad)) (F0 m 119 ls [.int s1, .int s0]) := by
  have C := CS.1
  unfold fL_court_119 at hf
  obtain ⟨x36, m37, r38, hf⟩ := bd2_s hf
  refine z_ci hW (z_runS C hW [.int s0, .int s1] [] kvL_low q_831 (tL_low l C.2.2.2.2.2.2.1  r38) rfl rfl ⟨by decide, by decide⟩ rfl hl.1 rfl (Nat.le_of_ble_eq_true rfl) dL_court_119 ⟨Nat.le_of_ble_eq_true rfl, Nat.le_of_ble_eq_true rfl⟩) (fun H locs hW => ?_)
  refine lv_istore (lv' := [(10, .int x36), (0, .ref (ad a0)), (2, .int a2), (3, .int a3), (5, .ref (ad a5)), (6, .ref (ad a6)), (7, .int a7), (8, .int a8), (9, .int a9), (1, .ref b)]) C.1 C.2.1 dL_court_122 hl (by decide) rfl (fun ls hl => ?_)
  refine lv_aload C.1 C.2.1 dL_court_124 (lv_at hl 4 rfl) ?_
  refine lv_iconst (v := 3) C.1 C.2.1 dL_court_126 (by decide) ?_
  refine lv_iload C.1 C.2.1 dL_court_127 (lv_at hl 7 rfl) ?_
  refine lv_imul C.1 C.2.1 dL_court_129 ?_
  refine lv_iload C.1 C.2.1 dL_court_130 (lv_at hl 0 rfl) ?_
  obtain ⟨g39, hf⟩ := gd_s hf
  refine z_iast C hW ha5 g39 dL_court_132 (fun H locs hW => ?_)
  obtain ⟨m40, em40⟩ : ∃ z, z = wr m37 a5 (3 * a8).toNatClampNeg x36 := ⟨_, rfl⟩
  have hf := nm_s hf em40
  rw [← em40] at hW
  refine lv_aload C.1 C.2.1 dL_court_133 (lv_at hl 4 rfl) ?_
  refine lv_iconst (v := 3) C.1 C.2.1 dL_court_135 (by decide) ?_
  refine lv_iload C.1 C.2.1 dL_court_136 (lv_at hl 7 rfl) ?_
  refine lv_imul C.1 C.2.1 dL_court_138 ?_
  refine lv_iconst (v := 1) C.1 C.2.1 dL_court_139 (by decide) ?_
  refine lv_iadd C.1 C.2.1 dL_court_140 ?_
  refine lv_iconst (v := 1) C.1 C.2.1 dL_court_141 (by decide) ?_
  refine lv_iload C.1 C.2.1 dL_court_142 (lv_at hl 8 rfl) ?_
  refine lv_iconst (v := 4) C.1 C.2.1 dL_court_144 (by decide) ?_
  refine lv_ishr C.1 C.2.1 dL_court_145 ?_
  refine lv_bipush (v := 9) C.1 C.2.1 dL_court_146 (by decide) ?_
  obtain ⟨x41, m42, r43, hf⟩ := bd2_s hf
  refine z_ci hW (z_runS C hW [.int (a9 >>> ((4 : Int32) &&& 31)), .int 9] [.int 1, .int ((3 * a8) + 1), .ref (ad a5)] kvL_low q_831 (tL_low l C.2.2.2.2.2.2.1  r43) rfl rfl ⟨by decide, by decide⟩ rfl hl.1 rfl (Nat.le_of_ble_eq_true rfl) dL_court_148 ⟨Nat.le_of_ble_eq_true rfl, Nat.le_of_ble_eq_true rfl⟩) (fun H locs hW => ?_)
  refine lv_iadd C.1 C.2.1 dL_court_151 ?_
  obtain ⟨g44, hf⟩ := gd_s hf
  refine z_iast C hW ha5 g44 dL_court_152 (fun H locs hW => ?_)
  obtain ⟨m45, em45⟩ : ∃ z, z = wr m42 a5 ((3 * a8) + 1).toNatClampNeg (1 + x41) := ⟨_, rfl⟩
  have hf := nm_s hf em45
  rw [← em45] at hW
  refine lv_aload C.1 C.2.1 dL_court_153 (lv_at hl 4 rfl) ?_
  refine lv_iconst (v := 3) C.1 C.2.1 dL_court_155 (by decide) ?_
  refine lv_iload C.1 C.2.1 dL_court_156 (lv_at hl 7 rfl) ?_
  refine lv_imul C.1 C.2.1 dL_court_158 ?_
  refine lv_iconst (v := 2) C.1 C.2.1 dL_court_159 (by decide) ?_
  refine lv_iadd C.1 C.2.1 dL_court_160 ?_
  refine lv_iload C.1 C.2.1 dL_court_161 (lv_at hl 0 rfl) ?_
  refine lv_iconst (v := 3) C.1 C.2.1 dL_court_163 (by decide) ?_
  refine lv_icmp_ge (tgt := 172) C.1 C.2.1 dL_court_164 (by decide) (fun c46 => ?_) (fun c46 => ?_)
  · have hf := if_t c46 hf
    refine lv_iload C.1 C.2.1 dL_court_172 (lv_at hl 0 rfl) ?_
    refine lv_iconst (v := 5) C.1 C.2.1 dL_court_174 (by decide) ?_
    refine lv_icmp_ne (tgt := 191) C.1 C.2.1 dL_court_175 (by decide) (fun c47 => ?_) (fun c47 => ?_)
    · have hf := if_f c47 hf
      refine lv_iconst (v := 1) C.1 C.2.1 dL_court_191 (by decide) ?_
      refine lv_iload C.1 C.2.1 dL_court_192 (lv_at hl 8 rfl) ?_
      refine lv_bipush (v := 8) C.1 C.2.1 dL_court_194 (by decide) ?_
      refine lv_ishr C.1 C.2.1 dL_court_196 ?_
      refine lv_iload C.1 C.2.1 dL_court_197 (lv_at hl 8 rfl) ?_
      refine lv_bipush (v := 12) C.1 C.2.1 dL_court_199 (by decide) ?_
      refine lv_ishr C.1 C.2.1 dL_court_201 ?_
      refine lv_iconst (v := 2) C.1 C.2.1 dL_court_202 (by decide) ?_
      obtain ⟨x48, m49, r50, hf⟩ := bd2_s hf
      refine z_ci hW (z_runS C hW [.int (a9 >>> ((12 : Int32) &&& 31)), .int 2] [.int (a9 >>> ((8 : Int32) &&& 31)), .int 1, .int ((3 * a8) + 2), .ref (ad a5)] kvL_low q_831 (tL_low l C.2.2.2.2.2.2.1  r50) rfl rfl ⟨by decide, by decide⟩ rfl hl.1 rfl (Nat.le_of_ble_eq_true rfl) dL_court_203 ⟨Nat.le_of_ble_eq_true rfl, Nat.le_of_ble_eq_true rfl⟩) (fun H locs hW => ?_)
      refine lv_if_ne (tgt := 213) C.1 C.2.1 dL_court_206 (by decide) (fun c51 => ?_) (fun c51 => ?_)
      · have hf := if_f c51 hf
        refine lv_bipush (v := 9) C.1 C.2.1 dL_court_213 (by decide) ?_
        exact wL_court_215 CS hk88 ha0 ha5 ha6 ha5 hW (lv_sub hl [1, 2, 3, 4, 5, 6, 7, 0, 9] rfl) hf
      · have hf := if_t c51 hf
        refine lv_iconst (v := 3) C.1 C.2.1 dL_court_209 (by decide) ?_
        refine lv_goto (tgt := 215) C.1 C.2.1 dL_court_210 (by decide) ?_
        exact wL_court_215 CS hk88 ha0 ha5 ha6 ha5 hW (lv_sub hl [1, 2, 3, 4, 5, 6, 7, 0, 9] rfl) hf
    · have hf := if_t c47 hf
      refine lv_iload C.1 C.2.1 dL_court_178 (lv_at hl 8 rfl) ?_
      refine lv_bipush (v := 8) C.1 C.2.1 dL_court_180 (by decide) ?_
      refine lv_ishr C.1 C.2.1 dL_court_182 ?_
      refine lv_iload C.1 C.2.1 dL_court_183 (lv_at hl 7 rfl) ?_
      obtain ⟨x52, m53, r54, hf⟩ := bd2_s hf
      refine z_ci hW (z_runS C hW [.int (a9 >>> ((8 : Int32) &&& 31)), .int a8] [.int ((3 * a8) + 2), .ref (ad a5)] kvL_low q_831 (tL_low l C.2.2.2.2.2.2.1  r54) rfl rfl ⟨by decide, by decide⟩ rfl hl.1 rfl (Nat.le_of_ble_eq_true rfl) dL_court_185 ⟨Nat.le_of_ble_eq_true rfl, Nat.le_of_ble_eq_true rfl⟩) (fun H locs hW => ?_)
      refine lv_goto (tgt := 219) C.1 C.2.1 dL_court_188 (by decide) ?_
      exact wL_court_219 CS hk88 ha0 ha5 ha6 ha5 hW (lv_sub hl [1, 2, 3, 4, 5, 6, 7, 0, 9] rfl) hf
  · have hf := if_f c46 hf
    refine lv_bipush (v := (-9)) C.1 C.2.1 dL_court_167 (by decide) ?_
    refine lv_goto (tgt := 219) C.1 C.2.1 dL_court_169 (by decide) ?_
    exact wL_court_219 CS hk88 ha0 ha5 ha6 ha5 hW (lv_sub hl [1, 2, 3, 4, 5, 6, 7, 0, 9] rfl) hf
set_option maxRecDepth 100000 in
set_option maxHeartbeats 4000000 in
theorem wL_court_88 (CS : CxS p s m meth c args cL_court 11 (some .boolean) RL D ca ad b L xs) {res : Int32 × Mm} {N : Nat}  : ∀ (n : Nat) {a0 : Nat} {a2 : Int32} {a3 : Int32} {a5 : Nat} {a6 : Nat} {a7 : Int32} {a8 : Int32} {mm : Mm} {H : Heap} {locs : List Loc} {ls : Array Slot}, (sX11 a0) → (sJ ad a5) → (sJ ad a6) → Wd D ca ad s.heap mm H locs → lv_has ls 11 [(0, .ref (ad a0)), (2, .int a2), (3, .int a3), (5, .ref (ad a5)), (6, .ref (ad a6)), (7, .int a7), (8, .int a8), (1, .ref b)] → fL_court_88 N L xs n a0 a2 a3 a5 a6 a7 a8 mm = some res → W p l e (rmL_court) s m args below meth c H locs 1 32 (MQ below (QI D ca ad res) args s 1 32 (AA ad)) (F0 m 88 ls []) := by
  have C := CS.1
  intro n
  induction n with
  | zero => intro a0 a2 a3 a5 a6 a7 a8 mm H locs ls ha0 ha5 ha6 hW hl hf; cases hf
  | succ n ih =>
    intro a0 a2 a3 a5 a6 a7 a8 mm H locs ls ha0 ha5 ha6 hW hl hf
    have hk88 : ∀ (a0 : Nat) (a2 : Int32) (a3 : Int32) (a5 : Nat) (a6 : Nat) (a7 : Int32) (a8 : Int32) (mm : Mm) (H : Heap) (locs : List Loc) (ls : Array Slot), (sX11 a0) → (sJ ad a5) → (sJ ad a6) → Wd D ca ad s.heap mm H locs → lv_has ls 11 [(0, .ref (ad a0)), (2, .int a2), (3, .int a3), (5, .ref (ad a5)), (6, .ref (ad a6)), (7, .int a7), (8, .int a8), (1, .ref b)] → (fL_court_88 N L xs n) a0 a2 a3 a5 a6 a7 a8 mm = some res → W p l e (rmL_court) s m args below meth c H locs 1 32 (MQ below (QI D ca ad res) args s 1 32 (AA ad)) (F0 m 88 ls []) := fun a0 a2 a3 a5 a6 a7 a8 mm H locs ls ha0 ha5 ha6 hW hl hf => ih ha0 ha5 ha6 hW hl hf
    unfold fL_court_88 at hf
    try dsimp only at hf
    refine lv_iload C.1 C.2.1 dL_court_88 (lv_at hl 6 rfl) ?_
    refine lv_iload_n C.1 C.2.1 dL_court_90 rfl (lv_at hl 2 rfl) ?_
    refine lv_icmp_ge (tgt := 335) C.1 C.2.1 dL_court_91 (by decide) (fun c55 => ?_) (fun c55 => ?_)
    · have hf := if_t c55 hf
      refine lv_aload_n C.1 C.2.1 dL_court_335 rfl (lv_at hl 0 rfl) ?_
      refine lv_iconst (v := 3) C.1 C.2.1 dL_court_336 (by decide) ?_
      refine lv_iload C.1 C.2.1 dL_court_337 (lv_at hl 5 rfl) ?_
      obtain ⟨x56, m57, r58, hf⟩ := bd2_s hf
      refine z_ci hW (z_runV C hW [.int 3, .int a7] [] (ha0).1 (ha0).2.1 kX11.1 kvX11_text q_848 (tX11_text l C.2.2.2.2.2.2.1 ha0 r58) rfl rfl ⟨by decide, by decide⟩ rfl hl.1 rfl (Nat.le_of_ble_eq_true rfl) dL_court_339 ⟨Nat.le_of_ble_eq_true rfl, Nat.le_of_ble_eq_true rfl⟩) (fun H locs hW => ?_)
      refine lv_iload C.1 C.2.1 dL_court_342 (lv_at hl 5 rfl) ?_
      refine lv_icmp_ne (tgt := 351) C.1 C.2.1 dL_court_344 (by decide) (fun c59 => ?_) (fun c59 => ?_)
      · have hf := if_f c59 hf
        refine lv_iconst (v := 0) C.1 C.2.1 dL_court_351 (by decide) ?_
        exact wL_court_352 CS  ha0 ha6 hW (lv_sub hl [0, 2, 4, 5, 7] rfl) hf
      · have hf := if_t c59 hf
        refine lv_iconst (v := 1) C.1 C.2.1 dL_court_347 (by decide) ?_
        refine lv_goto (tgt := 352) C.1 C.2.1 dL_court_348 (by decide) ?_
        exact wL_court_352 CS  ha0 ha6 hW (lv_sub hl [0, 2, 4, 5, 7] rfl) hf
    · have hf := if_f c55 hf
      refine lv_aload_n C.1 C.2.1 dL_court_94 rfl (lv_at hl 7 rfl) ?_
      refine lv_iload_n C.1 C.2.1 dL_court_95 rfl (lv_at hl 1 rfl) ?_
      refine lv_iconst (v := 1) C.1 C.2.1 dL_court_96 (by decide) ?_
      refine lv_iadd C.1 C.2.1 dL_court_97 ?_
      refine lv_iload C.1 C.2.1 dL_court_98 (lv_at hl 6 rfl) ?_
      refine lv_iadd C.1 C.2.1 dL_court_100 ?_
      obtain ⟨x60, m61, r62, hf⟩ := bd2_s hf
      refine z_ci hW (z_runX CS hW [.ref b, .int ((a2 + 1) + a8)] [] kvL_cell q_835 (tL_cell l C.2.2.2.2.2.2.1  r62) rfl rfl ⟨by decide, by decide⟩ rfl hl.1 rfl (Nat.le_of_ble_eq_true rfl) dL_court_101 ⟨Nat.le_of_ble_eq_true rfl, Nat.le_of_ble_eq_true rfl⟩) (fun H locs hW => ?_)
      refine lv_istore (lv' := [(9, .int x60), (0, .ref (ad a0)), (2, .int a2), (3, .int a3), (5, .ref (ad a5)), (6, .ref (ad a6)), (7, .int a7), (8, .int a8), (1, .ref b)]) C.1 C.2.1 dL_court_104 hl (by decide) rfl (fun ls hl => ?_)
      refine lv_iload C.1 C.2.1 dL_court_106 (lv_at hl 0 rfl) ?_
      refine lv_iload C.1 C.2.1 dL_court_108 (lv_at hl 7 rfl) ?_
      refine lv_if_ne (tgt := 117) C.1 C.2.1 dL_court_110 (by decide) (fun c63 => ?_) (fun c63 => ?_)
      · have hf := if_f c63 hf
        refine lv_bipush (v := 6) C.1 C.2.1 dL_court_117 (by decide) ?_
        exact wL_court_119 CS hk88 ha0 ha5 ha6 hW (lv_sub hl [1, 2, 3, 4, 5, 6, 7, 0, 8] rfl) hf
      · have hf := if_t c63 hf
        refine lv_iconst (v := 5) C.1 C.2.1 dL_court_113 (by decide) ?_
        refine lv_goto (tgt := 119) C.1 C.2.1 dL_court_114 (by decide) ?_
        exact wL_court_119 CS hk88 ha0 ha5 ha6 hW (lv_sub hl [1, 2, 3, 4, 5, 6, 7, 0, 8] rfl) hf
set_option maxRecDepth 100000 in
set_option maxHeartbeats 4000000 in
theorem wL_court_6 (CS : CxS p s m meth c args cL_court 11 (some .boolean) RL D ca ad b L xs) {res : Int32 × Mm} {N : Nat}  {a0 : Nat} {a2 : Int32} {a3 : Int32} {a4 : Int32} {a5 : Nat} {a6 : Nat} {mm : Mm} {H : Heap} {locs : List Loc} {ls : Array Slot} (ha0 : sX11 a0) (ha5 : sJ ad a5) (ha6 : sJ ad a6) (hW : Wd D ca ad s.heap mm H locs) (hl : lv_has ls 11 [(0, .ref (ad a0)), (2, .int a2), (3, .int a3), (4, .int a4), (5, .ref (ad a5)), (6, .ref (ad a6)), (1, .ref b)]) (hf : fL_court_6 N L xs a0 a2 a3 a4 a5 a6 mm = some res) : W p l e (rmL_court) s m args below meth c H locs 1 32 (MQ below (QI D ca ad res) args s 1 32 (AA ad)) (F0 m 6 ls []) := by
  have C := CS.1
  unfold fL_court_6 at hf
  refine lv_aload C.1 C.2.1 dL_court_6 (lv_at hl 4 rfl) ?_
  refine lv_bipush (v := 18) C.1 C.2.1 dL_court_8 (by decide) ?_
  refine lv_aload_n C.1 C.2.1 dL_court_10 rfl (lv_at hl 6 rfl) ?_
  refine lv_iload_n C.1 C.2.1 dL_court_11 rfl (lv_at hl 1 rfl) ?_
  obtain ⟨x64, m65, r66, hf⟩ := bd2_s hf
  refine z_ci hW (z_runX CS hW [.ref b, .int a2] [.int 18, .ref (ad a5)] kvL_cell q_835 (tL_cell l C.2.2.2.2.2.2.1  r66) rfl rfl ⟨by decide, by decide⟩ rfl hl.1 rfl (Nat.le_of_ble_eq_true rfl) dL_court_12 ⟨Nat.le_of_ble_eq_true rfl, Nat.le_of_ble_eq_true rfl⟩) (fun H locs hW => ?_)
  refine lv_iload C.1 C.2.1 dL_court_15 (lv_at hl 3 rfl) ?_
  refine lv_iconst (v := 1) C.1 C.2.1 dL_court_17 (by decide) ?_
  refine lv_iadd C.1 C.2.1 dL_court_18 ?_
  obtain ⟨x67, m68, r69, hf⟩ := bd2_s hf
  refine z_ci hW (z_runS C hW [.int x64, .int (a4 + 1)] [.int 18, .ref (ad a5)] kvL_low q_831 (tL_low l C.2.2.2.2.2.2.1  r69) rfl rfl ⟨by decide, by decide⟩ rfl hl.1 rfl (Nat.le_of_ble_eq_true rfl) dL_court_19 ⟨Nat.le_of_ble_eq_true rfl, Nat.le_of_ble_eq_true rfl⟩) (fun H locs hW => ?_)
  obtain ⟨g70, hf⟩ := gd_s hf
  refine z_iast C hW ha5 g70 dL_court_22 (fun H locs hW => ?_)
  obtain ⟨m71, em71⟩ : ∃ z, z = wr m68 a5 (18 : Int32).toNatClampNeg x67 := ⟨_, rfl⟩
  have hf := nm_s hf em71
  rw [← em71] at hW
  refine lv_aload C.1 C.2.1 dL_court_23 (lv_at hl 4 rfl) ?_
  refine lv_bipush (v := 19) C.1 C.2.1 dL_court_25 (by decide) ?_
  refine lv_aload_n C.1 C.2.1 dL_court_27 rfl (lv_at hl 6 rfl) ?_
  refine lv_iload_n C.1 C.2.1 dL_court_28 rfl (lv_at hl 1 rfl) ?_
  obtain ⟨x72, m73, r74, hf⟩ := bd2_s hf
  refine z_ci hW (z_runX CS hW [.ref b, .int a2] [.int 19, .ref (ad a5)] kvL_cell q_835 (tL_cell l C.2.2.2.2.2.2.1  r74) rfl rfl ⟨by decide, by decide⟩ rfl hl.1 rfl (Nat.le_of_ble_eq_true rfl) dL_court_29 ⟨Nat.le_of_ble_eq_true rfl, Nat.le_of_ble_eq_true rfl⟩) (fun H locs hW => ?_)
  refine lv_bipush (v := 8) C.1 C.2.1 dL_court_32 (by decide) ?_
  refine lv_ishr C.1 C.2.1 dL_court_34 ?_
  refine lv_iload C.1 C.2.1 dL_court_35 (lv_at hl 3 rfl) ?_
  refine lv_iconst (v := 1) C.1 C.2.1 dL_court_37 (by decide) ?_
  refine lv_iadd C.1 C.2.1 dL_court_38 ?_
  obtain ⟨x75, m76, r77, hf⟩ := bd2_s hf
  refine z_ci hW (z_runS C hW [.int (x72 >>> ((8 : Int32) &&& 31)), .int (a4 + 1)] [.int 19, .ref (ad a5)] kvL_low q_831 (tL_low l C.2.2.2.2.2.2.1  r77) rfl rfl ⟨by decide, by decide⟩ rfl hl.1 rfl (Nat.le_of_ble_eq_true rfl) dL_court_39 ⟨Nat.le_of_ble_eq_true rfl, Nat.le_of_ble_eq_true rfl⟩) (fun H locs hW => ?_)
  obtain ⟨g78, hf⟩ := gd_s hf
  refine z_iast C hW ha5 g78 dL_court_42 (fun H locs hW => ?_)
  obtain ⟨m79, em79⟩ : ∃ z, z = wr m76 a5 (19 : Int32).toNatClampNeg x75 := ⟨_, rfl⟩
  have hf := nm_s hf em79
  rw [← em79] at hW
  refine lv_aload C.1 C.2.1 dL_court_43 (lv_at hl 5 rfl) ?_
  refine lv_iconst (v := 0) C.1 C.2.1 dL_court_45 (by decide) ?_
  refine lv_bipush (v := 110) C.1 C.2.1 dL_court_46 (by decide) ?_
  obtain ⟨g80, hf⟩ := gd_s hf
  refine z_iast C hW ha6 g80 dL_court_48 (fun H locs hW => ?_)
  obtain ⟨m81, em81⟩ : ∃ z, z = wr m79 a6 (0 : Int32).toNatClampNeg 110 := ⟨_, rfl⟩
  have hf := nm_s hf em81
  rw [← em81] at hW
  refine lv_aload C.1 C.2.1 dL_court_49 (lv_at hl 5 rfl) ?_
  refine lv_iconst (v := 1) C.1 C.2.1 dL_court_51 (by decide) ?_
  refine lv_aload C.1 C.2.1 dL_court_52 (lv_at hl 4 rfl) ?_
  refine lv_bipush (v := 18) C.1 C.2.1 dL_court_54 (by decide) ?_
  obtain ⟨g82, hf⟩ := gd_s hf
  refine z_iald C hW ha5 g82 dL_court_56 ?_
  obtain ⟨x83, m84, r85, hf⟩ := bd2_s hf
  refine z_ci hW (z_runS C hW [.ref (ad a6), .int 1, .int (rd m81 a5 ((18 : Int32).toNatClampNeg))] [] kvL_number q_845 (tL_number l C.2.2.2.2.2.2.1 ha6 r85) rfl rfl ⟨by decide, by decide⟩ rfl hl.1 rfl (Nat.le_of_ble_eq_true rfl) dL_court_57 ⟨Nat.le_of_ble_eq_true rfl, Nat.le_of_ble_eq_true rfl⟩) (fun H locs hW => ?_)
  refine lv_istore (lv' := [(7, .int x83), (0, .ref (ad a0)), (2, .int a2), (3, .int a3), (4, .int a4), (5, .ref (ad a5)), (6, .ref (ad a6)), (1, .ref b)]) C.1 C.2.1 dL_court_60 hl (by decide) rfl (fun ls hl => ?_)
  refine lv_aload C.1 C.2.1 dL_court_62 (lv_at hl 6 rfl) ?_
  refine lv_iload C.1 C.2.1 dL_court_64 (lv_at hl 0 rfl) ?_
  refine lv_bipush (v := 58) C.1 C.2.1 dL_court_66 (by decide) ?_
  obtain ⟨g86, hf⟩ := gd_s hf
  refine z_iast C hW ha6 g86 dL_court_68 (fun H locs hW => ?_)
  obtain ⟨m87, em87⟩ : ∃ z, z = wr m84 a6 x83.toNatClampNeg 58 := ⟨_, rfl⟩
  have hf := nm_s hf em87
  rw [← em87] at hW
  refine lv_aload C.1 C.2.1 dL_court_69 (lv_at hl 6 rfl) ?_
  refine lv_iload C.1 C.2.1 dL_court_71 (lv_at hl 0 rfl) ?_
  refine lv_iconst (v := 1) C.1 C.2.1 dL_court_73 (by decide) ?_
  refine lv_iadd C.1 C.2.1 dL_court_74 ?_
  refine lv_aload C.1 C.2.1 dL_court_75 (lv_at hl 5 rfl) ?_
  refine lv_bipush (v := 19) C.1 C.2.1 dL_court_77 (by decide) ?_
  obtain ⟨g88, hf⟩ := gd_s hf
  refine z_iald C hW ha5 g88 dL_court_79 ?_
  obtain ⟨x89, m90, r91, hf⟩ := bd2_s hf
  refine z_ci hW (z_runS C hW [.ref (ad a6), .int (x83 + 1), .int (rd m87 a5 ((19 : Int32).toNatClampNeg))] [] kvL_number q_845 (tL_number l C.2.2.2.2.2.2.1 ha6 r91) rfl rfl ⟨by decide, by decide⟩ rfl hl.1 rfl (Nat.le_of_ble_eq_true rfl) dL_court_80 ⟨Nat.le_of_ble_eq_true rfl, Nat.le_of_ble_eq_true rfl⟩) (fun H locs hW => ?_)
  refine lv_istore (lv' := [(7, .int x89), (0, .ref (ad a0)), (2, .int a2), (3, .int a3), (4, .int a4), (5, .ref (ad a5)), (6, .ref (ad a6)), (1, .ref b)]) C.1 C.2.1 dL_court_83 hl (by decide) rfl (fun ls hl => ?_)
  refine lv_iconst (v := 0) C.1 C.2.1 dL_court_85 (by decide) ?_
  refine lv_istore (lv' := [(8, .int 0), (7, .int x89), (0, .ref (ad a0)), (2, .int a2), (3, .int a3), (4, .int a4), (5, .ref (ad a5)), (6, .ref (ad a6)), (1, .ref b)]) C.1 C.2.1 dL_court_86 hl (by decide) rfl (fun ls hl => ?_)
  exact wL_court_88 CS  N ha0 ha5 ha6 hW (lv_sub hl [2, 3, 4, 6, 7, 1, 0, 8] rfl) hf
/-- what court starts from: the heap's size is told -/
def WBZ (D : va_G) (ca ad : Nat → Nat) (mm : Mm) (b L : Nat) (xs : Nat → Int32) (z : Nat) (U : State) : Prop := WBS D ca ad mm b L xs U ∧ U.heap.size = z
theorem WBZ_blind {As : List Value} {mm : Mm} {z : Nat} : FrameBlind (va_Pc As (WBZ D ca ad mm b L xs z)) := fun a U g mk h => ⟨h.1, (WBS_blind a U g mk ⟨h.1, h.2.1⟩).2, h.2.2⟩
set_option maxRecDepth 100000 in
theorem tL_court (l : Launch) {D : va_G} {ca ad : Nat → Nat} (hi : Inj ad) (hM : ad 1000 = 176) {N b L z : Nat} {xs : Nat → Int32} {a0 a5 : Nat} {a2 a3 a4 : Int32} {mm : Mm} {res : Int32 × Mm} (ha0 : sX11 a0) (ha5 : sJ ad a5) (hf : fL_court_6 N L xs a0 a2 a3 a4 a5 176 (zr mm 176) = some res) : Met l yL_court (WS yL_court cL_court 11 (some .boolean)) rmL_court (va_Pc [.ref (ad a0), .ref b, .int a2, .int a3, .int a4, .ref (ad a5)] (WBZ D ca ad mm b L xs z)) (QI D ca (ext ad z) res) 1 32 (AA (ext ad z)) := by
  refine Met.ofW (cc := cL_court) (maxL := 11) (ret := some .boolean) (by decide) rfl ?_
  intro p e s m args below meth c s₁ B hml hv
  obtain ⟨rfl, ⟨⟨hP, hK, hN⟩, hX, hb, hbA⟩, hz⟩ := hv
  have hts := atoms_spec (ws := WS yL_court cL_court 11 (some .boolean)) B.pre
  have hf0 : s.vm.findClass yL_court.cls = some m.cls := findClass_of_methodNamed B.named
  have hl := lv_entry [.ref (ad a0), .ref b, .int a2, .int a3, .int a4, .ref (ad a5)] (n := 11) (Nat.le_of_ble_eq_true rfl)
  rw [lg_entry_eq]
  generalize (lg_sl [.ref (ad a0), .ref b, .int a2, .int a3, .int a4, .ref (ad a5)] ++ List.replicate (11 - (lg_sl [.ref (ad a0), .ref b, .int a2, .int a3, .int a4, .ref (ad a5)]).length) Slot.unset).toArray = ls at hl ⊢
  have hl : lv_has ls 11 [(0, .ref (ad a0)), (1, .ref b), (2, .int a2), (3, .int a3), (4, .int a4), (5, .ref (ad a5))] := hl
  have C : Cx p s m meth c _ cL_court 11 (some .boolean) RL D ca ad := ⟨B.exec, B.bytes, hml, hf0, fun w hw => hts w (List.mem_cons_of_mem _ hw), hK, hi, B.returns, B.notSynchronized, hN⟩
  have CS : CxS p s m meth c _ cL_court 11 (some .boolean) RL D ca ad b L xs := ⟨C, hX, hb, hbA⟩
  have hW : Wd D ca ad s.heap mm s.heap [] := ⟨hP, va_S.rf⟩
  have h1000 : ad 1000 < 1000 := by omega
  refine lv_bipush (v := 32) C.1 C.2.1 dL_court_0 (by decide) ?_
  refine z_newa C hW (by omega) (N' := 32) (by rw [hM]; rfl) (by decide) (by decide) (by decide) (Nat.le_of_ble_eq_true rfl) (Nat.le_of_ble_eq_true rfl) q_56 dL_court_2 (fun H1 hi' hW => ?_)
  rw [hz] at hi' hW ⊢
  rw [hM] at hW
  refine lv_astore (lv' := [(6, .ref z), (0, .ref (ad a0)), (1, .ref b), (2, .int a2), (3, .int a3), (4, .int a4), (5, .ref (ad a5))]) C.1 C.2.1 dL_court_4 hl (by decide) rfl (fun ls hl => ?_)
  have CS' := CxS.ext h1000 (z := z) (by omega) CS hi'
  have e0 : ext ad z a0 = ad a0 := ext_o (Nat.lt_of_lt_of_le ha0.1 hi.1) h1000
  have e5 : ext ad z a5 = ad a5 := ext_o ha5.1 h1000
  have e6 : ext ad z 176 = z := by rw [← hM]; exact ext_z
  have h6 : sJ (ext ad z) 176 := ⟨by rw [ext_M h1000]; omega, rfl⟩
  exact wL_court_6 CS' ha0 (sJ_ext h1000 ha5) h6 hW (by rw [e0, e5, e6]; exact lv_sub hl [1, 3, 4, 5, 6, 0, 2] rfl) hf
end W_lc
