theorem dX12_layRule_0 : decode cX12_layRule 0 = .ok (.aload_n 0, 1) := by decide +kernel
theorem dX12_layRule_1 : decode cX12_layRule 1 = .ok (.getfield 35, 3) := by decide +kernel
theorem dX12_layRule_4 : decode cX12_layRule 4 = .ok (.iconst 1, 1) := by decide +kernel
theorem dX12_layRule_5 : decode cX12_layRule 5 = .ok (.iaload, 1) := by decide +kernel
theorem dX12_layRule_6 : decode cX12_layRule 6 = .ok (.istore_n 3, 1) := by decide +kernel
theorem dX12_layRule_7 : decode cX12_layRule 7 = .ok (.iconst 0, 1) := by decide +kernel
theorem dX12_layRule_8 : decode cX12_layRule 8 = .ok (.istore 4, 2) := by decide +kernel
theorem dX12_layRule_10 : decode cX12_layRule 10 = .ok (.iconst 0, 1) := by decide +kernel
theorem dX12_layRule_11 : decode cX12_layRule 11 = .ok (.istore 5, 2) := by decide +kernel
theorem dX12_layRule_13 : decode cX12_layRule 13 = .ok (.iconst 0, 1) := by decide +kernel
theorem dX12_layRule_14 : decode cX12_layRule 14 = .ok (.istore 6, 2) := by decide +kernel
theorem dX12_layRule_16 : decode cX12_layRule 16 = .ok (.iload 6, 2) := by decide +kernel
theorem dX12_layRule_18 : decode cX12_layRule 18 = .ok (.aload_n 0, 1) := by decide +kernel
theorem dX12_layRule_19 : decode cX12_layRule 19 = .ok (.getfield 156, 3) := by decide +kernel
theorem dX12_layRule_22 : decode cX12_layRule 22 = .ok (.if_icmp .ge 47, 3) := by decide +kernel
theorem dX12_layRule_25 : decode cX12_layRule 25 = .ok (.iload 4, 2) := by decide +kernel
theorem dX12_layRule_27 : decode cX12_layRule 27 = .ok (.aload_n 0, 1) := by decide +kernel
theorem dX12_layRule_28 : decode cX12_layRule 28 = .ok (.iload 6, 2) := by decide +kernel
theorem dX12_layRule_30 : decode cX12_layRule 30 = .ok (.iconst 1, 1) := by decide +kernel
theorem dX12_layRule_31 : decode cX12_layRule 31 = .ok (.invokevirtual 168, 3) := by decide +kernel
theorem dX12_layRule_34 : decode cX12_layRule 34 = .ok (.iadd, 1) := by decide +kernel
theorem dX12_layRule_35 : decode cX12_layRule 35 = .ok (.istore 4, 2) := by decide +kernel
theorem dX12_layRule_37 : decode cX12_layRule 37 = .ok (.aload_n 0, 1) := by decide +kernel
theorem dX12_layRule_38 : decode cX12_layRule 38 = .ok (.iload 6, 2) := by decide +kernel
theorem dX12_layRule_40 : decode cX12_layRule 40 = .ok (.iconst 1, 1) := by decide +kernel
theorem dX12_layRule_41 : decode cX12_layRule 41 = .ok (.invokevirtual 168, 3) := by decide +kernel
theorem dX12_layRule_44 : decode cX12_layRule 44 = .ok (.aload_n 0, 1) := by decide +kernel
theorem dX12_layRule_45 : decode cX12_layRule 45 = .ok (.iload 5, 2) := by decide +kernel
theorem dX12_layRule_47 : decode cX12_layRule 47 = .ok (.iconst 1, 1) := by decide +kernel
theorem dX12_layRule_48 : decode cX12_layRule 48 = .ok (.invokevirtual 168, 3) := by decide +kernel
theorem dX12_layRule_51 : decode cX12_layRule 51 = .ok (.if_icmp .le 8, 3) := by decide +kernel
theorem dX12_layRule_54 : decode cX12_layRule 54 = .ok (.iload 6, 2) := by decide +kernel
theorem dX12_layRule_56 : decode cX12_layRule 56 = .ok (.goto 5, 3) := by decide +kernel
theorem dX12_layRule_59 : decode cX12_layRule 59 = .ok (.iload 5, 2) := by decide +kernel
theorem dX12_layRule_61 : decode cX12_layRule 61 = .ok (.istore 5, 2) := by decide +kernel
theorem dX12_layRule_63 : decode cX12_layRule 63 = .ok (.iinc 6 1, 3) := by decide +kernel
theorem dX12_layRule_66 : decode cX12_layRule 66 = .ok (.goto (-50), 3) := by decide +kernel
theorem dX12_layRule_69 : decode cX12_layRule 69 = .ok (.iload_n 3, 1) := by decide +kernel
theorem dX12_layRule_70 : decode cX12_layRule 70 = .ok (.istore 6, 2) := by decide +kernel
theorem dX12_layRule_72 : decode cX12_layRule 72 = .ok (.iconst 0, 1) := by decide +kernel
theorem dX12_layRule_73 : decode cX12_layRule 73 = .ok (.istore 7, 2) := by decide +kernel
theorem dX12_layRule_75 : decode cX12_layRule 75 = .ok (.iload 7, 2) := by decide +kernel
theorem dX12_layRule_77 : decode cX12_layRule 77 = .ok (.aload_n 0, 1) := by decide +kernel
theorem dX12_layRule_78 : decode cX12_layRule 78 = .ok (.getfield 156, 3) := by decide +kernel
theorem dX12_layRule_81 : decode cX12_layRule 81 = .ok (.if_icmp .ge 225, 3) := by decide +kernel
theorem dX12_layRule_84 : decode cX12_layRule 84 = .ok (.iload_n 2, 1) := by decide +kernel
theorem dX12_layRule_85 : decode cX12_layRule 85 = .ok (.ifCond .ne 7, 3) := by decide +kernel
theorem dX12_layRule_88 : decode cX12_layRule 88 = .ok (.iconst 0, 1) := by decide +kernel
theorem dX12_layRule_89 : decode cX12_layRule 89 = .ok (.goto 18, 3) := by decide +kernel
theorem dX12_layRule_92 : decode cX12_layRule 92 = .ok (.aload_n 0, 1) := by decide +kernel
theorem dX12_layRule_93 : decode cX12_layRule 93 = .ok (.getfield 65, 3) := by decide +kernel
theorem dX12_layRule_96 : decode cX12_layRule 96 = .ok (.bipush 7, 2) := by decide +kernel
theorem dX12_layRule_98 : decode cX12_layRule 98 = .ok (.iload_n 2, 1) := by decide +kernel
theorem dX12_layRule_99 : decode cX12_layRule 99 = .ok (.imul, 1) := by decide +kernel
theorem dX12_layRule_100 : decode cX12_layRule 100 = .ok (.bipush 7, 2) := by decide +kernel
theorem dX12_layRule_102 : decode cX12_layRule 102 = .ok (.isub, 1) := by decide +kernel
theorem dX12_layRule_103 : decode cX12_layRule 103 = .ok (.iload 7, 2) := by decide +kernel
theorem dX12_layRule_105 : decode cX12_layRule 105 = .ok (.iadd, 1) := by decide +kernel
theorem dX12_layRule_106 : decode cX12_layRule 106 = .ok (.iaload, 1) := by decide +kernel
theorem dX12_layRule_107 : decode cX12_layRule 107 = .ok (.istore 8, 2) := by decide +kernel
theorem dX12_layRule_109 : decode cX12_layRule 109 = .ok (.iload_n 1, 1) := by decide +kernel
theorem dX12_layRule_110 : decode cX12_layRule 110 = .ok (.tableswitch 157 0 4 #[34, 67, 89, 109, 135], 34) := by decide +kernel
theorem dX12_layRule_144 : decode cX12_layRule 144 = .ok (.aload_n 0, 1) := by decide +kernel
theorem dX12_layRule_145 : decode cX12_layRule 145 = .ok (.getfield 44, 3) := by decide +kernel
theorem dX12_layRule_148 : decode cX12_layRule 148 = .ok (.iload 7, 2) := by decide +kernel
theorem dX12_layRule_150 : decode cX12_layRule 150 = .ok (.iload_n 3, 1) := by decide +kernel
theorem dX12_layRule_151 : decode cX12_layRule 151 = .ok (.aload_n 0, 1) := by decide +kernel
theorem dX12_layRule_152 : decode cX12_layRule 152 = .ok (.getfield 156, 3) := by decide +kernel
theorem dX12_layRule_155 : decode cX12_layRule 155 = .ok (.idiv, 1) := by decide +kernel
theorem dX12_layRule_156 : decode cX12_layRule 156 = .ok (.iload 7, 2) := by decide +kernel
theorem dX12_layRule_158 : decode cX12_layRule 158 = .ok (.iload_n 3, 1) := by decide +kernel
theorem dX12_layRule_159 : decode cX12_layRule 159 = .ok (.aload_n 0, 1) := by decide +kernel
theorem dX12_layRule_160 : decode cX12_layRule 160 = .ok (.getfield 156, 3) := by decide +kernel
theorem dX12_layRule_163 : decode cX12_layRule 163 = .ok (.irem, 1) := by decide +kernel
theorem dX12_layRule_164 : decode cX12_layRule 164 = .ok (.if_icmp .ge 7, 3) := by decide +kernel
theorem dX12_layRule_167 : decode cX12_layRule 167 = .ok (.iconst 1, 1) := by decide +kernel
theorem dX12_layRule_168 : decode cX12_layRule 168 = .ok (.goto 4, 3) := by decide +kernel
theorem dX12_layRule_171 : decode cX12_layRule 171 = .ok (.iconst 0, 1) := by decide +kernel
theorem dX12_layRule_172 : decode cX12_layRule 172 = .ok (.iadd, 1) := by decide +kernel
theorem dX12_layRule_173 : decode cX12_layRule 173 = .ok (.iastore, 1) := by decide +kernel
theorem dX12_layRule_174 : decode cX12_layRule 174 = .ok (.goto 114, 3) := by decide +kernel
theorem dX12_layRule_177 : decode cX12_layRule 177 = .ok (.aload_n 0, 1) := by decide +kernel
theorem dX12_layRule_178 : decode cX12_layRule 178 = .ok (.getfield 44, 3) := by decide +kernel
theorem dX12_layRule_181 : decode cX12_layRule 181 = .ok (.iload 7, 2) := by decide +kernel
theorem dX12_layRule_183 : decode cX12_layRule 183 = .ok (.iload_n 3, 1) := by decide +kernel
theorem dX12_layRule_184 : decode cX12_layRule 184 = .ok (.aload_n 0, 1) := by decide +kernel
theorem dX12_layRule_185 : decode cX12_layRule 185 = .ok (.iload 7, 2) := by decide +kernel
theorem dX12_layRule_187 : decode cX12_layRule 187 = .ok (.iconst 1, 1) := by decide +kernel
theorem dX12_layRule_188 : decode cX12_layRule 188 = .ok (.invokevirtual 168, 3) := by decide +kernel
theorem dX12_layRule_191 : decode cX12_layRule 191 = .ok (.imul, 1) := by decide +kernel
theorem dX12_layRule_192 : decode cX12_layRule 192 = .ok (.iload 4, 2) := by decide +kernel
theorem dX12_layRule_194 : decode cX12_layRule 194 = .ok (.idiv, 1) := by decide +kernel
theorem dX12_layRule_195 : decode cX12_layRule 195 = .ok (.iastore, 1) := by decide +kernel
theorem dX12_layRule_196 : decode cX12_layRule 196 = .ok (.goto 92, 3) := by decide +kernel
theorem dX12_layRule_199 : decode cX12_layRule 199 = .ok (.aload_n 0, 1) := by decide +kernel
theorem dX12_layRule_200 : decode cX12_layRule 200 = .ok (.getfield 44, 3) := by decide +kernel
theorem dX12_layRule_203 : decode cX12_layRule 203 = .ok (.iload 7, 2) := by decide +kernel
theorem dX12_layRule_205 : decode cX12_layRule 205 = .ok (.iload 7, 2) := by decide +kernel
theorem dX12_layRule_207 : decode cX12_layRule 207 = .ok (.ifCond .ne 7, 3) := by decide +kernel
theorem dX12_layRule_210 : decode cX12_layRule 210 = .ok (.iload_n 3, 1) := by decide +kernel
theorem dX12_layRule_211 : decode cX12_layRule 211 = .ok (.goto 4, 3) := by decide +kernel
theorem dX12_layRule_214 : decode cX12_layRule 214 = .ok (.iconst 0, 1) := by decide +kernel
theorem dX12_layRule_215 : decode cX12_layRule 215 = .ok (.iastore, 1) := by decide +kernel
theorem dX12_layRule_216 : decode cX12_layRule 216 = .ok (.goto 72, 3) := by decide +kernel
theorem dX12_layRule_219 : decode cX12_layRule 219 = .ok (.aload_n 0, 1) := by decide +kernel
theorem dX12_layRule_220 : decode cX12_layRule 220 = .ok (.getfield 44, 3) := by decide +kernel
theorem dX12_layRule_223 : decode cX12_layRule 223 = .ok (.iload 7, 2) := by decide +kernel
theorem dX12_layRule_225 : decode cX12_layRule 225 = .ok (.iload 7, 2) := by decide +kernel
theorem dX12_layRule_227 : decode cX12_layRule 227 = .ok (.aload_n 0, 1) := by decide +kernel
theorem dX12_layRule_228 : decode cX12_layRule 228 = .ok (.getfield 156, 3) := by decide +kernel
theorem dX12_layRule_231 : decode cX12_layRule 231 = .ok (.iconst 1, 1) := by decide +kernel
theorem dX12_layRule_232 : decode cX12_layRule 232 = .ok (.isub, 1) := by decide +kernel
theorem dX12_layRule_233 : decode cX12_layRule 233 = .ok (.if_icmp .ne 7, 3) := by decide +kernel
theorem dX12_layRule_236 : decode cX12_layRule 236 = .ok (.iload_n 3, 1) := by decide +kernel
theorem dX12_layRule_237 : decode cX12_layRule 237 = .ok (.goto 4, 3) := by decide +kernel
theorem dX12_layRule_240 : decode cX12_layRule 240 = .ok (.iconst 0, 1) := by decide +kernel
theorem dX12_layRule_241 : decode cX12_layRule 241 = .ok (.iastore, 1) := by decide +kernel
theorem dX12_layRule_242 : decode cX12_layRule 242 = .ok (.goto 46, 3) := by decide +kernel
theorem dX12_layRule_245 : decode cX12_layRule 245 = .ok (.aload_n 0, 1) := by decide +kernel
theorem dX12_layRule_246 : decode cX12_layRule 246 = .ok (.getfield 44, 3) := by decide +kernel
theorem dX12_layRule_249 : decode cX12_layRule 249 = .ok (.iload 7, 2) := by decide +kernel
theorem dX12_layRule_251 : decode cX12_layRule 251 = .ok (.iload 7, 2) := by decide +kernel
theorem dX12_layRule_253 : decode cX12_layRule 253 = .ok (.iload 5, 2) := by decide +kernel
theorem dX12_layRule_255 : decode cX12_layRule 255 = .ok (.if_icmp .ne 7, 3) := by decide +kernel
theorem dX12_layRule_258 : decode cX12_layRule 258 = .ok (.iload_n 3, 1) := by decide +kernel
theorem dX12_layRule_259 : decode cX12_layRule 259 = .ok (.goto 4, 3) := by decide +kernel
theorem dX12_layRule_262 : decode cX12_layRule 262 = .ok (.iconst 0, 1) := by decide +kernel
theorem dX12_layRule_263 : decode cX12_layRule 263 = .ok (.iastore, 1) := by decide +kernel
theorem dX12_layRule_264 : decode cX12_layRule 264 = .ok (.goto 24, 3) := by decide +kernel
theorem dX12_layRule_267 : decode cX12_layRule 267 = .ok (.aload_n 0, 1) := by decide +kernel
theorem dX12_layRule_268 : decode cX12_layRule 268 = .ok (.getfield 44, 3) := by decide +kernel
theorem dX12_layRule_271 : decode cX12_layRule 271 = .ok (.iload 7, 2) := by decide +kernel
theorem dX12_layRule_273 : decode cX12_layRule 273 = .ok (.iload 8, 2) := by decide +kernel
theorem dX12_layRule_275 : decode cX12_layRule 275 = .ok (.iload 6, 2) := by decide +kernel
theorem dX12_layRule_277 : decode cX12_layRule 277 = .ok (.if_icmp .ge 8, 3) := by decide +kernel
theorem dX12_layRule_280 : decode cX12_layRule 280 = .ok (.iload 8, 2) := by decide +kernel
theorem dX12_layRule_282 : decode cX12_layRule 282 = .ok (.goto 5, 3) := by decide +kernel
theorem dX12_layRule_285 : decode cX12_layRule 285 = .ok (.iload 6, 2) := by decide +kernel
theorem dX12_layRule_287 : decode cX12_layRule 287 = .ok (.iastore, 1) := by decide +kernel
theorem dX12_layRule_288 : decode cX12_layRule 288 = .ok (.iload 6, 2) := by decide +kernel
theorem dX12_layRule_290 : decode cX12_layRule 290 = .ok (.aload_n 0, 1) := by decide +kernel
theorem dX12_layRule_291 : decode cX12_layRule 291 = .ok (.getfield 44, 3) := by decide +kernel
theorem dX12_layRule_294 : decode cX12_layRule 294 = .ok (.iload 7, 2) := by decide +kernel
theorem dX12_layRule_296 : decode cX12_layRule 296 = .ok (.iaload, 1) := by decide +kernel
theorem dX12_layRule_297 : decode cX12_layRule 297 = .ok (.isub, 1) := by decide +kernel
theorem dX12_layRule_298 : decode cX12_layRule 298 = .ok (.istore 6, 2) := by decide +kernel
theorem dX12_layRule_300 : decode cX12_layRule 300 = .ok (.iinc 7 1, 3) := by decide +kernel
theorem dX12_layRule_303 : decode cX12_layRule 303 = .ok (.goto (-228), 3) := by decide +kernel
theorem dX12_layRule_306 : decode cX12_layRule 306 = .ok (.aload_n 0, 1) := by decide +kernel
theorem dX12_layRule_307 : decode cX12_layRule 307 = .ok (.getfield 44, 3) := by decide +kernel
theorem dX12_layRule_310 : decode cX12_layRule 310 = .ok (.iconst 0, 1) := by decide +kernel
theorem dX12_layRule_311 : decode cX12_layRule 311 = .ok (.dup2, 1) := by decide +kernel
theorem dX12_layRule_312 : decode cX12_layRule 312 = .ok (.iaload, 1) := by decide +kernel
theorem dX12_layRule_313 : decode cX12_layRule 313 = .ok (.iload_n 1, 1) := by decide +kernel
theorem dX12_layRule_314 : decode cX12_layRule 314 = .ok (.iconst 1, 1) := by decide +kernel
theorem dX12_layRule_315 : decode cX12_layRule 315 = .ok (.if_icmp .ne 8, 3) := by decide +kernel
theorem dX12_layRule_318 : decode cX12_layRule 318 = .ok (.iload 6, 2) := by decide +kernel
theorem dX12_layRule_320 : decode cX12_layRule 320 = .ok (.goto 4, 3) := by decide +kernel
theorem dX12_layRule_323 : decode cX12_layRule 323 = .ok (.iconst 0, 1) := by decide +kernel
theorem dX12_layRule_324 : decode cX12_layRule 324 = .ok (.iadd, 1) := by decide +kernel
theorem dX12_layRule_325 : decode cX12_layRule 325 = .ok (.iastore, 1) := by decide +kernel
theorem dX12_layRule_326 : decode cX12_layRule 326 = .ok (.return_, 1) := by decide +kernel
theorem dX12_rule_0 : decode cX12_rule 0 = .ok (.iload_n 1, 1) := by decide +kernel
theorem dX12_rule_1 : decode cX12_rule 1 = .ok (.iconst 0, 1) := by decide +kernel
theorem dX12_rule_2 : decode cX12_rule 2 = .ok (.iconst 5, 1) := by decide +kernel
theorem dX12_rule_3 : decode cX12_rule 3 = .ok (.invokestatic 87, 3) := by decide +kernel
theorem dX12_rule_6 : decode cX12_rule 6 = .ok (.ifCond .eq 10, 3) := by decide +kernel
theorem dX12_rule_9 : decode cX12_rule 9 = .ok (.iload_n 2, 1) := by decide +kernel
theorem dX12_rule_10 : decode cX12_rule 10 = .ok (.invokestatic 91, 3) := by decide +kernel
theorem dX12_rule_13 : decode cX12_rule 13 = .ok (.ifCond .ne 5, 3) := by decide +kernel
theorem dX12_rule_16 : decode cX12_rule 16 = .ok (.iconst (-1), 1) := by decide +kernel
theorem dX12_rule_17 : decode cX12_rule 17 = .ok (.ireturn, 1) := by decide +kernel
theorem dX12_rule_18 : decode cX12_rule 18 = .ok (.aload_n 0, 1) := by decide +kernel
theorem dX12_rule_19 : decode cX12_rule 19 = .ok (.getfield 156, 3) := by decide +kernel
theorem dX12_rule_22 : decode cX12_rule 22 = .ok (.ifCond .ne 9, 3) := by decide +kernel
theorem dX12_rule_25 : decode cX12_rule 25 = .ok (.aload_n 0, 1) := by decide +kernel
theorem dX12_rule_26 : decode cX12_rule 26 = .ok (.iconst 4, 1) := by decide +kernel
theorem dX12_rule_27 : decode cX12_rule 27 = .ok (.invokevirtual 95, 3) := by decide +kernel
theorem dX12_rule_30 : decode cX12_rule 30 = .ok (.ireturn, 1) := by decide +kernel
theorem dX12_rule_31 : decode cX12_rule 31 = .ok (.aload_n 0, 1) := by decide +kernel
theorem dX12_rule_32 : decode cX12_rule 32 = .ok (.iload_n 1, 1) := by decide +kernel
theorem dX12_rule_33 : decode cX12_rule 33 = .ok (.aload_n 0, 1) := by decide +kernel
theorem dX12_rule_34 : decode cX12_rule 34 = .ok (.getfield 162, 3) := by decide +kernel
theorem dX12_rule_37 : decode cX12_rule 37 = .ok (.invokevirtual 318, 3) := by decide +kernel
theorem dX12_rule_40 : decode cX12_rule 40 = .ok (.aload_n 0, 1) := by decide +kernel
theorem dX12_rule_41 : decode cX12_rule 41 = .ok (.iload_n 2, 1) := by decide +kernel
theorem dX12_rule_42 : decode cX12_rule 42 = .ok (.aload_n 0, 1) := by decide +kernel
theorem dX12_rule_43 : decode cX12_rule 43 = .ok (.getfield 156, 3) := by decide +kernel
theorem dX12_rule_46 : decode cX12_rule 46 = .ok (.invokevirtual 226, 3) := by decide +kernel
theorem dX12_rule_49 : decode cX12_rule 49 = .ok (.pop, 1) := by decide +kernel
theorem dX12_rule_50 : decode cX12_rule 50 = .ok (.iconst 0, 1) := by decide +kernel
theorem dX12_rule_51 : decode cX12_rule 51 = .ok (.istore_n 3, 1) := by decide +kernel
theorem dX12_rule_52 : decode cX12_rule 52 = .ok (.iconst 0, 1) := by decide +kernel
theorem dX12_rule_53 : decode cX12_rule 53 = .ok (.istore 4, 2) := by decide +kernel
theorem dX12_rule_55 : decode cX12_rule 55 = .ok (.iload 4, 2) := by decide +kernel
theorem dX12_rule_57 : decode cX12_rule 57 = .ok (.aload_n 0, 1) := by decide +kernel
theorem dX12_rule_58 : decode cX12_rule 58 = .ok (.getfield 156, 3) := by decide +kernel
theorem dX12_rule_61 : decode cX12_rule 61 = .ok (.if_icmp .ge 33, 3) := by decide +kernel
theorem dX12_rule_64 : decode cX12_rule 64 = .ok (.aload_n 0, 1) := by decide +kernel
theorem dX12_rule_65 : decode cX12_rule 65 = .ok (.iload_n 2, 1) := by decide +kernel
theorem dX12_rule_66 : decode cX12_rule 66 = .ok (.iload 4, 2) := by decide +kernel
theorem dX12_rule_68 : decode cX12_rule 68 = .ok (.aload_n 0, 1) := by decide +kernel
theorem dX12_rule_69 : decode cX12_rule 69 = .ok (.getfield 44, 3) := by decide +kernel
theorem dX12_rule_72 : decode cX12_rule 72 = .ok (.iload 4, 2) := by decide +kernel
theorem dX12_rule_74 : decode cX12_rule 74 = .ok (.iaload, 1) := by decide +kernel
theorem dX12_rule_75 : decode cX12_rule 75 = .ok (.invokevirtual 102, 3) := by decide +kernel
theorem dX12_rule_78 : decode cX12_rule 78 = .ok (.iload_n 3, 1) := by decide +kernel
theorem dX12_rule_79 : decode cX12_rule 79 = .ok (.aload_n 0, 1) := by decide +kernel
theorem dX12_rule_80 : decode cX12_rule 80 = .ok (.getfield 44, 3) := by decide +kernel
theorem dX12_rule_83 : decode cX12_rule 83 = .ok (.iload 4, 2) := by decide +kernel
theorem dX12_rule_85 : decode cX12_rule 85 = .ok (.iaload, 1) := by decide +kernel
theorem dX12_rule_86 : decode cX12_rule 86 = .ok (.iadd, 1) := by decide +kernel
theorem dX12_rule_87 : decode cX12_rule 87 = .ok (.istore_n 3, 1) := by decide +kernel
theorem dX12_rule_88 : decode cX12_rule 88 = .ok (.iinc 4 1, 3) := by decide +kernel
theorem dX12_rule_91 : decode cX12_rule 91 = .ok (.goto (-36), 3) := by decide +kernel
theorem dX12_rule_94 : decode cX12_rule 94 = .ok (.iload_n 3, 1) := by decide +kernel
theorem dX12_rule_95 : decode cX12_rule 95 = .ok (.ireturn, 1) := by decide +kernel
theorem dX12_note_0 : decode cX12_note 0 = .ok (.iload_n 1, 1) := by decide +kernel
theorem dX12_note_1 : decode cX12_note 1 = .ok (.invokestatic 91, 3) := by decide +kernel
theorem dX12_note_4 : decode cX12_note 4 = .ok (.ifCond .eq 19, 3) := by decide +kernel
theorem dX12_note_7 : decode cX12_note 7 = .ok (.iload_n 2, 1) := by decide +kernel
theorem dX12_note_8 : decode cX12_note 8 = .ok (.iconst 0, 1) := by decide +kernel
theorem dX12_note_9 : decode cX12_note 9 = .ok (.iconst 1, 1) := by decide +kernel
theorem dX12_note_10 : decode cX12_note 10 = .ok (.aload_n 0, 1) := by decide +kernel
theorem dX12_note_11 : decode cX12_note 11 = .ok (.getfield 156, 3) := by decide +kernel
theorem dX12_note_14 : decode cX12_note 14 = .ok (.ishl, 1) := by decide +kernel
theorem dX12_note_15 : decode cX12_note 15 = .ok (.iconst 1, 1) := by decide +kernel
theorem dX12_note_16 : decode cX12_note 16 = .ok (.isub, 1) := by decide +kernel
theorem dX12_note_17 : decode cX12_note 17 = .ok (.invokestatic 87, 3) := by decide +kernel
theorem dX12_note_20 : decode cX12_note 20 = .ok (.ifCond .ne 5, 3) := by decide +kernel
theorem dX12_note_23 : decode cX12_note 23 = .ok (.iconst (-1), 1) := by decide +kernel
theorem dX12_note_24 : decode cX12_note 24 = .ok (.ireturn, 1) := by decide +kernel
theorem dX12_note_25 : decode cX12_note 25 = .ok (.aload_n 0, 1) := by decide +kernel
theorem dX12_note_26 : decode cX12_note 26 = .ok (.iload_n 1, 1) := by decide +kernel
theorem dX12_note_27 : decode cX12_note 27 = .ok (.iconst 0, 1) := by decide +kernel
theorem dX12_note_28 : decode cX12_note 28 = .ok (.invokevirtual 229, 3) := by decide +kernel
theorem dX12_note_31 : decode cX12_note 31 = .ok (.istore_n 3, 1) := by decide +kernel
theorem dX12_note_32 : decode cX12_note 32 = .ok (.iload_n 3, 1) := by decide +kernel
theorem dX12_note_33 : decode cX12_note 33 = .ok (.ifCond .ge 5, 3) := by decide +kernel
theorem dX12_note_36 : decode cX12_note 36 = .ok (.iload_n 3, 1) := by decide +kernel
theorem dX12_note_37 : decode cX12_note 37 = .ok (.ireturn, 1) := by decide +kernel
theorem dX12_note_38 : decode cX12_note 38 = .ok (.aload_n 0, 1) := by decide +kernel
theorem dX12_note_39 : decode cX12_note 39 = .ok (.getfield 162, 3) := by decide +kernel
theorem dX12_note_42 : decode cX12_note 42 = .ok (.bipush 8, 2) := by decide +kernel
theorem dX12_note_44 : decode cX12_note 44 = .ok (.if_icmp .ne 6, 3) := by decide +kernel
theorem dX12_note_47 : decode cX12_note 47 = .ok (.bipush (-2), 2) := by decide +kernel
theorem dX12_note_49 : decode cX12_note 49 = .ok (.ireturn, 1) := by decide +kernel
theorem dX12_note_50 : decode cX12_note 50 = .ok (.iconst 0, 1) := by decide +kernel
theorem dX12_note_51 : decode cX12_note 51 = .ok (.istore 4, 2) := by decide +kernel
theorem dX12_note_53 : decode cX12_note 53 = .ok (.iload 4, 2) := by decide +kernel
theorem dX12_note_55 : decode cX12_note 55 = .ok (.bipush 6, 2) := by decide +kernel
theorem dX12_note_57 : decode cX12_note 57 = .ok (.if_icmp .ge 44, 3) := by decide +kernel
theorem dX12_note_60 : decode cX12_note 60 = .ok (.aload_n 0, 1) := by decide +kernel
theorem dX12_note_61 : decode cX12_note 61 = .ok (.getfield 65, 3) := by decide +kernel
theorem dX12_note_64 : decode cX12_note 64 = .ok (.bipush 7, 2) := by decide +kernel
theorem dX12_note_66 : decode cX12_note 66 = .ok (.aload_n 0, 1) := by decide +kernel
theorem dX12_note_67 : decode cX12_note 67 = .ok (.getfield 162, 3) := by decide +kernel
theorem dX12_note_70 : decode cX12_note 70 = .ok (.imul, 1) := by decide +kernel
theorem dX12_note_71 : decode cX12_note 71 = .ok (.iload 4, 2) := by decide +kernel
theorem dX12_note_73 : decode cX12_note 73 = .ok (.iadd, 1) := by decide +kernel
theorem dX12_note_74 : decode cX12_note 74 = .ok (.iload 4, 2) := by decide +kernel
theorem dX12_note_76 : decode cX12_note 76 = .ok (.aload_n 0, 1) := by decide +kernel
theorem dX12_note_77 : decode cX12_note 77 = .ok (.getfield 156, 3) := by decide +kernel
theorem dX12_note_80 : decode cX12_note 80 = .ok (.if_icmp .ge 13, 3) := by decide +kernel
theorem dX12_note_83 : decode cX12_note 83 = .ok (.aload_n 0, 1) := by decide +kernel
theorem dX12_note_84 : decode cX12_note 84 = .ok (.iload_n 1, 1) := by decide +kernel
theorem dX12_note_85 : decode cX12_note 85 = .ok (.iload 4, 2) := by decide +kernel
theorem dX12_note_87 : decode cX12_note 87 = .ok (.invokevirtual 109, 3) := by decide +kernel
theorem dX12_note_90 : decode cX12_note 90 = .ok (.goto 4, 3) := by decide +kernel
theorem dX12_note_93 : decode cX12_note 93 = .ok (.iconst 0, 1) := by decide +kernel
theorem dX12_note_94 : decode cX12_note 94 = .ok (.iastore, 1) := by decide +kernel
theorem dX12_note_95 : decode cX12_note 95 = .ok (.iinc 4 1, 3) := by decide +kernel
theorem dX12_note_98 : decode cX12_note 98 = .ok (.goto (-45), 3) := by decide +kernel
theorem dX12_note_101 : decode cX12_note 101 = .ok (.aload_n 0, 1) := by decide +kernel
theorem dX12_note_102 : decode cX12_note 102 = .ok (.getfield 65, 3) := by decide +kernel
theorem dX12_note_105 : decode cX12_note 105 = .ok (.bipush 7, 2) := by decide +kernel
theorem dX12_note_107 : decode cX12_note 107 = .ok (.aload_n 0, 1) := by decide +kernel
theorem dX12_note_108 : decode cX12_note 108 = .ok (.getfield 162, 3) := by decide +kernel
theorem dX12_note_111 : decode cX12_note 111 = .ok (.imul, 1) := by decide +kernel
theorem dX12_note_112 : decode cX12_note 112 = .ok (.bipush 6, 2) := by decide +kernel
theorem dX12_note_114 : decode cX12_note 114 = .ok (.iadd, 1) := by decide +kernel
theorem dX12_note_115 : decode cX12_note 115 = .ok (.iload_n 2, 1) := by decide +kernel
theorem dX12_note_116 : decode cX12_note 116 = .ok (.iastore, 1) := by decide +kernel
theorem dX12_note_117 : decode cX12_note 117 = .ok (.aload_n 0, 1) := by decide +kernel
theorem dX12_note_118 : decode cX12_note 118 = .ok (.dup, 1) := by decide +kernel
theorem dX12_note_119 : decode cX12_note 119 = .ok (.getfield 162, 3) := by decide +kernel
theorem dX12_note_122 : decode cX12_note 122 = .ok (.iconst 1, 1) := by decide +kernel
theorem dX12_note_123 : decode cX12_note 123 = .ok (.iadd, 1) := by decide +kernel
theorem dX12_note_124 : decode cX12_note 124 = .ok (.putfield 162, 3) := by decide +kernel
theorem dX12_note_127 : decode cX12_note 127 = .ok (.aload_n 0, 1) := by decide +kernel
theorem dX12_note_128 : decode cX12_note 128 = .ok (.getfield 162, 3) := by decide +kernel
theorem dX12_note_131 : decode cX12_note 131 = .ok (.iconst 1, 1) := by decide +kernel
theorem dX12_note_132 : decode cX12_note 132 = .ok (.isub, 1) := by decide +kernel
theorem dX12_note_133 : decode cX12_note 133 = .ok (.ireturn, 1) := by decide +kernel
theorem dX12_back_0 : decode cX12_back 0 = .ok (.iload_n 1, 1) := by decide +kernel
theorem dX12_back_1 : decode cX12_back 1 = .ok (.iconst 0, 1) := by decide +kernel
theorem dX12_back_2 : decode cX12_back 2 = .ok (.aload_n 0, 1) := by decide +kernel
theorem dX12_back_3 : decode cX12_back 3 = .ok (.getfield 162, 3) := by decide +kernel
theorem dX12_back_6 : decode cX12_back 6 = .ok (.invokestatic 87, 3) := by decide +kernel
theorem dX12_back_9 : decode cX12_back 9 = .ok (.ifCond .ne 5, 3) := by decide +kernel
theorem dX12_back_12 : decode cX12_back 12 = .ok (.iconst (-1), 1) := by decide +kernel
theorem dX12_back_13 : decode cX12_back 13 = .ok (.ireturn, 1) := by decide +kernel
theorem dX12_back_14 : decode cX12_back 14 = .ok (.aload_n 0, 1) := by decide +kernel
theorem dX12_back_15 : decode cX12_back 15 = .ok (.getfield 162, 3) := by decide +kernel
theorem dX12_back_18 : decode cX12_back 18 = .ok (.iload_n 1, 1) := by decide +kernel
theorem dX12_back_19 : decode cX12_back 19 = .ok (.isub, 1) := by decide +kernel
theorem dX12_back_20 : decode cX12_back 20 = .ok (.istore_n 2, 1) := by decide +kernel
theorem dX12_back_21 : decode cX12_back 21 = .ok (.aload_n 0, 1) := by decide +kernel
theorem dX12_back_22 : decode cX12_back 22 = .ok (.iload_n 1, 1) := by decide +kernel
theorem dX12_back_23 : decode cX12_back 23 = .ok (.putfield 162, 3) := by decide +kernel
theorem dX12_back_26 : decode cX12_back 26 = .ok (.iload_n 2, 1) := by decide +kernel
theorem dX12_back_27 : decode cX12_back 27 = .ok (.ireturn, 1) := by decide +kernel
theorem dX12_fits_0 : decode cX12_fits 0 = .ok (.iconst 0, 1) := by decide +kernel
theorem dX12_fits_1 : decode cX12_fits 1 = .ok (.istore_n 2, 1) := by decide +kernel
theorem dX12_fits_2 : decode cX12_fits 2 = .ok (.iload_n 2, 1) := by decide +kernel
theorem dX12_fits_3 : decode cX12_fits 3 = .ok (.aload_n 0, 1) := by decide +kernel
theorem dX12_fits_4 : decode cX12_fits 4 = .ok (.getfield 162, 3) := by decide +kernel
theorem dX12_fits_7 : decode cX12_fits 7 = .ok (.if_icmp .ge 73, 3) := by decide +kernel
theorem dX12_fits_10 : decode cX12_fits 10 = .ok (.aload_n 0, 1) := by decide +kernel
theorem dX12_fits_11 : decode cX12_fits 11 = .ok (.iload_n 1, 1) := by decide +kernel
theorem dX12_fits_12 : decode cX12_fits 12 = .ok (.iload_n 2, 1) := by decide +kernel
theorem dX12_fits_13 : decode cX12_fits 13 = .ok (.invokevirtual 318, 3) := by decide +kernel
theorem dX12_fits_16 : decode cX12_fits 16 = .ok (.iconst 0, 1) := by decide +kernel
theorem dX12_fits_17 : decode cX12_fits 17 = .ok (.istore_n 3, 1) := by decide +kernel
theorem dX12_fits_18 : decode cX12_fits 18 = .ok (.iload_n 3, 1) := by decide +kernel
theorem dX12_fits_19 : decode cX12_fits 19 = .ok (.aload_n 0, 1) := by decide +kernel
theorem dX12_fits_20 : decode cX12_fits 20 = .ok (.getfield 156, 3) := by decide +kernel
theorem dX12_fits_23 : decode cX12_fits 23 = .ok (.if_icmp .ge 26, 3) := by decide +kernel
theorem dX12_fits_26 : decode cX12_fits 26 = .ok (.aload_n 0, 1) := by decide +kernel
theorem dX12_fits_27 : decode cX12_fits 27 = .ok (.getfield 41, 3) := by decide +kernel
theorem dX12_fits_30 : decode cX12_fits 30 = .ok (.iload_n 3, 1) := by decide +kernel
theorem dX12_fits_31 : decode cX12_fits 31 = .ok (.aload_n 0, 1) := by decide +kernel
theorem dX12_fits_32 : decode cX12_fits 32 = .ok (.getfield 65, 3) := by decide +kernel
theorem dX12_fits_35 : decode cX12_fits 35 = .ok (.bipush 7, 2) := by decide +kernel
theorem dX12_fits_37 : decode cX12_fits 37 = .ok (.iload_n 2, 1) := by decide +kernel
theorem dX12_fits_38 : decode cX12_fits 38 = .ok (.imul, 1) := by decide +kernel
theorem dX12_fits_39 : decode cX12_fits 39 = .ok (.iload_n 3, 1) := by decide +kernel
theorem dX12_fits_40 : decode cX12_fits 40 = .ok (.iadd, 1) := by decide +kernel
theorem dX12_fits_41 : decode cX12_fits 41 = .ok (.iaload, 1) := by decide +kernel
theorem dX12_fits_42 : decode cX12_fits 42 = .ok (.iastore, 1) := by decide +kernel
theorem dX12_fits_43 : decode cX12_fits 43 = .ok (.iinc 3 1, 3) := by decide +kernel
theorem dX12_fits_46 : decode cX12_fits 46 = .ok (.goto (-28), 3) := by decide +kernel
theorem dX12_fits_49 : decode cX12_fits 49 = .ok (.aload_n 0, 1) := by decide +kernel
theorem dX12_fits_50 : decode cX12_fits 50 = .ok (.invokevirtual 202, 3) := by decide +kernel
theorem dX12_fits_53 : decode cX12_fits 53 = .ok (.aload_n 0, 1) := by decide +kernel
theorem dX12_fits_54 : decode cX12_fits 54 = .ok (.invokevirtual 321, 3) := by decide +kernel
theorem dX12_fits_57 : decode cX12_fits 57 = .ok (.aload_n 0, 1) := by decide +kernel
theorem dX12_fits_58 : decode cX12_fits 58 = .ok (.getfield 65, 3) := by decide +kernel
theorem dX12_fits_61 : decode cX12_fits 61 = .ok (.bipush 7, 2) := by decide +kernel
theorem dX12_fits_63 : decode cX12_fits 63 = .ok (.iload_n 2, 1) := by decide +kernel
theorem dX12_fits_64 : decode cX12_fits 64 = .ok (.imul, 1) := by decide +kernel
theorem dX12_fits_65 : decode cX12_fits 65 = .ok (.bipush 6, 2) := by decide +kernel
theorem dX12_fits_67 : decode cX12_fits 67 = .ok (.iadd, 1) := by decide +kernel
theorem dX12_fits_68 : decode cX12_fits 68 = .ok (.iaload, 1) := by decide +kernel
theorem dX12_fits_69 : decode cX12_fits 69 = .ok (.if_icmp .eq 5, 3) := by decide +kernel
theorem dX12_fits_72 : decode cX12_fits 72 = .ok (.iconst 0, 1) := by decide +kernel
theorem dX12_fits_73 : decode cX12_fits 73 = .ok (.ireturn, 1) := by decide +kernel
theorem dX12_fits_74 : decode cX12_fits 74 = .ok (.iinc 2 1, 3) := by decide +kernel
theorem dX12_fits_77 : decode cX12_fits 77 = .ok (.goto (-75), 3) := by decide +kernel
theorem dX12_fits_80 : decode cX12_fits 80 = .ok (.iconst 1, 1) := by decide +kernel
theorem dX12_fits_81 : decode cX12_fits 81 = .ok (.ireturn, 1) := by decide +kernel
theorem dX12_fitting_0 : decode cX12_fitting 0 = .ok (.iconst 0, 1) := by decide +kernel
theorem dX12_fitting_1 : decode cX12_fitting 1 = .ok (.istore_n 1, 1) := by decide +kernel
theorem dX12_fitting_2 : decode cX12_fitting 2 = .ok (.iconst 0, 1) := by decide +kernel
theorem dX12_fitting_3 : decode cX12_fitting 3 = .ok (.istore_n 2, 1) := by decide +kernel
theorem dX12_fitting_4 : decode cX12_fitting 4 = .ok (.iload_n 2, 1) := by decide +kernel
theorem dX12_fitting_5 : decode cX12_fitting 5 = .ok (.bipush 6, 2) := by decide +kernel
theorem dX12_fitting_7 : decode cX12_fitting 7 = .ok (.if_icmp .ge 27, 3) := by decide +kernel
theorem dX12_fitting_10 : decode cX12_fitting 10 = .ok (.iload_n 1, 1) := by decide +kernel
theorem dX12_fitting_11 : decode cX12_fitting 11 = .ok (.aload_n 0, 1) := by decide +kernel
theorem dX12_fitting_12 : decode cX12_fitting 12 = .ok (.iload_n 2, 1) := by decide +kernel
theorem dX12_fitting_13 : decode cX12_fitting 13 = .ok (.invokevirtual 324, 3) := by decide +kernel
theorem dX12_fitting_16 : decode cX12_fitting 16 = .ok (.ifCond .eq 9, 3) := by decide +kernel
theorem dX12_fitting_19 : decode cX12_fitting 19 = .ok (.iconst 1, 1) := by decide +kernel
theorem dX12_fitting_20 : decode cX12_fitting 20 = .ok (.iload_n 2, 1) := by decide +kernel
theorem dX12_fitting_21 : decode cX12_fitting 21 = .ok (.ishl, 1) := by decide +kernel
theorem dX12_fitting_22 : decode cX12_fitting 22 = .ok (.goto 4, 3) := by decide +kernel
theorem dX12_fitting_25 : decode cX12_fitting 25 = .ok (.iconst 0, 1) := by decide +kernel
theorem dX12_fitting_26 : decode cX12_fitting 26 = .ok (.ior, 1) := by decide +kernel
theorem dX12_fitting_27 : decode cX12_fitting 27 = .ok (.istore_n 1, 1) := by decide +kernel
theorem dX12_fitting_28 : decode cX12_fitting 28 = .ok (.iinc 2 1, 3) := by decide +kernel
theorem dX12_fitting_31 : decode cX12_fitting 31 = .ok (.goto (-27), 3) := by decide +kernel
theorem dX12_fitting_34 : decode cX12_fitting 34 = .ok (.iload_n 1, 1) := by decide +kernel
theorem dX12_fitting_35 : decode cX12_fitting 35 = .ok (.ireturn, 1) := by decide +kernel
theorem dX12_setRuled_0 : decode cX12_setRuled 0 = .ok (.iconst 0, 1) := by decide +kernel
theorem dX12_setRuled_1 : decode cX12_setRuled 1 = .ok (.istore_n 1, 1) := by decide +kernel
theorem dX12_setRuled_2 : decode cX12_setRuled 2 = .ok (.iload_n 1, 1) := by decide +kernel
theorem dX12_setRuled_3 : decode cX12_setRuled 3 = .ok (.bipush 6, 2) := by decide +kernel
theorem dX12_setRuled_5 : decode cX12_setRuled 5 = .ok (.if_icmp .ge 51, 3) := by decide +kernel
theorem dX12_setRuled_8 : decode cX12_setRuled 8 = .ok (.aload_n 0, 1) := by decide +kernel
theorem dX12_setRuled_9 : decode cX12_setRuled 9 = .ok (.iload_n 1, 1) := by decide +kernel
theorem dX12_setRuled_10 : decode cX12_setRuled 10 = .ok (.aload_n 0, 1) := by decide +kernel
theorem dX12_setRuled_11 : decode cX12_setRuled 11 = .ok (.getfield 162, 3) := by decide +kernel
theorem dX12_setRuled_14 : decode cX12_setRuled 14 = .ok (.invokevirtual 318, 3) := by decide +kernel
theorem dX12_setRuled_17 : decode cX12_setRuled 17 = .ok (.iconst 0, 1) := by decide +kernel
theorem dX12_setRuled_18 : decode cX12_setRuled 18 = .ok (.istore_n 2, 1) := by decide +kernel
theorem dX12_setRuled_19 : decode cX12_setRuled 19 = .ok (.iload_n 2, 1) := by decide +kernel
theorem dX12_setRuled_20 : decode cX12_setRuled 20 = .ok (.aload_n 0, 1) := by decide +kernel
theorem dX12_setRuled_21 : decode cX12_setRuled 21 = .ok (.getfield 156, 3) := by decide +kernel
theorem dX12_setRuled_24 : decode cX12_setRuled 24 = .ok (.if_icmp .ge 26, 3) := by decide +kernel
theorem dX12_setRuled_27 : decode cX12_setRuled 27 = .ok (.aload_n 0, 1) := by decide +kernel
theorem dX12_setRuled_28 : decode cX12_setRuled 28 = .ok (.getfield 68, 3) := by decide +kernel
theorem dX12_setRuled_31 : decode cX12_setRuled 31 = .ok (.bipush 6, 2) := by decide +kernel
theorem dX12_setRuled_33 : decode cX12_setRuled 33 = .ok (.iload_n 1, 1) := by decide +kernel
theorem dX12_setRuled_34 : decode cX12_setRuled 34 = .ok (.imul, 1) := by decide +kernel
theorem dX12_setRuled_35 : decode cX12_setRuled 35 = .ok (.iload_n 2, 1) := by decide +kernel
theorem dX12_setRuled_36 : decode cX12_setRuled 36 = .ok (.iadd, 1) := by decide +kernel
theorem dX12_setRuled_37 : decode cX12_setRuled 37 = .ok (.aload_n 0, 1) := by decide +kernel
theorem dX12_setRuled_38 : decode cX12_setRuled 38 = .ok (.getfield 44, 3) := by decide +kernel
theorem dX12_setRuled_41 : decode cX12_setRuled 41 = .ok (.iload_n 2, 1) := by decide +kernel
theorem dX12_setRuled_42 : decode cX12_setRuled 42 = .ok (.iaload, 1) := by decide +kernel
theorem dX12_setRuled_43 : decode cX12_setRuled 43 = .ok (.iastore, 1) := by decide +kernel
theorem dX12_setRuled_44 : decode cX12_setRuled 44 = .ok (.iinc 2 1, 3) := by decide +kernel
theorem dX12_setRuled_47 : decode cX12_setRuled 47 = .ok (.goto (-28), 3) := by decide +kernel
theorem dX12_setRuled_50 : decode cX12_setRuled 50 = .ok (.iinc 1 1, 3) := by decide +kernel
theorem dX12_setRuled_53 : decode cX12_setRuled 53 = .ok (.goto (-51), 3) := by decide +kernel
theorem dX12_setRuled_56 : decode cX12_setRuled 56 = .ok (.return_, 1) := by decide +kernel
theorem q_1052 : Cond.fieldLink RX12 65 "HeavyFilesModel" "notes" "[I" ∈ wT := wi_t 1052 (by decide +kernel) (by decide +kernel)
theorem q_1483 : Cond.methodLink RX12 318 yX12_layRule ∈ wT := wi_t 1483 (by decide +kernel) (by decide +kernel)
theorem q_1486 : Cond.code yX12_layRule cX12_layRule 9 none ∈ wT := wi_t 1486 (by decide +kernel) (by decide +kernel)
theorem q_1485 : Cond.instanceMethod yX12_layRule ∈ wT := wi_t 1485 (by decide +kernel) (by decide +kernel)
theorem qs_81 : Cond.selects RX12 yX12_layRule yX12_layRule ∈ wT := wi_s (q := (yX12_layRule, 42)) 81 (by decide +kernel) (by decide +kernel)
theorem q_1507 : Cond.methodLink RX12 321 yX12_wonSet ∈ wT := wi_t 1507 (by decide +kernel) (by decide +kernel)
theorem q_1510 : Cond.code yX12_wonSet cX12_wonSet 3 (some .int) ∈ wT := wi_t 1510 (by decide +kernel) (by decide +kernel)
theorem q_1509 : Cond.instanceMethod yX12_wonSet ∈ wT := wi_t 1509 (by decide +kernel) (by decide +kernel)
theorem qs_84 : Cond.selects RX12 yX12_wonSet yX12_wonSet ∈ wT := wi_s (q := (yX12_wonSet, 42)) 84 (by decide +kernel) (by decide +kernel)
theorem q_1503 : Cond.methodLink RX12 324 yX12_fits ∈ wT := wi_t 1503 (by decide +kernel) (by decide +kernel)
theorem q_1506 : Cond.code yX12_fits cX12_fits 4 (some .boolean) ∈ wT := wi_t 1506 (by decide +kernel) (by decide +kernel)
theorem q_1505 : Cond.instanceMethod yX12_fits ∈ wT := wi_t 1505 (by decide +kernel) (by decide +kernel)
theorem qs_83 : Cond.selects RX12 yX12_fits yX12_fits ∈ wT := wi_s (q := (yX12_fits, 42)) 83 (by decide +kernel) (by decide +kernel)
theorem q_1054 : Cond.fieldLink RX12 68 "HeavyFilesModel" "ruled" "[I" ∈ wT := wi_t 1054 (by decide +kernel) (by decide +kernel)
theorem kvX12_layRule : KV yX12_layRule RX12 cX12_layRule 9 none 2 := ⟨q_1485, qs_81, q_13, q_1486, rfl, by decide +kernel, by decide +kernel, by decide +kernel⟩
theorem kvX12_wonSet : KV yX12_wonSet RX12 cX12_wonSet 3 (some .int) 0 := ⟨q_1509, qs_84, q_13, q_1510, rfl, by decide +kernel, by decide +kernel, by decide +kernel⟩
theorem kvX12_fits : KV yX12_fits RX12 cX12_fits 4 (some .boolean) 1 := ⟨q_1505, qs_83, q_13, q_1506, rfl, by decide +kernel, by decide +kernel, by decide +kernel⟩
/-! HeavyFilesModel.layRule(II)V -/
def fX12_layRule_324 (N : Nat)  (s0 : Nat) (s1 : Int32) (s2 : Int32) (s3 : Int32) (mm : Mm) : Option (Unit × Mm) :=
  gd (inb s1 (ln s0)) <| nm (wr mm s0 s1.toNatClampNeg (s2 + s3)) fun m2 => some ((), m2)
def fX12_layRule_288 (N : Nat) (k75 : Nat → Int32 → Int32 → Int32 → Int32 → Int32 → Int32 → Int32 → Mm → Option (Unit × Mm)) (a0 : Nat) (a1 : Int32) (a2 : Int32) (a3 : Int32) (a4 : Int32) (a5 : Int32) (a6 : Int32) (a7 : Int32) (mm : Mm) : Option (Unit × Mm) :=
  gd (inb a7 (ln (fr a0 20))) <| nm (a6 - (rd mm (fr a0 20) a7.toNatClampNeg)) fun x4 => k75 a0 a1 a2 a3 a4 a5 x4 (a7 + 1) mm
def fX12_layRule_287 (N : Nat) (k75 : Nat → Int32 → Int32 → Int32 → Int32 → Int32 → Int32 → Int32 → Mm → Option (Unit × Mm)) (a0 : Nat) (a1 : Int32) (a2 : Int32) (a3 : Int32) (a4 : Int32) (a5 : Int32) (a6 : Int32) (a7 : Int32) (s0 : Nat) (s1 : Int32) (s2 : Int32) (mm : Mm) : Option (Unit × Mm) :=
  gd (inb s1 (ln s0)) <| nm (wr mm s0 s1.toNatClampNeg s2) fun m6 => fX12_layRule_288 N k75 a0 a1 a2 a3 a4 a5 a6 a7 m6
def fX12_layRule_263 (N : Nat) (k75 : Nat → Int32 → Int32 → Int32 → Int32 → Int32 → Int32 → Int32 → Mm → Option (Unit × Mm)) (a0 : Nat) (a1 : Int32) (a2 : Int32) (a3 : Int32) (a4 : Int32) (a5 : Int32) (a6 : Int32) (a7 : Int32) (s0 : Nat) (s1 : Int32) (s2 : Int32) (mm : Mm) : Option (Unit × Mm) :=
  gd (inb s1 (ln s0)) <| nm (wr mm s0 s1.toNatClampNeg s2) fun m8 => fX12_layRule_288 N k75 a0 a1 a2 a3 a4 a5 a6 a7 m8
def fX12_layRule_241 (N : Nat) (k75 : Nat → Int32 → Int32 → Int32 → Int32 → Int32 → Int32 → Int32 → Mm → Option (Unit × Mm)) (a0 : Nat) (a1 : Int32) (a2 : Int32) (a3 : Int32) (a4 : Int32) (a5 : Int32) (a6 : Int32) (a7 : Int32) (s0 : Nat) (s1 : Int32) (s2 : Int32) (mm : Mm) : Option (Unit × Mm) :=
  gd (inb s1 (ln s0)) <| nm (wr mm s0 s1.toNatClampNeg s2) fun m10 => fX12_layRule_288 N k75 a0 a1 a2 a3 a4 a5 a6 a7 m10
def fX12_layRule_215 (N : Nat) (k75 : Nat → Int32 → Int32 → Int32 → Int32 → Int32 → Int32 → Int32 → Mm → Option (Unit × Mm)) (a0 : Nat) (a1 : Int32) (a2 : Int32) (a3 : Int32) (a4 : Int32) (a5 : Int32) (a6 : Int32) (a7 : Int32) (s0 : Nat) (s1 : Int32) (s2 : Int32) (mm : Mm) : Option (Unit × Mm) :=
  gd (inb s1 (ln s0)) <| nm (wr mm s0 s1.toNatClampNeg s2) fun m12 => fX12_layRule_288 N k75 a0 a1 a2 a3 a4 a5 a6 a7 m12
def fX12_layRule_172 (N : Nat) (k75 : Nat → Int32 → Int32 → Int32 → Int32 → Int32 → Int32 → Int32 → Mm → Option (Unit × Mm)) (a0 : Nat) (a1 : Int32) (a2 : Int32) (a3 : Int32) (a4 : Int32) (a5 : Int32) (a6 : Int32) (a7 : Int32) (s0 : Nat) (s1 : Int32) (s2 : Int32) (s3 : Int32) (mm : Mm) : Option (Unit × Mm) :=
  gd (inb s1 (ln s0)) <| nm (wr mm s0 s1.toNatClampNeg (s2 + s3)) fun m14 => fX12_layRule_288 N k75 a0 a1 a2 a3 a4 a5 a6 a7 m14
def fX12_layRule_107 (N : Nat) (k75 : Nat → Int32 → Int32 → Int32 → Int32 → Int32 → Int32 → Int32 → Mm → Option (Unit × Mm)) (a0 : Nat) (a1 : Int32) (a2 : Int32) (a3 : Int32) (a4 : Int32) (a5 : Int32) (a6 : Int32) (a7 : Int32) (s0 : Int32) (mm : Mm) : Option (Unit × Mm) :=
  if a1 = 0 then (gd (nz (rd mm a0 10)) <| gd (nz (rd mm a0 10)) <| if (a3 - a3 / (rd mm a0 10) * (rd mm a0 10)) ≤ a7 then (fX12_layRule_172 N k75 a0 a1 a2 a3 a4 a5 a6 a7 (fr a0 20) a7 (a3 / (rd mm a0 10)) 0 mm) else (fX12_layRule_172 N k75 a0 a1 a2 a3 a4 a5 a6 a7 (fr a0 20) a7 (a3 / (rd mm a0 10)) 1 mm)) else if a1 = 1 then (bd2 (fX12_of N a0 a7 1 mm) fun x20 m21 => gd (nz a4) <| gd (inb a7 (ln (fr a0 20))) <| nm (wr m21 (fr a0 20) a7.toNatClampNeg ((a3 * x20) / a4)) fun m25 => fX12_layRule_288 N k75 a0 a1 a2 a3 a4 a5 a6 a7 m25) else if a1 = 2 then (if a7 = 0 then (fX12_layRule_215 N k75 a0 a1 a2 a3 a4 a5 a6 a7 (fr a0 20) a7 a3 mm) else (fX12_layRule_215 N k75 a0 a1 a2 a3 a4 a5 a6 a7 (fr a0 20) a7 0 mm)) else if a1 = 3 then (if a7 = ((rd mm a0 10) - 1) then (fX12_layRule_241 N k75 a0 a1 a2 a3 a4 a5 a6 a7 (fr a0 20) a7 a3 mm) else (fX12_layRule_241 N k75 a0 a1 a2 a3 a4 a5 a6 a7 (fr a0 20) a7 0 mm)) else if a1 = 4 then (if a7 = a5 then (fX12_layRule_263 N k75 a0 a1 a2 a3 a4 a5 a6 a7 (fr a0 20) a7 a3 mm) else (fX12_layRule_263 N k75 a0 a1 a2 a3 a4 a5 a6 a7 (fr a0 20) a7 0 mm)) else (if a6 ≤ s0 then (fX12_layRule_287 N k75 a0 a1 a2 a3 a4 a5 a6 a7 (fr a0 20) a7 a6 mm) else (fX12_layRule_287 N k75 a0 a1 a2 a3 a4 a5 a6 a7 (fr a0 20) a7 s0 mm))
def fX12_layRule_75 (N : Nat)  : Nat → Nat → Int32 → Int32 → Int32 → Int32 → Int32 → Int32 → Int32 → Mm → Option (Unit × Mm)
  | 0 => fun _ _ _ _ _ _ _ _ _ => none
  | n + 1 => fun a0 a1 a2 a3 a4 a5 a6 a7 mm =>
    let k75 := fX12_layRule_75 N  n
    if (rd mm a0 10) ≤ a7 then (gd (inb 0 (ln (fr a0 20))) <| if a1 = 1 then (fX12_layRule_324 N (fr a0 20) 0 (rd mm (fr a0 20) ((0 : Int32).toNatClampNeg)) a6 mm) else (fX12_layRule_324 N (fr a0 20) 0 (rd mm (fr a0 20) ((0 : Int32).toNatClampNeg)) 0 mm)) else (if a2 = 0 then (fX12_layRule_107 N k75 a0 a1 a2 a3 a4 a5 a6 a7 0 mm) else (gd (inb (((7 * a2) - 7) + a7) (ln (fr a0 36))) <| fX12_layRule_107 N k75 a0 a1 a2 a3 a4 a5 a6 a7 (rd mm (fr a0 36) ((((7 * a2) - 7) + a7).toNatClampNeg)) mm))
def fX12_layRule_61 (N : Nat) (k16 : Nat → Int32 → Int32 → Int32 → Int32 → Int32 → Int32 → Mm → Option (Unit × Mm)) (a0 : Nat) (a1 : Int32) (a2 : Int32) (a3 : Int32) (a4 : Int32) (a6 : Int32) (s0 : Int32) (mm : Mm) : Option (Unit × Mm) :=
  k16 a0 a1 a2 a3 a4 s0 (a6 + 1) mm
def fX12_layRule_16 (N : Nat)  : Nat → Nat → Int32 → Int32 → Int32 → Int32 → Int32 → Int32 → Mm → Option (Unit × Mm)
  | 0 => fun _ _ _ _ _ _ _ _ => none
  | n + 1 => fun a0 a1 a2 a3 a4 a5 a6 mm =>
    let k16 := fX12_layRule_16 N  n
    if (rd mm a0 10) ≤ a6 then (fX12_layRule_75 N N a0 a1 a2 a3 a4 a5 a3 0 mm) else (bd2 (fX12_of N a0 a6 1 mm) fun x39 m40 => bd2 (fX12_of N a0 a6 1 m40) fun x42 m43 => bd2 (fX12_of N a0 a5 1 m43) fun x45 m46 => if x42 ≤ x45 then (fX12_layRule_61 N k16 a0 a1 a2 a3 (a4 + x39) a6 a5 m46) else (fX12_layRule_61 N k16 a0 a1 a2 a3 (a4 + x39) a6 a6 m46))
def fX12_layRule (N : Nat)  (a0 : Nat) (a1 : Int32) (a2 : Int32) (mm : Mm) : Option (Unit × Mm) :=
  gd (inb 1 (ln (fr a0 12))) <| nm (rd mm (fr a0 12) ((1 : Int32).toNatClampNeg)) fun x50 => fX12_layRule_16 N N a0 a1 a2 x50 0 0 0 mm
abbrev rmX12_layRule : Room := { frames := 2, cells := 0, slots := 0, locals := 70 }
/-! HeavyFilesModel.rule(II)I -/
def fX12_rule_55 (N : Nat)  : Nat → Nat → Int32 → Int32 → Int32 → Mm → Option (Int32 × Mm)
  | 0 => fun _ _ _ _ _ => none
  | n + 1 => fun a0 a2 a3 a4 mm =>
    let k55 := fX12_rule_55 N  n
    if (rd mm a0 10) ≤ a4 then (some (a3, mm)) else (gd (inb a4 (ln (fr a0 20))) <| bd2 (fX12_setRow N a0 a2 a4 (rd mm (fr a0 20) a4.toNatClampNeg) mm) fun x3 m4 => gd (inb a4 (ln (fr a0 20))) <| nm (a3 + (rd m4 (fr a0 20) a4.toNatClampNeg)) fun x7 => k55 a0 a2 x7 (a4 + 1) m4)
def fX12_rule (N : Nat)  (a0 : Nat) (a1 : Int32) (a2 : Int32) (mm : Mm) : Option (Int32 × Mm) :=
  bd2 (fX12_in N a1 0 5 mm) fun x8 m9 => if x8 = 0 then (some ((-1), m9)) else (bd2 (fX12_isRow N a2 m9) fun x12 m13 => if x12 = 0 then (some ((-1), m13)) else (if (rd m13 a0 10) = 0 then (bd2 (fX12_meet N a0 4 m13) fun x23 m24 => some (x23, m24)) else (bd2 (fX12_layRule N a0 a1 (rd m13 a0 37) m13) fun x17 m18 => bd2 (fX12_row N a0 a2 (rd m18 a0 10) m18) fun x20 m21 => fX12_rule_55 N N a0 a2 0 0 m21)))
abbrev rmX12_rule : Room := { frames := 4, cells := 0, slots := 0, locals := 129 }
/-! HeavyFilesModel.note(II)I -/
def fX12_note_94 (N : Nat) (k53 : Nat → Int32 → Int32 → Int32 → Mm → Option (Int32 × Mm)) (a0 : Nat) (a1 : Int32) (a2 : Int32) (a4 : Int32) (s0 : Nat) (s1 : Int32) (s2 : Int32) (mm : Mm) : Option (Int32 × Mm) :=
  gd (inb s1 (ln s0)) <| nm (wr mm s0 s1.toNatClampNeg s2) fun m2 => k53 a0 a1 a2 (a4 + 1) m2
def fX12_note_53 (N : Nat)  : Nat → Nat → Int32 → Int32 → Int32 → Mm → Option (Int32 × Mm)
  | 0 => fun _ _ _ _ _ => none
  | n + 1 => fun a0 a1 a2 a4 mm =>
    let k53 := fX12_note_53 N  n
    if (6 : Int32) ≤ a4 then (gd (inb ((7 * (rd mm a0 37)) + 6) (ln (fr a0 36))) <| nm (wr mm (fr a0 36) ((7 * (rd mm a0 37)) + 6).toNatClampNeg a2) fun m5 => nm (wr m5 a0 37 ((rd m5 a0 37) + 1)) fun m6 => some ((rd m6 a0 37) - 1, m6)) else (if (rd mm a0 10) ≤ a4 then (fX12_note_94 N k53 a0 a1 a2 a4 (fr a0 36) ((7 * (rd mm a0 37)) + a4) 0 mm) else (bd2 (fX12_rowAt N a0 a1 a4 mm) fun x8 m9 => fX12_note_94 N k53 a0 a1 a2 a4 (fr a0 36) ((7 * (rd mm a0 37)) + a4) x8 m9))
def fX12_note (N : Nat)  (a0 : Nat) (a1 : Int32) (a2 : Int32) (mm : Mm) : Option (Int32 × Mm) :=
  bd2 (fX12_isRow N a1 mm) fun x11 m12 => if x11 = 0 then (some ((-1), m12)) else (bd2 (fX12_in N a2 0 (((1 : Int32) <<< ((rd m12 a0 10) &&& 31)) - 1) m12) fun x15 m16 => if x15 = 0 then (some ((-1), m16)) else (bd2 (fX12_askedLaying N a0 a1 0 m16) fun x19 m20 => if (0 : Int32) ≤ x19 then (if (rd m20 a0 37) = 8 then (some ((-2), m20)) else (fX12_note_53 N N a0 a1 a2 0 m20)) else (some (x19, m20))))
abbrev rmX12_note : Room := { frames := 4, cells := 0, slots := 0, locals := 133 }
/-! HeavyFilesModel.back(I)I -/
def fX12_back (N : Nat)  (a0 : Nat) (a1 : Int32) (mm : Mm) : Option (Int32 × Mm) :=
  bd2 (fX12_in N a1 0 (rd mm a0 37) mm) fun x1 m2 => if x1 = 0 then (some ((-1), m2)) else (nm (wr m2 a0 37 a1) fun m5 => some ((rd m2 a0 37) - a1, m5))
abbrev rmX12_back : Room := { frames := 2, cells := 0, slots := 0, locals := 70 }
/-! HeavyFilesModel.fits(I)Z -/
def fX12_fits_18 (N : Nat) (k2 : Nat → Int32 → Int32 → Mm → Option (Int32 × Mm)) : Nat → Nat → Int32 → Int32 → Int32 → Mm → Option (Int32 × Mm)
  | 0 => fun _ _ _ _ _ => none
  | n + 1 => fun a0 a1 a2 a3 mm =>
    let k18 := fX12_fits_18 N k2 n
    if (rd mm a0 10) ≤ a3 then (bd2 (fX12_setWinners N a0 mm) fun x2 m3 => bd2 (fX12_wonSet N a0 m3) fun x5 m6 => gd (inb ((7 * a2) + 6) (ln (fr a0 36))) <| if x5 = (rd m6 (fr a0 36) (((7 * a2) + 6).toNatClampNeg)) then (k2 a0 a1 (a2 + 1) m6) else (some (0, m6))) else (gd (inb ((7 * a2) + a3) (ln (fr a0 36))) <| gd (inb a3 (ln (fr a0 19))) <| nm (wr mm (fr a0 19) a3.toNatClampNeg (rd mm (fr a0 36) (((7 * a2) + a3).toNatClampNeg))) fun m12 => k18 a0 a1 a2 (a3 + 1) m12)
def fX12_fits_2 (N : Nat)  : Nat → Nat → Int32 → Int32 → Mm → Option (Int32 × Mm)
  | 0 => fun _ _ _ _ => none
  | n + 1 => fun a0 a1 a2 mm =>
    let k2 := fX12_fits_2 N  n
    if (rd mm a0 37) ≤ a2 then (some (1, mm)) else (bd2 (fX12_layRule N a0 a1 a2 mm) fun x14 m15 => fX12_fits_18 N k2 N a0 a1 a2 0 m15)
def fX12_fits (N : Nat)  (a0 : Nat) (a1 : Int32) (mm : Mm) : Option (Int32 × Mm) :=
  fX12_fits_2 N N a0 a1 0 mm
abbrev rmX12_fits : Room := { frames := 5, cells := 0, slots := 0, locals := 165 }
/-! HeavyFilesModel.fitting()I -/
def fX12_fitting_26 (N : Nat) (k4 : Nat → Int32 → Int32 → Mm → Option (Int32 × Mm)) (a0 : Nat) (a2 : Int32) (s0 : Int32) (s1 : Int32) (mm : Mm) : Option (Int32 × Mm) :=
  k4 a0 (s0 ||| s1) (a2 + 1) mm
def fX12_fitting_4 (N : Nat)  : Nat → Nat → Int32 → Int32 → Mm → Option (Int32 × Mm)
  | 0 => fun _ _ _ _ => none
  | n + 1 => fun a0 a1 a2 mm =>
    let k4 := fX12_fitting_4 N  n
    if (6 : Int32) ≤ a2 then (some (a1, mm)) else (bd2 (fX12_fits N a0 a2 mm) fun x2 m3 => if x2 = 0 then (fX12_fitting_26 N k4 a0 a2 a1 0 m3) else (fX12_fitting_26 N k4 a0 a2 a1 ((1 : Int32) <<< (a2 &&& 31)) m3))
def fX12_fitting (N : Nat)  (a0 : Nat) (mm : Mm) : Option (Int32 × Mm) :=
  fX12_fitting_4 N N a0 0 0 mm
abbrev rmX12_fitting : Room := { frames := 6, cells := 0, slots := 0, locals := 196 }
/-! HeavyFilesModel.setRuled()V -/
def fX12_setRuled_19 (N : Nat) (k2 : Nat → Int32 → Mm → Option (Unit × Mm)) : Nat → Nat → Int32 → Int32 → Mm → Option (Unit × Mm)
  | 0 => fun _ _ _ _ => none
  | n + 1 => fun a0 a1 a2 mm =>
    let k19 := fX12_setRuled_19 N k2 n
    if (rd mm a0 10) ≤ a2 then (k2 a0 (a1 + 1) mm) else (gd (inb a2 (ln (fr a0 20))) <| gd (inb ((6 * a1) + a2) (ln (fr a0 38))) <| nm (wr mm (fr a0 38) ((6 * a1) + a2).toNatClampNeg (rd mm (fr a0 20) a2.toNatClampNeg)) fun m4 => k19 a0 a1 (a2 + 1) m4)
def fX12_setRuled_2 (N : Nat)  : Nat → Nat → Int32 → Mm → Option (Unit × Mm)
  | 0 => fun _ _ _ => none
  | n + 1 => fun a0 a1 mm =>
    let k2 := fX12_setRuled_2 N  n
    if (6 : Int32) ≤ a1 then (some ((), mm)) else (bd2 (fX12_layRule N a0 a1 (rd mm a0 37) mm) fun x6 m7 => fX12_setRuled_19 N k2 N a0 a1 0 m7)
def fX12_setRuled (N : Nat)  (a0 : Nat) (mm : Mm) : Option (Unit × Mm) :=
  fX12_setRuled_2 N N a0 0 mm
abbrev rmX12_setRuled : Room := { frames := 3, cells := 0, slots := 0, locals := 106 }
section W_model27
variable {p : Program} {l : Launch} {e : Env} {s : State} {m : MethodId} {args : Array Value} {below : List Frame} {meth : Method} {c : Code} {D : va_G} {ca ad : Nat → Nat}
set_option maxRecDepth 100000 in
set_option maxHeartbeats 4000000 in
theorem wX12_layRule_324 (C : Cx p s m meth c args cX12_layRule 9 none RX12 D ca ad) {res : Unit × Mm} {N : Nat}  {s0 : Nat} {s1 : Int32} {s2 : Int32} {s3 : Int32} {mm : Mm} {H : Heap} {locs : List Loc} {ls : Array Slot} (hs0 : sI s0) (hW : Wd D ca ad s.heap mm H locs) (hl : lv_has ls 9 []) (hf : fX12_layRule_324 N s0 s1 s2 s3 mm = some res) : W p l e (rmX12_layRule) s m args below meth c H locs 0 0 (MQ below (QV D ca ad res) args s 0 0 (AA ad)) (F0 m 324 ls [.int s3, .int s2, .int s1, .ref (ad s0)]) := by
  unfold fX12_layRule_324 at hf
  refine lv_iadd C.1 C.2.1 dX12_layRule_324 ?_
  obtain ⟨g1, hf⟩ := gd_s hf
  refine x_iast C hW hs0 g1 dX12_layRule_325 (fun H locs hW => ?_)
  obtain ⟨m2, em2⟩ : ∃ z, z = wr mm s0 s1.toNatClampNeg (s2 + s3) := ⟨_, rfl⟩
  have hf := nm_s hf em2
  rw [← em2] at hW
  cases hf
  exact x_vret C hW dX12_layRule_326
set_option maxRecDepth 100000 in
set_option maxHeartbeats 4000000 in
theorem wX12_layRule_288 (C : Cx p s m meth c args cX12_layRule 9 none RX12 D ca ad) {res : Unit × Mm} {N : Nat} {k75 : Nat → Int32 → Int32 → Int32 → Int32 → Int32 → Int32 → Int32 → Mm → Option (Unit × Mm)} (hk75 : ∀ (a0 : Nat) (a1 : Int32) (a2 : Int32) (a3 : Int32) (a4 : Int32) (a5 : Int32) (a6 : Int32) (a7 : Int32) (mm : Mm) (H : Heap) (locs : List Loc) (ls : Array Slot), (sX12 a0) → Wd D ca ad s.heap mm H locs → lv_has ls 9 [(0, .ref (ad a0)), (1, .int a1), (2, .int a2), (3, .int a3), (4, .int a4), (5, .int a5), (6, .int a6), (7, .int a7)] → k75 a0 a1 a2 a3 a4 a5 a6 a7 mm = some res → W p l e (rmX12_layRule) s m args below meth c H locs 0 0 (MQ below (QV D ca ad res) args s 0 0 (AA ad)) (F0 m 75 ls [])) {a0 : Nat} {a1 : Int32} {a2 : Int32} {a3 : Int32} {a4 : Int32} {a5 : Int32} {a6 : Int32} {a7 : Int32} {mm : Mm} {H : Heap} {locs : List Loc} {ls : Array Slot} (ha0 : sX12 a0) (hW : Wd D ca ad s.heap mm H locs) (hl : lv_has ls 9 [(0, .ref (ad a0)), (1, .int a1), (2, .int a2), (3, .int a3), (4, .int a4), (5, .int a5), (6, .int a6), (7, .int a7)]) (hf : fX12_layRule_288 N k75 a0 a1 a2 a3 a4 a5 a6 a7 mm = some res) : W p l e (rmX12_layRule) s m args below meth c H locs 0 0 (MQ below (QV D ca ad res) args s 0 0 (AA ad)) (F0 m 288 ls []) := by
  unfold fX12_layRule_288 at hf
  refine lv_iload C.1 C.2.1 dX12_layRule_288 (lv_at hl 6 rfl) ?_
  refine lv_aload_n C.1 C.2.1 dX12_layRule_290 rfl (lv_at hl 0 rfl) ?_
  refine x_getr C hW (ha0).1 (ha0).2.1 (j := 20) rfl kX12 (by decide) rfl q_1036 dX12_layRule_291 ?_
  refine lv_iload C.1 C.2.1 dX12_layRule_294 (lv_at hl 7 rfl) ?_
  obtain ⟨g3, hf⟩ := gd_s hf
  refine x_iald C hW ha0.2.2.2.2.2.2.2.2.2.2.2.2.1 g3 dX12_layRule_296 ?_
  refine lv_isub C.1 C.2.1 dX12_layRule_297 ?_
  refine lv_topi (fun x4 ex4 => ?_)
  have hf := nm_s hf ex4
  refine lv_istore (lv' := [(6, .int x4), (0, .ref (ad a0)), (1, .int a1), (2, .int a2), (3, .int a3), (4, .int a4), (5, .int a5), (7, .int a7)]) C.1 C.2.1 dX12_layRule_298 hl (by decide) rfl (fun ls hl => ?_)
  refine lv_iinc (v := (a7 + 1)) (lv' := [(7, .int (a7 + 1)), (6, .int x4), (0, .ref (ad a0)), (1, .int a1), (2, .int a2), (3, .int a3), (4, .int a4), (5, .int a5)]) C.1 C.2.1 dX12_layRule_300 hl (k := 7) rfl rfl (by decide) rfl (fun ls hl => ?_)
  refine lv_goto (tgt := 75) C.1 C.2.1 dX12_layRule_303 (by decide) ?_
  exact hk75 _ _ _ _ _ _ _ _ _ _ _ _ ha0 hW (lv_sub hl [2, 3, 4, 5, 6, 7, 1, 0] rfl) hf
set_option maxRecDepth 100000 in
set_option maxHeartbeats 4000000 in
theorem wX12_layRule_287 (C : Cx p s m meth c args cX12_layRule 9 none RX12 D ca ad) {res : Unit × Mm} {N : Nat} {k75 : Nat → Int32 → Int32 → Int32 → Int32 → Int32 → Int32 → Int32 → Mm → Option (Unit × Mm)} (hk75 : ∀ (a0 : Nat) (a1 : Int32) (a2 : Int32) (a3 : Int32) (a4 : Int32) (a5 : Int32) (a6 : Int32) (a7 : Int32) (mm : Mm) (H : Heap) (locs : List Loc) (ls : Array Slot), (sX12 a0) → Wd D ca ad s.heap mm H locs → lv_has ls 9 [(0, .ref (ad a0)), (1, .int a1), (2, .int a2), (3, .int a3), (4, .int a4), (5, .int a5), (6, .int a6), (7, .int a7)] → k75 a0 a1 a2 a3 a4 a5 a6 a7 mm = some res → W p l e (rmX12_layRule) s m args below meth c H locs 0 0 (MQ below (QV D ca ad res) args s 0 0 (AA ad)) (F0 m 75 ls [])) {a0 : Nat} {a1 : Int32} {a2 : Int32} {a3 : Int32} {a4 : Int32} {a5 : Int32} {a6 : Int32} {a7 : Int32} {s0 : Nat} {s1 : Int32} {s2 : Int32} {mm : Mm} {H : Heap} {locs : List Loc} {ls : Array Slot} (ha0 : sX12 a0) (hs0 : sI s0) (hW : Wd D ca ad s.heap mm H locs) (hl : lv_has ls 9 [(0, .ref (ad a0)), (1, .int a1), (2, .int a2), (3, .int a3), (4, .int a4), (5, .int a5), (6, .int a6), (7, .int a7)]) (hf : fX12_layRule_287 N k75 a0 a1 a2 a3 a4 a5 a6 a7 s0 s1 s2 mm = some res) : W p l e (rmX12_layRule) s m args below meth c H locs 0 0 (MQ below (QV D ca ad res) args s 0 0 (AA ad)) (F0 m 287 ls [.int s2, .int s1, .ref (ad s0)]) := by
  unfold fX12_layRule_287 at hf
  obtain ⟨g5, hf⟩ := gd_s hf
  refine x_iast C hW hs0 g5 dX12_layRule_287 (fun H locs hW => ?_)
  obtain ⟨m6, em6⟩ : ∃ z, z = wr mm s0 s1.toNatClampNeg s2 := ⟨_, rfl⟩
  have hf := nm_s hf em6
  rw [← em6] at hW
  exact wX12_layRule_288 C hk75 ha0 hW (lv_sub hl [0, 1, 2, 3, 4, 5, 6, 7] rfl) hf
set_option maxRecDepth 100000 in
set_option maxHeartbeats 4000000 in
theorem wX12_layRule_263 (C : Cx p s m meth c args cX12_layRule 9 none RX12 D ca ad) {res : Unit × Mm} {N : Nat} {k75 : Nat → Int32 → Int32 → Int32 → Int32 → Int32 → Int32 → Int32 → Mm → Option (Unit × Mm)} (hk75 : ∀ (a0 : Nat) (a1 : Int32) (a2 : Int32) (a3 : Int32) (a4 : Int32) (a5 : Int32) (a6 : Int32) (a7 : Int32) (mm : Mm) (H : Heap) (locs : List Loc) (ls : Array Slot), (sX12 a0) → Wd D ca ad s.heap mm H locs → lv_has ls 9 [(0, .ref (ad a0)), (1, .int a1), (2, .int a2), (3, .int a3), (4, .int a4), (5, .int a5), (6, .int a6), (7, .int a7)] → k75 a0 a1 a2 a3 a4 a5 a6 a7 mm = some res → W p l e (rmX12_layRule) s m args below meth c H locs 0 0 (MQ below (QV D ca ad res) args s 0 0 (AA ad)) (F0 m 75 ls [])) {a0 : Nat} {a1 : Int32} {a2 : Int32} {a3 : Int32} {a4 : Int32} {a5 : Int32} {a6 : Int32} {a7 : Int32} {s0 : Nat} {s1 : Int32} {s2 : Int32} {mm : Mm} {H : Heap} {locs : List Loc} {ls : Array Slot} (ha0 : sX12 a0) (hs0 : sI s0) (hW : Wd D ca ad s.heap mm H locs) (hl : lv_has ls 9 [(0, .ref (ad a0)), (1, .int a1), (2, .int a2), (3, .int a3), (4, .int a4), (5, .int a5), (6, .int a6), (7, .int a7)]) (hf : fX12_layRule_263 N k75 a0 a1 a2 a3 a4 a5 a6 a7 s0 s1 s2 mm = some res) : W p l e (rmX12_layRule) s m args below meth c H locs 0 0 (MQ below (QV D ca ad res) args s 0 0 (AA ad)) (F0 m 263 ls [.int s2, .int s1, .ref (ad s0)]) := by
  unfold fX12_layRule_263 at hf
  obtain ⟨g7, hf⟩ := gd_s hf
  refine x_iast C hW hs0 g7 dX12_layRule_263 (fun H locs hW => ?_)
  obtain ⟨m8, em8⟩ : ∃ z, z = wr mm s0 s1.toNatClampNeg s2 := ⟨_, rfl⟩
  have hf := nm_s hf em8
  rw [← em8] at hW
  refine lv_goto (tgt := 288) C.1 C.2.1 dX12_layRule_264 (by decide) ?_
  exact wX12_layRule_288 C hk75 ha0 hW (lv_sub hl [0, 1, 2, 3, 4, 5, 6, 7] rfl) hf
set_option maxRecDepth 100000 in
set_option maxHeartbeats 4000000 in
theorem wX12_layRule_241 (C : Cx p s m meth c args cX12_layRule 9 none RX12 D ca ad) {res : Unit × Mm} {N : Nat} {k75 : Nat → Int32 → Int32 → Int32 → Int32 → Int32 → Int32 → Int32 → Mm → Option (Unit × Mm)} (hk75 : ∀ (a0 : Nat) (a1 : Int32) (a2 : Int32) (a3 : Int32) (a4 : Int32) (a5 : Int32) (a6 : Int32) (a7 : Int32) (mm : Mm) (H : Heap) (locs : List Loc) (ls : Array Slot), (sX12 a0) → Wd D ca ad s.heap mm H locs → lv_has ls 9 [(0, .ref (ad a0)), (1, .int a1), (2, .int a2), (3, .int a3), (4, .int a4), (5, .int a5), (6, .int a6), (7, .int a7)] → k75 a0 a1 a2 a3 a4 a5 a6 a7 mm = some res → W p l e (rmX12_layRule) s m args below meth c H locs 0 0 (MQ below (QV D ca ad res) args s 0 0 (AA ad)) (F0 m 75 ls [])) {a0 : Nat} {a1 : Int32} {a2 : Int32} {a3 : Int32} {a4 : Int32} {a5 : Int32} {a6 : Int32} {a7 : Int32} {s0 : Nat} {s1 : Int32} {s2 : Int32} {mm : Mm} {H : Heap} {locs : List Loc} {ls : Array Slot} (ha0 : sX12 a0) (hs0 : sI s0) (hW : Wd D ca ad s.heap mm H locs) (hl : lv_has ls 9 [(0, .ref (ad a0)), (1, .int a1), (2, .int a2), (3, .int a3), (4, .int a4), (5, .int a5), (6, .int a6), (7, .int a7)]) (hf : fX12_layRule_241 N k75 a0 a1 a2 a3 a4 a5 a6 a7 s0 s1 s2 mm = some res) : W p l e (rmX12_layRule) s m args below meth c H locs 0 0 (MQ below (QV D ca ad res) args s 0 0 (AA ad)) (F0 m 241 ls [.int s2, .int s1, .ref (ad s0)]) := by
  unfold fX12_layRule_241 at hf
  obtain ⟨g9, hf⟩ := gd_s hf
  refine x_iast C hW hs0 g9 dX12_layRule_241 (fun H locs hW => ?_)
  obtain ⟨m10, em10⟩ : ∃ z, z = wr mm s0 s1.toNatClampNeg s2 := ⟨_, rfl⟩
  have hf := nm_s hf em10
  rw [← em10] at hW
  refine lv_goto (tgt := 288) C.1 C.2.1 dX12_layRule_242 (by decide) ?_
  exact wX12_layRule_288 C hk75 ha0 hW (lv_sub hl [0, 1, 2, 3, 4, 5, 6, 7] rfl) hf
set_option maxRecDepth 100000 in
set_option maxHeartbeats 4000000 in
theorem wX12_layRule_215 (C : Cx p s m meth c args cX12_layRule 9 none RX12 D ca ad) {res : Unit × Mm} {N : Nat} {k75 : Nat → Int32 → Int32 → Int32 → Int32 → Int32 → Int32 → Int32 → Mm → Option (Unit × Mm)} (hk75 : ∀ (a0 : Nat) (a1 : Int32) (a2 : Int32) (a3 : Int32) (a4 : Int32) (a5 : Int32) (a6 : Int32) (a7 : Int32) (mm : Mm) (H : Heap) (locs : List Loc) (ls : Array Slot), (sX12 a0) → Wd D ca ad s.heap mm H locs → lv_has ls 9 [(0, .ref (ad a0)), (1, .int a1), (2, .int a2), (3, .int a3), (4, .int a4), (5, .int a5), (6, .int a6), (7, .int a7)] → k75 a0 a1 a2 a3 a4 a5 a6 a7 mm = some res → W p l e (rmX12_layRule) s m args below meth c H locs 0 0 (MQ below (QV D ca ad res) args s 0 0 (AA ad)) (F0 m 75 ls [])) {a0 : Nat} {a1 : Int32} {a2 : Int32} {a3 : Int32} {a4 : Int32} {a5 : Int32} {a6 : Int32} {a7 : Int32} {s0 : Nat} {s1 : Int32} {s2 : Int32} {mm : Mm} {H : Heap} {locs : List Loc} {ls : Array Slot} (ha0 : sX12 a0) (hs0 : sI s0) (hW : Wd D ca ad s.heap mm H locs) (hl : lv_has ls 9 [(0, .ref (ad a0)), (1, .int a1), (2, .int a2), (3, .int a3), (4, .int a4), (5, .int a5), (6, .int a6), (7, .int a7)]) (hf : fX12_layRule_215 N k75 a0 a1 a2 a3 a4 a5 a6 a7 s0 s1 s2 mm = some res) : W p l e (rmX12_layRule) s m args below meth c H locs 0 0 (MQ below (QV D ca ad res) args s 0 0 (AA ad)) (F0 m 215 ls [.int s2, .int s1, .ref (ad s0)]) := by
  unfold fX12_layRule_215 at hf
  obtain ⟨g11, hf⟩ := gd_s hf
  refine x_iast C hW hs0 g11 dX12_layRule_215 (fun H locs hW => ?_)
  obtain ⟨m12, em12⟩ : ∃ z, z = wr mm s0 s1.toNatClampNeg s2 := ⟨_, rfl⟩
  have hf := nm_s hf em12
  rw [← em12] at hW
  refine lv_goto (tgt := 288) C.1 C.2.1 dX12_layRule_216 (by decide) ?_
  exact wX12_layRule_288 C hk75 ha0 hW (lv_sub hl [0, 1, 2, 3, 4, 5, 6, 7] rfl) hf
set_option maxRecDepth 100000 in
set_option maxHeartbeats 4000000 in
theorem wX12_layRule_172 (C : Cx p s m meth c args cX12_layRule 9 none RX12 D ca ad) {res : Unit × Mm} {N : Nat} {k75 : Nat → Int32 → Int32 → Int32 → Int32 → Int32 → Int32 → Int32 → Mm → Option (Unit × Mm)} (hk75 : ∀ (a0 : Nat) (a1 : Int32) (a2 : Int32) (a3 : Int32) (a4 : Int32) (a5 : Int32) (a6 : Int32) (a7 : Int32) (mm : Mm) (H : Heap) (locs : List Loc) (ls : Array Slot), (sX12 a0) → Wd D ca ad s.heap mm H locs → lv_has ls 9 [(0, .ref (ad a0)), (1, .int a1), (2, .int a2), (3, .int a3), (4, .int a4), (5, .int a5), (6, .int a6), (7, .int a7)] → k75 a0 a1 a2 a3 a4 a5 a6 a7 mm = some res → W p l e (rmX12_layRule) s m args below meth c H locs 0 0 (MQ below (QV D ca ad res) args s 0 0 (AA ad)) (F0 m 75 ls [])) {a0 : Nat} {a1 : Int32} {a2 : Int32} {a3 : Int32} {a4 : Int32} {a5 : Int32} {a6 : Int32} {a7 : Int32} {s0 : Nat} {s1 : Int32} {s2 : Int32} {s3 : Int32} {mm : Mm} {H : Heap} {locs : List Loc} {ls : Array Slot} (ha0 : sX12 a0) (hs0 : sI s0) (hW : Wd D ca ad s.heap mm H locs) (hl : lv_has ls 9 [(0, .ref (ad a0)), (1, .int a1), (2, .int a2), (3, .int a3), (4, .int a4), (5, .int a5), (6, .int a6), (7, .int a7)]) (hf : fX12_layRule_172 N k75 a0 a1 a2 a3 a4 a5 a6 a7 s0 s1 s2 s3 mm = some res) : W p l e (rmX12_layRule) s m args below meth c H locs 0 0 (MQ below (QV D ca ad res) args s 0 0 (AA ad)) (F0 m 172 ls [.int s3, .int s2, .int s1, .ref (ad s0)]) := by
  unfold fX12_layRule_172 at hf
  refine lv_iadd C.1 C.2.1 dX12_layRule_172 ?_
  obtain ⟨g13, hf⟩ := gd_s hf
  refine x_iast C hW hs0 g13 dX12_layRule_173 (fun H locs hW => ?_)
  obtain ⟨m14, em14⟩ : ∃ z, z = wr mm s0 s1.toNatClampNeg (s2 + s3) := ⟨_, rfl⟩
  have hf := nm_s hf em14
  rw [← em14] at hW
  refine lv_goto (tgt := 288) C.1 C.2.1 dX12_layRule_174 (by decide) ?_
  exact wX12_layRule_288 C hk75 ha0 hW (lv_sub hl [0, 1, 2, 3, 4, 5, 6, 7] rfl) hf
set_option maxRecDepth 100000 in
set_option maxHeartbeats 4000000 in
theorem wX12_layRule_107 (C : Cx p s m meth c args cX12_layRule 9 none RX12 D ca ad) {res : Unit × Mm} {N : Nat} {k75 : Nat → Int32 → Int32 → Int32 → Int32 → Int32 → Int32 → Int32 → Mm → Option (Unit × Mm)} (hk75 : ∀ (a0 : Nat) (a1 : Int32) (a2 : Int32) (a3 : Int32) (a4 : Int32) (a5 : Int32) (a6 : Int32) (a7 : Int32) (mm : Mm) (H : Heap) (locs : List Loc) (ls : Array Slot), (sX12 a0) → Wd D ca ad s.heap mm H locs → lv_has ls 9 [(0, .ref (ad a0)), (1, .int a1), (2, .int a2), (3, .int a3), (4, .int a4), (5, .int a5), (6, .int a6), (7, .int a7)] → k75 a0 a1 a2 a3 a4 a5 a6 a7 mm = some res → W p l e (rmX12_layRule) s m args below meth c H locs 0 0 (MQ below (QV D ca ad res) args s 0 0 (AA ad)) (F0 m 75 ls [])) {a0 : Nat} {a1 : Int32} {a2 : Int32} {a3 : Int32} {a4 : Int32} {a5 : Int32} {a6 : Int32} {a7 : Int32} {s0 : Int32} {mm : Mm} {H : Heap} {locs : List Loc} {ls : Array Slot} (ha0 : sX12 a0) (hW : Wd D ca ad s.heap mm H locs) (hl : lv_has ls 9 [(0, .ref (ad a0)), (1, .int a1), (2, .int a2), (3, .int a3), (4, .int a4), (5, .int a5), (6, .int a6), (7, .int a7)]) (hf : fX12_layRule_107 N k75 a0 a1 a2 a3 a4 a5 a6 a7 s0 mm = some res) : W p l e (rmX12_layRule) s m args below meth c H locs 0 0 (MQ below (QV D ca ad res) args s 0 0 (AA ad)) (F0 m 107 ls [.int s0]) := by
  unfold fX12_layRule_107 at hf
  refine lv_istore (lv' := [(8, .int s0), (0, .ref (ad a0)), (1, .int a1), (2, .int a2), (3, .int a3), (4, .int a4), (5, .int a5), (6, .int a6), (7, .int a7)]) C.1 C.2.1 dX12_layRule_107 hl (by decide) rfl (fun ls hl => ?_)
  refine lv_iload_n C.1 C.2.1 dX12_layRule_109 rfl (lv_at hl 2 rfl) ?_
  by_cases c15 : a1 = 0
  · have hf := if_t c15 hf
    refine x_tin C (tgt := 144) dX12_layRule_110 c15 (by decide) (by decide) (off := 34) rfl (by decide) ?_
    refine lv_aload_n C.1 C.2.1 dX12_layRule_144 rfl (lv_at hl 1 rfl) ?_
    refine x_getr C hW (ha0).1 (ha0).2.1 (j := 20) rfl kX12 (by decide) rfl q_1036 dX12_layRule_145 ?_
    refine lv_iload C.1 C.2.1 dX12_layRule_148 (lv_at hl 8 rfl) ?_
    refine lv_iload_n C.1 C.2.1 dX12_layRule_150 rfl (lv_at hl 4 rfl) ?_
    refine lv_aload_n C.1 C.2.1 dX12_layRule_151 rfl (lv_at hl 1 rfl) ?_
    refine x_geti C hW (ha0).1 (ha0).2.1 (j := 10) rfl kX12 (by decide) rfl q_1026 dX12_layRule_152 ?_
    obtain ⟨g16, hf⟩ := gd_s hf
    refine lv_idiv C.1 C.2.1 dX12_layRule_155 (of_decide_eq_true g16) ?_
    refine lv_iload C.1 C.2.1 dX12_layRule_156 (lv_at hl 8 rfl) ?_
    refine lv_iload_n C.1 C.2.1 dX12_layRule_158 rfl (lv_at hl 4 rfl) ?_
    refine lv_aload_n C.1 C.2.1 dX12_layRule_159 rfl (lv_at hl 1 rfl) ?_
    refine x_geti C hW (ha0).1 (ha0).2.1 (j := 10) rfl kX12 (by decide) rfl q_1026 dX12_layRule_160 ?_
    obtain ⟨g17, hf⟩ := gd_s hf
    refine lv_irem C.1 C.2.1 dX12_layRule_163 (of_decide_eq_true g17) ?_
    refine lv_icmp_ge (tgt := 171) C.1 C.2.1 dX12_layRule_164 (by decide) (fun c18 => ?_) (fun c18 => ?_)
    · have hf := if_t c18 hf
      refine lv_iconst (v := 0) C.1 C.2.1 dX12_layRule_171 (by decide) ?_
      exact wX12_layRule_172 C hk75 ha0 ha0.2.2.2.2.2.2.2.2.2.2.2.2.1 hW (lv_sub hl [1, 2, 3, 4, 5, 6, 7, 8] rfl) hf
    · have hf := if_f c18 hf
      refine lv_iconst (v := 1) C.1 C.2.1 dX12_layRule_167 (by decide) ?_
      refine lv_goto (tgt := 172) C.1 C.2.1 dX12_layRule_168 (by decide) ?_
      exact wX12_layRule_172 C hk75 ha0 ha0.2.2.2.2.2.2.2.2.2.2.2.2.1 hW (lv_sub hl [1, 2, 3, 4, 5, 6, 7, 8] rfl) hf
  have hf := if_f c15 hf
  by_cases c19 : a1 = 1
  · have hf := if_t c19 hf
    refine x_tin C (tgt := 177) dX12_layRule_110 c19 (by decide) (by decide) (off := 67) rfl (by decide) ?_
    refine lv_aload_n C.1 C.2.1 dX12_layRule_177 rfl (lv_at hl 1 rfl) ?_
    refine x_getr C hW (ha0).1 (ha0).2.1 (j := 20) rfl kX12 (by decide) rfl q_1036 dX12_layRule_178 ?_
    refine lv_iload C.1 C.2.1 dX12_layRule_181 (lv_at hl 8 rfl) ?_
    refine lv_iload_n C.1 C.2.1 dX12_layRule_183 rfl (lv_at hl 4 rfl) ?_
    refine lv_aload_n C.1 C.2.1 dX12_layRule_184 rfl (lv_at hl 1 rfl) ?_
    refine lv_iload C.1 C.2.1 dX12_layRule_185 (lv_at hl 8 rfl) ?_
    refine lv_iconst (v := 1) C.1 C.2.1 dX12_layRule_187 (by decide) ?_
    obtain ⟨x20, m21, r22, hf⟩ := bd2_s hf
    refine x_ci hW (x_runV C hW [.int a7, .int 1] [.int a3, .int a7, .ref (ad (fr a0 20))] (ha0).1 (ha0).2.1 kX12.1 kvX12_of q_1252 (tX12_of l C.2.2.2.2.2.2.1 ha0 r22) rfl rfl ⟨by decide, by decide⟩ rfl hl.1 rfl (Nat.le_of_ble_eq_true rfl) dX12_layRule_188) (fun H locs hW => ?_)
    refine lv_imul C.1 C.2.1 dX12_layRule_191 ?_
    refine lv_iload C.1 C.2.1 dX12_layRule_192 (lv_at hl 5 rfl) ?_
    obtain ⟨g23, hf⟩ := gd_s hf
    refine lv_idiv C.1 C.2.1 dX12_layRule_194 (of_decide_eq_true g23) ?_
    obtain ⟨g24, hf⟩ := gd_s hf
    refine x_iast C hW ha0.2.2.2.2.2.2.2.2.2.2.2.2.1 g24 dX12_layRule_195 (fun H locs hW => ?_)
    obtain ⟨m25, em25⟩ : ∃ z, z = wr m21 (fr a0 20) a7.toNatClampNeg ((a3 * x20) / a4) := ⟨_, rfl⟩
    have hf := nm_s hf em25
    rw [← em25] at hW
    refine lv_goto (tgt := 288) C.1 C.2.1 dX12_layRule_196 (by decide) ?_
    exact wX12_layRule_288 C hk75 ha0 hW (lv_sub hl [1, 2, 3, 4, 5, 6, 7, 8] rfl) hf
  have hf := if_f c19 hf
  by_cases c26 : a1 = 2
  · have hf := if_t c26 hf
    refine x_tin C (tgt := 199) dX12_layRule_110 c26 (by decide) (by decide) (off := 89) rfl (by decide) ?_
    refine lv_aload_n C.1 C.2.1 dX12_layRule_199 rfl (lv_at hl 1 rfl) ?_
    refine x_getr C hW (ha0).1 (ha0).2.1 (j := 20) rfl kX12 (by decide) rfl q_1036 dX12_layRule_200 ?_
    refine lv_iload C.1 C.2.1 dX12_layRule_203 (lv_at hl 8 rfl) ?_
    refine lv_iload C.1 C.2.1 dX12_layRule_205 (lv_at hl 8 rfl) ?_
    refine lv_if_ne (tgt := 214) C.1 C.2.1 dX12_layRule_207 (by decide) (fun c27 => ?_) (fun c27 => ?_)
    · have hf := if_f c27 hf
      refine lv_iconst (v := 0) C.1 C.2.1 dX12_layRule_214 (by decide) ?_
      exact wX12_layRule_215 C hk75 ha0 ha0.2.2.2.2.2.2.2.2.2.2.2.2.1 hW (lv_sub hl [1, 2, 3, 4, 5, 6, 7, 8] rfl) hf
    · have hf := if_t c27 hf
      refine lv_iload_n C.1 C.2.1 dX12_layRule_210 rfl (lv_at hl 4 rfl) ?_
      refine lv_goto (tgt := 215) C.1 C.2.1 dX12_layRule_211 (by decide) ?_
      exact wX12_layRule_215 C hk75 ha0 ha0.2.2.2.2.2.2.2.2.2.2.2.2.1 hW (lv_sub hl [1, 2, 3, 4, 5, 6, 7, 8] rfl) hf
  have hf := if_f c26 hf
  by_cases c28 : a1 = 3
  · have hf := if_t c28 hf
    refine x_tin C (tgt := 219) dX12_layRule_110 c28 (by decide) (by decide) (off := 109) rfl (by decide) ?_
    refine lv_aload_n C.1 C.2.1 dX12_layRule_219 rfl (lv_at hl 1 rfl) ?_
    refine x_getr C hW (ha0).1 (ha0).2.1 (j := 20) rfl kX12 (by decide) rfl q_1036 dX12_layRule_220 ?_
    refine lv_iload C.1 C.2.1 dX12_layRule_223 (lv_at hl 8 rfl) ?_
    refine lv_iload C.1 C.2.1 dX12_layRule_225 (lv_at hl 8 rfl) ?_
    refine lv_aload_n C.1 C.2.1 dX12_layRule_227 rfl (lv_at hl 1 rfl) ?_
    refine x_geti C hW (ha0).1 (ha0).2.1 (j := 10) rfl kX12 (by decide) rfl q_1026 dX12_layRule_228 ?_
    refine lv_iconst (v := 1) C.1 C.2.1 dX12_layRule_231 (by decide) ?_
    refine lv_isub C.1 C.2.1 dX12_layRule_232 ?_
    refine lv_icmp_ne (tgt := 240) C.1 C.2.1 dX12_layRule_233 (by decide) (fun c29 => ?_) (fun c29 => ?_)
    · have hf := if_f c29 hf
      refine lv_iconst (v := 0) C.1 C.2.1 dX12_layRule_240 (by decide) ?_
      exact wX12_layRule_241 C hk75 ha0 ha0.2.2.2.2.2.2.2.2.2.2.2.2.1 hW (lv_sub hl [1, 2, 3, 4, 5, 6, 7, 8] rfl) hf
    · have hf := if_t c29 hf
      refine lv_iload_n C.1 C.2.1 dX12_layRule_236 rfl (lv_at hl 4 rfl) ?_
      refine lv_goto (tgt := 241) C.1 C.2.1 dX12_layRule_237 (by decide) ?_
      exact wX12_layRule_241 C hk75 ha0 ha0.2.2.2.2.2.2.2.2.2.2.2.2.1 hW (lv_sub hl [1, 2, 3, 4, 5, 6, 7, 8] rfl) hf
  have hf := if_f c28 hf
  by_cases c30 : a1 = 4
  · have hf := if_t c30 hf
    refine x_tin C (tgt := 245) dX12_layRule_110 c30 (by decide) (by decide) (off := 135) rfl (by decide) ?_
    refine lv_aload_n C.1 C.2.1 dX12_layRule_245 rfl (lv_at hl 1 rfl) ?_
    refine x_getr C hW (ha0).1 (ha0).2.1 (j := 20) rfl kX12 (by decide) rfl q_1036 dX12_layRule_246 ?_
    refine lv_iload C.1 C.2.1 dX12_layRule_249 (lv_at hl 8 rfl) ?_
    refine lv_iload C.1 C.2.1 dX12_layRule_251 (lv_at hl 8 rfl) ?_
    refine lv_iload C.1 C.2.1 dX12_layRule_253 (lv_at hl 6 rfl) ?_
    refine lv_icmp_ne (tgt := 262) C.1 C.2.1 dX12_layRule_255 (by decide) (fun c31 => ?_) (fun c31 => ?_)
    · have hf := if_f c31 hf
      refine lv_iconst (v := 0) C.1 C.2.1 dX12_layRule_262 (by decide) ?_
      exact wX12_layRule_263 C hk75 ha0 ha0.2.2.2.2.2.2.2.2.2.2.2.2.1 hW (lv_sub hl [1, 2, 3, 4, 5, 6, 7, 8] rfl) hf
    · have hf := if_t c31 hf
      refine lv_iload_n C.1 C.2.1 dX12_layRule_258 rfl (lv_at hl 4 rfl) ?_
      refine lv_goto (tgt := 263) C.1 C.2.1 dX12_layRule_259 (by decide) ?_
      exact wX12_layRule_263 C hk75 ha0 ha0.2.2.2.2.2.2.2.2.2.2.2.2.1 hW (lv_sub hl [1, 2, 3, 4, 5, 6, 7, 8] rfl) hf
  have hf := if_f c30 hf
  refine x_tdef C (tgt := 267) dX12_layRule_110 (by
      have := lv_neT c15 (a := 0) (by decide)
      have := lv_neT c19 (a := 1) (by decide)
      have := lv_neT c26 (a := 2) (by decide)
      have := lv_neT c28 (a := 3) (by decide)
      have := lv_neT c30 (a := 4) (by decide)
      rcases (by omega : a1.toInt < 0 ∨ 4 < a1.toInt) with h | h
      · exact Or.inl h
      · exact Or.inr (Or.inl h)) (by decide) ?_
  refine lv_aload_n C.1 C.2.1 dX12_layRule_267 rfl (lv_at hl 1 rfl) ?_
  refine x_getr C hW (ha0).1 (ha0).2.1 (j := 20) rfl kX12 (by decide) rfl q_1036 dX12_layRule_268 ?_
  refine lv_iload C.1 C.2.1 dX12_layRule_271 (lv_at hl 8 rfl) ?_
  refine lv_iload C.1 C.2.1 dX12_layRule_273 (lv_at hl 0 rfl) ?_
  refine lv_iload C.1 C.2.1 dX12_layRule_275 (lv_at hl 7 rfl) ?_
  refine lv_icmp_ge (tgt := 285) C.1 C.2.1 dX12_layRule_277 (by decide) (fun c32 => ?_) (fun c32 => ?_)
  · have hf := if_t c32 hf
    refine lv_iload C.1 C.2.1 dX12_layRule_285 (lv_at hl 7 rfl) ?_
    exact wX12_layRule_287 C hk75 ha0 ha0.2.2.2.2.2.2.2.2.2.2.2.2.1 hW (lv_sub hl [1, 2, 3, 4, 5, 6, 7, 8] rfl) hf
  · have hf := if_f c32 hf
    refine lv_iload C.1 C.2.1 dX12_layRule_280 (lv_at hl 0 rfl) ?_
    refine lv_goto (tgt := 287) C.1 C.2.1 dX12_layRule_282 (by decide) ?_
    exact wX12_layRule_287 C hk75 ha0 ha0.2.2.2.2.2.2.2.2.2.2.2.2.1 hW (lv_sub hl [1, 2, 3, 4, 5, 6, 7, 8] rfl) hf
set_option maxRecDepth 100000 in
set_option maxHeartbeats 4000000 in
theorem wX12_layRule_75 (C : Cx p s m meth c args cX12_layRule 9 none RX12 D ca ad) {res : Unit × Mm} {N : Nat}  : ∀ (n : Nat) {a0 : Nat} {a1 : Int32} {a2 : Int32} {a3 : Int32} {a4 : Int32} {a5 : Int32} {a6 : Int32} {a7 : Int32} {mm : Mm} {H : Heap} {locs : List Loc} {ls : Array Slot}, (sX12 a0) → Wd D ca ad s.heap mm H locs → lv_has ls 9 [(0, .ref (ad a0)), (1, .int a1), (2, .int a2), (3, .int a3), (4, .int a4), (5, .int a5), (6, .int a6), (7, .int a7)] → fX12_layRule_75 N n a0 a1 a2 a3 a4 a5 a6 a7 mm = some res → W p l e (rmX12_layRule) s m args below meth c H locs 0 0 (MQ below (QV D ca ad res) args s 0 0 (AA ad)) (F0 m 75 ls []) := by
  intro n
  induction n with
  | zero => intro a0 a1 a2 a3 a4 a5 a6 a7 mm H locs ls ha0 hW hl hf; cases hf
  | succ n ih =>
    intro a0 a1 a2 a3 a4 a5 a6 a7 mm H locs ls ha0 hW hl hf
    have hk75 : ∀ (a0 : Nat) (a1 : Int32) (a2 : Int32) (a3 : Int32) (a4 : Int32) (a5 : Int32) (a6 : Int32) (a7 : Int32) (mm : Mm) (H : Heap) (locs : List Loc) (ls : Array Slot), (sX12 a0) → Wd D ca ad s.heap mm H locs → lv_has ls 9 [(0, .ref (ad a0)), (1, .int a1), (2, .int a2), (3, .int a3), (4, .int a4), (5, .int a5), (6, .int a6), (7, .int a7)] → (fX12_layRule_75 N n) a0 a1 a2 a3 a4 a5 a6 a7 mm = some res → W p l e (rmX12_layRule) s m args below meth c H locs 0 0 (MQ below (QV D ca ad res) args s 0 0 (AA ad)) (F0 m 75 ls []) := fun a0 a1 a2 a3 a4 a5 a6 a7 mm H locs ls ha0 hW hl hf => ih ha0 hW hl hf
    unfold fX12_layRule_75 at hf
    try dsimp only at hf
    refine lv_iload C.1 C.2.1 dX12_layRule_75 (lv_at hl 7 rfl) ?_
    refine lv_aload_n C.1 C.2.1 dX12_layRule_77 rfl (lv_at hl 0 rfl) ?_
    refine x_geti C hW (ha0).1 (ha0).2.1 (j := 10) rfl kX12 (by decide) rfl q_1026 dX12_layRule_78 ?_
    refine lv_icmp_ge (tgt := 306) C.1 C.2.1 dX12_layRule_81 (by decide) (fun c33 => ?_) (fun c33 => ?_)
    · have hf := if_t c33 hf
      refine lv_aload_n C.1 C.2.1 dX12_layRule_306 rfl (lv_at hl 0 rfl) ?_
      refine x_getr C hW (ha0).1 (ha0).2.1 (j := 20) rfl kX12 (by decide) rfl q_1036 dX12_layRule_307 ?_
      refine lv_iconst (v := 0) C.1 C.2.1 dX12_layRule_310 (by decide) ?_
      refine lv_dup2_11 C.1 C.2.1 dX12_layRule_311 rfl rfl ?_
      obtain ⟨g34, hf⟩ := gd_s hf
      refine x_iald C hW ha0.2.2.2.2.2.2.2.2.2.2.2.2.1 g34 dX12_layRule_312 ?_
      refine lv_iload_n C.1 C.2.1 dX12_layRule_313 rfl (lv_at hl 1 rfl) ?_
      refine lv_iconst (v := 1) C.1 C.2.1 dX12_layRule_314 (by decide) ?_
      refine lv_icmp_ne (tgt := 323) C.1 C.2.1 dX12_layRule_315 (by decide) (fun c35 => ?_) (fun c35 => ?_)
      · have hf := if_f c35 hf
        refine lv_iconst (v := 0) C.1 C.2.1 dX12_layRule_323 (by decide) ?_
        exact wX12_layRule_324 C  ha0.2.2.2.2.2.2.2.2.2.2.2.2.1 hW (lv_sub hl [] rfl) hf
      · have hf := if_t c35 hf
        refine lv_iload C.1 C.2.1 dX12_layRule_318 (lv_at hl 6 rfl) ?_
        refine lv_goto (tgt := 324) C.1 C.2.1 dX12_layRule_320 (by decide) ?_
        exact wX12_layRule_324 C  ha0.2.2.2.2.2.2.2.2.2.2.2.2.1 hW (lv_sub hl [] rfl) hf
    · have hf := if_f c33 hf
      refine lv_iload_n C.1 C.2.1 dX12_layRule_84 rfl (lv_at hl 2 rfl) ?_
      refine lv_if_ne (tgt := 92) C.1 C.2.1 dX12_layRule_85 (by decide) (fun c36 => ?_) (fun c36 => ?_)
      · have hf := if_f c36 hf
        refine lv_aload_n C.1 C.2.1 dX12_layRule_92 rfl (lv_at hl 0 rfl) ?_
        refine x_getr C hW (ha0).1 (ha0).2.1 (j := 36) rfl kX12 (by decide) rfl q_1052 dX12_layRule_93 ?_
        refine lv_bipush (v := 7) C.1 C.2.1 dX12_layRule_96 (by decide) ?_
        refine lv_iload_n C.1 C.2.1 dX12_layRule_98 rfl (lv_at hl 2 rfl) ?_
        refine lv_imul C.1 C.2.1 dX12_layRule_99 ?_
        refine lv_bipush (v := 7) C.1 C.2.1 dX12_layRule_100 (by decide) ?_
        refine lv_isub C.1 C.2.1 dX12_layRule_102 ?_
        refine lv_iload C.1 C.2.1 dX12_layRule_103 (lv_at hl 7 rfl) ?_
        refine lv_iadd C.1 C.2.1 dX12_layRule_105 ?_
        obtain ⟨g37, hf⟩ := gd_s hf
        refine x_iald C hW ha0.2.2.2.2.2.2.2.2.2.2.2.2.2.2.2.2.2.2.2.1 g37 dX12_layRule_106 ?_
        exact wX12_layRule_107 C hk75 ha0 hW (lv_sub hl [0, 1, 2, 3, 4, 5, 6, 7] rfl) hf
      · have hf := if_t c36 hf
        refine lv_iconst (v := 0) C.1 C.2.1 dX12_layRule_88 (by decide) ?_
        refine lv_goto (tgt := 107) C.1 C.2.1 dX12_layRule_89 (by decide) ?_
        exact wX12_layRule_107 C hk75 ha0 hW (lv_sub hl [0, 1, 2, 3, 4, 5, 6, 7] rfl) hf
set_option maxRecDepth 100000 in
set_option maxHeartbeats 4000000 in
theorem wX12_layRule_61 (C : Cx p s m meth c args cX12_layRule 9 none RX12 D ca ad) {res : Unit × Mm} {N : Nat} {k16 : Nat → Int32 → Int32 → Int32 → Int32 → Int32 → Int32 → Mm → Option (Unit × Mm)} (hk16 : ∀ (a0 : Nat) (a1 : Int32) (a2 : Int32) (a3 : Int32) (a4 : Int32) (a5 : Int32) (a6 : Int32) (mm : Mm) (H : Heap) (locs : List Loc) (ls : Array Slot), (sX12 a0) → Wd D ca ad s.heap mm H locs → lv_has ls 9 [(0, .ref (ad a0)), (1, .int a1), (2, .int a2), (3, .int a3), (4, .int a4), (5, .int a5), (6, .int a6)] → k16 a0 a1 a2 a3 a4 a5 a6 mm = some res → W p l e (rmX12_layRule) s m args below meth c H locs 0 0 (MQ below (QV D ca ad res) args s 0 0 (AA ad)) (F0 m 16 ls [])) {a0 : Nat} {a1 : Int32} {a2 : Int32} {a3 : Int32} {a4 : Int32} {a6 : Int32} {s0 : Int32} {mm : Mm} {H : Heap} {locs : List Loc} {ls : Array Slot} (ha0 : sX12 a0) (hW : Wd D ca ad s.heap mm H locs) (hl : lv_has ls 9 [(0, .ref (ad a0)), (1, .int a1), (2, .int a2), (3, .int a3), (4, .int a4), (6, .int a6)]) (hf : fX12_layRule_61 N k16 a0 a1 a2 a3 a4 a6 s0 mm = some res) : W p l e (rmX12_layRule) s m args below meth c H locs 0 0 (MQ below (QV D ca ad res) args s 0 0 (AA ad)) (F0 m 61 ls [.int s0]) := by
  unfold fX12_layRule_61 at hf
  refine lv_istore (lv' := [(5, .int s0), (0, .ref (ad a0)), (1, .int a1), (2, .int a2), (3, .int a3), (4, .int a4), (6, .int a6)]) C.1 C.2.1 dX12_layRule_61 hl (by decide) rfl (fun ls hl => ?_)
  refine lv_iinc (v := (a6 + 1)) (lv' := [(6, .int (a6 + 1)), (5, .int s0), (0, .ref (ad a0)), (1, .int a1), (2, .int a2), (3, .int a3), (4, .int a4)]) C.1 C.2.1 dX12_layRule_63 hl (k := 6) rfl rfl (by decide) rfl (fun ls hl => ?_)
  refine lv_goto (tgt := 16) C.1 C.2.1 dX12_layRule_66 (by decide) ?_
  exact hk16 _ _ _ _ _ _ _ _ _ _ _ ha0 hW (lv_sub hl [2, 3, 4, 5, 6, 1, 0] rfl) hf
set_option maxRecDepth 100000 in
set_option maxHeartbeats 4000000 in
theorem wX12_layRule_16 (C : Cx p s m meth c args cX12_layRule 9 none RX12 D ca ad) {res : Unit × Mm} {N : Nat}  : ∀ (n : Nat) {a0 : Nat} {a1 : Int32} {a2 : Int32} {a3 : Int32} {a4 : Int32} {a5 : Int32} {a6 : Int32} {mm : Mm} {H : Heap} {locs : List Loc} {ls : Array Slot}, (sX12 a0) → Wd D ca ad s.heap mm H locs → lv_has ls 9 [(0, .ref (ad a0)), (1, .int a1), (2, .int a2), (3, .int a3), (4, .int a4), (5, .int a5), (6, .int a6)] → fX12_layRule_16 N n a0 a1 a2 a3 a4 a5 a6 mm = some res → W p l e (rmX12_layRule) s m args below meth c H locs 0 0 (MQ below (QV D ca ad res) args s 0 0 (AA ad)) (F0 m 16 ls []) := by
  intro n
  induction n with
  | zero => intro a0 a1 a2 a3 a4 a5 a6 mm H locs ls ha0 hW hl hf; cases hf
  | succ n ih =>
    intro a0 a1 a2 a3 a4 a5 a6 mm H locs ls ha0 hW hl hf
    have hk16 : ∀ (a0 : Nat) (a1 : Int32) (a2 : Int32) (a3 : Int32) (a4 : Int32) (a5 : Int32) (a6 : Int32) (mm : Mm) (H : Heap) (locs : List Loc) (ls : Array Slot), (sX12 a0) → Wd D ca ad s.heap mm H locs → lv_has ls 9 [(0, .ref (ad a0)), (1, .int a1), (2, .int a2), (3, .int a3), (4, .int a4), (5, .int a5), (6, .int a6)] → (fX12_layRule_16 N n) a0 a1 a2 a3 a4 a5 a6 mm = some res → W p l e (rmX12_layRule) s m args below meth c H locs 0 0 (MQ below (QV D ca ad res) args s 0 0 (AA ad)) (F0 m 16 ls []) := fun a0 a1 a2 a3 a4 a5 a6 mm H locs ls ha0 hW hl hf => ih ha0 hW hl hf
    unfold fX12_layRule_16 at hf
    try dsimp only at hf
    refine lv_iload C.1 C.2.1 dX12_layRule_16 (lv_at hl 6 rfl) ?_
    refine lv_aload_n C.1 C.2.1 dX12_layRule_18 rfl (lv_at hl 0 rfl) ?_
    refine x_geti C hW (ha0).1 (ha0).2.1 (j := 10) rfl kX12 (by decide) rfl q_1026 dX12_layRule_19 ?_
    refine lv_icmp_ge (tgt := 69) C.1 C.2.1 dX12_layRule_22 (by decide) (fun c38 => ?_) (fun c38 => ?_)
    · have hf := if_t c38 hf
      refine lv_iload_n C.1 C.2.1 dX12_layRule_69 rfl (lv_at hl 3 rfl) ?_
      refine lv_istore (lv' := [(6, .int a3), (0, .ref (ad a0)), (1, .int a1), (2, .int a2), (3, .int a3), (4, .int a4), (5, .int a5)]) C.1 C.2.1 dX12_layRule_70 hl (by decide) rfl (fun ls hl => ?_)
      refine lv_iconst (v := 0) C.1 C.2.1 dX12_layRule_72 (by decide) ?_
      refine lv_istore (lv' := [(7, .int 0), (6, .int a3), (0, .ref (ad a0)), (1, .int a1), (2, .int a2), (3, .int a3), (4, .int a4), (5, .int a5)]) C.1 C.2.1 dX12_layRule_73 hl (by decide) rfl (fun ls hl => ?_)
      exact wX12_layRule_75 C  N ha0 hW (lv_sub hl [2, 3, 4, 5, 6, 7, 1, 0] rfl) hf
    · have hf := if_f c38 hf
      refine lv_iload C.1 C.2.1 dX12_layRule_25 (lv_at hl 4 rfl) ?_
      refine lv_aload_n C.1 C.2.1 dX12_layRule_27 rfl (lv_at hl 0 rfl) ?_
      refine lv_iload C.1 C.2.1 dX12_layRule_28 (lv_at hl 6 rfl) ?_
      refine lv_iconst (v := 1) C.1 C.2.1 dX12_layRule_30 (by decide) ?_
      obtain ⟨x39, m40, r41, hf⟩ := bd2_s hf
      refine x_ci hW (x_runV C hW [.int a6, .int 1] [.int a4] (ha0).1 (ha0).2.1 kX12.1 kvX12_of q_1252 (tX12_of l C.2.2.2.2.2.2.1 ha0 r41) rfl rfl ⟨by decide, by decide⟩ rfl hl.1 rfl (Nat.le_of_ble_eq_true rfl) dX12_layRule_31) (fun H locs hW => ?_)
      refine lv_iadd C.1 C.2.1 dX12_layRule_34 ?_
      refine lv_istore (lv' := [(4, .int (a4 + x39)), (0, .ref (ad a0)), (1, .int a1), (2, .int a2), (3, .int a3), (5, .int a5), (6, .int a6)]) C.1 C.2.1 dX12_layRule_35 hl (by decide) rfl (fun ls hl => ?_)
      refine lv_aload_n C.1 C.2.1 dX12_layRule_37 rfl (lv_at hl 1 rfl) ?_
      refine lv_iload C.1 C.2.1 dX12_layRule_38 (lv_at hl 6 rfl) ?_
      refine lv_iconst (v := 1) C.1 C.2.1 dX12_layRule_40 (by decide) ?_
      obtain ⟨x42, m43, r44, hf⟩ := bd2_s hf
      refine x_ci hW (x_runV C hW [.int a6, .int 1] [] (ha0).1 (ha0).2.1 kX12.1 kvX12_of q_1252 (tX12_of l C.2.2.2.2.2.2.1 ha0 r44) rfl rfl ⟨by decide, by decide⟩ rfl hl.1 rfl (Nat.le_of_ble_eq_true rfl) dX12_layRule_41) (fun H locs hW => ?_)
      refine lv_aload_n C.1 C.2.1 dX12_layRule_44 rfl (lv_at hl 1 rfl) ?_
      refine lv_iload C.1 C.2.1 dX12_layRule_45 (lv_at hl 5 rfl) ?_
      refine lv_iconst (v := 1) C.1 C.2.1 dX12_layRule_47 (by decide) ?_
      obtain ⟨x45, m46, r47, hf⟩ := bd2_s hf
      refine x_ci hW (x_runV C hW [.int a5, .int 1] [.int x42] (ha0).1 (ha0).2.1 kX12.1 kvX12_of q_1252 (tX12_of l C.2.2.2.2.2.2.1 ha0 r47) rfl rfl ⟨by decide, by decide⟩ rfl hl.1 rfl (Nat.le_of_ble_eq_true rfl) dX12_layRule_48) (fun H locs hW => ?_)
      refine lv_icmp_le (tgt := 59) C.1 C.2.1 dX12_layRule_51 (by decide) (fun c48 => ?_) (fun c48 => ?_)
      · have hf := if_t c48 hf
        refine lv_iload C.1 C.2.1 dX12_layRule_59 (lv_at hl 5 rfl) ?_
        exact wX12_layRule_61 C hk16 ha0 hW (lv_sub hl [1, 2, 3, 4, 0, 6] rfl) hf
      · have hf := if_f c48 hf
        refine lv_iload C.1 C.2.1 dX12_layRule_54 (lv_at hl 6 rfl) ?_
        refine lv_goto (tgt := 61) C.1 C.2.1 dX12_layRule_56 (by decide) ?_
        exact wX12_layRule_61 C hk16 ha0 hW (lv_sub hl [1, 2, 3, 4, 0, 6] rfl) hf
set_option maxRecDepth 100000 in
set_option maxHeartbeats 4000000 in
theorem wX12_layRule_0 (C : Cx p s m meth c args cX12_layRule 9 none RX12 D ca ad) {res : Unit × Mm} {N : Nat}  {a0 : Nat} {a1 : Int32} {a2 : Int32} {mm : Mm} {H : Heap} {locs : List Loc} {ls : Array Slot} (ha0 : sX12 a0) (hW : Wd D ca ad s.heap mm H locs) (hl : lv_has ls 9 [(0, .ref (ad a0)), (1, .int a1), (2, .int a2)]) (hf : fX12_layRule N a0 a1 a2 mm = some res) : W p l e (rmX12_layRule) s m args below meth c H locs 0 0 (MQ below (QV D ca ad res) args s 0 0 (AA ad)) (F0 m 0 ls []) := by
  unfold fX12_layRule at hf
  refine lv_aload_n C.1 C.2.1 dX12_layRule_0 rfl (lv_at hl 0 rfl) ?_
  refine x_getr C hW (ha0).1 (ha0).2.1 (j := 12) rfl kX12 (by decide) rfl q_1028 dX12_layRule_1 ?_
  refine lv_iconst (v := 1) C.1 C.2.1 dX12_layRule_4 (by decide) ?_
  obtain ⟨g49, hf⟩ := gd_s hf
  refine x_iald C hW ha0.2.2.2.2.2.2.2.2.2.1 g49 dX12_layRule_5 ?_
  refine lv_topi (fun x50 ex50 => ?_)
  have hf := nm_s hf ex50
  refine lv_istore_n (lv' := [(3, .int x50), (0, .ref (ad a0)), (1, .int a1), (2, .int a2)]) C.1 C.2.1 dX12_layRule_6 rfl hl (by decide) rfl (fun ls hl => ?_)
  refine lv_iconst (v := 0) C.1 C.2.1 dX12_layRule_7 (by decide) ?_
  refine lv_istore (lv' := [(4, .int 0), (3, .int x50), (0, .ref (ad a0)), (1, .int a1), (2, .int a2)]) C.1 C.2.1 dX12_layRule_8 hl (by decide) rfl (fun ls hl => ?_)
  refine lv_iconst (v := 0) C.1 C.2.1 dX12_layRule_10 (by decide) ?_
  refine lv_istore (lv' := [(5, .int 0), (4, .int 0), (3, .int x50), (0, .ref (ad a0)), (1, .int a1), (2, .int a2)]) C.1 C.2.1 dX12_layRule_11 hl (by decide) rfl (fun ls hl => ?_)
  refine lv_iconst (v := 0) C.1 C.2.1 dX12_layRule_13 (by decide) ?_
  refine lv_istore (lv' := [(6, .int 0), (5, .int 0), (4, .int 0), (3, .int x50), (0, .ref (ad a0)), (1, .int a1), (2, .int a2)]) C.1 C.2.1 dX12_layRule_14 hl (by decide) rfl (fun ls hl => ?_)
  exact wX12_layRule_16 C  N ha0 hW (lv_sub hl [4, 5, 6, 3, 2, 1, 0] rfl) hf
set_option maxRecDepth 100000 in
set_option maxHeartbeats 4000000 in
theorem tX12_layRule (l : Launch) {D : va_G} {ca ad : Nat → Nat} (hi : Inj ad) {N : Nat} {a0 : Nat} {a1 : Int32} {a2 : Int32} {mm : Mm} {res : Unit × Mm} (ha0 : sX12 a0) (hf : fX12_layRule N a0 a1 a2 mm = some res) : Met l yX12_layRule (WS yX12_layRule cX12_layRule 9 none) (rmX12_layRule) (va_Pc [.ref (ad a0), .int a1, .int a2] (WB D ca ad mm)) (QV D ca ad res) 0 0 (AA ad) := by
  refine x_start hi (by decide) rfl (Nat.le_of_ble_eq_true rfl) (fun p e s m args below meth c ls C hW hl => ?_)
  exact wX12_layRule_0 C ha0 hW (lv_sub hl [0, 1, 2] rfl) hf
set_option maxRecDepth 100000 in
set_option maxHeartbeats 4000000 in
theorem wX12_rule_55 (C : Cx p s m meth c args cX12_rule 5 (some .int) RX12 D ca ad) {res : Int32 × Mm} {N : Nat}  : ∀ (n : Nat) {a0 : Nat} {a2 : Int32} {a3 : Int32} {a4 : Int32} {mm : Mm} {H : Heap} {locs : List Loc} {ls : Array Slot}, (sX12 a0) → Wd D ca ad s.heap mm H locs → lv_has ls 5 [(0, .ref (ad a0)), (2, .int a2), (3, .int a3), (4, .int a4)] → fX12_rule_55 N n a0 a2 a3 a4 mm = some res → W p l e (rmX12_rule) s m args below meth c H locs 0 0 (MQ below (QI D ca ad res) args s 0 0 (AA ad)) (F0 m 55 ls []) := by
  intro n
  induction n with
  | zero => intro a0 a2 a3 a4 mm H locs ls ha0 hW hl hf; cases hf
  | succ n ih =>
    intro a0 a2 a3 a4 mm H locs ls ha0 hW hl hf
    have hk55 : ∀ (a0 : Nat) (a2 : Int32) (a3 : Int32) (a4 : Int32) (mm : Mm) (H : Heap) (locs : List Loc) (ls : Array Slot), (sX12 a0) → Wd D ca ad s.heap mm H locs → lv_has ls 5 [(0, .ref (ad a0)), (2, .int a2), (3, .int a3), (4, .int a4)] → (fX12_rule_55 N n) a0 a2 a3 a4 mm = some res → W p l e (rmX12_rule) s m args below meth c H locs 0 0 (MQ below (QI D ca ad res) args s 0 0 (AA ad)) (F0 m 55 ls []) := fun a0 a2 a3 a4 mm H locs ls ha0 hW hl hf => ih ha0 hW hl hf
    unfold fX12_rule_55 at hf
    try dsimp only at hf
    refine lv_iload C.1 C.2.1 dX12_rule_55 (lv_at hl 3 rfl) ?_
    refine lv_aload_n C.1 C.2.1 dX12_rule_57 rfl (lv_at hl 0 rfl) ?_
    refine x_geti C hW (ha0).1 (ha0).2.1 (j := 10) rfl kX12 (by decide) rfl q_1026 dX12_rule_58 ?_
    refine lv_icmp_ge (tgt := 94) C.1 C.2.1 dX12_rule_61 (by decide) (fun c1 => ?_) (fun c1 => ?_)
    · have hf := if_t c1 hf
      refine lv_iload_n C.1 C.2.1 dX12_rule_94 rfl (lv_at hl 2 rfl) ?_
      cases hf
      exact x_iret C hW dX12_rule_95
    · have hf := if_f c1 hf
      refine lv_aload_n C.1 C.2.1 dX12_rule_64 rfl (lv_at hl 0 rfl) ?_
      refine lv_iload_n C.1 C.2.1 dX12_rule_65 rfl (lv_at hl 1 rfl) ?_
      refine lv_iload C.1 C.2.1 dX12_rule_66 (lv_at hl 3 rfl) ?_
      refine lv_aload_n C.1 C.2.1 dX12_rule_68 rfl (lv_at hl 0 rfl) ?_
      refine x_getr C hW (ha0).1 (ha0).2.1 (j := 20) rfl kX12 (by decide) rfl q_1036 dX12_rule_69 ?_
      refine lv_iload C.1 C.2.1 dX12_rule_72 (lv_at hl 3 rfl) ?_
      obtain ⟨g2, hf⟩ := gd_s hf
      refine x_iald C hW ha0.2.2.2.2.2.2.2.2.2.2.2.2.1 g2 dX12_rule_74 ?_
      obtain ⟨x3, m4, r5, hf⟩ := bd2_s hf
      refine x_cv hW (x_runV C hW [.int a2, .int a4, .int (rd mm (fr a0 20) a4.toNatClampNeg)] [] (ha0).1 (ha0).2.1 kX12.1 kvX12_setRow q_1157 (tX12_setRow l C.2.2.2.2.2.2.1 ha0 r5) rfl rfl ⟨by decide, by decide⟩ rfl hl.1 rfl (Nat.le_of_ble_eq_true rfl) dX12_rule_75) (fun H locs hW => ?_)
      refine lv_iload_n C.1 C.2.1 dX12_rule_78 rfl (lv_at hl 2 rfl) ?_
      refine lv_aload_n C.1 C.2.1 dX12_rule_79 rfl (lv_at hl 0 rfl) ?_
      refine x_getr C hW (ha0).1 (ha0).2.1 (j := 20) rfl kX12 (by decide) rfl q_1036 dX12_rule_80 ?_
      refine lv_iload C.1 C.2.1 dX12_rule_83 (lv_at hl 3 rfl) ?_
      obtain ⟨g6, hf⟩ := gd_s hf
      refine x_iald C hW ha0.2.2.2.2.2.2.2.2.2.2.2.2.1 g6 dX12_rule_85 ?_
      refine lv_iadd C.1 C.2.1 dX12_rule_86 ?_
      refine lv_topi (fun x7 ex7 => ?_)
      have hf := nm_s hf ex7
      refine lv_istore_n (lv' := [(3, .int x7), (0, .ref (ad a0)), (2, .int a2), (4, .int a4)]) C.1 C.2.1 dX12_rule_87 rfl hl (by decide) rfl (fun ls hl => ?_)
      refine lv_iinc (v := (a4 + 1)) (lv' := [(4, .int (a4 + 1)), (3, .int x7), (0, .ref (ad a0)), (2, .int a2)]) C.1 C.2.1 dX12_rule_88 hl (k := 3) rfl rfl (by decide) rfl (fun ls hl => ?_)
      refine lv_goto (tgt := 55) C.1 C.2.1 dX12_rule_91 (by decide) ?_
      exact hk55 _ _ _ _ _ _ _ _ ha0 hW (lv_sub hl [2, 3, 1, 0] rfl) hf
set_option maxRecDepth 100000 in
set_option maxHeartbeats 4000000 in
theorem wX12_rule_0 (C : Cx p s m meth c args cX12_rule 5 (some .int) RX12 D ca ad) {res : Int32 × Mm} {N : Nat}  {a0 : Nat} {a1 : Int32} {a2 : Int32} {mm : Mm} {H : Heap} {locs : List Loc} {ls : Array Slot} (ha0 : sX12 a0) (hW : Wd D ca ad s.heap mm H locs) (hl : lv_has ls 5 [(0, .ref (ad a0)), (1, .int a1), (2, .int a2)]) (hf : fX12_rule N a0 a1 a2 mm = some res) : W p l e (rmX12_rule) s m args below meth c H locs 0 0 (MQ below (QI D ca ad res) args s 0 0 (AA ad)) (F0 m 0 ls []) := by
  unfold fX12_rule at hf
  refine lv_iload_n C.1 C.2.1 dX12_rule_0 rfl (lv_at hl 1 rfl) ?_
  refine lv_iconst (v := 0) C.1 C.2.1 dX12_rule_1 (by decide) ?_
  refine lv_iconst (v := 5) C.1 C.2.1 dX12_rule_2 (by decide) ?_
  obtain ⟨x8, m9, r10, hf⟩ := bd2_s hf
  refine x_ci hW (x_runS C hW [.int a1, .int 0, .int 5] [] kvX12_in q_1150 (tX12_in l C.2.2.2.2.2.2.1  r10) rfl rfl ⟨by decide, by decide⟩ rfl hl.1 rfl (Nat.le_of_ble_eq_true rfl) dX12_rule_3) (fun H locs hW => ?_)
  refine lv_if_eq (tgt := 16) C.1 C.2.1 dX12_rule_6 (by decide) (fun c11 => ?_) (fun c11 => ?_)
  · have hf := if_t c11 hf
    refine lv_iconst (v := (-1)) C.1 C.2.1 dX12_rule_16 (by decide) ?_
    cases hf
    exact x_iret C hW dX12_rule_17
  · have hf := if_f c11 hf
    refine lv_iload_n C.1 C.2.1 dX12_rule_9 rfl (lv_at hl 2 rfl) ?_
    obtain ⟨x12, m13, r14, hf⟩ := bd2_s hf
    refine x_ci hW (x_runS C hW [.int a2] [] kvX12_isRow q_1147 (tX12_isRow l C.2.2.2.2.2.2.1  r14) rfl rfl ⟨by decide, by decide⟩ rfl hl.1 rfl (Nat.le_of_ble_eq_true rfl) dX12_rule_10) (fun H locs hW => ?_)
    refine lv_if_ne (tgt := 18) C.1 C.2.1 dX12_rule_13 (by decide) (fun c15 => ?_) (fun c15 => ?_)
    · have hf := if_f c15 hf
      refine lv_aload_n C.1 C.2.1 dX12_rule_18 rfl (lv_at hl 0 rfl) ?_
      refine x_geti C hW (ha0).1 (ha0).2.1 (j := 10) rfl kX12 (by decide) rfl q_1026 dX12_rule_19 ?_
      refine lv_if_ne (tgt := 31) C.1 C.2.1 dX12_rule_22 (by decide) (fun c16 => ?_) (fun c16 => ?_)
      · have hf := if_f c16 hf
        refine lv_aload_n C.1 C.2.1 dX12_rule_31 rfl (lv_at hl 0 rfl) ?_
        refine lv_iload_n C.1 C.2.1 dX12_rule_32 rfl (lv_at hl 1 rfl) ?_
        refine lv_aload_n C.1 C.2.1 dX12_rule_33 rfl (lv_at hl 0 rfl) ?_
        refine x_geti C hW (ha0).1 (ha0).2.1 (j := 37) rfl kX12 (by decide) rfl q_1053 dX12_rule_34 ?_
        obtain ⟨x17, m18, r19, hf⟩ := bd2_s hf
        refine x_cv hW (x_runV C hW [.int a1, .int (rd m13 a0 37)] [] (ha0).1 (ha0).2.1 kX12.1 kvX12_layRule q_1483 (tX12_layRule l C.2.2.2.2.2.2.1 ha0 r19) rfl rfl ⟨by decide, by decide⟩ rfl hl.1 rfl (Nat.le_of_ble_eq_true rfl) dX12_rule_37) (fun H locs hW => ?_)
        refine lv_aload_n C.1 C.2.1 dX12_rule_40 rfl (lv_at hl 0 rfl) ?_
        refine lv_iload_n C.1 C.2.1 dX12_rule_41 rfl (lv_at hl 2 rfl) ?_
        refine lv_aload_n C.1 C.2.1 dX12_rule_42 rfl (lv_at hl 0 rfl) ?_
        refine x_geti C hW (ha0).1 (ha0).2.1 (j := 10) rfl kX12 (by decide) rfl q_1026 dX12_rule_43 ?_
        obtain ⟨x20, m21, r22, hf⟩ := bd2_s hf
        refine x_ci hW (x_runV C hW [.int a2, .int (rd m18 a0 10)] [] (ha0).1 (ha0).2.1 kX12.1 kvX12_row q_1348 (tX12_row l C.2.2.2.2.2.2.1 ha0 r22) rfl rfl ⟨by decide, by decide⟩ rfl hl.1 rfl (Nat.le_of_ble_eq_true rfl) dX12_rule_46) (fun H locs hW => ?_)
        refine lv_pop C.1 C.2.1 dX12_rule_49 rfl ?_
        refine lv_iconst (v := 0) C.1 C.2.1 dX12_rule_50 (by decide) ?_
        refine lv_istore_n (lv' := [(3, .int 0), (0, .ref (ad a0)), (1, .int a1), (2, .int a2)]) C.1 C.2.1 dX12_rule_51 rfl hl (by decide) rfl (fun ls hl => ?_)
        refine lv_iconst (v := 0) C.1 C.2.1 dX12_rule_52 (by decide) ?_
        refine lv_istore (lv' := [(4, .int 0), (3, .int 0), (0, .ref (ad a0)), (1, .int a1), (2, .int a2)]) C.1 C.2.1 dX12_rule_53 hl (by decide) rfl (fun ls hl => ?_)
        exact wX12_rule_55 C  N ha0 hW (lv_sub hl [2, 4, 1, 0] rfl) hf
      · have hf := if_t c16 hf
        refine lv_aload_n C.1 C.2.1 dX12_rule_25 rfl (lv_at hl 0 rfl) ?_
        refine lv_iconst (v := 4) C.1 C.2.1 dX12_rule_26 (by decide) ?_
        obtain ⟨x23, m24, r25, hf⟩ := bd2_s hf
        refine x_ci hW (x_runV C hW [.int 4] [] (ha0).1 (ha0).2.1 kX12.1 kvX12_meet q_1153 (tX12_meet l C.2.2.2.2.2.2.1 ha0 r25) rfl rfl ⟨by decide, by decide⟩ rfl hl.1 rfl (Nat.le_of_ble_eq_true rfl) dX12_rule_27) (fun H locs hW => ?_)
        cases hf
        exact x_iret C hW dX12_rule_30
    · have hf := if_t c15 hf
      refine lv_iconst (v := (-1)) C.1 C.2.1 dX12_rule_16 (by decide) ?_
      cases hf
      exact x_iret C hW dX12_rule_17
set_option maxRecDepth 100000 in
set_option maxHeartbeats 4000000 in
theorem tX12_rule (l : Launch) {D : va_G} {ca ad : Nat → Nat} (hi : Inj ad) {N : Nat} {a0 : Nat} {a1 : Int32} {a2 : Int32} {mm : Mm} {res : Int32 × Mm} (ha0 : sX12 a0) (hf : fX12_rule N a0 a1 a2 mm = some res) : Met l yX12_rule (WS yX12_rule cX12_rule 5 (some .int)) (rmX12_rule) (va_Pc [.ref (ad a0), .int a1, .int a2] (WB D ca ad mm)) (QI D ca ad res) 0 0 (AA ad) := by
  refine x_start hi (by decide) rfl (Nat.le_of_ble_eq_true rfl) (fun p e s m args below meth c ls C hW hl => ?_)
  exact wX12_rule_0 C ha0 hW (lv_sub hl [0, 1, 2] rfl) hf
set_option maxRecDepth 100000 in
set_option maxHeartbeats 4000000 in
theorem wX12_note_94 (C : Cx p s m meth c args cX12_note 5 (some .int) RX12 D ca ad) {res : Int32 × Mm} {N : Nat} {k53 : Nat → Int32 → Int32 → Int32 → Mm → Option (Int32 × Mm)} (hk53 : ∀ (a0 : Nat) (a1 : Int32) (a2 : Int32) (a4 : Int32) (mm : Mm) (H : Heap) (locs : List Loc) (ls : Array Slot), (sX12 a0) → Wd D ca ad s.heap mm H locs → lv_has ls 5 [(0, .ref (ad a0)), (1, .int a1), (2, .int a2), (4, .int a4)] → k53 a0 a1 a2 a4 mm = some res → W p l e (rmX12_note) s m args below meth c H locs 0 0 (MQ below (QI D ca ad res) args s 0 0 (AA ad)) (F0 m 53 ls [])) {a0 : Nat} {a1 : Int32} {a2 : Int32} {a4 : Int32} {s0 : Nat} {s1 : Int32} {s2 : Int32} {mm : Mm} {H : Heap} {locs : List Loc} {ls : Array Slot} (ha0 : sX12 a0) (hs0 : sI s0) (hW : Wd D ca ad s.heap mm H locs) (hl : lv_has ls 5 [(0, .ref (ad a0)), (1, .int a1), (2, .int a2), (4, .int a4)]) (hf : fX12_note_94 N k53 a0 a1 a2 a4 s0 s1 s2 mm = some res) : W p l e (rmX12_note) s m args below meth c H locs 0 0 (MQ below (QI D ca ad res) args s 0 0 (AA ad)) (F0 m 94 ls [.int s2, .int s1, .ref (ad s0)]) := by
  unfold fX12_note_94 at hf
  obtain ⟨g1, hf⟩ := gd_s hf
  refine x_iast C hW hs0 g1 dX12_note_94 (fun H locs hW => ?_)
  obtain ⟨m2, em2⟩ : ∃ z, z = wr mm s0 s1.toNatClampNeg s2 := ⟨_, rfl⟩
  have hf := nm_s hf em2
  rw [← em2] at hW
  refine lv_iinc (v := (a4 + 1)) (lv' := [(4, .int (a4 + 1)), (0, .ref (ad a0)), (1, .int a1), (2, .int a2)]) C.1 C.2.1 dX12_note_95 hl (k := 3) rfl rfl (by decide) rfl (fun ls hl => ?_)
  refine lv_goto (tgt := 53) C.1 C.2.1 dX12_note_98 (by decide) ?_
  exact hk53 _ _ _ _ _ _ _ _ ha0 hW (lv_sub hl [1, 2, 3, 0] rfl) hf
set_option maxRecDepth 100000 in
set_option maxHeartbeats 4000000 in
theorem wX12_note_53 (C : Cx p s m meth c args cX12_note 5 (some .int) RX12 D ca ad) {res : Int32 × Mm} {N : Nat}  : ∀ (n : Nat) {a0 : Nat} {a1 : Int32} {a2 : Int32} {a4 : Int32} {mm : Mm} {H : Heap} {locs : List Loc} {ls : Array Slot}, (sX12 a0) → Wd D ca ad s.heap mm H locs → lv_has ls 5 [(0, .ref (ad a0)), (1, .int a1), (2, .int a2), (4, .int a4)] → fX12_note_53 N n a0 a1 a2 a4 mm = some res → W p l e (rmX12_note) s m args below meth c H locs 0 0 (MQ below (QI D ca ad res) args s 0 0 (AA ad)) (F0 m 53 ls []) := by
  intro n
  induction n with
  | zero => intro a0 a1 a2 a4 mm H locs ls ha0 hW hl hf; cases hf
  | succ n ih =>
    intro a0 a1 a2 a4 mm H locs ls ha0 hW hl hf
    have hk53 : ∀ (a0 : Nat) (a1 : Int32) (a2 : Int32) (a4 : Int32) (mm : Mm) (H : Heap) (locs : List Loc) (ls : Array Slot), (sX12 a0) → Wd D ca ad s.heap mm H locs → lv_has ls 5 [(0, .ref (ad a0)), (1, .int a1), (2, .int a2), (4, .int a4)] → (fX12_note_53 N n) a0 a1 a2 a4 mm = some res → W p l e (rmX12_note) s m args below meth c H locs 0 0 (MQ below (QI D ca ad res) args s 0 0 (AA ad)) (F0 m 53 ls []) := fun a0 a1 a2 a4 mm H locs ls ha0 hW hl hf => ih ha0 hW hl hf
    unfold fX12_note_53 at hf
    try dsimp only at hf
    refine lv_iload C.1 C.2.1 dX12_note_53 (lv_at hl 3 rfl) ?_
    refine lv_bipush (v := 6) C.1 C.2.1 dX12_note_55 (by decide) ?_
    refine lv_icmp_ge (tgt := 101) C.1 C.2.1 dX12_note_57 (by decide) (fun c3 => ?_) (fun c3 => ?_)
    · have hf := if_t c3 hf
      refine lv_aload_n C.1 C.2.1 dX12_note_101 rfl (lv_at hl 0 rfl) ?_
      refine x_getr C hW (ha0).1 (ha0).2.1 (j := 36) rfl kX12 (by decide) rfl q_1052 dX12_note_102 ?_
      refine lv_bipush (v := 7) C.1 C.2.1 dX12_note_105 (by decide) ?_
      refine lv_aload_n C.1 C.2.1 dX12_note_107 rfl (lv_at hl 0 rfl) ?_
      refine x_geti C hW (ha0).1 (ha0).2.1 (j := 37) rfl kX12 (by decide) rfl q_1053 dX12_note_108 ?_
      refine lv_imul C.1 C.2.1 dX12_note_111 ?_
      refine lv_bipush (v := 6) C.1 C.2.1 dX12_note_112 (by decide) ?_
      refine lv_iadd C.1 C.2.1 dX12_note_114 ?_
      refine lv_iload_n C.1 C.2.1 dX12_note_115 rfl (lv_at hl 2 rfl) ?_
      obtain ⟨g4, hf⟩ := gd_s hf
      refine x_iast C hW ha0.2.2.2.2.2.2.2.2.2.2.2.2.2.2.2.2.2.2.2.1 g4 dX12_note_116 (fun H locs hW => ?_)
      obtain ⟨m5, em5⟩ : ∃ z, z = wr mm (fr a0 36) ((7 * (rd mm a0 37)) + 6).toNatClampNeg a2 := ⟨_, rfl⟩
      have hf := nm_s hf em5
      rw [← em5] at hW
      refine lv_aload_n C.1 C.2.1 dX12_note_117 rfl (lv_at hl 0 rfl) ?_
      refine lv_dup C.1 C.2.1 dX12_note_118 rfl ?_
      refine x_geti C hW (ha0).1 (ha0).2.1 (j := 37) rfl kX12 (by decide) rfl q_1053 dX12_note_119 ?_
      refine lv_iconst (v := 1) C.1 C.2.1 dX12_note_122 (by decide) ?_
      refine lv_iadd C.1 C.2.1 dX12_note_123 ?_
      refine x_put C hW (ha0).1 (ha0).2.1 (j := 37) (t1 := .int) rfl kX12 (by decide) rfl rfl q_1053 (by decide +kernel) rfl rfl dX12_note_124 (fun H locs hW => ?_)
      obtain ⟨m6, em6⟩ : ∃ z, z = wr m5 a0 37 ((rd m5 a0 37) + 1) := ⟨_, rfl⟩
      have hf := nm_s hf em6
      rw [← em6] at hW
      refine lv_aload_n C.1 C.2.1 dX12_note_127 rfl (lv_at hl 0 rfl) ?_
      refine x_geti C hW (ha0).1 (ha0).2.1 (j := 37) rfl kX12 (by decide) rfl q_1053 dX12_note_128 ?_
      refine lv_iconst (v := 1) C.1 C.2.1 dX12_note_131 (by decide) ?_
      refine lv_isub C.1 C.2.1 dX12_note_132 ?_
      cases hf
      exact x_iret C hW dX12_note_133
    · have hf := if_f c3 hf
      refine lv_aload_n C.1 C.2.1 dX12_note_60 rfl (lv_at hl 0 rfl) ?_
      refine x_getr C hW (ha0).1 (ha0).2.1 (j := 36) rfl kX12 (by decide) rfl q_1052 dX12_note_61 ?_
      refine lv_bipush (v := 7) C.1 C.2.1 dX12_note_64 (by decide) ?_
      refine lv_aload_n C.1 C.2.1 dX12_note_66 rfl (lv_at hl 0 rfl) ?_
      refine x_geti C hW (ha0).1 (ha0).2.1 (j := 37) rfl kX12 (by decide) rfl q_1053 dX12_note_67 ?_
      refine lv_imul C.1 C.2.1 dX12_note_70 ?_
      refine lv_iload C.1 C.2.1 dX12_note_71 (lv_at hl 3 rfl) ?_
      refine lv_iadd C.1 C.2.1 dX12_note_73 ?_
      refine lv_iload C.1 C.2.1 dX12_note_74 (lv_at hl 3 rfl) ?_
      refine lv_aload_n C.1 C.2.1 dX12_note_76 rfl (lv_at hl 0 rfl) ?_
      refine x_geti C hW (ha0).1 (ha0).2.1 (j := 10) rfl kX12 (by decide) rfl q_1026 dX12_note_77 ?_
      refine lv_icmp_ge (tgt := 93) C.1 C.2.1 dX12_note_80 (by decide) (fun c7 => ?_) (fun c7 => ?_)
      · have hf := if_t c7 hf
        refine lv_iconst (v := 0) C.1 C.2.1 dX12_note_93 (by decide) ?_
        exact wX12_note_94 C hk53 ha0 ha0.2.2.2.2.2.2.2.2.2.2.2.2.2.2.2.2.2.2.2.1 hW (lv_sub hl [0, 1, 2, 3] rfl) hf
      · have hf := if_f c7 hf
        refine lv_aload_n C.1 C.2.1 dX12_note_83 rfl (lv_at hl 0 rfl) ?_
        refine lv_iload_n C.1 C.2.1 dX12_note_84 rfl (lv_at hl 1 rfl) ?_
        refine lv_iload C.1 C.2.1 dX12_note_85 (lv_at hl 3 rfl) ?_
        obtain ⟨x8, m9, r10, hf⟩ := bd2_s hf
        refine x_ci hW (x_runV C hW [.int a1, .int a4] [.int ((7 * (rd mm a0 37)) + a4), .ref (ad (fr a0 36))] (ha0).1 (ha0).2.1 kX12.1 kvX12_rowAt q_1169 (tX12_rowAt l C.2.2.2.2.2.2.1 ha0 r10) rfl rfl ⟨by decide, by decide⟩ rfl hl.1 rfl (Nat.le_of_ble_eq_true rfl) dX12_note_87) (fun H locs hW => ?_)
        refine lv_goto (tgt := 94) C.1 C.2.1 dX12_note_90 (by decide) ?_
        exact wX12_note_94 C hk53 ha0 ha0.2.2.2.2.2.2.2.2.2.2.2.2.2.2.2.2.2.2.2.1 hW (lv_sub hl [0, 1, 2, 3] rfl) hf
set_option maxRecDepth 100000 in
set_option maxHeartbeats 4000000 in
theorem wX12_note_0 (C : Cx p s m meth c args cX12_note 5 (some .int) RX12 D ca ad) {res : Int32 × Mm} {N : Nat}  {a0 : Nat} {a1 : Int32} {a2 : Int32} {mm : Mm} {H : Heap} {locs : List Loc} {ls : Array Slot} (ha0 : sX12 a0) (hW : Wd D ca ad s.heap mm H locs) (hl : lv_has ls 5 [(0, .ref (ad a0)), (1, .int a1), (2, .int a2)]) (hf : fX12_note N a0 a1 a2 mm = some res) : W p l e (rmX12_note) s m args below meth c H locs 0 0 (MQ below (QI D ca ad res) args s 0 0 (AA ad)) (F0 m 0 ls []) := by
  unfold fX12_note at hf
  refine lv_iload_n C.1 C.2.1 dX12_note_0 rfl (lv_at hl 1 rfl) ?_
  obtain ⟨x11, m12, r13, hf⟩ := bd2_s hf
  refine x_ci hW (x_runS C hW [.int a1] [] kvX12_isRow q_1147 (tX12_isRow l C.2.2.2.2.2.2.1  r13) rfl rfl ⟨by decide, by decide⟩ rfl hl.1 rfl (Nat.le_of_ble_eq_true rfl) dX12_note_1) (fun H locs hW => ?_)
  refine lv_if_eq (tgt := 23) C.1 C.2.1 dX12_note_4 (by decide) (fun c14 => ?_) (fun c14 => ?_)
  · have hf := if_t c14 hf
    refine lv_iconst (v := (-1)) C.1 C.2.1 dX12_note_23 (by decide) ?_
    cases hf
    exact x_iret C hW dX12_note_24
  · have hf := if_f c14 hf
    refine lv_iload_n C.1 C.2.1 dX12_note_7 rfl (lv_at hl 2 rfl) ?_
    refine lv_iconst (v := 0) C.1 C.2.1 dX12_note_8 (by decide) ?_
    refine lv_iconst (v := 1) C.1 C.2.1 dX12_note_9 (by decide) ?_
    refine lv_aload_n C.1 C.2.1 dX12_note_10 rfl (lv_at hl 0 rfl) ?_
    refine x_geti C hW (ha0).1 (ha0).2.1 (j := 10) rfl kX12 (by decide) rfl q_1026 dX12_note_11 ?_
    refine lv_ishl C.1 C.2.1 dX12_note_14 ?_
    refine lv_iconst (v := 1) C.1 C.2.1 dX12_note_15 (by decide) ?_
    refine lv_isub C.1 C.2.1 dX12_note_16 ?_
    obtain ⟨x15, m16, r17, hf⟩ := bd2_s hf
    refine x_ci hW (x_runS C hW [.int a2, .int 0, .int (((1 : Int32) <<< ((rd m12 a0 10) &&& 31)) - 1)] [] kvX12_in q_1150 (tX12_in l C.2.2.2.2.2.2.1  r17) rfl rfl ⟨by decide, by decide⟩ rfl hl.1 rfl (Nat.le_of_ble_eq_true rfl) dX12_note_17) (fun H locs hW => ?_)
    refine lv_if_ne (tgt := 25) C.1 C.2.1 dX12_note_20 (by decide) (fun c18 => ?_) (fun c18 => ?_)
    · have hf := if_f c18 hf
      refine lv_aload_n C.1 C.2.1 dX12_note_25 rfl (lv_at hl 0 rfl) ?_
      refine lv_iload_n C.1 C.2.1 dX12_note_26 rfl (lv_at hl 1 rfl) ?_
      refine lv_iconst (v := 0) C.1 C.2.1 dX12_note_27 (by decide) ?_
      obtain ⟨x19, m20, r21, hf⟩ := bd2_s hf
      refine x_ci hW (x_runV C hW [.int a1, .int 0] [] (ha0).1 (ha0).2.1 kX12.1 kvX12_askedLaying q_1320 (tX12_askedLaying l C.2.2.2.2.2.2.1 ha0 r21) rfl rfl ⟨by decide, by decide⟩ rfl hl.1 rfl (Nat.le_of_ble_eq_true rfl) dX12_note_28) (fun H locs hW => ?_)
      refine lv_istore_n (lv' := [(3, .int x19), (0, .ref (ad a0)), (1, .int a1), (2, .int a2)]) C.1 C.2.1 dX12_note_31 rfl hl (by decide) rfl (fun ls hl => ?_)
      refine lv_iload_n C.1 C.2.1 dX12_note_32 rfl (lv_at hl 0 rfl) ?_
      refine lv_if_ge (tgt := 38) C.1 C.2.1 dX12_note_33 (by decide) (fun c22 => ?_) (fun c22 => ?_)
      · have hf := if_t c22 hf
        refine lv_aload_n C.1 C.2.1 dX12_note_38 rfl (lv_at hl 1 rfl) ?_
        refine x_geti C hW (ha0).1 (ha0).2.1 (j := 37) rfl kX12 (by decide) rfl q_1053 dX12_note_39 ?_
        refine lv_bipush (v := 8) C.1 C.2.1 dX12_note_42 (by decide) ?_
        refine lv_icmp_ne (tgt := 50) C.1 C.2.1 dX12_note_44 (by decide) (fun c23 => ?_) (fun c23 => ?_)
        · have hf := if_f c23 hf
          refine lv_iconst (v := 0) C.1 C.2.1 dX12_note_50 (by decide) ?_
          refine lv_istore (lv' := [(4, .int 0), (3, .int x19), (0, .ref (ad a0)), (1, .int a1), (2, .int a2)]) C.1 C.2.1 dX12_note_51 hl (by decide) rfl (fun ls hl => ?_)
          exact wX12_note_53 C  N ha0 hW (lv_sub hl [2, 3, 4, 0] rfl) hf
        · have hf := if_t c23 hf
          refine lv_bipush (v := (-2)) C.1 C.2.1 dX12_note_47 (by decide) ?_
          cases hf
          exact x_iret C hW dX12_note_49
      · have hf := if_f c22 hf
        refine lv_iload_n C.1 C.2.1 dX12_note_36 rfl (lv_at hl 0 rfl) ?_
        cases hf
        exact x_iret C hW dX12_note_37
    · have hf := if_t c18 hf
      refine lv_iconst (v := (-1)) C.1 C.2.1 dX12_note_23 (by decide) ?_
      cases hf
      exact x_iret C hW dX12_note_24
set_option maxRecDepth 100000 in
set_option maxHeartbeats 4000000 in
theorem tX12_note (l : Launch) {D : va_G} {ca ad : Nat → Nat} (hi : Inj ad) {N : Nat} {a0 : Nat} {a1 : Int32} {a2 : Int32} {mm : Mm} {res : Int32 × Mm} (ha0 : sX12 a0) (hf : fX12_note N a0 a1 a2 mm = some res) : Met l yX12_note (WS yX12_note cX12_note 5 (some .int)) (rmX12_note) (va_Pc [.ref (ad a0), .int a1, .int a2] (WB D ca ad mm)) (QI D ca ad res) 0 0 (AA ad) := by
  refine x_start hi (by decide) rfl (Nat.le_of_ble_eq_true rfl) (fun p e s m args below meth c ls C hW hl => ?_)
  exact wX12_note_0 C ha0 hW (lv_sub hl [0, 1, 2] rfl) hf
set_option maxRecDepth 100000 in
set_option maxHeartbeats 4000000 in
theorem wX12_back_0 (C : Cx p s m meth c args cX12_back 3 (some .int) RX12 D ca ad) {res : Int32 × Mm} {N : Nat}  {a0 : Nat} {a1 : Int32} {mm : Mm} {H : Heap} {locs : List Loc} {ls : Array Slot} (ha0 : sX12 a0) (hW : Wd D ca ad s.heap mm H locs) (hl : lv_has ls 3 [(0, .ref (ad a0)), (1, .int a1)]) (hf : fX12_back N a0 a1 mm = some res) : W p l e (rmX12_back) s m args below meth c H locs 0 0 (MQ below (QI D ca ad res) args s 0 0 (AA ad)) (F0 m 0 ls []) := by
  unfold fX12_back at hf
  refine lv_iload_n C.1 C.2.1 dX12_back_0 rfl (lv_at hl 1 rfl) ?_
  refine lv_iconst (v := 0) C.1 C.2.1 dX12_back_1 (by decide) ?_
  refine lv_aload_n C.1 C.2.1 dX12_back_2 rfl (lv_at hl 0 rfl) ?_
  refine x_geti C hW (ha0).1 (ha0).2.1 (j := 37) rfl kX12 (by decide) rfl q_1053 dX12_back_3 ?_
  obtain ⟨x1, m2, r3, hf⟩ := bd2_s hf
  refine x_ci hW (x_runS C hW [.int a1, .int 0, .int (rd mm a0 37)] [] kvX12_in q_1150 (tX12_in l C.2.2.2.2.2.2.1  r3) rfl rfl ⟨by decide, by decide⟩ rfl hl.1 rfl (Nat.le_of_ble_eq_true rfl) dX12_back_6) (fun H locs hW => ?_)
  refine lv_if_ne (tgt := 14) C.1 C.2.1 dX12_back_9 (by decide) (fun c4 => ?_) (fun c4 => ?_)
  · have hf := if_f c4 hf
    refine lv_aload_n C.1 C.2.1 dX12_back_14 rfl (lv_at hl 0 rfl) ?_
    refine x_geti C hW (ha0).1 (ha0).2.1 (j := 37) rfl kX12 (by decide) rfl q_1053 dX12_back_15 ?_
    refine lv_iload_n C.1 C.2.1 dX12_back_18 rfl (lv_at hl 1 rfl) ?_
    refine lv_isub C.1 C.2.1 dX12_back_19 ?_
    refine lv_istore_n (lv' := [(2, .int ((rd m2 a0 37) - a1)), (0, .ref (ad a0)), (1, .int a1)]) C.1 C.2.1 dX12_back_20 rfl hl (by decide) rfl (fun ls hl => ?_)
    refine lv_aload_n C.1 C.2.1 dX12_back_21 rfl (lv_at hl 1 rfl) ?_
    refine lv_iload_n C.1 C.2.1 dX12_back_22 rfl (lv_at hl 2 rfl) ?_
    refine x_put C hW (ha0).1 (ha0).2.1 (j := 37) (t1 := .int) rfl kX12 (by decide) rfl rfl q_1053 (by decide +kernel) rfl rfl dX12_back_23 (fun H locs hW => ?_)
    obtain ⟨m5, em5⟩ : ∃ z, z = wr m2 a0 37 a1 := ⟨_, rfl⟩
    have hf := nm_s hf em5
    rw [← em5] at hW
    refine lv_iload_n C.1 C.2.1 dX12_back_26 rfl (lv_at hl 0 rfl) ?_
    cases hf
    exact x_iret C hW dX12_back_27
  · have hf := if_t c4 hf
    refine lv_iconst (v := (-1)) C.1 C.2.1 dX12_back_12 (by decide) ?_
    cases hf
    exact x_iret C hW dX12_back_13
set_option maxRecDepth 100000 in
set_option maxHeartbeats 4000000 in
theorem tX12_back (l : Launch) {D : va_G} {ca ad : Nat → Nat} (hi : Inj ad) {N : Nat} {a0 : Nat} {a1 : Int32} {mm : Mm} {res : Int32 × Mm} (ha0 : sX12 a0) (hf : fX12_back N a0 a1 mm = some res) : Met l yX12_back (WS yX12_back cX12_back 3 (some .int)) (rmX12_back) (va_Pc [.ref (ad a0), .int a1] (WB D ca ad mm)) (QI D ca ad res) 0 0 (AA ad) := by
  refine x_start hi (by decide) rfl (Nat.le_of_ble_eq_true rfl) (fun p e s m args below meth c ls C hW hl => ?_)
  exact wX12_back_0 C ha0 hW (lv_sub hl [0, 1] rfl) hf
set_option maxRecDepth 100000 in
set_option maxHeartbeats 4000000 in
theorem wX12_fits_18 (C : Cx p s m meth c args cX12_fits 4 (some .boolean) RX12 D ca ad) {res : Int32 × Mm} {N : Nat} {k2 : Nat → Int32 → Int32 → Mm → Option (Int32 × Mm)} (hk2 : ∀ (a0 : Nat) (a1 : Int32) (a2 : Int32) (mm : Mm) (H : Heap) (locs : List Loc) (ls : Array Slot), (sX12 a0) → Wd D ca ad s.heap mm H locs → lv_has ls 4 [(0, .ref (ad a0)), (1, .int a1), (2, .int a2)] → k2 a0 a1 a2 mm = some res → W p l e (rmX12_fits) s m args below meth c H locs 0 0 (MQ below (QI D ca ad res) args s 0 0 (AA ad)) (F0 m 2 ls [])) : ∀ (n : Nat) {a0 : Nat} {a1 : Int32} {a2 : Int32} {a3 : Int32} {mm : Mm} {H : Heap} {locs : List Loc} {ls : Array Slot}, (sX12 a0) → Wd D ca ad s.heap mm H locs → lv_has ls 4 [(0, .ref (ad a0)), (1, .int a1), (2, .int a2), (3, .int a3)] → fX12_fits_18 N k2 n a0 a1 a2 a3 mm = some res → W p l e (rmX12_fits) s m args below meth c H locs 0 0 (MQ below (QI D ca ad res) args s 0 0 (AA ad)) (F0 m 18 ls []) := by
  intro n
  induction n with
  | zero => intro a0 a1 a2 a3 mm H locs ls ha0 hW hl hf; cases hf
  | succ n ih =>
    intro a0 a1 a2 a3 mm H locs ls ha0 hW hl hf
    have hk18 : ∀ (a0 : Nat) (a1 : Int32) (a2 : Int32) (a3 : Int32) (mm : Mm) (H : Heap) (locs : List Loc) (ls : Array Slot), (sX12 a0) → Wd D ca ad s.heap mm H locs → lv_has ls 4 [(0, .ref (ad a0)), (1, .int a1), (2, .int a2), (3, .int a3)] → (fX12_fits_18 N k2 n) a0 a1 a2 a3 mm = some res → W p l e (rmX12_fits) s m args below meth c H locs 0 0 (MQ below (QI D ca ad res) args s 0 0 (AA ad)) (F0 m 18 ls []) := fun a0 a1 a2 a3 mm H locs ls ha0 hW hl hf => ih ha0 hW hl hf
    unfold fX12_fits_18 at hf
    try dsimp only at hf
    refine lv_iload_n C.1 C.2.1 dX12_fits_18 rfl (lv_at hl 3 rfl) ?_
    refine lv_aload_n C.1 C.2.1 dX12_fits_19 rfl (lv_at hl 0 rfl) ?_
    refine x_geti C hW (ha0).1 (ha0).2.1 (j := 10) rfl kX12 (by decide) rfl q_1026 dX12_fits_20 ?_
    refine lv_icmp_ge (tgt := 49) C.1 C.2.1 dX12_fits_23 (by decide) (fun c1 => ?_) (fun c1 => ?_)
    · have hf := if_t c1 hf
      refine lv_aload_n C.1 C.2.1 dX12_fits_49 rfl (lv_at hl 0 rfl) ?_
      obtain ⟨x2, m3, r4, hf⟩ := bd2_s hf
      refine x_cv hW (x_runV C hW [] [] (ha0).1 (ha0).2.1 kX12.1 kvX12_setWinners q_1292 (tX12_setWinners l C.2.2.2.2.2.2.1 ha0 r4) rfl rfl ⟨by decide, by decide⟩ rfl hl.1 rfl (Nat.le_of_ble_eq_true rfl) dX12_fits_50) (fun H locs hW => ?_)
      refine lv_aload_n C.1 C.2.1 dX12_fits_53 rfl (lv_at hl 0 rfl) ?_
      obtain ⟨x5, m6, r7, hf⟩ := bd2_s hf
      refine x_ci hW (x_runV C hW [] [] (ha0).1 (ha0).2.1 kX12.1 kvX12_wonSet q_1507 (tX12_wonSet l C.2.2.2.2.2.2.1 ha0 r7) rfl rfl ⟨by decide, by decide⟩ rfl hl.1 rfl (Nat.le_of_ble_eq_true rfl) dX12_fits_54) (fun H locs hW => ?_)
      refine lv_aload_n C.1 C.2.1 dX12_fits_57 rfl (lv_at hl 0 rfl) ?_
      refine x_getr C hW (ha0).1 (ha0).2.1 (j := 36) rfl kX12 (by decide) rfl q_1052 dX12_fits_58 ?_
      refine lv_bipush (v := 7) C.1 C.2.1 dX12_fits_61 (by decide) ?_
      refine lv_iload_n C.1 C.2.1 dX12_fits_63 rfl (lv_at hl 2 rfl) ?_
      refine lv_imul C.1 C.2.1 dX12_fits_64 ?_
      refine lv_bipush (v := 6) C.1 C.2.1 dX12_fits_65 (by decide) ?_
      refine lv_iadd C.1 C.2.1 dX12_fits_67 ?_
      obtain ⟨g8, hf⟩ := gd_s hf
      refine x_iald C hW ha0.2.2.2.2.2.2.2.2.2.2.2.2.2.2.2.2.2.2.2.1 g8 dX12_fits_68 ?_
      refine lv_icmp_eq (tgt := 74) C.1 C.2.1 dX12_fits_69 (by decide) (fun c9 => ?_) (fun c9 => ?_)
      · have hf := if_t c9 hf
        refine lv_iinc (v := (a2 + 1)) (lv' := [(2, .int (a2 + 1)), (0, .ref (ad a0)), (1, .int a1), (3, .int a3)]) C.1 C.2.1 dX12_fits_74 hl (k := 2) rfl rfl (by decide) rfl (fun ls hl => ?_)
        refine lv_goto (tgt := 2) C.1 C.2.1 dX12_fits_77 (by decide) ?_
        exact hk2 _ _ _ _ _ _ _ ha0 hW (lv_sub hl [1, 2, 0] rfl) hf
      · have hf := if_f c9 hf
        refine lv_iconst (v := 0) C.1 C.2.1 dX12_fits_72 (by decide) ?_
        cases hf
        exact x_zret C hW (by decide) dX12_fits_73
    · have hf := if_f c1 hf
      refine lv_aload_n C.1 C.2.1 dX12_fits_26 rfl (lv_at hl 0 rfl) ?_
      refine x_getr C hW (ha0).1 (ha0).2.1 (j := 19) rfl kX12 (by decide) rfl q_1035 dX12_fits_27 ?_
      refine lv_iload_n C.1 C.2.1 dX12_fits_30 rfl (lv_at hl 3 rfl) ?_
      refine lv_aload_n C.1 C.2.1 dX12_fits_31 rfl (lv_at hl 0 rfl) ?_
      refine x_getr C hW (ha0).1 (ha0).2.1 (j := 36) rfl kX12 (by decide) rfl q_1052 dX12_fits_32 ?_
      refine lv_bipush (v := 7) C.1 C.2.1 dX12_fits_35 (by decide) ?_
      refine lv_iload_n C.1 C.2.1 dX12_fits_37 rfl (lv_at hl 2 rfl) ?_
      refine lv_imul C.1 C.2.1 dX12_fits_38 ?_
      refine lv_iload_n C.1 C.2.1 dX12_fits_39 rfl (lv_at hl 3 rfl) ?_
      refine lv_iadd C.1 C.2.1 dX12_fits_40 ?_
      obtain ⟨g10, hf⟩ := gd_s hf
      refine x_iald C hW ha0.2.2.2.2.2.2.2.2.2.2.2.2.2.2.2.2.2.2.2.1 g10 dX12_fits_41 ?_
      obtain ⟨g11, hf⟩ := gd_s hf
      refine x_iast C hW ha0.2.2.2.2.2.2.2.2.2.2.2.1 g11 dX12_fits_42 (fun H locs hW => ?_)
      obtain ⟨m12, em12⟩ : ∃ z, z = wr mm (fr a0 19) a3.toNatClampNeg (rd mm (fr a0 36) (((7 * a2) + a3).toNatClampNeg)) := ⟨_, rfl⟩
      have hf := nm_s hf em12
      rw [← em12] at hW
      refine lv_iinc (v := (a3 + 1)) (lv' := [(3, .int (a3 + 1)), (0, .ref (ad a0)), (1, .int a1), (2, .int a2)]) C.1 C.2.1 dX12_fits_43 hl (k := 3) rfl rfl (by decide) rfl (fun ls hl => ?_)
      refine lv_goto (tgt := 18) C.1 C.2.1 dX12_fits_46 (by decide) ?_
      exact hk18 _ _ _ _ _ _ _ _ ha0 hW (lv_sub hl [1, 2, 3, 0] rfl) hf
set_option maxRecDepth 100000 in
set_option maxHeartbeats 4000000 in
theorem wX12_fits_2 (C : Cx p s m meth c args cX12_fits 4 (some .boolean) RX12 D ca ad) {res : Int32 × Mm} {N : Nat}  : ∀ (n : Nat) {a0 : Nat} {a1 : Int32} {a2 : Int32} {mm : Mm} {H : Heap} {locs : List Loc} {ls : Array Slot}, (sX12 a0) → Wd D ca ad s.heap mm H locs → lv_has ls 4 [(0, .ref (ad a0)), (1, .int a1), (2, .int a2)] → fX12_fits_2 N n a0 a1 a2 mm = some res → W p l e (rmX12_fits) s m args below meth c H locs 0 0 (MQ below (QI D ca ad res) args s 0 0 (AA ad)) (F0 m 2 ls []) := by
  intro n
  induction n with
  | zero => intro a0 a1 a2 mm H locs ls ha0 hW hl hf; cases hf
  | succ n ih =>
    intro a0 a1 a2 mm H locs ls ha0 hW hl hf
    have hk2 : ∀ (a0 : Nat) (a1 : Int32) (a2 : Int32) (mm : Mm) (H : Heap) (locs : List Loc) (ls : Array Slot), (sX12 a0) → Wd D ca ad s.heap mm H locs → lv_has ls 4 [(0, .ref (ad a0)), (1, .int a1), (2, .int a2)] → (fX12_fits_2 N n) a0 a1 a2 mm = some res → W p l e (rmX12_fits) s m args below meth c H locs 0 0 (MQ below (QI D ca ad res) args s 0 0 (AA ad)) (F0 m 2 ls []) := fun a0 a1 a2 mm H locs ls ha0 hW hl hf => ih ha0 hW hl hf
    unfold fX12_fits_2 at hf
    try dsimp only at hf
    refine lv_iload_n C.1 C.2.1 dX12_fits_2 rfl (lv_at hl 2 rfl) ?_
    refine lv_aload_n C.1 C.2.1 dX12_fits_3 rfl (lv_at hl 0 rfl) ?_
    refine x_geti C hW (ha0).1 (ha0).2.1 (j := 37) rfl kX12 (by decide) rfl q_1053 dX12_fits_4 ?_
    refine lv_icmp_ge (tgt := 80) C.1 C.2.1 dX12_fits_7 (by decide) (fun c13 => ?_) (fun c13 => ?_)
    · have hf := if_t c13 hf
      refine lv_iconst (v := 1) C.1 C.2.1 dX12_fits_80 (by decide) ?_
      cases hf
      exact x_zret C hW (by decide) dX12_fits_81
    · have hf := if_f c13 hf
      refine lv_aload_n C.1 C.2.1 dX12_fits_10 rfl (lv_at hl 0 rfl) ?_
      refine lv_iload_n C.1 C.2.1 dX12_fits_11 rfl (lv_at hl 1 rfl) ?_
      refine lv_iload_n C.1 C.2.1 dX12_fits_12 rfl (lv_at hl 2 rfl) ?_
      obtain ⟨x14, m15, r16, hf⟩ := bd2_s hf
      refine x_cv hW (x_runV C hW [.int a1, .int a2] [] (ha0).1 (ha0).2.1 kX12.1 kvX12_layRule q_1483 (tX12_layRule l C.2.2.2.2.2.2.1 ha0 r16) rfl rfl ⟨by decide, by decide⟩ rfl hl.1 rfl (Nat.le_of_ble_eq_true rfl) dX12_fits_13) (fun H locs hW => ?_)
      refine lv_iconst (v := 0) C.1 C.2.1 dX12_fits_16 (by decide) ?_
      refine lv_istore_n (lv' := [(3, .int 0), (0, .ref (ad a0)), (1, .int a1), (2, .int a2)]) C.1 C.2.1 dX12_fits_17 rfl hl (by decide) rfl (fun ls hl => ?_)
      exact wX12_fits_18 C hk2 N ha0 hW (lv_sub hl [1, 2, 3, 0] rfl) hf
set_option maxRecDepth 100000 in
set_option maxHeartbeats 4000000 in
theorem wX12_fits_0 (C : Cx p s m meth c args cX12_fits 4 (some .boolean) RX12 D ca ad) {res : Int32 × Mm} {N : Nat}  {a0 : Nat} {a1 : Int32} {mm : Mm} {H : Heap} {locs : List Loc} {ls : Array Slot} (ha0 : sX12 a0) (hW : Wd D ca ad s.heap mm H locs) (hl : lv_has ls 4 [(0, .ref (ad a0)), (1, .int a1)]) (hf : fX12_fits N a0 a1 mm = some res) : W p l e (rmX12_fits) s m args below meth c H locs 0 0 (MQ below (QI D ca ad res) args s 0 0 (AA ad)) (F0 m 0 ls []) := by
  unfold fX12_fits at hf
  refine lv_iconst (v := 0) C.1 C.2.1 dX12_fits_0 (by decide) ?_
  refine lv_istore_n (lv' := [(2, .int 0), (0, .ref (ad a0)), (1, .int a1)]) C.1 C.2.1 dX12_fits_1 rfl hl (by decide) rfl (fun ls hl => ?_)
  exact wX12_fits_2 C  N ha0 hW (lv_sub hl [1, 2, 0] rfl) hf
set_option maxRecDepth 100000 in
set_option maxHeartbeats 4000000 in
theorem tX12_fits (l : Launch) {D : va_G} {ca ad : Nat → Nat} (hi : Inj ad) {N : Nat} {a0 : Nat} {a1 : Int32} {mm : Mm} {res : Int32 × Mm} (ha0 : sX12 a0) (hf : fX12_fits N a0 a1 mm = some res) : Met l yX12_fits (WS yX12_fits cX12_fits 4 (some .boolean)) (rmX12_fits) (va_Pc [.ref (ad a0), .int a1] (WB D ca ad mm)) (QI D ca ad res) 0 0 (AA ad) := by
  refine x_start hi (by decide) rfl (Nat.le_of_ble_eq_true rfl) (fun p e s m args below meth c ls C hW hl => ?_)
  exact wX12_fits_0 C ha0 hW (lv_sub hl [0, 1] rfl) hf
set_option maxRecDepth 100000 in
set_option maxHeartbeats 4000000 in
theorem wX12_fitting_26 (C : Cx p s m meth c args cX12_fitting 3 (some .int) RX12 D ca ad) {res : Int32 × Mm} {N : Nat} {k4 : Nat → Int32 → Int32 → Mm → Option (Int32 × Mm)} (hk4 : ∀ (a0 : Nat) (a1 : Int32) (a2 : Int32) (mm : Mm) (H : Heap) (locs : List Loc) (ls : Array Slot), (sX12 a0) → Wd D ca ad s.heap mm H locs → lv_has ls 3 [(0, .ref (ad a0)), (1, .int a1), (2, .int a2)] → k4 a0 a1 a2 mm = some res → W p l e (rmX12_fitting) s m args below meth c H locs 0 0 (MQ below (QI D ca ad res) args s 0 0 (AA ad)) (F0 m 4 ls [])) {a0 : Nat} {a2 : Int32} {s0 : Int32} {s1 : Int32} {mm : Mm} {H : Heap} {locs : List Loc} {ls : Array Slot} (ha0 : sX12 a0) (hW : Wd D ca ad s.heap mm H locs) (hl : lv_has ls 3 [(0, .ref (ad a0)), (2, .int a2)]) (hf : fX12_fitting_26 N k4 a0 a2 s0 s1 mm = some res) : W p l e (rmX12_fitting) s m args below meth c H locs 0 0 (MQ below (QI D ca ad res) args s 0 0 (AA ad)) (F0 m 26 ls [.int s1, .int s0]) := by
  unfold fX12_fitting_26 at hf
  refine lv_ior C.1 C.2.1 dX12_fitting_26 ?_
  refine lv_istore_n (lv' := [(1, .int (s0 ||| s1)), (0, .ref (ad a0)), (2, .int a2)]) C.1 C.2.1 dX12_fitting_27 rfl hl (by decide) rfl (fun ls hl => ?_)
  refine lv_iinc (v := (a2 + 1)) (lv' := [(2, .int (a2 + 1)), (1, .int (s0 ||| s1)), (0, .ref (ad a0))]) C.1 C.2.1 dX12_fitting_28 hl (k := 2) rfl rfl (by decide) rfl (fun ls hl => ?_)
  refine lv_goto (tgt := 4) C.1 C.2.1 dX12_fitting_31 (by decide) ?_
  exact hk4 _ _ _ _ _ _ _ ha0 hW (lv_sub hl [2, 1, 0] rfl) hf
set_option maxRecDepth 100000 in
set_option maxHeartbeats 4000000 in
theorem wX12_fitting_4 (C : Cx p s m meth c args cX12_fitting 3 (some .int) RX12 D ca ad) {res : Int32 × Mm} {N : Nat}  : ∀ (n : Nat) {a0 : Nat} {a1 : Int32} {a2 : Int32} {mm : Mm} {H : Heap} {locs : List Loc} {ls : Array Slot}, (sX12 a0) → Wd D ca ad s.heap mm H locs → lv_has ls 3 [(0, .ref (ad a0)), (1, .int a1), (2, .int a2)] → fX12_fitting_4 N n a0 a1 a2 mm = some res → W p l e (rmX12_fitting) s m args below meth c H locs 0 0 (MQ below (QI D ca ad res) args s 0 0 (AA ad)) (F0 m 4 ls []) := by
  intro n
  induction n with
  | zero => intro a0 a1 a2 mm H locs ls ha0 hW hl hf; cases hf
  | succ n ih =>
    intro a0 a1 a2 mm H locs ls ha0 hW hl hf
    have hk4 : ∀ (a0 : Nat) (a1 : Int32) (a2 : Int32) (mm : Mm) (H : Heap) (locs : List Loc) (ls : Array Slot), (sX12 a0) → Wd D ca ad s.heap mm H locs → lv_has ls 3 [(0, .ref (ad a0)), (1, .int a1), (2, .int a2)] → (fX12_fitting_4 N n) a0 a1 a2 mm = some res → W p l e (rmX12_fitting) s m args below meth c H locs 0 0 (MQ below (QI D ca ad res) args s 0 0 (AA ad)) (F0 m 4 ls []) := fun a0 a1 a2 mm H locs ls ha0 hW hl hf => ih ha0 hW hl hf
    unfold fX12_fitting_4 at hf
    try dsimp only at hf
    refine lv_iload_n C.1 C.2.1 dX12_fitting_4 rfl (lv_at hl 2 rfl) ?_
    refine lv_bipush (v := 6) C.1 C.2.1 dX12_fitting_5 (by decide) ?_
    refine lv_icmp_ge (tgt := 34) C.1 C.2.1 dX12_fitting_7 (by decide) (fun c1 => ?_) (fun c1 => ?_)
    · have hf := if_t c1 hf
      refine lv_iload_n C.1 C.2.1 dX12_fitting_34 rfl (lv_at hl 1 rfl) ?_
      cases hf
      exact x_iret C hW dX12_fitting_35
    · have hf := if_f c1 hf
      refine lv_iload_n C.1 C.2.1 dX12_fitting_10 rfl (lv_at hl 1 rfl) ?_
      refine lv_aload_n C.1 C.2.1 dX12_fitting_11 rfl (lv_at hl 0 rfl) ?_
      refine lv_iload_n C.1 C.2.1 dX12_fitting_12 rfl (lv_at hl 2 rfl) ?_
      obtain ⟨x2, m3, r4, hf⟩ := bd2_s hf
      refine x_ci hW (x_runV C hW [.int a2] [.int a1] (ha0).1 (ha0).2.1 kX12.1 kvX12_fits q_1503 (tX12_fits l C.2.2.2.2.2.2.1 ha0 r4) rfl rfl ⟨by decide, by decide⟩ rfl hl.1 rfl (Nat.le_of_ble_eq_true rfl) dX12_fitting_13) (fun H locs hW => ?_)
      refine lv_if_eq (tgt := 25) C.1 C.2.1 dX12_fitting_16 (by decide) (fun c5 => ?_) (fun c5 => ?_)
      · have hf := if_t c5 hf
        refine lv_iconst (v := 0) C.1 C.2.1 dX12_fitting_25 (by decide) ?_
        exact wX12_fitting_26 C hk4 ha0 hW (lv_sub hl [0, 2] rfl) hf
      · have hf := if_f c5 hf
        refine lv_iconst (v := 1) C.1 C.2.1 dX12_fitting_19 (by decide) ?_
        refine lv_iload_n C.1 C.2.1 dX12_fitting_20 rfl (lv_at hl 2 rfl) ?_
        refine lv_ishl C.1 C.2.1 dX12_fitting_21 ?_
        refine lv_goto (tgt := 26) C.1 C.2.1 dX12_fitting_22 (by decide) ?_
        exact wX12_fitting_26 C hk4 ha0 hW (lv_sub hl [0, 2] rfl) hf
set_option maxRecDepth 100000 in
set_option maxHeartbeats 4000000 in
theorem wX12_fitting_0 (C : Cx p s m meth c args cX12_fitting 3 (some .int) RX12 D ca ad) {res : Int32 × Mm} {N : Nat}  {a0 : Nat} {mm : Mm} {H : Heap} {locs : List Loc} {ls : Array Slot} (ha0 : sX12 a0) (hW : Wd D ca ad s.heap mm H locs) (hl : lv_has ls 3 [(0, .ref (ad a0))]) (hf : fX12_fitting N a0 mm = some res) : W p l e (rmX12_fitting) s m args below meth c H locs 0 0 (MQ below (QI D ca ad res) args s 0 0 (AA ad)) (F0 m 0 ls []) := by
  unfold fX12_fitting at hf
  refine lv_iconst (v := 0) C.1 C.2.1 dX12_fitting_0 (by decide) ?_
  refine lv_istore_n (lv' := [(1, .int 0), (0, .ref (ad a0))]) C.1 C.2.1 dX12_fitting_1 rfl hl (by decide) rfl (fun ls hl => ?_)
  refine lv_iconst (v := 0) C.1 C.2.1 dX12_fitting_2 (by decide) ?_
  refine lv_istore_n (lv' := [(2, .int 0), (1, .int 0), (0, .ref (ad a0))]) C.1 C.2.1 dX12_fitting_3 rfl hl (by decide) rfl (fun ls hl => ?_)
  exact wX12_fitting_4 C  N ha0 hW (lv_sub hl [2, 1, 0] rfl) hf
set_option maxRecDepth 100000 in
set_option maxHeartbeats 4000000 in
theorem tX12_fitting (l : Launch) {D : va_G} {ca ad : Nat → Nat} (hi : Inj ad) {N : Nat} {a0 : Nat} {mm : Mm} {res : Int32 × Mm} (ha0 : sX12 a0) (hf : fX12_fitting N a0 mm = some res) : Met l yX12_fitting (WS yX12_fitting cX12_fitting 3 (some .int)) (rmX12_fitting) (va_Pc [.ref (ad a0)] (WB D ca ad mm)) (QI D ca ad res) 0 0 (AA ad) := by
  refine x_start hi (by decide) rfl (Nat.le_of_ble_eq_true rfl) (fun p e s m args below meth c ls C hW hl => ?_)
  exact wX12_fitting_0 C ha0 hW (lv_sub hl [0] rfl) hf
set_option maxRecDepth 100000 in
set_option maxHeartbeats 4000000 in
theorem wX12_setRuled_19 (C : Cx p s m meth c args cX12_setRuled 3 none RX12 D ca ad) {res : Unit × Mm} {N : Nat} {k2 : Nat → Int32 → Mm → Option (Unit × Mm)} (hk2 : ∀ (a0 : Nat) (a1 : Int32) (mm : Mm) (H : Heap) (locs : List Loc) (ls : Array Slot), (sX12 a0) → Wd D ca ad s.heap mm H locs → lv_has ls 3 [(0, .ref (ad a0)), (1, .int a1)] → k2 a0 a1 mm = some res → W p l e (rmX12_setRuled) s m args below meth c H locs 0 0 (MQ below (QV D ca ad res) args s 0 0 (AA ad)) (F0 m 2 ls [])) : ∀ (n : Nat) {a0 : Nat} {a1 : Int32} {a2 : Int32} {mm : Mm} {H : Heap} {locs : List Loc} {ls : Array Slot}, (sX12 a0) → Wd D ca ad s.heap mm H locs → lv_has ls 3 [(0, .ref (ad a0)), (1, .int a1), (2, .int a2)] → fX12_setRuled_19 N k2 n a0 a1 a2 mm = some res → W p l e (rmX12_setRuled) s m args below meth c H locs 0 0 (MQ below (QV D ca ad res) args s 0 0 (AA ad)) (F0 m 19 ls []) := by
  intro n
  induction n with
  | zero => intro a0 a1 a2 mm H locs ls ha0 hW hl hf; cases hf
  | succ n ih =>
    intro a0 a1 a2 mm H locs ls ha0 hW hl hf
    have hk19 : ∀ (a0 : Nat) (a1 : Int32) (a2 : Int32) (mm : Mm) (H : Heap) (locs : List Loc) (ls : Array Slot), (sX12 a0) → Wd D ca ad s.heap mm H locs → lv_has ls 3 [(0, .ref (ad a0)), (1, .int a1), (2, .int a2)] → (fX12_setRuled_19 N k2 n) a0 a1 a2 mm = some res → W p l e (rmX12_setRuled) s m args below meth c H locs 0 0 (MQ below (QV D ca ad res) args s 0 0 (AA ad)) (F0 m 19 ls []) := fun a0 a1 a2 mm H locs ls ha0 hW hl hf => ih ha0 hW hl hf
    unfold fX12_setRuled_19 at hf
    try dsimp only at hf
    refine lv_iload_n C.1 C.2.1 dX12_setRuled_19 rfl (lv_at hl 2 rfl) ?_
    refine lv_aload_n C.1 C.2.1 dX12_setRuled_20 rfl (lv_at hl 0 rfl) ?_
    refine x_geti C hW (ha0).1 (ha0).2.1 (j := 10) rfl kX12 (by decide) rfl q_1026 dX12_setRuled_21 ?_
    refine lv_icmp_ge (tgt := 50) C.1 C.2.1 dX12_setRuled_24 (by decide) (fun c1 => ?_) (fun c1 => ?_)
    · have hf := if_t c1 hf
      refine lv_iinc (v := (a1 + 1)) (lv' := [(1, .int (a1 + 1)), (0, .ref (ad a0)), (2, .int a2)]) C.1 C.2.1 dX12_setRuled_50 hl (k := 1) rfl rfl (by decide) rfl (fun ls hl => ?_)
      refine lv_goto (tgt := 2) C.1 C.2.1 dX12_setRuled_53 (by decide) ?_
      exact hk2 _ _ _ _ _ _ ha0 hW (lv_sub hl [1, 0] rfl) hf
    · have hf := if_f c1 hf
      refine lv_aload_n C.1 C.2.1 dX12_setRuled_27 rfl (lv_at hl 0 rfl) ?_
      refine x_getr C hW (ha0).1 (ha0).2.1 (j := 38) rfl kX12 (by decide) rfl q_1054 dX12_setRuled_28 ?_
      refine lv_bipush (v := 6) C.1 C.2.1 dX12_setRuled_31 (by decide) ?_
      refine lv_iload_n C.1 C.2.1 dX12_setRuled_33 rfl (lv_at hl 1 rfl) ?_
      refine lv_imul C.1 C.2.1 dX12_setRuled_34 ?_
      refine lv_iload_n C.1 C.2.1 dX12_setRuled_35 rfl (lv_at hl 2 rfl) ?_
      refine lv_iadd C.1 C.2.1 dX12_setRuled_36 ?_
      refine lv_aload_n C.1 C.2.1 dX12_setRuled_37 rfl (lv_at hl 0 rfl) ?_
      refine x_getr C hW (ha0).1 (ha0).2.1 (j := 20) rfl kX12 (by decide) rfl q_1036 dX12_setRuled_38 ?_
      refine lv_iload_n C.1 C.2.1 dX12_setRuled_41 rfl (lv_at hl 2 rfl) ?_
      obtain ⟨g2, hf⟩ := gd_s hf
      refine x_iald C hW ha0.2.2.2.2.2.2.2.2.2.2.2.2.1 g2 dX12_setRuled_42 ?_
      obtain ⟨g3, hf⟩ := gd_s hf
      refine x_iast C hW ha0.2.2.2.2.2.2.2.2.2.2.2.2.2.2.2.2.2.2.2.2.1 g3 dX12_setRuled_43 (fun H locs hW => ?_)
      obtain ⟨m4, em4⟩ : ∃ z, z = wr mm (fr a0 38) ((6 * a1) + a2).toNatClampNeg (rd mm (fr a0 20) a2.toNatClampNeg) := ⟨_, rfl⟩
      have hf := nm_s hf em4
      rw [← em4] at hW
      refine lv_iinc (v := (a2 + 1)) (lv' := [(2, .int (a2 + 1)), (0, .ref (ad a0)), (1, .int a1)]) C.1 C.2.1 dX12_setRuled_44 hl (k := 2) rfl rfl (by decide) rfl (fun ls hl => ?_)
      refine lv_goto (tgt := 19) C.1 C.2.1 dX12_setRuled_47 (by decide) ?_
      exact hk19 _ _ _ _ _ _ _ ha0 hW (lv_sub hl [1, 2, 0] rfl) hf
set_option maxRecDepth 100000 in
set_option maxHeartbeats 4000000 in
theorem wX12_setRuled_2 (C : Cx p s m meth c args cX12_setRuled 3 none RX12 D ca ad) {res : Unit × Mm} {N : Nat}  : ∀ (n : Nat) {a0 : Nat} {a1 : Int32} {mm : Mm} {H : Heap} {locs : List Loc} {ls : Array Slot}, (sX12 a0) → Wd D ca ad s.heap mm H locs → lv_has ls 3 [(0, .ref (ad a0)), (1, .int a1)] → fX12_setRuled_2 N n a0 a1 mm = some res → W p l e (rmX12_setRuled) s m args below meth c H locs 0 0 (MQ below (QV D ca ad res) args s 0 0 (AA ad)) (F0 m 2 ls []) := by
  intro n
  induction n with
  | zero => intro a0 a1 mm H locs ls ha0 hW hl hf; cases hf
  | succ n ih =>
    intro a0 a1 mm H locs ls ha0 hW hl hf
    have hk2 : ∀ (a0 : Nat) (a1 : Int32) (mm : Mm) (H : Heap) (locs : List Loc) (ls : Array Slot), (sX12 a0) → Wd D ca ad s.heap mm H locs → lv_has ls 3 [(0, .ref (ad a0)), (1, .int a1)] → (fX12_setRuled_2 N n) a0 a1 mm = some res → W p l e (rmX12_setRuled) s m args below meth c H locs 0 0 (MQ below (QV D ca ad res) args s 0 0 (AA ad)) (F0 m 2 ls []) := fun a0 a1 mm H locs ls ha0 hW hl hf => ih ha0 hW hl hf
    unfold fX12_setRuled_2 at hf
    try dsimp only at hf
    refine lv_iload_n C.1 C.2.1 dX12_setRuled_2 rfl (lv_at hl 1 rfl) ?_
    refine lv_bipush (v := 6) C.1 C.2.1 dX12_setRuled_3 (by decide) ?_
    refine lv_icmp_ge (tgt := 56) C.1 C.2.1 dX12_setRuled_5 (by decide) (fun c5 => ?_) (fun c5 => ?_)
    · have hf := if_t c5 hf
      cases hf
      exact x_vret C hW dX12_setRuled_56
    · have hf := if_f c5 hf
      refine lv_aload_n C.1 C.2.1 dX12_setRuled_8 rfl (lv_at hl 0 rfl) ?_
      refine lv_iload_n C.1 C.2.1 dX12_setRuled_9 rfl (lv_at hl 1 rfl) ?_
      refine lv_aload_n C.1 C.2.1 dX12_setRuled_10 rfl (lv_at hl 0 rfl) ?_
      refine x_geti C hW (ha0).1 (ha0).2.1 (j := 37) rfl kX12 (by decide) rfl q_1053 dX12_setRuled_11 ?_
      obtain ⟨x6, m7, r8, hf⟩ := bd2_s hf
      refine x_cv hW (x_runV C hW [.int a1, .int (rd mm a0 37)] [] (ha0).1 (ha0).2.1 kX12.1 kvX12_layRule q_1483 (tX12_layRule l C.2.2.2.2.2.2.1 ha0 r8) rfl rfl ⟨by decide, by decide⟩ rfl hl.1 rfl (Nat.le_of_ble_eq_true rfl) dX12_setRuled_14) (fun H locs hW => ?_)
      refine lv_iconst (v := 0) C.1 C.2.1 dX12_setRuled_17 (by decide) ?_
      refine lv_istore_n (lv' := [(2, .int 0), (0, .ref (ad a0)), (1, .int a1)]) C.1 C.2.1 dX12_setRuled_18 rfl hl (by decide) rfl (fun ls hl => ?_)
      exact wX12_setRuled_19 C hk2 N ha0 hW (lv_sub hl [1, 2, 0] rfl) hf
set_option maxRecDepth 100000 in
set_option maxHeartbeats 4000000 in
theorem wX12_setRuled_0 (C : Cx p s m meth c args cX12_setRuled 3 none RX12 D ca ad) {res : Unit × Mm} {N : Nat}  {a0 : Nat} {mm : Mm} {H : Heap} {locs : List Loc} {ls : Array Slot} (ha0 : sX12 a0) (hW : Wd D ca ad s.heap mm H locs) (hl : lv_has ls 3 [(0, .ref (ad a0))]) (hf : fX12_setRuled N a0 mm = some res) : W p l e (rmX12_setRuled) s m args below meth c H locs 0 0 (MQ below (QV D ca ad res) args s 0 0 (AA ad)) (F0 m 0 ls []) := by
  unfold fX12_setRuled at hf
  refine lv_iconst (v := 0) C.1 C.2.1 dX12_setRuled_0 (by decide) ?_
  refine lv_istore_n (lv' := [(1, .int 0), (0, .ref (ad a0))]) C.1 C.2.1 dX12_setRuled_1 rfl hl (by decide) rfl (fun ls hl => ?_)
  exact wX12_setRuled_2 C  N ha0 hW (lv_sub hl [1, 0] rfl) hf
set_option maxRecDepth 100000 in
set_option maxHeartbeats 4000000 in
theorem tX12_setRuled (l : Launch) {D : va_G} {ca ad : Nat → Nat} (hi : Inj ad) {N : Nat} {a0 : Nat} {mm : Mm} {res : Unit × Mm} (ha0 : sX12 a0) (hf : fX12_setRuled N a0 mm = some res) : Met l yX12_setRuled (WS yX12_setRuled cX12_setRuled 3 none) (rmX12_setRuled) (va_Pc [.ref (ad a0)] (WB D ca ad mm)) (QV D ca ad res) 0 0 (AA ad) := by
  refine x_start hi (by decide) rfl (Nat.le_of_ble_eq_true rfl) (fun p e s m args below meth c ls C hW hl => ?_)
  exact wX12_setRuled_0 C ha0 hW (lv_sub hl [0] rfl) hf
end W_model27
