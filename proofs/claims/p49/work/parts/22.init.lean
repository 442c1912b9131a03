theorem dX11_init_0 : decode cX11_init 0 = .ok (.aload_n 0, 1) := by decide +kernel
theorem dX11_init_1 : decode cX11_init 1 = .ok (.invokespecial 1, 3) := by decide +kernel
theorem dX11_init_4 : decode cX11_init 4 = .ok (.aload_n 0, 1) := by decide +kernel
theorem dX11_init_5 : decode cX11_init 5 = .ok (.bipush 6, 2) := by decide +kernel
theorem dX11_init_7 : decode cX11_init 7 = .ok (.anewarray 9, 3) := by decide +kernel
theorem dX11_init_10 : decode cX11_init 10 = .ok (.putfield 11, 3) := by decide +kernel
theorem dX11_init_13 : decode cX11_init 13 = .ok (.aload_n 0, 1) := by decide +kernel
theorem dX11_init_14 : decode cX11_init 14 = .ok (.iconst 4, 1) := by decide +kernel
theorem dX11_init_15 : decode cX11_init 15 = .ok (.anewarray 9, 3) := by decide +kernel
theorem dX11_init_18 : decode cX11_init 18 = .ok (.putfield 15, 3) := by decide +kernel
theorem dX11_init_21 : decode cX11_init 21 = .ok (.aload_n 0, 1) := by decide +kernel
theorem dX11_init_22 : decode cX11_init 22 = .ok (.new 18, 3) := by decide +kernel
theorem dX11_init_25 : decode cX11_init 25 = .ok (.dup, 1) := by decide +kernel
theorem dX11_init_26 : decode cX11_init 26 = .ok (.invokespecial 20, 3) := by decide +kernel
theorem dX11_init_29 : decode cX11_init 29 = .ok (.putfield 21, 3) := by decide +kernel
theorem dX11_init_32 : decode cX11_init 32 = .ok (.aload_n 0, 1) := by decide +kernel
theorem dX11_init_33 : decode cX11_init 33 = .ok (.iconst 3, 1) := by decide +kernel
theorem dX11_init_34 : decode cX11_init 34 = .ok (.anewarray 18, 3) := by decide +kernel
theorem dX11_init_37 : decode cX11_init 37 = .ok (.putfield 25, 3) := by decide +kernel
theorem dX11_init_40 : decode cX11_init 40 = .ok (.aload_n 0, 1) := by decide +kernel
theorem dX11_init_41 : decode cX11_init 41 = .ok (.new 29, 3) := by decide +kernel
theorem dX11_init_44 : decode cX11_init 44 = .ok (.dup, 1) := by decide +kernel
theorem dX11_init_45 : decode cX11_init 45 = .ok (.invokespecial 31, 3) := by decide +kernel
theorem dX11_init_48 : decode cX11_init 48 = .ok (.putfield 32, 3) := by decide +kernel
theorem dX11_init_51 : decode cX11_init 51 = .ok (.aload_n 0, 1) := by decide +kernel
theorem dX11_init_52 : decode cX11_init 52 = .ok (.new 36, 3) := by decide +kernel
theorem dX11_init_55 : decode cX11_init 55 = .ok (.dup, 1) := by decide +kernel
theorem dX11_init_56 : decode cX11_init 56 = .ok (.invokespecial 38, 3) := by decide +kernel
theorem dX11_init_59 : decode cX11_init 59 = .ok (.putfield 39, 3) := by decide +kernel
theorem dX11_init_62 : decode cX11_init 62 = .ok (.aload_n 0, 1) := by decide +kernel
theorem dX11_init_63 : decode cX11_init 63 = .ok (.new 43, 3) := by decide +kernel
theorem dX11_init_66 : decode cX11_init 66 = .ok (.dup, 1) := by decide +kernel
theorem dX11_init_67 : decode cX11_init 67 = .ok (.invokespecial 45, 3) := by decide +kernel
theorem dX11_init_70 : decode cX11_init 70 = .ok (.putfield 46, 3) := by decide +kernel
theorem dX11_init_73 : decode cX11_init 73 = .ok (.aload_n 0, 1) := by decide +kernel
theorem dX11_init_74 : decode cX11_init 74 = .ok (.new 50, 3) := by decide +kernel
theorem dX11_init_77 : decode cX11_init 77 = .ok (.dup, 1) := by decide +kernel
theorem dX11_init_78 : decode cX11_init 78 = .ok (.invokespecial 52, 3) := by decide +kernel
theorem dX11_init_81 : decode cX11_init 81 = .ok (.putfield 53, 3) := by decide +kernel
theorem dX11_init_84 : decode cX11_init 84 = .ok (.aload_n 0, 1) := by decide +kernel
theorem dX11_init_85 : decode cX11_init 85 = .ok (.new 57, 3) := by decide +kernel
theorem dX11_init_88 : decode cX11_init 88 = .ok (.dup, 1) := by decide +kernel
theorem dX11_init_89 : decode cX11_init 89 = .ok (.invokespecial 59, 3) := by decide +kernel
theorem dX11_init_92 : decode cX11_init 92 = .ok (.putfield 60, 3) := by decide +kernel
theorem dX11_init_95 : decode cX11_init 95 = .ok (.aload_n 0, 1) := by decide +kernel
theorem dX11_init_96 : decode cX11_init 96 = .ok (.new 64, 3) := by decide +kernel
theorem dX11_init_99 : decode cX11_init 99 = .ok (.dup, 1) := by decide +kernel
theorem dX11_init_100 : decode cX11_init 100 = .ok (.invokespecial 66, 3) := by decide +kernel
theorem dX11_init_103 : decode cX11_init 103 = .ok (.putfield 67, 3) := by decide +kernel
theorem dX11_init_106 : decode cX11_init 106 = .ok (.aload_n 0, 1) := by decide +kernel
theorem dX11_init_107 : decode cX11_init 107 = .ok (.new 71, 3) := by decide +kernel
theorem dX11_init_110 : decode cX11_init 110 = .ok (.dup, 1) := by decide +kernel
theorem dX11_init_111 : decode cX11_init 111 = .ok (.invokespecial 73, 3) := by decide +kernel
theorem dX11_init_114 : decode cX11_init 114 = .ok (.putfield 74, 3) := by decide +kernel
theorem dX11_init_117 : decode cX11_init 117 = .ok (.aload_n 0, 1) := by decide +kernel
theorem dX11_init_118 : decode cX11_init 118 = .ok (.new 78, 3) := by decide +kernel
theorem dX11_init_121 : decode cX11_init 121 = .ok (.dup, 1) := by decide +kernel
theorem dX11_init_122 : decode cX11_init 122 = .ok (.invokespecial 80, 3) := by decide +kernel
theorem dX11_init_125 : decode cX11_init 125 = .ok (.putfield 81, 3) := by decide +kernel
theorem dX11_init_128 : decode cX11_init 128 = .ok (.aload_n 0, 1) := by decide +kernel
theorem dX11_init_129 : decode cX11_init 129 = .ok (.bipush 6, 2) := by decide +kernel
theorem dX11_init_131 : decode cX11_init 131 = .ok (.newarray .int, 2) := by decide +kernel
theorem dX11_init_133 : decode cX11_init 133 = .ok (.putfield 85, 3) := by decide +kernel
theorem dX11_init_136 : decode cX11_init 136 = .ok (.aload_n 0, 1) := by decide +kernel
theorem dX11_init_137 : decode cX11_init 137 = .ok (.lconst 1, 1) := by decide +kernel
theorem dX11_init_138 : decode cX11_init 138 = .ok (.putfield 89, 3) := by decide +kernel
theorem dX11_init_141 : decode cX11_init 141 = .ok (.iconst 0, 1) := by decide +kernel
theorem dX11_init_142 : decode cX11_init 142 = .ok (.istore_n 1, 1) := by decide +kernel
theorem dX11_init_143 : decode cX11_init 143 = .ok (.iload_n 1, 1) := by decide +kernel
theorem dX11_init_144 : decode cX11_init 144 = .ok (.bipush 6, 2) := by decide +kernel
theorem dX11_init_146 : decode cX11_init 146 = .ok (.if_icmp .ge 24, 3) := by decide +kernel
theorem dX11_init_149 : decode cX11_init 149 = .ok (.aload_n 0, 1) := by decide +kernel
theorem dX11_init_150 : decode cX11_init 150 = .ok (.getfield 11, 3) := by decide +kernel
theorem dX11_init_153 : decode cX11_init 153 = .ok (.iload_n 1, 1) := by decide +kernel
theorem dX11_init_154 : decode cX11_init 154 = .ok (.new 9, 3) := by decide +kernel
theorem dX11_init_157 : decode cX11_init 157 = .ok (.dup, 1) := by decide +kernel
theorem dX11_init_158 : decode cX11_init 158 = .ok (.bipush 40, 2) := by decide +kernel
theorem dX11_init_160 : decode cX11_init 160 = .ok (.invokespecial 93, 3) := by decide +kernel
theorem dX11_init_163 : decode cX11_init 163 = .ok (.aastore, 1) := by decide +kernel
theorem dX11_init_164 : decode cX11_init 164 = .ok (.iinc 1 1, 3) := by decide +kernel
theorem dX11_init_167 : decode cX11_init 167 = .ok (.goto (-24), 3) := by decide +kernel
theorem dX11_init_170 : decode cX11_init 170 = .ok (.iconst 0, 1) := by decide +kernel
theorem dX11_init_171 : decode cX11_init 171 = .ok (.istore_n 1, 1) := by decide +kernel
theorem dX11_init_172 : decode cX11_init 172 = .ok (.iload_n 1, 1) := by decide +kernel
theorem dX11_init_173 : decode cX11_init 173 = .ok (.iconst 4, 1) := by decide +kernel
theorem dX11_init_174 : decode cX11_init 174 = .ok (.if_icmp .ge 24, 3) := by decide +kernel
theorem dX11_init_177 : decode cX11_init 177 = .ok (.aload_n 0, 1) := by decide +kernel
theorem dX11_init_178 : decode cX11_init 178 = .ok (.getfield 15, 3) := by decide +kernel
theorem dX11_init_181 : decode cX11_init 181 = .ok (.iload_n 1, 1) := by decide +kernel
theorem dX11_init_182 : decode cX11_init 182 = .ok (.new 9, 3) := by decide +kernel
theorem dX11_init_185 : decode cX11_init 185 = .ok (.dup, 1) := by decide +kernel
theorem dX11_init_186 : decode cX11_init 186 = .ok (.bipush 80, 2) := by decide +kernel
theorem dX11_init_188 : decode cX11_init 188 = .ok (.invokespecial 93, 3) := by decide +kernel
theorem dX11_init_191 : decode cX11_init 191 = .ok (.aastore, 1) := by decide +kernel
theorem dX11_init_192 : decode cX11_init 192 = .ok (.iinc 1 1, 3) := by decide +kernel
theorem dX11_init_195 : decode cX11_init 195 = .ok (.goto (-23), 3) := by decide +kernel
theorem dX11_init_198 : decode cX11_init 198 = .ok (.iconst 0, 1) := by decide +kernel
theorem dX11_init_199 : decode cX11_init 199 = .ok (.istore_n 1, 1) := by decide +kernel
theorem dX11_init_200 : decode cX11_init 200 = .ok (.iload_n 1, 1) := by decide +kernel
theorem dX11_init_201 : decode cX11_init 201 = .ok (.iconst 3, 1) := by decide +kernel
theorem dX11_init_202 : decode cX11_init 202 = .ok (.if_icmp .ge 22, 3) := by decide +kernel
theorem dX11_init_205 : decode cX11_init 205 = .ok (.aload_n 0, 1) := by decide +kernel
theorem dX11_init_206 : decode cX11_init 206 = .ok (.getfield 25, 3) := by decide +kernel
theorem dX11_init_209 : decode cX11_init 209 = .ok (.iload_n 1, 1) := by decide +kernel
theorem dX11_init_210 : decode cX11_init 210 = .ok (.new 18, 3) := by decide +kernel
theorem dX11_init_213 : decode cX11_init 213 = .ok (.dup, 1) := by decide +kernel
theorem dX11_init_214 : decode cX11_init 214 = .ok (.invokespecial 20, 3) := by decide +kernel
theorem dX11_init_217 : decode cX11_init 217 = .ok (.aastore, 1) := by decide +kernel
theorem dX11_init_218 : decode cX11_init 218 = .ok (.iinc 1 1, 3) := by decide +kernel
theorem dX11_init_221 : decode cX11_init 221 = .ok (.goto (-21), 3) := by decide +kernel
theorem dX11_init_224 : decode cX11_init 224 = .ok (.return_, 1) := by decide +kernel
theorem q_22 : Cond.methodLink RX11 1 objectInit ∈ wT := wi_t 22 (by decide +kernel) (by decide +kernel)
theorem q_25 : Cond.classLink RX11 9 "HeavyFiles$Row" ∈ wT := wi_t 25 (by decide +kernel) (by decide +kernel)
theorem q_27 : Cond.classLink RX11 18 RX0 ∈ wT := wi_t 27 (by decide +kernel) (by decide +kernel)
theorem q_28 : Cond.instantiable RX0 9 ∈ wT := wi_t 28 (by decide +kernel) (by decide +kernel)
theorem q_31 : Cond.code yX0_init cX0_init 2 none ∈ wT := wi_t 31 (by decide +kernel) (by decide +kernel)
theorem q_30 : Cond.instanceMethod yX0_init ∈ wT := wi_t 30 (by decide +kernel) (by decide +kernel)
theorem q_29 : Cond.methodLink RX11 20 yX0_init ∈ wT := wi_t 29 (by decide +kernel) (by decide +kernel)
theorem q_102 : Cond.classLink RX11 29 RX5 ∈ wT := wi_t 102 (by decide +kernel) (by decide +kernel)
theorem q_103 : Cond.instantiable RX5 6 ∈ wT := wi_t 103 (by decide +kernel) (by decide +kernel)
theorem q_106 : Cond.code yX5_init cX5_init 1 none ∈ wT := wi_t 106 (by decide +kernel) (by decide +kernel)
theorem q_105 : Cond.instanceMethod yX5_init ∈ wT := wi_t 105 (by decide +kernel) (by decide +kernel)
theorem q_132 : Cond.classLink RX11 36 RX7 ∈ wT := wi_t 132 (by decide +kernel) (by decide +kernel)
theorem q_157 : Cond.classLink RX11 43 RX3 ∈ wT := wi_t 157 (by decide +kernel) (by decide +kernel)
theorem q_158 : Cond.instantiable RX3 3 ∈ wT := wi_t 158 (by decide +kernel) (by decide +kernel)
theorem q_161 : Cond.code yX3_init cX3_init 1 none ∈ wT := wi_t 161 (by decide +kernel) (by decide +kernel)
theorem q_160 : Cond.instanceMethod yX3_init ∈ wT := wi_t 160 (by decide +kernel) (by decide +kernel)
theorem q_175 : Cond.classLink RX11 50 RX8 ∈ wT := wi_t 175 (by decide +kernel) (by decide +kernel)
theorem q_176 : Cond.instantiable RX8 8 ∈ wT := wi_t 176 (by decide +kernel) (by decide +kernel)
theorem q_179 : Cond.code yX8_init cX8_init 1 none ∈ wT := wi_t 179 (by decide +kernel) (by decide +kernel)
theorem q_178 : Cond.instanceMethod yX8_init ∈ wT := wi_t 178 (by decide +kernel) (by decide +kernel)
theorem q_209 : Cond.classLink RX11 57 RX1 ∈ wT := wi_t 209 (by decide +kernel) (by decide +kernel)
theorem q_210 : Cond.instantiable RX1 3 ∈ wT := wi_t 210 (by decide +kernel) (by decide +kernel)
theorem q_213 : Cond.code yX1_init cX1_init 1 none ∈ wT := wi_t 213 (by decide +kernel) (by decide +kernel)
theorem q_212 : Cond.instanceMethod yX1_init ∈ wT := wi_t 212 (by decide +kernel) (by decide +kernel)
theorem q_225 : Cond.classLink RX11 64 RX4 ∈ wT := wi_t 225 (by decide +kernel) (by decide +kernel)
theorem q_226 : Cond.instantiable RX4 3 ∈ wT := wi_t 226 (by decide +kernel) (by decide +kernel)
theorem q_229 : Cond.code yX4_init cX4_init 1 none ∈ wT := wi_t 229 (by decide +kernel) (by decide +kernel)
theorem q_228 : Cond.instanceMethod yX4_init ∈ wT := wi_t 228 (by decide +kernel) (by decide +kernel)
theorem q_243 : Cond.classLink RX11 71 RX10 ∈ wT := wi_t 243 (by decide +kernel) (by decide +kernel)
theorem q_244 : Cond.instantiable RX10 4 ∈ wT := wi_t 244 (by decide +kernel) (by decide +kernel)
theorem q_247 : Cond.code yX10_init cX10_init 1 none ∈ wT := wi_t 247 (by decide +kernel) (by decide +kernel)
theorem q_246 : Cond.instanceMethod yX10_init ∈ wT := wi_t 246 (by decide +kernel) (by decide +kernel)
theorem q_262 : Cond.classLink RX11 78 RX2 ∈ wT := wi_t 262 (by decide +kernel) (by decide +kernel)
theorem q_263 : Cond.instantiable RX2 6 ∈ wT := wi_t 263 (by decide +kernel) (by decide +kernel)
theorem q_266 : Cond.code yX2_init cX2_init 2 none ∈ wT := wi_t 266 (by decide +kernel) (by decide +kernel)
theorem q_265 : Cond.instanceMethod yX2_init ∈ wT := wi_t 265 (by decide +kernel) (by decide +kernel)
theorem q_264 : Cond.methodLink RX11 80 yX2_init ∈ wT := wi_t 264 (by decide +kernel) (by decide +kernel)
theorem q_292 : Cond.instantiable RX6 2 ∈ wT := wi_t 292 (by decide +kernel) (by decide +kernel)
theorem q_295 : Cond.code yX6_init cX6_init 2 none ∈ wT := wi_t 295 (by decide +kernel) (by decide +kernel)
theorem q_294 : Cond.instanceMethod yX6_init ∈ wT := wi_t 294 (by decide +kernel) (by decide +kernel)
theorem q_293 : Cond.methodLink RX11 93 yX6_init ∈ wT := wi_t 293 (by decide +kernel) (by decide +kernel)
theorem kiX0_init : KI yX0_init RX0 cX0_init 2 0 := ⟨rfl, rfl, q_30, q_2, q_31, by decide +kernel, by decide +kernel, by decide +kernel⟩
theorem kiX5_init : KI yX5_init RX5 cX5_init 1 0 := ⟨rfl, rfl, q_105, q_4, q_106, by decide +kernel, by decide +kernel, by decide +kernel⟩
theorem kiX3_init : KI yX3_init RX3 cX3_init 1 0 := ⟨rfl, rfl, q_160, q_6, q_161, by decide +kernel, by decide +kernel, by decide +kernel⟩
theorem kiX8_init : KI yX8_init RX8 cX8_init 1 0 := ⟨rfl, rfl, q_178, q_7, q_179, by decide +kernel, by decide +kernel, by decide +kernel⟩
theorem kiX1_init : KI yX1_init RX1 cX1_init 1 0 := ⟨rfl, rfl, q_212, q_8, q_213, by decide +kernel, by decide +kernel, by decide +kernel⟩
theorem kiX4_init : KI yX4_init RX4 cX4_init 1 0 := ⟨rfl, rfl, q_228, q_9, q_229, by decide +kernel, by decide +kernel, by decide +kernel⟩
theorem kiX10_init : KI yX10_init RX10 cX10_init 1 0 := ⟨rfl, rfl, q_246, q_10, q_247, by decide +kernel, by decide +kernel, by decide +kernel⟩
theorem kiX2_init : KI yX2_init RX2 cX2_init 2 0 := ⟨rfl, rfl, q_265, q_11, q_266, by decide +kernel, by decide +kernel, by decide +kernel⟩
theorem kiX6_init : KI yX6_init RX6 cX6_init 2 1 := ⟨rfl, rfl, q_294, q_12, q_295, by decide +kernel, by decide +kernel, by decide +kernel⟩
def kkX11 (ca a : Nat → Nat) : va_W := [(a 0, .inr (11, [.ref (a 1), .ref (a 2), .ref (a 3), .ref (a 23), .ref (a 24), .ref (a 29), .ref (a 33), .ref (a 35), .ref (a 40), .ref (a 42), .ref (a 52), .ref (a 55), .ref (a 94), .int 0, .int 0, .long 0, .long 1])), (a 1, .inl (ca 1, 6, refs (fun j => some ([a 95, a 97, a 99, a 101, a 103, a 105].getD j 0)))), (a 2, .inl (ca 1, 4, refs (fun j => some ([a 107, a 109, a 111, a 113].getD j 0)))), (a 23, .inl (ca 2, 3, refs (fun j => some ([a 115, a 135, a 155].getD j 0)))), (a 94, .inl (ca 0, 6, .inl fun _ => 0))] ++ ((((((((((((((((((((((([] : va_W) ++ kkX0 ca (fun j => a (3 + j))) ++ kkX5 ca (fun j => a (24 + j))) ++ kkX7 ca (fun j => a (29 + j))) ++ kkX3 ca (fun j => a (33 + j))) ++ kkX8 ca (fun j => a (35 + j))) ++ kkX1 ca (fun j => a (40 + j))) ++ kkX4 ca (fun j => a (42 + j))) ++ kkX10 ca (fun j => a (52 + j))) ++ kkX2 ca (fun j => a (55 + j))) ++ kkX6_40 ca (fun j => a (95 + j))) ++ kkX6_40 ca (fun j => a (97 + j))) ++ kkX6_40 ca (fun j => a (99 + j))) ++ kkX6_40 ca (fun j => a (101 + j))) ++ kkX6_40 ca (fun j => a (103 + j))) ++ kkX6_40 ca (fun j => a (105 + j))) ++ kkX6_80 ca (fun j => a (107 + j))) ++ kkX6_80 ca (fun j => a (109 + j))) ++ kkX6_80 ca (fun j => a (111 + j))) ++ kkX6_80 ca (fun j => a (113 + j))) ++ kkX0 ca (fun j => a (115 + j))) ++ kkX0 ca (fun j => a (135 + j))) ++ kkX0 ca (fun j => a (155 + j)))
set_option maxRecDepth 100000 in
set_option maxHeartbeats 8000000 in
theorem tX11_init (l : Launch) (D : va_G) (ca : Nat → Nat) (q sz : Nat) : Met l yX11_init (WS yX11_init cX11_init 2 none) ({ frames := 3, cells := 174, slots := 3584, locals := 97 } : Room) (PI D ca q 11 [.null, .null, .null, .null, .null, .null, .null, .null, .null, .null, .null, .null, .null, .int 0, .int 0, .long 0, .long 0] [] sz) (QN D ca (kkX11 ca) q 11 [.null, .null, .null, .null, .null, .null, .null, .null, .null, .null, .null, .null, .null, .int 0, .int 0, .long 0, .long 0] sz) 174 3584 (AI q 11 [.null, .null, .null, .null, .null, .null, .null, .null, .null, .null, .null, .null, .null, .int 0, .int 0, .long 0, .long 0] sz) := by
  refine y_start (by decide) rfl rfl (Nat.le_of_ble_eq_true rfl) (fun p e s m args below meth c ls A hA C hN hin hP hD hS hl => ?_)
  have hl : lv_has ls 2 [(0, .ref q)] := hl
  obtain ⟨G0, hG0⟩ : ∃ G : va_W, G = [] := ⟨_, rfl⟩
  have hP : va_P D vwCl ([(q, .inr (11, [.null, .null, .null, .null, .null, .null, .null, .null, .null, .null, .null, .null, .null, .int 0, .int 0, .long 0, .long 0]))] ++ G0) s.heap := by rw [hG0]; exact hP
  have hD : va_D A ([(q, .inr (11, [.null, .null, .null, .null, .null, .null, .null, .null, .null, .null, .null, .null, .null, .int 0, .int 0, .long 0, .long 0]))] ++ G0) := by rw [hG0]; exact hD
  refine lv_aload_n C.1 C.2.1 dX11_init_0 rfl (lv_at hl 0 rfl) ?_
  refine y_obj C q_22 q_23 q_24 hl.1 (by decide) (by decide) dX11_init_1 ?_
  refine lv_aload_n C.1 C.2.1 dX11_init_4 rfl (lv_at hl 0 rfl) ?_
  refine lv_bipush (v := 6) C.1 C.2.1 dX11_init_5 (by decide) ?_
  refine y_newq C hP hD hS hA 1 rfl hN.2.1 6 (by decide) (by decide) (by decide) (Nat.le_of_ble_eq_true rfl) (Nat.le_of_ble_eq_true rfl) q_25 dX11_init_7 (fun q1 H hP hD hS => ?_)
  have hP := va_P.swap hP
  have hD := va_D.swap hD
  have hP : va_P D vwCl ([(q, .inr (11, [.null, .null, .null, .null, .null, .null, .null, .null, .null, .null, .null, .null, .null, .int 0, .int 0, .long 0, .long 0])), (q1, .inl (ca 1, 6, refs fun _ => none))] ++ G0) H := hP
  have hD : va_D A ([(q, .inr (11, [.null, .null, .null, .null, .null, .null, .null, .null, .null, .null, .null, .null, .null, .int 0, .int 0, .long 0, .long 0])), (q1, .inl (ca 1, 6, refs fun _ => none))] ++ G0) := hD
  refine W.widen (k := 1) (n := 6) (by decide) (by decide) ?_
  refine y_putF C hP hD hS hin rfl (k := 0) (t1 := (.array (.object "HeavyFiles$Row"))) kX11 (by decide) rfl rfl q_308 (by decide +kernel) rfl rfl (Nat.le_of_ble_eq_true rfl) dX11_init_10 (fun H locs hP hD hS => ?_)
  have hP : va_P D vwCl ([(q, .inr (11, [.ref q1, .null, .null, .null, .null, .null, .null, .null, .null, .null, .null, .null, .null, .int 0, .int 0, .long 0, .long 0])), (q1, .inl (ca 1, 6, refs fun _ => none))] ++ G0) H := hP
  have hD : va_D A ([(q, .inr (11, [.ref q1, .null, .null, .null, .null, .null, .null, .null, .null, .null, .null, .null, .null, .int 0, .int 0, .long 0, .long 0])), (q1, .inl (ca 1, 6, refs fun _ => none))] ++ G0) := hD
  refine lv_aload_n C.1 C.2.1 dX11_init_13 rfl (lv_at hl 0 rfl) ?_
  refine lv_iconst (v := 4) C.1 C.2.1 dX11_init_14 (by decide) ?_
  refine y_newq C hP hD hS hA 1 rfl hN.2.1 4 (by decide) (by decide) (by decide) (Nat.le_of_ble_eq_true rfl) (Nat.le_of_ble_eq_true rfl) q_25 dX11_init_15 (fun q2 H hP hD hS => ?_)
  have hP := va_P.swap hP
  have hD := va_D.swap hD
  have hP : va_P D vwCl ([(q, .inr (11, [.ref q1, .null, .null, .null, .null, .null, .null, .null, .null, .null, .null, .null, .null, .int 0, .int 0, .long 0, .long 0])), (q1, .inl (ca 1, 6, refs fun _ => none)), (q2, .inl (ca 1, 4, refs fun _ => none))] ++ G0) H := hP
  have hD : va_D A ([(q, .inr (11, [.ref q1, .null, .null, .null, .null, .null, .null, .null, .null, .null, .null, .null, .null, .int 0, .int 0, .long 0, .long 0])), (q1, .inl (ca 1, 6, refs fun _ => none)), (q2, .inl (ca 1, 4, refs fun _ => none))] ++ G0) := hD
  refine W.widen (k := 2) (n := 10) (by decide) (by decide) ?_
  refine y_putF C hP hD hS hin rfl (k := 1) (t1 := (.array (.object "HeavyFiles$Row"))) kX11 (by decide) rfl rfl q_309 (by decide +kernel) rfl rfl (Nat.le_of_ble_eq_true rfl) dX11_init_18 (fun H locs hP hD hS => ?_)
  have hP : va_P D vwCl ([(q, .inr (11, [.ref q1, .ref q2, .null, .null, .null, .null, .null, .null, .null, .null, .null, .null, .null, .int 0, .int 0, .long 0, .long 0])), (q1, .inl (ca 1, 6, refs fun _ => none)), (q2, .inl (ca 1, 4, refs fun _ => none))] ++ G0) H := hP
  have hD : va_D A ([(q, .inr (11, [.ref q1, .ref q2, .null, .null, .null, .null, .null, .null, .null, .null, .null, .null, .null, .int 0, .int 0, .long 0, .long 0])), (q1, .inl (ca 1, 6, refs fun _ => none)), (q2, .inl (ca 1, 4, refs fun _ => none))] ++ G0) := hD
  refine lv_aload_n C.1 C.2.1 dX11_init_21 rfl (lv_at hl 0 rfl) ?_
  refine y_newo C hP hD hS hA [.null, .null, .null, .null, .null, .int 0, .int 0, .int 0, .int 0] kX0 (fun j hj => by (rcases (by omega : j = 0 ∨ j = 1 ∨ j = 2 ∨ j = 3 ∨ j = 4 ∨ j = 5 ∨ j = 6 ∨ j = 7 ∨ j = 8) with rfl | rfl | rfl | rfl | rfl | rfl | rfl | rfl | rfl <;> rfl)) q_27 q_28 q_2 (Nat.le_of_ble_eq_true rfl) (Nat.le_of_ble_eq_true rfl) dX11_init_22 (fun q3 H hP hD hS => ?_)
  have hP : va_P D vwCl (([(q, .inr (11, [.ref q1, .ref q2, .null, .null, .null, .null, .null, .null, .null, .null, .null, .null, .null, .int 0, .int 0, .long 0, .long 0])), (q1, .inl (ca 1, 6, refs fun _ => none)), (q2, .inl (ca 1, 4, refs fun _ => none))] ++ G0) ++ [(q3, .inr (0, [.null, .null, .null, .null, .null, .int 0, .int 0, .int 0, .int 0]))]) H := hP
  have hD : va_D A (([(q, .inr (11, [.ref q1, .ref q2, .null, .null, .null, .null, .null, .null, .null, .null, .null, .null, .null, .int 0, .int 0, .long 0, .long 0])), (q1, .inl (ca 1, 6, refs fun _ => none)), (q2, .inl (ca 1, 4, refs fun _ => none))] ++ G0) ++ [(q3, .inr (0, [.null, .null, .null, .null, .null, .int 0, .int 0, .int 0, .int 0]))]) := hD
  refine W.widen (k := 3) (n := 19) (by decide) (by decide) ?_
  refine lv_dup C.1 C.2.1 dX11_init_25 rfl ?_
  refine y_call (kX := kkX0 ca) hP hD hS hA (y_runI C hN hP [] [.ref q3, .ref q] RX0 kiX0_init q_29 (tX0_init l D ca q3 H.size) rfl rfl ⟨by decide, by decide⟩ rfl hl.1 rfl (Nat.le_of_ble_eq_true rfl) dX11_init_26 ⟨Nat.le_of_ble_eq_true rfl, Nat.le_of_ble_eq_true rfl⟩) (fun b4 H locs eb4 hP hD hS => ?_)
  rw [← eb4]
  have hP := va_P.swap hP
  have hD := va_D.swap hD
  have hP : va_P D vwCl (([(q, .inr (11, [.ref q1, .ref q2, .null, .null, .null, .null, .null, .null, .null, .null, .null, .null, .null, .int 0, .int 0, .long 0, .long 0])), (q1, .inl (ca 1, 6, refs fun _ => none)), (q2, .inl (ca 1, 4, refs fun _ => none))] ++ kkX0 ca b4) ++ G0) H := hP
  have hD : va_D A (([(q, .inr (11, [.ref q1, .ref q2, .null, .null, .null, .null, .null, .null, .null, .null, .null, .null, .null, .int 0, .int 0, .long 0, .long 0])), (q1, .inl (ca 1, 6, refs fun _ => none)), (q2, .inl (ca 1, 4, refs fun _ => none))] ++ kkX0 ca b4) ++ G0) := hD
  refine W.widen (k := 22) (n := 113) (by decide) (by decide) ?_
  refine y_putF C hP hD hS hin rfl (k := 2) (t1 := (.object "HeavyFiles$Court")) kX11 (by decide) rfl rfl q_310 (by decide +kernel) rfl rfl (Nat.le_of_ble_eq_true rfl) dX11_init_29 (fun H locs hP hD hS => ?_)
  have hP : va_P D vwCl (([(q, .inr (11, [.ref q1, .ref q2, .ref (b4 0), .null, .null, .null, .null, .null, .null, .null, .null, .null, .null, .int 0, .int 0, .long 0, .long 0])), (q1, .inl (ca 1, 6, refs fun _ => none)), (q2, .inl (ca 1, 4, refs fun _ => none))] ++ kkX0 ca b4) ++ G0) H := hP
  have hD : va_D A (([(q, .inr (11, [.ref q1, .ref q2, .ref (b4 0), .null, .null, .null, .null, .null, .null, .null, .null, .null, .null, .int 0, .int 0, .long 0, .long 0])), (q1, .inl (ca 1, 6, refs fun _ => none)), (q2, .inl (ca 1, 4, refs fun _ => none))] ++ kkX0 ca b4) ++ G0) := hD
  refine lv_aload_n C.1 C.2.1 dX11_init_32 rfl (lv_at hl 0 rfl) ?_
  refine lv_iconst (v := 3) C.1 C.2.1 dX11_init_33 (by decide) ?_
  have hP := va_P.swap hP
  have hD := va_D.swap hD
  rw [List.append_assoc] at hP hD
  obtain ⟨G1, hG1⟩ : ∃ G : va_W, G = G0 ++ kkX0 ca b4 := ⟨_, rfl⟩
  rw [← hG1] at hP hD
  refine y_newq C hP hD hS hA 2 rfl hN.2.2.1 3 (by decide) (by decide) (by decide) (Nat.le_of_ble_eq_true rfl) (Nat.le_of_ble_eq_true rfl) q_27 dX11_init_34 (fun q5 H hP hD hS => ?_)
  have hP := va_P.swap hP
  have hD := va_D.swap hD
  have hP : va_P D vwCl ([(q, .inr (11, [.ref q1, .ref q2, .ref (b4 0), .null, .null, .null, .null, .null, .null, .null, .null, .null, .null, .int 0, .int 0, .long 0, .long 0])), (q1, .inl (ca 1, 6, refs fun _ => none)), (q2, .inl (ca 1, 4, refs fun _ => none)), (q5, .inl (ca 2, 3, refs fun _ => none))] ++ G1) H := hP
  have hD : va_D A ([(q, .inr (11, [.ref q1, .ref q2, .ref (b4 0), .null, .null, .null, .null, .null, .null, .null, .null, .null, .null, .int 0, .int 0, .long 0, .long 0])), (q1, .inl (ca 1, 6, refs fun _ => none)), (q2, .inl (ca 1, 4, refs fun _ => none)), (q5, .inl (ca 2, 3, refs fun _ => none))] ++ G1) := hD
  refine W.widen (k := 23) (n := 116) (by decide) (by decide) ?_
  refine y_putF C hP hD hS hin rfl (k := 3) (t1 := (.array (.object "HeavyFiles$Court"))) kX11 (by decide) rfl rfl q_311 (by decide +kernel) rfl rfl (Nat.le_of_ble_eq_true rfl) dX11_init_37 (fun H locs hP hD hS => ?_)
  have hP : va_P D vwCl ([(q, .inr (11, [.ref q1, .ref q2, .ref (b4 0), .ref q5, .null, .null, .null, .null, .null, .null, .null, .null, .null, .int 0, .int 0, .long 0, .long 0])), (q1, .inl (ca 1, 6, refs fun _ => none)), (q2, .inl (ca 1, 4, refs fun _ => none)), (q5, .inl (ca 2, 3, refs fun _ => none))] ++ G1) H := hP
  have hD : va_D A ([(q, .inr (11, [.ref q1, .ref q2, .ref (b4 0), .ref q5, .null, .null, .null, .null, .null, .null, .null, .null, .null, .int 0, .int 0, .long 0, .long 0])), (q1, .inl (ca 1, 6, refs fun _ => none)), (q2, .inl (ca 1, 4, refs fun _ => none)), (q5, .inl (ca 2, 3, refs fun _ => none))] ++ G1) := hD
  refine lv_aload_n C.1 C.2.1 dX11_init_40 rfl (lv_at hl 0 rfl) ?_
  refine y_newo C hP hD hS hA [.null, .null, .null, .null, .int 0, .int 0] kX5 (fun j hj => by (rcases (by omega : j = 0 ∨ j = 1 ∨ j = 2 ∨ j = 3 ∨ j = 4 ∨ j = 5) with rfl | rfl | rfl | rfl | rfl | rfl <;> rfl)) q_102 q_103 q_4 (Nat.le_of_ble_eq_true rfl) (Nat.le_of_ble_eq_true rfl) dX11_init_41 (fun q6 H hP hD hS => ?_)
  have hP : va_P D vwCl (([(q, .inr (11, [.ref q1, .ref q2, .ref (b4 0), .ref q5, .null, .null, .null, .null, .null, .null, .null, .null, .null, .int 0, .int 0, .long 0, .long 0])), (q1, .inl (ca 1, 6, refs fun _ => none)), (q2, .inl (ca 1, 4, refs fun _ => none)), (q5, .inl (ca 2, 3, refs fun _ => none))] ++ G1) ++ [(q6, .inr (5, [.null, .null, .null, .null, .int 0, .int 0]))]) H := hP
  have hD : va_D A (([(q, .inr (11, [.ref q1, .ref q2, .ref (b4 0), .ref q5, .null, .null, .null, .null, .null, .null, .null, .null, .null, .int 0, .int 0, .long 0, .long 0])), (q1, .inl (ca 1, 6, refs fun _ => none)), (q2, .inl (ca 1, 4, refs fun _ => none)), (q5, .inl (ca 2, 3, refs fun _ => none))] ++ G1) ++ [(q6, .inr (5, [.null, .null, .null, .null, .int 0, .int 0]))]) := hD
  refine W.widen (k := 24) (n := 122) (by decide) (by decide) ?_
  refine lv_dup C.1 C.2.1 dX11_init_44 rfl ?_
  refine y_call (kX := kkX5 ca) hP hD hS hA (y_runIN (host := "HeavyFiles") C hN hP [] [.ref q6, .ref q] RX5 kiX5_init (by decide +kernel) (tX5_init l D ca q6 H.size) rfl rfl ⟨by decide, by decide⟩ rfl hl.1 rfl (Nat.le_of_ble_eq_true rfl) dX11_init_45 ⟨Nat.le_of_ble_eq_true rfl, Nat.le_of_ble_eq_true rfl⟩) (fun b7 H locs eb7 hP hD hS => ?_)
  rw [← eb7]
  have hP := va_P.swap hP
  have hD := va_D.swap hD
  have hP : va_P D vwCl (([(q, .inr (11, [.ref q1, .ref q2, .ref (b4 0), .ref q5, .null, .null, .null, .null, .null, .null, .null, .null, .null, .int 0, .int 0, .long 0, .long 0])), (q1, .inl (ca 1, 6, refs fun _ => none)), (q2, .inl (ca 1, 4, refs fun _ => none)), (q5, .inl (ca 2, 3, refs fun _ => none))] ++ kkX5 ca b7) ++ G1) H := hP
  have hD : va_D A (([(q, .inr (11, [.ref q1, .ref q2, .ref (b4 0), .ref q5, .null, .null, .null, .null, .null, .null, .null, .null, .null, .int 0, .int 0, .long 0, .long 0])), (q1, .inl (ca 1, 6, refs fun _ => none)), (q2, .inl (ca 1, 4, refs fun _ => none)), (q5, .inl (ca 2, 3, refs fun _ => none))] ++ kkX5 ca b7) ++ G1) := hD
  refine W.widen (k := 28) (n := 142) (by decide) (by decide) ?_
  refine y_putF C hP hD hS hin rfl (k := 4) (t1 := (.object "HeavyFiles$Reader")) kX11 (by decide) rfl rfl q_312 (by decide +kernel) rfl rfl (Nat.le_of_ble_eq_true rfl) dX11_init_48 (fun H locs hP hD hS => ?_)
  have hP : va_P D vwCl (([(q, .inr (11, [.ref q1, .ref q2, .ref (b4 0), .ref q5, .ref (b7 0), .null, .null, .null, .null, .null, .null, .null, .null, .int 0, .int 0, .long 0, .long 0])), (q1, .inl (ca 1, 6, refs fun _ => none)), (q2, .inl (ca 1, 4, refs fun _ => none)), (q5, .inl (ca 2, 3, refs fun _ => none))] ++ kkX5 ca b7) ++ G1) H := hP
  have hD : va_D A (([(q, .inr (11, [.ref q1, .ref q2, .ref (b4 0), .ref q5, .ref (b7 0), .null, .null, .null, .null, .null, .null, .null, .null, .int 0, .int 0, .long 0, .long 0])), (q1, .inl (ca 1, 6, refs fun _ => none)), (q2, .inl (ca 1, 4, refs fun _ => none)), (q5, .inl (ca 2, 3, refs fun _ => none))] ++ kkX5 ca b7) ++ G1) := hD
  refine lv_aload_n C.1 C.2.1 dX11_init_51 rfl (lv_at hl 0 rfl) ?_
  have hP := va_P.swap hP
  have hD := va_D.swap hD
  rw [List.append_assoc] at hP hD
  obtain ⟨G2, hG2⟩ : ∃ G : va_W, G = G1 ++ kkX5 ca b7 := ⟨_, rfl⟩
  rw [← hG2] at hP hD
  refine y_newo C hP hD hS hA [.null, .null, .null, .int 0, .int 0] kX7 (fun j hj => by (rcases (by omega : j = 0 ∨ j = 1 ∨ j = 2 ∨ j = 3 ∨ j = 4) with rfl | rfl | rfl | rfl | rfl <;> rfl)) q_132 q_133 q_5 (Nat.le_of_ble_eq_true rfl) (Nat.le_of_ble_eq_true rfl) dX11_init_52 (fun q8 H hP hD hS => ?_)
  have hP : va_P D vwCl (([(q, .inr (11, [.ref q1, .ref q2, .ref (b4 0), .ref q5, .ref (b7 0), .null, .null, .null, .null, .null, .null, .null, .null, .int 0, .int 0, .long 0, .long 0])), (q1, .inl (ca 1, 6, refs fun _ => none)), (q2, .inl (ca 1, 4, refs fun _ => none)), (q5, .inl (ca 2, 3, refs fun _ => none))] ++ G2) ++ [(q8, .inr (7, [.null, .null, .null, .int 0, .int 0]))]) H := hP
  have hD : va_D A (([(q, .inr (11, [.ref q1, .ref q2, .ref (b4 0), .ref q5, .ref (b7 0), .null, .null, .null, .null, .null, .null, .null, .null, .int 0, .int 0, .long 0, .long 0])), (q1, .inl (ca 1, 6, refs fun _ => none)), (q2, .inl (ca 1, 4, refs fun _ => none)), (q5, .inl (ca 2, 3, refs fun _ => none))] ++ G2) ++ [(q8, .inr (7, [.null, .null, .null, .int 0, .int 0]))]) := hD
  refine W.widen (k := 29) (n := 147) (by decide) (by decide) ?_
  refine lv_dup C.1 C.2.1 dX11_init_55 rfl ?_
  refine y_call (kX := kkX7 ca) hP hD hS hA (y_runIN (host := "HeavyFiles") C hN hP [] [.ref q8, .ref q] RX7 kiX7_init (by decide +kernel) (tX7_init l D ca q8 H.size) rfl rfl ⟨by decide, by decide⟩ rfl hl.1 rfl (Nat.le_of_ble_eq_true rfl) dX11_init_56 ⟨Nat.le_of_ble_eq_true rfl, Nat.le_of_ble_eq_true rfl⟩) (fun b9 H locs eb9 hP hD hS => ?_)
  rw [← eb9]
  have hP := va_P.swap hP
  have hD := va_D.swap hD
  have hP : va_P D vwCl (([(q, .inr (11, [.ref q1, .ref q2, .ref (b4 0), .ref q5, .ref (b7 0), .null, .null, .null, .null, .null, .null, .null, .null, .int 0, .int 0, .long 0, .long 0])), (q1, .inl (ca 1, 6, refs fun _ => none)), (q2, .inl (ca 1, 4, refs fun _ => none)), (q5, .inl (ca 2, 3, refs fun _ => none))] ++ kkX7 ca b9) ++ G2) H := hP
  have hD : va_D A (([(q, .inr (11, [.ref q1, .ref q2, .ref (b4 0), .ref q5, .ref (b7 0), .null, .null, .null, .null, .null, .null, .null, .null, .int 0, .int 0, .long 0, .long 0])), (q1, .inl (ca 1, 6, refs fun _ => none)), (q2, .inl (ca 1, 4, refs fun _ => none)), (q5, .inl (ca 2, 3, refs fun _ => none))] ++ kkX7 ca b9) ++ G2) := hD
  refine W.widen (k := 32) (n := 166) (by decide) (by decide) ?_
  refine y_putF C hP hD hS hin rfl (k := 5) (t1 := (.object "HeavyFiles$Scale")) kX11 (by decide) rfl rfl q_313 (by decide +kernel) rfl rfl (Nat.le_of_ble_eq_true rfl) dX11_init_59 (fun H locs hP hD hS => ?_)
  have hP : va_P D vwCl (([(q, .inr (11, [.ref q1, .ref q2, .ref (b4 0), .ref q5, .ref (b7 0), .ref (b9 0), .null, .null, .null, .null, .null, .null, .null, .int 0, .int 0, .long 0, .long 0])), (q1, .inl (ca 1, 6, refs fun _ => none)), (q2, .inl (ca 1, 4, refs fun _ => none)), (q5, .inl (ca 2, 3, refs fun _ => none))] ++ kkX7 ca b9) ++ G2) H := hP
  have hD : va_D A (([(q, .inr (11, [.ref q1, .ref q2, .ref (b4 0), .ref q5, .ref (b7 0), .ref (b9 0), .null, .null, .null, .null, .null, .null, .null, .int 0, .int 0, .long 0, .long 0])), (q1, .inl (ca 1, 6, refs fun _ => none)), (q2, .inl (ca 1, 4, refs fun _ => none)), (q5, .inl (ca 2, 3, refs fun _ => none))] ++ kkX7 ca b9) ++ G2) := hD
  refine lv_aload_n C.1 C.2.1 dX11_init_62 rfl (lv_at hl 0 rfl) ?_
  have hP := va_P.swap hP
  have hD := va_D.swap hD
  rw [List.append_assoc] at hP hD
  obtain ⟨G3, hG3⟩ : ∃ G : va_W, G = G2 ++ kkX7 ca b9 := ⟨_, rfl⟩
  rw [← hG3] at hP hD
  refine y_newo C hP hD hS hA [.null, .int 0, .int 0] kX3 (fun j hj => by (rcases (by omega : j = 0 ∨ j = 1 ∨ j = 2) with rfl | rfl | rfl <;> rfl)) q_157 q_158 q_6 (Nat.le_of_ble_eq_true rfl) (Nat.le_of_ble_eq_true rfl) dX11_init_63 (fun q10 H hP hD hS => ?_)
  have hP : va_P D vwCl (([(q, .inr (11, [.ref q1, .ref q2, .ref (b4 0), .ref q5, .ref (b7 0), .ref (b9 0), .null, .null, .null, .null, .null, .null, .null, .int 0, .int 0, .long 0, .long 0])), (q1, .inl (ca 1, 6, refs fun _ => none)), (q2, .inl (ca 1, 4, refs fun _ => none)), (q5, .inl (ca 2, 3, refs fun _ => none))] ++ G3) ++ [(q10, .inr (3, [.null, .int 0, .int 0]))]) H := hP
  have hD : va_D A (([(q, .inr (11, [.ref q1, .ref q2, .ref (b4 0), .ref q5, .ref (b7 0), .ref (b9 0), .null, .null, .null, .null, .null, .null, .null, .int 0, .int 0, .long 0, .long 0])), (q1, .inl (ca 1, 6, refs fun _ => none)), (q2, .inl (ca 1, 4, refs fun _ => none)), (q5, .inl (ca 2, 3, refs fun _ => none))] ++ G3) ++ [(q10, .inr (3, [.null, .int 0, .int 0]))]) := hD
  refine W.widen (k := 33) (n := 169) (by decide) (by decide) ?_
  refine lv_dup C.1 C.2.1 dX11_init_66 rfl ?_
  refine y_call (kX := kkX3 ca) hP hD hS hA (y_runIN (host := "HeavyFiles") C hN hP [] [.ref q10, .ref q] RX3 kiX3_init (by decide +kernel) (tX3_init l D ca q10 H.size) rfl rfl ⟨by decide, by decide⟩ rfl hl.1 rfl (Nat.le_of_ble_eq_true rfl) dX11_init_67 ⟨Nat.le_of_ble_eq_true rfl, Nat.le_of_ble_eq_true rfl⟩) (fun b11 H locs eb11 hP hD hS => ?_)
  rw [← eb11]
  have hP := va_P.swap hP
  have hD := va_D.swap hD
  have hP : va_P D vwCl (([(q, .inr (11, [.ref q1, .ref q2, .ref (b4 0), .ref q5, .ref (b7 0), .ref (b9 0), .null, .null, .null, .null, .null, .null, .null, .int 0, .int 0, .long 0, .long 0])), (q1, .inl (ca 1, 6, refs fun _ => none)), (q2, .inl (ca 1, 4, refs fun _ => none)), (q5, .inl (ca 2, 3, refs fun _ => none))] ++ kkX3 ca b11) ++ G3) H := hP
  have hD : va_D A (([(q, .inr (11, [.ref q1, .ref q2, .ref (b4 0), .ref q5, .ref (b7 0), .ref (b9 0), .null, .null, .null, .null, .null, .null, .null, .int 0, .int 0, .long 0, .long 0])), (q1, .inl (ca 1, 6, refs fun _ => none)), (q2, .inl (ca 1, 4, refs fun _ => none)), (q5, .inl (ca 2, 3, refs fun _ => none))] ++ kkX3 ca b11) ++ G3) := hD
  refine W.widen (k := 34) (n := 175) (by decide) (by decide) ?_
  refine y_putF C hP hD hS hin rfl (k := 6) (t1 := (.object "HeavyFiles$Layings")) kX11 (by decide) rfl rfl q_314 (by decide +kernel) rfl rfl (Nat.le_of_ble_eq_true rfl) dX11_init_70 (fun H locs hP hD hS => ?_)
  have hP : va_P D vwCl (([(q, .inr (11, [.ref q1, .ref q2, .ref (b4 0), .ref q5, .ref (b7 0), .ref (b9 0), .ref (b11 0), .null, .null, .null, .null, .null, .null, .int 0, .int 0, .long 0, .long 0])), (q1, .inl (ca 1, 6, refs fun _ => none)), (q2, .inl (ca 1, 4, refs fun _ => none)), (q5, .inl (ca 2, 3, refs fun _ => none))] ++ kkX3 ca b11) ++ G3) H := hP
  have hD : va_D A (([(q, .inr (11, [.ref q1, .ref q2, .ref (b4 0), .ref q5, .ref (b7 0), .ref (b9 0), .ref (b11 0), .null, .null, .null, .null, .null, .null, .int 0, .int 0, .long 0, .long 0])), (q1, .inl (ca 1, 6, refs fun _ => none)), (q2, .inl (ca 1, 4, refs fun _ => none)), (q5, .inl (ca 2, 3, refs fun _ => none))] ++ kkX3 ca b11) ++ G3) := hD
  refine lv_aload_n C.1 C.2.1 dX11_init_73 rfl (lv_at hl 0 rfl) ?_
  have hP := va_P.swap hP
  have hD := va_D.swap hD
  rw [List.append_assoc] at hP hD
  obtain ⟨G4, hG4⟩ : ∃ G : va_W, G = G3 ++ kkX3 ca b11 := ⟨_, rfl⟩
  rw [← hG4] at hP hD
  refine y_newo C hP hD hS hA [.null, .int 0, .int 0, .null, .null, .null, .int 0, .int 0] kX8 (fun j hj => by (rcases (by omega : j = 0 ∨ j = 1 ∨ j = 2 ∨ j = 3 ∨ j = 4 ∨ j = 5 ∨ j = 6 ∨ j = 7) with rfl | rfl | rfl | rfl | rfl | rfl | rfl | rfl <;> rfl)) q_175 q_176 q_7 (Nat.le_of_ble_eq_true rfl) (Nat.le_of_ble_eq_true rfl) dX11_init_74 (fun q12 H hP hD hS => ?_)
  have hP : va_P D vwCl (([(q, .inr (11, [.ref q1, .ref q2, .ref (b4 0), .ref q5, .ref (b7 0), .ref (b9 0), .ref (b11 0), .null, .null, .null, .null, .null, .null, .int 0, .int 0, .long 0, .long 0])), (q1, .inl (ca 1, 6, refs fun _ => none)), (q2, .inl (ca 1, 4, refs fun _ => none)), (q5, .inl (ca 2, 3, refs fun _ => none))] ++ G4) ++ [(q12, .inr (8, [.null, .int 0, .int 0, .null, .null, .null, .int 0, .int 0]))]) H := hP
  have hD : va_D A (([(q, .inr (11, [.ref q1, .ref q2, .ref (b4 0), .ref q5, .ref (b7 0), .ref (b9 0), .ref (b11 0), .null, .null, .null, .null, .null, .null, .int 0, .int 0, .long 0, .long 0])), (q1, .inl (ca 1, 6, refs fun _ => none)), (q2, .inl (ca 1, 4, refs fun _ => none)), (q5, .inl (ca 2, 3, refs fun _ => none))] ++ G4) ++ [(q12, .inr (8, [.null, .int 0, .int 0, .null, .null, .null, .int 0, .int 0]))]) := hD
  refine W.widen (k := 35) (n := 183) (by decide) (by decide) ?_
  refine lv_dup C.1 C.2.1 dX11_init_77 rfl ?_
  refine y_call (kX := kkX8 ca) hP hD hS hA (y_runIN (host := "HeavyFiles") C hN hP [] [.ref q12, .ref q] RX8 kiX8_init (by decide +kernel) (tX8_init l D ca q12 H.size) rfl rfl ⟨by decide, by decide⟩ rfl hl.1 rfl (Nat.le_of_ble_eq_true rfl) dX11_init_78 ⟨Nat.le_of_ble_eq_true rfl, Nat.le_of_ble_eq_true rfl⟩) (fun b13 H locs eb13 hP hD hS => ?_)
  rw [← eb13]
  have hP := va_P.swap hP
  have hD := va_D.swap hD
  have hP : va_P D vwCl (([(q, .inr (11, [.ref q1, .ref q2, .ref (b4 0), .ref q5, .ref (b7 0), .ref (b9 0), .ref (b11 0), .null, .null, .null, .null, .null, .null, .int 0, .int 0, .long 0, .long 0])), (q1, .inl (ca 1, 6, refs fun _ => none)), (q2, .inl (ca 1, 4, refs fun _ => none)), (q5, .inl (ca 2, 3, refs fun _ => none))] ++ kkX8 ca b13) ++ G4) H := hP
  have hD : va_D A (([(q, .inr (11, [.ref q1, .ref q2, .ref (b4 0), .ref q5, .ref (b7 0), .ref (b9 0), .ref (b11 0), .null, .null, .null, .null, .null, .null, .int 0, .int 0, .long 0, .long 0])), (q1, .inl (ca 1, 6, refs fun _ => none)), (q2, .inl (ca 1, 4, refs fun _ => none)), (q5, .inl (ca 2, 3, refs fun _ => none))] ++ kkX8 ca b13) ++ G4) := hD
  refine W.widen (k := 39) (n := 442) (by decide) (by decide) ?_
  refine y_putF C hP hD hS hin rfl (k := 7) (t1 := (.object "HeavyFiles$Search")) kX11 (by decide) rfl rfl q_315 (by decide +kernel) rfl rfl (Nat.le_of_ble_eq_true rfl) dX11_init_81 (fun H locs hP hD hS => ?_)
  have hP : va_P D vwCl (([(q, .inr (11, [.ref q1, .ref q2, .ref (b4 0), .ref q5, .ref (b7 0), .ref (b9 0), .ref (b11 0), .ref (b13 0), .null, .null, .null, .null, .null, .int 0, .int 0, .long 0, .long 0])), (q1, .inl (ca 1, 6, refs fun _ => none)), (q2, .inl (ca 1, 4, refs fun _ => none)), (q5, .inl (ca 2, 3, refs fun _ => none))] ++ kkX8 ca b13) ++ G4) H := hP
  have hD : va_D A (([(q, .inr (11, [.ref q1, .ref q2, .ref (b4 0), .ref q5, .ref (b7 0), .ref (b9 0), .ref (b11 0), .ref (b13 0), .null, .null, .null, .null, .null, .int 0, .int 0, .long 0, .long 0])), (q1, .inl (ca 1, 6, refs fun _ => none)), (q2, .inl (ca 1, 4, refs fun _ => none)), (q5, .inl (ca 2, 3, refs fun _ => none))] ++ kkX8 ca b13) ++ G4) := hD
  refine lv_aload_n C.1 C.2.1 dX11_init_84 rfl (lv_at hl 0 rfl) ?_
  have hP := va_P.swap hP
  have hD := va_D.swap hD
  rw [List.append_assoc] at hP hD
  obtain ⟨G5, hG5⟩ : ∃ G : va_W, G = G4 ++ kkX8 ca b13 := ⟨_, rfl⟩
  rw [← hG5] at hP hD
  refine y_newo C hP hD hS hA [.null, .int 0, .int 0] kX1 (fun j hj => by (rcases (by omega : j = 0 ∨ j = 1 ∨ j = 2) with rfl | rfl | rfl <;> rfl)) q_209 q_210 q_8 (Nat.le_of_ble_eq_true rfl) (Nat.le_of_ble_eq_true rfl) dX11_init_85 (fun q14 H hP hD hS => ?_)
  have hP : va_P D vwCl (([(q, .inr (11, [.ref q1, .ref q2, .ref (b4 0), .ref q5, .ref (b7 0), .ref (b9 0), .ref (b11 0), .ref (b13 0), .null, .null, .null, .null, .null, .int 0, .int 0, .long 0, .long 0])), (q1, .inl (ca 1, 6, refs fun _ => none)), (q2, .inl (ca 1, 4, refs fun _ => none)), (q5, .inl (ca 2, 3, refs fun _ => none))] ++ G5) ++ [(q14, .inr (1, [.null, .int 0, .int 0]))]) H := hP
  have hD : va_D A (([(q, .inr (11, [.ref q1, .ref q2, .ref (b4 0), .ref q5, .ref (b7 0), .ref (b9 0), .ref (b11 0), .ref (b13 0), .null, .null, .null, .null, .null, .int 0, .int 0, .long 0, .long 0])), (q1, .inl (ca 1, 6, refs fun _ => none)), (q2, .inl (ca 1, 4, refs fun _ => none)), (q5, .inl (ca 2, 3, refs fun _ => none))] ++ G5) ++ [(q14, .inr (1, [.null, .int 0, .int 0]))]) := hD
  refine W.widen (k := 40) (n := 445) (by decide) (by decide) ?_
  refine lv_dup C.1 C.2.1 dX11_init_88 rfl ?_
  refine y_call (kX := kkX1 ca) hP hD hS hA (y_runIN (host := "HeavyFiles") C hN hP [] [.ref q14, .ref q] RX1 kiX1_init (by decide +kernel) (tX1_init l D ca q14 H.size) rfl rfl ⟨by decide, by decide⟩ rfl hl.1 rfl (Nat.le_of_ble_eq_true rfl) dX11_init_89 ⟨Nat.le_of_ble_eq_true rfl, Nat.le_of_ble_eq_true rfl⟩) (fun b15 H locs eb15 hP hD hS => ?_)
  rw [← eb15]
  have hP := va_P.swap hP
  have hD := va_D.swap hD
  have hP : va_P D vwCl (([(q, .inr (11, [.ref q1, .ref q2, .ref (b4 0), .ref q5, .ref (b7 0), .ref (b9 0), .ref (b11 0), .ref (b13 0), .null, .null, .null, .null, .null, .int 0, .int 0, .long 0, .long 0])), (q1, .inl (ca 1, 6, refs fun _ => none)), (q2, .inl (ca 1, 4, refs fun _ => none)), (q5, .inl (ca 2, 3, refs fun _ => none))] ++ kkX1 ca b15) ++ G5) H := hP
  have hD : va_D A (([(q, .inr (11, [.ref q1, .ref q2, .ref (b4 0), .ref q5, .ref (b7 0), .ref (b9 0), .ref (b11 0), .ref (b13 0), .null, .null, .null, .null, .null, .int 0, .int 0, .long 0, .long 0])), (q1, .inl (ca 1, 6, refs fun _ => none)), (q2, .inl (ca 1, 4, refs fun _ => none)), (q5, .inl (ca 2, 3, refs fun _ => none))] ++ kkX1 ca b15) ++ G5) := hD
  refine W.widen (k := 41) (n := 451) (by decide) (by decide) ?_
  refine y_putF C hP hD hS hin rfl (k := 8) (t1 := (.object "HeavyFiles$Dread")) kX11 (by decide) rfl rfl q_316 (by decide +kernel) rfl rfl (Nat.le_of_ble_eq_true rfl) dX11_init_92 (fun H locs hP hD hS => ?_)
  have hP : va_P D vwCl (([(q, .inr (11, [.ref q1, .ref q2, .ref (b4 0), .ref q5, .ref (b7 0), .ref (b9 0), .ref (b11 0), .ref (b13 0), .ref (b15 0), .null, .null, .null, .null, .int 0, .int 0, .long 0, .long 0])), (q1, .inl (ca 1, 6, refs fun _ => none)), (q2, .inl (ca 1, 4, refs fun _ => none)), (q5, .inl (ca 2, 3, refs fun _ => none))] ++ kkX1 ca b15) ++ G5) H := hP
  have hD : va_D A (([(q, .inr (11, [.ref q1, .ref q2, .ref (b4 0), .ref q5, .ref (b7 0), .ref (b9 0), .ref (b11 0), .ref (b13 0), .ref (b15 0), .null, .null, .null, .null, .int 0, .int 0, .long 0, .long 0])), (q1, .inl (ca 1, 6, refs fun _ => none)), (q2, .inl (ca 1, 4, refs fun _ => none)), (q5, .inl (ca 2, 3, refs fun _ => none))] ++ kkX1 ca b15) ++ G5) := hD
  refine lv_aload_n C.1 C.2.1 dX11_init_95 rfl (lv_at hl 0 rfl) ?_
  have hP := va_P.swap hP
  have hD := va_D.swap hD
  rw [List.append_assoc] at hP hD
  obtain ⟨G6, hG6⟩ : ∃ G : va_W, G = G5 ++ kkX1 ca b15 := ⟨_, rfl⟩
  rw [← hG6] at hP hD
  refine y_newo C hP hD hS hA [.null, .null, .null] kX4 (fun j hj => by (rcases (by omega : j = 0 ∨ j = 1 ∨ j = 2) with rfl | rfl | rfl <;> rfl)) q_225 q_226 q_9 (Nat.le_of_ble_eq_true rfl) (Nat.le_of_ble_eq_true rfl) dX11_init_96 (fun q16 H hP hD hS => ?_)
  have hP : va_P D vwCl (([(q, .inr (11, [.ref q1, .ref q2, .ref (b4 0), .ref q5, .ref (b7 0), .ref (b9 0), .ref (b11 0), .ref (b13 0), .ref (b15 0), .null, .null, .null, .null, .int 0, .int 0, .long 0, .long 0])), (q1, .inl (ca 1, 6, refs fun _ => none)), (q2, .inl (ca 1, 4, refs fun _ => none)), (q5, .inl (ca 2, 3, refs fun _ => none))] ++ G6) ++ [(q16, .inr (4, [.null, .null, .null]))]) H := hP
  have hD : va_D A (([(q, .inr (11, [.ref q1, .ref q2, .ref (b4 0), .ref q5, .ref (b7 0), .ref (b9 0), .ref (b11 0), .ref (b13 0), .ref (b15 0), .null, .null, .null, .null, .int 0, .int 0, .long 0, .long 0])), (q1, .inl (ca 1, 6, refs fun _ => none)), (q2, .inl (ca 1, 4, refs fun _ => none)), (q5, .inl (ca 2, 3, refs fun _ => none))] ++ G6) ++ [(q16, .inr (4, [.null, .null, .null]))]) := hD
  refine W.widen (k := 42) (n := 454) (by decide) (by decide) ?_
  refine lv_dup C.1 C.2.1 dX11_init_99 rfl ?_
  refine y_call (kX := kkX4 ca) hP hD hS hA (y_runIN (host := "HeavyFiles") C hN hP [] [.ref q16, .ref q] RX4 kiX4_init (by decide +kernel) (tX4_init l D ca q16 H.size) rfl rfl ⟨by decide, by decide⟩ rfl hl.1 rfl (Nat.le_of_ble_eq_true rfl) dX11_init_100 ⟨Nat.le_of_ble_eq_true rfl, Nat.le_of_ble_eq_true rfl⟩) (fun b17 H locs eb17 hP hD hS => ?_)
  rw [← eb17]
  have hP := va_P.swap hP
  have hD := va_D.swap hD
  have hP : va_P D vwCl (([(q, .inr (11, [.ref q1, .ref q2, .ref (b4 0), .ref q5, .ref (b7 0), .ref (b9 0), .ref (b11 0), .ref (b13 0), .ref (b15 0), .null, .null, .null, .null, .int 0, .int 0, .long 0, .long 0])), (q1, .inl (ca 1, 6, refs fun _ => none)), (q2, .inl (ca 1, 4, refs fun _ => none)), (q5, .inl (ca 2, 3, refs fun _ => none))] ++ kkX4 ca b17) ++ G6) H := hP
  have hD : va_D A (([(q, .inr (11, [.ref q1, .ref q2, .ref (b4 0), .ref q5, .ref (b7 0), .ref (b9 0), .ref (b11 0), .ref (b13 0), .ref (b15 0), .null, .null, .null, .null, .int 0, .int 0, .long 0, .long 0])), (q1, .inl (ca 1, 6, refs fun _ => none)), (q2, .inl (ca 1, 4, refs fun _ => none)), (q5, .inl (ca 2, 3, refs fun _ => none))] ++ kkX4 ca b17) ++ G6) := hD
  refine W.widen (k := 51) (n := 611) (by decide) (by decide) ?_
  refine y_putF C hP hD hS hin rfl (k := 9) (t1 := (.object "HeavyFiles$Mixing")) kX11 (by decide) rfl rfl q_317 (by decide +kernel) rfl rfl (Nat.le_of_ble_eq_true rfl) dX11_init_103 (fun H locs hP hD hS => ?_)
  have hP : va_P D vwCl (([(q, .inr (11, [.ref q1, .ref q2, .ref (b4 0), .ref q5, .ref (b7 0), .ref (b9 0), .ref (b11 0), .ref (b13 0), .ref (b15 0), .ref (b17 0), .null, .null, .null, .int 0, .int 0, .long 0, .long 0])), (q1, .inl (ca 1, 6, refs fun _ => none)), (q2, .inl (ca 1, 4, refs fun _ => none)), (q5, .inl (ca 2, 3, refs fun _ => none))] ++ kkX4 ca b17) ++ G6) H := hP
  have hD : va_D A (([(q, .inr (11, [.ref q1, .ref q2, .ref (b4 0), .ref q5, .ref (b7 0), .ref (b9 0), .ref (b11 0), .ref (b13 0), .ref (b15 0), .ref (b17 0), .null, .null, .null, .int 0, .int 0, .long 0, .long 0])), (q1, .inl (ca 1, 6, refs fun _ => none)), (q2, .inl (ca 1, 4, refs fun _ => none)), (q5, .inl (ca 2, 3, refs fun _ => none))] ++ kkX4 ca b17) ++ G6) := hD
  refine lv_aload_n C.1 C.2.1 dX11_init_106 rfl (lv_at hl 0 rfl) ?_
  have hP := va_P.swap hP
  have hD := va_D.swap hD
  rw [List.append_assoc] at hP hD
  obtain ⟨G7, hG7⟩ : ∃ G : va_W, G = G6 ++ kkX4 ca b17 := ⟨_, rfl⟩
  rw [← hG7] at hP hD
  refine y_newo C hP hD hS hA [.null, .null, .int 0, .int 0] kX10 (fun j hj => by (rcases (by omega : j = 0 ∨ j = 1 ∨ j = 2 ∨ j = 3) with rfl | rfl | rfl | rfl <;> rfl)) q_243 q_244 q_10 (Nat.le_of_ble_eq_true rfl) (Nat.le_of_ble_eq_true rfl) dX11_init_107 (fun q18 H hP hD hS => ?_)
  have hP : va_P D vwCl (([(q, .inr (11, [.ref q1, .ref q2, .ref (b4 0), .ref q5, .ref (b7 0), .ref (b9 0), .ref (b11 0), .ref (b13 0), .ref (b15 0), .ref (b17 0), .null, .null, .null, .int 0, .int 0, .long 0, .long 0])), (q1, .inl (ca 1, 6, refs fun _ => none)), (q2, .inl (ca 1, 4, refs fun _ => none)), (q5, .inl (ca 2, 3, refs fun _ => none))] ++ G7) ++ [(q18, .inr (10, [.null, .null, .int 0, .int 0]))]) H := hP
  have hD : va_D A (([(q, .inr (11, [.ref q1, .ref q2, .ref (b4 0), .ref q5, .ref (b7 0), .ref (b9 0), .ref (b11 0), .ref (b13 0), .ref (b15 0), .ref (b17 0), .null, .null, .null, .int 0, .int 0, .long 0, .long 0])), (q1, .inl (ca 1, 6, refs fun _ => none)), (q2, .inl (ca 1, 4, refs fun _ => none)), (q5, .inl (ca 2, 3, refs fun _ => none))] ++ G7) ++ [(q18, .inr (10, [.null, .null, .int 0, .int 0]))]) := hD
  refine W.widen (k := 52) (n := 615) (by decide) (by decide) ?_
  refine lv_dup C.1 C.2.1 dX11_init_110 rfl ?_
  refine y_call (kX := kkX10 ca) hP hD hS hA (y_runIN (host := "HeavyFiles") C hN hP [] [.ref q18, .ref q] RX10 kiX10_init (by decide +kernel) (tX10_init l D ca q18 H.size) rfl rfl ⟨by decide, by decide⟩ rfl hl.1 rfl (Nat.le_of_ble_eq_true rfl) dX11_init_111 ⟨Nat.le_of_ble_eq_true rfl, Nat.le_of_ble_eq_true rfl⟩) (fun b19 H locs eb19 hP hD hS => ?_)
  rw [← eb19]
  have hP := va_P.swap hP
  have hD := va_D.swap hD
  have hP : va_P D vwCl (([(q, .inr (11, [.ref q1, .ref q2, .ref (b4 0), .ref q5, .ref (b7 0), .ref (b9 0), .ref (b11 0), .ref (b13 0), .ref (b15 0), .ref (b17 0), .null, .null, .null, .int 0, .int 0, .long 0, .long 0])), (q1, .inl (ca 1, 6, refs fun _ => none)), (q2, .inl (ca 1, 4, refs fun _ => none)), (q5, .inl (ca 2, 3, refs fun _ => none))] ++ kkX10 ca b19) ++ G7) H := hP
  have hD : va_D A (([(q, .inr (11, [.ref q1, .ref q2, .ref (b4 0), .ref q5, .ref (b7 0), .ref (b9 0), .ref (b11 0), .ref (b13 0), .ref (b15 0), .ref (b17 0), .null, .null, .null, .int 0, .int 0, .long 0, .long 0])), (q1, .inl (ca 1, 6, refs fun _ => none)), (q2, .inl (ca 1, 4, refs fun _ => none)), (q5, .inl (ca 2, 3, refs fun _ => none))] ++ kkX10 ca b19) ++ G7) := hD
  refine W.widen (k := 54) (n := 2455) (by decide) (by decide) ?_
  refine y_putF C hP hD hS hin rfl (k := 10) (t1 := (.object "HeavyFiles$TurnTable")) kX11 (by decide) rfl rfl q_318 (by decide +kernel) rfl rfl (Nat.le_of_ble_eq_true rfl) dX11_init_114 (fun H locs hP hD hS => ?_)
  have hP : va_P D vwCl (([(q, .inr (11, [.ref q1, .ref q2, .ref (b4 0), .ref q5, .ref (b7 0), .ref (b9 0), .ref (b11 0), .ref (b13 0), .ref (b15 0), .ref (b17 0), .ref (b19 0), .null, .null, .int 0, .int 0, .long 0, .long 0])), (q1, .inl (ca 1, 6, refs fun _ => none)), (q2, .inl (ca 1, 4, refs fun _ => none)), (q5, .inl (ca 2, 3, refs fun _ => none))] ++ kkX10 ca b19) ++ G7) H := hP
  have hD : va_D A (([(q, .inr (11, [.ref q1, .ref q2, .ref (b4 0), .ref q5, .ref (b7 0), .ref (b9 0), .ref (b11 0), .ref (b13 0), .ref (b15 0), .ref (b17 0), .ref (b19 0), .null, .null, .int 0, .int 0, .long 0, .long 0])), (q1, .inl (ca 1, 6, refs fun _ => none)), (q2, .inl (ca 1, 4, refs fun _ => none)), (q5, .inl (ca 2, 3, refs fun _ => none))] ++ kkX10 ca b19) ++ G7) := hD
  refine lv_aload_n C.1 C.2.1 dX11_init_117 rfl (lv_at hl 0 rfl) ?_
  have hP := va_P.swap hP
  have hD := va_D.swap hD
  rw [List.append_assoc] at hP hD
  obtain ⟨G8, hG8⟩ : ∃ G : va_W, G = G7 ++ kkX10 ca b19 := ⟨_, rfl⟩
  rw [← hG8] at hP hD
  refine y_newo C hP hD hS hA [.null, .null, .null, .null, .null, .int 0] kX2 (fun j hj => by (rcases (by omega : j = 0 ∨ j = 1 ∨ j = 2 ∨ j = 3 ∨ j = 4 ∨ j = 5) with rfl | rfl | rfl | rfl | rfl | rfl <;> rfl)) q_262 q_263 q_11 (Nat.le_of_ble_eq_true rfl) (Nat.le_of_ble_eq_true rfl) dX11_init_118 (fun q20 H hP hD hS => ?_)
  have hP : va_P D vwCl (([(q, .inr (11, [.ref q1, .ref q2, .ref (b4 0), .ref q5, .ref (b7 0), .ref (b9 0), .ref (b11 0), .ref (b13 0), .ref (b15 0), .ref (b17 0), .ref (b19 0), .null, .null, .int 0, .int 0, .long 0, .long 0])), (q1, .inl (ca 1, 6, refs fun _ => none)), (q2, .inl (ca 1, 4, refs fun _ => none)), (q5, .inl (ca 2, 3, refs fun _ => none))] ++ G8) ++ [(q20, .inr (2, [.null, .null, .null, .null, .null, .int 0]))]) H := hP
  have hD : va_D A (([(q, .inr (11, [.ref q1, .ref q2, .ref (b4 0), .ref q5, .ref (b7 0), .ref (b9 0), .ref (b11 0), .ref (b13 0), .ref (b15 0), .ref (b17 0), .ref (b19 0), .null, .null, .int 0, .int 0, .long 0, .long 0])), (q1, .inl (ca 1, 6, refs fun _ => none)), (q2, .inl (ca 1, 4, refs fun _ => none)), (q5, .inl (ca 2, 3, refs fun _ => none))] ++ G8) ++ [(q20, .inr (2, [.null, .null, .null, .null, .null, .int 0]))]) := hD
  refine W.widen (k := 55) (n := 2461) (by decide) (by decide) ?_
  refine lv_dup C.1 C.2.1 dX11_init_121 rfl ?_
  refine y_call (kX := kkX2 ca) hP hD hS hA (y_runI C hN hP [] [.ref q20, .ref q] RX2 kiX2_init q_264 (tX2_init l D ca q20 H.size) rfl rfl ⟨by decide, by decide⟩ rfl hl.1 rfl (Nat.le_of_ble_eq_true rfl) dX11_init_122 ⟨Nat.le_of_ble_eq_true rfl, Nat.le_of_ble_eq_true rfl⟩) (fun b21 H locs eb21 hP hD hS => ?_)
  rw [← eb21]
  have hP := va_P.swap hP
  have hD := va_D.swap hD
  have hP : va_P D vwCl (([(q, .inr (11, [.ref q1, .ref q2, .ref (b4 0), .ref q5, .ref (b7 0), .ref (b9 0), .ref (b11 0), .ref (b13 0), .ref (b15 0), .ref (b17 0), .ref (b19 0), .null, .null, .int 0, .int 0, .long 0, .long 0])), (q1, .inl (ca 1, 6, refs fun _ => none)), (q2, .inl (ca 1, 4, refs fun _ => none)), (q5, .inl (ca 2, 3, refs fun _ => none))] ++ kkX2 ca b21) ++ G8) H := hP
  have hD : va_D A (([(q, .inr (11, [.ref q1, .ref q2, .ref (b4 0), .ref q5, .ref (b7 0), .ref (b9 0), .ref (b11 0), .ref (b13 0), .ref (b15 0), .ref (b17 0), .ref (b19 0), .null, .null, .int 0, .int 0, .long 0, .long 0])), (q1, .inl (ca 1, 6, refs fun _ => none)), (q2, .inl (ca 1, 4, refs fun _ => none)), (q5, .inl (ca 2, 3, refs fun _ => none))] ++ kkX2 ca b21) ++ G8) := hD
  refine W.widen (k := 93) (n := 2689) (by decide) (by decide) ?_
  refine y_putF C hP hD hS hin rfl (k := 11) (t1 := (.object "HeavyFiles$Guess")) kX11 (by decide) rfl rfl q_319 (by decide +kernel) rfl rfl (Nat.le_of_ble_eq_true rfl) dX11_init_125 (fun H locs hP hD hS => ?_)
  have hP : va_P D vwCl (([(q, .inr (11, [.ref q1, .ref q2, .ref (b4 0), .ref q5, .ref (b7 0), .ref (b9 0), .ref (b11 0), .ref (b13 0), .ref (b15 0), .ref (b17 0), .ref (b19 0), .ref (b21 0), .null, .int 0, .int 0, .long 0, .long 0])), (q1, .inl (ca 1, 6, refs fun _ => none)), (q2, .inl (ca 1, 4, refs fun _ => none)), (q5, .inl (ca 2, 3, refs fun _ => none))] ++ kkX2 ca b21) ++ G8) H := hP
  have hD : va_D A (([(q, .inr (11, [.ref q1, .ref q2, .ref (b4 0), .ref q5, .ref (b7 0), .ref (b9 0), .ref (b11 0), .ref (b13 0), .ref (b15 0), .ref (b17 0), .ref (b19 0), .ref (b21 0), .null, .int 0, .int 0, .long 0, .long 0])), (q1, .inl (ca 1, 6, refs fun _ => none)), (q2, .inl (ca 1, 4, refs fun _ => none)), (q5, .inl (ca 2, 3, refs fun _ => none))] ++ kkX2 ca b21) ++ G8) := hD
  refine lv_aload_n C.1 C.2.1 dX11_init_128 rfl (lv_at hl 0 rfl) ?_
  refine lv_bipush (v := 6) C.1 C.2.1 dX11_init_129 (by decide) ?_
  have hP := va_P.swap hP
  have hD := va_D.swap hD
  rw [List.append_assoc] at hP hD
  obtain ⟨G9, hG9⟩ : ∃ G : va_W, G = G8 ++ kkX2 ca b21 := ⟨_, rfl⟩
  rw [← hG9] at hP hD
  refine y_newa C hP hD hS hA 6 (by decide) (by decide) (by decide) (Nat.le_of_ble_eq_true rfl) (Nat.le_of_ble_eq_true rfl) q_56 dX11_init_131 (fun q22 H hP hD hS => ?_)
  have hP := va_P.swap hP
  have hD := va_D.swap hD
  have hP : va_P D vwCl ([(q, .inr (11, [.ref q1, .ref q2, .ref (b4 0), .ref q5, .ref (b7 0), .ref (b9 0), .ref (b11 0), .ref (b13 0), .ref (b15 0), .ref (b17 0), .ref (b19 0), .ref (b21 0), .null, .int 0, .int 0, .long 0, .long 0])), (q1, .inl (ca 1, 6, refs fun _ => none)), (q2, .inl (ca 1, 4, refs fun _ => none)), (q5, .inl (ca 2, 3, refs fun _ => none)), (q22, .inl (ca 0, 6, .inl fun _ => 0))] ++ G9) H := hP
  have hD : va_D A ([(q, .inr (11, [.ref q1, .ref q2, .ref (b4 0), .ref q5, .ref (b7 0), .ref (b9 0), .ref (b11 0), .ref (b13 0), .ref (b15 0), .ref (b17 0), .ref (b19 0), .ref (b21 0), .null, .int 0, .int 0, .long 0, .long 0])), (q1, .inl (ca 1, 6, refs fun _ => none)), (q2, .inl (ca 1, 4, refs fun _ => none)), (q5, .inl (ca 2, 3, refs fun _ => none)), (q22, .inl (ca 0, 6, .inl fun _ => 0))] ++ G9) := hD
  refine W.widen (k := 94) (n := 2695) (by decide) (by decide) ?_
  refine y_putF C hP hD hS hin rfl (k := 12) (t1 := (.array .int)) kX11 (by decide) rfl rfl q_320 (by decide +kernel) rfl rfl (Nat.le_of_ble_eq_true rfl) dX11_init_133 (fun H locs hP hD hS => ?_)
  have hP : va_P D vwCl ([(q, .inr (11, [.ref q1, .ref q2, .ref (b4 0), .ref q5, .ref (b7 0), .ref (b9 0), .ref (b11 0), .ref (b13 0), .ref (b15 0), .ref (b17 0), .ref (b19 0), .ref (b21 0), .ref q22, .int 0, .int 0, .long 0, .long 0])), (q1, .inl (ca 1, 6, refs fun _ => none)), (q2, .inl (ca 1, 4, refs fun _ => none)), (q5, .inl (ca 2, 3, refs fun _ => none)), (q22, .inl (ca 0, 6, .inl fun _ => 0))] ++ G9) H := hP
  have hD : va_D A ([(q, .inr (11, [.ref q1, .ref q2, .ref (b4 0), .ref q5, .ref (b7 0), .ref (b9 0), .ref (b11 0), .ref (b13 0), .ref (b15 0), .ref (b17 0), .ref (b19 0), .ref (b21 0), .ref q22, .int 0, .int 0, .long 0, .long 0])), (q1, .inl (ca 1, 6, refs fun _ => none)), (q2, .inl (ca 1, 4, refs fun _ => none)), (q5, .inl (ca 2, 3, refs fun _ => none)), (q22, .inl (ca 0, 6, .inl fun _ => 0))] ++ G9) := hD
  refine lv_aload_n C.1 C.2.1 dX11_init_136 rfl (lv_at hl 0 rfl) ?_
  refine lv_lconst (v := 1) C.1 C.2.1 dX11_init_137 (by decide) ?_
  refine y_put C hP hD hS rfl (k := 16) (t1 := .long) kX11 (by decide) rfl rfl q_324 (by decide +kernel) rfl rfl (Nat.le_of_ble_eq_true rfl) dX11_init_138 (fun H locs hP hD hS => ?_)
  have hP : va_P D vwCl ([(q, .inr (11, [.ref q1, .ref q2, .ref (b4 0), .ref q5, .ref (b7 0), .ref (b9 0), .ref (b11 0), .ref (b13 0), .ref (b15 0), .ref (b17 0), .ref (b19 0), .ref (b21 0), .ref q22, .int 0, .int 0, .long 0, .long 1])), (q1, .inl (ca 1, 6, refs fun _ => none)), (q2, .inl (ca 1, 4, refs fun _ => none)), (q5, .inl (ca 2, 3, refs fun _ => none)), (q22, .inl (ca 0, 6, .inl fun _ => 0))] ++ G9) H := hP
  have hD : va_D A ([(q, .inr (11, [.ref q1, .ref q2, .ref (b4 0), .ref q5, .ref (b7 0), .ref (b9 0), .ref (b11 0), .ref (b13 0), .ref (b15 0), .ref (b17 0), .ref (b19 0), .ref (b21 0), .ref q22, .int 0, .int 0, .long 0, .long 1])), (q1, .inl (ca 1, 6, refs fun _ => none)), (q2, .inl (ca 1, 4, refs fun _ => none)), (q5, .inl (ca 2, 3, refs fun _ => none)), (q22, .inl (ca 0, 6, .inl fun _ => 0))] ++ G9) := hD
  refine lv_iconst (v := 0) C.1 C.2.1 dX11_init_141 (by decide) ?_
  refine lv_istore_n (lv' := [(1, .int 0), (0, .ref q)]) C.1 C.2.1 dX11_init_142 rfl hl (by decide) rfl (fun ls hl => ?_)
  refine lv_iload_n C.1 C.2.1 dX11_init_143 rfl (lv_at hl 0 rfl) ?_
  refine lv_bipush (v := 6) C.1 C.2.1 dX11_init_144 (by decide) ?_
  refine lv_icmp_ge (tgt := 170) C.1 C.2.1 dX11_init_146 (by decide) (fun c => absurd c (by decide)) (fun _ => ?_)
  refine lv_aload_n C.1 C.2.1 dX11_init_149 rfl (lv_at hl 1 rfl) ?_
  refine y_get C hP rfl (k := 0) kX11 (by decide) rfl q_308 rfl dX11_init_150 ?_
  refine lv_iload_n C.1 C.2.1 dX11_init_153 rfl (lv_at hl 0 rfl) ?_
  refine y_newo C hP hD hS hA [.null, .int 0] kX6 (fun j hj => by (rcases (by omega : j = 0 ∨ j = 1) with rfl | rfl <;> rfl)) q_25 q_292 q_12 (Nat.le_of_ble_eq_true rfl) (Nat.le_of_ble_eq_true rfl) dX11_init_154 (fun q23 H hP hD hS => ?_)
  have hP : va_P D vwCl (([(q, .inr (11, [.ref q1, .ref q2, .ref (b4 0), .ref q5, .ref (b7 0), .ref (b9 0), .ref (b11 0), .ref (b13 0), .ref (b15 0), .ref (b17 0), .ref (b19 0), .ref (b21 0), .ref q22, .int 0, .int 0, .long 0, .long 1])), (q1, .inl (ca 1, 6, refs fun _ => none)), (q2, .inl (ca 1, 4, refs fun _ => none)), (q5, .inl (ca 2, 3, refs fun _ => none)), (q22, .inl (ca 0, 6, .inl fun _ => 0))] ++ G9) ++ [(q23, .inr (6, [.null, .int 0]))]) H := hP
  have hD : va_D A (([(q, .inr (11, [.ref q1, .ref q2, .ref (b4 0), .ref q5, .ref (b7 0), .ref (b9 0), .ref (b11 0), .ref (b13 0), .ref (b15 0), .ref (b17 0), .ref (b19 0), .ref (b21 0), .ref q22, .int 0, .int 0, .long 0, .long 1])), (q1, .inl (ca 1, 6, refs fun _ => none)), (q2, .inl (ca 1, 4, refs fun _ => none)), (q5, .inl (ca 2, 3, refs fun _ => none)), (q22, .inl (ca 0, 6, .inl fun _ => 0))] ++ G9) ++ [(q23, .inr (6, [.null, .int 0]))]) := hD
  refine W.widen (k := 95) (n := 2697) (by decide) (by decide) ?_
  refine lv_dup C.1 C.2.1 dX11_init_157 rfl ?_
  refine lv_bipush (v := 40) C.1 C.2.1 dX11_init_158 (by decide) ?_
  refine y_call (kX := kkX6_40 ca) hP hD hS hA (y_runI C hN hP [.int 40] [.ref q23, .int 0, .ref q1] RX6 kiX6_init q_293 (tX6_40_init l D ca q23 H.size) rfl rfl ⟨by decide, by decide⟩ rfl hl.1 rfl (Nat.le_of_ble_eq_true rfl) dX11_init_160 ⟨Nat.le_of_ble_eq_true rfl, Nat.le_of_ble_eq_true rfl⟩) (fun b24 H locs eb24 hP hD hS => ?_)
  rw [← eb24]
  have hP := va_P.swap hP
  have hD := va_D.swap hD
  have hP : va_P D vwCl (([(q, .inr (11, [.ref q1, .ref q2, .ref (b4 0), .ref q5, .ref (b7 0), .ref (b9 0), .ref (b11 0), .ref (b13 0), .ref (b15 0), .ref (b17 0), .ref (b19 0), .ref (b21 0), .ref q22, .int 0, .int 0, .long 0, .long 1])), (q1, .inl (ca 1, 6, refs fun _ => none)), (q2, .inl (ca 1, 4, refs fun _ => none)), (q5, .inl (ca 2, 3, refs fun _ => none)), (q22, .inl (ca 0, 6, .inl fun _ => 0))] ++ kkX6_40 ca b24) ++ G9) H := hP
  have hD : va_D A (([(q, .inr (11, [.ref q1, .ref q2, .ref (b4 0), .ref q5, .ref (b7 0), .ref (b9 0), .ref (b11 0), .ref (b13 0), .ref (b15 0), .ref (b17 0), .ref (b19 0), .ref (b21 0), .ref q22, .int 0, .int 0, .long 0, .long 1])), (q1, .inl (ca 1, 6, refs fun _ => none)), (q2, .inl (ca 1, 4, refs fun _ => none)), (q5, .inl (ca 2, 3, refs fun _ => none)), (q22, .inl (ca 0, 6, .inl fun _ => 0))] ++ kkX6_40 ca b24) ++ G9) := hD
  refine W.widen (k := 96) (n := 2737) (by decide) (by decide) ?_
  refine y_asto C hP hD hS 1 5 1 rfl rfl rfl rfl (by decide) dX11_init_163 (fun H locs hP hD hS => ?_)
  have hP : va_P D vwCl (([(q, .inr (11, [.ref q1, .ref q2, .ref (b4 0), .ref q5, .ref (b7 0), .ref (b9 0), .ref (b11 0), .ref (b13 0), .ref (b15 0), .ref (b17 0), .ref (b19 0), .ref (b21 0), .ref q22, .int 0, .int 0, .long 0, .long 1])), (q1, .inl (ca 1, 6, refs (va_up (fun _ => none) (0 : Int32).toNatClampNeg (some (b24 0))))), (q2, .inl (ca 1, 4, refs fun _ => none)), (q5, .inl (ca 2, 3, refs fun _ => none)), (q22, .inl (ca 0, 6, .inl fun _ => 0))] ++ kkX6_40 ca b24) ++ G9) H := hP
  have hD : va_D A (([(q, .inr (11, [.ref q1, .ref q2, .ref (b4 0), .ref q5, .ref (b7 0), .ref (b9 0), .ref (b11 0), .ref (b13 0), .ref (b15 0), .ref (b17 0), .ref (b19 0), .ref (b21 0), .ref q22, .int 0, .int 0, .long 0, .long 1])), (q1, .inl (ca 1, 6, refs (va_up (fun _ => none) (0 : Int32).toNatClampNeg (some (b24 0))))), (q2, .inl (ca 1, 4, refs fun _ => none)), (q5, .inl (ca 2, 3, refs fun _ => none)), (q22, .inl (ca 0, 6, .inl fun _ => 0))] ++ kkX6_40 ca b24) ++ G9) := hD
  refine lv_iinc (v := 1) (lv' := [(1, .int 1), (0, .ref q)]) C.1 C.2.1 dX11_init_164 hl (k := 0) rfl (by decide) (by decide) rfl (fun ls hl => ?_)
  refine lv_goto (tgt := 143) C.1 C.2.1 dX11_init_167 (by decide) ?_
  refine lv_iload_n C.1 C.2.1 dX11_init_143 rfl (lv_at hl 0 rfl) ?_
  refine lv_bipush (v := 6) C.1 C.2.1 dX11_init_144 (by decide) ?_
  refine lv_icmp_ge (tgt := 170) C.1 C.2.1 dX11_init_146 (by decide) (fun c => absurd c (by decide)) (fun _ => ?_)
  refine lv_aload_n C.1 C.2.1 dX11_init_149 rfl (lv_at hl 1 rfl) ?_
  refine y_get C hP rfl (k := 0) kX11 (by decide) rfl q_308 rfl dX11_init_150 ?_
  refine lv_iload_n C.1 C.2.1 dX11_init_153 rfl (lv_at hl 0 rfl) ?_
  have hP := va_P.swap hP
  have hD := va_D.swap hD
  rw [List.append_assoc] at hP hD
  obtain ⟨G10, hG10⟩ : ∃ G : va_W, G = G9 ++ kkX6_40 ca b24 := ⟨_, rfl⟩
  rw [← hG10] at hP hD
  refine y_newo C hP hD hS hA [.null, .int 0] kX6 (fun j hj => by (rcases (by omega : j = 0 ∨ j = 1) with rfl | rfl <;> rfl)) q_25 q_292 q_12 (Nat.le_of_ble_eq_true rfl) (Nat.le_of_ble_eq_true rfl) dX11_init_154 (fun q25 H hP hD hS => ?_)
  have hP : va_P D vwCl (([(q, .inr (11, [.ref q1, .ref q2, .ref (b4 0), .ref q5, .ref (b7 0), .ref (b9 0), .ref (b11 0), .ref (b13 0), .ref (b15 0), .ref (b17 0), .ref (b19 0), .ref (b21 0), .ref q22, .int 0, .int 0, .long 0, .long 1])), (q1, .inl (ca 1, 6, refs (va_up (fun _ => none) (0 : Int32).toNatClampNeg (some (b24 0))))), (q2, .inl (ca 1, 4, refs fun _ => none)), (q5, .inl (ca 2, 3, refs fun _ => none)), (q22, .inl (ca 0, 6, .inl fun _ => 0))] ++ G10) ++ [(q25, .inr (6, [.null, .int 0]))]) H := hP
  have hD : va_D A (([(q, .inr (11, [.ref q1, .ref q2, .ref (b4 0), .ref q5, .ref (b7 0), .ref (b9 0), .ref (b11 0), .ref (b13 0), .ref (b15 0), .ref (b17 0), .ref (b19 0), .ref (b21 0), .ref q22, .int 0, .int 0, .long 0, .long 1])), (q1, .inl (ca 1, 6, refs (va_up (fun _ => none) (0 : Int32).toNatClampNeg (some (b24 0))))), (q2, .inl (ca 1, 4, refs fun _ => none)), (q5, .inl (ca 2, 3, refs fun _ => none)), (q22, .inl (ca 0, 6, .inl fun _ => 0))] ++ G10) ++ [(q25, .inr (6, [.null, .int 0]))]) := hD
  refine W.widen (k := 97) (n := 2739) (by decide) (by decide) ?_
  refine lv_dup C.1 C.2.1 dX11_init_157 rfl ?_
  refine lv_bipush (v := 40) C.1 C.2.1 dX11_init_158 (by decide) ?_
  refine y_call (kX := kkX6_40 ca) hP hD hS hA (y_runI C hN hP [.int 40] [.ref q25, .int 1, .ref q1] RX6 kiX6_init q_293 (tX6_40_init l D ca q25 H.size) rfl rfl ⟨by decide, by decide⟩ rfl hl.1 rfl (Nat.le_of_ble_eq_true rfl) dX11_init_160 ⟨Nat.le_of_ble_eq_true rfl, Nat.le_of_ble_eq_true rfl⟩) (fun b26 H locs eb26 hP hD hS => ?_)
  rw [← eb26]
  have hP := va_P.swap hP
  have hD := va_D.swap hD
  have hP : va_P D vwCl (([(q, .inr (11, [.ref q1, .ref q2, .ref (b4 0), .ref q5, .ref (b7 0), .ref (b9 0), .ref (b11 0), .ref (b13 0), .ref (b15 0), .ref (b17 0), .ref (b19 0), .ref (b21 0), .ref q22, .int 0, .int 0, .long 0, .long 1])), (q1, .inl (ca 1, 6, refs (va_up (fun _ => none) (0 : Int32).toNatClampNeg (some (b24 0))))), (q2, .inl (ca 1, 4, refs fun _ => none)), (q5, .inl (ca 2, 3, refs fun _ => none)), (q22, .inl (ca 0, 6, .inl fun _ => 0))] ++ kkX6_40 ca b26) ++ G10) H := hP
  have hD : va_D A (([(q, .inr (11, [.ref q1, .ref q2, .ref (b4 0), .ref q5, .ref (b7 0), .ref (b9 0), .ref (b11 0), .ref (b13 0), .ref (b15 0), .ref (b17 0), .ref (b19 0), .ref (b21 0), .ref q22, .int 0, .int 0, .long 0, .long 1])), (q1, .inl (ca 1, 6, refs (va_up (fun _ => none) (0 : Int32).toNatClampNeg (some (b24 0))))), (q2, .inl (ca 1, 4, refs fun _ => none)), (q5, .inl (ca 2, 3, refs fun _ => none)), (q22, .inl (ca 0, 6, .inl fun _ => 0))] ++ kkX6_40 ca b26) ++ G10) := hD
  refine W.widen (k := 98) (n := 2779) (by decide) (by decide) ?_
  refine y_asto C hP hD hS 1 5 1 rfl rfl rfl rfl (by decide) dX11_init_163 (fun H locs hP hD hS => ?_)
  have hP : va_P D vwCl (([(q, .inr (11, [.ref q1, .ref q2, .ref (b4 0), .ref q5, .ref (b7 0), .ref (b9 0), .ref (b11 0), .ref (b13 0), .ref (b15 0), .ref (b17 0), .ref (b19 0), .ref (b21 0), .ref q22, .int 0, .int 0, .long 0, .long 1])), (q1, .inl (ca 1, 6, refs (va_up ((va_up (fun _ => none) (0 : Int32).toNatClampNeg (some (b24 0)))) (1 : Int32).toNatClampNeg (some (b26 0))))), (q2, .inl (ca 1, 4, refs fun _ => none)), (q5, .inl (ca 2, 3, refs fun _ => none)), (q22, .inl (ca 0, 6, .inl fun _ => 0))] ++ kkX6_40 ca b26) ++ G10) H := hP
  have hD : va_D A (([(q, .inr (11, [.ref q1, .ref q2, .ref (b4 0), .ref q5, .ref (b7 0), .ref (b9 0), .ref (b11 0), .ref (b13 0), .ref (b15 0), .ref (b17 0), .ref (b19 0), .ref (b21 0), .ref q22, .int 0, .int 0, .long 0, .long 1])), (q1, .inl (ca 1, 6, refs (va_up ((va_up (fun _ => none) (0 : Int32).toNatClampNeg (some (b24 0)))) (1 : Int32).toNatClampNeg (some (b26 0))))), (q2, .inl (ca 1, 4, refs fun _ => none)), (q5, .inl (ca 2, 3, refs fun _ => none)), (q22, .inl (ca 0, 6, .inl fun _ => 0))] ++ kkX6_40 ca b26) ++ G10) := hD
  refine lv_iinc (v := 2) (lv' := [(1, .int 2), (0, .ref q)]) C.1 C.2.1 dX11_init_164 hl (k := 0) rfl (by decide) (by decide) rfl (fun ls hl => ?_)
  refine lv_goto (tgt := 143) C.1 C.2.1 dX11_init_167 (by decide) ?_
  refine lv_iload_n C.1 C.2.1 dX11_init_143 rfl (lv_at hl 0 rfl) ?_
  refine lv_bipush (v := 6) C.1 C.2.1 dX11_init_144 (by decide) ?_
  refine lv_icmp_ge (tgt := 170) C.1 C.2.1 dX11_init_146 (by decide) (fun c => absurd c (by decide)) (fun _ => ?_)
  refine lv_aload_n C.1 C.2.1 dX11_init_149 rfl (lv_at hl 1 rfl) ?_
  refine y_get C hP rfl (k := 0) kX11 (by decide) rfl q_308 rfl dX11_init_150 ?_
  refine lv_iload_n C.1 C.2.1 dX11_init_153 rfl (lv_at hl 0 rfl) ?_
  have hP := va_P.swap hP
  have hD := va_D.swap hD
  rw [List.append_assoc] at hP hD
  obtain ⟨G11, hG11⟩ : ∃ G : va_W, G = G10 ++ kkX6_40 ca b26 := ⟨_, rfl⟩
  rw [← hG11] at hP hD
  refine y_newo C hP hD hS hA [.null, .int 0] kX6 (fun j hj => by (rcases (by omega : j = 0 ∨ j = 1) with rfl | rfl <;> rfl)) q_25 q_292 q_12 (Nat.le_of_ble_eq_true rfl) (Nat.le_of_ble_eq_true rfl) dX11_init_154 (fun q27 H hP hD hS => ?_)
  have hP : va_P D vwCl (([(q, .inr (11, [.ref q1, .ref q2, .ref (b4 0), .ref q5, .ref (b7 0), .ref (b9 0), .ref (b11 0), .ref (b13 0), .ref (b15 0), .ref (b17 0), .ref (b19 0), .ref (b21 0), .ref q22, .int 0, .int 0, .long 0, .long 1])), (q1, .inl (ca 1, 6, refs (va_up ((va_up (fun _ => none) (0 : Int32).toNatClampNeg (some (b24 0)))) (1 : Int32).toNatClampNeg (some (b26 0))))), (q2, .inl (ca 1, 4, refs fun _ => none)), (q5, .inl (ca 2, 3, refs fun _ => none)), (q22, .inl (ca 0, 6, .inl fun _ => 0))] ++ G11) ++ [(q27, .inr (6, [.null, .int 0]))]) H := hP
  have hD : va_D A (([(q, .inr (11, [.ref q1, .ref q2, .ref (b4 0), .ref q5, .ref (b7 0), .ref (b9 0), .ref (b11 0), .ref (b13 0), .ref (b15 0), .ref (b17 0), .ref (b19 0), .ref (b21 0), .ref q22, .int 0, .int 0, .long 0, .long 1])), (q1, .inl (ca 1, 6, refs (va_up ((va_up (fun _ => none) (0 : Int32).toNatClampNeg (some (b24 0)))) (1 : Int32).toNatClampNeg (some (b26 0))))), (q2, .inl (ca 1, 4, refs fun _ => none)), (q5, .inl (ca 2, 3, refs fun _ => none)), (q22, .inl (ca 0, 6, .inl fun _ => 0))] ++ G11) ++ [(q27, .inr (6, [.null, .int 0]))]) := hD
  refine W.widen (k := 99) (n := 2781) (by decide) (by decide) ?_
  refine lv_dup C.1 C.2.1 dX11_init_157 rfl ?_
  refine lv_bipush (v := 40) C.1 C.2.1 dX11_init_158 (by decide) ?_
  refine y_call (kX := kkX6_40 ca) hP hD hS hA (y_runI C hN hP [.int 40] [.ref q27, .int 2, .ref q1] RX6 kiX6_init q_293 (tX6_40_init l D ca q27 H.size) rfl rfl ⟨by decide, by decide⟩ rfl hl.1 rfl (Nat.le_of_ble_eq_true rfl) dX11_init_160 ⟨Nat.le_of_ble_eq_true rfl, Nat.le_of_ble_eq_true rfl⟩) (fun b28 H locs eb28 hP hD hS => ?_)
  rw [← eb28]
  have hP := va_P.swap hP
  have hD := va_D.swap hD
  have hP : va_P D vwCl (([(q, .inr (11, [.ref q1, .ref q2, .ref (b4 0), .ref q5, .ref (b7 0), .ref (b9 0), .ref (b11 0), .ref (b13 0), .ref (b15 0), .ref (b17 0), .ref (b19 0), .ref (b21 0), .ref q22, .int 0, .int 0, .long 0, .long 1])), (q1, .inl (ca 1, 6, refs (va_up ((va_up (fun _ => none) (0 : Int32).toNatClampNeg (some (b24 0)))) (1 : Int32).toNatClampNeg (some (b26 0))))), (q2, .inl (ca 1, 4, refs fun _ => none)), (q5, .inl (ca 2, 3, refs fun _ => none)), (q22, .inl (ca 0, 6, .inl fun _ => 0))] ++ kkX6_40 ca b28) ++ G11) H := hP
  have hD : va_D A (([(q, .inr (11, [.ref q1, .ref q2, .ref (b4 0), .ref q5, .ref (b7 0), .ref (b9 0), .ref (b11 0), .ref (b13 0), .ref (b15 0), .ref (b17 0), .ref (b19 0), .ref (b21 0), .ref q22, .int 0, .int 0, .long 0, .long 1])), (q1, .inl (ca 1, 6, refs (va_up ((va_up (fun _ => none) (0 : Int32).toNatClampNeg (some (b24 0)))) (1 : Int32).toNatClampNeg (some (b26 0))))), (q2, .inl (ca 1, 4, refs fun _ => none)), (q5, .inl (ca 2, 3, refs fun _ => none)), (q22, .inl (ca 0, 6, .inl fun _ => 0))] ++ kkX6_40 ca b28) ++ G11) := hD
  refine W.widen (k := 100) (n := 2821) (by decide) (by decide) ?_
  refine y_asto C hP hD hS 1 5 1 rfl rfl rfl rfl (by decide) dX11_init_163 (fun H locs hP hD hS => ?_)
  have hP : va_P D vwCl (([(q, .inr (11, [.ref q1, .ref q2, .ref (b4 0), .ref q5, .ref (b7 0), .ref (b9 0), .ref (b11 0), .ref (b13 0), .ref (b15 0), .ref (b17 0), .ref (b19 0), .ref (b21 0), .ref q22, .int 0, .int 0, .long 0, .long 1])), (q1, .inl (ca 1, 6, refs (va_up ((va_up ((va_up (fun _ => none) (0 : Int32).toNatClampNeg (some (b24 0)))) (1 : Int32).toNatClampNeg (some (b26 0)))) (2 : Int32).toNatClampNeg (some (b28 0))))), (q2, .inl (ca 1, 4, refs fun _ => none)), (q5, .inl (ca 2, 3, refs fun _ => none)), (q22, .inl (ca 0, 6, .inl fun _ => 0))] ++ kkX6_40 ca b28) ++ G11) H := hP
  have hD : va_D A (([(q, .inr (11, [.ref q1, .ref q2, .ref (b4 0), .ref q5, .ref (b7 0), .ref (b9 0), .ref (b11 0), .ref (b13 0), .ref (b15 0), .ref (b17 0), .ref (b19 0), .ref (b21 0), .ref q22, .int 0, .int 0, .long 0, .long 1])), (q1, .inl (ca 1, 6, refs (va_up ((va_up ((va_up (fun _ => none) (0 : Int32).toNatClampNeg (some (b24 0)))) (1 : Int32).toNatClampNeg (some (b26 0)))) (2 : Int32).toNatClampNeg (some (b28 0))))), (q2, .inl (ca 1, 4, refs fun _ => none)), (q5, .inl (ca 2, 3, refs fun _ => none)), (q22, .inl (ca 0, 6, .inl fun _ => 0))] ++ kkX6_40 ca b28) ++ G11) := hD
  refine lv_iinc (v := 3) (lv' := [(1, .int 3), (0, .ref q)]) C.1 C.2.1 dX11_init_164 hl (k := 0) rfl (by decide) (by decide) rfl (fun ls hl => ?_)
  refine lv_goto (tgt := 143) C.1 C.2.1 dX11_init_167 (by decide) ?_
  refine lv_iload_n C.1 C.2.1 dX11_init_143 rfl (lv_at hl 0 rfl) ?_
  refine lv_bipush (v := 6) C.1 C.2.1 dX11_init_144 (by decide) ?_
  refine lv_icmp_ge (tgt := 170) C.1 C.2.1 dX11_init_146 (by decide) (fun c => absurd c (by decide)) (fun _ => ?_)
  refine lv_aload_n C.1 C.2.1 dX11_init_149 rfl (lv_at hl 1 rfl) ?_
  refine y_get C hP rfl (k := 0) kX11 (by decide) rfl q_308 rfl dX11_init_150 ?_
  refine lv_iload_n C.1 C.2.1 dX11_init_153 rfl (lv_at hl 0 rfl) ?_
  have hP := va_P.swap hP
  have hD := va_D.swap hD
  rw [List.append_assoc] at hP hD
  obtain ⟨G12, hG12⟩ : ∃ G : va_W, G = G11 ++ kkX6_40 ca b28 := ⟨_, rfl⟩
  rw [← hG12] at hP hD
  refine y_newo C hP hD hS hA [.null, .int 0] kX6 (fun j hj => by (rcases (by omega : j = 0 ∨ j = 1) with rfl | rfl <;> rfl)) q_25 q_292 q_12 (Nat.le_of_ble_eq_true rfl) (Nat.le_of_ble_eq_true rfl) dX11_init_154 (fun q29 H hP hD hS => ?_)
  have hP : va_P D vwCl (([(q, .inr (11, [.ref q1, .ref q2, .ref (b4 0), .ref q5, .ref (b7 0), .ref (b9 0), .ref (b11 0), .ref (b13 0), .ref (b15 0), .ref (b17 0), .ref (b19 0), .ref (b21 0), .ref q22, .int 0, .int 0, .long 0, .long 1])), (q1, .inl (ca 1, 6, refs (va_up ((va_up ((va_up (fun _ => none) (0 : Int32).toNatClampNeg (some (b24 0)))) (1 : Int32).toNatClampNeg (some (b26 0)))) (2 : Int32).toNatClampNeg (some (b28 0))))), (q2, .inl (ca 1, 4, refs fun _ => none)), (q5, .inl (ca 2, 3, refs fun _ => none)), (q22, .inl (ca 0, 6, .inl fun _ => 0))] ++ G12) ++ [(q29, .inr (6, [.null, .int 0]))]) H := hP
  have hD : va_D A (([(q, .inr (11, [.ref q1, .ref q2, .ref (b4 0), .ref q5, .ref (b7 0), .ref (b9 0), .ref (b11 0), .ref (b13 0), .ref (b15 0), .ref (b17 0), .ref (b19 0), .ref (b21 0), .ref q22, .int 0, .int 0, .long 0, .long 1])), (q1, .inl (ca 1, 6, refs (va_up ((va_up ((va_up (fun _ => none) (0 : Int32).toNatClampNeg (some (b24 0)))) (1 : Int32).toNatClampNeg (some (b26 0)))) (2 : Int32).toNatClampNeg (some (b28 0))))), (q2, .inl (ca 1, 4, refs fun _ => none)), (q5, .inl (ca 2, 3, refs fun _ => none)), (q22, .inl (ca 0, 6, .inl fun _ => 0))] ++ G12) ++ [(q29, .inr (6, [.null, .int 0]))]) := hD
  refine W.widen (k := 101) (n := 2823) (by decide) (by decide) ?_
  refine lv_dup C.1 C.2.1 dX11_init_157 rfl ?_
  refine lv_bipush (v := 40) C.1 C.2.1 dX11_init_158 (by decide) ?_
  refine y_call (kX := kkX6_40 ca) hP hD hS hA (y_runI C hN hP [.int 40] [.ref q29, .int 3, .ref q1] RX6 kiX6_init q_293 (tX6_40_init l D ca q29 H.size) rfl rfl ⟨by decide, by decide⟩ rfl hl.1 rfl (Nat.le_of_ble_eq_true rfl) dX11_init_160 ⟨Nat.le_of_ble_eq_true rfl, Nat.le_of_ble_eq_true rfl⟩) (fun b30 H locs eb30 hP hD hS => ?_)
  rw [← eb30]
  have hP := va_P.swap hP
  have hD := va_D.swap hD
  have hP : va_P D vwCl (([(q, .inr (11, [.ref q1, .ref q2, .ref (b4 0), .ref q5, .ref (b7 0), .ref (b9 0), .ref (b11 0), .ref (b13 0), .ref (b15 0), .ref (b17 0), .ref (b19 0), .ref (b21 0), .ref q22, .int 0, .int 0, .long 0, .long 1])), (q1, .inl (ca 1, 6, refs (va_up ((va_up ((va_up (fun _ => none) (0 : Int32).toNatClampNeg (some (b24 0)))) (1 : Int32).toNatClampNeg (some (b26 0)))) (2 : Int32).toNatClampNeg (some (b28 0))))), (q2, .inl (ca 1, 4, refs fun _ => none)), (q5, .inl (ca 2, 3, refs fun _ => none)), (q22, .inl (ca 0, 6, .inl fun _ => 0))] ++ kkX6_40 ca b30) ++ G12) H := hP
  have hD : va_D A (([(q, .inr (11, [.ref q1, .ref q2, .ref (b4 0), .ref q5, .ref (b7 0), .ref (b9 0), .ref (b11 0), .ref (b13 0), .ref (b15 0), .ref (b17 0), .ref (b19 0), .ref (b21 0), .ref q22, .int 0, .int 0, .long 0, .long 1])), (q1, .inl (ca 1, 6, refs (va_up ((va_up ((va_up (fun _ => none) (0 : Int32).toNatClampNeg (some (b24 0)))) (1 : Int32).toNatClampNeg (some (b26 0)))) (2 : Int32).toNatClampNeg (some (b28 0))))), (q2, .inl (ca 1, 4, refs fun _ => none)), (q5, .inl (ca 2, 3, refs fun _ => none)), (q22, .inl (ca 0, 6, .inl fun _ => 0))] ++ kkX6_40 ca b30) ++ G12) := hD
  refine W.widen (k := 102) (n := 2863) (by decide) (by decide) ?_
  refine y_asto C hP hD hS 1 5 1 rfl rfl rfl rfl (by decide) dX11_init_163 (fun H locs hP hD hS => ?_)
  have hP : va_P D vwCl (([(q, .inr (11, [.ref q1, .ref q2, .ref (b4 0), .ref q5, .ref (b7 0), .ref (b9 0), .ref (b11 0), .ref (b13 0), .ref (b15 0), .ref (b17 0), .ref (b19 0), .ref (b21 0), .ref q22, .int 0, .int 0, .long 0, .long 1])), (q1, .inl (ca 1, 6, refs (va_up ((va_up ((va_up ((va_up (fun _ => none) (0 : Int32).toNatClampNeg (some (b24 0)))) (1 : Int32).toNatClampNeg (some (b26 0)))) (2 : Int32).toNatClampNeg (some (b28 0)))) (3 : Int32).toNatClampNeg (some (b30 0))))), (q2, .inl (ca 1, 4, refs fun _ => none)), (q5, .inl (ca 2, 3, refs fun _ => none)), (q22, .inl (ca 0, 6, .inl fun _ => 0))] ++ kkX6_40 ca b30) ++ G12) H := hP
  have hD : va_D A (([(q, .inr (11, [.ref q1, .ref q2, .ref (b4 0), .ref q5, .ref (b7 0), .ref (b9 0), .ref (b11 0), .ref (b13 0), .ref (b15 0), .ref (b17 0), .ref (b19 0), .ref (b21 0), .ref q22, .int 0, .int 0, .long 0, .long 1])), (q1, .inl (ca 1, 6, refs (va_up ((va_up ((va_up ((va_up (fun _ => none) (0 : Int32).toNatClampNeg (some (b24 0)))) (1 : Int32).toNatClampNeg (some (b26 0)))) (2 : Int32).toNatClampNeg (some (b28 0)))) (3 : Int32).toNatClampNeg (some (b30 0))))), (q2, .inl (ca 1, 4, refs fun _ => none)), (q5, .inl (ca 2, 3, refs fun _ => none)), (q22, .inl (ca 0, 6, .inl fun _ => 0))] ++ kkX6_40 ca b30) ++ G12) := hD
  refine lv_iinc (v := 4) (lv' := [(1, .int 4), (0, .ref q)]) C.1 C.2.1 dX11_init_164 hl (k := 0) rfl (by decide) (by decide) rfl (fun ls hl => ?_)
  refine lv_goto (tgt := 143) C.1 C.2.1 dX11_init_167 (by decide) ?_
  refine lv_iload_n C.1 C.2.1 dX11_init_143 rfl (lv_at hl 0 rfl) ?_
  refine lv_bipush (v := 6) C.1 C.2.1 dX11_init_144 (by decide) ?_
  refine lv_icmp_ge (tgt := 170) C.1 C.2.1 dX11_init_146 (by decide) (fun c => absurd c (by decide)) (fun _ => ?_)
  refine lv_aload_n C.1 C.2.1 dX11_init_149 rfl (lv_at hl 1 rfl) ?_
  refine y_get C hP rfl (k := 0) kX11 (by decide) rfl q_308 rfl dX11_init_150 ?_
  refine lv_iload_n C.1 C.2.1 dX11_init_153 rfl (lv_at hl 0 rfl) ?_
  have hP := va_P.swap hP
  have hD := va_D.swap hD
  rw [List.append_assoc] at hP hD
  obtain ⟨G13, hG13⟩ : ∃ G : va_W, G = G12 ++ kkX6_40 ca b30 := ⟨_, rfl⟩
  rw [← hG13] at hP hD
  refine y_newo C hP hD hS hA [.null, .int 0] kX6 (fun j hj => by (rcases (by omega : j = 0 ∨ j = 1) with rfl | rfl <;> rfl)) q_25 q_292 q_12 (Nat.le_of_ble_eq_true rfl) (Nat.le_of_ble_eq_true rfl) dX11_init_154 (fun q31 H hP hD hS => ?_)
  have hP : va_P D vwCl (([(q, .inr (11, [.ref q1, .ref q2, .ref (b4 0), .ref q5, .ref (b7 0), .ref (b9 0), .ref (b11 0), .ref (b13 0), .ref (b15 0), .ref (b17 0), .ref (b19 0), .ref (b21 0), .ref q22, .int 0, .int 0, .long 0, .long 1])), (q1, .inl (ca 1, 6, refs (va_up ((va_up ((va_up ((va_up (fun _ => none) (0 : Int32).toNatClampNeg (some (b24 0)))) (1 : Int32).toNatClampNeg (some (b26 0)))) (2 : Int32).toNatClampNeg (some (b28 0)))) (3 : Int32).toNatClampNeg (some (b30 0))))), (q2, .inl (ca 1, 4, refs fun _ => none)), (q5, .inl (ca 2, 3, refs fun _ => none)), (q22, .inl (ca 0, 6, .inl fun _ => 0))] ++ G13) ++ [(q31, .inr (6, [.null, .int 0]))]) H := hP
  have hD : va_D A (([(q, .inr (11, [.ref q1, .ref q2, .ref (b4 0), .ref q5, .ref (b7 0), .ref (b9 0), .ref (b11 0), .ref (b13 0), .ref (b15 0), .ref (b17 0), .ref (b19 0), .ref (b21 0), .ref q22, .int 0, .int 0, .long 0, .long 1])), (q1, .inl (ca 1, 6, refs (va_up ((va_up ((va_up ((va_up (fun _ => none) (0 : Int32).toNatClampNeg (some (b24 0)))) (1 : Int32).toNatClampNeg (some (b26 0)))) (2 : Int32).toNatClampNeg (some (b28 0)))) (3 : Int32).toNatClampNeg (some (b30 0))))), (q2, .inl (ca 1, 4, refs fun _ => none)), (q5, .inl (ca 2, 3, refs fun _ => none)), (q22, .inl (ca 0, 6, .inl fun _ => 0))] ++ G13) ++ [(q31, .inr (6, [.null, .int 0]))]) := hD
  refine W.widen (k := 103) (n := 2865) (by decide) (by decide) ?_
  refine lv_dup C.1 C.2.1 dX11_init_157 rfl ?_
  refine lv_bipush (v := 40) C.1 C.2.1 dX11_init_158 (by decide) ?_
  refine y_call (kX := kkX6_40 ca) hP hD hS hA (y_runI C hN hP [.int 40] [.ref q31, .int 4, .ref q1] RX6 kiX6_init q_293 (tX6_40_init l D ca q31 H.size) rfl rfl ⟨by decide, by decide⟩ rfl hl.1 rfl (Nat.le_of_ble_eq_true rfl) dX11_init_160 ⟨Nat.le_of_ble_eq_true rfl, Nat.le_of_ble_eq_true rfl⟩) (fun b32 H locs eb32 hP hD hS => ?_)
  rw [← eb32]
  have hP := va_P.swap hP
  have hD := va_D.swap hD
  have hP : va_P D vwCl (([(q, .inr (11, [.ref q1, .ref q2, .ref (b4 0), .ref q5, .ref (b7 0), .ref (b9 0), .ref (b11 0), .ref (b13 0), .ref (b15 0), .ref (b17 0), .ref (b19 0), .ref (b21 0), .ref q22, .int 0, .int 0, .long 0, .long 1])), (q1, .inl (ca 1, 6, refs (va_up ((va_up ((va_up ((va_up (fun _ => none) (0 : Int32).toNatClampNeg (some (b24 0)))) (1 : Int32).toNatClampNeg (some (b26 0)))) (2 : Int32).toNatClampNeg (some (b28 0)))) (3 : Int32).toNatClampNeg (some (b30 0))))), (q2, .inl (ca 1, 4, refs fun _ => none)), (q5, .inl (ca 2, 3, refs fun _ => none)), (q22, .inl (ca 0, 6, .inl fun _ => 0))] ++ kkX6_40 ca b32) ++ G13) H := hP
  have hD : va_D A (([(q, .inr (11, [.ref q1, .ref q2, .ref (b4 0), .ref q5, .ref (b7 0), .ref (b9 0), .ref (b11 0), .ref (b13 0), .ref (b15 0), .ref (b17 0), .ref (b19 0), .ref (b21 0), .ref q22, .int 0, .int 0, .long 0, .long 1])), (q1, .inl (ca 1, 6, refs (va_up ((va_up ((va_up ((va_up (fun _ => none) (0 : Int32).toNatClampNeg (some (b24 0)))) (1 : Int32).toNatClampNeg (some (b26 0)))) (2 : Int32).toNatClampNeg (some (b28 0)))) (3 : Int32).toNatClampNeg (some (b30 0))))), (q2, .inl (ca 1, 4, refs fun _ => none)), (q5, .inl (ca 2, 3, refs fun _ => none)), (q22, .inl (ca 0, 6, .inl fun _ => 0))] ++ kkX6_40 ca b32) ++ G13) := hD
  refine W.widen (k := 104) (n := 2905) (by decide) (by decide) ?_
  refine y_asto C hP hD hS 1 5 1 rfl rfl rfl rfl (by decide) dX11_init_163 (fun H locs hP hD hS => ?_)
  have hP : va_P D vwCl (([(q, .inr (11, [.ref q1, .ref q2, .ref (b4 0), .ref q5, .ref (b7 0), .ref (b9 0), .ref (b11 0), .ref (b13 0), .ref (b15 0), .ref (b17 0), .ref (b19 0), .ref (b21 0), .ref q22, .int 0, .int 0, .long 0, .long 1])), (q1, .inl (ca 1, 6, refs (va_up ((va_up ((va_up ((va_up ((va_up (fun _ => none) (0 : Int32).toNatClampNeg (some (b24 0)))) (1 : Int32).toNatClampNeg (some (b26 0)))) (2 : Int32).toNatClampNeg (some (b28 0)))) (3 : Int32).toNatClampNeg (some (b30 0)))) (4 : Int32).toNatClampNeg (some (b32 0))))), (q2, .inl (ca 1, 4, refs fun _ => none)), (q5, .inl (ca 2, 3, refs fun _ => none)), (q22, .inl (ca 0, 6, .inl fun _ => 0))] ++ kkX6_40 ca b32) ++ G13) H := hP
  have hD : va_D A (([(q, .inr (11, [.ref q1, .ref q2, .ref (b4 0), .ref q5, .ref (b7 0), .ref (b9 0), .ref (b11 0), .ref (b13 0), .ref (b15 0), .ref (b17 0), .ref (b19 0), .ref (b21 0), .ref q22, .int 0, .int 0, .long 0, .long 1])), (q1, .inl (ca 1, 6, refs (va_up ((va_up ((va_up ((va_up ((va_up (fun _ => none) (0 : Int32).toNatClampNeg (some (b24 0)))) (1 : Int32).toNatClampNeg (some (b26 0)))) (2 : Int32).toNatClampNeg (some (b28 0)))) (3 : Int32).toNatClampNeg (some (b30 0)))) (4 : Int32).toNatClampNeg (some (b32 0))))), (q2, .inl (ca 1, 4, refs fun _ => none)), (q5, .inl (ca 2, 3, refs fun _ => none)), (q22, .inl (ca 0, 6, .inl fun _ => 0))] ++ kkX6_40 ca b32) ++ G13) := hD
  refine lv_iinc (v := 5) (lv' := [(1, .int 5), (0, .ref q)]) C.1 C.2.1 dX11_init_164 hl (k := 0) rfl (by decide) (by decide) rfl (fun ls hl => ?_)
  refine lv_goto (tgt := 143) C.1 C.2.1 dX11_init_167 (by decide) ?_
  refine lv_iload_n C.1 C.2.1 dX11_init_143 rfl (lv_at hl 0 rfl) ?_
  refine lv_bipush (v := 6) C.1 C.2.1 dX11_init_144 (by decide) ?_
  refine lv_icmp_ge (tgt := 170) C.1 C.2.1 dX11_init_146 (by decide) (fun c => absurd c (by decide)) (fun _ => ?_)
  refine lv_aload_n C.1 C.2.1 dX11_init_149 rfl (lv_at hl 1 rfl) ?_
  refine y_get C hP rfl (k := 0) kX11 (by decide) rfl q_308 rfl dX11_init_150 ?_
  refine lv_iload_n C.1 C.2.1 dX11_init_153 rfl (lv_at hl 0 rfl) ?_
  have hP := va_P.swap hP
  have hD := va_D.swap hD
  rw [List.append_assoc] at hP hD
  obtain ⟨G14, hG14⟩ : ∃ G : va_W, G = G13 ++ kkX6_40 ca b32 := ⟨_, rfl⟩
  rw [← hG14] at hP hD
  refine y_newo C hP hD hS hA [.null, .int 0] kX6 (fun j hj => by (rcases (by omega : j = 0 ∨ j = 1) with rfl | rfl <;> rfl)) q_25 q_292 q_12 (Nat.le_of_ble_eq_true rfl) (Nat.le_of_ble_eq_true rfl) dX11_init_154 (fun q33 H hP hD hS => ?_)
  have hP : va_P D vwCl (([(q, .inr (11, [.ref q1, .ref q2, .ref (b4 0), .ref q5, .ref (b7 0), .ref (b9 0), .ref (b11 0), .ref (b13 0), .ref (b15 0), .ref (b17 0), .ref (b19 0), .ref (b21 0), .ref q22, .int 0, .int 0, .long 0, .long 1])), (q1, .inl (ca 1, 6, refs (va_up ((va_up ((va_up ((va_up ((va_up (fun _ => none) (0 : Int32).toNatClampNeg (some (b24 0)))) (1 : Int32).toNatClampNeg (some (b26 0)))) (2 : Int32).toNatClampNeg (some (b28 0)))) (3 : Int32).toNatClampNeg (some (b30 0)))) (4 : Int32).toNatClampNeg (some (b32 0))))), (q2, .inl (ca 1, 4, refs fun _ => none)), (q5, .inl (ca 2, 3, refs fun _ => none)), (q22, .inl (ca 0, 6, .inl fun _ => 0))] ++ G14) ++ [(q33, .inr (6, [.null, .int 0]))]) H := hP
  have hD : va_D A (([(q, .inr (11, [.ref q1, .ref q2, .ref (b4 0), .ref q5, .ref (b7 0), .ref (b9 0), .ref (b11 0), .ref (b13 0), .ref (b15 0), .ref (b17 0), .ref (b19 0), .ref (b21 0), .ref q22, .int 0, .int 0, .long 0, .long 1])), (q1, .inl (ca 1, 6, refs (va_up ((va_up ((va_up ((va_up ((va_up (fun _ => none) (0 : Int32).toNatClampNeg (some (b24 0)))) (1 : Int32).toNatClampNeg (some (b26 0)))) (2 : Int32).toNatClampNeg (some (b28 0)))) (3 : Int32).toNatClampNeg (some (b30 0)))) (4 : Int32).toNatClampNeg (some (b32 0))))), (q2, .inl (ca 1, 4, refs fun _ => none)), (q5, .inl (ca 2, 3, refs fun _ => none)), (q22, .inl (ca 0, 6, .inl fun _ => 0))] ++ G14) ++ [(q33, .inr (6, [.null, .int 0]))]) := hD
  refine W.widen (k := 105) (n := 2907) (by decide) (by decide) ?_
  refine lv_dup C.1 C.2.1 dX11_init_157 rfl ?_
  refine lv_bipush (v := 40) C.1 C.2.1 dX11_init_158 (by decide) ?_
  refine y_call (kX := kkX6_40 ca) hP hD hS hA (y_runI C hN hP [.int 40] [.ref q33, .int 5, .ref q1] RX6 kiX6_init q_293 (tX6_40_init l D ca q33 H.size) rfl rfl ⟨by decide, by decide⟩ rfl hl.1 rfl (Nat.le_of_ble_eq_true rfl) dX11_init_160 ⟨Nat.le_of_ble_eq_true rfl, Nat.le_of_ble_eq_true rfl⟩) (fun b34 H locs eb34 hP hD hS => ?_)
  rw [← eb34]
  have hP := va_P.swap hP
  have hD := va_D.swap hD
  have hP : va_P D vwCl (([(q, .inr (11, [.ref q1, .ref q2, .ref (b4 0), .ref q5, .ref (b7 0), .ref (b9 0), .ref (b11 0), .ref (b13 0), .ref (b15 0), .ref (b17 0), .ref (b19 0), .ref (b21 0), .ref q22, .int 0, .int 0, .long 0, .long 1])), (q1, .inl (ca 1, 6, refs (va_up ((va_up ((va_up ((va_up ((va_up (fun _ => none) (0 : Int32).toNatClampNeg (some (b24 0)))) (1 : Int32).toNatClampNeg (some (b26 0)))) (2 : Int32).toNatClampNeg (some (b28 0)))) (3 : Int32).toNatClampNeg (some (b30 0)))) (4 : Int32).toNatClampNeg (some (b32 0))))), (q2, .inl (ca 1, 4, refs fun _ => none)), (q5, .inl (ca 2, 3, refs fun _ => none)), (q22, .inl (ca 0, 6, .inl fun _ => 0))] ++ kkX6_40 ca b34) ++ G14) H := hP
  have hD : va_D A (([(q, .inr (11, [.ref q1, .ref q2, .ref (b4 0), .ref q5, .ref (b7 0), .ref (b9 0), .ref (b11 0), .ref (b13 0), .ref (b15 0), .ref (b17 0), .ref (b19 0), .ref (b21 0), .ref q22, .int 0, .int 0, .long 0, .long 1])), (q1, .inl (ca 1, 6, refs (va_up ((va_up ((va_up ((va_up ((va_up (fun _ => none) (0 : Int32).toNatClampNeg (some (b24 0)))) (1 : Int32).toNatClampNeg (some (b26 0)))) (2 : Int32).toNatClampNeg (some (b28 0)))) (3 : Int32).toNatClampNeg (some (b30 0)))) (4 : Int32).toNatClampNeg (some (b32 0))))), (q2, .inl (ca 1, 4, refs fun _ => none)), (q5, .inl (ca 2, 3, refs fun _ => none)), (q22, .inl (ca 0, 6, .inl fun _ => 0))] ++ kkX6_40 ca b34) ++ G14) := hD
  refine W.widen (k := 106) (n := 2947) (by decide) (by decide) ?_
  refine y_asto C hP hD hS 1 5 1 rfl rfl rfl rfl (by decide) dX11_init_163 (fun H locs hP hD hS => ?_)
  have hP : va_P D vwCl (([(q, .inr (11, [.ref q1, .ref q2, .ref (b4 0), .ref q5, .ref (b7 0), .ref (b9 0), .ref (b11 0), .ref (b13 0), .ref (b15 0), .ref (b17 0), .ref (b19 0), .ref (b21 0), .ref q22, .int 0, .int 0, .long 0, .long 1])), (q1, .inl (ca 1, 6, refs (va_up ((va_up ((va_up ((va_up ((va_up ((va_up (fun _ => none) (0 : Int32).toNatClampNeg (some (b24 0)))) (1 : Int32).toNatClampNeg (some (b26 0)))) (2 : Int32).toNatClampNeg (some (b28 0)))) (3 : Int32).toNatClampNeg (some (b30 0)))) (4 : Int32).toNatClampNeg (some (b32 0)))) (5 : Int32).toNatClampNeg (some (b34 0))))), (q2, .inl (ca 1, 4, refs fun _ => none)), (q5, .inl (ca 2, 3, refs fun _ => none)), (q22, .inl (ca 0, 6, .inl fun _ => 0))] ++ kkX6_40 ca b34) ++ G14) H := hP
  have hD : va_D A (([(q, .inr (11, [.ref q1, .ref q2, .ref (b4 0), .ref q5, .ref (b7 0), .ref (b9 0), .ref (b11 0), .ref (b13 0), .ref (b15 0), .ref (b17 0), .ref (b19 0), .ref (b21 0), .ref q22, .int 0, .int 0, .long 0, .long 1])), (q1, .inl (ca 1, 6, refs (va_up ((va_up ((va_up ((va_up ((va_up ((va_up (fun _ => none) (0 : Int32).toNatClampNeg (some (b24 0)))) (1 : Int32).toNatClampNeg (some (b26 0)))) (2 : Int32).toNatClampNeg (some (b28 0)))) (3 : Int32).toNatClampNeg (some (b30 0)))) (4 : Int32).toNatClampNeg (some (b32 0)))) (5 : Int32).toNatClampNeg (some (b34 0))))), (q2, .inl (ca 1, 4, refs fun _ => none)), (q5, .inl (ca 2, 3, refs fun _ => none)), (q22, .inl (ca 0, 6, .inl fun _ => 0))] ++ kkX6_40 ca b34) ++ G14) := hD
  refine lv_iinc (v := 6) (lv' := [(1, .int 6), (0, .ref q)]) C.1 C.2.1 dX11_init_164 hl (k := 0) rfl (by decide) (by decide) rfl (fun ls hl => ?_)
  refine lv_goto (tgt := 143) C.1 C.2.1 dX11_init_167 (by decide) ?_
  refine lv_iload_n C.1 C.2.1 dX11_init_143 rfl (lv_at hl 0 rfl) ?_
  refine lv_bipush (v := 6) C.1 C.2.1 dX11_init_144 (by decide) ?_
  refine lv_icmp_ge (tgt := 170) C.1 C.2.1 dX11_init_146 (by decide) (fun _ => ?_) (fun c => absurd (by decide) c)
  refine lv_iconst (v := 0) C.1 C.2.1 dX11_init_170 (by decide) ?_
  refine lv_istore_n (lv' := [(1, .int 0), (0, .ref q)]) C.1 C.2.1 dX11_init_171 rfl hl (by decide) rfl (fun ls hl => ?_)
  refine lv_iload_n C.1 C.2.1 dX11_init_172 rfl (lv_at hl 0 rfl) ?_
  refine lv_iconst (v := 4) C.1 C.2.1 dX11_init_173 (by decide) ?_
  refine lv_icmp_ge (tgt := 198) C.1 C.2.1 dX11_init_174 (by decide) (fun c => absurd c (by decide)) (fun _ => ?_)
  refine lv_aload_n C.1 C.2.1 dX11_init_177 rfl (lv_at hl 1 rfl) ?_
  refine y_get C hP rfl (k := 1) kX11 (by decide) rfl q_309 rfl dX11_init_178 ?_
  refine lv_iload_n C.1 C.2.1 dX11_init_181 rfl (lv_at hl 0 rfl) ?_
  have hP := va_P.swap hP
  have hD := va_D.swap hD
  rw [List.append_assoc] at hP hD
  obtain ⟨G15, hG15⟩ : ∃ G : va_W, G = G14 ++ kkX6_40 ca b34 := ⟨_, rfl⟩
  rw [← hG15] at hP hD
  refine y_newo C hP hD hS hA [.null, .int 0] kX6 (fun j hj => by (rcases (by omega : j = 0 ∨ j = 1) with rfl | rfl <;> rfl)) q_25 q_292 q_12 (Nat.le_of_ble_eq_true rfl) (Nat.le_of_ble_eq_true rfl) dX11_init_182 (fun q35 H hP hD hS => ?_)
  have hP : va_P D vwCl (([(q, .inr (11, [.ref q1, .ref q2, .ref (b4 0), .ref q5, .ref (b7 0), .ref (b9 0), .ref (b11 0), .ref (b13 0), .ref (b15 0), .ref (b17 0), .ref (b19 0), .ref (b21 0), .ref q22, .int 0, .int 0, .long 0, .long 1])), (q1, .inl (ca 1, 6, refs (va_up ((va_up ((va_up ((va_up ((va_up ((va_up (fun _ => none) (0 : Int32).toNatClampNeg (some (b24 0)))) (1 : Int32).toNatClampNeg (some (b26 0)))) (2 : Int32).toNatClampNeg (some (b28 0)))) (3 : Int32).toNatClampNeg (some (b30 0)))) (4 : Int32).toNatClampNeg (some (b32 0)))) (5 : Int32).toNatClampNeg (some (b34 0))))), (q2, .inl (ca 1, 4, refs fun _ => none)), (q5, .inl (ca 2, 3, refs fun _ => none)), (q22, .inl (ca 0, 6, .inl fun _ => 0))] ++ G15) ++ [(q35, .inr (6, [.null, .int 0]))]) H := hP
  have hD : va_D A (([(q, .inr (11, [.ref q1, .ref q2, .ref (b4 0), .ref q5, .ref (b7 0), .ref (b9 0), .ref (b11 0), .ref (b13 0), .ref (b15 0), .ref (b17 0), .ref (b19 0), .ref (b21 0), .ref q22, .int 0, .int 0, .long 0, .long 1])), (q1, .inl (ca 1, 6, refs (va_up ((va_up ((va_up ((va_up ((va_up ((va_up (fun _ => none) (0 : Int32).toNatClampNeg (some (b24 0)))) (1 : Int32).toNatClampNeg (some (b26 0)))) (2 : Int32).toNatClampNeg (some (b28 0)))) (3 : Int32).toNatClampNeg (some (b30 0)))) (4 : Int32).toNatClampNeg (some (b32 0)))) (5 : Int32).toNatClampNeg (some (b34 0))))), (q2, .inl (ca 1, 4, refs fun _ => none)), (q5, .inl (ca 2, 3, refs fun _ => none)), (q22, .inl (ca 0, 6, .inl fun _ => 0))] ++ G15) ++ [(q35, .inr (6, [.null, .int 0]))]) := hD
  refine W.widen (k := 107) (n := 2949) (by decide) (by decide) ?_
  refine lv_dup C.1 C.2.1 dX11_init_185 rfl ?_
  refine lv_bipush (v := 80) C.1 C.2.1 dX11_init_186 (by decide) ?_
  refine y_call (kX := kkX6_80 ca) hP hD hS hA (y_runI C hN hP [.int 80] [.ref q35, .int 0, .ref q2] RX6 kiX6_init q_293 (tX6_80_init l D ca q35 H.size) rfl rfl ⟨by decide, by decide⟩ rfl hl.1 rfl (Nat.le_of_ble_eq_true rfl) dX11_init_188 ⟨Nat.le_of_ble_eq_true rfl, Nat.le_of_ble_eq_true rfl⟩) (fun b36 H locs eb36 hP hD hS => ?_)
  rw [← eb36]
  have hP := va_P.swap hP
  have hD := va_D.swap hD
  have hP : va_P D vwCl (([(q, .inr (11, [.ref q1, .ref q2, .ref (b4 0), .ref q5, .ref (b7 0), .ref (b9 0), .ref (b11 0), .ref (b13 0), .ref (b15 0), .ref (b17 0), .ref (b19 0), .ref (b21 0), .ref q22, .int 0, .int 0, .long 0, .long 1])), (q1, .inl (ca 1, 6, refs (va_up ((va_up ((va_up ((va_up ((va_up ((va_up (fun _ => none) (0 : Int32).toNatClampNeg (some (b24 0)))) (1 : Int32).toNatClampNeg (some (b26 0)))) (2 : Int32).toNatClampNeg (some (b28 0)))) (3 : Int32).toNatClampNeg (some (b30 0)))) (4 : Int32).toNatClampNeg (some (b32 0)))) (5 : Int32).toNatClampNeg (some (b34 0))))), (q2, .inl (ca 1, 4, refs fun _ => none)), (q5, .inl (ca 2, 3, refs fun _ => none)), (q22, .inl (ca 0, 6, .inl fun _ => 0))] ++ kkX6_80 ca b36) ++ G15) H := hP
  have hD : va_D A (([(q, .inr (11, [.ref q1, .ref q2, .ref (b4 0), .ref q5, .ref (b7 0), .ref (b9 0), .ref (b11 0), .ref (b13 0), .ref (b15 0), .ref (b17 0), .ref (b19 0), .ref (b21 0), .ref q22, .int 0, .int 0, .long 0, .long 1])), (q1, .inl (ca 1, 6, refs (va_up ((va_up ((va_up ((va_up ((va_up ((va_up (fun _ => none) (0 : Int32).toNatClampNeg (some (b24 0)))) (1 : Int32).toNatClampNeg (some (b26 0)))) (2 : Int32).toNatClampNeg (some (b28 0)))) (3 : Int32).toNatClampNeg (some (b30 0)))) (4 : Int32).toNatClampNeg (some (b32 0)))) (5 : Int32).toNatClampNeg (some (b34 0))))), (q2, .inl (ca 1, 4, refs fun _ => none)), (q5, .inl (ca 2, 3, refs fun _ => none)), (q22, .inl (ca 0, 6, .inl fun _ => 0))] ++ kkX6_80 ca b36) ++ G15) := hD
  refine W.widen (k := 108) (n := 3029) (by decide) (by decide) ?_
  refine y_asto C hP hD hS 2 5 1 rfl rfl rfl rfl (by decide) dX11_init_191 (fun H locs hP hD hS => ?_)
  have hP : va_P D vwCl (([(q, .inr (11, [.ref q1, .ref q2, .ref (b4 0), .ref q5, .ref (b7 0), .ref (b9 0), .ref (b11 0), .ref (b13 0), .ref (b15 0), .ref (b17 0), .ref (b19 0), .ref (b21 0), .ref q22, .int 0, .int 0, .long 0, .long 1])), (q1, .inl (ca 1, 6, refs (va_up ((va_up ((va_up ((va_up ((va_up ((va_up (fun _ => none) (0 : Int32).toNatClampNeg (some (b24 0)))) (1 : Int32).toNatClampNeg (some (b26 0)))) (2 : Int32).toNatClampNeg (some (b28 0)))) (3 : Int32).toNatClampNeg (some (b30 0)))) (4 : Int32).toNatClampNeg (some (b32 0)))) (5 : Int32).toNatClampNeg (some (b34 0))))), (q2, .inl (ca 1, 4, refs (va_up (fun _ => none) (0 : Int32).toNatClampNeg (some (b36 0))))), (q5, .inl (ca 2, 3, refs fun _ => none)), (q22, .inl (ca 0, 6, .inl fun _ => 0))] ++ kkX6_80 ca b36) ++ G15) H := hP
  have hD : va_D A (([(q, .inr (11, [.ref q1, .ref q2, .ref (b4 0), .ref q5, .ref (b7 0), .ref (b9 0), .ref (b11 0), .ref (b13 0), .ref (b15 0), .ref (b17 0), .ref (b19 0), .ref (b21 0), .ref q22, .int 0, .int 0, .long 0, .long 1])), (q1, .inl (ca 1, 6, refs (va_up ((va_up ((va_up ((va_up ((va_up ((va_up (fun _ => none) (0 : Int32).toNatClampNeg (some (b24 0)))) (1 : Int32).toNatClampNeg (some (b26 0)))) (2 : Int32).toNatClampNeg (some (b28 0)))) (3 : Int32).toNatClampNeg (some (b30 0)))) (4 : Int32).toNatClampNeg (some (b32 0)))) (5 : Int32).toNatClampNeg (some (b34 0))))), (q2, .inl (ca 1, 4, refs (va_up (fun _ => none) (0 : Int32).toNatClampNeg (some (b36 0))))), (q5, .inl (ca 2, 3, refs fun _ => none)), (q22, .inl (ca 0, 6, .inl fun _ => 0))] ++ kkX6_80 ca b36) ++ G15) := hD
  refine lv_iinc (v := 1) (lv' := [(1, .int 1), (0, .ref q)]) C.1 C.2.1 dX11_init_192 hl (k := 0) rfl (by decide) (by decide) rfl (fun ls hl => ?_)
  refine lv_goto (tgt := 172) C.1 C.2.1 dX11_init_195 (by decide) ?_
  refine lv_iload_n C.1 C.2.1 dX11_init_172 rfl (lv_at hl 0 rfl) ?_
  refine lv_iconst (v := 4) C.1 C.2.1 dX11_init_173 (by decide) ?_
  refine lv_icmp_ge (tgt := 198) C.1 C.2.1 dX11_init_174 (by decide) (fun c => absurd c (by decide)) (fun _ => ?_)
  refine lv_aload_n C.1 C.2.1 dX11_init_177 rfl (lv_at hl 1 rfl) ?_
  refine y_get C hP rfl (k := 1) kX11 (by decide) rfl q_309 rfl dX11_init_178 ?_
  refine lv_iload_n C.1 C.2.1 dX11_init_181 rfl (lv_at hl 0 rfl) ?_
  have hP := va_P.swap hP
  have hD := va_D.swap hD
  rw [List.append_assoc] at hP hD
  obtain ⟨G16, hG16⟩ : ∃ G : va_W, G = G15 ++ kkX6_80 ca b36 := ⟨_, rfl⟩
  rw [← hG16] at hP hD
  refine y_newo C hP hD hS hA [.null, .int 0] kX6 (fun j hj => by (rcases (by omega : j = 0 ∨ j = 1) with rfl | rfl <;> rfl)) q_25 q_292 q_12 (Nat.le_of_ble_eq_true rfl) (Nat.le_of_ble_eq_true rfl) dX11_init_182 (fun q37 H hP hD hS => ?_)
  have hP : va_P D vwCl (([(q, .inr (11, [.ref q1, .ref q2, .ref (b4 0), .ref q5, .ref (b7 0), .ref (b9 0), .ref (b11 0), .ref (b13 0), .ref (b15 0), .ref (b17 0), .ref (b19 0), .ref (b21 0), .ref q22, .int 0, .int 0, .long 0, .long 1])), (q1, .inl (ca 1, 6, refs (va_up ((va_up ((va_up ((va_up ((va_up ((va_up (fun _ => none) (0 : Int32).toNatClampNeg (some (b24 0)))) (1 : Int32).toNatClampNeg (some (b26 0)))) (2 : Int32).toNatClampNeg (some (b28 0)))) (3 : Int32).toNatClampNeg (some (b30 0)))) (4 : Int32).toNatClampNeg (some (b32 0)))) (5 : Int32).toNatClampNeg (some (b34 0))))), (q2, .inl (ca 1, 4, refs (va_up (fun _ => none) (0 : Int32).toNatClampNeg (some (b36 0))))), (q5, .inl (ca 2, 3, refs fun _ => none)), (q22, .inl (ca 0, 6, .inl fun _ => 0))] ++ G16) ++ [(q37, .inr (6, [.null, .int 0]))]) H := hP
  have hD : va_D A (([(q, .inr (11, [.ref q1, .ref q2, .ref (b4 0), .ref q5, .ref (b7 0), .ref (b9 0), .ref (b11 0), .ref (b13 0), .ref (b15 0), .ref (b17 0), .ref (b19 0), .ref (b21 0), .ref q22, .int 0, .int 0, .long 0, .long 1])), (q1, .inl (ca 1, 6, refs (va_up ((va_up ((va_up ((va_up ((va_up ((va_up (fun _ => none) (0 : Int32).toNatClampNeg (some (b24 0)))) (1 : Int32).toNatClampNeg (some (b26 0)))) (2 : Int32).toNatClampNeg (some (b28 0)))) (3 : Int32).toNatClampNeg (some (b30 0)))) (4 : Int32).toNatClampNeg (some (b32 0)))) (5 : Int32).toNatClampNeg (some (b34 0))))), (q2, .inl (ca 1, 4, refs (va_up (fun _ => none) (0 : Int32).toNatClampNeg (some (b36 0))))), (q5, .inl (ca 2, 3, refs fun _ => none)), (q22, .inl (ca 0, 6, .inl fun _ => 0))] ++ G16) ++ [(q37, .inr (6, [.null, .int 0]))]) := hD
  refine W.widen (k := 109) (n := 3031) (by decide) (by decide) ?_
  refine lv_dup C.1 C.2.1 dX11_init_185 rfl ?_
  refine lv_bipush (v := 80) C.1 C.2.1 dX11_init_186 (by decide) ?_
  refine y_call (kX := kkX6_80 ca) hP hD hS hA (y_runI C hN hP [.int 80] [.ref q37, .int 1, .ref q2] RX6 kiX6_init q_293 (tX6_80_init l D ca q37 H.size) rfl rfl ⟨by decide, by decide⟩ rfl hl.1 rfl (Nat.le_of_ble_eq_true rfl) dX11_init_188 ⟨Nat.le_of_ble_eq_true rfl, Nat.le_of_ble_eq_true rfl⟩) (fun b38 H locs eb38 hP hD hS => ?_)
  rw [← eb38]
  have hP := va_P.swap hP
  have hD := va_D.swap hD
  have hP : va_P D vwCl (([(q, .inr (11, [.ref q1, .ref q2, .ref (b4 0), .ref q5, .ref (b7 0), .ref (b9 0), .ref (b11 0), .ref (b13 0), .ref (b15 0), .ref (b17 0), .ref (b19 0), .ref (b21 0), .ref q22, .int 0, .int 0, .long 0, .long 1])), (q1, .inl (ca 1, 6, refs (va_up ((va_up ((va_up ((va_up ((va_up ((va_up (fun _ => none) (0 : Int32).toNatClampNeg (some (b24 0)))) (1 : Int32).toNatClampNeg (some (b26 0)))) (2 : Int32).toNatClampNeg (some (b28 0)))) (3 : Int32).toNatClampNeg (some (b30 0)))) (4 : Int32).toNatClampNeg (some (b32 0)))) (5 : Int32).toNatClampNeg (some (b34 0))))), (q2, .inl (ca 1, 4, refs (va_up (fun _ => none) (0 : Int32).toNatClampNeg (some (b36 0))))), (q5, .inl (ca 2, 3, refs fun _ => none)), (q22, .inl (ca 0, 6, .inl fun _ => 0))] ++ kkX6_80 ca b38) ++ G16) H := hP
  have hD : va_D A (([(q, .inr (11, [.ref q1, .ref q2, .ref (b4 0), .ref q5, .ref (b7 0), .ref (b9 0), .ref (b11 0), .ref (b13 0), .ref (b15 0), .ref (b17 0), .ref (b19 0), .ref (b21 0), .ref q22, .int 0, .int 0, .long 0, .long 1])), (q1, .inl (ca 1, 6, refs (va_up ((va_up ((va_up ((va_up ((va_up ((va_up (fun _ => none) (0 : Int32).toNatClampNeg (some (b24 0)))) (1 : Int32).toNatClampNeg (some (b26 0)))) (2 : Int32).toNatClampNeg (some (b28 0)))) (3 : Int32).toNatClampNeg (some (b30 0)))) (4 : Int32).toNatClampNeg (some (b32 0)))) (5 : Int32).toNatClampNeg (some (b34 0))))), (q2, .inl (ca 1, 4, refs (va_up (fun _ => none) (0 : Int32).toNatClampNeg (some (b36 0))))), (q5, .inl (ca 2, 3, refs fun _ => none)), (q22, .inl (ca 0, 6, .inl fun _ => 0))] ++ kkX6_80 ca b38) ++ G16) := hD
  refine W.widen (k := 110) (n := 3111) (by decide) (by decide) ?_
  refine y_asto C hP hD hS 2 5 1 rfl rfl rfl rfl (by decide) dX11_init_191 (fun H locs hP hD hS => ?_)
  have hP : va_P D vwCl (([(q, .inr (11, [.ref q1, .ref q2, .ref (b4 0), .ref q5, .ref (b7 0), .ref (b9 0), .ref (b11 0), .ref (b13 0), .ref (b15 0), .ref (b17 0), .ref (b19 0), .ref (b21 0), .ref q22, .int 0, .int 0, .long 0, .long 1])), (q1, .inl (ca 1, 6, refs (va_up ((va_up ((va_up ((va_up ((va_up ((va_up (fun _ => none) (0 : Int32).toNatClampNeg (some (b24 0)))) (1 : Int32).toNatClampNeg (some (b26 0)))) (2 : Int32).toNatClampNeg (some (b28 0)))) (3 : Int32).toNatClampNeg (some (b30 0)))) (4 : Int32).toNatClampNeg (some (b32 0)))) (5 : Int32).toNatClampNeg (some (b34 0))))), (q2, .inl (ca 1, 4, refs (va_up ((va_up (fun _ => none) (0 : Int32).toNatClampNeg (some (b36 0)))) (1 : Int32).toNatClampNeg (some (b38 0))))), (q5, .inl (ca 2, 3, refs fun _ => none)), (q22, .inl (ca 0, 6, .inl fun _ => 0))] ++ kkX6_80 ca b38) ++ G16) H := hP
  have hD : va_D A (([(q, .inr (11, [.ref q1, .ref q2, .ref (b4 0), .ref q5, .ref (b7 0), .ref (b9 0), .ref (b11 0), .ref (b13 0), .ref (b15 0), .ref (b17 0), .ref (b19 0), .ref (b21 0), .ref q22, .int 0, .int 0, .long 0, .long 1])), (q1, .inl (ca 1, 6, refs (va_up ((va_up ((va_up ((va_up ((va_up ((va_up (fun _ => none) (0 : Int32).toNatClampNeg (some (b24 0)))) (1 : Int32).toNatClampNeg (some (b26 0)))) (2 : Int32).toNatClampNeg (some (b28 0)))) (3 : Int32).toNatClampNeg (some (b30 0)))) (4 : Int32).toNatClampNeg (some (b32 0)))) (5 : Int32).toNatClampNeg (some (b34 0))))), (q2, .inl (ca 1, 4, refs (va_up ((va_up (fun _ => none) (0 : Int32).toNatClampNeg (some (b36 0)))) (1 : Int32).toNatClampNeg (some (b38 0))))), (q5, .inl (ca 2, 3, refs fun _ => none)), (q22, .inl (ca 0, 6, .inl fun _ => 0))] ++ kkX6_80 ca b38) ++ G16) := hD
  refine lv_iinc (v := 2) (lv' := [(1, .int 2), (0, .ref q)]) C.1 C.2.1 dX11_init_192 hl (k := 0) rfl (by decide) (by decide) rfl (fun ls hl => ?_)
  refine lv_goto (tgt := 172) C.1 C.2.1 dX11_init_195 (by decide) ?_
  refine lv_iload_n C.1 C.2.1 dX11_init_172 rfl (lv_at hl 0 rfl) ?_
  refine lv_iconst (v := 4) C.1 C.2.1 dX11_init_173 (by decide) ?_
  refine lv_icmp_ge (tgt := 198) C.1 C.2.1 dX11_init_174 (by decide) (fun c => absurd c (by decide)) (fun _ => ?_)
  refine lv_aload_n C.1 C.2.1 dX11_init_177 rfl (lv_at hl 1 rfl) ?_
  refine y_get C hP rfl (k := 1) kX11 (by decide) rfl q_309 rfl dX11_init_178 ?_
  refine lv_iload_n C.1 C.2.1 dX11_init_181 rfl (lv_at hl 0 rfl) ?_
  have hP := va_P.swap hP
  have hD := va_D.swap hD
  rw [List.append_assoc] at hP hD
  obtain ⟨G17, hG17⟩ : ∃ G : va_W, G = G16 ++ kkX6_80 ca b38 := ⟨_, rfl⟩
  rw [← hG17] at hP hD
  refine y_newo C hP hD hS hA [.null, .int 0] kX6 (fun j hj => by (rcases (by omega : j = 0 ∨ j = 1) with rfl | rfl <;> rfl)) q_25 q_292 q_12 (Nat.le_of_ble_eq_true rfl) (Nat.le_of_ble_eq_true rfl) dX11_init_182 (fun q39 H hP hD hS => ?_)
  have hP : va_P D vwCl (([(q, .inr (11, [.ref q1, .ref q2, .ref (b4 0), .ref q5, .ref (b7 0), .ref (b9 0), .ref (b11 0), .ref (b13 0), .ref (b15 0), .ref (b17 0), .ref (b19 0), .ref (b21 0), .ref q22, .int 0, .int 0, .long 0, .long 1])), (q1, .inl (ca 1, 6, refs (va_up ((va_up ((va_up ((va_up ((va_up ((va_up (fun _ => none) (0 : Int32).toNatClampNeg (some (b24 0)))) (1 : Int32).toNatClampNeg (some (b26 0)))) (2 : Int32).toNatClampNeg (some (b28 0)))) (3 : Int32).toNatClampNeg (some (b30 0)))) (4 : Int32).toNatClampNeg (some (b32 0)))) (5 : Int32).toNatClampNeg (some (b34 0))))), (q2, .inl (ca 1, 4, refs (va_up ((va_up (fun _ => none) (0 : Int32).toNatClampNeg (some (b36 0)))) (1 : Int32).toNatClampNeg (some (b38 0))))), (q5, .inl (ca 2, 3, refs fun _ => none)), (q22, .inl (ca 0, 6, .inl fun _ => 0))] ++ G17) ++ [(q39, .inr (6, [.null, .int 0]))]) H := hP
  have hD : va_D A (([(q, .inr (11, [.ref q1, .ref q2, .ref (b4 0), .ref q5, .ref (b7 0), .ref (b9 0), .ref (b11 0), .ref (b13 0), .ref (b15 0), .ref (b17 0), .ref (b19 0), .ref (b21 0), .ref q22, .int 0, .int 0, .long 0, .long 1])), (q1, .inl (ca 1, 6, refs (va_up ((va_up ((va_up ((va_up ((va_up ((va_up (fun _ => none) (0 : Int32).toNatClampNeg (some (b24 0)))) (1 : Int32).toNatClampNeg (some (b26 0)))) (2 : Int32).toNatClampNeg (some (b28 0)))) (3 : Int32).toNatClampNeg (some (b30 0)))) (4 : Int32).toNatClampNeg (some (b32 0)))) (5 : Int32).toNatClampNeg (some (b34 0))))), (q2, .inl (ca 1, 4, refs (va_up ((va_up (fun _ => none) (0 : Int32).toNatClampNeg (some (b36 0)))) (1 : Int32).toNatClampNeg (some (b38 0))))), (q5, .inl (ca 2, 3, refs fun _ => none)), (q22, .inl (ca 0, 6, .inl fun _ => 0))] ++ G17) ++ [(q39, .inr (6, [.null, .int 0]))]) := hD
  refine W.widen (k := 111) (n := 3113) (by decide) (by decide) ?_
  refine lv_dup C.1 C.2.1 dX11_init_185 rfl ?_
  refine lv_bipush (v := 80) C.1 C.2.1 dX11_init_186 (by decide) ?_
  refine y_call (kX := kkX6_80 ca) hP hD hS hA (y_runI C hN hP [.int 80] [.ref q39, .int 2, .ref q2] RX6 kiX6_init q_293 (tX6_80_init l D ca q39 H.size) rfl rfl ⟨by decide, by decide⟩ rfl hl.1 rfl (Nat.le_of_ble_eq_true rfl) dX11_init_188 ⟨Nat.le_of_ble_eq_true rfl, Nat.le_of_ble_eq_true rfl⟩) (fun b40 H locs eb40 hP hD hS => ?_)
  rw [← eb40]
  have hP := va_P.swap hP
  have hD := va_D.swap hD
  have hP : va_P D vwCl (([(q, .inr (11, [.ref q1, .ref q2, .ref (b4 0), .ref q5, .ref (b7 0), .ref (b9 0), .ref (b11 0), .ref (b13 0), .ref (b15 0), .ref (b17 0), .ref (b19 0), .ref (b21 0), .ref q22, .int 0, .int 0, .long 0, .long 1])), (q1, .inl (ca 1, 6, refs (va_up ((va_up ((va_up ((va_up ((va_up ((va_up (fun _ => none) (0 : Int32).toNatClampNeg (some (b24 0)))) (1 : Int32).toNatClampNeg (some (b26 0)))) (2 : Int32).toNatClampNeg (some (b28 0)))) (3 : Int32).toNatClampNeg (some (b30 0)))) (4 : Int32).toNatClampNeg (some (b32 0)))) (5 : Int32).toNatClampNeg (some (b34 0))))), (q2, .inl (ca 1, 4, refs (va_up ((va_up (fun _ => none) (0 : Int32).toNatClampNeg (some (b36 0)))) (1 : Int32).toNatClampNeg (some (b38 0))))), (q5, .inl (ca 2, 3, refs fun _ => none)), (q22, .inl (ca 0, 6, .inl fun _ => 0))] ++ kkX6_80 ca b40) ++ G17) H := hP
  have hD : va_D A (([(q, .inr (11, [.ref q1, .ref q2, .ref (b4 0), .ref q5, .ref (b7 0), .ref (b9 0), .ref (b11 0), .ref (b13 0), .ref (b15 0), .ref (b17 0), .ref (b19 0), .ref (b21 0), .ref q22, .int 0, .int 0, .long 0, .long 1])), (q1, .inl (ca 1, 6, refs (va_up ((va_up ((va_up ((va_up ((va_up ((va_up (fun _ => none) (0 : Int32).toNatClampNeg (some (b24 0)))) (1 : Int32).toNatClampNeg (some (b26 0)))) (2 : Int32).toNatClampNeg (some (b28 0)))) (3 : Int32).toNatClampNeg (some (b30 0)))) (4 : Int32).toNatClampNeg (some (b32 0)))) (5 : Int32).toNatClampNeg (some (b34 0))))), (q2, .inl (ca 1, 4, refs (va_up ((va_up (fun _ => none) (0 : Int32).toNatClampNeg (some (b36 0)))) (1 : Int32).toNatClampNeg (some (b38 0))))), (q5, .inl (ca 2, 3, refs fun _ => none)), (q22, .inl (ca 0, 6, .inl fun _ => 0))] ++ kkX6_80 ca b40) ++ G17) := hD
  refine W.widen (k := 112) (n := 3193) (by decide) (by decide) ?_
  refine y_asto C hP hD hS 2 5 1 rfl rfl rfl rfl (by decide) dX11_init_191 (fun H locs hP hD hS => ?_)
  have hP : va_P D vwCl (([(q, .inr (11, [.ref q1, .ref q2, .ref (b4 0), .ref q5, .ref (b7 0), .ref (b9 0), .ref (b11 0), .ref (b13 0), .ref (b15 0), .ref (b17 0), .ref (b19 0), .ref (b21 0), .ref q22, .int 0, .int 0, .long 0, .long 1])), (q1, .inl (ca 1, 6, refs (va_up ((va_up ((va_up ((va_up ((va_up ((va_up (fun _ => none) (0 : Int32).toNatClampNeg (some (b24 0)))) (1 : Int32).toNatClampNeg (some (b26 0)))) (2 : Int32).toNatClampNeg (some (b28 0)))) (3 : Int32).toNatClampNeg (some (b30 0)))) (4 : Int32).toNatClampNeg (some (b32 0)))) (5 : Int32).toNatClampNeg (some (b34 0))))), (q2, .inl (ca 1, 4, refs (va_up ((va_up ((va_up (fun _ => none) (0 : Int32).toNatClampNeg (some (b36 0)))) (1 : Int32).toNatClampNeg (some (b38 0)))) (2 : Int32).toNatClampNeg (some (b40 0))))), (q5, .inl (ca 2, 3, refs fun _ => none)), (q22, .inl (ca 0, 6, .inl fun _ => 0))] ++ kkX6_80 ca b40) ++ G17) H := hP
  have hD : va_D A (([(q, .inr (11, [.ref q1, .ref q2, .ref (b4 0), .ref q5, .ref (b7 0), .ref (b9 0), .ref (b11 0), .ref (b13 0), .ref (b15 0), .ref (b17 0), .ref (b19 0), .ref (b21 0), .ref q22, .int 0, .int 0, .long 0, .long 1])), (q1, .inl (ca 1, 6, refs (va_up ((va_up ((va_up ((va_up ((va_up ((va_up (fun _ => none) (0 : Int32).toNatClampNeg (some (b24 0)))) (1 : Int32).toNatClampNeg (some (b26 0)))) (2 : Int32).toNatClampNeg (some (b28 0)))) (3 : Int32).toNatClampNeg (some (b30 0)))) (4 : Int32).toNatClampNeg (some (b32 0)))) (5 : Int32).toNatClampNeg (some (b34 0))))), (q2, .inl (ca 1, 4, refs (va_up ((va_up ((va_up (fun _ => none) (0 : Int32).toNatClampNeg (some (b36 0)))) (1 : Int32).toNatClampNeg (some (b38 0)))) (2 : Int32).toNatClampNeg (some (b40 0))))), (q5, .inl (ca 2, 3, refs fun _ => none)), (q22, .inl (ca 0, 6, .inl fun _ => 0))] ++ kkX6_80 ca b40) ++ G17) := hD
  refine lv_iinc (v := 3) (lv' := [(1, .int 3), (0, .ref q)]) C.1 C.2.1 dX11_init_192 hl (k := 0) rfl (by decide) (by decide) rfl (fun ls hl => ?_)
  refine lv_goto (tgt := 172) C.1 C.2.1 dX11_init_195 (by decide) ?_
  refine lv_iload_n C.1 C.2.1 dX11_init_172 rfl (lv_at hl 0 rfl) ?_
  refine lv_iconst (v := 4) C.1 C.2.1 dX11_init_173 (by decide) ?_
  refine lv_icmp_ge (tgt := 198) C.1 C.2.1 dX11_init_174 (by decide) (fun c => absurd c (by decide)) (fun _ => ?_)
  refine lv_aload_n C.1 C.2.1 dX11_init_177 rfl (lv_at hl 1 rfl) ?_
  refine y_get C hP rfl (k := 1) kX11 (by decide) rfl q_309 rfl dX11_init_178 ?_
  refine lv_iload_n C.1 C.2.1 dX11_init_181 rfl (lv_at hl 0 rfl) ?_
  have hP := va_P.swap hP
  have hD := va_D.swap hD
  rw [List.append_assoc] at hP hD
  obtain ⟨G18, hG18⟩ : ∃ G : va_W, G = G17 ++ kkX6_80 ca b40 := ⟨_, rfl⟩
  rw [← hG18] at hP hD
  refine y_newo C hP hD hS hA [.null, .int 0] kX6 (fun j hj => by (rcases (by omega : j = 0 ∨ j = 1) with rfl | rfl <;> rfl)) q_25 q_292 q_12 (Nat.le_of_ble_eq_true rfl) (Nat.le_of_ble_eq_true rfl) dX11_init_182 (fun q41 H hP hD hS => ?_)
  have hP : va_P D vwCl (([(q, .inr (11, [.ref q1, .ref q2, .ref (b4 0), .ref q5, .ref (b7 0), .ref (b9 0), .ref (b11 0), .ref (b13 0), .ref (b15 0), .ref (b17 0), .ref (b19 0), .ref (b21 0), .ref q22, .int 0, .int 0, .long 0, .long 1])), (q1, .inl (ca 1, 6, refs (va_up ((va_up ((va_up ((va_up ((va_up ((va_up (fun _ => none) (0 : Int32).toNatClampNeg (some (b24 0)))) (1 : Int32).toNatClampNeg (some (b26 0)))) (2 : Int32).toNatClampNeg (some (b28 0)))) (3 : Int32).toNatClampNeg (some (b30 0)))) (4 : Int32).toNatClampNeg (some (b32 0)))) (5 : Int32).toNatClampNeg (some (b34 0))))), (q2, .inl (ca 1, 4, refs (va_up ((va_up ((va_up (fun _ => none) (0 : Int32).toNatClampNeg (some (b36 0)))) (1 : Int32).toNatClampNeg (some (b38 0)))) (2 : Int32).toNatClampNeg (some (b40 0))))), (q5, .inl (ca 2, 3, refs fun _ => none)), (q22, .inl (ca 0, 6, .inl fun _ => 0))] ++ G18) ++ [(q41, .inr (6, [.null, .int 0]))]) H := hP
  have hD : va_D A (([(q, .inr (11, [.ref q1, .ref q2, .ref (b4 0), .ref q5, .ref (b7 0), .ref (b9 0), .ref (b11 0), .ref (b13 0), .ref (b15 0), .ref (b17 0), .ref (b19 0), .ref (b21 0), .ref q22, .int 0, .int 0, .long 0, .long 1])), (q1, .inl (ca 1, 6, refs (va_up ((va_up ((va_up ((va_up ((va_up ((va_up (fun _ => none) (0 : Int32).toNatClampNeg (some (b24 0)))) (1 : Int32).toNatClampNeg (some (b26 0)))) (2 : Int32).toNatClampNeg (some (b28 0)))) (3 : Int32).toNatClampNeg (some (b30 0)))) (4 : Int32).toNatClampNeg (some (b32 0)))) (5 : Int32).toNatClampNeg (some (b34 0))))), (q2, .inl (ca 1, 4, refs (va_up ((va_up ((va_up (fun _ => none) (0 : Int32).toNatClampNeg (some (b36 0)))) (1 : Int32).toNatClampNeg (some (b38 0)))) (2 : Int32).toNatClampNeg (some (b40 0))))), (q5, .inl (ca 2, 3, refs fun _ => none)), (q22, .inl (ca 0, 6, .inl fun _ => 0))] ++ G18) ++ [(q41, .inr (6, [.null, .int 0]))]) := hD
  refine W.widen (k := 113) (n := 3195) (by decide) (by decide) ?_
  refine lv_dup C.1 C.2.1 dX11_init_185 rfl ?_
  refine lv_bipush (v := 80) C.1 C.2.1 dX11_init_186 (by decide) ?_
  refine y_call (kX := kkX6_80 ca) hP hD hS hA (y_runI C hN hP [.int 80] [.ref q41, .int 3, .ref q2] RX6 kiX6_init q_293 (tX6_80_init l D ca q41 H.size) rfl rfl ⟨by decide, by decide⟩ rfl hl.1 rfl (Nat.le_of_ble_eq_true rfl) dX11_init_188 ⟨Nat.le_of_ble_eq_true rfl, Nat.le_of_ble_eq_true rfl⟩) (fun b42 H locs eb42 hP hD hS => ?_)
  rw [← eb42]
  have hP := va_P.swap hP
  have hD := va_D.swap hD
  have hP : va_P D vwCl (([(q, .inr (11, [.ref q1, .ref q2, .ref (b4 0), .ref q5, .ref (b7 0), .ref (b9 0), .ref (b11 0), .ref (b13 0), .ref (b15 0), .ref (b17 0), .ref (b19 0), .ref (b21 0), .ref q22, .int 0, .int 0, .long 0, .long 1])), (q1, .inl (ca 1, 6, refs (va_up ((va_up ((va_up ((va_up ((va_up ((va_up (fun _ => none) (0 : Int32).toNatClampNeg (some (b24 0)))) (1 : Int32).toNatClampNeg (some (b26 0)))) (2 : Int32).toNatClampNeg (some (b28 0)))) (3 : Int32).toNatClampNeg (some (b30 0)))) (4 : Int32).toNatClampNeg (some (b32 0)))) (5 : Int32).toNatClampNeg (some (b34 0))))), (q2, .inl (ca 1, 4, refs (va_up ((va_up ((va_up (fun _ => none) (0 : Int32).toNatClampNeg (some (b36 0)))) (1 : Int32).toNatClampNeg (some (b38 0)))) (2 : Int32).toNatClampNeg (some (b40 0))))), (q5, .inl (ca 2, 3, refs fun _ => none)), (q22, .inl (ca 0, 6, .inl fun _ => 0))] ++ kkX6_80 ca b42) ++ G18) H := hP
  have hD : va_D A (([(q, .inr (11, [.ref q1, .ref q2, .ref (b4 0), .ref q5, .ref (b7 0), .ref (b9 0), .ref (b11 0), .ref (b13 0), .ref (b15 0), .ref (b17 0), .ref (b19 0), .ref (b21 0), .ref q22, .int 0, .int 0, .long 0, .long 1])), (q1, .inl (ca 1, 6, refs (va_up ((va_up ((va_up ((va_up ((va_up ((va_up (fun _ => none) (0 : Int32).toNatClampNeg (some (b24 0)))) (1 : Int32).toNatClampNeg (some (b26 0)))) (2 : Int32).toNatClampNeg (some (b28 0)))) (3 : Int32).toNatClampNeg (some (b30 0)))) (4 : Int32).toNatClampNeg (some (b32 0)))) (5 : Int32).toNatClampNeg (some (b34 0))))), (q2, .inl (ca 1, 4, refs (va_up ((va_up ((va_up (fun _ => none) (0 : Int32).toNatClampNeg (some (b36 0)))) (1 : Int32).toNatClampNeg (some (b38 0)))) (2 : Int32).toNatClampNeg (some (b40 0))))), (q5, .inl (ca 2, 3, refs fun _ => none)), (q22, .inl (ca 0, 6, .inl fun _ => 0))] ++ kkX6_80 ca b42) ++ G18) := hD
  refine W.widen (k := 114) (n := 3275) (by decide) (by decide) ?_
  refine y_asto C hP hD hS 2 5 1 rfl rfl rfl rfl (by decide) dX11_init_191 (fun H locs hP hD hS => ?_)
  have hP : va_P D vwCl (([(q, .inr (11, [.ref q1, .ref q2, .ref (b4 0), .ref q5, .ref (b7 0), .ref (b9 0), .ref (b11 0), .ref (b13 0), .ref (b15 0), .ref (b17 0), .ref (b19 0), .ref (b21 0), .ref q22, .int 0, .int 0, .long 0, .long 1])), (q1, .inl (ca 1, 6, refs (va_up ((va_up ((va_up ((va_up ((va_up ((va_up (fun _ => none) (0 : Int32).toNatClampNeg (some (b24 0)))) (1 : Int32).toNatClampNeg (some (b26 0)))) (2 : Int32).toNatClampNeg (some (b28 0)))) (3 : Int32).toNatClampNeg (some (b30 0)))) (4 : Int32).toNatClampNeg (some (b32 0)))) (5 : Int32).toNatClampNeg (some (b34 0))))), (q2, .inl (ca 1, 4, refs (va_up ((va_up ((va_up ((va_up (fun _ => none) (0 : Int32).toNatClampNeg (some (b36 0)))) (1 : Int32).toNatClampNeg (some (b38 0)))) (2 : Int32).toNatClampNeg (some (b40 0)))) (3 : Int32).toNatClampNeg (some (b42 0))))), (q5, .inl (ca 2, 3, refs fun _ => none)), (q22, .inl (ca 0, 6, .inl fun _ => 0))] ++ kkX6_80 ca b42) ++ G18) H := hP
  have hD : va_D A (([(q, .inr (11, [.ref q1, .ref q2, .ref (b4 0), .ref q5, .ref (b7 0), .ref (b9 0), .ref (b11 0), .ref (b13 0), .ref (b15 0), .ref (b17 0), .ref (b19 0), .ref (b21 0), .ref q22, .int 0, .int 0, .long 0, .long 1])), (q1, .inl (ca 1, 6, refs (va_up ((va_up ((va_up ((va_up ((va_up ((va_up (fun _ => none) (0 : Int32).toNatClampNeg (some (b24 0)))) (1 : Int32).toNatClampNeg (some (b26 0)))) (2 : Int32).toNatClampNeg (some (b28 0)))) (3 : Int32).toNatClampNeg (some (b30 0)))) (4 : Int32).toNatClampNeg (some (b32 0)))) (5 : Int32).toNatClampNeg (some (b34 0))))), (q2, .inl (ca 1, 4, refs (va_up ((va_up ((va_up ((va_up (fun _ => none) (0 : Int32).toNatClampNeg (some (b36 0)))) (1 : Int32).toNatClampNeg (some (b38 0)))) (2 : Int32).toNatClampNeg (some (b40 0)))) (3 : Int32).toNatClampNeg (some (b42 0))))), (q5, .inl (ca 2, 3, refs fun _ => none)), (q22, .inl (ca 0, 6, .inl fun _ => 0))] ++ kkX6_80 ca b42) ++ G18) := hD
  refine lv_iinc (v := 4) (lv' := [(1, .int 4), (0, .ref q)]) C.1 C.2.1 dX11_init_192 hl (k := 0) rfl (by decide) (by decide) rfl (fun ls hl => ?_)
  refine lv_goto (tgt := 172) C.1 C.2.1 dX11_init_195 (by decide) ?_
  refine lv_iload_n C.1 C.2.1 dX11_init_172 rfl (lv_at hl 0 rfl) ?_
  refine lv_iconst (v := 4) C.1 C.2.1 dX11_init_173 (by decide) ?_
  refine lv_icmp_ge (tgt := 198) C.1 C.2.1 dX11_init_174 (by decide) (fun _ => ?_) (fun c => absurd (by decide) c)
  refine lv_iconst (v := 0) C.1 C.2.1 dX11_init_198 (by decide) ?_
  refine lv_istore_n (lv' := [(1, .int 0), (0, .ref q)]) C.1 C.2.1 dX11_init_199 rfl hl (by decide) rfl (fun ls hl => ?_)
  refine lv_iload_n C.1 C.2.1 dX11_init_200 rfl (lv_at hl 0 rfl) ?_
  refine lv_iconst (v := 3) C.1 C.2.1 dX11_init_201 (by decide) ?_
  refine lv_icmp_ge (tgt := 224) C.1 C.2.1 dX11_init_202 (by decide) (fun c => absurd c (by decide)) (fun _ => ?_)
  refine lv_aload_n C.1 C.2.1 dX11_init_205 rfl (lv_at hl 1 rfl) ?_
  refine y_get C hP rfl (k := 3) kX11 (by decide) rfl q_311 rfl dX11_init_206 ?_
  refine lv_iload_n C.1 C.2.1 dX11_init_209 rfl (lv_at hl 0 rfl) ?_
  have hP := va_P.swap hP
  have hD := va_D.swap hD
  rw [List.append_assoc] at hP hD
  obtain ⟨G19, hG19⟩ : ∃ G : va_W, G = G18 ++ kkX6_80 ca b42 := ⟨_, rfl⟩
  rw [← hG19] at hP hD
  refine y_newo C hP hD hS hA [.null, .null, .null, .null, .null, .int 0, .int 0, .int 0, .int 0] kX0 (fun j hj => by (rcases (by omega : j = 0 ∨ j = 1 ∨ j = 2 ∨ j = 3 ∨ j = 4 ∨ j = 5 ∨ j = 6 ∨ j = 7 ∨ j = 8) with rfl | rfl | rfl | rfl | rfl | rfl | rfl | rfl | rfl <;> rfl)) q_27 q_28 q_2 (Nat.le_of_ble_eq_true rfl) (Nat.le_of_ble_eq_true rfl) dX11_init_210 (fun q43 H hP hD hS => ?_)
  have hP : va_P D vwCl (([(q, .inr (11, [.ref q1, .ref q2, .ref (b4 0), .ref q5, .ref (b7 0), .ref (b9 0), .ref (b11 0), .ref (b13 0), .ref (b15 0), .ref (b17 0), .ref (b19 0), .ref (b21 0), .ref q22, .int 0, .int 0, .long 0, .long 1])), (q1, .inl (ca 1, 6, refs (va_up ((va_up ((va_up ((va_up ((va_up ((va_up (fun _ => none) (0 : Int32).toNatClampNeg (some (b24 0)))) (1 : Int32).toNatClampNeg (some (b26 0)))) (2 : Int32).toNatClampNeg (some (b28 0)))) (3 : Int32).toNatClampNeg (some (b30 0)))) (4 : Int32).toNatClampNeg (some (b32 0)))) (5 : Int32).toNatClampNeg (some (b34 0))))), (q2, .inl (ca 1, 4, refs (va_up ((va_up ((va_up ((va_up (fun _ => none) (0 : Int32).toNatClampNeg (some (b36 0)))) (1 : Int32).toNatClampNeg (some (b38 0)))) (2 : Int32).toNatClampNeg (some (b40 0)))) (3 : Int32).toNatClampNeg (some (b42 0))))), (q5, .inl (ca 2, 3, refs fun _ => none)), (q22, .inl (ca 0, 6, .inl fun _ => 0))] ++ G19) ++ [(q43, .inr (0, [.null, .null, .null, .null, .null, .int 0, .int 0, .int 0, .int 0]))]) H := hP
  have hD : va_D A (([(q, .inr (11, [.ref q1, .ref q2, .ref (b4 0), .ref q5, .ref (b7 0), .ref (b9 0), .ref (b11 0), .ref (b13 0), .ref (b15 0), .ref (b17 0), .ref (b19 0), .ref (b21 0), .ref q22, .int 0, .int 0, .long 0, .long 1])), (q1, .inl (ca 1, 6, refs (va_up ((va_up ((va_up ((va_up ((va_up ((va_up (fun _ => none) (0 : Int32).toNatClampNeg (some (b24 0)))) (1 : Int32).toNatClampNeg (some (b26 0)))) (2 : Int32).toNatClampNeg (some (b28 0)))) (3 : Int32).toNatClampNeg (some (b30 0)))) (4 : Int32).toNatClampNeg (some (b32 0)))) (5 : Int32).toNatClampNeg (some (b34 0))))), (q2, .inl (ca 1, 4, refs (va_up ((va_up ((va_up ((va_up (fun _ => none) (0 : Int32).toNatClampNeg (some (b36 0)))) (1 : Int32).toNatClampNeg (some (b38 0)))) (2 : Int32).toNatClampNeg (some (b40 0)))) (3 : Int32).toNatClampNeg (some (b42 0))))), (q5, .inl (ca 2, 3, refs fun _ => none)), (q22, .inl (ca 0, 6, .inl fun _ => 0))] ++ G19) ++ [(q43, .inr (0, [.null, .null, .null, .null, .null, .int 0, .int 0, .int 0, .int 0]))]) := hD
  refine W.widen (k := 115) (n := 3284) (by decide) (by decide) ?_
  refine lv_dup C.1 C.2.1 dX11_init_213 rfl ?_
  refine y_call (kX := kkX0 ca) hP hD hS hA (y_runI C hN hP [] [.ref q43, .int 0, .ref q5] RX0 kiX0_init q_29 (tX0_init l D ca q43 H.size) rfl rfl ⟨by decide, by decide⟩ rfl hl.1 rfl (Nat.le_of_ble_eq_true rfl) dX11_init_214 ⟨Nat.le_of_ble_eq_true rfl, Nat.le_of_ble_eq_true rfl⟩) (fun b44 H locs eb44 hP hD hS => ?_)
  rw [← eb44]
  have hP := va_P.swap hP
  have hD := va_D.swap hD
  have hP : va_P D vwCl (([(q, .inr (11, [.ref q1, .ref q2, .ref (b4 0), .ref q5, .ref (b7 0), .ref (b9 0), .ref (b11 0), .ref (b13 0), .ref (b15 0), .ref (b17 0), .ref (b19 0), .ref (b21 0), .ref q22, .int 0, .int 0, .long 0, .long 1])), (q1, .inl (ca 1, 6, refs (va_up ((va_up ((va_up ((va_up ((va_up ((va_up (fun _ => none) (0 : Int32).toNatClampNeg (some (b24 0)))) (1 : Int32).toNatClampNeg (some (b26 0)))) (2 : Int32).toNatClampNeg (some (b28 0)))) (3 : Int32).toNatClampNeg (some (b30 0)))) (4 : Int32).toNatClampNeg (some (b32 0)))) (5 : Int32).toNatClampNeg (some (b34 0))))), (q2, .inl (ca 1, 4, refs (va_up ((va_up ((va_up ((va_up (fun _ => none) (0 : Int32).toNatClampNeg (some (b36 0)))) (1 : Int32).toNatClampNeg (some (b38 0)))) (2 : Int32).toNatClampNeg (some (b40 0)))) (3 : Int32).toNatClampNeg (some (b42 0))))), (q5, .inl (ca 2, 3, refs fun _ => none)), (q22, .inl (ca 0, 6, .inl fun _ => 0))] ++ kkX0 ca b44) ++ G19) H := hP
  have hD : va_D A (([(q, .inr (11, [.ref q1, .ref q2, .ref (b4 0), .ref q5, .ref (b7 0), .ref (b9 0), .ref (b11 0), .ref (b13 0), .ref (b15 0), .ref (b17 0), .ref (b19 0), .ref (b21 0), .ref q22, .int 0, .int 0, .long 0, .long 1])), (q1, .inl (ca 1, 6, refs (va_up ((va_up ((va_up ((va_up ((va_up ((va_up (fun _ => none) (0 : Int32).toNatClampNeg (some (b24 0)))) (1 : Int32).toNatClampNeg (some (b26 0)))) (2 : Int32).toNatClampNeg (some (b28 0)))) (3 : Int32).toNatClampNeg (some (b30 0)))) (4 : Int32).toNatClampNeg (some (b32 0)))) (5 : Int32).toNatClampNeg (some (b34 0))))), (q2, .inl (ca 1, 4, refs (va_up ((va_up ((va_up ((va_up (fun _ => none) (0 : Int32).toNatClampNeg (some (b36 0)))) (1 : Int32).toNatClampNeg (some (b38 0)))) (2 : Int32).toNatClampNeg (some (b40 0)))) (3 : Int32).toNatClampNeg (some (b42 0))))), (q5, .inl (ca 2, 3, refs fun _ => none)), (q22, .inl (ca 0, 6, .inl fun _ => 0))] ++ kkX0 ca b44) ++ G19) := hD
  refine W.widen (k := 134) (n := 3378) (by decide) (by decide) ?_
  refine y_asto C hP hD hS 3 5 2 rfl rfl rfl rfl (by decide) dX11_init_217 (fun H locs hP hD hS => ?_)
  have hP : va_P D vwCl (([(q, .inr (11, [.ref q1, .ref q2, .ref (b4 0), .ref q5, .ref (b7 0), .ref (b9 0), .ref (b11 0), .ref (b13 0), .ref (b15 0), .ref (b17 0), .ref (b19 0), .ref (b21 0), .ref q22, .int 0, .int 0, .long 0, .long 1])), (q1, .inl (ca 1, 6, refs (va_up ((va_up ((va_up ((va_up ((va_up ((va_up (fun _ => none) (0 : Int32).toNatClampNeg (some (b24 0)))) (1 : Int32).toNatClampNeg (some (b26 0)))) (2 : Int32).toNatClampNeg (some (b28 0)))) (3 : Int32).toNatClampNeg (some (b30 0)))) (4 : Int32).toNatClampNeg (some (b32 0)))) (5 : Int32).toNatClampNeg (some (b34 0))))), (q2, .inl (ca 1, 4, refs (va_up ((va_up ((va_up ((va_up (fun _ => none) (0 : Int32).toNatClampNeg (some (b36 0)))) (1 : Int32).toNatClampNeg (some (b38 0)))) (2 : Int32).toNatClampNeg (some (b40 0)))) (3 : Int32).toNatClampNeg (some (b42 0))))), (q5, .inl (ca 2, 3, refs (va_up (fun _ => none) (0 : Int32).toNatClampNeg (some (b44 0))))), (q22, .inl (ca 0, 6, .inl fun _ => 0))] ++ kkX0 ca b44) ++ G19) H := hP
  have hD : va_D A (([(q, .inr (11, [.ref q1, .ref q2, .ref (b4 0), .ref q5, .ref (b7 0), .ref (b9 0), .ref (b11 0), .ref (b13 0), .ref (b15 0), .ref (b17 0), .ref (b19 0), .ref (b21 0), .ref q22, .int 0, .int 0, .long 0, .long 1])), (q1, .inl (ca 1, 6, refs (va_up ((va_up ((va_up ((va_up ((va_up ((va_up (fun _ => none) (0 : Int32).toNatClampNeg (some (b24 0)))) (1 : Int32).toNatClampNeg (some (b26 0)))) (2 : Int32).toNatClampNeg (some (b28 0)))) (3 : Int32).toNatClampNeg (some (b30 0)))) (4 : Int32).toNatClampNeg (some (b32 0)))) (5 : Int32).toNatClampNeg (some (b34 0))))), (q2, .inl (ca 1, 4, refs (va_up ((va_up ((va_up ((va_up (fun _ => none) (0 : Int32).toNatClampNeg (some (b36 0)))) (1 : Int32).toNatClampNeg (some (b38 0)))) (2 : Int32).toNatClampNeg (some (b40 0)))) (3 : Int32).toNatClampNeg (some (b42 0))))), (q5, .inl (ca 2, 3, refs (va_up (fun _ => none) (0 : Int32).toNatClampNeg (some (b44 0))))), (q22, .inl (ca 0, 6, .inl fun _ => 0))] ++ kkX0 ca b44) ++ G19) := hD
  refine lv_iinc (v := 1) (lv' := [(1, .int 1), (0, .ref q)]) C.1 C.2.1 dX11_init_218 hl (k := 0) rfl (by decide) (by decide) rfl (fun ls hl => ?_)
  refine lv_goto (tgt := 200) C.1 C.2.1 dX11_init_221 (by decide) ?_
  refine lv_iload_n C.1 C.2.1 dX11_init_200 rfl (lv_at hl 0 rfl) ?_
  refine lv_iconst (v := 3) C.1 C.2.1 dX11_init_201 (by decide) ?_
  refine lv_icmp_ge (tgt := 224) C.1 C.2.1 dX11_init_202 (by decide) (fun c => absurd c (by decide)) (fun _ => ?_)
  refine lv_aload_n C.1 C.2.1 dX11_init_205 rfl (lv_at hl 1 rfl) ?_
  refine y_get C hP rfl (k := 3) kX11 (by decide) rfl q_311 rfl dX11_init_206 ?_
  refine lv_iload_n C.1 C.2.1 dX11_init_209 rfl (lv_at hl 0 rfl) ?_
  have hP := va_P.swap hP
  have hD := va_D.swap hD
  rw [List.append_assoc] at hP hD
  obtain ⟨G20, hG20⟩ : ∃ G : va_W, G = G19 ++ kkX0 ca b44 := ⟨_, rfl⟩
  rw [← hG20] at hP hD
  refine y_newo C hP hD hS hA [.null, .null, .null, .null, .null, .int 0, .int 0, .int 0, .int 0] kX0 (fun j hj => by (rcases (by omega : j = 0 ∨ j = 1 ∨ j = 2 ∨ j = 3 ∨ j = 4 ∨ j = 5 ∨ j = 6 ∨ j = 7 ∨ j = 8) with rfl | rfl | rfl | rfl | rfl | rfl | rfl | rfl | rfl <;> rfl)) q_27 q_28 q_2 (Nat.le_of_ble_eq_true rfl) (Nat.le_of_ble_eq_true rfl) dX11_init_210 (fun q45 H hP hD hS => ?_)
  have hP : va_P D vwCl (([(q, .inr (11, [.ref q1, .ref q2, .ref (b4 0), .ref q5, .ref (b7 0), .ref (b9 0), .ref (b11 0), .ref (b13 0), .ref (b15 0), .ref (b17 0), .ref (b19 0), .ref (b21 0), .ref q22, .int 0, .int 0, .long 0, .long 1])), (q1, .inl (ca 1, 6, refs (va_up ((va_up ((va_up ((va_up ((va_up ((va_up (fun _ => none) (0 : Int32).toNatClampNeg (some (b24 0)))) (1 : Int32).toNatClampNeg (some (b26 0)))) (2 : Int32).toNatClampNeg (some (b28 0)))) (3 : Int32).toNatClampNeg (some (b30 0)))) (4 : Int32).toNatClampNeg (some (b32 0)))) (5 : Int32).toNatClampNeg (some (b34 0))))), (q2, .inl (ca 1, 4, refs (va_up ((va_up ((va_up ((va_up (fun _ => none) (0 : Int32).toNatClampNeg (some (b36 0)))) (1 : Int32).toNatClampNeg (some (b38 0)))) (2 : Int32).toNatClampNeg (some (b40 0)))) (3 : Int32).toNatClampNeg (some (b42 0))))), (q5, .inl (ca 2, 3, refs (va_up (fun _ => none) (0 : Int32).toNatClampNeg (some (b44 0))))), (q22, .inl (ca 0, 6, .inl fun _ => 0))] ++ G20) ++ [(q45, .inr (0, [.null, .null, .null, .null, .null, .int 0, .int 0, .int 0, .int 0]))]) H := hP
  have hD : va_D A (([(q, .inr (11, [.ref q1, .ref q2, .ref (b4 0), .ref q5, .ref (b7 0), .ref (b9 0), .ref (b11 0), .ref (b13 0), .ref (b15 0), .ref (b17 0), .ref (b19 0), .ref (b21 0), .ref q22, .int 0, .int 0, .long 0, .long 1])), (q1, .inl (ca 1, 6, refs (va_up ((va_up ((va_up ((va_up ((va_up ((va_up (fun _ => none) (0 : Int32).toNatClampNeg (some (b24 0)))) (1 : Int32).toNatClampNeg (some (b26 0)))) (2 : Int32).toNatClampNeg (some (b28 0)))) (3 : Int32).toNatClampNeg (some (b30 0)))) (4 : Int32).toNatClampNeg (some (b32 0)))) (5 : Int32).toNatClampNeg (some (b34 0))))), (q2, .inl (ca 1, 4, refs (va_up ((va_up ((va_up ((va_up (fun _ => none) (0 : Int32).toNatClampNeg (some (b36 0)))) (1 : Int32).toNatClampNeg (some (b38 0)))) (2 : Int32).toNatClampNeg (some (b40 0)))) (3 : Int32).toNatClampNeg (some (b42 0))))), (q5, .inl (ca 2, 3, refs (va_up (fun _ => none) (0 : Int32).toNatClampNeg (some (b44 0))))), (q22, .inl (ca 0, 6, .inl fun _ => 0))] ++ G20) ++ [(q45, .inr (0, [.null, .null, .null, .null, .null, .int 0, .int 0, .int 0, .int 0]))]) := hD
  refine W.widen (k := 135) (n := 3387) (by decide) (by decide) ?_
  refine lv_dup C.1 C.2.1 dX11_init_213 rfl ?_
  refine y_call (kX := kkX0 ca) hP hD hS hA (y_runI C hN hP [] [.ref q45, .int 1, .ref q5] RX0 kiX0_init q_29 (tX0_init l D ca q45 H.size) rfl rfl ⟨by decide, by decide⟩ rfl hl.1 rfl (Nat.le_of_ble_eq_true rfl) dX11_init_214 ⟨Nat.le_of_ble_eq_true rfl, Nat.le_of_ble_eq_true rfl⟩) (fun b46 H locs eb46 hP hD hS => ?_)
  rw [← eb46]
  have hP := va_P.swap hP
  have hD := va_D.swap hD
  have hP : va_P D vwCl (([(q, .inr (11, [.ref q1, .ref q2, .ref (b4 0), .ref q5, .ref (b7 0), .ref (b9 0), .ref (b11 0), .ref (b13 0), .ref (b15 0), .ref (b17 0), .ref (b19 0), .ref (b21 0), .ref q22, .int 0, .int 0, .long 0, .long 1])), (q1, .inl (ca 1, 6, refs (va_up ((va_up ((va_up ((va_up ((va_up ((va_up (fun _ => none) (0 : Int32).toNatClampNeg (some (b24 0)))) (1 : Int32).toNatClampNeg (some (b26 0)))) (2 : Int32).toNatClampNeg (some (b28 0)))) (3 : Int32).toNatClampNeg (some (b30 0)))) (4 : Int32).toNatClampNeg (some (b32 0)))) (5 : Int32).toNatClampNeg (some (b34 0))))), (q2, .inl (ca 1, 4, refs (va_up ((va_up ((va_up ((va_up (fun _ => none) (0 : Int32).toNatClampNeg (some (b36 0)))) (1 : Int32).toNatClampNeg (some (b38 0)))) (2 : Int32).toNatClampNeg (some (b40 0)))) (3 : Int32).toNatClampNeg (some (b42 0))))), (q5, .inl (ca 2, 3, refs (va_up (fun _ => none) (0 : Int32).toNatClampNeg (some (b44 0))))), (q22, .inl (ca 0, 6, .inl fun _ => 0))] ++ kkX0 ca b46) ++ G20) H := hP
  have hD : va_D A (([(q, .inr (11, [.ref q1, .ref q2, .ref (b4 0), .ref q5, .ref (b7 0), .ref (b9 0), .ref (b11 0), .ref (b13 0), .ref (b15 0), .ref (b17 0), .ref (b19 0), .ref (b21 0), .ref q22, .int 0, .int 0, .long 0, .long 1])), (q1, .inl (ca 1, 6, refs (va_up ((va_up ((va_up ((va_up ((va_up ((va_up (fun _ => none) (0 : Int32).toNatClampNeg (some (b24 0)))) (1 : Int32).toNatClampNeg (some (b26 0)))) (2 : Int32).toNatClampNeg (some (b28 0)))) (3 : Int32).toNatClampNeg (some (b30 0)))) (4 : Int32).toNatClampNeg (some (b32 0)))) (5 : Int32).toNatClampNeg (some (b34 0))))), (q2, .inl (ca 1, 4, refs (va_up ((va_up ((va_up ((va_up (fun _ => none) (0 : Int32).toNatClampNeg (some (b36 0)))) (1 : Int32).toNatClampNeg (some (b38 0)))) (2 : Int32).toNatClampNeg (some (b40 0)))) (3 : Int32).toNatClampNeg (some (b42 0))))), (q5, .inl (ca 2, 3, refs (va_up (fun _ => none) (0 : Int32).toNatClampNeg (some (b44 0))))), (q22, .inl (ca 0, 6, .inl fun _ => 0))] ++ kkX0 ca b46) ++ G20) := hD
  refine W.widen (k := 154) (n := 3481) (by decide) (by decide) ?_
  refine y_asto C hP hD hS 3 5 2 rfl rfl rfl rfl (by decide) dX11_init_217 (fun H locs hP hD hS => ?_)
  have hP : va_P D vwCl (([(q, .inr (11, [.ref q1, .ref q2, .ref (b4 0), .ref q5, .ref (b7 0), .ref (b9 0), .ref (b11 0), .ref (b13 0), .ref (b15 0), .ref (b17 0), .ref (b19 0), .ref (b21 0), .ref q22, .int 0, .int 0, .long 0, .long 1])), (q1, .inl (ca 1, 6, refs (va_up ((va_up ((va_up ((va_up ((va_up ((va_up (fun _ => none) (0 : Int32).toNatClampNeg (some (b24 0)))) (1 : Int32).toNatClampNeg (some (b26 0)))) (2 : Int32).toNatClampNeg (some (b28 0)))) (3 : Int32).toNatClampNeg (some (b30 0)))) (4 : Int32).toNatClampNeg (some (b32 0)))) (5 : Int32).toNatClampNeg (some (b34 0))))), (q2, .inl (ca 1, 4, refs (va_up ((va_up ((va_up ((va_up (fun _ => none) (0 : Int32).toNatClampNeg (some (b36 0)))) (1 : Int32).toNatClampNeg (some (b38 0)))) (2 : Int32).toNatClampNeg (some (b40 0)))) (3 : Int32).toNatClampNeg (some (b42 0))))), (q5, .inl (ca 2, 3, refs (va_up ((va_up (fun _ => none) (0 : Int32).toNatClampNeg (some (b44 0)))) (1 : Int32).toNatClampNeg (some (b46 0))))), (q22, .inl (ca 0, 6, .inl fun _ => 0))] ++ kkX0 ca b46) ++ G20) H := hP
  have hD : va_D A (([(q, .inr (11, [.ref q1, .ref q2, .ref (b4 0), .ref q5, .ref (b7 0), .ref (b9 0), .ref (b11 0), .ref (b13 0), .ref (b15 0), .ref (b17 0), .ref (b19 0), .ref (b21 0), .ref q22, .int 0, .int 0, .long 0, .long 1])), (q1, .inl (ca 1, 6, refs (va_up ((va_up ((va_up ((va_up ((va_up ((va_up (fun _ => none) (0 : Int32).toNatClampNeg (some (b24 0)))) (1 : Int32).toNatClampNeg (some (b26 0)))) (2 : Int32).toNatClampNeg (some (b28 0)))) (3 : Int32).toNatClampNeg (some (b30 0)))) (4 : Int32).toNatClampNeg (some (b32 0)))) (5 : Int32).toNatClampNeg (some (b34 0))))), (q2, .inl (ca 1, 4, refs (va_up ((va_up ((va_up ((va_up (fun _ => none) (0 : Int32).toNatClampNeg (some (b36 0)))) (1 : Int32).toNatClampNeg (some (b38 0)))) (2 : Int32).toNatClampNeg (some (b40 0)))) (3 : Int32).toNatClampNeg (some (b42 0))))), (q5, .inl (ca 2, 3, refs (va_up ((va_up (fun _ => none) (0 : Int32).toNatClampNeg (some (b44 0)))) (1 : Int32).toNatClampNeg (some (b46 0))))), (q22, .inl (ca 0, 6, .inl fun _ => 0))] ++ kkX0 ca b46) ++ G20) := hD
  refine lv_iinc (v := 2) (lv' := [(1, .int 2), (0, .ref q)]) C.1 C.2.1 dX11_init_218 hl (k := 0) rfl (by decide) (by decide) rfl (fun ls hl => ?_)
  refine lv_goto (tgt := 200) C.1 C.2.1 dX11_init_221 (by decide) ?_
  refine lv_iload_n C.1 C.2.1 dX11_init_200 rfl (lv_at hl 0 rfl) ?_
  refine lv_iconst (v := 3) C.1 C.2.1 dX11_init_201 (by decide) ?_
  refine lv_icmp_ge (tgt := 224) C.1 C.2.1 dX11_init_202 (by decide) (fun c => absurd c (by decide)) (fun _ => ?_)
  refine lv_aload_n C.1 C.2.1 dX11_init_205 rfl (lv_at hl 1 rfl) ?_
  refine y_get C hP rfl (k := 3) kX11 (by decide) rfl q_311 rfl dX11_init_206 ?_
  refine lv_iload_n C.1 C.2.1 dX11_init_209 rfl (lv_at hl 0 rfl) ?_
  have hP := va_P.swap hP
  have hD := va_D.swap hD
  rw [List.append_assoc] at hP hD
  obtain ⟨G21, hG21⟩ : ∃ G : va_W, G = G20 ++ kkX0 ca b46 := ⟨_, rfl⟩
  rw [← hG21] at hP hD
  refine y_newo C hP hD hS hA [.null, .null, .null, .null, .null, .int 0, .int 0, .int 0, .int 0] kX0 (fun j hj => by (rcases (by omega : j = 0 ∨ j = 1 ∨ j = 2 ∨ j = 3 ∨ j = 4 ∨ j = 5 ∨ j = 6 ∨ j = 7 ∨ j = 8) with rfl | rfl | rfl | rfl | rfl | rfl | rfl | rfl | rfl <;> rfl)) q_27 q_28 q_2 (Nat.le_of_ble_eq_true rfl) (Nat.le_of_ble_eq_true rfl) dX11_init_210 (fun q47 H hP hD hS => ?_)
  have hP : va_P D vwCl (([(q, .inr (11, [.ref q1, .ref q2, .ref (b4 0), .ref q5, .ref (b7 0), .ref (b9 0), .ref (b11 0), .ref (b13 0), .ref (b15 0), .ref (b17 0), .ref (b19 0), .ref (b21 0), .ref q22, .int 0, .int 0, .long 0, .long 1])), (q1, .inl (ca 1, 6, refs (va_up ((va_up ((va_up ((va_up ((va_up ((va_up (fun _ => none) (0 : Int32).toNatClampNeg (some (b24 0)))) (1 : Int32).toNatClampNeg (some (b26 0)))) (2 : Int32).toNatClampNeg (some (b28 0)))) (3 : Int32).toNatClampNeg (some (b30 0)))) (4 : Int32).toNatClampNeg (some (b32 0)))) (5 : Int32).toNatClampNeg (some (b34 0))))), (q2, .inl (ca 1, 4, refs (va_up ((va_up ((va_up ((va_up (fun _ => none) (0 : Int32).toNatClampNeg (some (b36 0)))) (1 : Int32).toNatClampNeg (some (b38 0)))) (2 : Int32).toNatClampNeg (some (b40 0)))) (3 : Int32).toNatClampNeg (some (b42 0))))), (q5, .inl (ca 2, 3, refs (va_up ((va_up (fun _ => none) (0 : Int32).toNatClampNeg (some (b44 0)))) (1 : Int32).toNatClampNeg (some (b46 0))))), (q22, .inl (ca 0, 6, .inl fun _ => 0))] ++ G21) ++ [(q47, .inr (0, [.null, .null, .null, .null, .null, .int 0, .int 0, .int 0, .int 0]))]) H := hP
  have hD : va_D A (([(q, .inr (11, [.ref q1, .ref q2, .ref (b4 0), .ref q5, .ref (b7 0), .ref (b9 0), .ref (b11 0), .ref (b13 0), .ref (b15 0), .ref (b17 0), .ref (b19 0), .ref (b21 0), .ref q22, .int 0, .int 0, .long 0, .long 1])), (q1, .inl (ca 1, 6, refs (va_up ((va_up ((va_up ((va_up ((va_up ((va_up (fun _ => none) (0 : Int32).toNatClampNeg (some (b24 0)))) (1 : Int32).toNatClampNeg (some (b26 0)))) (2 : Int32).toNatClampNeg (some (b28 0)))) (3 : Int32).toNatClampNeg (some (b30 0)))) (4 : Int32).toNatClampNeg (some (b32 0)))) (5 : Int32).toNatClampNeg (some (b34 0))))), (q2, .inl (ca 1, 4, refs (va_up ((va_up ((va_up ((va_up (fun _ => none) (0 : Int32).toNatClampNeg (some (b36 0)))) (1 : Int32).toNatClampNeg (some (b38 0)))) (2 : Int32).toNatClampNeg (some (b40 0)))) (3 : Int32).toNatClampNeg (some (b42 0))))), (q5, .inl (ca 2, 3, refs (va_up ((va_up (fun _ => none) (0 : Int32).toNatClampNeg (some (b44 0)))) (1 : Int32).toNatClampNeg (some (b46 0))))), (q22, .inl (ca 0, 6, .inl fun _ => 0))] ++ G21) ++ [(q47, .inr (0, [.null, .null, .null, .null, .null, .int 0, .int 0, .int 0, .int 0]))]) := hD
  refine W.widen (k := 155) (n := 3490) (by decide) (by decide) ?_
  refine lv_dup C.1 C.2.1 dX11_init_213 rfl ?_
  refine y_call (kX := kkX0 ca) hP hD hS hA (y_runI C hN hP [] [.ref q47, .int 2, .ref q5] RX0 kiX0_init q_29 (tX0_init l D ca q47 H.size) rfl rfl ⟨by decide, by decide⟩ rfl hl.1 rfl (Nat.le_of_ble_eq_true rfl) dX11_init_214 ⟨Nat.le_of_ble_eq_true rfl, Nat.le_of_ble_eq_true rfl⟩) (fun b48 H locs eb48 hP hD hS => ?_)
  rw [← eb48]
  have hP := va_P.swap hP
  have hD := va_D.swap hD
  have hP : va_P D vwCl (([(q, .inr (11, [.ref q1, .ref q2, .ref (b4 0), .ref q5, .ref (b7 0), .ref (b9 0), .ref (b11 0), .ref (b13 0), .ref (b15 0), .ref (b17 0), .ref (b19 0), .ref (b21 0), .ref q22, .int 0, .int 0, .long 0, .long 1])), (q1, .inl (ca 1, 6, refs (va_up ((va_up ((va_up ((va_up ((va_up ((va_up (fun _ => none) (0 : Int32).toNatClampNeg (some (b24 0)))) (1 : Int32).toNatClampNeg (some (b26 0)))) (2 : Int32).toNatClampNeg (some (b28 0)))) (3 : Int32).toNatClampNeg (some (b30 0)))) (4 : Int32).toNatClampNeg (some (b32 0)))) (5 : Int32).toNatClampNeg (some (b34 0))))), (q2, .inl (ca 1, 4, refs (va_up ((va_up ((va_up ((va_up (fun _ => none) (0 : Int32).toNatClampNeg (some (b36 0)))) (1 : Int32).toNatClampNeg (some (b38 0)))) (2 : Int32).toNatClampNeg (some (b40 0)))) (3 : Int32).toNatClampNeg (some (b42 0))))), (q5, .inl (ca 2, 3, refs (va_up ((va_up (fun _ => none) (0 : Int32).toNatClampNeg (some (b44 0)))) (1 : Int32).toNatClampNeg (some (b46 0))))), (q22, .inl (ca 0, 6, .inl fun _ => 0))] ++ kkX0 ca b48) ++ G21) H := hP
  have hD : va_D A (([(q, .inr (11, [.ref q1, .ref q2, .ref (b4 0), .ref q5, .ref (b7 0), .ref (b9 0), .ref (b11 0), .ref (b13 0), .ref (b15 0), .ref (b17 0), .ref (b19 0), .ref (b21 0), .ref q22, .int 0, .int 0, .long 0, .long 1])), (q1, .inl (ca 1, 6, refs (va_up ((va_up ((va_up ((va_up ((va_up ((va_up (fun _ => none) (0 : Int32).toNatClampNeg (some (b24 0)))) (1 : Int32).toNatClampNeg (some (b26 0)))) (2 : Int32).toNatClampNeg (some (b28 0)))) (3 : Int32).toNatClampNeg (some (b30 0)))) (4 : Int32).toNatClampNeg (some (b32 0)))) (5 : Int32).toNatClampNeg (some (b34 0))))), (q2, .inl (ca 1, 4, refs (va_up ((va_up ((va_up ((va_up (fun _ => none) (0 : Int32).toNatClampNeg (some (b36 0)))) (1 : Int32).toNatClampNeg (some (b38 0)))) (2 : Int32).toNatClampNeg (some (b40 0)))) (3 : Int32).toNatClampNeg (some (b42 0))))), (q5, .inl (ca 2, 3, refs (va_up ((va_up (fun _ => none) (0 : Int32).toNatClampNeg (some (b44 0)))) (1 : Int32).toNatClampNeg (some (b46 0))))), (q22, .inl (ca 0, 6, .inl fun _ => 0))] ++ kkX0 ca b48) ++ G21) := hD
  refine W.widen (k := 174) (n := 3584) (by decide) (by decide) ?_
  refine y_asto C hP hD hS 3 5 2 rfl rfl rfl rfl (by decide) dX11_init_217 (fun H locs hP hD hS => ?_)
  have hP : va_P D vwCl (([(q, .inr (11, [.ref q1, .ref q2, .ref (b4 0), .ref q5, .ref (b7 0), .ref (b9 0), .ref (b11 0), .ref (b13 0), .ref (b15 0), .ref (b17 0), .ref (b19 0), .ref (b21 0), .ref q22, .int 0, .int 0, .long 0, .long 1])), (q1, .inl (ca 1, 6, refs (va_up ((va_up ((va_up ((va_up ((va_up ((va_up (fun _ => none) (0 : Int32).toNatClampNeg (some (b24 0)))) (1 : Int32).toNatClampNeg (some (b26 0)))) (2 : Int32).toNatClampNeg (some (b28 0)))) (3 : Int32).toNatClampNeg (some (b30 0)))) (4 : Int32).toNatClampNeg (some (b32 0)))) (5 : Int32).toNatClampNeg (some (b34 0))))), (q2, .inl (ca 1, 4, refs (va_up ((va_up ((va_up ((va_up (fun _ => none) (0 : Int32).toNatClampNeg (some (b36 0)))) (1 : Int32).toNatClampNeg (some (b38 0)))) (2 : Int32).toNatClampNeg (some (b40 0)))) (3 : Int32).toNatClampNeg (some (b42 0))))), (q5, .inl (ca 2, 3, refs (va_up ((va_up ((va_up (fun _ => none) (0 : Int32).toNatClampNeg (some (b44 0)))) (1 : Int32).toNatClampNeg (some (b46 0)))) (2 : Int32).toNatClampNeg (some (b48 0))))), (q22, .inl (ca 0, 6, .inl fun _ => 0))] ++ kkX0 ca b48) ++ G21) H := hP
  have hD : va_D A (([(q, .inr (11, [.ref q1, .ref q2, .ref (b4 0), .ref q5, .ref (b7 0), .ref (b9 0), .ref (b11 0), .ref (b13 0), .ref (b15 0), .ref (b17 0), .ref (b19 0), .ref (b21 0), .ref q22, .int 0, .int 0, .long 0, .long 1])), (q1, .inl (ca 1, 6, refs (va_up ((va_up ((va_up ((va_up ((va_up ((va_up (fun _ => none) (0 : Int32).toNatClampNeg (some (b24 0)))) (1 : Int32).toNatClampNeg (some (b26 0)))) (2 : Int32).toNatClampNeg (some (b28 0)))) (3 : Int32).toNatClampNeg (some (b30 0)))) (4 : Int32).toNatClampNeg (some (b32 0)))) (5 : Int32).toNatClampNeg (some (b34 0))))), (q2, .inl (ca 1, 4, refs (va_up ((va_up ((va_up ((va_up (fun _ => none) (0 : Int32).toNatClampNeg (some (b36 0)))) (1 : Int32).toNatClampNeg (some (b38 0)))) (2 : Int32).toNatClampNeg (some (b40 0)))) (3 : Int32).toNatClampNeg (some (b42 0))))), (q5, .inl (ca 2, 3, refs (va_up ((va_up ((va_up (fun _ => none) (0 : Int32).toNatClampNeg (some (b44 0)))) (1 : Int32).toNatClampNeg (some (b46 0)))) (2 : Int32).toNatClampNeg (some (b48 0))))), (q22, .inl (ca 0, 6, .inl fun _ => 0))] ++ kkX0 ca b48) ++ G21) := hD
  refine lv_iinc (v := 3) (lv' := [(1, .int 3), (0, .ref q)]) C.1 C.2.1 dX11_init_218 hl (k := 0) rfl (by decide) (by decide) rfl (fun ls hl => ?_)
  refine lv_goto (tgt := 200) C.1 C.2.1 dX11_init_221 (by decide) ?_
  refine lv_iload_n C.1 C.2.1 dX11_init_200 rfl (lv_at hl 0 rfl) ?_
  refine lv_iconst (v := 3) C.1 C.2.1 dX11_init_201 (by decide) ?_
  refine lv_icmp_ge (tgt := 224) C.1 C.2.1 dX11_init_202 (by decide) (fun _ => ?_) (fun c => absurd (by decide) c)
  obtain ⟨hP, hD⟩ := y_reco (k := 1) (fun j => some ([b24 0, b26 0, b28 0, b30 0, b32 0, b34 0].getD j 0)) hP hD rfl (by intro j hj; rcases (by omega : j = 0 ∨ j = 1 ∨ j = 2 ∨ j = 3 ∨ j = 4 ∨ j = 5) with rfl | rfl | rfl | rfl | rfl | rfl <;> rfl)
  have hP : va_P D vwCl (([(q, .inr (11, [.ref q1, .ref q2, .ref (b4 0), .ref q5, .ref (b7 0), .ref (b9 0), .ref (b11 0), .ref (b13 0), .ref (b15 0), .ref (b17 0), .ref (b19 0), .ref (b21 0), .ref q22, .int 0, .int 0, .long 0, .long 1])), (q1, .inl (ca 1, 6, refs (fun j => some ([b24 0, b26 0, b28 0, b30 0, b32 0, b34 0].getD j 0)))), (q2, .inl (ca 1, 4, refs (va_up ((va_up ((va_up ((va_up (fun _ => none) (0 : Int32).toNatClampNeg (some (b36 0)))) (1 : Int32).toNatClampNeg (some (b38 0)))) (2 : Int32).toNatClampNeg (some (b40 0)))) (3 : Int32).toNatClampNeg (some (b42 0))))), (q5, .inl (ca 2, 3, refs (va_up ((va_up ((va_up (fun _ => none) (0 : Int32).toNatClampNeg (some (b44 0)))) (1 : Int32).toNatClampNeg (some (b46 0)))) (2 : Int32).toNatClampNeg (some (b48 0))))), (q22, .inl (ca 0, 6, .inl fun _ => 0))] ++ kkX0 ca b48) ++ G21) H := hP
  have hD : va_D A (([(q, .inr (11, [.ref q1, .ref q2, .ref (b4 0), .ref q5, .ref (b7 0), .ref (b9 0), .ref (b11 0), .ref (b13 0), .ref (b15 0), .ref (b17 0), .ref (b19 0), .ref (b21 0), .ref q22, .int 0, .int 0, .long 0, .long 1])), (q1, .inl (ca 1, 6, refs (fun j => some ([b24 0, b26 0, b28 0, b30 0, b32 0, b34 0].getD j 0)))), (q2, .inl (ca 1, 4, refs (va_up ((va_up ((va_up ((va_up (fun _ => none) (0 : Int32).toNatClampNeg (some (b36 0)))) (1 : Int32).toNatClampNeg (some (b38 0)))) (2 : Int32).toNatClampNeg (some (b40 0)))) (3 : Int32).toNatClampNeg (some (b42 0))))), (q5, .inl (ca 2, 3, refs (va_up ((va_up ((va_up (fun _ => none) (0 : Int32).toNatClampNeg (some (b44 0)))) (1 : Int32).toNatClampNeg (some (b46 0)))) (2 : Int32).toNatClampNeg (some (b48 0))))), (q22, .inl (ca 0, 6, .inl fun _ => 0))] ++ kkX0 ca b48) ++ G21) := hD
  obtain ⟨hP, hD⟩ := y_reco (k := 2) (fun j => some ([b36 0, b38 0, b40 0, b42 0].getD j 0)) hP hD rfl (by intro j hj; rcases (by omega : j = 0 ∨ j = 1 ∨ j = 2 ∨ j = 3) with rfl | rfl | rfl | rfl <;> rfl)
  have hP : va_P D vwCl (([(q, .inr (11, [.ref q1, .ref q2, .ref (b4 0), .ref q5, .ref (b7 0), .ref (b9 0), .ref (b11 0), .ref (b13 0), .ref (b15 0), .ref (b17 0), .ref (b19 0), .ref (b21 0), .ref q22, .int 0, .int 0, .long 0, .long 1])), (q1, .inl (ca 1, 6, refs (fun j => some ([b24 0, b26 0, b28 0, b30 0, b32 0, b34 0].getD j 0)))), (q2, .inl (ca 1, 4, refs (fun j => some ([b36 0, b38 0, b40 0, b42 0].getD j 0)))), (q5, .inl (ca 2, 3, refs (va_up ((va_up ((va_up (fun _ => none) (0 : Int32).toNatClampNeg (some (b44 0)))) (1 : Int32).toNatClampNeg (some (b46 0)))) (2 : Int32).toNatClampNeg (some (b48 0))))), (q22, .inl (ca 0, 6, .inl fun _ => 0))] ++ kkX0 ca b48) ++ G21) H := hP
  have hD : va_D A (([(q, .inr (11, [.ref q1, .ref q2, .ref (b4 0), .ref q5, .ref (b7 0), .ref (b9 0), .ref (b11 0), .ref (b13 0), .ref (b15 0), .ref (b17 0), .ref (b19 0), .ref (b21 0), .ref q22, .int 0, .int 0, .long 0, .long 1])), (q1, .inl (ca 1, 6, refs (fun j => some ([b24 0, b26 0, b28 0, b30 0, b32 0, b34 0].getD j 0)))), (q2, .inl (ca 1, 4, refs (fun j => some ([b36 0, b38 0, b40 0, b42 0].getD j 0)))), (q5, .inl (ca 2, 3, refs (va_up ((va_up ((va_up (fun _ => none) (0 : Int32).toNatClampNeg (some (b44 0)))) (1 : Int32).toNatClampNeg (some (b46 0)))) (2 : Int32).toNatClampNeg (some (b48 0))))), (q22, .inl (ca 0, 6, .inl fun _ => 0))] ++ kkX0 ca b48) ++ G21) := hD
  obtain ⟨hP, hD⟩ := y_reco (k := 3) (fun j => some ([b44 0, b46 0, b48 0].getD j 0)) hP hD rfl (by intro j hj; rcases (by omega : j = 0 ∨ j = 1 ∨ j = 2) with rfl | rfl | rfl <;> rfl)
  have hP : va_P D vwCl (([(q, .inr (11, [.ref q1, .ref q2, .ref (b4 0), .ref q5, .ref (b7 0), .ref (b9 0), .ref (b11 0), .ref (b13 0), .ref (b15 0), .ref (b17 0), .ref (b19 0), .ref (b21 0), .ref q22, .int 0, .int 0, .long 0, .long 1])), (q1, .inl (ca 1, 6, refs (fun j => some ([b24 0, b26 0, b28 0, b30 0, b32 0, b34 0].getD j 0)))), (q2, .inl (ca 1, 4, refs (fun j => some ([b36 0, b38 0, b40 0, b42 0].getD j 0)))), (q5, .inl (ca 2, 3, refs (fun j => some ([b44 0, b46 0, b48 0].getD j 0)))), (q22, .inl (ca 0, 6, .inl fun _ => 0))] ++ kkX0 ca b48) ++ G21) H := hP
  have hD : va_D A (([(q, .inr (11, [.ref q1, .ref q2, .ref (b4 0), .ref q5, .ref (b7 0), .ref (b9 0), .ref (b11 0), .ref (b13 0), .ref (b15 0), .ref (b17 0), .ref (b19 0), .ref (b21 0), .ref q22, .int 0, .int 0, .long 0, .long 1])), (q1, .inl (ca 1, 6, refs (fun j => some ([b24 0, b26 0, b28 0, b30 0, b32 0, b34 0].getD j 0)))), (q2, .inl (ca 1, 4, refs (fun j => some ([b36 0, b38 0, b40 0, b42 0].getD j 0)))), (q5, .inl (ca 2, 3, refs (fun j => some ([b44 0, b46 0, b48 0].getD j 0)))), (q22, .inl (ca 0, 6, .inl fun _ => 0))] ++ kkX0 ca b48) ++ G21) := hD
  have hP := va_P.swap hP
  have hD := va_D.swap hD
  rw [List.append_assoc] at hP hD
  obtain ⟨G22, hG22⟩ : ∃ G : va_W, G = G21 ++ kkX0 ca b48 := ⟨_, rfl⟩
  rw [← hG22] at hP hD
  subst hG22
  subst hG21
  subst hG20
  subst hG19
  subst hG18
  subst hG17
  subst hG16
  subst hG15
  subst hG14
  subst hG13
  subst hG12
  subst hG11
  subst hG10
  subst hG9
  subst hG8
  subst hG7
  subst hG6
  subst hG5
  subst hG4
  subst hG3
  subst hG2
  subst hG1
  subst hG0
  exact y_end (kX := kkX11 ca) C (fun k => [q, q1, q2, b4 0, b4 1, b4 2, b4 3, b4 4, b4 5, b4 6, b4 7, b4 8, b4 9, b4 10, b4 11, b4 12, b4 13, b4 14, b4 15, b4 16, b4 17, b4 18, b4 19, q5, b7 0, b7 1, b7 2, b7 3, b7 4, b9 0, b9 1, b9 2, b9 3, b11 0, b11 1, b13 0, b13 1, b13 2, b13 3, b13 4, b15 0, b15 1, b17 0, b17 1, b17 2, b17 3, b17 4, b17 5, b17 6, b17 7, b17 8, b17 9, b19 0, b19 1, b19 2, b21 0, b21 1, b21 2, b21 3, b21 4, b21 5, b21 6, b21 7, b21 8, b21 9, b21 10, b21 11, b21 12, b21 13, b21 14, b21 15, b21 16, b21 17, b21 18, b21 19, b21 20, b21 21, b21 22, b21 23, b21 24, b21 25, b21 26, b21 27, b21 28, b21 29, b21 30, b21 31, b21 32, b21 33, b21 34, b21 35, b21 36, b21 37, b21 38, q22, b24 0, b24 1, b26 0, b26 1, b28 0, b28 1, b30 0, b30 1, b32 0, b32 1, b34 0, b34 1, b36 0, b36 1, b38 0, b38 1, b40 0, b40 1, b42 0, b42 1, b44 0, b44 1, b44 2, b44 3, b44 4, b44 5, b44 6, b44 7, b44 8, b44 9, b44 10, b44 11, b44 12, b44 13, b44 14, b44 15, b44 16, b44 17, b44 18, b44 19, b46 0, b46 1, b46 2, b46 3, b46 4, b46 5, b46 6, b46 7, b46 8, b46 9, b46 10, b46 11, b46 12, b46 13, b46 14, b46 15, b46 16, b46 17, b46 18, b46 19, b48 0, b48 1, b48 2, b48 3, b48 4, b48 5, b48 6, b48 7, b48 8, b48 9, b48 10, b48 11, b48 12, b48 13, b48 14, b48 15, b48 16, b48 17, b48 18, b48 19].getD k 0) rfl hP hD hS rfl rfl dX11_init_224
