theorem dX7_weigh_0 : decode cX7_weigh 0 = .ok (.aload_n 1, 1) := by decide +kernel
theorem dX7_weigh_1 : decode cX7_weigh 1 = .ok (.getfield 21, 3) := by decide +kernel
theorem dX7_weigh_4 : decode cX7_weigh 4 = .ok (.aload_n 2, 1) := by decide +kernel
theorem dX7_weigh_5 : decode cX7_weigh 5 = .ok (.arraylength, 1) := by decide +kernel
theorem dX7_weigh_6 : decode cX7_weigh 6 = .ok (.aload_n 3, 1) := by decide +kernel
theorem dX7_weigh_7 : decode cX7_weigh 7 = .ok (.arraylength, 1) := by decide +kernel
theorem dX7_weigh_8 : decode cX7_weigh 8 = .ok (.invokestatic 27, 3) := by decide +kernel
theorem dX7_weigh_11 : decode cX7_weigh 11 = .ok (.invokestatic 27, 3) := by decide +kernel
theorem dX7_weigh_14 : decode cX7_weigh 14 = .ok (.istore 5, 2) := by decide +kernel
theorem dX7_weigh_16 : decode cX7_weigh 16 = .ok (.iload 4, 2) := by decide +kernel
theorem dX7_weigh_18 : decode cX7_weigh 18 = .ok (.iconst 0, 1) := by decide +kernel
theorem dX7_weigh_19 : decode cX7_weigh 19 = .ok (.invokestatic 33, 3) := by decide +kernel
theorem dX7_weigh_22 : decode cX7_weigh 22 = .ok (.istore 6, 2) := by decide +kernel
theorem dX7_weigh_24 : decode cX7_weigh 24 = .ok (.iload 6, 2) := by decide +kernel
theorem dX7_weigh_26 : decode cX7_weigh 26 = .ok (.iload 5, 2) := by decide +kernel
theorem dX7_weigh_28 : decode cX7_weigh 28 = .ok (.if_icmp .ge 162, 3) := by decide +kernel
theorem dX7_weigh_31 : decode cX7_weigh 31 = .ok (.iload 6, 2) := by decide +kernel
theorem dX7_weigh_33 : decode cX7_weigh 33 = .ok (.bipush 6, 2) := by decide +kernel
theorem dX7_weigh_35 : decode cX7_weigh 35 = .ok (.if_icmp .ge 155, 3) := by decide +kernel
theorem dX7_weigh_38 : decode cX7_weigh 38 = .ok (.aload_n 1, 1) := by decide +kernel
theorem dX7_weigh_39 : decode cX7_weigh 39 = .ok (.iload 6, 2) := by decide +kernel
theorem dX7_weigh_41 : decode cX7_weigh 41 = .ok (.invokevirtual 36, 3) := by decide +kernel
theorem dX7_weigh_44 : decode cX7_weigh 44 = .ok (.astore 7, 2) := by decide +kernel
theorem dX7_weigh_46 : decode cX7_weigh 46 = .ok (.aload 7, 2) := by decide +kernel
theorem dX7_weigh_48 : decode cX7_weigh 48 = .ok (.ifnull 136, 3) := by decide +kernel
theorem dX7_weigh_51 : decode cX7_weigh 51 = .ok (.aload 7, 2) := by decide +kernel
theorem dX7_weigh_53 : decode cX7_weigh 53 = .ok (.aload_n 0, 1) := by decide +kernel
theorem dX7_weigh_54 : decode cX7_weigh 54 = .ok (.getfield 9, 3) := by decide +kernel
theorem dX7_weigh_57 : decode cX7_weigh 57 = .ok (.invokevirtual 40, 3) := by decide +kernel
theorem dX7_weigh_60 : decode cX7_weigh 60 = .ok (.istore 8, 2) := by decide +kernel
theorem dX7_weigh_62 : decode cX7_weigh 62 = .ok (.aload 7, 2) := by decide +kernel
theorem dX7_weigh_64 : decode cX7_weigh 64 = .ok (.aload_n 2, 1) := by decide +kernel
theorem dX7_weigh_65 : decode cX7_weigh 65 = .ok (.iload 6, 2) := by decide +kernel
theorem dX7_weigh_67 : decode cX7_weigh 67 = .ok (.iaload, 1) := by decide +kernel
theorem dX7_weigh_68 : decode cX7_weigh 68 = .ok (.aload 7, 2) := by decide +kernel
theorem dX7_weigh_70 : decode cX7_weigh 70 = .ok (.aload_n 1, 1) := by decide +kernel
theorem dX7_weigh_71 : decode cX7_weigh 71 = .ok (.getfield 46, 3) := by decide +kernel
theorem dX7_weigh_74 : decode cX7_weigh 74 = .ok (.iload 8, 2) := by decide +kernel
theorem dX7_weigh_76 : decode cX7_weigh 76 = .ok (.ifCond .ne 7, 3) := by decide +kernel
theorem dX7_weigh_79 : decode cX7_weigh 79 = .ok (.iconst 1, 1) := by decide +kernel
theorem dX7_weigh_80 : decode cX7_weigh 80 = .ok (.goto 4, 3) := by decide +kernel
theorem dX7_weigh_83 : decode cX7_weigh 83 = .ok (.iconst 0, 1) := by decide +kernel
theorem dX7_weigh_84 : decode cX7_weigh 84 = .ok (.invokevirtual 49, 3) := by decide +kernel
theorem dX7_weigh_87 : decode cX7_weigh 87 = .ok (.invokevirtual 53, 3) := by decide +kernel
theorem dX7_weigh_90 : decode cX7_weigh 90 = .ok (.istore 9, 2) := by decide +kernel
theorem dX7_weigh_92 : decode cX7_weigh 92 = .ok (.aload 7, 2) := by decide +kernel
theorem dX7_weigh_94 : decode cX7_weigh 94 = .ok (.aload_n 3, 1) := by decide +kernel
theorem dX7_weigh_95 : decode cX7_weigh 95 = .ok (.iload 6, 2) := by decide +kernel
theorem dX7_weigh_97 : decode cX7_weigh 97 = .ok (.iaload, 1) := by decide +kernel
theorem dX7_weigh_98 : decode cX7_weigh 98 = .ok (.aload 7, 2) := by decide +kernel
theorem dX7_weigh_100 : decode cX7_weigh 100 = .ok (.aload_n 1, 1) := by decide +kernel
theorem dX7_weigh_101 : decode cX7_weigh 101 = .ok (.getfield 46, 3) := by decide +kernel
theorem dX7_weigh_104 : decode cX7_weigh 104 = .ok (.iload 8, 2) := by decide +kernel
theorem dX7_weigh_106 : decode cX7_weigh 106 = .ok (.iconst 1, 1) := by decide +kernel
theorem dX7_weigh_107 : decode cX7_weigh 107 = .ok (.if_icmp .ne 7, 3) := by decide +kernel
theorem dX7_weigh_110 : decode cX7_weigh 110 = .ok (.iconst 1, 1) := by decide +kernel
theorem dX7_weigh_111 : decode cX7_weigh 111 = .ok (.goto 4, 3) := by decide +kernel
theorem dX7_weigh_114 : decode cX7_weigh 114 = .ok (.iconst 0, 1) := by decide +kernel
theorem dX7_weigh_115 : decode cX7_weigh 115 = .ok (.invokevirtual 49, 3) := by decide +kernel
theorem dX7_weigh_118 : decode cX7_weigh 118 = .ok (.invokevirtual 53, 3) := by decide +kernel
theorem dX7_weigh_121 : decode cX7_weigh 121 = .ok (.istore 10, 2) := by decide +kernel
theorem dX7_weigh_123 : decode cX7_weigh 123 = .ok (.aload_n 0, 1) := by decide +kernel
theorem dX7_weigh_124 : decode cX7_weigh 124 = .ok (.getfield 9, 3) := by decide +kernel
theorem dX7_weigh_127 : decode cX7_weigh 127 = .ok (.iload 6, 2) := by decide +kernel
theorem dX7_weigh_129 : decode cX7_weigh 129 = .ok (.aload 7, 2) := by decide +kernel
theorem dX7_weigh_131 : decode cX7_weigh 131 = .ok (.iload 9, 2) := by decide +kernel
theorem dX7_weigh_133 : decode cX7_weigh 133 = .ok (.iload 10, 2) := by decide +kernel
theorem dX7_weigh_135 : decode cX7_weigh 135 = .ok (.invokevirtual 56, 3) := by decide +kernel
theorem dX7_weigh_138 : decode cX7_weigh 138 = .ok (.iastore, 1) := by decide +kernel
theorem dX7_weigh_139 : decode cX7_weigh 139 = .ok (.aload_n 0, 1) := by decide +kernel
theorem dX7_weigh_140 : decode cX7_weigh 140 = .ok (.getfield 15, 3) := by decide +kernel
theorem dX7_weigh_143 : decode cX7_weigh 143 = .ok (.iload 6, 2) := by decide +kernel
theorem dX7_weigh_145 : decode cX7_weigh 145 = .ok (.iload 9, 2) := by decide +kernel
theorem dX7_weigh_147 : decode cX7_weigh 147 = .ok (.iload 10, 2) := by decide +kernel
theorem dX7_weigh_149 : decode cX7_weigh 149 = .ok (.isub, 1) := by decide +kernel
theorem dX7_weigh_150 : decode cX7_weigh 150 = .ok (.invokestatic 59, 3) := by decide +kernel
theorem dX7_weigh_153 : decode cX7_weigh 153 = .ok (.iastore, 1) := by decide +kernel
theorem dX7_weigh_154 : decode cX7_weigh 154 = .ok (.aload_n 0, 1) := by decide +kernel
theorem dX7_weigh_155 : decode cX7_weigh 155 = .ok (.getfield 18, 3) := by decide +kernel
theorem dX7_weigh_158 : decode cX7_weigh 158 = .ok (.iload 6, 2) := by decide +kernel
theorem dX7_weigh_160 : decode cX7_weigh 160 = .ok (.iconst 1, 1) := by decide +kernel
theorem dX7_weigh_161 : decode cX7_weigh 161 = .ok (.iadd, 1) := by decide +kernel
theorem dX7_weigh_162 : decode cX7_weigh 162 = .ok (.aload_n 0, 1) := by decide +kernel
theorem dX7_weigh_163 : decode cX7_weigh 163 = .ok (.getfield 18, 3) := by decide +kernel
theorem dX7_weigh_166 : decode cX7_weigh 166 = .ok (.iload 6, 2) := by decide +kernel
theorem dX7_weigh_168 : decode cX7_weigh 168 = .ok (.iaload, 1) := by decide +kernel
theorem dX7_weigh_169 : decode cX7_weigh 169 = .ok (.aload 7, 2) := by decide +kernel
theorem dX7_weigh_171 : decode cX7_weigh 171 = .ok (.iconst 0, 1) := by decide +kernel
theorem dX7_weigh_172 : decode cX7_weigh 172 = .ok (.aload_n 0, 1) := by decide +kernel
theorem dX7_weigh_173 : decode cX7_weigh 173 = .ok (.getfield 9, 3) := by decide +kernel
theorem dX7_weigh_176 : decode cX7_weigh 176 = .ok (.iload 6, 2) := by decide +kernel
theorem dX7_weigh_178 : decode cX7_weigh 178 = .ok (.iaload, 1) := by decide +kernel
theorem dX7_weigh_179 : decode cX7_weigh 179 = .ok (.invokevirtual 63, 3) := by decide +kernel
theorem dX7_weigh_182 : decode cX7_weigh 182 = .ok (.iadd, 1) := by decide +kernel
theorem dX7_weigh_183 : decode cX7_weigh 183 = .ok (.iastore, 1) := by decide +kernel
theorem dX7_weigh_184 : decode cX7_weigh 184 = .ok (.iinc 6 1, 3) := by decide +kernel
theorem dX7_weigh_187 : decode cX7_weigh 187 = .ok (.goto (-163), 3) := by decide +kernel
theorem dX7_weigh_190 : decode cX7_weigh 190 = .ok (.aload_n 0, 1) := by decide +kernel
theorem dX7_weigh_191 : decode cX7_weigh 191 = .ok (.iload 5, 2) := by decide +kernel
theorem dX7_weigh_193 : decode cX7_weigh 193 = .ok (.ifCond .lt 10, 3) := by decide +kernel
theorem dX7_weigh_196 : decode cX7_weigh 196 = .ok (.iload 5, 2) := by decide +kernel
theorem dX7_weigh_198 : decode cX7_weigh 198 = .ok (.bipush 6, 2) := by decide +kernel
theorem dX7_weigh_200 : decode cX7_weigh 200 = .ok (.if_icmp .le 7, 3) := by decide +kernel
theorem dX7_weigh_203 : decode cX7_weigh 203 = .ok (.iconst 0, 1) := by decide +kernel
theorem dX7_weigh_204 : decode cX7_weigh 204 = .ok (.goto 10, 3) := by decide +kernel
theorem dX7_weigh_207 : decode cX7_weigh 207 = .ok (.aload_n 0, 1) := by decide +kernel
theorem dX7_weigh_208 : decode cX7_weigh 208 = .ok (.getfield 18, 3) := by decide +kernel
theorem dX7_weigh_211 : decode cX7_weigh 211 = .ok (.iload 5, 2) := by decide +kernel
theorem dX7_weigh_213 : decode cX7_weigh 213 = .ok (.iaload, 1) := by decide +kernel
theorem dX7_weigh_214 : decode cX7_weigh 214 = .ok (.putfield 66, 3) := by decide +kernel
theorem dX7_weigh_217 : decode cX7_weigh 217 = .ok (.return_, 1) := by decide +kernel
theorem dX7_wonOf_0 : decode cX7_wonOf 0 = .ok (.iconst 0, 1) := by decide +kernel
theorem dX7_wonOf_1 : decode cX7_wonOf 1 = .ok (.istore_n 2, 1) := by decide +kernel
theorem dX7_wonOf_2 : decode cX7_wonOf 2 = .ok (.iconst 0, 1) := by decide +kernel
theorem dX7_wonOf_3 : decode cX7_wonOf 3 = .ok (.istore_n 3, 1) := by decide +kernel
theorem dX7_wonOf_4 : decode cX7_wonOf 4 = .ok (.iload_n 3, 1) := by decide +kernel
theorem dX7_wonOf_5 : decode cX7_wonOf 5 = .ok (.iload_n 1, 1) := by decide +kernel
theorem dX7_wonOf_6 : decode cX7_wonOf 6 = .ok (.if_icmp .ge 30, 3) := by decide +kernel
theorem dX7_wonOf_9 : decode cX7_wonOf 9 = .ok (.iload_n 3, 1) := by decide +kernel
theorem dX7_wonOf_10 : decode cX7_wonOf 10 = .ok (.bipush 6, 2) := by decide +kernel
theorem dX7_wonOf_12 : decode cX7_wonOf 12 = .ok (.if_icmp .ge 24, 3) := by decide +kernel
theorem dX7_wonOf_15 : decode cX7_wonOf 15 = .ok (.aload_n 0, 1) := by decide +kernel
theorem dX7_wonOf_16 : decode cX7_wonOf 16 = .ok (.getfield 9, 3) := by decide +kernel
theorem dX7_wonOf_19 : decode cX7_wonOf 19 = .ok (.iload_n 3, 1) := by decide +kernel
theorem dX7_wonOf_20 : decode cX7_wonOf 20 = .ok (.iaload, 1) := by decide +kernel
theorem dX7_wonOf_21 : decode cX7_wonOf 21 = .ok (.ifCond .ne 9, 3) := by decide +kernel
theorem dX7_wonOf_24 : decode cX7_wonOf 24 = .ok (.iload_n 2, 1) := by decide +kernel
theorem dX7_wonOf_25 : decode cX7_wonOf 25 = .ok (.iconst 1, 1) := by decide +kernel
theorem dX7_wonOf_26 : decode cX7_wonOf 26 = .ok (.iload_n 3, 1) := by decide +kernel
theorem dX7_wonOf_27 : decode cX7_wonOf 27 = .ok (.ishl, 1) := by decide +kernel
theorem dX7_wonOf_28 : decode cX7_wonOf 28 = .ok (.ior, 1) := by decide +kernel
theorem dX7_wonOf_29 : decode cX7_wonOf 29 = .ok (.istore_n 2, 1) := by decide +kernel
theorem dX7_wonOf_30 : decode cX7_wonOf 30 = .ok (.iinc 3 1, 3) := by decide +kernel
theorem dX7_wonOf_33 : decode cX7_wonOf 33 = .ok (.goto (-29), 3) := by decide +kernel
theorem dX7_wonOf_36 : decode cX7_wonOf 36 = .ok (.iload_n 2, 1) := by decide +kernel
theorem dX7_wonOf_37 : decode cX7_wonOf 37 = .ok (.ireturn, 1) := by decide +kernel
theorem dX3_begin_0 : decode cX3_begin 0 = .ok (.aload_n 0, 1) := by decide +kernel
theorem dX3_begin_1 : decode cX3_begin 1 = .ok (.iload_n 1, 1) := by decide +kernel
theorem dX3_begin_2 : decode cX3_begin 2 = .ok (.bipush 6, 2) := by decide +kernel
theorem dX3_begin_4 : decode cX3_begin 4 = .ok (.invokestatic 15, 3) := by decide +kernel
theorem dX3_begin_7 : decode cX3_begin 7 = .ok (.putfield 21, 3) := by decide +kernel
theorem dX3_begin_10 : decode cX3_begin 10 = .ok (.aload_n 0, 1) := by decide +kernel
theorem dX3_begin_11 : decode cX3_begin 11 = .ok (.iload_n 2, 1) := by decide +kernel
theorem dX3_begin_12 : decode cX3_begin 12 = .ok (.putfield 25, 3) := by decide +kernel
theorem dX3_begin_15 : decode cX3_begin 15 = .ok (.aload_n 0, 1) := by decide +kernel
theorem dX3_begin_16 : decode cX3_begin 16 = .ok (.getfield 9, 3) := by decide +kernel
theorem dX3_begin_19 : decode cX3_begin 19 = .ok (.iconst 0, 1) := by decide +kernel
theorem dX3_begin_20 : decode cX3_begin 20 = .ok (.invokestatic 28, 3) := by decide +kernel
theorem dX3_begin_23 : decode cX3_begin 23 = .ok (.return_, 1) := by decide +kernel
theorem dX3_next_0 : decode cX3_next 0 = .ok (.aload_n 0, 1) := by decide +kernel
theorem dX3_next_1 : decode cX3_next 1 = .ok (.getfield 21, 3) := by decide +kernel
theorem dX3_next_4 : decode cX3_next 4 = .ok (.iconst 1, 1) := by decide +kernel
theorem dX3_next_5 : decode cX3_next 5 = .ok (.isub, 1) := by decide +kernel
theorem dX3_next_6 : decode cX3_next 6 = .ok (.istore_n 1, 1) := by decide +kernel
theorem dX3_next_7 : decode cX3_next 7 = .ok (.iload_n 1, 1) := by decide +kernel
theorem dX3_next_8 : decode cX3_next 8 = .ok (.ifCond .lt 60, 3) := by decide +kernel
theorem dX3_next_11 : decode cX3_next 11 = .ok (.aload_n 0, 1) := by decide +kernel
theorem dX3_next_12 : decode cX3_next 12 = .ok (.getfield 25, 3) := by decide +kernel
theorem dX3_next_15 : decode cX3_next 15 = .ok (.ifCond .le 25, 3) := by decide +kernel
theorem dX3_next_18 : decode cX3_next 18 = .ok (.aload_n 0, 1) := by decide +kernel
theorem dX3_next_19 : decode cX3_next 19 = .ok (.getfield 9, 3) := by decide +kernel
theorem dX3_next_22 : decode cX3_next 22 = .ok (.iload_n 1, 1) := by decide +kernel
theorem dX3_next_23 : decode cX3_next 23 = .ok (.dup2, 1) := by decide +kernel
theorem dX3_next_24 : decode cX3_next 24 = .ok (.iaload, 1) := by decide +kernel
theorem dX3_next_25 : decode cX3_next 25 = .ok (.iconst 1, 1) := by decide +kernel
theorem dX3_next_26 : decode cX3_next 26 = .ok (.iadd, 1) := by decide +kernel
theorem dX3_next_27 : decode cX3_next 27 = .ok (.iastore, 1) := by decide +kernel
theorem dX3_next_28 : decode cX3_next 28 = .ok (.aload_n 0, 1) := by decide +kernel
theorem dX3_next_29 : decode cX3_next 29 = .ok (.dup, 1) := by decide +kernel
theorem dX3_next_30 : decode cX3_next 30 = .ok (.getfield 25, 3) := by decide +kernel
theorem dX3_next_33 : decode cX3_next 33 = .ok (.iconst 1, 1) := by decide +kernel
theorem dX3_next_34 : decode cX3_next 34 = .ok (.isub, 1) := by decide +kernel
theorem dX3_next_35 : decode cX3_next 35 = .ok (.putfield 25, 3) := by decide +kernel
theorem dX3_next_38 : decode cX3_next 38 = .ok (.iload_n 1, 1) := by decide +kernel
theorem dX3_next_39 : decode cX3_next 39 = .ok (.ireturn, 1) := by decide +kernel
theorem dX3_next_40 : decode cX3_next 40 = .ok (.aload_n 0, 1) := by decide +kernel
theorem dX3_next_41 : decode cX3_next 41 = .ok (.dup, 1) := by decide +kernel
theorem dX3_next_42 : decode cX3_next 42 = .ok (.getfield 25, 3) := by decide +kernel
theorem dX3_next_45 : decode cX3_next 45 = .ok (.aload_n 0, 1) := by decide +kernel
theorem dX3_next_46 : decode cX3_next 46 = .ok (.getfield 9, 3) := by decide +kernel
theorem dX3_next_49 : decode cX3_next 49 = .ok (.iload_n 1, 1) := by decide +kernel
theorem dX3_next_50 : decode cX3_next 50 = .ok (.iaload, 1) := by decide +kernel
theorem dX3_next_51 : decode cX3_next 51 = .ok (.iadd, 1) := by decide +kernel
theorem dX3_next_52 : decode cX3_next 52 = .ok (.putfield 25, 3) := by decide +kernel
theorem dX3_next_55 : decode cX3_next 55 = .ok (.aload_n 0, 1) := by decide +kernel
theorem dX3_next_56 : decode cX3_next 56 = .ok (.getfield 9, 3) := by decide +kernel
theorem dX3_next_59 : decode cX3_next 59 = .ok (.iload_n 1, 1) := by decide +kernel
theorem dX3_next_60 : decode cX3_next 60 = .ok (.iconst 0, 1) := by decide +kernel
theorem dX3_next_61 : decode cX3_next 61 = .ok (.iastore, 1) := by decide +kernel
theorem dX3_next_62 : decode cX3_next 62 = .ok (.iinc 1 (-1), 3) := by decide +kernel
theorem dX3_next_65 : decode cX3_next 65 = .ok (.goto (-58), 3) := by decide +kernel
theorem dX3_next_68 : decode cX3_next 68 = .ok (.bipush (-9), 2) := by decide +kernel
theorem dX3_next_70 : decode cX3_next 70 = .ok (.ireturn, 1) := by decide +kernel
theorem q_144 : Cond.fieldLink RX7 66 "HeavyFiles$Scale" "score" "I" ∈ wT := wi_t 144 (by decide +kernel) (by decide +kernel)
theorem q_142 : Cond.fieldLink RX7 18 "HeavyFiles$Scale" "ahead" "[I" ∈ wT := wi_t 142 (by decide +kernel) (by decide +kernel)
theorem q_434 : Cond.methodLink RX7 49 yX9_extra ∈ wT := wi_t 434 (by decide +kernel) (by decide +kernel)
theorem q_438 : Cond.methodLink RX7 53 yX9_weight ∈ wT := wi_t 438 (by decide +kernel) (by decide +kernel)
theorem q_138 : Cond.fieldLink RX7 9 "HeavyFiles$Scale" "winners" "[I" ∈ wT := wi_t 138 (by decide +kernel) (by decide +kernel)
theorem q_446 : Cond.methodLink RX7 56 yX9_winner ∈ wT := wi_t 446 (by decide +kernel) (by decide +kernel)
theorem q_449 : Cond.code yX9_winner cX9_winner 3 (some .int) ∈ wT := wi_t 449 (by decide +kernel) (by decide +kernel)
theorem q_447 : Cond.instanceMethod yX9_winner ∈ wT := wi_t 447 (by decide +kernel) (by decide +kernel)
theorem q_448 : Cond.selects RX9 yX9_winner yX9_winner ∈ wT := wi_t 448 (by decide +kernel) (by decide +kernel)
theorem q_140 : Cond.fieldLink RX7 15 "HeavyFiles$Scale" "leads" "[I" ∈ wT := wi_t 140 (by decide +kernel) (by decide +kernel)
theorem q_450 : Cond.methodLink RX7 59 Lib.Math.abs.name ∈ wT := wi_t 450 (by decide +kernel) (by decide +kernel)
theorem q_451 : Cond.static Lib.Math.abs.name ∈ wT := wi_t 451 (by decide +kernel) (by decide +kernel)
theorem q_452 : Cond.code Lib.Math.abs.name Lib.Math.abs.code 1 (some .int) ∈ wT := wi_t 452 (by decide +kernel) (by decide +kernel)
theorem q_453 : Cond.methodLink RX7 63 yX9_points ∈ wT := wi_t 453 (by decide +kernel) (by decide +kernel)
theorem q_456 : Cond.code yX9_points cX9_points 3 (some .int) ∈ wT := wi_t 456 (by decide +kernel) (by decide +kernel)
theorem q_454 : Cond.instanceMethod yX9_points ∈ wT := wi_t 454 (by decide +kernel) (by decide +kernel)
theorem q_455 : Cond.selects RX9 yX9_points yX9_points ∈ wT := wi_t 455 (by decide +kernel) (by decide +kernel)
theorem q_73 : Cond.fieldLink RX7 46 "HeavyFiles$Court" "damp" "I" ∈ wT := wi_t 73 (by decide +kernel) (by decide +kernel)
theorem q_426 : Cond.methodLink RX7 36 yX0_suitOf ∈ wT := wi_t 426 (by decide +kernel) (by decide +kernel)
theorem q_430 : Cond.methodLink RX7 40 yX9_aheadIn ∈ wT := wi_t 430 (by decide +kernel) (by decide +kernel)
theorem q_67 : Cond.fieldLink RX7 21 "HeavyFiles$Court" "size" "I" ∈ wT := wi_t 67 (by decide +kernel) (by decide +kernel)
theorem q_420 : Cond.methodLink RX7 27 Lib.Math.min.name ∈ wT := wi_t 420 (by decide +kernel) (by decide +kernel)
theorem q_423 : Cond.methodLink RX7 33 Lib.Math.max.name ∈ wT := wi_t 423 (by decide +kernel) (by decide +kernel)
theorem q_541 : Cond.methodLink RX3 15 Lib.Math.min.name ∈ wT := wi_t 541 (by decide +kernel) (by decide +kernel)
theorem q_166 : Cond.fieldLink RX3 21 "HeavyFiles$Layings" "size" "I" ∈ wT := wi_t 166 (by decide +kernel) (by decide +kernel)
theorem q_167 : Cond.fieldLink RX3 25 "HeavyFiles$Layings" "left" "I" ∈ wT := wi_t 167 (by decide +kernel) (by decide +kernel)
theorem q_163 : Cond.fieldLink RX3 9 "HeavyFiles$Layings" "laid" "[I" ∈ wT := wi_t 163 (by decide +kernel) (by decide +kernel)
theorem q_542 : Cond.methodLink RX3 28 yJ7_fill_53178 ∈ wT := wi_t 542 (by decide +kernel) (by decide +kernel)
theorem kvX9_winner : KV yX9_winner RX9 cX9_winner 3 (some .int) 2 := ⟨q_447, q_448, q_3, q_449, rfl, by decide +kernel, by decide +kernel, by decide +kernel⟩
theorem kvX9_points : KV yX9_points RX9 cX9_points 3 (some .int) 2 := ⟨q_454, q_455, q_3, q_456, rfl, by decide +kernel, by decide +kernel, by decide +kernel⟩
/-! HeavyFiles$Scale.weigh(LHeavyFiles$Court;[I[II)V -/
def fX7_weigh_214 (N : Nat)  (s0 : Nat) (s1 : Int32) (mm : Mm) : Option (Unit × Mm) :=
  nm (wr mm s0 3 s1) fun m1 => some ((), m1)
def fX7_weigh_203 (N : Nat)  (s0 : Nat) (mm : Mm) : Option (Unit × Mm) :=
  fX7_weigh_214 N s0 0 mm
def fX7_weigh_190 (N : Nat)  (a0 : Nat) (a5 : Int32) (mm : Mm) : Option (Unit × Mm) :=
  if a5 < 0 then (fX7_weigh_203 N a0 mm) else (if a5 ≤ 6 then (gd (inb a5 (ln (fr a0 2))) <| fX7_weigh_214 N a0 (rd mm (fr a0 2) a5.toNatClampNeg) mm) else (fX7_weigh_203 N a0 mm))
def fX7_weigh_184 (N : Nat) (k24 : Nat → Nat → Nat → Nat → Int32 → Int32 → Mm → Option (Unit × Mm)) (a0 : Nat) (a1 : Nat) (a2 : Nat) (a3 : Nat) (a5 : Int32) (a6 : Int32) (mm : Mm) : Option (Unit × Mm) :=
  k24 a0 a1 a2 a3 a5 (a6 + 1) mm
def fX7_weigh_115 (N : Nat) (k24 : Nat → Nat → Nat → Nat → Int32 → Int32 → Mm → Option (Unit × Mm)) (a0 : Nat) (a1 : Nat) (a2 : Nat) (a3 : Nat) (a5 : Int32) (a6 : Int32) (a7 : Nat) (a9 : Int32) (s0 : Nat) (s1 : Int32) (s2 : Nat) (s3 : Int32) (s4 : Int32) (mm : Mm) : Option (Unit × Mm) :=
  bd2 (fX9_extra N s2 s3 s4 mm) fun x5 m6 => bd2 (fX9_weight N s0 s1 x5 m6) fun x8 m9 => bd2 (fX9_winner N a7 a9 x8 m9) fun x11 m12 => gd (inb a6 (ln (fr a0 0))) <| nm (wr m12 (fr a0 0) a6.toNatClampNeg x11) fun m15 => nm (if 0 ≤ (a9 - x8) then (a9 - x8) else 0 - (a9 - x8)) fun x16 => gd (inb a6 (ln (fr a0 1))) <| nm (wr m15 (fr a0 1) a6.toNatClampNeg x16) fun m18 => gd (inb a6 (ln (fr a0 2))) <| gd (inb a6 (ln (fr a0 0))) <| bd2 (fX9_points N a7 0 (rd m18 (fr a0 0) a6.toNatClampNeg) m18) fun x21 m22 => gd (inb (a6 + 1) (ln (fr a0 2))) <| nm (wr m22 (fr a0 2) (a6 + 1).toNatClampNeg ((rd m18 (fr a0 2) a6.toNatClampNeg) + x21)) fun m25 => fX7_weigh_184 N k24 a0 a1 a2 a3 a5 a6 m25
def fX7_weigh_84 (N : Nat) (k24 : Nat → Nat → Nat → Nat → Int32 → Int32 → Mm → Option (Unit × Mm)) (a0 : Nat) (a1 : Nat) (a2 : Nat) (a3 : Nat) (a5 : Int32) (a6 : Int32) (a7 : Nat) (a8 : Int32) (s0 : Nat) (s1 : Int32) (s2 : Nat) (s3 : Int32) (s4 : Int32) (mm : Mm) : Option (Unit × Mm) :=
  bd2 (fX9_extra N s2 s3 s4 mm) fun x26 m27 => bd2 (fX9_weight N s0 s1 x26 m27) fun x29 m30 => gd (inb a6 (ln a3)) <| if a8 = 1 then (fX7_weigh_115 N k24 a0 a1 a2 a3 a5 a6 a7 x29 a7 (rd m30 a3 a6.toNatClampNeg) a7 (rd m30 a1 6) 1 m30) else (fX7_weigh_115 N k24 a0 a1 a2 a3 a5 a6 a7 x29 a7 (rd m30 a3 a6.toNatClampNeg) a7 (rd m30 a1 6) 0 m30)
def fX7_weigh_24 (N : Nat)  : Nat → Nat → Nat → Nat → Nat → Int32 → Int32 → Mm → Option (Unit × Mm)
  | 0 => fun _ _ _ _ _ _ _ => none
  | n + 1 => fun a0 a1 a2 a3 a5 a6 mm =>
    let k24 := fX7_weigh_24 N  n
    if a5 ≤ a6 then (fX7_weigh_190 N a0 a5 mm) else (if (6 : Int32) ≤ a6 then (fX7_weigh_190 N a0 a5 mm) else (bd2 (fX0_suitOf N a1 a6 mm) fun x36 m37 => cs x36 (fX7_weigh_184 N k24 a0 a1 a2 a3 a5 a6 m37) (fun z39 => bd2 (fX9_aheadIn N z39 (fr a0 0) m37) fun x41 m42 => gd (inb a6 (ln a2)) <| if x41 = 0 then (fX7_weigh_84 N k24 a0 a1 a2 a3 a5 a6 z39 x41 z39 (rd m42 a2 a6.toNatClampNeg) z39 (rd m42 a1 6) 1 m42) else (fX7_weigh_84 N k24 a0 a1 a2 a3 a5 a6 z39 x41 z39 (rd m42 a2 a6.toNatClampNeg) z39 (rd m42 a1 6) 0 m42))))
def fX7_weigh (N : Nat)  (a0 : Nat) (a1 : Nat) (a2 : Nat) (a3 : Nat) (a4 : Int32) (mm : Mm) : Option (Unit × Mm) :=
  nm (if (Int32.ofNat (ln a3)) < (Int32.ofNat (ln a2)) then (Int32.ofNat (ln a3)) else (Int32.ofNat (ln a2))) fun x46 => nm (if x46 < (rd mm a1 5) then x46 else (rd mm a1 5)) fun x47 => nm (if a4 < 0 then 0 else a4) fun x48 => fX7_weigh_24 N N a0 a1 a2 a3 x47 x48 mm
abbrev rmX7_weigh : Room := { frames := 3, cells := 0, slots := 0, locals := 98 }
/-! HeavyFiles$Scale.wonOf(I)I -/
def fX7_wonOf_30 (N : Nat) (k4 : Nat → Int32 → Int32 → Int32 → Mm → Option (Int32 × Mm)) (a0 : Nat) (a1 : Int32) (a2 : Int32) (a3 : Int32) (mm : Mm) : Option (Int32 × Mm) :=
  k4 a0 a1 a2 (a3 + 1) mm
def fX7_wonOf_4 (N : Nat)  : Nat → Nat → Int32 → Int32 → Int32 → Mm → Option (Int32 × Mm)
  | 0 => fun _ _ _ _ _ => none
  | n + 1 => fun a0 a1 a2 a3 mm =>
    let k4 := fX7_wonOf_4 N  n
    if a1 ≤ a3 then (some (a2, mm)) else (if (6 : Int32) ≤ a3 then (some (a2, mm)) else (gd (inb a3 (ln (fr a0 0))) <| if (rd mm (fr a0 0) a3.toNatClampNeg) = 0 then (fX7_wonOf_30 N k4 a0 a1 (a2 ||| (1 <<< (a3 &&& 31))) a3 mm) else (fX7_wonOf_30 N k4 a0 a1 a2 a3 mm)))
def fX7_wonOf (N : Nat)  (a0 : Nat) (a1 : Int32) (mm : Mm) : Option (Int32 × Mm) :=
  fX7_wonOf_4 N N a0 a1 0 0 mm
abbrev rmX7_wonOf : Room := { frames := 1, cells := 0, slots := 0, locals := 40 }
/-! HeavyFiles$Layings.begin(II)V -/
def fX3_begin (N : Nat)  (a0 : Nat) (a1 : Int32) (a2 : Int32) (mm : Mm) : Option (Unit × Mm) :=
  nm (if 6 < a1 then 6 else a1) fun x1 => nm (wr mm a0 1 x1) fun m2 => nm (wr m2 a0 2 a2) fun m3 => bd2 (fJ7_fill_53178 N (fr a0 0) 0 m3) fun x4 m5 => some ((), m5)
abbrev rmX3_begin : Room := { frames := 2, cells := 0, slots := 0, locals := 71 }
/-! HeavyFiles$Layings.next()I -/
def fX3_next_7 (N : Nat)  : Nat → Nat → Int32 → Mm → Option (Int32 × Mm)
  | 0 => fun _ _ _ => none
  | n + 1 => fun a0 a1 mm =>
    let k7 := fX3_next_7 N  n
    if a1 < 0 then (some ((-9), mm)) else (if (rd mm a0 2) ≤ 0 then (gd (inb a1 (ln (fr a0 0))) <| nm (wr mm a0 2 ((rd mm a0 2) + (rd mm (fr a0 0) a1.toNatClampNeg))) fun m4 => gd (inb a1 (ln (fr a0 0))) <| nm (wr m4 (fr a0 0) a1.toNatClampNeg 0) fun m6 => k7 a0 (a1 + (-1)) m6) else (gd (inb a1 (ln (fr a0 0))) <| gd (inb a1 (ln (fr a0 0))) <| nm (wr mm (fr a0 0) a1.toNatClampNeg ((rd mm (fr a0 0) a1.toNatClampNeg) + 1)) fun m9 => nm (wr m9 a0 2 ((rd m9 a0 2) - 1)) fun m10 => some (a1, m10)))
def fX3_next (N : Nat)  (a0 : Nat) (mm : Mm) : Option (Int32 × Mm) :=
  fX3_next_7 N N a0 ((rd mm a0 1) - 1) mm
abbrev rmX3_next : Room := { frames := 1, cells := 0, slots := 0, locals := 40 }
section W_scale09
variable {p : Program} {l : Launch} {e : Env} {s : State} {m : MethodId} {args : Array Value} {below : List Frame} {meth : Method} {c : Code} {D : va_G} {ca ad : Nat → Nat}
set_option maxRecDepth 100000 in
set_option maxHeartbeats 4000000 in
theorem wX7_weigh_214 (C : Cx p s m meth c args cX7_weigh 11 none RX7 D ca ad) {res : Unit × Mm} {N : Nat}  {s0 : Nat} {s1 : Int32} {mm : Mm} {H : Heap} {locs : List Loc} {ls : Array Slot} (hs0 : sX7 s0) (hW : Wd D ca ad s.heap mm H locs) (hl : lv_has ls 11 []) (hf : fX7_weigh_214 N s0 s1 mm = some res) : W p l e (rmX7_weigh) s m args below meth c H locs 0 0 (MQ below (QV D ca ad res) args s 0 0 (AA ad)) (F0 m 214 ls [.int s1, .ref (ad s0)]) := by
  unfold fX7_weigh_214 at hf
  refine x_put C hW (hs0).1 (hs0).2.1 (j := 3) (t1 := .int) rfl kX7 (by decide) rfl rfl q_144 (by decide +kernel) rfl rfl dX7_weigh_214 (fun H locs hW => ?_)
  obtain ⟨m1, em1⟩ : ∃ z, z = wr mm s0 3 s1 := ⟨_, rfl⟩
  have hf := nm_s hf em1
  rw [← em1] at hW
  cases hf
  exact x_vret C hW dX7_weigh_217
set_option maxRecDepth 100000 in
set_option maxHeartbeats 4000000 in
theorem wX7_weigh_203 (C : Cx p s m meth c args cX7_weigh 11 none RX7 D ca ad) {res : Unit × Mm} {N : Nat}  {s0 : Nat} {mm : Mm} {H : Heap} {locs : List Loc} {ls : Array Slot} (hs0 : sX7 s0) (hW : Wd D ca ad s.heap mm H locs) (hl : lv_has ls 11 []) (hf : fX7_weigh_203 N s0 mm = some res) : W p l e (rmX7_weigh) s m args below meth c H locs 0 0 (MQ below (QV D ca ad res) args s 0 0 (AA ad)) (F0 m 203 ls [.ref (ad s0)]) := by
  unfold fX7_weigh_203 at hf
  refine lv_iconst (v := 0) C.1 C.2.1 dX7_weigh_203 (by decide) ?_
  refine lv_goto (tgt := 214) C.1 C.2.1 dX7_weigh_204 (by decide) ?_
  exact wX7_weigh_214 C  hs0 hW (lv_sub hl [] rfl) hf
set_option maxRecDepth 100000 in
set_option maxHeartbeats 4000000 in
theorem wX7_weigh_190 (C : Cx p s m meth c args cX7_weigh 11 none RX7 D ca ad) {res : Unit × Mm} {N : Nat}  {a0 : Nat} {a5 : Int32} {mm : Mm} {H : Heap} {locs : List Loc} {ls : Array Slot} (ha0 : sX7 a0) (hW : Wd D ca ad s.heap mm H locs) (hl : lv_has ls 11 [(0, .ref (ad a0)), (5, .int a5)]) (hf : fX7_weigh_190 N a0 a5 mm = some res) : W p l e (rmX7_weigh) s m args below meth c H locs 0 0 (MQ below (QV D ca ad res) args s 0 0 (AA ad)) (F0 m 190 ls []) := by
  unfold fX7_weigh_190 at hf
  refine lv_aload_n C.1 C.2.1 dX7_weigh_190 rfl (lv_at hl 0 rfl) ?_
  refine lv_iload C.1 C.2.1 dX7_weigh_191 (lv_at hl 1 rfl) ?_
  refine lv_if_lt (tgt := 203) C.1 C.2.1 dX7_weigh_193 (by decide) (fun c2 => ?_) (fun c2 => ?_)
  · have hf := if_t c2 hf
    exact wX7_weigh_203 C  ha0 hW (lv_sub hl [] rfl) hf
  · have hf := if_f c2 hf
    refine lv_iload C.1 C.2.1 dX7_weigh_196 (lv_at hl 1 rfl) ?_
    refine lv_bipush (v := 6) C.1 C.2.1 dX7_weigh_198 (by decide) ?_
    refine lv_icmp_le (tgt := 207) C.1 C.2.1 dX7_weigh_200 (by decide) (fun c3 => ?_) (fun c3 => ?_)
    · have hf := if_t c3 hf
      refine lv_aload_n C.1 C.2.1 dX7_weigh_207 rfl (lv_at hl 0 rfl) ?_
      refine x_getr C hW (ha0).1 (ha0).2.1 (j := 2) rfl kX7 (by decide) rfl q_142 dX7_weigh_208 ?_
      refine lv_iload C.1 C.2.1 dX7_weigh_211 (lv_at hl 1 rfl) ?_
      obtain ⟨g4, hf⟩ := gd_s hf
      refine x_iald C hW ha0.2.2.2.2 g4 dX7_weigh_213 ?_
      exact wX7_weigh_214 C  ha0 hW (lv_sub hl [] rfl) hf
    · have hf := if_f c3 hf
      exact wX7_weigh_203 C  ha0 hW (lv_sub hl [] rfl) hf
set_option maxRecDepth 100000 in
set_option maxHeartbeats 4000000 in
theorem wX7_weigh_184 (C : Cx p s m meth c args cX7_weigh 11 none RX7 D ca ad) {res : Unit × Mm} {N : Nat} {k24 : Nat → Nat → Nat → Nat → Int32 → Int32 → Mm → Option (Unit × Mm)} (hk24 : ∀ (a0 : Nat) (a1 : Nat) (a2 : Nat) (a3 : Nat) (a5 : Int32) (a6 : Int32) (mm : Mm) (H : Heap) (locs : List Loc) (ls : Array Slot), (sX7 a0) → (sX0 a1) → (sI a2) → (sI a3) → Wd D ca ad s.heap mm H locs → lv_has ls 11 [(0, .ref (ad a0)), (1, .ref (ad a1)), (2, .ref (ad a2)), (3, .ref (ad a3)), (5, .int a5), (6, .int a6)] → k24 a0 a1 a2 a3 a5 a6 mm = some res → W p l e (rmX7_weigh) s m args below meth c H locs 0 0 (MQ below (QV D ca ad res) args s 0 0 (AA ad)) (F0 m 24 ls [])) {a0 : Nat} {a1 : Nat} {a2 : Nat} {a3 : Nat} {a5 : Int32} {a6 : Int32} {mm : Mm} {H : Heap} {locs : List Loc} {ls : Array Slot} (ha0 : sX7 a0) (ha1 : sX0 a1) (ha2 : sI a2) (ha3 : sI a3) (hW : Wd D ca ad s.heap mm H locs) (hl : lv_has ls 11 [(0, .ref (ad a0)), (1, .ref (ad a1)), (2, .ref (ad a2)), (3, .ref (ad a3)), (5, .int a5), (6, .int a6)]) (hf : fX7_weigh_184 N k24 a0 a1 a2 a3 a5 a6 mm = some res) : W p l e (rmX7_weigh) s m args below meth c H locs 0 0 (MQ below (QV D ca ad res) args s 0 0 (AA ad)) (F0 m 184 ls []) := by
  unfold fX7_weigh_184 at hf
  refine lv_iinc (v := (a6 + 1)) (lv' := [(6, .int (a6 + 1)), (0, .ref (ad a0)), (1, .ref (ad a1)), (2, .ref (ad a2)), (3, .ref (ad a3)), (5, .int a5)]) C.1 C.2.1 dX7_weigh_184 hl (k := 5) rfl rfl (by decide) rfl (fun ls hl => ?_)
  refine lv_goto (tgt := 24) C.1 C.2.1 dX7_weigh_187 (by decide) ?_
  exact hk24 _ _ _ _ _ _ _ _ _ _ ha0 ha1 ha2 ha3 hW (lv_sub hl [1, 2, 3, 4, 5, 0] rfl) hf
set_option maxRecDepth 100000 in
set_option maxHeartbeats 4000000 in
theorem wX7_weigh_115 (C : Cx p s m meth c args cX7_weigh 11 none RX7 D ca ad) {res : Unit × Mm} {N : Nat} {k24 : Nat → Nat → Nat → Nat → Int32 → Int32 → Mm → Option (Unit × Mm)} (hk24 : ∀ (a0 : Nat) (a1 : Nat) (a2 : Nat) (a3 : Nat) (a5 : Int32) (a6 : Int32) (mm : Mm) (H : Heap) (locs : List Loc) (ls : Array Slot), (sX7 a0) → (sX0 a1) → (sI a2) → (sI a3) → Wd D ca ad s.heap mm H locs → lv_has ls 11 [(0, .ref (ad a0)), (1, .ref (ad a1)), (2, .ref (ad a2)), (3, .ref (ad a3)), (5, .int a5), (6, .int a6)] → k24 a0 a1 a2 a3 a5 a6 mm = some res → W p l e (rmX7_weigh) s m args below meth c H locs 0 0 (MQ below (QV D ca ad res) args s 0 0 (AA ad)) (F0 m 24 ls [])) {a0 : Nat} {a1 : Nat} {a2 : Nat} {a3 : Nat} {a5 : Int32} {a6 : Int32} {a7 : Nat} {a9 : Int32} {s0 : Nat} {s1 : Int32} {s2 : Nat} {s3 : Int32} {s4 : Int32} {mm : Mm} {H : Heap} {locs : List Loc} {ls : Array Slot} (ha0 : sX7 a0) (ha1 : sX0 a1) (ha2 : sI a2) (ha3 : sI a3) (ha7 : sX9 a7) (hs0 : sX9 s0) (hs2 : sX9 s2) (hW : Wd D ca ad s.heap mm H locs) (hl : lv_has ls 11 [(0, .ref (ad a0)), (1, .ref (ad a1)), (2, .ref (ad a2)), (3, .ref (ad a3)), (5, .int a5), (6, .int a6), (7, .ref (ad a7)), (9, .int a9)]) (hf : fX7_weigh_115 N k24 a0 a1 a2 a3 a5 a6 a7 a9 s0 s1 s2 s3 s4 mm = some res) : W p l e (rmX7_weigh) s m args below meth c H locs 0 0 (MQ below (QV D ca ad res) args s 0 0 (AA ad)) (F0 m 115 ls [.int s4, .int s3, .ref (ad s2), .int s1, .ref (ad s0)]) := by
  unfold fX7_weigh_115 at hf
  obtain ⟨x5, m6, r7, hf⟩ := bd2_s hf
  refine x_ci hW (x_runV C hW [.int s3, .int s4] [.int s1, .ref (ad s0)] (hs2).1 (hs2).2.1 kX9.1 kvX9_extra q_434 (tX9_extra l C.2.2.2.2.2.2.1 hs2 r7) rfl rfl ⟨by decide, by decide⟩ rfl hl.1 rfl (Nat.le_of_ble_eq_true rfl) dX7_weigh_115) (fun H locs hW => ?_)
  obtain ⟨x8, m9, r10, hf⟩ := bd2_s hf
  refine x_ci hW (x_runV C hW [.int s1, .int x5] [] (hs0).1 (hs0).2.1 kX9.1 kvX9_weight q_438 (tX9_weight l C.2.2.2.2.2.2.1 hs0 r10) rfl rfl ⟨by decide, by decide⟩ rfl hl.1 rfl (Nat.le_of_ble_eq_true rfl) dX7_weigh_118) (fun H locs hW => ?_)
  refine lv_istore (lv' := [(10, .int x8), (0, .ref (ad a0)), (1, .ref (ad a1)), (2, .ref (ad a2)), (3, .ref (ad a3)), (5, .int a5), (6, .int a6), (7, .ref (ad a7)), (9, .int a9)]) C.1 C.2.1 dX7_weigh_121 hl (by decide) rfl (fun ls hl => ?_)
  refine lv_aload_n C.1 C.2.1 dX7_weigh_123 rfl (lv_at hl 1 rfl) ?_
  refine x_getr C hW (ha0).1 (ha0).2.1 (j := 0) rfl kX7 (by decide) rfl q_138 dX7_weigh_124 ?_
  refine lv_iload C.1 C.2.1 dX7_weigh_127 (lv_at hl 6 rfl) ?_
  refine lv_aload C.1 C.2.1 dX7_weigh_129 (lv_at hl 7 rfl) ?_
  refine lv_iload C.1 C.2.1 dX7_weigh_131 (lv_at hl 8 rfl) ?_
  refine lv_iload C.1 C.2.1 dX7_weigh_133 (lv_at hl 0 rfl) ?_
  obtain ⟨x11, m12, r13, hf⟩ := bd2_s hf
  refine x_ci hW (x_runV C hW [.int a9, .int x8] [.int a6, .ref (ad (fr a0 0))] (ha7).1 (ha7).2.1 kX9.1 kvX9_winner q_446 (tX9_winner l C.2.2.2.2.2.2.1 ha7 r13) rfl rfl ⟨by decide, by decide⟩ rfl hl.1 rfl (Nat.le_of_ble_eq_true rfl) dX7_weigh_135) (fun H locs hW => ?_)
  obtain ⟨g14, hf⟩ := gd_s hf
  refine x_iast C hW ha0.2.2.1 g14 dX7_weigh_138 (fun H locs hW => ?_)
  obtain ⟨m15, em15⟩ : ∃ z, z = wr m12 (fr a0 0) a6.toNatClampNeg x11 := ⟨_, rfl⟩
  have hf := nm_s hf em15
  rw [← em15] at hW
  refine lv_aload_n C.1 C.2.1 dX7_weigh_139 rfl (lv_at hl 1 rfl) ?_
  refine x_getr C hW (ha0).1 (ha0).2.1 (j := 1) rfl kX7 (by decide) rfl q_140 dX7_weigh_140 ?_
  refine lv_iload C.1 C.2.1 dX7_weigh_143 (lv_at hl 6 rfl) ?_
  refine lv_iload C.1 C.2.1 dX7_weigh_145 (lv_at hl 8 rfl) ?_
  refine lv_iload C.1 C.2.1 dX7_weigh_147 (lv_at hl 0 rfl) ?_
  refine lv_isub C.1 C.2.1 dX7_weigh_149 ?_
  refine va_mabs C.1 C.2.1 (C.2.2.1.trans hl.1.symm) C.2.2.2.1 (C.2.2.2.2.1 _ q_450) (C.2.2.2.2.1 _ q_451) (C.2.2.2.2.1 _ q_15) (C.2.2.2.2.1 _ q_452) (by decide) (Nat.le_of_ble_eq_true rfl) (Nat.zero_le _) (Nat.zero_le _) dX7_weigh_150 ?_
  refine lv_topi (fun x16 ex16 => ?_)
  have hf := nm_s hf ex16
  obtain ⟨g17, hf⟩ := gd_s hf
  refine x_iast C hW ha0.2.2.2.1 g17 dX7_weigh_153 (fun H locs hW => ?_)
  obtain ⟨m18, em18⟩ : ∃ z, z = wr m15 (fr a0 1) a6.toNatClampNeg x16 := ⟨_, rfl⟩
  have hf := nm_s hf em18
  rw [← em18] at hW
  refine lv_aload_n C.1 C.2.1 dX7_weigh_154 rfl (lv_at hl 1 rfl) ?_
  refine x_getr C hW (ha0).1 (ha0).2.1 (j := 2) rfl kX7 (by decide) rfl q_142 dX7_weigh_155 ?_
  refine lv_iload C.1 C.2.1 dX7_weigh_158 (lv_at hl 6 rfl) ?_
  refine lv_iconst (v := 1) C.1 C.2.1 dX7_weigh_160 (by decide) ?_
  refine lv_iadd C.1 C.2.1 dX7_weigh_161 ?_
  refine lv_aload_n C.1 C.2.1 dX7_weigh_162 rfl (lv_at hl 1 rfl) ?_
  refine x_getr C hW (ha0).1 (ha0).2.1 (j := 2) rfl kX7 (by decide) rfl q_142 dX7_weigh_163 ?_
  refine lv_iload C.1 C.2.1 dX7_weigh_166 (lv_at hl 6 rfl) ?_
  obtain ⟨g19, hf⟩ := gd_s hf
  refine x_iald C hW ha0.2.2.2.2 g19 dX7_weigh_168 ?_
  refine lv_aload C.1 C.2.1 dX7_weigh_169 (lv_at hl 7 rfl) ?_
  refine lv_iconst (v := 0) C.1 C.2.1 dX7_weigh_171 (by decide) ?_
  refine lv_aload_n C.1 C.2.1 dX7_weigh_172 rfl (lv_at hl 1 rfl) ?_
  refine x_getr C hW (ha0).1 (ha0).2.1 (j := 0) rfl kX7 (by decide) rfl q_138 dX7_weigh_173 ?_
  refine lv_iload C.1 C.2.1 dX7_weigh_176 (lv_at hl 6 rfl) ?_
  obtain ⟨g20, hf⟩ := gd_s hf
  refine x_iald C hW ha0.2.2.1 g20 dX7_weigh_178 ?_
  obtain ⟨x21, m22, r23, hf⟩ := bd2_s hf
  refine x_ci hW (x_runV C hW [.int 0, .int (rd m18 (fr a0 0) a6.toNatClampNeg)] [.int (rd m18 (fr a0 2) a6.toNatClampNeg), .int (a6 + 1), .ref (ad (fr a0 2))] (ha7).1 (ha7).2.1 kX9.1 kvX9_points q_453 (tX9_points l C.2.2.2.2.2.2.1 ha7 r23) rfl rfl ⟨by decide, by decide⟩ rfl hl.1 rfl (Nat.le_of_ble_eq_true rfl) dX7_weigh_179) (fun H locs hW => ?_)
  refine lv_iadd C.1 C.2.1 dX7_weigh_182 ?_
  obtain ⟨g24, hf⟩ := gd_s hf
  refine x_iast C hW ha0.2.2.2.2 g24 dX7_weigh_183 (fun H locs hW => ?_)
  obtain ⟨m25, em25⟩ : ∃ z, z = wr m22 (fr a0 2) (a6 + 1).toNatClampNeg ((rd m18 (fr a0 2) a6.toNatClampNeg) + x21) := ⟨_, rfl⟩
  have hf := nm_s hf em25
  rw [← em25] at hW
  exact wX7_weigh_184 C hk24 ha0 ha1 ha2 ha3 hW (lv_sub hl [1, 2, 3, 4, 5, 6] rfl) hf
set_option maxRecDepth 100000 in
set_option maxHeartbeats 4000000 in
theorem wX7_weigh_84 (C : Cx p s m meth c args cX7_weigh 11 none RX7 D ca ad) {res : Unit × Mm} {N : Nat} {k24 : Nat → Nat → Nat → Nat → Int32 → Int32 → Mm → Option (Unit × Mm)} (hk24 : ∀ (a0 : Nat) (a1 : Nat) (a2 : Nat) (a3 : Nat) (a5 : Int32) (a6 : Int32) (mm : Mm) (H : Heap) (locs : List Loc) (ls : Array Slot), (sX7 a0) → (sX0 a1) → (sI a2) → (sI a3) → Wd D ca ad s.heap mm H locs → lv_has ls 11 [(0, .ref (ad a0)), (1, .ref (ad a1)), (2, .ref (ad a2)), (3, .ref (ad a3)), (5, .int a5), (6, .int a6)] → k24 a0 a1 a2 a3 a5 a6 mm = some res → W p l e (rmX7_weigh) s m args below meth c H locs 0 0 (MQ below (QV D ca ad res) args s 0 0 (AA ad)) (F0 m 24 ls [])) {a0 : Nat} {a1 : Nat} {a2 : Nat} {a3 : Nat} {a5 : Int32} {a6 : Int32} {a7 : Nat} {a8 : Int32} {s0 : Nat} {s1 : Int32} {s2 : Nat} {s3 : Int32} {s4 : Int32} {mm : Mm} {H : Heap} {locs : List Loc} {ls : Array Slot} (ha0 : sX7 a0) (ha1 : sX0 a1) (ha2 : sI a2) (ha3 : sI a3) (ha7 : sX9 a7) (hs0 : sX9 s0) (hs2 : sX9 s2) (hW : Wd D ca ad s.heap mm H locs) (hl : lv_has ls 11 [(0, .ref (ad a0)), (1, .ref (ad a1)), (2, .ref (ad a2)), (3, .ref (ad a3)), (5, .int a5), (6, .int a6), (7, .ref (ad a7)), (8, .int a8)]) (hf : fX7_weigh_84 N k24 a0 a1 a2 a3 a5 a6 a7 a8 s0 s1 s2 s3 s4 mm = some res) : W p l e (rmX7_weigh) s m args below meth c H locs 0 0 (MQ below (QV D ca ad res) args s 0 0 (AA ad)) (F0 m 84 ls [.int s4, .int s3, .ref (ad s2), .int s1, .ref (ad s0)]) := by
  unfold fX7_weigh_84 at hf
  obtain ⟨x26, m27, r28, hf⟩ := bd2_s hf
  refine x_ci hW (x_runV C hW [.int s3, .int s4] [.int s1, .ref (ad s0)] (hs2).1 (hs2).2.1 kX9.1 kvX9_extra q_434 (tX9_extra l C.2.2.2.2.2.2.1 hs2 r28) rfl rfl ⟨by decide, by decide⟩ rfl hl.1 rfl (Nat.le_of_ble_eq_true rfl) dX7_weigh_84) (fun H locs hW => ?_)
  obtain ⟨x29, m30, r31, hf⟩ := bd2_s hf
  refine x_ci hW (x_runV C hW [.int s1, .int x26] [] (hs0).1 (hs0).2.1 kX9.1 kvX9_weight q_438 (tX9_weight l C.2.2.2.2.2.2.1 hs0 r31) rfl rfl ⟨by decide, by decide⟩ rfl hl.1 rfl (Nat.le_of_ble_eq_true rfl) dX7_weigh_87) (fun H locs hW => ?_)
  refine lv_istore (lv' := [(9, .int x29), (0, .ref (ad a0)), (1, .ref (ad a1)), (2, .ref (ad a2)), (3, .ref (ad a3)), (5, .int a5), (6, .int a6), (7, .ref (ad a7)), (8, .int a8)]) C.1 C.2.1 dX7_weigh_90 hl (by decide) rfl (fun ls hl => ?_)
  refine lv_aload C.1 C.2.1 dX7_weigh_92 (lv_at hl 7 rfl) ?_
  refine lv_aload_n C.1 C.2.1 dX7_weigh_94 rfl (lv_at hl 4 rfl) ?_
  refine lv_iload C.1 C.2.1 dX7_weigh_95 (lv_at hl 6 rfl) ?_
  obtain ⟨g32, hf⟩ := gd_s hf
  refine x_iald C hW ha3 g32 dX7_weigh_97 ?_
  refine lv_aload C.1 C.2.1 dX7_weigh_98 (lv_at hl 7 rfl) ?_
  refine lv_aload_n C.1 C.2.1 dX7_weigh_100 rfl (lv_at hl 2 rfl) ?_
  refine x_geti C hW (ha1).1 (ha1).2.1 (j := 6) rfl kX0 (by decide) rfl q_73 dX7_weigh_101 ?_
  refine lv_iload C.1 C.2.1 dX7_weigh_104 (lv_at hl 8 rfl) ?_
  refine lv_iconst (v := 1) C.1 C.2.1 dX7_weigh_106 (by decide) ?_
  refine lv_icmp_ne (tgt := 114) C.1 C.2.1 dX7_weigh_107 (by decide) (fun c33 => ?_) (fun c33 => ?_)
  · have hf := if_f c33 hf
    refine lv_iconst (v := 0) C.1 C.2.1 dX7_weigh_114 (by decide) ?_
    exact wX7_weigh_115 C hk24 ha0 ha1 ha2 ha3 ha7 ha7 ha7 hW (lv_sub hl [1, 2, 3, 4, 5, 6, 7, 0] rfl) hf
  · have hf := if_t c33 hf
    refine lv_iconst (v := 1) C.1 C.2.1 dX7_weigh_110 (by decide) ?_
    refine lv_goto (tgt := 115) C.1 C.2.1 dX7_weigh_111 (by decide) ?_
    exact wX7_weigh_115 C hk24 ha0 ha1 ha2 ha3 ha7 ha7 ha7 hW (lv_sub hl [1, 2, 3, 4, 5, 6, 7, 0] rfl) hf
set_option maxRecDepth 100000 in
set_option maxHeartbeats 4000000 in
theorem wX7_weigh_24 (C : Cx p s m meth c args cX7_weigh 11 none RX7 D ca ad) {res : Unit × Mm} {N : Nat}  : ∀ (n : Nat) {a0 : Nat} {a1 : Nat} {a2 : Nat} {a3 : Nat} {a5 : Int32} {a6 : Int32} {mm : Mm} {H : Heap} {locs : List Loc} {ls : Array Slot}, (sX7 a0) → (sX0 a1) → (sI a2) → (sI a3) → Wd D ca ad s.heap mm H locs → lv_has ls 11 [(0, .ref (ad a0)), (1, .ref (ad a1)), (2, .ref (ad a2)), (3, .ref (ad a3)), (5, .int a5), (6, .int a6)] → fX7_weigh_24 N n a0 a1 a2 a3 a5 a6 mm = some res → W p l e (rmX7_weigh) s m args below meth c H locs 0 0 (MQ below (QV D ca ad res) args s 0 0 (AA ad)) (F0 m 24 ls []) := by
  intro n
  induction n with
  | zero => intro a0 a1 a2 a3 a5 a6 mm H locs ls ha0 ha1 ha2 ha3 hW hl hf; cases hf
  | succ n ih =>
    intro a0 a1 a2 a3 a5 a6 mm H locs ls ha0 ha1 ha2 ha3 hW hl hf
    have hk24 : ∀ (a0 : Nat) (a1 : Nat) (a2 : Nat) (a3 : Nat) (a5 : Int32) (a6 : Int32) (mm : Mm) (H : Heap) (locs : List Loc) (ls : Array Slot), (sX7 a0) → (sX0 a1) → (sI a2) → (sI a3) → Wd D ca ad s.heap mm H locs → lv_has ls 11 [(0, .ref (ad a0)), (1, .ref (ad a1)), (2, .ref (ad a2)), (3, .ref (ad a3)), (5, .int a5), (6, .int a6)] → (fX7_weigh_24 N n) a0 a1 a2 a3 a5 a6 mm = some res → W p l e (rmX7_weigh) s m args below meth c H locs 0 0 (MQ below (QV D ca ad res) args s 0 0 (AA ad)) (F0 m 24 ls []) := fun a0 a1 a2 a3 a5 a6 mm H locs ls ha0 ha1 ha2 ha3 hW hl hf => ih ha0 ha1 ha2 ha3 hW hl hf
    unfold fX7_weigh_24 at hf
    try dsimp only at hf
    refine lv_iload C.1 C.2.1 dX7_weigh_24 (lv_at hl 5 rfl) ?_
    refine lv_iload C.1 C.2.1 dX7_weigh_26 (lv_at hl 4 rfl) ?_
    refine lv_icmp_ge (tgt := 190) C.1 C.2.1 dX7_weigh_28 (by decide) (fun c34 => ?_) (fun c34 => ?_)
    · have hf := if_t c34 hf
      exact wX7_weigh_190 C  ha0 hW (lv_sub hl [0, 4] rfl) hf
    · have hf := if_f c34 hf
      refine lv_iload C.1 C.2.1 dX7_weigh_31 (lv_at hl 5 rfl) ?_
      refine lv_bipush (v := 6) C.1 C.2.1 dX7_weigh_33 (by decide) ?_
      refine lv_icmp_ge (tgt := 190) C.1 C.2.1 dX7_weigh_35 (by decide) (fun c35 => ?_) (fun c35 => ?_)
      · have hf := if_t c35 hf
        exact wX7_weigh_190 C  ha0 hW (lv_sub hl [0, 4] rfl) hf
      · have hf := if_f c35 hf
        refine lv_aload_n C.1 C.2.1 dX7_weigh_38 rfl (lv_at hl 1 rfl) ?_
        refine lv_iload C.1 C.2.1 dX7_weigh_39 (lv_at hl 5 rfl) ?_
        obtain ⟨x36, m37, r38, hf⟩ := bd2_s hf
        refine x_cr hW (x_runV C hW [.int a6] [] (ha1).1 (ha1).2.1 kX0.1 kvX0_suitOf q_426 (tX0_suitOf l C.2.2.2.2.2.2.1 ha1 r38) rfl rfl ⟨by decide, by decide⟩ rfl hl.1 rfl (Nat.le_of_ble_eq_true rfl) dX7_weigh_41) (fun H locs hW => ?_)
        refine x_astore (lv' := [(7, va_re ad x36), (0, .ref (ad a0)), (1, .ref (ad a1)), (2, .ref (ad a2)), (3, .ref (ad a3)), (5, .int a5), (6, .int a6)]) C dX7_weigh_44 hl (by decide) rfl (fun ls hl => ?_)
        refine x_aload C dX7_weigh_46 (lv_at hl 0 rfl) ?_
        refine x_ifnull C (tgt := 184) dX7_weigh_48 (by decide) (fun n40 => ?_) (fun z39 n40 => ?_)
        · subst n40
          have hf := cs_n hf
          exact wX7_weigh_184 C hk24 ha0 ha1 ha2 ha3 hW (lv_sub hl [1, 2, 3, 4, 5, 6] rfl) hf
        · subst n40
          have hf := cs_q hf
          refine lv_aload C.1 C.2.1 dX7_weigh_51 (lv_at hl 0 rfl) ?_
          refine lv_aload_n C.1 C.2.1 dX7_weigh_53 rfl (lv_at hl 1 rfl) ?_
          refine x_getr C hW (ha0).1 (ha0).2.1 (j := 0) rfl kX7 (by decide) rfl q_138 dX7_weigh_54 ?_
          obtain ⟨x41, m42, r43, hf⟩ := bd2_s hf
          refine x_ci hW (x_runV C hW [.ref (ad (fr a0 0))] [] (((gX0_suitOf ha1 r38) z39 rfl)).1 (((gX0_suitOf ha1 r38) z39 rfl)).2.1 kX9.1 kvX9_aheadIn q_430 (tX9_aheadIn l C.2.2.2.2.2.2.1 ((gX0_suitOf ha1 r38) z39 rfl) ha0.2.2.1 r43) rfl rfl ⟨by decide, by decide⟩ rfl hl.1 rfl (Nat.le_of_ble_eq_true rfl) dX7_weigh_57) (fun H locs hW => ?_)
          refine lv_istore (lv' := [(8, .int x41), (7, .ref (ad z39)), (0, .ref (ad a0)), (1, .ref (ad a1)), (2, .ref (ad a2)), (3, .ref (ad a3)), (5, .int a5), (6, .int a6)]) C.1 C.2.1 dX7_weigh_60 hl (by decide) rfl (fun ls hl => ?_)
          refine lv_aload C.1 C.2.1 dX7_weigh_62 (lv_at hl 1 rfl) ?_
          refine lv_aload_n C.1 C.2.1 dX7_weigh_64 rfl (lv_at hl 4 rfl) ?_
          refine lv_iload C.1 C.2.1 dX7_weigh_65 (lv_at hl 7 rfl) ?_
          obtain ⟨g44, hf⟩ := gd_s hf
          refine x_iald C hW ha2 g44 dX7_weigh_67 ?_
          refine lv_aload C.1 C.2.1 dX7_weigh_68 (lv_at hl 1 rfl) ?_
          refine lv_aload_n C.1 C.2.1 dX7_weigh_70 rfl (lv_at hl 3 rfl) ?_
          refine x_geti C hW (ha1).1 (ha1).2.1 (j := 6) rfl kX0 (by decide) rfl q_73 dX7_weigh_71 ?_
          refine lv_iload C.1 C.2.1 dX7_weigh_74 (lv_at hl 0 rfl) ?_
          refine lv_if_ne (tgt := 83) C.1 C.2.1 dX7_weigh_76 (by decide) (fun c45 => ?_) (fun c45 => ?_)
          · have hf := if_f c45 hf
            refine lv_iconst (v := 0) C.1 C.2.1 dX7_weigh_83 (by decide) ?_
            exact wX7_weigh_84 C hk24 ha0 ha1 ha2 ha3 ((gX0_suitOf ha1 r38) z39 rfl) ((gX0_suitOf ha1 r38) z39 rfl) ((gX0_suitOf ha1 r38) z39 rfl) hW (lv_sub hl [2, 3, 4, 5, 6, 7, 1, 0] rfl) hf
          · have hf := if_t c45 hf
            refine lv_iconst (v := 1) C.1 C.2.1 dX7_weigh_79 (by decide) ?_
            refine lv_goto (tgt := 84) C.1 C.2.1 dX7_weigh_80 (by decide) ?_
            exact wX7_weigh_84 C hk24 ha0 ha1 ha2 ha3 ((gX0_suitOf ha1 r38) z39 rfl) ((gX0_suitOf ha1 r38) z39 rfl) ((gX0_suitOf ha1 r38) z39 rfl) hW (lv_sub hl [2, 3, 4, 5, 6, 7, 1, 0] rfl) hf
set_option maxRecDepth 100000 in
set_option maxHeartbeats 4000000 in
theorem wX7_weigh_0 (C : Cx p s m meth c args cX7_weigh 11 none RX7 D ca ad) {res : Unit × Mm} {N : Nat}  {a0 : Nat} {a1 : Nat} {a2 : Nat} {a3 : Nat} {a4 : Int32} {mm : Mm} {H : Heap} {locs : List Loc} {ls : Array Slot} (ha0 : sX7 a0) (ha1 : sX0 a1) (ha2 : sI a2) (ha3 : sI a3) (hW : Wd D ca ad s.heap mm H locs) (hl : lv_has ls 11 [(0, .ref (ad a0)), (1, .ref (ad a1)), (2, .ref (ad a2)), (3, .ref (ad a3)), (4, .int a4)]) (hf : fX7_weigh N a0 a1 a2 a3 a4 mm = some res) : W p l e (rmX7_weigh) s m args below meth c H locs 0 0 (MQ below (QV D ca ad res) args s 0 0 (AA ad)) (F0 m 0 ls []) := by
  unfold fX7_weigh at hf
  refine lv_aload_n C.1 C.2.1 dX7_weigh_0 rfl (lv_at hl 1 rfl) ?_
  refine x_geti C hW (ha1).1 (ha1).2.1 (j := 5) rfl kX0 (by decide) rfl q_67 dX7_weigh_1 ?_
  refine lv_aload_n C.1 C.2.1 dX7_weigh_4 rfl (lv_at hl 2 rfl) ?_
  refine x_alen C hW ha2 dX7_weigh_5 ?_
  refine lv_aload_n C.1 C.2.1 dX7_weigh_6 rfl (lv_at hl 3 rfl) ?_
  refine x_alen C hW ha3 dX7_weigh_7 ?_
  refine va_mmin C.1 C.2.1 (C.2.2.1.trans hl.1.symm) C.2.2.2.1 (C.2.2.2.2.1 _ q_420) (C.2.2.2.2.1 _ q_421) (C.2.2.2.2.1 _ q_15) (C.2.2.2.2.1 _ q_422) (by decide) (Nat.le_of_ble_eq_true rfl) (Nat.zero_le _) (Nat.zero_le _) dX7_weigh_8 ?_
  refine lv_topi (fun x46 ex46 => ?_)
  have hf := nm_s hf ex46
  refine va_mmin C.1 C.2.1 (C.2.2.1.trans hl.1.symm) C.2.2.2.1 (C.2.2.2.2.1 _ q_420) (C.2.2.2.2.1 _ q_421) (C.2.2.2.2.1 _ q_15) (C.2.2.2.2.1 _ q_422) (by decide) (Nat.le_of_ble_eq_true rfl) (Nat.zero_le _) (Nat.zero_le _) dX7_weigh_11 ?_
  refine lv_topi (fun x47 ex47 => ?_)
  have hf := nm_s hf ex47
  refine lv_istore (lv' := [(5, .int x47), (0, .ref (ad a0)), (1, .ref (ad a1)), (2, .ref (ad a2)), (3, .ref (ad a3)), (4, .int a4)]) C.1 C.2.1 dX7_weigh_14 hl (by decide) rfl (fun ls hl => ?_)
  refine lv_iload C.1 C.2.1 dX7_weigh_16 (lv_at hl 5 rfl) ?_
  refine lv_iconst (v := 0) C.1 C.2.1 dX7_weigh_18 (by decide) ?_
  refine va_mmax C.1 C.2.1 (C.2.2.1.trans hl.1.symm) C.2.2.2.1 (C.2.2.2.2.1 _ q_423) (C.2.2.2.2.1 _ q_424) (C.2.2.2.2.1 _ q_15) (C.2.2.2.2.1 _ q_425) (by decide) (Nat.le_of_ble_eq_true rfl) (Nat.zero_le _) (Nat.zero_le _) dX7_weigh_19 ?_
  refine lv_topi (fun x48 ex48 => ?_)
  have hf := nm_s hf ex48
  refine lv_istore (lv' := [(6, .int x48), (5, .int x47), (0, .ref (ad a0)), (1, .ref (ad a1)), (2, .ref (ad a2)), (3, .ref (ad a3)), (4, .int a4)]) C.1 C.2.1 dX7_weigh_22 hl (by decide) rfl (fun ls hl => ?_)
  exact wX7_weigh_24 C  N ha0 ha1 ha2 ha3 hW (lv_sub hl [2, 3, 4, 5, 1, 0] rfl) hf
set_option maxRecDepth 100000 in
set_option maxHeartbeats 4000000 in
theorem tX7_weigh (l : Launch) {D : va_G} {ca ad : Nat → Nat} (hi : Inj ad) {N : Nat} {a0 : Nat} {a1 : Nat} {a2 : Nat} {a3 : Nat} {a4 : Int32} {mm : Mm} {res : Unit × Mm} (ha0 : sX7 a0) (ha1 : sX0 a1) (ha2 : sI a2) (ha3 : sI a3) (hf : fX7_weigh N a0 a1 a2 a3 a4 mm = some res) : Met l yX7_weigh (WS yX7_weigh cX7_weigh 11 none) (rmX7_weigh) (va_Pc [.ref (ad a0), .ref (ad a1), .ref (ad a2), .ref (ad a3), .int a4] (WB D ca ad mm)) (QV D ca ad res) 0 0 (AA ad) := by
  refine x_start hi (by decide) rfl (Nat.le_of_ble_eq_true rfl) (fun p e s m args below meth c ls C hW hl => ?_)
  exact wX7_weigh_0 C ha0 ha1 ha2 ha3 hW (lv_sub hl [0, 1, 2, 3, 4] rfl) hf
set_option maxRecDepth 100000 in
set_option maxHeartbeats 4000000 in
theorem wX7_wonOf_30 (C : Cx p s m meth c args cX7_wonOf 4 (some .int) RX7 D ca ad) {res : Int32 × Mm} {N : Nat} {k4 : Nat → Int32 → Int32 → Int32 → Mm → Option (Int32 × Mm)} (hk4 : ∀ (a0 : Nat) (a1 : Int32) (a2 : Int32) (a3 : Int32) (mm : Mm) (H : Heap) (locs : List Loc) (ls : Array Slot), (sX7 a0) → Wd D ca ad s.heap mm H locs → lv_has ls 4 [(0, .ref (ad a0)), (1, .int a1), (2, .int a2), (3, .int a3)] → k4 a0 a1 a2 a3 mm = some res → W p l e (rmX7_wonOf) s m args below meth c H locs 0 0 (MQ below (QI D ca ad res) args s 0 0 (AA ad)) (F0 m 4 ls [])) {a0 : Nat} {a1 : Int32} {a2 : Int32} {a3 : Int32} {mm : Mm} {H : Heap} {locs : List Loc} {ls : Array Slot} (ha0 : sX7 a0) (hW : Wd D ca ad s.heap mm H locs) (hl : lv_has ls 4 [(0, .ref (ad a0)), (1, .int a1), (2, .int a2), (3, .int a3)]) (hf : fX7_wonOf_30 N k4 a0 a1 a2 a3 mm = some res) : W p l e (rmX7_wonOf) s m args below meth c H locs 0 0 (MQ below (QI D ca ad res) args s 0 0 (AA ad)) (F0 m 30 ls []) := by
  unfold fX7_wonOf_30 at hf
  refine lv_iinc (v := (a3 + 1)) (lv' := [(3, .int (a3 + 1)), (0, .ref (ad a0)), (1, .int a1), (2, .int a2)]) C.1 C.2.1 dX7_wonOf_30 hl (k := 3) rfl rfl (by decide) rfl (fun ls hl => ?_)
  refine lv_goto (tgt := 4) C.1 C.2.1 dX7_wonOf_33 (by decide) ?_
  exact hk4 _ _ _ _ _ _ _ _ ha0 hW (lv_sub hl [1, 2, 3, 0] rfl) hf
set_option maxRecDepth 100000 in
set_option maxHeartbeats 4000000 in
theorem wX7_wonOf_4 (C : Cx p s m meth c args cX7_wonOf 4 (some .int) RX7 D ca ad) {res : Int32 × Mm} {N : Nat}  : ∀ (n : Nat) {a0 : Nat} {a1 : Int32} {a2 : Int32} {a3 : Int32} {mm : Mm} {H : Heap} {locs : List Loc} {ls : Array Slot}, (sX7 a0) → Wd D ca ad s.heap mm H locs → lv_has ls 4 [(0, .ref (ad a0)), (1, .int a1), (2, .int a2), (3, .int a3)] → fX7_wonOf_4 N n a0 a1 a2 a3 mm = some res → W p l e (rmX7_wonOf) s m args below meth c H locs 0 0 (MQ below (QI D ca ad res) args s 0 0 (AA ad)) (F0 m 4 ls []) := by
  intro n
  induction n with
  | zero => intro a0 a1 a2 a3 mm H locs ls ha0 hW hl hf; cases hf
  | succ n ih =>
    intro a0 a1 a2 a3 mm H locs ls ha0 hW hl hf
    have hk4 : ∀ (a0 : Nat) (a1 : Int32) (a2 : Int32) (a3 : Int32) (mm : Mm) (H : Heap) (locs : List Loc) (ls : Array Slot), (sX7 a0) → Wd D ca ad s.heap mm H locs → lv_has ls 4 [(0, .ref (ad a0)), (1, .int a1), (2, .int a2), (3, .int a3)] → (fX7_wonOf_4 N n) a0 a1 a2 a3 mm = some res → W p l e (rmX7_wonOf) s m args below meth c H locs 0 0 (MQ below (QI D ca ad res) args s 0 0 (AA ad)) (F0 m 4 ls []) := fun a0 a1 a2 a3 mm H locs ls ha0 hW hl hf => ih ha0 hW hl hf
    unfold fX7_wonOf_4 at hf
    try dsimp only at hf
    refine lv_iload_n C.1 C.2.1 dX7_wonOf_4 rfl (lv_at hl 3 rfl) ?_
    refine lv_iload_n C.1 C.2.1 dX7_wonOf_5 rfl (lv_at hl 1 rfl) ?_
    refine lv_icmp_ge (tgt := 36) C.1 C.2.1 dX7_wonOf_6 (by decide) (fun c1 => ?_) (fun c1 => ?_)
    · have hf := if_t c1 hf
      refine lv_iload_n C.1 C.2.1 dX7_wonOf_36 rfl (lv_at hl 2 rfl) ?_
      cases hf
      exact x_iret C hW dX7_wonOf_37
    · have hf := if_f c1 hf
      refine lv_iload_n C.1 C.2.1 dX7_wonOf_9 rfl (lv_at hl 3 rfl) ?_
      refine lv_bipush (v := 6) C.1 C.2.1 dX7_wonOf_10 (by decide) ?_
      refine lv_icmp_ge (tgt := 36) C.1 C.2.1 dX7_wonOf_12 (by decide) (fun c2 => ?_) (fun c2 => ?_)
      · have hf := if_t c2 hf
        refine lv_iload_n C.1 C.2.1 dX7_wonOf_36 rfl (lv_at hl 2 rfl) ?_
        cases hf
        exact x_iret C hW dX7_wonOf_37
      · have hf := if_f c2 hf
        refine lv_aload_n C.1 C.2.1 dX7_wonOf_15 rfl (lv_at hl 0 rfl) ?_
        refine x_getr C hW (ha0).1 (ha0).2.1 (j := 0) rfl kX7 (by decide) rfl q_138 dX7_wonOf_16 ?_
        refine lv_iload_n C.1 C.2.1 dX7_wonOf_19 rfl (lv_at hl 3 rfl) ?_
        obtain ⟨g3, hf⟩ := gd_s hf
        refine x_iald C hW ha0.2.2.1 g3 dX7_wonOf_20 ?_
        refine lv_if_ne (tgt := 30) C.1 C.2.1 dX7_wonOf_21 (by decide) (fun c4 => ?_) (fun c4 => ?_)
        · have hf := if_f c4 hf
          exact wX7_wonOf_30 C hk4 ha0 hW (lv_sub hl [0, 1, 2, 3] rfl) hf
        · have hf := if_t c4 hf
          refine lv_iload_n C.1 C.2.1 dX7_wonOf_24 rfl (lv_at hl 2 rfl) ?_
          refine lv_iconst (v := 1) C.1 C.2.1 dX7_wonOf_25 (by decide) ?_
          refine lv_iload_n C.1 C.2.1 dX7_wonOf_26 rfl (lv_at hl 3 rfl) ?_
          refine lv_ishl C.1 C.2.1 dX7_wonOf_27 ?_
          refine lv_ior C.1 C.2.1 dX7_wonOf_28 ?_
          refine lv_istore_n (lv' := [(2, .int (a2 ||| (1 <<< (a3 &&& 31)))), (0, .ref (ad a0)), (1, .int a1), (3, .int a3)]) C.1 C.2.1 dX7_wonOf_29 rfl hl (by decide) rfl (fun ls hl => ?_)
          exact wX7_wonOf_30 C hk4 ha0 hW (lv_sub hl [1, 2, 0, 3] rfl) hf
set_option maxRecDepth 100000 in
set_option maxHeartbeats 4000000 in
theorem wX7_wonOf_0 (C : Cx p s m meth c args cX7_wonOf 4 (some .int) RX7 D ca ad) {res : Int32 × Mm} {N : Nat}  {a0 : Nat} {a1 : Int32} {mm : Mm} {H : Heap} {locs : List Loc} {ls : Array Slot} (ha0 : sX7 a0) (hW : Wd D ca ad s.heap mm H locs) (hl : lv_has ls 4 [(0, .ref (ad a0)), (1, .int a1)]) (hf : fX7_wonOf N a0 a1 mm = some res) : W p l e (rmX7_wonOf) s m args below meth c H locs 0 0 (MQ below (QI D ca ad res) args s 0 0 (AA ad)) (F0 m 0 ls []) := by
  unfold fX7_wonOf at hf
  refine lv_iconst (v := 0) C.1 C.2.1 dX7_wonOf_0 (by decide) ?_
  refine lv_istore_n (lv' := [(2, .int 0), (0, .ref (ad a0)), (1, .int a1)]) C.1 C.2.1 dX7_wonOf_1 rfl hl (by decide) rfl (fun ls hl => ?_)
  refine lv_iconst (v := 0) C.1 C.2.1 dX7_wonOf_2 (by decide) ?_
  refine lv_istore_n (lv' := [(3, .int 0), (2, .int 0), (0, .ref (ad a0)), (1, .int a1)]) C.1 C.2.1 dX7_wonOf_3 rfl hl (by decide) rfl (fun ls hl => ?_)
  exact wX7_wonOf_4 C  N ha0 hW (lv_sub hl [2, 3, 1, 0] rfl) hf
set_option maxRecDepth 100000 in
set_option maxHeartbeats 4000000 in
theorem tX7_wonOf (l : Launch) {D : va_G} {ca ad : Nat → Nat} (hi : Inj ad) {N : Nat} {a0 : Nat} {a1 : Int32} {mm : Mm} {res : Int32 × Mm} (ha0 : sX7 a0) (hf : fX7_wonOf N a0 a1 mm = some res) : Met l yX7_wonOf (WS yX7_wonOf cX7_wonOf 4 (some .int)) (rmX7_wonOf) (va_Pc [.ref (ad a0), .int a1] (WB D ca ad mm)) (QI D ca ad res) 0 0 (AA ad) := by
  refine x_start hi (by decide) rfl (Nat.le_of_ble_eq_true rfl) (fun p e s m args below meth c ls C hW hl => ?_)
  exact wX7_wonOf_0 C ha0 hW (lv_sub hl [0, 1] rfl) hf
set_option maxRecDepth 100000 in
set_option maxHeartbeats 4000000 in
theorem wX3_begin_0 (C : Cx p s m meth c args cX3_begin 3 none RX3 D ca ad) {res : Unit × Mm} {N : Nat}  {a0 : Nat} {a1 : Int32} {a2 : Int32} {mm : Mm} {H : Heap} {locs : List Loc} {ls : Array Slot} (ha0 : sX3 a0) (hW : Wd D ca ad s.heap mm H locs) (hl : lv_has ls 3 [(0, .ref (ad a0)), (1, .int a1), (2, .int a2)]) (hf : fX3_begin N a0 a1 a2 mm = some res) : W p l e (rmX3_begin) s m args below meth c H locs 0 0 (MQ below (QV D ca ad res) args s 0 0 (AA ad)) (F0 m 0 ls []) := by
  unfold fX3_begin at hf
  refine lv_aload_n C.1 C.2.1 dX3_begin_0 rfl (lv_at hl 0 rfl) ?_
  refine lv_iload_n C.1 C.2.1 dX3_begin_1 rfl (lv_at hl 1 rfl) ?_
  refine lv_bipush (v := 6) C.1 C.2.1 dX3_begin_2 (by decide) ?_
  refine va_mmin C.1 C.2.1 (C.2.2.1.trans hl.1.symm) C.2.2.2.1 (C.2.2.2.2.1 _ q_541) (C.2.2.2.2.1 _ q_421) (C.2.2.2.2.1 _ q_15) (C.2.2.2.2.1 _ q_422) (by decide) (Nat.le_of_ble_eq_true rfl) (Nat.zero_le _) (Nat.zero_le _) dX3_begin_4 ?_
  refine lv_topi (fun x1 ex1 => ?_)
  have hf := nm_s hf ex1
  refine x_put C hW (ha0).1 (ha0).2.1 (j := 1) (t1 := .int) rfl kX3 (by decide) rfl rfl q_166 (by decide +kernel) rfl rfl dX3_begin_7 (fun H locs hW => ?_)
  obtain ⟨m2, em2⟩ : ∃ z, z = wr mm a0 1 x1 := ⟨_, rfl⟩
  have hf := nm_s hf em2
  rw [← em2] at hW
  refine lv_aload_n C.1 C.2.1 dX3_begin_10 rfl (lv_at hl 0 rfl) ?_
  refine lv_iload_n C.1 C.2.1 dX3_begin_11 rfl (lv_at hl 2 rfl) ?_
  refine x_put C hW (ha0).1 (ha0).2.1 (j := 2) (t1 := .int) rfl kX3 (by decide) rfl rfl q_167 (by decide +kernel) rfl rfl dX3_begin_12 (fun H locs hW => ?_)
  obtain ⟨m3, em3⟩ : ∃ z, z = wr m2 a0 2 a2 := ⟨_, rfl⟩
  have hf := nm_s hf em3
  rw [← em3] at hW
  refine lv_aload_n C.1 C.2.1 dX3_begin_15 rfl (lv_at hl 0 rfl) ?_
  refine x_getr C hW (ha0).1 (ha0).2.1 (j := 0) rfl kX3 (by decide) rfl q_163 dX3_begin_16 ?_
  refine lv_iconst (v := 0) C.1 C.2.1 dX3_begin_19 (by decide) ?_
  obtain ⟨x4, m5, r6, hf⟩ := bd2_s hf
  refine x_cv hW (x_runS C hW [.ref (ad (fr a0 0)), .int 0] [] kvJ7_fill_53178 q_542 (tJ7_fill_53178 l C.2.2.2.2.2.2.1 ha0.2.2 r6) rfl rfl ⟨by decide, by decide⟩ rfl hl.1 rfl (Nat.le_of_ble_eq_true rfl) dX3_begin_20) (fun H locs hW => ?_)
  cases hf
  exact x_vret C hW dX3_begin_23
set_option maxRecDepth 100000 in
set_option maxHeartbeats 4000000 in
theorem tX3_begin (l : Launch) {D : va_G} {ca ad : Nat → Nat} (hi : Inj ad) {N : Nat} {a0 : Nat} {a1 : Int32} {a2 : Int32} {mm : Mm} {res : Unit × Mm} (ha0 : sX3 a0) (hf : fX3_begin N a0 a1 a2 mm = some res) : Met l yX3_begin (WS yX3_begin cX3_begin 3 none) (rmX3_begin) (va_Pc [.ref (ad a0), .int a1, .int a2] (WB D ca ad mm)) (QV D ca ad res) 0 0 (AA ad) := by
  refine x_start hi (by decide) rfl (Nat.le_of_ble_eq_true rfl) (fun p e s m args below meth c ls C hW hl => ?_)
  exact wX3_begin_0 C ha0 hW (lv_sub hl [0, 1, 2] rfl) hf
set_option maxRecDepth 100000 in
set_option maxHeartbeats 4000000 in
theorem wX3_next_7 (C : Cx p s m meth c args cX3_next 2 (some .int) RX3 D ca ad) {res : Int32 × Mm} {N : Nat}  : ∀ (n : Nat) {a0 : Nat} {a1 : Int32} {mm : Mm} {H : Heap} {locs : List Loc} {ls : Array Slot}, (sX3 a0) → Wd D ca ad s.heap mm H locs → lv_has ls 2 [(0, .ref (ad a0)), (1, .int a1)] → fX3_next_7 N n a0 a1 mm = some res → W p l e (rmX3_next) s m args below meth c H locs 0 0 (MQ below (QI D ca ad res) args s 0 0 (AA ad)) (F0 m 7 ls []) := by
  intro n
  induction n with
  | zero => intro a0 a1 mm H locs ls ha0 hW hl hf; cases hf
  | succ n ih =>
    intro a0 a1 mm H locs ls ha0 hW hl hf
    have hk7 : ∀ (a0 : Nat) (a1 : Int32) (mm : Mm) (H : Heap) (locs : List Loc) (ls : Array Slot), (sX3 a0) → Wd D ca ad s.heap mm H locs → lv_has ls 2 [(0, .ref (ad a0)), (1, .int a1)] → (fX3_next_7 N n) a0 a1 mm = some res → W p l e (rmX3_next) s m args below meth c H locs 0 0 (MQ below (QI D ca ad res) args s 0 0 (AA ad)) (F0 m 7 ls []) := fun a0 a1 mm H locs ls ha0 hW hl hf => ih ha0 hW hl hf
    unfold fX3_next_7 at hf
    try dsimp only at hf
    refine lv_iload_n C.1 C.2.1 dX3_next_7 rfl (lv_at hl 1 rfl) ?_
    refine lv_if_lt (tgt := 68) C.1 C.2.1 dX3_next_8 (by decide) (fun c1 => ?_) (fun c1 => ?_)
    · have hf := if_t c1 hf
      refine lv_bipush (v := (-9)) C.1 C.2.1 dX3_next_68 (by decide) ?_
      cases hf
      exact x_iret C hW dX3_next_70
    · have hf := if_f c1 hf
      refine lv_aload_n C.1 C.2.1 dX3_next_11 rfl (lv_at hl 0 rfl) ?_
      refine x_geti C hW (ha0).1 (ha0).2.1 (j := 2) rfl kX3 (by decide) rfl q_167 dX3_next_12 ?_
      refine lv_if_le (tgt := 40) C.1 C.2.1 dX3_next_15 (by decide) (fun c2 => ?_) (fun c2 => ?_)
      · have hf := if_t c2 hf
        refine lv_aload_n C.1 C.2.1 dX3_next_40 rfl (lv_at hl 0 rfl) ?_
        refine lv_dup C.1 C.2.1 dX3_next_41 rfl ?_
        refine x_geti C hW (ha0).1 (ha0).2.1 (j := 2) rfl kX3 (by decide) rfl q_167 dX3_next_42 ?_
        refine lv_aload_n C.1 C.2.1 dX3_next_45 rfl (lv_at hl 0 rfl) ?_
        refine x_getr C hW (ha0).1 (ha0).2.1 (j := 0) rfl kX3 (by decide) rfl q_163 dX3_next_46 ?_
        refine lv_iload_n C.1 C.2.1 dX3_next_49 rfl (lv_at hl 1 rfl) ?_
        obtain ⟨g3, hf⟩ := gd_s hf
        refine x_iald C hW ha0.2.2 g3 dX3_next_50 ?_
        refine lv_iadd C.1 C.2.1 dX3_next_51 ?_
        refine x_put C hW (ha0).1 (ha0).2.1 (j := 2) (t1 := .int) rfl kX3 (by decide) rfl rfl q_167 (by decide +kernel) rfl rfl dX3_next_52 (fun H locs hW => ?_)
        obtain ⟨m4, em4⟩ : ∃ z, z = wr mm a0 2 ((rd mm a0 2) + (rd mm (fr a0 0) a1.toNatClampNeg)) := ⟨_, rfl⟩
        have hf := nm_s hf em4
        rw [← em4] at hW
        refine lv_aload_n C.1 C.2.1 dX3_next_55 rfl (lv_at hl 0 rfl) ?_
        refine x_getr C hW (ha0).1 (ha0).2.1 (j := 0) rfl kX3 (by decide) rfl q_163 dX3_next_56 ?_
        refine lv_iload_n C.1 C.2.1 dX3_next_59 rfl (lv_at hl 1 rfl) ?_
        refine lv_iconst (v := 0) C.1 C.2.1 dX3_next_60 (by decide) ?_
        obtain ⟨g5, hf⟩ := gd_s hf
        refine x_iast C hW ha0.2.2 g5 dX3_next_61 (fun H locs hW => ?_)
        obtain ⟨m6, em6⟩ : ∃ z, z = wr m4 (fr a0 0) a1.toNatClampNeg 0 := ⟨_, rfl⟩
        have hf := nm_s hf em6
        rw [← em6] at hW
        refine lv_iinc (v := (a1 + (-1))) (lv' := [(1, .int (a1 + (-1))), (0, .ref (ad a0))]) C.1 C.2.1 dX3_next_62 hl (k := 1) rfl rfl (by decide) rfl (fun ls hl => ?_)
        refine lv_goto (tgt := 7) C.1 C.2.1 dX3_next_65 (by decide) ?_
        exact hk7 _ _ _ _ _ _ ha0 hW (lv_sub hl [1, 0] rfl) hf
      · have hf := if_f c2 hf
        refine lv_aload_n C.1 C.2.1 dX3_next_18 rfl (lv_at hl 0 rfl) ?_
        refine x_getr C hW (ha0).1 (ha0).2.1 (j := 0) rfl kX3 (by decide) rfl q_163 dX3_next_19 ?_
        refine lv_iload_n C.1 C.2.1 dX3_next_22 rfl (lv_at hl 1 rfl) ?_
        refine lv_dup2_11 C.1 C.2.1 dX3_next_23 rfl rfl ?_
        obtain ⟨g7, hf⟩ := gd_s hf
        refine x_iald C hW ha0.2.2 g7 dX3_next_24 ?_
        refine lv_iconst (v := 1) C.1 C.2.1 dX3_next_25 (by decide) ?_
        refine lv_iadd C.1 C.2.1 dX3_next_26 ?_
        obtain ⟨g8, hf⟩ := gd_s hf
        refine x_iast C hW ha0.2.2 g8 dX3_next_27 (fun H locs hW => ?_)
        obtain ⟨m9, em9⟩ : ∃ z, z = wr mm (fr a0 0) a1.toNatClampNeg ((rd mm (fr a0 0) a1.toNatClampNeg) + 1) := ⟨_, rfl⟩
        have hf := nm_s hf em9
        rw [← em9] at hW
        refine lv_aload_n C.1 C.2.1 dX3_next_28 rfl (lv_at hl 0 rfl) ?_
        refine lv_dup C.1 C.2.1 dX3_next_29 rfl ?_
        refine x_geti C hW (ha0).1 (ha0).2.1 (j := 2) rfl kX3 (by decide) rfl q_167 dX3_next_30 ?_
        refine lv_iconst (v := 1) C.1 C.2.1 dX3_next_33 (by decide) ?_
        refine lv_isub C.1 C.2.1 dX3_next_34 ?_
        refine x_put C hW (ha0).1 (ha0).2.1 (j := 2) (t1 := .int) rfl kX3 (by decide) rfl rfl q_167 (by decide +kernel) rfl rfl dX3_next_35 (fun H locs hW => ?_)
        obtain ⟨m10, em10⟩ : ∃ z, z = wr m9 a0 2 ((rd m9 a0 2) - 1) := ⟨_, rfl⟩
        have hf := nm_s hf em10
        rw [← em10] at hW
        refine lv_iload_n C.1 C.2.1 dX3_next_38 rfl (lv_at hl 1 rfl) ?_
        cases hf
        exact x_iret C hW dX3_next_39
set_option maxRecDepth 100000 in
set_option maxHeartbeats 4000000 in
theorem wX3_next_0 (C : Cx p s m meth c args cX3_next 2 (some .int) RX3 D ca ad) {res : Int32 × Mm} {N : Nat}  {a0 : Nat} {mm : Mm} {H : Heap} {locs : List Loc} {ls : Array Slot} (ha0 : sX3 a0) (hW : Wd D ca ad s.heap mm H locs) (hl : lv_has ls 2 [(0, .ref (ad a0))]) (hf : fX3_next N a0 mm = some res) : W p l e (rmX3_next) s m args below meth c H locs 0 0 (MQ below (QI D ca ad res) args s 0 0 (AA ad)) (F0 m 0 ls []) := by
  unfold fX3_next at hf
  refine lv_aload_n C.1 C.2.1 dX3_next_0 rfl (lv_at hl 0 rfl) ?_
  refine x_geti C hW (ha0).1 (ha0).2.1 (j := 1) rfl kX3 (by decide) rfl q_166 dX3_next_1 ?_
  refine lv_iconst (v := 1) C.1 C.2.1 dX3_next_4 (by decide) ?_
  refine lv_isub C.1 C.2.1 dX3_next_5 ?_
  refine lv_istore_n (lv' := [(1, .int ((rd mm a0 1) - 1)), (0, .ref (ad a0))]) C.1 C.2.1 dX3_next_6 rfl hl (by decide) rfl (fun ls hl => ?_)
  exact wX3_next_7 C  N ha0 hW (lv_sub hl [1, 0] rfl) hf
set_option maxRecDepth 100000 in
set_option maxHeartbeats 4000000 in
theorem tX3_next (l : Launch) {D : va_G} {ca ad : Nat → Nat} (hi : Inj ad) {N : Nat} {a0 : Nat} {mm : Mm} {res : Int32 × Mm} (ha0 : sX3 a0) (hf : fX3_next N a0 mm = some res) : Met l yX3_next (WS yX3_next cX3_next 2 (some .int)) (rmX3_next) (va_Pc [.ref (ad a0)] (WB D ca ad mm)) (QI D ca ad res) 0 0 (AA ad) := by
  refine x_start hi (by decide) rfl (Nat.le_of_ble_eq_true rfl) (fun p e s m args below meth c ls C hW hl => ?_)
  exact wX3_next_0 C ha0 hW (lv_sub hl [0] rfl) hf
end W_scale09
