theorem dX9_become_0 : decode cX9_become 0 = .ok (.aload_n 0, 1) := by decide +kernel
theorem dX9_become_1 : decode cX9_become 1 = .ok (.iload_n 1, 1) := by decide +kernel
theorem dX9_become_2 : decode cX9_become 2 = .ok (.putfield 15, 3) := by decide +kernel
theorem dX9_become_5 : decode cX9_become 5 = .ok (.aload_n 0, 1) := by decide +kernel
theorem dX9_become_6 : decode cX9_become 6 = .ok (.iload_n 2, 1) := by decide +kernel
theorem dX9_become_7 : decode cX9_become 7 = .ok (.putfield 18, 3) := by decide +kernel
theorem dX9_become_10 : decode cX9_become 10 = .ok (.aload_n 0, 1) := by decide +kernel
theorem dX9_become_11 : decode cX9_become 11 = .ok (.iload_n 3, 1) := by decide +kernel
theorem dX9_become_12 : decode cX9_become 12 = .ok (.putfield 9, 3) := by decide +kernel
theorem dX9_become_15 : decode cX9_become 15 = .ok (.return_, 1) := by decide +kernel
theorem dX9_isA_0 : decode cX9_isA 0 = .ok (.iload_n 1, 1) := by decide +kernel
theorem dX9_isA_1 : decode cX9_isA 1 = .ok (.ifCond .eq 37, 3) := by decide +kernel
theorem dX9_isA_4 : decode cX9_isA 4 = .ok (.iload_n 1, 1) := by decide +kernel
theorem dX9_isA_5 : decode cX9_isA 5 = .ok (.aload_n 0, 1) := by decide +kernel
theorem dX9_isA_6 : decode cX9_isA 6 = .ok (.getfield 15, 3) := by decide +kernel
theorem dX9_isA_9 : decode cX9_isA 9 = .ok (.if_icmp .eq 29, 3) := by decide +kernel
theorem dX9_isA_12 : decode cX9_isA 12 = .ok (.iload_n 1, 1) := by decide +kernel
theorem dX9_isA_13 : decode cX9_isA 13 = .ok (.iconst 1, 1) := by decide +kernel
theorem dX9_isA_14 : decode cX9_isA 14 = .ok (.if_icmp .ne 11, 3) := by decide +kernel
theorem dX9_isA_17 : decode cX9_isA 17 = .ok (.aload_n 0, 1) := by decide +kernel
theorem dX9_isA_18 : decode cX9_isA 18 = .ok (.getfield 15, 3) := by decide +kernel
theorem dX9_isA_21 : decode cX9_isA 21 = .ok (.iconst 5, 1) := by decide +kernel
theorem dX9_isA_22 : decode cX9_isA 22 = .ok (.if_icmp .eq 16, 3) := by decide +kernel
theorem dX9_isA_25 : decode cX9_isA 25 = .ok (.iload_n 1, 1) := by decide +kernel
theorem dX9_isA_26 : decode cX9_isA 26 = .ok (.iconst 3, 1) := by decide +kernel
theorem dX9_isA_27 : decode cX9_isA 27 = .ok (.if_icmp .ne 15, 3) := by decide +kernel
theorem dX9_isA_30 : decode cX9_isA 30 = .ok (.aload_n 0, 1) := by decide +kernel
theorem dX9_isA_31 : decode cX9_isA 31 = .ok (.getfield 15, 3) := by decide +kernel
theorem dX9_isA_34 : decode cX9_isA 34 = .ok (.iconst 4, 1) := by decide +kernel
theorem dX9_isA_35 : decode cX9_isA 35 = .ok (.if_icmp .ne 7, 3) := by decide +kernel
theorem dX9_isA_38 : decode cX9_isA 38 = .ok (.iconst 1, 1) := by decide +kernel
theorem dX9_isA_39 : decode cX9_isA 39 = .ok (.goto 4, 3) := by decide +kernel
theorem dX9_isA_42 : decode cX9_isA 42 = .ok (.iconst 0, 1) := by decide +kernel
theorem dX9_isA_43 : decode cX9_isA 43 = .ok (.ireturn, 1) := by decide +kernel
theorem dX9_aheadIn_0 : decode cX9_aheadIn 0 = .ok (.aload_n 0, 1) := by decide +kernel
theorem dX9_aheadIn_1 : decode cX9_aheadIn 1 = .ok (.getfield 15, 3) := by decide +kernel
theorem dX9_aheadIn_4 : decode cX9_aheadIn 4 = .ok (.iconst 5, 1) := by decide +kernel
theorem dX9_aheadIn_5 : decode cX9_aheadIn 5 = .ok (.if_icmp .ne 28, 3) := by decide +kernel
theorem dX9_aheadIn_8 : decode cX9_aheadIn 8 = .ok (.aload_n 0, 1) := by decide +kernel
theorem dX9_aheadIn_9 : decode cX9_aheadIn 9 = .ok (.getfield 9, 3) := by decide +kernel
theorem dX9_aheadIn_12 : decode cX9_aheadIn 12 = .ok (.ifCond .lt 21, 3) := by decide +kernel
theorem dX9_aheadIn_15 : decode cX9_aheadIn 15 = .ok (.aload_n 0, 1) := by decide +kernel
theorem dX9_aheadIn_16 : decode cX9_aheadIn 16 = .ok (.getfield 9, 3) := by decide +kernel
theorem dX9_aheadIn_19 : decode cX9_aheadIn 19 = .ok (.aload_n 1, 1) := by decide +kernel
theorem dX9_aheadIn_20 : decode cX9_aheadIn 20 = .ok (.arraylength, 1) := by decide +kernel
theorem dX9_aheadIn_21 : decode cX9_aheadIn 21 = .ok (.if_icmp .ge 12, 3) := by decide +kernel
theorem dX9_aheadIn_24 : decode cX9_aheadIn 24 = .ok (.aload_n 1, 1) := by decide +kernel
theorem dX9_aheadIn_25 : decode cX9_aheadIn 25 = .ok (.aload_n 0, 1) := by decide +kernel
theorem dX9_aheadIn_26 : decode cX9_aheadIn 26 = .ok (.getfield 9, 3) := by decide +kernel
theorem dX9_aheadIn_29 : decode cX9_aheadIn 29 = .ok (.iaload, 1) := by decide +kernel
theorem dX9_aheadIn_30 : decode cX9_aheadIn 30 = .ok (.goto 4, 3) := by decide +kernel
theorem dX9_aheadIn_33 : decode cX9_aheadIn 33 = .ok (.iconst 2, 1) := by decide +kernel
theorem dX9_aheadIn_34 : decode cX9_aheadIn 34 = .ok (.ireturn, 1) := by decide +kernel
theorem dX9_extra_0 : decode cX9_extra 0 = .ok (.aload_n 0, 1) := by decide +kernel
theorem dX9_extra_1 : decode cX9_extra 1 = .ok (.getfield 15, 3) := by decide +kernel
theorem dX9_extra_4 : decode cX9_extra 4 = .ok (.iconst 3, 1) := by decide +kernel
theorem dX9_extra_5 : decode cX9_extra 5 = .ok (.if_icmp .eq 11, 3) := by decide +kernel
theorem dX9_extra_8 : decode cX9_extra 8 = .ok (.aload_n 0, 1) := by decide +kernel
theorem dX9_extra_9 : decode cX9_extra 9 = .ok (.getfield 15, 3) := by decide +kernel
theorem dX9_extra_12 : decode cX9_extra 12 = .ok (.iconst 4, 1) := by decide +kernel
theorem dX9_extra_13 : decode cX9_extra 13 = .ok (.if_icmp .ne 10, 3) := by decide +kernel
theorem dX9_extra_16 : decode cX9_extra 16 = .ok (.aload_n 0, 1) := by decide +kernel
theorem dX9_extra_17 : decode cX9_extra 17 = .ok (.getfield 9, 3) := by decide +kernel
theorem dX9_extra_20 : decode cX9_extra 20 = .ok (.iload_n 1, 1) := by decide +kernel
theorem dX9_extra_21 : decode cX9_extra 21 = .ok (.imul, 1) := by decide +kernel
theorem dX9_extra_22 : decode cX9_extra 22 = .ok (.ireturn, 1) := by decide +kernel
theorem dX9_extra_23 : decode cX9_extra 23 = .ok (.iload_n 2, 1) := by decide +kernel
theorem dX9_extra_24 : decode cX9_extra 24 = .ok (.ifCond .eq 7, 3) := by decide +kernel
theorem dX9_extra_27 : decode cX9_extra 27 = .ok (.iconst 2, 1) := by decide +kernel
theorem dX9_extra_28 : decode cX9_extra 28 = .ok (.goto 4, 3) := by decide +kernel
theorem dX9_extra_31 : decode cX9_extra 31 = .ok (.iconst 0, 1) := by decide +kernel
theorem dX9_extra_32 : decode cX9_extra 32 = .ok (.ireturn, 1) := by decide +kernel
theorem dX9_least_0 : decode cX9_least 0 = .ok (.aload_n 0, 1) := by decide +kernel
theorem dX9_least_1 : decode cX9_least 1 = .ok (.getfield 15, 3) := by decide +kernel
theorem dX9_least_4 : decode cX9_least 4 = .ok (.iconst 4, 1) := by decide +kernel
theorem dX9_least_5 : decode cX9_least 5 = .ok (.if_icmp .ne 10, 3) := by decide +kernel
theorem dX9_least_8 : decode cX9_least 8 = .ok (.aload_n 0, 1) := by decide +kernel
theorem dX9_least_9 : decode cX9_least 9 = .ok (.getfield 9, 3) := by decide +kernel
theorem dX9_least_12 : decode cX9_least 12 = .ok (.goto 16, 3) := by decide +kernel
theorem dX9_least_15 : decode cX9_least 15 = .ok (.aload_n 0, 1) := by decide +kernel
theorem dX9_least_16 : decode cX9_least 16 = .ok (.getfield 15, 3) := by decide +kernel
theorem dX9_least_19 : decode cX9_least 19 = .ok (.iconst 3, 1) := by decide +kernel
theorem dX9_least_20 : decode cX9_least 20 = .ok (.if_icmp .ne 7, 3) := by decide +kernel
theorem dX9_least_23 : decode cX9_least 23 = .ok (.iconst 1, 1) := by decide +kernel
theorem dX9_least_24 : decode cX9_least 24 = .ok (.goto 4, 3) := by decide +kernel
theorem dX9_least_27 : decode cX9_least 27 = .ok (.iconst 0, 1) := by decide +kernel
theorem dX9_least_28 : decode cX9_least 28 = .ok (.ireturn, 1) := by decide +kernel
theorem dX9_weight_0 : decode cX9_weight 0 = .ok (.iload_n 1, 1) := by decide +kernel
theorem dX9_weight_1 : decode cX9_weight 1 = .ok (.aload_n 0, 1) := by decide +kernel
theorem dX9_weight_2 : decode cX9_weight 2 = .ok (.invokevirtual 21, 3) := by decide +kernel
theorem dX9_weight_5 : decode cX9_weight 5 = .ok (.if_icmp .ge 7, 3) := by decide +kernel
theorem dX9_weight_8 : decode cX9_weight 8 = .ok (.iconst 0, 1) := by decide +kernel
theorem dX9_weight_9 : decode cX9_weight 9 = .ok (.goto 6, 3) := by decide +kernel
theorem dX9_weight_12 : decode cX9_weight 12 = .ok (.iload_n 1, 1) := by decide +kernel
theorem dX9_weight_13 : decode cX9_weight 13 = .ok (.iload_n 2, 1) := by decide +kernel
theorem dX9_weight_14 : decode cX9_weight 14 = .ok (.iadd, 1) := by decide +kernel
theorem dX9_weight_15 : decode cX9_weight 15 = .ok (.ireturn, 1) := by decide +kernel
theorem dX9_need_0 : decode cX9_need 0 = .ok (.aload_n 0, 1) := by decide +kernel
theorem dX9_need_1 : decode cX9_need 1 = .ok (.getfield 15, 3) := by decide +kernel
theorem dX9_need_4 : decode cX9_need 4 = .ok (.iconst 1, 1) := by decide +kernel
theorem dX9_need_5 : decode cX9_need 5 = .ok (.if_icmp .eq 11, 3) := by decide +kernel
theorem dX9_need_8 : decode cX9_need 8 = .ok (.aload_n 0, 1) := by decide +kernel
theorem dX9_need_9 : decode cX9_need 9 = .ok (.getfield 15, 3) := by decide +kernel
theorem dX9_need_12 : decode cX9_need 12 = .ok (.iconst 5, 1) := by decide +kernel
theorem dX9_need_13 : decode cX9_need 13 = .ok (.if_icmp .ne 7, 3) := by decide +kernel
theorem dX9_need_16 : decode cX9_need 16 = .ok (.iconst 1, 1) := by decide +kernel
theorem dX9_need_17 : decode cX9_need 17 = .ok (.goto 4, 3) := by decide +kernel
theorem dX9_need_20 : decode cX9_need 20 = .ok (.iconst 0, 1) := by decide +kernel
theorem dX9_need_21 : decode cX9_need 21 = .ok (.istore 5, 2) := by decide +kernel
theorem dX9_need_23 : decode cX9_need 23 = .ok (.iconst 0, 1) := by decide +kernel
theorem dX9_need_24 : decode cX9_need 24 = .ok (.istore 6, 2) := by decide +kernel
theorem dX9_need_26 : decode cX9_need 26 = .ok (.ldc 25, 2) := by decide +kernel
theorem dX9_need_28 : decode cX9_need 28 = .ok (.istore 7, 2) := by decide +kernel
theorem dX9_need_30 : decode cX9_need 30 = .ok (.iload_n 2, 1) := by decide +kernel
theorem dX9_need_31 : decode cX9_need 31 = .ok (.iconst 2, 1) := by decide +kernel
theorem dX9_need_32 : decode cX9_need 32 = .ok (.if_icmp .ne 20, 3) := by decide +kernel
theorem dX9_need_35 : decode cX9_need 35 = .ok (.iload 5, 2) := by decide +kernel
theorem dX9_need_37 : decode cX9_need 37 = .ok (.ifCond .eq 6, 3) := by decide +kernel
theorem dX9_need_40 : decode cX9_need 40 = .ok (.bipush (-9), 2) := by decide +kernel
theorem dX9_need_42 : decode cX9_need 42 = .ok (.ireturn, 1) := by decide +kernel
theorem dX9_need_43 : decode cX9_need 43 = .ok (.iload_n 3, 1) := by decide +kernel
theorem dX9_need_44 : decode cX9_need 44 = .ok (.istore 6, 2) := by decide +kernel
theorem dX9_need_46 : decode cX9_need 46 = .ok (.iload_n 3, 1) := by decide +kernel
theorem dX9_need_47 : decode cX9_need 47 = .ok (.istore 7, 2) := by decide +kernel
theorem dX9_need_49 : decode cX9_need 49 = .ok (.goto 69, 3) := by decide +kernel
theorem dX9_need_52 : decode cX9_need 52 = .ok (.iload_n 2, 1) := by decide +kernel
theorem dX9_need_53 : decode cX9_need 53 = .ok (.iload_n 1, 1) := by decide +kernel
theorem dX9_need_54 : decode cX9_need 54 = .ok (.if_icmp .ne 7, 3) := by decide +kernel
theorem dX9_need_57 : decode cX9_need 57 = .ok (.iconst 1, 1) := by decide +kernel
theorem dX9_need_58 : decode cX9_need 58 = .ok (.goto 4, 3) := by decide +kernel
theorem dX9_need_61 : decode cX9_need 61 = .ok (.iconst 0, 1) := by decide +kernel
theorem dX9_need_62 : decode cX9_need 62 = .ok (.aload_n 0, 1) := by decide +kernel
theorem dX9_need_63 : decode cX9_need 63 = .ok (.getfield 15, 3) := by decide +kernel
theorem dX9_need_66 : decode cX9_need 66 = .ok (.iconst 2, 1) := by decide +kernel
theorem dX9_need_67 : decode cX9_need 67 = .ok (.if_icmp .eq 7, 3) := by decide +kernel
theorem dX9_need_70 : decode cX9_need 70 = .ok (.iconst 1, 1) := by decide +kernel
theorem dX9_need_71 : decode cX9_need 71 = .ok (.goto 4, 3) := by decide +kernel
theorem dX9_need_74 : decode cX9_need 74 = .ok (.iconst 0, 1) := by decide +kernel
theorem dX9_need_75 : decode cX9_need 75 = .ok (.if_icmp .ne 24, 3) := by decide +kernel
theorem dX9_need_78 : decode cX9_need 78 = .ok (.iload 5, 2) := by decide +kernel
theorem dX9_need_80 : decode cX9_need 80 = .ok (.ifCond .eq 11, 3) := by decide +kernel
theorem dX9_need_83 : decode cX9_need 83 = .ok (.iload_n 1, 1) := by decide +kernel
theorem dX9_need_84 : decode cX9_need 84 = .ok (.ifCond .ne 7, 3) := by decide +kernel
theorem dX9_need_87 : decode cX9_need 87 = .ok (.iload_n 3, 1) := by decide +kernel
theorem dX9_need_88 : decode cX9_need 88 = .ok (.goto 6, 3) := by decide +kernel
theorem dX9_need_91 : decode cX9_need 91 = .ok (.iload_n 3, 1) := by decide +kernel
theorem dX9_need_92 : decode cX9_need 92 = .ok (.iconst 1, 1) := by decide +kernel
theorem dX9_need_93 : decode cX9_need 93 = .ok (.iadd, 1) := by decide +kernel
theorem dX9_need_94 : decode cX9_need 94 = .ok (.istore 6, 2) := by decide +kernel
theorem dX9_need_96 : decode cX9_need 96 = .ok (.goto 22, 3) := by decide +kernel
theorem dX9_need_99 : decode cX9_need 99 = .ok (.iload 5, 2) := by decide +kernel
theorem dX9_need_101 : decode cX9_need 101 = .ok (.ifCond .eq 12, 3) := by decide +kernel
theorem dX9_need_104 : decode cX9_need 104 = .ok (.iload_n 1, 1) := by decide +kernel
theorem dX9_need_105 : decode cX9_need 105 = .ok (.iconst 1, 1) := by decide +kernel
theorem dX9_need_106 : decode cX9_need 106 = .ok (.if_icmp .ne 7, 3) := by decide +kernel
theorem dX9_need_109 : decode cX9_need 109 = .ok (.iload_n 3, 1) := by decide +kernel
theorem dX9_need_110 : decode cX9_need 110 = .ok (.goto 6, 3) := by decide +kernel
theorem dX9_need_113 : decode cX9_need 113 = .ok (.iload_n 3, 1) := by decide +kernel
theorem dX9_need_114 : decode cX9_need 114 = .ok (.iconst 1, 1) := by decide +kernel
theorem dX9_need_115 : decode cX9_need 115 = .ok (.isub, 1) := by decide +kernel
theorem dX9_need_116 : decode cX9_need 116 = .ok (.istore 7, 2) := by decide +kernel
theorem dX9_need_118 : decode cX9_need 118 = .ok (.aload_n 0, 1) := by decide +kernel
theorem dX9_need_119 : decode cX9_need 119 = .ok (.iconst 0, 1) := by decide +kernel
theorem dX9_need_120 : decode cX9_need 120 = .ok (.iload 4, 2) := by decide +kernel
theorem dX9_need_122 : decode cX9_need 122 = .ok (.invokevirtual 26, 3) := by decide +kernel
theorem dX9_need_125 : decode cX9_need 125 = .ok (.istore 8, 2) := by decide +kernel
theorem dX9_need_127 : decode cX9_need 127 = .ok (.iload 8, 2) := by decide +kernel
theorem dX9_need_129 : decode cX9_need 129 = .ok (.iload 6, 2) := by decide +kernel
theorem dX9_need_131 : decode cX9_need 131 = .ok (.if_icmp .lt 17, 3) := by decide +kernel
theorem dX9_need_134 : decode cX9_need 134 = .ok (.iload 8, 2) := by decide +kernel
theorem dX9_need_136 : decode cX9_need 136 = .ok (.iload 7, 2) := by decide +kernel
theorem dX9_need_138 : decode cX9_need 138 = .ok (.if_icmp .gt 7, 3) := by decide +kernel
theorem dX9_need_141 : decode cX9_need 141 = .ok (.iconst 0, 1) := by decide +kernel
theorem dX9_need_142 : decode cX9_need 142 = .ok (.goto 5, 3) := by decide +kernel
theorem dX9_need_145 : decode cX9_need 145 = .ok (.bipush (-9), 2) := by decide +kernel
theorem dX9_need_147 : decode cX9_need 147 = .ok (.ireturn, 1) := by decide +kernel
theorem dX9_need_148 : decode cX9_need 148 = .ok (.aload_n 0, 1) := by decide +kernel
theorem dX9_need_149 : decode cX9_need 149 = .ok (.invokevirtual 21, 3) := by decide +kernel
theorem dX9_need_152 : decode cX9_need 152 = .ok (.iload 6, 2) := by decide +kernel
theorem dX9_need_154 : decode cX9_need 154 = .ok (.iload 4, 2) := by decide +kernel
theorem dX9_need_156 : decode cX9_need 156 = .ok (.isub, 1) := by decide +kernel
theorem dX9_need_157 : decode cX9_need 157 = .ok (.invokestatic 30, 3) := by decide +kernel
theorem dX9_need_160 : decode cX9_need 160 = .ok (.istore 9, 2) := by decide +kernel
theorem dX9_need_162 : decode cX9_need 162 = .ok (.iload 9, 2) := by decide +kernel
theorem dX9_need_164 : decode cX9_need 164 = .ok (.iload 4, 2) := by decide +kernel
theorem dX9_need_166 : decode cX9_need 166 = .ok (.iadd, 1) := by decide +kernel
theorem dX9_need_167 : decode cX9_need 167 = .ok (.iload 7, 2) := by decide +kernel
theorem dX9_need_169 : decode cX9_need 169 = .ok (.if_icmp .gt 8, 3) := by decide +kernel
theorem dX9_need_172 : decode cX9_need 172 = .ok (.iload 9, 2) := by decide +kernel
theorem dX9_need_174 : decode cX9_need 174 = .ok (.goto 5, 3) := by decide +kernel
theorem dX9_need_177 : decode cX9_need 177 = .ok (.bipush (-9), 2) := by decide +kernel
theorem dX9_need_179 : decode cX9_need 179 = .ok (.ireturn, 1) := by decide +kernel
theorem dX9_points_0 : decode cX9_points 0 = .ok (.iload_n 2, 1) := by decide +kernel
theorem dX9_points_1 : decode cX9_points 1 = .ok (.iload_n 1, 1) := by decide +kernel
theorem dX9_points_2 : decode cX9_points 2 = .ok (.if_icmp .ne 12, 3) := by decide +kernel
theorem dX9_points_5 : decode cX9_points 5 = .ok (.iconst 2, 1) := by decide +kernel
theorem dX9_points_6 : decode cX9_points 6 = .ok (.aload_n 0, 1) := by decide +kernel
theorem dX9_points_7 : decode cX9_points 7 = .ok (.getfield 18, 3) := by decide +kernel
theorem dX9_points_10 : decode cX9_points 10 = .ok (.imul, 1) := by decide +kernel
theorem dX9_points_11 : decode cX9_points 11 = .ok (.goto 16, 3) := by decide +kernel
theorem dX9_points_14 : decode cX9_points 14 = .ok (.iload_n 2, 1) := by decide +kernel
theorem dX9_points_15 : decode cX9_points 15 = .ok (.iconst 2, 1) := by decide +kernel
theorem dX9_points_16 : decode cX9_points 16 = .ok (.if_icmp .ne 10, 3) := by decide +kernel
theorem dX9_points_19 : decode cX9_points 19 = .ok (.aload_n 0, 1) := by decide +kernel
theorem dX9_points_20 : decode cX9_points 20 = .ok (.getfield 18, 3) := by decide +kernel
theorem dX9_points_23 : decode cX9_points 23 = .ok (.goto 4, 3) := by decide +kernel
theorem dX9_points_26 : decode cX9_points 26 = .ok (.iconst 0, 1) := by decide +kernel
theorem dX9_points_27 : decode cX9_points 27 = .ok (.ireturn, 1) := by decide +kernel
theorem dX9_winner_0 : decode cX9_winner 0 = .ok (.iload_n 1, 1) := by decide +kernel
theorem dX9_winner_1 : decode cX9_winner 1 = .ok (.iload_n 2, 1) := by decide +kernel
theorem dX9_winner_2 : decode cX9_winner 2 = .ok (.if_icmp .ne 25, 3) := by decide +kernel
theorem dX9_winner_5 : decode cX9_winner 5 = .ok (.aload_n 0, 1) := by decide +kernel
theorem dX9_winner_6 : decode cX9_winner 6 = .ok (.getfield 15, 3) := by decide +kernel
theorem dX9_winner_9 : decode cX9_winner 9 = .ok (.iconst 1, 1) := by decide +kernel
theorem dX9_winner_10 : decode cX9_winner 10 = .ok (.if_icmp .eq 11, 3) := by decide +kernel
theorem dX9_winner_13 : decode cX9_winner 13 = .ok (.aload_n 0, 1) := by decide +kernel
theorem dX9_winner_14 : decode cX9_winner 14 = .ok (.getfield 15, 3) := by decide +kernel
theorem dX9_winner_17 : decode cX9_winner 17 = .ok (.iconst 5, 1) := by decide +kernel
theorem dX9_winner_18 : decode cX9_winner 18 = .ok (.if_icmp .ne 7, 3) := by decide +kernel
theorem dX9_winner_21 : decode cX9_winner 21 = .ok (.iconst 0, 1) := by decide +kernel
theorem dX9_winner_22 : decode cX9_winner 22 = .ok (.goto 4, 3) := by decide +kernel
theorem dX9_winner_25 : decode cX9_winner 25 = .ok (.iconst 2, 1) := by decide +kernel
theorem dX9_winner_26 : decode cX9_winner 26 = .ok (.ireturn, 1) := by decide +kernel
theorem dX9_winner_27 : decode cX9_winner 27 = .ok (.iload_n 1, 1) := by decide +kernel
theorem dX9_winner_28 : decode cX9_winner 28 = .ok (.iload_n 2, 1) := by decide +kernel
theorem dX9_winner_29 : decode cX9_winner 29 = .ok (.if_icmp .le 7, 3) := by decide +kernel
theorem dX9_winner_32 : decode cX9_winner 32 = .ok (.iconst 1, 1) := by decide +kernel
theorem dX9_winner_33 : decode cX9_winner 33 = .ok (.goto 4, 3) := by decide +kernel
theorem dX9_winner_36 : decode cX9_winner 36 = .ok (.iconst 0, 1) := by decide +kernel
theorem dX9_winner_37 : decode cX9_winner 37 = .ok (.aload_n 0, 1) := by decide +kernel
theorem dX9_winner_38 : decode cX9_winner 38 = .ok (.getfield 15, 3) := by decide +kernel
theorem dX9_winner_41 : decode cX9_winner 41 = .ok (.iconst 2, 1) := by decide +kernel
theorem dX9_winner_42 : decode cX9_winner 42 = .ok (.if_icmp .eq 7, 3) := by decide +kernel
theorem dX9_winner_45 : decode cX9_winner 45 = .ok (.iconst 1, 1) := by decide +kernel
theorem dX9_winner_46 : decode cX9_winner 46 = .ok (.goto 4, 3) := by decide +kernel
theorem dX9_winner_49 : decode cX9_winner 49 = .ok (.iconst 0, 1) := by decide +kernel
theorem dX9_winner_50 : decode cX9_winner 50 = .ok (.if_icmp .ne 7, 3) := by decide +kernel
theorem dX9_winner_53 : decode cX9_winner 53 = .ok (.iconst 0, 1) := by decide +kernel
theorem dX9_winner_54 : decode cX9_winner 54 = .ok (.goto 4, 3) := by decide +kernel
theorem dX9_winner_57 : decode cX9_winner 57 = .ok (.iconst 1, 1) := by decide +kernel
theorem dX9_winner_58 : decode cX9_winner 58 = .ok (.ireturn, 1) := by decide +kernel
theorem q_42 : Cond.fieldLink RX9 15 "HeavyFiles$Suit" "kind" "I" ∈ wT := wi_t 42 (by decide +kernel) (by decide +kernel)
theorem q_44 : Cond.fieldLink RX9 18 "HeavyFiles$Suit" "worth" "I" ∈ wT := wi_t 44 (by decide +kernel) (by decide +kernel)
theorem q_47 : Cond.fieldLink RX9 9 "HeavyFiles$Suit" "figure" "I" ∈ wT := wi_t 47 (by decide +kernel) (by decide +kernel)
theorem q_442 : Cond.methodLink RX9 21 yX9_least ∈ wT := wi_t 442 (by decide +kernel) (by decide +kernel)
theorem q_445 : Cond.code yX9_least cX9_least 1 (some .int) ∈ wT := wi_t 445 (by decide +kernel) (by decide +kernel)
theorem q_444 : Cond.instanceMethod yX9_least ∈ wT := wi_t 444 (by decide +kernel) (by decide +kernel)
theorem q_3 : Cond.initialized RX9 ∈ wT := wi_t 3 (by decide +kernel) (by decide +kernel)
theorem qs_5 : Cond.selects RX9 yX9_least yX9_least ∈ wT := wi_s (q := (yX9_least, 3)) 5 (by decide +kernel) (by decide +kernel)
theorem q_510 : Cond.methodLink RX9 26 yX9_weight ∈ wT := wi_t 510 (by decide +kernel) (by decide +kernel)
theorem q_441 : Cond.code yX9_weight cX9_weight 3 (some .int) ∈ wT := wi_t 441 (by decide +kernel) (by decide +kernel)
theorem q_439 : Cond.instanceMethod yX9_weight ∈ wT := wi_t 439 (by decide +kernel) (by decide +kernel)
theorem q_440 : Cond.selects RX9 yX9_weight yX9_weight ∈ wT := wi_t 440 (by decide +kernel) (by decide +kernel)
theorem q_511 : Cond.methodLink RX9 30 Lib.Math.max.name ∈ wT := wi_t 511 (by decide +kernel) (by decide +kernel)
theorem q_424 : Cond.static Lib.Math.max.name ∈ wT := wi_t 424 (by decide +kernel) (by decide +kernel)
theorem q_15 : Cond.initialized "java/lang/Math" ∈ wT := wi_t 15 (by decide +kernel) (by decide +kernel)
theorem q_425 : Cond.code Lib.Math.max.name Lib.Math.max.code 2 (some .int) ∈ wT := wi_t 425 (by decide +kernel) (by decide +kernel)
theorem q_509 : Cond.constant RX9 25 1000000 ∈ wT := wi_t 509 (by decide +kernel) (by decide +kernel)
theorem kvX9_least : KV yX9_least RX9 cX9_least 1 (some .int) 0 := ⟨q_444, qs_5, q_3, q_445, rfl, by decide +kernel, by decide +kernel, by decide +kernel⟩
theorem kvX9_weight : KV yX9_weight RX9 cX9_weight 3 (some .int) 2 := ⟨q_439, q_440, q_3, q_441, rfl, by decide +kernel, by decide +kernel, by decide +kernel⟩
/-! HeavyFiles$Suit.become(III)V -/
def fX9_become (N : Nat)  (a0 : Nat) (a1 : Int32) (a2 : Int32) (a3 : Int32) (mm : Mm) : Option (Unit × Mm) :=
  nm (wr mm a0 0 a1) fun m1 => nm (wr m1 a0 1 a2) fun m2 => nm (wr m2 a0 2 a3) fun m3 => some ((), m3)
abbrev rmX9_become : Room := { frames := 1, cells := 0, slots := 0, locals := 40 }
/-! HeavyFiles$Suit.isA(I)Z -/
def fX9_isA_25 (N : Nat)  (a0 : Nat) (a1 : Int32) (mm : Mm) : Option (Int32 × Mm) :=
  if a1 = 3 then (if (rd mm a0 0) = 4 then (some (1, mm)) else (some (0, mm))) else (some (0, mm))
def fX9_isA (N : Nat)  (a0 : Nat) (a1 : Int32) (mm : Mm) : Option (Int32 × Mm) :=
  if a1 = 0 then (some (1, mm)) else (if a1 = (rd mm a0 0) then (some (1, mm)) else (if a1 = 1 then (if (rd mm a0 0) = 5 then (some (1, mm)) else (fX9_isA_25 N a0 a1 mm)) else (fX9_isA_25 N a0 a1 mm)))
abbrev rmX9_isA : Room := { frames := 1, cells := 0, slots := 0, locals := 40 }
/-! HeavyFiles$Suit.aheadIn([I)I -/
def fX9_aheadIn (N : Nat)  (a0 : Nat) (a1 : Nat) (mm : Mm) : Option (Int32 × Mm) :=
  if (rd mm a0 0) = 5 then (if (rd mm a0 2) < 0 then (some (2, mm)) else (if (Int32.ofNat (ln a1)) ≤ (rd mm a0 2) then (some (2, mm)) else (gd (inb (rd mm a0 2) (ln a1)) <| some (rd mm a1 ((rd mm a0 2).toNatClampNeg), mm)))) else (some (2, mm))
abbrev rmX9_aheadIn : Room := { frames := 1, cells := 0, slots := 0, locals := 40 }
/-! HeavyFiles$Suit.extra(IZ)I -/
def fX9_extra (N : Nat)  (a0 : Nat) (a1 : Int32) (a2 : Int32) (mm : Mm) : Option (Int32 × Mm) :=
  if (rd mm a0 0) = 3 then (some ((rd mm a0 2) * a1, mm)) else (if (rd mm a0 0) = 4 then (some ((rd mm a0 2) * a1, mm)) else (if a2 = 0 then (some (0, mm)) else (some (2, mm))))
abbrev rmX9_extra : Room := { frames := 1, cells := 0, slots := 0, locals := 40 }
/-! HeavyFiles$Suit.least()I -/
def fX9_least (N : Nat)  (a0 : Nat) (mm : Mm) : Option (Int32 × Mm) :=
  if (rd mm a0 0) = 4 then (some (rd mm a0 2, mm)) else (if (rd mm a0 0) = 3 then (some (1, mm)) else (some (0, mm)))
abbrev rmX9_least : Room := { frames := 1, cells := 0, slots := 0, locals := 40 }
/-! HeavyFiles$Suit.weight(II)I -/
def fX9_weight (N : Nat)  (a0 : Nat) (a1 : Int32) (a2 : Int32) (mm : Mm) : Option (Int32 × Mm) :=
  bd2 (fX9_least N a0 mm) fun x1 m2 => if x1 ≤ a1 then (some (a1 + a2, m2)) else (some (0, m2))
abbrev rmX9_weight : Room := { frames := 2, cells := 0, slots := 0, locals := 68 }
/-! HeavyFiles$Suit.need(IIII)I -/
def fX9_need_118 (N : Nat)  (a0 : Nat) (a4 : Int32) (a6 : Int32) (a7 : Int32) (mm : Mm) : Option (Int32 × Mm) :=
  bd2 (fX9_weight N a0 0 a4 mm) fun x1 m2 => if x1 < a6 then (bd2 (fX9_least N a0 m2) fun x5 m6 => nm (if x5 < (a6 - a4) then (a6 - a4) else x5) fun x8 => if a7 < (x8 + a4) then (some ((-9), m6)) else (some (x8, m6))) else (if a7 < x1 then (some ((-9), m2)) else (some (0, m2)))
def fX9_need_116 (N : Nat)  (a0 : Nat) (a4 : Int32) (a6 : Int32) (s0 : Int32) (mm : Mm) : Option (Int32 × Mm) :=
  fX9_need_118 N a0 a4 a6 s0 mm
def fX9_need_113 (N : Nat)  (a0 : Nat) (a3 : Int32) (a4 : Int32) (a6 : Int32) (mm : Mm) : Option (Int32 × Mm) :=
  fX9_need_116 N a0 a4 a6 (a3 - 1) mm
def fX9_need_94 (N : Nat)  (a0 : Nat) (a4 : Int32) (a7 : Int32) (s0 : Int32) (mm : Mm) : Option (Int32 × Mm) :=
  fX9_need_118 N a0 a4 s0 a7 mm
def fX9_need_91 (N : Nat)  (a0 : Nat) (a3 : Int32) (a4 : Int32) (a7 : Int32) (mm : Mm) : Option (Int32 × Mm) :=
  fX9_need_94 N a0 a4 a7 (a3 + 1) mm
def fX9_need_75 (N : Nat)  (a0 : Nat) (a1 : Int32) (a3 : Int32) (a4 : Int32) (a5 : Int32) (a6 : Int32) (a7 : Int32) (s0 : Int32) (s1 : Int32) (mm : Mm) : Option (Int32 × Mm) :=
  if s0 = s1 then (if a5 = 0 then (fX9_need_91 N a0 a3 a4 a7 mm) else (if a1 = 0 then (fX9_need_94 N a0 a4 a7 a3 mm) else (fX9_need_91 N a0 a3 a4 a7 mm))) else (if a5 = 0 then (fX9_need_113 N a0 a3 a4 a6 mm) else (if a1 = 1 then (fX9_need_116 N a0 a4 a6 a3 mm) else (fX9_need_113 N a0 a3 a4 a6 mm)))
def fX9_need_62 (N : Nat)  (a0 : Nat) (a1 : Int32) (a3 : Int32) (a4 : Int32) (a5 : Int32) (a6 : Int32) (a7 : Int32) (s0 : Int32) (mm : Mm) : Option (Int32 × Mm) :=
  if (rd mm a0 0) = 2 then (fX9_need_75 N a0 a1 a3 a4 a5 a6 a7 s0 0 mm) else (fX9_need_75 N a0 a1 a3 a4 a5 a6 a7 s0 1 mm)
def fX9_need_21 (N : Nat)  (a0 : Nat) (a1 : Int32) (a2 : Int32) (a3 : Int32) (a4 : Int32) (s0 : Int32) (mm : Mm) : Option (Int32 × Mm) :=
  if a2 = 2 then (if s0 = 0 then (fX9_need_118 N a0 a4 a3 a3 mm) else (some ((-9), mm))) else (if a2 = a1 then (fX9_need_62 N a0 a1 a3 a4 s0 0 1000000 1 mm) else (fX9_need_62 N a0 a1 a3 a4 s0 0 1000000 0 mm))
def fX9_need_16 (N : Nat)  (a0 : Nat) (a1 : Int32) (a2 : Int32) (a3 : Int32) (a4 : Int32) (mm : Mm) : Option (Int32 × Mm) :=
  fX9_need_21 N a0 a1 a2 a3 a4 1 mm
def fX9_need (N : Nat)  (a0 : Nat) (a1 : Int32) (a2 : Int32) (a3 : Int32) (a4 : Int32) (mm : Mm) : Option (Int32 × Mm) :=
  if (rd mm a0 0) = 1 then (fX9_need_16 N a0 a1 a2 a3 a4 mm) else (if (rd mm a0 0) = 5 then (fX9_need_16 N a0 a1 a2 a3 a4 mm) else (fX9_need_21 N a0 a1 a2 a3 a4 0 mm))
abbrev rmX9_need : Room := { frames := 3, cells := 0, slots := 0, locals := 98 }
/-! HeavyFiles$Suit.points(II)I -/
def fX9_points (N : Nat)  (a0 : Nat) (a1 : Int32) (a2 : Int32) (mm : Mm) : Option (Int32 × Mm) :=
  if a2 = a1 then (some (2 * (rd mm a0 1), mm)) else (if a2 = 2 then (some (rd mm a0 1, mm)) else (some (0, mm)))
abbrev rmX9_points : Room := { frames := 1, cells := 0, slots := 0, locals := 40 }
/-! HeavyFiles$Suit.winner(II)I -/
def fX9_winner_50 (N : Nat)  (s0 : Int32) (s1 : Int32) (mm : Mm) : Option (Int32 × Mm) :=
  if s0 = s1 then (some (0, mm)) else (some (1, mm))
def fX9_winner_37 (N : Nat)  (a0 : Nat) (s0 : Int32) (mm : Mm) : Option (Int32 × Mm) :=
  if (rd mm a0 0) = 2 then (fX9_winner_50 N s0 0 mm) else (fX9_winner_50 N s0 1 mm)
def fX9_winner (N : Nat)  (a0 : Nat) (a1 : Int32) (a2 : Int32) (mm : Mm) : Option (Int32 × Mm) :=
  if a1 = a2 then (if (rd mm a0 0) = 1 then (some (0, mm)) else (if (rd mm a0 0) = 5 then (some (0, mm)) else (some (2, mm)))) else (if a1 ≤ a2 then (fX9_winner_37 N a0 0 mm) else (fX9_winner_37 N a0 1 mm))
abbrev rmX9_winner : Room := { frames := 1, cells := 0, slots := 0, locals := 40 }
section W_suit06
variable {p : Program} {l : Launch} {e : Env} {s : State} {m : MethodId} {args : Array Value} {below : List Frame} {meth : Method} {c : Code} {D : va_G} {ca ad : Nat → Nat}
set_option maxRecDepth 100000 in
set_option maxHeartbeats 4000000 in
theorem wX9_become_0 (C : Cx p s m meth c args cX9_become 4 none RX9 D ca ad) {res : Unit × Mm} {N : Nat}  {a0 : Nat} {a1 : Int32} {a2 : Int32} {a3 : Int32} {mm : Mm} {H : Heap} {locs : List Loc} {ls : Array Slot} (ha0 : sX9 a0) (hW : Wd D ca ad s.heap mm H locs) (hl : lv_has ls 4 [(0, .ref (ad a0)), (1, .int a1), (2, .int a2), (3, .int a3)]) (hf : fX9_become N a0 a1 a2 a3 mm = some res) : W p l e (rmX9_become) s m args below meth c H locs 0 0 (MQ below (QV D ca ad res) args s 0 0 (AA ad)) (F0 m 0 ls []) := by
  unfold fX9_become at hf
  refine lv_aload_n C.1 C.2.1 dX9_become_0 rfl (lv_at hl 0 rfl) ?_
  refine lv_iload_n C.1 C.2.1 dX9_become_1 rfl (lv_at hl 1 rfl) ?_
  refine x_put C hW (ha0).1 (ha0).2.1 (j := 0) (t1 := .int) rfl kX9 (by decide) rfl rfl q_42 (by decide +kernel) rfl rfl dX9_become_2 (fun H locs hW => ?_)
  obtain ⟨m1, em1⟩ : ∃ z, z = wr mm a0 0 a1 := ⟨_, rfl⟩
  have hf := nm_s hf em1
  rw [← em1] at hW
  refine lv_aload_n C.1 C.2.1 dX9_become_5 rfl (lv_at hl 0 rfl) ?_
  refine lv_iload_n C.1 C.2.1 dX9_become_6 rfl (lv_at hl 2 rfl) ?_
  refine x_put C hW (ha0).1 (ha0).2.1 (j := 1) (t1 := .int) rfl kX9 (by decide) rfl rfl q_44 (by decide +kernel) rfl rfl dX9_become_7 (fun H locs hW => ?_)
  obtain ⟨m2, em2⟩ : ∃ z, z = wr m1 a0 1 a2 := ⟨_, rfl⟩
  have hf := nm_s hf em2
  rw [← em2] at hW
  refine lv_aload_n C.1 C.2.1 dX9_become_10 rfl (lv_at hl 0 rfl) ?_
  refine lv_iload_n C.1 C.2.1 dX9_become_11 rfl (lv_at hl 3 rfl) ?_
  refine x_put C hW (ha0).1 (ha0).2.1 (j := 2) (t1 := .int) rfl kX9 (by decide) rfl rfl q_47 (by decide +kernel) rfl rfl dX9_become_12 (fun H locs hW => ?_)
  obtain ⟨m3, em3⟩ : ∃ z, z = wr m2 a0 2 a3 := ⟨_, rfl⟩
  have hf := nm_s hf em3
  rw [← em3] at hW
  cases hf
  exact x_vret C hW dX9_become_15
set_option maxRecDepth 100000 in
set_option maxHeartbeats 4000000 in
theorem tX9_become (l : Launch) {D : va_G} {ca ad : Nat → Nat} (hi : Inj ad) {N : Nat} {a0 : Nat} {a1 : Int32} {a2 : Int32} {a3 : Int32} {mm : Mm} {res : Unit × Mm} (ha0 : sX9 a0) (hf : fX9_become N a0 a1 a2 a3 mm = some res) : Met l yX9_become (WS yX9_become cX9_become 4 none) (rmX9_become) (va_Pc [.ref (ad a0), .int a1, .int a2, .int a3] (WB D ca ad mm)) (QV D ca ad res) 0 0 (AA ad) := by
  refine x_start hi (by decide) rfl (Nat.le_of_ble_eq_true rfl) (fun p e s m args below meth c ls C hW hl => ?_)
  exact wX9_become_0 C ha0 hW (lv_sub hl [0, 1, 2, 3] rfl) hf
set_option maxRecDepth 100000 in
set_option maxHeartbeats 4000000 in
theorem wX9_isA_25 (C : Cx p s m meth c args cX9_isA 2 (some .boolean) RX9 D ca ad) {res : Int32 × Mm} {N : Nat}  {a0 : Nat} {a1 : Int32} {mm : Mm} {H : Heap} {locs : List Loc} {ls : Array Slot} (ha0 : sX9 a0) (hW : Wd D ca ad s.heap mm H locs) (hl : lv_has ls 2 [(0, .ref (ad a0)), (1, .int a1)]) (hf : fX9_isA_25 N a0 a1 mm = some res) : W p l e (rmX9_isA) s m args below meth c H locs 0 0 (MQ below (QI D ca ad res) args s 0 0 (AA ad)) (F0 m 25 ls []) := by
  unfold fX9_isA_25 at hf
  refine lv_iload_n C.1 C.2.1 dX9_isA_25 rfl (lv_at hl 1 rfl) ?_
  refine lv_iconst (v := 3) C.1 C.2.1 dX9_isA_26 (by decide) ?_
  refine lv_icmp_ne (tgt := 42) C.1 C.2.1 dX9_isA_27 (by decide) (fun c1 => ?_) (fun c1 => ?_)
  · have hf := if_f c1 hf
    refine lv_iconst (v := 0) C.1 C.2.1 dX9_isA_42 (by decide) ?_
    cases hf
    exact x_zret C hW (by decide) dX9_isA_43
  · have hf := if_t c1 hf
    refine lv_aload_n C.1 C.2.1 dX9_isA_30 rfl (lv_at hl 0 rfl) ?_
    refine x_geti C hW (ha0).1 (ha0).2.1 (j := 0) rfl kX9 (by decide) rfl q_42 dX9_isA_31 ?_
    refine lv_iconst (v := 4) C.1 C.2.1 dX9_isA_34 (by decide) ?_
    refine lv_icmp_ne (tgt := 42) C.1 C.2.1 dX9_isA_35 (by decide) (fun c2 => ?_) (fun c2 => ?_)
    · have hf := if_f c2 hf
      refine lv_iconst (v := 0) C.1 C.2.1 dX9_isA_42 (by decide) ?_
      cases hf
      exact x_zret C hW (by decide) dX9_isA_43
    · have hf := if_t c2 hf
      refine lv_iconst (v := 1) C.1 C.2.1 dX9_isA_38 (by decide) ?_
      refine lv_goto (tgt := 43) C.1 C.2.1 dX9_isA_39 (by decide) ?_
      cases hf
      exact x_zret C hW (by decide) dX9_isA_43
set_option maxRecDepth 100000 in
set_option maxHeartbeats 4000000 in
theorem wX9_isA_0 (C : Cx p s m meth c args cX9_isA 2 (some .boolean) RX9 D ca ad) {res : Int32 × Mm} {N : Nat}  {a0 : Nat} {a1 : Int32} {mm : Mm} {H : Heap} {locs : List Loc} {ls : Array Slot} (ha0 : sX9 a0) (hW : Wd D ca ad s.heap mm H locs) (hl : lv_has ls 2 [(0, .ref (ad a0)), (1, .int a1)]) (hf : fX9_isA N a0 a1 mm = some res) : W p l e (rmX9_isA) s m args below meth c H locs 0 0 (MQ below (QI D ca ad res) args s 0 0 (AA ad)) (F0 m 0 ls []) := by
  unfold fX9_isA at hf
  refine lv_iload_n C.1 C.2.1 dX9_isA_0 rfl (lv_at hl 1 rfl) ?_
  refine lv_if_eq (tgt := 38) C.1 C.2.1 dX9_isA_1 (by decide) (fun c3 => ?_) (fun c3 => ?_)
  · have hf := if_t c3 hf
    refine lv_iconst (v := 1) C.1 C.2.1 dX9_isA_38 (by decide) ?_
    refine lv_goto (tgt := 43) C.1 C.2.1 dX9_isA_39 (by decide) ?_
    cases hf
    exact x_zret C hW (by decide) dX9_isA_43
  · have hf := if_f c3 hf
    refine lv_iload_n C.1 C.2.1 dX9_isA_4 rfl (lv_at hl 1 rfl) ?_
    refine lv_aload_n C.1 C.2.1 dX9_isA_5 rfl (lv_at hl 0 rfl) ?_
    refine x_geti C hW (ha0).1 (ha0).2.1 (j := 0) rfl kX9 (by decide) rfl q_42 dX9_isA_6 ?_
    refine lv_icmp_eq (tgt := 38) C.1 C.2.1 dX9_isA_9 (by decide) (fun c4 => ?_) (fun c4 => ?_)
    · have hf := if_t c4 hf
      refine lv_iconst (v := 1) C.1 C.2.1 dX9_isA_38 (by decide) ?_
      refine lv_goto (tgt := 43) C.1 C.2.1 dX9_isA_39 (by decide) ?_
      cases hf
      exact x_zret C hW (by decide) dX9_isA_43
    · have hf := if_f c4 hf
      refine lv_iload_n C.1 C.2.1 dX9_isA_12 rfl (lv_at hl 1 rfl) ?_
      refine lv_iconst (v := 1) C.1 C.2.1 dX9_isA_13 (by decide) ?_
      refine lv_icmp_ne (tgt := 25) C.1 C.2.1 dX9_isA_14 (by decide) (fun c5 => ?_) (fun c5 => ?_)
      · have hf := if_f c5 hf
        exact wX9_isA_25 C  ha0 hW (lv_sub hl [0, 1] rfl) hf
      · have hf := if_t c5 hf
        refine lv_aload_n C.1 C.2.1 dX9_isA_17 rfl (lv_at hl 0 rfl) ?_
        refine x_geti C hW (ha0).1 (ha0).2.1 (j := 0) rfl kX9 (by decide) rfl q_42 dX9_isA_18 ?_
        refine lv_iconst (v := 5) C.1 C.2.1 dX9_isA_21 (by decide) ?_
        refine lv_icmp_eq (tgt := 38) C.1 C.2.1 dX9_isA_22 (by decide) (fun c6 => ?_) (fun c6 => ?_)
        · have hf := if_t c6 hf
          refine lv_iconst (v := 1) C.1 C.2.1 dX9_isA_38 (by decide) ?_
          refine lv_goto (tgt := 43) C.1 C.2.1 dX9_isA_39 (by decide) ?_
          cases hf
          exact x_zret C hW (by decide) dX9_isA_43
        · have hf := if_f c6 hf
          exact wX9_isA_25 C  ha0 hW (lv_sub hl [0, 1] rfl) hf
set_option maxRecDepth 100000 in
set_option maxHeartbeats 4000000 in
theorem tX9_isA (l : Launch) {D : va_G} {ca ad : Nat → Nat} (hi : Inj ad) {N : Nat} {a0 : Nat} {a1 : Int32} {mm : Mm} {res : Int32 × Mm} (ha0 : sX9 a0) (hf : fX9_isA N a0 a1 mm = some res) : Met l yX9_isA (WS yX9_isA cX9_isA 2 (some .boolean)) (rmX9_isA) (va_Pc [.ref (ad a0), .int a1] (WB D ca ad mm)) (QI D ca ad res) 0 0 (AA ad) := by
  refine x_start hi (by decide) rfl (Nat.le_of_ble_eq_true rfl) (fun p e s m args below meth c ls C hW hl => ?_)
  exact wX9_isA_0 C ha0 hW (lv_sub hl [0, 1] rfl) hf
set_option maxRecDepth 100000 in
set_option maxHeartbeats 4000000 in
theorem wX9_aheadIn_0 (C : Cx p s m meth c args cX9_aheadIn 2 (some .int) RX9 D ca ad) {res : Int32 × Mm} {N : Nat}  {a0 : Nat} {a1 : Nat} {mm : Mm} {H : Heap} {locs : List Loc} {ls : Array Slot} (ha0 : sX9 a0) (ha1 : sI a1) (hW : Wd D ca ad s.heap mm H locs) (hl : lv_has ls 2 [(0, .ref (ad a0)), (1, .ref (ad a1))]) (hf : fX9_aheadIn N a0 a1 mm = some res) : W p l e (rmX9_aheadIn) s m args below meth c H locs 0 0 (MQ below (QI D ca ad res) args s 0 0 (AA ad)) (F0 m 0 ls []) := by
  unfold fX9_aheadIn at hf
  refine lv_aload_n C.1 C.2.1 dX9_aheadIn_0 rfl (lv_at hl 0 rfl) ?_
  refine x_geti C hW (ha0).1 (ha0).2.1 (j := 0) rfl kX9 (by decide) rfl q_42 dX9_aheadIn_1 ?_
  refine lv_iconst (v := 5) C.1 C.2.1 dX9_aheadIn_4 (by decide) ?_
  refine lv_icmp_ne (tgt := 33) C.1 C.2.1 dX9_aheadIn_5 (by decide) (fun c1 => ?_) (fun c1 => ?_)
  · have hf := if_f c1 hf
    refine lv_iconst (v := 2) C.1 C.2.1 dX9_aheadIn_33 (by decide) ?_
    cases hf
    exact x_iret C hW dX9_aheadIn_34
  · have hf := if_t c1 hf
    refine lv_aload_n C.1 C.2.1 dX9_aheadIn_8 rfl (lv_at hl 0 rfl) ?_
    refine x_geti C hW (ha0).1 (ha0).2.1 (j := 2) rfl kX9 (by decide) rfl q_47 dX9_aheadIn_9 ?_
    refine lv_if_lt (tgt := 33) C.1 C.2.1 dX9_aheadIn_12 (by decide) (fun c2 => ?_) (fun c2 => ?_)
    · have hf := if_t c2 hf
      refine lv_iconst (v := 2) C.1 C.2.1 dX9_aheadIn_33 (by decide) ?_
      cases hf
      exact x_iret C hW dX9_aheadIn_34
    · have hf := if_f c2 hf
      refine lv_aload_n C.1 C.2.1 dX9_aheadIn_15 rfl (lv_at hl 0 rfl) ?_
      refine x_geti C hW (ha0).1 (ha0).2.1 (j := 2) rfl kX9 (by decide) rfl q_47 dX9_aheadIn_16 ?_
      refine lv_aload_n C.1 C.2.1 dX9_aheadIn_19 rfl (lv_at hl 1 rfl) ?_
      refine x_alen C hW ha1 dX9_aheadIn_20 ?_
      refine lv_icmp_ge (tgt := 33) C.1 C.2.1 dX9_aheadIn_21 (by decide) (fun c3 => ?_) (fun c3 => ?_)
      · have hf := if_t c3 hf
        refine lv_iconst (v := 2) C.1 C.2.1 dX9_aheadIn_33 (by decide) ?_
        cases hf
        exact x_iret C hW dX9_aheadIn_34
      · have hf := if_f c3 hf
        refine lv_aload_n C.1 C.2.1 dX9_aheadIn_24 rfl (lv_at hl 1 rfl) ?_
        refine lv_aload_n C.1 C.2.1 dX9_aheadIn_25 rfl (lv_at hl 0 rfl) ?_
        refine x_geti C hW (ha0).1 (ha0).2.1 (j := 2) rfl kX9 (by decide) rfl q_47 dX9_aheadIn_26 ?_
        obtain ⟨g4, hf⟩ := gd_s hf
        refine x_iald C hW ha1 g4 dX9_aheadIn_29 ?_
        refine lv_goto (tgt := 34) C.1 C.2.1 dX9_aheadIn_30 (by decide) ?_
        cases hf
        exact x_iret C hW dX9_aheadIn_34
set_option maxRecDepth 100000 in
set_option maxHeartbeats 4000000 in
theorem tX9_aheadIn (l : Launch) {D : va_G} {ca ad : Nat → Nat} (hi : Inj ad) {N : Nat} {a0 : Nat} {a1 : Nat} {mm : Mm} {res : Int32 × Mm} (ha0 : sX9 a0) (ha1 : sI a1) (hf : fX9_aheadIn N a0 a1 mm = some res) : Met l yX9_aheadIn (WS yX9_aheadIn cX9_aheadIn 2 (some .int)) (rmX9_aheadIn) (va_Pc [.ref (ad a0), .ref (ad a1)] (WB D ca ad mm)) (QI D ca ad res) 0 0 (AA ad) := by
  refine x_start hi (by decide) rfl (Nat.le_of_ble_eq_true rfl) (fun p e s m args below meth c ls C hW hl => ?_)
  exact wX9_aheadIn_0 C ha0 ha1 hW (lv_sub hl [0, 1] rfl) hf
set_option maxRecDepth 100000 in
set_option maxHeartbeats 4000000 in
theorem wX9_extra_0 (C : Cx p s m meth c args cX9_extra 3 (some .int) RX9 D ca ad) {res : Int32 × Mm} {N : Nat}  {a0 : Nat} {a1 : Int32} {a2 : Int32} {mm : Mm} {H : Heap} {locs : List Loc} {ls : Array Slot} (ha0 : sX9 a0) (hW : Wd D ca ad s.heap mm H locs) (hl : lv_has ls 3 [(0, .ref (ad a0)), (1, .int a1), (2, .int a2)]) (hf : fX9_extra N a0 a1 a2 mm = some res) : W p l e (rmX9_extra) s m args below meth c H locs 0 0 (MQ below (QI D ca ad res) args s 0 0 (AA ad)) (F0 m 0 ls []) := by
  unfold fX9_extra at hf
  refine lv_aload_n C.1 C.2.1 dX9_extra_0 rfl (lv_at hl 0 rfl) ?_
  refine x_geti C hW (ha0).1 (ha0).2.1 (j := 0) rfl kX9 (by decide) rfl q_42 dX9_extra_1 ?_
  refine lv_iconst (v := 3) C.1 C.2.1 dX9_extra_4 (by decide) ?_
  refine lv_icmp_eq (tgt := 16) C.1 C.2.1 dX9_extra_5 (by decide) (fun c1 => ?_) (fun c1 => ?_)
  · have hf := if_t c1 hf
    refine lv_aload_n C.1 C.2.1 dX9_extra_16 rfl (lv_at hl 0 rfl) ?_
    refine x_geti C hW (ha0).1 (ha0).2.1 (j := 2) rfl kX9 (by decide) rfl q_47 dX9_extra_17 ?_
    refine lv_iload_n C.1 C.2.1 dX9_extra_20 rfl (lv_at hl 1 rfl) ?_
    refine lv_imul C.1 C.2.1 dX9_extra_21 ?_
    cases hf
    exact x_iret C hW dX9_extra_22
  · have hf := if_f c1 hf
    refine lv_aload_n C.1 C.2.1 dX9_extra_8 rfl (lv_at hl 0 rfl) ?_
    refine x_geti C hW (ha0).1 (ha0).2.1 (j := 0) rfl kX9 (by decide) rfl q_42 dX9_extra_9 ?_
    refine lv_iconst (v := 4) C.1 C.2.1 dX9_extra_12 (by decide) ?_
    refine lv_icmp_ne (tgt := 23) C.1 C.2.1 dX9_extra_13 (by decide) (fun c2 => ?_) (fun c2 => ?_)
    · have hf := if_f c2 hf
      refine lv_iload_n C.1 C.2.1 dX9_extra_23 rfl (lv_at hl 2 rfl) ?_
      refine lv_if_eq (tgt := 31) C.1 C.2.1 dX9_extra_24 (by decide) (fun c3 => ?_) (fun c3 => ?_)
      · have hf := if_t c3 hf
        refine lv_iconst (v := 0) C.1 C.2.1 dX9_extra_31 (by decide) ?_
        cases hf
        exact x_iret C hW dX9_extra_32
      · have hf := if_f c3 hf
        refine lv_iconst (v := 2) C.1 C.2.1 dX9_extra_27 (by decide) ?_
        refine lv_goto (tgt := 32) C.1 C.2.1 dX9_extra_28 (by decide) ?_
        cases hf
        exact x_iret C hW dX9_extra_32
    · have hf := if_t c2 hf
      refine lv_aload_n C.1 C.2.1 dX9_extra_16 rfl (lv_at hl 0 rfl) ?_
      refine x_geti C hW (ha0).1 (ha0).2.1 (j := 2) rfl kX9 (by decide) rfl q_47 dX9_extra_17 ?_
      refine lv_iload_n C.1 C.2.1 dX9_extra_20 rfl (lv_at hl 1 rfl) ?_
      refine lv_imul C.1 C.2.1 dX9_extra_21 ?_
      cases hf
      exact x_iret C hW dX9_extra_22
set_option maxRecDepth 100000 in
set_option maxHeartbeats 4000000 in
theorem tX9_extra (l : Launch) {D : va_G} {ca ad : Nat → Nat} (hi : Inj ad) {N : Nat} {a0 : Nat} {a1 : Int32} {a2 : Int32} {mm : Mm} {res : Int32 × Mm} (ha0 : sX9 a0) (hf : fX9_extra N a0 a1 a2 mm = some res) : Met l yX9_extra (WS yX9_extra cX9_extra 3 (some .int)) (rmX9_extra) (va_Pc [.ref (ad a0), .int a1, .int a2] (WB D ca ad mm)) (QI D ca ad res) 0 0 (AA ad) := by
  refine x_start hi (by decide) rfl (Nat.le_of_ble_eq_true rfl) (fun p e s m args below meth c ls C hW hl => ?_)
  exact wX9_extra_0 C ha0 hW (lv_sub hl [0, 1, 2] rfl) hf
set_option maxRecDepth 100000 in
set_option maxHeartbeats 4000000 in
theorem wX9_least_0 (C : Cx p s m meth c args cX9_least 1 (some .int) RX9 D ca ad) {res : Int32 × Mm} {N : Nat}  {a0 : Nat} {mm : Mm} {H : Heap} {locs : List Loc} {ls : Array Slot} (ha0 : sX9 a0) (hW : Wd D ca ad s.heap mm H locs) (hl : lv_has ls 1 [(0, .ref (ad a0))]) (hf : fX9_least N a0 mm = some res) : W p l e (rmX9_least) s m args below meth c H locs 0 0 (MQ below (QI D ca ad res) args s 0 0 (AA ad)) (F0 m 0 ls []) := by
  unfold fX9_least at hf
  refine lv_aload_n C.1 C.2.1 dX9_least_0 rfl (lv_at hl 0 rfl) ?_
  refine x_geti C hW (ha0).1 (ha0).2.1 (j := 0) rfl kX9 (by decide) rfl q_42 dX9_least_1 ?_
  refine lv_iconst (v := 4) C.1 C.2.1 dX9_least_4 (by decide) ?_
  refine lv_icmp_ne (tgt := 15) C.1 C.2.1 dX9_least_5 (by decide) (fun c1 => ?_) (fun c1 => ?_)
  · have hf := if_f c1 hf
    refine lv_aload_n C.1 C.2.1 dX9_least_15 rfl (lv_at hl 0 rfl) ?_
    refine x_geti C hW (ha0).1 (ha0).2.1 (j := 0) rfl kX9 (by decide) rfl q_42 dX9_least_16 ?_
    refine lv_iconst (v := 3) C.1 C.2.1 dX9_least_19 (by decide) ?_
    refine lv_icmp_ne (tgt := 27) C.1 C.2.1 dX9_least_20 (by decide) (fun c2 => ?_) (fun c2 => ?_)
    · have hf := if_f c2 hf
      refine lv_iconst (v := 0) C.1 C.2.1 dX9_least_27 (by decide) ?_
      cases hf
      exact x_iret C hW dX9_least_28
    · have hf := if_t c2 hf
      refine lv_iconst (v := 1) C.1 C.2.1 dX9_least_23 (by decide) ?_
      refine lv_goto (tgt := 28) C.1 C.2.1 dX9_least_24 (by decide) ?_
      cases hf
      exact x_iret C hW dX9_least_28
  · have hf := if_t c1 hf
    refine lv_aload_n C.1 C.2.1 dX9_least_8 rfl (lv_at hl 0 rfl) ?_
    refine x_geti C hW (ha0).1 (ha0).2.1 (j := 2) rfl kX9 (by decide) rfl q_47 dX9_least_9 ?_
    refine lv_goto (tgt := 28) C.1 C.2.1 dX9_least_12 (by decide) ?_
    cases hf
    exact x_iret C hW dX9_least_28
set_option maxRecDepth 100000 in
set_option maxHeartbeats 4000000 in
theorem tX9_least (l : Launch) {D : va_G} {ca ad : Nat → Nat} (hi : Inj ad) {N : Nat} {a0 : Nat} {mm : Mm} {res : Int32 × Mm} (ha0 : sX9 a0) (hf : fX9_least N a0 mm = some res) : Met l yX9_least (WS yX9_least cX9_least 1 (some .int)) (rmX9_least) (va_Pc [.ref (ad a0)] (WB D ca ad mm)) (QI D ca ad res) 0 0 (AA ad) := by
  refine x_start hi (by decide) rfl (Nat.le_of_ble_eq_true rfl) (fun p e s m args below meth c ls C hW hl => ?_)
  exact wX9_least_0 C ha0 hW (lv_sub hl [0] rfl) hf
set_option maxRecDepth 100000 in
set_option maxHeartbeats 4000000 in
theorem wX9_weight_0 (C : Cx p s m meth c args cX9_weight 3 (some .int) RX9 D ca ad) {res : Int32 × Mm} {N : Nat}  {a0 : Nat} {a1 : Int32} {a2 : Int32} {mm : Mm} {H : Heap} {locs : List Loc} {ls : Array Slot} (ha0 : sX9 a0) (hW : Wd D ca ad s.heap mm H locs) (hl : lv_has ls 3 [(0, .ref (ad a0)), (1, .int a1), (2, .int a2)]) (hf : fX9_weight N a0 a1 a2 mm = some res) : W p l e (rmX9_weight) s m args below meth c H locs 0 0 (MQ below (QI D ca ad res) args s 0 0 (AA ad)) (F0 m 0 ls []) := by
  unfold fX9_weight at hf
  refine lv_iload_n C.1 C.2.1 dX9_weight_0 rfl (lv_at hl 1 rfl) ?_
  refine lv_aload_n C.1 C.2.1 dX9_weight_1 rfl (lv_at hl 0 rfl) ?_
  obtain ⟨x1, m2, r3, hf⟩ := bd2_s hf
  refine x_ci hW (x_runV C hW [] [.int a1] (ha0).1 (ha0).2.1 kX9.1 kvX9_least q_442 (tX9_least l C.2.2.2.2.2.2.1 ha0 r3) rfl rfl ⟨by decide, by decide⟩ rfl hl.1 rfl (Nat.le_of_ble_eq_true rfl) dX9_weight_2) (fun H locs hW => ?_)
  refine lv_icmp_ge (tgt := 12) C.1 C.2.1 dX9_weight_5 (by decide) (fun c4 => ?_) (fun c4 => ?_)
  · have hf := if_t c4 hf
    refine lv_iload_n C.1 C.2.1 dX9_weight_12 rfl (lv_at hl 1 rfl) ?_
    refine lv_iload_n C.1 C.2.1 dX9_weight_13 rfl (lv_at hl 2 rfl) ?_
    refine lv_iadd C.1 C.2.1 dX9_weight_14 ?_
    cases hf
    exact x_iret C hW dX9_weight_15
  · have hf := if_f c4 hf
    refine lv_iconst (v := 0) C.1 C.2.1 dX9_weight_8 (by decide) ?_
    refine lv_goto (tgt := 15) C.1 C.2.1 dX9_weight_9 (by decide) ?_
    cases hf
    exact x_iret C hW dX9_weight_15
set_option maxRecDepth 100000 in
set_option maxHeartbeats 4000000 in
theorem tX9_weight (l : Launch) {D : va_G} {ca ad : Nat → Nat} (hi : Inj ad) {N : Nat} {a0 : Nat} {a1 : Int32} {a2 : Int32} {mm : Mm} {res : Int32 × Mm} (ha0 : sX9 a0) (hf : fX9_weight N a0 a1 a2 mm = some res) : Met l yX9_weight (WS yX9_weight cX9_weight 3 (some .int)) (rmX9_weight) (va_Pc [.ref (ad a0), .int a1, .int a2] (WB D ca ad mm)) (QI D ca ad res) 0 0 (AA ad) := by
  refine x_start hi (by decide) rfl (Nat.le_of_ble_eq_true rfl) (fun p e s m args below meth c ls C hW hl => ?_)
  exact wX9_weight_0 C ha0 hW (lv_sub hl [0, 1, 2] rfl) hf
set_option maxRecDepth 100000 in
set_option maxHeartbeats 4000000 in
theorem wX9_need_118 (C : Cx p s m meth c args cX9_need 10 (some .int) RX9 D ca ad) {res : Int32 × Mm} {N : Nat}  {a0 : Nat} {a4 : Int32} {a6 : Int32} {a7 : Int32} {mm : Mm} {H : Heap} {locs : List Loc} {ls : Array Slot} (ha0 : sX9 a0) (hW : Wd D ca ad s.heap mm H locs) (hl : lv_has ls 10 [(0, .ref (ad a0)), (4, .int a4), (6, .int a6), (7, .int a7)]) (hf : fX9_need_118 N a0 a4 a6 a7 mm = some res) : W p l e (rmX9_need) s m args below meth c H locs 0 0 (MQ below (QI D ca ad res) args s 0 0 (AA ad)) (F0 m 118 ls []) := by
  unfold fX9_need_118 at hf
  refine lv_aload_n C.1 C.2.1 dX9_need_118 rfl (lv_at hl 0 rfl) ?_
  refine lv_iconst (v := 0) C.1 C.2.1 dX9_need_119 (by decide) ?_
  refine lv_iload C.1 C.2.1 dX9_need_120 (lv_at hl 1 rfl) ?_
  obtain ⟨x1, m2, r3, hf⟩ := bd2_s hf
  refine x_ci hW (x_runV C hW [.int 0, .int a4] [] (ha0).1 (ha0).2.1 kX9.1 kvX9_weight q_510 (tX9_weight l C.2.2.2.2.2.2.1 ha0 r3) rfl rfl ⟨by decide, by decide⟩ rfl hl.1 rfl (Nat.le_of_ble_eq_true rfl) dX9_need_122) (fun H locs hW => ?_)
  refine lv_istore (lv' := [(8, .int x1), (0, .ref (ad a0)), (4, .int a4), (6, .int a6), (7, .int a7)]) C.1 C.2.1 dX9_need_125 hl (by decide) rfl (fun ls hl => ?_)
  refine lv_iload C.1 C.2.1 dX9_need_127 (lv_at hl 0 rfl) ?_
  refine lv_iload C.1 C.2.1 dX9_need_129 (lv_at hl 3 rfl) ?_
  refine lv_icmp_lt (tgt := 148) C.1 C.2.1 dX9_need_131 (by decide) (fun c4 => ?_) (fun c4 => ?_)
  · have hf := if_t c4 hf
    refine lv_aload_n C.1 C.2.1 dX9_need_148 rfl (lv_at hl 1 rfl) ?_
    obtain ⟨x5, m6, r7, hf⟩ := bd2_s hf
    refine x_ci hW (x_runV C hW [] [] (ha0).1 (ha0).2.1 kX9.1 kvX9_least q_442 (tX9_least l C.2.2.2.2.2.2.1 ha0 r7) rfl rfl ⟨by decide, by decide⟩ rfl hl.1 rfl (Nat.le_of_ble_eq_true rfl) dX9_need_149) (fun H locs hW => ?_)
    refine lv_iload C.1 C.2.1 dX9_need_152 (lv_at hl 3 rfl) ?_
    refine lv_iload C.1 C.2.1 dX9_need_154 (lv_at hl 2 rfl) ?_
    refine lv_isub C.1 C.2.1 dX9_need_156 ?_
    refine va_mmax C.1 C.2.1 (C.2.2.1.trans hl.1.symm) C.2.2.2.1 (C.2.2.2.2.1 _ q_511) (C.2.2.2.2.1 _ q_424) (C.2.2.2.2.1 _ q_15) (C.2.2.2.2.1 _ q_425) (by decide) (Nat.le_of_ble_eq_true rfl) (Nat.zero_le _) (Nat.zero_le _) dX9_need_157 ?_
    refine lv_topi (fun x8 ex8 => ?_)
    have hf := nm_s hf ex8
    refine lv_istore (lv' := [(9, .int x8), (8, .int x1), (0, .ref (ad a0)), (4, .int a4), (6, .int a6), (7, .int a7)]) C.1 C.2.1 dX9_need_160 hl (by decide) rfl (fun ls hl => ?_)
    refine lv_iload C.1 C.2.1 dX9_need_162 (lv_at hl 0 rfl) ?_
    refine lv_iload C.1 C.2.1 dX9_need_164 (lv_at hl 3 rfl) ?_
    refine lv_iadd C.1 C.2.1 dX9_need_166 ?_
    refine lv_iload C.1 C.2.1 dX9_need_167 (lv_at hl 5 rfl) ?_
    refine lv_icmp_gt (tgt := 177) C.1 C.2.1 dX9_need_169 (by decide) (fun c9 => ?_) (fun c9 => ?_)
    · have hf := if_t c9 hf
      refine lv_bipush (v := (-9)) C.1 C.2.1 dX9_need_177 (by decide) ?_
      cases hf
      exact x_iret C hW dX9_need_179
    · have hf := if_f c9 hf
      refine lv_iload C.1 C.2.1 dX9_need_172 (lv_at hl 0 rfl) ?_
      refine lv_goto (tgt := 179) C.1 C.2.1 dX9_need_174 (by decide) ?_
      cases hf
      exact x_iret C hW dX9_need_179
  · have hf := if_f c4 hf
    refine lv_iload C.1 C.2.1 dX9_need_134 (lv_at hl 0 rfl) ?_
    refine lv_iload C.1 C.2.1 dX9_need_136 (lv_at hl 4 rfl) ?_
    refine lv_icmp_gt (tgt := 145) C.1 C.2.1 dX9_need_138 (by decide) (fun c10 => ?_) (fun c10 => ?_)
    · have hf := if_t c10 hf
      refine lv_bipush (v := (-9)) C.1 C.2.1 dX9_need_145 (by decide) ?_
      cases hf
      exact x_iret C hW dX9_need_147
    · have hf := if_f c10 hf
      refine lv_iconst (v := 0) C.1 C.2.1 dX9_need_141 (by decide) ?_
      refine lv_goto (tgt := 147) C.1 C.2.1 dX9_need_142 (by decide) ?_
      cases hf
      exact x_iret C hW dX9_need_147
set_option maxRecDepth 100000 in
set_option maxHeartbeats 4000000 in
theorem wX9_need_116 (C : Cx p s m meth c args cX9_need 10 (some .int) RX9 D ca ad) {res : Int32 × Mm} {N : Nat}  {a0 : Nat} {a4 : Int32} {a6 : Int32} {s0 : Int32} {mm : Mm} {H : Heap} {locs : List Loc} {ls : Array Slot} (ha0 : sX9 a0) (hW : Wd D ca ad s.heap mm H locs) (hl : lv_has ls 10 [(0, .ref (ad a0)), (4, .int a4), (6, .int a6)]) (hf : fX9_need_116 N a0 a4 a6 s0 mm = some res) : W p l e (rmX9_need) s m args below meth c H locs 0 0 (MQ below (QI D ca ad res) args s 0 0 (AA ad)) (F0 m 116 ls [.int s0]) := by
  unfold fX9_need_116 at hf
  refine lv_istore (lv' := [(7, .int s0), (0, .ref (ad a0)), (4, .int a4), (6, .int a6)]) C.1 C.2.1 dX9_need_116 hl (by decide) rfl (fun ls hl => ?_)
  exact wX9_need_118 C  ha0 hW (lv_sub hl [1, 2, 3, 0] rfl) hf
set_option maxRecDepth 100000 in
set_option maxHeartbeats 4000000 in
theorem wX9_need_113 (C : Cx p s m meth c args cX9_need 10 (some .int) RX9 D ca ad) {res : Int32 × Mm} {N : Nat}  {a0 : Nat} {a3 : Int32} {a4 : Int32} {a6 : Int32} {mm : Mm} {H : Heap} {locs : List Loc} {ls : Array Slot} (ha0 : sX9 a0) (hW : Wd D ca ad s.heap mm H locs) (hl : lv_has ls 10 [(0, .ref (ad a0)), (3, .int a3), (4, .int a4), (6, .int a6)]) (hf : fX9_need_113 N a0 a3 a4 a6 mm = some res) : W p l e (rmX9_need) s m args below meth c H locs 0 0 (MQ below (QI D ca ad res) args s 0 0 (AA ad)) (F0 m 113 ls []) := by
  unfold fX9_need_113 at hf
  refine lv_iload_n C.1 C.2.1 dX9_need_113 rfl (lv_at hl 1 rfl) ?_
  refine lv_iconst (v := 1) C.1 C.2.1 dX9_need_114 (by decide) ?_
  refine lv_isub C.1 C.2.1 dX9_need_115 ?_
  exact wX9_need_116 C  ha0 hW (lv_sub hl [0, 2, 3] rfl) hf
set_option maxRecDepth 100000 in
set_option maxHeartbeats 4000000 in
theorem wX9_need_94 (C : Cx p s m meth c args cX9_need 10 (some .int) RX9 D ca ad) {res : Int32 × Mm} {N : Nat}  {a0 : Nat} {a4 : Int32} {a7 : Int32} {s0 : Int32} {mm : Mm} {H : Heap} {locs : List Loc} {ls : Array Slot} (ha0 : sX9 a0) (hW : Wd D ca ad s.heap mm H locs) (hl : lv_has ls 10 [(0, .ref (ad a0)), (4, .int a4), (7, .int a7)]) (hf : fX9_need_94 N a0 a4 a7 s0 mm = some res) : W p l e (rmX9_need) s m args below meth c H locs 0 0 (MQ below (QI D ca ad res) args s 0 0 (AA ad)) (F0 m 94 ls [.int s0]) := by
  unfold fX9_need_94 at hf
  refine lv_istore (lv' := [(6, .int s0), (0, .ref (ad a0)), (4, .int a4), (7, .int a7)]) C.1 C.2.1 dX9_need_94 hl (by decide) rfl (fun ls hl => ?_)
  refine lv_goto (tgt := 118) C.1 C.2.1 dX9_need_96 (by decide) ?_
  exact wX9_need_118 C  ha0 hW (lv_sub hl [1, 2, 0, 3] rfl) hf
set_option maxRecDepth 100000 in
set_option maxHeartbeats 4000000 in
theorem wX9_need_91 (C : Cx p s m meth c args cX9_need 10 (some .int) RX9 D ca ad) {res : Int32 × Mm} {N : Nat}  {a0 : Nat} {a3 : Int32} {a4 : Int32} {a7 : Int32} {mm : Mm} {H : Heap} {locs : List Loc} {ls : Array Slot} (ha0 : sX9 a0) (hW : Wd D ca ad s.heap mm H locs) (hl : lv_has ls 10 [(0, .ref (ad a0)), (3, .int a3), (4, .int a4), (7, .int a7)]) (hf : fX9_need_91 N a0 a3 a4 a7 mm = some res) : W p l e (rmX9_need) s m args below meth c H locs 0 0 (MQ below (QI D ca ad res) args s 0 0 (AA ad)) (F0 m 91 ls []) := by
  unfold fX9_need_91 at hf
  refine lv_iload_n C.1 C.2.1 dX9_need_91 rfl (lv_at hl 1 rfl) ?_
  refine lv_iconst (v := 1) C.1 C.2.1 dX9_need_92 (by decide) ?_
  refine lv_iadd C.1 C.2.1 dX9_need_93 ?_
  exact wX9_need_94 C  ha0 hW (lv_sub hl [0, 2, 3] rfl) hf
set_option maxRecDepth 100000 in
set_option maxHeartbeats 4000000 in
theorem wX9_need_75 (C : Cx p s m meth c args cX9_need 10 (some .int) RX9 D ca ad) {res : Int32 × Mm} {N : Nat}  {a0 : Nat} {a1 : Int32} {a3 : Int32} {a4 : Int32} {a5 : Int32} {a6 : Int32} {a7 : Int32} {s0 : Int32} {s1 : Int32} {mm : Mm} {H : Heap} {locs : List Loc} {ls : Array Slot} (ha0 : sX9 a0) (hW : Wd D ca ad s.heap mm H locs) (hl : lv_has ls 10 [(0, .ref (ad a0)), (1, .int a1), (3, .int a3), (4, .int a4), (5, .int a5), (6, .int a6), (7, .int a7)]) (hf : fX9_need_75 N a0 a1 a3 a4 a5 a6 a7 s0 s1 mm = some res) : W p l e (rmX9_need) s m args below meth c H locs 0 0 (MQ below (QI D ca ad res) args s 0 0 (AA ad)) (F0 m 75 ls [.int s1, .int s0]) := by
  unfold fX9_need_75 at hf
  refine lv_icmp_ne (tgt := 99) C.1 C.2.1 dX9_need_75 (by decide) (fun c11 => ?_) (fun c11 => ?_)
  · have hf := if_f c11 hf
    refine lv_iload C.1 C.2.1 dX9_need_99 (lv_at hl 4 rfl) ?_
    refine lv_if_eq (tgt := 113) C.1 C.2.1 dX9_need_101 (by decide) (fun c12 => ?_) (fun c12 => ?_)
    · have hf := if_t c12 hf
      exact wX9_need_113 C  ha0 hW (lv_sub hl [0, 2, 3, 5] rfl) hf
    · have hf := if_f c12 hf
      refine lv_iload_n C.1 C.2.1 dX9_need_104 rfl (lv_at hl 1 rfl) ?_
      refine lv_iconst (v := 1) C.1 C.2.1 dX9_need_105 (by decide) ?_
      refine lv_icmp_ne (tgt := 113) C.1 C.2.1 dX9_need_106 (by decide) (fun c13 => ?_) (fun c13 => ?_)
      · have hf := if_f c13 hf
        exact wX9_need_113 C  ha0 hW (lv_sub hl [0, 2, 3, 5] rfl) hf
      · have hf := if_t c13 hf
        refine lv_iload_n C.1 C.2.1 dX9_need_109 rfl (lv_at hl 2 rfl) ?_
        refine lv_goto (tgt := 116) C.1 C.2.1 dX9_need_110 (by decide) ?_
        exact wX9_need_116 C  ha0 hW (lv_sub hl [0, 3, 5] rfl) hf
  · have hf := if_t c11 hf
    refine lv_iload C.1 C.2.1 dX9_need_78 (lv_at hl 4 rfl) ?_
    refine lv_if_eq (tgt := 91) C.1 C.2.1 dX9_need_80 (by decide) (fun c14 => ?_) (fun c14 => ?_)
    · have hf := if_t c14 hf
      exact wX9_need_91 C  ha0 hW (lv_sub hl [0, 2, 3, 6] rfl) hf
    · have hf := if_f c14 hf
      refine lv_iload_n C.1 C.2.1 dX9_need_83 rfl (lv_at hl 1 rfl) ?_
      refine lv_if_ne (tgt := 91) C.1 C.2.1 dX9_need_84 (by decide) (fun c15 => ?_) (fun c15 => ?_)
      · have hf := if_f c15 hf
        exact wX9_need_91 C  ha0 hW (lv_sub hl [0, 2, 3, 6] rfl) hf
      · have hf := if_t c15 hf
        refine lv_iload_n C.1 C.2.1 dX9_need_87 rfl (lv_at hl 2 rfl) ?_
        refine lv_goto (tgt := 94) C.1 C.2.1 dX9_need_88 (by decide) ?_
        exact wX9_need_94 C  ha0 hW (lv_sub hl [0, 3, 6] rfl) hf
set_option maxRecDepth 100000 in
set_option maxHeartbeats 4000000 in
theorem wX9_need_62 (C : Cx p s m meth c args cX9_need 10 (some .int) RX9 D ca ad) {res : Int32 × Mm} {N : Nat}  {a0 : Nat} {a1 : Int32} {a3 : Int32} {a4 : Int32} {a5 : Int32} {a6 : Int32} {a7 : Int32} {s0 : Int32} {mm : Mm} {H : Heap} {locs : List Loc} {ls : Array Slot} (ha0 : sX9 a0) (hW : Wd D ca ad s.heap mm H locs) (hl : lv_has ls 10 [(0, .ref (ad a0)), (1, .int a1), (3, .int a3), (4, .int a4), (5, .int a5), (6, .int a6), (7, .int a7)]) (hf : fX9_need_62 N a0 a1 a3 a4 a5 a6 a7 s0 mm = some res) : W p l e (rmX9_need) s m args below meth c H locs 0 0 (MQ below (QI D ca ad res) args s 0 0 (AA ad)) (F0 m 62 ls [.int s0]) := by
  unfold fX9_need_62 at hf
  refine lv_aload_n C.1 C.2.1 dX9_need_62 rfl (lv_at hl 0 rfl) ?_
  refine x_geti C hW (ha0).1 (ha0).2.1 (j := 0) rfl kX9 (by decide) rfl q_42 dX9_need_63 ?_
  refine lv_iconst (v := 2) C.1 C.2.1 dX9_need_66 (by decide) ?_
  refine lv_icmp_eq (tgt := 74) C.1 C.2.1 dX9_need_67 (by decide) (fun c16 => ?_) (fun c16 => ?_)
  · have hf := if_t c16 hf
    refine lv_iconst (v := 0) C.1 C.2.1 dX9_need_74 (by decide) ?_
    exact wX9_need_75 C  ha0 hW (lv_sub hl [0, 1, 2, 3, 4, 5, 6] rfl) hf
  · have hf := if_f c16 hf
    refine lv_iconst (v := 1) C.1 C.2.1 dX9_need_70 (by decide) ?_
    refine lv_goto (tgt := 75) C.1 C.2.1 dX9_need_71 (by decide) ?_
    exact wX9_need_75 C  ha0 hW (lv_sub hl [0, 1, 2, 3, 4, 5, 6] rfl) hf
set_option maxRecDepth 100000 in
set_option maxHeartbeats 4000000 in
theorem wX9_need_21 (C : Cx p s m meth c args cX9_need 10 (some .int) RX9 D ca ad) {res : Int32 × Mm} {N : Nat}  {a0 : Nat} {a1 : Int32} {a2 : Int32} {a3 : Int32} {a4 : Int32} {s0 : Int32} {mm : Mm} {H : Heap} {locs : List Loc} {ls : Array Slot} (ha0 : sX9 a0) (hW : Wd D ca ad s.heap mm H locs) (hl : lv_has ls 10 [(0, .ref (ad a0)), (1, .int a1), (2, .int a2), (3, .int a3), (4, .int a4)]) (hf : fX9_need_21 N a0 a1 a2 a3 a4 s0 mm = some res) : W p l e (rmX9_need) s m args below meth c H locs 0 0 (MQ below (QI D ca ad res) args s 0 0 (AA ad)) (F0 m 21 ls [.int s0]) := by
  unfold fX9_need_21 at hf
  refine lv_istore (lv' := [(5, .int s0), (0, .ref (ad a0)), (1, .int a1), (2, .int a2), (3, .int a3), (4, .int a4)]) C.1 C.2.1 dX9_need_21 hl (by decide) rfl (fun ls hl => ?_)
  refine lv_iconst (v := 0) C.1 C.2.1 dX9_need_23 (by decide) ?_
  refine lv_istore (lv' := [(6, .int 0), (5, .int s0), (0, .ref (ad a0)), (1, .int a1), (2, .int a2), (3, .int a3), (4, .int a4)]) C.1 C.2.1 dX9_need_24 hl (by decide) rfl (fun ls hl => ?_)
  refine lv_ldc C.1 C.2.1 C.2.2.2.1 (C.2.2.2.2.1 _ q_509) dX9_need_26 ?_
  refine lv_istore (lv' := [(7, .int 1000000), (6, .int 0), (5, .int s0), (0, .ref (ad a0)), (1, .int a1), (2, .int a2), (3, .int a3), (4, .int a4)]) C.1 C.2.1 dX9_need_28 hl (by decide) rfl (fun ls hl => ?_)
  refine lv_iload_n C.1 C.2.1 dX9_need_30 rfl (lv_at hl 5 rfl) ?_
  refine lv_iconst (v := 2) C.1 C.2.1 dX9_need_31 (by decide) ?_
  refine lv_icmp_ne (tgt := 52) C.1 C.2.1 dX9_need_32 (by decide) (fun c17 => ?_) (fun c17 => ?_)
  · have hf := if_f c17 hf
    refine lv_iload_n C.1 C.2.1 dX9_need_52 rfl (lv_at hl 5 rfl) ?_
    refine lv_iload_n C.1 C.2.1 dX9_need_53 rfl (lv_at hl 4 rfl) ?_
    refine lv_icmp_ne (tgt := 61) C.1 C.2.1 dX9_need_54 (by decide) (fun c18 => ?_) (fun c18 => ?_)
    · have hf := if_f c18 hf
      refine lv_iconst (v := 0) C.1 C.2.1 dX9_need_61 (by decide) ?_
      exact wX9_need_62 C  ha0 hW (lv_sub hl [3, 4, 6, 7, 2, 1, 0] rfl) hf
    · have hf := if_t c18 hf
      refine lv_iconst (v := 1) C.1 C.2.1 dX9_need_57 (by decide) ?_
      refine lv_goto (tgt := 62) C.1 C.2.1 dX9_need_58 (by decide) ?_
      exact wX9_need_62 C  ha0 hW (lv_sub hl [3, 4, 6, 7, 2, 1, 0] rfl) hf
  · have hf := if_t c17 hf
    refine lv_iload C.1 C.2.1 dX9_need_35 (lv_at hl 2 rfl) ?_
    refine lv_if_eq (tgt := 43) C.1 C.2.1 dX9_need_37 (by decide) (fun c19 => ?_) (fun c19 => ?_)
    · have hf := if_t c19 hf
      refine lv_iload_n C.1 C.2.1 dX9_need_43 rfl (lv_at hl 6 rfl) ?_
      refine lv_istore (lv' := [(6, .int a3), (7, .int 1000000), (5, .int s0), (0, .ref (ad a0)), (1, .int a1), (2, .int a2), (3, .int a3), (4, .int a4)]) C.1 C.2.1 dX9_need_44 hl (by decide) rfl (fun ls hl => ?_)
      refine lv_iload_n C.1 C.2.1 dX9_need_46 rfl (lv_at hl 6 rfl) ?_
      refine lv_istore (lv' := [(7, .int a3), (6, .int a3), (5, .int s0), (0, .ref (ad a0)), (1, .int a1), (2, .int a2), (3, .int a3), (4, .int a4)]) C.1 C.2.1 dX9_need_47 hl (by decide) rfl (fun ls hl => ?_)
      refine lv_goto (tgt := 118) C.1 C.2.1 dX9_need_49 (by decide) ?_
      exact wX9_need_118 C  ha0 hW (lv_sub hl [3, 7, 1, 0] rfl) hf
    · have hf := if_f c19 hf
      refine lv_bipush (v := (-9)) C.1 C.2.1 dX9_need_40 (by decide) ?_
      cases hf
      exact x_iret C hW dX9_need_42
set_option maxRecDepth 100000 in
set_option maxHeartbeats 4000000 in
theorem wX9_need_16 (C : Cx p s m meth c args cX9_need 10 (some .int) RX9 D ca ad) {res : Int32 × Mm} {N : Nat}  {a0 : Nat} {a1 : Int32} {a2 : Int32} {a3 : Int32} {a4 : Int32} {mm : Mm} {H : Heap} {locs : List Loc} {ls : Array Slot} (ha0 : sX9 a0) (hW : Wd D ca ad s.heap mm H locs) (hl : lv_has ls 10 [(0, .ref (ad a0)), (1, .int a1), (2, .int a2), (3, .int a3), (4, .int a4)]) (hf : fX9_need_16 N a0 a1 a2 a3 a4 mm = some res) : W p l e (rmX9_need) s m args below meth c H locs 0 0 (MQ below (QI D ca ad res) args s 0 0 (AA ad)) (F0 m 16 ls []) := by
  unfold fX9_need_16 at hf
  refine lv_iconst (v := 1) C.1 C.2.1 dX9_need_16 (by decide) ?_
  refine lv_goto (tgt := 21) C.1 C.2.1 dX9_need_17 (by decide) ?_
  exact wX9_need_21 C  ha0 hW (lv_sub hl [0, 1, 2, 3, 4] rfl) hf
set_option maxRecDepth 100000 in
set_option maxHeartbeats 4000000 in
theorem wX9_need_0 (C : Cx p s m meth c args cX9_need 10 (some .int) RX9 D ca ad) {res : Int32 × Mm} {N : Nat}  {a0 : Nat} {a1 : Int32} {a2 : Int32} {a3 : Int32} {a4 : Int32} {mm : Mm} {H : Heap} {locs : List Loc} {ls : Array Slot} (ha0 : sX9 a0) (hW : Wd D ca ad s.heap mm H locs) (hl : lv_has ls 10 [(0, .ref (ad a0)), (1, .int a1), (2, .int a2), (3, .int a3), (4, .int a4)]) (hf : fX9_need N a0 a1 a2 a3 a4 mm = some res) : W p l e (rmX9_need) s m args below meth c H locs 0 0 (MQ below (QI D ca ad res) args s 0 0 (AA ad)) (F0 m 0 ls []) := by
  unfold fX9_need at hf
  refine lv_aload_n C.1 C.2.1 dX9_need_0 rfl (lv_at hl 0 rfl) ?_
  refine x_geti C hW (ha0).1 (ha0).2.1 (j := 0) rfl kX9 (by decide) rfl q_42 dX9_need_1 ?_
  refine lv_iconst (v := 1) C.1 C.2.1 dX9_need_4 (by decide) ?_
  refine lv_icmp_eq (tgt := 16) C.1 C.2.1 dX9_need_5 (by decide) (fun c20 => ?_) (fun c20 => ?_)
  · have hf := if_t c20 hf
    exact wX9_need_16 C  ha0 hW (lv_sub hl [0, 1, 2, 3, 4] rfl) hf
  · have hf := if_f c20 hf
    refine lv_aload_n C.1 C.2.1 dX9_need_8 rfl (lv_at hl 0 rfl) ?_
    refine x_geti C hW (ha0).1 (ha0).2.1 (j := 0) rfl kX9 (by decide) rfl q_42 dX9_need_9 ?_
    refine lv_iconst (v := 5) C.1 C.2.1 dX9_need_12 (by decide) ?_
    refine lv_icmp_ne (tgt := 20) C.1 C.2.1 dX9_need_13 (by decide) (fun c21 => ?_) (fun c21 => ?_)
    · have hf := if_f c21 hf
      refine lv_iconst (v := 0) C.1 C.2.1 dX9_need_20 (by decide) ?_
      exact wX9_need_21 C  ha0 hW (lv_sub hl [0, 1, 2, 3, 4] rfl) hf
    · have hf := if_t c21 hf
      exact wX9_need_16 C  ha0 hW (lv_sub hl [0, 1, 2, 3, 4] rfl) hf
set_option maxRecDepth 100000 in
set_option maxHeartbeats 4000000 in
theorem tX9_need (l : Launch) {D : va_G} {ca ad : Nat → Nat} (hi : Inj ad) {N : Nat} {a0 : Nat} {a1 : Int32} {a2 : Int32} {a3 : Int32} {a4 : Int32} {mm : Mm} {res : Int32 × Mm} (ha0 : sX9 a0) (hf : fX9_need N a0 a1 a2 a3 a4 mm = some res) : Met l yX9_need (WS yX9_need cX9_need 10 (some .int)) (rmX9_need) (va_Pc [.ref (ad a0), .int a1, .int a2, .int a3, .int a4] (WB D ca ad mm)) (QI D ca ad res) 0 0 (AA ad) := by
  refine x_start hi (by decide) rfl (Nat.le_of_ble_eq_true rfl) (fun p e s m args below meth c ls C hW hl => ?_)
  exact wX9_need_0 C ha0 hW (lv_sub hl [0, 1, 2, 3, 4] rfl) hf
set_option maxRecDepth 100000 in
set_option maxHeartbeats 4000000 in
theorem wX9_points_0 (C : Cx p s m meth c args cX9_points 3 (some .int) RX9 D ca ad) {res : Int32 × Mm} {N : Nat}  {a0 : Nat} {a1 : Int32} {a2 : Int32} {mm : Mm} {H : Heap} {locs : List Loc} {ls : Array Slot} (ha0 : sX9 a0) (hW : Wd D ca ad s.heap mm H locs) (hl : lv_has ls 3 [(0, .ref (ad a0)), (1, .int a1), (2, .int a2)]) (hf : fX9_points N a0 a1 a2 mm = some res) : W p l e (rmX9_points) s m args below meth c H locs 0 0 (MQ below (QI D ca ad res) args s 0 0 (AA ad)) (F0 m 0 ls []) := by
  unfold fX9_points at hf
  refine lv_iload_n C.1 C.2.1 dX9_points_0 rfl (lv_at hl 2 rfl) ?_
  refine lv_iload_n C.1 C.2.1 dX9_points_1 rfl (lv_at hl 1 rfl) ?_
  refine lv_icmp_ne (tgt := 14) C.1 C.2.1 dX9_points_2 (by decide) (fun c1 => ?_) (fun c1 => ?_)
  · have hf := if_f c1 hf
    refine lv_iload_n C.1 C.2.1 dX9_points_14 rfl (lv_at hl 2 rfl) ?_
    refine lv_iconst (v := 2) C.1 C.2.1 dX9_points_15 (by decide) ?_
    refine lv_icmp_ne (tgt := 26) C.1 C.2.1 dX9_points_16 (by decide) (fun c2 => ?_) (fun c2 => ?_)
    · have hf := if_f c2 hf
      refine lv_iconst (v := 0) C.1 C.2.1 dX9_points_26 (by decide) ?_
      cases hf
      exact x_iret C hW dX9_points_27
    · have hf := if_t c2 hf
      refine lv_aload_n C.1 C.2.1 dX9_points_19 rfl (lv_at hl 0 rfl) ?_
      refine x_geti C hW (ha0).1 (ha0).2.1 (j := 1) rfl kX9 (by decide) rfl q_44 dX9_points_20 ?_
      refine lv_goto (tgt := 27) C.1 C.2.1 dX9_points_23 (by decide) ?_
      cases hf
      exact x_iret C hW dX9_points_27
  · have hf := if_t c1 hf
    refine lv_iconst (v := 2) C.1 C.2.1 dX9_points_5 (by decide) ?_
    refine lv_aload_n C.1 C.2.1 dX9_points_6 rfl (lv_at hl 0 rfl) ?_
    refine x_geti C hW (ha0).1 (ha0).2.1 (j := 1) rfl kX9 (by decide) rfl q_44 dX9_points_7 ?_
    refine lv_imul C.1 C.2.1 dX9_points_10 ?_
    refine lv_goto (tgt := 27) C.1 C.2.1 dX9_points_11 (by decide) ?_
    cases hf
    exact x_iret C hW dX9_points_27
set_option maxRecDepth 100000 in
set_option maxHeartbeats 4000000 in
theorem tX9_points (l : Launch) {D : va_G} {ca ad : Nat → Nat} (hi : Inj ad) {N : Nat} {a0 : Nat} {a1 : Int32} {a2 : Int32} {mm : Mm} {res : Int32 × Mm} (ha0 : sX9 a0) (hf : fX9_points N a0 a1 a2 mm = some res) : Met l yX9_points (WS yX9_points cX9_points 3 (some .int)) (rmX9_points) (va_Pc [.ref (ad a0), .int a1, .int a2] (WB D ca ad mm)) (QI D ca ad res) 0 0 (AA ad) := by
  refine x_start hi (by decide) rfl (Nat.le_of_ble_eq_true rfl) (fun p e s m args below meth c ls C hW hl => ?_)
  exact wX9_points_0 C ha0 hW (lv_sub hl [0, 1, 2] rfl) hf
set_option maxRecDepth 100000 in
set_option maxHeartbeats 4000000 in
theorem wX9_winner_50 (C : Cx p s m meth c args cX9_winner 3 (some .int) RX9 D ca ad) {res : Int32 × Mm} {N : Nat}  {s0 : Int32} {s1 : Int32} {mm : Mm} {H : Heap} {locs : List Loc} {ls : Array Slot}  (hW : Wd D ca ad s.heap mm H locs) (hl : lv_has ls 3 []) (hf : fX9_winner_50 N s0 s1 mm = some res) : W p l e (rmX9_winner) s m args below meth c H locs 0 0 (MQ below (QI D ca ad res) args s 0 0 (AA ad)) (F0 m 50 ls [.int s1, .int s0]) := by
  unfold fX9_winner_50 at hf
  refine lv_icmp_ne (tgt := 57) C.1 C.2.1 dX9_winner_50 (by decide) (fun c1 => ?_) (fun c1 => ?_)
  · have hf := if_f c1 hf
    refine lv_iconst (v := 1) C.1 C.2.1 dX9_winner_57 (by decide) ?_
    cases hf
    exact x_iret C hW dX9_winner_58
  · have hf := if_t c1 hf
    refine lv_iconst (v := 0) C.1 C.2.1 dX9_winner_53 (by decide) ?_
    refine lv_goto (tgt := 58) C.1 C.2.1 dX9_winner_54 (by decide) ?_
    cases hf
    exact x_iret C hW dX9_winner_58
set_option maxRecDepth 100000 in
set_option maxHeartbeats 4000000 in
theorem wX9_winner_37 (C : Cx p s m meth c args cX9_winner 3 (some .int) RX9 D ca ad) {res : Int32 × Mm} {N : Nat}  {a0 : Nat} {s0 : Int32} {mm : Mm} {H : Heap} {locs : List Loc} {ls : Array Slot} (ha0 : sX9 a0) (hW : Wd D ca ad s.heap mm H locs) (hl : lv_has ls 3 [(0, .ref (ad a0))]) (hf : fX9_winner_37 N a0 s0 mm = some res) : W p l e (rmX9_winner) s m args below meth c H locs 0 0 (MQ below (QI D ca ad res) args s 0 0 (AA ad)) (F0 m 37 ls [.int s0]) := by
  unfold fX9_winner_37 at hf
  refine lv_aload_n C.1 C.2.1 dX9_winner_37 rfl (lv_at hl 0 rfl) ?_
  refine x_geti C hW (ha0).1 (ha0).2.1 (j := 0) rfl kX9 (by decide) rfl q_42 dX9_winner_38 ?_
  refine lv_iconst (v := 2) C.1 C.2.1 dX9_winner_41 (by decide) ?_
  refine lv_icmp_eq (tgt := 49) C.1 C.2.1 dX9_winner_42 (by decide) (fun c2 => ?_) (fun c2 => ?_)
  · have hf := if_t c2 hf
    refine lv_iconst (v := 0) C.1 C.2.1 dX9_winner_49 (by decide) ?_
    exact wX9_winner_50 C   hW (lv_sub hl [] rfl) hf
  · have hf := if_f c2 hf
    refine lv_iconst (v := 1) C.1 C.2.1 dX9_winner_45 (by decide) ?_
    refine lv_goto (tgt := 50) C.1 C.2.1 dX9_winner_46 (by decide) ?_
    exact wX9_winner_50 C   hW (lv_sub hl [] rfl) hf
set_option maxRecDepth 100000 in
set_option maxHeartbeats 4000000 in
theorem wX9_winner_0 (C : Cx p s m meth c args cX9_winner 3 (some .int) RX9 D ca ad) {res : Int32 × Mm} {N : Nat}  {a0 : Nat} {a1 : Int32} {a2 : Int32} {mm : Mm} {H : Heap} {locs : List Loc} {ls : Array Slot} (ha0 : sX9 a0) (hW : Wd D ca ad s.heap mm H locs) (hl : lv_has ls 3 [(0, .ref (ad a0)), (1, .int a1), (2, .int a2)]) (hf : fX9_winner N a0 a1 a2 mm = some res) : W p l e (rmX9_winner) s m args below meth c H locs 0 0 (MQ below (QI D ca ad res) args s 0 0 (AA ad)) (F0 m 0 ls []) := by
  unfold fX9_winner at hf
  refine lv_iload_n C.1 C.2.1 dX9_winner_0 rfl (lv_at hl 1 rfl) ?_
  refine lv_iload_n C.1 C.2.1 dX9_winner_1 rfl (lv_at hl 2 rfl) ?_
  refine lv_icmp_ne (tgt := 27) C.1 C.2.1 dX9_winner_2 (by decide) (fun c3 => ?_) (fun c3 => ?_)
  · have hf := if_f c3 hf
    refine lv_iload_n C.1 C.2.1 dX9_winner_27 rfl (lv_at hl 1 rfl) ?_
    refine lv_iload_n C.1 C.2.1 dX9_winner_28 rfl (lv_at hl 2 rfl) ?_
    refine lv_icmp_le (tgt := 36) C.1 C.2.1 dX9_winner_29 (by decide) (fun c4 => ?_) (fun c4 => ?_)
    · have hf := if_t c4 hf
      refine lv_iconst (v := 0) C.1 C.2.1 dX9_winner_36 (by decide) ?_
      exact wX9_winner_37 C  ha0 hW (lv_sub hl [0] rfl) hf
    · have hf := if_f c4 hf
      refine lv_iconst (v := 1) C.1 C.2.1 dX9_winner_32 (by decide) ?_
      refine lv_goto (tgt := 37) C.1 C.2.1 dX9_winner_33 (by decide) ?_
      exact wX9_winner_37 C  ha0 hW (lv_sub hl [0] rfl) hf
  · have hf := if_t c3 hf
    refine lv_aload_n C.1 C.2.1 dX9_winner_5 rfl (lv_at hl 0 rfl) ?_
    refine x_geti C hW (ha0).1 (ha0).2.1 (j := 0) rfl kX9 (by decide) rfl q_42 dX9_winner_6 ?_
    refine lv_iconst (v := 1) C.1 C.2.1 dX9_winner_9 (by decide) ?_
    refine lv_icmp_eq (tgt := 21) C.1 C.2.1 dX9_winner_10 (by decide) (fun c5 => ?_) (fun c5 => ?_)
    · have hf := if_t c5 hf
      refine lv_iconst (v := 0) C.1 C.2.1 dX9_winner_21 (by decide) ?_
      refine lv_goto (tgt := 26) C.1 C.2.1 dX9_winner_22 (by decide) ?_
      cases hf
      exact x_iret C hW dX9_winner_26
    · have hf := if_f c5 hf
      refine lv_aload_n C.1 C.2.1 dX9_winner_13 rfl (lv_at hl 0 rfl) ?_
      refine x_geti C hW (ha0).1 (ha0).2.1 (j := 0) rfl kX9 (by decide) rfl q_42 dX9_winner_14 ?_
      refine lv_iconst (v := 5) C.1 C.2.1 dX9_winner_17 (by decide) ?_
      refine lv_icmp_ne (tgt := 25) C.1 C.2.1 dX9_winner_18 (by decide) (fun c6 => ?_) (fun c6 => ?_)
      · have hf := if_f c6 hf
        refine lv_iconst (v := 2) C.1 C.2.1 dX9_winner_25 (by decide) ?_
        cases hf
        exact x_iret C hW dX9_winner_26
      · have hf := if_t c6 hf
        refine lv_iconst (v := 0) C.1 C.2.1 dX9_winner_21 (by decide) ?_
        refine lv_goto (tgt := 26) C.1 C.2.1 dX9_winner_22 (by decide) ?_
        cases hf
        exact x_iret C hW dX9_winner_26
set_option maxRecDepth 100000 in
set_option maxHeartbeats 4000000 in
theorem tX9_winner (l : Launch) {D : va_G} {ca ad : Nat → Nat} (hi : Inj ad) {N : Nat} {a0 : Nat} {a1 : Int32} {a2 : Int32} {mm : Mm} {res : Int32 × Mm} (ha0 : sX9 a0) (hf : fX9_winner N a0 a1 a2 mm = some res) : Met l yX9_winner (WS yX9_winner cX9_winner 3 (some .int)) (rmX9_winner) (va_Pc [.ref (ad a0), .int a1, .int a2] (WB D ca ad mm)) (QI D ca ad res) 0 0 (AA ad) := by
  refine x_start hi (by decide) rfl (Nat.le_of_ble_eq_true rfl) (fun p e s m args below meth c ls C hW hl => ?_)
  exact wX9_winner_0 C ha0 hW (lv_sub hl [0, 1, 2] rfl) hf
end W_suit06
