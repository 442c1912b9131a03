theorem dX12_suit_0 : decode cX12_suit 0 = .ok (.aload_n 0, 1) := by decide +kernel
theorem dX12_suit_1 : decode cX12_suit 1 = .ok (.iload_n 1, 1) := by decide +kernel
theorem dX12_suit_2 : decode cX12_suit 2 = .ok (.invokevirtual 165, 3) := by decide +kernel
theorem dX12_suit_5 : decode cX12_suit 5 = .ok (.ifCond .eq 26, 3) := by decide +kernel
theorem dX12_suit_8 : decode cX12_suit 8 = .ok (.iload_n 2, 1) := by decide +kernel
theorem dX12_suit_9 : decode cX12_suit 9 = .ok (.iconst 0, 1) := by decide +kernel
theorem dX12_suit_10 : decode cX12_suit 10 = .ok (.iconst 2, 1) := by decide +kernel
theorem dX12_suit_11 : decode cX12_suit 11 = .ok (.invokestatic 87, 3) := by decide +kernel
theorem dX12_suit_14 : decode cX12_suit 14 = .ok (.ifCond .eq 17, 3) := by decide +kernel
theorem dX12_suit_17 : decode cX12_suit 17 = .ok (.aload_n 0, 1) := by decide +kernel
theorem dX12_suit_18 : decode cX12_suit 18 = .ok (.aload_n 0, 1) := by decide +kernel
theorem dX12_suit_19 : decode cX12_suit 19 = .ok (.iload_n 1, 1) := by decide +kernel
theorem dX12_suit_20 : decode cX12_suit 20 = .ok (.iload_n 2, 1) := by decide +kernel
theorem dX12_suit_21 : decode cX12_suit 21 = .ok (.invokevirtual 168, 3) := by decide +kernel
theorem dX12_suit_24 : decode cX12_suit 24 = .ok (.iconst 1, 1) := by decide +kernel
theorem dX12_suit_25 : decode cX12_suit 25 = .ok (.invokevirtual 113, 3) := by decide +kernel
theorem dX12_suit_28 : decode cX12_suit 28 = .ok (.goto 4, 3) := by decide +kernel
theorem dX12_suit_31 : decode cX12_suit 31 = .ok (.iconst (-1), 1) := by decide +kernel
theorem dX12_suit_32 : decode cX12_suit 32 = .ok (.ireturn, 1) := by decide +kernel
theorem dX12_isA_0 : decode cX12_isA 0 = .ok (.aload_n 0, 1) := by decide +kernel
theorem dX12_isA_1 : decode cX12_isA 1 = .ok (.iload_n 1, 1) := by decide +kernel
theorem dX12_isA_2 : decode cX12_isA 2 = .ok (.iconst 0, 1) := by decide +kernel
theorem dX12_isA_3 : decode cX12_isA 3 = .ok (.invokevirtual 168, 3) := by decide +kernel
theorem dX12_isA_6 : decode cX12_isA 6 = .ok (.iload_n 2, 1) := by decide +kernel
theorem dX12_isA_7 : decode cX12_isA 7 = .ok (.if_icmp .eq 33, 3) := by decide +kernel
theorem dX12_isA_10 : decode cX12_isA 10 = .ok (.iload_n 2, 1) := by decide +kernel
theorem dX12_isA_11 : decode cX12_isA 11 = .ok (.iconst 1, 1) := by decide +kernel
theorem dX12_isA_12 : decode cX12_isA 12 = .ok (.if_icmp .ne 13, 3) := by decide +kernel
theorem dX12_isA_15 : decode cX12_isA 15 = .ok (.aload_n 0, 1) := by decide +kernel
theorem dX12_isA_16 : decode cX12_isA 16 = .ok (.iload_n 1, 1) := by decide +kernel
theorem dX12_isA_17 : decode cX12_isA 17 = .ok (.iconst 0, 1) := by decide +kernel
theorem dX12_isA_18 : decode cX12_isA 18 = .ok (.invokevirtual 168, 3) := by decide +kernel
theorem dX12_isA_21 : decode cX12_isA 21 = .ok (.iconst 5, 1) := by decide +kernel
theorem dX12_isA_22 : decode cX12_isA 22 = .ok (.if_icmp .eq 18, 3) := by decide +kernel
theorem dX12_isA_25 : decode cX12_isA 25 = .ok (.iload_n 2, 1) := by decide +kernel
theorem dX12_isA_26 : decode cX12_isA 26 = .ok (.iconst 3, 1) := by decide +kernel
theorem dX12_isA_27 : decode cX12_isA 27 = .ok (.if_icmp .ne 17, 3) := by decide +kernel
theorem dX12_isA_30 : decode cX12_isA 30 = .ok (.aload_n 0, 1) := by decide +kernel
theorem dX12_isA_31 : decode cX12_isA 31 = .ok (.iload_n 1, 1) := by decide +kernel
theorem dX12_isA_32 : decode cX12_isA 32 = .ok (.iconst 0, 1) := by decide +kernel
theorem dX12_isA_33 : decode cX12_isA 33 = .ok (.invokevirtual 168, 3) := by decide +kernel
theorem dX12_isA_36 : decode cX12_isA 36 = .ok (.iconst 4, 1) := by decide +kernel
theorem dX12_isA_37 : decode cX12_isA 37 = .ok (.if_icmp .ne 7, 3) := by decide +kernel
theorem dX12_isA_40 : decode cX12_isA 40 = .ok (.iconst 1, 1) := by decide +kernel
theorem dX12_isA_41 : decode cX12_isA 41 = .ok (.goto 4, 3) := by decide +kernel
theorem dX12_isA_44 : decode cX12_isA 44 = .ok (.iconst 0, 1) := by decide +kernel
theorem dX12_isA_45 : decode cX12_isA 45 = .ok (.ireturn, 1) := by decide +kernel
theorem dX12_ofKind_0 : decode cX12_ofKind 0 = .ok (.iconst 0, 1) := by decide +kernel
theorem dX12_ofKind_1 : decode cX12_ofKind 1 = .ok (.istore_n 2, 1) := by decide +kernel
theorem dX12_ofKind_2 : decode cX12_ofKind 2 = .ok (.iconst 0, 1) := by decide +kernel
theorem dX12_ofKind_3 : decode cX12_ofKind 3 = .ok (.istore_n 3, 1) := by decide +kernel
theorem dX12_ofKind_4 : decode cX12_ofKind 4 = .ok (.iload_n 3, 1) := by decide +kernel
theorem dX12_ofKind_5 : decode cX12_ofKind 5 = .ok (.aload_n 0, 1) := by decide +kernel
theorem dX12_ofKind_6 : decode cX12_ofKind 6 = .ok (.getfield 156, 3) := by decide +kernel
theorem dX12_ofKind_9 : decode cX12_ofKind 9 = .ok (.if_icmp .ge 26, 3) := by decide +kernel
theorem dX12_ofKind_12 : decode cX12_ofKind 12 = .ok (.iload_n 2, 1) := by decide +kernel
theorem dX12_ofKind_13 : decode cX12_ofKind 13 = .ok (.aload_n 0, 1) := by decide +kernel
theorem dX12_ofKind_14 : decode cX12_ofKind 14 = .ok (.iload_n 3, 1) := by decide +kernel
theorem dX12_ofKind_15 : decode cX12_ofKind 15 = .ok (.iload_n 1, 1) := by decide +kernel
theorem dX12_ofKind_16 : decode cX12_ofKind 16 = .ok (.invokevirtual 171, 3) := by decide +kernel
theorem dX12_ofKind_19 : decode cX12_ofKind 19 = .ok (.ifCond .eq 7, 3) := by decide +kernel
theorem dX12_ofKind_22 : decode cX12_ofKind 22 = .ok (.iconst 1, 1) := by decide +kernel
theorem dX12_ofKind_23 : decode cX12_ofKind 23 = .ok (.goto 4, 3) := by decide +kernel
theorem dX12_ofKind_26 : decode cX12_ofKind 26 = .ok (.iconst 0, 1) := by decide +kernel
theorem dX12_ofKind_27 : decode cX12_ofKind 27 = .ok (.iadd, 1) := by decide +kernel
theorem dX12_ofKind_28 : decode cX12_ofKind 28 = .ok (.istore_n 2, 1) := by decide +kernel
theorem dX12_ofKind_29 : decode cX12_ofKind 29 = .ok (.iinc 3 1, 3) := by decide +kernel
theorem dX12_ofKind_32 : decode cX12_ofKind 32 = .ok (.goto (-28), 3) := by decide +kernel
theorem dX12_ofKind_35 : decode cX12_ofKind 35 = .ok (.iload_n 2, 1) := by decide +kernel
theorem dX12_ofKind_36 : decode cX12_ofKind 36 = .ok (.ireturn, 1) := by decide +kernel
theorem dX12_mark_0 : decode cX12_mark 0 = .ok (.aload_n 0, 1) := by decide +kernel
theorem dX12_mark_1 : decode cX12_mark 1 = .ok (.iload_n 1, 1) := by decide +kernel
theorem dX12_mark_2 : decode cX12_mark 2 = .ok (.invokevirtual 165, 3) := by decide +kernel
theorem dX12_mark_5 : decode cX12_mark 5 = .ok (.ifCond .eq 12, 3) := by decide +kernel
theorem dX12_mark_8 : decode cX12_mark 8 = .ok (.iload_n 2, 1) := by decide +kernel
theorem dX12_mark_9 : decode cX12_mark 9 = .ok (.iconst 1, 1) := by decide +kernel
theorem dX12_mark_10 : decode cX12_mark 10 = .ok (.iconst 5, 1) := by decide +kernel
theorem dX12_mark_11 : decode cX12_mark 11 = .ok (.invokestatic 87, 3) := by decide +kernel
theorem dX12_mark_14 : decode cX12_mark 14 = .ok (.ifCond .ne 5, 3) := by decide +kernel
theorem dX12_mark_17 : decode cX12_mark 17 = .ok (.iconst (-1), 1) := by decide +kernel
theorem dX12_mark_18 : decode cX12_mark 18 = .ok (.ireturn, 1) := by decide +kernel
theorem dX12_mark_19 : decode cX12_mark 19 = .ok (.aload_n 0, 1) := by decide +kernel
theorem dX12_mark_20 : decode cX12_mark 20 = .ok (.iload_n 1, 1) := by decide +kernel
theorem dX12_mark_21 : decode cX12_mark 21 = .ok (.iload_n 2, 1) := by decide +kernel
theorem dX12_mark_22 : decode cX12_mark 22 = .ok (.invokevirtual 171, 3) := by decide +kernel
theorem dX12_mark_25 : decode cX12_mark 25 = .ok (.ifCond .ne 9, 3) := by decide +kernel
theorem dX12_mark_28 : decode cX12_mark 28 = .ok (.aload_n 0, 1) := by decide +kernel
theorem dX12_mark_29 : decode cX12_mark 29 = .ok (.iconst 3, 1) := by decide +kernel
theorem dX12_mark_30 : decode cX12_mark 30 = .ok (.invokevirtual 95, 3) := by decide +kernel
theorem dX12_mark_33 : decode cX12_mark 33 = .ok (.ireturn, 1) := by decide +kernel
theorem dX12_mark_34 : decode cX12_mark 34 = .ok (.iconst 0, 1) := by decide +kernel
theorem dX12_mark_35 : decode cX12_mark 35 = .ok (.istore_n 3, 1) := by decide +kernel
theorem dX12_mark_36 : decode cX12_mark 36 = .ok (.iconst 0, 1) := by decide +kernel
theorem dX12_mark_37 : decode cX12_mark 37 = .ok (.istore 4, 2) := by decide +kernel
theorem dX12_mark_39 : decode cX12_mark 39 = .ok (.iload 4, 2) := by decide +kernel
theorem dX12_mark_41 : decode cX12_mark 41 = .ok (.aload_n 0, 1) := by decide +kernel
theorem dX12_mark_42 : decode cX12_mark 42 = .ok (.getfield 156, 3) := by decide +kernel
theorem dX12_mark_45 : decode cX12_mark 45 = .ok (.if_icmp .ge 39, 3) := by decide +kernel
theorem dX12_mark_48 : decode cX12_mark 48 = .ok (.iload_n 3, 1) := by decide +kernel
theorem dX12_mark_49 : decode cX12_mark 49 = .ok (.aload_n 0, 1) := by decide +kernel
theorem dX12_mark_50 : decode cX12_mark 50 = .ok (.iload 4, 2) := by decide +kernel
theorem dX12_mark_52 : decode cX12_mark 52 = .ok (.iconst 0, 1) := by decide +kernel
theorem dX12_mark_53 : decode cX12_mark 53 = .ok (.invokevirtual 168, 3) := by decide +kernel
theorem dX12_mark_56 : decode cX12_mark 56 = .ok (.iconst 5, 1) := by decide +kernel
theorem dX12_mark_57 : decode cX12_mark 57 = .ok (.if_icmp .ne 18, 3) := by decide +kernel
theorem dX12_mark_60 : decode cX12_mark 60 = .ok (.aload_n 0, 1) := by decide +kernel
theorem dX12_mark_61 : decode cX12_mark 61 = .ok (.iload 4, 2) := by decide +kernel
theorem dX12_mark_63 : decode cX12_mark 63 = .ok (.iconst 2, 1) := by decide +kernel
theorem dX12_mark_64 : decode cX12_mark 64 = .ok (.invokevirtual 168, 3) := by decide +kernel
theorem dX12_mark_67 : decode cX12_mark 67 = .ok (.iload_n 1, 1) := by decide +kernel
theorem dX12_mark_68 : decode cX12_mark 68 = .ok (.if_icmp .ne 7, 3) := by decide +kernel
theorem dX12_mark_71 : decode cX12_mark 71 = .ok (.iconst 1, 1) := by decide +kernel
theorem dX12_mark_72 : decode cX12_mark 72 = .ok (.goto 4, 3) := by decide +kernel
theorem dX12_mark_75 : decode cX12_mark 75 = .ok (.iconst 0, 1) := by decide +kernel
theorem dX12_mark_76 : decode cX12_mark 76 = .ok (.iadd, 1) := by decide +kernel
theorem dX12_mark_77 : decode cX12_mark 77 = .ok (.istore_n 3, 1) := by decide +kernel
theorem dX12_mark_78 : decode cX12_mark 78 = .ok (.iinc 4 1, 3) := by decide +kernel
theorem dX12_mark_81 : decode cX12_mark 81 = .ok (.goto (-42), 3) := by decide +kernel
theorem dX12_mark_84 : decode cX12_mark 84 = .ok (.iload_n 2, 1) := by decide +kernel
theorem dX12_mark_85 : decode cX12_mark 85 = .ok (.tableswitch 94 1 4 #[31, 37, 44, 56], 31) := by decide +kernel
theorem dX12_mark_116 : decode cX12_mark 116 = .ok (.aload_n 0, 1) := by decide +kernel
theorem dX12_mark_117 : decode cX12_mark 117 = .ok (.iconst 1, 1) := by decide +kernel
theorem dX12_mark_118 : decode cX12_mark 118 = .ok (.invokevirtual 175, 3) := by decide +kernel
theorem dX12_mark_121 : decode cX12_mark 121 = .ok (.ireturn, 1) := by decide +kernel
theorem dX12_mark_122 : decode cX12_mark 122 = .ok (.aload_n 0, 1) := by decide +kernel
theorem dX12_mark_123 : decode cX12_mark 123 = .ok (.iload_n 1, 1) := by decide +kernel
theorem dX12_mark_124 : decode cX12_mark 124 = .ok (.iconst 1, 1) := by decide +kernel
theorem dX12_mark_125 : decode cX12_mark 125 = .ok (.invokevirtual 168, 3) := by decide +kernel
theorem dX12_mark_128 : decode cX12_mark 128 = .ok (.ireturn, 1) := by decide +kernel
theorem dX12_mark_129 : decode cX12_mark 129 = .ok (.aload_n 0, 1) := by decide +kernel
theorem dX12_mark_130 : decode cX12_mark 130 = .ok (.iload_n 1, 1) := by decide +kernel
theorem dX12_mark_131 : decode cX12_mark 131 = .ok (.iconst 2, 1) := by decide +kernel
theorem dX12_mark_132 : decode cX12_mark 132 = .ok (.invokevirtual 168, 3) := by decide +kernel
theorem dX12_mark_135 : decode cX12_mark 135 = .ok (.aload_n 0, 1) := by decide +kernel
theorem dX12_mark_136 : decode cX12_mark 136 = .ok (.getfield 159, 3) := by decide +kernel
theorem dX12_mark_139 : decode cX12_mark 139 = .ok (.imul, 1) := by decide +kernel
theorem dX12_mark_140 : decode cX12_mark 140 = .ok (.ireturn, 1) := by decide +kernel
theorem dX12_mark_141 : decode cX12_mark 141 = .ok (.aload_n 0, 1) := by decide +kernel
theorem dX12_mark_142 : decode cX12_mark 142 = .ok (.getfield 35, 3) := by decide +kernel
theorem dX12_mark_145 : decode cX12_mark 145 = .ok (.iconst 0, 1) := by decide +kernel
theorem dX12_mark_146 : decode cX12_mark 146 = .ok (.iaload, 1) := by decide +kernel
theorem dX12_mark_147 : decode cX12_mark 147 = .ok (.aload_n 0, 1) := by decide +kernel
theorem dX12_mark_148 : decode cX12_mark 148 = .ok (.getfield 35, 3) := by decide +kernel
theorem dX12_mark_151 : decode cX12_mark 151 = .ok (.iconst 1, 1) := by decide +kernel
theorem dX12_mark_152 : decode cX12_mark 152 = .ok (.iaload, 1) := by decide +kernel
theorem dX12_mark_153 : decode cX12_mark 153 = .ok (.if_icmp .le 12, 3) := by decide +kernel
theorem dX12_mark_156 : decode cX12_mark 156 = .ok (.aload_n 0, 1) := by decide +kernel
theorem dX12_mark_157 : decode cX12_mark 157 = .ok (.getfield 35, 3) := by decide +kernel
theorem dX12_mark_160 : decode cX12_mark 160 = .ok (.iconst 0, 1) := by decide +kernel
theorem dX12_mark_161 : decode cX12_mark 161 = .ok (.iaload, 1) := by decide +kernel
theorem dX12_mark_162 : decode cX12_mark 162 = .ok (.goto 9, 3) := by decide +kernel
theorem dX12_mark_165 : decode cX12_mark 165 = .ok (.aload_n 0, 1) := by decide +kernel
theorem dX12_mark_166 : decode cX12_mark 166 = .ok (.getfield 35, 3) := by decide +kernel
theorem dX12_mark_169 : decode cX12_mark 169 = .ok (.iconst 1, 1) := by decide +kernel
theorem dX12_mark_170 : decode cX12_mark 170 = .ok (.iaload, 1) := by decide +kernel
theorem dX12_mark_171 : decode cX12_mark 171 = .ok (.aload_n 0, 1) := by decide +kernel
theorem dX12_mark_172 : decode cX12_mark 172 = .ok (.iload_n 1, 1) := by decide +kernel
theorem dX12_mark_173 : decode cX12_mark 173 = .ok (.iconst 2, 1) := by decide +kernel
theorem dX12_mark_174 : decode cX12_mark 174 = .ok (.invokevirtual 168, 3) := by decide +kernel
theorem dX12_mark_177 : decode cX12_mark 177 = .ok (.idiv, 1) := by decide +kernel
theorem dX12_mark_178 : decode cX12_mark 178 = .ok (.ireturn, 1) := by decide +kernel
theorem dX12_mark_179 : decode cX12_mark 179 = .ok (.iload_n 3, 1) := by decide +kernel
theorem dX12_mark_180 : decode cX12_mark 180 = .ok (.ireturn, 1) := by decide +kernel
theorem dX12_stock_0 : decode cX12_stock 0 = .ok (.iload_n 1, 1) := by decide +kernel
theorem dX12_stock_1 : decode cX12_stock 1 = .ok (.iconst 0, 1) := by decide +kernel
theorem dX12_stock_2 : decode cX12_stock 2 = .ok (.iconst 1, 1) := by decide +kernel
theorem dX12_stock_3 : decode cX12_stock 3 = .ok (.invokestatic 87, 3) := by decide +kernel
theorem dX12_stock_6 : decode cX12_stock 6 = .ok (.ifCond .eq 13, 3) := by decide +kernel
theorem dX12_stock_9 : decode cX12_stock 9 = .ok (.iload_n 2, 1) := by decide +kernel
theorem dX12_stock_10 : decode cX12_stock 10 = .ok (.iconst 0, 1) := by decide +kernel
theorem dX12_stock_11 : decode cX12_stock 11 = .ok (.bipush 40, 2) := by decide +kernel
theorem dX12_stock_13 : decode cX12_stock 13 = .ok (.invokestatic 87, 3) := by decide +kernel
theorem dX12_stock_16 : decode cX12_stock 16 = .ok (.ifCond .ne 5, 3) := by decide +kernel
theorem dX12_stock_19 : decode cX12_stock 19 = .ok (.iconst (-1), 1) := by decide +kernel
theorem dX12_stock_20 : decode cX12_stock 20 = .ok (.ireturn, 1) := by decide +kernel
theorem dX12_stock_21 : decode cX12_stock 21 = .ok (.aload_n 0, 1) := by decide +kernel
theorem dX12_stock_22 : decode cX12_stock 22 = .ok (.getfield 35, 3) := by decide +kernel
theorem dX12_stock_25 : decode cX12_stock 25 = .ok (.iload_n 1, 1) := by decide +kernel
theorem dX12_stock_26 : decode cX12_stock 26 = .ok (.iaload, 1) := by decide +kernel
theorem dX12_stock_27 : decode cX12_stock 27 = .ok (.istore_n 3, 1) := by decide +kernel
theorem dX12_stock_28 : decode cX12_stock 28 = .ok (.aload_n 0, 1) := by decide +kernel
theorem dX12_stock_29 : decode cX12_stock 29 = .ok (.getfield 35, 3) := by decide +kernel
theorem dX12_stock_32 : decode cX12_stock 32 = .ok (.iload_n 1, 1) := by decide +kernel
theorem dX12_stock_33 : decode cX12_stock 33 = .ok (.iload_n 2, 1) := by decide +kernel
theorem dX12_stock_34 : decode cX12_stock 34 = .ok (.iastore, 1) := by decide +kernel
theorem dX12_stock_35 : decode cX12_stock 35 = .ok (.iload_n 3, 1) := by decide +kernel
theorem dX12_stock_36 : decode cX12_stock 36 = .ok (.ireturn, 1) := by decide +kernel
theorem dX12_damp_0 : decode cX12_damp 0 = .ok (.iload_n 1, 1) := by decide +kernel
theorem dX12_damp_1 : decode cX12_damp 1 = .ok (.iconst 0, 1) := by decide +kernel
theorem dX12_damp_2 : decode cX12_damp 2 = .ok (.bipush 9, 2) := by decide +kernel
theorem dX12_damp_4 : decode cX12_damp 4 = .ok (.invokestatic 87, 3) := by decide +kernel
theorem dX12_damp_7 : decode cX12_damp 7 = .ok (.ifCond .ne 5, 3) := by decide +kernel
theorem dX12_damp_10 : decode cX12_damp 10 = .ok (.iconst (-1), 1) := by decide +kernel
theorem dX12_damp_11 : decode cX12_damp 11 = .ok (.ireturn, 1) := by decide +kernel
theorem dX12_damp_12 : decode cX12_damp 12 = .ok (.aload_n 0, 1) := by decide +kernel
theorem dX12_damp_13 : decode cX12_damp 13 = .ok (.getfield 159, 3) := by decide +kernel
theorem dX12_damp_16 : decode cX12_damp 16 = .ok (.istore_n 2, 1) := by decide +kernel
theorem dX12_damp_17 : decode cX12_damp 17 = .ok (.aload_n 0, 1) := by decide +kernel
theorem dX12_damp_18 : decode cX12_damp 18 = .ok (.iload_n 1, 1) := by decide +kernel
theorem dX12_damp_19 : decode cX12_damp 19 = .ok (.putfield 159, 3) := by decide +kernel
theorem dX12_damp_22 : decode cX12_damp 22 = .ok (.iload_n 2, 1) := by decide +kernel
theorem dX12_damp_23 : decode cX12_damp 23 = .ok (.ireturn, 1) := by decide +kernel
theorem dX12_weight_0 : decode cX12_weight 0 = .ok (.aload_n 0, 1) := by decide +kernel
theorem dX12_weight_1 : decode cX12_weight 1 = .ok (.iload_n 1, 1) := by decide +kernel
theorem dX12_weight_2 : decode cX12_weight 2 = .ok (.iconst 0, 1) := by decide +kernel
theorem dX12_weight_3 : decode cX12_weight 3 = .ok (.invokevirtual 168, 3) := by decide +kernel
theorem dX12_weight_6 : decode cX12_weight 6 = .ok (.istore 4, 2) := by decide +kernel
theorem dX12_weight_8 : decode cX12_weight 8 = .ok (.aload_n 0, 1) := by decide +kernel
theorem dX12_weight_9 : decode cX12_weight 9 = .ok (.iload_n 1, 1) := by decide +kernel
theorem dX12_weight_10 : decode cX12_weight 10 = .ok (.iconst 2, 1) := by decide +kernel
theorem dX12_weight_11 : decode cX12_weight 11 = .ok (.invokevirtual 168, 3) := by decide +kernel
theorem dX12_weight_14 : decode cX12_weight 14 = .ok (.istore 5, 2) := by decide +kernel
theorem dX12_weight_16 : decode cX12_weight 16 = .ok (.iload 4, 2) := by decide +kernel
theorem dX12_weight_18 : decode cX12_weight 18 = .ok (.iconst 5, 1) := by decide +kernel
theorem dX12_weight_19 : decode cX12_weight 19 = .ok (.if_icmp .ne 22, 3) := by decide +kernel
theorem dX12_weight_22 : decode cX12_weight 22 = .ok (.iload_n 3, 1) := by decide +kernel
theorem dX12_weight_23 : decode cX12_weight 23 = .ok (.aload_n 0, 1) := by decide +kernel
theorem dX12_weight_24 : decode cX12_weight 24 = .ok (.getfield 47, 3) := by decide +kernel
theorem dX12_weight_27 : decode cX12_weight 27 = .ok (.iload 5, 2) := by decide +kernel
theorem dX12_weight_29 : decode cX12_weight 29 = .ok (.iaload, 1) := by decide +kernel
theorem dX12_weight_30 : decode cX12_weight 30 = .ok (.iload_n 2, 1) := by decide +kernel
theorem dX12_weight_31 : decode cX12_weight 31 = .ok (.if_icmp .ne 7, 3) := by decide +kernel
theorem dX12_weight_34 : decode cX12_weight 34 = .ok (.iconst 2, 1) := by decide +kernel
theorem dX12_weight_35 : decode cX12_weight 35 = .ok (.goto 4, 3) := by decide +kernel
theorem dX12_weight_38 : decode cX12_weight 38 = .ok (.iconst 0, 1) := by decide +kernel
theorem dX12_weight_39 : decode cX12_weight 39 = .ok (.iadd, 1) := by decide +kernel
theorem dX12_weight_40 : decode cX12_weight 40 = .ok (.ireturn, 1) := by decide +kernel
theorem dX12_weight_41 : decode cX12_weight 41 = .ok (.iload 4, 2) := by decide +kernel
theorem dX12_weight_43 : decode cX12_weight 43 = .ok (.iconst 3, 1) := by decide +kernel
theorem dX12_weight_44 : decode cX12_weight 44 = .ok (.if_icmp .eq 9, 3) := by decide +kernel
theorem dX12_weight_47 : decode cX12_weight 47 = .ok (.iload 4, 2) := by decide +kernel
theorem dX12_weight_49 : decode cX12_weight 49 = .ok (.iconst 4, 1) := by decide +kernel
theorem dX12_weight_50 : decode cX12_weight 50 = .ok (.if_icmp .ne 33, 3) := by decide +kernel
theorem dX12_weight_53 : decode cX12_weight 53 = .ok (.iload_n 3, 1) := by decide +kernel
theorem dX12_weight_54 : decode cX12_weight 54 = .ok (.ifCond .eq 15, 3) := by decide +kernel
theorem dX12_weight_57 : decode cX12_weight 57 = .ok (.iload 4, 2) := by decide +kernel
theorem dX12_weight_59 : decode cX12_weight 59 = .ok (.iconst 4, 1) := by decide +kernel
theorem dX12_weight_60 : decode cX12_weight 60 = .ok (.if_icmp .ne 13, 3) := by decide +kernel
theorem dX12_weight_63 : decode cX12_weight 63 = .ok (.iload_n 3, 1) := by decide +kernel
theorem dX12_weight_64 : decode cX12_weight 64 = .ok (.iload 5, 2) := by decide +kernel
theorem dX12_weight_66 : decode cX12_weight 66 = .ok (.if_icmp .ge 7, 3) := by decide +kernel
theorem dX12_weight_69 : decode cX12_weight 69 = .ok (.iconst 0, 1) := by decide +kernel
theorem dX12_weight_70 : decode cX12_weight 70 = .ok (.goto 12, 3) := by decide +kernel
theorem dX12_weight_73 : decode cX12_weight 73 = .ok (.iload_n 3, 1) := by decide +kernel
theorem dX12_weight_74 : decode cX12_weight 74 = .ok (.iload 5, 2) := by decide +kernel
theorem dX12_weight_76 : decode cX12_weight 76 = .ok (.aload_n 0, 1) := by decide +kernel
theorem dX12_weight_77 : decode cX12_weight 77 = .ok (.getfield 159, 3) := by decide +kernel
theorem dX12_weight_80 : decode cX12_weight 80 = .ok (.imul, 1) := by decide +kernel
theorem dX12_weight_81 : decode cX12_weight 81 = .ok (.iadd, 1) := by decide +kernel
theorem dX12_weight_82 : decode cX12_weight 82 = .ok (.ireturn, 1) := by decide +kernel
theorem dX12_weight_83 : decode cX12_weight 83 = .ok (.iload_n 3, 1) := by decide +kernel
theorem dX12_weight_84 : decode cX12_weight 84 = .ok (.ireturn, 1) := by decide +kernel
theorem dX12_winnerOf_0 : decode cX12_winnerOf 0 = .ok (.aload_n 0, 1) := by decide +kernel
theorem dX12_winnerOf_1 : decode cX12_winnerOf 1 = .ok (.iload_n 1, 1) := by decide +kernel
theorem dX12_winnerOf_2 : decode cX12_winnerOf 2 = .ok (.iconst 0, 1) := by decide +kernel
theorem dX12_winnerOf_3 : decode cX12_winnerOf 3 = .ok (.iload_n 2, 1) := by decide +kernel
theorem dX12_winnerOf_4 : decode cX12_winnerOf 4 = .ok (.invokevirtual 178, 3) := by decide +kernel
theorem dX12_winnerOf_7 : decode cX12_winnerOf 7 = .ok (.istore 4, 2) := by decide +kernel
theorem dX12_winnerOf_9 : decode cX12_winnerOf 9 = .ok (.aload_n 0, 1) := by decide +kernel
theorem dX12_winnerOf_10 : decode cX12_winnerOf 10 = .ok (.iload_n 1, 1) := by decide +kernel
theorem dX12_winnerOf_11 : decode cX12_winnerOf 11 = .ok (.iconst 1, 1) := by decide +kernel
theorem dX12_winnerOf_12 : decode cX12_winnerOf 12 = .ok (.iload_n 3, 1) := by decide +kernel
theorem dX12_winnerOf_13 : decode cX12_winnerOf 13 = .ok (.invokevirtual 178, 3) := by decide +kernel
theorem dX12_winnerOf_16 : decode cX12_winnerOf 16 = .ok (.istore 5, 2) := by decide +kernel
theorem dX12_winnerOf_18 : decode cX12_winnerOf 18 = .ok (.iload 4, 2) := by decide +kernel
theorem dX12_winnerOf_20 : decode cX12_winnerOf 20 = .ok (.iload 5, 2) := by decide +kernel
theorem dX12_winnerOf_22 : decode cX12_winnerOf 22 = .ok (.if_icmp .ne 18, 3) := by decide +kernel
theorem dX12_winnerOf_25 : decode cX12_winnerOf 25 = .ok (.aload_n 0, 1) := by decide +kernel
theorem dX12_winnerOf_26 : decode cX12_winnerOf 26 = .ok (.iload_n 1, 1) := by decide +kernel
theorem dX12_winnerOf_27 : decode cX12_winnerOf 27 = .ok (.iconst 1, 1) := by decide +kernel
theorem dX12_winnerOf_28 : decode cX12_winnerOf 28 = .ok (.invokevirtual 171, 3) := by decide +kernel
theorem dX12_winnerOf_31 : decode cX12_winnerOf 31 = .ok (.ifCond .eq 7, 3) := by decide +kernel
theorem dX12_winnerOf_34 : decode cX12_winnerOf 34 = .ok (.iconst 0, 1) := by decide +kernel
theorem dX12_winnerOf_35 : decode cX12_winnerOf 35 = .ok (.goto 4, 3) := by decide +kernel
theorem dX12_winnerOf_38 : decode cX12_winnerOf 38 = .ok (.iconst 2, 1) := by decide +kernel
theorem dX12_winnerOf_39 : decode cX12_winnerOf 39 = .ok (.ireturn, 1) := by decide +kernel
theorem dX12_winnerOf_40 : decode cX12_winnerOf 40 = .ok (.iload 4, 2) := by decide +kernel
theorem dX12_winnerOf_42 : decode cX12_winnerOf 42 = .ok (.iload 5, 2) := by decide +kernel
theorem dX12_winnerOf_44 : decode cX12_winnerOf 44 = .ok (.if_icmp .le 7, 3) := by decide +kernel
theorem dX12_winnerOf_47 : decode cX12_winnerOf 47 = .ok (.iconst 1, 1) := by decide +kernel
theorem dX12_winnerOf_48 : decode cX12_winnerOf 48 = .ok (.goto 4, 3) := by decide +kernel
theorem dX12_winnerOf_51 : decode cX12_winnerOf 51 = .ok (.iconst 0, 1) := by decide +kernel
theorem dX12_winnerOf_52 : decode cX12_winnerOf 52 = .ok (.aload_n 0, 1) := by decide +kernel
theorem dX12_winnerOf_53 : decode cX12_winnerOf 53 = .ok (.iload_n 1, 1) := by decide +kernel
theorem dX12_winnerOf_54 : decode cX12_winnerOf 54 = .ok (.iconst 0, 1) := by decide +kernel
theorem dX12_winnerOf_55 : decode cX12_winnerOf 55 = .ok (.invokevirtual 168, 3) := by decide +kernel
theorem dX12_winnerOf_58 : decode cX12_winnerOf 58 = .ok (.iconst 2, 1) := by decide +kernel
theorem dX12_winnerOf_59 : decode cX12_winnerOf 59 = .ok (.if_icmp .eq 7, 3) := by decide +kernel
theorem dX12_winnerOf_62 : decode cX12_winnerOf 62 = .ok (.iconst 1, 1) := by decide +kernel
theorem dX12_winnerOf_63 : decode cX12_winnerOf 63 = .ok (.goto 4, 3) := by decide +kernel
theorem dX12_winnerOf_66 : decode cX12_winnerOf 66 = .ok (.iconst 0, 1) := by decide +kernel
theorem dX12_winnerOf_67 : decode cX12_winnerOf 67 = .ok (.if_icmp .ne 7, 3) := by decide +kernel
theorem dX12_winnerOf_70 : decode cX12_winnerOf 70 = .ok (.iconst 0, 1) := by decide +kernel
theorem dX12_winnerOf_71 : decode cX12_winnerOf 71 = .ok (.goto 4, 3) := by decide +kernel
theorem dX12_winnerOf_74 : decode cX12_winnerOf 74 = .ok (.iconst 1, 1) := by decide +kernel
theorem dX12_winnerOf_75 : decode cX12_winnerOf 75 = .ok (.ireturn, 1) := by decide +kernel
theorem dX12_worthOf_0 : decode cX12_worthOf 0 = .ok (.iload_n 2, 1) := by decide +kernel
theorem dX12_worthOf_1 : decode cX12_worthOf 1 = .ok (.iload_n 3, 1) := by decide +kernel
theorem dX12_worthOf_2 : decode cX12_worthOf 2 = .ok (.if_icmp .ne 14, 3) := by decide +kernel
theorem dX12_worthOf_5 : decode cX12_worthOf 5 = .ok (.iconst 2, 1) := by decide +kernel
theorem dX12_worthOf_6 : decode cX12_worthOf 6 = .ok (.aload_n 0, 1) := by decide +kernel
theorem dX12_worthOf_7 : decode cX12_worthOf 7 = .ok (.iload_n 1, 1) := by decide +kernel
theorem dX12_worthOf_8 : decode cX12_worthOf 8 = .ok (.iconst 1, 1) := by decide +kernel
theorem dX12_worthOf_9 : decode cX12_worthOf 9 = .ok (.invokevirtual 168, 3) := by decide +kernel
theorem dX12_worthOf_12 : decode cX12_worthOf 12 = .ok (.imul, 1) := by decide +kernel
theorem dX12_worthOf_13 : decode cX12_worthOf 13 = .ok (.goto 18, 3) := by decide +kernel
theorem dX12_worthOf_16 : decode cX12_worthOf 16 = .ok (.iload_n 2, 1) := by decide +kernel
theorem dX12_worthOf_17 : decode cX12_worthOf 17 = .ok (.iconst 2, 1) := by decide +kernel
theorem dX12_worthOf_18 : decode cX12_worthOf 18 = .ok (.if_icmp .ne 12, 3) := by decide +kernel
theorem dX12_worthOf_21 : decode cX12_worthOf 21 = .ok (.aload_n 0, 1) := by decide +kernel
theorem dX12_worthOf_22 : decode cX12_worthOf 22 = .ok (.iload_n 1, 1) := by decide +kernel
theorem dX12_worthOf_23 : decode cX12_worthOf 23 = .ok (.iconst 1, 1) := by decide +kernel
theorem dX12_worthOf_24 : decode cX12_worthOf 24 = .ok (.invokevirtual 168, 3) := by decide +kernel
theorem dX12_worthOf_27 : decode cX12_worthOf 27 = .ok (.goto 4, 3) := by decide +kernel
theorem dX12_worthOf_30 : decode cX12_worthOf 30 = .ok (.iconst 0, 1) := by decide +kernel
theorem dX12_worthOf_31 : decode cX12_worthOf 31 = .ok (.ireturn, 1) := by decide +kernel
theorem dX12_setWinners_0 : decode cX12_setWinners 0 = .ok (.iconst 0, 1) := by decide +kernel
theorem dX12_setWinners_1 : decode cX12_setWinners 1 = .ok (.istore_n 1, 1) := by decide +kernel
theorem dX12_setWinners_2 : decode cX12_setWinners 2 = .ok (.iload_n 1, 1) := by decide +kernel
theorem dX12_setWinners_3 : decode cX12_setWinners 3 = .ok (.aload_n 0, 1) := by decide +kernel
theorem dX12_setWinners_4 : decode cX12_setWinners 4 = .ok (.getfield 156, 3) := by decide +kernel
theorem dX12_setWinners_7 : decode cX12_setWinners 7 = .ok (.if_icmp .ge 32, 3) := by decide +kernel
theorem dX12_setWinners_10 : decode cX12_setWinners 10 = .ok (.aload_n 0, 1) := by decide +kernel
theorem dX12_setWinners_11 : decode cX12_setWinners 11 = .ok (.getfield 47, 3) := by decide +kernel
theorem dX12_setWinners_14 : decode cX12_setWinners 14 = .ok (.iload_n 1, 1) := by decide +kernel
theorem dX12_setWinners_15 : decode cX12_setWinners 15 = .ok (.aload_n 0, 1) := by decide +kernel
theorem dX12_setWinners_16 : decode cX12_setWinners 16 = .ok (.iload_n 1, 1) := by decide +kernel
theorem dX12_setWinners_17 : decode cX12_setWinners 17 = .ok (.aload_n 0, 1) := by decide +kernel
theorem dX12_setWinners_18 : decode cX12_setWinners 18 = .ok (.getfield 41, 3) := by decide +kernel
theorem dX12_setWinners_21 : decode cX12_setWinners 21 = .ok (.iload_n 1, 1) := by decide +kernel
theorem dX12_setWinners_22 : decode cX12_setWinners 22 = .ok (.iaload, 1) := by decide +kernel
theorem dX12_setWinners_23 : decode cX12_setWinners 23 = .ok (.aload_n 0, 1) := by decide +kernel
theorem dX12_setWinners_24 : decode cX12_setWinners 24 = .ok (.getfield 44, 3) := by decide +kernel
theorem dX12_setWinners_27 : decode cX12_setWinners 27 = .ok (.iload_n 1, 1) := by decide +kernel
theorem dX12_setWinners_28 : decode cX12_setWinners 28 = .ok (.iaload, 1) := by decide +kernel
theorem dX12_setWinners_29 : decode cX12_setWinners 29 = .ok (.invokevirtual 182, 3) := by decide +kernel
theorem dX12_setWinners_32 : decode cX12_setWinners 32 = .ok (.iastore, 1) := by decide +kernel
theorem dX12_setWinners_33 : decode cX12_setWinners 33 = .ok (.iinc 1 1, 3) := by decide +kernel
theorem dX12_setWinners_36 : decode cX12_setWinners 36 = .ok (.goto (-34), 3) := by decide +kernel
theorem dX12_setWinners_39 : decode cX12_setWinners 39 = .ok (.return_, 1) := by decide +kernel
theorem dX12_scoreOf_0 : decode cX12_scoreOf 0 = .ok (.iconst 0, 1) := by decide +kernel
theorem dX12_scoreOf_1 : decode cX12_scoreOf 1 = .ok (.istore_n 2, 1) := by decide +kernel
theorem dX12_scoreOf_2 : decode cX12_scoreOf 2 = .ok (.iconst 0, 1) := by decide +kernel
theorem dX12_scoreOf_3 : decode cX12_scoreOf 3 = .ok (.istore_n 3, 1) := by decide +kernel
theorem dX12_scoreOf_4 : decode cX12_scoreOf 4 = .ok (.iload_n 3, 1) := by decide +kernel
theorem dX12_scoreOf_5 : decode cX12_scoreOf 5 = .ok (.aload_n 0, 1) := by decide +kernel
theorem dX12_scoreOf_6 : decode cX12_scoreOf 6 = .ok (.getfield 156, 3) := by decide +kernel
theorem dX12_scoreOf_9 : decode cX12_scoreOf 9 = .ok (.if_icmp .ge 24, 3) := by decide +kernel
theorem dX12_scoreOf_12 : decode cX12_scoreOf 12 = .ok (.iload_n 2, 1) := by decide +kernel
theorem dX12_scoreOf_13 : decode cX12_scoreOf 13 = .ok (.aload_n 0, 1) := by decide +kernel
theorem dX12_scoreOf_14 : decode cX12_scoreOf 14 = .ok (.iload_n 3, 1) := by decide +kernel
theorem dX12_scoreOf_15 : decode cX12_scoreOf 15 = .ok (.aload_n 0, 1) := by decide +kernel
theorem dX12_scoreOf_16 : decode cX12_scoreOf 16 = .ok (.getfield 47, 3) := by decide +kernel
theorem dX12_scoreOf_19 : decode cX12_scoreOf 19 = .ok (.iload_n 3, 1) := by decide +kernel
theorem dX12_scoreOf_20 : decode cX12_scoreOf 20 = .ok (.iaload, 1) := by decide +kernel
theorem dX12_scoreOf_21 : decode cX12_scoreOf 21 = .ok (.iload_n 1, 1) := by decide +kernel
theorem dX12_scoreOf_22 : decode cX12_scoreOf 22 = .ok (.invokevirtual 185, 3) := by decide +kernel
theorem dX12_scoreOf_25 : decode cX12_scoreOf 25 = .ok (.iadd, 1) := by decide +kernel
theorem dX12_scoreOf_26 : decode cX12_scoreOf 26 = .ok (.istore_n 2, 1) := by decide +kernel
theorem dX12_scoreOf_27 : decode cX12_scoreOf 27 = .ok (.iinc 3 1, 3) := by decide +kernel
theorem dX12_scoreOf_30 : decode cX12_scoreOf 30 = .ok (.goto (-26), 3) := by decide +kernel
theorem dX12_scoreOf_33 : decode cX12_scoreOf 33 = .ok (.iload_n 2, 1) := by decide +kernel
theorem dX12_scoreOf_34 : decode cX12_scoreOf 34 = .ok (.ireturn, 1) := by decide +kernel
theorem dX12_wonSet_0 : decode cX12_wonSet 0 = .ok (.iconst 0, 1) := by decide +kernel
theorem dX12_wonSet_1 : decode cX12_wonSet 1 = .ok (.istore_n 1, 1) := by decide +kernel
theorem dX12_wonSet_2 : decode cX12_wonSet 2 = .ok (.iconst 0, 1) := by decide +kernel
theorem dX12_wonSet_3 : decode cX12_wonSet 3 = .ok (.istore_n 2, 1) := by decide +kernel
theorem dX12_wonSet_4 : decode cX12_wonSet 4 = .ok (.iload_n 2, 1) := by decide +kernel
theorem dX12_wonSet_5 : decode cX12_wonSet 5 = .ok (.aload_n 0, 1) := by decide +kernel
theorem dX12_wonSet_6 : decode cX12_wonSet 6 = .ok (.getfield 156, 3) := by decide +kernel
theorem dX12_wonSet_9 : decode cX12_wonSet 9 = .ok (.if_icmp .ge 28, 3) := by decide +kernel
theorem dX12_wonSet_12 : decode cX12_wonSet 12 = .ok (.iload_n 1, 1) := by decide +kernel
theorem dX12_wonSet_13 : decode cX12_wonSet 13 = .ok (.aload_n 0, 1) := by decide +kernel
theorem dX12_wonSet_14 : decode cX12_wonSet 14 = .ok (.getfield 47, 3) := by decide +kernel
theorem dX12_wonSet_17 : decode cX12_wonSet 17 = .ok (.iload_n 2, 1) := by decide +kernel
theorem dX12_wonSet_18 : decode cX12_wonSet 18 = .ok (.iaload, 1) := by decide +kernel
theorem dX12_wonSet_19 : decode cX12_wonSet 19 = .ok (.ifCond .ne 9, 3) := by decide +kernel
theorem dX12_wonSet_22 : decode cX12_wonSet 22 = .ok (.iconst 1, 1) := by decide +kernel
theorem dX12_wonSet_23 : decode cX12_wonSet 23 = .ok (.iload_n 2, 1) := by decide +kernel
theorem dX12_wonSet_24 : decode cX12_wonSet 24 = .ok (.ishl, 1) := by decide +kernel
theorem dX12_wonSet_25 : decode cX12_wonSet 25 = .ok (.goto 4, 3) := by decide +kernel
theorem dX12_wonSet_28 : decode cX12_wonSet 28 = .ok (.iconst 0, 1) := by decide +kernel
theorem dX12_wonSet_29 : decode cX12_wonSet 29 = .ok (.ior, 1) := by decide +kernel
theorem dX12_wonSet_30 : decode cX12_wonSet 30 = .ok (.istore_n 1, 1) := by decide +kernel
theorem dX12_wonSet_31 : decode cX12_wonSet 31 = .ok (.iinc 2 1, 3) := by decide +kernel
theorem dX12_wonSet_34 : decode cX12_wonSet 34 = .ok (.goto (-30), 3) := by decide +kernel
theorem dX12_wonSet_37 : decode cX12_wonSet 37 = .ok (.iload_n 1, 1) := by decide +kernel
theorem dX12_wonSet_38 : decode cX12_wonSet 38 = .ok (.ireturn, 1) := by decide +kernel
theorem dX12_askedSize_0 : decode cX12_askedSize 0 = .ok (.aload_n 0, 1) := by decide +kernel
theorem dX12_askedSize_1 : decode cX12_askedSize 1 = .ok (.getfield 17, 3) := by decide +kernel
theorem dX12_askedSize_4 : decode cX12_askedSize 4 = .ok (.iload_n 1, 1) := by decide +kernel
theorem dX12_askedSize_5 : decode cX12_askedSize 5 = .ok (.iaload, 1) := by decide +kernel
theorem dX12_askedSize_6 : decode cX12_askedSize 6 = .ok (.aload_n 0, 1) := by decide +kernel
theorem dX12_askedSize_7 : decode cX12_askedSize 7 = .ok (.getfield 156, 3) := by decide +kernel
theorem dX12_askedSize_10 : decode cX12_askedSize 10 = .ok (.if_icmp .ne 7, 3) := by decide +kernel
theorem dX12_askedSize_13 : decode cX12_askedSize 13 = .ok (.iconst 0, 1) := by decide +kernel
theorem dX12_askedSize_14 : decode cX12_askedSize 14 = .ok (.goto 8, 3) := by decide +kernel
theorem dX12_askedSize_17 : decode cX12_askedSize 17 = .ok (.aload_n 0, 1) := by decide +kernel
theorem dX12_askedSize_18 : decode cX12_askedSize 18 = .ok (.iconst 5, 1) := by decide +kernel
theorem dX12_askedSize_19 : decode cX12_askedSize 19 = .ok (.invokevirtual 95, 3) := by decide +kernel
theorem dX12_askedSize_22 : decode cX12_askedSize 22 = .ok (.ireturn, 1) := by decide +kernel
theorem dX12_askedNumbers_0 : decode cX12_askedNumbers 0 = .ok (.iconst 0, 1) := by decide +kernel
theorem dX12_askedNumbers_1 : decode cX12_askedNumbers 1 = .ok (.istore_n 3, 1) := by decide +kernel
theorem dX12_askedNumbers_2 : decode cX12_askedNumbers 2 = .ok (.iconst 0, 1) := by decide +kernel
theorem dX12_askedNumbers_3 : decode cX12_askedNumbers 3 = .ok (.istore 4, 2) := by decide +kernel
theorem dX12_askedNumbers_5 : decode cX12_askedNumbers 5 = .ok (.iload 4, 2) := by decide +kernel
theorem dX12_askedNumbers_7 : decode cX12_askedNumbers 7 = .ok (.aload_n 0, 1) := by decide +kernel
theorem dX12_askedNumbers_8 : decode cX12_askedNumbers 8 = .ok (.getfield 156, 3) := by decide +kernel
theorem dX12_askedNumbers_11 : decode cX12_askedNumbers 11 = .ok (.if_icmp .ge 41, 3) := by decide +kernel
theorem dX12_askedNumbers_14 : decode cX12_askedNumbers 14 = .ok (.aload_n 0, 1) := by decide +kernel
theorem dX12_askedNumbers_15 : decode cX12_askedNumbers 15 = .ok (.iload_n 1, 1) := by decide +kernel
theorem dX12_askedNumbers_16 : decode cX12_askedNumbers 16 = .ok (.iload 4, 2) := by decide +kernel
theorem dX12_askedNumbers_18 : decode cX12_askedNumbers 18 = .ok (.invokevirtual 109, 3) := by decide +kernel
theorem dX12_askedNumbers_21 : decode cX12_askedNumbers 21 = .ok (.iconst 0, 1) := by decide +kernel
theorem dX12_askedNumbers_22 : decode cX12_askedNumbers 22 = .ok (.bipush 40, 2) := by decide +kernel
theorem dX12_askedNumbers_24 : decode cX12_askedNumbers 24 = .ok (.invokestatic 87, 3) := by decide +kernel
theorem dX12_askedNumbers_27 : decode cX12_askedNumbers 27 = .ok (.ifCond .ne 9, 3) := by decide +kernel
theorem dX12_askedNumbers_30 : decode cX12_askedNumbers 30 = .ok (.aload_n 0, 1) := by decide +kernel
theorem dX12_askedNumbers_31 : decode cX12_askedNumbers 31 = .ok (.iconst 3, 1) := by decide +kernel
theorem dX12_askedNumbers_32 : decode cX12_askedNumbers 32 = .ok (.invokevirtual 95, 3) := by decide +kernel
theorem dX12_askedNumbers_35 : decode cX12_askedNumbers 35 = .ok (.ireturn, 1) := by decide +kernel
theorem dX12_askedNumbers_36 : decode cX12_askedNumbers 36 = .ok (.iload_n 3, 1) := by decide +kernel
theorem dX12_askedNumbers_37 : decode cX12_askedNumbers 37 = .ok (.aload_n 0, 1) := by decide +kernel
theorem dX12_askedNumbers_38 : decode cX12_askedNumbers 38 = .ok (.iload_n 1, 1) := by decide +kernel
theorem dX12_askedNumbers_39 : decode cX12_askedNumbers 39 = .ok (.iload 4, 2) := by decide +kernel
theorem dX12_askedNumbers_41 : decode cX12_askedNumbers 41 = .ok (.invokevirtual 109, 3) := by decide +kernel
theorem dX12_askedNumbers_44 : decode cX12_askedNumbers 44 = .ok (.iadd, 1) := by decide +kernel
theorem dX12_askedNumbers_45 : decode cX12_askedNumbers 45 = .ok (.istore_n 3, 1) := by decide +kernel
theorem dX12_askedNumbers_46 : decode cX12_askedNumbers 46 = .ok (.iinc 4 1, 3) := by decide +kernel
theorem dX12_askedNumbers_49 : decode cX12_askedNumbers 49 = .ok (.goto (-44), 3) := by decide +kernel
theorem dX12_askedNumbers_52 : decode cX12_askedNumbers 52 = .ok (.iload_n 3, 1) := by decide +kernel
theorem dX12_askedNumbers_53 : decode cX12_askedNumbers 53 = .ok (.aload_n 0, 1) := by decide +kernel
theorem dX12_askedNumbers_54 : decode cX12_askedNumbers 54 = .ok (.getfield 35, 3) := by decide +kernel
theorem dX12_askedNumbers_57 : decode cX12_askedNumbers 57 = .ok (.iload_n 2, 1) := by decide +kernel
theorem dX12_askedNumbers_58 : decode cX12_askedNumbers 58 = .ok (.iaload, 1) := by decide +kernel
theorem dX12_askedNumbers_59 : decode cX12_askedNumbers 59 = .ok (.if_icmp .le 11, 3) := by decide +kernel
theorem dX12_askedNumbers_62 : decode cX12_askedNumbers 62 = .ok (.aload_n 0, 1) := by decide +kernel
theorem dX12_askedNumbers_63 : decode cX12_askedNumbers 63 = .ok (.iconst 3, 1) := by decide +kernel
theorem dX12_askedNumbers_64 : decode cX12_askedNumbers 64 = .ok (.invokevirtual 95, 3) := by decide +kernel
theorem dX12_askedNumbers_67 : decode cX12_askedNumbers 67 = .ok (.goto 4, 3) := by decide +kernel
theorem dX12_askedNumbers_70 : decode cX12_askedNumbers 70 = .ok (.iconst 0, 1) := by decide +kernel
theorem dX12_askedNumbers_71 : decode cX12_askedNumbers 71 = .ok (.ireturn, 1) := by decide +kernel
theorem q_1248 : Cond.methodLink RX12 165 yX12_isSuit ∈ wT := wi_t 1248 (by decide +kernel) (by decide +kernel)
theorem q_1251 : Cond.code yX12_isSuit cX12_isSuit 2 (some .boolean) ∈ wT := wi_t 1251 (by decide +kernel) (by decide +kernel)
theorem q_1250 : Cond.instanceMethod yX12_isSuit ∈ wT := wi_t 1250 (by decide +kernel) (by decide +kernel)
theorem qs_45 : Cond.selects RX12 yX12_isSuit yX12_isSuit ∈ wT := wi_s (q := (yX12_isSuit, 42)) 45 (by decide +kernel) (by decide +kernel)
theorem q_1252 : Cond.methodLink RX12 168 yX12_of ∈ wT := wi_t 1252 (by decide +kernel) (by decide +kernel)
theorem q_1255 : Cond.code yX12_of cX12_of 3 (some .int) ∈ wT := wi_t 1255 (by decide +kernel) (by decide +kernel)
theorem q_1254 : Cond.instanceMethod yX12_of ∈ wT := wi_t 1254 (by decide +kernel) (by decide +kernel)
theorem qs_46 : Cond.selects RX12 yX12_of yX12_of ∈ wT := wi_s (q := (yX12_of, 42)) 46 (by decide +kernel) (by decide +kernel)
theorem q_1260 : Cond.methodLink RX12 171 yX12_isA ∈ wT := wi_t 1260 (by decide +kernel) (by decide +kernel)
theorem q_1263 : Cond.code yX12_isA cX12_isA 3 (some .boolean) ∈ wT := wi_t 1263 (by decide +kernel) (by decide +kernel)
theorem q_1262 : Cond.instanceMethod yX12_isA ∈ wT := wi_t 1262 (by decide +kernel) (by decide +kernel)
theorem qs_47 : Cond.selects RX12 yX12_isA yX12_isA ∈ wT := wi_s (q := (yX12_isA, 42)) 47 (by decide +kernel) (by decide +kernel)
theorem q_1264 : Cond.methodLink RX12 175 yX12_ofKind ∈ wT := wi_t 1264 (by decide +kernel) (by decide +kernel)
theorem q_1267 : Cond.code yX12_ofKind cX12_ofKind 4 (some .int) ∈ wT := wi_t 1267 (by decide +kernel) (by decide +kernel)
theorem q_1266 : Cond.instanceMethod yX12_ofKind ∈ wT := wi_t 1266 (by decide +kernel) (by decide +kernel)
theorem qs_48 : Cond.selects RX12 yX12_ofKind yX12_ofKind ∈ wT := wi_s (q := (yX12_ofKind, 42)) 48 (by decide +kernel) (by decide +kernel)
theorem q_1037 : Cond.fieldLink RX12 47 "HeavyFilesModel" "winner" "[I" ∈ wT := wi_t 1037 (by decide +kernel) (by decide +kernel)
theorem q_1300 : Cond.methodLink RX12 178 yX12_weight ∈ wT := wi_t 1300 (by decide +kernel) (by decide +kernel)
theorem q_1303 : Cond.code yX12_weight cX12_weight 6 (some .int) ∈ wT := wi_t 1303 (by decide +kernel) (by decide +kernel)
theorem q_1302 : Cond.instanceMethod yX12_weight ∈ wT := wi_t 1302 (by decide +kernel) (by decide +kernel)
theorem qs_54 : Cond.selects RX12 yX12_weight yX12_weight ∈ wT := wi_s (q := (yX12_weight, 42)) 54 (by decide +kernel) (by decide +kernel)
theorem q_1035 : Cond.fieldLink RX12 41 "HeavyFilesModel" "mine" "[I" ∈ wT := wi_t 1035 (by decide +kernel) (by decide +kernel)
theorem q_1036 : Cond.fieldLink RX12 44 "HeavyFilesModel" "theirs" "[I" ∈ wT := wi_t 1036 (by decide +kernel) (by decide +kernel)
theorem q_1296 : Cond.methodLink RX12 182 yX12_winnerOf ∈ wT := wi_t 1296 (by decide +kernel) (by decide +kernel)
theorem q_1299 : Cond.code yX12_winnerOf cX12_winnerOf 6 (some .int) ∈ wT := wi_t 1299 (by decide +kernel) (by decide +kernel)
theorem q_1298 : Cond.instanceMethod yX12_winnerOf ∈ wT := wi_t 1298 (by decide +kernel) (by decide +kernel)
theorem qs_53 : Cond.selects RX12 yX12_winnerOf yX12_winnerOf ∈ wT := wi_s (q := (yX12_winnerOf, 42)) 53 (by decide +kernel) (by decide +kernel)
theorem q_1308 : Cond.methodLink RX12 185 yX12_worthOf ∈ wT := wi_t 1308 (by decide +kernel) (by decide +kernel)
theorem q_1311 : Cond.code yX12_worthOf cX12_worthOf 4 (some .int) ∈ wT := wi_t 1311 (by decide +kernel) (by decide +kernel)
theorem q_1310 : Cond.instanceMethod yX12_worthOf ∈ wT := wi_t 1310 (by decide +kernel) (by decide +kernel)
theorem qs_56 : Cond.selects RX12 yX12_worthOf yX12_worthOf ∈ wT := wi_s (q := (yX12_worthOf, 42)) 56 (by decide +kernel) (by decide +kernel)
theorem kvX12_isSuit : KV yX12_isSuit RX12 cX12_isSuit 2 (some .boolean) 1 := ⟨q_1250, qs_45, q_13, q_1251, rfl, by decide +kernel, by decide +kernel, by decide +kernel⟩
theorem kvX12_of : KV yX12_of RX12 cX12_of 3 (some .int) 2 := ⟨q_1254, qs_46, q_13, q_1255, rfl, by decide +kernel, by decide +kernel, by decide +kernel⟩
theorem kvX12_isA : KV yX12_isA RX12 cX12_isA 3 (some .boolean) 2 := ⟨q_1262, qs_47, q_13, q_1263, rfl, by decide +kernel, by decide +kernel, by decide +kernel⟩
theorem kvX12_ofKind : KV yX12_ofKind RX12 cX12_ofKind 4 (some .int) 1 := ⟨q_1266, qs_48, q_13, q_1267, rfl, by decide +kernel, by decide +kernel, by decide +kernel⟩
theorem kvX12_weight : KV yX12_weight RX12 cX12_weight 6 (some .int) 3 := ⟨q_1302, qs_54, q_13, q_1303, rfl, by decide +kernel, by decide +kernel, by decide +kernel⟩
theorem kvX12_winnerOf : KV yX12_winnerOf RX12 cX12_winnerOf 6 (some .int) 3 := ⟨q_1298, qs_53, q_13, q_1299, rfl, by decide +kernel, by decide +kernel, by decide +kernel⟩
theorem kvX12_worthOf : KV yX12_worthOf RX12 cX12_worthOf 4 (some .int) 3 := ⟨q_1310, qs_56, q_13, q_1311, rfl, by decide +kernel, by decide +kernel, by decide +kernel⟩
/-! HeavyFilesModel.suit(II)I -/
def fX12_suit (N : Nat)  (a0 : Nat) (a1 : Int32) (a2 : Int32) (mm : Mm) : Option (Int32 × Mm) :=
  bd2 (fX12_isSuit N a0 a1 mm) fun x1 m2 => if x1 = 0 then (some ((-1), m2)) else (bd2 (fX12_in N a2 0 2 m2) fun x5 m6 => if x5 = 0 then (some ((-1), m6)) else (bd2 (fX12_of N a0 a1 a2 m6) fun x9 m10 => bd2 (fX12_ask N a0 x9 1 m10) fun x12 m13 => some (x12, m13)))
abbrev rmX12_suit : Room := { frames := 3, cells := 0, slots := 0, locals := 99 }
/-! HeavyFilesModel.isA(II)Z -/
def fX12_isA_25 (N : Nat)  (a0 : Nat) (a1 : Int32) (a2 : Int32) (mm : Mm) : Option (Int32 × Mm) :=
  if a2 = 3 then (bd2 (fX12_of N a0 a1 0 mm) fun x2 m3 => if x2 = 4 then (some (1, m3)) else (some (0, m3))) else (some (0, mm))
def fX12_isA (N : Nat)  (a0 : Nat) (a1 : Int32) (a2 : Int32) (mm : Mm) : Option (Int32 × Mm) :=
  bd2 (fX12_of N a0 a1 0 mm) fun x6 m7 => if x6 = a2 then (some (1, m7)) else (if a2 = 1 then (bd2 (fX12_of N a0 a1 0 m7) fun x11 m12 => if x11 = 5 then (some (1, m12)) else (fX12_isA_25 N a0 a1 a2 m12)) else (fX12_isA_25 N a0 a1 a2 m7))
abbrev rmX12_isA : Room := { frames := 2, cells := 0, slots := 0, locals := 70 }
/-! HeavyFilesModel.ofKind(I)I -/
def fX12_ofKind_27 (N : Nat) (k4 : Nat → Int32 → Int32 → Int32 → Mm → Option (Int32 × Mm)) (a0 : Nat) (a1 : Int32) (a3 : Int32) (s0 : Int32) (s1 : Int32) (mm : Mm) : Option (Int32 × Mm) :=
  k4 a0 a1 (s0 + s1) (a3 + 1) mm
def fX12_ofKind_4 (N : Nat)  : Nat → Nat → Int32 → Int32 → Int32 → Mm → Option (Int32 × Mm)
  | 0 => fun _ _ _ _ _ => none
  | n + 1 => fun a0 a1 a2 a3 mm =>
    let k4 := fX12_ofKind_4 N  n
    if (rd mm a0 10) ≤ a3 then (some (a2, mm)) else (bd2 (fX12_isA N a0 a3 a1 mm) fun x2 m3 => if x2 = 0 then (fX12_ofKind_27 N k4 a0 a1 a3 a2 0 m3) else (fX12_ofKind_27 N k4 a0 a1 a3 a2 1 m3))
def fX12_ofKind (N : Nat)  (a0 : Nat) (a1 : Int32) (mm : Mm) : Option (Int32 × Mm) :=
  fX12_ofKind_4 N N a0 a1 0 0 mm
abbrev rmX12_ofKind : Room := { frames := 3, cells := 0, slots := 0, locals := 100 }
/-! HeavyFilesModel.mark(II)I -/
def fX12_mark_171 (N : Nat)  (a0 : Nat) (a1 : Int32) (s0 : Int32) (mm : Mm) : Option (Int32 × Mm) :=
  bd2 (fX12_of N a0 a1 2 mm) fun x1 m2 => gd (nz x1) <| some (s0 / x1, m2)
def fX12_mark_76 (N : Nat) (k39 : Nat → Int32 → Int32 → Int32 → Int32 → Mm → Option (Int32 × Mm)) (a0 : Nat) (a1 : Int32) (a2 : Int32) (a4 : Int32) (s0 : Int32) (s1 : Int32) (mm : Mm) : Option (Int32 × Mm) :=
  k39 a0 a1 a2 (s0 + s1) (a4 + 1) mm
def fX12_mark_75 (N : Nat) (k39 : Nat → Int32 → Int32 → Int32 → Int32 → Mm → Option (Int32 × Mm)) (a0 : Nat) (a1 : Int32) (a2 : Int32) (a4 : Int32) (s0 : Int32) (mm : Mm) : Option (Int32 × Mm) :=
  fX12_mark_76 N k39 a0 a1 a2 a4 s0 0 mm
def fX12_mark_39 (N : Nat)  : Nat → Nat → Int32 → Int32 → Int32 → Int32 → Mm → Option (Int32 × Mm)
  | 0 => fun _ _ _ _ _ _ => none
  | n + 1 => fun a0 a1 a2 a3 a4 mm =>
    let k39 := fX12_mark_39 N  n
    if (rd mm a0 10) ≤ a4 then (if a2 = 1 then (bd2 (fX12_ofKind N a0 1 mm) fun x7 m8 => some (x7, m8)) else if a2 = 2 then (bd2 (fX12_of N a0 a1 1 mm) fun x11 m12 => some (x11, m12)) else if a2 = 3 then (bd2 (fX12_of N a0 a1 2 mm) fun x15 m16 => some (x15 * (rd m16 a0 13), m16)) else if a2 = 4 then (gd (inb 0 (ln (fr a0 12))) <| gd (inb 1 (ln (fr a0 12))) <| if (rd mm (fr a0 12) ((0 : Int32).toNatClampNeg)) ≤ (rd mm (fr a0 12) ((1 : Int32).toNatClampNeg)) then (gd (inb 1 (ln (fr a0 12))) <| fX12_mark_171 N a0 a1 (rd mm (fr a0 12) ((1 : Int32).toNatClampNeg)) mm) else (gd (inb 0 (ln (fr a0 12))) <| fX12_mark_171 N a0 a1 (rd mm (fr a0 12) ((0 : Int32).toNatClampNeg)) mm)) else (some (a3, mm))) else (bd2 (fX12_of N a0 a4 0 mm) fun x24 m25 => if x24 = 5 then (bd2 (fX12_of N a0 a4 2 m25) fun x28 m29 => if x28 = a1 then (fX12_mark_76 N k39 a0 a1 a2 a4 a3 1 m29) else (fX12_mark_75 N k39 a0 a1 a2 a4 a3 m29)) else (fX12_mark_75 N k39 a0 a1 a2 a4 a3 m25))
def fX12_mark (N : Nat)  (a0 : Nat) (a1 : Int32) (a2 : Int32) (mm : Mm) : Option (Int32 × Mm) :=
  bd2 (fX12_isSuit N a0 a1 mm) fun x32 m33 => if x32 = 0 then (some ((-1), m33)) else (bd2 (fX12_in N a2 1 5 m33) fun x36 m37 => if x36 = 0 then (some ((-1), m37)) else (bd2 (fX12_isA N a0 a1 a2 m37) fun x40 m41 => if x40 = 0 then (bd2 (fX12_meet N a0 3 m41) fun x44 m45 => some (x44, m45)) else (fX12_mark_39 N N a0 a1 a2 0 0 m41)))
abbrev rmX12_mark : Room := { frames := 4, cells := 0, slots := 0, locals := 131 }
/-! HeavyFilesModel.stock(II)I -/
def fX12_stock (N : Nat)  (a0 : Nat) (a1 : Int32) (a2 : Int32) (mm : Mm) : Option (Int32 × Mm) :=
  bd2 (fX12_in N a1 0 1 mm) fun x1 m2 => if x1 = 0 then (some ((-1), m2)) else (bd2 (fX12_in N a2 0 40 m2) fun x5 m6 => if x5 = 0 then (some ((-1), m6)) else (gd (inb a1 (ln (fr a0 12))) <| nm (rd m6 (fr a0 12) a1.toNatClampNeg) fun x10 => gd (inb a1 (ln (fr a0 12))) <| nm (wr m6 (fr a0 12) a1.toNatClampNeg a2) fun m12 => some (x10, m12)))
abbrev rmX12_stock : Room := { frames := 2, cells := 0, slots := 0, locals := 70 }
/-! HeavyFilesModel.damp(I)I -/
def fX12_damp (N : Nat)  (a0 : Nat) (a1 : Int32) (mm : Mm) : Option (Int32 × Mm) :=
  bd2 (fX12_in N a1 0 9 mm) fun x1 m2 => if x1 = 0 then (some ((-1), m2)) else (nm (wr m2 a0 13 a1) fun m5 => some (rd m2 a0 13, m5))
abbrev rmX12_damp : Room := { frames := 2, cells := 0, slots := 0, locals := 70 }
/-! HeavyFilesModel.weight(III)I -/
def fX12_weight_73 (N : Nat)  (a0 : Nat) (a3 : Int32) (a5 : Int32) (mm : Mm) : Option (Int32 × Mm) :=
  some (a3 + (a5 * (rd mm a0 13)), mm)
def fX12_weight_53 (N : Nat)  (a0 : Nat) (a3 : Int32) (a4 : Int32) (a5 : Int32) (mm : Mm) : Option (Int32 × Mm) :=
  if a3 = 0 then (some (0, mm)) else (if a4 = 4 then (if a5 ≤ a3 then (fX12_weight_73 N a0 a3 a5 mm) else (some (0, mm))) else (fX12_weight_73 N a0 a3 a5 mm))
def fX12_weight (N : Nat)  (a0 : Nat) (a1 : Int32) (a2 : Int32) (a3 : Int32) (mm : Mm) : Option (Int32 × Mm) :=
  bd2 (fX12_of N a0 a1 0 mm) fun x4 m5 => bd2 (fX12_of N a0 a1 2 m5) fun x7 m8 => if x4 = 5 then (gd (inb x7 (ln (fr a0 21))) <| if (rd m8 (fr a0 21) x7.toNatClampNeg) = a2 then (some (a3 + 2, m8)) else (some (a3 + 0, m8))) else (if x4 = 3 then (fX12_weight_53 N a0 a3 x4 x7 m8) else (if x4 = 4 then (fX12_weight_53 N a0 a3 x4 x7 m8) else (some (a3, m8))))
abbrev rmX12_weight : Room := { frames := 2, cells := 0, slots := 0, locals := 70 }
/-! HeavyFilesModel.winnerOf(III)I -/
def fX12_winnerOf_67 (N : Nat)  (s0 : Int32) (s1 : Int32) (mm : Mm) : Option (Int32 × Mm) :=
  if s0 = s1 then (some (0, mm)) else (some (1, mm))
def fX12_winnerOf_52 (N : Nat)  (a0 : Nat) (a1 : Int32) (s0 : Int32) (mm : Mm) : Option (Int32 × Mm) :=
  bd2 (fX12_of N a0 a1 0 mm) fun x2 m3 => if x2 = 2 then (fX12_winnerOf_67 N s0 0 m3) else (fX12_winnerOf_67 N s0 1 m3)
def fX12_winnerOf (N : Nat)  (a0 : Nat) (a1 : Int32) (a2 : Int32) (a3 : Int32) (mm : Mm) : Option (Int32 × Mm) :=
  bd2 (fX12_weight N a0 a1 0 a2 mm) fun x6 m7 => bd2 (fX12_weight N a0 a1 1 a3 m7) fun x9 m10 => if x6 = x9 then (bd2 (fX12_isA N a0 a1 1 m10) fun x14 m15 => if x14 = 0 then (some (2, m15)) else (some (0, m15))) else (if x6 ≤ x9 then (fX12_winnerOf_52 N a0 a1 0 m10) else (fX12_winnerOf_52 N a0 a1 1 m10))
abbrev rmX12_winnerOf : Room := { frames := 3, cells := 0, slots := 0, locals := 103 }
/-! HeavyFilesModel.worthOf(III)I -/
def fX12_worthOf (N : Nat)  (a0 : Nat) (a1 : Int32) (a2 : Int32) (a3 : Int32) (mm : Mm) : Option (Int32 × Mm) :=
  if a2 = a3 then (bd2 (fX12_of N a0 a1 1 mm) fun x6 m7 => some (2 * x6, m7)) else (if a2 = 2 then (bd2 (fX12_of N a0 a1 1 mm) fun x3 m4 => some (x3, m4)) else (some (0, mm)))
abbrev rmX12_worthOf : Room := { frames := 2, cells := 0, slots := 0, locals := 70 }
/-! HeavyFilesModel.setWinners()V -/
def fX12_setWinners_2 (N : Nat)  : Nat → Nat → Int32 → Mm → Option (Unit × Mm)
  | 0 => fun _ _ _ => none
  | n + 1 => fun a0 a1 mm =>
    let k2 := fX12_setWinners_2 N  n
    if (rd mm a0 10) ≤ a1 then (some ((), mm)) else (gd (inb a1 (ln (fr a0 19))) <| gd (inb a1 (ln (fr a0 20))) <| bd2 (fX12_winnerOf N a0 a1 (rd mm (fr a0 19) a1.toNatClampNeg) (rd mm (fr a0 20) a1.toNatClampNeg) mm) fun x4 m5 => gd (inb a1 (ln (fr a0 21))) <| nm (wr m5 (fr a0 21) a1.toNatClampNeg x4) fun m8 => k2 a0 (a1 + 1) m8)
def fX12_setWinners (N : Nat)  (a0 : Nat) (mm : Mm) : Option (Unit × Mm) :=
  fX12_setWinners_2 N N a0 0 mm
abbrev rmX12_setWinners : Room := { frames := 4, cells := 0, slots := 0, locals := 136 }
/-! HeavyFilesModel.scoreOf(I)I -/
def fX12_scoreOf_4 (N : Nat)  : Nat → Nat → Int32 → Int32 → Int32 → Mm → Option (Int32 × Mm)
  | 0 => fun _ _ _ _ _ => none
  | n + 1 => fun a0 a1 a2 a3 mm =>
    let k4 := fX12_scoreOf_4 N  n
    if (rd mm a0 10) ≤ a3 then (some (a2, mm)) else (gd (inb a3 (ln (fr a0 21))) <| bd2 (fX12_worthOf N a0 a3 (rd mm (fr a0 21) a3.toNatClampNeg) a1 mm) fun x3 m4 => k4 a0 a1 (a2 + x3) (a3 + 1) m4)
def fX12_scoreOf (N : Nat)  (a0 : Nat) (a1 : Int32) (mm : Mm) : Option (Int32 × Mm) :=
  fX12_scoreOf_4 N N a0 a1 0 0 mm
abbrev rmX12_scoreOf : Room := { frames := 3, cells := 0, slots := 0, locals := 101 }
/-! HeavyFilesModel.wonSet()I -/
def fX12_wonSet_29 (N : Nat) (k4 : Nat → Int32 → Int32 → Mm → Option (Int32 × Mm)) (a0 : Nat) (a2 : Int32) (s0 : Int32) (s1 : Int32) (mm : Mm) : Option (Int32 × Mm) :=
  k4 a0 (s0 ||| s1) (a2 + 1) mm
def fX12_wonSet_4 (N : Nat)  : Nat → Nat → Int32 → Int32 → Mm → Option (Int32 × Mm)
  | 0 => fun _ _ _ _ => none
  | n + 1 => fun a0 a1 a2 mm =>
    let k4 := fX12_wonSet_4 N  n
    if (rd mm a0 10) ≤ a2 then (some (a1, mm)) else (gd (inb a2 (ln (fr a0 21))) <| if (rd mm (fr a0 21) a2.toNatClampNeg) = 0 then (fX12_wonSet_29 N k4 a0 a2 a1 (1 <<< (a2 &&& 31)) mm) else (fX12_wonSet_29 N k4 a0 a2 a1 0 mm))
def fX12_wonSet (N : Nat)  (a0 : Nat) (mm : Mm) : Option (Int32 × Mm) :=
  fX12_wonSet_4 N N a0 0 0 mm
abbrev rmX12_wonSet : Room := { frames := 1, cells := 0, slots := 0, locals := 40 }
/-! HeavyFilesModel.askedSize(I)I -/
def fX12_askedSize (N : Nat)  (a0 : Nat) (a1 : Int32) (mm : Mm) : Option (Int32 × Mm) :=
  gd (inb a1 (ln (fr a0 5))) <| if (rd mm (fr a0 5) a1.toNatClampNeg) = (rd mm a0 10) then (some (0, mm)) else (bd2 (fX12_meet N a0 5 mm) fun x3 m4 => some (x3, m4))
abbrev rmX12_askedSize : Room := { frames := 2, cells := 0, slots := 0, locals := 69 }
/-! HeavyFilesModel.askedNumbers(II)I -/
def fX12_askedNumbers_5 (N : Nat)  : Nat → Nat → Int32 → Int32 → Int32 → Int32 → Mm → Option (Int32 × Mm)
  | 0 => fun _ _ _ _ _ _ => none
  | n + 1 => fun a0 a1 a2 a3 a4 mm =>
    let k5 := fX12_askedNumbers_5 N  n
    if (rd mm a0 10) ≤ a4 then (gd (inb a2 (ln (fr a0 12))) <| if a3 ≤ (rd mm (fr a0 12) a2.toNatClampNeg) then (some (0, mm)) else (bd2 (fX12_meet N a0 3 mm) fun x4 m5 => some (x4, m5))) else (bd2 (fX12_rowAt N a0 a1 a4 mm) fun x7 m8 => bd2 (fX12_in N x7 0 40 m8) fun x10 m11 => if x10 = 0 then (bd2 (fX12_meet N a0 3 m11) fun x17 m18 => some (x17, m18)) else (bd2 (fX12_rowAt N a0 a1 a4 m11) fun x14 m15 => k5 a0 a1 a2 (a3 + x14) (a4 + 1) m15))
def fX12_askedNumbers (N : Nat)  (a0 : Nat) (a1 : Int32) (a2 : Int32) (mm : Mm) : Option (Int32 × Mm) :=
  fX12_askedNumbers_5 N N a0 a1 a2 0 0 mm
abbrev rmX12_askedNumbers : Room := { frames := 2, cells := 0, slots := 0, locals := 70 }
section W_model22
variable {p : Program} {l : Launch} {e : Env} {s : State} {m : MethodId} {args : Array Value} {below : List Frame} {meth : Method} {c : Code} {D : va_G} {ca ad : Nat → Nat}
set_option maxRecDepth 100000 in
set_option maxHeartbeats 4000000 in
theorem wX12_suit_0 (C : Cx p s m meth c args cX12_suit 3 (some .int) RX12 D ca ad) {res : Int32 × Mm} {N : Nat}  {a0 : Nat} {a1 : Int32} {a2 : Int32} {mm : Mm} {H : Heap} {locs : List Loc} {ls : Array Slot} (ha0 : sX12 a0) (hW : Wd D ca ad s.heap mm H locs) (hl : lv_has ls 3 [(0, .ref (ad a0)), (1, .int a1), (2, .int a2)]) (hf : fX12_suit N a0 a1 a2 mm = some res) : W p l e (rmX12_suit) s m args below meth c H locs 0 0 (MQ below (QI D ca ad res) args s 0 0 (AA ad)) (F0 m 0 ls []) := by
  unfold fX12_suit at hf
  refine lv_aload_n C.1 C.2.1 dX12_suit_0 rfl (lv_at hl 0 rfl) ?_
  refine lv_iload_n C.1 C.2.1 dX12_suit_1 rfl (lv_at hl 1 rfl) ?_
  obtain ⟨x1, m2, r3, hf⟩ := bd2_s hf
  refine x_ci hW (x_runV C hW [.int a1] [] (ha0).1 (ha0).2.1 kX12.1 kvX12_isSuit q_1248 (tX12_isSuit l C.2.2.2.2.2.2.1 ha0 r3) rfl rfl ⟨by decide, by decide⟩ rfl hl.1 rfl (Nat.le_of_ble_eq_true rfl) dX12_suit_2) (fun H locs hW => ?_)
  refine lv_if_eq (tgt := 31) C.1 C.2.1 dX12_suit_5 (by decide) (fun c4 => ?_) (fun c4 => ?_)
  · have hf := if_t c4 hf
    refine lv_iconst (v := (-1)) C.1 C.2.1 dX12_suit_31 (by decide) ?_
    cases hf
    exact x_iret C hW dX12_suit_32
  · have hf := if_f c4 hf
    refine lv_iload_n C.1 C.2.1 dX12_suit_8 rfl (lv_at hl 2 rfl) ?_
    refine lv_iconst (v := 0) C.1 C.2.1 dX12_suit_9 (by decide) ?_
    refine lv_iconst (v := 2) C.1 C.2.1 dX12_suit_10 (by decide) ?_
    obtain ⟨x5, m6, r7, hf⟩ := bd2_s hf
    refine x_ci hW (x_runS C hW [.int a2, .int 0, .int 2] [] kvX12_in q_1150 (tX12_in l C.2.2.2.2.2.2.1  r7) rfl rfl ⟨by decide, by decide⟩ rfl hl.1 rfl (Nat.le_of_ble_eq_true rfl) dX12_suit_11) (fun H locs hW => ?_)
    refine lv_if_eq (tgt := 31) C.1 C.2.1 dX12_suit_14 (by decide) (fun c8 => ?_) (fun c8 => ?_)
    · have hf := if_t c8 hf
      refine lv_iconst (v := (-1)) C.1 C.2.1 dX12_suit_31 (by decide) ?_
      cases hf
      exact x_iret C hW dX12_suit_32
    · have hf := if_f c8 hf
      refine lv_aload_n C.1 C.2.1 dX12_suit_17 rfl (lv_at hl 0 rfl) ?_
      refine lv_aload_n C.1 C.2.1 dX12_suit_18 rfl (lv_at hl 0 rfl) ?_
      refine lv_iload_n C.1 C.2.1 dX12_suit_19 rfl (lv_at hl 1 rfl) ?_
      refine lv_iload_n C.1 C.2.1 dX12_suit_20 rfl (lv_at hl 2 rfl) ?_
      obtain ⟨x9, m10, r11, hf⟩ := bd2_s hf
      refine x_ci hW (x_runV C hW [.int a1, .int a2] [.ref (ad a0)] (ha0).1 (ha0).2.1 kX12.1 kvX12_of q_1252 (tX12_of l C.2.2.2.2.2.2.1 ha0 r11) rfl rfl ⟨by decide, by decide⟩ rfl hl.1 rfl (Nat.le_of_ble_eq_true rfl) dX12_suit_21) (fun H locs hW => ?_)
      refine lv_iconst (v := 1) C.1 C.2.1 dX12_suit_24 (by decide) ?_
      obtain ⟨x12, m13, r14, hf⟩ := bd2_s hf
      refine x_ci hW (x_runV C hW [.int x9, .int 1] [] (ha0).1 (ha0).2.1 kX12.1 kvX12_ask q_1173 (tX12_ask l C.2.2.2.2.2.2.1 ha0 r14) rfl rfl ⟨by decide, by decide⟩ rfl hl.1 rfl (Nat.le_of_ble_eq_true rfl) dX12_suit_25) (fun H locs hW => ?_)
      refine lv_goto (tgt := 32) C.1 C.2.1 dX12_suit_28 (by decide) ?_
      cases hf
      exact x_iret C hW dX12_suit_32
set_option maxRecDepth 100000 in
set_option maxHeartbeats 4000000 in
theorem tX12_suit (l : Launch) {D : va_G} {ca ad : Nat → Nat} (hi : Inj ad) {N : Nat} {a0 : Nat} {a1 : Int32} {a2 : Int32} {mm : Mm} {res : Int32 × Mm} (ha0 : sX12 a0) (hf : fX12_suit N a0 a1 a2 mm = some res) : Met l yX12_suit (WS yX12_suit cX12_suit 3 (some .int)) (rmX12_suit) (va_Pc [.ref (ad a0), .int a1, .int a2] (WB D ca ad mm)) (QI D ca ad res) 0 0 (AA ad) := by
  refine x_start hi (by decide) rfl (Nat.le_of_ble_eq_true rfl) (fun p e s m args below meth c ls C hW hl => ?_)
  exact wX12_suit_0 C ha0 hW (lv_sub hl [0, 1, 2] rfl) hf
set_option maxRecDepth 100000 in
set_option maxHeartbeats 4000000 in
theorem wX12_isA_25 (C : Cx p s m meth c args cX12_isA 3 (some .boolean) RX12 D ca ad) {res : Int32 × Mm} {N : Nat}  {a0 : Nat} {a1 : Int32} {a2 : Int32} {mm : Mm} {H : Heap} {locs : List Loc} {ls : Array Slot} (ha0 : sX12 a0) (hW : Wd D ca ad s.heap mm H locs) (hl : lv_has ls 3 [(0, .ref (ad a0)), (1, .int a1), (2, .int a2)]) (hf : fX12_isA_25 N a0 a1 a2 mm = some res) : W p l e (rmX12_isA) s m args below meth c H locs 0 0 (MQ below (QI D ca ad res) args s 0 0 (AA ad)) (F0 m 25 ls []) := by
  unfold fX12_isA_25 at hf
  refine lv_iload_n C.1 C.2.1 dX12_isA_25 rfl (lv_at hl 2 rfl) ?_
  refine lv_iconst (v := 3) C.1 C.2.1 dX12_isA_26 (by decide) ?_
  refine lv_icmp_ne (tgt := 44) C.1 C.2.1 dX12_isA_27 (by decide) (fun c1 => ?_) (fun c1 => ?_)
  · have hf := if_f c1 hf
    refine lv_iconst (v := 0) C.1 C.2.1 dX12_isA_44 (by decide) ?_
    cases hf
    exact x_zret C hW (by decide) dX12_isA_45
  · have hf := if_t c1 hf
    refine lv_aload_n C.1 C.2.1 dX12_isA_30 rfl (lv_at hl 0 rfl) ?_
    refine lv_iload_n C.1 C.2.1 dX12_isA_31 rfl (lv_at hl 1 rfl) ?_
    refine lv_iconst (v := 0) C.1 C.2.1 dX12_isA_32 (by decide) ?_
    obtain ⟨x2, m3, r4, hf⟩ := bd2_s hf
    refine x_ci hW (x_runV C hW [.int a1, .int 0] [] (ha0).1 (ha0).2.1 kX12.1 kvX12_of q_1252 (tX12_of l C.2.2.2.2.2.2.1 ha0 r4) rfl rfl ⟨by decide, by decide⟩ rfl hl.1 rfl (Nat.le_of_ble_eq_true rfl) dX12_isA_33) (fun H locs hW => ?_)
    refine lv_iconst (v := 4) C.1 C.2.1 dX12_isA_36 (by decide) ?_
    refine lv_icmp_ne (tgt := 44) C.1 C.2.1 dX12_isA_37 (by decide) (fun c5 => ?_) (fun c5 => ?_)
    · have hf := if_f c5 hf
      refine lv_iconst (v := 0) C.1 C.2.1 dX12_isA_44 (by decide) ?_
      cases hf
      exact x_zret C hW (by decide) dX12_isA_45
    · have hf := if_t c5 hf
      refine lv_iconst (v := 1) C.1 C.2.1 dX12_isA_40 (by decide) ?_
      refine lv_goto (tgt := 45) C.1 C.2.1 dX12_isA_41 (by decide) ?_
      cases hf
      exact x_zret C hW (by decide) dX12_isA_45
set_option maxRecDepth 100000 in
set_option maxHeartbeats 4000000 in
theorem wX12_isA_0 (C : Cx p s m meth c args cX12_isA 3 (some .boolean) RX12 D ca ad) {res : Int32 × Mm} {N : Nat}  {a0 : Nat} {a1 : Int32} {a2 : Int32} {mm : Mm} {H : Heap} {locs : List Loc} {ls : Array Slot} (ha0 : sX12 a0) (hW : Wd D ca ad s.heap mm H locs) (hl : lv_has ls 3 [(0, .ref (ad a0)), (1, .int a1), (2, .int a2)]) (hf : fX12_isA N a0 a1 a2 mm = some res) : W p l e (rmX12_isA) s m args below meth c H locs 0 0 (MQ below (QI D ca ad res) args s 0 0 (AA ad)) (F0 m 0 ls []) := by
  unfold fX12_isA at hf
  refine lv_aload_n C.1 C.2.1 dX12_isA_0 rfl (lv_at hl 0 rfl) ?_
  refine lv_iload_n C.1 C.2.1 dX12_isA_1 rfl (lv_at hl 1 rfl) ?_
  refine lv_iconst (v := 0) C.1 C.2.1 dX12_isA_2 (by decide) ?_
  obtain ⟨x6, m7, r8, hf⟩ := bd2_s hf
  refine x_ci hW (x_runV C hW [.int a1, .int 0] [] (ha0).1 (ha0).2.1 kX12.1 kvX12_of q_1252 (tX12_of l C.2.2.2.2.2.2.1 ha0 r8) rfl rfl ⟨by decide, by decide⟩ rfl hl.1 rfl (Nat.le_of_ble_eq_true rfl) dX12_isA_3) (fun H locs hW => ?_)
  refine lv_iload_n C.1 C.2.1 dX12_isA_6 rfl (lv_at hl 2 rfl) ?_
  refine lv_icmp_eq (tgt := 40) C.1 C.2.1 dX12_isA_7 (by decide) (fun c9 => ?_) (fun c9 => ?_)
  · have hf := if_t c9 hf
    refine lv_iconst (v := 1) C.1 C.2.1 dX12_isA_40 (by decide) ?_
    refine lv_goto (tgt := 45) C.1 C.2.1 dX12_isA_41 (by decide) ?_
    cases hf
    exact x_zret C hW (by decide) dX12_isA_45
  · have hf := if_f c9 hf
    refine lv_iload_n C.1 C.2.1 dX12_isA_10 rfl (lv_at hl 2 rfl) ?_
    refine lv_iconst (v := 1) C.1 C.2.1 dX12_isA_11 (by decide) ?_
    refine lv_icmp_ne (tgt := 25) C.1 C.2.1 dX12_isA_12 (by decide) (fun c10 => ?_) (fun c10 => ?_)
    · have hf := if_f c10 hf
      exact wX12_isA_25 C  ha0 hW (lv_sub hl [0, 1, 2] rfl) hf
    · have hf := if_t c10 hf
      refine lv_aload_n C.1 C.2.1 dX12_isA_15 rfl (lv_at hl 0 rfl) ?_
      refine lv_iload_n C.1 C.2.1 dX12_isA_16 rfl (lv_at hl 1 rfl) ?_
      refine lv_iconst (v := 0) C.1 C.2.1 dX12_isA_17 (by decide) ?_
      obtain ⟨x11, m12, r13, hf⟩ := bd2_s hf
      refine x_ci hW (x_runV C hW [.int a1, .int 0] [] (ha0).1 (ha0).2.1 kX12.1 kvX12_of q_1252 (tX12_of l C.2.2.2.2.2.2.1 ha0 r13) rfl rfl ⟨by decide, by decide⟩ rfl hl.1 rfl (Nat.le_of_ble_eq_true rfl) dX12_isA_18) (fun H locs hW => ?_)
      refine lv_iconst (v := 5) C.1 C.2.1 dX12_isA_21 (by decide) ?_
      refine lv_icmp_eq (tgt := 40) C.1 C.2.1 dX12_isA_22 (by decide) (fun c14 => ?_) (fun c14 => ?_)
      · have hf := if_t c14 hf
        refine lv_iconst (v := 1) C.1 C.2.1 dX12_isA_40 (by decide) ?_
        refine lv_goto (tgt := 45) C.1 C.2.1 dX12_isA_41 (by decide) ?_
        cases hf
        exact x_zret C hW (by decide) dX12_isA_45
      · have hf := if_f c14 hf
        exact wX12_isA_25 C  ha0 hW (lv_sub hl [0, 1, 2] rfl) hf
set_option maxRecDepth 100000 in
set_option maxHeartbeats 4000000 in
theorem tX12_isA (l : Launch) {D : va_G} {ca ad : Nat → Nat} (hi : Inj ad) {N : Nat} {a0 : Nat} {a1 : Int32} {a2 : Int32} {mm : Mm} {res : Int32 × Mm} (ha0 : sX12 a0) (hf : fX12_isA N a0 a1 a2 mm = some res) : Met l yX12_isA (WS yX12_isA cX12_isA 3 (some .boolean)) (rmX12_isA) (va_Pc [.ref (ad a0), .int a1, .int a2] (WB D ca ad mm)) (QI D ca ad res) 0 0 (AA ad) := by
  refine x_start hi (by decide) rfl (Nat.le_of_ble_eq_true rfl) (fun p e s m args below meth c ls C hW hl => ?_)
  exact wX12_isA_0 C ha0 hW (lv_sub hl [0, 1, 2] rfl) hf
set_option maxRecDepth 100000 in
set_option maxHeartbeats 4000000 in
theorem wX12_ofKind_27 (C : Cx p s m meth c args cX12_ofKind 4 (some .int) RX12 D ca ad) {res : Int32 × Mm} {N : Nat} {k4 : Nat → Int32 → Int32 → Int32 → Mm → Option (Int32 × Mm)} (hk4 : ∀ (a0 : Nat) (a1 : Int32) (a2 : Int32) (a3 : Int32) (mm : Mm) (H : Heap) (locs : List Loc) (ls : Array Slot), (sX12 a0) → Wd D ca ad s.heap mm H locs → lv_has ls 4 [(0, .ref (ad a0)), (1, .int a1), (2, .int a2), (3, .int a3)] → k4 a0 a1 a2 a3 mm = some res → W p l e (rmX12_ofKind) s m args below meth c H locs 0 0 (MQ below (QI D ca ad res) args s 0 0 (AA ad)) (F0 m 4 ls [])) {a0 : Nat} {a1 : Int32} {a3 : Int32} {s0 : Int32} {s1 : Int32} {mm : Mm} {H : Heap} {locs : List Loc} {ls : Array Slot} (ha0 : sX12 a0) (hW : Wd D ca ad s.heap mm H locs) (hl : lv_has ls 4 [(0, .ref (ad a0)), (1, .int a1), (3, .int a3)]) (hf : fX12_ofKind_27 N k4 a0 a1 a3 s0 s1 mm = some res) : W p l e (rmX12_ofKind) s m args below meth c H locs 0 0 (MQ below (QI D ca ad res) args s 0 0 (AA ad)) (F0 m 27 ls [.int s1, .int s0]) := by
  unfold fX12_ofKind_27 at hf
  refine lv_iadd C.1 C.2.1 dX12_ofKind_27 ?_
  refine lv_istore_n (lv' := [(2, .int (s0 + s1)), (0, .ref (ad a0)), (1, .int a1), (3, .int a3)]) C.1 C.2.1 dX12_ofKind_28 rfl hl (by decide) rfl (fun ls hl => ?_)
  refine lv_iinc (v := (a3 + 1)) (lv' := [(3, .int (a3 + 1)), (2, .int (s0 + s1)), (0, .ref (ad a0)), (1, .int a1)]) C.1 C.2.1 dX12_ofKind_29 hl (k := 3) rfl rfl (by decide) rfl (fun ls hl => ?_)
  refine lv_goto (tgt := 4) C.1 C.2.1 dX12_ofKind_32 (by decide) ?_
  exact hk4 _ _ _ _ _ _ _ _ ha0 hW (lv_sub hl [2, 3, 1, 0] rfl) hf
set_option maxRecDepth 100000 in
set_option maxHeartbeats 4000000 in
theorem wX12_ofKind_4 (C : Cx p s m meth c args cX12_ofKind 4 (some .int) RX12 D ca ad) {res : Int32 × Mm} {N : Nat}  : ∀ (n : Nat) {a0 : Nat} {a1 : Int32} {a2 : Int32} {a3 : Int32} {mm : Mm} {H : Heap} {locs : List Loc} {ls : Array Slot}, (sX12 a0) → Wd D ca ad s.heap mm H locs → lv_has ls 4 [(0, .ref (ad a0)), (1, .int a1), (2, .int a2), (3, .int a3)] → fX12_ofKind_4 N n a0 a1 a2 a3 mm = some res → W p l e (rmX12_ofKind) s m args below meth c H locs 0 0 (MQ below (QI D ca ad res) args s 0 0 (AA ad)) (F0 m 4 ls []) := by
  intro n
  induction n with
  | zero => intro a0 a1 a2 a3 mm H locs ls ha0 hW hl hf; cases hf
  | succ n ih =>
    intro a0 a1 a2 a3 mm H locs ls ha0 hW hl hf
    have hk4 : ∀ (a0 : Nat) (a1 : Int32) (a2 : Int32) (a3 : Int32) (mm : Mm) (H : Heap) (locs : List Loc) (ls : Array Slot), (sX12 a0) → Wd D ca ad s.heap mm H locs → lv_has ls 4 [(0, .ref (ad a0)), (1, .int a1), (2, .int a2), (3, .int a3)] → (fX12_ofKind_4 N n) a0 a1 a2 a3 mm = some res → W p l e (rmX12_ofKind) s m args below meth c H locs 0 0 (MQ below (QI D ca ad res) args s 0 0 (AA ad)) (F0 m 4 ls []) := fun a0 a1 a2 a3 mm H locs ls ha0 hW hl hf => ih ha0 hW hl hf
    unfold fX12_ofKind_4 at hf
    try dsimp only at hf
    refine lv_iload_n C.1 C.2.1 dX12_ofKind_4 rfl (lv_at hl 3 rfl) ?_
    refine lv_aload_n C.1 C.2.1 dX12_ofKind_5 rfl (lv_at hl 0 rfl) ?_
    refine x_geti C hW (ha0).1 (ha0).2.1 (j := 10) rfl kX12 (by decide) rfl q_1026 dX12_ofKind_6 ?_
    refine lv_icmp_ge (tgt := 35) C.1 C.2.1 dX12_ofKind_9 (by decide) (fun c1 => ?_) (fun c1 => ?_)
    · have hf := if_t c1 hf
      refine lv_iload_n C.1 C.2.1 dX12_ofKind_35 rfl (lv_at hl 2 rfl) ?_
      cases hf
      exact x_iret C hW dX12_ofKind_36
    · have hf := if_f c1 hf
      refine lv_iload_n C.1 C.2.1 dX12_ofKind_12 rfl (lv_at hl 2 rfl) ?_
      refine lv_aload_n C.1 C.2.1 dX12_ofKind_13 rfl (lv_at hl 0 rfl) ?_
      refine lv_iload_n C.1 C.2.1 dX12_ofKind_14 rfl (lv_at hl 3 rfl) ?_
      refine lv_iload_n C.1 C.2.1 dX12_ofKind_15 rfl (lv_at hl 1 rfl) ?_
      obtain ⟨x2, m3, r4, hf⟩ := bd2_s hf
      refine x_ci hW (x_runV C hW [.int a3, .int a1] [.int a2] (ha0).1 (ha0).2.1 kX12.1 kvX12_isA q_1260 (tX12_isA l C.2.2.2.2.2.2.1 ha0 r4) rfl rfl ⟨by decide, by decide⟩ rfl hl.1 rfl (Nat.le_of_ble_eq_true rfl) dX12_ofKind_16) (fun H locs hW => ?_)
      refine lv_if_eq (tgt := 26) C.1 C.2.1 dX12_ofKind_19 (by decide) (fun c5 => ?_) (fun c5 => ?_)
      · have hf := if_t c5 hf
        refine lv_iconst (v := 0) C.1 C.2.1 dX12_ofKind_26 (by decide) ?_
        exact wX12_ofKind_27 C hk4 ha0 hW (lv_sub hl [0, 1, 3] rfl) hf
      · have hf := if_f c5 hf
        refine lv_iconst (v := 1) C.1 C.2.1 dX12_ofKind_22 (by decide) ?_
        refine lv_goto (tgt := 27) C.1 C.2.1 dX12_ofKind_23 (by decide) ?_
        exact wX12_ofKind_27 C hk4 ha0 hW (lv_sub hl [0, 1, 3] rfl) hf
set_option maxRecDepth 100000 in
set_option maxHeartbeats 4000000 in
theorem wX12_ofKind_0 (C : Cx p s m meth c args cX12_ofKind 4 (some .int) RX12 D ca ad) {res : Int32 × Mm} {N : Nat}  {a0 : Nat} {a1 : Int32} {mm : Mm} {H : Heap} {locs : List Loc} {ls : Array Slot} (ha0 : sX12 a0) (hW : Wd D ca ad s.heap mm H locs) (hl : lv_has ls 4 [(0, .ref (ad a0)), (1, .int a1)]) (hf : fX12_ofKind N a0 a1 mm = some res) : W p l e (rmX12_ofKind) s m args below meth c H locs 0 0 (MQ below (QI D ca ad res) args s 0 0 (AA ad)) (F0 m 0 ls []) := by
  unfold fX12_ofKind at hf
  refine lv_iconst (v := 0) C.1 C.2.1 dX12_ofKind_0 (by decide) ?_
  refine lv_istore_n (lv' := [(2, .int 0), (0, .ref (ad a0)), (1, .int a1)]) C.1 C.2.1 dX12_ofKind_1 rfl hl (by decide) rfl (fun ls hl => ?_)
  refine lv_iconst (v := 0) C.1 C.2.1 dX12_ofKind_2 (by decide) ?_
  refine lv_istore_n (lv' := [(3, .int 0), (2, .int 0), (0, .ref (ad a0)), (1, .int a1)]) C.1 C.2.1 dX12_ofKind_3 rfl hl (by decide) rfl (fun ls hl => ?_)
  exact wX12_ofKind_4 C  N ha0 hW (lv_sub hl [2, 3, 1, 0] rfl) hf
set_option maxRecDepth 100000 in
set_option maxHeartbeats 4000000 in
theorem tX12_ofKind (l : Launch) {D : va_G} {ca ad : Nat → Nat} (hi : Inj ad) {N : Nat} {a0 : Nat} {a1 : Int32} {mm : Mm} {res : Int32 × Mm} (ha0 : sX12 a0) (hf : fX12_ofKind N a0 a1 mm = some res) : Met l yX12_ofKind (WS yX12_ofKind cX12_ofKind 4 (some .int)) (rmX12_ofKind) (va_Pc [.ref (ad a0), .int a1] (WB D ca ad mm)) (QI D ca ad res) 0 0 (AA ad) := by
  refine x_start hi (by decide) rfl (Nat.le_of_ble_eq_true rfl) (fun p e s m args below meth c ls C hW hl => ?_)
  exact wX12_ofKind_0 C ha0 hW (lv_sub hl [0, 1] rfl) hf
set_option maxRecDepth 100000 in
set_option maxHeartbeats 4000000 in
theorem wX12_mark_171 (C : Cx p s m meth c args cX12_mark 5 (some .int) RX12 D ca ad) {res : Int32 × Mm} {N : Nat}  {a0 : Nat} {a1 : Int32} {s0 : Int32} {mm : Mm} {H : Heap} {locs : List Loc} {ls : Array Slot} (ha0 : sX12 a0) (hW : Wd D ca ad s.heap mm H locs) (hl : lv_has ls 5 [(0, .ref (ad a0)), (1, .int a1)]) (hf : fX12_mark_171 N a0 a1 s0 mm = some res) : W p l e (rmX12_mark) s m args below meth c H locs 0 0 (MQ below (QI D ca ad res) args s 0 0 (AA ad)) (F0 m 171 ls [.int s0]) := by
  unfold fX12_mark_171 at hf
  refine lv_aload_n C.1 C.2.1 dX12_mark_171 rfl (lv_at hl 0 rfl) ?_
  refine lv_iload_n C.1 C.2.1 dX12_mark_172 rfl (lv_at hl 1 rfl) ?_
  refine lv_iconst (v := 2) C.1 C.2.1 dX12_mark_173 (by decide) ?_
  obtain ⟨x1, m2, r3, hf⟩ := bd2_s hf
  refine x_ci hW (x_runV C hW [.int a1, .int 2] [.int s0] (ha0).1 (ha0).2.1 kX12.1 kvX12_of q_1252 (tX12_of l C.2.2.2.2.2.2.1 ha0 r3) rfl rfl ⟨by decide, by decide⟩ rfl hl.1 rfl (Nat.le_of_ble_eq_true rfl) dX12_mark_174) (fun H locs hW => ?_)
  obtain ⟨g4, hf⟩ := gd_s hf
  refine lv_idiv C.1 C.2.1 dX12_mark_177 (of_decide_eq_true g4) ?_
  cases hf
  exact x_iret C hW dX12_mark_178
set_option maxRecDepth 100000 in
set_option maxHeartbeats 4000000 in
theorem wX12_mark_76 (C : Cx p s m meth c args cX12_mark 5 (some .int) RX12 D ca ad) {res : Int32 × Mm} {N : Nat} {k39 : Nat → Int32 → Int32 → Int32 → Int32 → Mm → Option (Int32 × Mm)} (hk39 : ∀ (a0 : Nat) (a1 : Int32) (a2 : Int32) (a3 : Int32) (a4 : Int32) (mm : Mm) (H : Heap) (locs : List Loc) (ls : Array Slot), (sX12 a0) → Wd D ca ad s.heap mm H locs → lv_has ls 5 [(0, .ref (ad a0)), (1, .int a1), (2, .int a2), (3, .int a3), (4, .int a4)] → k39 a0 a1 a2 a3 a4 mm = some res → W p l e (rmX12_mark) s m args below meth c H locs 0 0 (MQ below (QI D ca ad res) args s 0 0 (AA ad)) (F0 m 39 ls [])) {a0 : Nat} {a1 : Int32} {a2 : Int32} {a4 : Int32} {s0 : Int32} {s1 : Int32} {mm : Mm} {H : Heap} {locs : List Loc} {ls : Array Slot} (ha0 : sX12 a0) (hW : Wd D ca ad s.heap mm H locs) (hl : lv_has ls 5 [(0, .ref (ad a0)), (1, .int a1), (2, .int a2), (4, .int a4)]) (hf : fX12_mark_76 N k39 a0 a1 a2 a4 s0 s1 mm = some res) : W p l e (rmX12_mark) s m args below meth c H locs 0 0 (MQ below (QI D ca ad res) args s 0 0 (AA ad)) (F0 m 76 ls [.int s1, .int s0]) := by
  unfold fX12_mark_76 at hf
  refine lv_iadd C.1 C.2.1 dX12_mark_76 ?_
  refine lv_istore_n (lv' := [(3, .int (s0 + s1)), (0, .ref (ad a0)), (1, .int a1), (2, .int a2), (4, .int a4)]) C.1 C.2.1 dX12_mark_77 rfl hl (by decide) rfl (fun ls hl => ?_)
  refine lv_iinc (v := (a4 + 1)) (lv' := [(4, .int (a4 + 1)), (3, .int (s0 + s1)), (0, .ref (ad a0)), (1, .int a1), (2, .int a2)]) C.1 C.2.1 dX12_mark_78 hl (k := 4) rfl rfl (by decide) rfl (fun ls hl => ?_)
  refine lv_goto (tgt := 39) C.1 C.2.1 dX12_mark_81 (by decide) ?_
  exact hk39 _ _ _ _ _ _ _ _ _ ha0 hW (lv_sub hl [2, 3, 4, 1, 0] rfl) hf
set_option maxRecDepth 100000 in
set_option maxHeartbeats 4000000 in
theorem wX12_mark_75 (C : Cx p s m meth c args cX12_mark 5 (some .int) RX12 D ca ad) {res : Int32 × Mm} {N : Nat} {k39 : Nat → Int32 → Int32 → Int32 → Int32 → Mm → Option (Int32 × Mm)} (hk39 : ∀ (a0 : Nat) (a1 : Int32) (a2 : Int32) (a3 : Int32) (a4 : Int32) (mm : Mm) (H : Heap) (locs : List Loc) (ls : Array Slot), (sX12 a0) → Wd D ca ad s.heap mm H locs → lv_has ls 5 [(0, .ref (ad a0)), (1, .int a1), (2, .int a2), (3, .int a3), (4, .int a4)] → k39 a0 a1 a2 a3 a4 mm = some res → W p l e (rmX12_mark) s m args below meth c H locs 0 0 (MQ below (QI D ca ad res) args s 0 0 (AA ad)) (F0 m 39 ls [])) {a0 : Nat} {a1 : Int32} {a2 : Int32} {a4 : Int32} {s0 : Int32} {mm : Mm} {H : Heap} {locs : List Loc} {ls : Array Slot} (ha0 : sX12 a0) (hW : Wd D ca ad s.heap mm H locs) (hl : lv_has ls 5 [(0, .ref (ad a0)), (1, .int a1), (2, .int a2), (4, .int a4)]) (hf : fX12_mark_75 N k39 a0 a1 a2 a4 s0 mm = some res) : W p l e (rmX12_mark) s m args below meth c H locs 0 0 (MQ below (QI D ca ad res) args s 0 0 (AA ad)) (F0 m 75 ls [.int s0]) := by
  unfold fX12_mark_75 at hf
  refine lv_iconst (v := 0) C.1 C.2.1 dX12_mark_75 (by decide) ?_
  exact wX12_mark_76 C hk39 ha0 hW (lv_sub hl [0, 1, 2, 3] rfl) hf
set_option maxRecDepth 100000 in
set_option maxHeartbeats 4000000 in
theorem wX12_mark_39 (C : Cx p s m meth c args cX12_mark 5 (some .int) RX12 D ca ad) {res : Int32 × Mm} {N : Nat}  : ∀ (n : Nat) {a0 : Nat} {a1 : Int32} {a2 : Int32} {a3 : Int32} {a4 : Int32} {mm : Mm} {H : Heap} {locs : List Loc} {ls : Array Slot}, (sX12 a0) → Wd D ca ad s.heap mm H locs → lv_has ls 5 [(0, .ref (ad a0)), (1, .int a1), (2, .int a2), (3, .int a3), (4, .int a4)] → fX12_mark_39 N n a0 a1 a2 a3 a4 mm = some res → W p l e (rmX12_mark) s m args below meth c H locs 0 0 (MQ below (QI D ca ad res) args s 0 0 (AA ad)) (F0 m 39 ls []) := by
  intro n
  induction n with
  | zero => intro a0 a1 a2 a3 a4 mm H locs ls ha0 hW hl hf; cases hf
  | succ n ih =>
    intro a0 a1 a2 a3 a4 mm H locs ls ha0 hW hl hf
    have hk39 : ∀ (a0 : Nat) (a1 : Int32) (a2 : Int32) (a3 : Int32) (a4 : Int32) (mm : Mm) (H : Heap) (locs : List Loc) (ls : Array Slot), (sX12 a0) → Wd D ca ad s.heap mm H locs → lv_has ls 5 [(0, .ref (ad a0)), (1, .int a1), (2, .int a2), (3, .int a3), (4, .int a4)] → (fX12_mark_39 N n) a0 a1 a2 a3 a4 mm = some res → W p l e (rmX12_mark) s m args below meth c H locs 0 0 (MQ below (QI D ca ad res) args s 0 0 (AA ad)) (F0 m 39 ls []) := fun a0 a1 a2 a3 a4 mm H locs ls ha0 hW hl hf => ih ha0 hW hl hf
    unfold fX12_mark_39 at hf
    try dsimp only at hf
    refine lv_iload C.1 C.2.1 dX12_mark_39 (lv_at hl 4 rfl) ?_
    refine lv_aload_n C.1 C.2.1 dX12_mark_41 rfl (lv_at hl 0 rfl) ?_
    refine x_geti C hW (ha0).1 (ha0).2.1 (j := 10) rfl kX12 (by decide) rfl q_1026 dX12_mark_42 ?_
    refine lv_icmp_ge (tgt := 84) C.1 C.2.1 dX12_mark_45 (by decide) (fun c5 => ?_) (fun c5 => ?_)
    · have hf := if_t c5 hf
      refine lv_iload_n C.1 C.2.1 dX12_mark_84 rfl (lv_at hl 2 rfl) ?_
      by_cases c6 : a2 = 1
      · have hf := if_t c6 hf
        refine x_tin C (tgt := 116) dX12_mark_85 c6 (by decide) (by decide) (off := 31) rfl (by decide) ?_
        refine lv_aload_n C.1 C.2.1 dX12_mark_116 rfl (lv_at hl 0 rfl) ?_
        refine lv_iconst (v := 1) C.1 C.2.1 dX12_mark_117 (by decide) ?_
        obtain ⟨x7, m8, r9, hf⟩ := bd2_s hf
        refine x_ci hW (x_runV C hW [.int 1] [] (ha0).1 (ha0).2.1 kX12.1 kvX12_ofKind q_1264 (tX12_ofKind l C.2.2.2.2.2.2.1 ha0 r9) rfl rfl ⟨by decide, by decide⟩ rfl hl.1 rfl (Nat.le_of_ble_eq_true rfl) dX12_mark_118) (fun H locs hW => ?_)
        cases hf
        exact x_iret C hW dX12_mark_121
      have hf := if_f c6 hf
      by_cases c10 : a2 = 2
      · have hf := if_t c10 hf
        refine x_tin C (tgt := 122) dX12_mark_85 c10 (by decide) (by decide) (off := 37) rfl (by decide) ?_
        refine lv_aload_n C.1 C.2.1 dX12_mark_122 rfl (lv_at hl 0 rfl) ?_
        refine lv_iload_n C.1 C.2.1 dX12_mark_123 rfl (lv_at hl 1 rfl) ?_
        refine lv_iconst (v := 1) C.1 C.2.1 dX12_mark_124 (by decide) ?_
        obtain ⟨x11, m12, r13, hf⟩ := bd2_s hf
        refine x_ci hW (x_runV C hW [.int a1, .int 1] [] (ha0).1 (ha0).2.1 kX12.1 kvX12_of q_1252 (tX12_of l C.2.2.2.2.2.2.1 ha0 r13) rfl rfl ⟨by decide, by decide⟩ rfl hl.1 rfl (Nat.le_of_ble_eq_true rfl) dX12_mark_125) (fun H locs hW => ?_)
        cases hf
        exact x_iret C hW dX12_mark_128
      have hf := if_f c10 hf
      by_cases c14 : a2 = 3
      · have hf := if_t c14 hf
        refine x_tin C (tgt := 129) dX12_mark_85 c14 (by decide) (by decide) (off := 44) rfl (by decide) ?_
        refine lv_aload_n C.1 C.2.1 dX12_mark_129 rfl (lv_at hl 0 rfl) ?_
        refine lv_iload_n C.1 C.2.1 dX12_mark_130 rfl (lv_at hl 1 rfl) ?_
        refine lv_iconst (v := 2) C.1 C.2.1 dX12_mark_131 (by decide) ?_
        obtain ⟨x15, m16, r17, hf⟩ := bd2_s hf
        refine x_ci hW (x_runV C hW [.int a1, .int 2] [] (ha0).1 (ha0).2.1 kX12.1 kvX12_of q_1252 (tX12_of l C.2.2.2.2.2.2.1 ha0 r17) rfl rfl ⟨by decide, by decide⟩ rfl hl.1 rfl (Nat.le_of_ble_eq_true rfl) dX12_mark_132) (fun H locs hW => ?_)
        refine lv_aload_n C.1 C.2.1 dX12_mark_135 rfl (lv_at hl 0 rfl) ?_
        refine x_geti C hW (ha0).1 (ha0).2.1 (j := 13) rfl kX12 (by decide) rfl q_1029 dX12_mark_136 ?_
        refine lv_imul C.1 C.2.1 dX12_mark_139 ?_
        cases hf
        exact x_iret C hW dX12_mark_140
      have hf := if_f c14 hf
      by_cases c18 : a2 = 4
      · have hf := if_t c18 hf
        refine x_tin C (tgt := 141) dX12_mark_85 c18 (by decide) (by decide) (off := 56) rfl (by decide) ?_
        refine lv_aload_n C.1 C.2.1 dX12_mark_141 rfl (lv_at hl 0 rfl) ?_
        refine x_getr C hW (ha0).1 (ha0).2.1 (j := 12) rfl kX12 (by decide) rfl q_1028 dX12_mark_142 ?_
        refine lv_iconst (v := 0) C.1 C.2.1 dX12_mark_145 (by decide) ?_
        obtain ⟨g19, hf⟩ := gd_s hf
        refine x_iald C hW ha0.2.2.2.2.2.2.2.2.2.1 g19 dX12_mark_146 ?_
        refine lv_aload_n C.1 C.2.1 dX12_mark_147 rfl (lv_at hl 0 rfl) ?_
        refine x_getr C hW (ha0).1 (ha0).2.1 (j := 12) rfl kX12 (by decide) rfl q_1028 dX12_mark_148 ?_
        refine lv_iconst (v := 1) C.1 C.2.1 dX12_mark_151 (by decide) ?_
        obtain ⟨g20, hf⟩ := gd_s hf
        refine x_iald C hW ha0.2.2.2.2.2.2.2.2.2.1 g20 dX12_mark_152 ?_
        refine lv_icmp_le (tgt := 165) C.1 C.2.1 dX12_mark_153 (by decide) (fun c21 => ?_) (fun c21 => ?_)
        · have hf := if_t c21 hf
          refine lv_aload_n C.1 C.2.1 dX12_mark_165 rfl (lv_at hl 0 rfl) ?_
          refine x_getr C hW (ha0).1 (ha0).2.1 (j := 12) rfl kX12 (by decide) rfl q_1028 dX12_mark_166 ?_
          refine lv_iconst (v := 1) C.1 C.2.1 dX12_mark_169 (by decide) ?_
          obtain ⟨g22, hf⟩ := gd_s hf
          refine x_iald C hW ha0.2.2.2.2.2.2.2.2.2.1 g22 dX12_mark_170 ?_
          exact wX12_mark_171 C  ha0 hW (lv_sub hl [0, 1] rfl) hf
        · have hf := if_f c21 hf
          refine lv_aload_n C.1 C.2.1 dX12_mark_156 rfl (lv_at hl 0 rfl) ?_
          refine x_getr C hW (ha0).1 (ha0).2.1 (j := 12) rfl kX12 (by decide) rfl q_1028 dX12_mark_157 ?_
          refine lv_iconst (v := 0) C.1 C.2.1 dX12_mark_160 (by decide) ?_
          obtain ⟨g23, hf⟩ := gd_s hf
          refine x_iald C hW ha0.2.2.2.2.2.2.2.2.2.1 g23 dX12_mark_161 ?_
          refine lv_goto (tgt := 171) C.1 C.2.1 dX12_mark_162 (by decide) ?_
          exact wX12_mark_171 C  ha0 hW (lv_sub hl [0, 1] rfl) hf
      have hf := if_f c18 hf
      refine x_tdef C (tgt := 179) dX12_mark_85 (by
          have := lv_neT c6 (a := 1) (by decide)
          have := lv_neT c10 (a := 2) (by decide)
          have := lv_neT c14 (a := 3) (by decide)
          have := lv_neT c18 (a := 4) (by decide)
          rcases (by omega : a2.toInt < 1 ∨ 4 < a2.toInt) with h | h
          · exact Or.inl h
          · exact Or.inr (Or.inl h)) (by decide) ?_
      refine lv_iload_n C.1 C.2.1 dX12_mark_179 rfl (lv_at hl 3 rfl) ?_
      cases hf
      exact x_iret C hW dX12_mark_180
    · have hf := if_f c5 hf
      refine lv_iload_n C.1 C.2.1 dX12_mark_48 rfl (lv_at hl 3 rfl) ?_
      refine lv_aload_n C.1 C.2.1 dX12_mark_49 rfl (lv_at hl 0 rfl) ?_
      refine lv_iload C.1 C.2.1 dX12_mark_50 (lv_at hl 4 rfl) ?_
      refine lv_iconst (v := 0) C.1 C.2.1 dX12_mark_52 (by decide) ?_
      obtain ⟨x24, m25, r26, hf⟩ := bd2_s hf
      refine x_ci hW (x_runV C hW [.int a4, .int 0] [.int a3] (ha0).1 (ha0).2.1 kX12.1 kvX12_of q_1252 (tX12_of l C.2.2.2.2.2.2.1 ha0 r26) rfl rfl ⟨by decide, by decide⟩ rfl hl.1 rfl (Nat.le_of_ble_eq_true rfl) dX12_mark_53) (fun H locs hW => ?_)
      refine lv_iconst (v := 5) C.1 C.2.1 dX12_mark_56 (by decide) ?_
      refine lv_icmp_ne (tgt := 75) C.1 C.2.1 dX12_mark_57 (by decide) (fun c27 => ?_) (fun c27 => ?_)
      · have hf := if_f c27 hf
        exact wX12_mark_75 C hk39 ha0 hW (lv_sub hl [0, 1, 2, 4] rfl) hf
      · have hf := if_t c27 hf
        refine lv_aload_n C.1 C.2.1 dX12_mark_60 rfl (lv_at hl 0 rfl) ?_
        refine lv_iload C.1 C.2.1 dX12_mark_61 (lv_at hl 4 rfl) ?_
        refine lv_iconst (v := 2) C.1 C.2.1 dX12_mark_63 (by decide) ?_
        obtain ⟨x28, m29, r30, hf⟩ := bd2_s hf
        refine x_ci hW (x_runV C hW [.int a4, .int 2] [.int a3] (ha0).1 (ha0).2.1 kX12.1 kvX12_of q_1252 (tX12_of l C.2.2.2.2.2.2.1 ha0 r30) rfl rfl ⟨by decide, by decide⟩ rfl hl.1 rfl (Nat.le_of_ble_eq_true rfl) dX12_mark_64) (fun H locs hW => ?_)
        refine lv_iload_n C.1 C.2.1 dX12_mark_67 rfl (lv_at hl 1 rfl) ?_
        refine lv_icmp_ne (tgt := 75) C.1 C.2.1 dX12_mark_68 (by decide) (fun c31 => ?_) (fun c31 => ?_)
        · have hf := if_f c31 hf
          exact wX12_mark_75 C hk39 ha0 hW (lv_sub hl [0, 1, 2, 4] rfl) hf
        · have hf := if_t c31 hf
          refine lv_iconst (v := 1) C.1 C.2.1 dX12_mark_71 (by decide) ?_
          refine lv_goto (tgt := 76) C.1 C.2.1 dX12_mark_72 (by decide) ?_
          exact wX12_mark_76 C hk39 ha0 hW (lv_sub hl [0, 1, 2, 4] rfl) hf
set_option maxRecDepth 100000 in
set_option maxHeartbeats 4000000 in
theorem wX12_mark_0 (C : Cx p s m meth c args cX12_mark 5 (some .int) RX12 D ca ad) {res : Int32 × Mm} {N : Nat}  {a0 : Nat} {a1 : Int32} {a2 : Int32} {mm : Mm} {H : Heap} {locs : List Loc} {ls : Array Slot} (ha0 : sX12 a0) (hW : Wd D ca ad s.heap mm H locs) (hl : lv_has ls 5 [(0, .ref (ad a0)), (1, .int a1), (2, .int a2)]) (hf : fX12_mark N a0 a1 a2 mm = some res) : W p l e (rmX12_mark) s m args below meth c H locs 0 0 (MQ below (QI D ca ad res) args s 0 0 (AA ad)) (F0 m 0 ls []) := by
  unfold fX12_mark at hf
  refine lv_aload_n C.1 C.2.1 dX12_mark_0 rfl (lv_at hl 0 rfl) ?_
  refine lv_iload_n C.1 C.2.1 dX12_mark_1 rfl (lv_at hl 1 rfl) ?_
  obtain ⟨x32, m33, r34, hf⟩ := bd2_s hf
  refine x_ci hW (x_runV C hW [.int a1] [] (ha0).1 (ha0).2.1 kX12.1 kvX12_isSuit q_1248 (tX12_isSuit l C.2.2.2.2.2.2.1 ha0 r34) rfl rfl ⟨by decide, by decide⟩ rfl hl.1 rfl (Nat.le_of_ble_eq_true rfl) dX12_mark_2) (fun H locs hW => ?_)
  refine lv_if_eq (tgt := 17) C.1 C.2.1 dX12_mark_5 (by decide) (fun c35 => ?_) (fun c35 => ?_)
  · have hf := if_t c35 hf
    refine lv_iconst (v := (-1)) C.1 C.2.1 dX12_mark_17 (by decide) ?_
    cases hf
    exact x_iret C hW dX12_mark_18
  · have hf := if_f c35 hf
    refine lv_iload_n C.1 C.2.1 dX12_mark_8 rfl (lv_at hl 2 rfl) ?_
    refine lv_iconst (v := 1) C.1 C.2.1 dX12_mark_9 (by decide) ?_
    refine lv_iconst (v := 5) C.1 C.2.1 dX12_mark_10 (by decide) ?_
    obtain ⟨x36, m37, r38, hf⟩ := bd2_s hf
    refine x_ci hW (x_runS C hW [.int a2, .int 1, .int 5] [] kvX12_in q_1150 (tX12_in l C.2.2.2.2.2.2.1  r38) rfl rfl ⟨by decide, by decide⟩ rfl hl.1 rfl (Nat.le_of_ble_eq_true rfl) dX12_mark_11) (fun H locs hW => ?_)
    refine lv_if_ne (tgt := 19) C.1 C.2.1 dX12_mark_14 (by decide) (fun c39 => ?_) (fun c39 => ?_)
    · have hf := if_f c39 hf
      refine lv_aload_n C.1 C.2.1 dX12_mark_19 rfl (lv_at hl 0 rfl) ?_
      refine lv_iload_n C.1 C.2.1 dX12_mark_20 rfl (lv_at hl 1 rfl) ?_
      refine lv_iload_n C.1 C.2.1 dX12_mark_21 rfl (lv_at hl 2 rfl) ?_
      obtain ⟨x40, m41, r42, hf⟩ := bd2_s hf
      refine x_ci hW (x_runV C hW [.int a1, .int a2] [] (ha0).1 (ha0).2.1 kX12.1 kvX12_isA q_1260 (tX12_isA l C.2.2.2.2.2.2.1 ha0 r42) rfl rfl ⟨by decide, by decide⟩ rfl hl.1 rfl (Nat.le_of_ble_eq_true rfl) dX12_mark_22) (fun H locs hW => ?_)
      refine lv_if_ne (tgt := 34) C.1 C.2.1 dX12_mark_25 (by decide) (fun c43 => ?_) (fun c43 => ?_)
      · have hf := if_f c43 hf
        refine lv_iconst (v := 0) C.1 C.2.1 dX12_mark_34 (by decide) ?_
        refine lv_istore_n (lv' := [(3, .int 0), (0, .ref (ad a0)), (1, .int a1), (2, .int a2)]) C.1 C.2.1 dX12_mark_35 rfl hl (by decide) rfl (fun ls hl => ?_)
        refine lv_iconst (v := 0) C.1 C.2.1 dX12_mark_36 (by decide) ?_
        refine lv_istore (lv' := [(4, .int 0), (3, .int 0), (0, .ref (ad a0)), (1, .int a1), (2, .int a2)]) C.1 C.2.1 dX12_mark_37 hl (by decide) rfl (fun ls hl => ?_)
        exact wX12_mark_39 C  N ha0 hW (lv_sub hl [2, 3, 4, 1, 0] rfl) hf
      · have hf := if_t c43 hf
        refine lv_aload_n C.1 C.2.1 dX12_mark_28 rfl (lv_at hl 0 rfl) ?_
        refine lv_iconst (v := 3) C.1 C.2.1 dX12_mark_29 (by decide) ?_
        obtain ⟨x44, m45, r46, hf⟩ := bd2_s hf
        refine x_ci hW (x_runV C hW [.int 3] [] (ha0).1 (ha0).2.1 kX12.1 kvX12_meet q_1153 (tX12_meet l C.2.2.2.2.2.2.1 ha0 r46) rfl rfl ⟨by decide, by decide⟩ rfl hl.1 rfl (Nat.le_of_ble_eq_true rfl) dX12_mark_30) (fun H locs hW => ?_)
        cases hf
        exact x_iret C hW dX12_mark_33
    · have hf := if_t c39 hf
      refine lv_iconst (v := (-1)) C.1 C.2.1 dX12_mark_17 (by decide) ?_
      cases hf
      exact x_iret C hW dX12_mark_18
set_option maxRecDepth 100000 in
set_option maxHeartbeats 4000000 in
theorem tX12_mark (l : Launch) {D : va_G} {ca ad : Nat → Nat} (hi : Inj ad) {N : Nat} {a0 : Nat} {a1 : Int32} {a2 : Int32} {mm : Mm} {res : Int32 × Mm} (ha0 : sX12 a0) (hf : fX12_mark N a0 a1 a2 mm = some res) : Met l yX12_mark (WS yX12_mark cX12_mark 5 (some .int)) (rmX12_mark) (va_Pc [.ref (ad a0), .int a1, .int a2] (WB D ca ad mm)) (QI D ca ad res) 0 0 (AA ad) := by
  refine x_start hi (by decide) rfl (Nat.le_of_ble_eq_true rfl) (fun p e s m args below meth c ls C hW hl => ?_)
  exact wX12_mark_0 C ha0 hW (lv_sub hl [0, 1, 2] rfl) hf
set_option maxRecDepth 100000 in
set_option maxHeartbeats 4000000 in
theorem wX12_stock_0 (C : Cx p s m meth c args cX12_stock 4 (some .int) RX12 D ca ad) {res : Int32 × Mm} {N : Nat}  {a0 : Nat} {a1 : Int32} {a2 : Int32} {mm : Mm} {H : Heap} {locs : List Loc} {ls : Array Slot} (ha0 : sX12 a0) (hW : Wd D ca ad s.heap mm H locs) (hl : lv_has ls 4 [(0, .ref (ad a0)), (1, .int a1), (2, .int a2)]) (hf : fX12_stock N a0 a1 a2 mm = some res) : W p l e (rmX12_stock) s m args below meth c H locs 0 0 (MQ below (QI D ca ad res) args s 0 0 (AA ad)) (F0 m 0 ls []) := by
  unfold fX12_stock at hf
  refine lv_iload_n C.1 C.2.1 dX12_stock_0 rfl (lv_at hl 1 rfl) ?_
  refine lv_iconst (v := 0) C.1 C.2.1 dX12_stock_1 (by decide) ?_
  refine lv_iconst (v := 1) C.1 C.2.1 dX12_stock_2 (by decide) ?_
  obtain ⟨x1, m2, r3, hf⟩ := bd2_s hf
  refine x_ci hW (x_runS C hW [.int a1, .int 0, .int 1] [] kvX12_in q_1150 (tX12_in l C.2.2.2.2.2.2.1  r3) rfl rfl ⟨by decide, by decide⟩ rfl hl.1 rfl (Nat.le_of_ble_eq_true rfl) dX12_stock_3) (fun H locs hW => ?_)
  refine lv_if_eq (tgt := 19) C.1 C.2.1 dX12_stock_6 (by decide) (fun c4 => ?_) (fun c4 => ?_)
  · have hf := if_t c4 hf
    refine lv_iconst (v := (-1)) C.1 C.2.1 dX12_stock_19 (by decide) ?_
    cases hf
    exact x_iret C hW dX12_stock_20
  · have hf := if_f c4 hf
    refine lv_iload_n C.1 C.2.1 dX12_stock_9 rfl (lv_at hl 2 rfl) ?_
    refine lv_iconst (v := 0) C.1 C.2.1 dX12_stock_10 (by decide) ?_
    refine lv_bipush (v := 40) C.1 C.2.1 dX12_stock_11 (by decide) ?_
    obtain ⟨x5, m6, r7, hf⟩ := bd2_s hf
    refine x_ci hW (x_runS C hW [.int a2, .int 0, .int 40] [] kvX12_in q_1150 (tX12_in l C.2.2.2.2.2.2.1  r7) rfl rfl ⟨by decide, by decide⟩ rfl hl.1 rfl (Nat.le_of_ble_eq_true rfl) dX12_stock_13) (fun H locs hW => ?_)
    refine lv_if_ne (tgt := 21) C.1 C.2.1 dX12_stock_16 (by decide) (fun c8 => ?_) (fun c8 => ?_)
    · have hf := if_f c8 hf
      refine lv_aload_n C.1 C.2.1 dX12_stock_21 rfl (lv_at hl 0 rfl) ?_
      refine x_getr C hW (ha0).1 (ha0).2.1 (j := 12) rfl kX12 (by decide) rfl q_1028 dX12_stock_22 ?_
      refine lv_iload_n C.1 C.2.1 dX12_stock_25 rfl (lv_at hl 1 rfl) ?_
      obtain ⟨g9, hf⟩ := gd_s hf
      refine x_iald C hW ha0.2.2.2.2.2.2.2.2.2.1 g9 dX12_stock_26 ?_
      refine lv_topi (fun x10 ex10 => ?_)
      have hf := nm_s hf ex10
      refine lv_istore_n (lv' := [(3, .int x10), (0, .ref (ad a0)), (1, .int a1), (2, .int a2)]) C.1 C.2.1 dX12_stock_27 rfl hl (by decide) rfl (fun ls hl => ?_)
      refine lv_aload_n C.1 C.2.1 dX12_stock_28 rfl (lv_at hl 1 rfl) ?_
      refine x_getr C hW (ha0).1 (ha0).2.1 (j := 12) rfl kX12 (by decide) rfl q_1028 dX12_stock_29 ?_
      refine lv_iload_n C.1 C.2.1 dX12_stock_32 rfl (lv_at hl 2 rfl) ?_
      refine lv_iload_n C.1 C.2.1 dX12_stock_33 rfl (lv_at hl 3 rfl) ?_
      obtain ⟨g11, hf⟩ := gd_s hf
      refine x_iast C hW ha0.2.2.2.2.2.2.2.2.2.1 g11 dX12_stock_34 (fun H locs hW => ?_)
      obtain ⟨m12, em12⟩ : ∃ z, z = wr m6 (fr a0 12) a1.toNatClampNeg a2 := ⟨_, rfl⟩
      have hf := nm_s hf em12
      rw [← em12] at hW
      refine lv_iload_n C.1 C.2.1 dX12_stock_35 rfl (lv_at hl 0 rfl) ?_
      cases hf
      exact x_iret C hW dX12_stock_36
    · have hf := if_t c8 hf
      refine lv_iconst (v := (-1)) C.1 C.2.1 dX12_stock_19 (by decide) ?_
      cases hf
      exact x_iret C hW dX12_stock_20
set_option maxRecDepth 100000 in
set_option maxHeartbeats 4000000 in
theorem tX12_stock (l : Launch) {D : va_G} {ca ad : Nat → Nat} (hi : Inj ad) {N : Nat} {a0 : Nat} {a1 : Int32} {a2 : Int32} {mm : Mm} {res : Int32 × Mm} (ha0 : sX12 a0) (hf : fX12_stock N a0 a1 a2 mm = some res) : Met l yX12_stock (WS yX12_stock cX12_stock 4 (some .int)) (rmX12_stock) (va_Pc [.ref (ad a0), .int a1, .int a2] (WB D ca ad mm)) (QI D ca ad res) 0 0 (AA ad) := by
  refine x_start hi (by decide) rfl (Nat.le_of_ble_eq_true rfl) (fun p e s m args below meth c ls C hW hl => ?_)
  exact wX12_stock_0 C ha0 hW (lv_sub hl [0, 1, 2] rfl) hf
set_option maxRecDepth 100000 in
set_option maxHeartbeats 4000000 in
theorem wX12_damp_0 (C : Cx p s m meth c args cX12_damp 3 (some .int) RX12 D ca ad) {res : Int32 × Mm} {N : Nat}  {a0 : Nat} {a1 : Int32} {mm : Mm} {H : Heap} {locs : List Loc} {ls : Array Slot} (ha0 : sX12 a0) (hW : Wd D ca ad s.heap mm H locs) (hl : lv_has ls 3 [(0, .ref (ad a0)), (1, .int a1)]) (hf : fX12_damp N a0 a1 mm = some res) : W p l e (rmX12_damp) s m args below meth c H locs 0 0 (MQ below (QI D ca ad res) args s 0 0 (AA ad)) (F0 m 0 ls []) := by
  unfold fX12_damp at hf
  refine lv_iload_n C.1 C.2.1 dX12_damp_0 rfl (lv_at hl 1 rfl) ?_
  refine lv_iconst (v := 0) C.1 C.2.1 dX12_damp_1 (by decide) ?_
  refine lv_bipush (v := 9) C.1 C.2.1 dX12_damp_2 (by decide) ?_
  obtain ⟨x1, m2, r3, hf⟩ := bd2_s hf
  refine x_ci hW (x_runS C hW [.int a1, .int 0, .int 9] [] kvX12_in q_1150 (tX12_in l C.2.2.2.2.2.2.1  r3) rfl rfl ⟨by decide, by decide⟩ rfl hl.1 rfl (Nat.le_of_ble_eq_true rfl) dX12_damp_4) (fun H locs hW => ?_)
  refine lv_if_ne (tgt := 12) C.1 C.2.1 dX12_damp_7 (by decide) (fun c4 => ?_) (fun c4 => ?_)
  · have hf := if_f c4 hf
    refine lv_aload_n C.1 C.2.1 dX12_damp_12 rfl (lv_at hl 0 rfl) ?_
    refine x_geti C hW (ha0).1 (ha0).2.1 (j := 13) rfl kX12 (by decide) rfl q_1029 dX12_damp_13 ?_
    refine lv_istore_n (lv' := [(2, .int (rd m2 a0 13)), (0, .ref (ad a0)), (1, .int a1)]) C.1 C.2.1 dX12_damp_16 rfl hl (by decide) rfl (fun ls hl => ?_)
    refine lv_aload_n C.1 C.2.1 dX12_damp_17 rfl (lv_at hl 1 rfl) ?_
    refine lv_iload_n C.1 C.2.1 dX12_damp_18 rfl (lv_at hl 2 rfl) ?_
    refine x_put C hW (ha0).1 (ha0).2.1 (j := 13) (t1 := .int) rfl kX12 (by decide) rfl rfl q_1029 (by decide +kernel) rfl rfl dX12_damp_19 (fun H locs hW => ?_)
    obtain ⟨m5, em5⟩ : ∃ z, z = wr m2 a0 13 a1 := ⟨_, rfl⟩
    have hf := nm_s hf em5
    rw [← em5] at hW
    refine lv_iload_n C.1 C.2.1 dX12_damp_22 rfl (lv_at hl 0 rfl) ?_
    cases hf
    exact x_iret C hW dX12_damp_23
  · have hf := if_t c4 hf
    refine lv_iconst (v := (-1)) C.1 C.2.1 dX12_damp_10 (by decide) ?_
    cases hf
    exact x_iret C hW dX12_damp_11
set_option maxRecDepth 100000 in
set_option maxHeartbeats 4000000 in
theorem tX12_damp (l : Launch) {D : va_G} {ca ad : Nat → Nat} (hi : Inj ad) {N : Nat} {a0 : Nat} {a1 : Int32} {mm : Mm} {res : Int32 × Mm} (ha0 : sX12 a0) (hf : fX12_damp N a0 a1 mm = some res) : Met l yX12_damp (WS yX12_damp cX12_damp 3 (some .int)) (rmX12_damp) (va_Pc [.ref (ad a0), .int a1] (WB D ca ad mm)) (QI D ca ad res) 0 0 (AA ad) := by
  refine x_start hi (by decide) rfl (Nat.le_of_ble_eq_true rfl) (fun p e s m args below meth c ls C hW hl => ?_)
  exact wX12_damp_0 C ha0 hW (lv_sub hl [0, 1] rfl) hf
set_option maxRecDepth 100000 in
set_option maxHeartbeats 4000000 in
theorem wX12_weight_73 (C : Cx p s m meth c args cX12_weight 6 (some .int) RX12 D ca ad) {res : Int32 × Mm} {N : Nat}  {a0 : Nat} {a3 : Int32} {a5 : Int32} {mm : Mm} {H : Heap} {locs : List Loc} {ls : Array Slot} (ha0 : sX12 a0) (hW : Wd D ca ad s.heap mm H locs) (hl : lv_has ls 6 [(0, .ref (ad a0)), (3, .int a3), (5, .int a5)]) (hf : fX12_weight_73 N a0 a3 a5 mm = some res) : W p l e (rmX12_weight) s m args below meth c H locs 0 0 (MQ below (QI D ca ad res) args s 0 0 (AA ad)) (F0 m 73 ls []) := by
  unfold fX12_weight_73 at hf
  refine lv_iload_n C.1 C.2.1 dX12_weight_73 rfl (lv_at hl 1 rfl) ?_
  refine lv_iload C.1 C.2.1 dX12_weight_74 (lv_at hl 2 rfl) ?_
  refine lv_aload_n C.1 C.2.1 dX12_weight_76 rfl (lv_at hl 0 rfl) ?_
  refine x_geti C hW (ha0).1 (ha0).2.1 (j := 13) rfl kX12 (by decide) rfl q_1029 dX12_weight_77 ?_
  refine lv_imul C.1 C.2.1 dX12_weight_80 ?_
  refine lv_iadd C.1 C.2.1 dX12_weight_81 ?_
  cases hf
  exact x_iret C hW dX12_weight_82
set_option maxRecDepth 100000 in
set_option maxHeartbeats 4000000 in
theorem wX12_weight_53 (C : Cx p s m meth c args cX12_weight 6 (some .int) RX12 D ca ad) {res : Int32 × Mm} {N : Nat}  {a0 : Nat} {a3 : Int32} {a4 : Int32} {a5 : Int32} {mm : Mm} {H : Heap} {locs : List Loc} {ls : Array Slot} (ha0 : sX12 a0) (hW : Wd D ca ad s.heap mm H locs) (hl : lv_has ls 6 [(0, .ref (ad a0)), (3, .int a3), (4, .int a4), (5, .int a5)]) (hf : fX12_weight_53 N a0 a3 a4 a5 mm = some res) : W p l e (rmX12_weight) s m args below meth c H locs 0 0 (MQ below (QI D ca ad res) args s 0 0 (AA ad)) (F0 m 53 ls []) := by
  unfold fX12_weight_53 at hf
  refine lv_iload_n C.1 C.2.1 dX12_weight_53 rfl (lv_at hl 1 rfl) ?_
  refine lv_if_eq (tgt := 69) C.1 C.2.1 dX12_weight_54 (by decide) (fun c1 => ?_) (fun c1 => ?_)
  · have hf := if_t c1 hf
    refine lv_iconst (v := 0) C.1 C.2.1 dX12_weight_69 (by decide) ?_
    refine lv_goto (tgt := 82) C.1 C.2.1 dX12_weight_70 (by decide) ?_
    cases hf
    exact x_iret C hW dX12_weight_82
  · have hf := if_f c1 hf
    refine lv_iload C.1 C.2.1 dX12_weight_57 (lv_at hl 2 rfl) ?_
    refine lv_iconst (v := 4) C.1 C.2.1 dX12_weight_59 (by decide) ?_
    refine lv_icmp_ne (tgt := 73) C.1 C.2.1 dX12_weight_60 (by decide) (fun c2 => ?_) (fun c2 => ?_)
    · have hf := if_f c2 hf
      exact wX12_weight_73 C  ha0 hW (lv_sub hl [0, 1, 3] rfl) hf
    · have hf := if_t c2 hf
      refine lv_iload_n C.1 C.2.1 dX12_weight_63 rfl (lv_at hl 1 rfl) ?_
      refine lv_iload C.1 C.2.1 dX12_weight_64 (lv_at hl 3 rfl) ?_
      refine lv_icmp_ge (tgt := 73) C.1 C.2.1 dX12_weight_66 (by decide) (fun c3 => ?_) (fun c3 => ?_)
      · have hf := if_t c3 hf
        exact wX12_weight_73 C  ha0 hW (lv_sub hl [0, 1, 3] rfl) hf
      · have hf := if_f c3 hf
        refine lv_iconst (v := 0) C.1 C.2.1 dX12_weight_69 (by decide) ?_
        refine lv_goto (tgt := 82) C.1 C.2.1 dX12_weight_70 (by decide) ?_
        cases hf
        exact x_iret C hW dX12_weight_82
set_option maxRecDepth 100000 in
set_option maxHeartbeats 4000000 in
theorem wX12_weight_0 (C : Cx p s m meth c args cX12_weight 6 (some .int) RX12 D ca ad) {res : Int32 × Mm} {N : Nat}  {a0 : Nat} {a1 : Int32} {a2 : Int32} {a3 : Int32} {mm : Mm} {H : Heap} {locs : List Loc} {ls : Array Slot} (ha0 : sX12 a0) (hW : Wd D ca ad s.heap mm H locs) (hl : lv_has ls 6 [(0, .ref (ad a0)), (1, .int a1), (2, .int a2), (3, .int a3)]) (hf : fX12_weight N a0 a1 a2 a3 mm = some res) : W p l e (rmX12_weight) s m args below meth c H locs 0 0 (MQ below (QI D ca ad res) args s 0 0 (AA ad)) (F0 m 0 ls []) := by
  unfold fX12_weight at hf
  refine lv_aload_n C.1 C.2.1 dX12_weight_0 rfl (lv_at hl 0 rfl) ?_
  refine lv_iload_n C.1 C.2.1 dX12_weight_1 rfl (lv_at hl 1 rfl) ?_
  refine lv_iconst (v := 0) C.1 C.2.1 dX12_weight_2 (by decide) ?_
  obtain ⟨x4, m5, r6, hf⟩ := bd2_s hf
  refine x_ci hW (x_runV C hW [.int a1, .int 0] [] (ha0).1 (ha0).2.1 kX12.1 kvX12_of q_1252 (tX12_of l C.2.2.2.2.2.2.1 ha0 r6) rfl rfl ⟨by decide, by decide⟩ rfl hl.1 rfl (Nat.le_of_ble_eq_true rfl) dX12_weight_3) (fun H locs hW => ?_)
  refine lv_istore (lv' := [(4, .int x4), (0, .ref (ad a0)), (1, .int a1), (2, .int a2), (3, .int a3)]) C.1 C.2.1 dX12_weight_6 hl (by decide) rfl (fun ls hl => ?_)
  refine lv_aload_n C.1 C.2.1 dX12_weight_8 rfl (lv_at hl 1 rfl) ?_
  refine lv_iload_n C.1 C.2.1 dX12_weight_9 rfl (lv_at hl 2 rfl) ?_
  refine lv_iconst (v := 2) C.1 C.2.1 dX12_weight_10 (by decide) ?_
  obtain ⟨x7, m8, r9, hf⟩ := bd2_s hf
  refine x_ci hW (x_runV C hW [.int a1, .int 2] [] (ha0).1 (ha0).2.1 kX12.1 kvX12_of q_1252 (tX12_of l C.2.2.2.2.2.2.1 ha0 r9) rfl rfl ⟨by decide, by decide⟩ rfl hl.1 rfl (Nat.le_of_ble_eq_true rfl) dX12_weight_11) (fun H locs hW => ?_)
  refine lv_istore (lv' := [(5, .int x7), (4, .int x4), (0, .ref (ad a0)), (1, .int a1), (2, .int a2), (3, .int a3)]) C.1 C.2.1 dX12_weight_14 hl (by decide) rfl (fun ls hl => ?_)
  refine lv_iload C.1 C.2.1 dX12_weight_16 (lv_at hl 1 rfl) ?_
  refine lv_iconst (v := 5) C.1 C.2.1 dX12_weight_18 (by decide) ?_
  refine lv_icmp_ne (tgt := 41) C.1 C.2.1 dX12_weight_19 (by decide) (fun c10 => ?_) (fun c10 => ?_)
  · have hf := if_f c10 hf
    refine lv_iload C.1 C.2.1 dX12_weight_41 (lv_at hl 1 rfl) ?_
    refine lv_iconst (v := 3) C.1 C.2.1 dX12_weight_43 (by decide) ?_
    refine lv_icmp_eq (tgt := 53) C.1 C.2.1 dX12_weight_44 (by decide) (fun c11 => ?_) (fun c11 => ?_)
    · have hf := if_t c11 hf
      exact wX12_weight_53 C  ha0 hW (lv_sub hl [2, 5, 1, 0] rfl) hf
    · have hf := if_f c11 hf
      refine lv_iload C.1 C.2.1 dX12_weight_47 (lv_at hl 1 rfl) ?_
      refine lv_iconst (v := 4) C.1 C.2.1 dX12_weight_49 (by decide) ?_
      refine lv_icmp_ne (tgt := 83) C.1 C.2.1 dX12_weight_50 (by decide) (fun c12 => ?_) (fun c12 => ?_)
      · have hf := if_f c12 hf
        refine lv_iload_n C.1 C.2.1 dX12_weight_83 rfl (lv_at hl 5 rfl) ?_
        cases hf
        exact x_iret C hW dX12_weight_84
      · have hf := if_t c12 hf
        exact wX12_weight_53 C  ha0 hW (lv_sub hl [2, 5, 1, 0] rfl) hf
  · have hf := if_t c10 hf
    refine lv_iload_n C.1 C.2.1 dX12_weight_22 rfl (lv_at hl 5 rfl) ?_
    refine lv_aload_n C.1 C.2.1 dX12_weight_23 rfl (lv_at hl 2 rfl) ?_
    refine x_getr C hW (ha0).1 (ha0).2.1 (j := 21) rfl kX12 (by decide) rfl q_1037 dX12_weight_24 ?_
    refine lv_iload C.1 C.2.1 dX12_weight_27 (lv_at hl 0 rfl) ?_
    obtain ⟨g13, hf⟩ := gd_s hf
    refine x_iald C hW ha0.2.2.2.2.2.2.2.2.2.2.2.2.2.1 g13 dX12_weight_29 ?_
    refine lv_iload_n C.1 C.2.1 dX12_weight_30 rfl (lv_at hl 4 rfl) ?_
    refine lv_icmp_ne (tgt := 38) C.1 C.2.1 dX12_weight_31 (by decide) (fun c14 => ?_) (fun c14 => ?_)
    · have hf := if_f c14 hf
      refine lv_iconst (v := 0) C.1 C.2.1 dX12_weight_38 (by decide) ?_
      refine lv_iadd C.1 C.2.1 dX12_weight_39 ?_
      cases hf
      exact x_iret C hW dX12_weight_40
    · have hf := if_t c14 hf
      refine lv_iconst (v := 2) C.1 C.2.1 dX12_weight_34 (by decide) ?_
      refine lv_goto (tgt := 39) C.1 C.2.1 dX12_weight_35 (by decide) ?_
      refine lv_iadd C.1 C.2.1 dX12_weight_39 ?_
      cases hf
      exact x_iret C hW dX12_weight_40
set_option maxRecDepth 100000 in
set_option maxHeartbeats 4000000 in
theorem tX12_weight (l : Launch) {D : va_G} {ca ad : Nat → Nat} (hi : Inj ad) {N : Nat} {a0 : Nat} {a1 : Int32} {a2 : Int32} {a3 : Int32} {mm : Mm} {res : Int32 × Mm} (ha0 : sX12 a0) (hf : fX12_weight N a0 a1 a2 a3 mm = some res) : Met l yX12_weight (WS yX12_weight cX12_weight 6 (some .int)) (rmX12_weight) (va_Pc [.ref (ad a0), .int a1, .int a2, .int a3] (WB D ca ad mm)) (QI D ca ad res) 0 0 (AA ad) := by
  refine x_start hi (by decide) rfl (Nat.le_of_ble_eq_true rfl) (fun p e s m args below meth c ls C hW hl => ?_)
  exact wX12_weight_0 C ha0 hW (lv_sub hl [0, 1, 2, 3] rfl) hf
set_option maxRecDepth 100000 in
set_option maxHeartbeats 4000000 in
theorem wX12_winnerOf_67 (C : Cx p s m meth c args cX12_winnerOf 6 (some .int) RX12 D ca ad) {res : Int32 × Mm} {N : Nat}  {s0 : Int32} {s1 : Int32} {mm : Mm} {H : Heap} {locs : List Loc} {ls : Array Slot}  (hW : Wd D ca ad s.heap mm H locs) (hl : lv_has ls 6 []) (hf : fX12_winnerOf_67 N s0 s1 mm = some res) : W p l e (rmX12_winnerOf) s m args below meth c H locs 0 0 (MQ below (QI D ca ad res) args s 0 0 (AA ad)) (F0 m 67 ls [.int s1, .int s0]) := by
  unfold fX12_winnerOf_67 at hf
  refine lv_icmp_ne (tgt := 74) C.1 C.2.1 dX12_winnerOf_67 (by decide) (fun c1 => ?_) (fun c1 => ?_)
  · have hf := if_f c1 hf
    refine lv_iconst (v := 1) C.1 C.2.1 dX12_winnerOf_74 (by decide) ?_
    cases hf
    exact x_iret C hW dX12_winnerOf_75
  · have hf := if_t c1 hf
    refine lv_iconst (v := 0) C.1 C.2.1 dX12_winnerOf_70 (by decide) ?_
    refine lv_goto (tgt := 75) C.1 C.2.1 dX12_winnerOf_71 (by decide) ?_
    cases hf
    exact x_iret C hW dX12_winnerOf_75
set_option maxRecDepth 100000 in
set_option maxHeartbeats 4000000 in
theorem wX12_winnerOf_52 (C : Cx p s m meth c args cX12_winnerOf 6 (some .int) RX12 D ca ad) {res : Int32 × Mm} {N : Nat}  {a0 : Nat} {a1 : Int32} {s0 : Int32} {mm : Mm} {H : Heap} {locs : List Loc} {ls : Array Slot} (ha0 : sX12 a0) (hW : Wd D ca ad s.heap mm H locs) (hl : lv_has ls 6 [(0, .ref (ad a0)), (1, .int a1)]) (hf : fX12_winnerOf_52 N a0 a1 s0 mm = some res) : W p l e (rmX12_winnerOf) s m args below meth c H locs 0 0 (MQ below (QI D ca ad res) args s 0 0 (AA ad)) (F0 m 52 ls [.int s0]) := by
  unfold fX12_winnerOf_52 at hf
  refine lv_aload_n C.1 C.2.1 dX12_winnerOf_52 rfl (lv_at hl 0 rfl) ?_
  refine lv_iload_n C.1 C.2.1 dX12_winnerOf_53 rfl (lv_at hl 1 rfl) ?_
  refine lv_iconst (v := 0) C.1 C.2.1 dX12_winnerOf_54 (by decide) ?_
  obtain ⟨x2, m3, r4, hf⟩ := bd2_s hf
  refine x_ci hW (x_runV C hW [.int a1, .int 0] [.int s0] (ha0).1 (ha0).2.1 kX12.1 kvX12_of q_1252 (tX12_of l C.2.2.2.2.2.2.1 ha0 r4) rfl rfl ⟨by decide, by decide⟩ rfl hl.1 rfl (Nat.le_of_ble_eq_true rfl) dX12_winnerOf_55) (fun H locs hW => ?_)
  refine lv_iconst (v := 2) C.1 C.2.1 dX12_winnerOf_58 (by decide) ?_
  refine lv_icmp_eq (tgt := 66) C.1 C.2.1 dX12_winnerOf_59 (by decide) (fun c5 => ?_) (fun c5 => ?_)
  · have hf := if_t c5 hf
    refine lv_iconst (v := 0) C.1 C.2.1 dX12_winnerOf_66 (by decide) ?_
    exact wX12_winnerOf_67 C   hW (lv_sub hl [] rfl) hf
  · have hf := if_f c5 hf
    refine lv_iconst (v := 1) C.1 C.2.1 dX12_winnerOf_62 (by decide) ?_
    refine lv_goto (tgt := 67) C.1 C.2.1 dX12_winnerOf_63 (by decide) ?_
    exact wX12_winnerOf_67 C   hW (lv_sub hl [] rfl) hf
set_option maxRecDepth 100000 in
set_option maxHeartbeats 4000000 in
theorem wX12_winnerOf_0 (C : Cx p s m meth c args cX12_winnerOf 6 (some .int) RX12 D ca ad) {res : Int32 × Mm} {N : Nat}  {a0 : Nat} {a1 : Int32} {a2 : Int32} {a3 : Int32} {mm : Mm} {H : Heap} {locs : List Loc} {ls : Array Slot} (ha0 : sX12 a0) (hW : Wd D ca ad s.heap mm H locs) (hl : lv_has ls 6 [(0, .ref (ad a0)), (1, .int a1), (2, .int a2), (3, .int a3)]) (hf : fX12_winnerOf N a0 a1 a2 a3 mm = some res) : W p l e (rmX12_winnerOf) s m args below meth c H locs 0 0 (MQ below (QI D ca ad res) args s 0 0 (AA ad)) (F0 m 0 ls []) := by
  unfold fX12_winnerOf at hf
  refine lv_aload_n C.1 C.2.1 dX12_winnerOf_0 rfl (lv_at hl 0 rfl) ?_
  refine lv_iload_n C.1 C.2.1 dX12_winnerOf_1 rfl (lv_at hl 1 rfl) ?_
  refine lv_iconst (v := 0) C.1 C.2.1 dX12_winnerOf_2 (by decide) ?_
  refine lv_iload_n C.1 C.2.1 dX12_winnerOf_3 rfl (lv_at hl 2 rfl) ?_
  obtain ⟨x6, m7, r8, hf⟩ := bd2_s hf
  refine x_ci hW (x_runV C hW [.int a1, .int 0, .int a2] [] (ha0).1 (ha0).2.1 kX12.1 kvX12_weight q_1300 (tX12_weight l C.2.2.2.2.2.2.1 ha0 r8) rfl rfl ⟨by decide, by decide⟩ rfl hl.1 rfl (Nat.le_of_ble_eq_true rfl) dX12_winnerOf_4) (fun H locs hW => ?_)
  refine lv_istore (lv' := [(4, .int x6), (0, .ref (ad a0)), (1, .int a1), (2, .int a2), (3, .int a3)]) C.1 C.2.1 dX12_winnerOf_7 hl (by decide) rfl (fun ls hl => ?_)
  refine lv_aload_n C.1 C.2.1 dX12_winnerOf_9 rfl (lv_at hl 1 rfl) ?_
  refine lv_iload_n C.1 C.2.1 dX12_winnerOf_10 rfl (lv_at hl 2 rfl) ?_
  refine lv_iconst (v := 1) C.1 C.2.1 dX12_winnerOf_11 (by decide) ?_
  refine lv_iload_n C.1 C.2.1 dX12_winnerOf_12 rfl (lv_at hl 4 rfl) ?_
  obtain ⟨x9, m10, r11, hf⟩ := bd2_s hf
  refine x_ci hW (x_runV C hW [.int a1, .int 1, .int a3] [] (ha0).1 (ha0).2.1 kX12.1 kvX12_weight q_1300 (tX12_weight l C.2.2.2.2.2.2.1 ha0 r11) rfl rfl ⟨by decide, by decide⟩ rfl hl.1 rfl (Nat.le_of_ble_eq_true rfl) dX12_winnerOf_13) (fun H locs hW => ?_)
  refine lv_istore (lv' := [(5, .int x9), (4, .int x6), (0, .ref (ad a0)), (1, .int a1), (2, .int a2), (3, .int a3)]) C.1 C.2.1 dX12_winnerOf_16 hl (by decide) rfl (fun ls hl => ?_)
  refine lv_iload C.1 C.2.1 dX12_winnerOf_18 (lv_at hl 1 rfl) ?_
  refine lv_iload C.1 C.2.1 dX12_winnerOf_20 (lv_at hl 0 rfl) ?_
  refine lv_icmp_ne (tgt := 40) C.1 C.2.1 dX12_winnerOf_22 (by decide) (fun c12 => ?_) (fun c12 => ?_)
  · have hf := if_f c12 hf
    refine lv_iload C.1 C.2.1 dX12_winnerOf_40 (lv_at hl 1 rfl) ?_
    refine lv_iload C.1 C.2.1 dX12_winnerOf_42 (lv_at hl 0 rfl) ?_
    refine lv_icmp_le (tgt := 51) C.1 C.2.1 dX12_winnerOf_44 (by decide) (fun c13 => ?_) (fun c13 => ?_)
    · have hf := if_t c13 hf
      refine lv_iconst (v := 0) C.1 C.2.1 dX12_winnerOf_51 (by decide) ?_
      exact wX12_winnerOf_52 C  ha0 hW (lv_sub hl [2, 3] rfl) hf
    · have hf := if_f c13 hf
      refine lv_iconst (v := 1) C.1 C.2.1 dX12_winnerOf_47 (by decide) ?_
      refine lv_goto (tgt := 52) C.1 C.2.1 dX12_winnerOf_48 (by decide) ?_
      exact wX12_winnerOf_52 C  ha0 hW (lv_sub hl [2, 3] rfl) hf
  · have hf := if_t c12 hf
    refine lv_aload_n C.1 C.2.1 dX12_winnerOf_25 rfl (lv_at hl 2 rfl) ?_
    refine lv_iload_n C.1 C.2.1 dX12_winnerOf_26 rfl (lv_at hl 3 rfl) ?_
    refine lv_iconst (v := 1) C.1 C.2.1 dX12_winnerOf_27 (by decide) ?_
    obtain ⟨x14, m15, r16, hf⟩ := bd2_s hf
    refine x_ci hW (x_runV C hW [.int a1, .int 1] [] (ha0).1 (ha0).2.1 kX12.1 kvX12_isA q_1260 (tX12_isA l C.2.2.2.2.2.2.1 ha0 r16) rfl rfl ⟨by decide, by decide⟩ rfl hl.1 rfl (Nat.le_of_ble_eq_true rfl) dX12_winnerOf_28) (fun H locs hW => ?_)
    refine lv_if_eq (tgt := 38) C.1 C.2.1 dX12_winnerOf_31 (by decide) (fun c17 => ?_) (fun c17 => ?_)
    · have hf := if_t c17 hf
      refine lv_iconst (v := 2) C.1 C.2.1 dX12_winnerOf_38 (by decide) ?_
      cases hf
      exact x_iret C hW dX12_winnerOf_39
    · have hf := if_f c17 hf
      refine lv_iconst (v := 0) C.1 C.2.1 dX12_winnerOf_34 (by decide) ?_
      refine lv_goto (tgt := 39) C.1 C.2.1 dX12_winnerOf_35 (by decide) ?_
      cases hf
      exact x_iret C hW dX12_winnerOf_39
set_option maxRecDepth 100000 in
set_option maxHeartbeats 4000000 in
theorem tX12_winnerOf (l : Launch) {D : va_G} {ca ad : Nat → Nat} (hi : Inj ad) {N : Nat} {a0 : Nat} {a1 : Int32} {a2 : Int32} {a3 : Int32} {mm : Mm} {res : Int32 × Mm} (ha0 : sX12 a0) (hf : fX12_winnerOf N a0 a1 a2 a3 mm = some res) : Met l yX12_winnerOf (WS yX12_winnerOf cX12_winnerOf 6 (some .int)) (rmX12_winnerOf) (va_Pc [.ref (ad a0), .int a1, .int a2, .int a3] (WB D ca ad mm)) (QI D ca ad res) 0 0 (AA ad) := by
  refine x_start hi (by decide) rfl (Nat.le_of_ble_eq_true rfl) (fun p e s m args below meth c ls C hW hl => ?_)
  exact wX12_winnerOf_0 C ha0 hW (lv_sub hl [0, 1, 2, 3] rfl) hf
set_option maxRecDepth 100000 in
set_option maxHeartbeats 4000000 in
theorem wX12_worthOf_0 (C : Cx p s m meth c args cX12_worthOf 4 (some .int) RX12 D ca ad) {res : Int32 × Mm} {N : Nat}  {a0 : Nat} {a1 : Int32} {a2 : Int32} {a3 : Int32} {mm : Mm} {H : Heap} {locs : List Loc} {ls : Array Slot} (ha0 : sX12 a0) (hW : Wd D ca ad s.heap mm H locs) (hl : lv_has ls 4 [(0, .ref (ad a0)), (1, .int a1), (2, .int a2), (3, .int a3)]) (hf : fX12_worthOf N a0 a1 a2 a3 mm = some res) : W p l e (rmX12_worthOf) s m args below meth c H locs 0 0 (MQ below (QI D ca ad res) args s 0 0 (AA ad)) (F0 m 0 ls []) := by
  unfold fX12_worthOf at hf
  refine lv_iload_n C.1 C.2.1 dX12_worthOf_0 rfl (lv_at hl 2 rfl) ?_
  refine lv_iload_n C.1 C.2.1 dX12_worthOf_1 rfl (lv_at hl 3 rfl) ?_
  refine lv_icmp_ne (tgt := 16) C.1 C.2.1 dX12_worthOf_2 (by decide) (fun c1 => ?_) (fun c1 => ?_)
  · have hf := if_f c1 hf
    refine lv_iload_n C.1 C.2.1 dX12_worthOf_16 rfl (lv_at hl 2 rfl) ?_
    refine lv_iconst (v := 2) C.1 C.2.1 dX12_worthOf_17 (by decide) ?_
    refine lv_icmp_ne (tgt := 30) C.1 C.2.1 dX12_worthOf_18 (by decide) (fun c2 => ?_) (fun c2 => ?_)
    · have hf := if_f c2 hf
      refine lv_iconst (v := 0) C.1 C.2.1 dX12_worthOf_30 (by decide) ?_
      cases hf
      exact x_iret C hW dX12_worthOf_31
    · have hf := if_t c2 hf
      refine lv_aload_n C.1 C.2.1 dX12_worthOf_21 rfl (lv_at hl 0 rfl) ?_
      refine lv_iload_n C.1 C.2.1 dX12_worthOf_22 rfl (lv_at hl 1 rfl) ?_
      refine lv_iconst (v := 1) C.1 C.2.1 dX12_worthOf_23 (by decide) ?_
      obtain ⟨x3, m4, r5, hf⟩ := bd2_s hf
      refine x_ci hW (x_runV C hW [.int a1, .int 1] [] (ha0).1 (ha0).2.1 kX12.1 kvX12_of q_1252 (tX12_of l C.2.2.2.2.2.2.1 ha0 r5) rfl rfl ⟨by decide, by decide⟩ rfl hl.1 rfl (Nat.le_of_ble_eq_true rfl) dX12_worthOf_24) (fun H locs hW => ?_)
      refine lv_goto (tgt := 31) C.1 C.2.1 dX12_worthOf_27 (by decide) ?_
      cases hf
      exact x_iret C hW dX12_worthOf_31
  · have hf := if_t c1 hf
    refine lv_iconst (v := 2) C.1 C.2.1 dX12_worthOf_5 (by decide) ?_
    refine lv_aload_n C.1 C.2.1 dX12_worthOf_6 rfl (lv_at hl 0 rfl) ?_
    refine lv_iload_n C.1 C.2.1 dX12_worthOf_7 rfl (lv_at hl 1 rfl) ?_
    refine lv_iconst (v := 1) C.1 C.2.1 dX12_worthOf_8 (by decide) ?_
    obtain ⟨x6, m7, r8, hf⟩ := bd2_s hf
    refine x_ci hW (x_runV C hW [.int a1, .int 1] [.int 2] (ha0).1 (ha0).2.1 kX12.1 kvX12_of q_1252 (tX12_of l C.2.2.2.2.2.2.1 ha0 r8) rfl rfl ⟨by decide, by decide⟩ rfl hl.1 rfl (Nat.le_of_ble_eq_true rfl) dX12_worthOf_9) (fun H locs hW => ?_)
    refine lv_imul C.1 C.2.1 dX12_worthOf_12 ?_
    refine lv_goto (tgt := 31) C.1 C.2.1 dX12_worthOf_13 (by decide) ?_
    cases hf
    exact x_iret C hW dX12_worthOf_31
set_option maxRecDepth 100000 in
set_option maxHeartbeats 4000000 in
theorem tX12_worthOf (l : Launch) {D : va_G} {ca ad : Nat → Nat} (hi : Inj ad) {N : Nat} {a0 : Nat} {a1 : Int32} {a2 : Int32} {a3 : Int32} {mm : Mm} {res : Int32 × Mm} (ha0 : sX12 a0) (hf : fX12_worthOf N a0 a1 a2 a3 mm = some res) : Met l yX12_worthOf (WS yX12_worthOf cX12_worthOf 4 (some .int)) (rmX12_worthOf) (va_Pc [.ref (ad a0), .int a1, .int a2, .int a3] (WB D ca ad mm)) (QI D ca ad res) 0 0 (AA ad) := by
  refine x_start hi (by decide) rfl (Nat.le_of_ble_eq_true rfl) (fun p e s m args below meth c ls C hW hl => ?_)
  exact wX12_worthOf_0 C ha0 hW (lv_sub hl [0, 1, 2, 3] rfl) hf
set_option maxRecDepth 100000 in
set_option maxHeartbeats 4000000 in
theorem wX12_setWinners_2 (C : Cx p s m meth c args cX12_setWinners 2 none RX12 D ca ad) {res : Unit × Mm} {N : Nat}  : ∀ (n : Nat) {a0 : Nat} {a1 : Int32} {mm : Mm} {H : Heap} {locs : List Loc} {ls : Array Slot}, (sX12 a0) → Wd D ca ad s.heap mm H locs → lv_has ls 2 [(0, .ref (ad a0)), (1, .int a1)] → fX12_setWinners_2 N n a0 a1 mm = some res → W p l e (rmX12_setWinners) s m args below meth c H locs 0 0 (MQ below (QV D ca ad res) args s 0 0 (AA ad)) (F0 m 2 ls []) := by
  intro n
  induction n with
  | zero => intro a0 a1 mm H locs ls ha0 hW hl hf; cases hf
  | succ n ih =>
    intro a0 a1 mm H locs ls ha0 hW hl hf
    have hk2 : ∀ (a0 : Nat) (a1 : Int32) (mm : Mm) (H : Heap) (locs : List Loc) (ls : Array Slot), (sX12 a0) → Wd D ca ad s.heap mm H locs → lv_has ls 2 [(0, .ref (ad a0)), (1, .int a1)] → (fX12_setWinners_2 N n) a0 a1 mm = some res → W p l e (rmX12_setWinners) s m args below meth c H locs 0 0 (MQ below (QV D ca ad res) args s 0 0 (AA ad)) (F0 m 2 ls []) := fun a0 a1 mm H locs ls ha0 hW hl hf => ih ha0 hW hl hf
    unfold fX12_setWinners_2 at hf
    try dsimp only at hf
    refine lv_iload_n C.1 C.2.1 dX12_setWinners_2 rfl (lv_at hl 1 rfl) ?_
    refine lv_aload_n C.1 C.2.1 dX12_setWinners_3 rfl (lv_at hl 0 rfl) ?_
    refine x_geti C hW (ha0).1 (ha0).2.1 (j := 10) rfl kX12 (by decide) rfl q_1026 dX12_setWinners_4 ?_
    refine lv_icmp_ge (tgt := 39) C.1 C.2.1 dX12_setWinners_7 (by decide) (fun c1 => ?_) (fun c1 => ?_)
    · have hf := if_t c1 hf
      cases hf
      exact x_vret C hW dX12_setWinners_39
    · have hf := if_f c1 hf
      refine lv_aload_n C.1 C.2.1 dX12_setWinners_10 rfl (lv_at hl 0 rfl) ?_
      refine x_getr C hW (ha0).1 (ha0).2.1 (j := 21) rfl kX12 (by decide) rfl q_1037 dX12_setWinners_11 ?_
      refine lv_iload_n C.1 C.2.1 dX12_setWinners_14 rfl (lv_at hl 1 rfl) ?_
      refine lv_aload_n C.1 C.2.1 dX12_setWinners_15 rfl (lv_at hl 0 rfl) ?_
      refine lv_iload_n C.1 C.2.1 dX12_setWinners_16 rfl (lv_at hl 1 rfl) ?_
      refine lv_aload_n C.1 C.2.1 dX12_setWinners_17 rfl (lv_at hl 0 rfl) ?_
      refine x_getr C hW (ha0).1 (ha0).2.1 (j := 19) rfl kX12 (by decide) rfl q_1035 dX12_setWinners_18 ?_
      refine lv_iload_n C.1 C.2.1 dX12_setWinners_21 rfl (lv_at hl 1 rfl) ?_
      obtain ⟨g2, hf⟩ := gd_s hf
      refine x_iald C hW ha0.2.2.2.2.2.2.2.2.2.2.2.1 g2 dX12_setWinners_22 ?_
      refine lv_aload_n C.1 C.2.1 dX12_setWinners_23 rfl (lv_at hl 0 rfl) ?_
      refine x_getr C hW (ha0).1 (ha0).2.1 (j := 20) rfl kX12 (by decide) rfl q_1036 dX12_setWinners_24 ?_
      refine lv_iload_n C.1 C.2.1 dX12_setWinners_27 rfl (lv_at hl 1 rfl) ?_
      obtain ⟨g3, hf⟩ := gd_s hf
      refine x_iald C hW ha0.2.2.2.2.2.2.2.2.2.2.2.2.1 g3 dX12_setWinners_28 ?_
      obtain ⟨x4, m5, r6, hf⟩ := bd2_s hf
      refine x_ci hW (x_runV C hW [.int a1, .int (rd mm (fr a0 19) a1.toNatClampNeg), .int (rd mm (fr a0 20) a1.toNatClampNeg)] [.int a1, .ref (ad (fr a0 21))] (ha0).1 (ha0).2.1 kX12.1 kvX12_winnerOf q_1296 (tX12_winnerOf l C.2.2.2.2.2.2.1 ha0 r6) rfl rfl ⟨by decide, by decide⟩ rfl hl.1 rfl (Nat.le_of_ble_eq_true rfl) dX12_setWinners_29) (fun H locs hW => ?_)
      obtain ⟨g7, hf⟩ := gd_s hf
      refine x_iast C hW ha0.2.2.2.2.2.2.2.2.2.2.2.2.2.1 g7 dX12_setWinners_32 (fun H locs hW => ?_)
      obtain ⟨m8, em8⟩ : ∃ z, z = wr m5 (fr a0 21) a1.toNatClampNeg x4 := ⟨_, rfl⟩
      have hf := nm_s hf em8
      rw [← em8] at hW
      refine lv_iinc (v := (a1 + 1)) (lv' := [(1, .int (a1 + 1)), (0, .ref (ad a0))]) C.1 C.2.1 dX12_setWinners_33 hl (k := 1) rfl rfl (by decide) rfl (fun ls hl => ?_)
      refine lv_goto (tgt := 2) C.1 C.2.1 dX12_setWinners_36 (by decide) ?_
      exact hk2 _ _ _ _ _ _ ha0 hW (lv_sub hl [1, 0] rfl) hf
set_option maxRecDepth 100000 in
set_option maxHeartbeats 4000000 in
theorem wX12_setWinners_0 (C : Cx p s m meth c args cX12_setWinners 2 none RX12 D ca ad) {res : Unit × Mm} {N : Nat}  {a0 : Nat} {mm : Mm} {H : Heap} {locs : List Loc} {ls : Array Slot} (ha0 : sX12 a0) (hW : Wd D ca ad s.heap mm H locs) (hl : lv_has ls 2 [(0, .ref (ad a0))]) (hf : fX12_setWinners N a0 mm = some res) : W p l e (rmX12_setWinners) s m args below meth c H locs 0 0 (MQ below (QV D ca ad res) args s 0 0 (AA ad)) (F0 m 0 ls []) := by
  unfold fX12_setWinners at hf
  refine lv_iconst (v := 0) C.1 C.2.1 dX12_setWinners_0 (by decide) ?_
  refine lv_istore_n (lv' := [(1, .int 0), (0, .ref (ad a0))]) C.1 C.2.1 dX12_setWinners_1 rfl hl (by decide) rfl (fun ls hl => ?_)
  exact wX12_setWinners_2 C  N ha0 hW (lv_sub hl [1, 0] rfl) hf
set_option maxRecDepth 100000 in
set_option maxHeartbeats 4000000 in
theorem tX12_setWinners (l : Launch) {D : va_G} {ca ad : Nat → Nat} (hi : Inj ad) {N : Nat} {a0 : Nat} {mm : Mm} {res : Unit × Mm} (ha0 : sX12 a0) (hf : fX12_setWinners N a0 mm = some res) : Met l yX12_setWinners (WS yX12_setWinners cX12_setWinners 2 none) (rmX12_setWinners) (va_Pc [.ref (ad a0)] (WB D ca ad mm)) (QV D ca ad res) 0 0 (AA ad) := by
  refine x_start hi (by decide) rfl (Nat.le_of_ble_eq_true rfl) (fun p e s m args below meth c ls C hW hl => ?_)
  exact wX12_setWinners_0 C ha0 hW (lv_sub hl [0] rfl) hf
set_option maxRecDepth 100000 in
set_option maxHeartbeats 4000000 in
theorem wX12_scoreOf_4 (C : Cx p s m meth c args cX12_scoreOf 4 (some .int) RX12 D ca ad) {res : Int32 × Mm} {N : Nat}  : ∀ (n : Nat) {a0 : Nat} {a1 : Int32} {a2 : Int32} {a3 : Int32} {mm : Mm} {H : Heap} {locs : List Loc} {ls : Array Slot}, (sX12 a0) → Wd D ca ad s.heap mm H locs → lv_has ls 4 [(0, .ref (ad a0)), (1, .int a1), (2, .int a2), (3, .int a3)] → fX12_scoreOf_4 N n a0 a1 a2 a3 mm = some res → W p l e (rmX12_scoreOf) s m args below meth c H locs 0 0 (MQ below (QI D ca ad res) args s 0 0 (AA ad)) (F0 m 4 ls []) := by
  intro n
  induction n with
  | zero => intro a0 a1 a2 a3 mm H locs ls ha0 hW hl hf; cases hf
  | succ n ih =>
    intro a0 a1 a2 a3 mm H locs ls ha0 hW hl hf
    have hk4 : ∀ (a0 : Nat) (a1 : Int32) (a2 : Int32) (a3 : Int32) (mm : Mm) (H : Heap) (locs : List Loc) (ls : Array Slot), (sX12 a0) → Wd D ca ad s.heap mm H locs → lv_has ls 4 [(0, .ref (ad a0)), (1, .int a1), (2, .int a2), (3, .int a3)] → (fX12_scoreOf_4 N n) a0 a1 a2 a3 mm = some res → W p l e (rmX12_scoreOf) s m args below meth c H locs 0 0 (MQ below (QI D ca ad res) args s 0 0 (AA ad)) (F0 m 4 ls []) := fun a0 a1 a2 a3 mm H locs ls ha0 hW hl hf => ih ha0 hW hl hf
    unfold fX12_scoreOf_4 at hf
    try dsimp only at hf
    refine lv_iload_n C.1 C.2.1 dX12_scoreOf_4 rfl (lv_at hl 3 rfl) ?_
    refine lv_aload_n C.1 C.2.1 dX12_scoreOf_5 rfl (lv_at hl 0 rfl) ?_
    refine x_geti C hW (ha0).1 (ha0).2.1 (j := 10) rfl kX12 (by decide) rfl q_1026 dX12_scoreOf_6 ?_
    refine lv_icmp_ge (tgt := 33) C.1 C.2.1 dX12_scoreOf_9 (by decide) (fun c1 => ?_) (fun c1 => ?_)
    · have hf := if_t c1 hf
      refine lv_iload_n C.1 C.2.1 dX12_scoreOf_33 rfl (lv_at hl 2 rfl) ?_
      cases hf
      exact x_iret C hW dX12_scoreOf_34
    · have hf := if_f c1 hf
      refine lv_iload_n C.1 C.2.1 dX12_scoreOf_12 rfl (lv_at hl 2 rfl) ?_
      refine lv_aload_n C.1 C.2.1 dX12_scoreOf_13 rfl (lv_at hl 0 rfl) ?_
      refine lv_iload_n C.1 C.2.1 dX12_scoreOf_14 rfl (lv_at hl 3 rfl) ?_
      refine lv_aload_n C.1 C.2.1 dX12_scoreOf_15 rfl (lv_at hl 0 rfl) ?_
      refine x_getr C hW (ha0).1 (ha0).2.1 (j := 21) rfl kX12 (by decide) rfl q_1037 dX12_scoreOf_16 ?_
      refine lv_iload_n C.1 C.2.1 dX12_scoreOf_19 rfl (lv_at hl 3 rfl) ?_
      obtain ⟨g2, hf⟩ := gd_s hf
      refine x_iald C hW ha0.2.2.2.2.2.2.2.2.2.2.2.2.2.1 g2 dX12_scoreOf_20 ?_
      refine lv_iload_n C.1 C.2.1 dX12_scoreOf_21 rfl (lv_at hl 1 rfl) ?_
      obtain ⟨x3, m4, r5, hf⟩ := bd2_s hf
      refine x_ci hW (x_runV C hW [.int a3, .int (rd mm (fr a0 21) a3.toNatClampNeg), .int a1] [.int a2] (ha0).1 (ha0).2.1 kX12.1 kvX12_worthOf q_1308 (tX12_worthOf l C.2.2.2.2.2.2.1 ha0 r5) rfl rfl ⟨by decide, by decide⟩ rfl hl.1 rfl (Nat.le_of_ble_eq_true rfl) dX12_scoreOf_22) (fun H locs hW => ?_)
      refine lv_iadd C.1 C.2.1 dX12_scoreOf_25 ?_
      refine lv_istore_n (lv' := [(2, .int (a2 + x3)), (0, .ref (ad a0)), (1, .int a1), (3, .int a3)]) C.1 C.2.1 dX12_scoreOf_26 rfl hl (by decide) rfl (fun ls hl => ?_)
      refine lv_iinc (v := (a3 + 1)) (lv' := [(3, .int (a3 + 1)), (2, .int (a2 + x3)), (0, .ref (ad a0)), (1, .int a1)]) C.1 C.2.1 dX12_scoreOf_27 hl (k := 3) rfl rfl (by decide) rfl (fun ls hl => ?_)
      refine lv_goto (tgt := 4) C.1 C.2.1 dX12_scoreOf_30 (by decide) ?_
      exact hk4 _ _ _ _ _ _ _ _ ha0 hW (lv_sub hl [2, 3, 1, 0] rfl) hf
set_option maxRecDepth 100000 in
set_option maxHeartbeats 4000000 in
theorem wX12_scoreOf_0 (C : Cx p s m meth c args cX12_scoreOf 4 (some .int) RX12 D ca ad) {res : Int32 × Mm} {N : Nat}  {a0 : Nat} {a1 : Int32} {mm : Mm} {H : Heap} {locs : List Loc} {ls : Array Slot} (ha0 : sX12 a0) (hW : Wd D ca ad s.heap mm H locs) (hl : lv_has ls 4 [(0, .ref (ad a0)), (1, .int a1)]) (hf : fX12_scoreOf N a0 a1 mm = some res) : W p l e (rmX12_scoreOf) s m args below meth c H locs 0 0 (MQ below (QI D ca ad res) args s 0 0 (AA ad)) (F0 m 0 ls []) := by
  unfold fX12_scoreOf at hf
  refine lv_iconst (v := 0) C.1 C.2.1 dX12_scoreOf_0 (by decide) ?_
  refine lv_istore_n (lv' := [(2, .int 0), (0, .ref (ad a0)), (1, .int a1)]) C.1 C.2.1 dX12_scoreOf_1 rfl hl (by decide) rfl (fun ls hl => ?_)
  refine lv_iconst (v := 0) C.1 C.2.1 dX12_scoreOf_2 (by decide) ?_
  refine lv_istore_n (lv' := [(3, .int 0), (2, .int 0), (0, .ref (ad a0)), (1, .int a1)]) C.1 C.2.1 dX12_scoreOf_3 rfl hl (by decide) rfl (fun ls hl => ?_)
  exact wX12_scoreOf_4 C  N ha0 hW (lv_sub hl [2, 3, 1, 0] rfl) hf
set_option maxRecDepth 100000 in
set_option maxHeartbeats 4000000 in
theorem tX12_scoreOf (l : Launch) {D : va_G} {ca ad : Nat → Nat} (hi : Inj ad) {N : Nat} {a0 : Nat} {a1 : Int32} {mm : Mm} {res : Int32 × Mm} (ha0 : sX12 a0) (hf : fX12_scoreOf N a0 a1 mm = some res) : Met l yX12_scoreOf (WS yX12_scoreOf cX12_scoreOf 4 (some .int)) (rmX12_scoreOf) (va_Pc [.ref (ad a0), .int a1] (WB D ca ad mm)) (QI D ca ad res) 0 0 (AA ad) := by
  refine x_start hi (by decide) rfl (Nat.le_of_ble_eq_true rfl) (fun p e s m args below meth c ls C hW hl => ?_)
  exact wX12_scoreOf_0 C ha0 hW (lv_sub hl [0, 1] rfl) hf
set_option maxRecDepth 100000 in
set_option maxHeartbeats 4000000 in
theorem wX12_wonSet_29 (C : Cx p s m meth c args cX12_wonSet 3 (some .int) RX12 D ca ad) {res : Int32 × Mm} {N : Nat} {k4 : Nat → Int32 → Int32 → Mm → Option (Int32 × Mm)} (hk4 : ∀ (a0 : Nat) (a1 : Int32) (a2 : Int32) (mm : Mm) (H : Heap) (locs : List Loc) (ls : Array Slot), (sX12 a0) → Wd D ca ad s.heap mm H locs → lv_has ls 3 [(0, .ref (ad a0)), (1, .int a1), (2, .int a2)] → k4 a0 a1 a2 mm = some res → W p l e (rmX12_wonSet) s m args below meth c H locs 0 0 (MQ below (QI D ca ad res) args s 0 0 (AA ad)) (F0 m 4 ls [])) {a0 : Nat} {a2 : Int32} {s0 : Int32} {s1 : Int32} {mm : Mm} {H : Heap} {locs : List Loc} {ls : Array Slot} (ha0 : sX12 a0) (hW : Wd D ca ad s.heap mm H locs) (hl : lv_has ls 3 [(0, .ref (ad a0)), (2, .int a2)]) (hf : fX12_wonSet_29 N k4 a0 a2 s0 s1 mm = some res) : W p l e (rmX12_wonSet) s m args below meth c H locs 0 0 (MQ below (QI D ca ad res) args s 0 0 (AA ad)) (F0 m 29 ls [.int s1, .int s0]) := by
  unfold fX12_wonSet_29 at hf
  refine lv_ior C.1 C.2.1 dX12_wonSet_29 ?_
  refine lv_istore_n (lv' := [(1, .int (s0 ||| s1)), (0, .ref (ad a0)), (2, .int a2)]) C.1 C.2.1 dX12_wonSet_30 rfl hl (by decide) rfl (fun ls hl => ?_)
  refine lv_iinc (v := (a2 + 1)) (lv' := [(2, .int (a2 + 1)), (1, .int (s0 ||| s1)), (0, .ref (ad a0))]) C.1 C.2.1 dX12_wonSet_31 hl (k := 2) rfl rfl (by decide) rfl (fun ls hl => ?_)
  refine lv_goto (tgt := 4) C.1 C.2.1 dX12_wonSet_34 (by decide) ?_
  exact hk4 _ _ _ _ _ _ _ ha0 hW (lv_sub hl [2, 1, 0] rfl) hf
set_option maxRecDepth 100000 in
set_option maxHeartbeats 4000000 in
theorem wX12_wonSet_4 (C : Cx p s m meth c args cX12_wonSet 3 (some .int) RX12 D ca ad) {res : Int32 × Mm} {N : Nat}  : ∀ (n : Nat) {a0 : Nat} {a1 : Int32} {a2 : Int32} {mm : Mm} {H : Heap} {locs : List Loc} {ls : Array Slot}, (sX12 a0) → Wd D ca ad s.heap mm H locs → lv_has ls 3 [(0, .ref (ad a0)), (1, .int a1), (2, .int a2)] → fX12_wonSet_4 N n a0 a1 a2 mm = some res → W p l e (rmX12_wonSet) s m args below meth c H locs 0 0 (MQ below (QI D ca ad res) args s 0 0 (AA ad)) (F0 m 4 ls []) := by
  intro n
  induction n with
  | zero => intro a0 a1 a2 mm H locs ls ha0 hW hl hf; cases hf
  | succ n ih =>
    intro a0 a1 a2 mm H locs ls ha0 hW hl hf
    have hk4 : ∀ (a0 : Nat) (a1 : Int32) (a2 : Int32) (mm : Mm) (H : Heap) (locs : List Loc) (ls : Array Slot), (sX12 a0) → Wd D ca ad s.heap mm H locs → lv_has ls 3 [(0, .ref (ad a0)), (1, .int a1), (2, .int a2)] → (fX12_wonSet_4 N n) a0 a1 a2 mm = some res → W p l e (rmX12_wonSet) s m args below meth c H locs 0 0 (MQ below (QI D ca ad res) args s 0 0 (AA ad)) (F0 m 4 ls []) := fun a0 a1 a2 mm H locs ls ha0 hW hl hf => ih ha0 hW hl hf
    unfold fX12_wonSet_4 at hf
    try dsimp only at hf
    refine lv_iload_n C.1 C.2.1 dX12_wonSet_4 rfl (lv_at hl 2 rfl) ?_
    refine lv_aload_n C.1 C.2.1 dX12_wonSet_5 rfl (lv_at hl 0 rfl) ?_
    refine x_geti C hW (ha0).1 (ha0).2.1 (j := 10) rfl kX12 (by decide) rfl q_1026 dX12_wonSet_6 ?_
    refine lv_icmp_ge (tgt := 37) C.1 C.2.1 dX12_wonSet_9 (by decide) (fun c1 => ?_) (fun c1 => ?_)
    · have hf := if_t c1 hf
      refine lv_iload_n C.1 C.2.1 dX12_wonSet_37 rfl (lv_at hl 1 rfl) ?_
      cases hf
      exact x_iret C hW dX12_wonSet_38
    · have hf := if_f c1 hf
      refine lv_iload_n C.1 C.2.1 dX12_wonSet_12 rfl (lv_at hl 1 rfl) ?_
      refine lv_aload_n C.1 C.2.1 dX12_wonSet_13 rfl (lv_at hl 0 rfl) ?_
      refine x_getr C hW (ha0).1 (ha0).2.1 (j := 21) rfl kX12 (by decide) rfl q_1037 dX12_wonSet_14 ?_
      refine lv_iload_n C.1 C.2.1 dX12_wonSet_17 rfl (lv_at hl 2 rfl) ?_
      obtain ⟨g2, hf⟩ := gd_s hf
      refine x_iald C hW ha0.2.2.2.2.2.2.2.2.2.2.2.2.2.1 g2 dX12_wonSet_18 ?_
      refine lv_if_ne (tgt := 28) C.1 C.2.1 dX12_wonSet_19 (by decide) (fun c3 => ?_) (fun c3 => ?_)
      · have hf := if_f c3 hf
        refine lv_iconst (v := 0) C.1 C.2.1 dX12_wonSet_28 (by decide) ?_
        exact wX12_wonSet_29 C hk4 ha0 hW (lv_sub hl [0, 2] rfl) hf
      · have hf := if_t c3 hf
        refine lv_iconst (v := 1) C.1 C.2.1 dX12_wonSet_22 (by decide) ?_
        refine lv_iload_n C.1 C.2.1 dX12_wonSet_23 rfl (lv_at hl 2 rfl) ?_
        refine lv_ishl C.1 C.2.1 dX12_wonSet_24 ?_
        refine lv_goto (tgt := 29) C.1 C.2.1 dX12_wonSet_25 (by decide) ?_
        exact wX12_wonSet_29 C hk4 ha0 hW (lv_sub hl [0, 2] rfl) hf
set_option maxRecDepth 100000 in
set_option maxHeartbeats 4000000 in
theorem wX12_wonSet_0 (C : Cx p s m meth c args cX12_wonSet 3 (some .int) RX12 D ca ad) {res : Int32 × Mm} {N : Nat}  {a0 : Nat} {mm : Mm} {H : Heap} {locs : List Loc} {ls : Array Slot} (ha0 : sX12 a0) (hW : Wd D ca ad s.heap mm H locs) (hl : lv_has ls 3 [(0, .ref (ad a0))]) (hf : fX12_wonSet N a0 mm = some res) : W p l e (rmX12_wonSet) s m args below meth c H locs 0 0 (MQ below (QI D ca ad res) args s 0 0 (AA ad)) (F0 m 0 ls []) := by
  unfold fX12_wonSet at hf
  refine lv_iconst (v := 0) C.1 C.2.1 dX12_wonSet_0 (by decide) ?_
  refine lv_istore_n (lv' := [(1, .int 0), (0, .ref (ad a0))]) C.1 C.2.1 dX12_wonSet_1 rfl hl (by decide) rfl (fun ls hl => ?_)
  refine lv_iconst (v := 0) C.1 C.2.1 dX12_wonSet_2 (by decide) ?_
  refine lv_istore_n (lv' := [(2, .int 0), (1, .int 0), (0, .ref (ad a0))]) C.1 C.2.1 dX12_wonSet_3 rfl hl (by decide) rfl (fun ls hl => ?_)
  exact wX12_wonSet_4 C  N ha0 hW (lv_sub hl [2, 1, 0] rfl) hf
set_option maxRecDepth 100000 in
set_option maxHeartbeats 4000000 in
theorem tX12_wonSet (l : Launch) {D : va_G} {ca ad : Nat → Nat} (hi : Inj ad) {N : Nat} {a0 : Nat} {mm : Mm} {res : Int32 × Mm} (ha0 : sX12 a0) (hf : fX12_wonSet N a0 mm = some res) : Met l yX12_wonSet (WS yX12_wonSet cX12_wonSet 3 (some .int)) (rmX12_wonSet) (va_Pc [.ref (ad a0)] (WB D ca ad mm)) (QI D ca ad res) 0 0 (AA ad) := by
  refine x_start hi (by decide) rfl (Nat.le_of_ble_eq_true rfl) (fun p e s m args below meth c ls C hW hl => ?_)
  exact wX12_wonSet_0 C ha0 hW (lv_sub hl [0] rfl) hf
set_option maxRecDepth 100000 in
set_option maxHeartbeats 4000000 in
theorem wX12_askedSize_0 (C : Cx p s m meth c args cX12_askedSize 2 (some .int) RX12 D ca ad) {res : Int32 × Mm} {N : Nat}  {a0 : Nat} {a1 : Int32} {mm : Mm} {H : Heap} {locs : List Loc} {ls : Array Slot} (ha0 : sX12 a0) (hW : Wd D ca ad s.heap mm H locs) (hl : lv_has ls 2 [(0, .ref (ad a0)), (1, .int a1)]) (hf : fX12_askedSize N a0 a1 mm = some res) : W p l e (rmX12_askedSize) s m args below meth c H locs 0 0 (MQ below (QI D ca ad res) args s 0 0 (AA ad)) (F0 m 0 ls []) := by
  unfold fX12_askedSize at hf
  refine lv_aload_n C.1 C.2.1 dX12_askedSize_0 rfl (lv_at hl 0 rfl) ?_
  refine x_getr C hW (ha0).1 (ha0).2.1 (j := 5) rfl kX12 (by decide) rfl q_1021 dX12_askedSize_1 ?_
  refine lv_iload_n C.1 C.2.1 dX12_askedSize_4 rfl (lv_at hl 1 rfl) ?_
  obtain ⟨g1, hf⟩ := gd_s hf
  refine x_iald C hW ha0.2.2.2.1 g1 dX12_askedSize_5 ?_
  refine lv_aload_n C.1 C.2.1 dX12_askedSize_6 rfl (lv_at hl 0 rfl) ?_
  refine x_geti C hW (ha0).1 (ha0).2.1 (j := 10) rfl kX12 (by decide) rfl q_1026 dX12_askedSize_7 ?_
  refine lv_icmp_ne (tgt := 17) C.1 C.2.1 dX12_askedSize_10 (by decide) (fun c2 => ?_) (fun c2 => ?_)
  · have hf := if_f c2 hf
    refine lv_aload_n C.1 C.2.1 dX12_askedSize_17 rfl (lv_at hl 0 rfl) ?_
    refine lv_iconst (v := 5) C.1 C.2.1 dX12_askedSize_18 (by decide) ?_
    obtain ⟨x3, m4, r5, hf⟩ := bd2_s hf
    refine x_ci hW (x_runV C hW [.int 5] [] (ha0).1 (ha0).2.1 kX12.1 kvX12_meet q_1153 (tX12_meet l C.2.2.2.2.2.2.1 ha0 r5) rfl rfl ⟨by decide, by decide⟩ rfl hl.1 rfl (Nat.le_of_ble_eq_true rfl) dX12_askedSize_19) (fun H locs hW => ?_)
    cases hf
    exact x_iret C hW dX12_askedSize_22
  · have hf := if_t c2 hf
    refine lv_iconst (v := 0) C.1 C.2.1 dX12_askedSize_13 (by decide) ?_
    refine lv_goto (tgt := 22) C.1 C.2.1 dX12_askedSize_14 (by decide) ?_
    cases hf
    exact x_iret C hW dX12_askedSize_22
set_option maxRecDepth 100000 in
set_option maxHeartbeats 4000000 in
theorem tX12_askedSize (l : Launch) {D : va_G} {ca ad : Nat → Nat} (hi : Inj ad) {N : Nat} {a0 : Nat} {a1 : Int32} {mm : Mm} {res : Int32 × Mm} (ha0 : sX12 a0) (hf : fX12_askedSize N a0 a1 mm = some res) : Met l yX12_askedSize (WS yX12_askedSize cX12_askedSize 2 (some .int)) (rmX12_askedSize) (va_Pc [.ref (ad a0), .int a1] (WB D ca ad mm)) (QI D ca ad res) 0 0 (AA ad) := by
  refine x_start hi (by decide) rfl (Nat.le_of_ble_eq_true rfl) (fun p e s m args below meth c ls C hW hl => ?_)
  exact wX12_askedSize_0 C ha0 hW (lv_sub hl [0, 1] rfl) hf
set_option maxRecDepth 100000 in
set_option maxHeartbeats 4000000 in
theorem wX12_askedNumbers_5 (C : Cx p s m meth c args cX12_askedNumbers 5 (some .int) RX12 D ca ad) {res : Int32 × Mm} {N : Nat}  : ∀ (n : Nat) {a0 : Nat} {a1 : Int32} {a2 : Int32} {a3 : Int32} {a4 : Int32} {mm : Mm} {H : Heap} {locs : List Loc} {ls : Array Slot}, (sX12 a0) → Wd D ca ad s.heap mm H locs → lv_has ls 5 [(0, .ref (ad a0)), (1, .int a1), (2, .int a2), (3, .int a3), (4, .int a4)] → fX12_askedNumbers_5 N n a0 a1 a2 a3 a4 mm = some res → W p l e (rmX12_askedNumbers) s m args below meth c H locs 0 0 (MQ below (QI D ca ad res) args s 0 0 (AA ad)) (F0 m 5 ls []) := by
  intro n
  induction n with
  | zero => intro a0 a1 a2 a3 a4 mm H locs ls ha0 hW hl hf; cases hf
  | succ n ih =>
    intro a0 a1 a2 a3 a4 mm H locs ls ha0 hW hl hf
    have hk5 : ∀ (a0 : Nat) (a1 : Int32) (a2 : Int32) (a3 : Int32) (a4 : Int32) (mm : Mm) (H : Heap) (locs : List Loc) (ls : Array Slot), (sX12 a0) → Wd D ca ad s.heap mm H locs → lv_has ls 5 [(0, .ref (ad a0)), (1, .int a1), (2, .int a2), (3, .int a3), (4, .int a4)] → (fX12_askedNumbers_5 N n) a0 a1 a2 a3 a4 mm = some res → W p l e (rmX12_askedNumbers) s m args below meth c H locs 0 0 (MQ below (QI D ca ad res) args s 0 0 (AA ad)) (F0 m 5 ls []) := fun a0 a1 a2 a3 a4 mm H locs ls ha0 hW hl hf => ih ha0 hW hl hf
    unfold fX12_askedNumbers_5 at hf
    try dsimp only at hf
    refine lv_iload C.1 C.2.1 dX12_askedNumbers_5 (lv_at hl 4 rfl) ?_
    refine lv_aload_n C.1 C.2.1 dX12_askedNumbers_7 rfl (lv_at hl 0 rfl) ?_
    refine x_geti C hW (ha0).1 (ha0).2.1 (j := 10) rfl kX12 (by decide) rfl q_1026 dX12_askedNumbers_8 ?_
    refine lv_icmp_ge (tgt := 52) C.1 C.2.1 dX12_askedNumbers_11 (by decide) (fun c1 => ?_) (fun c1 => ?_)
    · have hf := if_t c1 hf
      refine lv_iload_n C.1 C.2.1 dX12_askedNumbers_52 rfl (lv_at hl 3 rfl) ?_
      refine lv_aload_n C.1 C.2.1 dX12_askedNumbers_53 rfl (lv_at hl 0 rfl) ?_
      refine x_getr C hW (ha0).1 (ha0).2.1 (j := 12) rfl kX12 (by decide) rfl q_1028 dX12_askedNumbers_54 ?_
      refine lv_iload_n C.1 C.2.1 dX12_askedNumbers_57 rfl (lv_at hl 2 rfl) ?_
      obtain ⟨g2, hf⟩ := gd_s hf
      refine x_iald C hW ha0.2.2.2.2.2.2.2.2.2.1 g2 dX12_askedNumbers_58 ?_
      refine lv_icmp_le (tgt := 70) C.1 C.2.1 dX12_askedNumbers_59 (by decide) (fun c3 => ?_) (fun c3 => ?_)
      · have hf := if_t c3 hf
        refine lv_iconst (v := 0) C.1 C.2.1 dX12_askedNumbers_70 (by decide) ?_
        cases hf
        exact x_iret C hW dX12_askedNumbers_71
      · have hf := if_f c3 hf
        refine lv_aload_n C.1 C.2.1 dX12_askedNumbers_62 rfl (lv_at hl 0 rfl) ?_
        refine lv_iconst (v := 3) C.1 C.2.1 dX12_askedNumbers_63 (by decide) ?_
        obtain ⟨x4, m5, r6, hf⟩ := bd2_s hf
        refine x_ci hW (x_runV C hW [.int 3] [] (ha0).1 (ha0).2.1 kX12.1 kvX12_meet q_1153 (tX12_meet l C.2.2.2.2.2.2.1 ha0 r6) rfl rfl ⟨by decide, by decide⟩ rfl hl.1 rfl (Nat.le_of_ble_eq_true rfl) dX12_askedNumbers_64) (fun H locs hW => ?_)
        refine lv_goto (tgt := 71) C.1 C.2.1 dX12_askedNumbers_67 (by decide) ?_
        cases hf
        exact x_iret C hW dX12_askedNumbers_71
    · have hf := if_f c1 hf
      refine lv_aload_n C.1 C.2.1 dX12_askedNumbers_14 rfl (lv_at hl 0 rfl) ?_
      refine lv_iload_n C.1 C.2.1 dX12_askedNumbers_15 rfl (lv_at hl 1 rfl) ?_
      refine lv_iload C.1 C.2.1 dX12_askedNumbers_16 (lv_at hl 4 rfl) ?_
      obtain ⟨x7, m8, r9, hf⟩ := bd2_s hf
      refine x_ci hW (x_runV C hW [.int a1, .int a4] [] (ha0).1 (ha0).2.1 kX12.1 kvX12_rowAt q_1169 (tX12_rowAt l C.2.2.2.2.2.2.1 ha0 r9) rfl rfl ⟨by decide, by decide⟩ rfl hl.1 rfl (Nat.le_of_ble_eq_true rfl) dX12_askedNumbers_18) (fun H locs hW => ?_)
      refine lv_iconst (v := 0) C.1 C.2.1 dX12_askedNumbers_21 (by decide) ?_
      refine lv_bipush (v := 40) C.1 C.2.1 dX12_askedNumbers_22 (by decide) ?_
      obtain ⟨x10, m11, r12, hf⟩ := bd2_s hf
      refine x_ci hW (x_runS C hW [.int x7, .int 0, .int 40] [] kvX12_in q_1150 (tX12_in l C.2.2.2.2.2.2.1  r12) rfl rfl ⟨by decide, by decide⟩ rfl hl.1 rfl (Nat.le_of_ble_eq_true rfl) dX12_askedNumbers_24) (fun H locs hW => ?_)
      refine lv_if_ne (tgt := 36) C.1 C.2.1 dX12_askedNumbers_27 (by decide) (fun c13 => ?_) (fun c13 => ?_)
      · have hf := if_f c13 hf
        refine lv_iload_n C.1 C.2.1 dX12_askedNumbers_36 rfl (lv_at hl 3 rfl) ?_
        refine lv_aload_n C.1 C.2.1 dX12_askedNumbers_37 rfl (lv_at hl 0 rfl) ?_
        refine lv_iload_n C.1 C.2.1 dX12_askedNumbers_38 rfl (lv_at hl 1 rfl) ?_
        refine lv_iload C.1 C.2.1 dX12_askedNumbers_39 (lv_at hl 4 rfl) ?_
        obtain ⟨x14, m15, r16, hf⟩ := bd2_s hf
        refine x_ci hW (x_runV C hW [.int a1, .int a4] [.int a3] (ha0).1 (ha0).2.1 kX12.1 kvX12_rowAt q_1169 (tX12_rowAt l C.2.2.2.2.2.2.1 ha0 r16) rfl rfl ⟨by decide, by decide⟩ rfl hl.1 rfl (Nat.le_of_ble_eq_true rfl) dX12_askedNumbers_41) (fun H locs hW => ?_)
        refine lv_iadd C.1 C.2.1 dX12_askedNumbers_44 ?_
        refine lv_istore_n (lv' := [(3, .int (a3 + x14)), (0, .ref (ad a0)), (1, .int a1), (2, .int a2), (4, .int a4)]) C.1 C.2.1 dX12_askedNumbers_45 rfl hl (by decide) rfl (fun ls hl => ?_)
        refine lv_iinc (v := (a4 + 1)) (lv' := [(4, .int (a4 + 1)), (3, .int (a3 + x14)), (0, .ref (ad a0)), (1, .int a1), (2, .int a2)]) C.1 C.2.1 dX12_askedNumbers_46 hl (k := 4) rfl rfl (by decide) rfl (fun ls hl => ?_)
        refine lv_goto (tgt := 5) C.1 C.2.1 dX12_askedNumbers_49 (by decide) ?_
        exact hk5 _ _ _ _ _ _ _ _ _ ha0 hW (lv_sub hl [2, 3, 4, 1, 0] rfl) hf
      · have hf := if_t c13 hf
        refine lv_aload_n C.1 C.2.1 dX12_askedNumbers_30 rfl (lv_at hl 0 rfl) ?_
        refine lv_iconst (v := 3) C.1 C.2.1 dX12_askedNumbers_31 (by decide) ?_
        obtain ⟨x17, m18, r19, hf⟩ := bd2_s hf
        refine x_ci hW (x_runV C hW [.int 3] [] (ha0).1 (ha0).2.1 kX12.1 kvX12_meet q_1153 (tX12_meet l C.2.2.2.2.2.2.1 ha0 r19) rfl rfl ⟨by decide, by decide⟩ rfl hl.1 rfl (Nat.le_of_ble_eq_true rfl) dX12_askedNumbers_32) (fun H locs hW => ?_)
        cases hf
        exact x_iret C hW dX12_askedNumbers_35
set_option maxRecDepth 100000 in
set_option maxHeartbeats 4000000 in
theorem wX12_askedNumbers_0 (C : Cx p s m meth c args cX12_askedNumbers 5 (some .int) RX12 D ca ad) {res : Int32 × Mm} {N : Nat}  {a0 : Nat} {a1 : Int32} {a2 : Int32} {mm : Mm} {H : Heap} {locs : List Loc} {ls : Array Slot} (ha0 : sX12 a0) (hW : Wd D ca ad s.heap mm H locs) (hl : lv_has ls 5 [(0, .ref (ad a0)), (1, .int a1), (2, .int a2)]) (hf : fX12_askedNumbers N a0 a1 a2 mm = some res) : W p l e (rmX12_askedNumbers) s m args below meth c H locs 0 0 (MQ below (QI D ca ad res) args s 0 0 (AA ad)) (F0 m 0 ls []) := by
  unfold fX12_askedNumbers at hf
  refine lv_iconst (v := 0) C.1 C.2.1 dX12_askedNumbers_0 (by decide) ?_
  refine lv_istore_n (lv' := [(3, .int 0), (0, .ref (ad a0)), (1, .int a1), (2, .int a2)]) C.1 C.2.1 dX12_askedNumbers_1 rfl hl (by decide) rfl (fun ls hl => ?_)
  refine lv_iconst (v := 0) C.1 C.2.1 dX12_askedNumbers_2 (by decide) ?_
  refine lv_istore (lv' := [(4, .int 0), (3, .int 0), (0, .ref (ad a0)), (1, .int a1), (2, .int a2)]) C.1 C.2.1 dX12_askedNumbers_3 hl (by decide) rfl (fun ls hl => ?_)
  exact wX12_askedNumbers_5 C  N ha0 hW (lv_sub hl [2, 3, 4, 1, 0] rfl) hf
set_option maxRecDepth 100000 in
set_option maxHeartbeats 4000000 in
theorem tX12_askedNumbers (l : Launch) {D : va_G} {ca ad : Nat → Nat} (hi : Inj ad) {N : Nat} {a0 : Nat} {a1 : Int32} {a2 : Int32} {mm : Mm} {res : Int32 × Mm} (ha0 : sX12 a0) (hf : fX12_askedNumbers N a0 a1 a2 mm = some res) : Met l yX12_askedNumbers (WS yX12_askedNumbers cX12_askedNumbers 5 (some .int)) (rmX12_askedNumbers) (va_Pc [.ref (ad a0), .int a1, .int a2] (WB D ca ad mm)) (QI D ca ad res) 0 0 (AA ad) := by
  refine x_start hi (by decide) rfl (Nat.le_of_ble_eq_true rfl) (fun p e s m args below meth c ls C hW hl => ?_)
  exact wX12_askedNumbers_0 C ha0 hW (lv_sub hl [0, 1, 2] rfl) hf
end W_model22
