theorem dX12_in_0 : decode cX12_in 0 = .ok (.iload_n 0, 1) := by decide +kernel
theorem dX12_in_1 : decode cX12_in 1 = .ok (.iload_n 1, 1) := by decide +kernel
theorem dX12_in_2 : decode cX12_in 2 = .ok (.if_icmp .lt 12, 3) := by decide +kernel
theorem dX12_in_5 : decode cX12_in 5 = .ok (.iload_n 0, 1) := by decide +kernel
theorem dX12_in_6 : decode cX12_in 6 = .ok (.iload_n 2, 1) := by decide +kernel
theorem dX12_in_7 : decode cX12_in 7 = .ok (.if_icmp .gt 7, 3) := by decide +kernel
theorem dX12_in_10 : decode cX12_in 10 = .ok (.iconst 1, 1) := by decide +kernel
theorem dX12_in_11 : decode cX12_in 11 = .ok (.goto 4, 3) := by decide +kernel
theorem dX12_in_14 : decode cX12_in 14 = .ok (.iconst 0, 1) := by decide +kernel
theorem dX12_in_15 : decode cX12_in 15 = .ok (.ireturn, 1) := by decide +kernel
theorem dX12_meet_0 : decode cX12_meet 0 = .ok (.aload_n 0, 1) := by decide +kernel
theorem dX12_meet_1 : decode cX12_meet 1 = .ok (.iload_n 1, 1) := by decide +kernel
theorem dX12_meet_2 : decode cX12_meet 2 = .ok (.putfield 77, 3) := by decide +kernel
theorem dX12_meet_5 : decode cX12_meet 5 = .ok (.aload_n 0, 1) := by decide +kernel
theorem dX12_meet_6 : decode cX12_meet 6 = .ok (.getfield 7, 3) := by decide +kernel
theorem dX12_meet_9 : decode cX12_meet 9 = .ok (.iload_n 1, 1) := by decide +kernel
theorem dX12_meet_10 : decode cX12_meet 10 = .ok (.dup2, 1) := by decide +kernel
theorem dX12_meet_11 : decode cX12_meet 11 = .ok (.iaload, 1) := by decide +kernel
theorem dX12_meet_12 : decode cX12_meet 12 = .ok (.iconst 1, 1) := by decide +kernel
theorem dX12_meet_13 : decode cX12_meet 13 = .ok (.iadd, 1) := by decide +kernel
theorem dX12_meet_14 : decode cX12_meet 14 = .ok (.iastore, 1) := by decide +kernel
theorem dX12_meet_15 : decode cX12_meet 15 = .ok (.bipush (-3), 2) := by decide +kernel
theorem dX12_meet_17 : decode cX12_meet 17 = .ok (.ireturn, 1) := by decide +kernel
theorem dX12_ask_0 : decode cX12_ask 0 = .ok (.aload_n 0, 1) := by decide +kernel
theorem dX12_ask_1 : decode cX12_ask 1 = .ok (.iload_n 1, 1) := by decide +kernel
theorem dX12_ask_2 : decode cX12_ask 2 = .ok (.putfield 81, 3) := by decide +kernel
theorem dX12_ask_5 : decode cX12_ask 5 = .ok (.iload_n 2, 1) := by decide +kernel
theorem dX12_ask_6 : decode cX12_ask 6 = .ok (.ireturn, 1) := by decide +kernel
theorem dX12_part_0 : decode cX12_part 0 = .ok (.lload_n 1, 1) := by decide +kernel
theorem dX12_part_1 : decode cX12_part 1 = .ok (.lstore 6, 2) := by decide +kernel
theorem dX12_part_3 : decode cX12_part 3 = .ok (.lload_n 3, 1) := by decide +kernel
theorem dX12_part_4 : decode cX12_part 4 = .ok (.lstore 8, 2) := by decide +kernel
theorem dX12_part_6 : decode cX12_part 6 = .ok (.lload 8, 2) := by decide +kernel
theorem dX12_part_8 : decode cX12_part 8 = .ok (.lconst 0, 1) := by decide +kernel
theorem dX12_part_9 : decode cX12_part 9 = .ok (.lcmp, 1) := by decide +kernel
theorem dX12_part_10 : decode cX12_part 10 = .ok (.ifCond .eq 21, 3) := by decide +kernel
theorem dX12_part_13 : decode cX12_part 13 = .ok (.lload 6, 2) := by decide +kernel
theorem dX12_part_15 : decode cX12_part 15 = .ok (.lload 8, 2) := by decide +kernel
theorem dX12_part_17 : decode cX12_part 17 = .ok (.lrem, 1) := by decide +kernel
theorem dX12_part_18 : decode cX12_part 18 = .ok (.lstore 10, 2) := by decide +kernel
theorem dX12_part_20 : decode cX12_part 20 = .ok (.lload 8, 2) := by decide +kernel
theorem dX12_part_22 : decode cX12_part 22 = .ok (.lstore 6, 2) := by decide +kernel
theorem dX12_part_24 : decode cX12_part 24 = .ok (.lload 10, 2) := by decide +kernel
theorem dX12_part_26 : decode cX12_part 26 = .ok (.lstore 8, 2) := by decide +kernel
theorem dX12_part_28 : decode cX12_part 28 = .ok (.goto (-22), 3) := by decide +kernel
theorem dX12_part_31 : decode cX12_part 31 = .ok (.lload 6, 2) := by decide +kernel
theorem dX12_part_33 : decode cX12_part 33 = .ok (.lconst 0, 1) := by decide +kernel
theorem dX12_part_34 : decode cX12_part 34 = .ok (.lcmp, 1) := by decide +kernel
theorem dX12_part_35 : decode cX12_part 35 = .ok (.ifCond .ge 9, 3) := by decide +kernel
theorem dX12_part_38 : decode cX12_part 38 = .ok (.lload 6, 2) := by decide +kernel
theorem dX12_part_40 : decode cX12_part 40 = .ok (.lneg, 1) := by decide +kernel
theorem dX12_part_41 : decode cX12_part 41 = .ok (.goto 5, 3) := by decide +kernel
theorem dX12_part_44 : decode cX12_part 44 = .ok (.lload 6, 2) := by decide +kernel
theorem dX12_part_46 : decode cX12_part 46 = .ok (.lstore 6, 2) := by decide +kernel
theorem dX12_part_48 : decode cX12_part 48 = .ok (.aload_n 0, 1) := by decide +kernel
theorem dX12_part_49 : decode cX12_part 49 = .ok (.lload_n 1, 1) := by decide +kernel
theorem dX12_part_50 : decode cX12_part 50 = .ok (.lload 6, 2) := by decide +kernel
theorem dX12_part_52 : decode cX12_part 52 = .ok (.ldiv, 1) := by decide +kernel
theorem dX12_part_53 : decode cX12_part 53 = .ok (.putfield 84, 3) := by decide +kernel
theorem dX12_part_56 : decode cX12_part 56 = .ok (.aload_n 0, 1) := by decide +kernel
theorem dX12_part_57 : decode cX12_part 57 = .ok (.lload_n 3, 1) := by decide +kernel
theorem dX12_part_58 : decode cX12_part 58 = .ok (.lload 6, 2) := by decide +kernel
theorem dX12_part_60 : decode cX12_part 60 = .ok (.ldiv, 1) := by decide +kernel
theorem dX12_part_61 : decode cX12_part 61 = .ok (.putfield 13, 3) := by decide +kernel
theorem dX12_part_64 : decode cX12_part 64 = .ok (.iload 5, 2) := by decide +kernel
theorem dX12_part_66 : decode cX12_part 66 = .ok (.ireturn, 1) := by decide +kernel
theorem dX12_isRow_0 : decode cX12_isRow 0 = .ok (.iload_n 0, 1) := by decide +kernel
theorem dX12_isRow_1 : decode cX12_isRow 1 = .ok (.iconst 0, 1) := by decide +kernel
theorem dX12_isRow_2 : decode cX12_isRow 2 = .ok (.iconst 5, 1) := by decide +kernel
theorem dX12_isRow_3 : decode cX12_isRow 3 = .ok (.invokestatic 87, 3) := by decide +kernel
theorem dX12_isRow_6 : decode cX12_isRow 6 = .ok (.ireturn, 1) := by decide +kernel
theorem dX12_isText_0 : decode cX12_isText 0 = .ok (.iload_n 0, 1) := by decide +kernel
theorem dX12_isText_1 : decode cX12_isText 1 = .ok (.iconst 0, 1) := by decide +kernel
theorem dX12_isText_2 : decode cX12_isText 2 = .ok (.iconst 3, 1) := by decide +kernel
theorem dX12_isText_3 : decode cX12_isText 3 = .ok (.invokestatic 87, 3) := by decide +kernel
theorem dX12_isText_6 : decode cX12_isText 6 = .ok (.ireturn, 1) := by decide +kernel
theorem dX12_askedRow_0 : decode cX12_askedRow 0 = .ok (.iload_n 1, 1) := by decide +kernel
theorem dX12_askedRow_1 : decode cX12_askedRow 1 = .ok (.invokestatic 91, 3) := by decide +kernel
theorem dX12_askedRow_4 : decode cX12_askedRow 4 = .ok (.ifCond .ne 7, 3) := by decide +kernel
theorem dX12_askedRow_7 : decode cX12_askedRow 7 = .ok (.iconst (-1), 1) := by decide +kernel
theorem dX12_askedRow_8 : decode cX12_askedRow 8 = .ok (.goto 21, 3) := by decide +kernel
theorem dX12_askedRow_11 : decode cX12_askedRow 11 = .ok (.aload_n 0, 1) := by decide +kernel
theorem dX12_askedRow_12 : decode cX12_askedRow 12 = .ok (.getfield 17, 3) := by decide +kernel
theorem dX12_askedRow_15 : decode cX12_askedRow 15 = .ok (.iload_n 1, 1) := by decide +kernel
theorem dX12_askedRow_16 : decode cX12_askedRow 16 = .ok (.iaload, 1) := by decide +kernel
theorem dX12_askedRow_17 : decode cX12_askedRow 17 = .ok (.ifCond .ge 11, 3) := by decide +kernel
theorem dX12_askedRow_20 : decode cX12_askedRow 20 = .ok (.aload_n 0, 1) := by decide +kernel
theorem dX12_askedRow_21 : decode cX12_askedRow 21 = .ok (.iconst 1, 1) := by decide +kernel
theorem dX12_askedRow_22 : decode cX12_askedRow 22 = .ok (.invokevirtual 95, 3) := by decide +kernel
theorem dX12_askedRow_25 : decode cX12_askedRow 25 = .ok (.goto 4, 3) := by decide +kernel
theorem dX12_askedRow_28 : decode cX12_askedRow 28 = .ok (.iconst 0, 1) := by decide +kernel
theorem dX12_askedRow_29 : decode cX12_askedRow 29 = .ok (.ireturn, 1) := by decide +kernel
theorem dX12_askedText_0 : decode cX12_askedText 0 = .ok (.iload_n 1, 1) := by decide +kernel
theorem dX12_askedText_1 : decode cX12_askedText 1 = .ok (.invokestatic 99, 3) := by decide +kernel
theorem dX12_askedText_4 : decode cX12_askedText 4 = .ok (.ifCond .ne 7, 3) := by decide +kernel
theorem dX12_askedText_7 : decode cX12_askedText 7 = .ok (.iconst (-1), 1) := by decide +kernel
theorem dX12_askedText_8 : decode cX12_askedText 8 = .ok (.goto 21, 3) := by decide +kernel
theorem dX12_askedText_11 : decode cX12_askedText 11 = .ok (.aload_n 0, 1) := by decide +kernel
theorem dX12_askedText_12 : decode cX12_askedText 12 = .ok (.getfield 26, 3) := by decide +kernel
theorem dX12_askedText_15 : decode cX12_askedText 15 = .ok (.iload_n 1, 1) := by decide +kernel
theorem dX12_askedText_16 : decode cX12_askedText 16 = .ok (.iaload, 1) := by decide +kernel
theorem dX12_askedText_17 : decode cX12_askedText 17 = .ok (.ifCond .ge 11, 3) := by decide +kernel
theorem dX12_askedText_20 : decode cX12_askedText 20 = .ok (.aload_n 0, 1) := by decide +kernel
theorem dX12_askedText_21 : decode cX12_askedText 21 = .ok (.iconst 1, 1) := by decide +kernel
theorem dX12_askedText_22 : decode cX12_askedText 22 = .ok (.invokevirtual 95, 3) := by decide +kernel
theorem dX12_askedText_25 : decode cX12_askedText 25 = .ok (.goto 4, 3) := by decide +kernel
theorem dX12_askedText_28 : decode cX12_askedText 28 = .ok (.iconst 0, 1) := by decide +kernel
theorem dX12_askedText_29 : decode cX12_askedText 29 = .ok (.ireturn, 1) := by decide +kernel
theorem dX12_rowAt_0 : decode cX12_rowAt 0 = .ok (.aload_n 0, 1) := by decide +kernel
theorem dX12_rowAt_1 : decode cX12_rowAt 1 = .ok (.getfield 20, 3) := by decide +kernel
theorem dX12_rowAt_4 : decode cX12_rowAt 4 = .ok (.bipush 40, 2) := by decide +kernel
theorem dX12_rowAt_6 : decode cX12_rowAt 6 = .ok (.iload_n 1, 1) := by decide +kernel
theorem dX12_rowAt_7 : decode cX12_rowAt 7 = .ok (.imul, 1) := by decide +kernel
theorem dX12_rowAt_8 : decode cX12_rowAt 8 = .ok (.iload_n 2, 1) := by decide +kernel
theorem dX12_rowAt_9 : decode cX12_rowAt 9 = .ok (.iadd, 1) := by decide +kernel
theorem dX12_rowAt_10 : decode cX12_rowAt 10 = .ok (.iaload, 1) := by decide +kernel
theorem dX12_rowAt_11 : decode cX12_rowAt 11 = .ok (.ireturn, 1) := by decide +kernel
theorem dX12_setRow_0 : decode cX12_setRow 0 = .ok (.aload_n 0, 1) := by decide +kernel
theorem dX12_setRow_1 : decode cX12_setRow 1 = .ok (.getfield 20, 3) := by decide +kernel
theorem dX12_setRow_4 : decode cX12_setRow 4 = .ok (.bipush 40, 2) := by decide +kernel
theorem dX12_setRow_6 : decode cX12_setRow 6 = .ok (.iload_n 1, 1) := by decide +kernel
theorem dX12_setRow_7 : decode cX12_setRow 7 = .ok (.imul, 1) := by decide +kernel
theorem dX12_setRow_8 : decode cX12_setRow 8 = .ok (.iload_n 2, 1) := by decide +kernel
theorem dX12_setRow_9 : decode cX12_setRow 9 = .ok (.iadd, 1) := by decide +kernel
theorem dX12_setRow_10 : decode cX12_setRow 10 = .ok (.iload_n 3, 1) := by decide +kernel
theorem dX12_setRow_11 : decode cX12_setRow 11 = .ok (.iastore, 1) := by decide +kernel
theorem dX12_setRow_12 : decode cX12_setRow 12 = .ok (.return_, 1) := by decide +kernel
theorem dX12_row_0 : decode cX12_row 0 = .ok (.iload_n 1, 1) := by decide +kernel
theorem dX12_row_1 : decode cX12_row 1 = .ok (.invokestatic 91, 3) := by decide +kernel
theorem dX12_row_4 : decode cX12_row 4 = .ok (.ifCond .eq 9, 3) := by decide +kernel
theorem dX12_row_7 : decode cX12_row 7 = .ok (.iload_n 2, 1) := by decide +kernel
theorem dX12_row_8 : decode cX12_row 8 = .ok (.bipush 40, 2) := by decide +kernel
theorem dX12_row_10 : decode cX12_row 10 = .ok (.if_icmp .le 5, 3) := by decide +kernel
theorem dX12_row_13 : decode cX12_row 13 = .ok (.iconst (-1), 1) := by decide +kernel
theorem dX12_row_14 : decode cX12_row 14 = .ok (.ireturn, 1) := by decide +kernel
theorem dX12_row_15 : decode cX12_row 15 = .ok (.iload_n 2, 1) := by decide +kernel
theorem dX12_row_16 : decode cX12_row 16 = .ok (.ifCond .ge 9, 3) := by decide +kernel
theorem dX12_row_19 : decode cX12_row 19 = .ok (.aload_n 0, 1) := by decide +kernel
theorem dX12_row_20 : decode cX12_row 20 = .ok (.iconst 5, 1) := by decide +kernel
theorem dX12_row_21 : decode cX12_row 21 = .ok (.invokevirtual 95, 3) := by decide +kernel
theorem dX12_row_24 : decode cX12_row 24 = .ok (.ireturn, 1) := by decide +kernel
theorem dX12_row_25 : decode cX12_row 25 = .ok (.aload_n 0, 1) := by decide +kernel
theorem dX12_row_26 : decode cX12_row 26 = .ok (.getfield 17, 3) := by decide +kernel
theorem dX12_row_29 : decode cX12_row 29 = .ok (.iload_n 1, 1) := by decide +kernel
theorem dX12_row_30 : decode cX12_row 30 = .ok (.iload_n 2, 1) := by decide +kernel
theorem dX12_row_31 : decode cX12_row 31 = .ok (.iastore, 1) := by decide +kernel
theorem dX12_row_32 : decode cX12_row 32 = .ok (.iconst 0, 1) := by decide +kernel
theorem dX12_row_33 : decode cX12_row 33 = .ok (.istore_n 3, 1) := by decide +kernel
theorem dX12_row_34 : decode cX12_row 34 = .ok (.iload_n 3, 1) := by decide +kernel
theorem dX12_row_35 : decode cX12_row 35 = .ok (.bipush 40, 2) := by decide +kernel
theorem dX12_row_37 : decode cX12_row 37 = .ok (.if_icmp .ge 16, 3) := by decide +kernel
theorem dX12_row_40 : decode cX12_row 40 = .ok (.aload_n 0, 1) := by decide +kernel
theorem dX12_row_41 : decode cX12_row 41 = .ok (.iload_n 1, 1) := by decide +kernel
theorem dX12_row_42 : decode cX12_row 42 = .ok (.iload_n 3, 1) := by decide +kernel
theorem dX12_row_43 : decode cX12_row 43 = .ok (.iconst 0, 1) := by decide +kernel
theorem dX12_row_44 : decode cX12_row 44 = .ok (.invokevirtual 102, 3) := by decide +kernel
theorem dX12_row_47 : decode cX12_row 47 = .ok (.iinc 3 1, 3) := by decide +kernel
theorem dX12_row_50 : decode cX12_row 50 = .ok (.goto (-16), 3) := by decide +kernel
theorem dX12_row_53 : decode cX12_row 53 = .ok (.iload_n 2, 1) := by decide +kernel
theorem dX12_row_54 : decode cX12_row 54 = .ok (.ireturn, 1) := by decide +kernel
theorem dX12_at_0 : decode cX12_at 0 = .ok (.aload_n 0, 1) := by decide +kernel
theorem dX12_at_1 : decode cX12_at 1 = .ok (.iload_n 1, 1) := by decide +kernel
theorem dX12_at_2 : decode cX12_at 2 = .ok (.invokevirtual 106, 3) := by decide +kernel
theorem dX12_at_5 : decode cX12_at 5 = .ok (.istore_n 3, 1) := by decide +kernel
theorem dX12_at_6 : decode cX12_at 6 = .ok (.iload_n 3, 1) := by decide +kernel
theorem dX12_at_7 : decode cX12_at 7 = .ok (.ifCond .ge 5, 3) := by decide +kernel
theorem dX12_at_10 : decode cX12_at 10 = .ok (.iload_n 3, 1) := by decide +kernel
theorem dX12_at_11 : decode cX12_at 11 = .ok (.ireturn, 1) := by decide +kernel
theorem dX12_at_12 : decode cX12_at 12 = .ok (.iload_n 2, 1) := by decide +kernel
theorem dX12_at_13 : decode cX12_at 13 = .ok (.iconst 0, 1) := by decide +kernel
theorem dX12_at_14 : decode cX12_at 14 = .ok (.aload_n 0, 1) := by decide +kernel
theorem dX12_at_15 : decode cX12_at 15 = .ok (.getfield 17, 3) := by decide +kernel
theorem dX12_at_18 : decode cX12_at 18 = .ok (.iload_n 1, 1) := by decide +kernel
theorem dX12_at_19 : decode cX12_at 19 = .ok (.iaload, 1) := by decide +kernel
theorem dX12_at_20 : decode cX12_at 20 = .ok (.iconst 1, 1) := by decide +kernel
theorem dX12_at_21 : decode cX12_at 21 = .ok (.isub, 1) := by decide +kernel
theorem dX12_at_22 : decode cX12_at 22 = .ok (.invokestatic 87, 3) := by decide +kernel
theorem dX12_at_25 : decode cX12_at 25 = .ok (.ifCond .eq 17, 3) := by decide +kernel
theorem dX12_at_28 : decode cX12_at 28 = .ok (.aload_n 0, 1) := by decide +kernel
theorem dX12_at_29 : decode cX12_at 29 = .ok (.aload_n 0, 1) := by decide +kernel
theorem dX12_at_30 : decode cX12_at 30 = .ok (.iload_n 1, 1) := by decide +kernel
theorem dX12_at_31 : decode cX12_at 31 = .ok (.iload_n 2, 1) := by decide +kernel
theorem dX12_at_32 : decode cX12_at 32 = .ok (.invokevirtual 109, 3) := by decide +kernel
theorem dX12_at_35 : decode cX12_at 35 = .ok (.iconst 1, 1) := by decide +kernel
theorem dX12_at_36 : decode cX12_at 36 = .ok (.invokevirtual 113, 3) := by decide +kernel
theorem dX12_at_39 : decode cX12_at 39 = .ok (.goto 8, 3) := by decide +kernel
theorem dX12_at_42 : decode cX12_at 42 = .ok (.aload_n 0, 1) := by decide +kernel
theorem dX12_at_43 : decode cX12_at 43 = .ok (.iconst 2, 1) := by decide +kernel
theorem dX12_at_44 : decode cX12_at 44 = .ok (.invokevirtual 95, 3) := by decide +kernel
theorem dX12_at_47 : decode cX12_at 47 = .ok (.ireturn, 1) := by decide +kernel
theorem dX12_lay_0 : decode cX12_lay 0 = .ok (.aload_n 0, 1) := by decide +kernel
theorem dX12_lay_1 : decode cX12_lay 1 = .ok (.iload_n 1, 1) := by decide +kernel
theorem dX12_lay_2 : decode cX12_lay 2 = .ok (.iload_n 2, 1) := by decide +kernel
theorem dX12_lay_3 : decode cX12_lay 3 = .ok (.invokevirtual 116, 3) := by decide +kernel
theorem dX12_lay_6 : decode cX12_lay 6 = .ok (.istore 4, 2) := by decide +kernel
theorem dX12_lay_8 : decode cX12_lay 8 = .ok (.iload 4, 2) := by decide +kernel
theorem dX12_lay_10 : decode cX12_lay 10 = .ok (.ifCond .ge 6, 3) := by decide +kernel
theorem dX12_lay_13 : decode cX12_lay 13 = .ok (.iload 4, 2) := by decide +kernel
theorem dX12_lay_15 : decode cX12_lay 15 = .ok (.ireturn, 1) := by decide +kernel
theorem dX12_lay_16 : decode cX12_lay 16 = .ok (.aload_n 0, 1) := by decide +kernel
theorem dX12_lay_17 : decode cX12_lay 17 = .ok (.iload_n 1, 1) := by decide +kernel
theorem dX12_lay_18 : decode cX12_lay 18 = .ok (.iload_n 2, 1) := by decide +kernel
theorem dX12_lay_19 : decode cX12_lay 19 = .ok (.iload_n 3, 1) := by decide +kernel
theorem dX12_lay_20 : decode cX12_lay 20 = .ok (.invokevirtual 102, 3) := by decide +kernel
theorem dX12_lay_23 : decode cX12_lay 23 = .ok (.iconst 1, 1) := by decide +kernel
theorem dX12_lay_24 : decode cX12_lay 24 = .ok (.ireturn, 1) := by decide +kernel
theorem dX12_tear_0 : decode cX12_tear 0 = .ok (.aload_n 0, 1) := by decide +kernel
theorem dX12_tear_1 : decode cX12_tear 1 = .ok (.iload_n 1, 1) := by decide +kernel
theorem dX12_tear_2 : decode cX12_tear 2 = .ok (.invokevirtual 106, 3) := by decide +kernel
theorem dX12_tear_5 : decode cX12_tear 5 = .ok (.istore_n 2, 1) := by decide +kernel
theorem dX12_tear_6 : decode cX12_tear 6 = .ok (.iload_n 2, 1) := by decide +kernel
theorem dX12_tear_7 : decode cX12_tear 7 = .ok (.ifCond .ge 5, 3) := by decide +kernel
theorem dX12_tear_10 : decode cX12_tear 10 = .ok (.iload_n 2, 1) := by decide +kernel
theorem dX12_tear_11 : decode cX12_tear 11 = .ok (.ireturn, 1) := by decide +kernel
theorem dX12_tear_12 : decode cX12_tear 12 = .ok (.aload_n 0, 1) := by decide +kernel
theorem dX12_tear_13 : decode cX12_tear 13 = .ok (.getfield 17, 3) := by decide +kernel
theorem dX12_tear_16 : decode cX12_tear 16 = .ok (.iload_n 1, 1) := by decide +kernel
theorem dX12_tear_17 : decode cX12_tear 17 = .ok (.bipush (-9), 2) := by decide +kernel
theorem dX12_tear_19 : decode cX12_tear 19 = .ok (.iastore, 1) := by decide +kernel
theorem dX12_tear_20 : decode cX12_tear 20 = .ok (.iconst 1, 1) := by decide +kernel
theorem dX12_tear_21 : decode cX12_tear 21 = .ok (.ireturn, 1) := by decide +kernel
theorem dX12_copy_0 : decode cX12_copy 0 = .ok (.iload_n 1, 1) := by decide +kernel
theorem dX12_copy_1 : decode cX12_copy 1 = .ok (.invokestatic 91, 3) := by decide +kernel
theorem dX12_copy_4 : decode cX12_copy 4 = .ok (.ifCond .eq 10, 3) := by decide +kernel
theorem dX12_copy_7 : decode cX12_copy 7 = .ok (.iload_n 3, 1) := by decide +kernel
theorem dX12_copy_8 : decode cX12_copy 8 = .ok (.invokestatic 91, 3) := by decide +kernel
theorem dX12_copy_11 : decode cX12_copy 11 = .ok (.ifCond .ne 5, 3) := by decide +kernel
theorem dX12_copy_14 : decode cX12_copy 14 = .ok (.iconst (-1), 1) := by decide +kernel
theorem dX12_copy_15 : decode cX12_copy 15 = .ok (.ireturn, 1) := by decide +kernel
theorem dX12_copy_16 : decode cX12_copy 16 = .ok (.iload 5, 2) := by decide +kernel
theorem dX12_copy_18 : decode cX12_copy 18 = .ok (.ifCond .ge 9, 3) := by decide +kernel
theorem dX12_copy_21 : decode cX12_copy 21 = .ok (.aload_n 0, 1) := by decide +kernel
theorem dX12_copy_22 : decode cX12_copy 22 = .ok (.iconst 5, 1) := by decide +kernel
theorem dX12_copy_23 : decode cX12_copy 23 = .ok (.invokevirtual 95, 3) := by decide +kernel
theorem dX12_copy_26 : decode cX12_copy 26 = .ok (.ireturn, 1) := by decide +kernel
theorem dX12_copy_27 : decode cX12_copy 27 = .ok (.aload_n 0, 1) := by decide +kernel
theorem dX12_copy_28 : decode cX12_copy 28 = .ok (.getfield 17, 3) := by decide +kernel
theorem dX12_copy_31 : decode cX12_copy 31 = .ok (.iload_n 1, 1) := by decide +kernel
theorem dX12_copy_32 : decode cX12_copy 32 = .ok (.iaload, 1) := by decide +kernel
theorem dX12_copy_33 : decode cX12_copy 33 = .ok (.ifCond .lt 12, 3) := by decide +kernel
theorem dX12_copy_36 : decode cX12_copy 36 = .ok (.aload_n 0, 1) := by decide +kernel
theorem dX12_copy_37 : decode cX12_copy 37 = .ok (.getfield 17, 3) := by decide +kernel
theorem dX12_copy_40 : decode cX12_copy 40 = .ok (.iload_n 3, 1) := by decide +kernel
theorem dX12_copy_41 : decode cX12_copy 41 = .ok (.iaload, 1) := by decide +kernel
theorem dX12_copy_42 : decode cX12_copy 42 = .ok (.ifCond .ge 9, 3) := by decide +kernel
theorem dX12_copy_45 : decode cX12_copy 45 = .ok (.aload_n 0, 1) := by decide +kernel
theorem dX12_copy_46 : decode cX12_copy 46 = .ok (.iconst 1, 1) := by decide +kernel
theorem dX12_copy_47 : decode cX12_copy 47 = .ok (.invokevirtual 95, 3) := by decide +kernel
theorem dX12_copy_50 : decode cX12_copy 50 = .ok (.ireturn, 1) := by decide +kernel
theorem dX12_copy_51 : decode cX12_copy 51 = .ok (.iload_n 2, 1) := by decide +kernel
theorem dX12_copy_52 : decode cX12_copy 52 = .ok (.ifCond .lt 43, 3) := by decide +kernel
theorem dX12_copy_55 : decode cX12_copy 55 = .ok (.iload 4, 2) := by decide +kernel
theorem dX12_copy_57 : decode cX12_copy 57 = .ok (.ifCond .lt 38, 3) := by decide +kernel
theorem dX12_copy_60 : decode cX12_copy 60 = .ok (.iload_n 2, 1) := by decide +kernel
theorem dX12_copy_61 : decode cX12_copy 61 = .ok (.i2l, 1) := by decide +kernel
theorem dX12_copy_62 : decode cX12_copy 62 = .ok (.iload 5, 2) := by decide +kernel
theorem dX12_copy_64 : decode cX12_copy 64 = .ok (.i2l, 1) := by decide +kernel
theorem dX12_copy_65 : decode cX12_copy 65 = .ok (.ladd, 1) := by decide +kernel
theorem dX12_copy_66 : decode cX12_copy 66 = .ok (.aload_n 0, 1) := by decide +kernel
theorem dX12_copy_67 : decode cX12_copy 67 = .ok (.getfield 17, 3) := by decide +kernel
theorem dX12_copy_70 : decode cX12_copy 70 = .ok (.iload_n 1, 1) := by decide +kernel
theorem dX12_copy_71 : decode cX12_copy 71 = .ok (.iaload, 1) := by decide +kernel
theorem dX12_copy_72 : decode cX12_copy 72 = .ok (.i2l, 1) := by decide +kernel
theorem dX12_copy_73 : decode cX12_copy 73 = .ok (.lcmp, 1) := by decide +kernel
theorem dX12_copy_74 : decode cX12_copy 74 = .ok (.ifCond .gt 21, 3) := by decide +kernel
theorem dX12_copy_77 : decode cX12_copy 77 = .ok (.iload 4, 2) := by decide +kernel
theorem dX12_copy_79 : decode cX12_copy 79 = .ok (.i2l, 1) := by decide +kernel
theorem dX12_copy_80 : decode cX12_copy 80 = .ok (.iload 5, 2) := by decide +kernel
theorem dX12_copy_82 : decode cX12_copy 82 = .ok (.i2l, 1) := by decide +kernel
theorem dX12_copy_83 : decode cX12_copy 83 = .ok (.ladd, 1) := by decide +kernel
theorem dX12_copy_84 : decode cX12_copy 84 = .ok (.aload_n 0, 1) := by decide +kernel
theorem dX12_copy_85 : decode cX12_copy 85 = .ok (.getfield 17, 3) := by decide +kernel
theorem dX12_copy_88 : decode cX12_copy 88 = .ok (.iload_n 3, 1) := by decide +kernel
theorem dX12_copy_89 : decode cX12_copy 89 = .ok (.iaload, 1) := by decide +kernel
theorem dX12_copy_90 : decode cX12_copy 90 = .ok (.i2l, 1) := by decide +kernel
theorem dX12_copy_91 : decode cX12_copy 91 = .ok (.lcmp, 1) := by decide +kernel
theorem dX12_copy_92 : decode cX12_copy 92 = .ok (.ifCond .le 9, 3) := by decide +kernel
theorem dX12_copy_95 : decode cX12_copy 95 = .ok (.aload_n 0, 1) := by decide +kernel
theorem dX12_copy_96 : decode cX12_copy 96 = .ok (.iconst 2, 1) := by decide +kernel
theorem dX12_copy_97 : decode cX12_copy 97 = .ok (.invokevirtual 95, 3) := by decide +kernel
theorem dX12_copy_100 : decode cX12_copy 100 = .ok (.ireturn, 1) := by decide +kernel
theorem dX12_copy_101 : decode cX12_copy 101 = .ok (.iconst 0, 1) := by decide +kernel
theorem dX12_copy_102 : decode cX12_copy 102 = .ok (.istore 6, 2) := by decide +kernel
theorem dX12_copy_104 : decode cX12_copy 104 = .ok (.iload 6, 2) := by decide +kernel
theorem dX12_copy_106 : decode cX12_copy 106 = .ok (.iload 5, 2) := by decide +kernel
theorem dX12_copy_108 : decode cX12_copy 108 = .ok (.if_icmp .ge 25, 3) := by decide +kernel
theorem dX12_copy_111 : decode cX12_copy 111 = .ok (.aload_n 0, 1) := by decide +kernel
theorem dX12_copy_112 : decode cX12_copy 112 = .ok (.getfield 23, 3) := by decide +kernel
theorem dX12_copy_115 : decode cX12_copy 115 = .ok (.iload 6, 2) := by decide +kernel
theorem dX12_copy_117 : decode cX12_copy 117 = .ok (.aload_n 0, 1) := by decide +kernel
theorem dX12_copy_118 : decode cX12_copy 118 = .ok (.iload_n 1, 1) := by decide +kernel
theorem dX12_copy_119 : decode cX12_copy 119 = .ok (.iload_n 2, 1) := by decide +kernel
theorem dX12_copy_120 : decode cX12_copy 120 = .ok (.iload 6, 2) := by decide +kernel
theorem dX12_copy_122 : decode cX12_copy 122 = .ok (.iadd, 1) := by decide +kernel
theorem dX12_copy_123 : decode cX12_copy 123 = .ok (.invokevirtual 109, 3) := by decide +kernel
theorem dX12_copy_126 : decode cX12_copy 126 = .ok (.iastore, 1) := by decide +kernel
theorem dX12_copy_127 : decode cX12_copy 127 = .ok (.iinc 6 1, 3) := by decide +kernel
theorem dX12_copy_130 : decode cX12_copy 130 = .ok (.goto (-26), 3) := by decide +kernel
theorem dX12_copy_133 : decode cX12_copy 133 = .ok (.iconst 0, 1) := by decide +kernel
theorem dX12_copy_134 : decode cX12_copy 134 = .ok (.istore 6, 2) := by decide +kernel
theorem dX12_copy_136 : decode cX12_copy 136 = .ok (.iload 6, 2) := by decide +kernel
theorem dX12_copy_138 : decode cX12_copy 138 = .ok (.iload 5, 2) := by decide +kernel
theorem dX12_copy_140 : decode cX12_copy 140 = .ok (.if_icmp .ge 26, 3) := by decide +kernel
theorem dX12_copy_143 : decode cX12_copy 143 = .ok (.aload_n 0, 1) := by decide +kernel
theorem dX12_copy_144 : decode cX12_copy 144 = .ok (.iload_n 3, 1) := by decide +kernel
theorem dX12_copy_145 : decode cX12_copy 145 = .ok (.iload 4, 2) := by decide +kernel
theorem dX12_copy_147 : decode cX12_copy 147 = .ok (.iload 6, 2) := by decide +kernel
theorem dX12_copy_149 : decode cX12_copy 149 = .ok (.iadd, 1) := by decide +kernel
theorem dX12_copy_150 : decode cX12_copy 150 = .ok (.aload_n 0, 1) := by decide +kernel
theorem dX12_copy_151 : decode cX12_copy 151 = .ok (.getfield 23, 3) := by decide +kernel
theorem dX12_copy_154 : decode cX12_copy 154 = .ok (.iload 6, 2) := by decide +kernel
theorem dX12_copy_156 : decode cX12_copy 156 = .ok (.iaload, 1) := by decide +kernel
theorem dX12_copy_157 : decode cX12_copy 157 = .ok (.invokevirtual 102, 3) := by decide +kernel
theorem dX12_copy_160 : decode cX12_copy 160 = .ok (.iinc 6 1, 3) := by decide +kernel
theorem dX12_copy_163 : decode cX12_copy 163 = .ok (.goto (-27), 3) := by decide +kernel
theorem dX12_copy_166 : decode cX12_copy 166 = .ok (.iconst 1, 1) := by decide +kernel
theorem dX12_copy_167 : decode cX12_copy 167 = .ok (.ireturn, 1) := by decide +kernel
theorem dX12_mean_0 : decode cX12_mean 0 = .ok (.aload_n 0, 1) := by decide +kernel
theorem dX12_mean_1 : decode cX12_mean 1 = .ok (.iload_n 1, 1) := by decide +kernel
theorem dX12_mean_2 : decode cX12_mean 2 = .ok (.invokevirtual 106, 3) := by decide +kernel
theorem dX12_mean_5 : decode cX12_mean 5 = .ok (.istore_n 2, 1) := by decide +kernel
theorem dX12_mean_6 : decode cX12_mean 6 = .ok (.iload_n 2, 1) := by decide +kernel
theorem dX12_mean_7 : decode cX12_mean 7 = .ok (.ifCond .ge 5, 3) := by decide +kernel
theorem dX12_mean_10 : decode cX12_mean 10 = .ok (.iload_n 2, 1) := by decide +kernel
theorem dX12_mean_11 : decode cX12_mean 11 = .ok (.ireturn, 1) := by decide +kernel
theorem dX12_mean_12 : decode cX12_mean 12 = .ok (.lconst 0, 1) := by decide +kernel
theorem dX12_mean_13 : decode cX12_mean 13 = .ok (.lstore_n 3, 1) := by decide +kernel
theorem dX12_mean_14 : decode cX12_mean 14 = .ok (.iconst 0, 1) := by decide +kernel
theorem dX12_mean_15 : decode cX12_mean 15 = .ok (.istore 5, 2) := by decide +kernel
theorem dX12_mean_17 : decode cX12_mean 17 = .ok (.iload 5, 2) := by decide +kernel
theorem dX12_mean_19 : decode cX12_mean 19 = .ok (.aload_n 0, 1) := by decide +kernel
theorem dX12_mean_20 : decode cX12_mean 20 = .ok (.getfield 17, 3) := by decide +kernel
theorem dX12_mean_23 : decode cX12_mean 23 = .ok (.iload_n 1, 1) := by decide +kernel
theorem dX12_mean_24 : decode cX12_mean 24 = .ok (.iaload, 1) := by decide +kernel
theorem dX12_mean_25 : decode cX12_mean 25 = .ok (.if_icmp .ge 20, 3) := by decide +kernel
theorem dX12_mean_28 : decode cX12_mean 28 = .ok (.lload_n 3, 1) := by decide +kernel
theorem dX12_mean_29 : decode cX12_mean 29 = .ok (.aload_n 0, 1) := by decide +kernel
theorem dX12_mean_30 : decode cX12_mean 30 = .ok (.iload_n 1, 1) := by decide +kernel
theorem dX12_mean_31 : decode cX12_mean 31 = .ok (.iload 5, 2) := by decide +kernel
theorem dX12_mean_33 : decode cX12_mean 33 = .ok (.invokevirtual 109, 3) := by decide +kernel
theorem dX12_mean_36 : decode cX12_mean 36 = .ok (.i2l, 1) := by decide +kernel
theorem dX12_mean_37 : decode cX12_mean 37 = .ok (.ladd, 1) := by decide +kernel
theorem dX12_mean_38 : decode cX12_mean 38 = .ok (.lstore_n 3, 1) := by decide +kernel
theorem dX12_mean_39 : decode cX12_mean 39 = .ok (.iinc 5 1, 3) := by decide +kernel
theorem dX12_mean_42 : decode cX12_mean 42 = .ok (.goto (-25), 3) := by decide +kernel
theorem dX12_mean_45 : decode cX12_mean 45 = .ok (.aload_n 0, 1) := by decide +kernel
theorem dX12_mean_46 : decode cX12_mean 46 = .ok (.getfield 17, 3) := by decide +kernel
theorem dX12_mean_49 : decode cX12_mean 49 = .ok (.iload_n 1, 1) := by decide +kernel
theorem dX12_mean_50 : decode cX12_mean 50 = .ok (.iaload, 1) := by decide +kernel
theorem dX12_mean_51 : decode cX12_mean 51 = .ok (.ifCond .ne 11, 3) := by decide +kernel
theorem dX12_mean_54 : decode cX12_mean 54 = .ok (.aload_n 0, 1) := by decide +kernel
theorem dX12_mean_55 : decode cX12_mean 55 = .ok (.iconst 4, 1) := by decide +kernel
theorem dX12_mean_56 : decode cX12_mean 56 = .ok (.invokevirtual 95, 3) := by decide +kernel
theorem dX12_mean_59 : decode cX12_mean 59 = .ok (.goto 18, 3) := by decide +kernel
theorem dX12_mean_62 : decode cX12_mean 62 = .ok (.aload_n 0, 1) := by decide +kernel
theorem dX12_mean_63 : decode cX12_mean 63 = .ok (.lload_n 3, 1) := by decide +kernel
theorem dX12_mean_64 : decode cX12_mean 64 = .ok (.aload_n 0, 1) := by decide +kernel
theorem dX12_mean_65 : decode cX12_mean 65 = .ok (.getfield 17, 3) := by decide +kernel
theorem dX12_mean_68 : decode cX12_mean 68 = .ok (.iload_n 1, 1) := by decide +kernel
theorem dX12_mean_69 : decode cX12_mean 69 = .ok (.iaload, 1) := by decide +kernel
theorem dX12_mean_70 : decode cX12_mean 70 = .ok (.i2l, 1) := by decide +kernel
theorem dX12_mean_71 : decode cX12_mean 71 = .ok (.ldiv, 1) := by decide +kernel
theorem dX12_mean_72 : decode cX12_mean 72 = .ok (.l2i, 1) := by decide +kernel
theorem dX12_mean_73 : decode cX12_mean 73 = .ok (.iconst 1, 1) := by decide +kernel
theorem dX12_mean_74 : decode cX12_mean 74 = .ok (.invokevirtual 113, 3) := by decide +kernel
theorem dX12_mean_77 : decode cX12_mean 77 = .ok (.ireturn, 1) := by decide +kernel
theorem dX12_text_0 : decode cX12_text 0 = .ok (.iload_n 1, 1) := by decide +kernel
theorem dX12_text_1 : decode cX12_text 1 = .ok (.invokestatic 99, 3) := by decide +kernel
theorem dX12_text_4 : decode cX12_text 4 = .ok (.ifCond .eq 9, 3) := by decide +kernel
theorem dX12_text_7 : decode cX12_text 7 = .ok (.iload_n 2, 1) := by decide +kernel
theorem dX12_text_8 : decode cX12_text 8 = .ok (.bipush 80, 2) := by decide +kernel
theorem dX12_text_10 : decode cX12_text 10 = .ok (.if_icmp .le 5, 3) := by decide +kernel
theorem dX12_text_13 : decode cX12_text 13 = .ok (.iconst (-1), 1) := by decide +kernel
theorem dX12_text_14 : decode cX12_text 14 = .ok (.ireturn, 1) := by decide +kernel
theorem dX12_text_15 : decode cX12_text 15 = .ok (.iload_n 2, 1) := by decide +kernel
theorem dX12_text_16 : decode cX12_text 16 = .ok (.ifCond .ge 9, 3) := by decide +kernel
theorem dX12_text_19 : decode cX12_text 19 = .ok (.aload_n 0, 1) := by decide +kernel
theorem dX12_text_20 : decode cX12_text 20 = .ok (.iconst 5, 1) := by decide +kernel
theorem dX12_text_21 : decode cX12_text 21 = .ok (.invokevirtual 95, 3) := by decide +kernel
theorem dX12_text_24 : decode cX12_text 24 = .ok (.ireturn, 1) := by decide +kernel
theorem dX12_text_25 : decode cX12_text 25 = .ok (.aload_n 0, 1) := by decide +kernel
theorem dX12_text_26 : decode cX12_text 26 = .ok (.getfield 26, 3) := by decide +kernel
theorem dX12_text_29 : decode cX12_text 29 = .ok (.iload_n 1, 1) := by decide +kernel
theorem dX12_text_30 : decode cX12_text 30 = .ok (.iload_n 2, 1) := by decide +kernel
theorem dX12_text_31 : decode cX12_text 31 = .ok (.iastore, 1) := by decide +kernel
theorem dX12_text_32 : decode cX12_text 32 = .ok (.iconst 0, 1) := by decide +kernel
theorem dX12_text_33 : decode cX12_text 33 = .ok (.istore_n 3, 1) := by decide +kernel
theorem dX12_text_34 : decode cX12_text 34 = .ok (.iload_n 3, 1) := by decide +kernel
theorem dX12_text_35 : decode cX12_text 35 = .ok (.bipush 80, 2) := by decide +kernel
theorem dX12_text_37 : decode cX12_text 37 = .ok (.if_icmp .ge 22, 3) := by decide +kernel
theorem dX12_text_40 : decode cX12_text 40 = .ok (.aload_n 0, 1) := by decide +kernel
theorem dX12_text_41 : decode cX12_text 41 = .ok (.getfield 29, 3) := by decide +kernel
theorem dX12_text_44 : decode cX12_text 44 = .ok (.bipush 80, 2) := by decide +kernel
theorem dX12_text_46 : decode cX12_text 46 = .ok (.iload_n 1, 1) := by decide +kernel
theorem dX12_text_47 : decode cX12_text 47 = .ok (.imul, 1) := by decide +kernel
theorem dX12_text_48 : decode cX12_text 48 = .ok (.iload_n 3, 1) := by decide +kernel
theorem dX12_text_49 : decode cX12_text 49 = .ok (.iadd, 1) := by decide +kernel
theorem dX12_text_50 : decode cX12_text 50 = .ok (.bipush 32, 2) := by decide +kernel
theorem dX12_text_52 : decode cX12_text 52 = .ok (.iastore, 1) := by decide +kernel
theorem dX12_text_53 : decode cX12_text 53 = .ok (.iinc 3 1, 3) := by decide +kernel
theorem dX12_text_56 : decode cX12_text 56 = .ok (.goto (-22), 3) := by decide +kernel
theorem dX12_text_59 : decode cX12_text 59 = .ok (.iload_n 2, 1) := by decide +kernel
theorem dX12_text_60 : decode cX12_text 60 = .ok (.ireturn, 1) := by decide +kernel
theorem dX12_put_0 : decode cX12_put 0 = .ok (.aload_n 0, 1) := by decide +kernel
theorem dX12_put_1 : decode cX12_put 1 = .ok (.iload_n 1, 1) := by decide +kernel
theorem dX12_put_2 : decode cX12_put 2 = .ok (.invokevirtual 119, 3) := by decide +kernel
theorem dX12_put_5 : decode cX12_put 5 = .ok (.istore 4, 2) := by decide +kernel
theorem dX12_put_7 : decode cX12_put 7 = .ok (.iload 4, 2) := by decide +kernel
theorem dX12_put_9 : decode cX12_put 9 = .ok (.ifCond .ge 6, 3) := by decide +kernel
theorem dX12_put_12 : decode cX12_put 12 = .ok (.iload 4, 2) := by decide +kernel
theorem dX12_put_14 : decode cX12_put 14 = .ok (.ireturn, 1) := by decide +kernel
theorem dX12_put_15 : decode cX12_put 15 = .ok (.iload_n 2, 1) := by decide +kernel
theorem dX12_put_16 : decode cX12_put 16 = .ok (.iconst 0, 1) := by decide +kernel
theorem dX12_put_17 : decode cX12_put 17 = .ok (.aload_n 0, 1) := by decide +kernel
theorem dX12_put_18 : decode cX12_put 18 = .ok (.getfield 26, 3) := by decide +kernel
theorem dX12_put_21 : decode cX12_put 21 = .ok (.iload_n 1, 1) := by decide +kernel
theorem dX12_put_22 : decode cX12_put 22 = .ok (.iaload, 1) := by decide +kernel
theorem dX12_put_23 : decode cX12_put 23 = .ok (.iconst 1, 1) := by decide +kernel
theorem dX12_put_24 : decode cX12_put 24 = .ok (.isub, 1) := by decide +kernel
theorem dX12_put_25 : decode cX12_put 25 = .ok (.invokestatic 87, 3) := by decide +kernel
theorem dX12_put_28 : decode cX12_put 28 = .ok (.ifCond .ne 9, 3) := by decide +kernel
theorem dX12_put_31 : decode cX12_put 31 = .ok (.aload_n 0, 1) := by decide +kernel
theorem dX12_put_32 : decode cX12_put 32 = .ok (.iconst 2, 1) := by decide +kernel
theorem dX12_put_33 : decode cX12_put 33 = .ok (.invokevirtual 95, 3) := by decide +kernel
theorem dX12_put_36 : decode cX12_put 36 = .ok (.ireturn, 1) := by decide +kernel
theorem dX12_put_37 : decode cX12_put 37 = .ok (.aload_n 0, 1) := by decide +kernel
theorem dX12_put_38 : decode cX12_put 38 = .ok (.getfield 29, 3) := by decide +kernel
theorem dX12_put_41 : decode cX12_put 41 = .ok (.bipush 80, 2) := by decide +kernel
theorem dX12_put_43 : decode cX12_put 43 = .ok (.iload_n 1, 1) := by decide +kernel
theorem dX12_put_44 : decode cX12_put 44 = .ok (.imul, 1) := by decide +kernel
theorem dX12_put_45 : decode cX12_put 45 = .ok (.iload_n 2, 1) := by decide +kernel
theorem dX12_put_46 : decode cX12_put 46 = .ok (.iadd, 1) := by decide +kernel
theorem dX12_put_47 : decode cX12_put 47 = .ok (.iaload, 1) := by decide +kernel
theorem dX12_put_48 : decode cX12_put 48 = .ok (.istore 5, 2) := by decide +kernel
theorem dX12_put_50 : decode cX12_put 50 = .ok (.aload_n 0, 1) := by decide +kernel
theorem dX12_put_51 : decode cX12_put 51 = .ok (.getfield 29, 3) := by decide +kernel
theorem dX12_put_54 : decode cX12_put 54 = .ok (.bipush 80, 2) := by decide +kernel
theorem dX12_put_56 : decode cX12_put 56 = .ok (.iload_n 1, 1) := by decide +kernel
theorem dX12_put_57 : decode cX12_put 57 = .ok (.imul, 1) := by decide +kernel
theorem dX12_put_58 : decode cX12_put 58 = .ok (.iload_n 2, 1) := by decide +kernel
theorem dX12_put_59 : decode cX12_put 59 = .ok (.iadd, 1) := by decide +kernel
theorem dX12_put_60 : decode cX12_put 60 = .ok (.iload_n 3, 1) := by decide +kernel
theorem dX12_put_61 : decode cX12_put 61 = .ok (.i2b, 1) := by decide +kernel
theorem dX12_put_62 : decode cX12_put 62 = .ok (.iastore, 1) := by decide +kernel
theorem dX12_put_63 : decode cX12_put 63 = .ok (.iload 5, 2) := by decide +kernel
theorem dX12_put_65 : decode cX12_put 65 = .ok (.sipush 1000, 3) := by decide +kernel
theorem dX12_put_68 : decode cX12_put 68 = .ok (.iadd, 1) := by decide +kernel
theorem dX12_put_69 : decode cX12_put 69 = .ok (.ireturn, 1) := by decide +kernel
theorem q_1016 : Cond.fieldLink RX12 77 "HeavyFilesModel" "finding" "I" ∈ wT := wi_t 1016 (by decide +kernel) (by decide +kernel)
theorem q_1017 : Cond.fieldLink RX12 7 "HeavyFilesModel" "findings" "[I" ∈ wT := wi_t 1017 (by decide +kernel) (by decide +kernel)
theorem q_1018 : Cond.fieldLink RX12 81 "HeavyFilesModel" "asked" "I" ∈ wT := wi_t 1018 (by decide +kernel) (by decide +kernel)
theorem q_1019 : Cond.fieldLink RX12 84 "HeavyFilesModel" "upper" "J" ∈ wT := wi_t 1019 (by decide +kernel) (by decide +kernel)
theorem q_1020 : Cond.fieldLink RX12 13 "HeavyFilesModel" "lower" "J" ∈ wT := wi_t 1020 (by decide +kernel) (by decide +kernel)
theorem q_1150 : Cond.methodLink RX12 87 yX12_in ∈ wT := wi_t 1150 (by decide +kernel) (by decide +kernel)
theorem q_1152 : Cond.code yX12_in cX12_in 3 (some .boolean) ∈ wT := wi_t 1152 (by decide +kernel) (by decide +kernel)
theorem q_1151 : Cond.static yX12_in ∈ wT := wi_t 1151 (by decide +kernel) (by decide +kernel)
theorem q_13 : Cond.initialized RX12 ∈ wT := wi_t 13 (by decide +kernel) (by decide +kernel)
theorem q_1147 : Cond.methodLink RX12 91 yX12_isRow ∈ wT := wi_t 1147 (by decide +kernel) (by decide +kernel)
theorem q_1149 : Cond.code yX12_isRow cX12_isRow 1 (some .boolean) ∈ wT := wi_t 1149 (by decide +kernel) (by decide +kernel)
theorem q_1148 : Cond.static yX12_isRow ∈ wT := wi_t 1148 (by decide +kernel) (by decide +kernel)
theorem q_1021 : Cond.fieldLink RX12 17 "HeavyFilesModel" "sizes" "[I" ∈ wT := wi_t 1021 (by decide +kernel) (by decide +kernel)
theorem q_1153 : Cond.methodLink RX12 95 yX12_meet ∈ wT := wi_t 1153 (by decide +kernel) (by decide +kernel)
theorem q_1156 : Cond.code yX12_meet cX12_meet 2 (some .int) ∈ wT := wi_t 1156 (by decide +kernel) (by decide +kernel)
theorem q_1155 : Cond.instanceMethod yX12_meet ∈ wT := wi_t 1155 (by decide +kernel) (by decide +kernel)
theorem qs_33 : Cond.selects RX12 yX12_meet yX12_meet ∈ wT := wi_s (q := (yX12_meet, 42)) 33 (by decide +kernel) (by decide +kernel)
theorem q_1198 : Cond.methodLink RX12 99 yX12_isText ∈ wT := wi_t 1198 (by decide +kernel) (by decide +kernel)
theorem q_1200 : Cond.code yX12_isText cX12_isText 1 (some .boolean) ∈ wT := wi_t 1200 (by decide +kernel) (by decide +kernel)
theorem q_1199 : Cond.static yX12_isText ∈ wT := wi_t 1199 (by decide +kernel) (by decide +kernel)
theorem q_1024 : Cond.fieldLink RX12 26 "HeavyFilesModel" "lengths" "[I" ∈ wT := wi_t 1024 (by decide +kernel) (by decide +kernel)
theorem q_1022 : Cond.fieldLink RX12 20 "HeavyFilesModel" "rows" "[I" ∈ wT := wi_t 1022 (by decide +kernel) (by decide +kernel)
theorem q_1157 : Cond.methodLink RX12 102 yX12_setRow ∈ wT := wi_t 1157 (by decide +kernel) (by decide +kernel)
theorem q_1160 : Cond.code yX12_setRow cX12_setRow 4 none ∈ wT := wi_t 1160 (by decide +kernel) (by decide +kernel)
theorem q_1159 : Cond.instanceMethod yX12_setRow ∈ wT := wi_t 1159 (by decide +kernel) (by decide +kernel)
theorem qs_34 : Cond.selects RX12 yX12_setRow yX12_setRow ∈ wT := wi_s (q := (yX12_setRow, 42)) 34 (by decide +kernel) (by decide +kernel)
theorem q_1165 : Cond.methodLink RX12 106 yX12_askedRow ∈ wT := wi_t 1165 (by decide +kernel) (by decide +kernel)
theorem q_1168 : Cond.code yX12_askedRow cX12_askedRow 2 (some .int) ∈ wT := wi_t 1168 (by decide +kernel) (by decide +kernel)
theorem q_1167 : Cond.instanceMethod yX12_askedRow ∈ wT := wi_t 1167 (by decide +kernel) (by decide +kernel)
theorem qs_35 : Cond.selects RX12 yX12_askedRow yX12_askedRow ∈ wT := wi_s (q := (yX12_askedRow, 42)) 35 (by decide +kernel) (by decide +kernel)
theorem q_1169 : Cond.methodLink RX12 109 yX12_rowAt ∈ wT := wi_t 1169 (by decide +kernel) (by decide +kernel)
theorem q_1172 : Cond.code yX12_rowAt cX12_rowAt 3 (some .int) ∈ wT := wi_t 1172 (by decide +kernel) (by decide +kernel)
theorem q_1171 : Cond.instanceMethod yX12_rowAt ∈ wT := wi_t 1171 (by decide +kernel) (by decide +kernel)
theorem qs_36 : Cond.selects RX12 yX12_rowAt yX12_rowAt ∈ wT := wi_s (q := (yX12_rowAt, 42)) 36 (by decide +kernel) (by decide +kernel)
theorem q_1173 : Cond.methodLink RX12 113 yX12_ask ∈ wT := wi_t 1173 (by decide +kernel) (by decide +kernel)
theorem q_1176 : Cond.code yX12_ask cX12_ask 3 (some .int) ∈ wT := wi_t 1176 (by decide +kernel) (by decide +kernel)
theorem q_1175 : Cond.instanceMethod yX12_ask ∈ wT := wi_t 1175 (by decide +kernel) (by decide +kernel)
theorem qs_37 : Cond.selects RX12 yX12_ask yX12_ask ∈ wT := wi_s (q := (yX12_ask, 42)) 37 (by decide +kernel) (by decide +kernel)
theorem q_1181 : Cond.methodLink RX12 116 yX12_at ∈ wT := wi_t 1181 (by decide +kernel) (by decide +kernel)
theorem q_1164 : Cond.code yX12_at cX12_at 4 (some .int) ∈ wT := wi_t 1164 (by decide +kernel) (by decide +kernel)
theorem q_1162 : Cond.instanceMethod yX12_at ∈ wT := wi_t 1162 (by decide +kernel) (by decide +kernel)
theorem q_1163 : Cond.selects RX12 yX12_at yX12_at ∈ wT := wi_t 1163 (by decide +kernel) (by decide +kernel)
theorem q_1023 : Cond.fieldLink RX12 23 "HeavyFilesModel" "moving" "[I" ∈ wT := wi_t 1023 (by decide +kernel) (by decide +kernel)
theorem q_1025 : Cond.fieldLink RX12 29 "HeavyFilesModel" "texts" "[I" ∈ wT := wi_t 1025 (by decide +kernel) (by decide +kernel)
theorem q_1205 : Cond.methodLink RX12 119 yX12_askedText ∈ wT := wi_t 1205 (by decide +kernel) (by decide +kernel)
theorem q_1208 : Cond.code yX12_askedText cX12_askedText 2 (some .int) ∈ wT := wi_t 1208 (by decide +kernel) (by decide +kernel)
theorem q_1207 : Cond.instanceMethod yX12_askedText ∈ wT := wi_t 1207 (by decide +kernel) (by decide +kernel)
theorem qs_38 : Cond.selects RX12 yX12_askedText yX12_askedText ∈ wT := wi_s (q := (yX12_askedText, 42)) 38 (by decide +kernel) (by decide +kernel)
theorem kvX12_in : KS yX12_in cX12_in 3 (some .boolean) 3 := ⟨q_1151, q_13, q_1152, by decide +kernel, by decide +kernel, by decide +kernel⟩
theorem kvX12_isRow : KS yX12_isRow cX12_isRow 1 (some .boolean) 1 := ⟨q_1148, q_13, q_1149, by decide +kernel, by decide +kernel, by decide +kernel⟩
theorem kvX12_meet : KV yX12_meet RX12 cX12_meet 2 (some .int) 1 := ⟨q_1155, qs_33, q_13, q_1156, rfl, by decide +kernel, by decide +kernel, by decide +kernel⟩
theorem kvX12_isText : KS yX12_isText cX12_isText 1 (some .boolean) 1 := ⟨q_1199, q_13, q_1200, by decide +kernel, by decide +kernel, by decide +kernel⟩
theorem kvX12_setRow : KV yX12_setRow RX12 cX12_setRow 4 none 3 := ⟨q_1159, qs_34, q_13, q_1160, rfl, by decide +kernel, by decide +kernel, by decide +kernel⟩
theorem kvX12_askedRow : KV yX12_askedRow RX12 cX12_askedRow 2 (some .int) 1 := ⟨q_1167, qs_35, q_13, q_1168, rfl, by decide +kernel, by decide +kernel, by decide +kernel⟩
theorem kvX12_rowAt : KV yX12_rowAt RX12 cX12_rowAt 3 (some .int) 2 := ⟨q_1171, qs_36, q_13, q_1172, rfl, by decide +kernel, by decide +kernel, by decide +kernel⟩
theorem kvX12_ask : KV yX12_ask RX12 cX12_ask 3 (some .int) 2 := ⟨q_1175, qs_37, q_13, q_1176, rfl, by decide +kernel, by decide +kernel, by decide +kernel⟩
theorem kvX12_at : KV yX12_at RX12 cX12_at 4 (some .int) 2 := ⟨q_1162, q_1163, q_13, q_1164, rfl, by decide +kernel, by decide +kernel, by decide +kernel⟩
theorem kvX12_askedText : KV yX12_askedText RX12 cX12_askedText 2 (some .int) 1 := ⟨q_1207, qs_38, q_13, q_1208, rfl, by decide +kernel, by decide +kernel, by decide +kernel⟩
/-! HeavyFilesModel.in(III)Z -/
def fX12_in (N : Nat)  (a0 : Int32) (a1 : Int32) (a2 : Int32) (mm : Mm) : Option (Int32 × Mm) :=
  if a0 < a1 then (some (0, mm)) else (if a2 < a0 then (some (0, mm)) else (some (1, mm)))
abbrev rmX12_in : Room := { frames := 1, cells := 0, slots := 0, locals := 40 }
/-! HeavyFilesModel.meet(I)I -/
def fX12_meet (N : Nat)  (a0 : Nat) (a1 : Int32) (mm : Mm) : Option (Int32 × Mm) :=
  nm (wr mm a0 0 a1) fun m1 => gd (inb a1 (ln (fr a0 1))) <| gd (inb a1 (ln (fr a0 1))) <| nm (wr m1 (fr a0 1) a1.toNatClampNeg ((rd m1 (fr a0 1) a1.toNatClampNeg) + 1)) fun m4 => some ((-3), m4)
abbrev rmX12_meet : Room := { frames := 1, cells := 0, slots := 0, locals := 40 }
/-! HeavyFilesModel.ask(II)I -/
def fX12_ask (N : Nat)  (a0 : Nat) (a1 : Int32) (a2 : Int32) (mm : Mm) : Option (Int32 × Mm) :=
  nm (wr mm a0 2 a1) fun m1 => some (a2, m1)
abbrev rmX12_ask : Room := { frames := 1, cells := 0, slots := 0, locals := 40 }
/-! HeavyFilesModel.part(JJI)I -/
def fX12_part_46 (N : Nat)  (a0 : Nat) (a1 : Int64) (a3 : Int64) (a5 : Int32) (s0 : Int64) (mm : Mm) : Option (Int32 × Mm) :=
  gd (nzL s0) <| nm (wrL mm a0 3 (a1 / s0)) fun m2 => gd (nzL s0) <| nm (wrL m2 a0 4 (a3 / s0)) fun m4 => some (a5, m4)
def fX12_part_6 (N : Nat)  : Nat → Nat → Int64 → Int64 → Int32 → Int64 → Int64 → Mm → Option (Int32 × Mm)
  | 0 => fun _ _ _ _ _ _ _ => none
  | n + 1 => fun a0 a1 a3 a5 a6 a8 mm =>
    let k6 := fX12_part_6 N  n
    if (lg_cmp a8 0) = 0 then (if (0 : Int32) ≤ (lg_cmp a6 0) then (fX12_part_46 N a0 a1 a3 a5 a6 mm) else (fX12_part_46 N a0 a1 a3 a5 (-a6) mm)) else (gd (nzL a8) <| k6 a0 a1 a3 a5 a8 (a6 - a6 / a8 * a8) mm)
def fX12_part (N : Nat)  (a0 : Nat) (a1 : Int64) (a3 : Int64) (a5 : Int32) (mm : Mm) : Option (Int32 × Mm) :=
  fX12_part_6 N N a0 a1 a3 a5 a1 a3 mm
abbrev rmX12_part : Room := { frames := 1, cells := 0, slots := 0, locals := 40 }
/-! HeavyFilesModel.isRow(I)Z -/
def fX12_isRow (N : Nat)  (a0 : Int32) (mm : Mm) : Option (Int32 × Mm) :=
  bd2 (fX12_in N a0 0 5 mm) fun x1 m2 => gd (zb x1) <| some (x1, m2)
abbrev rmX12_isRow : Room := { frames := 2, cells := 0, slots := 0, locals := 70 }
/-! HeavyFilesModel.isText(I)Z -/
def fX12_isText (N : Nat)  (a0 : Int32) (mm : Mm) : Option (Int32 × Mm) :=
  bd2 (fX12_in N a0 0 3 mm) fun x1 m2 => gd (zb x1) <| some (x1, m2)
abbrev rmX12_isText : Room := { frames := 2, cells := 0, slots := 0, locals := 70 }
/-! HeavyFilesModel.askedRow(I)I -/
def fX12_askedRow (N : Nat)  (a0 : Nat) (a1 : Int32) (mm : Mm) : Option (Int32 × Mm) :=
  bd2 (fX12_isRow N a1 mm) fun x1 m2 => if x1 = 0 then (some ((-1), m2)) else (gd (inb a1 (ln (fr a0 5))) <| if (0 : Int32) ≤ (rd m2 (fr a0 5) a1.toNatClampNeg) then (some (0, m2)) else (bd2 (fX12_meet N a0 1 m2) fun x7 m8 => some (x7, m8)))
abbrev rmX12_askedRow : Room := { frames := 3, cells := 0, slots := 0, locals := 98 }
/-! HeavyFilesModel.askedText(I)I -/
def fX12_askedText (N : Nat)  (a0 : Nat) (a1 : Int32) (mm : Mm) : Option (Int32 × Mm) :=
  bd2 (fX12_isText N a1 mm) fun x1 m2 => if x1 = 0 then (some ((-1), m2)) else (gd (inb a1 (ln (fr a0 8))) <| if (0 : Int32) ≤ (rd m2 (fr a0 8) a1.toNatClampNeg) then (some (0, m2)) else (bd2 (fX12_meet N a0 1 m2) fun x7 m8 => some (x7, m8)))
abbrev rmX12_askedText : Room := { frames := 3, cells := 0, slots := 0, locals := 98 }
/-! HeavyFilesModel.rowAt(II)I -/
def fX12_rowAt (N : Nat)  (a0 : Nat) (a1 : Int32) (a2 : Int32) (mm : Mm) : Option (Int32 × Mm) :=
  gd (inb ((40 * a1) + a2) (ln (fr a0 6))) <| some (rd mm (fr a0 6) (((40 * a1) + a2).toNatClampNeg), mm)
abbrev rmX12_rowAt : Room := { frames := 1, cells := 0, slots := 0, locals := 40 }
/-! HeavyFilesModel.setRow(III)V -/
def fX12_setRow (N : Nat)  (a0 : Nat) (a1 : Int32) (a2 : Int32) (a3 : Int32) (mm : Mm) : Option (Unit × Mm) :=
  gd (inb ((40 * a1) + a2) (ln (fr a0 6))) <| nm (wr mm (fr a0 6) ((40 * a1) + a2).toNatClampNeg a3) fun m2 => some ((), m2)
abbrev rmX12_setRow : Room := { frames := 1, cells := 0, slots := 0, locals := 40 }
/-! HeavyFilesModel.row(II)I -/
def fX12_row_34 (N : Nat)  : Nat → Nat → Int32 → Int32 → Int32 → Mm → Option (Int32 × Mm)
  | 0 => fun _ _ _ _ _ => none
  | n + 1 => fun a0 a1 a2 a3 mm =>
    let k34 := fX12_row_34 N  n
    if (40 : Int32) ≤ a3 then (some (a2, mm)) else (bd2 (fX12_setRow N a0 a1 a3 0 mm) fun x2 m3 => k34 a0 a1 a2 (a3 + 1) m3)
def fX12_row (N : Nat)  (a0 : Nat) (a1 : Int32) (a2 : Int32) (mm : Mm) : Option (Int32 × Mm) :=
  bd2 (fX12_isRow N a1 mm) fun x5 m6 => if x5 = 0 then (some ((-1), m6)) else (if a2 ≤ 40 then (if (0 : Int32) ≤ a2 then (gd (inb a1 (ln (fr a0 5))) <| nm (wr m6 (fr a0 5) a1.toNatClampNeg a2) fun m12 => fX12_row_34 N N a0 a1 a2 0 m12) else (bd2 (fX12_meet N a0 5 m6) fun x13 m14 => some (x13, m14))) else (some ((-1), m6)))
abbrev rmX12_row : Room := { frames := 3, cells := 0, slots := 0, locals := 98 }
/-! HeavyFilesModel.at(II)I -/
def fX12_at (N : Nat)  (a0 : Nat) (a1 : Int32) (a2 : Int32) (mm : Mm) : Option (Int32 × Mm) :=
  bd2 (fX12_askedRow N a0 a1 mm) fun x1 m2 => if (0 : Int32) ≤ x1 then (gd (inb a1 (ln (fr a0 5))) <| bd2 (fX12_in N a2 0 ((rd m2 (fr a0 5) a1.toNatClampNeg) - 1) m2) fun x6 m7 => if x6 = 0 then (bd2 (fX12_meet N a0 2 m7) fun x10 m11 => some (x10, m11)) else (bd2 (fX12_rowAt N a0 a1 a2 m7) fun x13 m14 => bd2 (fX12_ask N a0 x13 1 m14) fun x16 m17 => some (x16, m17))) else (some (x1, m2))
abbrev rmX12_at : Room := { frames := 4, cells := 0, slots := 0, locals := 127 }
/-! HeavyFilesModel.lay(III)I -/
def fX12_lay (N : Nat)  (a0 : Nat) (a1 : Int32) (a2 : Int32) (a3 : Int32) (mm : Mm) : Option (Int32 × Mm) :=
  bd2 (fX12_at N a0 a1 a2 mm) fun x1 m2 => if (0 : Int32) ≤ x1 then (bd2 (fX12_setRow N a0 a1 a2 a3 m2) fun x5 m6 => some (1, m6)) else (some (x1, m2))
abbrev rmX12_lay : Room := { frames := 5, cells := 0, slots := 0, locals := 158 }
/-! HeavyFilesModel.tear(I)I -/
def fX12_tear (N : Nat)  (a0 : Nat) (a1 : Int32) (mm : Mm) : Option (Int32 × Mm) :=
  bd2 (fX12_askedRow N a0 a1 mm) fun x1 m2 => if (0 : Int32) ≤ x1 then (gd (inb a1 (ln (fr a0 5))) <| nm (wr m2 (fr a0 5) a1.toNatClampNeg (-9)) fun m6 => some (1, m6)) else (some (x1, m2))
abbrev rmX12_tear : Room := { frames := 4, cells := 0, slots := 0, locals := 127 }
/-! HeavyFilesModel.copy(IIIII)I -/
def fX12_copy_136 (N : Nat)  : Nat → Nat → Int32 → Int32 → Int32 → Int32 → Mm → Option (Int32 × Mm)
  | 0 => fun _ _ _ _ _ _ => none
  | n + 1 => fun a0 a3 a4 a5 a6 mm =>
    let k136 := fX12_copy_136 N  n
    if a5 ≤ a6 then (some (1, mm)) else (gd (inb a6 (ln (fr a0 7))) <| bd2 (fX12_setRow N a0 a3 (a4 + a6) (rd mm (fr a0 7) a6.toNatClampNeg) mm) fun x3 m4 => k136 a0 a3 a4 a5 (a6 + 1) m4)
def fX12_copy_104 (N : Nat)  : Nat → Nat → Int32 → Int32 → Int32 → Int32 → Int32 → Int32 → Mm → Option (Int32 × Mm)
  | 0 => fun _ _ _ _ _ _ _ _ => none
  | n + 1 => fun a0 a1 a2 a3 a4 a5 a6 mm =>
    let k104 := fX12_copy_104 N  n
    if a5 ≤ a6 then (fX12_copy_136 N N a0 a3 a4 a5 0 mm) else (bd2 (fX12_rowAt N a0 a1 (a2 + a6) mm) fun x7 m8 => gd (inb a6 (ln (fr a0 7))) <| nm (wr m8 (fr a0 7) a6.toNatClampNeg x7) fun m11 => k104 a0 a1 a2 a3 a4 a5 (a6 + 1) m11)
def fX12_copy_95 (N : Nat)  (a0 : Nat) (mm : Mm) : Option (Int32 × Mm) :=
  bd2 (fX12_meet N a0 2 mm) fun x12 m13 => some (x12, m13)
def fX12_copy_45 (N : Nat)  (a0 : Nat) (mm : Mm) : Option (Int32 × Mm) :=
  bd2 (fX12_meet N a0 1 mm) fun x15 m16 => some (x15, m16)
def fX12_copy (N : Nat)  (a0 : Nat) (a1 : Int32) (a2 : Int32) (a3 : Int32) (a4 : Int32) (a5 : Int32) (mm : Mm) : Option (Int32 × Mm) :=
  bd2 (fX12_isRow N a1 mm) fun x18 m19 => if x18 = 0 then (some ((-1), m19)) else (bd2 (fX12_isRow N a3 m19) fun x22 m23 => if x22 = 0 then (some ((-1), m23)) else (if (0 : Int32) ≤ a5 then (gd (inb a1 (ln (fr a0 5))) <| if (rd m23 (fr a0 5) a1.toNatClampNeg) < 0 then (fX12_copy_45 N a0 m23) else (gd (inb a3 (ln (fr a0 5))) <| if (0 : Int32) ≤ (rd m23 (fr a0 5) a3.toNatClampNeg) then (if a2 < 0 then (fX12_copy_95 N a0 m23) else (if a4 < 0 then (fX12_copy_95 N a0 m23) else (gd (inb a1 (ln (fr a0 5))) <| if (0 : Int32) < (lg_cmp (a2.toInt64 + a5.toInt64) ((rd m23 (fr a0 5) a1.toNatClampNeg).toInt64)) then (fX12_copy_95 N a0 m23) else (gd (inb a3 (ln (fr a0 5))) <| if (lg_cmp (a4.toInt64 + a5.toInt64) ((rd m23 (fr a0 5) a3.toNatClampNeg).toInt64)) ≤ 0 then (fX12_copy_104 N N a0 a1 a2 a3 a4 a5 0 m23) else (fX12_copy_95 N a0 m23))))) else (fX12_copy_45 N a0 m23))) else (bd2 (fX12_meet N a0 5 m23) fun x37 m38 => some (x37, m38))))
abbrev rmX12_copy : Room := { frames := 3, cells := 0, slots := 0, locals := 98 }
/-! HeavyFilesModel.mean(I)I -/
def fX12_mean_17 (N : Nat)  : Nat → Nat → Int32 → Int64 → Int32 → Mm → Option (Int32 × Mm)
  | 0 => fun _ _ _ _ _ => none
  | n + 1 => fun a0 a1 a3 a5 mm =>
    let k17 := fX12_mean_17 N  n
    gd (inb a1 (ln (fr a0 5))) <| if (rd mm (fr a0 5) a1.toNatClampNeg) ≤ a5 then (gd (inb a1 (ln (fr a0 5))) <| if (rd mm (fr a0 5) a1.toNatClampNeg) = 0 then (bd2 (fX12_meet N a0 4 mm) fun x10 m11 => some (x10, m11)) else (gd (inb a1 (ln (fr a0 5))) <| gd (nzL ((rd mm (fr a0 5) a1.toNatClampNeg).toInt64)) <| bd2 (fX12_ask N a0 ((a3 / ((rd mm (fr a0 5) a1.toNatClampNeg).toInt64)).toInt32) 1 mm) fun x7 m8 => some (x7, m8))) else (bd2 (fX12_rowAt N a0 a1 a5 mm) fun x13 m14 => k17 a0 a1 (a3 + x13.toInt64) (a5 + 1) m14)
def fX12_mean (N : Nat)  (a0 : Nat) (a1 : Int32) (mm : Mm) : Option (Int32 × Mm) :=
  bd2 (fX12_askedRow N a0 a1 mm) fun x16 m17 => if (0 : Int32) ≤ x16 then (fX12_mean_17 N N a0 a1 0 0 m17) else (some (x16, m17))
abbrev rmX12_mean : Room := { frames := 4, cells := 0, slots := 0, locals := 127 }
/-! HeavyFilesModel.text(II)I -/
def fX12_text_34 (N : Nat)  : Nat → Nat → Int32 → Int32 → Int32 → Mm → Option (Int32 × Mm)
  | 0 => fun _ _ _ _ _ => none
  | n + 1 => fun a0 a1 a2 a3 mm =>
    let k34 := fX12_text_34 N  n
    if (80 : Int32) ≤ a3 then (some (a2, mm)) else (gd (inb ((80 * a1) + a3) (ln (fr a0 9))) <| nm (wr mm (fr a0 9) ((80 * a1) + a3).toNatClampNeg 32) fun m3 => k34 a0 a1 a2 (a3 + 1) m3)
def fX12_text (N : Nat)  (a0 : Nat) (a1 : Int32) (a2 : Int32) (mm : Mm) : Option (Int32 × Mm) :=
  bd2 (fX12_isText N a1 mm) fun x4 m5 => if x4 = 0 then (some ((-1), m5)) else (if a2 ≤ 80 then (if (0 : Int32) ≤ a2 then (gd (inb a1 (ln (fr a0 8))) <| nm (wr m5 (fr a0 8) a1.toNatClampNeg a2) fun m11 => fX12_text_34 N N a0 a1 a2 0 m11) else (bd2 (fX12_meet N a0 5 m5) fun x12 m13 => some (x12, m13))) else (some ((-1), m5)))
abbrev rmX12_text : Room := { frames := 3, cells := 0, slots := 0, locals := 98 }
/-! HeavyFilesModel.put(III)I -/
def fX12_put (N : Nat)  (a0 : Nat) (a1 : Int32) (a2 : Int32) (a3 : Int32) (mm : Mm) : Option (Int32 × Mm) :=
  bd2 (fX12_askedText N a0 a1 mm) fun x1 m2 => if (0 : Int32) ≤ x1 then (gd (inb a1 (ln (fr a0 8))) <| bd2 (fX12_in N a2 0 ((rd m2 (fr a0 8) a1.toNatClampNeg) - 1) m2) fun x6 m7 => if x6 = 0 then (bd2 (fX12_meet N a0 2 m7) fun x14 m15 => some (x14, m15)) else (gd (inb ((80 * a1) + a2) (ln (fr a0 9))) <| nm (rd m7 (fr a0 9) (((80 * a1) + a2).toNatClampNeg)) fun x11 => gd (inb ((80 * a1) + a2) (ln (fr a0 9))) <| nm (wr m7 (fr a0 9) ((80 * a1) + a2).toNatClampNeg a3.toInt8.toInt32) fun m13 => some (x11 + 1000, m13))) else (some (x1, m2))
abbrev rmX12_put : Room := { frames := 4, cells := 0, slots := 0, locals := 127 }
section W_model20
variable {p : Program} {l : Launch} {e : Env} {s : State} {m : MethodId} {args : Array Value} {below : List Frame} {meth : Method} {c : Code} {D : va_G} {ca ad : Nat → Nat}
set_option maxRecDepth 100000 in
set_option maxHeartbeats 4000000 in
theorem wX12_in_0 (C : Cx p s m meth c args cX12_in 3 (some .boolean) RX12 D ca ad) {res : Int32 × Mm} {N : Nat}  {a0 : Int32} {a1 : Int32} {a2 : Int32} {mm : Mm} {H : Heap} {locs : List Loc} {ls : Array Slot}  (hW : Wd D ca ad s.heap mm H locs) (hl : lv_has ls 3 [(0, .int a0), (1, .int a1), (2, .int a2)]) (hf : fX12_in N a0 a1 a2 mm = some res) : W p l e (rmX12_in) s m args below meth c H locs 0 0 (MQ below (QI D ca ad res) args s 0 0 (AA ad)) (F0 m 0 ls []) := by
  unfold fX12_in at hf
  refine lv_iload_n C.1 C.2.1 dX12_in_0 rfl (lv_at hl 0 rfl) ?_
  refine lv_iload_n C.1 C.2.1 dX12_in_1 rfl (lv_at hl 1 rfl) ?_
  refine lv_icmp_lt (tgt := 14) C.1 C.2.1 dX12_in_2 (by decide) (fun c1 => ?_) (fun c1 => ?_)
  · have hf := if_t c1 hf
    refine lv_iconst (v := 0) C.1 C.2.1 dX12_in_14 (by decide) ?_
    cases hf
    exact x_zret C hW (by decide) dX12_in_15
  · have hf := if_f c1 hf
    refine lv_iload_n C.1 C.2.1 dX12_in_5 rfl (lv_at hl 0 rfl) ?_
    refine lv_iload_n C.1 C.2.1 dX12_in_6 rfl (lv_at hl 2 rfl) ?_
    refine lv_icmp_gt (tgt := 14) C.1 C.2.1 dX12_in_7 (by decide) (fun c2 => ?_) (fun c2 => ?_)
    · have hf := if_t c2 hf
      refine lv_iconst (v := 0) C.1 C.2.1 dX12_in_14 (by decide) ?_
      cases hf
      exact x_zret C hW (by decide) dX12_in_15
    · have hf := if_f c2 hf
      refine lv_iconst (v := 1) C.1 C.2.1 dX12_in_10 (by decide) ?_
      refine lv_goto (tgt := 15) C.1 C.2.1 dX12_in_11 (by decide) ?_
      cases hf
      exact x_zret C hW (by decide) dX12_in_15
set_option maxRecDepth 100000 in
set_option maxHeartbeats 4000000 in
theorem tX12_in (l : Launch) {D : va_G} {ca ad : Nat → Nat} (hi : Inj ad) {N : Nat} {a0 : Int32} {a1 : Int32} {a2 : Int32} {mm : Mm} {res : Int32 × Mm}  (hf : fX12_in N a0 a1 a2 mm = some res) : Met l yX12_in (WS yX12_in cX12_in 3 (some .boolean)) (rmX12_in) (va_Pc [.int a0, .int a1, .int a2] (WB D ca ad mm)) (QI D ca ad res) 0 0 (AA ad) := by
  refine x_start hi (by decide) rfl (Nat.le_of_ble_eq_true rfl) (fun p e s m args below meth c ls C hW hl => ?_)
  exact wX12_in_0 C  hW (lv_sub hl [0, 1, 2] rfl) hf
set_option maxRecDepth 100000 in
set_option maxHeartbeats 4000000 in
theorem wX12_meet_0 (C : Cx p s m meth c args cX12_meet 2 (some .int) RX12 D ca ad) {res : Int32 × Mm} {N : Nat}  {a0 : Nat} {a1 : Int32} {mm : Mm} {H : Heap} {locs : List Loc} {ls : Array Slot} (ha0 : sX12 a0) (hW : Wd D ca ad s.heap mm H locs) (hl : lv_has ls 2 [(0, .ref (ad a0)), (1, .int a1)]) (hf : fX12_meet N a0 a1 mm = some res) : W p l e (rmX12_meet) s m args below meth c H locs 0 0 (MQ below (QI D ca ad res) args s 0 0 (AA ad)) (F0 m 0 ls []) := by
  unfold fX12_meet at hf
  refine lv_aload_n C.1 C.2.1 dX12_meet_0 rfl (lv_at hl 0 rfl) ?_
  refine lv_iload_n C.1 C.2.1 dX12_meet_1 rfl (lv_at hl 1 rfl) ?_
  refine x_put C hW (ha0).1 (ha0).2.1 (j := 0) (t1 := .int) rfl kX12 (by decide) rfl rfl q_1016 (by decide +kernel) rfl rfl dX12_meet_2 (fun H locs hW => ?_)
  obtain ⟨m1, em1⟩ : ∃ z, z = wr mm a0 0 a1 := ⟨_, rfl⟩
  have hf := nm_s hf em1
  rw [← em1] at hW
  refine lv_aload_n C.1 C.2.1 dX12_meet_5 rfl (lv_at hl 0 rfl) ?_
  refine x_getr C hW (ha0).1 (ha0).2.1 (j := 1) rfl kX12 (by decide) rfl q_1017 dX12_meet_6 ?_
  refine lv_iload_n C.1 C.2.1 dX12_meet_9 rfl (lv_at hl 1 rfl) ?_
  refine lv_dup2_11 C.1 C.2.1 dX12_meet_10 rfl rfl ?_
  obtain ⟨g2, hf⟩ := gd_s hf
  refine x_iald C hW ha0.2.2.1 g2 dX12_meet_11 ?_
  refine lv_iconst (v := 1) C.1 C.2.1 dX12_meet_12 (by decide) ?_
  refine lv_iadd C.1 C.2.1 dX12_meet_13 ?_
  obtain ⟨g3, hf⟩ := gd_s hf
  refine x_iast C hW ha0.2.2.1 g3 dX12_meet_14 (fun H locs hW => ?_)
  obtain ⟨m4, em4⟩ : ∃ z, z = wr m1 (fr a0 1) a1.toNatClampNeg ((rd m1 (fr a0 1) a1.toNatClampNeg) + 1) := ⟨_, rfl⟩
  have hf := nm_s hf em4
  rw [← em4] at hW
  refine lv_bipush (v := (-3)) C.1 C.2.1 dX12_meet_15 (by decide) ?_
  cases hf
  exact x_iret C hW dX12_meet_17
set_option maxRecDepth 100000 in
set_option maxHeartbeats 4000000 in
theorem tX12_meet (l : Launch) {D : va_G} {ca ad : Nat → Nat} (hi : Inj ad) {N : Nat} {a0 : Nat} {a1 : Int32} {mm : Mm} {res : Int32 × Mm} (ha0 : sX12 a0) (hf : fX12_meet N a0 a1 mm = some res) : Met l yX12_meet (WS yX12_meet cX12_meet 2 (some .int)) (rmX12_meet) (va_Pc [.ref (ad a0), .int a1] (WB D ca ad mm)) (QI D ca ad res) 0 0 (AA ad) := by
  refine x_start hi (by decide) rfl (Nat.le_of_ble_eq_true rfl) (fun p e s m args below meth c ls C hW hl => ?_)
  exact wX12_meet_0 C ha0 hW (lv_sub hl [0, 1] rfl) hf
set_option maxRecDepth 100000 in
set_option maxHeartbeats 4000000 in
theorem wX12_ask_0 (C : Cx p s m meth c args cX12_ask 3 (some .int) RX12 D ca ad) {res : Int32 × Mm} {N : Nat}  {a0 : Nat} {a1 : Int32} {a2 : Int32} {mm : Mm} {H : Heap} {locs : List Loc} {ls : Array Slot} (ha0 : sX12 a0) (hW : Wd D ca ad s.heap mm H locs) (hl : lv_has ls 3 [(0, .ref (ad a0)), (1, .int a1), (2, .int a2)]) (hf : fX12_ask N a0 a1 a2 mm = some res) : W p l e (rmX12_ask) s m args below meth c H locs 0 0 (MQ below (QI D ca ad res) args s 0 0 (AA ad)) (F0 m 0 ls []) := by
  unfold fX12_ask at hf
  refine lv_aload_n C.1 C.2.1 dX12_ask_0 rfl (lv_at hl 0 rfl) ?_
  refine lv_iload_n C.1 C.2.1 dX12_ask_1 rfl (lv_at hl 1 rfl) ?_
  refine x_put C hW (ha0).1 (ha0).2.1 (j := 2) (t1 := .int) rfl kX12 (by decide) rfl rfl q_1018 (by decide +kernel) rfl rfl dX12_ask_2 (fun H locs hW => ?_)
  obtain ⟨m1, em1⟩ : ∃ z, z = wr mm a0 2 a1 := ⟨_, rfl⟩
  have hf := nm_s hf em1
  rw [← em1] at hW
  refine lv_iload_n C.1 C.2.1 dX12_ask_5 rfl (lv_at hl 2 rfl) ?_
  cases hf
  exact x_iret C hW dX12_ask_6
set_option maxRecDepth 100000 in
set_option maxHeartbeats 4000000 in
theorem tX12_ask (l : Launch) {D : va_G} {ca ad : Nat → Nat} (hi : Inj ad) {N : Nat} {a0 : Nat} {a1 : Int32} {a2 : Int32} {mm : Mm} {res : Int32 × Mm} (ha0 : sX12 a0) (hf : fX12_ask N a0 a1 a2 mm = some res) : Met l yX12_ask (WS yX12_ask cX12_ask 3 (some .int)) (rmX12_ask) (va_Pc [.ref (ad a0), .int a1, .int a2] (WB D ca ad mm)) (QI D ca ad res) 0 0 (AA ad) := by
  refine x_start hi (by decide) rfl (Nat.le_of_ble_eq_true rfl) (fun p e s m args below meth c ls C hW hl => ?_)
  exact wX12_ask_0 C ha0 hW (lv_sub hl [0, 1, 2] rfl) hf
set_option maxRecDepth 100000 in
set_option maxHeartbeats 4000000 in
theorem wX12_part_46 (C : Cx p s m meth c args cX12_part 12 (some .int) RX12 D ca ad) {res : Int32 × Mm} {N : Nat}  {a0 : Nat} {a1 : Int64} {a3 : Int64} {a5 : Int32} {s0 : Int64} {mm : Mm} {H : Heap} {locs : List Loc} {ls : Array Slot} (ha0 : sX12 a0) (hW : Wd D ca ad s.heap mm H locs) (hl : lv_has ls 12 [(0, .ref (ad a0)), (1, .long a1), (3, .long a3), (5, .int a5)]) (hf : fX12_part_46 N a0 a1 a3 a5 s0 mm = some res) : W p l e (rmX12_part) s m args below meth c H locs 0 0 (MQ below (QI D ca ad res) args s 0 0 (AA ad)) (F0 m 46 ls [.long s0]) := by
  unfold fX12_part_46 at hf
  refine lv_lstore (lv' := [(6, .long s0), (0, .ref (ad a0)), (1, .long a1), (3, .long a3), (5, .int a5)]) C.1 C.2.1 dX12_part_46 hl (by decide) rfl (fun ls hl => ?_)
  refine lv_aload_n C.1 C.2.1 dX12_part_48 rfl (lv_at hl 1 rfl) ?_
  refine lv_lload_n C.1 C.2.1 dX12_part_49 rfl (lv_at hl 2 rfl) ?_
  refine lv_lload C.1 C.2.1 dX12_part_50 (lv_at hl 0 rfl) ?_
  obtain ⟨g1, hf⟩ := gd_s hf
  refine lv_ldiv C.1 C.2.1 dX12_part_52 (of_decide_eq_true g1) ?_
  refine x_putL C hW (ha0).1 (ha0).2.1 (j := 3) rfl kX12 (by decide) rfl rfl q_1019 (by decide +kernel) dX12_part_53 (fun H locs hW => ?_)
  obtain ⟨m2, em2⟩ : ∃ z, z = wrL mm a0 3 (a1 / s0) := ⟨_, rfl⟩
  have hf := nm_s hf em2
  rw [← em2] at hW
  refine lv_aload_n C.1 C.2.1 dX12_part_56 rfl (lv_at hl 1 rfl) ?_
  refine lv_lload_n C.1 C.2.1 dX12_part_57 rfl (lv_at hl 3 rfl) ?_
  refine lv_lload C.1 C.2.1 dX12_part_58 (lv_at hl 0 rfl) ?_
  obtain ⟨g3, hf⟩ := gd_s hf
  refine lv_ldiv C.1 C.2.1 dX12_part_60 (of_decide_eq_true g3) ?_
  refine x_putL C hW (ha0).1 (ha0).2.1 (j := 4) rfl kX12 (by decide) rfl rfl q_1020 (by decide +kernel) dX12_part_61 (fun H locs hW => ?_)
  obtain ⟨m4, em4⟩ : ∃ z, z = wrL m2 a0 4 (a3 / s0) := ⟨_, rfl⟩
  have hf := nm_s hf em4
  rw [← em4] at hW
  refine lv_iload C.1 C.2.1 dX12_part_64 (lv_at hl 4 rfl) ?_
  cases hf
  exact x_iret C hW dX12_part_66
set_option maxRecDepth 100000 in
set_option maxHeartbeats 4000000 in
theorem wX12_part_6 (C : Cx p s m meth c args cX12_part 12 (some .int) RX12 D ca ad) {res : Int32 × Mm} {N : Nat}  : ∀ (n : Nat) {a0 : Nat} {a1 : Int64} {a3 : Int64} {a5 : Int32} {a6 : Int64} {a8 : Int64} {mm : Mm} {H : Heap} {locs : List Loc} {ls : Array Slot}, (sX12 a0) → Wd D ca ad s.heap mm H locs → lv_has ls 12 [(0, .ref (ad a0)), (1, .long a1), (3, .long a3), (5, .int a5), (6, .long a6), (8, .long a8)] → fX12_part_6 N n a0 a1 a3 a5 a6 a8 mm = some res → W p l e (rmX12_part) s m args below meth c H locs 0 0 (MQ below (QI D ca ad res) args s 0 0 (AA ad)) (F0 m 6 ls []) := by
  intro n
  induction n with
  | zero => intro a0 a1 a3 a5 a6 a8 mm H locs ls ha0 hW hl hf; cases hf
  | succ n ih =>
    intro a0 a1 a3 a5 a6 a8 mm H locs ls ha0 hW hl hf
    have hk6 : ∀ (a0 : Nat) (a1 : Int64) (a3 : Int64) (a5 : Int32) (a6 : Int64) (a8 : Int64) (mm : Mm) (H : Heap) (locs : List Loc) (ls : Array Slot), (sX12 a0) → Wd D ca ad s.heap mm H locs → lv_has ls 12 [(0, .ref (ad a0)), (1, .long a1), (3, .long a3), (5, .int a5), (6, .long a6), (8, .long a8)] → (fX12_part_6 N n) a0 a1 a3 a5 a6 a8 mm = some res → W p l e (rmX12_part) s m args below meth c H locs 0 0 (MQ below (QI D ca ad res) args s 0 0 (AA ad)) (F0 m 6 ls []) := fun a0 a1 a3 a5 a6 a8 mm H locs ls ha0 hW hl hf => ih ha0 hW hl hf
    unfold fX12_part_6 at hf
    try dsimp only at hf
    refine lv_lload C.1 C.2.1 dX12_part_6 (lv_at hl 5 rfl) ?_
    refine lv_lconst (v := 0) C.1 C.2.1 dX12_part_8 (by decide) ?_
    refine W.lcmp C.1 C.2.1 dX12_part_9 ?_
    refine lv_if_eq (tgt := 31) C.1 C.2.1 dX12_part_10 (by decide) (fun c5 => ?_) (fun c5 => ?_)
    · have hf := if_t c5 hf
      refine lv_lload C.1 C.2.1 dX12_part_31 (lv_at hl 4 rfl) ?_
      refine lv_lconst (v := 0) C.1 C.2.1 dX12_part_33 (by decide) ?_
      refine W.lcmp C.1 C.2.1 dX12_part_34 ?_
      refine lv_if_ge (tgt := 44) C.1 C.2.1 dX12_part_35 (by decide) (fun c6 => ?_) (fun c6 => ?_)
      · have hf := if_t c6 hf
        refine lv_lload C.1 C.2.1 dX12_part_44 (lv_at hl 4 rfl) ?_
        exact wX12_part_46 C  ha0 hW (lv_sub hl [0, 1, 2, 3] rfl) hf
      · have hf := if_f c6 hf
        refine lv_lload C.1 C.2.1 dX12_part_38 (lv_at hl 4 rfl) ?_
        refine lv_lneg C.1 C.2.1 dX12_part_40 ?_
        refine lv_goto (tgt := 46) C.1 C.2.1 dX12_part_41 (by decide) ?_
        exact wX12_part_46 C  ha0 hW (lv_sub hl [0, 1, 2, 3] rfl) hf
    · have hf := if_f c5 hf
      refine lv_lload C.1 C.2.1 dX12_part_13 (lv_at hl 4 rfl) ?_
      refine lv_lload C.1 C.2.1 dX12_part_15 (lv_at hl 5 rfl) ?_
      obtain ⟨g7, hf⟩ := gd_s hf
      refine lv_lrem C.1 C.2.1 dX12_part_17 (of_decide_eq_true g7) ?_
      refine lv_lstore (lv' := [(10, .long (a6 - a6 / a8 * a8)), (0, .ref (ad a0)), (1, .long a1), (3, .long a3), (5, .int a5), (6, .long a6), (8, .long a8)]) C.1 C.2.1 dX12_part_18 hl (by decide) rfl (fun ls hl => ?_)
      refine lv_lload C.1 C.2.1 dX12_part_20 (lv_at hl 6 rfl) ?_
      refine lv_lstore (lv' := [(6, .long a8), (10, .long (a6 - a6 / a8 * a8)), (0, .ref (ad a0)), (1, .long a1), (3, .long a3), (5, .int a5), (8, .long a8)]) C.1 C.2.1 dX12_part_22 hl (by decide) rfl (fun ls hl => ?_)
      refine lv_lload C.1 C.2.1 dX12_part_24 (lv_at hl 1 rfl) ?_
      refine lv_lstore (lv' := [(8, .long (a6 - a6 / a8 * a8)), (6, .long a8), (10, .long (a6 - a6 / a8 * a8)), (0, .ref (ad a0)), (1, .long a1), (3, .long a3), (5, .int a5)]) C.1 C.2.1 dX12_part_26 hl (by decide) rfl (fun ls hl => ?_)
      refine lv_goto (tgt := 6) C.1 C.2.1 dX12_part_28 (by decide) ?_
      exact hk6 _ _ _ _ _ _ _ _ _ _ ha0 hW (lv_sub hl [3, 4, 5, 6, 1, 0] rfl) hf
set_option maxRecDepth 100000 in
set_option maxHeartbeats 4000000 in
theorem wX12_part_0 (C : Cx p s m meth c args cX12_part 12 (some .int) RX12 D ca ad) {res : Int32 × Mm} {N : Nat}  {a0 : Nat} {a1 : Int64} {a3 : Int64} {a5 : Int32} {mm : Mm} {H : Heap} {locs : List Loc} {ls : Array Slot} (ha0 : sX12 a0) (hW : Wd D ca ad s.heap mm H locs) (hl : lv_has ls 12 [(0, .ref (ad a0)), (1, .long a1), (3, .long a3), (5, .int a5)]) (hf : fX12_part N a0 a1 a3 a5 mm = some res) : W p l e (rmX12_part) s m args below meth c H locs 0 0 (MQ below (QI D ca ad res) args s 0 0 (AA ad)) (F0 m 0 ls []) := by
  unfold fX12_part at hf
  refine lv_lload_n C.1 C.2.1 dX12_part_0 rfl (lv_at hl 1 rfl) ?_
  refine lv_lstore (lv' := [(6, .long a1), (0, .ref (ad a0)), (1, .long a1), (3, .long a3), (5, .int a5)]) C.1 C.2.1 dX12_part_1 hl (by decide) rfl (fun ls hl => ?_)
  refine lv_lload_n C.1 C.2.1 dX12_part_3 rfl (lv_at hl 3 rfl) ?_
  refine lv_lstore (lv' := [(8, .long a3), (6, .long a1), (0, .ref (ad a0)), (1, .long a1), (3, .long a3), (5, .int a5)]) C.1 C.2.1 dX12_part_4 hl (by decide) rfl (fun ls hl => ?_)
  exact wX12_part_6 C  N ha0 hW (lv_sub hl [2, 3, 4, 5, 1, 0] rfl) hf
set_option maxRecDepth 100000 in
set_option maxHeartbeats 4000000 in
theorem tX12_part (l : Launch) {D : va_G} {ca ad : Nat → Nat} (hi : Inj ad) {N : Nat} {a0 : Nat} {a1 : Int64} {a3 : Int64} {a5 : Int32} {mm : Mm} {res : Int32 × Mm} (ha0 : sX12 a0) (hf : fX12_part N a0 a1 a3 a5 mm = some res) : Met l yX12_part (WS yX12_part cX12_part 12 (some .int)) (rmX12_part) (va_Pc [.ref (ad a0), .long a1, .long a3, .int a5] (WB D ca ad mm)) (QI D ca ad res) 0 0 (AA ad) := by
  refine x_start hi (by decide) rfl (Nat.le_of_ble_eq_true rfl) (fun p e s m args below meth c ls C hW hl => ?_)
  exact wX12_part_0 C ha0 hW (lv_sub hl [0, 1, 2, 3] rfl) hf
set_option maxRecDepth 100000 in
set_option maxHeartbeats 4000000 in
theorem wX12_isRow_0 (C : Cx p s m meth c args cX12_isRow 1 (some .boolean) RX12 D ca ad) {res : Int32 × Mm} {N : Nat}  {a0 : Int32} {mm : Mm} {H : Heap} {locs : List Loc} {ls : Array Slot}  (hW : Wd D ca ad s.heap mm H locs) (hl : lv_has ls 1 [(0, .int a0)]) (hf : fX12_isRow N a0 mm = some res) : W p l e (rmX12_isRow) s m args below meth c H locs 0 0 (MQ below (QI D ca ad res) args s 0 0 (AA ad)) (F0 m 0 ls []) := by
  unfold fX12_isRow at hf
  refine lv_iload_n C.1 C.2.1 dX12_isRow_0 rfl (lv_at hl 0 rfl) ?_
  refine lv_iconst (v := 0) C.1 C.2.1 dX12_isRow_1 (by decide) ?_
  refine lv_iconst (v := 5) C.1 C.2.1 dX12_isRow_2 (by decide) ?_
  obtain ⟨x1, m2, r3, hf⟩ := bd2_s hf
  refine x_ci hW (x_runS C hW [.int a0, .int 0, .int 5] [] kvX12_in q_1150 (tX12_in l C.2.2.2.2.2.2.1  r3) rfl rfl ⟨by decide, by decide⟩ rfl hl.1 rfl (Nat.le_of_ble_eq_true rfl) dX12_isRow_3) (fun H locs hW => ?_)
  obtain ⟨g4, hf⟩ := gd_s hf
  cases hf
  exact x_zret C hW (of_decide_eq_true g4) dX12_isRow_6
set_option maxRecDepth 100000 in
set_option maxHeartbeats 4000000 in
theorem tX12_isRow (l : Launch) {D : va_G} {ca ad : Nat → Nat} (hi : Inj ad) {N : Nat} {a0 : Int32} {mm : Mm} {res : Int32 × Mm}  (hf : fX12_isRow N a0 mm = some res) : Met l yX12_isRow (WS yX12_isRow cX12_isRow 1 (some .boolean)) (rmX12_isRow) (va_Pc [.int a0] (WB D ca ad mm)) (QI D ca ad res) 0 0 (AA ad) := by
  refine x_start hi (by decide) rfl (Nat.le_of_ble_eq_true rfl) (fun p e s m args below meth c ls C hW hl => ?_)
  exact wX12_isRow_0 C  hW (lv_sub hl [0] rfl) hf
set_option maxRecDepth 100000 in
set_option maxHeartbeats 4000000 in
theorem wX12_isText_0 (C : Cx p s m meth c args cX12_isText 1 (some .boolean) RX12 D ca ad) {res : Int32 × Mm} {N : Nat}  {a0 : Int32} {mm : Mm} {H : Heap} {locs : List Loc} {ls : Array Slot}  (hW : Wd D ca ad s.heap mm H locs) (hl : lv_has ls 1 [(0, .int a0)]) (hf : fX12_isText N a0 mm = some res) : W p l e (rmX12_isText) s m args below meth c H locs 0 0 (MQ below (QI D ca ad res) args s 0 0 (AA ad)) (F0 m 0 ls []) := by
  unfold fX12_isText at hf
  refine lv_iload_n C.1 C.2.1 dX12_isText_0 rfl (lv_at hl 0 rfl) ?_
  refine lv_iconst (v := 0) C.1 C.2.1 dX12_isText_1 (by decide) ?_
  refine lv_iconst (v := 3) C.1 C.2.1 dX12_isText_2 (by decide) ?_
  obtain ⟨x1, m2, r3, hf⟩ := bd2_s hf
  refine x_ci hW (x_runS C hW [.int a0, .int 0, .int 3] [] kvX12_in q_1150 (tX12_in l C.2.2.2.2.2.2.1  r3) rfl rfl ⟨by decide, by decide⟩ rfl hl.1 rfl (Nat.le_of_ble_eq_true rfl) dX12_isText_3) (fun H locs hW => ?_)
  obtain ⟨g4, hf⟩ := gd_s hf
  cases hf
  exact x_zret C hW (of_decide_eq_true g4) dX12_isText_6
set_option maxRecDepth 100000 in
set_option maxHeartbeats 4000000 in
theorem tX12_isText (l : Launch) {D : va_G} {ca ad : Nat → Nat} (hi : Inj ad) {N : Nat} {a0 : Int32} {mm : Mm} {res : Int32 × Mm}  (hf : fX12_isText N a0 mm = some res) : Met l yX12_isText (WS yX12_isText cX12_isText 1 (some .boolean)) (rmX12_isText) (va_Pc [.int a0] (WB D ca ad mm)) (QI D ca ad res) 0 0 (AA ad) := by
  refine x_start hi (by decide) rfl (Nat.le_of_ble_eq_true rfl) (fun p e s m args below meth c ls C hW hl => ?_)
  exact wX12_isText_0 C  hW (lv_sub hl [0] rfl) hf
set_option maxRecDepth 100000 in
set_option maxHeartbeats 4000000 in
theorem wX12_askedRow_0 (C : Cx p s m meth c args cX12_askedRow 2 (some .int) RX12 D ca ad) {res : Int32 × Mm} {N : Nat}  {a0 : Nat} {a1 : Int32} {mm : Mm} {H : Heap} {locs : List Loc} {ls : Array Slot} (ha0 : sX12 a0) (hW : Wd D ca ad s.heap mm H locs) (hl : lv_has ls 2 [(0, .ref (ad a0)), (1, .int a1)]) (hf : fX12_askedRow N a0 a1 mm = some res) : W p l e (rmX12_askedRow) s m args below meth c H locs 0 0 (MQ below (QI D ca ad res) args s 0 0 (AA ad)) (F0 m 0 ls []) := by
  unfold fX12_askedRow at hf
  refine lv_iload_n C.1 C.2.1 dX12_askedRow_0 rfl (lv_at hl 1 rfl) ?_
  obtain ⟨x1, m2, r3, hf⟩ := bd2_s hf
  refine x_ci hW (x_runS C hW [.int a1] [] kvX12_isRow q_1147 (tX12_isRow l C.2.2.2.2.2.2.1  r3) rfl rfl ⟨by decide, by decide⟩ rfl hl.1 rfl (Nat.le_of_ble_eq_true rfl) dX12_askedRow_1) (fun H locs hW => ?_)
  refine lv_if_ne (tgt := 11) C.1 C.2.1 dX12_askedRow_4 (by decide) (fun c4 => ?_) (fun c4 => ?_)
  · have hf := if_f c4 hf
    refine lv_aload_n C.1 C.2.1 dX12_askedRow_11 rfl (lv_at hl 0 rfl) ?_
    refine x_getr C hW (ha0).1 (ha0).2.1 (j := 5) rfl kX12 (by decide) rfl q_1021 dX12_askedRow_12 ?_
    refine lv_iload_n C.1 C.2.1 dX12_askedRow_15 rfl (lv_at hl 1 rfl) ?_
    obtain ⟨g5, hf⟩ := gd_s hf
    refine x_iald C hW ha0.2.2.2.1 g5 dX12_askedRow_16 ?_
    refine lv_if_ge (tgt := 28) C.1 C.2.1 dX12_askedRow_17 (by decide) (fun c6 => ?_) (fun c6 => ?_)
    · have hf := if_t c6 hf
      refine lv_iconst (v := 0) C.1 C.2.1 dX12_askedRow_28 (by decide) ?_
      cases hf
      exact x_iret C hW dX12_askedRow_29
    · have hf := if_f c6 hf
      refine lv_aload_n C.1 C.2.1 dX12_askedRow_20 rfl (lv_at hl 0 rfl) ?_
      refine lv_iconst (v := 1) C.1 C.2.1 dX12_askedRow_21 (by decide) ?_
      obtain ⟨x7, m8, r9, hf⟩ := bd2_s hf
      refine x_ci hW (x_runV C hW [.int 1] [] (ha0).1 (ha0).2.1 kX12.1 kvX12_meet q_1153 (tX12_meet l C.2.2.2.2.2.2.1 ha0 r9) rfl rfl ⟨by decide, by decide⟩ rfl hl.1 rfl (Nat.le_of_ble_eq_true rfl) dX12_askedRow_22) (fun H locs hW => ?_)
      refine lv_goto (tgt := 29) C.1 C.2.1 dX12_askedRow_25 (by decide) ?_
      cases hf
      exact x_iret C hW dX12_askedRow_29
  · have hf := if_t c4 hf
    refine lv_iconst (v := (-1)) C.1 C.2.1 dX12_askedRow_7 (by decide) ?_
    refine lv_goto (tgt := 29) C.1 C.2.1 dX12_askedRow_8 (by decide) ?_
    cases hf
    exact x_iret C hW dX12_askedRow_29
set_option maxRecDepth 100000 in
set_option maxHeartbeats 4000000 in
theorem tX12_askedRow (l : Launch) {D : va_G} {ca ad : Nat → Nat} (hi : Inj ad) {N : Nat} {a0 : Nat} {a1 : Int32} {mm : Mm} {res : Int32 × Mm} (ha0 : sX12 a0) (hf : fX12_askedRow N a0 a1 mm = some res) : Met l yX12_askedRow (WS yX12_askedRow cX12_askedRow 2 (some .int)) (rmX12_askedRow) (va_Pc [.ref (ad a0), .int a1] (WB D ca ad mm)) (QI D ca ad res) 0 0 (AA ad) := by
  refine x_start hi (by decide) rfl (Nat.le_of_ble_eq_true rfl) (fun p e s m args below meth c ls C hW hl => ?_)
  exact wX12_askedRow_0 C ha0 hW (lv_sub hl [0, 1] rfl) hf
set_option maxRecDepth 100000 in
set_option maxHeartbeats 4000000 in
theorem wX12_askedText_0 (C : Cx p s m meth c args cX12_askedText 2 (some .int) RX12 D ca ad) {res : Int32 × Mm} {N : Nat}  {a0 : Nat} {a1 : Int32} {mm : Mm} {H : Heap} {locs : List Loc} {ls : Array Slot} (ha0 : sX12 a0) (hW : Wd D ca ad s.heap mm H locs) (hl : lv_has ls 2 [(0, .ref (ad a0)), (1, .int a1)]) (hf : fX12_askedText N a0 a1 mm = some res) : W p l e (rmX12_askedText) s m args below meth c H locs 0 0 (MQ below (QI D ca ad res) args s 0 0 (AA ad)) (F0 m 0 ls []) := by
  unfold fX12_askedText at hf
  refine lv_iload_n C.1 C.2.1 dX12_askedText_0 rfl (lv_at hl 1 rfl) ?_
  obtain ⟨x1, m2, r3, hf⟩ := bd2_s hf
  refine x_ci hW (x_runS C hW [.int a1] [] kvX12_isText q_1198 (tX12_isText l C.2.2.2.2.2.2.1  r3) rfl rfl ⟨by decide, by decide⟩ rfl hl.1 rfl (Nat.le_of_ble_eq_true rfl) dX12_askedText_1) (fun H locs hW => ?_)
  refine lv_if_ne (tgt := 11) C.1 C.2.1 dX12_askedText_4 (by decide) (fun c4 => ?_) (fun c4 => ?_)
  · have hf := if_f c4 hf
    refine lv_aload_n C.1 C.2.1 dX12_askedText_11 rfl (lv_at hl 0 rfl) ?_
    refine x_getr C hW (ha0).1 (ha0).2.1 (j := 8) rfl kX12 (by decide) rfl q_1024 dX12_askedText_12 ?_
    refine lv_iload_n C.1 C.2.1 dX12_askedText_15 rfl (lv_at hl 1 rfl) ?_
    obtain ⟨g5, hf⟩ := gd_s hf
    refine x_iald C hW ha0.2.2.2.2.2.2.1 g5 dX12_askedText_16 ?_
    refine lv_if_ge (tgt := 28) C.1 C.2.1 dX12_askedText_17 (by decide) (fun c6 => ?_) (fun c6 => ?_)
    · have hf := if_t c6 hf
      refine lv_iconst (v := 0) C.1 C.2.1 dX12_askedText_28 (by decide) ?_
      cases hf
      exact x_iret C hW dX12_askedText_29
    · have hf := if_f c6 hf
      refine lv_aload_n C.1 C.2.1 dX12_askedText_20 rfl (lv_at hl 0 rfl) ?_
      refine lv_iconst (v := 1) C.1 C.2.1 dX12_askedText_21 (by decide) ?_
      obtain ⟨x7, m8, r9, hf⟩ := bd2_s hf
      refine x_ci hW (x_runV C hW [.int 1] [] (ha0).1 (ha0).2.1 kX12.1 kvX12_meet q_1153 (tX12_meet l C.2.2.2.2.2.2.1 ha0 r9) rfl rfl ⟨by decide, by decide⟩ rfl hl.1 rfl (Nat.le_of_ble_eq_true rfl) dX12_askedText_22) (fun H locs hW => ?_)
      refine lv_goto (tgt := 29) C.1 C.2.1 dX12_askedText_25 (by decide) ?_
      cases hf
      exact x_iret C hW dX12_askedText_29
  · have hf := if_t c4 hf
    refine lv_iconst (v := (-1)) C.1 C.2.1 dX12_askedText_7 (by decide) ?_
    refine lv_goto (tgt := 29) C.1 C.2.1 dX12_askedText_8 (by decide) ?_
    cases hf
    exact x_iret C hW dX12_askedText_29
set_option maxRecDepth 100000 in
set_option maxHeartbeats 4000000 in
theorem tX12_askedText (l : Launch) {D : va_G} {ca ad : Nat → Nat} (hi : Inj ad) {N : Nat} {a0 : Nat} {a1 : Int32} {mm : Mm} {res : Int32 × Mm} (ha0 : sX12 a0) (hf : fX12_askedText N a0 a1 mm = some res) : Met l yX12_askedText (WS yX12_askedText cX12_askedText 2 (some .int)) (rmX12_askedText) (va_Pc [.ref (ad a0), .int a1] (WB D ca ad mm)) (QI D ca ad res) 0 0 (AA ad) := by
  refine x_start hi (by decide) rfl (Nat.le_of_ble_eq_true rfl) (fun p e s m args below meth c ls C hW hl => ?_)
  exact wX12_askedText_0 C ha0 hW (lv_sub hl [0, 1] rfl) hf
set_option maxRecDepth 100000 in
set_option maxHeartbeats 4000000 in
theorem wX12_rowAt_0 (C : Cx p s m meth c args cX12_rowAt 3 (some .int) RX12 D ca ad) {res : Int32 × Mm} {N : Nat}  {a0 : Nat} {a1 : Int32} {a2 : Int32} {mm : Mm} {H : Heap} {locs : List Loc} {ls : Array Slot} (ha0 : sX12 a0) (hW : Wd D ca ad s.heap mm H locs) (hl : lv_has ls 3 [(0, .ref (ad a0)), (1, .int a1), (2, .int a2)]) (hf : fX12_rowAt N a0 a1 a2 mm = some res) : W p l e (rmX12_rowAt) s m args below meth c H locs 0 0 (MQ below (QI D ca ad res) args s 0 0 (AA ad)) (F0 m 0 ls []) := by
  unfold fX12_rowAt at hf
  refine lv_aload_n C.1 C.2.1 dX12_rowAt_0 rfl (lv_at hl 0 rfl) ?_
  refine x_getr C hW (ha0).1 (ha0).2.1 (j := 6) rfl kX12 (by decide) rfl q_1022 dX12_rowAt_1 ?_
  refine lv_bipush (v := 40) C.1 C.2.1 dX12_rowAt_4 (by decide) ?_
  refine lv_iload_n C.1 C.2.1 dX12_rowAt_6 rfl (lv_at hl 1 rfl) ?_
  refine lv_imul C.1 C.2.1 dX12_rowAt_7 ?_
  refine lv_iload_n C.1 C.2.1 dX12_rowAt_8 rfl (lv_at hl 2 rfl) ?_
  refine lv_iadd C.1 C.2.1 dX12_rowAt_9 ?_
  obtain ⟨g1, hf⟩ := gd_s hf
  refine x_iald C hW ha0.2.2.2.2.1 g1 dX12_rowAt_10 ?_
  cases hf
  exact x_iret C hW dX12_rowAt_11
set_option maxRecDepth 100000 in
set_option maxHeartbeats 4000000 in
theorem tX12_rowAt (l : Launch) {D : va_G} {ca ad : Nat → Nat} (hi : Inj ad) {N : Nat} {a0 : Nat} {a1 : Int32} {a2 : Int32} {mm : Mm} {res : Int32 × Mm} (ha0 : sX12 a0) (hf : fX12_rowAt N a0 a1 a2 mm = some res) : Met l yX12_rowAt (WS yX12_rowAt cX12_rowAt 3 (some .int)) (rmX12_rowAt) (va_Pc [.ref (ad a0), .int a1, .int a2] (WB D ca ad mm)) (QI D ca ad res) 0 0 (AA ad) := by
  refine x_start hi (by decide) rfl (Nat.le_of_ble_eq_true rfl) (fun p e s m args below meth c ls C hW hl => ?_)
  exact wX12_rowAt_0 C ha0 hW (lv_sub hl [0, 1, 2] rfl) hf
set_option maxRecDepth 100000 in
set_option maxHeartbeats 4000000 in
theorem wX12_setRow_0 (C : Cx p s m meth c args cX12_setRow 4 none RX12 D ca ad) {res : Unit × Mm} {N : Nat}  {a0 : Nat} {a1 : Int32} {a2 : Int32} {a3 : Int32} {mm : Mm} {H : Heap} {locs : List Loc} {ls : Array Slot} (ha0 : sX12 a0) (hW : Wd D ca ad s.heap mm H locs) (hl : lv_has ls 4 [(0, .ref (ad a0)), (1, .int a1), (2, .int a2), (3, .int a3)]) (hf : fX12_setRow N a0 a1 a2 a3 mm = some res) : W p l e (rmX12_setRow) s m args below meth c H locs 0 0 (MQ below (QV D ca ad res) args s 0 0 (AA ad)) (F0 m 0 ls []) := by
  unfold fX12_setRow at hf
  refine lv_aload_n C.1 C.2.1 dX12_setRow_0 rfl (lv_at hl 0 rfl) ?_
  refine x_getr C hW (ha0).1 (ha0).2.1 (j := 6) rfl kX12 (by decide) rfl q_1022 dX12_setRow_1 ?_
  refine lv_bipush (v := 40) C.1 C.2.1 dX12_setRow_4 (by decide) ?_
  refine lv_iload_n C.1 C.2.1 dX12_setRow_6 rfl (lv_at hl 1 rfl) ?_
  refine lv_imul C.1 C.2.1 dX12_setRow_7 ?_
  refine lv_iload_n C.1 C.2.1 dX12_setRow_8 rfl (lv_at hl 2 rfl) ?_
  refine lv_iadd C.1 C.2.1 dX12_setRow_9 ?_
  refine lv_iload_n C.1 C.2.1 dX12_setRow_10 rfl (lv_at hl 3 rfl) ?_
  obtain ⟨g1, hf⟩ := gd_s hf
  refine x_iast C hW ha0.2.2.2.2.1 g1 dX12_setRow_11 (fun H locs hW => ?_)
  obtain ⟨m2, em2⟩ : ∃ z, z = wr mm (fr a0 6) ((40 * a1) + a2).toNatClampNeg a3 := ⟨_, rfl⟩
  have hf := nm_s hf em2
  rw [← em2] at hW
  cases hf
  exact x_vret C hW dX12_setRow_12
set_option maxRecDepth 100000 in
set_option maxHeartbeats 4000000 in
theorem tX12_setRow (l : Launch) {D : va_G} {ca ad : Nat → Nat} (hi : Inj ad) {N : Nat} {a0 : Nat} {a1 : Int32} {a2 : Int32} {a3 : Int32} {mm : Mm} {res : Unit × Mm} (ha0 : sX12 a0) (hf : fX12_setRow N a0 a1 a2 a3 mm = some res) : Met l yX12_setRow (WS yX12_setRow cX12_setRow 4 none) (rmX12_setRow) (va_Pc [.ref (ad a0), .int a1, .int a2, .int a3] (WB D ca ad mm)) (QV D ca ad res) 0 0 (AA ad) := by
  refine x_start hi (by decide) rfl (Nat.le_of_ble_eq_true rfl) (fun p e s m args below meth c ls C hW hl => ?_)
  exact wX12_setRow_0 C ha0 hW (lv_sub hl [0, 1, 2, 3] rfl) hf
set_option maxRecDepth 100000 in
set_option maxHeartbeats 4000000 in
theorem wX12_row_34 (C : Cx p s m meth c args cX12_row 4 (some .int) RX12 D ca ad) {res : Int32 × Mm} {N : Nat}  : ∀ (n : Nat) {a0 : Nat} {a1 : Int32} {a2 : Int32} {a3 : Int32} {mm : Mm} {H : Heap} {locs : List Loc} {ls : Array Slot}, (sX12 a0) → Wd D ca ad s.heap mm H locs → lv_has ls 4 [(0, .ref (ad a0)), (1, .int a1), (2, .int a2), (3, .int a3)] → fX12_row_34 N n a0 a1 a2 a3 mm = some res → W p l e (rmX12_row) s m args below meth c H locs 0 0 (MQ below (QI D ca ad res) args s 0 0 (AA ad)) (F0 m 34 ls []) := by
  intro n
  induction n with
  | zero => intro a0 a1 a2 a3 mm H locs ls ha0 hW hl hf; cases hf
  | succ n ih =>
    intro a0 a1 a2 a3 mm H locs ls ha0 hW hl hf
    have hk34 : ∀ (a0 : Nat) (a1 : Int32) (a2 : Int32) (a3 : Int32) (mm : Mm) (H : Heap) (locs : List Loc) (ls : Array Slot), (sX12 a0) → Wd D ca ad s.heap mm H locs → lv_has ls 4 [(0, .ref (ad a0)), (1, .int a1), (2, .int a2), (3, .int a3)] → (fX12_row_34 N n) a0 a1 a2 a3 mm = some res → W p l e (rmX12_row) s m args below meth c H locs 0 0 (MQ below (QI D ca ad res) args s 0 0 (AA ad)) (F0 m 34 ls []) := fun a0 a1 a2 a3 mm H locs ls ha0 hW hl hf => ih ha0 hW hl hf
    unfold fX12_row_34 at hf
    try dsimp only at hf
    refine lv_iload_n C.1 C.2.1 dX12_row_34 rfl (lv_at hl 3 rfl) ?_
    refine lv_bipush (v := 40) C.1 C.2.1 dX12_row_35 (by decide) ?_
    refine lv_icmp_ge (tgt := 53) C.1 C.2.1 dX12_row_37 (by decide) (fun c1 => ?_) (fun c1 => ?_)
    · have hf := if_t c1 hf
      refine lv_iload_n C.1 C.2.1 dX12_row_53 rfl (lv_at hl 2 rfl) ?_
      cases hf
      exact x_iret C hW dX12_row_54
    · have hf := if_f c1 hf
      refine lv_aload_n C.1 C.2.1 dX12_row_40 rfl (lv_at hl 0 rfl) ?_
      refine lv_iload_n C.1 C.2.1 dX12_row_41 rfl (lv_at hl 1 rfl) ?_
      refine lv_iload_n C.1 C.2.1 dX12_row_42 rfl (lv_at hl 3 rfl) ?_
      refine lv_iconst (v := 0) C.1 C.2.1 dX12_row_43 (by decide) ?_
      obtain ⟨x2, m3, r4, hf⟩ := bd2_s hf
      refine x_cv hW (x_runV C hW [.int a1, .int a3, .int 0] [] (ha0).1 (ha0).2.1 kX12.1 kvX12_setRow q_1157 (tX12_setRow l C.2.2.2.2.2.2.1 ha0 r4) rfl rfl ⟨by decide, by decide⟩ rfl hl.1 rfl (Nat.le_of_ble_eq_true rfl) dX12_row_44) (fun H locs hW => ?_)
      refine lv_iinc (v := (a3 + 1)) (lv' := [(3, .int (a3 + 1)), (0, .ref (ad a0)), (1, .int a1), (2, .int a2)]) C.1 C.2.1 dX12_row_47 hl (k := 3) rfl rfl (by decide) rfl (fun ls hl => ?_)
      refine lv_goto (tgt := 34) C.1 C.2.1 dX12_row_50 (by decide) ?_
      exact hk34 _ _ _ _ _ _ _ _ ha0 hW (lv_sub hl [1, 2, 3, 0] rfl) hf
set_option maxRecDepth 100000 in
set_option maxHeartbeats 4000000 in
theorem wX12_row_0 (C : Cx p s m meth c args cX12_row 4 (some .int) RX12 D ca ad) {res : Int32 × Mm} {N : Nat}  {a0 : Nat} {a1 : Int32} {a2 : Int32} {mm : Mm} {H : Heap} {locs : List Loc} {ls : Array Slot} (ha0 : sX12 a0) (hW : Wd D ca ad s.heap mm H locs) (hl : lv_has ls 4 [(0, .ref (ad a0)), (1, .int a1), (2, .int a2)]) (hf : fX12_row N a0 a1 a2 mm = some res) : W p l e (rmX12_row) s m args below meth c H locs 0 0 (MQ below (QI D ca ad res) args s 0 0 (AA ad)) (F0 m 0 ls []) := by
  unfold fX12_row at hf
  refine lv_iload_n C.1 C.2.1 dX12_row_0 rfl (lv_at hl 1 rfl) ?_
  obtain ⟨x5, m6, r7, hf⟩ := bd2_s hf
  refine x_ci hW (x_runS C hW [.int a1] [] kvX12_isRow q_1147 (tX12_isRow l C.2.2.2.2.2.2.1  r7) rfl rfl ⟨by decide, by decide⟩ rfl hl.1 rfl (Nat.le_of_ble_eq_true rfl) dX12_row_1) (fun H locs hW => ?_)
  refine lv_if_eq (tgt := 13) C.1 C.2.1 dX12_row_4 (by decide) (fun c8 => ?_) (fun c8 => ?_)
  · have hf := if_t c8 hf
    refine lv_iconst (v := (-1)) C.1 C.2.1 dX12_row_13 (by decide) ?_
    cases hf
    exact x_iret C hW dX12_row_14
  · have hf := if_f c8 hf
    refine lv_iload_n C.1 C.2.1 dX12_row_7 rfl (lv_at hl 2 rfl) ?_
    refine lv_bipush (v := 40) C.1 C.2.1 dX12_row_8 (by decide) ?_
    refine lv_icmp_le (tgt := 15) C.1 C.2.1 dX12_row_10 (by decide) (fun c9 => ?_) (fun c9 => ?_)
    · have hf := if_t c9 hf
      refine lv_iload_n C.1 C.2.1 dX12_row_15 rfl (lv_at hl 2 rfl) ?_
      refine lv_if_ge (tgt := 25) C.1 C.2.1 dX12_row_16 (by decide) (fun c10 => ?_) (fun c10 => ?_)
      · have hf := if_t c10 hf
        refine lv_aload_n C.1 C.2.1 dX12_row_25 rfl (lv_at hl 0 rfl) ?_
        refine x_getr C hW (ha0).1 (ha0).2.1 (j := 5) rfl kX12 (by decide) rfl q_1021 dX12_row_26 ?_
        refine lv_iload_n C.1 C.2.1 dX12_row_29 rfl (lv_at hl 1 rfl) ?_
        refine lv_iload_n C.1 C.2.1 dX12_row_30 rfl (lv_at hl 2 rfl) ?_
        obtain ⟨g11, hf⟩ := gd_s hf
        refine x_iast C hW ha0.2.2.2.1 g11 dX12_row_31 (fun H locs hW => ?_)
        obtain ⟨m12, em12⟩ : ∃ z, z = wr m6 (fr a0 5) a1.toNatClampNeg a2 := ⟨_, rfl⟩
        have hf := nm_s hf em12
        rw [← em12] at hW
        refine lv_iconst (v := 0) C.1 C.2.1 dX12_row_32 (by decide) ?_
        refine lv_istore_n (lv' := [(3, .int 0), (0, .ref (ad a0)), (1, .int a1), (2, .int a2)]) C.1 C.2.1 dX12_row_33 rfl hl (by decide) rfl (fun ls hl => ?_)
        exact wX12_row_34 C  N ha0 hW (lv_sub hl [1, 2, 3, 0] rfl) hf
      · have hf := if_f c10 hf
        refine lv_aload_n C.1 C.2.1 dX12_row_19 rfl (lv_at hl 0 rfl) ?_
        refine lv_iconst (v := 5) C.1 C.2.1 dX12_row_20 (by decide) ?_
        obtain ⟨x13, m14, r15, hf⟩ := bd2_s hf
        refine x_ci hW (x_runV C hW [.int 5] [] (ha0).1 (ha0).2.1 kX12.1 kvX12_meet q_1153 (tX12_meet l C.2.2.2.2.2.2.1 ha0 r15) rfl rfl ⟨by decide, by decide⟩ rfl hl.1 rfl (Nat.le_of_ble_eq_true rfl) dX12_row_21) (fun H locs hW => ?_)
        cases hf
        exact x_iret C hW dX12_row_24
    · have hf := if_f c9 hf
      refine lv_iconst (v := (-1)) C.1 C.2.1 dX12_row_13 (by decide) ?_
      cases hf
      exact x_iret C hW dX12_row_14
set_option maxRecDepth 100000 in
set_option maxHeartbeats 4000000 in
theorem tX12_row (l : Launch) {D : va_G} {ca ad : Nat → Nat} (hi : Inj ad) {N : Nat} {a0 : Nat} {a1 : Int32} {a2 : Int32} {mm : Mm} {res : Int32 × Mm} (ha0 : sX12 a0) (hf : fX12_row N a0 a1 a2 mm = some res) : Met l yX12_row (WS yX12_row cX12_row 4 (some .int)) (rmX12_row) (va_Pc [.ref (ad a0), .int a1, .int a2] (WB D ca ad mm)) (QI D ca ad res) 0 0 (AA ad) := by
  refine x_start hi (by decide) rfl (Nat.le_of_ble_eq_true rfl) (fun p e s m args below meth c ls C hW hl => ?_)
  exact wX12_row_0 C ha0 hW (lv_sub hl [0, 1, 2] rfl) hf
set_option maxRecDepth 100000 in
set_option maxHeartbeats 4000000 in
theorem wX12_at_0 (C : Cx p s m meth c args cX12_at 4 (some .int) RX12 D ca ad) {res : Int32 × Mm} {N : Nat}  {a0 : Nat} {a1 : Int32} {a2 : Int32} {mm : Mm} {H : Heap} {locs : List Loc} {ls : Array Slot} (ha0 : sX12 a0) (hW : Wd D ca ad s.heap mm H locs) (hl : lv_has ls 4 [(0, .ref (ad a0)), (1, .int a1), (2, .int a2)]) (hf : fX12_at N a0 a1 a2 mm = some res) : W p l e (rmX12_at) s m args below meth c H locs 0 0 (MQ below (QI D ca ad res) args s 0 0 (AA ad)) (F0 m 0 ls []) := by
  unfold fX12_at at hf
  refine lv_aload_n C.1 C.2.1 dX12_at_0 rfl (lv_at hl 0 rfl) ?_
  refine lv_iload_n C.1 C.2.1 dX12_at_1 rfl (lv_at hl 1 rfl) ?_
  obtain ⟨x1, m2, r3, hf⟩ := bd2_s hf
  refine x_ci hW (x_runV C hW [.int a1] [] (ha0).1 (ha0).2.1 kX12.1 kvX12_askedRow q_1165 (tX12_askedRow l C.2.2.2.2.2.2.1 ha0 r3) rfl rfl ⟨by decide, by decide⟩ rfl hl.1 rfl (Nat.le_of_ble_eq_true rfl) dX12_at_2) (fun H locs hW => ?_)
  refine lv_istore_n (lv' := [(3, .int x1), (0, .ref (ad a0)), (1, .int a1), (2, .int a2)]) C.1 C.2.1 dX12_at_5 rfl hl (by decide) rfl (fun ls hl => ?_)
  refine lv_iload_n C.1 C.2.1 dX12_at_6 rfl (lv_at hl 0 rfl) ?_
  refine lv_if_ge (tgt := 12) C.1 C.2.1 dX12_at_7 (by decide) (fun c4 => ?_) (fun c4 => ?_)
  · have hf := if_t c4 hf
    refine lv_iload_n C.1 C.2.1 dX12_at_12 rfl (lv_at hl 3 rfl) ?_
    refine lv_iconst (v := 0) C.1 C.2.1 dX12_at_13 (by decide) ?_
    refine lv_aload_n C.1 C.2.1 dX12_at_14 rfl (lv_at hl 1 rfl) ?_
    refine x_getr C hW (ha0).1 (ha0).2.1 (j := 5) rfl kX12 (by decide) rfl q_1021 dX12_at_15 ?_
    refine lv_iload_n C.1 C.2.1 dX12_at_18 rfl (lv_at hl 2 rfl) ?_
    obtain ⟨g5, hf⟩ := gd_s hf
    refine x_iald C hW ha0.2.2.2.1 g5 dX12_at_19 ?_
    refine lv_iconst (v := 1) C.1 C.2.1 dX12_at_20 (by decide) ?_
    refine lv_isub C.1 C.2.1 dX12_at_21 ?_
    obtain ⟨x6, m7, r8, hf⟩ := bd2_s hf
    refine x_ci hW (x_runS C hW [.int a2, .int 0, .int ((rd m2 (fr a0 5) a1.toNatClampNeg) - 1)] [] kvX12_in q_1150 (tX12_in l C.2.2.2.2.2.2.1  r8) rfl rfl ⟨by decide, by decide⟩ rfl hl.1 rfl (Nat.le_of_ble_eq_true rfl) dX12_at_22) (fun H locs hW => ?_)
    refine lv_if_eq (tgt := 42) C.1 C.2.1 dX12_at_25 (by decide) (fun c9 => ?_) (fun c9 => ?_)
    · have hf := if_t c9 hf
      refine lv_aload_n C.1 C.2.1 dX12_at_42 rfl (lv_at hl 1 rfl) ?_
      refine lv_iconst (v := 2) C.1 C.2.1 dX12_at_43 (by decide) ?_
      obtain ⟨x10, m11, r12, hf⟩ := bd2_s hf
      refine x_ci hW (x_runV C hW [.int 2] [] (ha0).1 (ha0).2.1 kX12.1 kvX12_meet q_1153 (tX12_meet l C.2.2.2.2.2.2.1 ha0 r12) rfl rfl ⟨by decide, by decide⟩ rfl hl.1 rfl (Nat.le_of_ble_eq_true rfl) dX12_at_44) (fun H locs hW => ?_)
      cases hf
      exact x_iret C hW dX12_at_47
    · have hf := if_f c9 hf
      refine lv_aload_n C.1 C.2.1 dX12_at_28 rfl (lv_at hl 1 rfl) ?_
      refine lv_aload_n C.1 C.2.1 dX12_at_29 rfl (lv_at hl 1 rfl) ?_
      refine lv_iload_n C.1 C.2.1 dX12_at_30 rfl (lv_at hl 2 rfl) ?_
      refine lv_iload_n C.1 C.2.1 dX12_at_31 rfl (lv_at hl 3 rfl) ?_
      obtain ⟨x13, m14, r15, hf⟩ := bd2_s hf
      refine x_ci hW (x_runV C hW [.int a1, .int a2] [.ref (ad a0)] (ha0).1 (ha0).2.1 kX12.1 kvX12_rowAt q_1169 (tX12_rowAt l C.2.2.2.2.2.2.1 ha0 r15) rfl rfl ⟨by decide, by decide⟩ rfl hl.1 rfl (Nat.le_of_ble_eq_true rfl) dX12_at_32) (fun H locs hW => ?_)
      refine lv_iconst (v := 1) C.1 C.2.1 dX12_at_35 (by decide) ?_
      obtain ⟨x16, m17, r18, hf⟩ := bd2_s hf
      refine x_ci hW (x_runV C hW [.int x13, .int 1] [] (ha0).1 (ha0).2.1 kX12.1 kvX12_ask q_1173 (tX12_ask l C.2.2.2.2.2.2.1 ha0 r18) rfl rfl ⟨by decide, by decide⟩ rfl hl.1 rfl (Nat.le_of_ble_eq_true rfl) dX12_at_36) (fun H locs hW => ?_)
      refine lv_goto (tgt := 47) C.1 C.2.1 dX12_at_39 (by decide) ?_
      cases hf
      exact x_iret C hW dX12_at_47
  · have hf := if_f c4 hf
    refine lv_iload_n C.1 C.2.1 dX12_at_10 rfl (lv_at hl 0 rfl) ?_
    cases hf
    exact x_iret C hW dX12_at_11
set_option maxRecDepth 100000 in
set_option maxHeartbeats 4000000 in
theorem tX12_at (l : Launch) {D : va_G} {ca ad : Nat → Nat} (hi : Inj ad) {N : Nat} {a0 : Nat} {a1 : Int32} {a2 : Int32} {mm : Mm} {res : Int32 × Mm} (ha0 : sX12 a0) (hf : fX12_at N a0 a1 a2 mm = some res) : Met l yX12_at (WS yX12_at cX12_at 4 (some .int)) (rmX12_at) (va_Pc [.ref (ad a0), .int a1, .int a2] (WB D ca ad mm)) (QI D ca ad res) 0 0 (AA ad) := by
  refine x_start hi (by decide) rfl (Nat.le_of_ble_eq_true rfl) (fun p e s m args below meth c ls C hW hl => ?_)
  exact wX12_at_0 C ha0 hW (lv_sub hl [0, 1, 2] rfl) hf
set_option maxRecDepth 100000 in
set_option maxHeartbeats 4000000 in
theorem wX12_lay_0 (C : Cx p s m meth c args cX12_lay 5 (some .int) RX12 D ca ad) {res : Int32 × Mm} {N : Nat}  {a0 : Nat} {a1 : Int32} {a2 : Int32} {a3 : Int32} {mm : Mm} {H : Heap} {locs : List Loc} {ls : Array Slot} (ha0 : sX12 a0) (hW : Wd D ca ad s.heap mm H locs) (hl : lv_has ls 5 [(0, .ref (ad a0)), (1, .int a1), (2, .int a2), (3, .int a3)]) (hf : fX12_lay N a0 a1 a2 a3 mm = some res) : W p l e (rmX12_lay) s m args below meth c H locs 0 0 (MQ below (QI D ca ad res) args s 0 0 (AA ad)) (F0 m 0 ls []) := by
  unfold fX12_lay at hf
  refine lv_aload_n C.1 C.2.1 dX12_lay_0 rfl (lv_at hl 0 rfl) ?_
  refine lv_iload_n C.1 C.2.1 dX12_lay_1 rfl (lv_at hl 1 rfl) ?_
  refine lv_iload_n C.1 C.2.1 dX12_lay_2 rfl (lv_at hl 2 rfl) ?_
  obtain ⟨x1, m2, r3, hf⟩ := bd2_s hf
  refine x_ci hW (x_runV C hW [.int a1, .int a2] [] (ha0).1 (ha0).2.1 kX12.1 kvX12_at q_1181 (tX12_at l C.2.2.2.2.2.2.1 ha0 r3) rfl rfl ⟨by decide, by decide⟩ rfl hl.1 rfl (Nat.le_of_ble_eq_true rfl) dX12_lay_3) (fun H locs hW => ?_)
  refine lv_istore (lv' := [(4, .int x1), (0, .ref (ad a0)), (1, .int a1), (2, .int a2), (3, .int a3)]) C.1 C.2.1 dX12_lay_6 hl (by decide) rfl (fun ls hl => ?_)
  refine lv_iload C.1 C.2.1 dX12_lay_8 (lv_at hl 0 rfl) ?_
  refine lv_if_ge (tgt := 16) C.1 C.2.1 dX12_lay_10 (by decide) (fun c4 => ?_) (fun c4 => ?_)
  · have hf := if_t c4 hf
    refine lv_aload_n C.1 C.2.1 dX12_lay_16 rfl (lv_at hl 1 rfl) ?_
    refine lv_iload_n C.1 C.2.1 dX12_lay_17 rfl (lv_at hl 2 rfl) ?_
    refine lv_iload_n C.1 C.2.1 dX12_lay_18 rfl (lv_at hl 3 rfl) ?_
    refine lv_iload_n C.1 C.2.1 dX12_lay_19 rfl (lv_at hl 4 rfl) ?_
    obtain ⟨x5, m6, r7, hf⟩ := bd2_s hf
    refine x_cv hW (x_runV C hW [.int a1, .int a2, .int a3] [] (ha0).1 (ha0).2.1 kX12.1 kvX12_setRow q_1157 (tX12_setRow l C.2.2.2.2.2.2.1 ha0 r7) rfl rfl ⟨by decide, by decide⟩ rfl hl.1 rfl (Nat.le_of_ble_eq_true rfl) dX12_lay_20) (fun H locs hW => ?_)
    refine lv_iconst (v := 1) C.1 C.2.1 dX12_lay_23 (by decide) ?_
    cases hf
    exact x_iret C hW dX12_lay_24
  · have hf := if_f c4 hf
    refine lv_iload C.1 C.2.1 dX12_lay_13 (lv_at hl 0 rfl) ?_
    cases hf
    exact x_iret C hW dX12_lay_15
set_option maxRecDepth 100000 in
set_option maxHeartbeats 4000000 in
theorem tX12_lay (l : Launch) {D : va_G} {ca ad : Nat → Nat} (hi : Inj ad) {N : Nat} {a0 : Nat} {a1 : Int32} {a2 : Int32} {a3 : Int32} {mm : Mm} {res : Int32 × Mm} (ha0 : sX12 a0) (hf : fX12_lay N a0 a1 a2 a3 mm = some res) : Met l yX12_lay (WS yX12_lay cX12_lay 5 (some .int)) (rmX12_lay) (va_Pc [.ref (ad a0), .int a1, .int a2, .int a3] (WB D ca ad mm)) (QI D ca ad res) 0 0 (AA ad) := by
  refine x_start hi (by decide) rfl (Nat.le_of_ble_eq_true rfl) (fun p e s m args below meth c ls C hW hl => ?_)
  exact wX12_lay_0 C ha0 hW (lv_sub hl [0, 1, 2, 3] rfl) hf
set_option maxRecDepth 100000 in
set_option maxHeartbeats 4000000 in
theorem wX12_tear_0 (C : Cx p s m meth c args cX12_tear 3 (some .int) RX12 D ca ad) {res : Int32 × Mm} {N : Nat}  {a0 : Nat} {a1 : Int32} {mm : Mm} {H : Heap} {locs : List Loc} {ls : Array Slot} (ha0 : sX12 a0) (hW : Wd D ca ad s.heap mm H locs) (hl : lv_has ls 3 [(0, .ref (ad a0)), (1, .int a1)]) (hf : fX12_tear N a0 a1 mm = some res) : W p l e (rmX12_tear) s m args below meth c H locs 0 0 (MQ below (QI D ca ad res) args s 0 0 (AA ad)) (F0 m 0 ls []) := by
  unfold fX12_tear at hf
  refine lv_aload_n C.1 C.2.1 dX12_tear_0 rfl (lv_at hl 0 rfl) ?_
  refine lv_iload_n C.1 C.2.1 dX12_tear_1 rfl (lv_at hl 1 rfl) ?_
  obtain ⟨x1, m2, r3, hf⟩ := bd2_s hf
  refine x_ci hW (x_runV C hW [.int a1] [] (ha0).1 (ha0).2.1 kX12.1 kvX12_askedRow q_1165 (tX12_askedRow l C.2.2.2.2.2.2.1 ha0 r3) rfl rfl ⟨by decide, by decide⟩ rfl hl.1 rfl (Nat.le_of_ble_eq_true rfl) dX12_tear_2) (fun H locs hW => ?_)
  refine lv_istore_n (lv' := [(2, .int x1), (0, .ref (ad a0)), (1, .int a1)]) C.1 C.2.1 dX12_tear_5 rfl hl (by decide) rfl (fun ls hl => ?_)
  refine lv_iload_n C.1 C.2.1 dX12_tear_6 rfl (lv_at hl 0 rfl) ?_
  refine lv_if_ge (tgt := 12) C.1 C.2.1 dX12_tear_7 (by decide) (fun c4 => ?_) (fun c4 => ?_)
  · have hf := if_t c4 hf
    refine lv_aload_n C.1 C.2.1 dX12_tear_12 rfl (lv_at hl 1 rfl) ?_
    refine x_getr C hW (ha0).1 (ha0).2.1 (j := 5) rfl kX12 (by decide) rfl q_1021 dX12_tear_13 ?_
    refine lv_iload_n C.1 C.2.1 dX12_tear_16 rfl (lv_at hl 2 rfl) ?_
    refine lv_bipush (v := (-9)) C.1 C.2.1 dX12_tear_17 (by decide) ?_
    obtain ⟨g5, hf⟩ := gd_s hf
    refine x_iast C hW ha0.2.2.2.1 g5 dX12_tear_19 (fun H locs hW => ?_)
    obtain ⟨m6, em6⟩ : ∃ z, z = wr m2 (fr a0 5) a1.toNatClampNeg (-9) := ⟨_, rfl⟩
    have hf := nm_s hf em6
    rw [← em6] at hW
    refine lv_iconst (v := 1) C.1 C.2.1 dX12_tear_20 (by decide) ?_
    cases hf
    exact x_iret C hW dX12_tear_21
  · have hf := if_f c4 hf
    refine lv_iload_n C.1 C.2.1 dX12_tear_10 rfl (lv_at hl 0 rfl) ?_
    cases hf
    exact x_iret C hW dX12_tear_11
set_option maxRecDepth 100000 in
set_option maxHeartbeats 4000000 in
theorem tX12_tear (l : Launch) {D : va_G} {ca ad : Nat → Nat} (hi : Inj ad) {N : Nat} {a0 : Nat} {a1 : Int32} {mm : Mm} {res : Int32 × Mm} (ha0 : sX12 a0) (hf : fX12_tear N a0 a1 mm = some res) : Met l yX12_tear (WS yX12_tear cX12_tear 3 (some .int)) (rmX12_tear) (va_Pc [.ref (ad a0), .int a1] (WB D ca ad mm)) (QI D ca ad res) 0 0 (AA ad) := by
  refine x_start hi (by decide) rfl (Nat.le_of_ble_eq_true rfl) (fun p e s m args below meth c ls C hW hl => ?_)
  exact wX12_tear_0 C ha0 hW (lv_sub hl [0, 1] rfl) hf
set_option maxRecDepth 100000 in
set_option maxHeartbeats 4000000 in
theorem wX12_copy_136 (C : Cx p s m meth c args cX12_copy 7 (some .int) RX12 D ca ad) {res : Int32 × Mm} {N : Nat}  : ∀ (n : Nat) {a0 : Nat} {a3 : Int32} {a4 : Int32} {a5 : Int32} {a6 : Int32} {mm : Mm} {H : Heap} {locs : List Loc} {ls : Array Slot}, (sX12 a0) → Wd D ca ad s.heap mm H locs → lv_has ls 7 [(0, .ref (ad a0)), (3, .int a3), (4, .int a4), (5, .int a5), (6, .int a6)] → fX12_copy_136 N n a0 a3 a4 a5 a6 mm = some res → W p l e (rmX12_copy) s m args below meth c H locs 0 0 (MQ below (QI D ca ad res) args s 0 0 (AA ad)) (F0 m 136 ls []) := by
  intro n
  induction n with
  | zero => intro a0 a3 a4 a5 a6 mm H locs ls ha0 hW hl hf; cases hf
  | succ n ih =>
    intro a0 a3 a4 a5 a6 mm H locs ls ha0 hW hl hf
    have hk136 : ∀ (a0 : Nat) (a3 : Int32) (a4 : Int32) (a5 : Int32) (a6 : Int32) (mm : Mm) (H : Heap) (locs : List Loc) (ls : Array Slot), (sX12 a0) → Wd D ca ad s.heap mm H locs → lv_has ls 7 [(0, .ref (ad a0)), (3, .int a3), (4, .int a4), (5, .int a5), (6, .int a6)] → (fX12_copy_136 N n) a0 a3 a4 a5 a6 mm = some res → W p l e (rmX12_copy) s m args below meth c H locs 0 0 (MQ below (QI D ca ad res) args s 0 0 (AA ad)) (F0 m 136 ls []) := fun a0 a3 a4 a5 a6 mm H locs ls ha0 hW hl hf => ih ha0 hW hl hf
    unfold fX12_copy_136 at hf
    try dsimp only at hf
    refine lv_iload C.1 C.2.1 dX12_copy_136 (lv_at hl 4 rfl) ?_
    refine lv_iload C.1 C.2.1 dX12_copy_138 (lv_at hl 3 rfl) ?_
    refine lv_icmp_ge (tgt := 166) C.1 C.2.1 dX12_copy_140 (by decide) (fun c1 => ?_) (fun c1 => ?_)
    · have hf := if_t c1 hf
      refine lv_iconst (v := 1) C.1 C.2.1 dX12_copy_166 (by decide) ?_
      cases hf
      exact x_iret C hW dX12_copy_167
    · have hf := if_f c1 hf
      refine lv_aload_n C.1 C.2.1 dX12_copy_143 rfl (lv_at hl 0 rfl) ?_
      refine lv_iload_n C.1 C.2.1 dX12_copy_144 rfl (lv_at hl 1 rfl) ?_
      refine lv_iload C.1 C.2.1 dX12_copy_145 (lv_at hl 2 rfl) ?_
      refine lv_iload C.1 C.2.1 dX12_copy_147 (lv_at hl 4 rfl) ?_
      refine lv_iadd C.1 C.2.1 dX12_copy_149 ?_
      refine lv_aload_n C.1 C.2.1 dX12_copy_150 rfl (lv_at hl 0 rfl) ?_
      refine x_getr C hW (ha0).1 (ha0).2.1 (j := 7) rfl kX12 (by decide) rfl q_1023 dX12_copy_151 ?_
      refine lv_iload C.1 C.2.1 dX12_copy_154 (lv_at hl 4 rfl) ?_
      obtain ⟨g2, hf⟩ := gd_s hf
      refine x_iald C hW ha0.2.2.2.2.2.1 g2 dX12_copy_156 ?_
      obtain ⟨x3, m4, r5, hf⟩ := bd2_s hf
      refine x_cv hW (x_runV C hW [.int a3, .int (a4 + a6), .int (rd mm (fr a0 7) a6.toNatClampNeg)] [] (ha0).1 (ha0).2.1 kX12.1 kvX12_setRow q_1157 (tX12_setRow l C.2.2.2.2.2.2.1 ha0 r5) rfl rfl ⟨by decide, by decide⟩ rfl hl.1 rfl (Nat.le_of_ble_eq_true rfl) dX12_copy_157) (fun H locs hW => ?_)
      refine lv_iinc (v := (a6 + 1)) (lv' := [(6, .int (a6 + 1)), (0, .ref (ad a0)), (3, .int a3), (4, .int a4), (5, .int a5)]) C.1 C.2.1 dX12_copy_160 hl (k := 4) rfl rfl (by decide) rfl (fun ls hl => ?_)
      refine lv_goto (tgt := 136) C.1 C.2.1 dX12_copy_163 (by decide) ?_
      exact hk136 _ _ _ _ _ _ _ _ _ ha0 hW (lv_sub hl [1, 2, 3, 4, 0] rfl) hf
set_option maxRecDepth 100000 in
set_option maxHeartbeats 4000000 in
theorem wX12_copy_104 (C : Cx p s m meth c args cX12_copy 7 (some .int) RX12 D ca ad) {res : Int32 × Mm} {N : Nat}  : ∀ (n : Nat) {a0 : Nat} {a1 : Int32} {a2 : Int32} {a3 : Int32} {a4 : Int32} {a5 : Int32} {a6 : Int32} {mm : Mm} {H : Heap} {locs : List Loc} {ls : Array Slot}, (sX12 a0) → Wd D ca ad s.heap mm H locs → lv_has ls 7 [(0, .ref (ad a0)), (1, .int a1), (2, .int a2), (3, .int a3), (4, .int a4), (5, .int a5), (6, .int a6)] → fX12_copy_104 N n a0 a1 a2 a3 a4 a5 a6 mm = some res → W p l e (rmX12_copy) s m args below meth c H locs 0 0 (MQ below (QI D ca ad res) args s 0 0 (AA ad)) (F0 m 104 ls []) := by
  intro n
  induction n with
  | zero => intro a0 a1 a2 a3 a4 a5 a6 mm H locs ls ha0 hW hl hf; cases hf
  | succ n ih =>
    intro a0 a1 a2 a3 a4 a5 a6 mm H locs ls ha0 hW hl hf
    have hk104 : ∀ (a0 : Nat) (a1 : Int32) (a2 : Int32) (a3 : Int32) (a4 : Int32) (a5 : Int32) (a6 : Int32) (mm : Mm) (H : Heap) (locs : List Loc) (ls : Array Slot), (sX12 a0) → Wd D ca ad s.heap mm H locs → lv_has ls 7 [(0, .ref (ad a0)), (1, .int a1), (2, .int a2), (3, .int a3), (4, .int a4), (5, .int a5), (6, .int a6)] → (fX12_copy_104 N n) a0 a1 a2 a3 a4 a5 a6 mm = some res → W p l e (rmX12_copy) s m args below meth c H locs 0 0 (MQ below (QI D ca ad res) args s 0 0 (AA ad)) (F0 m 104 ls []) := fun a0 a1 a2 a3 a4 a5 a6 mm H locs ls ha0 hW hl hf => ih ha0 hW hl hf
    unfold fX12_copy_104 at hf
    try dsimp only at hf
    refine lv_iload C.1 C.2.1 dX12_copy_104 (lv_at hl 6 rfl) ?_
    refine lv_iload C.1 C.2.1 dX12_copy_106 (lv_at hl 5 rfl) ?_
    refine lv_icmp_ge (tgt := 133) C.1 C.2.1 dX12_copy_108 (by decide) (fun c6 => ?_) (fun c6 => ?_)
    · have hf := if_t c6 hf
      refine lv_iconst (v := 0) C.1 C.2.1 dX12_copy_133 (by decide) ?_
      refine lv_istore (lv' := [(6, .int 0), (0, .ref (ad a0)), (1, .int a1), (2, .int a2), (3, .int a3), (4, .int a4), (5, .int a5)]) C.1 C.2.1 dX12_copy_134 hl (by decide) rfl (fun ls hl => ?_)
      exact wX12_copy_136 C  N ha0 hW (lv_sub hl [1, 4, 5, 6, 0] rfl) hf
    · have hf := if_f c6 hf
      refine lv_aload_n C.1 C.2.1 dX12_copy_111 rfl (lv_at hl 0 rfl) ?_
      refine x_getr C hW (ha0).1 (ha0).2.1 (j := 7) rfl kX12 (by decide) rfl q_1023 dX12_copy_112 ?_
      refine lv_iload C.1 C.2.1 dX12_copy_115 (lv_at hl 6 rfl) ?_
      refine lv_aload_n C.1 C.2.1 dX12_copy_117 rfl (lv_at hl 0 rfl) ?_
      refine lv_iload_n C.1 C.2.1 dX12_copy_118 rfl (lv_at hl 1 rfl) ?_
      refine lv_iload_n C.1 C.2.1 dX12_copy_119 rfl (lv_at hl 2 rfl) ?_
      refine lv_iload C.1 C.2.1 dX12_copy_120 (lv_at hl 6 rfl) ?_
      refine lv_iadd C.1 C.2.1 dX12_copy_122 ?_
      obtain ⟨x7, m8, r9, hf⟩ := bd2_s hf
      refine x_ci hW (x_runV C hW [.int a1, .int (a2 + a6)] [.int a6, .ref (ad (fr a0 7))] (ha0).1 (ha0).2.1 kX12.1 kvX12_rowAt q_1169 (tX12_rowAt l C.2.2.2.2.2.2.1 ha0 r9) rfl rfl ⟨by decide, by decide⟩ rfl hl.1 rfl (Nat.le_of_ble_eq_true rfl) dX12_copy_123) (fun H locs hW => ?_)
      obtain ⟨g10, hf⟩ := gd_s hf
      refine x_iast C hW ha0.2.2.2.2.2.1 g10 dX12_copy_126 (fun H locs hW => ?_)
      obtain ⟨m11, em11⟩ : ∃ z, z = wr m8 (fr a0 7) a6.toNatClampNeg x7 := ⟨_, rfl⟩
      have hf := nm_s hf em11
      rw [← em11] at hW
      refine lv_iinc (v := (a6 + 1)) (lv' := [(6, .int (a6 + 1)), (0, .ref (ad a0)), (1, .int a1), (2, .int a2), (3, .int a3), (4, .int a4), (5, .int a5)]) C.1 C.2.1 dX12_copy_127 hl (k := 6) rfl rfl (by decide) rfl (fun ls hl => ?_)
      refine lv_goto (tgt := 104) C.1 C.2.1 dX12_copy_130 (by decide) ?_
      exact hk104 _ _ _ _ _ _ _ _ _ _ _ ha0 hW (lv_sub hl [1, 2, 3, 4, 5, 6, 0] rfl) hf
set_option maxRecDepth 100000 in
set_option maxHeartbeats 4000000 in
theorem wX12_copy_95 (C : Cx p s m meth c args cX12_copy 7 (some .int) RX12 D ca ad) {res : Int32 × Mm} {N : Nat}  {a0 : Nat} {mm : Mm} {H : Heap} {locs : List Loc} {ls : Array Slot} (ha0 : sX12 a0) (hW : Wd D ca ad s.heap mm H locs) (hl : lv_has ls 7 [(0, .ref (ad a0))]) (hf : fX12_copy_95 N a0 mm = some res) : W p l e (rmX12_copy) s m args below meth c H locs 0 0 (MQ below (QI D ca ad res) args s 0 0 (AA ad)) (F0 m 95 ls []) := by
  unfold fX12_copy_95 at hf
  refine lv_aload_n C.1 C.2.1 dX12_copy_95 rfl (lv_at hl 0 rfl) ?_
  refine lv_iconst (v := 2) C.1 C.2.1 dX12_copy_96 (by decide) ?_
  obtain ⟨x12, m13, r14, hf⟩ := bd2_s hf
  refine x_ci hW (x_runV C hW [.int 2] [] (ha0).1 (ha0).2.1 kX12.1 kvX12_meet q_1153 (tX12_meet l C.2.2.2.2.2.2.1 ha0 r14) rfl rfl ⟨by decide, by decide⟩ rfl hl.1 rfl (Nat.le_of_ble_eq_true rfl) dX12_copy_97) (fun H locs hW => ?_)
  cases hf
  exact x_iret C hW dX12_copy_100
set_option maxRecDepth 100000 in
set_option maxHeartbeats 4000000 in
theorem wX12_copy_45 (C : Cx p s m meth c args cX12_copy 7 (some .int) RX12 D ca ad) {res : Int32 × Mm} {N : Nat}  {a0 : Nat} {mm : Mm} {H : Heap} {locs : List Loc} {ls : Array Slot} (ha0 : sX12 a0) (hW : Wd D ca ad s.heap mm H locs) (hl : lv_has ls 7 [(0, .ref (ad a0))]) (hf : fX12_copy_45 N a0 mm = some res) : W p l e (rmX12_copy) s m args below meth c H locs 0 0 (MQ below (QI D ca ad res) args s 0 0 (AA ad)) (F0 m 45 ls []) := by
  unfold fX12_copy_45 at hf
  refine lv_aload_n C.1 C.2.1 dX12_copy_45 rfl (lv_at hl 0 rfl) ?_
  refine lv_iconst (v := 1) C.1 C.2.1 dX12_copy_46 (by decide) ?_
  obtain ⟨x15, m16, r17, hf⟩ := bd2_s hf
  refine x_ci hW (x_runV C hW [.int 1] [] (ha0).1 (ha0).2.1 kX12.1 kvX12_meet q_1153 (tX12_meet l C.2.2.2.2.2.2.1 ha0 r17) rfl rfl ⟨by decide, by decide⟩ rfl hl.1 rfl (Nat.le_of_ble_eq_true rfl) dX12_copy_47) (fun H locs hW => ?_)
  cases hf
  exact x_iret C hW dX12_copy_50
set_option maxRecDepth 100000 in
set_option maxHeartbeats 4000000 in
theorem wX12_copy_0 (C : Cx p s m meth c args cX12_copy 7 (some .int) RX12 D ca ad) {res : Int32 × Mm} {N : Nat}  {a0 : Nat} {a1 : Int32} {a2 : Int32} {a3 : Int32} {a4 : Int32} {a5 : Int32} {mm : Mm} {H : Heap} {locs : List Loc} {ls : Array Slot} (ha0 : sX12 a0) (hW : Wd D ca ad s.heap mm H locs) (hl : lv_has ls 7 [(0, .ref (ad a0)), (1, .int a1), (2, .int a2), (3, .int a3), (4, .int a4), (5, .int a5)]) (hf : fX12_copy N a0 a1 a2 a3 a4 a5 mm = some res) : W p l e (rmX12_copy) s m args below meth c H locs 0 0 (MQ below (QI D ca ad res) args s 0 0 (AA ad)) (F0 m 0 ls []) := by
  unfold fX12_copy at hf
  refine lv_iload_n C.1 C.2.1 dX12_copy_0 rfl (lv_at hl 1 rfl) ?_
  obtain ⟨x18, m19, r20, hf⟩ := bd2_s hf
  refine x_ci hW (x_runS C hW [.int a1] [] kvX12_isRow q_1147 (tX12_isRow l C.2.2.2.2.2.2.1  r20) rfl rfl ⟨by decide, by decide⟩ rfl hl.1 rfl (Nat.le_of_ble_eq_true rfl) dX12_copy_1) (fun H locs hW => ?_)
  refine lv_if_eq (tgt := 14) C.1 C.2.1 dX12_copy_4 (by decide) (fun c21 => ?_) (fun c21 => ?_)
  · have hf := if_t c21 hf
    refine lv_iconst (v := (-1)) C.1 C.2.1 dX12_copy_14 (by decide) ?_
    cases hf
    exact x_iret C hW dX12_copy_15
  · have hf := if_f c21 hf
    refine lv_iload_n C.1 C.2.1 dX12_copy_7 rfl (lv_at hl 3 rfl) ?_
    obtain ⟨x22, m23, r24, hf⟩ := bd2_s hf
    refine x_ci hW (x_runS C hW [.int a3] [] kvX12_isRow q_1147 (tX12_isRow l C.2.2.2.2.2.2.1  r24) rfl rfl ⟨by decide, by decide⟩ rfl hl.1 rfl (Nat.le_of_ble_eq_true rfl) dX12_copy_8) (fun H locs hW => ?_)
    refine lv_if_ne (tgt := 16) C.1 C.2.1 dX12_copy_11 (by decide) (fun c25 => ?_) (fun c25 => ?_)
    · have hf := if_f c25 hf
      refine lv_iload C.1 C.2.1 dX12_copy_16 (lv_at hl 5 rfl) ?_
      refine lv_if_ge (tgt := 27) C.1 C.2.1 dX12_copy_18 (by decide) (fun c26 => ?_) (fun c26 => ?_)
      · have hf := if_t c26 hf
        refine lv_aload_n C.1 C.2.1 dX12_copy_27 rfl (lv_at hl 0 rfl) ?_
        refine x_getr C hW (ha0).1 (ha0).2.1 (j := 5) rfl kX12 (by decide) rfl q_1021 dX12_copy_28 ?_
        refine lv_iload_n C.1 C.2.1 dX12_copy_31 rfl (lv_at hl 1 rfl) ?_
        obtain ⟨g27, hf⟩ := gd_s hf
        refine x_iald C hW ha0.2.2.2.1 g27 dX12_copy_32 ?_
        refine lv_if_lt (tgt := 45) C.1 C.2.1 dX12_copy_33 (by decide) (fun c28 => ?_) (fun c28 => ?_)
        · have hf := if_t c28 hf
          exact wX12_copy_45 C  ha0 hW (lv_sub hl [0] rfl) hf
        · have hf := if_f c28 hf
          refine lv_aload_n C.1 C.2.1 dX12_copy_36 rfl (lv_at hl 0 rfl) ?_
          refine x_getr C hW (ha0).1 (ha0).2.1 (j := 5) rfl kX12 (by decide) rfl q_1021 dX12_copy_37 ?_
          refine lv_iload_n C.1 C.2.1 dX12_copy_40 rfl (lv_at hl 3 rfl) ?_
          obtain ⟨g29, hf⟩ := gd_s hf
          refine x_iald C hW ha0.2.2.2.1 g29 dX12_copy_41 ?_
          refine lv_if_ge (tgt := 51) C.1 C.2.1 dX12_copy_42 (by decide) (fun c30 => ?_) (fun c30 => ?_)
          · have hf := if_t c30 hf
            refine lv_iload_n C.1 C.2.1 dX12_copy_51 rfl (lv_at hl 2 rfl) ?_
            refine lv_if_lt (tgt := 95) C.1 C.2.1 dX12_copy_52 (by decide) (fun c31 => ?_) (fun c31 => ?_)
            · have hf := if_t c31 hf
              exact wX12_copy_95 C  ha0 hW (lv_sub hl [0] rfl) hf
            · have hf := if_f c31 hf
              refine lv_iload C.1 C.2.1 dX12_copy_55 (lv_at hl 4 rfl) ?_
              refine lv_if_lt (tgt := 95) C.1 C.2.1 dX12_copy_57 (by decide) (fun c32 => ?_) (fun c32 => ?_)
              · have hf := if_t c32 hf
                exact wX12_copy_95 C  ha0 hW (lv_sub hl [0] rfl) hf
              · have hf := if_f c32 hf
                refine lv_iload_n C.1 C.2.1 dX12_copy_60 rfl (lv_at hl 2 rfl) ?_
                refine lv_i2l C.1 C.2.1 dX12_copy_61 rfl ?_
                refine lv_iload C.1 C.2.1 dX12_copy_62 (lv_at hl 5 rfl) ?_
                refine lv_i2l C.1 C.2.1 dX12_copy_64 rfl ?_
                refine lv_ladd C.1 C.2.1 dX12_copy_65 ?_
                refine lv_aload_n C.1 C.2.1 dX12_copy_66 rfl (lv_at hl 0 rfl) ?_
                refine x_getr C hW (ha0).1 (ha0).2.1 (j := 5) rfl kX12 (by decide) rfl q_1021 dX12_copy_67 ?_
                refine lv_iload_n C.1 C.2.1 dX12_copy_70 rfl (lv_at hl 1 rfl) ?_
                obtain ⟨g33, hf⟩ := gd_s hf
                refine x_iald C hW ha0.2.2.2.1 g33 dX12_copy_71 ?_
                refine lv_i2l C.1 C.2.1 dX12_copy_72 rfl ?_
                refine W.lcmp C.1 C.2.1 dX12_copy_73 ?_
                refine lv_if_gt (tgt := 95) C.1 C.2.1 dX12_copy_74 (by decide) (fun c34 => ?_) (fun c34 => ?_)
                · have hf := if_t c34 hf
                  exact wX12_copy_95 C  ha0 hW (lv_sub hl [0] rfl) hf
                · have hf := if_f c34 hf
                  refine lv_iload C.1 C.2.1 dX12_copy_77 (lv_at hl 4 rfl) ?_
                  refine lv_i2l C.1 C.2.1 dX12_copy_79 rfl ?_
                  refine lv_iload C.1 C.2.1 dX12_copy_80 (lv_at hl 5 rfl) ?_
                  refine lv_i2l C.1 C.2.1 dX12_copy_82 rfl ?_
                  refine lv_ladd C.1 C.2.1 dX12_copy_83 ?_
                  refine lv_aload_n C.1 C.2.1 dX12_copy_84 rfl (lv_at hl 0 rfl) ?_
                  refine x_getr C hW (ha0).1 (ha0).2.1 (j := 5) rfl kX12 (by decide) rfl q_1021 dX12_copy_85 ?_
                  refine lv_iload_n C.1 C.2.1 dX12_copy_88 rfl (lv_at hl 3 rfl) ?_
                  obtain ⟨g35, hf⟩ := gd_s hf
                  refine x_iald C hW ha0.2.2.2.1 g35 dX12_copy_89 ?_
                  refine lv_i2l C.1 C.2.1 dX12_copy_90 rfl ?_
                  refine W.lcmp C.1 C.2.1 dX12_copy_91 ?_
                  refine lv_if_le (tgt := 101) C.1 C.2.1 dX12_copy_92 (by decide) (fun c36 => ?_) (fun c36 => ?_)
                  · have hf := if_t c36 hf
                    refine lv_iconst (v := 0) C.1 C.2.1 dX12_copy_101 (by decide) ?_
                    refine lv_istore (lv' := [(6, .int 0), (0, .ref (ad a0)), (1, .int a1), (2, .int a2), (3, .int a3), (4, .int a4), (5, .int a5)]) C.1 C.2.1 dX12_copy_102 hl (by decide) rfl (fun ls hl => ?_)
                    exact wX12_copy_104 C  N ha0 hW (lv_sub hl [1, 2, 3, 4, 5, 6, 0] rfl) hf
                  · have hf := if_f c36 hf
                    exact wX12_copy_95 C  ha0 hW (lv_sub hl [0] rfl) hf
          · have hf := if_f c30 hf
            exact wX12_copy_45 C  ha0 hW (lv_sub hl [0] rfl) hf
      · have hf := if_f c26 hf
        refine lv_aload_n C.1 C.2.1 dX12_copy_21 rfl (lv_at hl 0 rfl) ?_
        refine lv_iconst (v := 5) C.1 C.2.1 dX12_copy_22 (by decide) ?_
        obtain ⟨x37, m38, r39, hf⟩ := bd2_s hf
        refine x_ci hW (x_runV C hW [.int 5] [] (ha0).1 (ha0).2.1 kX12.1 kvX12_meet q_1153 (tX12_meet l C.2.2.2.2.2.2.1 ha0 r39) rfl rfl ⟨by decide, by decide⟩ rfl hl.1 rfl (Nat.le_of_ble_eq_true rfl) dX12_copy_23) (fun H locs hW => ?_)
        cases hf
        exact x_iret C hW dX12_copy_26
    · have hf := if_t c25 hf
      refine lv_iconst (v := (-1)) C.1 C.2.1 dX12_copy_14 (by decide) ?_
      cases hf
      exact x_iret C hW dX12_copy_15
set_option maxRecDepth 100000 in
set_option maxHeartbeats 4000000 in
theorem tX12_copy (l : Launch) {D : va_G} {ca ad : Nat → Nat} (hi : Inj ad) {N : Nat} {a0 : Nat} {a1 : Int32} {a2 : Int32} {a3 : Int32} {a4 : Int32} {a5 : Int32} {mm : Mm} {res : Int32 × Mm} (ha0 : sX12 a0) (hf : fX12_copy N a0 a1 a2 a3 a4 a5 mm = some res) : Met l yX12_copy (WS yX12_copy cX12_copy 7 (some .int)) (rmX12_copy) (va_Pc [.ref (ad a0), .int a1, .int a2, .int a3, .int a4, .int a5] (WB D ca ad mm)) (QI D ca ad res) 0 0 (AA ad) := by
  refine x_start hi (by decide) rfl (Nat.le_of_ble_eq_true rfl) (fun p e s m args below meth c ls C hW hl => ?_)
  exact wX12_copy_0 C ha0 hW (lv_sub hl [0, 1, 2, 3, 4, 5] rfl) hf
set_option maxRecDepth 100000 in
set_option maxHeartbeats 4000000 in
theorem wX12_mean_17 (C : Cx p s m meth c args cX12_mean 6 (some .int) RX12 D ca ad) {res : Int32 × Mm} {N : Nat}  : ∀ (n : Nat) {a0 : Nat} {a1 : Int32} {a3 : Int64} {a5 : Int32} {mm : Mm} {H : Heap} {locs : List Loc} {ls : Array Slot}, (sX12 a0) → Wd D ca ad s.heap mm H locs → lv_has ls 6 [(0, .ref (ad a0)), (1, .int a1), (3, .long a3), (5, .int a5)] → fX12_mean_17 N n a0 a1 a3 a5 mm = some res → W p l e (rmX12_mean) s m args below meth c H locs 0 0 (MQ below (QI D ca ad res) args s 0 0 (AA ad)) (F0 m 17 ls []) := by
  intro n
  induction n with
  | zero => intro a0 a1 a3 a5 mm H locs ls ha0 hW hl hf; cases hf
  | succ n ih =>
    intro a0 a1 a3 a5 mm H locs ls ha0 hW hl hf
    have hk17 : ∀ (a0 : Nat) (a1 : Int32) (a3 : Int64) (a5 : Int32) (mm : Mm) (H : Heap) (locs : List Loc) (ls : Array Slot), (sX12 a0) → Wd D ca ad s.heap mm H locs → lv_has ls 6 [(0, .ref (ad a0)), (1, .int a1), (3, .long a3), (5, .int a5)] → (fX12_mean_17 N n) a0 a1 a3 a5 mm = some res → W p l e (rmX12_mean) s m args below meth c H locs 0 0 (MQ below (QI D ca ad res) args s 0 0 (AA ad)) (F0 m 17 ls []) := fun a0 a1 a3 a5 mm H locs ls ha0 hW hl hf => ih ha0 hW hl hf
    unfold fX12_mean_17 at hf
    try dsimp only at hf
    refine lv_iload C.1 C.2.1 dX12_mean_17 (lv_at hl 3 rfl) ?_
    refine lv_aload_n C.1 C.2.1 dX12_mean_19 rfl (lv_at hl 0 rfl) ?_
    refine x_getr C hW (ha0).1 (ha0).2.1 (j := 5) rfl kX12 (by decide) rfl q_1021 dX12_mean_20 ?_
    refine lv_iload_n C.1 C.2.1 dX12_mean_23 rfl (lv_at hl 1 rfl) ?_
    obtain ⟨g1, hf⟩ := gd_s hf
    refine x_iald C hW ha0.2.2.2.1 g1 dX12_mean_24 ?_
    refine lv_icmp_ge (tgt := 45) C.1 C.2.1 dX12_mean_25 (by decide) (fun c2 => ?_) (fun c2 => ?_)
    · have hf := if_t c2 hf
      refine lv_aload_n C.1 C.2.1 dX12_mean_45 rfl (lv_at hl 0 rfl) ?_
      refine x_getr C hW (ha0).1 (ha0).2.1 (j := 5) rfl kX12 (by decide) rfl q_1021 dX12_mean_46 ?_
      refine lv_iload_n C.1 C.2.1 dX12_mean_49 rfl (lv_at hl 1 rfl) ?_
      obtain ⟨g3, hf⟩ := gd_s hf
      refine x_iald C hW ha0.2.2.2.1 g3 dX12_mean_50 ?_
      refine lv_if_ne (tgt := 62) C.1 C.2.1 dX12_mean_51 (by decide) (fun c4 => ?_) (fun c4 => ?_)
      · have hf := if_f c4 hf
        refine lv_aload_n C.1 C.2.1 dX12_mean_62 rfl (lv_at hl 0 rfl) ?_
        refine lv_lload_n C.1 C.2.1 dX12_mean_63 rfl (lv_at hl 2 rfl) ?_
        refine lv_aload_n C.1 C.2.1 dX12_mean_64 rfl (lv_at hl 0 rfl) ?_
        refine x_getr C hW (ha0).1 (ha0).2.1 (j := 5) rfl kX12 (by decide) rfl q_1021 dX12_mean_65 ?_
        refine lv_iload_n C.1 C.2.1 dX12_mean_68 rfl (lv_at hl 1 rfl) ?_
        obtain ⟨g5, hf⟩ := gd_s hf
        refine x_iald C hW ha0.2.2.2.1 g5 dX12_mean_69 ?_
        refine lv_i2l C.1 C.2.1 dX12_mean_70 rfl ?_
        obtain ⟨g6, hf⟩ := gd_s hf
        refine lv_ldiv C.1 C.2.1 dX12_mean_71 (of_decide_eq_true g6) ?_
        refine lv_l2i C.1 C.2.1 dX12_mean_72 rfl ?_
        refine lv_iconst (v := 1) C.1 C.2.1 dX12_mean_73 (by decide) ?_
        obtain ⟨x7, m8, r9, hf⟩ := bd2_s hf
        refine x_ci hW (x_runV C hW [.int ((a3 / ((rd mm (fr a0 5) a1.toNatClampNeg).toInt64)).toInt32), .int 1] [] (ha0).1 (ha0).2.1 kX12.1 kvX12_ask q_1173 (tX12_ask l C.2.2.2.2.2.2.1 ha0 r9) rfl rfl ⟨by decide, by decide⟩ rfl hl.1 rfl (Nat.le_of_ble_eq_true rfl) dX12_mean_74) (fun H locs hW => ?_)
        cases hf
        exact x_iret C hW dX12_mean_77
      · have hf := if_t c4 hf
        refine lv_aload_n C.1 C.2.1 dX12_mean_54 rfl (lv_at hl 0 rfl) ?_
        refine lv_iconst (v := 4) C.1 C.2.1 dX12_mean_55 (by decide) ?_
        obtain ⟨x10, m11, r12, hf⟩ := bd2_s hf
        refine x_ci hW (x_runV C hW [.int 4] [] (ha0).1 (ha0).2.1 kX12.1 kvX12_meet q_1153 (tX12_meet l C.2.2.2.2.2.2.1 ha0 r12) rfl rfl ⟨by decide, by decide⟩ rfl hl.1 rfl (Nat.le_of_ble_eq_true rfl) dX12_mean_56) (fun H locs hW => ?_)
        refine lv_goto (tgt := 77) C.1 C.2.1 dX12_mean_59 (by decide) ?_
        cases hf
        exact x_iret C hW dX12_mean_77
    · have hf := if_f c2 hf
      refine lv_lload_n C.1 C.2.1 dX12_mean_28 rfl (lv_at hl 2 rfl) ?_
      refine lv_aload_n C.1 C.2.1 dX12_mean_29 rfl (lv_at hl 0 rfl) ?_
      refine lv_iload_n C.1 C.2.1 dX12_mean_30 rfl (lv_at hl 1 rfl) ?_
      refine lv_iload C.1 C.2.1 dX12_mean_31 (lv_at hl 3 rfl) ?_
      obtain ⟨x13, m14, r15, hf⟩ := bd2_s hf
      refine x_ci hW (x_runV C hW [.int a1, .int a5] [.long a3] (ha0).1 (ha0).2.1 kX12.1 kvX12_rowAt q_1169 (tX12_rowAt l C.2.2.2.2.2.2.1 ha0 r15) rfl rfl ⟨by decide, by decide⟩ rfl hl.1 rfl (Nat.le_of_ble_eq_true rfl) dX12_mean_33) (fun H locs hW => ?_)
      refine lv_i2l C.1 C.2.1 dX12_mean_36 rfl ?_
      refine lv_ladd C.1 C.2.1 dX12_mean_37 ?_
      refine lv_lstore_n (lv' := [(3, .long (a3 + x13.toInt64)), (0, .ref (ad a0)), (1, .int a1), (5, .int a5)]) C.1 C.2.1 dX12_mean_38 rfl hl (by decide) rfl (fun ls hl => ?_)
      refine lv_iinc (v := (a5 + 1)) (lv' := [(5, .int (a5 + 1)), (3, .long (a3 + x13.toInt64)), (0, .ref (ad a0)), (1, .int a1)]) C.1 C.2.1 dX12_mean_39 hl (k := 3) rfl rfl (by decide) rfl (fun ls hl => ?_)
      refine lv_goto (tgt := 17) C.1 C.2.1 dX12_mean_42 (by decide) ?_
      exact hk17 _ _ _ _ _ _ _ _ ha0 hW (lv_sub hl [2, 3, 1, 0] rfl) hf
set_option maxRecDepth 100000 in
set_option maxHeartbeats 4000000 in
theorem wX12_mean_0 (C : Cx p s m meth c args cX12_mean 6 (some .int) RX12 D ca ad) {res : Int32 × Mm} {N : Nat}  {a0 : Nat} {a1 : Int32} {mm : Mm} {H : Heap} {locs : List Loc} {ls : Array Slot} (ha0 : sX12 a0) (hW : Wd D ca ad s.heap mm H locs) (hl : lv_has ls 6 [(0, .ref (ad a0)), (1, .int a1)]) (hf : fX12_mean N a0 a1 mm = some res) : W p l e (rmX12_mean) s m args below meth c H locs 0 0 (MQ below (QI D ca ad res) args s 0 0 (AA ad)) (F0 m 0 ls []) := by
  unfold fX12_mean at hf
  refine lv_aload_n C.1 C.2.1 dX12_mean_0 rfl (lv_at hl 0 rfl) ?_
  refine lv_iload_n C.1 C.2.1 dX12_mean_1 rfl (lv_at hl 1 rfl) ?_
  obtain ⟨x16, m17, r18, hf⟩ := bd2_s hf
  refine x_ci hW (x_runV C hW [.int a1] [] (ha0).1 (ha0).2.1 kX12.1 kvX12_askedRow q_1165 (tX12_askedRow l C.2.2.2.2.2.2.1 ha0 r18) rfl rfl ⟨by decide, by decide⟩ rfl hl.1 rfl (Nat.le_of_ble_eq_true rfl) dX12_mean_2) (fun H locs hW => ?_)
  refine lv_istore_n (lv' := [(2, .int x16), (0, .ref (ad a0)), (1, .int a1)]) C.1 C.2.1 dX12_mean_5 rfl hl (by decide) rfl (fun ls hl => ?_)
  refine lv_iload_n C.1 C.2.1 dX12_mean_6 rfl (lv_at hl 0 rfl) ?_
  refine lv_if_ge (tgt := 12) C.1 C.2.1 dX12_mean_7 (by decide) (fun c19 => ?_) (fun c19 => ?_)
  · have hf := if_t c19 hf
    refine lv_lconst (v := 0) C.1 C.2.1 dX12_mean_12 (by decide) ?_
    refine lv_lstore_n (lv' := [(3, .long 0), (2, .int x16), (0, .ref (ad a0)), (1, .int a1)]) C.1 C.2.1 dX12_mean_13 rfl hl (by decide) rfl (fun ls hl => ?_)
    refine lv_iconst (v := 0) C.1 C.2.1 dX12_mean_14 (by decide) ?_
    refine lv_istore (lv' := [(5, .int 0), (3, .long 0), (2, .int x16), (0, .ref (ad a0)), (1, .int a1)]) C.1 C.2.1 dX12_mean_15 hl (by decide) rfl (fun ls hl => ?_)
    exact wX12_mean_17 C  N ha0 hW (lv_sub hl [3, 4, 1, 0] rfl) hf
  · have hf := if_f c19 hf
    refine lv_iload_n C.1 C.2.1 dX12_mean_10 rfl (lv_at hl 0 rfl) ?_
    cases hf
    exact x_iret C hW dX12_mean_11
set_option maxRecDepth 100000 in
set_option maxHeartbeats 4000000 in
theorem tX12_mean (l : Launch) {D : va_G} {ca ad : Nat → Nat} (hi : Inj ad) {N : Nat} {a0 : Nat} {a1 : Int32} {mm : Mm} {res : Int32 × Mm} (ha0 : sX12 a0) (hf : fX12_mean N a0 a1 mm = some res) : Met l yX12_mean (WS yX12_mean cX12_mean 6 (some .int)) (rmX12_mean) (va_Pc [.ref (ad a0), .int a1] (WB D ca ad mm)) (QI D ca ad res) 0 0 (AA ad) := by
  refine x_start hi (by decide) rfl (Nat.le_of_ble_eq_true rfl) (fun p e s m args below meth c ls C hW hl => ?_)
  exact wX12_mean_0 C ha0 hW (lv_sub hl [0, 1] rfl) hf
set_option maxRecDepth 100000 in
set_option maxHeartbeats 4000000 in
theorem wX12_text_34 (C : Cx p s m meth c args cX12_text 4 (some .int) RX12 D ca ad) {res : Int32 × Mm} {N : Nat}  : ∀ (n : Nat) {a0 : Nat} {a1 : Int32} {a2 : Int32} {a3 : Int32} {mm : Mm} {H : Heap} {locs : List Loc} {ls : Array Slot}, (sX12 a0) → Wd D ca ad s.heap mm H locs → lv_has ls 4 [(0, .ref (ad a0)), (1, .int a1), (2, .int a2), (3, .int a3)] → fX12_text_34 N n a0 a1 a2 a3 mm = some res → W p l e (rmX12_text) s m args below meth c H locs 0 0 (MQ below (QI D ca ad res) args s 0 0 (AA ad)) (F0 m 34 ls []) := by
  intro n
  induction n with
  | zero => intro a0 a1 a2 a3 mm H locs ls ha0 hW hl hf; cases hf
  | succ n ih =>
    intro a0 a1 a2 a3 mm H locs ls ha0 hW hl hf
    have hk34 : ∀ (a0 : Nat) (a1 : Int32) (a2 : Int32) (a3 : Int32) (mm : Mm) (H : Heap) (locs : List Loc) (ls : Array Slot), (sX12 a0) → Wd D ca ad s.heap mm H locs → lv_has ls 4 [(0, .ref (ad a0)), (1, .int a1), (2, .int a2), (3, .int a3)] → (fX12_text_34 N n) a0 a1 a2 a3 mm = some res → W p l e (rmX12_text) s m args below meth c H locs 0 0 (MQ below (QI D ca ad res) args s 0 0 (AA ad)) (F0 m 34 ls []) := fun a0 a1 a2 a3 mm H locs ls ha0 hW hl hf => ih ha0 hW hl hf
    unfold fX12_text_34 at hf
    try dsimp only at hf
    refine lv_iload_n C.1 C.2.1 dX12_text_34 rfl (lv_at hl 3 rfl) ?_
    refine lv_bipush (v := 80) C.1 C.2.1 dX12_text_35 (by decide) ?_
    refine lv_icmp_ge (tgt := 59) C.1 C.2.1 dX12_text_37 (by decide) (fun c1 => ?_) (fun c1 => ?_)
    · have hf := if_t c1 hf
      refine lv_iload_n C.1 C.2.1 dX12_text_59 rfl (lv_at hl 2 rfl) ?_
      cases hf
      exact x_iret C hW dX12_text_60
    · have hf := if_f c1 hf
      refine lv_aload_n C.1 C.2.1 dX12_text_40 rfl (lv_at hl 0 rfl) ?_
      refine x_getr C hW (ha0).1 (ha0).2.1 (j := 9) rfl kX12 (by decide) rfl q_1025 dX12_text_41 ?_
      refine lv_bipush (v := 80) C.1 C.2.1 dX12_text_44 (by decide) ?_
      refine lv_iload_n C.1 C.2.1 dX12_text_46 rfl (lv_at hl 1 rfl) ?_
      refine lv_imul C.1 C.2.1 dX12_text_47 ?_
      refine lv_iload_n C.1 C.2.1 dX12_text_48 rfl (lv_at hl 3 rfl) ?_
      refine lv_iadd C.1 C.2.1 dX12_text_49 ?_
      refine lv_bipush (v := 32) C.1 C.2.1 dX12_text_50 (by decide) ?_
      obtain ⟨g2, hf⟩ := gd_s hf
      refine x_iast C hW ha0.2.2.2.2.2.2.2.1 g2 dX12_text_52 (fun H locs hW => ?_)
      obtain ⟨m3, em3⟩ : ∃ z, z = wr mm (fr a0 9) ((80 * a1) + a3).toNatClampNeg 32 := ⟨_, rfl⟩
      have hf := nm_s hf em3
      rw [← em3] at hW
      refine lv_iinc (v := (a3 + 1)) (lv' := [(3, .int (a3 + 1)), (0, .ref (ad a0)), (1, .int a1), (2, .int a2)]) C.1 C.2.1 dX12_text_53 hl (k := 3) rfl rfl (by decide) rfl (fun ls hl => ?_)
      refine lv_goto (tgt := 34) C.1 C.2.1 dX12_text_56 (by decide) ?_
      exact hk34 _ _ _ _ _ _ _ _ ha0 hW (lv_sub hl [1, 2, 3, 0] rfl) hf
set_option maxRecDepth 100000 in
set_option maxHeartbeats 4000000 in
theorem wX12_text_0 (C : Cx p s m meth c args cX12_text 4 (some .int) RX12 D ca ad) {res : Int32 × Mm} {N : Nat}  {a0 : Nat} {a1 : Int32} {a2 : Int32} {mm : Mm} {H : Heap} {locs : List Loc} {ls : Array Slot} (ha0 : sX12 a0) (hW : Wd D ca ad s.heap mm H locs) (hl : lv_has ls 4 [(0, .ref (ad a0)), (1, .int a1), (2, .int a2)]) (hf : fX12_text N a0 a1 a2 mm = some res) : W p l e (rmX12_text) s m args below meth c H locs 0 0 (MQ below (QI D ca ad res) args s 0 0 (AA ad)) (F0 m 0 ls []) := by
  unfold fX12_text at hf
  refine lv_iload_n C.1 C.2.1 dX12_text_0 rfl (lv_at hl 1 rfl) ?_
  obtain ⟨x4, m5, r6, hf⟩ := bd2_s hf
  refine x_ci hW (x_runS C hW [.int a1] [] kvX12_isText q_1198 (tX12_isText l C.2.2.2.2.2.2.1  r6) rfl rfl ⟨by decide, by decide⟩ rfl hl.1 rfl (Nat.le_of_ble_eq_true rfl) dX12_text_1) (fun H locs hW => ?_)
  refine lv_if_eq (tgt := 13) C.1 C.2.1 dX12_text_4 (by decide) (fun c7 => ?_) (fun c7 => ?_)
  · have hf := if_t c7 hf
    refine lv_iconst (v := (-1)) C.1 C.2.1 dX12_text_13 (by decide) ?_
    cases hf
    exact x_iret C hW dX12_text_14
  · have hf := if_f c7 hf
    refine lv_iload_n C.1 C.2.1 dX12_text_7 rfl (lv_at hl 2 rfl) ?_
    refine lv_bipush (v := 80) C.1 C.2.1 dX12_text_8 (by decide) ?_
    refine lv_icmp_le (tgt := 15) C.1 C.2.1 dX12_text_10 (by decide) (fun c8 => ?_) (fun c8 => ?_)
    · have hf := if_t c8 hf
      refine lv_iload_n C.1 C.2.1 dX12_text_15 rfl (lv_at hl 2 rfl) ?_
      refine lv_if_ge (tgt := 25) C.1 C.2.1 dX12_text_16 (by decide) (fun c9 => ?_) (fun c9 => ?_)
      · have hf := if_t c9 hf
        refine lv_aload_n C.1 C.2.1 dX12_text_25 rfl (lv_at hl 0 rfl) ?_
        refine x_getr C hW (ha0).1 (ha0).2.1 (j := 8) rfl kX12 (by decide) rfl q_1024 dX12_text_26 ?_
        refine lv_iload_n C.1 C.2.1 dX12_text_29 rfl (lv_at hl 1 rfl) ?_
        refine lv_iload_n C.1 C.2.1 dX12_text_30 rfl (lv_at hl 2 rfl) ?_
        obtain ⟨g10, hf⟩ := gd_s hf
        refine x_iast C hW ha0.2.2.2.2.2.2.1 g10 dX12_text_31 (fun H locs hW => ?_)
        obtain ⟨m11, em11⟩ : ∃ z, z = wr m5 (fr a0 8) a1.toNatClampNeg a2 := ⟨_, rfl⟩
        have hf := nm_s hf em11
        rw [← em11] at hW
        refine lv_iconst (v := 0) C.1 C.2.1 dX12_text_32 (by decide) ?_
        refine lv_istore_n (lv' := [(3, .int 0), (0, .ref (ad a0)), (1, .int a1), (2, .int a2)]) C.1 C.2.1 dX12_text_33 rfl hl (by decide) rfl (fun ls hl => ?_)
        exact wX12_text_34 C  N ha0 hW (lv_sub hl [1, 2, 3, 0] rfl) hf
      · have hf := if_f c9 hf
        refine lv_aload_n C.1 C.2.1 dX12_text_19 rfl (lv_at hl 0 rfl) ?_
        refine lv_iconst (v := 5) C.1 C.2.1 dX12_text_20 (by decide) ?_
        obtain ⟨x12, m13, r14, hf⟩ := bd2_s hf
        refine x_ci hW (x_runV C hW [.int 5] [] (ha0).1 (ha0).2.1 kX12.1 kvX12_meet q_1153 (tX12_meet l C.2.2.2.2.2.2.1 ha0 r14) rfl rfl ⟨by decide, by decide⟩ rfl hl.1 rfl (Nat.le_of_ble_eq_true rfl) dX12_text_21) (fun H locs hW => ?_)
        cases hf
        exact x_iret C hW dX12_text_24
    · have hf := if_f c8 hf
      refine lv_iconst (v := (-1)) C.1 C.2.1 dX12_text_13 (by decide) ?_
      cases hf
      exact x_iret C hW dX12_text_14
set_option maxRecDepth 100000 in
set_option maxHeartbeats 4000000 in
theorem tX12_text (l : Launch) {D : va_G} {ca ad : Nat → Nat} (hi : Inj ad) {N : Nat} {a0 : Nat} {a1 : Int32} {a2 : Int32} {mm : Mm} {res : Int32 × Mm} (ha0 : sX12 a0) (hf : fX12_text N a0 a1 a2 mm = some res) : Met l yX12_text (WS yX12_text cX12_text 4 (some .int)) (rmX12_text) (va_Pc [.ref (ad a0), .int a1, .int a2] (WB D ca ad mm)) (QI D ca ad res) 0 0 (AA ad) := by
  refine x_start hi (by decide) rfl (Nat.le_of_ble_eq_true rfl) (fun p e s m args below meth c ls C hW hl => ?_)
  exact wX12_text_0 C ha0 hW (lv_sub hl [0, 1, 2] rfl) hf
set_option maxRecDepth 100000 in
set_option maxHeartbeats 4000000 in
theorem wX12_put_0 (C : Cx p s m meth c args cX12_put 6 (some .int) RX12 D ca ad) {res : Int32 × Mm} {N : Nat}  {a0 : Nat} {a1 : Int32} {a2 : Int32} {a3 : Int32} {mm : Mm} {H : Heap} {locs : List Loc} {ls : Array Slot} (ha0 : sX12 a0) (hW : Wd D ca ad s.heap mm H locs) (hl : lv_has ls 6 [(0, .ref (ad a0)), (1, .int a1), (2, .int a2), (3, .int a3)]) (hf : fX12_put N a0 a1 a2 a3 mm = some res) : W p l e (rmX12_put) s m args below meth c H locs 0 0 (MQ below (QI D ca ad res) args s 0 0 (AA ad)) (F0 m 0 ls []) := by
  unfold fX12_put at hf
  refine lv_aload_n C.1 C.2.1 dX12_put_0 rfl (lv_at hl 0 rfl) ?_
  refine lv_iload_n C.1 C.2.1 dX12_put_1 rfl (lv_at hl 1 rfl) ?_
  obtain ⟨x1, m2, r3, hf⟩ := bd2_s hf
  refine x_ci hW (x_runV C hW [.int a1] [] (ha0).1 (ha0).2.1 kX12.1 kvX12_askedText q_1205 (tX12_askedText l C.2.2.2.2.2.2.1 ha0 r3) rfl rfl ⟨by decide, by decide⟩ rfl hl.1 rfl (Nat.le_of_ble_eq_true rfl) dX12_put_2) (fun H locs hW => ?_)
  refine lv_istore (lv' := [(4, .int x1), (0, .ref (ad a0)), (1, .int a1), (2, .int a2), (3, .int a3)]) C.1 C.2.1 dX12_put_5 hl (by decide) rfl (fun ls hl => ?_)
  refine lv_iload C.1 C.2.1 dX12_put_7 (lv_at hl 0 rfl) ?_
  refine lv_if_ge (tgt := 15) C.1 C.2.1 dX12_put_9 (by decide) (fun c4 => ?_) (fun c4 => ?_)
  · have hf := if_t c4 hf
    refine lv_iload_n C.1 C.2.1 dX12_put_15 rfl (lv_at hl 3 rfl) ?_
    refine lv_iconst (v := 0) C.1 C.2.1 dX12_put_16 (by decide) ?_
    refine lv_aload_n C.1 C.2.1 dX12_put_17 rfl (lv_at hl 1 rfl) ?_
    refine x_getr C hW (ha0).1 (ha0).2.1 (j := 8) rfl kX12 (by decide) rfl q_1024 dX12_put_18 ?_
    refine lv_iload_n C.1 C.2.1 dX12_put_21 rfl (lv_at hl 2 rfl) ?_
    obtain ⟨g5, hf⟩ := gd_s hf
    refine x_iald C hW ha0.2.2.2.2.2.2.1 g5 dX12_put_22 ?_
    refine lv_iconst (v := 1) C.1 C.2.1 dX12_put_23 (by decide) ?_
    refine lv_isub C.1 C.2.1 dX12_put_24 ?_
    obtain ⟨x6, m7, r8, hf⟩ := bd2_s hf
    refine x_ci hW (x_runS C hW [.int a2, .int 0, .int ((rd m2 (fr a0 8) a1.toNatClampNeg) - 1)] [] kvX12_in q_1150 (tX12_in l C.2.2.2.2.2.2.1  r8) rfl rfl ⟨by decide, by decide⟩ rfl hl.1 rfl (Nat.le_of_ble_eq_true rfl) dX12_put_25) (fun H locs hW => ?_)
    refine lv_if_ne (tgt := 37) C.1 C.2.1 dX12_put_28 (by decide) (fun c9 => ?_) (fun c9 => ?_)
    · have hf := if_f c9 hf
      refine lv_aload_n C.1 C.2.1 dX12_put_37 rfl (lv_at hl 1 rfl) ?_
      refine x_getr C hW (ha0).1 (ha0).2.1 (j := 9) rfl kX12 (by decide) rfl q_1025 dX12_put_38 ?_
      refine lv_bipush (v := 80) C.1 C.2.1 dX12_put_41 (by decide) ?_
      refine lv_iload_n C.1 C.2.1 dX12_put_43 rfl (lv_at hl 2 rfl) ?_
      refine lv_imul C.1 C.2.1 dX12_put_44 ?_
      refine lv_iload_n C.1 C.2.1 dX12_put_45 rfl (lv_at hl 3 rfl) ?_
      refine lv_iadd C.1 C.2.1 dX12_put_46 ?_
      obtain ⟨g10, hf⟩ := gd_s hf
      refine x_iald C hW ha0.2.2.2.2.2.2.2.1 g10 dX12_put_47 ?_
      refine lv_topi (fun x11 ex11 => ?_)
      have hf := nm_s hf ex11
      refine lv_istore (lv' := [(5, .int x11), (4, .int x1), (0, .ref (ad a0)), (1, .int a1), (2, .int a2), (3, .int a3)]) C.1 C.2.1 dX12_put_48 hl (by decide) rfl (fun ls hl => ?_)
      refine lv_aload_n C.1 C.2.1 dX12_put_50 rfl (lv_at hl 2 rfl) ?_
      refine x_getr C hW (ha0).1 (ha0).2.1 (j := 9) rfl kX12 (by decide) rfl q_1025 dX12_put_51 ?_
      refine lv_bipush (v := 80) C.1 C.2.1 dX12_put_54 (by decide) ?_
      refine lv_iload_n C.1 C.2.1 dX12_put_56 rfl (lv_at hl 3 rfl) ?_
      refine lv_imul C.1 C.2.1 dX12_put_57 ?_
      refine lv_iload_n C.1 C.2.1 dX12_put_58 rfl (lv_at hl 4 rfl) ?_
      refine lv_iadd C.1 C.2.1 dX12_put_59 ?_
      refine lv_iload_n C.1 C.2.1 dX12_put_60 rfl (lv_at hl 5 rfl) ?_
      refine lv_i2b C.1 C.2.1 dX12_put_61 rfl ?_
      obtain ⟨g12, hf⟩ := gd_s hf
      refine x_iast C hW ha0.2.2.2.2.2.2.2.1 g12 dX12_put_62 (fun H locs hW => ?_)
      obtain ⟨m13, em13⟩ : ∃ z, z = wr m7 (fr a0 9) ((80 * a1) + a2).toNatClampNeg a3.toInt8.toInt32 := ⟨_, rfl⟩
      have hf := nm_s hf em13
      rw [← em13] at hW
      refine lv_iload C.1 C.2.1 dX12_put_63 (lv_at hl 0 rfl) ?_
      refine lv_sipush (v := 1000) C.1 C.2.1 dX12_put_65 (by decide) ?_
      refine lv_iadd C.1 C.2.1 dX12_put_68 ?_
      cases hf
      exact x_iret C hW dX12_put_69
    · have hf := if_t c9 hf
      refine lv_aload_n C.1 C.2.1 dX12_put_31 rfl (lv_at hl 1 rfl) ?_
      refine lv_iconst (v := 2) C.1 C.2.1 dX12_put_32 (by decide) ?_
      obtain ⟨x14, m15, r16, hf⟩ := bd2_s hf
      refine x_ci hW (x_runV C hW [.int 2] [] (ha0).1 (ha0).2.1 kX12.1 kvX12_meet q_1153 (tX12_meet l C.2.2.2.2.2.2.1 ha0 r16) rfl rfl ⟨by decide, by decide⟩ rfl hl.1 rfl (Nat.le_of_ble_eq_true rfl) dX12_put_33) (fun H locs hW => ?_)
      cases hf
      exact x_iret C hW dX12_put_36
  · have hf := if_f c4 hf
    refine lv_iload C.1 C.2.1 dX12_put_12 (lv_at hl 0 rfl) ?_
    cases hf
    exact x_iret C hW dX12_put_14
set_option maxRecDepth 100000 in
set_option maxHeartbeats 4000000 in
theorem tX12_put (l : Launch) {D : va_G} {ca ad : Nat → Nat} (hi : Inj ad) {N : Nat} {a0 : Nat} {a1 : Int32} {a2 : Int32} {a3 : Int32} {mm : Mm} {res : Int32 × Mm} (ha0 : sX12 a0) (hf : fX12_put N a0 a1 a2 a3 mm = some res) : Met l yX12_put (WS yX12_put cX12_put 6 (some .int)) (rmX12_put) (va_Pc [.ref (ad a0), .int a1, .int a2, .int a3] (WB D ca ad mm)) (QI D ca ad res) 0 0 (AA ad) := by
  refine x_start hi (by decide) rfl (Nat.le_of_ble_eq_true rfl) (fun p e s m args below meth c ls C hW hl => ?_)
  exact wX12_put_0 C ha0 hW (lv_sub hl [0, 1, 2, 3] rfl) hf
end W_model20
