theorem dX12_answer_0 : decode cX12_answer 0 = .ok (.aload_n 0, 1) := by decide +kernel
theorem dX12_answer_1 : decode cX12_answer 1 = .ok (.iload_n 1, 1) := by decide +kernel
theorem dX12_answer_2 : decode cX12_answer 2 = .ok (.invokevirtual 165, 3) := by decide +kernel
theorem dX12_answer_5 : decode cX12_answer 5 = .ok (.ifCond .eq 21, 3) := by decide +kernel
theorem dX12_answer_8 : decode cX12_answer 8 = .ok (.iload_n 2, 1) := by decide +kernel
theorem dX12_answer_9 : decode cX12_answer 9 = .ok (.iload_n 3, 1) := by decide +kernel
theorem dX12_answer_10 : decode cX12_answer 10 = .ok (.invokestatic 304, 3) := by decide +kernel
theorem dX12_answer_13 : decode cX12_answer 13 = .ok (.ifCond .eq 13, 3) := by decide +kernel
theorem dX12_answer_16 : decode cX12_answer 16 = .ok (.iload 4, 2) := by decide +kernel
theorem dX12_answer_18 : decode cX12_answer 18 = .ok (.iconst 0, 1) := by decide +kernel
theorem dX12_answer_19 : decode cX12_answer 19 = .ok (.iload_n 2, 1) := by decide +kernel
theorem dX12_answer_20 : decode cX12_answer 20 = .ok (.invokestatic 87, 3) := by decide +kernel
theorem dX12_answer_23 : decode cX12_answer 23 = .ok (.ifCond .ne 5, 3) := by decide +kernel
theorem dX12_answer_26 : decode cX12_answer 26 = .ok (.iconst (-1), 1) := by decide +kernel
theorem dX12_answer_27 : decode cX12_answer 27 = .ok (.ireturn, 1) := by decide +kernel
theorem dX12_answer_28 : decode cX12_answer 28 = .ok (.aload_n 0, 1) := by decide +kernel
theorem dX12_answer_29 : decode cX12_answer 29 = .ok (.invokevirtual 301, 3) := by decide +kernel
theorem dX12_answer_32 : decode cX12_answer 32 = .ok (.aload_n 0, 1) := by decide +kernel
theorem dX12_answer_33 : decode cX12_answer 33 = .ok (.iload_n 1, 1) := by decide +kernel
theorem dX12_answer_34 : decode cX12_answer 34 = .ok (.iload_n 2, 1) := by decide +kernel
theorem dX12_answer_35 : decode cX12_answer 35 = .ok (.iload_n 3, 1) := by decide +kernel
theorem dX12_answer_36 : decode cX12_answer 36 = .ok (.iload 4, 2) := by decide +kernel
theorem dX12_answer_38 : decode cX12_answer 38 = .ok (.invokevirtual 292, 3) := by decide +kernel
theorem dX12_answer_41 : decode cX12_answer 41 = .ok (.pop, 1) := by decide +kernel
theorem dX12_answer_42 : decode cX12_answer 42 = .ok (.aload_n 0, 1) := by decide +kernel
theorem dX12_answer_43 : decode cX12_answer 43 = .ok (.getfield 289, 3) := by decide +kernel
theorem dX12_answer_46 : decode cX12_answer 46 = .ok (.ireturn, 1) := by decide +kernel
theorem dX12_lender_0 : decode cX12_lender 0 = .ok (.iload_n 1, 1) := by decide +kernel
theorem dX12_lender_1 : decode cX12_lender 1 = .ok (.iconst 0, 1) := by decide +kernel
theorem dX12_lender_2 : decode cX12_lender 2 = .ok (.iconst 3, 1) := by decide +kernel
theorem dX12_lender_3 : decode cX12_lender 3 = .ok (.invokestatic 87, 3) := by decide +kernel
theorem dX12_lender_6 : decode cX12_lender 6 = .ok (.ifCond .eq 13, 3) := by decide +kernel
theorem dX12_lender_9 : decode cX12_lender 9 = .ok (.iload_n 2, 1) := by decide +kernel
theorem dX12_lender_10 : decode cX12_lender 10 = .ok (.iconst 0, 1) := by decide +kernel
theorem dX12_lender_11 : decode cX12_lender 11 = .ok (.bipush 20, 2) := by decide +kernel
theorem dX12_lender_13 : decode cX12_lender 13 = .ok (.invokestatic 87, 3) := by decide +kernel
theorem dX12_lender_16 : decode cX12_lender 16 = .ok (.ifCond .ne 5, 3) := by decide +kernel
theorem dX12_lender_19 : decode cX12_lender 19 = .ok (.iconst (-1), 1) := by decide +kernel
theorem dX12_lender_20 : decode cX12_lender 20 = .ok (.ireturn, 1) := by decide +kernel
theorem dX12_lender_21 : decode cX12_lender 21 = .ok (.aload_n 0, 1) := by decide +kernel
theorem dX12_lender_22 : decode cX12_lender 22 = .ok (.getfield 62, 3) := by decide +kernel
theorem dX12_lender_25 : decode cX12_lender 25 = .ok (.iload_n 1, 1) := by decide +kernel
theorem dX12_lender_26 : decode cX12_lender 26 = .ok (.iaload, 1) := by decide +kernel
theorem dX12_lender_27 : decode cX12_lender 27 = .ok (.istore_n 3, 1) := by decide +kernel
theorem dX12_lender_28 : decode cX12_lender 28 = .ok (.aload_n 0, 1) := by decide +kernel
theorem dX12_lender_29 : decode cX12_lender 29 = .ok (.getfield 62, 3) := by decide +kernel
theorem dX12_lender_32 : decode cX12_lender 32 = .ok (.iload_n 1, 1) := by decide +kernel
theorem dX12_lender_33 : decode cX12_lender 33 = .ok (.iload_n 2, 1) := by decide +kernel
theorem dX12_lender_34 : decode cX12_lender 34 = .ok (.iastore, 1) := by decide +kernel
theorem dX12_lender_35 : decode cX12_lender 35 = .ok (.iload_n 3, 1) := by decide +kernel
theorem dX12_lender_36 : decode cX12_lender 36 = .ok (.ireturn, 1) := by decide +kernel
theorem dX12_stockWith_0 : decode cX12_stockWith 0 = .ok (.aload_n 0, 1) := by decide +kernel
theorem dX12_stockWith_1 : decode cX12_stockWith 1 = .ok (.getfield 35, 3) := by decide +kernel
theorem dX12_stockWith_4 : decode cX12_stockWith 4 = .ok (.iconst 0, 1) := by decide +kernel
theorem dX12_stockWith_5 : decode cX12_stockWith 5 = .ok (.iaload, 1) := by decide +kernel
theorem dX12_stockWith_6 : decode cX12_stockWith 6 = .ok (.istore_n 2, 1) := by decide +kernel
theorem dX12_stockWith_7 : decode cX12_stockWith 7 = .ok (.iconst 0, 1) := by decide +kernel
theorem dX12_stockWith_8 : decode cX12_stockWith 8 = .ok (.istore_n 3, 1) := by decide +kernel
theorem dX12_stockWith_9 : decode cX12_stockWith 9 = .ok (.iload_n 3, 1) := by decide +kernel
theorem dX12_stockWith_10 : decode cX12_stockWith 10 = .ok (.iconst 4, 1) := by decide +kernel
theorem dX12_stockWith_11 : decode cX12_stockWith 11 = .ok (.if_icmp .ge 31, 3) := by decide +kernel
theorem dX12_stockWith_14 : decode cX12_stockWith 14 = .ok (.iload_n 2, 1) := by decide +kernel
theorem dX12_stockWith_15 : decode cX12_stockWith 15 = .ok (.iload_n 1, 1) := by decide +kernel
theorem dX12_stockWith_16 : decode cX12_stockWith 16 = .ok (.iload_n 3, 1) := by decide +kernel
theorem dX12_stockWith_17 : decode cX12_stockWith 17 = .ok (.ishr, 1) := by decide +kernel
theorem dX12_stockWith_18 : decode cX12_stockWith 18 = .ok (.iconst 1, 1) := by decide +kernel
theorem dX12_stockWith_19 : decode cX12_stockWith 19 = .ok (.iand, 1) := by decide +kernel
theorem dX12_stockWith_20 : decode cX12_stockWith 20 = .ok (.iconst 1, 1) := by decide +kernel
theorem dX12_stockWith_21 : decode cX12_stockWith 21 = .ok (.if_icmp .ne 12, 3) := by decide +kernel
theorem dX12_stockWith_24 : decode cX12_stockWith 24 = .ok (.aload_n 0, 1) := by decide +kernel
theorem dX12_stockWith_25 : decode cX12_stockWith 25 = .ok (.getfield 62, 3) := by decide +kernel
theorem dX12_stockWith_28 : decode cX12_stockWith 28 = .ok (.iload_n 3, 1) := by decide +kernel
theorem dX12_stockWith_29 : decode cX12_stockWith 29 = .ok (.iaload, 1) := by decide +kernel
theorem dX12_stockWith_30 : decode cX12_stockWith 30 = .ok (.goto 4, 3) := by decide +kernel
theorem dX12_stockWith_33 : decode cX12_stockWith 33 = .ok (.iconst 0, 1) := by decide +kernel
theorem dX12_stockWith_34 : decode cX12_stockWith 34 = .ok (.iadd, 1) := by decide +kernel
theorem dX12_stockWith_35 : decode cX12_stockWith 35 = .ok (.istore_n 2, 1) := by decide +kernel
theorem dX12_stockWith_36 : decode cX12_stockWith 36 = .ok (.iinc 3 1, 3) := by decide +kernel
theorem dX12_stockWith_39 : decode cX12_stockWith 39 = .ok (.goto (-30), 3) := by decide +kernel
theorem dX12_stockWith_42 : decode cX12_stockWith 42 = .ok (.iload_n 2, 1) := by decide +kernel
theorem dX12_stockWith_43 : decode cX12_stockWith 43 = .ok (.ireturn, 1) := by decide +kernel
theorem dX12_scoreWith_0 : decode cX12_scoreWith 0 = .ok (.aload_n 0, 1) := by decide +kernel
theorem dX12_scoreWith_1 : decode cX12_scoreWith 1 = .ok (.aload_n 0, 1) := by decide +kernel
theorem dX12_scoreWith_2 : decode cX12_scoreWith 2 = .ok (.iload_n 1, 1) := by decide +kernel
theorem dX12_scoreWith_3 : decode cX12_scoreWith 3 = .ok (.invokevirtual 307, 3) := by decide +kernel
theorem dX12_scoreWith_6 : decode cX12_scoreWith 6 = .ok (.invokevirtual 232, 3) := by decide +kernel
theorem dX12_scoreWith_9 : decode cX12_scoreWith 9 = .ok (.aload_n 0, 1) := by decide +kernel
theorem dX12_scoreWith_10 : decode cX12_scoreWith 10 = .ok (.getfield 208, 3) := by decide +kernel
theorem dX12_scoreWith_13 : decode cX12_scoreWith 13 = .ok (.ireturn, 1) := by decide +kernel
theorem dX12_askedLend_0 : decode cX12_askedLend 0 = .ok (.aload_n 0, 1) := by decide +kernel
theorem dX12_askedLend_1 : decode cX12_askedLend 1 = .ok (.iload_n 2, 1) := by decide +kernel
theorem dX12_askedLend_2 : decode cX12_askedLend 2 = .ok (.iconst 1, 1) := by decide +kernel
theorem dX12_askedLend_3 : decode cX12_askedLend 3 = .ok (.invokevirtual 229, 3) := by decide +kernel
theorem dX12_askedLend_6 : decode cX12_askedLend 6 = .ok (.istore_n 3, 1) := by decide +kernel
theorem dX12_askedLend_7 : decode cX12_askedLend 7 = .ok (.iload_n 3, 1) := by decide +kernel
theorem dX12_askedLend_8 : decode cX12_askedLend 8 = .ok (.ifCond .ge 7, 3) := by decide +kernel
theorem dX12_askedLend_11 : decode cX12_askedLend 11 = .ok (.iload_n 3, 1) := by decide +kernel
theorem dX12_askedLend_12 : decode cX12_askedLend 12 = .ok (.goto 19, 3) := by decide +kernel
theorem dX12_askedLend_15 : decode cX12_askedLend 15 = .ok (.aload_n 0, 1) := by decide +kernel
theorem dX12_askedLend_16 : decode cX12_askedLend 16 = .ok (.iload_n 1, 1) := by decide +kernel
theorem dX12_askedLend_17 : decode cX12_askedLend 17 = .ok (.invokevirtual 307, 3) := by decide +kernel
theorem dX12_askedLend_20 : decode cX12_askedLend 20 = .ok (.bipush 40, 2) := by decide +kernel
theorem dX12_askedLend_22 : decode cX12_askedLend 22 = .ok (.if_icmp .le 8, 3) := by decide +kernel
theorem dX12_askedLend_25 : decode cX12_askedLend 25 = .ok (.bipush (-6), 2) := by decide +kernel
theorem dX12_askedLend_27 : decode cX12_askedLend 27 = .ok (.goto 4, 3) := by decide +kernel
theorem dX12_askedLend_30 : decode cX12_askedLend 30 = .ok (.iconst 0, 1) := by decide +kernel
theorem dX12_askedLend_31 : decode cX12_askedLend 31 = .ok (.ireturn, 1) := by decide +kernel
theorem dX12_lend_0 : decode cX12_lend 0 = .ok (.iload_n 1, 1) := by decide +kernel
theorem dX12_lend_1 : decode cX12_lend 1 = .ok (.iconst 0, 1) := by decide +kernel
theorem dX12_lend_2 : decode cX12_lend 2 = .ok (.bipush 15, 2) := by decide +kernel
theorem dX12_lend_4 : decode cX12_lend 4 = .ok (.invokestatic 87, 3) := by decide +kernel
theorem dX12_lend_7 : decode cX12_lend 7 = .ok (.ifCond .eq 10, 3) := by decide +kernel
theorem dX12_lend_10 : decode cX12_lend 10 = .ok (.iload_n 2, 1) := by decide +kernel
theorem dX12_lend_11 : decode cX12_lend 11 = .ok (.invokestatic 91, 3) := by decide +kernel
theorem dX12_lend_14 : decode cX12_lend 14 = .ok (.ifCond .ne 5, 3) := by decide +kernel
theorem dX12_lend_17 : decode cX12_lend 17 = .ok (.iconst (-1), 1) := by decide +kernel
theorem dX12_lend_18 : decode cX12_lend 18 = .ok (.ireturn, 1) := by decide +kernel
theorem dX12_lend_19 : decode cX12_lend 19 = .ok (.aload_n 0, 1) := by decide +kernel
theorem dX12_lend_20 : decode cX12_lend 20 = .ok (.iload_n 1, 1) := by decide +kernel
theorem dX12_lend_21 : decode cX12_lend 21 = .ok (.iload_n 2, 1) := by decide +kernel
theorem dX12_lend_22 : decode cX12_lend 22 = .ok (.invokevirtual 310, 3) := by decide +kernel
theorem dX12_lend_25 : decode cX12_lend 25 = .ok (.istore_n 3, 1) := by decide +kernel
theorem dX12_lend_26 : decode cX12_lend 26 = .ok (.iload_n 3, 1) := by decide +kernel
theorem dX12_lend_27 : decode cX12_lend 27 = .ok (.ifCond .ge 5, 3) := by decide +kernel
theorem dX12_lend_30 : decode cX12_lend 30 = .ok (.iload_n 3, 1) := by decide +kernel
theorem dX12_lend_31 : decode cX12_lend 31 = .ok (.ireturn, 1) := by decide +kernel
theorem dX12_lend_32 : decode cX12_lend 32 = .ok (.aload_n 0, 1) := by decide +kernel
theorem dX12_lend_33 : decode cX12_lend 33 = .ok (.iload_n 2, 1) := by decide +kernel
theorem dX12_lend_34 : decode cX12_lend 34 = .ok (.iconst 1, 1) := by decide +kernel
theorem dX12_lend_35 : decode cX12_lend 35 = .ok (.invokevirtual 198, 3) := by decide +kernel
theorem dX12_lend_38 : decode cX12_lend 38 = .ok (.aload_n 0, 1) := by decide +kernel
theorem dX12_lend_39 : decode cX12_lend 39 = .ok (.iload_n 1, 1) := by decide +kernel
theorem dX12_lend_40 : decode cX12_lend 40 = .ok (.invokevirtual 313, 3) := by decide +kernel
theorem dX12_lend_43 : decode cX12_lend 43 = .ok (.aload_n 0, 1) := by decide +kernel
theorem dX12_lend_44 : decode cX12_lend 44 = .ok (.iconst 0, 1) := by decide +kernel
theorem dX12_lend_45 : decode cX12_lend 45 = .ok (.invokevirtual 313, 3) := by decide +kernel
theorem dX12_lend_48 : decode cX12_lend 48 = .ok (.isub, 1) := by decide +kernel
theorem dX12_lend_49 : decode cX12_lend 49 = .ok (.ireturn, 1) := by decide +kernel
theorem dX12_leaves_0 : decode cX12_leaves 0 = .ok (.iload_n 1, 1) := by decide +kernel
theorem dX12_leaves_1 : decode cX12_leaves 1 = .ok (.invokestatic 91, 3) := by decide +kernel
theorem dX12_leaves_4 : decode cX12_leaves 4 = .ok (.ifCond .eq 10, 3) := by decide +kernel
theorem dX12_leaves_7 : decode cX12_leaves 7 = .ok (.iload_n 2, 1) := by decide +kernel
theorem dX12_leaves_8 : decode cX12_leaves 8 = .ok (.invokestatic 91, 3) := by decide +kernel
theorem dX12_leaves_11 : decode cX12_leaves 11 = .ok (.ifCond .ne 5, 3) := by decide +kernel
theorem dX12_leaves_14 : decode cX12_leaves 14 = .ok (.iconst (-1), 1) := by decide +kernel
theorem dX12_leaves_15 : decode cX12_leaves 15 = .ok (.ireturn, 1) := by decide +kernel
theorem dX12_leaves_16 : decode cX12_leaves 16 = .ok (.aload_n 0, 1) := by decide +kernel
theorem dX12_leaves_17 : decode cX12_leaves 17 = .ok (.getfield 17, 3) := by decide +kernel
theorem dX12_leaves_20 : decode cX12_leaves 20 = .ok (.iload_n 1, 1) := by decide +kernel
theorem dX12_leaves_21 : decode cX12_leaves 21 = .ok (.iaload, 1) := by decide +kernel
theorem dX12_leaves_22 : decode cX12_leaves 22 = .ok (.ifCond .lt 12, 3) := by decide +kernel
theorem dX12_leaves_25 : decode cX12_leaves 25 = .ok (.aload_n 0, 1) := by decide +kernel
theorem dX12_leaves_26 : decode cX12_leaves 26 = .ok (.getfield 17, 3) := by decide +kernel
theorem dX12_leaves_29 : decode cX12_leaves 29 = .ok (.iload_n 2, 1) := by decide +kernel
theorem dX12_leaves_30 : decode cX12_leaves 30 = .ok (.iaload, 1) := by decide +kernel
theorem dX12_leaves_31 : decode cX12_leaves 31 = .ok (.ifCond .ge 9, 3) := by decide +kernel
theorem dX12_leaves_34 : decode cX12_leaves 34 = .ok (.aload_n 0, 1) := by decide +kernel
theorem dX12_leaves_35 : decode cX12_leaves 35 = .ok (.iconst 1, 1) := by decide +kernel
theorem dX12_leaves_36 : decode cX12_leaves 36 = .ok (.invokevirtual 95, 3) := by decide +kernel
theorem dX12_leaves_39 : decode cX12_leaves 39 = .ok (.ireturn, 1) := by decide +kernel
theorem dX12_leaves_40 : decode cX12_leaves 40 = .ok (.aload_n 0, 1) := by decide +kernel
theorem dX12_leaves_41 : decode cX12_leaves 41 = .ok (.getfield 17, 3) := by decide +kernel
theorem dX12_leaves_44 : decode cX12_leaves 44 = .ok (.iload_n 1, 1) := by decide +kernel
theorem dX12_leaves_45 : decode cX12_leaves 45 = .ok (.iaload, 1) := by decide +kernel
theorem dX12_leaves_46 : decode cX12_leaves 46 = .ok (.aload_n 0, 1) := by decide +kernel
theorem dX12_leaves_47 : decode cX12_leaves 47 = .ok (.getfield 156, 3) := by decide +kernel
theorem dX12_leaves_50 : decode cX12_leaves 50 = .ok (.if_icmp .ne 13, 3) := by decide +kernel
theorem dX12_leaves_53 : decode cX12_leaves 53 = .ok (.aload_n 0, 1) := by decide +kernel
theorem dX12_leaves_54 : decode cX12_leaves 54 = .ok (.getfield 17, 3) := by decide +kernel
theorem dX12_leaves_57 : decode cX12_leaves 57 = .ok (.iload_n 2, 1) := by decide +kernel
theorem dX12_leaves_58 : decode cX12_leaves 58 = .ok (.iaload, 1) := by decide +kernel
theorem dX12_leaves_59 : decode cX12_leaves 59 = .ok (.iconst 4, 1) := by decide +kernel
theorem dX12_leaves_60 : decode cX12_leaves 60 = .ok (.if_icmp .eq 9, 3) := by decide +kernel
theorem dX12_leaves_63 : decode cX12_leaves 63 = .ok (.aload_n 0, 1) := by decide +kernel
theorem dX12_leaves_64 : decode cX12_leaves 64 = .ok (.iconst 5, 1) := by decide +kernel
theorem dX12_leaves_65 : decode cX12_leaves 65 = .ok (.invokevirtual 95, 3) := by decide +kernel
theorem dX12_leaves_68 : decode cX12_leaves 68 = .ok (.ireturn, 1) := by decide +kernel
theorem dX12_leaves_69 : decode cX12_leaves 69 = .ok (.aload_n 0, 1) := by decide +kernel
theorem dX12_leaves_70 : decode cX12_leaves 70 = .ok (.iload_n 1, 1) := by decide +kernel
theorem dX12_leaves_71 : decode cX12_leaves 71 = .ok (.iconst 1, 1) := by decide +kernel
theorem dX12_leaves_72 : decode cX12_leaves 72 = .ok (.invokevirtual 191, 3) := by decide +kernel
theorem dX12_leaves_75 : decode cX12_leaves 75 = .ok (.istore_n 3, 1) := by decide +kernel
theorem dX12_leaves_76 : decode cX12_leaves 76 = .ok (.iload_n 3, 1) := by decide +kernel
theorem dX12_leaves_77 : decode cX12_leaves 77 = .ok (.ifCond .ge 5, 3) := by decide +kernel
theorem dX12_leaves_80 : decode cX12_leaves 80 = .ok (.iload_n 3, 1) := by decide +kernel
theorem dX12_leaves_81 : decode cX12_leaves 81 = .ok (.ireturn, 1) := by decide +kernel
theorem dX12_leaves_82 : decode cX12_leaves 82 = .ok (.iconst 0, 1) := by decide +kernel
theorem dX12_leaves_83 : decode cX12_leaves 83 = .ok (.istore 4, 2) := by decide +kernel
theorem dX12_leaves_85 : decode cX12_leaves 85 = .ok (.iload 4, 2) := by decide +kernel
theorem dX12_leaves_87 : decode cX12_leaves 87 = .ok (.iconst 4, 1) := by decide +kernel
theorem dX12_leaves_88 : decode cX12_leaves 88 = .ok (.if_icmp .ge 32, 3) := by decide +kernel
theorem dX12_leaves_91 : decode cX12_leaves 91 = .ok (.aload_n 0, 1) := by decide +kernel
theorem dX12_leaves_92 : decode cX12_leaves 92 = .ok (.iload_n 2, 1) := by decide +kernel
theorem dX12_leaves_93 : decode cX12_leaves 93 = .ok (.iload 4, 2) := by decide +kernel
theorem dX12_leaves_95 : decode cX12_leaves 95 = .ok (.invokevirtual 109, 3) := by decide +kernel
theorem dX12_leaves_98 : decode cX12_leaves 98 = .ok (.iconst 0, 1) := by decide +kernel
theorem dX12_leaves_99 : decode cX12_leaves 99 = .ok (.sipush 999, 3) := by decide +kernel
theorem dX12_leaves_102 : decode cX12_leaves 102 = .ok (.invokestatic 87, 3) := by decide +kernel
theorem dX12_leaves_105 : decode cX12_leaves 105 = .ok (.ifCond .ne 9, 3) := by decide +kernel
theorem dX12_leaves_108 : decode cX12_leaves 108 = .ok (.aload_n 0, 1) := by decide +kernel
theorem dX12_leaves_109 : decode cX12_leaves 109 = .ok (.iconst 3, 1) := by decide +kernel
theorem dX12_leaves_110 : decode cX12_leaves 110 = .ok (.invokevirtual 95, 3) := by decide +kernel
theorem dX12_leaves_113 : decode cX12_leaves 113 = .ok (.ireturn, 1) := by decide +kernel
theorem dX12_leaves_114 : decode cX12_leaves 114 = .ok (.iinc 4 1, 3) := by decide +kernel
theorem dX12_leaves_117 : decode cX12_leaves 117 = .ok (.goto (-32), 3) := by decide +kernel
theorem dX12_leaves_120 : decode cX12_leaves 120 = .ok (.aload_n 0, 1) := by decide +kernel
theorem dX12_leaves_121 : decode cX12_leaves 121 = .ok (.bipush 15, 2) := by decide +kernel
theorem dX12_leaves_123 : decode cX12_leaves 123 = .ok (.invokevirtual 307, 3) := by decide +kernel
theorem dX12_leaves_126 : decode cX12_leaves 126 = .ok (.bipush 40, 2) := by decide +kernel
theorem dX12_leaves_128 : decode cX12_leaves 128 = .ok (.if_icmp .le 6, 3) := by decide +kernel
theorem dX12_leaves_131 : decode cX12_leaves 131 = .ok (.bipush (-6), 2) := by decide +kernel
theorem dX12_leaves_133 : decode cX12_leaves 133 = .ok (.ireturn, 1) := by decide +kernel
theorem dX12_leaves_134 : decode cX12_leaves 134 = .ok (.aload_n 0, 1) := by decide +kernel
theorem dX12_leaves_135 : decode cX12_leaves 135 = .ok (.iload_n 1, 1) := by decide +kernel
theorem dX12_leaves_136 : decode cX12_leaves 136 = .ok (.iconst 1, 1) := by decide +kernel
theorem dX12_leaves_137 : decode cX12_leaves 137 = .ok (.invokevirtual 198, 3) := by decide +kernel
theorem dX12_leaves_140 : decode cX12_leaves 140 = .ok (.aload_n 0, 1) := by decide +kernel
theorem dX12_leaves_141 : decode cX12_leaves 141 = .ok (.iconst 0, 1) := by decide +kernel
theorem dX12_leaves_142 : decode cX12_leaves 142 = .ok (.invokevirtual 313, 3) := by decide +kernel
theorem dX12_leaves_145 : decode cX12_leaves 145 = .ok (.istore 4, 2) := by decide +kernel
theorem dX12_leaves_147 : decode cX12_leaves 147 = .ok (.iconst 1, 1) := by decide +kernel
theorem dX12_leaves_148 : decode cX12_leaves 148 = .ok (.istore 5, 2) := by decide +kernel
theorem dX12_leaves_150 : decode cX12_leaves 150 = .ok (.iload 5, 2) := by decide +kernel
theorem dX12_leaves_152 : decode cX12_leaves 152 = .ok (.bipush 16, 2) := by decide +kernel
theorem dX12_leaves_154 : decode cX12_leaves 154 = .ok (.if_icmp .ge 89, 3) := by decide +kernel
theorem dX12_leaves_157 : decode cX12_leaves 157 = .ok (.iconst 0, 1) := by decide +kernel
theorem dX12_leaves_158 : decode cX12_leaves 158 = .ok (.istore 6, 2) := by decide +kernel
theorem dX12_leaves_160 : decode cX12_leaves 160 = .ok (.iconst 0, 1) := by decide +kernel
theorem dX12_leaves_161 : decode cX12_leaves 161 = .ok (.istore 7, 2) := by decide +kernel
theorem dX12_leaves_163 : decode cX12_leaves 163 = .ok (.iload 7, 2) := by decide +kernel
theorem dX12_leaves_165 : decode cX12_leaves 165 = .ok (.iconst 4, 1) := by decide +kernel
theorem dX12_leaves_166 : decode cX12_leaves 166 = .ok (.if_icmp .ge 36, 3) := by decide +kernel
theorem dX12_leaves_169 : decode cX12_leaves 169 = .ok (.iload 6, 2) := by decide +kernel
theorem dX12_leaves_171 : decode cX12_leaves 171 = .ok (.iload 5, 2) := by decide +kernel
theorem dX12_leaves_173 : decode cX12_leaves 173 = .ok (.iload 7, 2) := by decide +kernel
theorem dX12_leaves_175 : decode cX12_leaves 175 = .ok (.ishr, 1) := by decide +kernel
theorem dX12_leaves_176 : decode cX12_leaves 176 = .ok (.iconst 1, 1) := by decide +kernel
theorem dX12_leaves_177 : decode cX12_leaves 177 = .ok (.iand, 1) := by decide +kernel
theorem dX12_leaves_178 : decode cX12_leaves 178 = .ok (.iconst 1, 1) := by decide +kernel
theorem dX12_leaves_179 : decode cX12_leaves 179 = .ok (.if_icmp .ne 13, 3) := by decide +kernel
theorem dX12_leaves_182 : decode cX12_leaves 182 = .ok (.aload_n 0, 1) := by decide +kernel
theorem dX12_leaves_183 : decode cX12_leaves 183 = .ok (.iload_n 2, 1) := by decide +kernel
theorem dX12_leaves_184 : decode cX12_leaves 184 = .ok (.iload 7, 2) := by decide +kernel
theorem dX12_leaves_186 : decode cX12_leaves 186 = .ok (.invokevirtual 109, 3) := by decide +kernel
theorem dX12_leaves_189 : decode cX12_leaves 189 = .ok (.goto 4, 3) := by decide +kernel
theorem dX12_leaves_192 : decode cX12_leaves 192 = .ok (.iconst 0, 1) := by decide +kernel
theorem dX12_leaves_193 : decode cX12_leaves 193 = .ok (.iadd, 1) := by decide +kernel
theorem dX12_leaves_194 : decode cX12_leaves 194 = .ok (.istore 6, 2) := by decide +kernel
theorem dX12_leaves_196 : decode cX12_leaves 196 = .ok (.iinc 7 1, 3) := by decide +kernel
theorem dX12_leaves_199 : decode cX12_leaves 199 = .ok (.goto (-36), 3) := by decide +kernel
theorem dX12_leaves_202 : decode cX12_leaves 202 = .ok (.aload_n 0, 1) := by decide +kernel
theorem dX12_leaves_203 : decode cX12_leaves 203 = .ok (.iload 5, 2) := by decide +kernel
theorem dX12_leaves_205 : decode cX12_leaves 205 = .ok (.invokevirtual 313, 3) := by decide +kernel
theorem dX12_leaves_208 : decode cX12_leaves 208 = .ok (.iload 4, 2) := by decide +kernel
theorem dX12_leaves_210 : decode cX12_leaves 210 = .ok (.isub, 1) := by decide +kernel
theorem dX12_leaves_211 : decode cX12_leaves 211 = .ok (.istore 7, 2) := by decide +kernel
theorem dX12_leaves_213 : decode cX12_leaves 213 = .ok (.iload 7, 2) := by decide +kernel
theorem dX12_leaves_215 : decode cX12_leaves 215 = .ok (.iload 6, 2) := by decide +kernel
theorem dX12_leaves_217 : decode cX12_leaves 217 = .ok (.if_icmp .gt 17, 3) := by decide +kernel
theorem dX12_leaves_220 : decode cX12_leaves 220 = .ok (.iload 5, 2) := by decide +kernel
theorem dX12_leaves_222 : decode cX12_leaves 222 = .ok (.bipush 15, 2) := by decide +kernel
theorem dX12_leaves_224 : decode cX12_leaves 224 = .ok (.if_icmp .ne 13, 3) := by decide +kernel
theorem dX12_leaves_227 : decode cX12_leaves 227 = .ok (.iload 7, 2) := by decide +kernel
theorem dX12_leaves_229 : decode cX12_leaves 229 = .ok (.iload 6, 2) := by decide +kernel
theorem dX12_leaves_231 : decode cX12_leaves 231 = .ok (.if_icmp .eq 6, 3) := by decide +kernel
theorem dX12_leaves_234 : decode cX12_leaves 234 = .ok (.iload 5, 2) := by decide +kernel
theorem dX12_leaves_236 : decode cX12_leaves 236 = .ok (.ireturn, 1) := by decide +kernel
theorem dX12_leaves_237 : decode cX12_leaves 237 = .ok (.iinc 5 1, 3) := by decide +kernel
theorem dX12_leaves_240 : decode cX12_leaves 240 = .ok (.goto (-90), 3) := by decide +kernel
theorem dX12_leaves_243 : decode cX12_leaves 243 = .ok (.iconst 0, 1) := by decide +kernel
theorem dX12_leaves_244 : decode cX12_leaves 244 = .ok (.ireturn, 1) := by decide +kernel
theorem dX12_adds_0 : decode cX12_adds 0 = .ok (.iload_n 1, 1) := by decide +kernel
theorem dX12_adds_1 : decode cX12_adds 1 = .ok (.iconst 0, 1) := by decide +kernel
theorem dX12_adds_2 : decode cX12_adds 2 = .ok (.iconst 3, 1) := by decide +kernel
theorem dX12_adds_3 : decode cX12_adds 3 = .ok (.invokestatic 87, 3) := by decide +kernel
theorem dX12_adds_6 : decode cX12_adds 6 = .ok (.ifCond .eq 10, 3) := by decide +kernel
theorem dX12_adds_9 : decode cX12_adds 9 = .ok (.iload_n 2, 1) := by decide +kernel
theorem dX12_adds_10 : decode cX12_adds 10 = .ok (.invokestatic 91, 3) := by decide +kernel
theorem dX12_adds_13 : decode cX12_adds 13 = .ok (.ifCond .ne 5, 3) := by decide +kernel
theorem dX12_adds_16 : decode cX12_adds 16 = .ok (.iconst (-1), 1) := by decide +kernel
theorem dX12_adds_17 : decode cX12_adds 17 = .ok (.ireturn, 1) := by decide +kernel
theorem dX12_adds_18 : decode cX12_adds 18 = .ok (.aload_n 0, 1) := by decide +kernel
theorem dX12_adds_19 : decode cX12_adds 19 = .ok (.bipush 15, 2) := by decide +kernel
theorem dX12_adds_21 : decode cX12_adds 21 = .ok (.iload_n 2, 1) := by decide +kernel
theorem dX12_adds_22 : decode cX12_adds 22 = .ok (.invokevirtual 310, 3) := by decide +kernel
theorem dX12_adds_25 : decode cX12_adds 25 = .ok (.istore_n 3, 1) := by decide +kernel
theorem dX12_adds_26 : decode cX12_adds 26 = .ok (.iload_n 3, 1) := by decide +kernel
theorem dX12_adds_27 : decode cX12_adds 27 = .ok (.ifCond .ge 5, 3) := by decide +kernel
theorem dX12_adds_30 : decode cX12_adds 30 = .ok (.iload_n 3, 1) := by decide +kernel
theorem dX12_adds_31 : decode cX12_adds 31 = .ok (.ireturn, 1) := by decide +kernel
theorem dX12_adds_32 : decode cX12_adds 32 = .ok (.aload_n 0, 1) := by decide +kernel
theorem dX12_adds_33 : decode cX12_adds 33 = .ok (.iload_n 2, 1) := by decide +kernel
theorem dX12_adds_34 : decode cX12_adds 34 = .ok (.iconst 1, 1) := by decide +kernel
theorem dX12_adds_35 : decode cX12_adds 35 = .ok (.invokevirtual 198, 3) := by decide +kernel
theorem dX12_adds_38 : decode cX12_adds 38 = .ok (.iconst 0, 1) := by decide +kernel
theorem dX12_adds_39 : decode cX12_adds 39 = .ok (.istore 4, 2) := by decide +kernel
theorem dX12_adds_41 : decode cX12_adds 41 = .ok (.iconst 0, 1) := by decide +kernel
theorem dX12_adds_42 : decode cX12_adds 42 = .ok (.istore 5, 2) := by decide +kernel
theorem dX12_adds_44 : decode cX12_adds 44 = .ok (.iload 5, 2) := by decide +kernel
theorem dX12_adds_46 : decode cX12_adds 46 = .ok (.bipush 16, 2) := by decide +kernel
theorem dX12_adds_48 : decode cX12_adds 48 = .ok (.if_icmp .ge 89, 3) := by decide +kernel
theorem dX12_adds_51 : decode cX12_adds 51 = .ok (.iload 5, 2) := by decide +kernel
theorem dX12_adds_53 : decode cX12_adds 53 = .ok (.iload_n 1, 1) := by decide +kernel
theorem dX12_adds_54 : decode cX12_adds 54 = .ok (.ishr, 1) := by decide +kernel
theorem dX12_adds_55 : decode cX12_adds 55 = .ok (.iconst 1, 1) := by decide +kernel
theorem dX12_adds_56 : decode cX12_adds 56 = .ok (.iand, 1) := by decide +kernel
theorem dX12_adds_57 : decode cX12_adds 57 = .ok (.ifCond .ne 74, 3) := by decide +kernel
theorem dX12_adds_60 : decode cX12_adds 60 = .ok (.iload 5, 2) := by decide +kernel
theorem dX12_adds_62 : decode cX12_adds 62 = .ok (.iconst 1, 1) := by decide +kernel
theorem dX12_adds_63 : decode cX12_adds 63 = .ok (.iand, 1) := by decide +kernel
theorem dX12_adds_64 : decode cX12_adds 64 = .ok (.iload 5, 2) := by decide +kernel
theorem dX12_adds_66 : decode cX12_adds 66 = .ok (.iconst 1, 1) := by decide +kernel
theorem dX12_adds_67 : decode cX12_adds 67 = .ok (.ishr, 1) := by decide +kernel
theorem dX12_adds_68 : decode cX12_adds 68 = .ok (.iconst 1, 1) := by decide +kernel
theorem dX12_adds_69 : decode cX12_adds 69 = .ok (.iand, 1) := by decide +kernel
theorem dX12_adds_70 : decode cX12_adds 70 = .ok (.iadd, 1) := by decide +kernel
theorem dX12_adds_71 : decode cX12_adds 71 = .ok (.iload 5, 2) := by decide +kernel
theorem dX12_adds_73 : decode cX12_adds 73 = .ok (.iconst 2, 1) := by decide +kernel
theorem dX12_adds_74 : decode cX12_adds 74 = .ok (.ishr, 1) := by decide +kernel
theorem dX12_adds_75 : decode cX12_adds 75 = .ok (.iconst 1, 1) := by decide +kernel
theorem dX12_adds_76 : decode cX12_adds 76 = .ok (.iand, 1) := by decide +kernel
theorem dX12_adds_77 : decode cX12_adds 77 = .ok (.iadd, 1) := by decide +kernel
theorem dX12_adds_78 : decode cX12_adds 78 = .ok (.iload 5, 2) := by decide +kernel
theorem dX12_adds_80 : decode cX12_adds 80 = .ok (.iconst 3, 1) := by decide +kernel
theorem dX12_adds_81 : decode cX12_adds 81 = .ok (.ishr, 1) := by decide +kernel
theorem dX12_adds_82 : decode cX12_adds 82 = .ok (.iconst 1, 1) := by decide +kernel
theorem dX12_adds_83 : decode cX12_adds 83 = .ok (.iand, 1) := by decide +kernel
theorem dX12_adds_84 : decode cX12_adds 84 = .ok (.iadd, 1) := by decide +kernel
theorem dX12_adds_85 : decode cX12_adds 85 = .ok (.istore 6, 2) := by decide +kernel
theorem dX12_adds_87 : decode cX12_adds 87 = .ok (.iload 6, 2) := by decide +kernel
theorem dX12_adds_89 : decode cX12_adds 89 = .ok (.ifCond .eq 9, 3) := by decide +kernel
theorem dX12_adds_92 : decode cX12_adds 92 = .ok (.iload 6, 2) := by decide +kernel
theorem dX12_adds_94 : decode cX12_adds 94 = .ok (.iconst 3, 1) := by decide +kernel
theorem dX12_adds_95 : decode cX12_adds 95 = .ok (.if_icmp .ne 8, 3) := by decide +kernel
theorem dX12_adds_98 : decode cX12_adds 98 = .ok (.bipush 6, 2) := by decide +kernel
theorem dX12_adds_100 : decode cX12_adds 100 = .ok (.goto 4, 3) := by decide +kernel
theorem dX12_adds_103 : decode cX12_adds 103 = .ok (.iconst 2, 1) := by decide +kernel
theorem dX12_adds_104 : decode cX12_adds 104 = .ok (.istore 7, 2) := by decide +kernel
theorem dX12_adds_106 : decode cX12_adds 106 = .ok (.iload 4, 2) := by decide +kernel
theorem dX12_adds_108 : decode cX12_adds 108 = .ok (.iload 7, 2) := by decide +kernel
theorem dX12_adds_110 : decode cX12_adds 110 = .ok (.aload_n 0, 1) := by decide +kernel
theorem dX12_adds_111 : decode cX12_adds 111 = .ok (.iload 5, 2) := by decide +kernel
theorem dX12_adds_113 : decode cX12_adds 113 = .ok (.iconst 1, 1) := by decide +kernel
theorem dX12_adds_114 : decode cX12_adds 114 = .ok (.iload_n 1, 1) := by decide +kernel
theorem dX12_adds_115 : decode cX12_adds 115 = .ok (.ishl, 1) := by decide +kernel
theorem dX12_adds_116 : decode cX12_adds 116 = .ok (.ior, 1) := by decide +kernel
theorem dX12_adds_117 : decode cX12_adds 117 = .ok (.invokevirtual 313, 3) := by decide +kernel
theorem dX12_adds_120 : decode cX12_adds 120 = .ok (.aload_n 0, 1) := by decide +kernel
theorem dX12_adds_121 : decode cX12_adds 121 = .ok (.iload 5, 2) := by decide +kernel
theorem dX12_adds_123 : decode cX12_adds 123 = .ok (.invokevirtual 313, 3) := by decide +kernel
theorem dX12_adds_126 : decode cX12_adds 126 = .ok (.isub, 1) := by decide +kernel
theorem dX12_adds_127 : decode cX12_adds 127 = .ok (.imul, 1) := by decide +kernel
theorem dX12_adds_128 : decode cX12_adds 128 = .ok (.iadd, 1) := by decide +kernel
theorem dX12_adds_129 : decode cX12_adds 129 = .ok (.istore 4, 2) := by decide +kernel
theorem dX12_adds_131 : decode cX12_adds 131 = .ok (.iinc 5 1, 3) := by decide +kernel
theorem dX12_adds_134 : decode cX12_adds 134 = .ok (.goto (-90), 3) := by decide +kernel
theorem dX12_adds_137 : decode cX12_adds 137 = .ok (.aload_n 0, 1) := by decide +kernel
theorem dX12_adds_138 : decode cX12_adds 138 = .ok (.iload 4, 2) := by decide +kernel
theorem dX12_adds_140 : decode cX12_adds 140 = .ok (.i2l, 1) := by decide +kernel
theorem dX12_adds_141 : decode cX12_adds 141 = .ok (.ldc2_w 316, 3) := by decide +kernel
theorem dX12_adds_144 : decode cX12_adds 144 = .ok (.iconst 1, 1) := by decide +kernel
theorem dX12_adds_145 : decode cX12_adds 145 = .ok (.invokevirtual 260, 3) := by decide +kernel
theorem dX12_adds_148 : decode cX12_adds 148 = .ok (.ireturn, 1) := by decide +kernel
theorem dX12_when_0 : decode cX12_when 0 = .ok (.iload_n 1, 1) := by decide +kernel
theorem dX12_when_1 : decode cX12_when 1 = .ok (.invokestatic 91, 3) := by decide +kernel
theorem dX12_when_4 : decode cX12_when 4 = .ok (.ifCond .ne 5, 3) := by decide +kernel
theorem dX12_when_7 : decode cX12_when 7 = .ok (.iconst (-1), 1) := by decide +kernel
theorem dX12_when_8 : decode cX12_when 8 = .ok (.ireturn, 1) := by decide +kernel
theorem dX12_when_9 : decode cX12_when 9 = .ok (.aload_n 0, 1) := by decide +kernel
theorem dX12_when_10 : decode cX12_when 10 = .ok (.iload_n 1, 1) := by decide +kernel
theorem dX12_when_11 : decode cX12_when 11 = .ok (.iconst 1, 1) := by decide +kernel
theorem dX12_when_12 : decode cX12_when 12 = .ok (.invokevirtual 229, 3) := by decide +kernel
theorem dX12_when_15 : decode cX12_when 15 = .ok (.istore_n 2, 1) := by decide +kernel
theorem dX12_when_16 : decode cX12_when 16 = .ok (.iload_n 2, 1) := by decide +kernel
theorem dX12_when_17 : decode cX12_when 17 = .ok (.ifCond .ge 5, 3) := by decide +kernel
theorem dX12_when_20 : decode cX12_when 20 = .ok (.iload_n 2, 1) := by decide +kernel
theorem dX12_when_21 : decode cX12_when 21 = .ok (.ireturn, 1) := by decide +kernel
theorem dX12_when_22 : decode cX12_when 22 = .ok (.aload_n 0, 1) := by decide +kernel
theorem dX12_when_23 : decode cX12_when 23 = .ok (.iload_n 1, 1) := by decide +kernel
theorem dX12_when_24 : decode cX12_when 24 = .ok (.iconst 1, 1) := by decide +kernel
theorem dX12_when_25 : decode cX12_when 25 = .ok (.invokevirtual 198, 3) := by decide +kernel
theorem dX12_when_28 : decode cX12_when 28 = .ok (.aload_n 0, 1) := by decide +kernel
theorem dX12_when_29 : decode cX12_when 29 = .ok (.getfield 159, 3) := by decide +kernel
theorem dX12_when_32 : decode cX12_when 32 = .ok (.istore_n 3, 1) := by decide +kernel
theorem dX12_when_33 : decode cX12_when 33 = .ok (.iconst 0, 1) := by decide +kernel
theorem dX12_when_34 : decode cX12_when 34 = .ok (.istore 4, 2) := by decide +kernel
theorem dX12_when_36 : decode cX12_when 36 = .ok (.iconst (-1), 1) := by decide +kernel
theorem dX12_when_37 : decode cX12_when 37 = .ok (.istore 5, 2) := by decide +kernel
theorem dX12_when_39 : decode cX12_when 39 = .ok (.iconst 0, 1) := by decide +kernel
theorem dX12_when_40 : decode cX12_when 40 = .ok (.istore 6, 2) := by decide +kernel
theorem dX12_when_42 : decode cX12_when 42 = .ok (.iload 6, 2) := by decide +kernel
theorem dX12_when_44 : decode cX12_when 44 = .ok (.bipush 9, 2) := by decide +kernel
theorem dX12_when_46 : decode cX12_when 46 = .ok (.if_icmp .gt 63, 3) := by decide +kernel
theorem dX12_when_49 : decode cX12_when 49 = .ok (.aload_n 0, 1) := by decide +kernel
theorem dX12_when_50 : decode cX12_when 50 = .ok (.iload 6, 2) := by decide +kernel
theorem dX12_when_52 : decode cX12_when 52 = .ok (.putfield 159, 3) := by decide +kernel
theorem dX12_when_55 : decode cX12_when 55 = .ok (.aload_n 0, 1) := by decide +kernel
theorem dX12_when_56 : decode cX12_when 56 = .ok (.aload_n 0, 1) := by decide +kernel
theorem dX12_when_57 : decode cX12_when 57 = .ok (.getfield 35, 3) := by decide +kernel
theorem dX12_when_60 : decode cX12_when 60 = .ok (.iconst 0, 1) := by decide +kernel
theorem dX12_when_61 : decode cX12_when 61 = .ok (.iaload, 1) := by decide +kernel
theorem dX12_when_62 : decode cX12_when 62 = .ok (.invokevirtual 232, 3) := by decide +kernel
theorem dX12_when_65 : decode cX12_when 65 = .ok (.aload_n 0, 1) := by decide +kernel
theorem dX12_when_66 : decode cX12_when 66 = .ok (.getfield 208, 3) := by decide +kernel
theorem dX12_when_69 : decode cX12_when 69 = .ok (.iload 5, 2) := by decide +kernel
theorem dX12_when_71 : decode cX12_when 71 = .ok (.if_icmp .le 8, 3) := by decide +kernel
theorem dX12_when_74 : decode cX12_when 74 = .ok (.iload 6, 2) := by decide +kernel
theorem dX12_when_76 : decode cX12_when 76 = .ok (.goto 5, 3) := by decide +kernel
theorem dX12_when_79 : decode cX12_when 79 = .ok (.iload 4, 2) := by decide +kernel
theorem dX12_when_81 : decode cX12_when 81 = .ok (.istore 4, 2) := by decide +kernel
theorem dX12_when_83 : decode cX12_when 83 = .ok (.aload_n 0, 1) := by decide +kernel
theorem dX12_when_84 : decode cX12_when 84 = .ok (.getfield 208, 3) := by decide +kernel
theorem dX12_when_87 : decode cX12_when 87 = .ok (.iload 5, 2) := by decide +kernel
theorem dX12_when_89 : decode cX12_when 89 = .ok (.if_icmp .le 10, 3) := by decide +kernel
theorem dX12_when_92 : decode cX12_when 92 = .ok (.aload_n 0, 1) := by decide +kernel
theorem dX12_when_93 : decode cX12_when 93 = .ok (.getfield 208, 3) := by decide +kernel
theorem dX12_when_96 : decode cX12_when 96 = .ok (.goto 5, 3) := by decide +kernel
theorem dX12_when_99 : decode cX12_when 99 = .ok (.iload 5, 2) := by decide +kernel
theorem dX12_when_101 : decode cX12_when 101 = .ok (.istore 5, 2) := by decide +kernel
theorem dX12_when_103 : decode cX12_when 103 = .ok (.iinc 6 1, 3) := by decide +kernel
theorem dX12_when_106 : decode cX12_when 106 = .ok (.goto (-64), 3) := by decide +kernel
theorem dX12_when_109 : decode cX12_when 109 = .ok (.aload_n 0, 1) := by decide +kernel
theorem dX12_when_110 : decode cX12_when 110 = .ok (.iload_n 3, 1) := by decide +kernel
theorem dX12_when_111 : decode cX12_when 111 = .ok (.putfield 159, 3) := by decide +kernel
theorem dX12_when_114 : decode cX12_when 114 = .ok (.aload_n 0, 1) := by decide +kernel
theorem dX12_when_115 : decode cX12_when 115 = .ok (.iload 5, 2) := by decide +kernel
theorem dX12_when_117 : decode cX12_when 117 = .ok (.iload 4, 2) := by decide +kernel
theorem dX12_when_119 : decode cX12_when 119 = .ok (.invokevirtual 113, 3) := by decide +kernel
theorem dX12_when_122 : decode cX12_when 122 = .ok (.ireturn, 1) := by decide +kernel
theorem q_1458 : Cond.methodLink RX12 307 yX12_stockWith ∈ wT := wi_t 1458 (by decide +kernel) (by decide +kernel)
theorem q_1461 : Cond.code yX12_stockWith cX12_stockWith 4 (some .int) ∈ wT := wi_t 1461 (by decide +kernel) (by decide +kernel)
theorem q_1460 : Cond.instanceMethod yX12_stockWith ∈ wT := wi_t 1460 (by decide +kernel) (by decide +kernel)
theorem qs_79 : Cond.selects RX12 yX12_stockWith yX12_stockWith ∈ wT := wi_s (q := (yX12_stockWith, 42)) 79 (by decide +kernel) (by decide +kernel)
theorem q_1454 : Cond.methodLink RX12 310 yX12_askedLend ∈ wT := wi_t 1454 (by decide +kernel) (by decide +kernel)
theorem q_1457 : Cond.code yX12_askedLend cX12_askedLend 4 (some .int) ∈ wT := wi_t 1457 (by decide +kernel) (by decide +kernel)
theorem q_1456 : Cond.instanceMethod yX12_askedLend ∈ wT := wi_t 1456 (by decide +kernel) (by decide +kernel)
theorem qs_78 : Cond.selects RX12 yX12_askedLend yX12_askedLend ∈ wT := wi_s (q := (yX12_askedLend, 42)) 78 (by decide +kernel) (by decide +kernel)
theorem q_1462 : Cond.methodLink RX12 313 yX12_scoreWith ∈ wT := wi_t 1462 (by decide +kernel) (by decide +kernel)
theorem q_1465 : Cond.code yX12_scoreWith cX12_scoreWith 2 (some .int) ∈ wT := wi_t 1465 (by decide +kernel) (by decide +kernel)
theorem q_1464 : Cond.instanceMethod yX12_scoreWith ∈ wT := wi_t 1464 (by decide +kernel) (by decide +kernel)
theorem qs_80 : Cond.selects RX12 yX12_scoreWith yX12_scoreWith ∈ wT := wi_s (q := (yX12_scoreWith, 42)) 80 (by decide +kernel) (by decide +kernel)
theorem q_1474 : Cond.constantLong RX12 316 24 ∈ wT := wi_t 1474 (by decide +kernel) (by decide +kernel)
theorem kvX12_stockWith : KV yX12_stockWith RX12 cX12_stockWith 4 (some .int) 1 := ⟨q_1460, qs_79, q_13, q_1461, rfl, by decide +kernel, by decide +kernel, by decide +kernel⟩
theorem kvX12_askedLend : KV yX12_askedLend RX12 cX12_askedLend 4 (some .int) 2 := ⟨q_1456, qs_78, q_13, q_1457, rfl, by decide +kernel, by decide +kernel, by decide +kernel⟩
theorem kvX12_scoreWith : KV yX12_scoreWith RX12 cX12_scoreWith 2 (some .int) 1 := ⟨q_1464, qs_80, q_13, q_1465, rfl, by decide +kernel, by decide +kernel, by decide +kernel⟩
/-! HeavyFilesModel.answer(IIII)I -/
def fX12_answer (N : Nat)  (a0 : Nat) (a1 : Int32) (a2 : Int32) (a3 : Int32) (a4 : Int32) (mm : Mm) : Option (Int32 × Mm) :=
  bd2 (fX12_isSuit N a0 a1 mm) fun x1 m2 => if x1 = 0 then (some ((-1), m2)) else (bd2 (fX12_areYet N a2 a3 m2) fun x5 m6 => if x5 = 0 then (some ((-1), m6)) else (bd2 (fX12_in N a4 0 a2 m6) fun x9 m10 => if x9 = 0 then (some ((-1), m10)) else (bd2 (fX12_setTurns N a0 m10) fun x13 m14 => bd2 (fX12_answered N a0 a1 a2 a3 a4 m14) fun x16 m17 => some (rd m17 a0 33, m17))))
abbrev rmX12_answer : Room := { frames := 7, cells := 0, slots := 0, locals := 237 }
/-! HeavyFilesModel.lender(II)I -/
def fX12_lender (N : Nat)  (a0 : Nat) (a1 : Int32) (a2 : Int32) (mm : Mm) : Option (Int32 × Mm) :=
  bd2 (fX12_in N a1 0 3 mm) fun x1 m2 => if x1 = 0 then (some ((-1), m2)) else (bd2 (fX12_in N a2 0 20 m2) fun x5 m6 => if x5 = 0 then (some ((-1), m6)) else (gd (inb a1 (ln (fr a0 35))) <| nm (rd m6 (fr a0 35) a1.toNatClampNeg) fun x10 => gd (inb a1 (ln (fr a0 35))) <| nm (wr m6 (fr a0 35) a1.toNatClampNeg a2) fun m12 => some (x10, m12)))
abbrev rmX12_lender : Room := { frames := 2, cells := 0, slots := 0, locals := 70 }
/-! HeavyFilesModel.stockWith(I)I -/
def fX12_stockWith_34 (N : Nat) (k9 : Nat → Int32 → Int32 → Int32 → Mm → Option (Int32 × Mm)) (a0 : Nat) (a1 : Int32) (a3 : Int32) (s0 : Int32) (s1 : Int32) (mm : Mm) : Option (Int32 × Mm) :=
  k9 a0 a1 (s0 + s1) (a3 + 1) mm
def fX12_stockWith_9 (N : Nat)  : Nat → Nat → Int32 → Int32 → Int32 → Mm → Option (Int32 × Mm)
  | 0 => fun _ _ _ _ _ => none
  | n + 1 => fun a0 a1 a2 a3 mm =>
    let k9 := fX12_stockWith_9 N  n
    if (4 : Int32) ≤ a3 then (some (a2, mm)) else (if ((a1 >>> (a3 &&& 31)) &&& 1) = 1 then (gd (inb a3 (ln (fr a0 35))) <| fX12_stockWith_34 N k9 a0 a1 a3 a2 (rd mm (fr a0 35) a3.toNatClampNeg) mm) else (fX12_stockWith_34 N k9 a0 a1 a3 a2 0 mm))
def fX12_stockWith (N : Nat)  (a0 : Nat) (a1 : Int32) (mm : Mm) : Option (Int32 × Mm) :=
  gd (inb 0 (ln (fr a0 12))) <| nm (rd mm (fr a0 12) ((0 : Int32).toNatClampNeg)) fun x5 => fX12_stockWith_9 N N a0 a1 x5 0 mm
abbrev rmX12_stockWith : Room := { frames := 1, cells := 0, slots := 0, locals := 40 }
/-! HeavyFilesModel.scoreWith(I)I -/
def fX12_scoreWith (N : Nat)  (a0 : Nat) (a1 : Int32) (mm : Mm) : Option (Int32 × Mm) :=
  bd2 (fX12_stockWith N a0 a1 mm) fun x1 m2 => bd2 (fX12_setBest N a0 x1 m2) fun x4 m5 => some (rd m5 a0 24, m5)
abbrev rmX12_scoreWith : Room := { frames := 16, cells := 0, slots := 0, locals := 824 }
/-! HeavyFilesModel.askedLend(II)I -/
def fX12_askedLend (N : Nat)  (a0 : Nat) (a1 : Int32) (a2 : Int32) (mm : Mm) : Option (Int32 × Mm) :=
  bd2 (fX12_askedLaying N a0 a2 1 mm) fun x1 m2 => if (0 : Int32) ≤ x1 then (bd2 (fX12_stockWith N a0 a1 m2) fun x5 m6 => if x5 ≤ 40 then (some (0, m6)) else (some ((-6), m6))) else (some (x1, m2))
abbrev rmX12_askedLend : Room := { frames := 4, cells := 0, slots := 0, locals := 133 }
/-! HeavyFilesModel.lend(II)I -/
def fX12_lend (N : Nat)  (a0 : Nat) (a1 : Int32) (a2 : Int32) (mm : Mm) : Option (Int32 × Mm) :=
  bd2 (fX12_in N a1 0 15 mm) fun x1 m2 => if x1 = 0 then (some ((-1), m2)) else (bd2 (fX12_isRow N a2 m2) fun x5 m6 => if x5 = 0 then (some ((-1), m6)) else (bd2 (fX12_askedLend N a0 a1 a2 m6) fun x9 m10 => if (0 : Int32) ≤ x9 then (bd2 (fX12_takes N a0 a2 1 m10) fun x13 m14 => bd2 (fX12_scoreWith N a0 a1 m14) fun x16 m17 => bd2 (fX12_scoreWith N a0 0 m17) fun x19 m20 => some (x16 - x19, m20)) else (some (x9, m10))))
abbrev rmX12_lend : Room := { frames := 17, cells := 0, slots := 0, locals := 853 }
/-! HeavyFilesModel.leaves(II)I -/
def fX12_leaves_237 (N : Nat) (k150 : Nat → Int32 → Int32 → Int32 → Mm → Option (Int32 × Mm)) (a0 : Nat) (a2 : Int32) (a4 : Int32) (a5 : Int32) (mm : Mm) : Option (Int32 × Mm) :=
  k150 a0 a2 a4 (a5 + 1) mm
def fX12_leaves_193 (N : Nat) (k150 : Nat → Int32 → Int32 → Int32 → Mm → Option (Int32 × Mm)) (k163 : Nat → Int32 → Int32 → Int32 → Int32 → Int32 → Mm → Option (Int32 × Mm)) (a0 : Nat) (a2 : Int32) (a4 : Int32) (a5 : Int32) (a7 : Int32) (s0 : Int32) (s1 : Int32) (mm : Mm) : Option (Int32 × Mm) :=
  k163 a0 a2 a4 a5 (s0 + s1) (a7 + 1) mm
def fX12_leaves_163 (N : Nat) (k150 : Nat → Int32 → Int32 → Int32 → Mm → Option (Int32 × Mm)) : Nat → Nat → Int32 → Int32 → Int32 → Int32 → Int32 → Mm → Option (Int32 × Mm)
  | 0 => fun _ _ _ _ _ _ _ => none
  | n + 1 => fun a0 a2 a4 a5 a6 a7 mm =>
    let k163 := fX12_leaves_163 N k150 n
    if (4 : Int32) ≤ a7 then (bd2 (fX12_scoreWith N a0 a5 mm) fun x2 m3 => if a6 < (x2 - a4) then (some (a5, m3)) else (if a5 = 15 then (if (x2 - a4) = a6 then (fX12_leaves_237 N k150 a0 a2 a4 a5 m3) else (some (a5, m3))) else (fX12_leaves_237 N k150 a0 a2 a4 a5 m3))) else (if ((a5 >>> (a7 &&& 31)) &&& 1) = 1 then (bd2 (fX12_rowAt N a0 a2 a7 mm) fun x9 m10 => fX12_leaves_193 N k150 k163 a0 a2 a4 a5 a7 a6 x9 m10) else (fX12_leaves_193 N k150 k163 a0 a2 a4 a5 a7 a6 0 mm))
def fX12_leaves_150 (N : Nat)  : Nat → Nat → Int32 → Int32 → Int32 → Mm → Option (Int32 × Mm)
  | 0 => fun _ _ _ _ _ => none
  | n + 1 => fun a0 a2 a4 a5 mm =>
    let k150 := fX12_leaves_150 N  n
    if (16 : Int32) ≤ a5 then (some (0, mm)) else (fX12_leaves_163 N k150 N a0 a2 a4 a5 0 0 mm)
def fX12_leaves_85 (N : Nat)  : Nat → Nat → Int32 → Int32 → Int32 → Mm → Option (Int32 × Mm)
  | 0 => fun _ _ _ _ _ => none
  | n + 1 => fun a0 a1 a2 a4 mm =>
    let k85 := fX12_leaves_85 N  n
    if (4 : Int32) ≤ a4 then (bd2 (fX12_stockWith N a0 15 mm) fun x14 m15 => if x14 ≤ 40 then (bd2 (fX12_takes N a0 a1 1 m15) fun x18 m19 => bd2 (fX12_scoreWith N a0 0 m19) fun x21 m22 => fX12_leaves_150 N N a0 a2 x21 1 m22) else (some ((-6), m15))) else (bd2 (fX12_rowAt N a0 a2 a4 mm) fun x24 m25 => bd2 (fX12_in N x24 0 999 m25) fun x27 m28 => if x27 = 0 then (bd2 (fX12_meet N a0 3 m28) fun x31 m32 => some (x31, m32)) else (k85 a0 a1 a2 (a4 + 1) m28))
def fX12_leaves_63 (N : Nat)  (a0 : Nat) (mm : Mm) : Option (Int32 × Mm) :=
  bd2 (fX12_meet N a0 5 mm) fun x34 m35 => some (x34, m35)
def fX12_leaves_34 (N : Nat)  (a0 : Nat) (mm : Mm) : Option (Int32 × Mm) :=
  bd2 (fX12_meet N a0 1 mm) fun x37 m38 => some (x37, m38)
def fX12_leaves (N : Nat)  (a0 : Nat) (a1 : Int32) (a2 : Int32) (mm : Mm) : Option (Int32 × Mm) :=
  bd2 (fX12_isRow N a1 mm) fun x40 m41 => if x40 = 0 then (some ((-1), m41)) else (bd2 (fX12_isRow N a2 m41) fun x44 m45 => if x44 = 0 then (some ((-1), m45)) else (gd (inb a1 (ln (fr a0 5))) <| if (rd m45 (fr a0 5) a1.toNatClampNeg) < 0 then (fX12_leaves_34 N a0 m45) else (gd (inb a2 (ln (fr a0 5))) <| if (0 : Int32) ≤ (rd m45 (fr a0 5) a2.toNatClampNeg) then (gd (inb a1 (ln (fr a0 5))) <| if (rd m45 (fr a0 5) a1.toNatClampNeg) = (rd m45 a0 10) then (gd (inb a2 (ln (fr a0 5))) <| if (rd m45 (fr a0 5) a2.toNatClampNeg) = 4 then (bd2 (fX12_askedNumbers N a0 a1 1 m45) fun x56 m57 => if (0 : Int32) ≤ x56 then (fX12_leaves_85 N N a0 a1 a2 0 m57) else (some (x56, m57))) else (fX12_leaves_63 N a0 m45)) else (fX12_leaves_63 N a0 m45)) else (fX12_leaves_34 N a0 m45))))
abbrev rmX12_leaves : Room := { frames := 17, cells := 0, slots := 0, locals := 853 }
/-! HeavyFilesModel.adds(II)I -/
def fX12_adds_131 (N : Nat) (k44 : Nat → Int32 → Int32 → Int32 → Mm → Option (Int32 × Mm)) (a0 : Nat) (a1 : Int32) (a4 : Int32) (a5 : Int32) (mm : Mm) : Option (Int32 × Mm) :=
  k44 a0 a1 a4 (a5 + 1) mm
def fX12_adds_104 (N : Nat) (k44 : Nat → Int32 → Int32 → Int32 → Mm → Option (Int32 × Mm)) (a0 : Nat) (a1 : Int32) (a4 : Int32) (a5 : Int32) (s0 : Int32) (mm : Mm) : Option (Int32 × Mm) :=
  bd2 (fX12_scoreWith N a0 (a5 ||| ((1 : Int32) <<< (a1 &&& 31))) mm) fun x1 m2 => bd2 (fX12_scoreWith N a0 a5 m2) fun x4 m5 => fX12_adds_131 N k44 a0 a1 (a4 + (s0 * (x1 - x4))) a5 m5
def fX12_adds_98 (N : Nat) (k44 : Nat → Int32 → Int32 → Int32 → Mm → Option (Int32 × Mm)) (a0 : Nat) (a1 : Int32) (a4 : Int32) (a5 : Int32) (mm : Mm) : Option (Int32 × Mm) :=
  fX12_adds_104 N k44 a0 a1 a4 a5 6 mm
def fX12_adds_44 (N : Nat)  : Nat → Nat → Int32 → Int32 → Int32 → Mm → Option (Int32 × Mm)
  | 0 => fun _ _ _ _ _ => none
  | n + 1 => fun a0 a1 a4 a5 mm =>
    let k44 := fX12_adds_44 N  n
    if (16 : Int32) ≤ a5 then (bd2 (fX12_part N a0 a4.toInt64 24 1 mm) fun x8 m9 => some (x8, m9)) else (if ((a5 >>> (a1 &&& 31)) &&& 1) = 0 then (nm ((((a5 &&& 1) + ((a5 >>> ((1 : Int32) &&& 31)) &&& 1)) + ((a5 >>> ((2 : Int32) &&& 31)) &&& 1)) + ((a5 >>> ((3 : Int32) &&& 31)) &&& 1)) fun x12 => if x12 = 0 then (fX12_adds_98 N k44 a0 a1 a4 a5 mm) else (if x12 = 3 then (fX12_adds_98 N k44 a0 a1 a4 a5 mm) else (fX12_adds_104 N k44 a0 a1 a4 a5 2 mm))) else (fX12_adds_131 N k44 a0 a1 a4 a5 mm))
def fX12_adds (N : Nat)  (a0 : Nat) (a1 : Int32) (a2 : Int32) (mm : Mm) : Option (Int32 × Mm) :=
  bd2 (fX12_in N a1 0 3 mm) fun x15 m16 => if x15 = 0 then (some ((-1), m16)) else (bd2 (fX12_isRow N a2 m16) fun x19 m20 => if x19 = 0 then (some ((-1), m20)) else (bd2 (fX12_askedLend N a0 15 a2 m20) fun x23 m24 => if (0 : Int32) ≤ x23 then (bd2 (fX12_takes N a0 a2 1 m24) fun x27 m28 => fX12_adds_44 N N a0 a1 0 0 m28) else (some (x23, m24))))
abbrev rmX12_adds : Room := { frames := 17, cells := 0, slots := 0, locals := 853 }
/-! HeavyFilesModel.when(I)I -/
def fX12_when_101 (N : Nat) (k42 : Nat → Int32 → Int32 → Int32 → Int32 → Mm → Option (Int32 × Mm)) (a0 : Nat) (a3 : Int32) (a4 : Int32) (a6 : Int32) (s0 : Int32) (mm : Mm) : Option (Int32 × Mm) :=
  k42 a0 a3 a4 s0 (a6 + 1) mm
def fX12_when_81 (N : Nat) (k42 : Nat → Int32 → Int32 → Int32 → Int32 → Mm → Option (Int32 × Mm)) (a0 : Nat) (a3 : Int32) (a5 : Int32) (a6 : Int32) (s0 : Int32) (mm : Mm) : Option (Int32 × Mm) :=
  if (rd mm a0 24) ≤ a5 then (fX12_when_101 N k42 a0 a3 s0 a6 a5 mm) else (fX12_when_101 N k42 a0 a3 s0 a6 (rd mm a0 24) mm)
def fX12_when_42 (N : Nat)  : Nat → Nat → Int32 → Int32 → Int32 → Int32 → Mm → Option (Int32 × Mm)
  | 0 => fun _ _ _ _ _ _ => none
  | n + 1 => fun a0 a3 a4 a5 a6 mm =>
    let k42 := fX12_when_42 N  n
    if (9 : Int32) < a6 then (nm (wr mm a0 13 a3) fun m3 => bd2 (fX12_ask N a0 a5 a4 m3) fun x4 m5 => some (x4, m5)) else (nm (wr mm a0 13 a6) fun m7 => gd (inb 0 (ln (fr a0 12))) <| bd2 (fX12_setBest N a0 (rd m7 (fr a0 12) ((0 : Int32).toNatClampNeg)) m7) fun x9 m10 => if (rd m10 a0 24) ≤ a5 then (fX12_when_81 N k42 a0 a3 a5 a6 a4 m10) else (fX12_when_81 N k42 a0 a3 a5 a6 a6 m10))
def fX12_when (N : Nat)  (a0 : Nat) (a1 : Int32) (mm : Mm) : Option (Int32 × Mm) :=
  bd2 (fX12_isRow N a1 mm) fun x13 m14 => if x13 = 0 then (some ((-1), m14)) else (bd2 (fX12_askedLaying N a0 a1 1 m14) fun x17 m18 => if (0 : Int32) ≤ x17 then (bd2 (fX12_takes N a0 a1 1 m18) fun x21 m22 => fX12_when_42 N N a0 (rd m22 a0 13) 0 (-1) 0 m22) else (some (x17, m18)))
abbrev rmX12_when : Room := { frames := 16, cells := 0, slots := 0, locals := 824 }
section W_model26
variable {p : Program} {l : Launch} {e : Env} {s : State} {m : MethodId} {args : Array Value} {below : List Frame} {meth : Method} {c : Code} {D : va_G} {ca ad : Nat → Nat}
set_option maxRecDepth 100000 in
set_option maxHeartbeats 4000000 in
theorem wX12_answer_0 (C : Cx p s m meth c args cX12_answer 5 (some .int) RX12 D ca ad) {res : Int32 × Mm} {N : Nat}  {a0 : Nat} {a1 : Int32} {a2 : Int32} {a3 : Int32} {a4 : Int32} {mm : Mm} {H : Heap} {locs : List Loc} {ls : Array Slot} (ha0 : sX12 a0) (hW : Wd D ca ad s.heap mm H locs) (hl : lv_has ls 5 [(0, .ref (ad a0)), (1, .int a1), (2, .int a2), (3, .int a3), (4, .int a4)]) (hf : fX12_answer N a0 a1 a2 a3 a4 mm = some res) : W p l e (rmX12_answer) s m args below meth c H locs 0 0 (MQ below (QI D ca ad res) args s 0 0 (AA ad)) (F0 m 0 ls []) := by
  unfold fX12_answer at hf
  refine lv_aload_n C.1 C.2.1 dX12_answer_0 rfl (lv_at hl 0 rfl) ?_
  refine lv_iload_n C.1 C.2.1 dX12_answer_1 rfl (lv_at hl 1 rfl) ?_
  obtain ⟨x1, m2, r3, hf⟩ := bd2_s hf
  refine x_ci hW (x_runV C hW [.int a1] [] (ha0).1 (ha0).2.1 kX12.1 kvX12_isSuit q_1248 (tX12_isSuit l C.2.2.2.2.2.2.1 ha0 r3) rfl rfl ⟨by decide, by decide⟩ rfl hl.1 rfl (Nat.le_of_ble_eq_true rfl) dX12_answer_2) (fun H locs hW => ?_)
  refine lv_if_eq (tgt := 26) C.1 C.2.1 dX12_answer_5 (by decide) (fun c4 => ?_) (fun c4 => ?_)
  · have hf := if_t c4 hf
    refine lv_iconst (v := (-1)) C.1 C.2.1 dX12_answer_26 (by decide) ?_
    cases hf
    exact x_iret C hW dX12_answer_27
  · have hf := if_f c4 hf
    refine lv_iload_n C.1 C.2.1 dX12_answer_8 rfl (lv_at hl 2 rfl) ?_
    refine lv_iload_n C.1 C.2.1 dX12_answer_9 rfl (lv_at hl 3 rfl) ?_
    obtain ⟨x5, m6, r7, hf⟩ := bd2_s hf
    refine x_ci hW (x_runS C hW [.int a2, .int a3] [] kvX12_areYet q_1439 (tX12_areYet l C.2.2.2.2.2.2.1  r7) rfl rfl ⟨by decide, by decide⟩ rfl hl.1 rfl (Nat.le_of_ble_eq_true rfl) dX12_answer_10) (fun H locs hW => ?_)
    refine lv_if_eq (tgt := 26) C.1 C.2.1 dX12_answer_13 (by decide) (fun c8 => ?_) (fun c8 => ?_)
    · have hf := if_t c8 hf
      refine lv_iconst (v := (-1)) C.1 C.2.1 dX12_answer_26 (by decide) ?_
      cases hf
      exact x_iret C hW dX12_answer_27
    · have hf := if_f c8 hf
      refine lv_iload C.1 C.2.1 dX12_answer_16 (lv_at hl 4 rfl) ?_
      refine lv_iconst (v := 0) C.1 C.2.1 dX12_answer_18 (by decide) ?_
      refine lv_iload_n C.1 C.2.1 dX12_answer_19 rfl (lv_at hl 2 rfl) ?_
      obtain ⟨x9, m10, r11, hf⟩ := bd2_s hf
      refine x_ci hW (x_runS C hW [.int a4, .int 0, .int a2] [] kvX12_in q_1150 (tX12_in l C.2.2.2.2.2.2.1  r11) rfl rfl ⟨by decide, by decide⟩ rfl hl.1 rfl (Nat.le_of_ble_eq_true rfl) dX12_answer_20) (fun H locs hW => ?_)
      refine lv_if_ne (tgt := 28) C.1 C.2.1 dX12_answer_23 (by decide) (fun c12 => ?_) (fun c12 => ?_)
      · have hf := if_f c12 hf
        refine lv_aload_n C.1 C.2.1 dX12_answer_28 rfl (lv_at hl 0 rfl) ?_
        obtain ⟨x13, m14, r15, hf⟩ := bd2_s hf
        refine x_cv hW (x_runV C hW [] [] (ha0).1 (ha0).2.1 kX12.1 kvX12_setTurns q_1415 (tX12_setTurns l C.2.2.2.2.2.2.1 ha0 r15) rfl rfl ⟨by decide, by decide⟩ rfl hl.1 rfl (Nat.le_of_ble_eq_true rfl) dX12_answer_29) (fun H locs hW => ?_)
        refine lv_aload_n C.1 C.2.1 dX12_answer_32 rfl (lv_at hl 0 rfl) ?_
        refine lv_iload_n C.1 C.2.1 dX12_answer_33 rfl (lv_at hl 1 rfl) ?_
        refine lv_iload_n C.1 C.2.1 dX12_answer_34 rfl (lv_at hl 2 rfl) ?_
        refine lv_iload_n C.1 C.2.1 dX12_answer_35 rfl (lv_at hl 3 rfl) ?_
        refine lv_iload C.1 C.2.1 dX12_answer_36 (lv_at hl 4 rfl) ?_
        obtain ⟨x16, m17, r18, hf⟩ := bd2_s hf
        refine x_ci hW (x_runV C hW [.int a1, .int a2, .int a3, .int a4] [] (ha0).1 (ha0).2.1 kX12.1 kvX12_answered q_1423 (tX12_answered l C.2.2.2.2.2.2.1 ha0 r18) rfl rfl ⟨by decide, by decide⟩ rfl hl.1 rfl (Nat.le_of_ble_eq_true rfl) dX12_answer_38) (fun H locs hW => ?_)
        refine lv_pop C.1 C.2.1 dX12_answer_41 rfl ?_
        refine lv_aload_n C.1 C.2.1 dX12_answer_42 rfl (lv_at hl 0 rfl) ?_
        refine x_geti C hW (ha0).1 (ha0).2.1 (j := 33) rfl kX12 (by decide) rfl q_1049 dX12_answer_43 ?_
        cases hf
        exact x_iret C hW dX12_answer_46
      · have hf := if_t c12 hf
        refine lv_iconst (v := (-1)) C.1 C.2.1 dX12_answer_26 (by decide) ?_
        cases hf
        exact x_iret C hW dX12_answer_27
set_option maxRecDepth 100000 in
set_option maxHeartbeats 4000000 in
theorem tX12_answer (l : Launch) {D : va_G} {ca ad : Nat → Nat} (hi : Inj ad) {N : Nat} {a0 : Nat} {a1 : Int32} {a2 : Int32} {a3 : Int32} {a4 : Int32} {mm : Mm} {res : Int32 × Mm} (ha0 : sX12 a0) (hf : fX12_answer N a0 a1 a2 a3 a4 mm = some res) : Met l yX12_answer (WS yX12_answer cX12_answer 5 (some .int)) (rmX12_answer) (va_Pc [.ref (ad a0), .int a1, .int a2, .int a3, .int a4] (WB D ca ad mm)) (QI D ca ad res) 0 0 (AA ad) := by
  refine x_start hi (by decide) rfl (Nat.le_of_ble_eq_true rfl) (fun p e s m args below meth c ls C hW hl => ?_)
  exact wX12_answer_0 C ha0 hW (lv_sub hl [0, 1, 2, 3, 4] rfl) hf
set_option maxRecDepth 100000 in
set_option maxHeartbeats 4000000 in
theorem wX12_lender_0 (C : Cx p s m meth c args cX12_lender 4 (some .int) RX12 D ca ad) {res : Int32 × Mm} {N : Nat}  {a0 : Nat} {a1 : Int32} {a2 : Int32} {mm : Mm} {H : Heap} {locs : List Loc} {ls : Array Slot} (ha0 : sX12 a0) (hW : Wd D ca ad s.heap mm H locs) (hl : lv_has ls 4 [(0, .ref (ad a0)), (1, .int a1), (2, .int a2)]) (hf : fX12_lender N a0 a1 a2 mm = some res) : W p l e (rmX12_lender) s m args below meth c H locs 0 0 (MQ below (QI D ca ad res) args s 0 0 (AA ad)) (F0 m 0 ls []) := by
  unfold fX12_lender at hf
  refine lv_iload_n C.1 C.2.1 dX12_lender_0 rfl (lv_at hl 1 rfl) ?_
  refine lv_iconst (v := 0) C.1 C.2.1 dX12_lender_1 (by decide) ?_
  refine lv_iconst (v := 3) C.1 C.2.1 dX12_lender_2 (by decide) ?_
  obtain ⟨x1, m2, r3, hf⟩ := bd2_s hf
  refine x_ci hW (x_runS C hW [.int a1, .int 0, .int 3] [] kvX12_in q_1150 (tX12_in l C.2.2.2.2.2.2.1  r3) rfl rfl ⟨by decide, by decide⟩ rfl hl.1 rfl (Nat.le_of_ble_eq_true rfl) dX12_lender_3) (fun H locs hW => ?_)
  refine lv_if_eq (tgt := 19) C.1 C.2.1 dX12_lender_6 (by decide) (fun c4 => ?_) (fun c4 => ?_)
  · have hf := if_t c4 hf
    refine lv_iconst (v := (-1)) C.1 C.2.1 dX12_lender_19 (by decide) ?_
    cases hf
    exact x_iret C hW dX12_lender_20
  · have hf := if_f c4 hf
    refine lv_iload_n C.1 C.2.1 dX12_lender_9 rfl (lv_at hl 2 rfl) ?_
    refine lv_iconst (v := 0) C.1 C.2.1 dX12_lender_10 (by decide) ?_
    refine lv_bipush (v := 20) C.1 C.2.1 dX12_lender_11 (by decide) ?_
    obtain ⟨x5, m6, r7, hf⟩ := bd2_s hf
    refine x_ci hW (x_runS C hW [.int a2, .int 0, .int 20] [] kvX12_in q_1150 (tX12_in l C.2.2.2.2.2.2.1  r7) rfl rfl ⟨by decide, by decide⟩ rfl hl.1 rfl (Nat.le_of_ble_eq_true rfl) dX12_lender_13) (fun H locs hW => ?_)
    refine lv_if_ne (tgt := 21) C.1 C.2.1 dX12_lender_16 (by decide) (fun c8 => ?_) (fun c8 => ?_)
    · have hf := if_f c8 hf
      refine lv_aload_n C.1 C.2.1 dX12_lender_21 rfl (lv_at hl 0 rfl) ?_
      refine x_getr C hW (ha0).1 (ha0).2.1 (j := 35) rfl kX12 (by decide) rfl q_1051 dX12_lender_22 ?_
      refine lv_iload_n C.1 C.2.1 dX12_lender_25 rfl (lv_at hl 1 rfl) ?_
      obtain ⟨g9, hf⟩ := gd_s hf
      refine x_iald C hW ha0.2.2.2.2.2.2.2.2.2.2.2.2.2.2.2.2.2.2.1 g9 dX12_lender_26 ?_
      refine lv_topi (fun x10 ex10 => ?_)
      have hf := nm_s hf ex10
      refine lv_istore_n (lv' := [(3, .int x10), (0, .ref (ad a0)), (1, .int a1), (2, .int a2)]) C.1 C.2.1 dX12_lender_27 rfl hl (by decide) rfl (fun ls hl => ?_)
      refine lv_aload_n C.1 C.2.1 dX12_lender_28 rfl (lv_at hl 1 rfl) ?_
      refine x_getr C hW (ha0).1 (ha0).2.1 (j := 35) rfl kX12 (by decide) rfl q_1051 dX12_lender_29 ?_
      refine lv_iload_n C.1 C.2.1 dX12_lender_32 rfl (lv_at hl 2 rfl) ?_
      refine lv_iload_n C.1 C.2.1 dX12_lender_33 rfl (lv_at hl 3 rfl) ?_
      obtain ⟨g11, hf⟩ := gd_s hf
      refine x_iast C hW ha0.2.2.2.2.2.2.2.2.2.2.2.2.2.2.2.2.2.2.1 g11 dX12_lender_34 (fun H locs hW => ?_)
      obtain ⟨m12, em12⟩ : ∃ z, z = wr m6 (fr a0 35) a1.toNatClampNeg a2 := ⟨_, rfl⟩
      have hf := nm_s hf em12
      rw [← em12] at hW
      refine lv_iload_n C.1 C.2.1 dX12_lender_35 rfl (lv_at hl 0 rfl) ?_
      cases hf
      exact x_iret C hW dX12_lender_36
    · have hf := if_t c8 hf
      refine lv_iconst (v := (-1)) C.1 C.2.1 dX12_lender_19 (by decide) ?_
      cases hf
      exact x_iret C hW dX12_lender_20
set_option maxRecDepth 100000 in
set_option maxHeartbeats 4000000 in
theorem tX12_lender (l : Launch) {D : va_G} {ca ad : Nat → Nat} (hi : Inj ad) {N : Nat} {a0 : Nat} {a1 : Int32} {a2 : Int32} {mm : Mm} {res : Int32 × Mm} (ha0 : sX12 a0) (hf : fX12_lender N a0 a1 a2 mm = some res) : Met l yX12_lender (WS yX12_lender cX12_lender 4 (some .int)) (rmX12_lender) (va_Pc [.ref (ad a0), .int a1, .int a2] (WB D ca ad mm)) (QI D ca ad res) 0 0 (AA ad) := by
  refine x_start hi (by decide) rfl (Nat.le_of_ble_eq_true rfl) (fun p e s m args below meth c ls C hW hl => ?_)
  exact wX12_lender_0 C ha0 hW (lv_sub hl [0, 1, 2] rfl) hf
set_option maxRecDepth 100000 in
set_option maxHeartbeats 4000000 in
theorem wX12_stockWith_34 (C : Cx p s m meth c args cX12_stockWith 4 (some .int) RX12 D ca ad) {res : Int32 × Mm} {N : Nat} {k9 : Nat → Int32 → Int32 → Int32 → Mm → Option (Int32 × Mm)} (hk9 : ∀ (a0 : Nat) (a1 : Int32) (a2 : Int32) (a3 : Int32) (mm : Mm) (H : Heap) (locs : List Loc) (ls : Array Slot), (sX12 a0) → Wd D ca ad s.heap mm H locs → lv_has ls 4 [(0, .ref (ad a0)), (1, .int a1), (2, .int a2), (3, .int a3)] → k9 a0 a1 a2 a3 mm = some res → W p l e (rmX12_stockWith) s m args below meth c H locs 0 0 (MQ below (QI D ca ad res) args s 0 0 (AA ad)) (F0 m 9 ls [])) {a0 : Nat} {a1 : Int32} {a3 : Int32} {s0 : Int32} {s1 : Int32} {mm : Mm} {H : Heap} {locs : List Loc} {ls : Array Slot} (ha0 : sX12 a0) (hW : Wd D ca ad s.heap mm H locs) (hl : lv_has ls 4 [(0, .ref (ad a0)), (1, .int a1), (3, .int a3)]) (hf : fX12_stockWith_34 N k9 a0 a1 a3 s0 s1 mm = some res) : W p l e (rmX12_stockWith) s m args below meth c H locs 0 0 (MQ below (QI D ca ad res) args s 0 0 (AA ad)) (F0 m 34 ls [.int s1, .int s0]) := by
  unfold fX12_stockWith_34 at hf
  refine lv_iadd C.1 C.2.1 dX12_stockWith_34 ?_
  refine lv_istore_n (lv' := [(2, .int (s0 + s1)), (0, .ref (ad a0)), (1, .int a1), (3, .int a3)]) C.1 C.2.1 dX12_stockWith_35 rfl hl (by decide) rfl (fun ls hl => ?_)
  refine lv_iinc (v := (a3 + 1)) (lv' := [(3, .int (a3 + 1)), (2, .int (s0 + s1)), (0, .ref (ad a0)), (1, .int a1)]) C.1 C.2.1 dX12_stockWith_36 hl (k := 3) rfl rfl (by decide) rfl (fun ls hl => ?_)
  refine lv_goto (tgt := 9) C.1 C.2.1 dX12_stockWith_39 (by decide) ?_
  exact hk9 _ _ _ _ _ _ _ _ ha0 hW (lv_sub hl [2, 3, 1, 0] rfl) hf
set_option maxRecDepth 100000 in
set_option maxHeartbeats 4000000 in
theorem wX12_stockWith_9 (C : Cx p s m meth c args cX12_stockWith 4 (some .int) RX12 D ca ad) {res : Int32 × Mm} {N : Nat}  : ∀ (n : Nat) {a0 : Nat} {a1 : Int32} {a2 : Int32} {a3 : Int32} {mm : Mm} {H : Heap} {locs : List Loc} {ls : Array Slot}, (sX12 a0) → Wd D ca ad s.heap mm H locs → lv_has ls 4 [(0, .ref (ad a0)), (1, .int a1), (2, .int a2), (3, .int a3)] → fX12_stockWith_9 N n a0 a1 a2 a3 mm = some res → W p l e (rmX12_stockWith) s m args below meth c H locs 0 0 (MQ below (QI D ca ad res) args s 0 0 (AA ad)) (F0 m 9 ls []) := by
  intro n
  induction n with
  | zero => intro a0 a1 a2 a3 mm H locs ls ha0 hW hl hf; cases hf
  | succ n ih =>
    intro a0 a1 a2 a3 mm H locs ls ha0 hW hl hf
    have hk9 : ∀ (a0 : Nat) (a1 : Int32) (a2 : Int32) (a3 : Int32) (mm : Mm) (H : Heap) (locs : List Loc) (ls : Array Slot), (sX12 a0) → Wd D ca ad s.heap mm H locs → lv_has ls 4 [(0, .ref (ad a0)), (1, .int a1), (2, .int a2), (3, .int a3)] → (fX12_stockWith_9 N n) a0 a1 a2 a3 mm = some res → W p l e (rmX12_stockWith) s m args below meth c H locs 0 0 (MQ below (QI D ca ad res) args s 0 0 (AA ad)) (F0 m 9 ls []) := fun a0 a1 a2 a3 mm H locs ls ha0 hW hl hf => ih ha0 hW hl hf
    unfold fX12_stockWith_9 at hf
    try dsimp only at hf
    refine lv_iload_n C.1 C.2.1 dX12_stockWith_9 rfl (lv_at hl 3 rfl) ?_
    refine lv_iconst (v := 4) C.1 C.2.1 dX12_stockWith_10 (by decide) ?_
    refine lv_icmp_ge (tgt := 42) C.1 C.2.1 dX12_stockWith_11 (by decide) (fun c1 => ?_) (fun c1 => ?_)
    · have hf := if_t c1 hf
      refine lv_iload_n C.1 C.2.1 dX12_stockWith_42 rfl (lv_at hl 2 rfl) ?_
      cases hf
      exact x_iret C hW dX12_stockWith_43
    · have hf := if_f c1 hf
      refine lv_iload_n C.1 C.2.1 dX12_stockWith_14 rfl (lv_at hl 2 rfl) ?_
      refine lv_iload_n C.1 C.2.1 dX12_stockWith_15 rfl (lv_at hl 1 rfl) ?_
      refine lv_iload_n C.1 C.2.1 dX12_stockWith_16 rfl (lv_at hl 3 rfl) ?_
      refine lv_ishr C.1 C.2.1 dX12_stockWith_17 ?_
      refine lv_iconst (v := 1) C.1 C.2.1 dX12_stockWith_18 (by decide) ?_
      refine lv_iand C.1 C.2.1 dX12_stockWith_19 ?_
      refine lv_iconst (v := 1) C.1 C.2.1 dX12_stockWith_20 (by decide) ?_
      refine lv_icmp_ne (tgt := 33) C.1 C.2.1 dX12_stockWith_21 (by decide) (fun c2 => ?_) (fun c2 => ?_)
      · have hf := if_f c2 hf
        refine lv_iconst (v := 0) C.1 C.2.1 dX12_stockWith_33 (by decide) ?_
        exact wX12_stockWith_34 C hk9 ha0 hW (lv_sub hl [0, 1, 3] rfl) hf
      · have hf := if_t c2 hf
        refine lv_aload_n C.1 C.2.1 dX12_stockWith_24 rfl (lv_at hl 0 rfl) ?_
        refine x_getr C hW (ha0).1 (ha0).2.1 (j := 35) rfl kX12 (by decide) rfl q_1051 dX12_stockWith_25 ?_
        refine lv_iload_n C.1 C.2.1 dX12_stockWith_28 rfl (lv_at hl 3 rfl) ?_
        obtain ⟨g3, hf⟩ := gd_s hf
        refine x_iald C hW ha0.2.2.2.2.2.2.2.2.2.2.2.2.2.2.2.2.2.2.1 g3 dX12_stockWith_29 ?_
        refine lv_goto (tgt := 34) C.1 C.2.1 dX12_stockWith_30 (by decide) ?_
        exact wX12_stockWith_34 C hk9 ha0 hW (lv_sub hl [0, 1, 3] rfl) hf
set_option maxRecDepth 100000 in
set_option maxHeartbeats 4000000 in
theorem wX12_stockWith_0 (C : Cx p s m meth c args cX12_stockWith 4 (some .int) RX12 D ca ad) {res : Int32 × Mm} {N : Nat}  {a0 : Nat} {a1 : Int32} {mm : Mm} {H : Heap} {locs : List Loc} {ls : Array Slot} (ha0 : sX12 a0) (hW : Wd D ca ad s.heap mm H locs) (hl : lv_has ls 4 [(0, .ref (ad a0)), (1, .int a1)]) (hf : fX12_stockWith N a0 a1 mm = some res) : W p l e (rmX12_stockWith) s m args below meth c H locs 0 0 (MQ below (QI D ca ad res) args s 0 0 (AA ad)) (F0 m 0 ls []) := by
  unfold fX12_stockWith at hf
  refine lv_aload_n C.1 C.2.1 dX12_stockWith_0 rfl (lv_at hl 0 rfl) ?_
  refine x_getr C hW (ha0).1 (ha0).2.1 (j := 12) rfl kX12 (by decide) rfl q_1028 dX12_stockWith_1 ?_
  refine lv_iconst (v := 0) C.1 C.2.1 dX12_stockWith_4 (by decide) ?_
  obtain ⟨g4, hf⟩ := gd_s hf
  refine x_iald C hW ha0.2.2.2.2.2.2.2.2.2.1 g4 dX12_stockWith_5 ?_
  refine lv_topi (fun x5 ex5 => ?_)
  have hf := nm_s hf ex5
  refine lv_istore_n (lv' := [(2, .int x5), (0, .ref (ad a0)), (1, .int a1)]) C.1 C.2.1 dX12_stockWith_6 rfl hl (by decide) rfl (fun ls hl => ?_)
  refine lv_iconst (v := 0) C.1 C.2.1 dX12_stockWith_7 (by decide) ?_
  refine lv_istore_n (lv' := [(3, .int 0), (2, .int x5), (0, .ref (ad a0)), (1, .int a1)]) C.1 C.2.1 dX12_stockWith_8 rfl hl (by decide) rfl (fun ls hl => ?_)
  exact wX12_stockWith_9 C  N ha0 hW (lv_sub hl [2, 3, 1, 0] rfl) hf
set_option maxRecDepth 100000 in
set_option maxHeartbeats 4000000 in
theorem tX12_stockWith (l : Launch) {D : va_G} {ca ad : Nat → Nat} (hi : Inj ad) {N : Nat} {a0 : Nat} {a1 : Int32} {mm : Mm} {res : Int32 × Mm} (ha0 : sX12 a0) (hf : fX12_stockWith N a0 a1 mm = some res) : Met l yX12_stockWith (WS yX12_stockWith cX12_stockWith 4 (some .int)) (rmX12_stockWith) (va_Pc [.ref (ad a0), .int a1] (WB D ca ad mm)) (QI D ca ad res) 0 0 (AA ad) := by
  refine x_start hi (by decide) rfl (Nat.le_of_ble_eq_true rfl) (fun p e s m args below meth c ls C hW hl => ?_)
  exact wX12_stockWith_0 C ha0 hW (lv_sub hl [0, 1] rfl) hf
set_option maxRecDepth 100000 in
set_option maxHeartbeats 4000000 in
theorem wX12_scoreWith_0 (C : Cx p s m meth c args cX12_scoreWith 2 (some .int) RX12 D ca ad) {res : Int32 × Mm} {N : Nat}  {a0 : Nat} {a1 : Int32} {mm : Mm} {H : Heap} {locs : List Loc} {ls : Array Slot} (ha0 : sX12 a0) (hW : Wd D ca ad s.heap mm H locs) (hl : lv_has ls 2 [(0, .ref (ad a0)), (1, .int a1)]) (hf : fX12_scoreWith N a0 a1 mm = some res) : W p l e (rmX12_scoreWith) s m args below meth c H locs 0 0 (MQ below (QI D ca ad res) args s 0 0 (AA ad)) (F0 m 0 ls []) := by
  unfold fX12_scoreWith at hf
  refine lv_aload_n C.1 C.2.1 dX12_scoreWith_0 rfl (lv_at hl 0 rfl) ?_
  refine lv_aload_n C.1 C.2.1 dX12_scoreWith_1 rfl (lv_at hl 0 rfl) ?_
  refine lv_iload_n C.1 C.2.1 dX12_scoreWith_2 rfl (lv_at hl 1 rfl) ?_
  obtain ⟨x1, m2, r3, hf⟩ := bd2_s hf
  refine x_ci hW (x_runV C hW [.int a1] [.ref (ad a0)] (ha0).1 (ha0).2.1 kX12.1 kvX12_stockWith q_1458 (tX12_stockWith l C.2.2.2.2.2.2.1 ha0 r3) rfl rfl ⟨by decide, by decide⟩ rfl hl.1 rfl (Nat.le_of_ble_eq_true rfl) dX12_scoreWith_3) (fun H locs hW => ?_)
  obtain ⟨x4, m5, r6, hf⟩ := bd2_s hf
  refine x_cv hW (x_runV C hW [.int x1] [] (ha0).1 (ha0).2.1 kX12.1 kvX12_setBest q_1328 (tX12_setBest l C.2.2.2.2.2.2.1 ha0 r6) rfl rfl ⟨by decide, by decide⟩ rfl hl.1 rfl (Nat.le_of_ble_eq_true rfl) dX12_scoreWith_6) (fun H locs hW => ?_)
  refine lv_aload_n C.1 C.2.1 dX12_scoreWith_9 rfl (lv_at hl 0 rfl) ?_
  refine x_geti C hW (ha0).1 (ha0).2.1 (j := 24) rfl kX12 (by decide) rfl q_1040 dX12_scoreWith_10 ?_
  cases hf
  exact x_iret C hW dX12_scoreWith_13
set_option maxRecDepth 100000 in
set_option maxHeartbeats 4000000 in
theorem tX12_scoreWith (l : Launch) {D : va_G} {ca ad : Nat → Nat} (hi : Inj ad) {N : Nat} {a0 : Nat} {a1 : Int32} {mm : Mm} {res : Int32 × Mm} (ha0 : sX12 a0) (hf : fX12_scoreWith N a0 a1 mm = some res) : Met l yX12_scoreWith (WS yX12_scoreWith cX12_scoreWith 2 (some .int)) (rmX12_scoreWith) (va_Pc [.ref (ad a0), .int a1] (WB D ca ad mm)) (QI D ca ad res) 0 0 (AA ad) := by
  refine x_start hi (by decide) rfl (Nat.le_of_ble_eq_true rfl) (fun p e s m args below meth c ls C hW hl => ?_)
  exact wX12_scoreWith_0 C ha0 hW (lv_sub hl [0, 1] rfl) hf
set_option maxRecDepth 100000 in
set_option maxHeartbeats 4000000 in
theorem wX12_askedLend_0 (C : Cx p s m meth c args cX12_askedLend 4 (some .int) RX12 D ca ad) {res : Int32 × Mm} {N : Nat}  {a0 : Nat} {a1 : Int32} {a2 : Int32} {mm : Mm} {H : Heap} {locs : List Loc} {ls : Array Slot} (ha0 : sX12 a0) (hW : Wd D ca ad s.heap mm H locs) (hl : lv_has ls 4 [(0, .ref (ad a0)), (1, .int a1), (2, .int a2)]) (hf : fX12_askedLend N a0 a1 a2 mm = some res) : W p l e (rmX12_askedLend) s m args below meth c H locs 0 0 (MQ below (QI D ca ad res) args s 0 0 (AA ad)) (F0 m 0 ls []) := by
  unfold fX12_askedLend at hf
  refine lv_aload_n C.1 C.2.1 dX12_askedLend_0 rfl (lv_at hl 0 rfl) ?_
  refine lv_iload_n C.1 C.2.1 dX12_askedLend_1 rfl (lv_at hl 2 rfl) ?_
  refine lv_iconst (v := 1) C.1 C.2.1 dX12_askedLend_2 (by decide) ?_
  obtain ⟨x1, m2, r3, hf⟩ := bd2_s hf
  refine x_ci hW (x_runV C hW [.int a2, .int 1] [] (ha0).1 (ha0).2.1 kX12.1 kvX12_askedLaying q_1320 (tX12_askedLaying l C.2.2.2.2.2.2.1 ha0 r3) rfl rfl ⟨by decide, by decide⟩ rfl hl.1 rfl (Nat.le_of_ble_eq_true rfl) dX12_askedLend_3) (fun H locs hW => ?_)
  refine lv_istore_n (lv' := [(3, .int x1), (0, .ref (ad a0)), (1, .int a1), (2, .int a2)]) C.1 C.2.1 dX12_askedLend_6 rfl hl (by decide) rfl (fun ls hl => ?_)
  refine lv_iload_n C.1 C.2.1 dX12_askedLend_7 rfl (lv_at hl 0 rfl) ?_
  refine lv_if_ge (tgt := 15) C.1 C.2.1 dX12_askedLend_8 (by decide) (fun c4 => ?_) (fun c4 => ?_)
  · have hf := if_t c4 hf
    refine lv_aload_n C.1 C.2.1 dX12_askedLend_15 rfl (lv_at hl 1 rfl) ?_
    refine lv_iload_n C.1 C.2.1 dX12_askedLend_16 rfl (lv_at hl 2 rfl) ?_
    obtain ⟨x5, m6, r7, hf⟩ := bd2_s hf
    refine x_ci hW (x_runV C hW [.int a1] [] (ha0).1 (ha0).2.1 kX12.1 kvX12_stockWith q_1458 (tX12_stockWith l C.2.2.2.2.2.2.1 ha0 r7) rfl rfl ⟨by decide, by decide⟩ rfl hl.1 rfl (Nat.le_of_ble_eq_true rfl) dX12_askedLend_17) (fun H locs hW => ?_)
    refine lv_bipush (v := 40) C.1 C.2.1 dX12_askedLend_20 (by decide) ?_
    refine lv_icmp_le (tgt := 30) C.1 C.2.1 dX12_askedLend_22 (by decide) (fun c8 => ?_) (fun c8 => ?_)
    · have hf := if_t c8 hf
      refine lv_iconst (v := 0) C.1 C.2.1 dX12_askedLend_30 (by decide) ?_
      cases hf
      exact x_iret C hW dX12_askedLend_31
    · have hf := if_f c8 hf
      refine lv_bipush (v := (-6)) C.1 C.2.1 dX12_askedLend_25 (by decide) ?_
      refine lv_goto (tgt := 31) C.1 C.2.1 dX12_askedLend_27 (by decide) ?_
      cases hf
      exact x_iret C hW dX12_askedLend_31
  · have hf := if_f c4 hf
    refine lv_iload_n C.1 C.2.1 dX12_askedLend_11 rfl (lv_at hl 0 rfl) ?_
    refine lv_goto (tgt := 31) C.1 C.2.1 dX12_askedLend_12 (by decide) ?_
    cases hf
    exact x_iret C hW dX12_askedLend_31
set_option maxRecDepth 100000 in
set_option maxHeartbeats 4000000 in
theorem tX12_askedLend (l : Launch) {D : va_G} {ca ad : Nat → Nat} (hi : Inj ad) {N : Nat} {a0 : Nat} {a1 : Int32} {a2 : Int32} {mm : Mm} {res : Int32 × Mm} (ha0 : sX12 a0) (hf : fX12_askedLend N a0 a1 a2 mm = some res) : Met l yX12_askedLend (WS yX12_askedLend cX12_askedLend 4 (some .int)) (rmX12_askedLend) (va_Pc [.ref (ad a0), .int a1, .int a2] (WB D ca ad mm)) (QI D ca ad res) 0 0 (AA ad) := by
  refine x_start hi (by decide) rfl (Nat.le_of_ble_eq_true rfl) (fun p e s m args below meth c ls C hW hl => ?_)
  exact wX12_askedLend_0 C ha0 hW (lv_sub hl [0, 1, 2] rfl) hf
set_option maxRecDepth 100000 in
set_option maxHeartbeats 4000000 in
theorem wX12_lend_0 (C : Cx p s m meth c args cX12_lend 4 (some .int) RX12 D ca ad) {res : Int32 × Mm} {N : Nat}  {a0 : Nat} {a1 : Int32} {a2 : Int32} {mm : Mm} {H : Heap} {locs : List Loc} {ls : Array Slot} (ha0 : sX12 a0) (hW : Wd D ca ad s.heap mm H locs) (hl : lv_has ls 4 [(0, .ref (ad a0)), (1, .int a1), (2, .int a2)]) (hf : fX12_lend N a0 a1 a2 mm = some res) : W p l e (rmX12_lend) s m args below meth c H locs 0 0 (MQ below (QI D ca ad res) args s 0 0 (AA ad)) (F0 m 0 ls []) := by
  unfold fX12_lend at hf
  refine lv_iload_n C.1 C.2.1 dX12_lend_0 rfl (lv_at hl 1 rfl) ?_
  refine lv_iconst (v := 0) C.1 C.2.1 dX12_lend_1 (by decide) ?_
  refine lv_bipush (v := 15) C.1 C.2.1 dX12_lend_2 (by decide) ?_
  obtain ⟨x1, m2, r3, hf⟩ := bd2_s hf
  refine x_ci hW (x_runS C hW [.int a1, .int 0, .int 15] [] kvX12_in q_1150 (tX12_in l C.2.2.2.2.2.2.1  r3) rfl rfl ⟨by decide, by decide⟩ rfl hl.1 rfl (Nat.le_of_ble_eq_true rfl) dX12_lend_4) (fun H locs hW => ?_)
  refine lv_if_eq (tgt := 17) C.1 C.2.1 dX12_lend_7 (by decide) (fun c4 => ?_) (fun c4 => ?_)
  · have hf := if_t c4 hf
    refine lv_iconst (v := (-1)) C.1 C.2.1 dX12_lend_17 (by decide) ?_
    cases hf
    exact x_iret C hW dX12_lend_18
  · have hf := if_f c4 hf
    refine lv_iload_n C.1 C.2.1 dX12_lend_10 rfl (lv_at hl 2 rfl) ?_
    obtain ⟨x5, m6, r7, hf⟩ := bd2_s hf
    refine x_ci hW (x_runS C hW [.int a2] [] kvX12_isRow q_1147 (tX12_isRow l C.2.2.2.2.2.2.1  r7) rfl rfl ⟨by decide, by decide⟩ rfl hl.1 rfl (Nat.le_of_ble_eq_true rfl) dX12_lend_11) (fun H locs hW => ?_)
    refine lv_if_ne (tgt := 19) C.1 C.2.1 dX12_lend_14 (by decide) (fun c8 => ?_) (fun c8 => ?_)
    · have hf := if_f c8 hf
      refine lv_aload_n C.1 C.2.1 dX12_lend_19 rfl (lv_at hl 0 rfl) ?_
      refine lv_iload_n C.1 C.2.1 dX12_lend_20 rfl (lv_at hl 1 rfl) ?_
      refine lv_iload_n C.1 C.2.1 dX12_lend_21 rfl (lv_at hl 2 rfl) ?_
      obtain ⟨x9, m10, r11, hf⟩ := bd2_s hf
      refine x_ci hW (x_runV C hW [.int a1, .int a2] [] (ha0).1 (ha0).2.1 kX12.1 kvX12_askedLend q_1454 (tX12_askedLend l C.2.2.2.2.2.2.1 ha0 r11) rfl rfl ⟨by decide, by decide⟩ rfl hl.1 rfl (Nat.le_of_ble_eq_true rfl) dX12_lend_22) (fun H locs hW => ?_)
      refine lv_istore_n (lv' := [(3, .int x9), (0, .ref (ad a0)), (1, .int a1), (2, .int a2)]) C.1 C.2.1 dX12_lend_25 rfl hl (by decide) rfl (fun ls hl => ?_)
      refine lv_iload_n C.1 C.2.1 dX12_lend_26 rfl (lv_at hl 0 rfl) ?_
      refine lv_if_ge (tgt := 32) C.1 C.2.1 dX12_lend_27 (by decide) (fun c12 => ?_) (fun c12 => ?_)
      · have hf := if_t c12 hf
        refine lv_aload_n C.1 C.2.1 dX12_lend_32 rfl (lv_at hl 1 rfl) ?_
        refine lv_iload_n C.1 C.2.1 dX12_lend_33 rfl (lv_at hl 3 rfl) ?_
        refine lv_iconst (v := 1) C.1 C.2.1 dX12_lend_34 (by decide) ?_
        obtain ⟨x13, m14, r15, hf⟩ := bd2_s hf
        refine x_cv hW (x_runV C hW [.int a2, .int 1] [] (ha0).1 (ha0).2.1 kX12.1 kvX12_takes q_1288 (tX12_takes l C.2.2.2.2.2.2.1 ha0 r15) rfl rfl ⟨by decide, by decide⟩ rfl hl.1 rfl (Nat.le_of_ble_eq_true rfl) dX12_lend_35) (fun H locs hW => ?_)
        refine lv_aload_n C.1 C.2.1 dX12_lend_38 rfl (lv_at hl 1 rfl) ?_
        refine lv_iload_n C.1 C.2.1 dX12_lend_39 rfl (lv_at hl 2 rfl) ?_
        obtain ⟨x16, m17, r18, hf⟩ := bd2_s hf
        refine x_ci hW (x_runV C hW [.int a1] [] (ha0).1 (ha0).2.1 kX12.1 kvX12_scoreWith q_1462 (tX12_scoreWith l C.2.2.2.2.2.2.1 ha0 r18) rfl rfl ⟨by decide, by decide⟩ rfl hl.1 rfl (Nat.le_of_ble_eq_true rfl) dX12_lend_40) (fun H locs hW => ?_)
        refine lv_aload_n C.1 C.2.1 dX12_lend_43 rfl (lv_at hl 1 rfl) ?_
        refine lv_iconst (v := 0) C.1 C.2.1 dX12_lend_44 (by decide) ?_
        obtain ⟨x19, m20, r21, hf⟩ := bd2_s hf
        refine x_ci hW (x_runV C hW [.int 0] [.int x16] (ha0).1 (ha0).2.1 kX12.1 kvX12_scoreWith q_1462 (tX12_scoreWith l C.2.2.2.2.2.2.1 ha0 r21) rfl rfl ⟨by decide, by decide⟩ rfl hl.1 rfl (Nat.le_of_ble_eq_true rfl) dX12_lend_45) (fun H locs hW => ?_)
        refine lv_isub C.1 C.2.1 dX12_lend_48 ?_
        cases hf
        exact x_iret C hW dX12_lend_49
      · have hf := if_f c12 hf
        refine lv_iload_n C.1 C.2.1 dX12_lend_30 rfl (lv_at hl 0 rfl) ?_
        cases hf
        exact x_iret C hW dX12_lend_31
    · have hf := if_t c8 hf
      refine lv_iconst (v := (-1)) C.1 C.2.1 dX12_lend_17 (by decide) ?_
      cases hf
      exact x_iret C hW dX12_lend_18
set_option maxRecDepth 100000 in
set_option maxHeartbeats 4000000 in
theorem tX12_lend (l : Launch) {D : va_G} {ca ad : Nat → Nat} (hi : Inj ad) {N : Nat} {a0 : Nat} {a1 : Int32} {a2 : Int32} {mm : Mm} {res : Int32 × Mm} (ha0 : sX12 a0) (hf : fX12_lend N a0 a1 a2 mm = some res) : Met l yX12_lend (WS yX12_lend cX12_lend 4 (some .int)) (rmX12_lend) (va_Pc [.ref (ad a0), .int a1, .int a2] (WB D ca ad mm)) (QI D ca ad res) 0 0 (AA ad) := by
  refine x_start hi (by decide) rfl (Nat.le_of_ble_eq_true rfl) (fun p e s m args below meth c ls C hW hl => ?_)
  exact wX12_lend_0 C ha0 hW (lv_sub hl [0, 1, 2] rfl) hf
set_option maxRecDepth 100000 in
set_option maxHeartbeats 4000000 in
theorem wX12_leaves_237 (C : Cx p s m meth c args cX12_leaves 8 (some .int) RX12 D ca ad) {res : Int32 × Mm} {N : Nat} {k150 : Nat → Int32 → Int32 → Int32 → Mm → Option (Int32 × Mm)} (hk150 : ∀ (a0 : Nat) (a2 : Int32) (a4 : Int32) (a5 : Int32) (mm : Mm) (H : Heap) (locs : List Loc) (ls : Array Slot), (sX12 a0) → Wd D ca ad s.heap mm H locs → lv_has ls 8 [(0, .ref (ad a0)), (2, .int a2), (4, .int a4), (5, .int a5)] → k150 a0 a2 a4 a5 mm = some res → W p l e (rmX12_leaves) s m args below meth c H locs 0 0 (MQ below (QI D ca ad res) args s 0 0 (AA ad)) (F0 m 150 ls [])) {a0 : Nat} {a2 : Int32} {a4 : Int32} {a5 : Int32} {mm : Mm} {H : Heap} {locs : List Loc} {ls : Array Slot} (ha0 : sX12 a0) (hW : Wd D ca ad s.heap mm H locs) (hl : lv_has ls 8 [(0, .ref (ad a0)), (2, .int a2), (4, .int a4), (5, .int a5)]) (hf : fX12_leaves_237 N k150 a0 a2 a4 a5 mm = some res) : W p l e (rmX12_leaves) s m args below meth c H locs 0 0 (MQ below (QI D ca ad res) args s 0 0 (AA ad)) (F0 m 237 ls []) := by
  unfold fX12_leaves_237 at hf
  refine lv_iinc (v := (a5 + 1)) (lv' := [(5, .int (a5 + 1)), (0, .ref (ad a0)), (2, .int a2), (4, .int a4)]) C.1 C.2.1 dX12_leaves_237 hl (k := 3) rfl rfl (by decide) rfl (fun ls hl => ?_)
  refine lv_goto (tgt := 150) C.1 C.2.1 dX12_leaves_240 (by decide) ?_
  exact hk150 _ _ _ _ _ _ _ _ ha0 hW (lv_sub hl [1, 2, 3, 0] rfl) hf
set_option maxRecDepth 100000 in
set_option maxHeartbeats 4000000 in
theorem wX12_leaves_193 (C : Cx p s m meth c args cX12_leaves 8 (some .int) RX12 D ca ad) {res : Int32 × Mm} {N : Nat} {k150 : Nat → Int32 → Int32 → Int32 → Mm → Option (Int32 × Mm)} {k163 : Nat → Int32 → Int32 → Int32 → Int32 → Int32 → Mm → Option (Int32 × Mm)} (hk150 : ∀ (a0 : Nat) (a2 : Int32) (a4 : Int32) (a5 : Int32) (mm : Mm) (H : Heap) (locs : List Loc) (ls : Array Slot), (sX12 a0) → Wd D ca ad s.heap mm H locs → lv_has ls 8 [(0, .ref (ad a0)), (2, .int a2), (4, .int a4), (5, .int a5)] → k150 a0 a2 a4 a5 mm = some res → W p l e (rmX12_leaves) s m args below meth c H locs 0 0 (MQ below (QI D ca ad res) args s 0 0 (AA ad)) (F0 m 150 ls [])) (hk163 : ∀ (a0 : Nat) (a2 : Int32) (a4 : Int32) (a5 : Int32) (a6 : Int32) (a7 : Int32) (mm : Mm) (H : Heap) (locs : List Loc) (ls : Array Slot), (sX12 a0) → Wd D ca ad s.heap mm H locs → lv_has ls 8 [(0, .ref (ad a0)), (2, .int a2), (4, .int a4), (5, .int a5), (6, .int a6), (7, .int a7)] → k163 a0 a2 a4 a5 a6 a7 mm = some res → W p l e (rmX12_leaves) s m args below meth c H locs 0 0 (MQ below (QI D ca ad res) args s 0 0 (AA ad)) (F0 m 163 ls [])) {a0 : Nat} {a2 : Int32} {a4 : Int32} {a5 : Int32} {a7 : Int32} {s0 : Int32} {s1 : Int32} {mm : Mm} {H : Heap} {locs : List Loc} {ls : Array Slot} (ha0 : sX12 a0) (hW : Wd D ca ad s.heap mm H locs) (hl : lv_has ls 8 [(0, .ref (ad a0)), (2, .int a2), (4, .int a4), (5, .int a5), (7, .int a7)]) (hf : fX12_leaves_193 N k150 k163 a0 a2 a4 a5 a7 s0 s1 mm = some res) : W p l e (rmX12_leaves) s m args below meth c H locs 0 0 (MQ below (QI D ca ad res) args s 0 0 (AA ad)) (F0 m 193 ls [.int s1, .int s0]) := by
  unfold fX12_leaves_193 at hf
  refine lv_iadd C.1 C.2.1 dX12_leaves_193 ?_
  refine lv_istore (lv' := [(6, .int (s0 + s1)), (0, .ref (ad a0)), (2, .int a2), (4, .int a4), (5, .int a5), (7, .int a7)]) C.1 C.2.1 dX12_leaves_194 hl (by decide) rfl (fun ls hl => ?_)
  refine lv_iinc (v := (a7 + 1)) (lv' := [(7, .int (a7 + 1)), (6, .int (s0 + s1)), (0, .ref (ad a0)), (2, .int a2), (4, .int a4), (5, .int a5)]) C.1 C.2.1 dX12_leaves_196 hl (k := 5) rfl rfl (by decide) rfl (fun ls hl => ?_)
  refine lv_goto (tgt := 163) C.1 C.2.1 dX12_leaves_199 (by decide) ?_
  exact hk163 _ _ _ _ _ _ _ _ _ _ ha0 hW (lv_sub hl [2, 3, 4, 5, 1, 0] rfl) hf
set_option maxRecDepth 100000 in
set_option maxHeartbeats 4000000 in
theorem wX12_leaves_163 (C : Cx p s m meth c args cX12_leaves 8 (some .int) RX12 D ca ad) {res : Int32 × Mm} {N : Nat} {k150 : Nat → Int32 → Int32 → Int32 → Mm → Option (Int32 × Mm)} (hk150 : ∀ (a0 : Nat) (a2 : Int32) (a4 : Int32) (a5 : Int32) (mm : Mm) (H : Heap) (locs : List Loc) (ls : Array Slot), (sX12 a0) → Wd D ca ad s.heap mm H locs → lv_has ls 8 [(0, .ref (ad a0)), (2, .int a2), (4, .int a4), (5, .int a5)] → k150 a0 a2 a4 a5 mm = some res → W p l e (rmX12_leaves) s m args below meth c H locs 0 0 (MQ below (QI D ca ad res) args s 0 0 (AA ad)) (F0 m 150 ls [])) : ∀ (n : Nat) {a0 : Nat} {a2 : Int32} {a4 : Int32} {a5 : Int32} {a6 : Int32} {a7 : Int32} {mm : Mm} {H : Heap} {locs : List Loc} {ls : Array Slot}, (sX12 a0) → Wd D ca ad s.heap mm H locs → lv_has ls 8 [(0, .ref (ad a0)), (2, .int a2), (4, .int a4), (5, .int a5), (6, .int a6), (7, .int a7)] → fX12_leaves_163 N k150 n a0 a2 a4 a5 a6 a7 mm = some res → W p l e (rmX12_leaves) s m args below meth c H locs 0 0 (MQ below (QI D ca ad res) args s 0 0 (AA ad)) (F0 m 163 ls []) := by
  intro n
  induction n with
  | zero => intro a0 a2 a4 a5 a6 a7 mm H locs ls ha0 hW hl hf; cases hf
  | succ n ih =>
    intro a0 a2 a4 a5 a6 a7 mm H locs ls ha0 hW hl hf
    have hk163 : ∀ (a0 : Nat) (a2 : Int32) (a4 : Int32) (a5 : Int32) (a6 : Int32) (a7 : Int32) (mm : Mm) (H : Heap) (locs : List Loc) (ls : Array Slot), (sX12 a0) → Wd D ca ad s.heap mm H locs → lv_has ls 8 [(0, .ref (ad a0)), (2, .int a2), (4, .int a4), (5, .int a5), (6, .int a6), (7, .int a7)] → (fX12_leaves_163 N k150 n) a0 a2 a4 a5 a6 a7 mm = some res → W p l e (rmX12_leaves) s m args below meth c H locs 0 0 (MQ below (QI D ca ad res) args s 0 0 (AA ad)) (F0 m 163 ls []) := fun a0 a2 a4 a5 a6 a7 mm H locs ls ha0 hW hl hf => ih ha0 hW hl hf
    unfold fX12_leaves_163 at hf
    try dsimp only at hf
    refine lv_iload C.1 C.2.1 dX12_leaves_163 (lv_at hl 5 rfl) ?_
    refine lv_iconst (v := 4) C.1 C.2.1 dX12_leaves_165 (by decide) ?_
    refine lv_icmp_ge (tgt := 202) C.1 C.2.1 dX12_leaves_166 (by decide) (fun c1 => ?_) (fun c1 => ?_)
    · have hf := if_t c1 hf
      refine lv_aload_n C.1 C.2.1 dX12_leaves_202 rfl (lv_at hl 0 rfl) ?_
      refine lv_iload C.1 C.2.1 dX12_leaves_203 (lv_at hl 3 rfl) ?_
      obtain ⟨x2, m3, r4, hf⟩ := bd2_s hf
      refine x_ci hW (x_runV C hW [.int a5] [] (ha0).1 (ha0).2.1 kX12.1 kvX12_scoreWith q_1462 (tX12_scoreWith l C.2.2.2.2.2.2.1 ha0 r4) rfl rfl ⟨by decide, by decide⟩ rfl hl.1 rfl (Nat.le_of_ble_eq_true rfl) dX12_leaves_205) (fun H locs hW => ?_)
      refine lv_iload C.1 C.2.1 dX12_leaves_208 (lv_at hl 2 rfl) ?_
      refine lv_isub C.1 C.2.1 dX12_leaves_210 ?_
      refine lv_istore (lv' := [(7, .int (x2 - a4)), (0, .ref (ad a0)), (2, .int a2), (4, .int a4), (5, .int a5), (6, .int a6)]) C.1 C.2.1 dX12_leaves_211 hl (by decide) rfl (fun ls hl => ?_)
      refine lv_iload C.1 C.2.1 dX12_leaves_213 (lv_at hl 0 rfl) ?_
      refine lv_iload C.1 C.2.1 dX12_leaves_215 (lv_at hl 5 rfl) ?_
      refine lv_icmp_gt (tgt := 234) C.1 C.2.1 dX12_leaves_217 (by decide) (fun c5 => ?_) (fun c5 => ?_)
      · have hf := if_t c5 hf
        refine lv_iload C.1 C.2.1 dX12_leaves_234 (lv_at hl 4 rfl) ?_
        cases hf
        exact x_iret C hW dX12_leaves_236
      · have hf := if_f c5 hf
        refine lv_iload C.1 C.2.1 dX12_leaves_220 (lv_at hl 4 rfl) ?_
        refine lv_bipush (v := 15) C.1 C.2.1 dX12_leaves_222 (by decide) ?_
        refine lv_icmp_ne (tgt := 237) C.1 C.2.1 dX12_leaves_224 (by decide) (fun c6 => ?_) (fun c6 => ?_)
        · have hf := if_f c6 hf
          exact wX12_leaves_237 C hk150 ha0 hW (lv_sub hl [1, 2, 3, 4] rfl) hf
        · have hf := if_t c6 hf
          refine lv_iload C.1 C.2.1 dX12_leaves_227 (lv_at hl 0 rfl) ?_
          refine lv_iload C.1 C.2.1 dX12_leaves_229 (lv_at hl 5 rfl) ?_
          refine lv_icmp_eq (tgt := 237) C.1 C.2.1 dX12_leaves_231 (by decide) (fun c7 => ?_) (fun c7 => ?_)
          · have hf := if_t c7 hf
            exact wX12_leaves_237 C hk150 ha0 hW (lv_sub hl [1, 2, 3, 4] rfl) hf
          · have hf := if_f c7 hf
            refine lv_iload C.1 C.2.1 dX12_leaves_234 (lv_at hl 4 rfl) ?_
            cases hf
            exact x_iret C hW dX12_leaves_236
    · have hf := if_f c1 hf
      refine lv_iload C.1 C.2.1 dX12_leaves_169 (lv_at hl 4 rfl) ?_
      refine lv_iload C.1 C.2.1 dX12_leaves_171 (lv_at hl 3 rfl) ?_
      refine lv_iload C.1 C.2.1 dX12_leaves_173 (lv_at hl 5 rfl) ?_
      refine lv_ishr C.1 C.2.1 dX12_leaves_175 ?_
      refine lv_iconst (v := 1) C.1 C.2.1 dX12_leaves_176 (by decide) ?_
      refine lv_iand C.1 C.2.1 dX12_leaves_177 ?_
      refine lv_iconst (v := 1) C.1 C.2.1 dX12_leaves_178 (by decide) ?_
      refine lv_icmp_ne (tgt := 192) C.1 C.2.1 dX12_leaves_179 (by decide) (fun c8 => ?_) (fun c8 => ?_)
      · have hf := if_f c8 hf
        refine lv_iconst (v := 0) C.1 C.2.1 dX12_leaves_192 (by decide) ?_
        exact wX12_leaves_193 C hk150 hk163 ha0 hW (lv_sub hl [0, 1, 2, 3, 5] rfl) hf
      · have hf := if_t c8 hf
        refine lv_aload_n C.1 C.2.1 dX12_leaves_182 rfl (lv_at hl 0 rfl) ?_
        refine lv_iload_n C.1 C.2.1 dX12_leaves_183 rfl (lv_at hl 1 rfl) ?_
        refine lv_iload C.1 C.2.1 dX12_leaves_184 (lv_at hl 5 rfl) ?_
        obtain ⟨x9, m10, r11, hf⟩ := bd2_s hf
        refine x_ci hW (x_runV C hW [.int a2, .int a7] [.int a6] (ha0).1 (ha0).2.1 kX12.1 kvX12_rowAt q_1169 (tX12_rowAt l C.2.2.2.2.2.2.1 ha0 r11) rfl rfl ⟨by decide, by decide⟩ rfl hl.1 rfl (Nat.le_of_ble_eq_true rfl) dX12_leaves_186) (fun H locs hW => ?_)
        refine lv_goto (tgt := 193) C.1 C.2.1 dX12_leaves_189 (by decide) ?_
        exact wX12_leaves_193 C hk150 hk163 ha0 hW (lv_sub hl [0, 1, 2, 3, 5] rfl) hf
set_option maxRecDepth 100000 in
set_option maxHeartbeats 4000000 in
theorem wX12_leaves_150 (C : Cx p s m meth c args cX12_leaves 8 (some .int) RX12 D ca ad) {res : Int32 × Mm} {N : Nat}  : ∀ (n : Nat) {a0 : Nat} {a2 : Int32} {a4 : Int32} {a5 : Int32} {mm : Mm} {H : Heap} {locs : List Loc} {ls : Array Slot}, (sX12 a0) → Wd D ca ad s.heap mm H locs → lv_has ls 8 [(0, .ref (ad a0)), (2, .int a2), (4, .int a4), (5, .int a5)] → fX12_leaves_150 N n a0 a2 a4 a5 mm = some res → W p l e (rmX12_leaves) s m args below meth c H locs 0 0 (MQ below (QI D ca ad res) args s 0 0 (AA ad)) (F0 m 150 ls []) := by
  intro n
  induction n with
  | zero => intro a0 a2 a4 a5 mm H locs ls ha0 hW hl hf; cases hf
  | succ n ih =>
    intro a0 a2 a4 a5 mm H locs ls ha0 hW hl hf
    have hk150 : ∀ (a0 : Nat) (a2 : Int32) (a4 : Int32) (a5 : Int32) (mm : Mm) (H : Heap) (locs : List Loc) (ls : Array Slot), (sX12 a0) → Wd D ca ad s.heap mm H locs → lv_has ls 8 [(0, .ref (ad a0)), (2, .int a2), (4, .int a4), (5, .int a5)] → (fX12_leaves_150 N n) a0 a2 a4 a5 mm = some res → W p l e (rmX12_leaves) s m args below meth c H locs 0 0 (MQ below (QI D ca ad res) args s 0 0 (AA ad)) (F0 m 150 ls []) := fun a0 a2 a4 a5 mm H locs ls ha0 hW hl hf => ih ha0 hW hl hf
    unfold fX12_leaves_150 at hf
    try dsimp only at hf
    refine lv_iload C.1 C.2.1 dX12_leaves_150 (lv_at hl 3 rfl) ?_
    refine lv_bipush (v := 16) C.1 C.2.1 dX12_leaves_152 (by decide) ?_
    refine lv_icmp_ge (tgt := 243) C.1 C.2.1 dX12_leaves_154 (by decide) (fun c12 => ?_) (fun c12 => ?_)
    · have hf := if_t c12 hf
      refine lv_iconst (v := 0) C.1 C.2.1 dX12_leaves_243 (by decide) ?_
      cases hf
      exact x_iret C hW dX12_leaves_244
    · have hf := if_f c12 hf
      refine lv_iconst (v := 0) C.1 C.2.1 dX12_leaves_157 (by decide) ?_
      refine lv_istore (lv' := [(6, .int 0), (0, .ref (ad a0)), (2, .int a2), (4, .int a4), (5, .int a5)]) C.1 C.2.1 dX12_leaves_158 hl (by decide) rfl (fun ls hl => ?_)
      refine lv_iconst (v := 0) C.1 C.2.1 dX12_leaves_160 (by decide) ?_
      refine lv_istore (lv' := [(7, .int 0), (6, .int 0), (0, .ref (ad a0)), (2, .int a2), (4, .int a4), (5, .int a5)]) C.1 C.2.1 dX12_leaves_161 hl (by decide) rfl (fun ls hl => ?_)
      exact wX12_leaves_163 C hk150 N ha0 hW (lv_sub hl [2, 3, 4, 5, 1, 0] rfl) hf
set_option maxRecDepth 100000 in
set_option maxHeartbeats 4000000 in
theorem wX12_leaves_85 (C : Cx p s m meth c args cX12_leaves 8 (some .int) RX12 D ca ad) {res : Int32 × Mm} {N : Nat}  : ∀ (n : Nat) {a0 : Nat} {a1 : Int32} {a2 : Int32} {a4 : Int32} {mm : Mm} {H : Heap} {locs : List Loc} {ls : Array Slot}, (sX12 a0) → Wd D ca ad s.heap mm H locs → lv_has ls 8 [(0, .ref (ad a0)), (1, .int a1), (2, .int a2), (4, .int a4)] → fX12_leaves_85 N n a0 a1 a2 a4 mm = some res → W p l e (rmX12_leaves) s m args below meth c H locs 0 0 (MQ below (QI D ca ad res) args s 0 0 (AA ad)) (F0 m 85 ls []) := by
  intro n
  induction n with
  | zero => intro a0 a1 a2 a4 mm H locs ls ha0 hW hl hf; cases hf
  | succ n ih =>
    intro a0 a1 a2 a4 mm H locs ls ha0 hW hl hf
    have hk85 : ∀ (a0 : Nat) (a1 : Int32) (a2 : Int32) (a4 : Int32) (mm : Mm) (H : Heap) (locs : List Loc) (ls : Array Slot), (sX12 a0) → Wd D ca ad s.heap mm H locs → lv_has ls 8 [(0, .ref (ad a0)), (1, .int a1), (2, .int a2), (4, .int a4)] → (fX12_leaves_85 N n) a0 a1 a2 a4 mm = some res → W p l e (rmX12_leaves) s m args below meth c H locs 0 0 (MQ below (QI D ca ad res) args s 0 0 (AA ad)) (F0 m 85 ls []) := fun a0 a1 a2 a4 mm H locs ls ha0 hW hl hf => ih ha0 hW hl hf
    unfold fX12_leaves_85 at hf
    try dsimp only at hf
    refine lv_iload C.1 C.2.1 dX12_leaves_85 (lv_at hl 3 rfl) ?_
    refine lv_iconst (v := 4) C.1 C.2.1 dX12_leaves_87 (by decide) ?_
    refine lv_icmp_ge (tgt := 120) C.1 C.2.1 dX12_leaves_88 (by decide) (fun c13 => ?_) (fun c13 => ?_)
    · have hf := if_t c13 hf
      refine lv_aload_n C.1 C.2.1 dX12_leaves_120 rfl (lv_at hl 0 rfl) ?_
      refine lv_bipush (v := 15) C.1 C.2.1 dX12_leaves_121 (by decide) ?_
      obtain ⟨x14, m15, r16, hf⟩ := bd2_s hf
      refine x_ci hW (x_runV C hW [.int 15] [] (ha0).1 (ha0).2.1 kX12.1 kvX12_stockWith q_1458 (tX12_stockWith l C.2.2.2.2.2.2.1 ha0 r16) rfl rfl ⟨by decide, by decide⟩ rfl hl.1 rfl (Nat.le_of_ble_eq_true rfl) dX12_leaves_123) (fun H locs hW => ?_)
      refine lv_bipush (v := 40) C.1 C.2.1 dX12_leaves_126 (by decide) ?_
      refine lv_icmp_le (tgt := 134) C.1 C.2.1 dX12_leaves_128 (by decide) (fun c17 => ?_) (fun c17 => ?_)
      · have hf := if_t c17 hf
        refine lv_aload_n C.1 C.2.1 dX12_leaves_134 rfl (lv_at hl 0 rfl) ?_
        refine lv_iload_n C.1 C.2.1 dX12_leaves_135 rfl (lv_at hl 1 rfl) ?_
        refine lv_iconst (v := 1) C.1 C.2.1 dX12_leaves_136 (by decide) ?_
        obtain ⟨x18, m19, r20, hf⟩ := bd2_s hf
        refine x_cv hW (x_runV C hW [.int a1, .int 1] [] (ha0).1 (ha0).2.1 kX12.1 kvX12_takes q_1288 (tX12_takes l C.2.2.2.2.2.2.1 ha0 r20) rfl rfl ⟨by decide, by decide⟩ rfl hl.1 rfl (Nat.le_of_ble_eq_true rfl) dX12_leaves_137) (fun H locs hW => ?_)
        refine lv_aload_n C.1 C.2.1 dX12_leaves_140 rfl (lv_at hl 0 rfl) ?_
        refine lv_iconst (v := 0) C.1 C.2.1 dX12_leaves_141 (by decide) ?_
        obtain ⟨x21, m22, r23, hf⟩ := bd2_s hf
        refine x_ci hW (x_runV C hW [.int 0] [] (ha0).1 (ha0).2.1 kX12.1 kvX12_scoreWith q_1462 (tX12_scoreWith l C.2.2.2.2.2.2.1 ha0 r23) rfl rfl ⟨by decide, by decide⟩ rfl hl.1 rfl (Nat.le_of_ble_eq_true rfl) dX12_leaves_142) (fun H locs hW => ?_)
        refine lv_istore (lv' := [(4, .int x21), (0, .ref (ad a0)), (1, .int a1), (2, .int a2)]) C.1 C.2.1 dX12_leaves_145 hl (by decide) rfl (fun ls hl => ?_)
        refine lv_iconst (v := 1) C.1 C.2.1 dX12_leaves_147 (by decide) ?_
        refine lv_istore (lv' := [(5, .int 1), (4, .int x21), (0, .ref (ad a0)), (1, .int a1), (2, .int a2)]) C.1 C.2.1 dX12_leaves_148 hl (by decide) rfl (fun ls hl => ?_)
        exact wX12_leaves_150 C  N ha0 hW (lv_sub hl [2, 4, 1, 0] rfl) hf
      · have hf := if_f c17 hf
        refine lv_bipush (v := (-6)) C.1 C.2.1 dX12_leaves_131 (by decide) ?_
        cases hf
        exact x_iret C hW dX12_leaves_133
    · have hf := if_f c13 hf
      refine lv_aload_n C.1 C.2.1 dX12_leaves_91 rfl (lv_at hl 0 rfl) ?_
      refine lv_iload_n C.1 C.2.1 dX12_leaves_92 rfl (lv_at hl 2 rfl) ?_
      refine lv_iload C.1 C.2.1 dX12_leaves_93 (lv_at hl 3 rfl) ?_
      obtain ⟨x24, m25, r26, hf⟩ := bd2_s hf
      refine x_ci hW (x_runV C hW [.int a2, .int a4] [] (ha0).1 (ha0).2.1 kX12.1 kvX12_rowAt q_1169 (tX12_rowAt l C.2.2.2.2.2.2.1 ha0 r26) rfl rfl ⟨by decide, by decide⟩ rfl hl.1 rfl (Nat.le_of_ble_eq_true rfl) dX12_leaves_95) (fun H locs hW => ?_)
      refine lv_iconst (v := 0) C.1 C.2.1 dX12_leaves_98 (by decide) ?_
      refine lv_sipush (v := 999) C.1 C.2.1 dX12_leaves_99 (by decide) ?_
      obtain ⟨x27, m28, r29, hf⟩ := bd2_s hf
      refine x_ci hW (x_runS C hW [.int x24, .int 0, .int 999] [] kvX12_in q_1150 (tX12_in l C.2.2.2.2.2.2.1  r29) rfl rfl ⟨by decide, by decide⟩ rfl hl.1 rfl (Nat.le_of_ble_eq_true rfl) dX12_leaves_102) (fun H locs hW => ?_)
      refine lv_if_ne (tgt := 114) C.1 C.2.1 dX12_leaves_105 (by decide) (fun c30 => ?_) (fun c30 => ?_)
      · have hf := if_f c30 hf
        refine lv_iinc (v := (a4 + 1)) (lv' := [(4, .int (a4 + 1)), (0, .ref (ad a0)), (1, .int a1), (2, .int a2)]) C.1 C.2.1 dX12_leaves_114 hl (k := 3) rfl rfl (by decide) rfl (fun ls hl => ?_)
        refine lv_goto (tgt := 85) C.1 C.2.1 dX12_leaves_117 (by decide) ?_
        exact hk85 _ _ _ _ _ _ _ _ ha0 hW (lv_sub hl [1, 2, 3, 0] rfl) hf
      · have hf := if_t c30 hf
        refine lv_aload_n C.1 C.2.1 dX12_leaves_108 rfl (lv_at hl 0 rfl) ?_
        refine lv_iconst (v := 3) C.1 C.2.1 dX12_leaves_109 (by decide) ?_
        obtain ⟨x31, m32, r33, hf⟩ := bd2_s hf
        refine x_ci hW (x_runV C hW [.int 3] [] (ha0).1 (ha0).2.1 kX12.1 kvX12_meet q_1153 (tX12_meet l C.2.2.2.2.2.2.1 ha0 r33) rfl rfl ⟨by decide, by decide⟩ rfl hl.1 rfl (Nat.le_of_ble_eq_true rfl) dX12_leaves_110) (fun H locs hW => ?_)
        cases hf
        exact x_iret C hW dX12_leaves_113
set_option maxRecDepth 100000 in
set_option maxHeartbeats 4000000 in
theorem wX12_leaves_63 (C : Cx p s m meth c args cX12_leaves 8 (some .int) RX12 D ca ad) {res : Int32 × Mm} {N : Nat}  {a0 : Nat} {mm : Mm} {H : Heap} {locs : List Loc} {ls : Array Slot} (ha0 : sX12 a0) (hW : Wd D ca ad s.heap mm H locs) (hl : lv_has ls 8 [(0, .ref (ad a0))]) (hf : fX12_leaves_63 N a0 mm = some res) : W p l e (rmX12_leaves) s m args below meth c H locs 0 0 (MQ below (QI D ca ad res) args s 0 0 (AA ad)) (F0 m 63 ls []) := by
  unfold fX12_leaves_63 at hf
  refine lv_aload_n C.1 C.2.1 dX12_leaves_63 rfl (lv_at hl 0 rfl) ?_
  refine lv_iconst (v := 5) C.1 C.2.1 dX12_leaves_64 (by decide) ?_
  obtain ⟨x34, m35, r36, hf⟩ := bd2_s hf
  refine x_ci hW (x_runV C hW [.int 5] [] (ha0).1 (ha0).2.1 kX12.1 kvX12_meet q_1153 (tX12_meet l C.2.2.2.2.2.2.1 ha0 r36) rfl rfl ⟨by decide, by decide⟩ rfl hl.1 rfl (Nat.le_of_ble_eq_true rfl) dX12_leaves_65) (fun H locs hW => ?_)
  cases hf
  exact x_iret C hW dX12_leaves_68
set_option maxRecDepth 100000 in
set_option maxHeartbeats 4000000 in
theorem wX12_leaves_34 (C : Cx p s m meth c args cX12_leaves 8 (some .int) RX12 D ca ad) {res : Int32 × Mm} {N : Nat}  {a0 : Nat} {mm : Mm} {H : Heap} {locs : List Loc} {ls : Array Slot} (ha0 : sX12 a0) (hW : Wd D ca ad s.heap mm H locs) (hl : lv_has ls 8 [(0, .ref (ad a0))]) (hf : fX12_leaves_34 N a0 mm = some res) : W p l e (rmX12_leaves) s m args below meth c H locs 0 0 (MQ below (QI D ca ad res) args s 0 0 (AA ad)) (F0 m 34 ls []) := by
  unfold fX12_leaves_34 at hf
  refine lv_aload_n C.1 C.2.1 dX12_leaves_34 rfl (lv_at hl 0 rfl) ?_
  refine lv_iconst (v := 1) C.1 C.2.1 dX12_leaves_35 (by decide) ?_
  obtain ⟨x37, m38, r39, hf⟩ := bd2_s hf
  refine x_ci hW (x_runV C hW [.int 1] [] (ha0).1 (ha0).2.1 kX12.1 kvX12_meet q_1153 (tX12_meet l C.2.2.2.2.2.2.1 ha0 r39) rfl rfl ⟨by decide, by decide⟩ rfl hl.1 rfl (Nat.le_of_ble_eq_true rfl) dX12_leaves_36) (fun H locs hW => ?_)
  cases hf
  exact x_iret C hW dX12_leaves_39
set_option maxRecDepth 100000 in
set_option maxHeartbeats 4000000 in
theorem wX12_leaves_0 (C : Cx p s m meth c args cX12_leaves 8 (some .int) RX12 D ca ad) {res : Int32 × Mm} {N : Nat}  {a0 : Nat} {a1 : Int32} {a2 : Int32} {mm : Mm} {H : Heap} {locs : List Loc} {ls : Array Slot} (ha0 : sX12 a0) (hW : Wd D ca ad s.heap mm H locs) (hl : lv_has ls 8 [(0, .ref (ad a0)), (1, .int a1), (2, .int a2)]) (hf : fX12_leaves N a0 a1 a2 mm = some res) : W p l e (rmX12_leaves) s m args below meth c H locs 0 0 (MQ below (QI D ca ad res) args s 0 0 (AA ad)) (F0 m 0 ls []) := by
  unfold fX12_leaves at hf
  refine lv_iload_n C.1 C.2.1 dX12_leaves_0 rfl (lv_at hl 1 rfl) ?_
  obtain ⟨x40, m41, r42, hf⟩ := bd2_s hf
  refine x_ci hW (x_runS C hW [.int a1] [] kvX12_isRow q_1147 (tX12_isRow l C.2.2.2.2.2.2.1  r42) rfl rfl ⟨by decide, by decide⟩ rfl hl.1 rfl (Nat.le_of_ble_eq_true rfl) dX12_leaves_1) (fun H locs hW => ?_)
  refine lv_if_eq (tgt := 14) C.1 C.2.1 dX12_leaves_4 (by decide) (fun c43 => ?_) (fun c43 => ?_)
  · have hf := if_t c43 hf
    refine lv_iconst (v := (-1)) C.1 C.2.1 dX12_leaves_14 (by decide) ?_
    cases hf
    exact x_iret C hW dX12_leaves_15
  · have hf := if_f c43 hf
    refine lv_iload_n C.1 C.2.1 dX12_leaves_7 rfl (lv_at hl 2 rfl) ?_
    obtain ⟨x44, m45, r46, hf⟩ := bd2_s hf
    refine x_ci hW (x_runS C hW [.int a2] [] kvX12_isRow q_1147 (tX12_isRow l C.2.2.2.2.2.2.1  r46) rfl rfl ⟨by decide, by decide⟩ rfl hl.1 rfl (Nat.le_of_ble_eq_true rfl) dX12_leaves_8) (fun H locs hW => ?_)
    refine lv_if_ne (tgt := 16) C.1 C.2.1 dX12_leaves_11 (by decide) (fun c47 => ?_) (fun c47 => ?_)
    · have hf := if_f c47 hf
      refine lv_aload_n C.1 C.2.1 dX12_leaves_16 rfl (lv_at hl 0 rfl) ?_
      refine x_getr C hW (ha0).1 (ha0).2.1 (j := 5) rfl kX12 (by decide) rfl q_1021 dX12_leaves_17 ?_
      refine lv_iload_n C.1 C.2.1 dX12_leaves_20 rfl (lv_at hl 1 rfl) ?_
      obtain ⟨g48, hf⟩ := gd_s hf
      refine x_iald C hW ha0.2.2.2.1 g48 dX12_leaves_21 ?_
      refine lv_if_lt (tgt := 34) C.1 C.2.1 dX12_leaves_22 (by decide) (fun c49 => ?_) (fun c49 => ?_)
      · have hf := if_t c49 hf
        exact wX12_leaves_34 C  ha0 hW (lv_sub hl [0] rfl) hf
      · have hf := if_f c49 hf
        refine lv_aload_n C.1 C.2.1 dX12_leaves_25 rfl (lv_at hl 0 rfl) ?_
        refine x_getr C hW (ha0).1 (ha0).2.1 (j := 5) rfl kX12 (by decide) rfl q_1021 dX12_leaves_26 ?_
        refine lv_iload_n C.1 C.2.1 dX12_leaves_29 rfl (lv_at hl 2 rfl) ?_
        obtain ⟨g50, hf⟩ := gd_s hf
        refine x_iald C hW ha0.2.2.2.1 g50 dX12_leaves_30 ?_
        refine lv_if_ge (tgt := 40) C.1 C.2.1 dX12_leaves_31 (by decide) (fun c51 => ?_) (fun c51 => ?_)
        · have hf := if_t c51 hf
          refine lv_aload_n C.1 C.2.1 dX12_leaves_40 rfl (lv_at hl 0 rfl) ?_
          refine x_getr C hW (ha0).1 (ha0).2.1 (j := 5) rfl kX12 (by decide) rfl q_1021 dX12_leaves_41 ?_
          refine lv_iload_n C.1 C.2.1 dX12_leaves_44 rfl (lv_at hl 1 rfl) ?_
          obtain ⟨g52, hf⟩ := gd_s hf
          refine x_iald C hW ha0.2.2.2.1 g52 dX12_leaves_45 ?_
          refine lv_aload_n C.1 C.2.1 dX12_leaves_46 rfl (lv_at hl 0 rfl) ?_
          refine x_geti C hW (ha0).1 (ha0).2.1 (j := 10) rfl kX12 (by decide) rfl q_1026 dX12_leaves_47 ?_
          refine lv_icmp_ne (tgt := 63) C.1 C.2.1 dX12_leaves_50 (by decide) (fun c53 => ?_) (fun c53 => ?_)
          · have hf := if_f c53 hf
            exact wX12_leaves_63 C  ha0 hW (lv_sub hl [0] rfl) hf
          · have hf := if_t c53 hf
            refine lv_aload_n C.1 C.2.1 dX12_leaves_53 rfl (lv_at hl 0 rfl) ?_
            refine x_getr C hW (ha0).1 (ha0).2.1 (j := 5) rfl kX12 (by decide) rfl q_1021 dX12_leaves_54 ?_
            refine lv_iload_n C.1 C.2.1 dX12_leaves_57 rfl (lv_at hl 2 rfl) ?_
            obtain ⟨g54, hf⟩ := gd_s hf
            refine x_iald C hW ha0.2.2.2.1 g54 dX12_leaves_58 ?_
            refine lv_iconst (v := 4) C.1 C.2.1 dX12_leaves_59 (by decide) ?_
            refine lv_icmp_eq (tgt := 69) C.1 C.2.1 dX12_leaves_60 (by decide) (fun c55 => ?_) (fun c55 => ?_)
            · have hf := if_t c55 hf
              refine lv_aload_n C.1 C.2.1 dX12_leaves_69 rfl (lv_at hl 0 rfl) ?_
              refine lv_iload_n C.1 C.2.1 dX12_leaves_70 rfl (lv_at hl 1 rfl) ?_
              refine lv_iconst (v := 1) C.1 C.2.1 dX12_leaves_71 (by decide) ?_
              obtain ⟨x56, m57, r58, hf⟩ := bd2_s hf
              refine x_ci hW (x_runV C hW [.int a1, .int 1] [] (ha0).1 (ha0).2.1 kX12.1 kvX12_askedNumbers q_1284 (tX12_askedNumbers l C.2.2.2.2.2.2.1 ha0 r58) rfl rfl ⟨by decide, by decide⟩ rfl hl.1 rfl (Nat.le_of_ble_eq_true rfl) dX12_leaves_72) (fun H locs hW => ?_)
              refine lv_istore_n (lv' := [(3, .int x56), (0, .ref (ad a0)), (1, .int a1), (2, .int a2)]) C.1 C.2.1 dX12_leaves_75 rfl hl (by decide) rfl (fun ls hl => ?_)
              refine lv_iload_n C.1 C.2.1 dX12_leaves_76 rfl (lv_at hl 0 rfl) ?_
              refine lv_if_ge (tgt := 82) C.1 C.2.1 dX12_leaves_77 (by decide) (fun c59 => ?_) (fun c59 => ?_)
              · have hf := if_t c59 hf
                refine lv_iconst (v := 0) C.1 C.2.1 dX12_leaves_82 (by decide) ?_
                refine lv_istore (lv' := [(4, .int 0), (3, .int x56), (0, .ref (ad a0)), (1, .int a1), (2, .int a2)]) C.1 C.2.1 dX12_leaves_83 hl (by decide) rfl (fun ls hl => ?_)
                exact wX12_leaves_85 C  N ha0 hW (lv_sub hl [2, 3, 4, 0] rfl) hf
              · have hf := if_f c59 hf
                refine lv_iload_n C.1 C.2.1 dX12_leaves_80 rfl (lv_at hl 0 rfl) ?_
                cases hf
                exact x_iret C hW dX12_leaves_81
            · have hf := if_f c55 hf
              exact wX12_leaves_63 C  ha0 hW (lv_sub hl [0] rfl) hf
        · have hf := if_f c51 hf
          exact wX12_leaves_34 C  ha0 hW (lv_sub hl [0] rfl) hf
    · have hf := if_t c47 hf
      refine lv_iconst (v := (-1)) C.1 C.2.1 dX12_leaves_14 (by decide) ?_
      cases hf
      exact x_iret C hW dX12_leaves_15
set_option maxRecDepth 100000 in
set_option maxHeartbeats 4000000 in
theorem tX12_leaves (l : Launch) {D : va_G} {ca ad : Nat → Nat} (hi : Inj ad) {N : Nat} {a0 : Nat} {a1 : Int32} {a2 : Int32} {mm : Mm} {res : Int32 × Mm} (ha0 : sX12 a0) (hf : fX12_leaves N a0 a1 a2 mm = some res) : Met l yX12_leaves (WS yX12_leaves cX12_leaves 8 (some .int)) (rmX12_leaves) (va_Pc [.ref (ad a0), .int a1, .int a2] (WB D ca ad mm)) (QI D ca ad res) 0 0 (AA ad) := by
  refine x_start hi (by decide) rfl (Nat.le_of_ble_eq_true rfl) (fun p e s m args below meth c ls C hW hl => ?_)
  exact wX12_leaves_0 C ha0 hW (lv_sub hl [0, 1, 2] rfl) hf
set_option maxRecDepth 100000 in
set_option maxHeartbeats 4000000 in
theorem wX12_adds_131 (C : Cx p s m meth c args cX12_adds 8 (some .int) RX12 D ca ad) {res : Int32 × Mm} {N : Nat} {k44 : Nat → Int32 → Int32 → Int32 → Mm → Option (Int32 × Mm)} (hk44 : ∀ (a0 : Nat) (a1 : Int32) (a4 : Int32) (a5 : Int32) (mm : Mm) (H : Heap) (locs : List Loc) (ls : Array Slot), (sX12 a0) → Wd D ca ad s.heap mm H locs → lv_has ls 8 [(0, .ref (ad a0)), (1, .int a1), (4, .int a4), (5, .int a5)] → k44 a0 a1 a4 a5 mm = some res → W p l e (rmX12_adds) s m args below meth c H locs 0 0 (MQ below (QI D ca ad res) args s 0 0 (AA ad)) (F0 m 44 ls [])) {a0 : Nat} {a1 : Int32} {a4 : Int32} {a5 : Int32} {mm : Mm} {H : Heap} {locs : List Loc} {ls : Array Slot} (ha0 : sX12 a0) (hW : Wd D ca ad s.heap mm H locs) (hl : lv_has ls 8 [(0, .ref (ad a0)), (1, .int a1), (4, .int a4), (5, .int a5)]) (hf : fX12_adds_131 N k44 a0 a1 a4 a5 mm = some res) : W p l e (rmX12_adds) s m args below meth c H locs 0 0 (MQ below (QI D ca ad res) args s 0 0 (AA ad)) (F0 m 131 ls []) := by
  unfold fX12_adds_131 at hf
  refine lv_iinc (v := (a5 + 1)) (lv' := [(5, .int (a5 + 1)), (0, .ref (ad a0)), (1, .int a1), (4, .int a4)]) C.1 C.2.1 dX12_adds_131 hl (k := 3) rfl rfl (by decide) rfl (fun ls hl => ?_)
  refine lv_goto (tgt := 44) C.1 C.2.1 dX12_adds_134 (by decide) ?_
  exact hk44 _ _ _ _ _ _ _ _ ha0 hW (lv_sub hl [1, 2, 3, 0] rfl) hf
set_option maxRecDepth 100000 in
set_option maxHeartbeats 4000000 in
theorem wX12_adds_104 (C : Cx p s m meth c args cX12_adds 8 (some .int) RX12 D ca ad) {res : Int32 × Mm} {N : Nat} {k44 : Nat → Int32 → Int32 → Int32 → Mm → Option (Int32 × Mm)} (hk44 : ∀ (a0 : Nat) (a1 : Int32) (a4 : Int32) (a5 : Int32) (mm : Mm) (H : Heap) (locs : List Loc) (ls : Array Slot), (sX12 a0) → Wd D ca ad s.heap mm H locs → lv_has ls 8 [(0, .ref (ad a0)), (1, .int a1), (4, .int a4), (5, .int a5)] → k44 a0 a1 a4 a5 mm = some res → W p l e (rmX12_adds) s m args below meth c H locs 0 0 (MQ below (QI D ca ad res) args s 0 0 (AA ad)) (F0 m 44 ls [])) {a0 : Nat} {a1 : Int32} {a4 : Int32} {a5 : Int32} {s0 : Int32} {mm : Mm} {H : Heap} {locs : List Loc} {ls : Array Slot} (ha0 : sX12 a0) (hW : Wd D ca ad s.heap mm H locs) (hl : lv_has ls 8 [(0, .ref (ad a0)), (1, .int a1), (4, .int a4), (5, .int a5)]) (hf : fX12_adds_104 N k44 a0 a1 a4 a5 s0 mm = some res) : W p l e (rmX12_adds) s m args below meth c H locs 0 0 (MQ below (QI D ca ad res) args s 0 0 (AA ad)) (F0 m 104 ls [.int s0]) := by
  unfold fX12_adds_104 at hf
  refine lv_istore (lv' := [(7, .int s0), (0, .ref (ad a0)), (1, .int a1), (4, .int a4), (5, .int a5)]) C.1 C.2.1 dX12_adds_104 hl (by decide) rfl (fun ls hl => ?_)
  refine lv_iload C.1 C.2.1 dX12_adds_106 (lv_at hl 3 rfl) ?_
  refine lv_iload C.1 C.2.1 dX12_adds_108 (lv_at hl 0 rfl) ?_
  refine lv_aload_n C.1 C.2.1 dX12_adds_110 rfl (lv_at hl 1 rfl) ?_
  refine lv_iload C.1 C.2.1 dX12_adds_111 (lv_at hl 4 rfl) ?_
  refine lv_iconst (v := 1) C.1 C.2.1 dX12_adds_113 (by decide) ?_
  refine lv_iload_n C.1 C.2.1 dX12_adds_114 rfl (lv_at hl 2 rfl) ?_
  refine lv_ishl C.1 C.2.1 dX12_adds_115 ?_
  refine lv_ior C.1 C.2.1 dX12_adds_116 ?_
  obtain ⟨x1, m2, r3, hf⟩ := bd2_s hf
  refine x_ci hW (x_runV C hW [.int (a5 ||| ((1 : Int32) <<< (a1 &&& 31)))] [.int s0, .int a4] (ha0).1 (ha0).2.1 kX12.1 kvX12_scoreWith q_1462 (tX12_scoreWith l C.2.2.2.2.2.2.1 ha0 r3) rfl rfl ⟨by decide, by decide⟩ rfl hl.1 rfl (Nat.le_of_ble_eq_true rfl) dX12_adds_117) (fun H locs hW => ?_)
  refine lv_aload_n C.1 C.2.1 dX12_adds_120 rfl (lv_at hl 1 rfl) ?_
  refine lv_iload C.1 C.2.1 dX12_adds_121 (lv_at hl 4 rfl) ?_
  obtain ⟨x4, m5, r6, hf⟩ := bd2_s hf
  refine x_ci hW (x_runV C hW [.int a5] [.int x1, .int s0, .int a4] (ha0).1 (ha0).2.1 kX12.1 kvX12_scoreWith q_1462 (tX12_scoreWith l C.2.2.2.2.2.2.1 ha0 r6) rfl rfl ⟨by decide, by decide⟩ rfl hl.1 rfl (Nat.le_of_ble_eq_true rfl) dX12_adds_123) (fun H locs hW => ?_)
  refine lv_isub C.1 C.2.1 dX12_adds_126 ?_
  refine lv_imul C.1 C.2.1 dX12_adds_127 ?_
  refine lv_iadd C.1 C.2.1 dX12_adds_128 ?_
  refine lv_istore (lv' := [(4, .int (a4 + (s0 * (x1 - x4)))), (7, .int s0), (0, .ref (ad a0)), (1, .int a1), (5, .int a5)]) C.1 C.2.1 dX12_adds_129 hl (by decide) rfl (fun ls hl => ?_)
  exact wX12_adds_131 C hk44 ha0 hW (lv_sub hl [2, 3, 0, 4] rfl) hf
set_option maxRecDepth 100000 in
set_option maxHeartbeats 4000000 in
theorem wX12_adds_98 (C : Cx p s m meth c args cX12_adds 8 (some .int) RX12 D ca ad) {res : Int32 × Mm} {N : Nat} {k44 : Nat → Int32 → Int32 → Int32 → Mm → Option (Int32 × Mm)} (hk44 : ∀ (a0 : Nat) (a1 : Int32) (a4 : Int32) (a5 : Int32) (mm : Mm) (H : Heap) (locs : List Loc) (ls : Array Slot), (sX12 a0) → Wd D ca ad s.heap mm H locs → lv_has ls 8 [(0, .ref (ad a0)), (1, .int a1), (4, .int a4), (5, .int a5)] → k44 a0 a1 a4 a5 mm = some res → W p l e (rmX12_adds) s m args below meth c H locs 0 0 (MQ below (QI D ca ad res) args s 0 0 (AA ad)) (F0 m 44 ls [])) {a0 : Nat} {a1 : Int32} {a4 : Int32} {a5 : Int32} {mm : Mm} {H : Heap} {locs : List Loc} {ls : Array Slot} (ha0 : sX12 a0) (hW : Wd D ca ad s.heap mm H locs) (hl : lv_has ls 8 [(0, .ref (ad a0)), (1, .int a1), (4, .int a4), (5, .int a5)]) (hf : fX12_adds_98 N k44 a0 a1 a4 a5 mm = some res) : W p l e (rmX12_adds) s m args below meth c H locs 0 0 (MQ below (QI D ca ad res) args s 0 0 (AA ad)) (F0 m 98 ls []) := by
  unfold fX12_adds_98 at hf
  refine lv_bipush (v := 6) C.1 C.2.1 dX12_adds_98 (by decide) ?_
  refine lv_goto (tgt := 104) C.1 C.2.1 dX12_adds_100 (by decide) ?_
  exact wX12_adds_104 C hk44 ha0 hW (lv_sub hl [0, 1, 2, 3] rfl) hf
set_option maxRecDepth 100000 in
set_option maxHeartbeats 4000000 in
theorem wX12_adds_44 (C : Cx p s m meth c args cX12_adds 8 (some .int) RX12 D ca ad) {res : Int32 × Mm} {N : Nat}  : ∀ (n : Nat) {a0 : Nat} {a1 : Int32} {a4 : Int32} {a5 : Int32} {mm : Mm} {H : Heap} {locs : List Loc} {ls : Array Slot}, (sX12 a0) → Wd D ca ad s.heap mm H locs → lv_has ls 8 [(0, .ref (ad a0)), (1, .int a1), (4, .int a4), (5, .int a5)] → fX12_adds_44 N n a0 a1 a4 a5 mm = some res → W p l e (rmX12_adds) s m args below meth c H locs 0 0 (MQ below (QI D ca ad res) args s 0 0 (AA ad)) (F0 m 44 ls []) := by
  intro n
  induction n with
  | zero => intro a0 a1 a4 a5 mm H locs ls ha0 hW hl hf; cases hf
  | succ n ih =>
    intro a0 a1 a4 a5 mm H locs ls ha0 hW hl hf
    have hk44 : ∀ (a0 : Nat) (a1 : Int32) (a4 : Int32) (a5 : Int32) (mm : Mm) (H : Heap) (locs : List Loc) (ls : Array Slot), (sX12 a0) → Wd D ca ad s.heap mm H locs → lv_has ls 8 [(0, .ref (ad a0)), (1, .int a1), (4, .int a4), (5, .int a5)] → (fX12_adds_44 N n) a0 a1 a4 a5 mm = some res → W p l e (rmX12_adds) s m args below meth c H locs 0 0 (MQ below (QI D ca ad res) args s 0 0 (AA ad)) (F0 m 44 ls []) := fun a0 a1 a4 a5 mm H locs ls ha0 hW hl hf => ih ha0 hW hl hf
    unfold fX12_adds_44 at hf
    try dsimp only at hf
    refine lv_iload C.1 C.2.1 dX12_adds_44 (lv_at hl 3 rfl) ?_
    refine lv_bipush (v := 16) C.1 C.2.1 dX12_adds_46 (by decide) ?_
    refine lv_icmp_ge (tgt := 137) C.1 C.2.1 dX12_adds_48 (by decide) (fun c7 => ?_) (fun c7 => ?_)
    · have hf := if_t c7 hf
      refine lv_aload_n C.1 C.2.1 dX12_adds_137 rfl (lv_at hl 0 rfl) ?_
      refine lv_iload C.1 C.2.1 dX12_adds_138 (lv_at hl 2 rfl) ?_
      refine lv_i2l C.1 C.2.1 dX12_adds_140 rfl ?_
      refine lv_ldc2 C.1 C.2.1 C.2.2.2.1 (C.2.2.2.2.1 _ q_1474) dX12_adds_141 ?_
      refine lv_iconst (v := 1) C.1 C.2.1 dX12_adds_144 (by decide) ?_
      obtain ⟨x8, m9, r10, hf⟩ := bd2_s hf
      refine x_ci hW (x_runV C hW [.long a4.toInt64, .long 24, .int 1] [] (ha0).1 (ha0).2.1 kX12.1 kvX12_part q_1373 (tX12_part l C.2.2.2.2.2.2.1 ha0 r10) rfl rfl ⟨by decide, by decide⟩ rfl hl.1 rfl (Nat.le_of_ble_eq_true rfl) dX12_adds_145) (fun H locs hW => ?_)
      cases hf
      exact x_iret C hW dX12_adds_148
    · have hf := if_f c7 hf
      refine lv_iload C.1 C.2.1 dX12_adds_51 (lv_at hl 3 rfl) ?_
      refine lv_iload_n C.1 C.2.1 dX12_adds_53 rfl (lv_at hl 1 rfl) ?_
      refine lv_ishr C.1 C.2.1 dX12_adds_54 ?_
      refine lv_iconst (v := 1) C.1 C.2.1 dX12_adds_55 (by decide) ?_
      refine lv_iand C.1 C.2.1 dX12_adds_56 ?_
      refine lv_if_ne (tgt := 131) C.1 C.2.1 dX12_adds_57 (by decide) (fun c11 => ?_) (fun c11 => ?_)
      · have hf := if_f c11 hf
        exact wX12_adds_131 C hk44 ha0 hW (lv_sub hl [0, 1, 2, 3] rfl) hf
      · have hf := if_t c11 hf
        refine lv_iload C.1 C.2.1 dX12_adds_60 (lv_at hl 3 rfl) ?_
        refine lv_iconst (v := 1) C.1 C.2.1 dX12_adds_62 (by decide) ?_
        refine lv_iand C.1 C.2.1 dX12_adds_63 ?_
        refine lv_iload C.1 C.2.1 dX12_adds_64 (lv_at hl 3 rfl) ?_
        refine lv_iconst (v := 1) C.1 C.2.1 dX12_adds_66 (by decide) ?_
        refine lv_ishr C.1 C.2.1 dX12_adds_67 ?_
        refine lv_iconst (v := 1) C.1 C.2.1 dX12_adds_68 (by decide) ?_
        refine lv_iand C.1 C.2.1 dX12_adds_69 ?_
        refine lv_iadd C.1 C.2.1 dX12_adds_70 ?_
        refine lv_iload C.1 C.2.1 dX12_adds_71 (lv_at hl 3 rfl) ?_
        refine lv_iconst (v := 2) C.1 C.2.1 dX12_adds_73 (by decide) ?_
        refine lv_ishr C.1 C.2.1 dX12_adds_74 ?_
        refine lv_iconst (v := 1) C.1 C.2.1 dX12_adds_75 (by decide) ?_
        refine lv_iand C.1 C.2.1 dX12_adds_76 ?_
        refine lv_iadd C.1 C.2.1 dX12_adds_77 ?_
        refine lv_iload C.1 C.2.1 dX12_adds_78 (lv_at hl 3 rfl) ?_
        refine lv_iconst (v := 3) C.1 C.2.1 dX12_adds_80 (by decide) ?_
        refine lv_ishr C.1 C.2.1 dX12_adds_81 ?_
        refine lv_iconst (v := 1) C.1 C.2.1 dX12_adds_82 (by decide) ?_
        refine lv_iand C.1 C.2.1 dX12_adds_83 ?_
        refine lv_iadd C.1 C.2.1 dX12_adds_84 ?_
        refine lv_topi (fun x12 ex12 => ?_)
        have hf := nm_s hf ex12
        refine lv_istore (lv' := [(6, .int x12), (0, .ref (ad a0)), (1, .int a1), (4, .int a4), (5, .int a5)]) C.1 C.2.1 dX12_adds_85 hl (by decide) rfl (fun ls hl => ?_)
        refine lv_iload C.1 C.2.1 dX12_adds_87 (lv_at hl 0 rfl) ?_
        refine lv_if_eq (tgt := 98) C.1 C.2.1 dX12_adds_89 (by decide) (fun c13 => ?_) (fun c13 => ?_)
        · have hf := if_t c13 hf
          exact wX12_adds_98 C hk44 ha0 hW (lv_sub hl [1, 2, 3, 4] rfl) hf
        · have hf := if_f c13 hf
          refine lv_iload C.1 C.2.1 dX12_adds_92 (lv_at hl 0 rfl) ?_
          refine lv_iconst (v := 3) C.1 C.2.1 dX12_adds_94 (by decide) ?_
          refine lv_icmp_ne (tgt := 103) C.1 C.2.1 dX12_adds_95 (by decide) (fun c14 => ?_) (fun c14 => ?_)
          · have hf := if_f c14 hf
            refine lv_iconst (v := 2) C.1 C.2.1 dX12_adds_103 (by decide) ?_
            exact wX12_adds_104 C hk44 ha0 hW (lv_sub hl [1, 2, 3, 4] rfl) hf
          · have hf := if_t c14 hf
            exact wX12_adds_98 C hk44 ha0 hW (lv_sub hl [1, 2, 3, 4] rfl) hf
set_option maxRecDepth 100000 in
set_option maxHeartbeats 4000000 in
theorem wX12_adds_0 (C : Cx p s m meth c args cX12_adds 8 (some .int) RX12 D ca ad) {res : Int32 × Mm} {N : Nat}  {a0 : Nat} {a1 : Int32} {a2 : Int32} {mm : Mm} {H : Heap} {locs : List Loc} {ls : Array Slot} (ha0 : sX12 a0) (hW : Wd D ca ad s.heap mm H locs) (hl : lv_has ls 8 [(0, .ref (ad a0)), (1, .int a1), (2, .int a2)]) (hf : fX12_adds N a0 a1 a2 mm = some res) : W p l e (rmX12_adds) s m args below meth c H locs 0 0 (MQ below (QI D ca ad res) args s 0 0 (AA ad)) (F0 m 0 ls []) := by
  unfold fX12_adds at hf
  refine lv_iload_n C.1 C.2.1 dX12_adds_0 rfl (lv_at hl 1 rfl) ?_
  refine lv_iconst (v := 0) C.1 C.2.1 dX12_adds_1 (by decide) ?_
  refine lv_iconst (v := 3) C.1 C.2.1 dX12_adds_2 (by decide) ?_
  obtain ⟨x15, m16, r17, hf⟩ := bd2_s hf
  refine x_ci hW (x_runS C hW [.int a1, .int 0, .int 3] [] kvX12_in q_1150 (tX12_in l C.2.2.2.2.2.2.1  r17) rfl rfl ⟨by decide, by decide⟩ rfl hl.1 rfl (Nat.le_of_ble_eq_true rfl) dX12_adds_3) (fun H locs hW => ?_)
  refine lv_if_eq (tgt := 16) C.1 C.2.1 dX12_adds_6 (by decide) (fun c18 => ?_) (fun c18 => ?_)
  · have hf := if_t c18 hf
    refine lv_iconst (v := (-1)) C.1 C.2.1 dX12_adds_16 (by decide) ?_
    cases hf
    exact x_iret C hW dX12_adds_17
  · have hf := if_f c18 hf
    refine lv_iload_n C.1 C.2.1 dX12_adds_9 rfl (lv_at hl 2 rfl) ?_
    obtain ⟨x19, m20, r21, hf⟩ := bd2_s hf
    refine x_ci hW (x_runS C hW [.int a2] [] kvX12_isRow q_1147 (tX12_isRow l C.2.2.2.2.2.2.1  r21) rfl rfl ⟨by decide, by decide⟩ rfl hl.1 rfl (Nat.le_of_ble_eq_true rfl) dX12_adds_10) (fun H locs hW => ?_)
    refine lv_if_ne (tgt := 18) C.1 C.2.1 dX12_adds_13 (by decide) (fun c22 => ?_) (fun c22 => ?_)
    · have hf := if_f c22 hf
      refine lv_aload_n C.1 C.2.1 dX12_adds_18 rfl (lv_at hl 0 rfl) ?_
      refine lv_bipush (v := 15) C.1 C.2.1 dX12_adds_19 (by decide) ?_
      refine lv_iload_n C.1 C.2.1 dX12_adds_21 rfl (lv_at hl 2 rfl) ?_
      obtain ⟨x23, m24, r25, hf⟩ := bd2_s hf
      refine x_ci hW (x_runV C hW [.int 15, .int a2] [] (ha0).1 (ha0).2.1 kX12.1 kvX12_askedLend q_1454 (tX12_askedLend l C.2.2.2.2.2.2.1 ha0 r25) rfl rfl ⟨by decide, by decide⟩ rfl hl.1 rfl (Nat.le_of_ble_eq_true rfl) dX12_adds_22) (fun H locs hW => ?_)
      refine lv_istore_n (lv' := [(3, .int x23), (0, .ref (ad a0)), (1, .int a1), (2, .int a2)]) C.1 C.2.1 dX12_adds_25 rfl hl (by decide) rfl (fun ls hl => ?_)
      refine lv_iload_n C.1 C.2.1 dX12_adds_26 rfl (lv_at hl 0 rfl) ?_
      refine lv_if_ge (tgt := 32) C.1 C.2.1 dX12_adds_27 (by decide) (fun c26 => ?_) (fun c26 => ?_)
      · have hf := if_t c26 hf
        refine lv_aload_n C.1 C.2.1 dX12_adds_32 rfl (lv_at hl 1 rfl) ?_
        refine lv_iload_n C.1 C.2.1 dX12_adds_33 rfl (lv_at hl 3 rfl) ?_
        refine lv_iconst (v := 1) C.1 C.2.1 dX12_adds_34 (by decide) ?_
        obtain ⟨x27, m28, r29, hf⟩ := bd2_s hf
        refine x_cv hW (x_runV C hW [.int a2, .int 1] [] (ha0).1 (ha0).2.1 kX12.1 kvX12_takes q_1288 (tX12_takes l C.2.2.2.2.2.2.1 ha0 r29) rfl rfl ⟨by decide, by decide⟩ rfl hl.1 rfl (Nat.le_of_ble_eq_true rfl) dX12_adds_35) (fun H locs hW => ?_)
        refine lv_iconst (v := 0) C.1 C.2.1 dX12_adds_38 (by decide) ?_
        refine lv_istore (lv' := [(4, .int 0), (3, .int x23), (0, .ref (ad a0)), (1, .int a1), (2, .int a2)]) C.1 C.2.1 dX12_adds_39 hl (by decide) rfl (fun ls hl => ?_)
        refine lv_iconst (v := 0) C.1 C.2.1 dX12_adds_41 (by decide) ?_
        refine lv_istore (lv' := [(5, .int 0), (4, .int 0), (3, .int x23), (0, .ref (ad a0)), (1, .int a1), (2, .int a2)]) C.1 C.2.1 dX12_adds_42 hl (by decide) rfl (fun ls hl => ?_)
        exact wX12_adds_44 C  N ha0 hW (lv_sub hl [3, 4, 1, 0] rfl) hf
      · have hf := if_f c26 hf
        refine lv_iload_n C.1 C.2.1 dX12_adds_30 rfl (lv_at hl 0 rfl) ?_
        cases hf
        exact x_iret C hW dX12_adds_31
    · have hf := if_t c22 hf
      refine lv_iconst (v := (-1)) C.1 C.2.1 dX12_adds_16 (by decide) ?_
      cases hf
      exact x_iret C hW dX12_adds_17
set_option maxRecDepth 100000 in
set_option maxHeartbeats 4000000 in
theorem tX12_adds (l : Launch) {D : va_G} {ca ad : Nat → Nat} (hi : Inj ad) {N : Nat} {a0 : Nat} {a1 : Int32} {a2 : Int32} {mm : Mm} {res : Int32 × Mm} (ha0 : sX12 a0) (hf : fX12_adds N a0 a1 a2 mm = some res) : Met l yX12_adds (WS yX12_adds cX12_adds 8 (some .int)) (rmX12_adds) (va_Pc [.ref (ad a0), .int a1, .int a2] (WB D ca ad mm)) (QI D ca ad res) 0 0 (AA ad) := by
  refine x_start hi (by decide) rfl (Nat.le_of_ble_eq_true rfl) (fun p e s m args below meth c ls C hW hl => ?_)
  exact wX12_adds_0 C ha0 hW (lv_sub hl [0, 1, 2] rfl) hf
set_option maxRecDepth 100000 in
set_option maxHeartbeats 4000000 in
theorem wX12_when_101 (C : Cx p s m meth c args cX12_when 7 (some .int) RX12 D ca ad) {res : Int32 × Mm} {N : Nat} {k42 : Nat → Int32 → Int32 → Int32 → Int32 → Mm → Option (Int32 × Mm)} (hk42 : ∀ (a0 : Nat) (a3 : Int32) (a4 : Int32) (a5 : Int32) (a6 : Int32) (mm : Mm) (H : Heap) (locs : List Loc) (ls : Array Slot), (sX12 a0) → Wd D ca ad s.heap mm H locs → lv_has ls 7 [(0, .ref (ad a0)), (3, .int a3), (4, .int a4), (5, .int a5), (6, .int a6)] → k42 a0 a3 a4 a5 a6 mm = some res → W p l e (rmX12_when) s m args below meth c H locs 0 0 (MQ below (QI D ca ad res) args s 0 0 (AA ad)) (F0 m 42 ls [])) {a0 : Nat} {a3 : Int32} {a4 : Int32} {a6 : Int32} {s0 : Int32} {mm : Mm} {H : Heap} {locs : List Loc} {ls : Array Slot} (ha0 : sX12 a0) (hW : Wd D ca ad s.heap mm H locs) (hl : lv_has ls 7 [(0, .ref (ad a0)), (3, .int a3), (4, .int a4), (6, .int a6)]) (hf : fX12_when_101 N k42 a0 a3 a4 a6 s0 mm = some res) : W p l e (rmX12_when) s m args below meth c H locs 0 0 (MQ below (QI D ca ad res) args s 0 0 (AA ad)) (F0 m 101 ls [.int s0]) := by
  unfold fX12_when_101 at hf
  refine lv_istore (lv' := [(5, .int s0), (0, .ref (ad a0)), (3, .int a3), (4, .int a4), (6, .int a6)]) C.1 C.2.1 dX12_when_101 hl (by decide) rfl (fun ls hl => ?_)
  refine lv_iinc (v := (a6 + 1)) (lv' := [(6, .int (a6 + 1)), (5, .int s0), (0, .ref (ad a0)), (3, .int a3), (4, .int a4)]) C.1 C.2.1 dX12_when_103 hl (k := 4) rfl rfl (by decide) rfl (fun ls hl => ?_)
  refine lv_goto (tgt := 42) C.1 C.2.1 dX12_when_106 (by decide) ?_
  exact hk42 _ _ _ _ _ _ _ _ _ ha0 hW (lv_sub hl [2, 3, 4, 1, 0] rfl) hf
set_option maxRecDepth 100000 in
set_option maxHeartbeats 4000000 in
theorem wX12_when_81 (C : Cx p s m meth c args cX12_when 7 (some .int) RX12 D ca ad) {res : Int32 × Mm} {N : Nat} {k42 : Nat → Int32 → Int32 → Int32 → Int32 → Mm → Option (Int32 × Mm)} (hk42 : ∀ (a0 : Nat) (a3 : Int32) (a4 : Int32) (a5 : Int32) (a6 : Int32) (mm : Mm) (H : Heap) (locs : List Loc) (ls : Array Slot), (sX12 a0) → Wd D ca ad s.heap mm H locs → lv_has ls 7 [(0, .ref (ad a0)), (3, .int a3), (4, .int a4), (5, .int a5), (6, .int a6)] → k42 a0 a3 a4 a5 a6 mm = some res → W p l e (rmX12_when) s m args below meth c H locs 0 0 (MQ below (QI D ca ad res) args s 0 0 (AA ad)) (F0 m 42 ls [])) {a0 : Nat} {a3 : Int32} {a5 : Int32} {a6 : Int32} {s0 : Int32} {mm : Mm} {H : Heap} {locs : List Loc} {ls : Array Slot} (ha0 : sX12 a0) (hW : Wd D ca ad s.heap mm H locs) (hl : lv_has ls 7 [(0, .ref (ad a0)), (3, .int a3), (5, .int a5), (6, .int a6)]) (hf : fX12_when_81 N k42 a0 a3 a5 a6 s0 mm = some res) : W p l e (rmX12_when) s m args below meth c H locs 0 0 (MQ below (QI D ca ad res) args s 0 0 (AA ad)) (F0 m 81 ls [.int s0]) := by
  unfold fX12_when_81 at hf
  refine lv_istore (lv' := [(4, .int s0), (0, .ref (ad a0)), (3, .int a3), (5, .int a5), (6, .int a6)]) C.1 C.2.1 dX12_when_81 hl (by decide) rfl (fun ls hl => ?_)
  refine lv_aload_n C.1 C.2.1 dX12_when_83 rfl (lv_at hl 1 rfl) ?_
  refine x_geti C hW (ha0).1 (ha0).2.1 (j := 24) rfl kX12 (by decide) rfl q_1040 dX12_when_84 ?_
  refine lv_iload C.1 C.2.1 dX12_when_87 (lv_at hl 3 rfl) ?_
  refine lv_icmp_le (tgt := 99) C.1 C.2.1 dX12_when_89 (by decide) (fun c1 => ?_) (fun c1 => ?_)
  · have hf := if_t c1 hf
    refine lv_iload C.1 C.2.1 dX12_when_99 (lv_at hl 3 rfl) ?_
    exact wX12_when_101 C hk42 ha0 hW (lv_sub hl [1, 2, 0, 4] rfl) hf
  · have hf := if_f c1 hf
    refine lv_aload_n C.1 C.2.1 dX12_when_92 rfl (lv_at hl 1 rfl) ?_
    refine x_geti C hW (ha0).1 (ha0).2.1 (j := 24) rfl kX12 (by decide) rfl q_1040 dX12_when_93 ?_
    refine lv_goto (tgt := 101) C.1 C.2.1 dX12_when_96 (by decide) ?_
    exact wX12_when_101 C hk42 ha0 hW (lv_sub hl [1, 2, 0, 4] rfl) hf
set_option maxRecDepth 100000 in
set_option maxHeartbeats 4000000 in
theorem wX12_when_42 (C : Cx p s m meth c args cX12_when 7 (some .int) RX12 D ca ad) {res : Int32 × Mm} {N : Nat}  : ∀ (n : Nat) {a0 : Nat} {a3 : Int32} {a4 : Int32} {a5 : Int32} {a6 : Int32} {mm : Mm} {H : Heap} {locs : List Loc} {ls : Array Slot}, (sX12 a0) → Wd D ca ad s.heap mm H locs → lv_has ls 7 [(0, .ref (ad a0)), (3, .int a3), (4, .int a4), (5, .int a5), (6, .int a6)] → fX12_when_42 N n a0 a3 a4 a5 a6 mm = some res → W p l e (rmX12_when) s m args below meth c H locs 0 0 (MQ below (QI D ca ad res) args s 0 0 (AA ad)) (F0 m 42 ls []) := by
  intro n
  induction n with
  | zero => intro a0 a3 a4 a5 a6 mm H locs ls ha0 hW hl hf; cases hf
  | succ n ih =>
    intro a0 a3 a4 a5 a6 mm H locs ls ha0 hW hl hf
    have hk42 : ∀ (a0 : Nat) (a3 : Int32) (a4 : Int32) (a5 : Int32) (a6 : Int32) (mm : Mm) (H : Heap) (locs : List Loc) (ls : Array Slot), (sX12 a0) → Wd D ca ad s.heap mm H locs → lv_has ls 7 [(0, .ref (ad a0)), (3, .int a3), (4, .int a4), (5, .int a5), (6, .int a6)] → (fX12_when_42 N n) a0 a3 a4 a5 a6 mm = some res → W p l e (rmX12_when) s m args below meth c H locs 0 0 (MQ below (QI D ca ad res) args s 0 0 (AA ad)) (F0 m 42 ls []) := fun a0 a3 a4 a5 a6 mm H locs ls ha0 hW hl hf => ih ha0 hW hl hf
    unfold fX12_when_42 at hf
    try dsimp only at hf
    refine lv_iload C.1 C.2.1 dX12_when_42 (lv_at hl 4 rfl) ?_
    refine lv_bipush (v := 9) C.1 C.2.1 dX12_when_44 (by decide) ?_
    refine lv_icmp_gt (tgt := 109) C.1 C.2.1 dX12_when_46 (by decide) (fun c2 => ?_) (fun c2 => ?_)
    · have hf := if_t c2 hf
      refine lv_aload_n C.1 C.2.1 dX12_when_109 rfl (lv_at hl 0 rfl) ?_
      refine lv_iload_n C.1 C.2.1 dX12_when_110 rfl (lv_at hl 1 rfl) ?_
      refine x_put C hW (ha0).1 (ha0).2.1 (j := 13) (t1 := .int) rfl kX12 (by decide) rfl rfl q_1029 (by decide +kernel) rfl rfl dX12_when_111 (fun H locs hW => ?_)
      obtain ⟨m3, em3⟩ : ∃ z, z = wr mm a0 13 a3 := ⟨_, rfl⟩
      have hf := nm_s hf em3
      rw [← em3] at hW
      refine lv_aload_n C.1 C.2.1 dX12_when_114 rfl (lv_at hl 0 rfl) ?_
      refine lv_iload C.1 C.2.1 dX12_when_115 (lv_at hl 3 rfl) ?_
      refine lv_iload C.1 C.2.1 dX12_when_117 (lv_at hl 2 rfl) ?_
      obtain ⟨x4, m5, r6, hf⟩ := bd2_s hf
      refine x_ci hW (x_runV C hW [.int a5, .int a4] [] (ha0).1 (ha0).2.1 kX12.1 kvX12_ask q_1173 (tX12_ask l C.2.2.2.2.2.2.1 ha0 r6) rfl rfl ⟨by decide, by decide⟩ rfl hl.1 rfl (Nat.le_of_ble_eq_true rfl) dX12_when_119) (fun H locs hW => ?_)
      cases hf
      exact x_iret C hW dX12_when_122
    · have hf := if_f c2 hf
      refine lv_aload_n C.1 C.2.1 dX12_when_49 rfl (lv_at hl 0 rfl) ?_
      refine lv_iload C.1 C.2.1 dX12_when_50 (lv_at hl 4 rfl) ?_
      refine x_put C hW (ha0).1 (ha0).2.1 (j := 13) (t1 := .int) rfl kX12 (by decide) rfl rfl q_1029 (by decide +kernel) rfl rfl dX12_when_52 (fun H locs hW => ?_)
      obtain ⟨m7, em7⟩ : ∃ z, z = wr mm a0 13 a6 := ⟨_, rfl⟩
      have hf := nm_s hf em7
      rw [← em7] at hW
      refine lv_aload_n C.1 C.2.1 dX12_when_55 rfl (lv_at hl 0 rfl) ?_
      refine lv_aload_n C.1 C.2.1 dX12_when_56 rfl (lv_at hl 0 rfl) ?_
      refine x_getr C hW (ha0).1 (ha0).2.1 (j := 12) rfl kX12 (by decide) rfl q_1028 dX12_when_57 ?_
      refine lv_iconst (v := 0) C.1 C.2.1 dX12_when_60 (by decide) ?_
      obtain ⟨g8, hf⟩ := gd_s hf
      refine x_iald C hW ha0.2.2.2.2.2.2.2.2.2.1 g8 dX12_when_61 ?_
      obtain ⟨x9, m10, r11, hf⟩ := bd2_s hf
      refine x_cv hW (x_runV C hW [.int (rd m7 (fr a0 12) ((0 : Int32).toNatClampNeg))] [] (ha0).1 (ha0).2.1 kX12.1 kvX12_setBest q_1328 (tX12_setBest l C.2.2.2.2.2.2.1 ha0 r11) rfl rfl ⟨by decide, by decide⟩ rfl hl.1 rfl (Nat.le_of_ble_eq_true rfl) dX12_when_62) (fun H locs hW => ?_)
      refine lv_aload_n C.1 C.2.1 dX12_when_65 rfl (lv_at hl 0 rfl) ?_
      refine x_geti C hW (ha0).1 (ha0).2.1 (j := 24) rfl kX12 (by decide) rfl q_1040 dX12_when_66 ?_
      refine lv_iload C.1 C.2.1 dX12_when_69 (lv_at hl 3 rfl) ?_
      refine lv_icmp_le (tgt := 79) C.1 C.2.1 dX12_when_71 (by decide) (fun c12 => ?_) (fun c12 => ?_)
      · have hf := if_t c12 hf
        refine lv_iload C.1 C.2.1 dX12_when_79 (lv_at hl 2 rfl) ?_
        exact wX12_when_81 C hk42 ha0 hW (lv_sub hl [0, 1, 3, 4] rfl) hf
      · have hf := if_f c12 hf
        refine lv_iload C.1 C.2.1 dX12_when_74 (lv_at hl 4 rfl) ?_
        refine lv_goto (tgt := 81) C.1 C.2.1 dX12_when_76 (by decide) ?_
        exact wX12_when_81 C hk42 ha0 hW (lv_sub hl [0, 1, 3, 4] rfl) hf
set_option maxRecDepth 100000 in
set_option maxHeartbeats 4000000 in
theorem wX12_when_0 (C : Cx p s m meth c args cX12_when 7 (some .int) RX12 D ca ad) {res : Int32 × Mm} {N : Nat}  {a0 : Nat} {a1 : Int32} {mm : Mm} {H : Heap} {locs : List Loc} {ls : Array Slot} (ha0 : sX12 a0) (hW : Wd D ca ad s.heap mm H locs) (hl : lv_has ls 7 [(0, .ref (ad a0)), (1, .int a1)]) (hf : fX12_when N a0 a1 mm = some res) : W p l e (rmX12_when) s m args below meth c H locs 0 0 (MQ below (QI D ca ad res) args s 0 0 (AA ad)) (F0 m 0 ls []) := by
  unfold fX12_when at hf
  refine lv_iload_n C.1 C.2.1 dX12_when_0 rfl (lv_at hl 1 rfl) ?_
  obtain ⟨x13, m14, r15, hf⟩ := bd2_s hf
  refine x_ci hW (x_runS C hW [.int a1] [] kvX12_isRow q_1147 (tX12_isRow l C.2.2.2.2.2.2.1  r15) rfl rfl ⟨by decide, by decide⟩ rfl hl.1 rfl (Nat.le_of_ble_eq_true rfl) dX12_when_1) (fun H locs hW => ?_)
  refine lv_if_ne (tgt := 9) C.1 C.2.1 dX12_when_4 (by decide) (fun c16 => ?_) (fun c16 => ?_)
  · have hf := if_f c16 hf
    refine lv_aload_n C.1 C.2.1 dX12_when_9 rfl (lv_at hl 0 rfl) ?_
    refine lv_iload_n C.1 C.2.1 dX12_when_10 rfl (lv_at hl 1 rfl) ?_
    refine lv_iconst (v := 1) C.1 C.2.1 dX12_when_11 (by decide) ?_
    obtain ⟨x17, m18, r19, hf⟩ := bd2_s hf
    refine x_ci hW (x_runV C hW [.int a1, .int 1] [] (ha0).1 (ha0).2.1 kX12.1 kvX12_askedLaying q_1320 (tX12_askedLaying l C.2.2.2.2.2.2.1 ha0 r19) rfl rfl ⟨by decide, by decide⟩ rfl hl.1 rfl (Nat.le_of_ble_eq_true rfl) dX12_when_12) (fun H locs hW => ?_)
    refine lv_istore_n (lv' := [(2, .int x17), (0, .ref (ad a0)), (1, .int a1)]) C.1 C.2.1 dX12_when_15 rfl hl (by decide) rfl (fun ls hl => ?_)
    refine lv_iload_n C.1 C.2.1 dX12_when_16 rfl (lv_at hl 0 rfl) ?_
    refine lv_if_ge (tgt := 22) C.1 C.2.1 dX12_when_17 (by decide) (fun c20 => ?_) (fun c20 => ?_)
    · have hf := if_t c20 hf
      refine lv_aload_n C.1 C.2.1 dX12_when_22 rfl (lv_at hl 1 rfl) ?_
      refine lv_iload_n C.1 C.2.1 dX12_when_23 rfl (lv_at hl 2 rfl) ?_
      refine lv_iconst (v := 1) C.1 C.2.1 dX12_when_24 (by decide) ?_
      obtain ⟨x21, m22, r23, hf⟩ := bd2_s hf
      refine x_cv hW (x_runV C hW [.int a1, .int 1] [] (ha0).1 (ha0).2.1 kX12.1 kvX12_takes q_1288 (tX12_takes l C.2.2.2.2.2.2.1 ha0 r23) rfl rfl ⟨by decide, by decide⟩ rfl hl.1 rfl (Nat.le_of_ble_eq_true rfl) dX12_when_25) (fun H locs hW => ?_)
      refine lv_aload_n C.1 C.2.1 dX12_when_28 rfl (lv_at hl 1 rfl) ?_
      refine x_geti C hW (ha0).1 (ha0).2.1 (j := 13) rfl kX12 (by decide) rfl q_1029 dX12_when_29 ?_
      refine lv_istore_n (lv' := [(3, .int (rd m22 a0 13)), (2, .int x17), (0, .ref (ad a0)), (1, .int a1)]) C.1 C.2.1 dX12_when_32 rfl hl (by decide) rfl (fun ls hl => ?_)
      refine lv_iconst (v := 0) C.1 C.2.1 dX12_when_33 (by decide) ?_
      refine lv_istore (lv' := [(4, .int 0), (3, .int (rd m22 a0 13)), (2, .int x17), (0, .ref (ad a0)), (1, .int a1)]) C.1 C.2.1 dX12_when_34 hl (by decide) rfl (fun ls hl => ?_)
      refine lv_iconst (v := (-1)) C.1 C.2.1 dX12_when_36 (by decide) ?_
      refine lv_istore (lv' := [(5, .int (-1)), (4, .int 0), (3, .int (rd m22 a0 13)), (2, .int x17), (0, .ref (ad a0)), (1, .int a1)]) C.1 C.2.1 dX12_when_37 hl (by decide) rfl (fun ls hl => ?_)
      refine lv_iconst (v := 0) C.1 C.2.1 dX12_when_39 (by decide) ?_
      refine lv_istore (lv' := [(6, .int 0), (5, .int (-1)), (4, .int 0), (3, .int (rd m22 a0 13)), (2, .int x17), (0, .ref (ad a0)), (1, .int a1)]) C.1 C.2.1 dX12_when_40 hl (by decide) rfl (fun ls hl => ?_)
      exact wX12_when_42 C  N ha0 hW (lv_sub hl [5, 3, 2, 1, 0] rfl) hf
    · have hf := if_f c20 hf
      refine lv_iload_n C.1 C.2.1 dX12_when_20 rfl (lv_at hl 0 rfl) ?_
      cases hf
      exact x_iret C hW dX12_when_21
  · have hf := if_t c16 hf
    refine lv_iconst (v := (-1)) C.1 C.2.1 dX12_when_7 (by decide) ?_
    cases hf
    exact x_iret C hW dX12_when_8
set_option maxRecDepth 100000 in
set_option maxHeartbeats 4000000 in
theorem tX12_when (l : Launch) {D : va_G} {ca ad : Nat → Nat} (hi : Inj ad) {N : Nat} {a0 : Nat} {a1 : Int32} {mm : Mm} {res : Int32 × Mm} (ha0 : sX12 a0) (hf : fX12_when N a0 a1 mm = some res) : Met l yX12_when (WS yX12_when cX12_when 7 (some .int)) (rmX12_when) (va_Pc [.ref (ad a0), .int a1] (WB D ca ad mm)) (QI D ca ad res) 0 0 (AA ad) := by
  refine x_start hi (by decide) rfl (Nat.le_of_ble_eq_true rfl) (fun p e s m args below meth c ls C hW hl => ?_)
  exact wX12_when_0 C ha0 hW (lv_sub hl [0, 1] rfl) hf
end W_model26
