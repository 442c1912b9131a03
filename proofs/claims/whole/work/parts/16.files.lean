theorem dX11_mark_0 : decode cX11_mark 0 = .ok (.aload_n 0, 1) := by decide +kernel
theorem dX11_mark_1 : decode cX11_mark 1 = .ok (.getfield 21, 3) := by decide +kernel
theorem dX11_mark_4 : decode cX11_mark 4 = .ok (.iload_n 1, 1) := by decide +kernel
theorem dX11_mark_5 : decode cX11_mark 5 = .ok (.invokevirtual 159, 3) := by decide +kernel
theorem dX11_mark_8 : decode cX11_mark 8 = .ok (.astore_n 3, 1) := by decide +kernel
theorem dX11_mark_9 : decode cX11_mark 9 = .ok (.aload_n 3, 1) := by decide +kernel
theorem dX11_mark_10 : decode cX11_mark 10 = .ok (.ifnull 13, 3) := by decide +kernel
theorem dX11_mark_13 : decode cX11_mark 13 = .ok (.iload_n 2, 1) := by decide +kernel
theorem dX11_mark_14 : decode cX11_mark 14 = .ok (.iconst 1, 1) := by decide +kernel
theorem dX11_mark_15 : decode cX11_mark 15 = .ok (.if_icmp .lt 8, 3) := by decide +kernel
theorem dX11_mark_18 : decode cX11_mark 18 = .ok (.iload_n 2, 1) := by decide +kernel
theorem dX11_mark_19 : decode cX11_mark 19 = .ok (.iconst 5, 1) := by decide +kernel
theorem dX11_mark_20 : decode cX11_mark 20 = .ok (.if_icmp .le 5, 3) := by decide +kernel
theorem dX11_mark_23 : decode cX11_mark 23 = .ok (.iconst (-1), 1) := by decide +kernel
theorem dX11_mark_24 : decode cX11_mark 24 = .ok (.ireturn, 1) := by decide +kernel
theorem dX11_mark_25 : decode cX11_mark 25 = .ok (.aload_n 3, 1) := by decide +kernel
theorem dX11_mark_26 : decode cX11_mark 26 = .ok (.iload_n 2, 1) := by decide +kernel
theorem dX11_mark_27 : decode cX11_mark 27 = .ok (.invokevirtual 168, 3) := by decide +kernel
theorem dX11_mark_30 : decode cX11_mark 30 = .ok (.ifCond .ne 9, 3) := by decide +kernel
theorem dX11_mark_33 : decode cX11_mark 33 = .ok (.aload_n 0, 1) := by decide +kernel
theorem dX11_mark_34 : decode cX11_mark 34 = .ok (.iconst 3, 1) := by decide +kernel
theorem dX11_mark_35 : decode cX11_mark 35 = .ok (.invokevirtual 100, 3) := by decide +kernel
theorem dX11_mark_38 : decode cX11_mark 38 = .ok (.ireturn, 1) := by decide +kernel
theorem dX11_mark_39 : decode cX11_mark 39 = .ok (.iload_n 2, 1) := by decide +kernel
theorem dX11_mark_40 : decode cX11_mark 40 = .ok (.tableswitch 92 1 4 #[32, 41, 53, 66], 32) := by decide +kernel
theorem dX11_mark_72 : decode cX11_mark 72 = .ok (.aload_n 0, 1) := by decide +kernel
theorem dX11_mark_73 : decode cX11_mark 73 = .ok (.getfield 21, 3) := by decide +kernel
theorem dX11_mark_76 : decode cX11_mark 76 = .ok (.iconst 1, 1) := by decide +kernel
theorem dX11_mark_77 : decode cX11_mark 77 = .ok (.invokevirtual 171, 3) := by decide +kernel
theorem dX11_mark_80 : decode cX11_mark 80 = .ok (.ireturn, 1) := by decide +kernel
theorem dX11_mark_81 : decode cX11_mark 81 = .ok (.aload_n 3, 1) := by decide +kernel
theorem dX11_mark_82 : decode cX11_mark 82 = .ok (.iconst 0, 1) := by decide +kernel
theorem dX11_mark_83 : decode cX11_mark 83 = .ok (.aload_n 3, 1) := by decide +kernel
theorem dX11_mark_84 : decode cX11_mark 84 = .ok (.iconst 0, 1) := by decide +kernel
theorem dX11_mark_85 : decode cX11_mark 85 = .ok (.iconst 0, 1) := by decide +kernel
theorem dX11_mark_86 : decode cX11_mark 86 = .ok (.invokevirtual 174, 3) := by decide +kernel
theorem dX11_mark_89 : decode cX11_mark 89 = .ok (.invokevirtual 178, 3) := by decide +kernel
theorem dX11_mark_92 : decode cX11_mark 92 = .ok (.ireturn, 1) := by decide +kernel
theorem dX11_mark_93 : decode cX11_mark 93 = .ok (.aload_n 3, 1) := by decide +kernel
theorem dX11_mark_94 : decode cX11_mark 94 = .ok (.aload_n 0, 1) := by decide +kernel
theorem dX11_mark_95 : decode cX11_mark 95 = .ok (.getfield 21, 3) := by decide +kernel
theorem dX11_mark_98 : decode cX11_mark 98 = .ok (.getfield 181, 3) := by decide +kernel
theorem dX11_mark_101 : decode cX11_mark 101 = .ok (.iconst 0, 1) := by decide +kernel
theorem dX11_mark_102 : decode cX11_mark 102 = .ok (.invokevirtual 184, 3) := by decide +kernel
theorem dX11_mark_105 : decode cX11_mark 105 = .ok (.ireturn, 1) := by decide +kernel
theorem dX11_mark_106 : decode cX11_mark 106 = .ok (.aload_n 3, 1) := by decide +kernel
theorem dX11_mark_107 : decode cX11_mark 107 = .ok (.aload_n 0, 1) := by decide +kernel
theorem dX11_mark_108 : decode cX11_mark 108 = .ok (.getfield 21, 3) := by decide +kernel
theorem dX11_mark_111 : decode cX11_mark 111 = .ok (.getfield 188, 3) := by decide +kernel
theorem dX11_mark_114 : decode cX11_mark 114 = .ok (.iconst 0, 1) := by decide +kernel
theorem dX11_mark_115 : decode cX11_mark 115 = .ok (.iaload, 1) := by decide +kernel
theorem dX11_mark_116 : decode cX11_mark 116 = .ok (.aload_n 0, 1) := by decide +kernel
theorem dX11_mark_117 : decode cX11_mark 117 = .ok (.getfield 21, 3) := by decide +kernel
theorem dX11_mark_120 : decode cX11_mark 120 = .ok (.getfield 188, 3) := by decide +kernel
theorem dX11_mark_123 : decode cX11_mark 123 = .ok (.iconst 1, 1) := by decide +kernel
theorem dX11_mark_124 : decode cX11_mark 124 = .ok (.iaload, 1) := by decide +kernel
theorem dX11_mark_125 : decode cX11_mark 125 = .ok (.invokestatic 191, 3) := by decide +kernel
theorem dX11_mark_128 : decode cX11_mark 128 = .ok (.invokevirtual 196, 3) := by decide +kernel
theorem dX11_mark_131 : decode cX11_mark 131 = .ok (.ireturn, 1) := by decide +kernel
theorem dX11_mark_132 : decode cX11_mark 132 = .ok (.aload_n 0, 1) := by decide +kernel
theorem dX11_mark_133 : decode cX11_mark 133 = .ok (.getfield 21, 3) := by decide +kernel
theorem dX11_mark_136 : decode cX11_mark 136 = .ok (.iload_n 1, 1) := by decide +kernel
theorem dX11_mark_137 : decode cX11_mark 137 = .ok (.invokevirtual 199, 3) := by decide +kernel
theorem dX11_mark_140 : decode cX11_mark 140 = .ok (.ireturn, 1) := by decide +kernel
theorem dX11_stock_0 : decode cX11_stock 0 = .ok (.iload_n 1, 1) := by decide +kernel
theorem dX11_stock_1 : decode cX11_stock 1 = .ok (.ifCond .lt 18, 3) := by decide +kernel
theorem dX11_stock_4 : decode cX11_stock 4 = .ok (.iload_n 1, 1) := by decide +kernel
theorem dX11_stock_5 : decode cX11_stock 5 = .ok (.iconst 1, 1) := by decide +kernel
theorem dX11_stock_6 : decode cX11_stock 6 = .ok (.if_icmp .gt 13, 3) := by decide +kernel
theorem dX11_stock_9 : decode cX11_stock 9 = .ok (.iload_n 2, 1) := by decide +kernel
theorem dX11_stock_10 : decode cX11_stock 10 = .ok (.ifCond .lt 9, 3) := by decide +kernel
theorem dX11_stock_13 : decode cX11_stock 13 = .ok (.iload_n 2, 1) := by decide +kernel
theorem dX11_stock_14 : decode cX11_stock 14 = .ok (.bipush 40, 2) := by decide +kernel
theorem dX11_stock_16 : decode cX11_stock 16 = .ok (.if_icmp .le 5, 3) := by decide +kernel
theorem dX11_stock_19 : decode cX11_stock 19 = .ok (.iconst (-1), 1) := by decide +kernel
theorem dX11_stock_20 : decode cX11_stock 20 = .ok (.ireturn, 1) := by decide +kernel
theorem dX11_stock_21 : decode cX11_stock 21 = .ok (.aload_n 0, 1) := by decide +kernel
theorem dX11_stock_22 : decode cX11_stock 22 = .ok (.getfield 21, 3) := by decide +kernel
theorem dX11_stock_25 : decode cX11_stock 25 = .ok (.getfield 188, 3) := by decide +kernel
theorem dX11_stock_28 : decode cX11_stock 28 = .ok (.iload_n 1, 1) := by decide +kernel
theorem dX11_stock_29 : decode cX11_stock 29 = .ok (.iaload, 1) := by decide +kernel
theorem dX11_stock_30 : decode cX11_stock 30 = .ok (.istore_n 3, 1) := by decide +kernel
theorem dX11_stock_31 : decode cX11_stock 31 = .ok (.aload_n 0, 1) := by decide +kernel
theorem dX11_stock_32 : decode cX11_stock 32 = .ok (.getfield 21, 3) := by decide +kernel
theorem dX11_stock_35 : decode cX11_stock 35 = .ok (.getfield 188, 3) := by decide +kernel
theorem dX11_stock_38 : decode cX11_stock 38 = .ok (.iload_n 1, 1) := by decide +kernel
theorem dX11_stock_39 : decode cX11_stock 39 = .ok (.iload_n 2, 1) := by decide +kernel
theorem dX11_stock_40 : decode cX11_stock 40 = .ok (.iastore, 1) := by decide +kernel
theorem dX11_stock_41 : decode cX11_stock 41 = .ok (.iload_n 3, 1) := by decide +kernel
theorem dX11_stock_42 : decode cX11_stock 42 = .ok (.ireturn, 1) := by decide +kernel
theorem dX11_damp_0 : decode cX11_damp 0 = .ok (.iload_n 1, 1) := by decide +kernel
theorem dX11_damp_1 : decode cX11_damp 1 = .ok (.ifCond .lt 9, 3) := by decide +kernel
theorem dX11_damp_4 : decode cX11_damp 4 = .ok (.iload_n 1, 1) := by decide +kernel
theorem dX11_damp_5 : decode cX11_damp 5 = .ok (.bipush 9, 2) := by decide +kernel
theorem dX11_damp_7 : decode cX11_damp 7 = .ok (.if_icmp .le 5, 3) := by decide +kernel
theorem dX11_damp_10 : decode cX11_damp 10 = .ok (.iconst (-1), 1) := by decide +kernel
theorem dX11_damp_11 : decode cX11_damp 11 = .ok (.ireturn, 1) := by decide +kernel
theorem dX11_damp_12 : decode cX11_damp 12 = .ok (.aload_n 0, 1) := by decide +kernel
theorem dX11_damp_13 : decode cX11_damp 13 = .ok (.getfield 21, 3) := by decide +kernel
theorem dX11_damp_16 : decode cX11_damp 16 = .ok (.getfield 181, 3) := by decide +kernel
theorem dX11_damp_19 : decode cX11_damp 19 = .ok (.istore_n 2, 1) := by decide +kernel
theorem dX11_damp_20 : decode cX11_damp 20 = .ok (.aload_n 0, 1) := by decide +kernel
theorem dX11_damp_21 : decode cX11_damp 21 = .ok (.getfield 21, 3) := by decide +kernel
theorem dX11_damp_24 : decode cX11_damp 24 = .ok (.iload_n 1, 1) := by decide +kernel
theorem dX11_damp_25 : decode cX11_damp 25 = .ok (.putfield 181, 3) := by decide +kernel
theorem dX11_damp_28 : decode cX11_damp 28 = .ok (.aload_n 0, 1) := by decide +kernel
theorem dX11_damp_29 : decode cX11_damp 29 = .ok (.getfield 74, 3) := by decide +kernel
theorem dX11_damp_32 : decode cX11_damp 32 = .ok (.invokevirtual 155, 3) := by decide +kernel
theorem dX11_damp_35 : decode cX11_damp 35 = .ok (.iload_n 2, 1) := by decide +kernel
theorem dX11_damp_36 : decode cX11_damp 36 = .ok (.ireturn, 1) := by decide +kernel
theorem dX11_isRefused_0 : decode cX11_isRefused 0 = .ok (.iload_n 1, 1) := by decide +kernel
theorem dX11_isRefused_1 : decode cX11_isRefused 1 = .ok (.ifCond .ne 7, 3) := by decide +kernel
theorem dX11_isRefused_4 : decode cX11_isRefused 4 = .ok (.iconst 1, 1) := by decide +kernel
theorem dX11_isRefused_5 : decode cX11_isRefused 5 = .ok (.goto 20, 3) := by decide +kernel
theorem dX11_isRefused_8 : decode cX11_isRefused 8 = .ok (.iload_n 2, 1) := by decide +kernel
theorem dX11_isRefused_9 : decode cX11_isRefused 9 = .ok (.ifCond .ne 7, 3) := by decide +kernel
theorem dX11_isRefused_12 : decode cX11_isRefused 12 = .ok (.iconst 5, 1) := by decide +kernel
theorem dX11_isRefused_13 : decode cX11_isRefused 13 = .ok (.goto 12, 3) := by decide +kernel
theorem dX11_isRefused_16 : decode cX11_isRefused 16 = .ok (.iload_n 3, 1) := by decide +kernel
theorem dX11_isRefused_17 : decode cX11_isRefused 17 = .ok (.ifCond .ne 7, 3) := by decide +kernel
theorem dX11_isRefused_20 : decode cX11_isRefused 20 = .ok (.iconst 3, 1) := by decide +kernel
theorem dX11_isRefused_21 : decode cX11_isRefused 21 = .ok (.goto 4, 3) := by decide +kernel
theorem dX11_isRefused_24 : decode cX11_isRefused 24 = .ok (.iconst 0, 1) := by decide +kernel
theorem dX11_isRefused_25 : decode cX11_isRefused 25 = .ok (.istore 4, 2) := by decide +kernel
theorem dX11_isRefused_27 : decode cX11_isRefused 27 = .ok (.iload 4, 2) := by decide +kernel
theorem dX11_isRefused_29 : decode cX11_isRefused 29 = .ok (.ifCond .eq 10, 3) := by decide +kernel
theorem dX11_isRefused_32 : decode cX11_isRefused 32 = .ok (.aload_n 0, 1) := by decide +kernel
theorem dX11_isRefused_33 : decode cX11_isRefused 33 = .ok (.iload 4, 2) := by decide +kernel
theorem dX11_isRefused_35 : decode cX11_isRefused 35 = .ok (.invokevirtual 100, 3) := by decide +kernel
theorem dX11_isRefused_38 : decode cX11_isRefused 38 = .ok (.pop, 1) := by decide +kernel
theorem dX11_isRefused_39 : decode cX11_isRefused 39 = .ok (.iload 4, 2) := by decide +kernel
theorem dX11_isRefused_41 : decode cX11_isRefused 41 = .ok (.ifCond .eq 7, 3) := by decide +kernel
theorem dX11_isRefused_44 : decode cX11_isRefused 44 = .ok (.iconst 1, 1) := by decide +kernel
theorem dX11_isRefused_45 : decode cX11_isRefused 45 = .ok (.goto 4, 3) := by decide +kernel
theorem dX11_isRefused_48 : decode cX11_isRefused 48 = .ok (.iconst 0, 1) := by decide +kernel
theorem dX11_isRefused_49 : decode cX11_isRefused 49 = .ok (.ireturn, 1) := by decide +kernel
theorem dX11_isWrong__0 : decode cX11_isWrong_ 0 = .ok (.aload_n 1, 1) := by decide +kernel
theorem dX11_isWrong__1 : decode cX11_isWrong_ 1 = .ok (.invokevirtual 108, 3) := by decide +kernel
theorem dX11_isWrong__4 : decode cX11_isWrong_ 4 = .ok (.ifCond .ne 14, 3) := by decide +kernel
theorem dX11_isWrong__7 : decode cX11_isWrong_ 7 = .ok (.aload_n 3, 1) := by decide +kernel
theorem dX11_isWrong__8 : decode cX11_isWrong_ 8 = .ok (.invokevirtual 108, 3) := by decide +kernel
theorem dX11_isWrong__11 : decode cX11_isWrong_ 11 = .ok (.ifCond .ne 7, 3) := by decide +kernel
theorem dX11_isWrong__14 : decode cX11_isWrong_ 14 = .ok (.iconst 1, 1) := by decide +kernel
theorem dX11_isWrong__15 : decode cX11_isWrong_ 15 = .ok (.goto 4, 3) := by decide +kernel
theorem dX11_isWrong__18 : decode cX11_isWrong_ 18 = .ok (.iconst 0, 1) := by decide +kernel
theorem dX11_isWrong__19 : decode cX11_isWrong_ 19 = .ok (.istore 5, 2) := by decide +kernel
theorem dX11_isWrong__21 : decode cX11_isWrong_ 21 = .ok (.aload_n 1, 1) := by decide +kernel
theorem dX11_isWrong__22 : decode cX11_isWrong_ 22 = .ok (.getfield 122, 3) := by decide +kernel
theorem dX11_isWrong__25 : decode cX11_isWrong_ 25 = .ok (.aload_n 0, 1) := by decide +kernel
theorem dX11_isWrong__26 : decode cX11_isWrong_ 26 = .ok (.getfield 21, 3) := by decide +kernel
theorem dX11_isWrong__29 : decode cX11_isWrong_ 29 = .ok (.getfield 158, 3) := by decide +kernel
theorem dX11_isWrong__32 : decode cX11_isWrong_ 32 = .ok (.if_icmp .ne 21, 3) := by decide +kernel
theorem dX11_isWrong__35 : decode cX11_isWrong_ 35 = .ok (.aload_n 3, 1) := by decide +kernel
theorem dX11_isWrong__36 : decode cX11_isWrong_ 36 = .ok (.getfield 122, 3) := by decide +kernel
theorem dX11_isWrong__39 : decode cX11_isWrong_ 39 = .ok (.aload_n 0, 1) := by decide +kernel
theorem dX11_isWrong__40 : decode cX11_isWrong_ 40 = .ok (.getfield 21, 3) := by decide +kernel
theorem dX11_isWrong__43 : decode cX11_isWrong_ 43 = .ok (.getfield 158, 3) := by decide +kernel
theorem dX11_isWrong__46 : decode cX11_isWrong_ 46 = .ok (.if_icmp .ne 7, 3) := by decide +kernel
theorem dX11_isWrong__49 : decode cX11_isWrong_ 49 = .ok (.iconst 1, 1) := by decide +kernel
theorem dX11_isWrong__50 : decode cX11_isWrong_ 50 = .ok (.goto 4, 3) := by decide +kernel
theorem dX11_isWrong__53 : decode cX11_isWrong_ 53 = .ok (.iconst 0, 1) := by decide +kernel
theorem dX11_isWrong__54 : decode cX11_isWrong_ 54 = .ok (.istore 6, 2) := by decide +kernel
theorem dX11_isWrong__56 : decode cX11_isWrong_ 56 = .ok (.aload_n 0, 1) := by decide +kernel
theorem dX11_isWrong__57 : decode cX11_isWrong_ 57 = .ok (.iload 5, 2) := by decide +kernel
theorem dX11_isWrong__59 : decode cX11_isWrong_ 59 = .ok (.iload 6, 2) := by decide +kernel
theorem dX11_isWrong__61 : decode cX11_isWrong_ 61 = .ok (.aload_n 0, 1) := by decide +kernel
theorem dX11_isWrong__62 : decode cX11_isWrong_ 62 = .ok (.getfield 21, 3) := by decide +kernel
theorem dX11_isWrong__65 : decode cX11_isWrong_ 65 = .ok (.aload_n 1, 1) := by decide +kernel
theorem dX11_isWrong__66 : decode cX11_isWrong_ 66 = .ok (.iload_n 2, 1) := by decide +kernel
theorem dX11_isWrong__67 : decode cX11_isWrong_ 67 = .ok (.invokevirtual 395, 3) := by decide +kernel
theorem dX11_isWrong__70 : decode cX11_isWrong_ 70 = .ok (.ifCond .eq 20, 3) := by decide +kernel
theorem dX11_isWrong__73 : decode cX11_isWrong_ 73 = .ok (.aload_n 0, 1) := by decide +kernel
theorem dX11_isWrong__74 : decode cX11_isWrong_ 74 = .ok (.getfield 21, 3) := by decide +kernel
theorem dX11_isWrong__77 : decode cX11_isWrong_ 77 = .ok (.aload_n 3, 1) := by decide +kernel
theorem dX11_isWrong__78 : decode cX11_isWrong_ 78 = .ok (.iload 4, 2) := by decide +kernel
theorem dX11_isWrong__80 : decode cX11_isWrong_ 80 = .ok (.invokevirtual 395, 3) := by decide +kernel
theorem dX11_isWrong__83 : decode cX11_isWrong_ 83 = .ok (.ifCond .eq 7, 3) := by decide +kernel
theorem dX11_isWrong__86 : decode cX11_isWrong_ 86 = .ok (.iconst 1, 1) := by decide +kernel
theorem dX11_isWrong__87 : decode cX11_isWrong_ 87 = .ok (.goto 4, 3) := by decide +kernel
theorem dX11_isWrong__90 : decode cX11_isWrong_ 90 = .ok (.iconst 0, 1) := by decide +kernel
theorem dX11_isWrong__91 : decode cX11_isWrong_ 91 = .ok (.invokevirtual 398, 3) := by decide +kernel
theorem dX11_isWrong__94 : decode cX11_isWrong_ 94 = .ok (.ireturn, 1) := by decide +kernel
theorem dX11_judge_0 : decode cX11_judge 0 = .ok (.aload_n 0, 1) := by decide +kernel
theorem dX11_judge_1 : decode cX11_judge 1 = .ok (.iload_n 1, 1) := by decide +kernel
theorem dX11_judge_2 : decode cX11_judge 2 = .ok (.invokevirtual 96, 3) := by decide +kernel
theorem dX11_judge_5 : decode cX11_judge 5 = .ok (.astore_n 3, 1) := by decide +kernel
theorem dX11_judge_6 : decode cX11_judge 6 = .ok (.aload_n 0, 1) := by decide +kernel
theorem dX11_judge_7 : decode cX11_judge 7 = .ok (.iload_n 2, 1) := by decide +kernel
theorem dX11_judge_8 : decode cX11_judge 8 = .ok (.invokevirtual 96, 3) := by decide +kernel
theorem dX11_judge_11 : decode cX11_judge 11 = .ok (.astore 4, 2) := by decide +kernel
theorem dX11_judge_13 : decode cX11_judge 13 = .ok (.aload_n 3, 1) := by decide +kernel
theorem dX11_judge_14 : decode cX11_judge 14 = .ok (.ifnull 8, 3) := by decide +kernel
theorem dX11_judge_17 : decode cX11_judge 17 = .ok (.aload 4, 2) := by decide +kernel
theorem dX11_judge_19 : decode cX11_judge 19 = .ok (.ifnonnull 5, 3) := by decide +kernel
theorem dX11_judge_22 : decode cX11_judge 22 = .ok (.iconst (-1), 1) := by decide +kernel
theorem dX11_judge_23 : decode cX11_judge 23 = .ok (.ireturn, 1) := by decide +kernel
theorem dX11_judge_24 : decode cX11_judge 24 = .ok (.aload_n 0, 1) := by decide +kernel
theorem dX11_judge_25 : decode cX11_judge 25 = .ok (.aload_n 3, 1) := by decide +kernel
theorem dX11_judge_26 : decode cX11_judge 26 = .ok (.iconst 0, 1) := by decide +kernel
theorem dX11_judge_27 : decode cX11_judge 27 = .ok (.aload 4, 2) := by decide +kernel
theorem dX11_judge_29 : decode cX11_judge 29 = .ok (.iconst 1, 1) := by decide +kernel
theorem dX11_judge_30 : decode cX11_judge 30 = .ok (.invokevirtual 202, 3) := by decide +kernel
theorem dX11_judge_33 : decode cX11_judge 33 = .ok (.ifCond .eq 6, 3) := by decide +kernel
theorem dX11_judge_36 : decode cX11_judge 36 = .ok (.bipush (-3), 2) := by decide +kernel
theorem dX11_judge_38 : decode cX11_judge 38 = .ok (.ireturn, 1) := by decide +kernel
theorem dX11_judge_39 : decode cX11_judge 39 = .ok (.aload_n 0, 1) := by decide +kernel
theorem dX11_judge_40 : decode cX11_judge 40 = .ok (.getfield 39, 3) := by decide +kernel
theorem dX11_judge_43 : decode cX11_judge 43 = .ok (.aload_n 0, 1) := by decide +kernel
theorem dX11_judge_44 : decode cX11_judge 44 = .ok (.getfield 21, 3) := by decide +kernel
theorem dX11_judge_47 : decode cX11_judge 47 = .ok (.aload_n 3, 1) := by decide +kernel
theorem dX11_judge_48 : decode cX11_judge 48 = .ok (.getfield 116, 3) := by decide +kernel
theorem dX11_judge_51 : decode cX11_judge 51 = .ok (.aload 4, 2) := by decide +kernel
theorem dX11_judge_53 : decode cX11_judge 53 = .ok (.getfield 116, 3) := by decide +kernel
theorem dX11_judge_56 : decode cX11_judge 56 = .ok (.iconst 0, 1) := by decide +kernel
theorem dX11_judge_57 : decode cX11_judge 57 = .ok (.invokevirtual 206, 3) := by decide +kernel
theorem dX11_judge_60 : decode cX11_judge 60 = .ok (.aload_n 0, 1) := by decide +kernel
theorem dX11_judge_61 : decode cX11_judge 61 = .ok (.iconst 2, 1) := by decide +kernel
theorem dX11_judge_62 : decode cX11_judge 62 = .ok (.aload_n 0, 1) := by decide +kernel
theorem dX11_judge_63 : decode cX11_judge 63 = .ok (.getfield 21, 3) := by decide +kernel
theorem dX11_judge_66 : decode cX11_judge 66 = .ok (.invokevirtual 210, 3) := by decide +kernel
theorem dX11_judge_69 : decode cX11_judge 69 = .ok (.imul, 1) := by decide +kernel
theorem dX11_judge_70 : decode cX11_judge 70 = .ok (.aload_n 0, 1) := by decide +kernel
theorem dX11_judge_71 : decode cX11_judge 71 = .ok (.getfield 39, 3) := by decide +kernel
theorem dX11_judge_74 : decode cX11_judge 74 = .ok (.getfield 214, 3) := by decide +kernel
theorem dX11_judge_77 : decode cX11_judge 77 = .ok (.isub, 1) := by decide +kernel
theorem dX11_judge_78 : decode cX11_judge 78 = .ok (.putfield 217, 3) := by decide +kernel
theorem dX11_judge_81 : decode cX11_judge 81 = .ok (.aload_n 0, 1) := by decide +kernel
theorem dX11_judge_82 : decode cX11_judge 82 = .ok (.getfield 39, 3) := by decide +kernel
theorem dX11_judge_85 : decode cX11_judge 85 = .ok (.getfield 214, 3) := by decide +kernel
theorem dX11_judge_88 : decode cX11_judge 88 = .ok (.ireturn, 1) := by decide +kernel
theorem dX11_who_0 : decode cX11_who 0 = .ok (.aload_n 0, 1) := by decide +kernel
theorem dX11_who_1 : decode cX11_who 1 = .ok (.iload_n 1, 1) := by decide +kernel
theorem dX11_who_2 : decode cX11_who 2 = .ok (.invokevirtual 96, 3) := by decide +kernel
theorem dX11_who_5 : decode cX11_who 5 = .ok (.astore 4, 2) := by decide +kernel
theorem dX11_who_7 : decode cX11_who 7 = .ok (.aload_n 0, 1) := by decide +kernel
theorem dX11_who_8 : decode cX11_who 8 = .ok (.iload_n 2, 1) := by decide +kernel
theorem dX11_who_9 : decode cX11_who 9 = .ok (.invokevirtual 96, 3) := by decide +kernel
theorem dX11_who_12 : decode cX11_who 12 = .ok (.astore 5, 2) := by decide +kernel
theorem dX11_who_14 : decode cX11_who 14 = .ok (.aload 4, 2) := by decide +kernel
theorem dX11_who_16 : decode cX11_who 16 = .ok (.ifnull 19, 3) := by decide +kernel
theorem dX11_who_19 : decode cX11_who 19 = .ok (.aload 5, 2) := by decide +kernel
theorem dX11_who_21 : decode cX11_who 21 = .ok (.ifnull 14, 3) := by decide +kernel
theorem dX11_who_24 : decode cX11_who 24 = .ok (.aload_n 0, 1) := by decide +kernel
theorem dX11_who_25 : decode cX11_who 25 = .ok (.getfield 21, 3) := by decide +kernel
theorem dX11_who_28 : decode cX11_who 28 = .ok (.iload_n 3, 1) := by decide +kernel
theorem dX11_who_29 : decode cX11_who 29 = .ok (.invokevirtual 159, 3) := by decide +kernel
theorem dX11_who_32 : decode cX11_who 32 = .ok (.ifnonnull 5, 3) := by decide +kernel
theorem dX11_who_35 : decode cX11_who 35 = .ok (.iconst (-1), 1) := by decide +kernel
theorem dX11_who_36 : decode cX11_who 36 = .ok (.ireturn, 1) := by decide +kernel
theorem dX11_who_37 : decode cX11_who 37 = .ok (.aload_n 0, 1) := by decide +kernel
theorem dX11_who_38 : decode cX11_who 38 = .ok (.aload 4, 2) := by decide +kernel
theorem dX11_who_40 : decode cX11_who 40 = .ok (.iconst 0, 1) := by decide +kernel
theorem dX11_who_41 : decode cX11_who 41 = .ok (.aload 5, 2) := by decide +kernel
theorem dX11_who_43 : decode cX11_who 43 = .ok (.iconst 1, 1) := by decide +kernel
theorem dX11_who_44 : decode cX11_who 44 = .ok (.invokevirtual 202, 3) := by decide +kernel
theorem dX11_who_47 : decode cX11_who 47 = .ok (.ifCond .eq 6, 3) := by decide +kernel
theorem dX11_who_50 : decode cX11_who 50 = .ok (.bipush (-3), 2) := by decide +kernel
theorem dX11_who_52 : decode cX11_who 52 = .ok (.ireturn, 1) := by decide +kernel
theorem dX11_who_53 : decode cX11_who 53 = .ok (.aload_n 0, 1) := by decide +kernel
theorem dX11_who_54 : decode cX11_who 54 = .ok (.getfield 39, 3) := by decide +kernel
theorem dX11_who_57 : decode cX11_who 57 = .ok (.aload_n 0, 1) := by decide +kernel
theorem dX11_who_58 : decode cX11_who 58 = .ok (.getfield 21, 3) := by decide +kernel
theorem dX11_who_61 : decode cX11_who 61 = .ok (.aload 4, 2) := by decide +kernel
theorem dX11_who_63 : decode cX11_who 63 = .ok (.getfield 116, 3) := by decide +kernel
theorem dX11_who_66 : decode cX11_who 66 = .ok (.aload 5, 2) := by decide +kernel
theorem dX11_who_68 : decode cX11_who 68 = .ok (.getfield 116, 3) := by decide +kernel
theorem dX11_who_71 : decode cX11_who 71 = .ok (.iconst 0, 1) := by decide +kernel
theorem dX11_who_72 : decode cX11_who 72 = .ok (.invokevirtual 206, 3) := by decide +kernel
theorem dX11_who_75 : decode cX11_who 75 = .ok (.aload_n 0, 1) := by decide +kernel
theorem dX11_who_76 : decode cX11_who 76 = .ok (.aload_n 0, 1) := by decide +kernel
theorem dX11_who_77 : decode cX11_who 77 = .ok (.getfield 39, 3) := by decide +kernel
theorem dX11_who_80 : decode cX11_who 80 = .ok (.getfield 220, 3) := by decide +kernel
theorem dX11_who_83 : decode cX11_who 83 = .ok (.iload_n 3, 1) := by decide +kernel
theorem dX11_who_84 : decode cX11_who 84 = .ok (.iaload, 1) := by decide +kernel
theorem dX11_who_85 : decode cX11_who 85 = .ok (.putfield 217, 3) := by decide +kernel
theorem dX11_who_88 : decode cX11_who 88 = .ok (.aload_n 0, 1) := by decide +kernel
theorem dX11_who_89 : decode cX11_who 89 = .ok (.getfield 39, 3) := by decide +kernel
theorem dX11_who_92 : decode cX11_who 92 = .ok (.getfield 223, 3) := by decide +kernel
theorem dX11_who_95 : decode cX11_who 95 = .ok (.iload_n 3, 1) := by decide +kernel
theorem dX11_who_96 : decode cX11_who 96 = .ok (.iaload, 1) := by decide +kernel
theorem dX11_who_97 : decode cX11_who 97 = .ok (.iconst 2, 1) := by decide +kernel
theorem dX11_who_98 : decode cX11_who 98 = .ok (.if_icmp .ne 8, 3) := by decide +kernel
theorem dX11_who_101 : decode cX11_who 101 = .ok (.bipush (-9), 2) := by decide +kernel
theorem dX11_who_103 : decode cX11_who 103 = .ok (.goto 12, 3) := by decide +kernel
theorem dX11_who_106 : decode cX11_who 106 = .ok (.aload_n 0, 1) := by decide +kernel
theorem dX11_who_107 : decode cX11_who 107 = .ok (.getfield 39, 3) := by decide +kernel
theorem dX11_who_110 : decode cX11_who 110 = .ok (.getfield 223, 3) := by decide +kernel
theorem dX11_who_113 : decode cX11_who 113 = .ok (.iload_n 3, 1) := by decide +kernel
theorem dX11_who_114 : decode cX11_who 114 = .ok (.iaload, 1) := by decide +kernel
theorem dX11_who_115 : decode cX11_who 115 = .ok (.ireturn, 1) := by decide +kernel
theorem dX11_isWrong_0 : decode cX11_isWrong 0 = .ok (.aload_n 0, 1) := by decide +kernel
theorem dX11_isWrong_1 : decode cX11_isWrong 1 = .ok (.aload_n 1, 1) := by decide +kernel
theorem dX11_isWrong_2 : decode cX11_isWrong 2 = .ok (.iload_n 2, 1) := by decide +kernel
theorem dX11_isWrong_3 : decode cX11_isWrong 3 = .ok (.aload_n 1, 1) := by decide +kernel
theorem dX11_isWrong_4 : decode cX11_isWrong 4 = .ok (.iload_n 2, 1) := by decide +kernel
theorem dX11_isWrong_5 : decode cX11_isWrong 5 = .ok (.invokevirtual 202, 3) := by decide +kernel
theorem dX11_isWrong_8 : decode cX11_isWrong 8 = .ok (.ireturn, 1) := by decide +kernel
theorem dX11_best_0 : decode cX11_best 0 = .ok (.aload_n 0, 1) := by decide +kernel
theorem dX11_best_1 : decode cX11_best 1 = .ok (.iload_n 1, 1) := by decide +kernel
theorem dX11_best_2 : decode cX11_best 2 = .ok (.invokevirtual 96, 3) := by decide +kernel
theorem dX11_best_5 : decode cX11_best 5 = .ok (.astore_n 3, 1) := by decide +kernel
theorem dX11_best_6 : decode cX11_best 6 = .ok (.aload_n 0, 1) := by decide +kernel
theorem dX11_best_7 : decode cX11_best 7 = .ok (.iload_n 2, 1) := by decide +kernel
theorem dX11_best_8 : decode cX11_best 8 = .ok (.invokevirtual 96, 3) := by decide +kernel
theorem dX11_best_11 : decode cX11_best 11 = .ok (.astore 4, 2) := by decide +kernel
theorem dX11_best_13 : decode cX11_best 13 = .ok (.aload_n 3, 1) := by decide +kernel
theorem dX11_best_14 : decode cX11_best 14 = .ok (.ifnull 8, 3) := by decide +kernel
theorem dX11_best_17 : decode cX11_best 17 = .ok (.aload 4, 2) := by decide +kernel
theorem dX11_best_19 : decode cX11_best 19 = .ok (.ifnonnull 5, 3) := by decide +kernel
theorem dX11_best_22 : decode cX11_best 22 = .ok (.iconst (-1), 1) := by decide +kernel
theorem dX11_best_23 : decode cX11_best 23 = .ok (.ireturn, 1) := by decide +kernel
theorem dX11_best_24 : decode cX11_best 24 = .ok (.aload_n 0, 1) := by decide +kernel
theorem dX11_best_25 : decode cX11_best 25 = .ok (.aload_n 3, 1) := by decide +kernel
theorem dX11_best_26 : decode cX11_best 26 = .ok (.iconst 1, 1) := by decide +kernel
theorem dX11_best_27 : decode cX11_best 27 = .ok (.invokevirtual 226, 3) := by decide +kernel
theorem dX11_best_30 : decode cX11_best 30 = .ok (.ifCond .eq 6, 3) := by decide +kernel
theorem dX11_best_33 : decode cX11_best 33 = .ok (.bipush (-3), 2) := by decide +kernel
theorem dX11_best_35 : decode cX11_best 35 = .ok (.ireturn, 1) := by decide +kernel
theorem dX11_best_36 : decode cX11_best 36 = .ok (.aload_n 0, 1) := by decide +kernel
theorem dX11_best_37 : decode cX11_best 37 = .ok (.getfield 53, 3) := by decide +kernel
theorem dX11_best_40 : decode cX11_best 40 = .ok (.aload_n 0, 1) := by decide +kernel
theorem dX11_best_41 : decode cX11_best 41 = .ok (.getfield 21, 3) := by decide +kernel
theorem dX11_best_44 : decode cX11_best 44 = .ok (.aload_n 0, 1) := by decide +kernel
theorem dX11_best_45 : decode cX11_best 45 = .ok (.getfield 21, 3) := by decide +kernel
theorem dX11_best_48 : decode cX11_best 48 = .ok (.getfield 181, 3) := by decide +kernel
theorem dX11_best_51 : decode cX11_best 51 = .ok (.aload_n 3, 1) := by decide +kernel
theorem dX11_best_52 : decode cX11_best 52 = .ok (.getfield 116, 3) := by decide +kernel
theorem dX11_best_55 : decode cX11_best 55 = .ok (.aload_n 0, 1) := by decide +kernel
theorem dX11_best_56 : decode cX11_best 56 = .ok (.getfield 21, 3) := by decide +kernel
theorem dX11_best_59 : decode cX11_best 59 = .ok (.getfield 188, 3) := by decide +kernel
theorem dX11_best_62 : decode cX11_best 62 = .ok (.iconst 0, 1) := by decide +kernel
theorem dX11_best_63 : decode cX11_best 63 = .ok (.iaload, 1) := by decide +kernel
theorem dX11_best_64 : decode cX11_best 64 = .ok (.invokevirtual 229, 3) := by decide +kernel
theorem dX11_best_67 : decode cX11_best 67 = .ok (.aload 4, 2) := by decide +kernel
theorem dX11_best_69 : decode cX11_best 69 = .ok (.aload_n 0, 1) := by decide +kernel
theorem dX11_best_70 : decode cX11_best 70 = .ok (.getfield 53, 3) := by decide +kernel
theorem dX11_best_73 : decode cX11_best 73 = .ok (.getfield 233, 3) := by decide +kernel
theorem dX11_best_76 : decode cX11_best 76 = .ok (.aload_n 0, 1) := by decide +kernel
theorem dX11_best_77 : decode cX11_best 77 = .ok (.getfield 21, 3) := by decide +kernel
theorem dX11_best_80 : decode cX11_best 80 = .ok (.getfield 158, 3) := by decide +kernel
theorem dX11_best_83 : decode cX11_best 83 = .ok (.invokevirtual 236, 3) := by decide +kernel
theorem dX11_best_86 : decode cX11_best 86 = .ok (.aload_n 0, 1) := by decide +kernel
theorem dX11_best_87 : decode cX11_best 87 = .ok (.aload_n 0, 1) := by decide +kernel
theorem dX11_best_88 : decode cX11_best 88 = .ok (.getfield 53, 3) := by decide +kernel
theorem dX11_best_91 : decode cX11_best 91 = .ok (.getfield 240, 3) := by decide +kernel
theorem dX11_best_94 : decode cX11_best 94 = .ok (.putfield 217, 3) := by decide +kernel
theorem dX11_best_97 : decode cX11_best 97 = .ok (.aload_n 0, 1) := by decide +kernel
theorem dX11_best_98 : decode cX11_best 98 = .ok (.getfield 53, 3) := by decide +kernel
theorem dX11_best_101 : decode cX11_best 101 = .ok (.getfield 243, 3) := by decide +kernel
theorem dX11_best_104 : decode cX11_best 104 = .ok (.ireturn, 1) := by decide +kernel
theorem dX11_fewest_0 : decode cX11_fewest 0 = .ok (.aload_n 0, 1) := by decide +kernel
theorem dX11_fewest_1 : decode cX11_fewest 1 = .ok (.iload_n 1, 1) := by decide +kernel
theorem dX11_fewest_2 : decode cX11_fewest 2 = .ok (.invokevirtual 96, 3) := by decide +kernel
theorem dX11_fewest_5 : decode cX11_fewest 5 = .ok (.astore_n 3, 1) := by decide +kernel
theorem dX11_fewest_6 : decode cX11_fewest 6 = .ok (.aload_n 3, 1) := by decide +kernel
theorem dX11_fewest_7 : decode cX11_fewest 7 = .ok (.ifnull 13, 3) := by decide +kernel
theorem dX11_fewest_10 : decode cX11_fewest 10 = .ok (.iload_n 2, 1) := by decide +kernel
theorem dX11_fewest_11 : decode cX11_fewest 11 = .ok (.ifCond .lt 9, 3) := by decide +kernel
theorem dX11_fewest_14 : decode cX11_fewest 14 = .ok (.iload_n 2, 1) := by decide +kernel
theorem dX11_fewest_15 : decode cX11_fewest 15 = .ok (.bipush 108, 2) := by decide +kernel
theorem dX11_fewest_17 : decode cX11_fewest 17 = .ok (.if_icmp .le 5, 3) := by decide +kernel
theorem dX11_fewest_20 : decode cX11_fewest 20 = .ok (.iconst (-1), 1) := by decide +kernel
theorem dX11_fewest_21 : decode cX11_fewest 21 = .ok (.ireturn, 1) := by decide +kernel
theorem dX11_fewest_22 : decode cX11_fewest 22 = .ok (.aload_n 0, 1) := by decide +kernel
theorem dX11_fewest_23 : decode cX11_fewest 23 = .ok (.aload_n 3, 1) := by decide +kernel
theorem dX11_fewest_24 : decode cX11_fewest 24 = .ok (.iconst 1, 1) := by decide +kernel
theorem dX11_fewest_25 : decode cX11_fewest 25 = .ok (.invokevirtual 226, 3) := by decide +kernel
theorem dX11_fewest_28 : decode cX11_fewest 28 = .ok (.ifCond .eq 6, 3) := by decide +kernel
theorem dX11_fewest_31 : decode cX11_fewest 31 = .ok (.bipush (-3), 2) := by decide +kernel
theorem dX11_fewest_33 : decode cX11_fewest 33 = .ok (.ireturn, 1) := by decide +kernel
theorem dX11_fewest_34 : decode cX11_fewest 34 = .ok (.aload_n 0, 1) := by decide +kernel
theorem dX11_fewest_35 : decode cX11_fewest 35 = .ok (.getfield 53, 3) := by decide +kernel
theorem dX11_fewest_38 : decode cX11_fewest 38 = .ok (.aload_n 0, 1) := by decide +kernel
theorem dX11_fewest_39 : decode cX11_fewest 39 = .ok (.getfield 21, 3) := by decide +kernel
theorem dX11_fewest_42 : decode cX11_fewest 42 = .ok (.aload_n 0, 1) := by decide +kernel
theorem dX11_fewest_43 : decode cX11_fewest 43 = .ok (.getfield 21, 3) := by decide +kernel
theorem dX11_fewest_46 : decode cX11_fewest 46 = .ok (.getfield 181, 3) := by decide +kernel
theorem dX11_fewest_49 : decode cX11_fewest 49 = .ok (.aload_n 3, 1) := by decide +kernel
theorem dX11_fewest_50 : decode cX11_fewest 50 = .ok (.getfield 116, 3) := by decide +kernel
theorem dX11_fewest_53 : decode cX11_fewest 53 = .ok (.sipush 240, 3) := by decide +kernel
theorem dX11_fewest_56 : decode cX11_fewest 56 = .ok (.invokevirtual 229, 3) := by decide +kernel
theorem dX11_fewest_59 : decode cX11_fewest 59 = .ok (.aload_n 0, 1) := by decide +kernel
theorem dX11_fewest_60 : decode cX11_fewest 60 = .ok (.getfield 53, 3) := by decide +kernel
theorem dX11_fewest_63 : decode cX11_fewest 63 = .ok (.iload_n 2, 1) := by decide +kernel
theorem dX11_fewest_64 : decode cX11_fewest 64 = .ok (.invokevirtual 244, 3) := by decide +kernel
theorem dX11_fewest_67 : decode cX11_fewest 67 = .ok (.istore 4, 2) := by decide +kernel
theorem dX11_fewest_69 : decode cX11_fewest 69 = .ok (.iload 4, 2) := by decide +kernel
theorem dX11_fewest_71 : decode cX11_fewest 71 = .ok (.bipush (-9), 2) := by decide +kernel
theorem dX11_fewest_73 : decode cX11_fewest 73 = .ok (.if_icmp .eq 16, 3) := by decide +kernel
theorem dX11_fewest_76 : decode cX11_fewest 76 = .ok (.aload_n 0, 1) := by decide +kernel
theorem dX11_fewest_77 : decode cX11_fewest 77 = .ok (.aload_n 0, 1) := by decide +kernel
theorem dX11_fewest_78 : decode cX11_fewest 78 = .ok (.getfield 53, 3) := by decide +kernel
theorem dX11_fewest_81 : decode cX11_fewest 81 = .ok (.iload 4, 2) := by decide +kernel
theorem dX11_fewest_83 : decode cX11_fewest 83 = .ok (.invokevirtual 247, 3) := by decide +kernel
theorem dX11_fewest_86 : decode cX11_fewest 86 = .ok (.putfield 217, 3) := by decide +kernel
theorem dX11_fewest_89 : decode cX11_fewest 89 = .ok (.iload 4, 2) := by decide +kernel
theorem dX11_fewest_91 : decode cX11_fewest 91 = .ok (.ireturn, 1) := by decide +kernel
theorem dX11_fraction_0 : decode cX11_fraction 0 = .ok (.lload_n 1, 1) := by decide +kernel
theorem dX11_fraction_1 : decode cX11_fraction 1 = .ok (.invokestatic 390, 3) := by decide +kernel
theorem dX11_fraction_4 : decode cX11_fraction 4 = .ok (.lstore 5, 2) := by decide +kernel
theorem dX11_fraction_6 : decode cX11_fraction 6 = .ok (.lload_n 3, 1) := by decide +kernel
theorem dX11_fraction_7 : decode cX11_fraction 7 = .ok (.lstore 7, 2) := by decide +kernel
theorem dX11_fraction_9 : decode cX11_fraction 9 = .ok (.iconst 0, 1) := by decide +kernel
theorem dX11_fraction_10 : decode cX11_fraction 10 = .ok (.istore 9, 2) := by decide +kernel
theorem dX11_fraction_12 : decode cX11_fraction 12 = .ok (.lload 7, 2) := by decide +kernel
theorem dX11_fraction_14 : decode cX11_fraction 14 = .ok (.lconst 0, 1) := by decide +kernel
theorem dX11_fraction_15 : decode cX11_fraction 15 = .ok (.lcmp, 1) := by decide +kernel
theorem dX11_fraction_16 : decode cX11_fraction 16 = .ok (.ifCond .eq 31, 3) := by decide +kernel
theorem dX11_fraction_19 : decode cX11_fraction 19 = .ok (.iload 9, 2) := by decide +kernel
theorem dX11_fraction_21 : decode cX11_fraction 21 = .ok (.ldc 253, 2) := by decide +kernel
theorem dX11_fraction_23 : decode cX11_fraction 23 = .ok (.if_icmp .ge 24, 3) := by decide +kernel
theorem dX11_fraction_26 : decode cX11_fraction 26 = .ok (.lload 5, 2) := by decide +kernel
theorem dX11_fraction_28 : decode cX11_fraction 28 = .ok (.lload 7, 2) := by decide +kernel
theorem dX11_fraction_30 : decode cX11_fraction 30 = .ok (.lrem, 1) := by decide +kernel
theorem dX11_fraction_31 : decode cX11_fraction 31 = .ok (.lstore 10, 2) := by decide +kernel
theorem dX11_fraction_33 : decode cX11_fraction 33 = .ok (.lload 7, 2) := by decide +kernel
theorem dX11_fraction_35 : decode cX11_fraction 35 = .ok (.lstore 5, 2) := by decide +kernel
theorem dX11_fraction_37 : decode cX11_fraction 37 = .ok (.lload 10, 2) := by decide +kernel
theorem dX11_fraction_39 : decode cX11_fraction 39 = .ok (.lstore 7, 2) := by decide +kernel
theorem dX11_fraction_41 : decode cX11_fraction 41 = .ok (.iinc 9 1, 3) := by decide +kernel
theorem dX11_fraction_44 : decode cX11_fraction 44 = .ok (.goto (-32), 3) := by decide +kernel
theorem dX11_fraction_47 : decode cX11_fraction 47 = .ok (.lload 5, 2) := by decide +kernel
theorem dX11_fraction_49 : decode cX11_fraction 49 = .ok (.lconst 0, 1) := by decide +kernel
theorem dX11_fraction_50 : decode cX11_fraction 50 = .ok (.lcmp, 1) := by decide +kernel
theorem dX11_fraction_51 : decode cX11_fraction 51 = .ok (.ifCond .le 19, 3) := by decide +kernel
theorem dX11_fraction_54 : decode cX11_fraction 54 = .ok (.aload_n 0, 1) := by decide +kernel
theorem dX11_fraction_55 : decode cX11_fraction 55 = .ok (.lload_n 1, 1) := by decide +kernel
theorem dX11_fraction_56 : decode cX11_fraction 56 = .ok (.lload 5, 2) := by decide +kernel
theorem dX11_fraction_58 : decode cX11_fraction 58 = .ok (.ldiv, 1) := by decide +kernel
theorem dX11_fraction_59 : decode cX11_fraction 59 = .ok (.putfield 361, 3) := by decide +kernel
theorem dX11_fraction_62 : decode cX11_fraction 62 = .ok (.aload_n 0, 1) := by decide +kernel
theorem dX11_fraction_63 : decode cX11_fraction 63 = .ok (.lload_n 3, 1) := by decide +kernel
theorem dX11_fraction_64 : decode cX11_fraction 64 = .ok (.lload 5, 2) := by decide +kernel
theorem dX11_fraction_66 : decode cX11_fraction 66 = .ok (.ldiv, 1) := by decide +kernel
theorem dX11_fraction_67 : decode cX11_fraction 67 = .ok (.putfield 89, 3) := by decide +kernel
theorem dX11_fraction_70 : decode cX11_fraction 70 = .ok (.return_, 1) := by decide +kernel
theorem q_505 : Cond.methodLink RX11 168 yX9_isA ∈ wT := wi_t 505 (by decide +kernel) (by decide +kernel)
theorem q_509 : Cond.methodLink RX11 171 yX0_howMany ∈ wT := wi_t 509 (by decide +kernel) (by decide +kernel)
theorem q_512 : Cond.code yX0_howMany cX0_howMany 4 (some .int) ∈ wT := wi_t 512 (by decide +kernel) (by decide +kernel)
theorem q_510 : Cond.instanceMethod yX0_howMany ∈ wT := wi_t 510 (by decide +kernel) (by decide +kernel)
theorem q_511 : Cond.selects RX0 yX0_howMany yX0_howMany ∈ wT := wi_t 511 (by decide +kernel) (by decide +kernel)
theorem q_514 : Cond.methodLink RX11 174 yX9_winner ∈ wT := wi_t 514 (by decide +kernel) (by decide +kernel)
theorem q_518 : Cond.methodLink RX11 178 yX9_points ∈ wT := wi_t 518 (by decide +kernel) (by decide +kernel)
theorem q_78 : Cond.fieldLink RX11 181 "HeavyFiles$Court" "damp" "I" ∈ wT := wi_t 78 (by decide +kernel) (by decide +kernel)
theorem q_522 : Cond.methodLink RX11 184 yX9_extra ∈ wT := wi_t 522 (by decide +kernel) (by decide +kernel)
theorem q_63 : Cond.fieldLink RX11 188 "HeavyFiles$Court" "stocks" "[I" ∈ wT := wi_t 63 (by decide +kernel) (by decide +kernel)
theorem q_526 : Cond.methodLink RX11 191 Lib.Math.max.name ∈ wT := wi_t 526 (by decide +kernel) (by decide +kernel)
theorem q_529 : Cond.methodLink RX11 196 yX9_pilesOf ∈ wT := wi_t 529 (by decide +kernel) (by decide +kernel)
theorem q_532 : Cond.code yX9_pilesOf cX9_pilesOf 2 (some .int) ∈ wT := wi_t 532 (by decide +kernel) (by decide +kernel)
theorem q_530 : Cond.instanceMethod yX9_pilesOf ∈ wT := wi_t 530 (by decide +kernel) (by decide +kernel)
theorem q_531 : Cond.selects RX9 yX9_pilesOf yX9_pilesOf ∈ wT := wi_t 531 (by decide +kernel) (by decide +kernel)
theorem q_533 : Cond.methodLink RX11 199 yX0_hangingOn ∈ wT := wi_t 533 (by decide +kernel) (by decide +kernel)
theorem q_536 : Cond.code yX0_hangingOn cX0_hangingOn 4 (some .int) ∈ wT := wi_t 536 (by decide +kernel) (by decide +kernel)
theorem q_534 : Cond.instanceMethod yX0_hangingOn ∈ wT := wi_t 534 (by decide +kernel) (by decide +kernel)
theorem q_535 : Cond.selects RX0 yX0_hangingOn yX0_hangingOn ∈ wT := wi_t 535 (by decide +kernel) (by decide +kernel)
theorem q_562 : Cond.methodLink RX11 398 yX11_isRefused ∈ wT := wi_t 562 (by decide +kernel) (by decide +kernel)
theorem q_565 : Cond.code yX11_isRefused cX11_isRefused 5 (some .boolean) ∈ wT := wi_t 565 (by decide +kernel) (by decide +kernel)
theorem q_564 : Cond.instanceMethod yX11_isRefused ∈ wT := wi_t 564 (by decide +kernel) (by decide +kernel)
theorem qs_11 : Cond.selects RX11 yX11_isRefused yX11_isRefused ∈ wT := wi_s (q := (yX11_isRefused, 17)) 11 (by decide +kernel) (by decide +kernel)
theorem q_553 : Cond.methodLink RX11 395 yX0_allows ∈ wT := wi_t 553 (by decide +kernel) (by decide +kernel)
theorem q_556 : Cond.code yX0_allows cX0_allows 3 (some .boolean) ∈ wT := wi_t 556 (by decide +kernel) (by decide +kernel)
theorem q_554 : Cond.instanceMethod yX0_allows ∈ wT := wi_t 554 (by decide +kernel) (by decide +kernel)
theorem q_555 : Cond.selects RX0 yX0_allows yX0_allows ∈ wT := wi_t 555 (by decide +kernel) (by decide +kernel)
theorem q_549 : Cond.methodLink RX11 202 yX11_isWrong_ ∈ wT := wi_t 549 (by decide +kernel) (by decide +kernel)
theorem q_552 : Cond.code yX11_isWrong_ cX11_isWrong_ 7 (some .boolean) ∈ wT := wi_t 552 (by decide +kernel) (by decide +kernel)
theorem q_551 : Cond.instanceMethod yX11_isWrong_ ∈ wT := wi_t 551 (by decide +kernel) (by decide +kernel)
theorem qs_10 : Cond.selects RX11 yX11_isWrong_ yX11_isWrong_ ∈ wT := wi_s (q := (yX11_isWrong_, 17)) 10 (by decide +kernel) (by decide +kernel)
theorem q_314 : Cond.fieldLink RX11 39 "HeavyFiles" "scale" "LHeavyFiles$Scale;" ∈ wT := wi_t 314 (by decide +kernel) (by decide +kernel)
theorem q_566 : Cond.methodLink RX11 206 yX7_weigh ∈ wT := wi_t 566 (by decide +kernel) (by decide +kernel)
theorem q_593 : Cond.methodLink RX11 210 yX0_worths ∈ wT := wi_t 593 (by decide +kernel) (by decide +kernel)
theorem q_146 : Cond.fieldLink RX11 214 "HeavyFiles$Scale" "score" "I" ∈ wT := wi_t 146 (by decide +kernel) (by decide +kernel)
theorem q_142 : Cond.fieldLink RX11 220 "HeavyFiles$Scale" "leads" "[I" ∈ wT := wi_t 142 (by decide +kernel) (by decide +kernel)
theorem q_140 : Cond.fieldLink RX11 223 "HeavyFiles$Scale" "winners" "[I" ∈ wT := wi_t 140 (by decide +kernel) (by decide +kernel)
theorem q_605 : Cond.methodLink RX11 226 yX11_isWrong ∈ wT := wi_t 605 (by decide +kernel) (by decide +kernel)
theorem q_608 : Cond.code yX11_isWrong cX11_isWrong 3 (some .boolean) ∈ wT := wi_t 608 (by decide +kernel) (by decide +kernel)
theorem q_607 : Cond.instanceMethod yX11_isWrong ∈ wT := wi_t 607 (by decide +kernel) (by decide +kernel)
theorem qs_13 : Cond.selects RX11 yX11_isWrong yX11_isWrong ∈ wT := wi_s (q := (yX11_isWrong, 17)) 13 (by decide +kernel) (by decide +kernel)
theorem q_316 : Cond.fieldLink RX11 53 "HeavyFiles" "search" "LHeavyFiles$Search;" ∈ wT := wi_t 316 (by decide +kernel) (by decide +kernel)
theorem q_609 : Cond.methodLink RX11 229 yX8_run ∈ wT := wi_t 609 (by decide +kernel) (by decide +kernel)
theorem q_612 : Cond.code yX8_run cX8_run 5 none ∈ wT := wi_t 612 (by decide +kernel) (by decide +kernel)
theorem q_610 : Cond.instanceMethod yX8_run ∈ wT := wi_t 610 (by decide +kernel) (by decide +kernel)
theorem q_611 : Cond.selects RX8 yX8_run yX8_run ∈ wT := wi_t 611 (by decide +kernel) (by decide +kernel)
theorem q_183 : Cond.fieldLink RX11 233 "HeavyFiles$Search" "laying" "[I" ∈ wT := wi_t 183 (by decide +kernel) (by decide +kernel)
theorem q_644 : Cond.methodLink RX11 236 yX6_take ∈ wT := wi_t 644 (by decide +kernel) (by decide +kernel)
theorem q_647 : Cond.code yX6_take cX6_take 3 none ∈ wT := wi_t 647 (by decide +kernel) (by decide +kernel)
theorem q_645 : Cond.instanceMethod yX6_take ∈ wT := wi_t 645 (by decide +kernel) (by decide +kernel)
theorem q_646 : Cond.selects RX6 yX6_take yX6_take ∈ wT := wi_t 646 (by decide +kernel) (by decide +kernel)
theorem q_187 : Cond.fieldLink RX11 240 "HeavyFiles$Search" "sheets" "I" ∈ wT := wi_t 187 (by decide +kernel) (by decide +kernel)
theorem q_185 : Cond.fieldLink RX11 243 "HeavyFiles$Search" "score" "I" ∈ wT := wi_t 185 (by decide +kernel) (by decide +kernel)
theorem q_655 : Cond.methodLink RX11 244 yX8_fewestFor ∈ wT := wi_t 655 (by decide +kernel) (by decide +kernel)
theorem q_658 : Cond.code yX8_fewestFor cX8_fewestFor 3 (some .int) ∈ wT := wi_t 658 (by decide +kernel) (by decide +kernel)
theorem q_656 : Cond.instanceMethod yX8_fewestFor ∈ wT := wi_t 656 (by decide +kernel) (by decide +kernel)
theorem q_657 : Cond.selects RX8 yX8_fewestFor yX8_fewestFor ∈ wT := wi_t 657 (by decide +kernel) (by decide +kernel)
theorem q_659 : Cond.methodLink RX11 247 yX8_mostBy ∈ wT := wi_t 659 (by decide +kernel) (by decide +kernel)
theorem q_662 : Cond.code yX8_mostBy cX8_mostBy 4 (some .int) ∈ wT := wi_t 662 (by decide +kernel) (by decide +kernel)
theorem q_660 : Cond.instanceMethod yX8_mostBy ∈ wT := wi_t 660 (by decide +kernel) (by decide +kernel)
theorem q_661 : Cond.selects RX8 yX8_mostBy yX8_mostBy ∈ wT := wi_t 661 (by decide +kernel) (by decide +kernel)
theorem q_324 : Cond.fieldLink RX11 361 "HeavyFiles" "upper" "J" ∈ wT := wi_t 324 (by decide +kernel) (by decide +kernel)
theorem q_325 : Cond.fieldLink RX11 89 "HeavyFiles" "lower" "J" ∈ wT := wi_t 325 (by decide +kernel) (by decide +kernel)
theorem q_674 : Cond.constant RX11 253 1000000 ∈ wT := wi_t 674 (by decide +kernel) (by decide +kernel)
theorem q_683 : Cond.methodLink RX11 390 Lib.MathLoose.abs_long.x ∈ wT := wi_t 683 (by decide +kernel) (by decide +kernel)
theorem q_684 : Cond.static Lib.MathLoose.abs_long.x ∈ wT := wi_t 684 (by decide +kernel) (by decide +kernel)
theorem q_685 : Cond.code Lib.MathLoose.abs_long.x Lib.MathLoose.abs_long.code 2 (some .long) ∈ wT := wi_t 685 (by decide +kernel) (by decide +kernel)
theorem kvX0_howMany : KV yX0_howMany RX0 cX0_howMany 4 (some .int) 1 := ⟨q_510, q_511, q_2, q_512, rfl, by decide +kernel, by decide +kernel, by decide +kernel⟩
theorem kvX9_pilesOf : KV yX9_pilesOf RX9 cX9_pilesOf 2 (some .int) 1 := ⟨q_530, q_531, q_3, q_532, rfl, by decide +kernel, by decide +kernel, by decide +kernel⟩
theorem kvX0_hangingOn : KV yX0_hangingOn RX0 cX0_hangingOn 4 (some .int) 1 := ⟨q_534, q_535, q_2, q_536, rfl, by decide +kernel, by decide +kernel, by decide +kernel⟩
theorem kvX11_isRefused : KV yX11_isRefused RX11 cX11_isRefused 5 (some .boolean) 3 := ⟨q_564, qs_11, q_1, q_565, rfl, by decide +kernel, by decide +kernel, by decide +kernel⟩
theorem kvX0_allows : KV yX0_allows RX0 cX0_allows 3 (some .boolean) 2 := ⟨q_554, q_555, q_2, q_556, rfl, by decide +kernel, by decide +kernel, by decide +kernel⟩
theorem kvX11_isWrong_ : KV yX11_isWrong_ RX11 cX11_isWrong_ 7 (some .boolean) 4 := ⟨q_551, qs_10, q_1, q_552, rfl, by decide +kernel, by decide +kernel, by decide +kernel⟩
theorem kvX11_isWrong : KV yX11_isWrong RX11 cX11_isWrong 3 (some .boolean) 2 := ⟨q_607, qs_13, q_1, q_608, rfl, by decide +kernel, by decide +kernel, by decide +kernel⟩
theorem kvX8_run : KV yX8_run RX8 cX8_run 5 none 4 := ⟨q_610, q_611, q_7, q_612, rfl, by decide +kernel, by decide +kernel, by decide +kernel⟩
theorem kvX6_take : KV yX6_take RX6 cX6_take 3 none 2 := ⟨q_645, q_646, q_12, q_647, rfl, by decide +kernel, by decide +kernel, by decide +kernel⟩
theorem kvX8_fewestFor : KV yX8_fewestFor RX8 cX8_fewestFor 3 (some .int) 1 := ⟨q_656, q_657, q_7, q_658, rfl, by decide +kernel, by decide +kernel, by decide +kernel⟩
theorem kvX8_mostBy : KV yX8_mostBy RX8 cX8_mostBy 4 (some .int) 1 := ⟨q_660, q_661, q_7, q_662, rfl, by decide +kernel, by decide +kernel, by decide +kernel⟩
/-! HeavyFiles.mark(II)I -/
def fX11_mark (N : Nat)  (a0 : Nat) (a1 : Int32) (a2 : Int32) (mm : Mm) : Option (Int32 × Mm) :=
  bd2 (fX0_suitOf N (fr a0 2) a1 mm) fun x1 m2 => cs x1 (some ((-1), m2)) (fun z4 => if a2 < 1 then (some ((-1), m2)) else (if a2 ≤ 5 then (bd2 (fX9_isA N z4 a2 m2) fun x8 m9 => if x8 = 0 then (bd2 (fX11_refused N a0 3 m9) fun x37 m38 => some (x37, m38)) else (if a2 = 1 then (bd2 (fX0_howMany N (fr a0 2) 1 m9) fun x13 m14 => some (x13, m14)) else if a2 = 2 then (bd2 (fX9_winner N z4 0 0 m9) fun x17 m18 => bd2 (fX9_points N z4 0 x17 m18) fun x20 m21 => some (x20, m21)) else if a2 = 3 then (bd2 (fX9_extra N z4 (rd m9 (fr a0 2) 6) 0 m9) fun x24 m25 => some (x24, m25)) else if a2 = 4 then (gd (inb 0 (ln (fr (fr a0 2) 1))) <| gd (inb 1 (ln (fr (fr a0 2) 1))) <| nm (if (rd m9 (fr (fr a0 2) 1) ((0 : Int32).toNatClampNeg)) < (rd m9 (fr (fr a0 2) 1) ((1 : Int32).toNatClampNeg)) then (rd m9 (fr (fr a0 2) 1) ((1 : Int32).toNatClampNeg)) else (rd m9 (fr (fr a0 2) 1) ((0 : Int32).toNatClampNeg))) fun x30 => bd2 (fX9_pilesOf N z4 x30 m9) fun x31 m32 => some (x31, m32)) else (bd2 (fX0_hangingOn N (fr a0 2) a1 m9) fun x34 m35 => some (x34, m35)))) else (some ((-1), m2))))
abbrev rmX11_mark : Room := { frames := 3, cells := 0, slots := 0, locals := 100 }
/-! HeavyFiles.stock(II)I -/
def fX11_stock (N : Nat)  (a0 : Nat) (a1 : Int32) (a2 : Int32) (mm : Mm) : Option (Int32 × Mm) :=
  if a1 < 0 then (some ((-1), mm)) else (if (1 : Int32) < a1 then (some ((-1), mm)) else (if a2 < 0 then (some ((-1), mm)) else (if a2 ≤ 40 then (gd (inb a1 (ln (fr (fr a0 2) 1))) <| nm (rd mm (fr (fr a0 2) 1) a1.toNatClampNeg) fun x6 => gd (inb a1 (ln (fr (fr a0 2) 1))) <| nm (wr mm (fr (fr a0 2) 1) a1.toNatClampNeg a2) fun m8 => some (x6, m8)) else (some ((-1), mm)))))
abbrev rmX11_stock : Room := { frames := 1, cells := 0, slots := 0, locals := 40 }
/-! HeavyFiles.damp(I)I -/
def fX11_damp (N : Nat)  (a0 : Nat) (a1 : Int32) (mm : Mm) : Option (Int32 × Mm) :=
  if a1 < 0 then (some ((-1), mm)) else (if a1 ≤ 9 then (nm (wr mm (fr a0 2) 6 a1) fun m3 => bd2 (fX10_forget N (fr a0 10) m3) fun x4 m5 => some (rd mm (fr a0 2) 6, m5)) else (some ((-1), mm)))
abbrev rmX11_damp : Room := { frames := 2, cells := 0, slots := 0, locals := 68 }
/-! HeavyFiles.isRefused(ZZZ)Z -/
def fX11_isRefused_39 (N : Nat)  (a4 : Int32) (mm : Mm) : Option (Int32 × Mm) :=
  if a4 = 0 then (some (0, mm)) else (some (1, mm))
def fX11_isRefused_25 (N : Nat)  (a0 : Nat) (s0 : Int32) (mm : Mm) : Option (Int32 × Mm) :=
  if s0 = 0 then (fX11_isRefused_39 N s0 mm) else (bd2 (fX11_refused N a0 s0 mm) fun x3 m4 => fX11_isRefused_39 N s0 m4)
def fX11_isRefused (N : Nat)  (a0 : Nat) (a1 : Int32) (a2 : Int32) (a3 : Int32) (mm : Mm) : Option (Int32 × Mm) :=
  if a1 = 0 then (fX11_isRefused_25 N a0 1 mm) else (if a2 = 0 then (fX11_isRefused_25 N a0 5 mm) else (if a3 = 0 then (fX11_isRefused_25 N a0 3 mm) else (fX11_isRefused_25 N a0 0 mm)))
abbrev rmX11_isRefused : Room := { frames := 2, cells := 0, slots := 0, locals := 69 }
/-! HeavyFiles.isWrong(LHeavyFiles$Row;ILHeavyFiles$Row;I)Z -/
def fX11_isWrong__91 (N : Nat)  (s0 : Nat) (s1 : Int32) (s2 : Int32) (s3 : Int32) (mm : Mm) : Option (Int32 × Mm) :=
  bd2 (fX11_isRefused N s0 s1 s2 s3 mm) fun x1 m2 => gd (zb x1) <| some (x1, m2)
def fX11_isWrong__90 (N : Nat)  (s0 : Nat) (s1 : Int32) (s2 : Int32) (mm : Mm) : Option (Int32 × Mm) :=
  fX11_isWrong__91 N s0 s1 s2 0 mm
def fX11_isWrong__54 (N : Nat)  (a0 : Nat) (a1 : Nat) (a2 : Int32) (a3 : Nat) (a4 : Int32) (a5 : Int32) (s0 : Int32) (mm : Mm) : Option (Int32 × Mm) :=
  bd2 (fX0_allows N (fr a0 2) a1 a2 mm) fun x5 m6 => if x5 = 0 then (fX11_isWrong__90 N a0 a5 s0 m6) else (bd2 (fX0_allows N (fr a0 2) a3 a4 m6) fun x9 m10 => if x9 = 0 then (fX11_isWrong__90 N a0 a5 s0 m10) else (fX11_isWrong__91 N a0 a5 s0 1 m10))
def fX11_isWrong__53 (N : Nat)  (a0 : Nat) (a1 : Nat) (a2 : Int32) (a3 : Nat) (a4 : Int32) (a5 : Int32) (mm : Mm) : Option (Int32 × Mm) :=
  fX11_isWrong__54 N a0 a1 a2 a3 a4 a5 0 mm
def fX11_isWrong__19 (N : Nat)  (a0 : Nat) (a1 : Nat) (a2 : Int32) (a3 : Nat) (a4 : Int32) (s0 : Int32) (mm : Mm) : Option (Int32 × Mm) :=
  if (rd mm a1 1) = (rd mm (fr a0 2) 5) then (if (rd mm a3 1) = (rd mm (fr a0 2) 5) then (fX11_isWrong__54 N a0 a1 a2 a3 a4 s0 1 mm) else (fX11_isWrong__53 N a0 a1 a2 a3 a4 s0 mm)) else (fX11_isWrong__53 N a0 a1 a2 a3 a4 s0 mm)
def fX11_isWrong__18 (N : Nat)  (a0 : Nat) (a1 : Nat) (a2 : Int32) (a3 : Nat) (a4 : Int32) (mm : Mm) : Option (Int32 × Mm) :=
  fX11_isWrong__19 N a0 a1 a2 a3 a4 0 mm
def fX11_isWrong_ (N : Nat)  (a0 : Nat) (a1 : Nat) (a2 : Int32) (a3 : Nat) (a4 : Int32) (mm : Mm) : Option (Int32 × Mm) :=
  bd2 (fX6_isMissing N a1 mm) fun x15 m16 => if x15 = 0 then (bd2 (fX6_isMissing N a3 m16) fun x19 m20 => if x19 = 0 then (fX11_isWrong__19 N a0 a1 a2 a3 a4 1 m20) else (fX11_isWrong__18 N a0 a1 a2 a3 a4 m20)) else (fX11_isWrong__18 N a0 a1 a2 a3 a4 m16)
abbrev rmX11_isWrong_ : Room := { frames := 3, cells := 0, slots := 0, locals := 101 }
/-! HeavyFiles.judge(II)I -/
def fX11_judge (N : Nat)  (a0 : Nat) (a1 : Int32) (a2 : Int32) (mm : Mm) : Option (Int32 × Mm) :=
  bd2 (fX11_rowOf N a0 a1 mm) fun x1 m2 => bd2 (fX11_rowOf N a0 a2 m2) fun x4 m5 => cs x1 (some ((-1), m5)) (fun z7 => cs x4 (some ((-1), m5)) (fun z9 => bd2 (fX11_isWrong_ N a0 z7 0 z9 1 m5) fun x11 m12 => if x11 = 0 then (bd2 (fX7_weigh N (fr a0 5) (fr a0 2) (fr z7 0) (fr z9 0) 0 m12) fun x15 m16 => bd2 (fX0_worths N (fr a0 2) m16) fun x18 m19 => nm (wr m19 a0 14 ((2 * x18) - (rd m19 (fr a0 5) 3))) fun m21 => some (rd m21 (fr a0 5) 3, m21)) else (some ((-3), m12))))
abbrev rmX11_judge : Room := { frames := 4, cells := 0, slots := 0, locals := 136 }
/-! HeavyFiles.who(III)I -/
def fX11_who (N : Nat)  (a0 : Nat) (a1 : Int32) (a2 : Int32) (a3 : Int32) (mm : Mm) : Option (Int32 × Mm) :=
  bd2 (fX11_rowOf N a0 a1 mm) fun x1 m2 => bd2 (fX11_rowOf N a0 a2 m2) fun x4 m5 => cs x1 (some ((-1), m5)) (fun z7 => cs x4 (some ((-1), m5)) (fun z9 => bd2 (fX0_suitOf N (fr a0 2) a3 m5) fun x11 m12 => cs x11 (some ((-1), m12)) (fun z14 => bd2 (fX11_isWrong_ N a0 z7 0 z9 1 m12) fun x16 m17 => if x16 = 0 then (bd2 (fX7_weigh N (fr a0 5) (fr a0 2) (fr z7 0) (fr z9 0) 0 m17) fun x20 m21 => gd (inb a3 (ln (fr (fr a0 5) 1))) <| nm (wr m21 a0 14 (rd m21 (fr (fr a0 5) 1) a3.toNatClampNeg)) fun m24 => gd (inb a3 (ln (fr (fr a0 5) 0))) <| if (rd m24 (fr (fr a0 5) 0) a3.toNatClampNeg) = 2 then (some ((-9), m24)) else (gd (inb a3 (ln (fr (fr a0 5) 0))) <| some (rd m24 (fr (fr a0 5) 0) a3.toNatClampNeg, m24))) else (some ((-3), m17)))))
abbrev rmX11_who : Room := { frames := 4, cells := 0, slots := 0, locals := 136 }
/-! HeavyFiles.isWrong(LHeavyFiles$Row;I)Z -/
def fX11_isWrong (N : Nat)  (a0 : Nat) (a1 : Nat) (a2 : Int32) (mm : Mm) : Option (Int32 × Mm) :=
  bd2 (fX11_isWrong_ N a0 a1 a2 a1 a2 mm) fun x1 m2 => gd (zb x1) <| some (x1, m2)
abbrev rmX11_isWrong : Room := { frames := 4, cells := 0, slots := 0, locals := 135 }
/-! HeavyFiles.best(II)I -/
def fX11_best (N : Nat)  (a0 : Nat) (a1 : Int32) (a2 : Int32) (mm : Mm) : Option (Int32 × Mm) :=
  bd2 (fX11_rowOf N a0 a1 mm) fun x1 m2 => bd2 (fX11_rowOf N a0 a2 m2) fun x4 m5 => cs x1 (some ((-1), m5)) (fun z7 => cs x4 (some ((-1), m5)) (fun z9 => bd2 (fX11_isWrong N a0 z7 1 m5) fun x11 m12 => if x11 = 0 then (gd (inb 0 (ln (fr (fr a0 2) 1))) <| bd2 (fX8_run N (fr a0 7) (fr a0 2) (rd m12 (fr a0 2) 6) (fr z7 0) (rd m12 (fr (fr a0 2) 1) ((0 : Int32).toNatClampNeg)) m12) fun x16 m17 => bd2 (fX6_take N z9 (fr (fr a0 7) 0) (rd m17 (fr a0 2) 5) m17) fun x19 m20 => nm (wr m20 a0 14 (rd m20 (fr a0 7) 2)) fun m22 => some (rd m22 (fr a0 7) 1, m22)) else (some ((-3), m12))))
abbrev rmX11_best : Room := { frames := 16, cells := 0, slots := 0, locals := 861 }
/-! HeavyFiles.fewest(II)I -/
def fX11_fewest (N : Nat)  (a0 : Nat) (a1 : Int32) (a2 : Int32) (mm : Mm) : Option (Int32 × Mm) :=
  bd2 (fX11_rowOf N a0 a1 mm) fun x1 m2 => cs x1 (some ((-1), m2)) (fun z4 => if a2 < 0 then (some ((-1), m2)) else (if a2 ≤ 108 then (bd2 (fX11_isWrong N a0 z4 1 m2) fun x8 m9 => if x8 = 0 then (bd2 (fX8_run N (fr a0 7) (fr a0 2) (rd m9 (fr a0 2) 6) (fr z4 0) 240 m9) fun x12 m13 => bd2 (fX8_fewestFor N (fr a0 7) a2 m13) fun x15 m16 => if x15 = (-9) then (some (x15, m16)) else (bd2 (fX8_mostBy N (fr a0 7) x15 m16) fun x19 m20 => nm (wr m20 a0 14 x19) fun m22 => some (x15, m22))) else (some ((-3), m9))) else (some ((-1), m2))))
abbrev rmX11_fewest : Room := { frames := 16, cells := 0, slots := 0, locals := 861 }
/-! HeavyFiles.fraction(JJ)V -/
def fX11_fraction_47 (N : Nat)  (a0 : Nat) (a1 : Int64) (a3 : Int64) (a5 : Int64) (mm : Mm) : Option (Unit × Mm) :=
  if (lg_cmp a5 0) ≤ 0 then (some ((), mm)) else (gd (nzL a5) <| nm (wrL mm a0 15 (a1 / a5)) fun m3 => gd (nzL a5) <| nm (wrL m3 a0 16 (a3 / a5)) fun m5 => some ((), m5))
def fX11_fraction_12 (N : Nat)  : Nat → Nat → Int64 → Int64 → Int64 → Int64 → Int32 → Mm → Option (Unit × Mm)
  | 0 => fun _ _ _ _ _ _ _ => none
  | n + 1 => fun a0 a1 a3 a5 a7 a9 mm =>
    let k12 := fX11_fraction_12 N  n
    if (lg_cmp a7 0) = 0 then (fX11_fraction_47 N a0 a1 a3 a5 mm) else (if (1000000 : Int32) ≤ a9 then (fX11_fraction_47 N a0 a1 a3 a5 mm) else (gd (nzL a7) <| k12 a0 a1 a3 a7 (a5 - a5 / a7 * a7) (a9 + 1) mm))
def fX11_fraction (N : Nat)  (a0 : Nat) (a1 : Int64) (a3 : Int64) (mm : Mm) : Option (Unit × Mm) :=
  nm (if 0 < a1 then a1 else -a1) fun x9 => fX11_fraction_12 N N a0 a1 a3 x9 a3 0 mm
abbrev rmX11_fraction : Room := { frames := 2, cells := 0, slots := 0, locals := 69 }
section W_files16
variable {p : Program} {l : Launch} {e : Env} {s : State} {m : MethodId} {args : Array Value} {below : List Frame} {meth : Method} {c : Code} {D : va_G} {ca ad : Nat → Nat}
set_option maxRecDepth 100000 in
set_option maxHeartbeats 4000000 in
theorem wX11_mark_0 (C : Cx p s m meth c args cX11_mark 4 (some .int) RX11 D ca ad) {res : Int32 × Mm} {N : Nat}  {a0 : Nat} {a1 : Int32} {a2 : Int32} {mm : Mm} {H : Heap} {locs : List Loc} {ls : Array Slot} (ha0 : sX11 a0) (hW : Wd D ca ad s.heap mm H locs) (hl : lv_has ls 4 [(0, .ref (ad a0)), (1, .int a1), (2, .int a2)]) (hf : fX11_mark N a0 a1 a2 mm = some res) : W p l e (rmX11_mark) s m args below meth c H locs 0 0 (MQ below (QI D ca ad res) args s 0 0 (AA ad)) (F0 m 0 ls []) := by
  unfold fX11_mark at hf
  refine lv_aload_n C.1 C.2.1 dX11_mark_0 rfl (lv_at hl 0 rfl) ?_
  refine x_getr C hW (ha0).1 (ha0).2.1 (j := 2) rfl kX11 (by decide) rfl q_311 dX11_mark_1 ?_
  refine lv_iload_n C.1 C.2.1 dX11_mark_4 rfl (lv_at hl 1 rfl) ?_
  obtain ⟨x1, m2, r3, hf⟩ := bd2_s hf
  refine x_cr hW (x_runV C hW [.int a1] [] (ha0.2.2.2.2.1).1 (ha0.2.2.2.2.1).2.1 kX0.1 kvX0_suitOf q_493 (tX0_suitOf l C.2.2.2.2.2.2.1 ha0.2.2.2.2.1 r3) rfl rfl ⟨by decide, by decide⟩ rfl hl.1 rfl (Nat.le_of_ble_eq_true rfl) dX11_mark_5) (fun H locs hW => ?_)
  refine x_astore_n (lv' := [(3, va_re ad x1), (0, .ref (ad a0)), (1, .int a1), (2, .int a2)]) C dX11_mark_8 rfl hl (by decide) rfl (fun ls hl => ?_)
  refine x_aload_n C dX11_mark_9 rfl (lv_at hl 0 rfl) ?_
  refine x_ifnull C (tgt := 23) dX11_mark_10 (by decide) (fun n5 => ?_) (fun z4 n5 => ?_)
  · subst n5
    have hf := cs_n hf
    refine lv_iconst (v := (-1)) C.1 C.2.1 dX11_mark_23 (by decide) ?_
    cases hf
    exact x_iret C hW dX11_mark_24
  · subst n5
    have hf := cs_q hf
    refine lv_iload_n C.1 C.2.1 dX11_mark_13 rfl (lv_at hl 3 rfl) ?_
    refine lv_iconst (v := 1) C.1 C.2.1 dX11_mark_14 (by decide) ?_
    refine lv_icmp_lt (tgt := 23) C.1 C.2.1 dX11_mark_15 (by decide) (fun c6 => ?_) (fun c6 => ?_)
    · have hf := if_t c6 hf
      refine lv_iconst (v := (-1)) C.1 C.2.1 dX11_mark_23 (by decide) ?_
      cases hf
      exact x_iret C hW dX11_mark_24
    · have hf := if_f c6 hf
      refine lv_iload_n C.1 C.2.1 dX11_mark_18 rfl (lv_at hl 3 rfl) ?_
      refine lv_iconst (v := 5) C.1 C.2.1 dX11_mark_19 (by decide) ?_
      refine lv_icmp_le (tgt := 25) C.1 C.2.1 dX11_mark_20 (by decide) (fun c7 => ?_) (fun c7 => ?_)
      · have hf := if_t c7 hf
        refine lv_aload_n C.1 C.2.1 dX11_mark_25 rfl (lv_at hl 0 rfl) ?_
        refine lv_iload_n C.1 C.2.1 dX11_mark_26 rfl (lv_at hl 3 rfl) ?_
        obtain ⟨x8, m9, r10, hf⟩ := bd2_s hf
        refine x_ci hW (x_runV C hW [.int a2] [] (((gX0_suitOf ha0.2.2.2.2.1 r3) z4 rfl)).1 (((gX0_suitOf ha0.2.2.2.2.1 r3) z4 rfl)).2.1 kX9.1 kvX9_isA q_505 (tX9_isA l C.2.2.2.2.2.2.1 ((gX0_suitOf ha0.2.2.2.2.1 r3) z4 rfl) r10) rfl rfl ⟨by decide, by decide⟩ rfl hl.1 rfl (Nat.le_of_ble_eq_true rfl) dX11_mark_27) (fun H locs hW => ?_)
        refine lv_if_ne (tgt := 39) C.1 C.2.1 dX11_mark_30 (by decide) (fun c11 => ?_) (fun c11 => ?_)
        · have hf := if_f c11 hf
          refine lv_iload_n C.1 C.2.1 dX11_mark_39 rfl (lv_at hl 3 rfl) ?_
          by_cases c12 : a2 = 1
          · have hf := if_t c12 hf
            refine x_tin C (tgt := 72) dX11_mark_40 c12 (by decide) (by decide) (off := 32) rfl (by decide) ?_
            refine lv_aload_n C.1 C.2.1 dX11_mark_72 rfl (lv_at hl 1 rfl) ?_
            refine x_getr C hW (ha0).1 (ha0).2.1 (j := 2) rfl kX11 (by decide) rfl q_311 dX11_mark_73 ?_
            refine lv_iconst (v := 1) C.1 C.2.1 dX11_mark_76 (by decide) ?_
            obtain ⟨x13, m14, r15, hf⟩ := bd2_s hf
            refine x_ci hW (x_runV C hW [.int 1] [] (ha0.2.2.2.2.1).1 (ha0.2.2.2.2.1).2.1 kX0.1 kvX0_howMany q_509 (tX0_howMany l C.2.2.2.2.2.2.1 ha0.2.2.2.2.1 r15) rfl rfl ⟨by decide, by decide⟩ rfl hl.1 rfl (Nat.le_of_ble_eq_true rfl) dX11_mark_77) (fun H locs hW => ?_)
            cases hf
            exact x_iret C hW dX11_mark_80
          have hf := if_f c12 hf
          by_cases c16 : a2 = 2
          · have hf := if_t c16 hf
            refine x_tin C (tgt := 81) dX11_mark_40 c16 (by decide) (by decide) (off := 41) rfl (by decide) ?_
            refine lv_aload_n C.1 C.2.1 dX11_mark_81 rfl (lv_at hl 0 rfl) ?_
            refine lv_iconst (v := 0) C.1 C.2.1 dX11_mark_82 (by decide) ?_
            refine lv_aload_n C.1 C.2.1 dX11_mark_83 rfl (lv_at hl 0 rfl) ?_
            refine lv_iconst (v := 0) C.1 C.2.1 dX11_mark_84 (by decide) ?_
            refine lv_iconst (v := 0) C.1 C.2.1 dX11_mark_85 (by decide) ?_
            obtain ⟨x17, m18, r19, hf⟩ := bd2_s hf
            refine x_ci hW (x_runV C hW [.int 0, .int 0] [.int 0, .ref (ad z4)] (((gX0_suitOf ha0.2.2.2.2.1 r3) z4 rfl)).1 (((gX0_suitOf ha0.2.2.2.2.1 r3) z4 rfl)).2.1 kX9.1 kvX9_winner q_514 (tX9_winner l C.2.2.2.2.2.2.1 ((gX0_suitOf ha0.2.2.2.2.1 r3) z4 rfl) r19) rfl rfl ⟨by decide, by decide⟩ rfl hl.1 rfl (Nat.le_of_ble_eq_true rfl) dX11_mark_86) (fun H locs hW => ?_)
            obtain ⟨x20, m21, r22, hf⟩ := bd2_s hf
            refine x_ci hW (x_runV C hW [.int 0, .int x17] [] (((gX0_suitOf ha0.2.2.2.2.1 r3) z4 rfl)).1 (((gX0_suitOf ha0.2.2.2.2.1 r3) z4 rfl)).2.1 kX9.1 kvX9_points q_518 (tX9_points l C.2.2.2.2.2.2.1 ((gX0_suitOf ha0.2.2.2.2.1 r3) z4 rfl) r22) rfl rfl ⟨by decide, by decide⟩ rfl hl.1 rfl (Nat.le_of_ble_eq_true rfl) dX11_mark_89) (fun H locs hW => ?_)
            cases hf
            exact x_iret C hW dX11_mark_92
          have hf := if_f c16 hf
          by_cases c23 : a2 = 3
          · have hf := if_t c23 hf
            refine x_tin C (tgt := 93) dX11_mark_40 c23 (by decide) (by decide) (off := 53) rfl (by decide) ?_
            refine lv_aload_n C.1 C.2.1 dX11_mark_93 rfl (lv_at hl 0 rfl) ?_
            refine lv_aload_n C.1 C.2.1 dX11_mark_94 rfl (lv_at hl 1 rfl) ?_
            refine x_getr C hW (ha0).1 (ha0).2.1 (j := 2) rfl kX11 (by decide) rfl q_311 dX11_mark_95 ?_
            refine x_geti C hW (ha0.2.2.2.2.1).1 (ha0.2.2.2.2.1).2.1 (j := 6) rfl kX0 (by decide) rfl q_78 dX11_mark_98 ?_
            refine lv_iconst (v := 0) C.1 C.2.1 dX11_mark_101 (by decide) ?_
            obtain ⟨x24, m25, r26, hf⟩ := bd2_s hf
            refine x_ci hW (x_runV C hW [.int (rd m9 (fr a0 2) 6), .int 0] [] (((gX0_suitOf ha0.2.2.2.2.1 r3) z4 rfl)).1 (((gX0_suitOf ha0.2.2.2.2.1 r3) z4 rfl)).2.1 kX9.1 kvX9_extra q_522 (tX9_extra l C.2.2.2.2.2.2.1 ((gX0_suitOf ha0.2.2.2.2.1 r3) z4 rfl) r26) rfl rfl ⟨by decide, by decide⟩ rfl hl.1 rfl (Nat.le_of_ble_eq_true rfl) dX11_mark_102) (fun H locs hW => ?_)
            cases hf
            exact x_iret C hW dX11_mark_105
          have hf := if_f c23 hf
          by_cases c27 : a2 = 4
          · have hf := if_t c27 hf
            refine x_tin C (tgt := 106) dX11_mark_40 c27 (by decide) (by decide) (off := 66) rfl (by decide) ?_
            refine lv_aload_n C.1 C.2.1 dX11_mark_106 rfl (lv_at hl 0 rfl) ?_
            refine lv_aload_n C.1 C.2.1 dX11_mark_107 rfl (lv_at hl 1 rfl) ?_
            refine x_getr C hW (ha0).1 (ha0).2.1 (j := 2) rfl kX11 (by decide) rfl q_311 dX11_mark_108 ?_
            refine x_getr C hW (ha0.2.2.2.2.1).1 (ha0.2.2.2.2.1).2.1 (j := 1) rfl kX0 (by decide) rfl q_63 dX11_mark_111 ?_
            refine lv_iconst (v := 0) C.1 C.2.1 dX11_mark_114 (by decide) ?_
            obtain ⟨g28, hf⟩ := gd_s hf
            refine x_iald C hW ha0.2.2.2.2.1.2.2.2.1 g28 dX11_mark_115 ?_
            refine lv_aload_n C.1 C.2.1 dX11_mark_116 rfl (lv_at hl 1 rfl) ?_
            refine x_getr C hW (ha0).1 (ha0).2.1 (j := 2) rfl kX11 (by decide) rfl q_311 dX11_mark_117 ?_
            refine x_getr C hW (ha0.2.2.2.2.1).1 (ha0.2.2.2.2.1).2.1 (j := 1) rfl kX0 (by decide) rfl q_63 dX11_mark_120 ?_
            refine lv_iconst (v := 1) C.1 C.2.1 dX11_mark_123 (by decide) ?_
            obtain ⟨g29, hf⟩ := gd_s hf
            refine x_iald C hW ha0.2.2.2.2.1.2.2.2.1 g29 dX11_mark_124 ?_
            refine va_mmax C.1 C.2.1 (C.2.2.1.trans hl.1.symm) C.2.2.2.1 (C.2.2.2.2.1 _ q_526) (C.2.2.2.2.1 _ q_527) (C.2.2.2.2.1 _ q_16) (C.2.2.2.2.1 _ q_528) (by decide) (Nat.le_of_ble_eq_true rfl) (Nat.zero_le _) (Nat.zero_le _) dX11_mark_125 ?_
            refine lv_topi (fun x30 ex30 => ?_)
            have hf := nm_s hf ex30
            obtain ⟨x31, m32, r33, hf⟩ := bd2_s hf
            refine x_ci hW (x_runV C hW [.int x30] [] (((gX0_suitOf ha0.2.2.2.2.1 r3) z4 rfl)).1 (((gX0_suitOf ha0.2.2.2.2.1 r3) z4 rfl)).2.1 kX9.1 kvX9_pilesOf q_529 (tX9_pilesOf l C.2.2.2.2.2.2.1 ((gX0_suitOf ha0.2.2.2.2.1 r3) z4 rfl) r33) rfl rfl ⟨by decide, by decide⟩ rfl hl.1 rfl (Nat.le_of_ble_eq_true rfl) dX11_mark_128) (fun H locs hW => ?_)
            cases hf
            exact x_iret C hW dX11_mark_131
          have hf := if_f c27 hf
          refine x_tdef C (tgt := 132) dX11_mark_40 (by
              have := lv_neT c12 (a := 1) (by decide)
              have := lv_neT c16 (a := 2) (by decide)
              have := lv_neT c23 (a := 3) (by decide)
              have := lv_neT c27 (a := 4) (by decide)
              rcases (by omega : a2.toInt < 1 ∨ 4 < a2.toInt) with h | h
              · exact Or.inl h
              · exact Or.inr (Or.inl h)) (by decide) ?_
          refine lv_aload_n C.1 C.2.1 dX11_mark_132 rfl (lv_at hl 1 rfl) ?_
          refine x_getr C hW (ha0).1 (ha0).2.1 (j := 2) rfl kX11 (by decide) rfl q_311 dX11_mark_133 ?_
          refine lv_iload_n C.1 C.2.1 dX11_mark_136 rfl (lv_at hl 2 rfl) ?_
          obtain ⟨x34, m35, r36, hf⟩ := bd2_s hf
          refine x_ci hW (x_runV C hW [.int a1] [] (ha0.2.2.2.2.1).1 (ha0.2.2.2.2.1).2.1 kX0.1 kvX0_hangingOn q_533 (tX0_hangingOn l C.2.2.2.2.2.2.1 ha0.2.2.2.2.1 r36) rfl rfl ⟨by decide, by decide⟩ rfl hl.1 rfl (Nat.le_of_ble_eq_true rfl) dX11_mark_137) (fun H locs hW => ?_)
          cases hf
          exact x_iret C hW dX11_mark_140
        · have hf := if_t c11 hf
          refine lv_aload_n C.1 C.2.1 dX11_mark_33 rfl (lv_at hl 1 rfl) ?_
          refine lv_iconst (v := 3) C.1 C.2.1 dX11_mark_34 (by decide) ?_
          obtain ⟨x37, m38, r39, hf⟩ := bd2_s hf
          refine x_ci hW (x_runV C hW [.int 3] [] (ha0).1 (ha0).2.1 kX11.1 kvX11_refused q_369 (tX11_refused l C.2.2.2.2.2.2.1 ha0 r39) rfl rfl ⟨by decide, by decide⟩ rfl hl.1 rfl (Nat.le_of_ble_eq_true rfl) dX11_mark_35) (fun H locs hW => ?_)
          cases hf
          exact x_iret C hW dX11_mark_38
      · have hf := if_f c7 hf
        refine lv_iconst (v := (-1)) C.1 C.2.1 dX11_mark_23 (by decide) ?_
        cases hf
        exact x_iret C hW dX11_mark_24
set_option maxRecDepth 100000 in
set_option maxHeartbeats 4000000 in
theorem tX11_mark (l : Launch) {D : va_G} {ca ad : Nat → Nat} (hi : Inj ad) {N : Nat} {a0 : Nat} {a1 : Int32} {a2 : Int32} {mm : Mm} {res : Int32 × Mm} (ha0 : sX11 a0) (hf : fX11_mark N a0 a1 a2 mm = some res) : Met l yX11_mark (WS yX11_mark cX11_mark 4 (some .int)) (rmX11_mark) (va_Pc [.ref (ad a0), .int a1, .int a2] (WB D ca ad mm)) (QI D ca ad res) 0 0 (AA ad) := by
  refine x_start hi (by decide) rfl (Nat.le_of_ble_eq_true rfl) (fun p e s m args below meth c ls C hW hl => ?_)
  exact wX11_mark_0 C ha0 hW (lv_sub hl [0, 1, 2] rfl) hf
set_option maxRecDepth 100000 in
set_option maxHeartbeats 4000000 in
theorem wX11_stock_0 (C : Cx p s m meth c args cX11_stock 4 (some .int) RX11 D ca ad) {res : Int32 × Mm} {N : Nat}  {a0 : Nat} {a1 : Int32} {a2 : Int32} {mm : Mm} {H : Heap} {locs : List Loc} {ls : Array Slot} (ha0 : sX11 a0) (hW : Wd D ca ad s.heap mm H locs) (hl : lv_has ls 4 [(0, .ref (ad a0)), (1, .int a1), (2, .int a2)]) (hf : fX11_stock N a0 a1 a2 mm = some res) : W p l e (rmX11_stock) s m args below meth c H locs 0 0 (MQ below (QI D ca ad res) args s 0 0 (AA ad)) (F0 m 0 ls []) := by
  unfold fX11_stock at hf
  refine lv_iload_n C.1 C.2.1 dX11_stock_0 rfl (lv_at hl 1 rfl) ?_
  refine lv_if_lt (tgt := 19) C.1 C.2.1 dX11_stock_1 (by decide) (fun c1 => ?_) (fun c1 => ?_)
  · have hf := if_t c1 hf
    refine lv_iconst (v := (-1)) C.1 C.2.1 dX11_stock_19 (by decide) ?_
    cases hf
    exact x_iret C hW dX11_stock_20
  · have hf := if_f c1 hf
    refine lv_iload_n C.1 C.2.1 dX11_stock_4 rfl (lv_at hl 1 rfl) ?_
    refine lv_iconst (v := 1) C.1 C.2.1 dX11_stock_5 (by decide) ?_
    refine lv_icmp_gt (tgt := 19) C.1 C.2.1 dX11_stock_6 (by decide) (fun c2 => ?_) (fun c2 => ?_)
    · have hf := if_t c2 hf
      refine lv_iconst (v := (-1)) C.1 C.2.1 dX11_stock_19 (by decide) ?_
      cases hf
      exact x_iret C hW dX11_stock_20
    · have hf := if_f c2 hf
      refine lv_iload_n C.1 C.2.1 dX11_stock_9 rfl (lv_at hl 2 rfl) ?_
      refine lv_if_lt (tgt := 19) C.1 C.2.1 dX11_stock_10 (by decide) (fun c3 => ?_) (fun c3 => ?_)
      · have hf := if_t c3 hf
        refine lv_iconst (v := (-1)) C.1 C.2.1 dX11_stock_19 (by decide) ?_
        cases hf
        exact x_iret C hW dX11_stock_20
      · have hf := if_f c3 hf
        refine lv_iload_n C.1 C.2.1 dX11_stock_13 rfl (lv_at hl 2 rfl) ?_
        refine lv_bipush (v := 40) C.1 C.2.1 dX11_stock_14 (by decide) ?_
        refine lv_icmp_le (tgt := 21) C.1 C.2.1 dX11_stock_16 (by decide) (fun c4 => ?_) (fun c4 => ?_)
        · have hf := if_t c4 hf
          refine lv_aload_n C.1 C.2.1 dX11_stock_21 rfl (lv_at hl 0 rfl) ?_
          refine x_getr C hW (ha0).1 (ha0).2.1 (j := 2) rfl kX11 (by decide) rfl q_311 dX11_stock_22 ?_
          refine x_getr C hW (ha0.2.2.2.2.1).1 (ha0.2.2.2.2.1).2.1 (j := 1) rfl kX0 (by decide) rfl q_63 dX11_stock_25 ?_
          refine lv_iload_n C.1 C.2.1 dX11_stock_28 rfl (lv_at hl 1 rfl) ?_
          obtain ⟨g5, hf⟩ := gd_s hf
          refine x_iald C hW ha0.2.2.2.2.1.2.2.2.1 g5 dX11_stock_29 ?_
          refine lv_topi (fun x6 ex6 => ?_)
          have hf := nm_s hf ex6
          refine lv_istore_n (lv' := [(3, .int x6), (0, .ref (ad a0)), (1, .int a1), (2, .int a2)]) C.1 C.2.1 dX11_stock_30 rfl hl (by decide) rfl (fun ls hl => ?_)
          refine lv_aload_n C.1 C.2.1 dX11_stock_31 rfl (lv_at hl 1 rfl) ?_
          refine x_getr C hW (ha0).1 (ha0).2.1 (j := 2) rfl kX11 (by decide) rfl q_311 dX11_stock_32 ?_
          refine x_getr C hW (ha0.2.2.2.2.1).1 (ha0.2.2.2.2.1).2.1 (j := 1) rfl kX0 (by decide) rfl q_63 dX11_stock_35 ?_
          refine lv_iload_n C.1 C.2.1 dX11_stock_38 rfl (lv_at hl 2 rfl) ?_
          refine lv_iload_n C.1 C.2.1 dX11_stock_39 rfl (lv_at hl 3 rfl) ?_
          obtain ⟨g7, hf⟩ := gd_s hf
          refine x_iast C hW ha0.2.2.2.2.1.2.2.2.1 g7 dX11_stock_40 (fun H locs hW => ?_)
          obtain ⟨m8, em8⟩ : ∃ z, z = wr mm (fr (fr a0 2) 1) a1.toNatClampNeg a2 := ⟨_, rfl⟩
          have hf := nm_s hf em8
          rw [← em8] at hW
          refine lv_iload_n C.1 C.2.1 dX11_stock_41 rfl (lv_at hl 0 rfl) ?_
          cases hf
          exact x_iret C hW dX11_stock_42
        · have hf := if_f c4 hf
          refine lv_iconst (v := (-1)) C.1 C.2.1 dX11_stock_19 (by decide) ?_
          cases hf
          exact x_iret C hW dX11_stock_20
set_option maxRecDepth 100000 in
set_option maxHeartbeats 4000000 in
theorem tX11_stock (l : Launch) {D : va_G} {ca ad : Nat → Nat} (hi : Inj ad) {N : Nat} {a0 : Nat} {a1 : Int32} {a2 : Int32} {mm : Mm} {res : Int32 × Mm} (ha0 : sX11 a0) (hf : fX11_stock N a0 a1 a2 mm = some res) : Met l yX11_stock (WS yX11_stock cX11_stock 4 (some .int)) (rmX11_stock) (va_Pc [.ref (ad a0), .int a1, .int a2] (WB D ca ad mm)) (QI D ca ad res) 0 0 (AA ad) := by
  refine x_start hi (by decide) rfl (Nat.le_of_ble_eq_true rfl) (fun p e s m args below meth c ls C hW hl => ?_)
  exact wX11_stock_0 C ha0 hW (lv_sub hl [0, 1, 2] rfl) hf
set_option maxRecDepth 100000 in
set_option maxHeartbeats 4000000 in
theorem wX11_damp_0 (C : Cx p s m meth c args cX11_damp 3 (some .int) RX11 D ca ad) {res : Int32 × Mm} {N : Nat}  {a0 : Nat} {a1 : Int32} {mm : Mm} {H : Heap} {locs : List Loc} {ls : Array Slot} (ha0 : sX11 a0) (hW : Wd D ca ad s.heap mm H locs) (hl : lv_has ls 3 [(0, .ref (ad a0)), (1, .int a1)]) (hf : fX11_damp N a0 a1 mm = some res) : W p l e (rmX11_damp) s m args below meth c H locs 0 0 (MQ below (QI D ca ad res) args s 0 0 (AA ad)) (F0 m 0 ls []) := by
  unfold fX11_damp at hf
  refine lv_iload_n C.1 C.2.1 dX11_damp_0 rfl (lv_at hl 1 rfl) ?_
  refine lv_if_lt (tgt := 10) C.1 C.2.1 dX11_damp_1 (by decide) (fun c1 => ?_) (fun c1 => ?_)
  · have hf := if_t c1 hf
    refine lv_iconst (v := (-1)) C.1 C.2.1 dX11_damp_10 (by decide) ?_
    cases hf
    exact x_iret C hW dX11_damp_11
  · have hf := if_f c1 hf
    refine lv_iload_n C.1 C.2.1 dX11_damp_4 rfl (lv_at hl 1 rfl) ?_
    refine lv_bipush (v := 9) C.1 C.2.1 dX11_damp_5 (by decide) ?_
    refine lv_icmp_le (tgt := 12) C.1 C.2.1 dX11_damp_7 (by decide) (fun c2 => ?_) (fun c2 => ?_)
    · have hf := if_t c2 hf
      refine lv_aload_n C.1 C.2.1 dX11_damp_12 rfl (lv_at hl 0 rfl) ?_
      refine x_getr C hW (ha0).1 (ha0).2.1 (j := 2) rfl kX11 (by decide) rfl q_311 dX11_damp_13 ?_
      refine x_geti C hW (ha0.2.2.2.2.1).1 (ha0.2.2.2.2.1).2.1 (j := 6) rfl kX0 (by decide) rfl q_78 dX11_damp_16 ?_
      refine lv_istore_n (lv' := [(2, .int (rd mm (fr a0 2) 6)), (0, .ref (ad a0)), (1, .int a1)]) C.1 C.2.1 dX11_damp_19 rfl hl (by decide) rfl (fun ls hl => ?_)
      refine lv_aload_n C.1 C.2.1 dX11_damp_20 rfl (lv_at hl 1 rfl) ?_
      refine x_getr C hW (ha0).1 (ha0).2.1 (j := 2) rfl kX11 (by decide) rfl q_311 dX11_damp_21 ?_
      refine lv_iload_n C.1 C.2.1 dX11_damp_24 rfl (lv_at hl 2 rfl) ?_
      refine x_put C hW (ha0.2.2.2.2.1).1 (ha0.2.2.2.2.1).2.1 (j := 6) (t1 := .int) rfl kX0 (by decide) rfl rfl q_78 (by decide +kernel) rfl rfl dX11_damp_25 (fun H locs hW => ?_)
      obtain ⟨m3, em3⟩ : ∃ z, z = wr mm (fr a0 2) 6 a1 := ⟨_, rfl⟩
      have hf := nm_s hf em3
      rw [← em3] at hW
      refine lv_aload_n C.1 C.2.1 dX11_damp_28 rfl (lv_at hl 1 rfl) ?_
      refine x_getr C hW (ha0).1 (ha0).2.1 (j := 10) rfl kX11 (by decide) rfl q_319 dX11_damp_29 ?_
      obtain ⟨x4, m5, r6, hf⟩ := bd2_s hf
      refine x_cv hW (x_runV C hW [] [] (ha0.2.2.2.2.2.2.2.2.2.2.2.2.1).1 (ha0.2.2.2.2.2.2.2.2.2.2.2.2.1).2.1 kX10.1 kvX10_forget q_485 (tX10_forget l C.2.2.2.2.2.2.1 ha0.2.2.2.2.2.2.2.2.2.2.2.2.1 r6) rfl rfl ⟨by decide, by decide⟩ rfl hl.1 rfl (Nat.le_of_ble_eq_true rfl) dX11_damp_32) (fun H locs hW => ?_)
      refine lv_iload_n C.1 C.2.1 dX11_damp_35 rfl (lv_at hl 0 rfl) ?_
      cases hf
      exact x_iret C hW dX11_damp_36
    · have hf := if_f c2 hf
      refine lv_iconst (v := (-1)) C.1 C.2.1 dX11_damp_10 (by decide) ?_
      cases hf
      exact x_iret C hW dX11_damp_11
set_option maxRecDepth 100000 in
set_option maxHeartbeats 4000000 in
theorem tX11_damp (l : Launch) {D : va_G} {ca ad : Nat → Nat} (hi : Inj ad) {N : Nat} {a0 : Nat} {a1 : Int32} {mm : Mm} {res : Int32 × Mm} (ha0 : sX11 a0) (hf : fX11_damp N a0 a1 mm = some res) : Met l yX11_damp (WS yX11_damp cX11_damp 3 (some .int)) (rmX11_damp) (va_Pc [.ref (ad a0), .int a1] (WB D ca ad mm)) (QI D ca ad res) 0 0 (AA ad) := by
  refine x_start hi (by decide) rfl (Nat.le_of_ble_eq_true rfl) (fun p e s m args below meth c ls C hW hl => ?_)
  exact wX11_damp_0 C ha0 hW (lv_sub hl [0, 1] rfl) hf
set_option maxRecDepth 100000 in
set_option maxHeartbeats 4000000 in
theorem wX11_isRefused_39 (C : Cx p s m meth c args cX11_isRefused 5 (some .boolean) RX11 D ca ad) {res : Int32 × Mm} {N : Nat}  {a4 : Int32} {mm : Mm} {H : Heap} {locs : List Loc} {ls : Array Slot}  (hW : Wd D ca ad s.heap mm H locs) (hl : lv_has ls 5 [(4, .int a4)]) (hf : fX11_isRefused_39 N a4 mm = some res) : W p l e (rmX11_isRefused) s m args below meth c H locs 0 0 (MQ below (QI D ca ad res) args s 0 0 (AA ad)) (F0 m 39 ls []) := by
  unfold fX11_isRefused_39 at hf
  refine lv_iload C.1 C.2.1 dX11_isRefused_39 (lv_at hl 0 rfl) ?_
  refine lv_if_eq (tgt := 48) C.1 C.2.1 dX11_isRefused_41 (by decide) (fun c1 => ?_) (fun c1 => ?_)
  · have hf := if_t c1 hf
    refine lv_iconst (v := 0) C.1 C.2.1 dX11_isRefused_48 (by decide) ?_
    cases hf
    exact x_zret C hW (by decide) dX11_isRefused_49
  · have hf := if_f c1 hf
    refine lv_iconst (v := 1) C.1 C.2.1 dX11_isRefused_44 (by decide) ?_
    refine lv_goto (tgt := 49) C.1 C.2.1 dX11_isRefused_45 (by decide) ?_
    cases hf
    exact x_zret C hW (by decide) dX11_isRefused_49
set_option maxRecDepth 100000 in
set_option maxHeartbeats 4000000 in
theorem wX11_isRefused_25 (C : Cx p s m meth c args cX11_isRefused 5 (some .boolean) RX11 D ca ad) {res : Int32 × Mm} {N : Nat}  {a0 : Nat} {s0 : Int32} {mm : Mm} {H : Heap} {locs : List Loc} {ls : Array Slot} (ha0 : sX11 a0) (hW : Wd D ca ad s.heap mm H locs) (hl : lv_has ls 5 [(0, .ref (ad a0))]) (hf : fX11_isRefused_25 N a0 s0 mm = some res) : W p l e (rmX11_isRefused) s m args below meth c H locs 0 0 (MQ below (QI D ca ad res) args s 0 0 (AA ad)) (F0 m 25 ls [.int s0]) := by
  unfold fX11_isRefused_25 at hf
  refine lv_istore (lv' := [(4, .int s0), (0, .ref (ad a0))]) C.1 C.2.1 dX11_isRefused_25 hl (by decide) rfl (fun ls hl => ?_)
  refine lv_iload C.1 C.2.1 dX11_isRefused_27 (lv_at hl 0 rfl) ?_
  refine lv_if_eq (tgt := 39) C.1 C.2.1 dX11_isRefused_29 (by decide) (fun c2 => ?_) (fun c2 => ?_)
  · have hf := if_t c2 hf
    exact wX11_isRefused_39 C   hW (lv_sub hl [0] rfl) hf
  · have hf := if_f c2 hf
    refine lv_aload_n C.1 C.2.1 dX11_isRefused_32 rfl (lv_at hl 1 rfl) ?_
    refine lv_iload C.1 C.2.1 dX11_isRefused_33 (lv_at hl 0 rfl) ?_
    obtain ⟨x3, m4, r5, hf⟩ := bd2_s hf
    refine x_ci hW (x_runV C hW [.int s0] [] (ha0).1 (ha0).2.1 kX11.1 kvX11_refused q_369 (tX11_refused l C.2.2.2.2.2.2.1 ha0 r5) rfl rfl ⟨by decide, by decide⟩ rfl hl.1 rfl (Nat.le_of_ble_eq_true rfl) dX11_isRefused_35) (fun H locs hW => ?_)
    refine lv_pop C.1 C.2.1 dX11_isRefused_38 rfl ?_
    exact wX11_isRefused_39 C   hW (lv_sub hl [0] rfl) hf
set_option maxRecDepth 100000 in
set_option maxHeartbeats 4000000 in
theorem wX11_isRefused_0 (C : Cx p s m meth c args cX11_isRefused 5 (some .boolean) RX11 D ca ad) {res : Int32 × Mm} {N : Nat}  {a0 : Nat} {a1 : Int32} {a2 : Int32} {a3 : Int32} {mm : Mm} {H : Heap} {locs : List Loc} {ls : Array Slot} (ha0 : sX11 a0) (hW : Wd D ca ad s.heap mm H locs) (hl : lv_has ls 5 [(0, .ref (ad a0)), (1, .int a1), (2, .int a2), (3, .int a3)]) (hf : fX11_isRefused N a0 a1 a2 a3 mm = some res) : W p l e (rmX11_isRefused) s m args below meth c H locs 0 0 (MQ below (QI D ca ad res) args s 0 0 (AA ad)) (F0 m 0 ls []) := by
  unfold fX11_isRefused at hf
  refine lv_iload_n C.1 C.2.1 dX11_isRefused_0 rfl (lv_at hl 1 rfl) ?_
  refine lv_if_ne (tgt := 8) C.1 C.2.1 dX11_isRefused_1 (by decide) (fun c6 => ?_) (fun c6 => ?_)
  · have hf := if_f c6 hf
    refine lv_iload_n C.1 C.2.1 dX11_isRefused_8 rfl (lv_at hl 2 rfl) ?_
    refine lv_if_ne (tgt := 16) C.1 C.2.1 dX11_isRefused_9 (by decide) (fun c7 => ?_) (fun c7 => ?_)
    · have hf := if_f c7 hf
      refine lv_iload_n C.1 C.2.1 dX11_isRefused_16 rfl (lv_at hl 3 rfl) ?_
      refine lv_if_ne (tgt := 24) C.1 C.2.1 dX11_isRefused_17 (by decide) (fun c8 => ?_) (fun c8 => ?_)
      · have hf := if_f c8 hf
        refine lv_iconst (v := 0) C.1 C.2.1 dX11_isRefused_24 (by decide) ?_
        exact wX11_isRefused_25 C  ha0 hW (lv_sub hl [0] rfl) hf
      · have hf := if_t c8 hf
        refine lv_iconst (v := 3) C.1 C.2.1 dX11_isRefused_20 (by decide) ?_
        refine lv_goto (tgt := 25) C.1 C.2.1 dX11_isRefused_21 (by decide) ?_
        exact wX11_isRefused_25 C  ha0 hW (lv_sub hl [0] rfl) hf
    · have hf := if_t c7 hf
      refine lv_iconst (v := 5) C.1 C.2.1 dX11_isRefused_12 (by decide) ?_
      refine lv_goto (tgt := 25) C.1 C.2.1 dX11_isRefused_13 (by decide) ?_
      exact wX11_isRefused_25 C  ha0 hW (lv_sub hl [0] rfl) hf
  · have hf := if_t c6 hf
    refine lv_iconst (v := 1) C.1 C.2.1 dX11_isRefused_4 (by decide) ?_
    refine lv_goto (tgt := 25) C.1 C.2.1 dX11_isRefused_5 (by decide) ?_
    exact wX11_isRefused_25 C  ha0 hW (lv_sub hl [0] rfl) hf
set_option maxRecDepth 100000 in
set_option maxHeartbeats 4000000 in
theorem tX11_isRefused (l : Launch) {D : va_G} {ca ad : Nat → Nat} (hi : Inj ad) {N : Nat} {a0 : Nat} {a1 : Int32} {a2 : Int32} {a3 : Int32} {mm : Mm} {res : Int32 × Mm} (ha0 : sX11 a0) (hf : fX11_isRefused N a0 a1 a2 a3 mm = some res) : Met l yX11_isRefused (WS yX11_isRefused cX11_isRefused 5 (some .boolean)) (rmX11_isRefused) (va_Pc [.ref (ad a0), .int a1, .int a2, .int a3] (WB D ca ad mm)) (QI D ca ad res) 0 0 (AA ad) := by
  refine x_start hi (by decide) rfl (Nat.le_of_ble_eq_true rfl) (fun p e s m args below meth c ls C hW hl => ?_)
  exact wX11_isRefused_0 C ha0 hW (lv_sub hl [0, 1, 2, 3] rfl) hf
set_option maxRecDepth 100000 in
set_option maxHeartbeats 4000000 in
theorem wX11_isWrong__91 (C : Cx p s m meth c args cX11_isWrong_ 7 (some .boolean) RX11 D ca ad) {res : Int32 × Mm} {N : Nat}  {s0 : Nat} {s1 : Int32} {s2 : Int32} {s3 : Int32} {mm : Mm} {H : Heap} {locs : List Loc} {ls : Array Slot} (hs0 : sX11 s0) (hW : Wd D ca ad s.heap mm H locs) (hl : lv_has ls 7 []) (hf : fX11_isWrong__91 N s0 s1 s2 s3 mm = some res) : W p l e (rmX11_isWrong_) s m args below meth c H locs 0 0 (MQ below (QI D ca ad res) args s 0 0 (AA ad)) (F0 m 91 ls [.int s3, .int s2, .int s1, .ref (ad s0)]) := by
  unfold fX11_isWrong__91 at hf
  obtain ⟨x1, m2, r3, hf⟩ := bd2_s hf
  refine x_ci hW (x_runV C hW [.int s1, .int s2, .int s3] [] (hs0).1 (hs0).2.1 kX11.1 kvX11_isRefused q_562 (tX11_isRefused l C.2.2.2.2.2.2.1 hs0 r3) rfl rfl ⟨by decide, by decide⟩ rfl hl.1 rfl (Nat.le_of_ble_eq_true rfl) dX11_isWrong__91) (fun H locs hW => ?_)
  obtain ⟨g4, hf⟩ := gd_s hf
  cases hf
  exact x_zret C hW (of_decide_eq_true g4) dX11_isWrong__94
set_option maxRecDepth 100000 in
set_option maxHeartbeats 4000000 in
theorem wX11_isWrong__90 (C : Cx p s m meth c args cX11_isWrong_ 7 (some .boolean) RX11 D ca ad) {res : Int32 × Mm} {N : Nat}  {s0 : Nat} {s1 : Int32} {s2 : Int32} {mm : Mm} {H : Heap} {locs : List Loc} {ls : Array Slot} (hs0 : sX11 s0) (hW : Wd D ca ad s.heap mm H locs) (hl : lv_has ls 7 []) (hf : fX11_isWrong__90 N s0 s1 s2 mm = some res) : W p l e (rmX11_isWrong_) s m args below meth c H locs 0 0 (MQ below (QI D ca ad res) args s 0 0 (AA ad)) (F0 m 90 ls [.int s2, .int s1, .ref (ad s0)]) := by
  unfold fX11_isWrong__90 at hf
  refine lv_iconst (v := 0) C.1 C.2.1 dX11_isWrong__90 (by decide) ?_
  exact wX11_isWrong__91 C  hs0 hW (lv_sub hl [] rfl) hf
set_option maxRecDepth 100000 in
set_option maxHeartbeats 4000000 in
theorem wX11_isWrong__54 (C : Cx p s m meth c args cX11_isWrong_ 7 (some .boolean) RX11 D ca ad) {res : Int32 × Mm} {N : Nat}  {a0 : Nat} {a1 : Nat} {a2 : Int32} {a3 : Nat} {a4 : Int32} {a5 : Int32} {s0 : Int32} {mm : Mm} {H : Heap} {locs : List Loc} {ls : Array Slot} (ha0 : sX11 a0) (ha1 : sX6 a1) (ha3 : sX6 a3) (hW : Wd D ca ad s.heap mm H locs) (hl : lv_has ls 7 [(0, .ref (ad a0)), (1, .ref (ad a1)), (2, .int a2), (3, .ref (ad a3)), (4, .int a4), (5, .int a5)]) (hf : fX11_isWrong__54 N a0 a1 a2 a3 a4 a5 s0 mm = some res) : W p l e (rmX11_isWrong_) s m args below meth c H locs 0 0 (MQ below (QI D ca ad res) args s 0 0 (AA ad)) (F0 m 54 ls [.int s0]) := by
  unfold fX11_isWrong__54 at hf
  refine lv_istore (lv' := [(6, .int s0), (0, .ref (ad a0)), (1, .ref (ad a1)), (2, .int a2), (3, .ref (ad a3)), (4, .int a4), (5, .int a5)]) C.1 C.2.1 dX11_isWrong__54 hl (by decide) rfl (fun ls hl => ?_)
  refine lv_aload_n C.1 C.2.1 dX11_isWrong__56 rfl (lv_at hl 1 rfl) ?_
  refine lv_iload C.1 C.2.1 dX11_isWrong__57 (lv_at hl 6 rfl) ?_
  refine lv_iload C.1 C.2.1 dX11_isWrong__59 (lv_at hl 0 rfl) ?_
  refine lv_aload_n C.1 C.2.1 dX11_isWrong__61 rfl (lv_at hl 1 rfl) ?_
  refine x_getr C hW (ha0).1 (ha0).2.1 (j := 2) rfl kX11 (by decide) rfl q_311 dX11_isWrong__62 ?_
  refine lv_aload_n C.1 C.2.1 dX11_isWrong__65 rfl (lv_at hl 2 rfl) ?_
  refine lv_iload_n C.1 C.2.1 dX11_isWrong__66 rfl (lv_at hl 3 rfl) ?_
  obtain ⟨x5, m6, r7, hf⟩ := bd2_s hf
  refine x_ci hW (x_runV C hW [.ref (ad a1), .int a2] [.int s0, .int a5, .ref (ad a0)] (ha0.2.2.2.2.1).1 (ha0.2.2.2.2.1).2.1 kX0.1 kvX0_allows q_553 (tX0_allows l C.2.2.2.2.2.2.1 ha0.2.2.2.2.1 ha1 r7) rfl rfl ⟨by decide, by decide⟩ rfl hl.1 rfl (Nat.le_of_ble_eq_true rfl) dX11_isWrong__67) (fun H locs hW => ?_)
  refine lv_if_eq (tgt := 90) C.1 C.2.1 dX11_isWrong__70 (by decide) (fun c8 => ?_) (fun c8 => ?_)
  · have hf := if_t c8 hf
    exact wX11_isWrong__90 C  ha0 hW (lv_sub hl [] rfl) hf
  · have hf := if_f c8 hf
    refine lv_aload_n C.1 C.2.1 dX11_isWrong__73 rfl (lv_at hl 1 rfl) ?_
    refine x_getr C hW (ha0).1 (ha0).2.1 (j := 2) rfl kX11 (by decide) rfl q_311 dX11_isWrong__74 ?_
    refine lv_aload_n C.1 C.2.1 dX11_isWrong__77 rfl (lv_at hl 4 rfl) ?_
    refine lv_iload C.1 C.2.1 dX11_isWrong__78 (lv_at hl 5 rfl) ?_
    obtain ⟨x9, m10, r11, hf⟩ := bd2_s hf
    refine x_ci hW (x_runV C hW [.ref (ad a3), .int a4] [.int s0, .int a5, .ref (ad a0)] (ha0.2.2.2.2.1).1 (ha0.2.2.2.2.1).2.1 kX0.1 kvX0_allows q_553 (tX0_allows l C.2.2.2.2.2.2.1 ha0.2.2.2.2.1 ha3 r11) rfl rfl ⟨by decide, by decide⟩ rfl hl.1 rfl (Nat.le_of_ble_eq_true rfl) dX11_isWrong__80) (fun H locs hW => ?_)
    refine lv_if_eq (tgt := 90) C.1 C.2.1 dX11_isWrong__83 (by decide) (fun c12 => ?_) (fun c12 => ?_)
    · have hf := if_t c12 hf
      exact wX11_isWrong__90 C  ha0 hW (lv_sub hl [] rfl) hf
    · have hf := if_f c12 hf
      refine lv_iconst (v := 1) C.1 C.2.1 dX11_isWrong__86 (by decide) ?_
      refine lv_goto (tgt := 91) C.1 C.2.1 dX11_isWrong__87 (by decide) ?_
      exact wX11_isWrong__91 C  ha0 hW (lv_sub hl [] rfl) hf
set_option maxRecDepth 100000 in
set_option maxHeartbeats 4000000 in
theorem wX11_isWrong__53 (C : Cx p s m meth c args cX11_isWrong_ 7 (some .boolean) RX11 D ca ad) {res : Int32 × Mm} {N : Nat}  {a0 : Nat} {a1 : Nat} {a2 : Int32} {a3 : Nat} {a4 : Int32} {a5 : Int32} {mm : Mm} {H : Heap} {locs : List Loc} {ls : Array Slot} (ha0 : sX11 a0) (ha1 : sX6 a1) (ha3 : sX6 a3) (hW : Wd D ca ad s.heap mm H locs) (hl : lv_has ls 7 [(0, .ref (ad a0)), (1, .ref (ad a1)), (2, .int a2), (3, .ref (ad a3)), (4, .int a4), (5, .int a5)]) (hf : fX11_isWrong__53 N a0 a1 a2 a3 a4 a5 mm = some res) : W p l e (rmX11_isWrong_) s m args below meth c H locs 0 0 (MQ below (QI D ca ad res) args s 0 0 (AA ad)) (F0 m 53 ls []) := by
  unfold fX11_isWrong__53 at hf
  refine lv_iconst (v := 0) C.1 C.2.1 dX11_isWrong__53 (by decide) ?_
  exact wX11_isWrong__54 C  ha0 ha1 ha3 hW (lv_sub hl [0, 1, 2, 3, 4, 5] rfl) hf
set_option maxRecDepth 100000 in
set_option maxHeartbeats 4000000 in
theorem wX11_isWrong__19 (C : Cx p s m meth c args cX11_isWrong_ 7 (some .boolean) RX11 D ca ad) {res : Int32 × Mm} {N : Nat}  {a0 : Nat} {a1 : Nat} {a2 : Int32} {a3 : Nat} {a4 : Int32} {s0 : Int32} {mm : Mm} {H : Heap} {locs : List Loc} {ls : Array Slot} (ha0 : sX11 a0) (ha1 : sX6 a1) (ha3 : sX6 a3) (hW : Wd D ca ad s.heap mm H locs) (hl : lv_has ls 7 [(0, .ref (ad a0)), (1, .ref (ad a1)), (2, .int a2), (3, .ref (ad a3)), (4, .int a4)]) (hf : fX11_isWrong__19 N a0 a1 a2 a3 a4 s0 mm = some res) : W p l e (rmX11_isWrong_) s m args below meth c H locs 0 0 (MQ below (QI D ca ad res) args s 0 0 (AA ad)) (F0 m 19 ls [.int s0]) := by
  unfold fX11_isWrong__19 at hf
  refine lv_istore (lv' := [(5, .int s0), (0, .ref (ad a0)), (1, .ref (ad a1)), (2, .int a2), (3, .ref (ad a3)), (4, .int a4)]) C.1 C.2.1 dX11_isWrong__19 hl (by decide) rfl (fun ls hl => ?_)
  refine lv_aload_n C.1 C.2.1 dX11_isWrong__21 rfl (lv_at hl 2 rfl) ?_
  refine x_geti C hW (ha1).1 (ha1).2.1 (j := 1) rfl kX6 (by decide) rfl q_303 dX11_isWrong__22 ?_
  refine lv_aload_n C.1 C.2.1 dX11_isWrong__25 rfl (lv_at hl 1 rfl) ?_
  refine x_getr C hW (ha0).1 (ha0).2.1 (j := 2) rfl kX11 (by decide) rfl q_311 dX11_isWrong__26 ?_
  refine x_geti C hW (ha0.2.2.2.2.1).1 (ha0.2.2.2.2.1).2.1 (j := 5) rfl kX0 (by decide) rfl q_73 dX11_isWrong__29 ?_
  refine lv_icmp_ne (tgt := 53) C.1 C.2.1 dX11_isWrong__32 (by decide) (fun c13 => ?_) (fun c13 => ?_)
  · have hf := if_f c13 hf
    exact wX11_isWrong__53 C  ha0 ha1 ha3 hW (lv_sub hl [1, 2, 3, 4, 5, 0] rfl) hf
  · have hf := if_t c13 hf
    refine lv_aload_n C.1 C.2.1 dX11_isWrong__35 rfl (lv_at hl 4 rfl) ?_
    refine x_geti C hW (ha3).1 (ha3).2.1 (j := 1) rfl kX6 (by decide) rfl q_303 dX11_isWrong__36 ?_
    refine lv_aload_n C.1 C.2.1 dX11_isWrong__39 rfl (lv_at hl 1 rfl) ?_
    refine x_getr C hW (ha0).1 (ha0).2.1 (j := 2) rfl kX11 (by decide) rfl q_311 dX11_isWrong__40 ?_
    refine x_geti C hW (ha0.2.2.2.2.1).1 (ha0.2.2.2.2.1).2.1 (j := 5) rfl kX0 (by decide) rfl q_73 dX11_isWrong__43 ?_
    refine lv_icmp_ne (tgt := 53) C.1 C.2.1 dX11_isWrong__46 (by decide) (fun c14 => ?_) (fun c14 => ?_)
    · have hf := if_f c14 hf
      exact wX11_isWrong__53 C  ha0 ha1 ha3 hW (lv_sub hl [1, 2, 3, 4, 5, 0] rfl) hf
    · have hf := if_t c14 hf
      refine lv_iconst (v := 1) C.1 C.2.1 dX11_isWrong__49 (by decide) ?_
      refine lv_goto (tgt := 54) C.1 C.2.1 dX11_isWrong__50 (by decide) ?_
      exact wX11_isWrong__54 C  ha0 ha1 ha3 hW (lv_sub hl [1, 2, 3, 4, 5, 0] rfl) hf
set_option maxRecDepth 100000 in
set_option maxHeartbeats 4000000 in
theorem wX11_isWrong__18 (C : Cx p s m meth c args cX11_isWrong_ 7 (some .boolean) RX11 D ca ad) {res : Int32 × Mm} {N : Nat}  {a0 : Nat} {a1 : Nat} {a2 : Int32} {a3 : Nat} {a4 : Int32} {mm : Mm} {H : Heap} {locs : List Loc} {ls : Array Slot} (ha0 : sX11 a0) (ha1 : sX6 a1) (ha3 : sX6 a3) (hW : Wd D ca ad s.heap mm H locs) (hl : lv_has ls 7 [(0, .ref (ad a0)), (1, .ref (ad a1)), (2, .int a2), (3, .ref (ad a3)), (4, .int a4)]) (hf : fX11_isWrong__18 N a0 a1 a2 a3 a4 mm = some res) : W p l e (rmX11_isWrong_) s m args below meth c H locs 0 0 (MQ below (QI D ca ad res) args s 0 0 (AA ad)) (F0 m 18 ls []) := by
  unfold fX11_isWrong__18 at hf
  refine lv_iconst (v := 0) C.1 C.2.1 dX11_isWrong__18 (by decide) ?_
  exact wX11_isWrong__19 C  ha0 ha1 ha3 hW (lv_sub hl [0, 1, 2, 3, 4] rfl) hf
set_option maxRecDepth 100000 in
set_option maxHeartbeats 4000000 in
theorem wX11_isWrong__0 (C : Cx p s m meth c args cX11_isWrong_ 7 (some .boolean) RX11 D ca ad) {res : Int32 × Mm} {N : Nat}  {a0 : Nat} {a1 : Nat} {a2 : Int32} {a3 : Nat} {a4 : Int32} {mm : Mm} {H : Heap} {locs : List Loc} {ls : Array Slot} (ha0 : sX11 a0) (ha1 : sX6 a1) (ha3 : sX6 a3) (hW : Wd D ca ad s.heap mm H locs) (hl : lv_has ls 7 [(0, .ref (ad a0)), (1, .ref (ad a1)), (2, .int a2), (3, .ref (ad a3)), (4, .int a4)]) (hf : fX11_isWrong_ N a0 a1 a2 a3 a4 mm = some res) : W p l e (rmX11_isWrong_) s m args below meth c H locs 0 0 (MQ below (QI D ca ad res) args s 0 0 (AA ad)) (F0 m 0 ls []) := by
  unfold fX11_isWrong_ at hf
  refine lv_aload_n C.1 C.2.1 dX11_isWrong__0 rfl (lv_at hl 1 rfl) ?_
  obtain ⟨x15, m16, r17, hf⟩ := bd2_s hf
  refine x_ci hW (x_runV C hW [] [] (ha1).1 (ha1).2.1 kX6.1 kvX6_isMissing q_384 (tX6_isMissing l C.2.2.2.2.2.2.1 ha1 r17) rfl rfl ⟨by decide, by decide⟩ rfl hl.1 rfl (Nat.le_of_ble_eq_true rfl) dX11_isWrong__1) (fun H locs hW => ?_)
  refine lv_if_ne (tgt := 18) C.1 C.2.1 dX11_isWrong__4 (by decide) (fun c18 => ?_) (fun c18 => ?_)
  · have hf := if_f c18 hf
    exact wX11_isWrong__18 C  ha0 ha1 ha3 hW (lv_sub hl [0, 1, 2, 3, 4] rfl) hf
  · have hf := if_t c18 hf
    refine lv_aload_n C.1 C.2.1 dX11_isWrong__7 rfl (lv_at hl 3 rfl) ?_
    obtain ⟨x19, m20, r21, hf⟩ := bd2_s hf
    refine x_ci hW (x_runV C hW [] [] (ha3).1 (ha3).2.1 kX6.1 kvX6_isMissing q_384 (tX6_isMissing l C.2.2.2.2.2.2.1 ha3 r21) rfl rfl ⟨by decide, by decide⟩ rfl hl.1 rfl (Nat.le_of_ble_eq_true rfl) dX11_isWrong__8) (fun H locs hW => ?_)
    refine lv_if_ne (tgt := 18) C.1 C.2.1 dX11_isWrong__11 (by decide) (fun c22 => ?_) (fun c22 => ?_)
    · have hf := if_f c22 hf
      exact wX11_isWrong__18 C  ha0 ha1 ha3 hW (lv_sub hl [0, 1, 2, 3, 4] rfl) hf
    · have hf := if_t c22 hf
      refine lv_iconst (v := 1) C.1 C.2.1 dX11_isWrong__14 (by decide) ?_
      refine lv_goto (tgt := 19) C.1 C.2.1 dX11_isWrong__15 (by decide) ?_
      exact wX11_isWrong__19 C  ha0 ha1 ha3 hW (lv_sub hl [0, 1, 2, 3, 4] rfl) hf
set_option maxRecDepth 100000 in
set_option maxHeartbeats 4000000 in
theorem tX11_isWrong_ (l : Launch) {D : va_G} {ca ad : Nat → Nat} (hi : Inj ad) {N : Nat} {a0 : Nat} {a1 : Nat} {a2 : Int32} {a3 : Nat} {a4 : Int32} {mm : Mm} {res : Int32 × Mm} (ha0 : sX11 a0) (ha1 : sX6 a1) (ha3 : sX6 a3) (hf : fX11_isWrong_ N a0 a1 a2 a3 a4 mm = some res) : Met l yX11_isWrong_ (WS yX11_isWrong_ cX11_isWrong_ 7 (some .boolean)) (rmX11_isWrong_) (va_Pc [.ref (ad a0), .ref (ad a1), .int a2, .ref (ad a3), .int a4] (WB D ca ad mm)) (QI D ca ad res) 0 0 (AA ad) := by
  refine x_start hi (by decide) rfl (Nat.le_of_ble_eq_true rfl) (fun p e s m args below meth c ls C hW hl => ?_)
  exact wX11_isWrong__0 C ha0 ha1 ha3 hW (lv_sub hl [0, 1, 2, 3, 4] rfl) hf
set_option maxRecDepth 100000 in
set_option maxHeartbeats 4000000 in
theorem wX11_judge_0 (C : Cx p s m meth c args cX11_judge 5 (some .int) RX11 D ca ad) {res : Int32 × Mm} {N : Nat}  {a0 : Nat} {a1 : Int32} {a2 : Int32} {mm : Mm} {H : Heap} {locs : List Loc} {ls : Array Slot} (ha0 : sX11 a0) (hW : Wd D ca ad s.heap mm H locs) (hl : lv_has ls 5 [(0, .ref (ad a0)), (1, .int a1), (2, .int a2)]) (hf : fX11_judge N a0 a1 a2 mm = some res) : W p l e (rmX11_judge) s m args below meth c H locs 0 0 (MQ below (QI D ca ad res) args s 0 0 (AA ad)) (F0 m 0 ls []) := by
  unfold fX11_judge at hf
  refine lv_aload_n C.1 C.2.1 dX11_judge_0 rfl (lv_at hl 0 rfl) ?_
  refine lv_iload_n C.1 C.2.1 dX11_judge_1 rfl (lv_at hl 1 rfl) ?_
  obtain ⟨x1, m2, r3, hf⟩ := bd2_s hf
  refine x_cr hW (x_runV C hW [.int a1] [] (ha0).1 (ha0).2.1 kX11.1 kvX11_rowOf q_365 (tX11_rowOf l C.2.2.2.2.2.2.1 ha0 r3) rfl rfl ⟨by decide, by decide⟩ rfl hl.1 rfl (Nat.le_of_ble_eq_true rfl) dX11_judge_2) (fun H locs hW => ?_)
  refine x_astore_n (lv' := [(3, va_re ad x1), (0, .ref (ad a0)), (1, .int a1), (2, .int a2)]) C dX11_judge_5 rfl hl (by decide) rfl (fun ls hl => ?_)
  refine lv_aload_n C.1 C.2.1 dX11_judge_6 rfl (lv_at hl 1 rfl) ?_
  refine lv_iload_n C.1 C.2.1 dX11_judge_7 rfl (lv_at hl 3 rfl) ?_
  obtain ⟨x4, m5, r6, hf⟩ := bd2_s hf
  refine x_cr hW (x_runV C hW [.int a2] [] (ha0).1 (ha0).2.1 kX11.1 kvX11_rowOf q_365 (tX11_rowOf l C.2.2.2.2.2.2.1 ha0 r6) rfl rfl ⟨by decide, by decide⟩ rfl hl.1 rfl (Nat.le_of_ble_eq_true rfl) dX11_judge_8) (fun H locs hW => ?_)
  refine x_astore (lv' := [(4, va_re ad x4), (3, va_re ad x1), (0, .ref (ad a0)), (1, .int a1), (2, .int a2)]) C dX11_judge_11 hl (by decide) (by cases x1 <;> rfl) (fun ls hl => ?_)
  refine x_aload_n C dX11_judge_13 rfl (lv_at hl 1 rfl) ?_
  refine x_ifnull C (tgt := 22) dX11_judge_14 (by decide) (fun n8 => ?_) (fun z7 n8 => ?_)
  · subst n8
    have hf := cs_n hf
    refine lv_iconst (v := (-1)) C.1 C.2.1 dX11_judge_22 (by decide) ?_
    cases hf
    exact x_iret C hW dX11_judge_23
  · subst n8
    have hf := cs_q hf
    refine x_aload C dX11_judge_17 (lv_at hl 0 rfl) ?_
    refine x_ifnonnull C (tgt := 24) dX11_judge_19 (by decide) (fun n10 => ?_) (fun z9 n10 => ?_)
    · subst n10
      have hf := cs_n hf
      refine lv_iconst (v := (-1)) C.1 C.2.1 dX11_judge_22 (by decide) ?_
      cases hf
      exact x_iret C hW dX11_judge_23
    · subst n10
      have hf := cs_q hf
      refine lv_aload_n C.1 C.2.1 dX11_judge_24 rfl (lv_at hl 2 rfl) ?_
      refine lv_aload_n C.1 C.2.1 dX11_judge_25 rfl (lv_at hl 1 rfl) ?_
      refine lv_iconst (v := 0) C.1 C.2.1 dX11_judge_26 (by decide) ?_
      refine lv_aload C.1 C.2.1 dX11_judge_27 (lv_at hl 0 rfl) ?_
      refine lv_iconst (v := 1) C.1 C.2.1 dX11_judge_29 (by decide) ?_
      obtain ⟨x11, m12, r13, hf⟩ := bd2_s hf
      refine x_ci hW (x_runV C hW [.ref (ad z7), .int 0, .ref (ad z9), .int 1] [] (ha0).1 (ha0).2.1 kX11.1 kvX11_isWrong_ q_549 (tX11_isWrong_ l C.2.2.2.2.2.2.1 ha0 ((gX11_rowOf ha0 r3) z7 rfl) ((gX11_rowOf ha0 r6) z9 rfl) r13) rfl rfl ⟨by decide, by decide⟩ rfl hl.1 rfl (Nat.le_of_ble_eq_true rfl) dX11_judge_30) (fun H locs hW => ?_)
      refine lv_if_eq (tgt := 39) C.1 C.2.1 dX11_judge_33 (by decide) (fun c14 => ?_) (fun c14 => ?_)
      · have hf := if_t c14 hf
        refine lv_aload_n C.1 C.2.1 dX11_judge_39 rfl (lv_at hl 2 rfl) ?_
        refine x_getr C hW (ha0).1 (ha0).2.1 (j := 5) rfl kX11 (by decide) rfl q_314 dX11_judge_40 ?_
        refine lv_aload_n C.1 C.2.1 dX11_judge_43 rfl (lv_at hl 2 rfl) ?_
        refine x_getr C hW (ha0).1 (ha0).2.1 (j := 2) rfl kX11 (by decide) rfl q_311 dX11_judge_44 ?_
        refine lv_aload_n C.1 C.2.1 dX11_judge_47 rfl (lv_at hl 1 rfl) ?_
        refine x_getr C hW (((gX11_rowOf ha0 r3) z7 rfl)).1 (((gX11_rowOf ha0 r3) z7 rfl)).2.1 (j := 0) rfl kX6 (by decide) rfl q_300 dX11_judge_48 ?_
        refine lv_aload C.1 C.2.1 dX11_judge_51 (lv_at hl 0 rfl) ?_
        refine x_getr C hW (((gX11_rowOf ha0 r6) z9 rfl)).1 (((gX11_rowOf ha0 r6) z9 rfl)).2.1 (j := 0) rfl kX6 (by decide) rfl q_300 dX11_judge_53 ?_
        refine lv_iconst (v := 0) C.1 C.2.1 dX11_judge_56 (by decide) ?_
        obtain ⟨x15, m16, r17, hf⟩ := bd2_s hf
        refine x_cv hW (x_runV C hW [.ref (ad (fr a0 2)), .ref (ad (fr z7 0)), .ref (ad (fr z9 0)), .int 0] [] (ha0.2.2.2.2.2.2.2.1).1 (ha0.2.2.2.2.2.2.2.1).2.1 kX7.1 kvX7_weigh q_566 (tX7_weigh l C.2.2.2.2.2.2.1 ha0.2.2.2.2.2.2.2.1 ha0.2.2.2.2.1 (((gX11_rowOf ha0 r3) z7 rfl).2.2) (((gX11_rowOf ha0 r6) z9 rfl).2.2) r17) rfl rfl ⟨by decide, by decide⟩ rfl hl.1 rfl (Nat.le_of_ble_eq_true rfl) dX11_judge_57) (fun H locs hW => ?_)
        refine lv_aload_n C.1 C.2.1 dX11_judge_60 rfl (lv_at hl 2 rfl) ?_
        refine lv_iconst (v := 2) C.1 C.2.1 dX11_judge_61 (by decide) ?_
        refine lv_aload_n C.1 C.2.1 dX11_judge_62 rfl (lv_at hl 2 rfl) ?_
        refine x_getr C hW (ha0).1 (ha0).2.1 (j := 2) rfl kX11 (by decide) rfl q_311 dX11_judge_63 ?_
        obtain ⟨x18, m19, r20, hf⟩ := bd2_s hf
        refine x_ci hW (x_runV C hW [] [.int 2, .ref (ad a0)] (ha0.2.2.2.2.1).1 (ha0.2.2.2.2.1).2.1 kX0.1 kvX0_worths q_593 (tX0_worths l C.2.2.2.2.2.2.1 ha0.2.2.2.2.1 r20) rfl rfl ⟨by decide, by decide⟩ rfl hl.1 rfl (Nat.le_of_ble_eq_true rfl) dX11_judge_66) (fun H locs hW => ?_)
        refine lv_imul C.1 C.2.1 dX11_judge_69 ?_
        refine lv_aload_n C.1 C.2.1 dX11_judge_70 rfl (lv_at hl 2 rfl) ?_
        refine x_getr C hW (ha0).1 (ha0).2.1 (j := 5) rfl kX11 (by decide) rfl q_314 dX11_judge_71 ?_
        refine x_geti C hW (ha0.2.2.2.2.2.2.2.1).1 (ha0.2.2.2.2.2.2.2.1).2.1 (j := 3) rfl kX7 (by decide) rfl q_146 dX11_judge_74 ?_
        refine lv_isub C.1 C.2.1 dX11_judge_77 ?_
        refine x_put C hW (ha0).1 (ha0).2.1 (j := 14) (t1 := .int) rfl kX11 (by decide) rfl rfl q_323 (by decide +kernel) rfl rfl dX11_judge_78 (fun H locs hW => ?_)
        obtain ⟨m21, em21⟩ : ∃ z, z = wr m19 a0 14 ((2 * x18) - (rd m19 (fr a0 5) 3)) := ⟨_, rfl⟩
        have hf := nm_s hf em21
        rw [← em21] at hW
        refine lv_aload_n C.1 C.2.1 dX11_judge_81 rfl (lv_at hl 2 rfl) ?_
        refine x_getr C hW (ha0).1 (ha0).2.1 (j := 5) rfl kX11 (by decide) rfl q_314 dX11_judge_82 ?_
        refine x_geti C hW (ha0.2.2.2.2.2.2.2.1).1 (ha0.2.2.2.2.2.2.2.1).2.1 (j := 3) rfl kX7 (by decide) rfl q_146 dX11_judge_85 ?_
        cases hf
        exact x_iret C hW dX11_judge_88
      · have hf := if_f c14 hf
        refine lv_bipush (v := (-3)) C.1 C.2.1 dX11_judge_36 (by decide) ?_
        cases hf
        exact x_iret C hW dX11_judge_38
set_option maxRecDepth 100000 in
set_option maxHeartbeats 4000000 in
theorem tX11_judge (l : Launch) {D : va_G} {ca ad : Nat → Nat} (hi : Inj ad) {N : Nat} {a0 : Nat} {a1 : Int32} {a2 : Int32} {mm : Mm} {res : Int32 × Mm} (ha0 : sX11 a0) (hf : fX11_judge N a0 a1 a2 mm = some res) : Met l yX11_judge (WS yX11_judge cX11_judge 5 (some .int)) (rmX11_judge) (va_Pc [.ref (ad a0), .int a1, .int a2] (WB D ca ad mm)) (QI D ca ad res) 0 0 (AA ad) := by
  refine x_start hi (by decide) rfl (Nat.le_of_ble_eq_true rfl) (fun p e s m args below meth c ls C hW hl => ?_)
  exact wX11_judge_0 C ha0 hW (lv_sub hl [0, 1, 2] rfl) hf
set_option maxRecDepth 100000 in
set_option maxHeartbeats 4000000 in
theorem wX11_who_0 (C : Cx p s m meth c args cX11_who 6 (some .int) RX11 D ca ad) {res : Int32 × Mm} {N : Nat}  {a0 : Nat} {a1 : Int32} {a2 : Int32} {a3 : Int32} {mm : Mm} {H : Heap} {locs : List Loc} {ls : Array Slot} (ha0 : sX11 a0) (hW : Wd D ca ad s.heap mm H locs) (hl : lv_has ls 6 [(0, .ref (ad a0)), (1, .int a1), (2, .int a2), (3, .int a3)]) (hf : fX11_who N a0 a1 a2 a3 mm = some res) : W p l e (rmX11_who) s m args below meth c H locs 0 0 (MQ below (QI D ca ad res) args s 0 0 (AA ad)) (F0 m 0 ls []) := by
  unfold fX11_who at hf
  refine lv_aload_n C.1 C.2.1 dX11_who_0 rfl (lv_at hl 0 rfl) ?_
  refine lv_iload_n C.1 C.2.1 dX11_who_1 rfl (lv_at hl 1 rfl) ?_
  obtain ⟨x1, m2, r3, hf⟩ := bd2_s hf
  refine x_cr hW (x_runV C hW [.int a1] [] (ha0).1 (ha0).2.1 kX11.1 kvX11_rowOf q_365 (tX11_rowOf l C.2.2.2.2.2.2.1 ha0 r3) rfl rfl ⟨by decide, by decide⟩ rfl hl.1 rfl (Nat.le_of_ble_eq_true rfl) dX11_who_2) (fun H locs hW => ?_)
  refine x_astore (lv' := [(4, va_re ad x1), (0, .ref (ad a0)), (1, .int a1), (2, .int a2), (3, .int a3)]) C dX11_who_5 hl (by decide) rfl (fun ls hl => ?_)
  refine lv_aload_n C.1 C.2.1 dX11_who_7 rfl (lv_at hl 1 rfl) ?_
  refine lv_iload_n C.1 C.2.1 dX11_who_8 rfl (lv_at hl 3 rfl) ?_
  obtain ⟨x4, m5, r6, hf⟩ := bd2_s hf
  refine x_cr hW (x_runV C hW [.int a2] [] (ha0).1 (ha0).2.1 kX11.1 kvX11_rowOf q_365 (tX11_rowOf l C.2.2.2.2.2.2.1 ha0 r6) rfl rfl ⟨by decide, by decide⟩ rfl hl.1 rfl (Nat.le_of_ble_eq_true rfl) dX11_who_9) (fun H locs hW => ?_)
  refine x_astore (lv' := [(5, va_re ad x4), (4, va_re ad x1), (0, .ref (ad a0)), (1, .int a1), (2, .int a2), (3, .int a3)]) C dX11_who_12 hl (by decide) (by cases x1 <;> rfl) (fun ls hl => ?_)
  refine x_aload C dX11_who_14 (lv_at hl 1 rfl) ?_
  refine x_ifnull C (tgt := 35) dX11_who_16 (by decide) (fun n8 => ?_) (fun z7 n8 => ?_)
  · subst n8
    have hf := cs_n hf
    refine lv_iconst (v := (-1)) C.1 C.2.1 dX11_who_35 (by decide) ?_
    cases hf
    exact x_iret C hW dX11_who_36
  · subst n8
    have hf := cs_q hf
    refine x_aload C dX11_who_19 (lv_at hl 0 rfl) ?_
    refine x_ifnull C (tgt := 35) dX11_who_21 (by decide) (fun n10 => ?_) (fun z9 n10 => ?_)
    · subst n10
      have hf := cs_n hf
      refine lv_iconst (v := (-1)) C.1 C.2.1 dX11_who_35 (by decide) ?_
      cases hf
      exact x_iret C hW dX11_who_36
    · subst n10
      have hf := cs_q hf
      refine lv_aload_n C.1 C.2.1 dX11_who_24 rfl (lv_at hl 2 rfl) ?_
      refine x_getr C hW (ha0).1 (ha0).2.1 (j := 2) rfl kX11 (by decide) rfl q_311 dX11_who_25 ?_
      refine lv_iload_n C.1 C.2.1 dX11_who_28 rfl (lv_at hl 5 rfl) ?_
      obtain ⟨x11, m12, r13, hf⟩ := bd2_s hf
      refine x_cr hW (x_runV C hW [.int a3] [] (ha0.2.2.2.2.1).1 (ha0.2.2.2.2.1).2.1 kX0.1 kvX0_suitOf q_493 (tX0_suitOf l C.2.2.2.2.2.2.1 ha0.2.2.2.2.1 r13) rfl rfl ⟨by decide, by decide⟩ rfl hl.1 rfl (Nat.le_of_ble_eq_true rfl) dX11_who_29) (fun H locs hW => ?_)
      refine x_ifnonnull C (tgt := 37) dX11_who_32 (by decide) (fun n15 => ?_) (fun z14 n15 => ?_)
      · subst n15
        have hf := cs_n hf
        refine lv_iconst (v := (-1)) C.1 C.2.1 dX11_who_35 (by decide) ?_
        cases hf
        exact x_iret C hW dX11_who_36
      · subst n15
        have hf := cs_q hf
        refine lv_aload_n C.1 C.2.1 dX11_who_37 rfl (lv_at hl 2 rfl) ?_
        refine lv_aload C.1 C.2.1 dX11_who_38 (lv_at hl 1 rfl) ?_
        refine lv_iconst (v := 0) C.1 C.2.1 dX11_who_40 (by decide) ?_
        refine lv_aload C.1 C.2.1 dX11_who_41 (lv_at hl 0 rfl) ?_
        refine lv_iconst (v := 1) C.1 C.2.1 dX11_who_43 (by decide) ?_
        obtain ⟨x16, m17, r18, hf⟩ := bd2_s hf
        refine x_ci hW (x_runV C hW [.ref (ad z7), .int 0, .ref (ad z9), .int 1] [] (ha0).1 (ha0).2.1 kX11.1 kvX11_isWrong_ q_549 (tX11_isWrong_ l C.2.2.2.2.2.2.1 ha0 ((gX11_rowOf ha0 r3) z7 rfl) ((gX11_rowOf ha0 r6) z9 rfl) r18) rfl rfl ⟨by decide, by decide⟩ rfl hl.1 rfl (Nat.le_of_ble_eq_true rfl) dX11_who_44) (fun H locs hW => ?_)
        refine lv_if_eq (tgt := 53) C.1 C.2.1 dX11_who_47 (by decide) (fun c19 => ?_) (fun c19 => ?_)
        · have hf := if_t c19 hf
          refine lv_aload_n C.1 C.2.1 dX11_who_53 rfl (lv_at hl 2 rfl) ?_
          refine x_getr C hW (ha0).1 (ha0).2.1 (j := 5) rfl kX11 (by decide) rfl q_314 dX11_who_54 ?_
          refine lv_aload_n C.1 C.2.1 dX11_who_57 rfl (lv_at hl 2 rfl) ?_
          refine x_getr C hW (ha0).1 (ha0).2.1 (j := 2) rfl kX11 (by decide) rfl q_311 dX11_who_58 ?_
          refine lv_aload C.1 C.2.1 dX11_who_61 (lv_at hl 1 rfl) ?_
          refine x_getr C hW (((gX11_rowOf ha0 r3) z7 rfl)).1 (((gX11_rowOf ha0 r3) z7 rfl)).2.1 (j := 0) rfl kX6 (by decide) rfl q_300 dX11_who_63 ?_
          refine lv_aload C.1 C.2.1 dX11_who_66 (lv_at hl 0 rfl) ?_
          refine x_getr C hW (((gX11_rowOf ha0 r6) z9 rfl)).1 (((gX11_rowOf ha0 r6) z9 rfl)).2.1 (j := 0) rfl kX6 (by decide) rfl q_300 dX11_who_68 ?_
          refine lv_iconst (v := 0) C.1 C.2.1 dX11_who_71 (by decide) ?_
          obtain ⟨x20, m21, r22, hf⟩ := bd2_s hf
          refine x_cv hW (x_runV C hW [.ref (ad (fr a0 2)), .ref (ad (fr z7 0)), .ref (ad (fr z9 0)), .int 0] [] (ha0.2.2.2.2.2.2.2.1).1 (ha0.2.2.2.2.2.2.2.1).2.1 kX7.1 kvX7_weigh q_566 (tX7_weigh l C.2.2.2.2.2.2.1 ha0.2.2.2.2.2.2.2.1 ha0.2.2.2.2.1 (((gX11_rowOf ha0 r3) z7 rfl).2.2) (((gX11_rowOf ha0 r6) z9 rfl).2.2) r22) rfl rfl ⟨by decide, by decide⟩ rfl hl.1 rfl (Nat.le_of_ble_eq_true rfl) dX11_who_72) (fun H locs hW => ?_)
          refine lv_aload_n C.1 C.2.1 dX11_who_75 rfl (lv_at hl 2 rfl) ?_
          refine lv_aload_n C.1 C.2.1 dX11_who_76 rfl (lv_at hl 2 rfl) ?_
          refine x_getr C hW (ha0).1 (ha0).2.1 (j := 5) rfl kX11 (by decide) rfl q_314 dX11_who_77 ?_
          refine x_getr C hW (ha0.2.2.2.2.2.2.2.1).1 (ha0.2.2.2.2.2.2.2.1).2.1 (j := 1) rfl kX7 (by decide) rfl q_142 dX11_who_80 ?_
          refine lv_iload_n C.1 C.2.1 dX11_who_83 rfl (lv_at hl 5 rfl) ?_
          obtain ⟨g23, hf⟩ := gd_s hf
          refine x_iald C hW ha0.2.2.2.2.2.2.2.1.2.2.2.1 g23 dX11_who_84 ?_
          refine x_put C hW (ha0).1 (ha0).2.1 (j := 14) (t1 := .int) rfl kX11 (by decide) rfl rfl q_323 (by decide +kernel) rfl rfl dX11_who_85 (fun H locs hW => ?_)
          obtain ⟨m24, em24⟩ : ∃ z, z = wr m21 a0 14 (rd m21 (fr (fr a0 5) 1) a3.toNatClampNeg) := ⟨_, rfl⟩
          have hf := nm_s hf em24
          rw [← em24] at hW
          refine lv_aload_n C.1 C.2.1 dX11_who_88 rfl (lv_at hl 2 rfl) ?_
          refine x_getr C hW (ha0).1 (ha0).2.1 (j := 5) rfl kX11 (by decide) rfl q_314 dX11_who_89 ?_
          refine x_getr C hW (ha0.2.2.2.2.2.2.2.1).1 (ha0.2.2.2.2.2.2.2.1).2.1 (j := 0) rfl kX7 (by decide) rfl q_140 dX11_who_92 ?_
          refine lv_iload_n C.1 C.2.1 dX11_who_95 rfl (lv_at hl 5 rfl) ?_
          obtain ⟨g25, hf⟩ := gd_s hf
          refine x_iald C hW ha0.2.2.2.2.2.2.2.1.2.2.1 g25 dX11_who_96 ?_
          refine lv_iconst (v := 2) C.1 C.2.1 dX11_who_97 (by decide) ?_
          refine lv_icmp_ne (tgt := 106) C.1 C.2.1 dX11_who_98 (by decide) (fun c26 => ?_) (fun c26 => ?_)
          · have hf := if_f c26 hf
            refine lv_aload_n C.1 C.2.1 dX11_who_106 rfl (lv_at hl 2 rfl) ?_
            refine x_getr C hW (ha0).1 (ha0).2.1 (j := 5) rfl kX11 (by decide) rfl q_314 dX11_who_107 ?_
            refine x_getr C hW (ha0.2.2.2.2.2.2.2.1).1 (ha0.2.2.2.2.2.2.2.1).2.1 (j := 0) rfl kX7 (by decide) rfl q_140 dX11_who_110 ?_
            refine lv_iload_n C.1 C.2.1 dX11_who_113 rfl (lv_at hl 5 rfl) ?_
            obtain ⟨g27, hf⟩ := gd_s hf
            refine x_iald C hW ha0.2.2.2.2.2.2.2.1.2.2.1 g27 dX11_who_114 ?_
            cases hf
            exact x_iret C hW dX11_who_115
          · have hf := if_t c26 hf
            refine lv_bipush (v := (-9)) C.1 C.2.1 dX11_who_101 (by decide) ?_
            refine lv_goto (tgt := 115) C.1 C.2.1 dX11_who_103 (by decide) ?_
            cases hf
            exact x_iret C hW dX11_who_115
        · have hf := if_f c19 hf
          refine lv_bipush (v := (-3)) C.1 C.2.1 dX11_who_50 (by decide) ?_
          cases hf
          exact x_iret C hW dX11_who_52
set_option maxRecDepth 100000 in
set_option maxHeartbeats 4000000 in
theorem tX11_who (l : Launch) {D : va_G} {ca ad : Nat → Nat} (hi : Inj ad) {N : Nat} {a0 : Nat} {a1 : Int32} {a2 : Int32} {a3 : Int32} {mm : Mm} {res : Int32 × Mm} (ha0 : sX11 a0) (hf : fX11_who N a0 a1 a2 a3 mm = some res) : Met l yX11_who (WS yX11_who cX11_who 6 (some .int)) (rmX11_who) (va_Pc [.ref (ad a0), .int a1, .int a2, .int a3] (WB D ca ad mm)) (QI D ca ad res) 0 0 (AA ad) := by
  refine x_start hi (by decide) rfl (Nat.le_of_ble_eq_true rfl) (fun p e s m args below meth c ls C hW hl => ?_)
  exact wX11_who_0 C ha0 hW (lv_sub hl [0, 1, 2, 3] rfl) hf
set_option maxRecDepth 100000 in
set_option maxHeartbeats 4000000 in
theorem wX11_isWrong_0 (C : Cx p s m meth c args cX11_isWrong 3 (some .boolean) RX11 D ca ad) {res : Int32 × Mm} {N : Nat}  {a0 : Nat} {a1 : Nat} {a2 : Int32} {mm : Mm} {H : Heap} {locs : List Loc} {ls : Array Slot} (ha0 : sX11 a0) (ha1 : sX6 a1) (hW : Wd D ca ad s.heap mm H locs) (hl : lv_has ls 3 [(0, .ref (ad a0)), (1, .ref (ad a1)), (2, .int a2)]) (hf : fX11_isWrong N a0 a1 a2 mm = some res) : W p l e (rmX11_isWrong) s m args below meth c H locs 0 0 (MQ below (QI D ca ad res) args s 0 0 (AA ad)) (F0 m 0 ls []) := by
  unfold fX11_isWrong at hf
  refine lv_aload_n C.1 C.2.1 dX11_isWrong_0 rfl (lv_at hl 0 rfl) ?_
  refine lv_aload_n C.1 C.2.1 dX11_isWrong_1 rfl (lv_at hl 1 rfl) ?_
  refine lv_iload_n C.1 C.2.1 dX11_isWrong_2 rfl (lv_at hl 2 rfl) ?_
  refine lv_aload_n C.1 C.2.1 dX11_isWrong_3 rfl (lv_at hl 1 rfl) ?_
  refine lv_iload_n C.1 C.2.1 dX11_isWrong_4 rfl (lv_at hl 2 rfl) ?_
  obtain ⟨x1, m2, r3, hf⟩ := bd2_s hf
  refine x_ci hW (x_runV C hW [.ref (ad a1), .int a2, .ref (ad a1), .int a2] [] (ha0).1 (ha0).2.1 kX11.1 kvX11_isWrong_ q_549 (tX11_isWrong_ l C.2.2.2.2.2.2.1 ha0 ha1 ha1 r3) rfl rfl ⟨by decide, by decide⟩ rfl hl.1 rfl (Nat.le_of_ble_eq_true rfl) dX11_isWrong_5) (fun H locs hW => ?_)
  obtain ⟨g4, hf⟩ := gd_s hf
  cases hf
  exact x_zret C hW (of_decide_eq_true g4) dX11_isWrong_8
set_option maxRecDepth 100000 in
set_option maxHeartbeats 4000000 in
theorem tX11_isWrong (l : Launch) {D : va_G} {ca ad : Nat → Nat} (hi : Inj ad) {N : Nat} {a0 : Nat} {a1 : Nat} {a2 : Int32} {mm : Mm} {res : Int32 × Mm} (ha0 : sX11 a0) (ha1 : sX6 a1) (hf : fX11_isWrong N a0 a1 a2 mm = some res) : Met l yX11_isWrong (WS yX11_isWrong cX11_isWrong 3 (some .boolean)) (rmX11_isWrong) (va_Pc [.ref (ad a0), .ref (ad a1), .int a2] (WB D ca ad mm)) (QI D ca ad res) 0 0 (AA ad) := by
  refine x_start hi (by decide) rfl (Nat.le_of_ble_eq_true rfl) (fun p e s m args below meth c ls C hW hl => ?_)
  exact wX11_isWrong_0 C ha0 ha1 hW (lv_sub hl [0, 1, 2] rfl) hf
set_option maxRecDepth 100000 in
set_option maxHeartbeats 4000000 in
theorem wX11_best_0 (C : Cx p s m meth c args cX11_best 5 (some .int) RX11 D ca ad) {res : Int32 × Mm} {N : Nat}  {a0 : Nat} {a1 : Int32} {a2 : Int32} {mm : Mm} {H : Heap} {locs : List Loc} {ls : Array Slot} (ha0 : sX11 a0) (hW : Wd D ca ad s.heap mm H locs) (hl : lv_has ls 5 [(0, .ref (ad a0)), (1, .int a1), (2, .int a2)]) (hf : fX11_best N a0 a1 a2 mm = some res) : W p l e (rmX11_best) s m args below meth c H locs 0 0 (MQ below (QI D ca ad res) args s 0 0 (AA ad)) (F0 m 0 ls []) := by
  unfold fX11_best at hf
  refine lv_aload_n C.1 C.2.1 dX11_best_0 rfl (lv_at hl 0 rfl) ?_
  refine lv_iload_n C.1 C.2.1 dX11_best_1 rfl (lv_at hl 1 rfl) ?_
  obtain ⟨x1, m2, r3, hf⟩ := bd2_s hf
  refine x_cr hW (x_runV C hW [.int a1] [] (ha0).1 (ha0).2.1 kX11.1 kvX11_rowOf q_365 (tX11_rowOf l C.2.2.2.2.2.2.1 ha0 r3) rfl rfl ⟨by decide, by decide⟩ rfl hl.1 rfl (Nat.le_of_ble_eq_true rfl) dX11_best_2) (fun H locs hW => ?_)
  refine x_astore_n (lv' := [(3, va_re ad x1), (0, .ref (ad a0)), (1, .int a1), (2, .int a2)]) C dX11_best_5 rfl hl (by decide) rfl (fun ls hl => ?_)
  refine lv_aload_n C.1 C.2.1 dX11_best_6 rfl (lv_at hl 1 rfl) ?_
  refine lv_iload_n C.1 C.2.1 dX11_best_7 rfl (lv_at hl 3 rfl) ?_
  obtain ⟨x4, m5, r6, hf⟩ := bd2_s hf
  refine x_cr hW (x_runV C hW [.int a2] [] (ha0).1 (ha0).2.1 kX11.1 kvX11_rowOf q_365 (tX11_rowOf l C.2.2.2.2.2.2.1 ha0 r6) rfl rfl ⟨by decide, by decide⟩ rfl hl.1 rfl (Nat.le_of_ble_eq_true rfl) dX11_best_8) (fun H locs hW => ?_)
  refine x_astore (lv' := [(4, va_re ad x4), (3, va_re ad x1), (0, .ref (ad a0)), (1, .int a1), (2, .int a2)]) C dX11_best_11 hl (by decide) (by cases x1 <;> rfl) (fun ls hl => ?_)
  refine x_aload_n C dX11_best_13 rfl (lv_at hl 1 rfl) ?_
  refine x_ifnull C (tgt := 22) dX11_best_14 (by decide) (fun n8 => ?_) (fun z7 n8 => ?_)
  · subst n8
    have hf := cs_n hf
    refine lv_iconst (v := (-1)) C.1 C.2.1 dX11_best_22 (by decide) ?_
    cases hf
    exact x_iret C hW dX11_best_23
  · subst n8
    have hf := cs_q hf
    refine x_aload C dX11_best_17 (lv_at hl 0 rfl) ?_
    refine x_ifnonnull C (tgt := 24) dX11_best_19 (by decide) (fun n10 => ?_) (fun z9 n10 => ?_)
    · subst n10
      have hf := cs_n hf
      refine lv_iconst (v := (-1)) C.1 C.2.1 dX11_best_22 (by decide) ?_
      cases hf
      exact x_iret C hW dX11_best_23
    · subst n10
      have hf := cs_q hf
      refine lv_aload_n C.1 C.2.1 dX11_best_24 rfl (lv_at hl 2 rfl) ?_
      refine lv_aload_n C.1 C.2.1 dX11_best_25 rfl (lv_at hl 1 rfl) ?_
      refine lv_iconst (v := 1) C.1 C.2.1 dX11_best_26 (by decide) ?_
      obtain ⟨x11, m12, r13, hf⟩ := bd2_s hf
      refine x_ci hW (x_runV C hW [.ref (ad z7), .int 1] [] (ha0).1 (ha0).2.1 kX11.1 kvX11_isWrong q_605 (tX11_isWrong l C.2.2.2.2.2.2.1 ha0 ((gX11_rowOf ha0 r3) z7 rfl) r13) rfl rfl ⟨by decide, by decide⟩ rfl hl.1 rfl (Nat.le_of_ble_eq_true rfl) dX11_best_27) (fun H locs hW => ?_)
      refine lv_if_eq (tgt := 36) C.1 C.2.1 dX11_best_30 (by decide) (fun c14 => ?_) (fun c14 => ?_)
      · have hf := if_t c14 hf
        refine lv_aload_n C.1 C.2.1 dX11_best_36 rfl (lv_at hl 2 rfl) ?_
        refine x_getr C hW (ha0).1 (ha0).2.1 (j := 7) rfl kX11 (by decide) rfl q_316 dX11_best_37 ?_
        refine lv_aload_n C.1 C.2.1 dX11_best_40 rfl (lv_at hl 2 rfl) ?_
        refine x_getr C hW (ha0).1 (ha0).2.1 (j := 2) rfl kX11 (by decide) rfl q_311 dX11_best_41 ?_
        refine lv_aload_n C.1 C.2.1 dX11_best_44 rfl (lv_at hl 2 rfl) ?_
        refine x_getr C hW (ha0).1 (ha0).2.1 (j := 2) rfl kX11 (by decide) rfl q_311 dX11_best_45 ?_
        refine x_geti C hW (ha0.2.2.2.2.1).1 (ha0.2.2.2.2.1).2.1 (j := 6) rfl kX0 (by decide) rfl q_78 dX11_best_48 ?_
        refine lv_aload_n C.1 C.2.1 dX11_best_51 rfl (lv_at hl 1 rfl) ?_
        refine x_getr C hW (((gX11_rowOf ha0 r3) z7 rfl)).1 (((gX11_rowOf ha0 r3) z7 rfl)).2.1 (j := 0) rfl kX6 (by decide) rfl q_300 dX11_best_52 ?_
        refine lv_aload_n C.1 C.2.1 dX11_best_55 rfl (lv_at hl 2 rfl) ?_
        refine x_getr C hW (ha0).1 (ha0).2.1 (j := 2) rfl kX11 (by decide) rfl q_311 dX11_best_56 ?_
        refine x_getr C hW (ha0.2.2.2.2.1).1 (ha0.2.2.2.2.1).2.1 (j := 1) rfl kX0 (by decide) rfl q_63 dX11_best_59 ?_
        refine lv_iconst (v := 0) C.1 C.2.1 dX11_best_62 (by decide) ?_
        obtain ⟨g15, hf⟩ := gd_s hf
        refine x_iald C hW ha0.2.2.2.2.1.2.2.2.1 g15 dX11_best_63 ?_
        obtain ⟨x16, m17, r18, hf⟩ := bd2_s hf
        refine x_cv hW (x_runV C hW [.ref (ad (fr a0 2)), .int (rd m12 (fr a0 2) 6), .ref (ad (fr z7 0)), .int (rd m12 (fr (fr a0 2) 1) ((0 : Int32).toNatClampNeg))] [] (ha0.2.2.2.2.2.2.2.2.2.1).1 (ha0.2.2.2.2.2.2.2.2.2.1).2.1 kX8.1 kvX8_run q_609 (tX8_run l C.2.2.2.2.2.2.1 ha0.2.2.2.2.2.2.2.2.2.1 ha0.2.2.2.2.1 (((gX11_rowOf ha0 r3) z7 rfl).2.2) r18) rfl rfl ⟨by decide, by decide⟩ rfl hl.1 rfl (Nat.le_of_ble_eq_true rfl) dX11_best_64) (fun H locs hW => ?_)
        refine lv_aload C.1 C.2.1 dX11_best_67 (lv_at hl 0 rfl) ?_
        refine lv_aload_n C.1 C.2.1 dX11_best_69 rfl (lv_at hl 2 rfl) ?_
        refine x_getr C hW (ha0).1 (ha0).2.1 (j := 7) rfl kX11 (by decide) rfl q_316 dX11_best_70 ?_
        refine x_getr C hW (ha0.2.2.2.2.2.2.2.2.2.1).1 (ha0.2.2.2.2.2.2.2.2.2.1).2.1 (j := 0) rfl kX8 (by decide) rfl q_183 dX11_best_73 ?_
        refine lv_aload_n C.1 C.2.1 dX11_best_76 rfl (lv_at hl 2 rfl) ?_
        refine x_getr C hW (ha0).1 (ha0).2.1 (j := 2) rfl kX11 (by decide) rfl q_311 dX11_best_77 ?_
        refine x_geti C hW (ha0.2.2.2.2.1).1 (ha0.2.2.2.2.1).2.1 (j := 5) rfl kX0 (by decide) rfl q_73 dX11_best_80 ?_
        obtain ⟨x19, m20, r21, hf⟩ := bd2_s hf
        refine x_cv hW (x_runV C hW [.ref (ad (fr (fr a0 7) 0)), .int (rd m17 (fr a0 2) 5)] [] (((gX11_rowOf ha0 r6) z9 rfl)).1 (((gX11_rowOf ha0 r6) z9 rfl)).2.1 kX6.1 kvX6_take q_644 (tX6_take l C.2.2.2.2.2.2.1 ((gX11_rowOf ha0 r6) z9 rfl) ha0.2.2.2.2.2.2.2.2.2.1.2.2.1 r21) rfl rfl ⟨by decide, by decide⟩ rfl hl.1 rfl (Nat.le_of_ble_eq_true rfl) dX11_best_83) (fun H locs hW => ?_)
        refine lv_aload_n C.1 C.2.1 dX11_best_86 rfl (lv_at hl 2 rfl) ?_
        refine lv_aload_n C.1 C.2.1 dX11_best_87 rfl (lv_at hl 2 rfl) ?_
        refine x_getr C hW (ha0).1 (ha0).2.1 (j := 7) rfl kX11 (by decide) rfl q_316 dX11_best_88 ?_
        refine x_geti C hW (ha0.2.2.2.2.2.2.2.2.2.1).1 (ha0.2.2.2.2.2.2.2.2.2.1).2.1 (j := 2) rfl kX8 (by decide) rfl q_187 dX11_best_91 ?_
        refine x_put C hW (ha0).1 (ha0).2.1 (j := 14) (t1 := .int) rfl kX11 (by decide) rfl rfl q_323 (by decide +kernel) rfl rfl dX11_best_94 (fun H locs hW => ?_)
        obtain ⟨m22, em22⟩ : ∃ z, z = wr m20 a0 14 (rd m20 (fr a0 7) 2) := ⟨_, rfl⟩
        have hf := nm_s hf em22
        rw [← em22] at hW
        refine lv_aload_n C.1 C.2.1 dX11_best_97 rfl (lv_at hl 2 rfl) ?_
        refine x_getr C hW (ha0).1 (ha0).2.1 (j := 7) rfl kX11 (by decide) rfl q_316 dX11_best_98 ?_
        refine x_geti C hW (ha0.2.2.2.2.2.2.2.2.2.1).1 (ha0.2.2.2.2.2.2.2.2.2.1).2.1 (j := 1) rfl kX8 (by decide) rfl q_185 dX11_best_101 ?_
        cases hf
        exact x_iret C hW dX11_best_104
      · have hf := if_f c14 hf
        refine lv_bipush (v := (-3)) C.1 C.2.1 dX11_best_33 (by decide) ?_
        cases hf
        exact x_iret C hW dX11_best_35
set_option maxRecDepth 100000 in
set_option maxHeartbeats 4000000 in
theorem tX11_best (l : Launch) {D : va_G} {ca ad : Nat → Nat} (hi : Inj ad) {N : Nat} {a0 : Nat} {a1 : Int32} {a2 : Int32} {mm : Mm} {res : Int32 × Mm} (ha0 : sX11 a0) (hf : fX11_best N a0 a1 a2 mm = some res) : Met l yX11_best (WS yX11_best cX11_best 5 (some .int)) (rmX11_best) (va_Pc [.ref (ad a0), .int a1, .int a2] (WB D ca ad mm)) (QI D ca ad res) 0 0 (AA ad) := by
  refine x_start hi (by decide) rfl (Nat.le_of_ble_eq_true rfl) (fun p e s m args below meth c ls C hW hl => ?_)
  exact wX11_best_0 C ha0 hW (lv_sub hl [0, 1, 2] rfl) hf
set_option maxRecDepth 100000 in
set_option maxHeartbeats 4000000 in
theorem wX11_fewest_0 (C : Cx p s m meth c args cX11_fewest 5 (some .int) RX11 D ca ad) {res : Int32 × Mm} {N : Nat}  {a0 : Nat} {a1 : Int32} {a2 : Int32} {mm : Mm} {H : Heap} {locs : List Loc} {ls : Array Slot} (ha0 : sX11 a0) (hW : Wd D ca ad s.heap mm H locs) (hl : lv_has ls 5 [(0, .ref (ad a0)), (1, .int a1), (2, .int a2)]) (hf : fX11_fewest N a0 a1 a2 mm = some res) : W p l e (rmX11_fewest) s m args below meth c H locs 0 0 (MQ below (QI D ca ad res) args s 0 0 (AA ad)) (F0 m 0 ls []) := by
  unfold fX11_fewest at hf
  refine lv_aload_n C.1 C.2.1 dX11_fewest_0 rfl (lv_at hl 0 rfl) ?_
  refine lv_iload_n C.1 C.2.1 dX11_fewest_1 rfl (lv_at hl 1 rfl) ?_
  obtain ⟨x1, m2, r3, hf⟩ := bd2_s hf
  refine x_cr hW (x_runV C hW [.int a1] [] (ha0).1 (ha0).2.1 kX11.1 kvX11_rowOf q_365 (tX11_rowOf l C.2.2.2.2.2.2.1 ha0 r3) rfl rfl ⟨by decide, by decide⟩ rfl hl.1 rfl (Nat.le_of_ble_eq_true rfl) dX11_fewest_2) (fun H locs hW => ?_)
  refine x_astore_n (lv' := [(3, va_re ad x1), (0, .ref (ad a0)), (1, .int a1), (2, .int a2)]) C dX11_fewest_5 rfl hl (by decide) rfl (fun ls hl => ?_)
  refine x_aload_n C dX11_fewest_6 rfl (lv_at hl 0 rfl) ?_
  refine x_ifnull C (tgt := 20) dX11_fewest_7 (by decide) (fun n5 => ?_) (fun z4 n5 => ?_)
  · subst n5
    have hf := cs_n hf
    refine lv_iconst (v := (-1)) C.1 C.2.1 dX11_fewest_20 (by decide) ?_
    cases hf
    exact x_iret C hW dX11_fewest_21
  · subst n5
    have hf := cs_q hf
    refine lv_iload_n C.1 C.2.1 dX11_fewest_10 rfl (lv_at hl 3 rfl) ?_
    refine lv_if_lt (tgt := 20) C.1 C.2.1 dX11_fewest_11 (by decide) (fun c6 => ?_) (fun c6 => ?_)
    · have hf := if_t c6 hf
      refine lv_iconst (v := (-1)) C.1 C.2.1 dX11_fewest_20 (by decide) ?_
      cases hf
      exact x_iret C hW dX11_fewest_21
    · have hf := if_f c6 hf
      refine lv_iload_n C.1 C.2.1 dX11_fewest_14 rfl (lv_at hl 3 rfl) ?_
      refine lv_bipush (v := 108) C.1 C.2.1 dX11_fewest_15 (by decide) ?_
      refine lv_icmp_le (tgt := 22) C.1 C.2.1 dX11_fewest_17 (by decide) (fun c7 => ?_) (fun c7 => ?_)
      · have hf := if_t c7 hf
        refine lv_aload_n C.1 C.2.1 dX11_fewest_22 rfl (lv_at hl 1 rfl) ?_
        refine lv_aload_n C.1 C.2.1 dX11_fewest_23 rfl (lv_at hl 0 rfl) ?_
        refine lv_iconst (v := 1) C.1 C.2.1 dX11_fewest_24 (by decide) ?_
        obtain ⟨x8, m9, r10, hf⟩ := bd2_s hf
        refine x_ci hW (x_runV C hW [.ref (ad z4), .int 1] [] (ha0).1 (ha0).2.1 kX11.1 kvX11_isWrong q_605 (tX11_isWrong l C.2.2.2.2.2.2.1 ha0 ((gX11_rowOf ha0 r3) z4 rfl) r10) rfl rfl ⟨by decide, by decide⟩ rfl hl.1 rfl (Nat.le_of_ble_eq_true rfl) dX11_fewest_25) (fun H locs hW => ?_)
        refine lv_if_eq (tgt := 34) C.1 C.2.1 dX11_fewest_28 (by decide) (fun c11 => ?_) (fun c11 => ?_)
        · have hf := if_t c11 hf
          refine lv_aload_n C.1 C.2.1 dX11_fewest_34 rfl (lv_at hl 1 rfl) ?_
          refine x_getr C hW (ha0).1 (ha0).2.1 (j := 7) rfl kX11 (by decide) rfl q_316 dX11_fewest_35 ?_
          refine lv_aload_n C.1 C.2.1 dX11_fewest_38 rfl (lv_at hl 1 rfl) ?_
          refine x_getr C hW (ha0).1 (ha0).2.1 (j := 2) rfl kX11 (by decide) rfl q_311 dX11_fewest_39 ?_
          refine lv_aload_n C.1 C.2.1 dX11_fewest_42 rfl (lv_at hl 1 rfl) ?_
          refine x_getr C hW (ha0).1 (ha0).2.1 (j := 2) rfl kX11 (by decide) rfl q_311 dX11_fewest_43 ?_
          refine x_geti C hW (ha0.2.2.2.2.1).1 (ha0.2.2.2.2.1).2.1 (j := 6) rfl kX0 (by decide) rfl q_78 dX11_fewest_46 ?_
          refine lv_aload_n C.1 C.2.1 dX11_fewest_49 rfl (lv_at hl 0 rfl) ?_
          refine x_getr C hW (((gX11_rowOf ha0 r3) z4 rfl)).1 (((gX11_rowOf ha0 r3) z4 rfl)).2.1 (j := 0) rfl kX6 (by decide) rfl q_300 dX11_fewest_50 ?_
          refine lv_sipush (v := 240) C.1 C.2.1 dX11_fewest_53 (by decide) ?_
          obtain ⟨x12, m13, r14, hf⟩ := bd2_s hf
          refine x_cv hW (x_runV C hW [.ref (ad (fr a0 2)), .int (rd m9 (fr a0 2) 6), .ref (ad (fr z4 0)), .int 240] [] (ha0.2.2.2.2.2.2.2.2.2.1).1 (ha0.2.2.2.2.2.2.2.2.2.1).2.1 kX8.1 kvX8_run q_609 (tX8_run l C.2.2.2.2.2.2.1 ha0.2.2.2.2.2.2.2.2.2.1 ha0.2.2.2.2.1 (((gX11_rowOf ha0 r3) z4 rfl).2.2) r14) rfl rfl ⟨by decide, by decide⟩ rfl hl.1 rfl (Nat.le_of_ble_eq_true rfl) dX11_fewest_56) (fun H locs hW => ?_)
          refine lv_aload_n C.1 C.2.1 dX11_fewest_59 rfl (lv_at hl 1 rfl) ?_
          refine x_getr C hW (ha0).1 (ha0).2.1 (j := 7) rfl kX11 (by decide) rfl q_316 dX11_fewest_60 ?_
          refine lv_iload_n C.1 C.2.1 dX11_fewest_63 rfl (lv_at hl 3 rfl) ?_
          obtain ⟨x15, m16, r17, hf⟩ := bd2_s hf
          refine x_ci hW (x_runV C hW [.int a2] [] (ha0.2.2.2.2.2.2.2.2.2.1).1 (ha0.2.2.2.2.2.2.2.2.2.1).2.1 kX8.1 kvX8_fewestFor q_655 (tX8_fewestFor l C.2.2.2.2.2.2.1 ha0.2.2.2.2.2.2.2.2.2.1 r17) rfl rfl ⟨by decide, by decide⟩ rfl hl.1 rfl (Nat.le_of_ble_eq_true rfl) dX11_fewest_64) (fun H locs hW => ?_)
          refine lv_istore (lv' := [(4, .int x15), (3, .ref (ad z4)), (0, .ref (ad a0)), (1, .int a1), (2, .int a2)]) C.1 C.2.1 dX11_fewest_67 hl (by decide) rfl (fun ls hl => ?_)
          refine lv_iload C.1 C.2.1 dX11_fewest_69 (lv_at hl 0 rfl) ?_
          refine lv_bipush (v := (-9)) C.1 C.2.1 dX11_fewest_71 (by decide) ?_
          refine lv_icmp_eq (tgt := 89) C.1 C.2.1 dX11_fewest_73 (by decide) (fun c18 => ?_) (fun c18 => ?_)
          · have hf := if_t c18 hf
            refine lv_iload C.1 C.2.1 dX11_fewest_89 (lv_at hl 0 rfl) ?_
            cases hf
            exact x_iret C hW dX11_fewest_91
          · have hf := if_f c18 hf
            refine lv_aload_n C.1 C.2.1 dX11_fewest_76 rfl (lv_at hl 2 rfl) ?_
            refine lv_aload_n C.1 C.2.1 dX11_fewest_77 rfl (lv_at hl 2 rfl) ?_
            refine x_getr C hW (ha0).1 (ha0).2.1 (j := 7) rfl kX11 (by decide) rfl q_316 dX11_fewest_78 ?_
            refine lv_iload C.1 C.2.1 dX11_fewest_81 (lv_at hl 0 rfl) ?_
            obtain ⟨x19, m20, r21, hf⟩ := bd2_s hf
            refine x_ci hW (x_runV C hW [.int x15] [.ref (ad a0)] (ha0.2.2.2.2.2.2.2.2.2.1).1 (ha0.2.2.2.2.2.2.2.2.2.1).2.1 kX8.1 kvX8_mostBy q_659 (tX8_mostBy l C.2.2.2.2.2.2.1 ha0.2.2.2.2.2.2.2.2.2.1 r21) rfl rfl ⟨by decide, by decide⟩ rfl hl.1 rfl (Nat.le_of_ble_eq_true rfl) dX11_fewest_83) (fun H locs hW => ?_)
            refine x_put C hW (ha0).1 (ha0).2.1 (j := 14) (t1 := .int) rfl kX11 (by decide) rfl rfl q_323 (by decide +kernel) rfl rfl dX11_fewest_86 (fun H locs hW => ?_)
            obtain ⟨m22, em22⟩ : ∃ z, z = wr m20 a0 14 x19 := ⟨_, rfl⟩
            have hf := nm_s hf em22
            rw [← em22] at hW
            refine lv_iload C.1 C.2.1 dX11_fewest_89 (lv_at hl 0 rfl) ?_
            cases hf
            exact x_iret C hW dX11_fewest_91
        · have hf := if_f c11 hf
          refine lv_bipush (v := (-3)) C.1 C.2.1 dX11_fewest_31 (by decide) ?_
          cases hf
          exact x_iret C hW dX11_fewest_33
      · have hf := if_f c7 hf
        refine lv_iconst (v := (-1)) C.1 C.2.1 dX11_fewest_20 (by decide) ?_
        cases hf
        exact x_iret C hW dX11_fewest_21
set_option maxRecDepth 100000 in
set_option maxHeartbeats 4000000 in
theorem tX11_fewest (l : Launch) {D : va_G} {ca ad : Nat → Nat} (hi : Inj ad) {N : Nat} {a0 : Nat} {a1 : Int32} {a2 : Int32} {mm : Mm} {res : Int32 × Mm} (ha0 : sX11 a0) (hf : fX11_fewest N a0 a1 a2 mm = some res) : Met l yX11_fewest (WS yX11_fewest cX11_fewest 5 (some .int)) (rmX11_fewest) (va_Pc [.ref (ad a0), .int a1, .int a2] (WB D ca ad mm)) (QI D ca ad res) 0 0 (AA ad) := by
  refine x_start hi (by decide) rfl (Nat.le_of_ble_eq_true rfl) (fun p e s m args below meth c ls C hW hl => ?_)
  exact wX11_fewest_0 C ha0 hW (lv_sub hl [0, 1, 2] rfl) hf
set_option maxRecDepth 100000 in
set_option maxHeartbeats 4000000 in
theorem wX11_fraction_47 (C : Cx p s m meth c args cX11_fraction 12 none RX11 D ca ad) {res : Unit × Mm} {N : Nat}  {a0 : Nat} {a1 : Int64} {a3 : Int64} {a5 : Int64} {mm : Mm} {H : Heap} {locs : List Loc} {ls : Array Slot} (ha0 : sX11 a0) (hW : Wd D ca ad s.heap mm H locs) (hl : lv_has ls 12 [(0, .ref (ad a0)), (1, .long a1), (3, .long a3), (5, .long a5)]) (hf : fX11_fraction_47 N a0 a1 a3 a5 mm = some res) : W p l e (rmX11_fraction) s m args below meth c H locs 0 0 (MQ below (QV D ca ad res) args s 0 0 (AA ad)) (F0 m 47 ls []) := by
  unfold fX11_fraction_47 at hf
  refine lv_lload C.1 C.2.1 dX11_fraction_47 (lv_at hl 3 rfl) ?_
  refine lv_lconst (v := 0) C.1 C.2.1 dX11_fraction_49 (by decide) ?_
  refine W.lcmp C.1 C.2.1 dX11_fraction_50 ?_
  refine lv_if_le (tgt := 70) C.1 C.2.1 dX11_fraction_51 (by decide) (fun c1 => ?_) (fun c1 => ?_)
  · have hf := if_t c1 hf
    cases hf
    exact x_vret C hW dX11_fraction_70
  · have hf := if_f c1 hf
    refine lv_aload_n C.1 C.2.1 dX11_fraction_54 rfl (lv_at hl 0 rfl) ?_
    refine lv_lload_n C.1 C.2.1 dX11_fraction_55 rfl (lv_at hl 1 rfl) ?_
    refine lv_lload C.1 C.2.1 dX11_fraction_56 (lv_at hl 3 rfl) ?_
    obtain ⟨g2, hf⟩ := gd_s hf
    refine lv_ldiv C.1 C.2.1 dX11_fraction_58 (of_decide_eq_true g2) ?_
    refine x_putL C hW (ha0).1 (ha0).2.1 (j := 15) rfl kX11 (by decide) rfl rfl q_324 (by decide +kernel) dX11_fraction_59 (fun H locs hW => ?_)
    obtain ⟨m3, em3⟩ : ∃ z, z = wrL mm a0 15 (a1 / a5) := ⟨_, rfl⟩
    have hf := nm_s hf em3
    rw [← em3] at hW
    refine lv_aload_n C.1 C.2.1 dX11_fraction_62 rfl (lv_at hl 0 rfl) ?_
    refine lv_lload_n C.1 C.2.1 dX11_fraction_63 rfl (lv_at hl 2 rfl) ?_
    refine lv_lload C.1 C.2.1 dX11_fraction_64 (lv_at hl 3 rfl) ?_
    obtain ⟨g4, hf⟩ := gd_s hf
    refine lv_ldiv C.1 C.2.1 dX11_fraction_66 (of_decide_eq_true g4) ?_
    refine x_putL C hW (ha0).1 (ha0).2.1 (j := 16) rfl kX11 (by decide) rfl rfl q_325 (by decide +kernel) dX11_fraction_67 (fun H locs hW => ?_)
    obtain ⟨m5, em5⟩ : ∃ z, z = wrL m3 a0 16 (a3 / a5) := ⟨_, rfl⟩
    have hf := nm_s hf em5
    rw [← em5] at hW
    cases hf
    exact x_vret C hW dX11_fraction_70
set_option maxRecDepth 100000 in
set_option maxHeartbeats 4000000 in
theorem wX11_fraction_12 (C : Cx p s m meth c args cX11_fraction 12 none RX11 D ca ad) {res : Unit × Mm} {N : Nat}  : ∀ (n : Nat) {a0 : Nat} {a1 : Int64} {a3 : Int64} {a5 : Int64} {a7 : Int64} {a9 : Int32} {mm : Mm} {H : Heap} {locs : List Loc} {ls : Array Slot}, (sX11 a0) → Wd D ca ad s.heap mm H locs → lv_has ls 12 [(0, .ref (ad a0)), (1, .long a1), (3, .long a3), (5, .long a5), (7, .long a7), (9, .int a9)] → fX11_fraction_12 N n a0 a1 a3 a5 a7 a9 mm = some res → W p l e (rmX11_fraction) s m args below meth c H locs 0 0 (MQ below (QV D ca ad res) args s 0 0 (AA ad)) (F0 m 12 ls []) := by
  intro n
  induction n with
  | zero => intro a0 a1 a3 a5 a7 a9 mm H locs ls ha0 hW hl hf; cases hf
  | succ n ih =>
    intro a0 a1 a3 a5 a7 a9 mm H locs ls ha0 hW hl hf
    have hk12 : ∀ (a0 : Nat) (a1 : Int64) (a3 : Int64) (a5 : Int64) (a7 : Int64) (a9 : Int32) (mm : Mm) (H : Heap) (locs : List Loc) (ls : Array Slot), (sX11 a0) → Wd D ca ad s.heap mm H locs → lv_has ls 12 [(0, .ref (ad a0)), (1, .long a1), (3, .long a3), (5, .long a5), (7, .long a7), (9, .int a9)] → (fX11_fraction_12 N n) a0 a1 a3 a5 a7 a9 mm = some res → W p l e (rmX11_fraction) s m args below meth c H locs 0 0 (MQ below (QV D ca ad res) args s 0 0 (AA ad)) (F0 m 12 ls []) := fun a0 a1 a3 a5 a7 a9 mm H locs ls ha0 hW hl hf => ih ha0 hW hl hf
    unfold fX11_fraction_12 at hf
    try dsimp only at hf
    refine lv_lload C.1 C.2.1 dX11_fraction_12 (lv_at hl 4 rfl) ?_
    refine lv_lconst (v := 0) C.1 C.2.1 dX11_fraction_14 (by decide) ?_
    refine W.lcmp C.1 C.2.1 dX11_fraction_15 ?_
    refine lv_if_eq (tgt := 47) C.1 C.2.1 dX11_fraction_16 (by decide) (fun c6 => ?_) (fun c6 => ?_)
    · have hf := if_t c6 hf
      exact wX11_fraction_47 C  ha0 hW (lv_sub hl [0, 1, 2, 3] rfl) hf
    · have hf := if_f c6 hf
      refine lv_iload C.1 C.2.1 dX11_fraction_19 (lv_at hl 5 rfl) ?_
      refine lv_ldc C.1 C.2.1 C.2.2.2.1 (C.2.2.2.2.1 _ q_674) dX11_fraction_21 ?_
      refine lv_icmp_ge (tgt := 47) C.1 C.2.1 dX11_fraction_23 (by decide) (fun c7 => ?_) (fun c7 => ?_)
      · have hf := if_t c7 hf
        exact wX11_fraction_47 C  ha0 hW (lv_sub hl [0, 1, 2, 3] rfl) hf
      · have hf := if_f c7 hf
        refine lv_lload C.1 C.2.1 dX11_fraction_26 (lv_at hl 3 rfl) ?_
        refine lv_lload C.1 C.2.1 dX11_fraction_28 (lv_at hl 4 rfl) ?_
        obtain ⟨g8, hf⟩ := gd_s hf
        refine lv_lrem C.1 C.2.1 dX11_fraction_30 (of_decide_eq_true g8) ?_
        refine lv_lstore (lv' := [(10, .long (a5 - a5 / a7 * a7)), (0, .ref (ad a0)), (1, .long a1), (3, .long a3), (5, .long a5), (7, .long a7), (9, .int a9)]) C.1 C.2.1 dX11_fraction_31 hl (by decide) rfl (fun ls hl => ?_)
        refine lv_lload C.1 C.2.1 dX11_fraction_33 (lv_at hl 5 rfl) ?_
        refine lv_lstore (lv' := [(5, .long a7), (10, .long (a5 - a5 / a7 * a7)), (0, .ref (ad a0)), (1, .long a1), (3, .long a3), (7, .long a7), (9, .int a9)]) C.1 C.2.1 dX11_fraction_35 hl (by decide) rfl (fun ls hl => ?_)
        refine lv_lload C.1 C.2.1 dX11_fraction_37 (lv_at hl 1 rfl) ?_
        refine lv_lstore (lv' := [(7, .long (a5 - a5 / a7 * a7)), (5, .long a7), (10, .long (a5 - a5 / a7 * a7)), (0, .ref (ad a0)), (1, .long a1), (3, .long a3), (9, .int a9)]) C.1 C.2.1 dX11_fraction_39 hl (by decide) rfl (fun ls hl => ?_)
        refine lv_iinc (v := (a9 + 1)) (lv' := [(9, .int (a9 + 1)), (7, .long (a5 - a5 / a7 * a7)), (5, .long a7), (10, .long (a5 - a5 / a7 * a7)), (0, .ref (ad a0)), (1, .long a1), (3, .long a3)]) C.1 C.2.1 dX11_fraction_41 hl (k := 6) rfl rfl (by decide) rfl (fun ls hl => ?_)
        refine lv_goto (tgt := 12) C.1 C.2.1 dX11_fraction_44 (by decide) ?_
        exact hk12 _ _ _ _ _ _ _ _ _ _ ha0 hW (lv_sub hl [4, 5, 6, 2, 1, 0] rfl) hf
set_option maxRecDepth 100000 in
set_option maxHeartbeats 4000000 in
theorem wX11_fraction_0 (C : Cx p s m meth c args cX11_fraction 12 none RX11 D ca ad) {res : Unit × Mm} {N : Nat}  {a0 : Nat} {a1 : Int64} {a3 : Int64} {mm : Mm} {H : Heap} {locs : List Loc} {ls : Array Slot} (ha0 : sX11 a0) (hW : Wd D ca ad s.heap mm H locs) (hl : lv_has ls 12 [(0, .ref (ad a0)), (1, .long a1), (3, .long a3)]) (hf : fX11_fraction N a0 a1 a3 mm = some res) : W p l e (rmX11_fraction) s m args below meth c H locs 0 0 (MQ below (QV D ca ad res) args s 0 0 (AA ad)) (F0 m 0 ls []) := by
  unfold fX11_fraction at hf
  refine lv_lload_n C.1 C.2.1 dX11_fraction_0 rfl (lv_at hl 1 rfl) ?_
  refine va_mabs_long C.1 C.2.1 (C.2.2.1.trans hl.1.symm) C.2.2.2.1 (C.2.2.2.2.1 _ q_683) (C.2.2.2.2.1 _ q_684) (C.2.2.2.2.1 _ q_16) (C.2.2.2.2.1 _ q_685) (by decide) (Nat.le_of_ble_eq_true rfl) (Nat.zero_le _) (Nat.zero_le _) dX11_fraction_1 ?_
  refine lv_topl (fun x9 ex9 => ?_)
  have hf := nm_s hf ex9
  refine lv_lstore (lv' := [(5, .long x9), (0, .ref (ad a0)), (1, .long a1), (3, .long a3)]) C.1 C.2.1 dX11_fraction_4 hl (by decide) rfl (fun ls hl => ?_)
  refine lv_lload_n C.1 C.2.1 dX11_fraction_6 rfl (lv_at hl 3 rfl) ?_
  refine lv_lstore (lv' := [(7, .long a3), (5, .long x9), (0, .ref (ad a0)), (1, .long a1), (3, .long a3)]) C.1 C.2.1 dX11_fraction_7 hl (by decide) rfl (fun ls hl => ?_)
  refine lv_iconst (v := 0) C.1 C.2.1 dX11_fraction_9 (by decide) ?_
  refine lv_istore (lv' := [(9, .int 0), (7, .long a3), (5, .long x9), (0, .ref (ad a0)), (1, .long a1), (3, .long a3)]) C.1 C.2.1 dX11_fraction_10 hl (by decide) rfl (fun ls hl => ?_)
  exact wX11_fraction_12 C  N ha0 hW (lv_sub hl [3, 4, 5, 2, 1, 0] rfl) hf
set_option maxRecDepth 100000 in
set_option maxHeartbeats 4000000 in
theorem tX11_fraction (l : Launch) {D : va_G} {ca ad : Nat → Nat} (hi : Inj ad) {N : Nat} {a0 : Nat} {a1 : Int64} {a3 : Int64} {mm : Mm} {res : Unit × Mm} (ha0 : sX11 a0) (hf : fX11_fraction N a0 a1 a3 mm = some res) : Met l yX11_fraction (WS yX11_fraction cX11_fraction 12 none) (rmX11_fraction) (va_Pc [.ref (ad a0), .long a1, .long a3] (WB D ca ad mm)) (QV D ca ad res) 0 0 (AA ad) := by
  refine x_start hi (by decide) rfl (Nat.le_of_ble_eq_true rfl) (fun p e s m args below meth c ls C hW hl => ?_)
  exact wX11_fraction_0 C ha0 hW (lv_sub hl [0, 1, 2] rfl) hf
end W_files16
