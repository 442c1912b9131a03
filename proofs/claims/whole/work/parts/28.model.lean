theorem dX12_areAlike_0 : decode cX12_areAlike 0 = .ok (.iconst 1, 1) := by decide +kernel
theorem dX12_areAlike_1 : decode cX12_areAlike 1 = .ok (.istore_n 3, 1) := by decide +kernel
theorem dX12_areAlike_2 : decode cX12_areAlike 2 = .ok (.iconst 0, 1) := by decide +kernel
theorem dX12_areAlike_3 : decode cX12_areAlike 3 = .ok (.istore 4, 2) := by decide +kernel
theorem dX12_areAlike_5 : decode cX12_areAlike 5 = .ok (.iload 4, 2) := by decide +kernel
theorem dX12_areAlike_7 : decode cX12_areAlike 7 = .ok (.aload_n 0, 1) := by decide +kernel
theorem dX12_areAlike_8 : decode cX12_areAlike 8 = .ok (.getfield 156, 3) := by decide +kernel
theorem dX12_areAlike_11 : decode cX12_areAlike 11 = .ok (.if_icmp .ge 46, 3) := by decide +kernel
theorem dX12_areAlike_14 : decode cX12_areAlike 14 = .ok (.iload_n 3, 1) := by decide +kernel
theorem dX12_areAlike_15 : decode cX12_areAlike 15 = .ok (.ifCond .eq 34, 3) := by decide +kernel
theorem dX12_areAlike_18 : decode cX12_areAlike 18 = .ok (.aload_n 0, 1) := by decide +kernel
theorem dX12_areAlike_19 : decode cX12_areAlike 19 = .ok (.getfield 68, 3) := by decide +kernel
theorem dX12_areAlike_22 : decode cX12_areAlike 22 = .ok (.bipush 6, 2) := by decide +kernel
theorem dX12_areAlike_24 : decode cX12_areAlike 24 = .ok (.iload_n 1, 1) := by decide +kernel
theorem dX12_areAlike_25 : decode cX12_areAlike 25 = .ok (.imul, 1) := by decide +kernel
theorem dX12_areAlike_26 : decode cX12_areAlike 26 = .ok (.iload 4, 2) := by decide +kernel
theorem dX12_areAlike_28 : decode cX12_areAlike 28 = .ok (.iadd, 1) := by decide +kernel
theorem dX12_areAlike_29 : decode cX12_areAlike 29 = .ok (.iaload, 1) := by decide +kernel
theorem dX12_areAlike_30 : decode cX12_areAlike 30 = .ok (.aload_n 0, 1) := by decide +kernel
theorem dX12_areAlike_31 : decode cX12_areAlike 31 = .ok (.getfield 68, 3) := by decide +kernel
theorem dX12_areAlike_34 : decode cX12_areAlike 34 = .ok (.bipush 6, 2) := by decide +kernel
theorem dX12_areAlike_36 : decode cX12_areAlike 36 = .ok (.iload_n 2, 1) := by decide +kernel
theorem dX12_areAlike_37 : decode cX12_areAlike 37 = .ok (.imul, 1) := by decide +kernel
theorem dX12_areAlike_38 : decode cX12_areAlike 38 = .ok (.iload 4, 2) := by decide +kernel
theorem dX12_areAlike_40 : decode cX12_areAlike 40 = .ok (.iadd, 1) := by decide +kernel
theorem dX12_areAlike_41 : decode cX12_areAlike 41 = .ok (.iaload, 1) := by decide +kernel
theorem dX12_areAlike_42 : decode cX12_areAlike 42 = .ok (.if_icmp .ne 7, 3) := by decide +kernel
theorem dX12_areAlike_45 : decode cX12_areAlike 45 = .ok (.iconst 1, 1) := by decide +kernel
theorem dX12_areAlike_46 : decode cX12_areAlike 46 = .ok (.goto 4, 3) := by decide +kernel
theorem dX12_areAlike_49 : decode cX12_areAlike 49 = .ok (.iconst 0, 1) := by decide +kernel
theorem dX12_areAlike_50 : decode cX12_areAlike 50 = .ok (.istore_n 3, 1) := by decide +kernel
theorem dX12_areAlike_51 : decode cX12_areAlike 51 = .ok (.iinc 4 1, 3) := by decide +kernel
theorem dX12_areAlike_54 : decode cX12_areAlike 54 = .ok (.goto (-49), 3) := by decide +kernel
theorem dX12_areAlike_57 : decode cX12_areAlike 57 = .ok (.iload_n 3, 1) := by decide +kernel
theorem dX12_areAlike_58 : decode cX12_areAlike 58 = .ok (.ireturn, 1) := by decide +kernel
theorem dX12_rules_0 : decode cX12_rules 0 = .ok (.aload_n 0, 1) := by decide +kernel
theorem dX12_rules_1 : decode cX12_rules 1 = .ok (.getfield 156, 3) := by decide +kernel
theorem dX12_rules_4 : decode cX12_rules 4 = .ok (.ifCond .ne 9, 3) := by decide +kernel
theorem dX12_rules_7 : decode cX12_rules 7 = .ok (.aload_n 0, 1) := by decide +kernel
theorem dX12_rules_8 : decode cX12_rules 8 = .ok (.iconst 4, 1) := by decide +kernel
theorem dX12_rules_9 : decode cX12_rules 9 = .ok (.invokevirtual 95, 3) := by decide +kernel
theorem dX12_rules_12 : decode cX12_rules 12 = .ok (.ireturn, 1) := by decide +kernel
theorem dX12_rules_13 : decode cX12_rules 13 = .ok (.aload_n 0, 1) := by decide +kernel
theorem dX12_rules_14 : decode cX12_rules 14 = .ok (.invokevirtual 327, 3) := by decide +kernel
theorem dX12_rules_17 : decode cX12_rules 17 = .ok (.istore_n 1, 1) := by decide +kernel
theorem dX12_rules_18 : decode cX12_rules 18 = .ok (.aload_n 0, 1) := by decide +kernel
theorem dX12_rules_19 : decode cX12_rules 19 = .ok (.invokevirtual 330, 3) := by decide +kernel
theorem dX12_rules_22 : decode cX12_rules 22 = .ok (.iconst 0, 1) := by decide +kernel
theorem dX12_rules_23 : decode cX12_rules 23 = .ok (.istore_n 2, 1) := by decide +kernel
theorem dX12_rules_24 : decode cX12_rules 24 = .ok (.iconst 0, 1) := by decide +kernel
theorem dX12_rules_25 : decode cX12_rules 25 = .ok (.istore_n 3, 1) := by decide +kernel
theorem dX12_rules_26 : decode cX12_rules 26 = .ok (.iload_n 3, 1) := by decide +kernel
theorem dX12_rules_27 : decode cX12_rules 27 = .ok (.bipush 6, 2) := by decide +kernel
theorem dX12_rules_29 : decode cX12_rules 29 = .ok (.if_icmp .ge 84, 3) := by decide +kernel
theorem dX12_rules_32 : decode cX12_rules 32 = .ok (.iload_n 1, 1) := by decide +kernel
theorem dX12_rules_33 : decode cX12_rules 33 = .ok (.iload_n 3, 1) := by decide +kernel
theorem dX12_rules_34 : decode cX12_rules 34 = .ok (.ishr, 1) := by decide +kernel
theorem dX12_rules_35 : decode cX12_rules 35 = .ok (.iconst 1, 1) := by decide +kernel
theorem dX12_rules_36 : decode cX12_rules 36 = .ok (.iand, 1) := by decide +kernel
theorem dX12_rules_37 : decode cX12_rules 37 = .ok (.iconst 1, 1) := by decide +kernel
theorem dX12_rules_38 : decode cX12_rules 38 = .ok (.if_icmp .ne 7, 3) := by decide +kernel
theorem dX12_rules_41 : decode cX12_rules 41 = .ok (.iconst 1, 1) := by decide +kernel
theorem dX12_rules_42 : decode cX12_rules 42 = .ok (.goto 4, 3) := by decide +kernel
theorem dX12_rules_45 : decode cX12_rules 45 = .ok (.iconst 0, 1) := by decide +kernel
theorem dX12_rules_46 : decode cX12_rules 46 = .ok (.istore 4, 2) := by decide +kernel
theorem dX12_rules_48 : decode cX12_rules 48 = .ok (.iconst 0, 1) := by decide +kernel
theorem dX12_rules_49 : decode cX12_rules 49 = .ok (.istore 5, 2) := by decide +kernel
theorem dX12_rules_51 : decode cX12_rules 51 = .ok (.iload 5, 2) := by decide +kernel
theorem dX12_rules_53 : decode cX12_rules 53 = .ok (.iload_n 3, 1) := by decide +kernel
theorem dX12_rules_54 : decode cX12_rules 54 = .ok (.if_icmp .ge 40, 3) := by decide +kernel
theorem dX12_rules_57 : decode cX12_rules 57 = .ok (.iload 4, 2) := by decide +kernel
theorem dX12_rules_59 : decode cX12_rules 59 = .ok (.ifCond .eq 26, 3) := by decide +kernel
theorem dX12_rules_62 : decode cX12_rules 62 = .ok (.iload_n 1, 1) := by decide +kernel
theorem dX12_rules_63 : decode cX12_rules 63 = .ok (.iload 5, 2) := by decide +kernel
theorem dX12_rules_65 : decode cX12_rules 65 = .ok (.ishr, 1) := by decide +kernel
theorem dX12_rules_66 : decode cX12_rules 66 = .ok (.iconst 1, 1) := by decide +kernel
theorem dX12_rules_67 : decode cX12_rules 67 = .ok (.iand, 1) := by decide +kernel
theorem dX12_rules_68 : decode cX12_rules 68 = .ok (.ifCond .eq 13, 3) := by decide +kernel
theorem dX12_rules_71 : decode cX12_rules 71 = .ok (.aload_n 0, 1) := by decide +kernel
theorem dX12_rules_72 : decode cX12_rules 72 = .ok (.iload_n 3, 1) := by decide +kernel
theorem dX12_rules_73 : decode cX12_rules 73 = .ok (.iload 5, 2) := by decide +kernel
theorem dX12_rules_75 : decode cX12_rules 75 = .ok (.invokevirtual 333, 3) := by decide +kernel
theorem dX12_rules_78 : decode cX12_rules 78 = .ok (.ifCond .ne 7, 3) := by decide +kernel
theorem dX12_rules_81 : decode cX12_rules 81 = .ok (.iconst 1, 1) := by decide +kernel
theorem dX12_rules_82 : decode cX12_rules 82 = .ok (.goto 4, 3) := by decide +kernel
theorem dX12_rules_85 : decode cX12_rules 85 = .ok (.iconst 0, 1) := by decide +kernel
theorem dX12_rules_86 : decode cX12_rules 86 = .ok (.istore 4, 2) := by decide +kernel
theorem dX12_rules_88 : decode cX12_rules 88 = .ok (.iinc 5 1, 3) := by decide +kernel
theorem dX12_rules_91 : decode cX12_rules 91 = .ok (.goto (-40), 3) := by decide +kernel
theorem dX12_rules_94 : decode cX12_rules 94 = .ok (.iload_n 2, 1) := by decide +kernel
theorem dX12_rules_95 : decode cX12_rules 95 = .ok (.iload 4, 2) := by decide +kernel
theorem dX12_rules_97 : decode cX12_rules 97 = .ok (.ifCond .eq 7, 3) := by decide +kernel
theorem dX12_rules_100 : decode cX12_rules 100 = .ok (.iconst 1, 1) := by decide +kernel
theorem dX12_rules_101 : decode cX12_rules 101 = .ok (.goto 4, 3) := by decide +kernel
theorem dX12_rules_104 : decode cX12_rules 104 = .ok (.iconst 0, 1) := by decide +kernel
theorem dX12_rules_105 : decode cX12_rules 105 = .ok (.iadd, 1) := by decide +kernel
theorem dX12_rules_106 : decode cX12_rules 106 = .ok (.istore_n 2, 1) := by decide +kernel
theorem dX12_rules_107 : decode cX12_rules 107 = .ok (.iinc 3 1, 3) := by decide +kernel
theorem dX12_rules_110 : decode cX12_rules 110 = .ok (.goto (-84), 3) := by decide +kernel
theorem dX12_rules_113 : decode cX12_rules 113 = .ok (.aload_n 0, 1) := by decide +kernel
theorem dX12_rules_114 : decode cX12_rules 114 = .ok (.iload_n 2, 1) := by decide +kernel
theorem dX12_rules_115 : decode cX12_rules 115 = .ok (.iload_n 1, 1) := by decide +kernel
theorem dX12_rules_116 : decode cX12_rules 116 = .ok (.invokevirtual 113, 3) := by decide +kernel
theorem dX12_rules_119 : decode cX12_rules 119 = .ok (.ireturn, 1) := by decide +kernel
theorem dX12_reply_0 : decode cX12_reply 0 = .ok (.iload_n 1, 1) := by decide +kernel
theorem dX12_reply_1 : decode cX12_reply 1 = .ok (.invokestatic 91, 3) := by decide +kernel
theorem dX12_reply_4 : decode cX12_reply 4 = .ok (.ifCond .ne 5, 3) := by decide +kernel
theorem dX12_reply_7 : decode cX12_reply 7 = .ok (.iconst (-1), 1) := by decide +kernel
theorem dX12_reply_8 : decode cX12_reply 8 = .ok (.ireturn, 1) := by decide +kernel
theorem dX12_reply_9 : decode cX12_reply 9 = .ok (.aload_n 0, 1) := by decide +kernel
theorem dX12_reply_10 : decode cX12_reply 10 = .ok (.getfield 156, 3) := by decide +kernel
theorem dX12_reply_13 : decode cX12_reply 13 = .ok (.ifCond .ne 9, 3) := by decide +kernel
theorem dX12_reply_16 : decode cX12_reply 16 = .ok (.aload_n 0, 1) := by decide +kernel
theorem dX12_reply_17 : decode cX12_reply 17 = .ok (.iconst 4, 1) := by decide +kernel
theorem dX12_reply_18 : decode cX12_reply 18 = .ok (.invokevirtual 95, 3) := by decide +kernel
theorem dX12_reply_21 : decode cX12_reply 21 = .ok (.ireturn, 1) := by decide +kernel
theorem dX12_reply_22 : decode cX12_reply 22 = .ok (.aload_n 0, 1) := by decide +kernel
theorem dX12_reply_23 : decode cX12_reply 23 = .ok (.invokevirtual 327, 3) := by decide +kernel
theorem dX12_reply_26 : decode cX12_reply 26 = .ok (.istore_n 2, 1) := by decide +kernel
theorem dX12_reply_27 : decode cX12_reply 27 = .ok (.iload_n 2, 1) := by decide +kernel
theorem dX12_reply_28 : decode cX12_reply 28 = .ok (.ifCond .ne 6, 3) := by decide +kernel
theorem dX12_reply_31 : decode cX12_reply 31 = .ok (.bipush (-9), 2) := by decide +kernel
theorem dX12_reply_33 : decode cX12_reply 33 = .ok (.ireturn, 1) := by decide +kernel
theorem dX12_reply_34 : decode cX12_reply 34 = .ok (.iconst 0, 1) := by decide +kernel
theorem dX12_reply_35 : decode cX12_reply 35 = .ok (.istore_n 3, 1) := by decide +kernel
theorem dX12_reply_36 : decode cX12_reply 36 = .ok (.iload_n 2, 1) := by decide +kernel
theorem dX12_reply_37 : decode cX12_reply 37 = .ok (.iload_n 3, 1) := by decide +kernel
theorem dX12_reply_38 : decode cX12_reply 38 = .ok (.ishr, 1) := by decide +kernel
theorem dX12_reply_39 : decode cX12_reply 39 = .ok (.iconst 1, 1) := by decide +kernel
theorem dX12_reply_40 : decode cX12_reply 40 = .ok (.iand, 1) := by decide +kernel
theorem dX12_reply_41 : decode cX12_reply 41 = .ok (.ifCond .ne 9, 3) := by decide +kernel
theorem dX12_reply_44 : decode cX12_reply 44 = .ok (.iinc 3 1, 3) := by decide +kernel
theorem dX12_reply_47 : decode cX12_reply 47 = .ok (.goto (-11), 3) := by decide +kernel
theorem dX12_reply_50 : decode cX12_reply 50 = .ok (.aload_n 0, 1) := by decide +kernel
theorem dX12_reply_51 : decode cX12_reply 51 = .ok (.iload_n 3, 1) := by decide +kernel
theorem dX12_reply_52 : decode cX12_reply 52 = .ok (.aload_n 0, 1) := by decide +kernel
theorem dX12_reply_53 : decode cX12_reply 53 = .ok (.getfield 162, 3) := by decide +kernel
theorem dX12_reply_56 : decode cX12_reply 56 = .ok (.invokevirtual 318, 3) := by decide +kernel
theorem dX12_reply_59 : decode cX12_reply 59 = .ok (.aload_n 0, 1) := by decide +kernel
theorem dX12_reply_60 : decode cX12_reply 60 = .ok (.aload_n 0, 1) := by decide +kernel
theorem dX12_reply_61 : decode cX12_reply 61 = .ok (.getfield 35, 3) := by decide +kernel
theorem dX12_reply_64 : decode cX12_reply 64 = .ok (.iconst 0, 1) := by decide +kernel
theorem dX12_reply_65 : decode cX12_reply 65 = .ok (.iaload, 1) := by decide +kernel
theorem dX12_reply_66 : decode cX12_reply 66 = .ok (.invokevirtual 232, 3) := by decide +kernel
theorem dX12_reply_69 : decode cX12_reply 69 = .ok (.aload_n 0, 1) := by decide +kernel
theorem dX12_reply_70 : decode cX12_reply 70 = .ok (.iload_n 1, 1) := by decide +kernel
theorem dX12_reply_71 : decode cX12_reply 71 = .ok (.invokevirtual 236, 3) := by decide +kernel
theorem dX12_reply_74 : decode cX12_reply 74 = .ok (.aload_n 0, 1) := by decide +kernel
theorem dX12_reply_75 : decode cX12_reply 75 = .ok (.iload_n 3, 1) := by decide +kernel
theorem dX12_reply_76 : decode cX12_reply 76 = .ok (.aload_n 0, 1) := by decide +kernel
theorem dX12_reply_77 : decode cX12_reply 77 = .ok (.getfield 208, 3) := by decide +kernel
theorem dX12_reply_80 : decode cX12_reply 80 = .ok (.invokevirtual 113, 3) := by decide +kernel
theorem dX12_reply_83 : decode cX12_reply 83 = .ok (.ireturn, 1) := by decide +kernel
theorem dX12_setsBy_0 : decode cX12_setsBy 0 = .ok (.iconst 0, 1) := by decide +kernel
theorem dX12_setsBy_1 : decode cX12_setsBy 1 = .ok (.istore_n 2, 1) := by decide +kernel
theorem dX12_setsBy_2 : decode cX12_setsBy 2 = .ok (.iconst 0, 1) := by decide +kernel
theorem dX12_setsBy_3 : decode cX12_setsBy 3 = .ok (.istore_n 3, 1) := by decide +kernel
theorem dX12_setsBy_4 : decode cX12_setsBy 4 = .ok (.iload_n 3, 1) := by decide +kernel
theorem dX12_setsBy_5 : decode cX12_setsBy 5 = .ok (.bipush 6, 2) := by decide +kernel
theorem dX12_setsBy_7 : decode cX12_setsBy 7 = .ok (.if_icmp .ge 141, 3) := by decide +kernel
theorem dX12_setsBy_10 : decode cX12_setsBy 10 = .ok (.iconst 0, 1) := by decide +kernel
theorem dX12_setsBy_11 : decode cX12_setsBy 11 = .ok (.istore 4, 2) := by decide +kernel
theorem dX12_setsBy_13 : decode cX12_setsBy 13 = .ok (.iload 4, 2) := by decide +kernel
theorem dX12_setsBy_15 : decode cX12_setsBy 15 = .ok (.aload_n 0, 1) := by decide +kernel
theorem dX12_setsBy_16 : decode cX12_setsBy 16 = .ok (.getfield 156, 3) := by decide +kernel
theorem dX12_setsBy_19 : decode cX12_setsBy 19 = .ok (.if_icmp .ge 28, 3) := by decide +kernel
theorem dX12_setsBy_22 : decode cX12_setsBy 22 = .ok (.aload_n 0, 1) := by decide +kernel
theorem dX12_setsBy_23 : decode cX12_setsBy 23 = .ok (.getfield 44, 3) := by decide +kernel
theorem dX12_setsBy_26 : decode cX12_setsBy 26 = .ok (.iload 4, 2) := by decide +kernel
theorem dX12_setsBy_28 : decode cX12_setsBy 28 = .ok (.aload_n 0, 1) := by decide +kernel
theorem dX12_setsBy_29 : decode cX12_setsBy 29 = .ok (.getfield 68, 3) := by decide +kernel
theorem dX12_setsBy_32 : decode cX12_setsBy 32 = .ok (.bipush 6, 2) := by decide +kernel
theorem dX12_setsBy_34 : decode cX12_setsBy 34 = .ok (.iload_n 3, 1) := by decide +kernel
theorem dX12_setsBy_35 : decode cX12_setsBy 35 = .ok (.imul, 1) := by decide +kernel
theorem dX12_setsBy_36 : decode cX12_setsBy 36 = .ok (.iload 4, 2) := by decide +kernel
theorem dX12_setsBy_38 : decode cX12_setsBy 38 = .ok (.iadd, 1) := by decide +kernel
theorem dX12_setsBy_39 : decode cX12_setsBy 39 = .ok (.iaload, 1) := by decide +kernel
theorem dX12_setsBy_40 : decode cX12_setsBy 40 = .ok (.iastore, 1) := by decide +kernel
theorem dX12_setsBy_41 : decode cX12_setsBy 41 = .ok (.iinc 4 1, 3) := by decide +kernel
theorem dX12_setsBy_44 : decode cX12_setsBy 44 = .ok (.goto (-31), 3) := by decide +kernel
theorem dX12_setsBy_47 : decode cX12_setsBy 47 = .ok (.aload_n 0, 1) := by decide +kernel
theorem dX12_setsBy_48 : decode cX12_setsBy 48 = .ok (.invokevirtual 202, 3) := by decide +kernel
theorem dX12_setsBy_51 : decode cX12_setsBy 51 = .ok (.aload_n 0, 1) := by decide +kernel
theorem dX12_setsBy_52 : decode cX12_setsBy 52 = .ok (.getfield 71, 3) := by decide +kernel
theorem dX12_setsBy_55 : decode cX12_setsBy 55 = .ok (.iload_n 3, 1) := by decide +kernel
theorem dX12_setsBy_56 : decode cX12_setsBy 56 = .ok (.aload_n 0, 1) := by decide +kernel
theorem dX12_setsBy_57 : decode cX12_setsBy 57 = .ok (.invokevirtual 321, 3) := by decide +kernel
theorem dX12_setsBy_60 : decode cX12_setsBy 60 = .ok (.iastore, 1) := by decide +kernel
theorem dX12_setsBy_61 : decode cX12_setsBy 61 = .ok (.iload_n 1, 1) := by decide +kernel
theorem dX12_setsBy_62 : decode cX12_setsBy 62 = .ok (.iload_n 3, 1) := by decide +kernel
theorem dX12_setsBy_63 : decode cX12_setsBy 63 = .ok (.ishr, 1) := by decide +kernel
theorem dX12_setsBy_64 : decode cX12_setsBy 64 = .ok (.iconst 1, 1) := by decide +kernel
theorem dX12_setsBy_65 : decode cX12_setsBy 65 = .ok (.iand, 1) := by decide +kernel
theorem dX12_setsBy_66 : decode cX12_setsBy 66 = .ok (.iconst 1, 1) := by decide +kernel
theorem dX12_setsBy_67 : decode cX12_setsBy 67 = .ok (.if_icmp .ne 7, 3) := by decide +kernel
theorem dX12_setsBy_70 : decode cX12_setsBy 70 = .ok (.iconst 1, 1) := by decide +kernel
theorem dX12_setsBy_71 : decode cX12_setsBy 71 = .ok (.goto 4, 3) := by decide +kernel
theorem dX12_setsBy_74 : decode cX12_setsBy 74 = .ok (.iconst 0, 1) := by decide +kernel
theorem dX12_setsBy_75 : decode cX12_setsBy 75 = .ok (.istore 4, 2) := by decide +kernel
theorem dX12_setsBy_77 : decode cX12_setsBy 77 = .ok (.iconst 0, 1) := by decide +kernel
theorem dX12_setsBy_78 : decode cX12_setsBy 78 = .ok (.istore 5, 2) := by decide +kernel
theorem dX12_setsBy_80 : decode cX12_setsBy 80 = .ok (.iload 5, 2) := by decide +kernel
theorem dX12_setsBy_82 : decode cX12_setsBy 82 = .ok (.iload_n 3, 1) := by decide +kernel
theorem dX12_setsBy_83 : decode cX12_setsBy 83 = .ok (.if_icmp .ge 46, 3) := by decide +kernel
theorem dX12_setsBy_86 : decode cX12_setsBy 86 = .ok (.iload 4, 2) := by decide +kernel
theorem dX12_setsBy_88 : decode cX12_setsBy 88 = .ok (.ifCond .eq 32, 3) := by decide +kernel
theorem dX12_setsBy_91 : decode cX12_setsBy 91 = .ok (.iload_n 1, 1) := by decide +kernel
theorem dX12_setsBy_92 : decode cX12_setsBy 92 = .ok (.iload 5, 2) := by decide +kernel
theorem dX12_setsBy_94 : decode cX12_setsBy 94 = .ok (.ishr, 1) := by decide +kernel
theorem dX12_setsBy_95 : decode cX12_setsBy 95 = .ok (.iconst 1, 1) := by decide +kernel
theorem dX12_setsBy_96 : decode cX12_setsBy 96 = .ok (.iand, 1) := by decide +kernel
theorem dX12_setsBy_97 : decode cX12_setsBy 97 = .ok (.ifCond .eq 19, 3) := by decide +kernel
theorem dX12_setsBy_100 : decode cX12_setsBy 100 = .ok (.aload_n 0, 1) := by decide +kernel
theorem dX12_setsBy_101 : decode cX12_setsBy 101 = .ok (.getfield 71, 3) := by decide +kernel
theorem dX12_setsBy_104 : decode cX12_setsBy 104 = .ok (.iload 5, 2) := by decide +kernel
theorem dX12_setsBy_106 : decode cX12_setsBy 106 = .ok (.iaload, 1) := by decide +kernel
theorem dX12_setsBy_107 : decode cX12_setsBy 107 = .ok (.aload_n 0, 1) := by decide +kernel
theorem dX12_setsBy_108 : decode cX12_setsBy 108 = .ok (.getfield 71, 3) := by decide +kernel
theorem dX12_setsBy_111 : decode cX12_setsBy 111 = .ok (.iload_n 3, 1) := by decide +kernel
theorem dX12_setsBy_112 : decode cX12_setsBy 112 = .ok (.iaload, 1) := by decide +kernel
theorem dX12_setsBy_113 : decode cX12_setsBy 113 = .ok (.if_icmp .eq 7, 3) := by decide +kernel
theorem dX12_setsBy_116 : decode cX12_setsBy 116 = .ok (.iconst 1, 1) := by decide +kernel
theorem dX12_setsBy_117 : decode cX12_setsBy 117 = .ok (.goto 4, 3) := by decide +kernel
theorem dX12_setsBy_120 : decode cX12_setsBy 120 = .ok (.iconst 0, 1) := by decide +kernel
theorem dX12_setsBy_121 : decode cX12_setsBy 121 = .ok (.istore 4, 2) := by decide +kernel
theorem dX12_setsBy_123 : decode cX12_setsBy 123 = .ok (.iinc 5 1, 3) := by decide +kernel
theorem dX12_setsBy_126 : decode cX12_setsBy 126 = .ok (.goto (-46), 3) := by decide +kernel
theorem dX12_setsBy_129 : decode cX12_setsBy 129 = .ok (.iload_n 2, 1) := by decide +kernel
theorem dX12_setsBy_130 : decode cX12_setsBy 130 = .ok (.iload 4, 2) := by decide +kernel
theorem dX12_setsBy_132 : decode cX12_setsBy 132 = .ok (.ifCond .eq 7, 3) := by decide +kernel
theorem dX12_setsBy_135 : decode cX12_setsBy 135 = .ok (.iconst 1, 1) := by decide +kernel
theorem dX12_setsBy_136 : decode cX12_setsBy 136 = .ok (.goto 4, 3) := by decide +kernel
theorem dX12_setsBy_139 : decode cX12_setsBy 139 = .ok (.iconst 0, 1) := by decide +kernel
theorem dX12_setsBy_140 : decode cX12_setsBy 140 = .ok (.iadd, 1) := by decide +kernel
theorem dX12_setsBy_141 : decode cX12_setsBy 141 = .ok (.istore_n 2, 1) := by decide +kernel
theorem dX12_setsBy_142 : decode cX12_setsBy 142 = .ok (.iinc 3 1, 3) := by decide +kernel
theorem dX12_setsBy_145 : decode cX12_setsBy 145 = .ok (.goto (-141), 3) := by decide +kernel
theorem dX12_setsBy_148 : decode cX12_setsBy 148 = .ok (.iload_n 2, 1) := by decide +kernel
theorem dX12_setsBy_149 : decode cX12_setsBy 149 = .ok (.ireturn, 1) := by decide +kernel
theorem dX12_tell_0 : decode cX12_tell 0 = .ok (.iload_n 1, 1) := by decide +kernel
theorem dX12_tell_1 : decode cX12_tell 1 = .ok (.invokestatic 91, 3) := by decide +kernel
theorem dX12_tell_4 : decode cX12_tell 4 = .ok (.ifCond .ne 5, 3) := by decide +kernel
theorem dX12_tell_7 : decode cX12_tell 7 = .ok (.iconst (-1), 1) := by decide +kernel
theorem dX12_tell_8 : decode cX12_tell 8 = .ok (.ireturn, 1) := by decide +kernel
theorem dX12_tell_9 : decode cX12_tell 9 = .ok (.aload_n 0, 1) := by decide +kernel
theorem dX12_tell_10 : decode cX12_tell 10 = .ok (.getfield 35, 3) := by decide +kernel
theorem dX12_tell_13 : decode cX12_tell 13 = .ok (.iconst 0, 1) := by decide +kernel
theorem dX12_tell_14 : decode cX12_tell 14 = .ok (.iaload, 1) := by decide +kernel
theorem dX12_tell_15 : decode cX12_tell 15 = .ok (.bipush 10, 2) := by decide +kernel
theorem dX12_tell_17 : decode cX12_tell 17 = .ok (.if_icmp .gt 11, 3) := by decide +kernel
theorem dX12_tell_20 : decode cX12_tell 20 = .ok (.aload_n 0, 1) := by decide +kernel
theorem dX12_tell_21 : decode cX12_tell 21 = .ok (.getfield 156, 3) := by decide +kernel
theorem dX12_tell_24 : decode cX12_tell 24 = .ok (.iconst 4, 1) := by decide +kernel
theorem dX12_tell_25 : decode cX12_tell 25 = .ok (.if_icmp .le 6, 3) := by decide +kernel
theorem dX12_tell_28 : decode cX12_tell 28 = .ok (.bipush (-6), 2) := by decide +kernel
theorem dX12_tell_30 : decode cX12_tell 30 = .ok (.ireturn, 1) := by decide +kernel
theorem dX12_tell_31 : decode cX12_tell 31 = .ok (.aload_n 0, 1) := by decide +kernel
theorem dX12_tell_32 : decode cX12_tell 32 = .ok (.getfield 156, 3) := by decide +kernel
theorem dX12_tell_35 : decode cX12_tell 35 = .ok (.ifCond .ne 9, 3) := by decide +kernel
theorem dX12_tell_38 : decode cX12_tell 38 = .ok (.aload_n 0, 1) := by decide +kernel
theorem dX12_tell_39 : decode cX12_tell 39 = .ok (.iconst 4, 1) := by decide +kernel
theorem dX12_tell_40 : decode cX12_tell 40 = .ok (.invokevirtual 95, 3) := by decide +kernel
theorem dX12_tell_43 : decode cX12_tell 43 = .ok (.ireturn, 1) := by decide +kernel
theorem dX12_tell_44 : decode cX12_tell 44 = .ok (.aload_n 0, 1) := by decide +kernel
theorem dX12_tell_45 : decode cX12_tell 45 = .ok (.invokevirtual 327, 3) := by decide +kernel
theorem dX12_tell_48 : decode cX12_tell 48 = .ok (.istore_n 2, 1) := by decide +kernel
theorem dX12_tell_49 : decode cX12_tell 49 = .ok (.aload_n 0, 1) := by decide +kernel
theorem dX12_tell_50 : decode cX12_tell 50 = .ok (.invokevirtual 330, 3) := by decide +kernel
theorem dX12_tell_53 : decode cX12_tell 53 = .ok (.iconst (-1), 1) := by decide +kernel
theorem dX12_tell_54 : decode cX12_tell 54 = .ok (.istore_n 3, 1) := by decide +kernel
theorem dX12_tell_55 : decode cX12_tell 55 = .ok (.aload_n 0, 1) := by decide +kernel
theorem dX12_tell_56 : decode cX12_tell 56 = .ok (.invokevirtual 251, 3) := by decide +kernel
theorem dX12_tell_59 : decode cX12_tell 59 = .ok (.aload_n 0, 1) := by decide +kernel
theorem dX12_tell_60 : decode cX12_tell 60 = .ok (.iconst 0, 1) := by decide +kernel
theorem dX12_tell_61 : decode cX12_tell 61 = .ok (.invokevirtual 254, 3) := by decide +kernel
theorem dX12_tell_64 : decode cX12_tell 64 = .ok (.aload_n 0, 1) := by decide +kernel
theorem dX12_tell_65 : decode cX12_tell 65 = .ok (.iload_n 2, 1) := by decide +kernel
theorem dX12_tell_66 : decode cX12_tell 66 = .ok (.invokevirtual 336, 3) := by decide +kernel
theorem dX12_tell_69 : decode cX12_tell 69 = .ok (.istore 4, 2) := by decide +kernel
theorem dX12_tell_71 : decode cX12_tell 71 = .ok (.iload 4, 2) := by decide +kernel
theorem dX12_tell_73 : decode cX12_tell 73 = .ok (.iload_n 3, 1) := by decide +kernel
theorem dX12_tell_74 : decode cX12_tell 74 = .ok (.if_icmp .le 38, 3) := by decide +kernel
theorem dX12_tell_77 : decode cX12_tell 77 = .ok (.iload 4, 2) := by decide +kernel
theorem dX12_tell_79 : decode cX12_tell 79 = .ok (.istore_n 3, 1) := by decide +kernel
theorem dX12_tell_80 : decode cX12_tell 80 = .ok (.iconst 0, 1) := by decide +kernel
theorem dX12_tell_81 : decode cX12_tell 81 = .ok (.istore 5, 2) := by decide +kernel
theorem dX12_tell_83 : decode cX12_tell 83 = .ok (.iload 5, 2) := by decide +kernel
theorem dX12_tell_85 : decode cX12_tell 85 = .ok (.aload_n 0, 1) := by decide +kernel
theorem dX12_tell_86 : decode cX12_tell 86 = .ok (.getfield 156, 3) := by decide +kernel
theorem dX12_tell_89 : decode cX12_tell 89 = .ok (.if_icmp .ge 23, 3) := by decide +kernel
theorem dX12_tell_92 : decode cX12_tell 92 = .ok (.aload_n 0, 1) := by decide +kernel
theorem dX12_tell_93 : decode cX12_tell 93 = .ok (.getfield 53, 3) := by decide +kernel
theorem dX12_tell_96 : decode cX12_tell 96 = .ok (.iload 5, 2) := by decide +kernel
theorem dX12_tell_98 : decode cX12_tell 98 = .ok (.aload_n 0, 1) := by decide +kernel
theorem dX12_tell_99 : decode cX12_tell 99 = .ok (.getfield 56, 3) := by decide +kernel
theorem dX12_tell_102 : decode cX12_tell 102 = .ok (.iload 5, 2) := by decide +kernel
theorem dX12_tell_104 : decode cX12_tell 104 = .ok (.iaload, 1) := by decide +kernel
theorem dX12_tell_105 : decode cX12_tell 105 = .ok (.iastore, 1) := by decide +kernel
theorem dX12_tell_106 : decode cX12_tell 106 = .ok (.iinc 5 1, 3) := by decide +kernel
theorem dX12_tell_109 : decode cX12_tell 109 = .ok (.goto (-26), 3) := by decide +kernel
theorem dX12_tell_112 : decode cX12_tell 112 = .ok (.aload_n 0, 1) := by decide +kernel
theorem dX12_tell_113 : decode cX12_tell 113 = .ok (.aload_n 0, 1) := by decide +kernel
theorem dX12_tell_114 : decode cX12_tell 114 = .ok (.getfield 35, 3) := by decide +kernel
theorem dX12_tell_117 : decode cX12_tell 117 = .ok (.iconst 0, 1) := by decide +kernel
theorem dX12_tell_118 : decode cX12_tell 118 = .ok (.iaload, 1) := by decide +kernel
theorem dX12_tell_119 : decode cX12_tell 119 = .ok (.invokevirtual 257, 3) := by decide +kernel
theorem dX12_tell_122 : decode cX12_tell 122 = .ok (.ifCond .ne (-63), 3) := by decide +kernel
theorem dX12_tell_125 : decode cX12_tell 125 = .ok (.aload_n 0, 1) := by decide +kernel
theorem dX12_tell_126 : decode cX12_tell 126 = .ok (.iload_n 1, 1) := by decide +kernel
theorem dX12_tell_127 : decode cX12_tell 127 = .ok (.invokevirtual 236, 3) := by decide +kernel
theorem dX12_tell_130 : decode cX12_tell 130 = .ok (.iload_n 3, 1) := by decide +kernel
theorem dX12_tell_131 : decode cX12_tell 131 = .ok (.ireturn, 1) := by decide +kernel
theorem dX12_keep_0 : decode cX12_keep 0 = .ok (.iload_n 1, 1) := by decide +kernel
theorem dX12_keep_1 : decode cX12_keep 1 = .ok (.iconst 0, 1) := by decide +kernel
theorem dX12_keep_2 : decode cX12_keep 2 = .ok (.iconst 2, 1) := by decide +kernel
theorem dX12_keep_3 : decode cX12_keep 3 = .ok (.invokestatic 87, 3) := by decide +kernel
theorem dX12_keep_6 : decode cX12_keep 6 = .ok (.ifCond .ne 5, 3) := by decide +kernel
theorem dX12_keep_9 : decode cX12_keep 9 = .ok (.iconst (-1), 1) := by decide +kernel
theorem dX12_keep_10 : decode cX12_keep 10 = .ok (.ireturn, 1) := by decide +kernel
theorem dX12_keep_11 : decode cX12_keep 11 = .ok (.aload_n 0, 1) := by decide +kernel
theorem dX12_keep_12 : decode cX12_keep 12 = .ok (.getfield 156, 3) := by decide +kernel
theorem dX12_keep_15 : decode cX12_keep 15 = .ok (.ifCond .ne 6, 3) := by decide +kernel
theorem dX12_keep_18 : decode cX12_keep 18 = .ok (.bipush (-4), 2) := by decide +kernel
theorem dX12_keep_20 : decode cX12_keep 20 = .ok (.ireturn, 1) := by decide +kernel
theorem dX12_keep_21 : decode cX12_keep 21 = .ok (.bipush 72, 2) := by decide +kernel
theorem dX12_keep_23 : decode cX12_keep 23 = .ok (.iload_n 1, 1) := by decide +kernel
theorem dX12_keep_24 : decode cX12_keep 24 = .ok (.imul, 1) := by decide +kernel
theorem dX12_keep_25 : decode cX12_keep 25 = .ok (.istore_n 2, 1) := by decide +kernel
theorem dX12_keep_26 : decode cX12_keep 26 = .ok (.aload_n 0, 1) := by decide +kernel
theorem dX12_keep_27 : decode cX12_keep 27 = .ok (.getfield 74, 3) := by decide +kernel
theorem dX12_keep_30 : decode cX12_keep 30 = .ok (.iload_n 2, 1) := by decide +kernel
theorem dX12_keep_31 : decode cX12_keep 31 = .ok (.aload_n 0, 1) := by decide +kernel
theorem dX12_keep_32 : decode cX12_keep 32 = .ok (.getfield 162, 3) := by decide +kernel
theorem dX12_keep_35 : decode cX12_keep 35 = .ok (.iastore, 1) := by decide +kernel
theorem dX12_keep_36 : decode cX12_keep 36 = .ok (.aload_n 0, 1) := by decide +kernel
theorem dX12_keep_37 : decode cX12_keep 37 = .ok (.getfield 74, 3) := by decide +kernel
theorem dX12_keep_40 : decode cX12_keep 40 = .ok (.iload_n 2, 1) := by decide +kernel
theorem dX12_keep_41 : decode cX12_keep 41 = .ok (.iconst 1, 1) := by decide +kernel
theorem dX12_keep_42 : decode cX12_keep 42 = .ok (.iadd, 1) := by decide +kernel
theorem dX12_keep_43 : decode cX12_keep 43 = .ok (.aload_n 0, 1) := by decide +kernel
theorem dX12_keep_44 : decode cX12_keep 44 = .ok (.getfield 35, 3) := by decide +kernel
theorem dX12_keep_47 : decode cX12_keep 47 = .ok (.iconst 0, 1) := by decide +kernel
theorem dX12_keep_48 : decode cX12_keep 48 = .ok (.iaload, 1) := by decide +kernel
theorem dX12_keep_49 : decode cX12_keep 49 = .ok (.iastore, 1) := by decide +kernel
theorem dX12_keep_50 : decode cX12_keep 50 = .ok (.aload_n 0, 1) := by decide +kernel
theorem dX12_keep_51 : decode cX12_keep 51 = .ok (.getfield 74, 3) := by decide +kernel
theorem dX12_keep_54 : decode cX12_keep 54 = .ok (.iload_n 2, 1) := by decide +kernel
theorem dX12_keep_55 : decode cX12_keep 55 = .ok (.iconst 2, 1) := by decide +kernel
theorem dX12_keep_56 : decode cX12_keep 56 = .ok (.iadd, 1) := by decide +kernel
theorem dX12_keep_57 : decode cX12_keep 57 = .ok (.aload_n 0, 1) := by decide +kernel
theorem dX12_keep_58 : decode cX12_keep 58 = .ok (.getfield 35, 3) := by decide +kernel
theorem dX12_keep_61 : decode cX12_keep 61 = .ok (.iconst 1, 1) := by decide +kernel
theorem dX12_keep_62 : decode cX12_keep 62 = .ok (.iaload, 1) := by decide +kernel
theorem dX12_keep_63 : decode cX12_keep 63 = .ok (.iastore, 1) := by decide +kernel
theorem dX12_keep_64 : decode cX12_keep 64 = .ok (.aload_n 0, 1) := by decide +kernel
theorem dX12_keep_65 : decode cX12_keep 65 = .ok (.getfield 74, 3) := by decide +kernel
theorem dX12_keep_68 : decode cX12_keep 68 = .ok (.iload_n 2, 1) := by decide +kernel
theorem dX12_keep_69 : decode cX12_keep 69 = .ok (.iconst 3, 1) := by decide +kernel
theorem dX12_keep_70 : decode cX12_keep 70 = .ok (.iadd, 1) := by decide +kernel
theorem dX12_keep_71 : decode cX12_keep 71 = .ok (.aload_n 0, 1) := by decide +kernel
theorem dX12_keep_72 : decode cX12_keep 72 = .ok (.getfield 159, 3) := by decide +kernel
theorem dX12_keep_75 : decode cX12_keep 75 = .ok (.iastore, 1) := by decide +kernel
theorem dX12_keep_76 : decode cX12_keep 76 = .ok (.iconst 0, 1) := by decide +kernel
theorem dX12_keep_77 : decode cX12_keep 77 = .ok (.istore_n 3, 1) := by decide +kernel
theorem dX12_keep_78 : decode cX12_keep 78 = .ok (.iload_n 3, 1) := by decide +kernel
theorem dX12_keep_79 : decode cX12_keep 79 = .ok (.iconst 4, 1) := by decide +kernel
theorem dX12_keep_80 : decode cX12_keep 80 = .ok (.if_icmp .ge 25, 3) := by decide +kernel
theorem dX12_keep_83 : decode cX12_keep 83 = .ok (.aload_n 0, 1) := by decide +kernel
theorem dX12_keep_84 : decode cX12_keep 84 = .ok (.getfield 74, 3) := by decide +kernel
theorem dX12_keep_87 : decode cX12_keep 87 = .ok (.iload_n 2, 1) := by decide +kernel
theorem dX12_keep_88 : decode cX12_keep 88 = .ok (.iconst 4, 1) := by decide +kernel
theorem dX12_keep_89 : decode cX12_keep 89 = .ok (.iadd, 1) := by decide +kernel
theorem dX12_keep_90 : decode cX12_keep 90 = .ok (.iload_n 3, 1) := by decide +kernel
theorem dX12_keep_91 : decode cX12_keep 91 = .ok (.iadd, 1) := by decide +kernel
theorem dX12_keep_92 : decode cX12_keep 92 = .ok (.aload_n 0, 1) := by decide +kernel
theorem dX12_keep_93 : decode cX12_keep 93 = .ok (.getfield 62, 3) := by decide +kernel
theorem dX12_keep_96 : decode cX12_keep 96 = .ok (.iload_n 3, 1) := by decide +kernel
theorem dX12_keep_97 : decode cX12_keep 97 = .ok (.iaload, 1) := by decide +kernel
theorem dX12_keep_98 : decode cX12_keep 98 = .ok (.iastore, 1) := by decide +kernel
theorem dX12_keep_99 : decode cX12_keep 99 = .ok (.iinc 3 1, 3) := by decide +kernel
theorem dX12_keep_102 : decode cX12_keep 102 = .ok (.goto (-24), 3) := by decide +kernel
theorem dX12_keep_105 : decode cX12_keep 105 = .ok (.iconst 0, 1) := by decide +kernel
theorem dX12_keep_106 : decode cX12_keep 106 = .ok (.istore_n 3, 1) := by decide +kernel
theorem dX12_keep_107 : decode cX12_keep 107 = .ok (.iload_n 3, 1) := by decide +kernel
theorem dX12_keep_108 : decode cX12_keep 108 = .ok (.bipush 56, 2) := by decide +kernel
theorem dX12_keep_110 : decode cX12_keep 110 = .ok (.if_icmp .ge 26, 3) := by decide +kernel
theorem dX12_keep_113 : decode cX12_keep 113 = .ok (.aload_n 0, 1) := by decide +kernel
theorem dX12_keep_114 : decode cX12_keep 114 = .ok (.getfield 74, 3) := by decide +kernel
theorem dX12_keep_117 : decode cX12_keep 117 = .ok (.iload_n 2, 1) := by decide +kernel
theorem dX12_keep_118 : decode cX12_keep 118 = .ok (.bipush 8, 2) := by decide +kernel
theorem dX12_keep_120 : decode cX12_keep 120 = .ok (.iadd, 1) := by decide +kernel
theorem dX12_keep_121 : decode cX12_keep 121 = .ok (.iload_n 3, 1) := by decide +kernel
theorem dX12_keep_122 : decode cX12_keep 122 = .ok (.iadd, 1) := by decide +kernel
theorem dX12_keep_123 : decode cX12_keep 123 = .ok (.aload_n 0, 1) := by decide +kernel
theorem dX12_keep_124 : decode cX12_keep 124 = .ok (.getfield 65, 3) := by decide +kernel
theorem dX12_keep_127 : decode cX12_keep 127 = .ok (.iload_n 3, 1) := by decide +kernel
theorem dX12_keep_128 : decode cX12_keep 128 = .ok (.iaload, 1) := by decide +kernel
theorem dX12_keep_129 : decode cX12_keep 129 = .ok (.iastore, 1) := by decide +kernel
theorem dX12_keep_130 : decode cX12_keep 130 = .ok (.iinc 3 1, 3) := by decide +kernel
theorem dX12_keep_133 : decode cX12_keep 133 = .ok (.goto (-26), 3) := by decide +kernel
theorem dX12_keep_136 : decode cX12_keep 136 = .ok (.aload_n 0, 1) := by decide +kernel
theorem dX12_keep_137 : decode cX12_keep 137 = .ok (.getfield 162, 3) := by decide +kernel
theorem dX12_keep_140 : decode cX12_keep 140 = .ok (.ireturn, 1) := by decide +kernel
theorem q_1515 : Cond.methodLink RX12 333 yX12_areAlike ∈ wT := wi_t 1515 (by decide +kernel) (by decide +kernel)
theorem q_1518 : Cond.code yX12_areAlike cX12_areAlike 5 (some .boolean) ∈ wT := wi_t 1518 (by decide +kernel) (by decide +kernel)
theorem q_1517 : Cond.instanceMethod yX12_areAlike ∈ wT := wi_t 1517 (by decide +kernel) (by decide +kernel)
theorem qs_86 : Cond.selects RX12 yX12_areAlike yX12_areAlike ∈ wT := wi_s (q := (yX12_areAlike, 42)) 86 (by decide +kernel) (by decide +kernel)
theorem q_1499 : Cond.methodLink RX12 327 yX12_fitting ∈ wT := wi_t 1499 (by decide +kernel) (by decide +kernel)
theorem q_1502 : Cond.code yX12_fitting cX12_fitting 3 (some .int) ∈ wT := wi_t 1502 (by decide +kernel) (by decide +kernel)
theorem q_1501 : Cond.instanceMethod yX12_fitting ∈ wT := wi_t 1501 (by decide +kernel) (by decide +kernel)
theorem qs_82 : Cond.selects RX12 yX12_fitting yX12_fitting ∈ wT := wi_s (q := (yX12_fitting, 42)) 82 (by decide +kernel) (by decide +kernel)
theorem q_1511 : Cond.methodLink RX12 330 yX12_setRuled ∈ wT := wi_t 1511 (by decide +kernel) (by decide +kernel)
theorem q_1514 : Cond.code yX12_setRuled cX12_setRuled 3 none ∈ wT := wi_t 1514 (by decide +kernel) (by decide +kernel)
theorem q_1513 : Cond.instanceMethod yX12_setRuled ∈ wT := wi_t 1513 (by decide +kernel) (by decide +kernel)
theorem qs_85 : Cond.selects RX12 yX12_setRuled yX12_setRuled ∈ wT := wi_s (q := (yX12_setRuled, 42)) 85 (by decide +kernel) (by decide +kernel)
theorem q_1055 : Cond.fieldLink RX12 71 "HeavyFilesModel" "wons" "[I" ∈ wT := wi_t 1055 (by decide +kernel) (by decide +kernel)
theorem q_1527 : Cond.methodLink RX12 336 yX12_setsBy ∈ wT := wi_t 1527 (by decide +kernel) (by decide +kernel)
theorem q_1530 : Cond.code yX12_setsBy cX12_setsBy 6 (some .int) ∈ wT := wi_t 1530 (by decide +kernel) (by decide +kernel)
theorem q_1529 : Cond.instanceMethod yX12_setsBy ∈ wT := wi_t 1529 (by decide +kernel) (by decide +kernel)
theorem qs_87 : Cond.selects RX12 yX12_setsBy yX12_setsBy ∈ wT := wi_s (q := (yX12_setsBy, 42)) 87 (by decide +kernel) (by decide +kernel)
theorem kvX12_areAlike : KV yX12_areAlike RX12 cX12_areAlike 5 (some .boolean) 2 := ⟨q_1517, qs_86, q_13, q_1518, rfl, by decide +kernel, by decide +kernel, by decide +kernel⟩
theorem kvX12_fitting : KV yX12_fitting RX12 cX12_fitting 3 (some .int) 0 := ⟨q_1501, qs_82, q_13, q_1502, rfl, by decide +kernel, by decide +kernel, by decide +kernel⟩
theorem kvX12_setRuled : KV yX12_setRuled RX12 cX12_setRuled 3 none 0 := ⟨q_1513, qs_85, q_13, q_1514, rfl, by decide +kernel, by decide +kernel, by decide +kernel⟩
theorem kvX12_setsBy : KV yX12_setsBy RX12 cX12_setsBy 6 (some .int) 1 := ⟨q_1529, qs_87, q_13, q_1530, rfl, by decide +kernel, by decide +kernel, by decide +kernel⟩
/-! HeavyFilesModel.areAlike(II)Z -/
def fX12_areAlike_50 (N : Nat) (k5 : Nat → Int32 → Int32 → Int32 → Int32 → Mm → Option (Int32 × Mm)) (a0 : Nat) (a1 : Int32) (a2 : Int32) (a4 : Int32) (s0 : Int32) (mm : Mm) : Option (Int32 × Mm) :=
  k5 a0 a1 a2 s0 (a4 + 1) mm
def fX12_areAlike_49 (N : Nat) (k5 : Nat → Int32 → Int32 → Int32 → Int32 → Mm → Option (Int32 × Mm)) (a0 : Nat) (a1 : Int32) (a2 : Int32) (a4 : Int32) (mm : Mm) : Option (Int32 × Mm) :=
  fX12_areAlike_50 N k5 a0 a1 a2 a4 0 mm
def fX12_areAlike_5 (N : Nat)  : Nat → Nat → Int32 → Int32 → Int32 → Int32 → Mm → Option (Int32 × Mm)
  | 0 => fun _ _ _ _ _ _ => none
  | n + 1 => fun a0 a1 a2 a3 a4 mm =>
    let k5 := fX12_areAlike_5 N  n
    if (rd mm a0 10) ≤ a4 then (gd (zb a3) <| some (a3, mm)) else (if a3 = 0 then (fX12_areAlike_49 N k5 a0 a1 a2 a4 mm) else (gd (inb ((6 * a1) + a4) (ln (fr a0 38))) <| gd (inb ((6 * a2) + a4) (ln (fr a0 38))) <| if (rd mm (fr a0 38) (((6 * a1) + a4).toNatClampNeg)) = (rd mm (fr a0 38) (((6 * a2) + a4).toNatClampNeg)) then (fX12_areAlike_50 N k5 a0 a1 a2 a4 1 mm) else (fX12_areAlike_49 N k5 a0 a1 a2 a4 mm)))
def fX12_areAlike (N : Nat)  (a0 : Nat) (a1 : Int32) (a2 : Int32) (mm : Mm) : Option (Int32 × Mm) :=
  fX12_areAlike_5 N N a0 a1 a2 1 0 mm
abbrev rmX12_areAlike : Room := { frames := 1, cells := 0, slots := 0, locals := 40 }
/-! HeavyFilesModel.rules()I -/
def fX12_rules_105 (N : Nat) (k26 : Nat → Int32 → Int32 → Int32 → Mm → Option (Int32 × Mm)) (a0 : Nat) (a1 : Int32) (a3 : Int32) (s0 : Int32) (s1 : Int32) (mm : Mm) : Option (Int32 × Mm) :=
  k26 a0 a1 (s0 + s1) (a3 + 1) mm
def fX12_rules_86 (N : Nat) (k26 : Nat → Int32 → Int32 → Int32 → Mm → Option (Int32 × Mm)) (k51 : Nat → Int32 → Int32 → Int32 → Int32 → Int32 → Mm → Option (Int32 × Mm)) (a0 : Nat) (a1 : Int32) (a2 : Int32) (a3 : Int32) (a5 : Int32) (s0 : Int32) (mm : Mm) : Option (Int32 × Mm) :=
  k51 a0 a1 a2 a3 s0 (a5 + 1) mm
def fX12_rules_85 (N : Nat) (k26 : Nat → Int32 → Int32 → Int32 → Mm → Option (Int32 × Mm)) (k51 : Nat → Int32 → Int32 → Int32 → Int32 → Int32 → Mm → Option (Int32 × Mm)) (a0 : Nat) (a1 : Int32) (a2 : Int32) (a3 : Int32) (a5 : Int32) (mm : Mm) : Option (Int32 × Mm) :=
  fX12_rules_86 N k26 k51 a0 a1 a2 a3 a5 0 mm
def fX12_rules_81 (N : Nat) (k26 : Nat → Int32 → Int32 → Int32 → Mm → Option (Int32 × Mm)) (k51 : Nat → Int32 → Int32 → Int32 → Int32 → Int32 → Mm → Option (Int32 × Mm)) (a0 : Nat) (a1 : Int32) (a2 : Int32) (a3 : Int32) (a5 : Int32) (mm : Mm) : Option (Int32 × Mm) :=
  fX12_rules_86 N k26 k51 a0 a1 a2 a3 a5 1 mm
def fX12_rules_51 (N : Nat) (k26 : Nat → Int32 → Int32 → Int32 → Mm → Option (Int32 × Mm)) : Nat → Nat → Int32 → Int32 → Int32 → Int32 → Int32 → Mm → Option (Int32 × Mm)
  | 0 => fun _ _ _ _ _ _ _ => none
  | n + 1 => fun a0 a1 a2 a3 a4 a5 mm =>
    let k51 := fX12_rules_51 N k26 n
    if a3 ≤ a5 then (if a4 = 0 then (fX12_rules_105 N k26 a0 a1 a3 a2 0 mm) else (fX12_rules_105 N k26 a0 a1 a3 a2 1 mm)) else (if a4 = 0 then (fX12_rules_85 N k26 k51 a0 a1 a2 a3 a5 mm) else (if ((a1 >>> (a5 &&& 31)) &&& 1) = 0 then (fX12_rules_81 N k26 k51 a0 a1 a2 a3 a5 mm) else (bd2 (fX12_areAlike N a0 a3 a5 mm) fun x5 m6 => if x5 = 0 then (fX12_rules_81 N k26 k51 a0 a1 a2 a3 a5 m6) else (fX12_rules_85 N k26 k51 a0 a1 a2 a3 a5 m6))))
def fX12_rules_46 (N : Nat) (k26 : Nat → Int32 → Int32 → Int32 → Mm → Option (Int32 × Mm)) (a0 : Nat) (a1 : Int32) (a2 : Int32) (a3 : Int32) (s0 : Int32) (mm : Mm) : Option (Int32 × Mm) :=
  fX12_rules_51 N k26 N a0 a1 a2 a3 s0 0 mm
def fX12_rules_26 (N : Nat)  : Nat → Nat → Int32 → Int32 → Int32 → Mm → Option (Int32 × Mm)
  | 0 => fun _ _ _ _ _ => none
  | n + 1 => fun a0 a1 a2 a3 mm =>
    let k26 := fX12_rules_26 N  n
    if (6 : Int32) ≤ a3 then (bd2 (fX12_ask N a0 a2 a1 mm) fun x10 m11 => some (x10, m11)) else (if ((a1 >>> (a3 &&& 31)) &&& 1) = 1 then (fX12_rules_46 N k26 a0 a1 a2 a3 1 mm) else (fX12_rules_46 N k26 a0 a1 a2 a3 0 mm))
def fX12_rules (N : Nat)  (a0 : Nat) (mm : Mm) : Option (Int32 × Mm) :=
  if (rd mm a0 10) = 0 then (bd2 (fX12_meet N a0 4 mm) fun x21 m22 => some (x21, m22)) else (bd2 (fX12_fitting N a0 mm) fun x15 m16 => bd2 (fX12_setRuled N a0 m16) fun x18 m19 => fX12_rules_26 N N a0 x15 0 0 m19)
abbrev rmX12_rules : Room := { frames := 7, cells := 0, slots := 0, locals := 226 }
/-! HeavyFilesModel.reply(I)I -/
def fX12_reply_36 (N : Nat)  : Nat → Nat → Int32 → Int32 → Int32 → Mm → Option (Int32 × Mm)
  | 0 => fun _ _ _ _ _ => none
  | n + 1 => fun a0 a1 a2 a3 mm =>
    let k36 := fX12_reply_36 N  n
    if ((a2 >>> (a3 &&& 31)) &&& 1) = 0 then (k36 a0 a1 a2 (a3 + 1) mm) else (bd2 (fX12_layRule N a0 a3 (rd mm a0 37) mm) fun x2 m3 => gd (inb 0 (ln (fr a0 12))) <| bd2 (fX12_setBest N a0 (rd m3 (fr a0 12) ((0 : Int32).toNatClampNeg)) m3) fun x6 m7 => bd2 (fX12_layBest N a0 a1 m7) fun x9 m10 => bd2 (fX12_ask N a0 a3 (rd m10 a0 24) m10) fun x12 m13 => some (x12, m13))
def fX12_reply (N : Nat)  (a0 : Nat) (a1 : Int32) (mm : Mm) : Option (Int32 × Mm) :=
  bd2 (fX12_isRow N a1 mm) fun x15 m16 => if x15 = 0 then (some ((-1), m16)) else (if (rd m16 a0 10) = 0 then (bd2 (fX12_meet N a0 4 m16) fun x24 m25 => some (x24, m25)) else (bd2 (fX12_fitting N a0 m16) fun x20 m21 => if x20 = 0 then (some ((-9), m21)) else (fX12_reply_36 N N a0 a1 x20 0 m21)))
abbrev rmX12_reply : Room := { frames := 16, cells := 0, slots := 0, locals := 824 }
/-! HeavyFilesModel.setsBy(I)I -/
def fX12_setsBy_140 (N : Nat) (k4 : Nat → Int32 → Int32 → Int32 → Mm → Option (Int32 × Mm)) (a0 : Nat) (a1 : Int32) (a3 : Int32) (s0 : Int32) (s1 : Int32) (mm : Mm) : Option (Int32 × Mm) :=
  k4 a0 a1 (s0 + s1) (a3 + 1) mm
def fX12_setsBy_121 (N : Nat) (k4 : Nat → Int32 → Int32 → Int32 → Mm → Option (Int32 × Mm)) (k80 : Nat → Int32 → Int32 → Int32 → Int32 → Int32 → Mm → Option (Int32 × Mm)) (a0 : Nat) (a1 : Int32) (a2 : Int32) (a3 : Int32) (a5 : Int32) (s0 : Int32) (mm : Mm) : Option (Int32 × Mm) :=
  k80 a0 a1 a2 a3 s0 (a5 + 1) mm
def fX12_setsBy_120 (N : Nat) (k4 : Nat → Int32 → Int32 → Int32 → Mm → Option (Int32 × Mm)) (k80 : Nat → Int32 → Int32 → Int32 → Int32 → Int32 → Mm → Option (Int32 × Mm)) (a0 : Nat) (a1 : Int32) (a2 : Int32) (a3 : Int32) (a5 : Int32) (mm : Mm) : Option (Int32 × Mm) :=
  fX12_setsBy_121 N k4 k80 a0 a1 a2 a3 a5 0 mm
def fX12_setsBy_116 (N : Nat) (k4 : Nat → Int32 → Int32 → Int32 → Mm → Option (Int32 × Mm)) (k80 : Nat → Int32 → Int32 → Int32 → Int32 → Int32 → Mm → Option (Int32 × Mm)) (a0 : Nat) (a1 : Int32) (a2 : Int32) (a3 : Int32) (a5 : Int32) (mm : Mm) : Option (Int32 × Mm) :=
  fX12_setsBy_121 N k4 k80 a0 a1 a2 a3 a5 1 mm
def fX12_setsBy_80 (N : Nat) (k4 : Nat → Int32 → Int32 → Int32 → Mm → Option (Int32 × Mm)) : Nat → Nat → Int32 → Int32 → Int32 → Int32 → Int32 → Mm → Option (Int32 × Mm)
  | 0 => fun _ _ _ _ _ _ _ => none
  | n + 1 => fun a0 a1 a2 a3 a4 a5 mm =>
    let k80 := fX12_setsBy_80 N k4 n
    if a3 ≤ a5 then (if a4 = 0 then (fX12_setsBy_140 N k4 a0 a1 a3 a2 0 mm) else (fX12_setsBy_140 N k4 a0 a1 a3 a2 1 mm)) else (if a4 = 0 then (fX12_setsBy_120 N k4 k80 a0 a1 a2 a3 a5 mm) else (if ((a1 >>> (a5 &&& 31)) &&& 1) = 0 then (fX12_setsBy_116 N k4 k80 a0 a1 a2 a3 a5 mm) else (gd (inb a5 (ln (fr a0 39))) <| gd (inb a3 (ln (fr a0 39))) <| if (rd mm (fr a0 39) a5.toNatClampNeg) = (rd mm (fr a0 39) a3.toNatClampNeg) then (fX12_setsBy_120 N k4 k80 a0 a1 a2 a3 a5 mm) else (fX12_setsBy_116 N k4 k80 a0 a1 a2 a3 a5 mm))))
def fX12_setsBy_75 (N : Nat) (k4 : Nat → Int32 → Int32 → Int32 → Mm → Option (Int32 × Mm)) (a0 : Nat) (a1 : Int32) (a2 : Int32) (a3 : Int32) (s0 : Int32) (mm : Mm) : Option (Int32 × Mm) :=
  fX12_setsBy_80 N k4 N a0 a1 a2 a3 s0 0 mm
def fX12_setsBy_13 (N : Nat) (k4 : Nat → Int32 → Int32 → Int32 → Mm → Option (Int32 × Mm)) : Nat → Nat → Int32 → Int32 → Int32 → Int32 → Mm → Option (Int32 × Mm)
  | 0 => fun _ _ _ _ _ _ => none
  | n + 1 => fun a0 a1 a2 a3 a4 mm =>
    let k13 := fX12_setsBy_13 N k4 n
    if (rd mm a0 10) ≤ a4 then (bd2 (fX12_setWinners N a0 mm) fun x9 m10 => bd2 (fX12_wonSet N a0 m10) fun x12 m13 => gd (inb a3 (ln (fr a0 39))) <| nm (wr m13 (fr a0 39) a3.toNatClampNeg x12) fun m16 => if ((a1 >>> (a3 &&& 31)) &&& 1) = 1 then (fX12_setsBy_75 N k4 a0 a1 a2 a3 1 m16) else (fX12_setsBy_75 N k4 a0 a1 a2 a3 0 m16)) else (gd (inb ((6 * a3) + a4) (ln (fr a0 38))) <| gd (inb a4 (ln (fr a0 20))) <| nm (wr mm (fr a0 20) a4.toNatClampNeg (rd mm (fr a0 38) (((6 * a3) + a4).toNatClampNeg))) fun m20 => k13 a0 a1 a2 a3 (a4 + 1) m20)
def fX12_setsBy_4 (N : Nat)  : Nat → Nat → Int32 → Int32 → Int32 → Mm → Option (Int32 × Mm)
  | 0 => fun _ _ _ _ _ => none
  | n + 1 => fun a0 a1 a2 a3 mm =>
    let k4 := fX12_setsBy_4 N  n
    if (6 : Int32) ≤ a3 then (some (a2, mm)) else (fX12_setsBy_13 N k4 N a0 a1 a2 a3 0 mm)
def fX12_setsBy (N : Nat)  (a0 : Nat) (a1 : Int32) (mm : Mm) : Option (Int32 × Mm) :=
  fX12_setsBy_4 N N a0 a1 0 0 mm
abbrev rmX12_setsBy : Room := { frames := 5, cells := 0, slots := 0, locals := 165 }
/-! HeavyFilesModel.tell(I)I -/
def fX12_tell_112 (N : Nat) (k59 : Nat → Int32 → Int32 → Int32 → Mm → Option (Int32 × Mm)) (a0 : Nat) (a1 : Int32) (a2 : Int32) (a3 : Int32) (mm : Mm) : Option (Int32 × Mm) :=
  gd (inb 0 (ln (fr a0 12))) <| bd2 (fX12_nextStep N a0 (rd mm (fr a0 12) ((0 : Int32).toNatClampNeg)) mm) fun x2 m3 => if x2 = 0 then (bd2 (fX12_layBest N a0 a1 m3) fun x6 m7 => some (a3, m7)) else (k59 a0 a1 a2 a3 m3)
def fX12_tell_83 (N : Nat) (k59 : Nat → Int32 → Int32 → Int32 → Mm → Option (Int32 × Mm)) : Nat → Nat → Int32 → Int32 → Int32 → Int32 → Mm → Option (Int32 × Mm)
  | 0 => fun _ _ _ _ _ _ => none
  | n + 1 => fun a0 a1 a2 a3 a5 mm =>
    let k83 := fX12_tell_83 N k59 n
    if (rd mm a0 10) ≤ a5 then (fX12_tell_112 N k59 a0 a1 a2 a3 mm) else (gd (inb a5 (ln (fr a0 30))) <| gd (inb a5 (ln (fr a0 27))) <| nm (wr mm (fr a0 27) a5.toNatClampNeg (rd mm (fr a0 30) a5.toNatClampNeg)) fun m12 => k83 a0 a1 a2 a3 (a5 + 1) m12)
def fX12_tell_59 (N : Nat)  : Nat → Nat → Int32 → Int32 → Int32 → Mm → Option (Int32 × Mm)
  | 0 => fun _ _ _ _ _ => none
  | n + 1 => fun a0 a1 a2 a3 mm =>
    let k59 := fX12_tell_59 N  n
    bd2 (fX12_stepFor N a0 0 mm) fun x13 m14 => bd2 (fX12_setsBy N a0 a2 m14) fun x16 m17 => if x16 ≤ a3 then (fX12_tell_112 N k59 a0 a1 a2 a3 m17) else (fX12_tell_83 N k59 N a0 a1 a2 x16 0 m17)
def fX12_tell (N : Nat)  (a0 : Nat) (a1 : Int32) (mm : Mm) : Option (Int32 × Mm) :=
  bd2 (fX12_isRow N a1 mm) fun x20 m21 => if x20 = 0 then (some ((-1), m21)) else (gd (inb 0 (ln (fr a0 12))) <| if (10 : Int32) < (rd m21 (fr a0 12) ((0 : Int32).toNatClampNeg)) then (some ((-6), m21)) else (if (rd m21 a0 10) ≤ 4 then (if (rd m21 a0 10) = 0 then (bd2 (fX12_meet N a0 4 m21) fun x37 m38 => some (x37, m38)) else (bd2 (fX12_fitting N a0 m21) fun x28 m29 => bd2 (fX12_setRuled N a0 m29) fun x31 m32 => bd2 (fX12_firstStep N a0 m32) fun x34 m35 => fX12_tell_59 N N a0 a1 x28 (-1) m35)) else (some ((-6), m21))))
abbrev rmX12_tell : Room := { frames := 7, cells := 0, slots := 0, locals := 226 }
/-! HeavyFilesModel.keep(I)I -/
def fX12_keep_107 (N : Nat)  : Nat → Nat → Int32 → Int32 → Mm → Option (Int32 × Mm)
  | 0 => fun _ _ _ _ => none
  | n + 1 => fun a0 a2 a3 mm =>
    let k107 := fX12_keep_107 N  n
    if (56 : Int32) ≤ a3 then (some (rd mm a0 37, mm)) else (gd (inb a3 (ln (fr a0 36))) <| gd (inb ((a2 + 8) + a3) (ln (fr a0 40))) <| nm (wr mm (fr a0 40) ((a2 + 8) + a3).toNatClampNeg (rd mm (fr a0 36) a3.toNatClampNeg)) fun m4 => k107 a0 a2 (a3 + 1) m4)
def fX12_keep_78 (N : Nat)  : Nat → Nat → Int32 → Int32 → Mm → Option (Int32 × Mm)
  | 0 => fun _ _ _ _ => none
  | n + 1 => fun a0 a2 a3 mm =>
    let k78 := fX12_keep_78 N  n
    if (4 : Int32) ≤ a3 then (fX12_keep_107 N N a0 a2 0 mm) else (gd (inb a3 (ln (fr a0 35))) <| gd (inb ((a2 + 4) + a3) (ln (fr a0 40))) <| nm (wr mm (fr a0 40) ((a2 + 4) + a3).toNatClampNeg (rd mm (fr a0 35) a3.toNatClampNeg)) fun m8 => k78 a0 a2 (a3 + 1) m8)
def fX12_keep (N : Nat)  (a0 : Nat) (a1 : Int32) (mm : Mm) : Option (Int32 × Mm) :=
  bd2 (fX12_in N a1 0 2 mm) fun x9 m10 => if x9 = 0 then (some ((-1), m10)) else (if (rd m10 a0 10) = 0 then (some ((-4), m10)) else (gd (inb (72 * a1) (ln (fr a0 40))) <| nm (wr m10 (fr a0 40) (72 * a1).toNatClampNeg (rd m10 a0 37)) fun m15 => gd (inb 0 (ln (fr a0 12))) <| gd (inb ((72 * a1) + 1) (ln (fr a0 40))) <| nm (wr m15 (fr a0 40) ((72 * a1) + 1).toNatClampNeg (rd m15 (fr a0 12) ((0 : Int32).toNatClampNeg))) fun m18 => gd (inb 1 (ln (fr a0 12))) <| gd (inb ((72 * a1) + 2) (ln (fr a0 40))) <| nm (wr m18 (fr a0 40) ((72 * a1) + 2).toNatClampNeg (rd m18 (fr a0 12) ((1 : Int32).toNatClampNeg))) fun m21 => gd (inb ((72 * a1) + 3) (ln (fr a0 40))) <| nm (wr m21 (fr a0 40) ((72 * a1) + 3).toNatClampNeg (rd m21 a0 13)) fun m23 => fX12_keep_78 N N a0 (72 * a1) 0 m23))
abbrev rmX12_keep : Room := { frames := 2, cells := 0, slots := 0, locals := 70 }
section W_model28
variable {p : Program} {l : Launch} {e : Env} {s : State} {m : MethodId} {args : Array Value} {below : List Frame} {meth : Method} {c : Code} {D : va_G} {ca ad : Nat → Nat}
set_option maxRecDepth 100000 in
set_option maxHeartbeats 4000000 in
theorem wX12_areAlike_50 (C : Cx p s m meth c args cX12_areAlike 5 (some .boolean) RX12 D ca ad) {res : Int32 × Mm} {N : Nat} {k5 : Nat → Int32 → Int32 → Int32 → Int32 → Mm → Option (Int32 × Mm)} (hk5 : ∀ (a0 : Nat) (a1 : Int32) (a2 : Int32) (a3 : Int32) (a4 : Int32) (mm : Mm) (H : Heap) (locs : List Loc) (ls : Array Slot), (sX12 a0) → Wd D ca ad s.heap mm H locs → lv_has ls 5 [(0, .ref (ad a0)), (1, .int a1), (2, .int a2), (3, .int a3), (4, .int a4)] → k5 a0 a1 a2 a3 a4 mm = some res → W p l e (rmX12_areAlike) s m args below meth c H locs 0 0 (MQ below (QI D ca ad res) args s 0 0 (AA ad)) (F0 m 5 ls [])) {a0 : Nat} {a1 : Int32} {a2 : Int32} {a4 : Int32} {s0 : Int32} {mm : Mm} {H : Heap} {locs : List Loc} {ls : Array Slot} (ha0 : sX12 a0) (hW : Wd D ca ad s.heap mm H locs) (hl : lv_has ls 5 [(0, .ref (ad a0)), (1, .int a1), (2, .int a2), (4, .int a4)]) (hf : fX12_areAlike_50 N k5 a0 a1 a2 a4 s0 mm = some res) : W p l e (rmX12_areAlike) s m args below meth c H locs 0 0 (MQ below (QI D ca ad res) args s 0 0 (AA ad)) (F0 m 50 ls [.int s0]) := by
  unfold fX12_areAlike_50 at hf
  refine lv_istore_n (lv' := [(3, .int s0), (0, .ref (ad a0)), (1, .int a1), (2, .int a2), (4, .int a4)]) C.1 C.2.1 dX12_areAlike_50 rfl hl (by decide) rfl (fun ls hl => ?_)
  refine lv_iinc (v := (a4 + 1)) (lv' := [(4, .int (a4 + 1)), (3, .int s0), (0, .ref (ad a0)), (1, .int a1), (2, .int a2)]) C.1 C.2.1 dX12_areAlike_51 hl (k := 4) rfl rfl (by decide) rfl (fun ls hl => ?_)
  refine lv_goto (tgt := 5) C.1 C.2.1 dX12_areAlike_54 (by decide) ?_
  exact hk5 _ _ _ _ _ _ _ _ _ ha0 hW (lv_sub hl [2, 3, 4, 1, 0] rfl) hf
set_option maxRecDepth 100000 in
set_option maxHeartbeats 4000000 in
theorem wX12_areAlike_49 (C : Cx p s m meth c args cX12_areAlike 5 (some .boolean) RX12 D ca ad) {res : Int32 × Mm} {N : Nat} {k5 : Nat → Int32 → Int32 → Int32 → Int32 → Mm → Option (Int32 × Mm)} (hk5 : ∀ (a0 : Nat) (a1 : Int32) (a2 : Int32) (a3 : Int32) (a4 : Int32) (mm : Mm) (H : Heap) (locs : List Loc) (ls : Array Slot), (sX12 a0) → Wd D ca ad s.heap mm H locs → lv_has ls 5 [(0, .ref (ad a0)), (1, .int a1), (2, .int a2), (3, .int a3), (4, .int a4)] → k5 a0 a1 a2 a3 a4 mm = some res → W p l e (rmX12_areAlike) s m args below meth c H locs 0 0 (MQ below (QI D ca ad res) args s 0 0 (AA ad)) (F0 m 5 ls [])) {a0 : Nat} {a1 : Int32} {a2 : Int32} {a4 : Int32} {mm : Mm} {H : Heap} {locs : List Loc} {ls : Array Slot} (ha0 : sX12 a0) (hW : Wd D ca ad s.heap mm H locs) (hl : lv_has ls 5 [(0, .ref (ad a0)), (1, .int a1), (2, .int a2), (4, .int a4)]) (hf : fX12_areAlike_49 N k5 a0 a1 a2 a4 mm = some res) : W p l e (rmX12_areAlike) s m args below meth c H locs 0 0 (MQ below (QI D ca ad res) args s 0 0 (AA ad)) (F0 m 49 ls []) := by
  unfold fX12_areAlike_49 at hf
  refine lv_iconst (v := 0) C.1 C.2.1 dX12_areAlike_49 (by decide) ?_
  exact wX12_areAlike_50 C hk5 ha0 hW (lv_sub hl [0, 1, 2, 3] rfl) hf
set_option maxRecDepth 100000 in
set_option maxHeartbeats 4000000 in
theorem wX12_areAlike_5 (C : Cx p s m meth c args cX12_areAlike 5 (some .boolean) RX12 D ca ad) {res : Int32 × Mm} {N : Nat}  : ∀ (n : Nat) {a0 : Nat} {a1 : Int32} {a2 : Int32} {a3 : Int32} {a4 : Int32} {mm : Mm} {H : Heap} {locs : List Loc} {ls : Array Slot}, (sX12 a0) → Wd D ca ad s.heap mm H locs → lv_has ls 5 [(0, .ref (ad a0)), (1, .int a1), (2, .int a2), (3, .int a3), (4, .int a4)] → fX12_areAlike_5 N n a0 a1 a2 a3 a4 mm = some res → W p l e (rmX12_areAlike) s m args below meth c H locs 0 0 (MQ below (QI D ca ad res) args s 0 0 (AA ad)) (F0 m 5 ls []) := by
  intro n
  induction n with
  | zero => intro a0 a1 a2 a3 a4 mm H locs ls ha0 hW hl hf; cases hf
  | succ n ih =>
    intro a0 a1 a2 a3 a4 mm H locs ls ha0 hW hl hf
    have hk5 : ∀ (a0 : Nat) (a1 : Int32) (a2 : Int32) (a3 : Int32) (a4 : Int32) (mm : Mm) (H : Heap) (locs : List Loc) (ls : Array Slot), (sX12 a0) → Wd D ca ad s.heap mm H locs → lv_has ls 5 [(0, .ref (ad a0)), (1, .int a1), (2, .int a2), (3, .int a3), (4, .int a4)] → (fX12_areAlike_5 N n) a0 a1 a2 a3 a4 mm = some res → W p l e (rmX12_areAlike) s m args below meth c H locs 0 0 (MQ below (QI D ca ad res) args s 0 0 (AA ad)) (F0 m 5 ls []) := fun a0 a1 a2 a3 a4 mm H locs ls ha0 hW hl hf => ih ha0 hW hl hf
    unfold fX12_areAlike_5 at hf
    try dsimp only at hf
    refine lv_iload C.1 C.2.1 dX12_areAlike_5 (lv_at hl 4 rfl) ?_
    refine lv_aload_n C.1 C.2.1 dX12_areAlike_7 rfl (lv_at hl 0 rfl) ?_
    refine x_geti C hW (ha0).1 (ha0).2.1 (j := 10) rfl kX12 (by decide) rfl q_1026 dX12_areAlike_8 ?_
    refine lv_icmp_ge (tgt := 57) C.1 C.2.1 dX12_areAlike_11 (by decide) (fun c1 => ?_) (fun c1 => ?_)
    · have hf := if_t c1 hf
      refine lv_iload_n C.1 C.2.1 dX12_areAlike_57 rfl (lv_at hl 3 rfl) ?_
      obtain ⟨g2, hf⟩ := gd_s hf
      cases hf
      exact x_zret C hW (of_decide_eq_true g2) dX12_areAlike_58
    · have hf := if_f c1 hf
      refine lv_iload_n C.1 C.2.1 dX12_areAlike_14 rfl (lv_at hl 3 rfl) ?_
      refine lv_if_eq (tgt := 49) C.1 C.2.1 dX12_areAlike_15 (by decide) (fun c3 => ?_) (fun c3 => ?_)
      · have hf := if_t c3 hf
        exact wX12_areAlike_49 C hk5 ha0 hW (lv_sub hl [0, 1, 2, 4] rfl) hf
      · have hf := if_f c3 hf
        refine lv_aload_n C.1 C.2.1 dX12_areAlike_18 rfl (lv_at hl 0 rfl) ?_
        refine x_getr C hW (ha0).1 (ha0).2.1 (j := 38) rfl kX12 (by decide) rfl q_1054 dX12_areAlike_19 ?_
        refine lv_bipush (v := 6) C.1 C.2.1 dX12_areAlike_22 (by decide) ?_
        refine lv_iload_n C.1 C.2.1 dX12_areAlike_24 rfl (lv_at hl 1 rfl) ?_
        refine lv_imul C.1 C.2.1 dX12_areAlike_25 ?_
        refine lv_iload C.1 C.2.1 dX12_areAlike_26 (lv_at hl 4 rfl) ?_
        refine lv_iadd C.1 C.2.1 dX12_areAlike_28 ?_
        obtain ⟨g4, hf⟩ := gd_s hf
        refine x_iald C hW ha0.2.2.2.2.2.2.2.2.2.2.2.2.2.2.2.2.2.2.2.2.1 g4 dX12_areAlike_29 ?_
        refine lv_aload_n C.1 C.2.1 dX12_areAlike_30 rfl (lv_at hl 0 rfl) ?_
        refine x_getr C hW (ha0).1 (ha0).2.1 (j := 38) rfl kX12 (by decide) rfl q_1054 dX12_areAlike_31 ?_
        refine lv_bipush (v := 6) C.1 C.2.1 dX12_areAlike_34 (by decide) ?_
        refine lv_iload_n C.1 C.2.1 dX12_areAlike_36 rfl (lv_at hl 2 rfl) ?_
        refine lv_imul C.1 C.2.1 dX12_areAlike_37 ?_
        refine lv_iload C.1 C.2.1 dX12_areAlike_38 (lv_at hl 4 rfl) ?_
        refine lv_iadd C.1 C.2.1 dX12_areAlike_40 ?_
        obtain ⟨g5, hf⟩ := gd_s hf
        refine x_iald C hW ha0.2.2.2.2.2.2.2.2.2.2.2.2.2.2.2.2.2.2.2.2.1 g5 dX12_areAlike_41 ?_
        refine lv_icmp_ne (tgt := 49) C.1 C.2.1 dX12_areAlike_42 (by decide) (fun c6 => ?_) (fun c6 => ?_)
        · have hf := if_f c6 hf
          exact wX12_areAlike_49 C hk5 ha0 hW (lv_sub hl [0, 1, 2, 4] rfl) hf
        · have hf := if_t c6 hf
          refine lv_iconst (v := 1) C.1 C.2.1 dX12_areAlike_45 (by decide) ?_
          refine lv_goto (tgt := 50) C.1 C.2.1 dX12_areAlike_46 (by decide) ?_
          exact wX12_areAlike_50 C hk5 ha0 hW (lv_sub hl [0, 1, 2, 4] rfl) hf
set_option maxRecDepth 100000 in
set_option maxHeartbeats 4000000 in
theorem wX12_areAlike_0 (C : Cx p s m meth c args cX12_areAlike 5 (some .boolean) RX12 D ca ad) {res : Int32 × Mm} {N : Nat}  {a0 : Nat} {a1 : Int32} {a2 : Int32} {mm : Mm} {H : Heap} {locs : List Loc} {ls : Array Slot} (ha0 : sX12 a0) (hW : Wd D ca ad s.heap mm H locs) (hl : lv_has ls 5 [(0, .ref (ad a0)), (1, .int a1), (2, .int a2)]) (hf : fX12_areAlike N a0 a1 a2 mm = some res) : W p l e (rmX12_areAlike) s m args below meth c H locs 0 0 (MQ below (QI D ca ad res) args s 0 0 (AA ad)) (F0 m 0 ls []) := by
  unfold fX12_areAlike at hf
  refine lv_iconst (v := 1) C.1 C.2.1 dX12_areAlike_0 (by decide) ?_
  refine lv_istore_n (lv' := [(3, .int 1), (0, .ref (ad a0)), (1, .int a1), (2, .int a2)]) C.1 C.2.1 dX12_areAlike_1 rfl hl (by decide) rfl (fun ls hl => ?_)
  refine lv_iconst (v := 0) C.1 C.2.1 dX12_areAlike_2 (by decide) ?_
  refine lv_istore (lv' := [(4, .int 0), (3, .int 1), (0, .ref (ad a0)), (1, .int a1), (2, .int a2)]) C.1 C.2.1 dX12_areAlike_3 hl (by decide) rfl (fun ls hl => ?_)
  exact wX12_areAlike_5 C  N ha0 hW (lv_sub hl [2, 3, 4, 1, 0] rfl) hf
set_option maxRecDepth 100000 in
set_option maxHeartbeats 4000000 in
theorem tX12_areAlike (l : Launch) {D : va_G} {ca ad : Nat → Nat} (hi : Inj ad) {N : Nat} {a0 : Nat} {a1 : Int32} {a2 : Int32} {mm : Mm} {res : Int32 × Mm} (ha0 : sX12 a0) (hf : fX12_areAlike N a0 a1 a2 mm = some res) : Met l yX12_areAlike (WS yX12_areAlike cX12_areAlike 5 (some .boolean)) (rmX12_areAlike) (va_Pc [.ref (ad a0), .int a1, .int a2] (WB D ca ad mm)) (QI D ca ad res) 0 0 (AA ad) := by
  refine x_start hi (by decide) rfl (Nat.le_of_ble_eq_true rfl) (fun p e s m args below meth c ls C hW hl => ?_)
  exact wX12_areAlike_0 C ha0 hW (lv_sub hl [0, 1, 2] rfl) hf
set_option maxRecDepth 100000 in
set_option maxHeartbeats 4000000 in
theorem wX12_rules_105 (C : Cx p s m meth c args cX12_rules 6 (some .int) RX12 D ca ad) {res : Int32 × Mm} {N : Nat} {k26 : Nat → Int32 → Int32 → Int32 → Mm → Option (Int32 × Mm)} (hk26 : ∀ (a0 : Nat) (a1 : Int32) (a2 : Int32) (a3 : Int32) (mm : Mm) (H : Heap) (locs : List Loc) (ls : Array Slot), (sX12 a0) → Wd D ca ad s.heap mm H locs → lv_has ls 6 [(0, .ref (ad a0)), (1, .int a1), (2, .int a2), (3, .int a3)] → k26 a0 a1 a2 a3 mm = some res → W p l e (rmX12_rules) s m args below meth c H locs 0 0 (MQ below (QI D ca ad res) args s 0 0 (AA ad)) (F0 m 26 ls [])) {a0 : Nat} {a1 : Int32} {a3 : Int32} {s0 : Int32} {s1 : Int32} {mm : Mm} {H : Heap} {locs : List Loc} {ls : Array Slot} (ha0 : sX12 a0) (hW : Wd D ca ad s.heap mm H locs) (hl : lv_has ls 6 [(0, .ref (ad a0)), (1, .int a1), (3, .int a3)]) (hf : fX12_rules_105 N k26 a0 a1 a3 s0 s1 mm = some res) : W p l e (rmX12_rules) s m args below meth c H locs 0 0 (MQ below (QI D ca ad res) args s 0 0 (AA ad)) (F0 m 105 ls [.int s1, .int s0]) := by
  unfold fX12_rules_105 at hf
  refine lv_iadd C.1 C.2.1 dX12_rules_105 ?_
  refine lv_istore_n (lv' := [(2, .int (s0 + s1)), (0, .ref (ad a0)), (1, .int a1), (3, .int a3)]) C.1 C.2.1 dX12_rules_106 rfl hl (by decide) rfl (fun ls hl => ?_)
  refine lv_iinc (v := (a3 + 1)) (lv' := [(3, .int (a3 + 1)), (2, .int (s0 + s1)), (0, .ref (ad a0)), (1, .int a1)]) C.1 C.2.1 dX12_rules_107 hl (k := 3) rfl rfl (by decide) rfl (fun ls hl => ?_)
  refine lv_goto (tgt := 26) C.1 C.2.1 dX12_rules_110 (by decide) ?_
  exact hk26 _ _ _ _ _ _ _ _ ha0 hW (lv_sub hl [2, 3, 1, 0] rfl) hf
set_option maxRecDepth 100000 in
set_option maxHeartbeats 4000000 in
theorem wX12_rules_86 (C : Cx p s m meth c args cX12_rules 6 (some .int) RX12 D ca ad) {res : Int32 × Mm} {N : Nat} {k26 : Nat → Int32 → Int32 → Int32 → Mm → Option (Int32 × Mm)} {k51 : Nat → Int32 → Int32 → Int32 → Int32 → Int32 → Mm → Option (Int32 × Mm)} (hk26 : ∀ (a0 : Nat) (a1 : Int32) (a2 : Int32) (a3 : Int32) (mm : Mm) (H : Heap) (locs : List Loc) (ls : Array Slot), (sX12 a0) → Wd D ca ad s.heap mm H locs → lv_has ls 6 [(0, .ref (ad a0)), (1, .int a1), (2, .int a2), (3, .int a3)] → k26 a0 a1 a2 a3 mm = some res → W p l e (rmX12_rules) s m args below meth c H locs 0 0 (MQ below (QI D ca ad res) args s 0 0 (AA ad)) (F0 m 26 ls [])) (hk51 : ∀ (a0 : Nat) (a1 : Int32) (a2 : Int32) (a3 : Int32) (a4 : Int32) (a5 : Int32) (mm : Mm) (H : Heap) (locs : List Loc) (ls : Array Slot), (sX12 a0) → Wd D ca ad s.heap mm H locs → lv_has ls 6 [(0, .ref (ad a0)), (1, .int a1), (2, .int a2), (3, .int a3), (4, .int a4), (5, .int a5)] → k51 a0 a1 a2 a3 a4 a5 mm = some res → W p l e (rmX12_rules) s m args below meth c H locs 0 0 (MQ below (QI D ca ad res) args s 0 0 (AA ad)) (F0 m 51 ls [])) {a0 : Nat} {a1 : Int32} {a2 : Int32} {a3 : Int32} {a5 : Int32} {s0 : Int32} {mm : Mm} {H : Heap} {locs : List Loc} {ls : Array Slot} (ha0 : sX12 a0) (hW : Wd D ca ad s.heap mm H locs) (hl : lv_has ls 6 [(0, .ref (ad a0)), (1, .int a1), (2, .int a2), (3, .int a3), (5, .int a5)]) (hf : fX12_rules_86 N k26 k51 a0 a1 a2 a3 a5 s0 mm = some res) : W p l e (rmX12_rules) s m args below meth c H locs 0 0 (MQ below (QI D ca ad res) args s 0 0 (AA ad)) (F0 m 86 ls [.int s0]) := by
  unfold fX12_rules_86 at hf
  refine lv_istore (lv' := [(4, .int s0), (0, .ref (ad a0)), (1, .int a1), (2, .int a2), (3, .int a3), (5, .int a5)]) C.1 C.2.1 dX12_rules_86 hl (by decide) rfl (fun ls hl => ?_)
  refine lv_iinc (v := (a5 + 1)) (lv' := [(5, .int (a5 + 1)), (4, .int s0), (0, .ref (ad a0)), (1, .int a1), (2, .int a2), (3, .int a3)]) C.1 C.2.1 dX12_rules_88 hl (k := 5) rfl rfl (by decide) rfl (fun ls hl => ?_)
  refine lv_goto (tgt := 51) C.1 C.2.1 dX12_rules_91 (by decide) ?_
  exact hk51 _ _ _ _ _ _ _ _ _ _ ha0 hW (lv_sub hl [2, 3, 4, 5, 1, 0] rfl) hf
set_option maxRecDepth 100000 in
set_option maxHeartbeats 4000000 in
theorem wX12_rules_85 (C : Cx p s m meth c args cX12_rules 6 (some .int) RX12 D ca ad) {res : Int32 × Mm} {N : Nat} {k26 : Nat → Int32 → Int32 → Int32 → Mm → Option (Int32 × Mm)} {k51 : Nat → Int32 → Int32 → Int32 → Int32 → Int32 → Mm → Option (Int32 × Mm)} (hk26 : ∀ (a0 : Nat) (a1 : Int32) (a2 : Int32) (a3 : Int32) (mm : Mm) (H : Heap) (locs : List Loc) (ls : Array Slot), (sX12 a0) → Wd D ca ad s.heap mm H locs → lv_has ls 6 [(0, .ref (ad a0)), (1, .int a1), (2, .int a2), (3, .int a3)] → k26 a0 a1 a2 a3 mm = some res → W p l e (rmX12_rules) s m args below meth c H locs 0 0 (MQ below (QI D ca ad res) args s 0 0 (AA ad)) (F0 m 26 ls [])) (hk51 : ∀ (a0 : Nat) (a1 : Int32) (a2 : Int32) (a3 : Int32) (a4 : Int32) (a5 : Int32) (mm : Mm) (H : Heap) (locs : List Loc) (ls : Array Slot), (sX12 a0) → Wd D ca ad s.heap mm H locs → lv_has ls 6 [(0, .ref (ad a0)), (1, .int a1), (2, .int a2), (3, .int a3), (4, .int a4), (5, .int a5)] → k51 a0 a1 a2 a3 a4 a5 mm = some res → W p l e (rmX12_rules) s m args below meth c H locs 0 0 (MQ below (QI D ca ad res) args s 0 0 (AA ad)) (F0 m 51 ls [])) {a0 : Nat} {a1 : Int32} {a2 : Int32} {a3 : Int32} {a5 : Int32} {mm : Mm} {H : Heap} {locs : List Loc} {ls : Array Slot} (ha0 : sX12 a0) (hW : Wd D ca ad s.heap mm H locs) (hl : lv_has ls 6 [(0, .ref (ad a0)), (1, .int a1), (2, .int a2), (3, .int a3), (5, .int a5)]) (hf : fX12_rules_85 N k26 k51 a0 a1 a2 a3 a5 mm = some res) : W p l e (rmX12_rules) s m args below meth c H locs 0 0 (MQ below (QI D ca ad res) args s 0 0 (AA ad)) (F0 m 85 ls []) := by
  unfold fX12_rules_85 at hf
  refine lv_iconst (v := 0) C.1 C.2.1 dX12_rules_85 (by decide) ?_
  exact wX12_rules_86 C hk26 hk51 ha0 hW (lv_sub hl [0, 1, 2, 3, 4] rfl) hf
set_option maxRecDepth 100000 in
set_option maxHeartbeats 4000000 in
theorem wX12_rules_81 (C : Cx p s m meth c args cX12_rules 6 (some .int) RX12 D ca ad) {res : Int32 × Mm} {N : Nat} {k26 : Nat → Int32 → Int32 → Int32 → Mm → Option (Int32 × Mm)} {k51 : Nat → Int32 → Int32 → Int32 → Int32 → Int32 → Mm → Option (Int32 × Mm)} (hk26 : ∀ (a0 : Nat) (a1 : Int32) (a2 : Int32) (a3 : Int32) (mm : Mm) (H : Heap) (locs : List Loc) (ls : Array Slot), (sX12 a0) → Wd D ca ad s.heap mm H locs → lv_has ls 6 [(0, .ref (ad a0)), (1, .int a1), (2, .int a2), (3, .int a3)] → k26 a0 a1 a2 a3 mm = some res → W p l e (rmX12_rules) s m args below meth c H locs 0 0 (MQ below (QI D ca ad res) args s 0 0 (AA ad)) (F0 m 26 ls [])) (hk51 : ∀ (a0 : Nat) (a1 : Int32) (a2 : Int32) (a3 : Int32) (a4 : Int32) (a5 : Int32) (mm : Mm) (H : Heap) (locs : List Loc) (ls : Array Slot), (sX12 a0) → Wd D ca ad s.heap mm H locs → lv_has ls 6 [(0, .ref (ad a0)), (1, .int a1), (2, .int a2), (3, .int a3), (4, .int a4), (5, .int a5)] → k51 a0 a1 a2 a3 a4 a5 mm = some res → W p l e (rmX12_rules) s m args below meth c H locs 0 0 (MQ below (QI D ca ad res) args s 0 0 (AA ad)) (F0 m 51 ls [])) {a0 : Nat} {a1 : Int32} {a2 : Int32} {a3 : Int32} {a5 : Int32} {mm : Mm} {H : Heap} {locs : List Loc} {ls : Array Slot} (ha0 : sX12 a0) (hW : Wd D ca ad s.heap mm H locs) (hl : lv_has ls 6 [(0, .ref (ad a0)), (1, .int a1), (2, .int a2), (3, .int a3), (5, .int a5)]) (hf : fX12_rules_81 N k26 k51 a0 a1 a2 a3 a5 mm = some res) : W p l e (rmX12_rules) s m args below meth c H locs 0 0 (MQ below (QI D ca ad res) args s 0 0 (AA ad)) (F0 m 81 ls []) := by
  unfold fX12_rules_81 at hf
  refine lv_iconst (v := 1) C.1 C.2.1 dX12_rules_81 (by decide) ?_
  refine lv_goto (tgt := 86) C.1 C.2.1 dX12_rules_82 (by decide) ?_
  exact wX12_rules_86 C hk26 hk51 ha0 hW (lv_sub hl [0, 1, 2, 3, 4] rfl) hf
set_option maxRecDepth 100000 in
set_option maxHeartbeats 4000000 in
theorem wX12_rules_51 (C : Cx p s m meth c args cX12_rules 6 (some .int) RX12 D ca ad) {res : Int32 × Mm} {N : Nat} {k26 : Nat → Int32 → Int32 → Int32 → Mm → Option (Int32 × Mm)} (hk26 : ∀ (a0 : Nat) (a1 : Int32) (a2 : Int32) (a3 : Int32) (mm : Mm) (H : Heap) (locs : List Loc) (ls : Array Slot), (sX12 a0) → Wd D ca ad s.heap mm H locs → lv_has ls 6 [(0, .ref (ad a0)), (1, .int a1), (2, .int a2), (3, .int a3)] → k26 a0 a1 a2 a3 mm = some res → W p l e (rmX12_rules) s m args below meth c H locs 0 0 (MQ below (QI D ca ad res) args s 0 0 (AA ad)) (F0 m 26 ls [])) : ∀ (n : Nat) {a0 : Nat} {a1 : Int32} {a2 : Int32} {a3 : Int32} {a4 : Int32} {a5 : Int32} {mm : Mm} {H : Heap} {locs : List Loc} {ls : Array Slot}, (sX12 a0) → Wd D ca ad s.heap mm H locs → lv_has ls 6 [(0, .ref (ad a0)), (1, .int a1), (2, .int a2), (3, .int a3), (4, .int a4), (5, .int a5)] → fX12_rules_51 N k26 n a0 a1 a2 a3 a4 a5 mm = some res → W p l e (rmX12_rules) s m args below meth c H locs 0 0 (MQ below (QI D ca ad res) args s 0 0 (AA ad)) (F0 m 51 ls []) := by
  intro n
  induction n with
  | zero => intro a0 a1 a2 a3 a4 a5 mm H locs ls ha0 hW hl hf; cases hf
  | succ n ih =>
    intro a0 a1 a2 a3 a4 a5 mm H locs ls ha0 hW hl hf
    have hk51 : ∀ (a0 : Nat) (a1 : Int32) (a2 : Int32) (a3 : Int32) (a4 : Int32) (a5 : Int32) (mm : Mm) (H : Heap) (locs : List Loc) (ls : Array Slot), (sX12 a0) → Wd D ca ad s.heap mm H locs → lv_has ls 6 [(0, .ref (ad a0)), (1, .int a1), (2, .int a2), (3, .int a3), (4, .int a4), (5, .int a5)] → (fX12_rules_51 N k26 n) a0 a1 a2 a3 a4 a5 mm = some res → W p l e (rmX12_rules) s m args below meth c H locs 0 0 (MQ below (QI D ca ad res) args s 0 0 (AA ad)) (F0 m 51 ls []) := fun a0 a1 a2 a3 a4 a5 mm H locs ls ha0 hW hl hf => ih ha0 hW hl hf
    unfold fX12_rules_51 at hf
    try dsimp only at hf
    refine lv_iload C.1 C.2.1 dX12_rules_51 (lv_at hl 5 rfl) ?_
    refine lv_iload_n C.1 C.2.1 dX12_rules_53 rfl (lv_at hl 3 rfl) ?_
    refine lv_icmp_ge (tgt := 94) C.1 C.2.1 dX12_rules_54 (by decide) (fun c1 => ?_) (fun c1 => ?_)
    · have hf := if_t c1 hf
      refine lv_iload_n C.1 C.2.1 dX12_rules_94 rfl (lv_at hl 2 rfl) ?_
      refine lv_iload C.1 C.2.1 dX12_rules_95 (lv_at hl 4 rfl) ?_
      refine lv_if_eq (tgt := 104) C.1 C.2.1 dX12_rules_97 (by decide) (fun c2 => ?_) (fun c2 => ?_)
      · have hf := if_t c2 hf
        refine lv_iconst (v := 0) C.1 C.2.1 dX12_rules_104 (by decide) ?_
        exact wX12_rules_105 C hk26 ha0 hW (lv_sub hl [0, 1, 3] rfl) hf
      · have hf := if_f c2 hf
        refine lv_iconst (v := 1) C.1 C.2.1 dX12_rules_100 (by decide) ?_
        refine lv_goto (tgt := 105) C.1 C.2.1 dX12_rules_101 (by decide) ?_
        exact wX12_rules_105 C hk26 ha0 hW (lv_sub hl [0, 1, 3] rfl) hf
    · have hf := if_f c1 hf
      refine lv_iload C.1 C.2.1 dX12_rules_57 (lv_at hl 4 rfl) ?_
      refine lv_if_eq (tgt := 85) C.1 C.2.1 dX12_rules_59 (by decide) (fun c3 => ?_) (fun c3 => ?_)
      · have hf := if_t c3 hf
        exact wX12_rules_85 C hk26 hk51 ha0 hW (lv_sub hl [0, 1, 2, 3, 5] rfl) hf
      · have hf := if_f c3 hf
        refine lv_iload_n C.1 C.2.1 dX12_rules_62 rfl (lv_at hl 1 rfl) ?_
        refine lv_iload C.1 C.2.1 dX12_rules_63 (lv_at hl 5 rfl) ?_
        refine lv_ishr C.1 C.2.1 dX12_rules_65 ?_
        refine lv_iconst (v := 1) C.1 C.2.1 dX12_rules_66 (by decide) ?_
        refine lv_iand C.1 C.2.1 dX12_rules_67 ?_
        refine lv_if_eq (tgt := 81) C.1 C.2.1 dX12_rules_68 (by decide) (fun c4 => ?_) (fun c4 => ?_)
        · have hf := if_t c4 hf
          exact wX12_rules_81 C hk26 hk51 ha0 hW (lv_sub hl [0, 1, 2, 3, 5] rfl) hf
        · have hf := if_f c4 hf
          refine lv_aload_n C.1 C.2.1 dX12_rules_71 rfl (lv_at hl 0 rfl) ?_
          refine lv_iload_n C.1 C.2.1 dX12_rules_72 rfl (lv_at hl 3 rfl) ?_
          refine lv_iload C.1 C.2.1 dX12_rules_73 (lv_at hl 5 rfl) ?_
          obtain ⟨x5, m6, r7, hf⟩ := bd2_s hf
          refine x_ci hW (x_runV C hW [.int a3, .int a5] [] (ha0).1 (ha0).2.1 kX12.1 kvX12_areAlike q_1515 (tX12_areAlike l C.2.2.2.2.2.2.1 ha0 r7) rfl rfl ⟨by decide, by decide⟩ rfl hl.1 rfl (Nat.le_of_ble_eq_true rfl) dX12_rules_75) (fun H locs hW => ?_)
          refine lv_if_ne (tgt := 85) C.1 C.2.1 dX12_rules_78 (by decide) (fun c8 => ?_) (fun c8 => ?_)
          · have hf := if_f c8 hf
            exact wX12_rules_85 C hk26 hk51 ha0 hW (lv_sub hl [0, 1, 2, 3, 5] rfl) hf
          · have hf := if_t c8 hf
            exact wX12_rules_81 C hk26 hk51 ha0 hW (lv_sub hl [0, 1, 2, 3, 5] rfl) hf
set_option maxRecDepth 100000 in
set_option maxHeartbeats 4000000 in
theorem wX12_rules_46 (C : Cx p s m meth c args cX12_rules 6 (some .int) RX12 D ca ad) {res : Int32 × Mm} {N : Nat} {k26 : Nat → Int32 → Int32 → Int32 → Mm → Option (Int32 × Mm)} (hk26 : ∀ (a0 : Nat) (a1 : Int32) (a2 : Int32) (a3 : Int32) (mm : Mm) (H : Heap) (locs : List Loc) (ls : Array Slot), (sX12 a0) → Wd D ca ad s.heap mm H locs → lv_has ls 6 [(0, .ref (ad a0)), (1, .int a1), (2, .int a2), (3, .int a3)] → k26 a0 a1 a2 a3 mm = some res → W p l e (rmX12_rules) s m args below meth c H locs 0 0 (MQ below (QI D ca ad res) args s 0 0 (AA ad)) (F0 m 26 ls [])) {a0 : Nat} {a1 : Int32} {a2 : Int32} {a3 : Int32} {s0 : Int32} {mm : Mm} {H : Heap} {locs : List Loc} {ls : Array Slot} (ha0 : sX12 a0) (hW : Wd D ca ad s.heap mm H locs) (hl : lv_has ls 6 [(0, .ref (ad a0)), (1, .int a1), (2, .int a2), (3, .int a3)]) (hf : fX12_rules_46 N k26 a0 a1 a2 a3 s0 mm = some res) : W p l e (rmX12_rules) s m args below meth c H locs 0 0 (MQ below (QI D ca ad res) args s 0 0 (AA ad)) (F0 m 46 ls [.int s0]) := by
  unfold fX12_rules_46 at hf
  refine lv_istore (lv' := [(4, .int s0), (0, .ref (ad a0)), (1, .int a1), (2, .int a2), (3, .int a3)]) C.1 C.2.1 dX12_rules_46 hl (by decide) rfl (fun ls hl => ?_)
  refine lv_iconst (v := 0) C.1 C.2.1 dX12_rules_48 (by decide) ?_
  refine lv_istore (lv' := [(5, .int 0), (4, .int s0), (0, .ref (ad a0)), (1, .int a1), (2, .int a2), (3, .int a3)]) C.1 C.2.1 dX12_rules_49 hl (by decide) rfl (fun ls hl => ?_)
  exact wX12_rules_51 C hk26 N ha0 hW (lv_sub hl [2, 3, 4, 5, 1, 0] rfl) hf
set_option maxRecDepth 100000 in
set_option maxHeartbeats 4000000 in
theorem wX12_rules_26 (C : Cx p s m meth c args cX12_rules 6 (some .int) RX12 D ca ad) {res : Int32 × Mm} {N : Nat}  : ∀ (n : Nat) {a0 : Nat} {a1 : Int32} {a2 : Int32} {a3 : Int32} {mm : Mm} {H : Heap} {locs : List Loc} {ls : Array Slot}, (sX12 a0) → Wd D ca ad s.heap mm H locs → lv_has ls 6 [(0, .ref (ad a0)), (1, .int a1), (2, .int a2), (3, .int a3)] → fX12_rules_26 N n a0 a1 a2 a3 mm = some res → W p l e (rmX12_rules) s m args below meth c H locs 0 0 (MQ below (QI D ca ad res) args s 0 0 (AA ad)) (F0 m 26 ls []) := by
  intro n
  induction n with
  | zero => intro a0 a1 a2 a3 mm H locs ls ha0 hW hl hf; cases hf
  | succ n ih =>
    intro a0 a1 a2 a3 mm H locs ls ha0 hW hl hf
    have hk26 : ∀ (a0 : Nat) (a1 : Int32) (a2 : Int32) (a3 : Int32) (mm : Mm) (H : Heap) (locs : List Loc) (ls : Array Slot), (sX12 a0) → Wd D ca ad s.heap mm H locs → lv_has ls 6 [(0, .ref (ad a0)), (1, .int a1), (2, .int a2), (3, .int a3)] → (fX12_rules_26 N n) a0 a1 a2 a3 mm = some res → W p l e (rmX12_rules) s m args below meth c H locs 0 0 (MQ below (QI D ca ad res) args s 0 0 (AA ad)) (F0 m 26 ls []) := fun a0 a1 a2 a3 mm H locs ls ha0 hW hl hf => ih ha0 hW hl hf
    unfold fX12_rules_26 at hf
    try dsimp only at hf
    refine lv_iload_n C.1 C.2.1 dX12_rules_26 rfl (lv_at hl 3 rfl) ?_
    refine lv_bipush (v := 6) C.1 C.2.1 dX12_rules_27 (by decide) ?_
    refine lv_icmp_ge (tgt := 113) C.1 C.2.1 dX12_rules_29 (by decide) (fun c9 => ?_) (fun c9 => ?_)
    · have hf := if_t c9 hf
      refine lv_aload_n C.1 C.2.1 dX12_rules_113 rfl (lv_at hl 0 rfl) ?_
      refine lv_iload_n C.1 C.2.1 dX12_rules_114 rfl (lv_at hl 2 rfl) ?_
      refine lv_iload_n C.1 C.2.1 dX12_rules_115 rfl (lv_at hl 1 rfl) ?_
      obtain ⟨x10, m11, r12, hf⟩ := bd2_s hf
      refine x_ci hW (x_runV C hW [.int a2, .int a1] [] (ha0).1 (ha0).2.1 kX12.1 kvX12_ask q_1173 (tX12_ask l C.2.2.2.2.2.2.1 ha0 r12) rfl rfl ⟨by decide, by decide⟩ rfl hl.1 rfl (Nat.le_of_ble_eq_true rfl) dX12_rules_116) (fun H locs hW => ?_)
      cases hf
      exact x_iret C hW dX12_rules_119
    · have hf := if_f c9 hf
      refine lv_iload_n C.1 C.2.1 dX12_rules_32 rfl (lv_at hl 1 rfl) ?_
      refine lv_iload_n C.1 C.2.1 dX12_rules_33 rfl (lv_at hl 3 rfl) ?_
      refine lv_ishr C.1 C.2.1 dX12_rules_34 ?_
      refine lv_iconst (v := 1) C.1 C.2.1 dX12_rules_35 (by decide) ?_
      refine lv_iand C.1 C.2.1 dX12_rules_36 ?_
      refine lv_iconst (v := 1) C.1 C.2.1 dX12_rules_37 (by decide) ?_
      refine lv_icmp_ne (tgt := 45) C.1 C.2.1 dX12_rules_38 (by decide) (fun c13 => ?_) (fun c13 => ?_)
      · have hf := if_f c13 hf
        refine lv_iconst (v := 0) C.1 C.2.1 dX12_rules_45 (by decide) ?_
        exact wX12_rules_46 C hk26 ha0 hW (lv_sub hl [0, 1, 2, 3] rfl) hf
      · have hf := if_t c13 hf
        refine lv_iconst (v := 1) C.1 C.2.1 dX12_rules_41 (by decide) ?_
        refine lv_goto (tgt := 46) C.1 C.2.1 dX12_rules_42 (by decide) ?_
        exact wX12_rules_46 C hk26 ha0 hW (lv_sub hl [0, 1, 2, 3] rfl) hf
set_option maxRecDepth 100000 in
set_option maxHeartbeats 4000000 in
theorem wX12_rules_0 (C : Cx p s m meth c args cX12_rules 6 (some .int) RX12 D ca ad) {res : Int32 × Mm} {N : Nat}  {a0 : Nat} {mm : Mm} {H : Heap} {locs : List Loc} {ls : Array Slot} (ha0 : sX12 a0) (hW : Wd D ca ad s.heap mm H locs) (hl : lv_has ls 6 [(0, .ref (ad a0))]) (hf : fX12_rules N a0 mm = some res) : W p l e (rmX12_rules) s m args below meth c H locs 0 0 (MQ below (QI D ca ad res) args s 0 0 (AA ad)) (F0 m 0 ls []) := by
  unfold fX12_rules at hf
  refine lv_aload_n C.1 C.2.1 dX12_rules_0 rfl (lv_at hl 0 rfl) ?_
  refine x_geti C hW (ha0).1 (ha0).2.1 (j := 10) rfl kX12 (by decide) rfl q_1026 dX12_rules_1 ?_
  refine lv_if_ne (tgt := 13) C.1 C.2.1 dX12_rules_4 (by decide) (fun c14 => ?_) (fun c14 => ?_)
  · have hf := if_f c14 hf
    refine lv_aload_n C.1 C.2.1 dX12_rules_13 rfl (lv_at hl 0 rfl) ?_
    obtain ⟨x15, m16, r17, hf⟩ := bd2_s hf
    refine x_ci hW (x_runV C hW [] [] (ha0).1 (ha0).2.1 kX12.1 kvX12_fitting q_1499 (tX12_fitting l C.2.2.2.2.2.2.1 ha0 r17) rfl rfl ⟨by decide, by decide⟩ rfl hl.1 rfl (Nat.le_of_ble_eq_true rfl) dX12_rules_14) (fun H locs hW => ?_)
    refine lv_istore_n (lv' := [(1, .int x15), (0, .ref (ad a0))]) C.1 C.2.1 dX12_rules_17 rfl hl (by decide) rfl (fun ls hl => ?_)
    refine lv_aload_n C.1 C.2.1 dX12_rules_18 rfl (lv_at hl 1 rfl) ?_
    obtain ⟨x18, m19, r20, hf⟩ := bd2_s hf
    refine x_cv hW (x_runV C hW [] [] (ha0).1 (ha0).2.1 kX12.1 kvX12_setRuled q_1511 (tX12_setRuled l C.2.2.2.2.2.2.1 ha0 r20) rfl rfl ⟨by decide, by decide⟩ rfl hl.1 rfl (Nat.le_of_ble_eq_true rfl) dX12_rules_19) (fun H locs hW => ?_)
    refine lv_iconst (v := 0) C.1 C.2.1 dX12_rules_22 (by decide) ?_
    refine lv_istore_n (lv' := [(2, .int 0), (1, .int x15), (0, .ref (ad a0))]) C.1 C.2.1 dX12_rules_23 rfl hl (by decide) rfl (fun ls hl => ?_)
    refine lv_iconst (v := 0) C.1 C.2.1 dX12_rules_24 (by decide) ?_
    refine lv_istore_n (lv' := [(3, .int 0), (2, .int 0), (1, .int x15), (0, .ref (ad a0))]) C.1 C.2.1 dX12_rules_25 rfl hl (by decide) rfl (fun ls hl => ?_)
    exact wX12_rules_26 C  N ha0 hW (lv_sub hl [3, 2, 1, 0] rfl) hf
  · have hf := if_t c14 hf
    refine lv_aload_n C.1 C.2.1 dX12_rules_7 rfl (lv_at hl 0 rfl) ?_
    refine lv_iconst (v := 4) C.1 C.2.1 dX12_rules_8 (by decide) ?_
    obtain ⟨x21, m22, r23, hf⟩ := bd2_s hf
    refine x_ci hW (x_runV C hW [.int 4] [] (ha0).1 (ha0).2.1 kX12.1 kvX12_meet q_1153 (tX12_meet l C.2.2.2.2.2.2.1 ha0 r23) rfl rfl ⟨by decide, by decide⟩ rfl hl.1 rfl (Nat.le_of_ble_eq_true rfl) dX12_rules_9) (fun H locs hW => ?_)
    cases hf
    exact x_iret C hW dX12_rules_12
set_option maxRecDepth 100000 in
set_option maxHeartbeats 4000000 in
theorem tX12_rules (l : Launch) {D : va_G} {ca ad : Nat → Nat} (hi : Inj ad) {N : Nat} {a0 : Nat} {mm : Mm} {res : Int32 × Mm} (ha0 : sX12 a0) (hf : fX12_rules N a0 mm = some res) : Met l yX12_rules (WS yX12_rules cX12_rules 6 (some .int)) (rmX12_rules) (va_Pc [.ref (ad a0)] (WB D ca ad mm)) (QI D ca ad res) 0 0 (AA ad) := by
  refine x_start hi (by decide) rfl (Nat.le_of_ble_eq_true rfl) (fun p e s m args below meth c ls C hW hl => ?_)
  exact wX12_rules_0 C ha0 hW (lv_sub hl [0] rfl) hf
set_option maxRecDepth 100000 in
set_option maxHeartbeats 4000000 in
theorem wX12_reply_36 (C : Cx p s m meth c args cX12_reply 4 (some .int) RX12 D ca ad) {res : Int32 × Mm} {N : Nat}  : ∀ (n : Nat) {a0 : Nat} {a1 : Int32} {a2 : Int32} {a3 : Int32} {mm : Mm} {H : Heap} {locs : List Loc} {ls : Array Slot}, (sX12 a0) → Wd D ca ad s.heap mm H locs → lv_has ls 4 [(0, .ref (ad a0)), (1, .int a1), (2, .int a2), (3, .int a3)] → fX12_reply_36 N n a0 a1 a2 a3 mm = some res → W p l e (rmX12_reply) s m args below meth c H locs 0 0 (MQ below (QI D ca ad res) args s 0 0 (AA ad)) (F0 m 36 ls []) := by
  intro n
  induction n with
  | zero => intro a0 a1 a2 a3 mm H locs ls ha0 hW hl hf; cases hf
  | succ n ih =>
    intro a0 a1 a2 a3 mm H locs ls ha0 hW hl hf
    have hk36 : ∀ (a0 : Nat) (a1 : Int32) (a2 : Int32) (a3 : Int32) (mm : Mm) (H : Heap) (locs : List Loc) (ls : Array Slot), (sX12 a0) → Wd D ca ad s.heap mm H locs → lv_has ls 4 [(0, .ref (ad a0)), (1, .int a1), (2, .int a2), (3, .int a3)] → (fX12_reply_36 N n) a0 a1 a2 a3 mm = some res → W p l e (rmX12_reply) s m args below meth c H locs 0 0 (MQ below (QI D ca ad res) args s 0 0 (AA ad)) (F0 m 36 ls []) := fun a0 a1 a2 a3 mm H locs ls ha0 hW hl hf => ih ha0 hW hl hf
    unfold fX12_reply_36 at hf
    try dsimp only at hf
    refine lv_iload_n C.1 C.2.1 dX12_reply_36 rfl (lv_at hl 2 rfl) ?_
    refine lv_iload_n C.1 C.2.1 dX12_reply_37 rfl (lv_at hl 3 rfl) ?_
    refine lv_ishr C.1 C.2.1 dX12_reply_38 ?_
    refine lv_iconst (v := 1) C.1 C.2.1 dX12_reply_39 (by decide) ?_
    refine lv_iand C.1 C.2.1 dX12_reply_40 ?_
    refine lv_if_ne (tgt := 50) C.1 C.2.1 dX12_reply_41 (by decide) (fun c1 => ?_) (fun c1 => ?_)
    · have hf := if_f c1 hf
      refine lv_aload_n C.1 C.2.1 dX12_reply_50 rfl (lv_at hl 0 rfl) ?_
      refine lv_iload_n C.1 C.2.1 dX12_reply_51 rfl (lv_at hl 3 rfl) ?_
      refine lv_aload_n C.1 C.2.1 dX12_reply_52 rfl (lv_at hl 0 rfl) ?_
      refine x_geti C hW (ha0).1 (ha0).2.1 (j := 37) rfl kX12 (by decide) rfl q_1053 dX12_reply_53 ?_
      obtain ⟨x2, m3, r4, hf⟩ := bd2_s hf
      refine x_cv hW (x_runV C hW [.int a3, .int (rd mm a0 37)] [] (ha0).1 (ha0).2.1 kX12.1 kvX12_layRule q_1483 (tX12_layRule l C.2.2.2.2.2.2.1 ha0 r4) rfl rfl ⟨by decide, by decide⟩ rfl hl.1 rfl (Nat.le_of_ble_eq_true rfl) dX12_reply_56) (fun H locs hW => ?_)
      refine lv_aload_n C.1 C.2.1 dX12_reply_59 rfl (lv_at hl 0 rfl) ?_
      refine lv_aload_n C.1 C.2.1 dX12_reply_60 rfl (lv_at hl 0 rfl) ?_
      refine x_getr C hW (ha0).1 (ha0).2.1 (j := 12) rfl kX12 (by decide) rfl q_1028 dX12_reply_61 ?_
      refine lv_iconst (v := 0) C.1 C.2.1 dX12_reply_64 (by decide) ?_
      obtain ⟨g5, hf⟩ := gd_s hf
      refine x_iald C hW ha0.2.2.2.2.2.2.2.2.2.1 g5 dX12_reply_65 ?_
      obtain ⟨x6, m7, r8, hf⟩ := bd2_s hf
      refine x_cv hW (x_runV C hW [.int (rd m3 (fr a0 12) ((0 : Int32).toNatClampNeg))] [] (ha0).1 (ha0).2.1 kX12.1 kvX12_setBest q_1328 (tX12_setBest l C.2.2.2.2.2.2.1 ha0 r8) rfl rfl ⟨by decide, by decide⟩ rfl hl.1 rfl (Nat.le_of_ble_eq_true rfl) dX12_reply_66) (fun H locs hW => ?_)
      refine lv_aload_n C.1 C.2.1 dX12_reply_69 rfl (lv_at hl 0 rfl) ?_
      refine lv_iload_n C.1 C.2.1 dX12_reply_70 rfl (lv_at hl 1 rfl) ?_
      obtain ⟨x9, m10, r11, hf⟩ := bd2_s hf
      refine x_cv hW (x_runV C hW [.int a1] [] (ha0).1 (ha0).2.1 kX12.1 kvX12_layBest q_1344 (tX12_layBest l C.2.2.2.2.2.2.1 ha0 r11) rfl rfl ⟨by decide, by decide⟩ rfl hl.1 rfl (Nat.le_of_ble_eq_true rfl) dX12_reply_71) (fun H locs hW => ?_)
      refine lv_aload_n C.1 C.2.1 dX12_reply_74 rfl (lv_at hl 0 rfl) ?_
      refine lv_iload_n C.1 C.2.1 dX12_reply_75 rfl (lv_at hl 3 rfl) ?_
      refine lv_aload_n C.1 C.2.1 dX12_reply_76 rfl (lv_at hl 0 rfl) ?_
      refine x_geti C hW (ha0).1 (ha0).2.1 (j := 24) rfl kX12 (by decide) rfl q_1040 dX12_reply_77 ?_
      obtain ⟨x12, m13, r14, hf⟩ := bd2_s hf
      refine x_ci hW (x_runV C hW [.int a3, .int (rd m10 a0 24)] [] (ha0).1 (ha0).2.1 kX12.1 kvX12_ask q_1173 (tX12_ask l C.2.2.2.2.2.2.1 ha0 r14) rfl rfl ⟨by decide, by decide⟩ rfl hl.1 rfl (Nat.le_of_ble_eq_true rfl) dX12_reply_80) (fun H locs hW => ?_)
      cases hf
      exact x_iret C hW dX12_reply_83
    · have hf := if_t c1 hf
      refine lv_iinc (v := (a3 + 1)) (lv' := [(3, .int (a3 + 1)), (0, .ref (ad a0)), (1, .int a1), (2, .int a2)]) C.1 C.2.1 dX12_reply_44 hl (k := 3) rfl rfl (by decide) rfl (fun ls hl => ?_)
      refine lv_goto (tgt := 36) C.1 C.2.1 dX12_reply_47 (by decide) ?_
      exact hk36 _ _ _ _ _ _ _ _ ha0 hW (lv_sub hl [1, 2, 3, 0] rfl) hf
set_option maxRecDepth 100000 in
set_option maxHeartbeats 4000000 in
theorem wX12_reply_0 (C : Cx p s m meth c args cX12_reply 4 (some .int) RX12 D ca ad) {res : Int32 × Mm} {N : Nat}  {a0 : Nat} {a1 : Int32} {mm : Mm} {H : Heap} {locs : List Loc} {ls : Array Slot} (ha0 : sX12 a0) (hW : Wd D ca ad s.heap mm H locs) (hl : lv_has ls 4 [(0, .ref (ad a0)), (1, .int a1)]) (hf : fX12_reply N a0 a1 mm = some res) : W p l e (rmX12_reply) s m args below meth c H locs 0 0 (MQ below (QI D ca ad res) args s 0 0 (AA ad)) (F0 m 0 ls []) := by
  unfold fX12_reply at hf
  refine lv_iload_n C.1 C.2.1 dX12_reply_0 rfl (lv_at hl 1 rfl) ?_
  obtain ⟨x15, m16, r17, hf⟩ := bd2_s hf
  refine x_ci hW (x_runS C hW [.int a1] [] kvX12_isRow q_1147 (tX12_isRow l C.2.2.2.2.2.2.1  r17) rfl rfl ⟨by decide, by decide⟩ rfl hl.1 rfl (Nat.le_of_ble_eq_true rfl) dX12_reply_1) (fun H locs hW => ?_)
  refine lv_if_ne (tgt := 9) C.1 C.2.1 dX12_reply_4 (by decide) (fun c18 => ?_) (fun c18 => ?_)
  · have hf := if_f c18 hf
    refine lv_aload_n C.1 C.2.1 dX12_reply_9 rfl (lv_at hl 0 rfl) ?_
    refine x_geti C hW (ha0).1 (ha0).2.1 (j := 10) rfl kX12 (by decide) rfl q_1026 dX12_reply_10 ?_
    refine lv_if_ne (tgt := 22) C.1 C.2.1 dX12_reply_13 (by decide) (fun c19 => ?_) (fun c19 => ?_)
    · have hf := if_f c19 hf
      refine lv_aload_n C.1 C.2.1 dX12_reply_22 rfl (lv_at hl 0 rfl) ?_
      obtain ⟨x20, m21, r22, hf⟩ := bd2_s hf
      refine x_ci hW (x_runV C hW [] [] (ha0).1 (ha0).2.1 kX12.1 kvX12_fitting q_1499 (tX12_fitting l C.2.2.2.2.2.2.1 ha0 r22) rfl rfl ⟨by decide, by decide⟩ rfl hl.1 rfl (Nat.le_of_ble_eq_true rfl) dX12_reply_23) (fun H locs hW => ?_)
      refine lv_istore_n (lv' := [(2, .int x20), (0, .ref (ad a0)), (1, .int a1)]) C.1 C.2.1 dX12_reply_26 rfl hl (by decide) rfl (fun ls hl => ?_)
      refine lv_iload_n C.1 C.2.1 dX12_reply_27 rfl (lv_at hl 0 rfl) ?_
      refine lv_if_ne (tgt := 34) C.1 C.2.1 dX12_reply_28 (by decide) (fun c23 => ?_) (fun c23 => ?_)
      · have hf := if_f c23 hf
        refine lv_iconst (v := 0) C.1 C.2.1 dX12_reply_34 (by decide) ?_
        refine lv_istore_n (lv' := [(3, .int 0), (2, .int x20), (0, .ref (ad a0)), (1, .int a1)]) C.1 C.2.1 dX12_reply_35 rfl hl (by decide) rfl (fun ls hl => ?_)
        exact wX12_reply_36 C  N ha0 hW (lv_sub hl [2, 3, 1, 0] rfl) hf
      · have hf := if_t c23 hf
        refine lv_bipush (v := (-9)) C.1 C.2.1 dX12_reply_31 (by decide) ?_
        cases hf
        exact x_iret C hW dX12_reply_33
    · have hf := if_t c19 hf
      refine lv_aload_n C.1 C.2.1 dX12_reply_16 rfl (lv_at hl 0 rfl) ?_
      refine lv_iconst (v := 4) C.1 C.2.1 dX12_reply_17 (by decide) ?_
      obtain ⟨x24, m25, r26, hf⟩ := bd2_s hf
      refine x_ci hW (x_runV C hW [.int 4] [] (ha0).1 (ha0).2.1 kX12.1 kvX12_meet q_1153 (tX12_meet l C.2.2.2.2.2.2.1 ha0 r26) rfl rfl ⟨by decide, by decide⟩ rfl hl.1 rfl (Nat.le_of_ble_eq_true rfl) dX12_reply_18) (fun H locs hW => ?_)
      cases hf
      exact x_iret C hW dX12_reply_21
  · have hf := if_t c18 hf
    refine lv_iconst (v := (-1)) C.1 C.2.1 dX12_reply_7 (by decide) ?_
    cases hf
    exact x_iret C hW dX12_reply_8
set_option maxRecDepth 100000 in
set_option maxHeartbeats 4000000 in
theorem tX12_reply (l : Launch) {D : va_G} {ca ad : Nat → Nat} (hi : Inj ad) {N : Nat} {a0 : Nat} {a1 : Int32} {mm : Mm} {res : Int32 × Mm} (ha0 : sX12 a0) (hf : fX12_reply N a0 a1 mm = some res) : Met l yX12_reply (WS yX12_reply cX12_reply 4 (some .int)) (rmX12_reply) (va_Pc [.ref (ad a0), .int a1] (WB D ca ad mm)) (QI D ca ad res) 0 0 (AA ad) := by
  refine x_start hi (by decide) rfl (Nat.le_of_ble_eq_true rfl) (fun p e s m args below meth c ls C hW hl => ?_)
  exact wX12_reply_0 C ha0 hW (lv_sub hl [0, 1] rfl) hf
set_option maxRecDepth 100000 in
set_option maxHeartbeats 4000000 in
theorem wX12_setsBy_140 (C : Cx p s m meth c args cX12_setsBy 6 (some .int) RX12 D ca ad) {res : Int32 × Mm} {N : Nat} {k4 : Nat → Int32 → Int32 → Int32 → Mm → Option (Int32 × Mm)} (hk4 : ∀ (a0 : Nat) (a1 : Int32) (a2 : Int32) (a3 : Int32) (mm : Mm) (H : Heap) (locs : List Loc) (ls : Array Slot), (sX12 a0) → Wd D ca ad s.heap mm H locs → lv_has ls 6 [(0, .ref (ad a0)), (1, .int a1), (2, .int a2), (3, .int a3)] → k4 a0 a1 a2 a3 mm = some res → W p l e (rmX12_setsBy) s m args below meth c H locs 0 0 (MQ below (QI D ca ad res) args s 0 0 (AA ad)) (F0 m 4 ls [])) {a0 : Nat} {a1 : Int32} {a3 : Int32} {s0 : Int32} {s1 : Int32} {mm : Mm} {H : Heap} {locs : List Loc} {ls : Array Slot} (ha0 : sX12 a0) (hW : Wd D ca ad s.heap mm H locs) (hl : lv_has ls 6 [(0, .ref (ad a0)), (1, .int a1), (3, .int a3)]) (hf : fX12_setsBy_140 N k4 a0 a1 a3 s0 s1 mm = some res) : W p l e (rmX12_setsBy) s m args below meth c H locs 0 0 (MQ below (QI D ca ad res) args s 0 0 (AA ad)) (F0 m 140 ls [.int s1, .int s0]) := by
  unfold fX12_setsBy_140 at hf
  refine lv_iadd C.1 C.2.1 dX12_setsBy_140 ?_
  refine lv_istore_n (lv' := [(2, .int (s0 + s1)), (0, .ref (ad a0)), (1, .int a1), (3, .int a3)]) C.1 C.2.1 dX12_setsBy_141 rfl hl (by decide) rfl (fun ls hl => ?_)
  refine lv_iinc (v := (a3 + 1)) (lv' := [(3, .int (a3 + 1)), (2, .int (s0 + s1)), (0, .ref (ad a0)), (1, .int a1)]) C.1 C.2.1 dX12_setsBy_142 hl (k := 3) rfl rfl (by decide) rfl (fun ls hl => ?_)
  refine lv_goto (tgt := 4) C.1 C.2.1 dX12_setsBy_145 (by decide) ?_
  exact hk4 _ _ _ _ _ _ _ _ ha0 hW (lv_sub hl [2, 3, 1, 0] rfl) hf
set_option maxRecDepth 100000 in
set_option maxHeartbeats 4000000 in
theorem wX12_setsBy_121 (C : Cx p s m meth c args cX12_setsBy 6 (some .int) RX12 D ca ad) {res : Int32 × Mm} {N : Nat} {k4 : Nat → Int32 → Int32 → Int32 → Mm → Option (Int32 × Mm)} {k80 : Nat → Int32 → Int32 → Int32 → Int32 → Int32 → Mm → Option (Int32 × Mm)} (hk4 : ∀ (a0 : Nat) (a1 : Int32) (a2 : Int32) (a3 : Int32) (mm : Mm) (H : Heap) (locs : List Loc) (ls : Array Slot), (sX12 a0) → Wd D ca ad s.heap mm H locs → lv_has ls 6 [(0, .ref (ad a0)), (1, .int a1), (2, .int a2), (3, .int a3)] → k4 a0 a1 a2 a3 mm = some res → W p l e (rmX12_setsBy) s m args below meth c H locs 0 0 (MQ below (QI D ca ad res) args s 0 0 (AA ad)) (F0 m 4 ls [])) (hk80 : ∀ (a0 : Nat) (a1 : Int32) (a2 : Int32) (a3 : Int32) (a4 : Int32) (a5 : Int32) (mm : Mm) (H : Heap) (locs : List Loc) (ls : Array Slot), (sX12 a0) → Wd D ca ad s.heap mm H locs → lv_has ls 6 [(0, .ref (ad a0)), (1, .int a1), (2, .int a2), (3, .int a3), (4, .int a4), (5, .int a5)] → k80 a0 a1 a2 a3 a4 a5 mm = some res → W p l e (rmX12_setsBy) s m args below meth c H locs 0 0 (MQ below (QI D ca ad res) args s 0 0 (AA ad)) (F0 m 80 ls [])) {a0 : Nat} {a1 : Int32} {a2 : Int32} {a3 : Int32} {a5 : Int32} {s0 : Int32} {mm : Mm} {H : Heap} {locs : List Loc} {ls : Array Slot} (ha0 : sX12 a0) (hW : Wd D ca ad s.heap mm H locs) (hl : lv_has ls 6 [(0, .ref (ad a0)), (1, .int a1), (2, .int a2), (3, .int a3), (5, .int a5)]) (hf : fX12_setsBy_121 N k4 k80 a0 a1 a2 a3 a5 s0 mm = some res) : W p l e (rmX12_setsBy) s m args below meth c H locs 0 0 (MQ below (QI D ca ad res) args s 0 0 (AA ad)) (F0 m 121 ls [.int s0]) := by
  unfold fX12_setsBy_121 at hf
  refine lv_istore (lv' := [(4, .int s0), (0, .ref (ad a0)), (1, .int a1), (2, .int a2), (3, .int a3), (5, .int a5)]) C.1 C.2.1 dX12_setsBy_121 hl (by decide) rfl (fun ls hl => ?_)
  refine lv_iinc (v := (a5 + 1)) (lv' := [(5, .int (a5 + 1)), (4, .int s0), (0, .ref (ad a0)), (1, .int a1), (2, .int a2), (3, .int a3)]) C.1 C.2.1 dX12_setsBy_123 hl (k := 5) rfl rfl (by decide) rfl (fun ls hl => ?_)
  refine lv_goto (tgt := 80) C.1 C.2.1 dX12_setsBy_126 (by decide) ?_
  exact hk80 _ _ _ _ _ _ _ _ _ _ ha0 hW (lv_sub hl [2, 3, 4, 5, 1, 0] rfl) hf
set_option maxRecDepth 100000 in
set_option maxHeartbeats 4000000 in
theorem wX12_setsBy_120 (C : Cx p s m meth c args cX12_setsBy 6 (some .int) RX12 D ca ad) {res : Int32 × Mm} {N : Nat} {k4 : Nat → Int32 → Int32 → Int32 → Mm → Option (Int32 × Mm)} {k80 : Nat → Int32 → Int32 → Int32 → Int32 → Int32 → Mm → Option (Int32 × Mm)} (hk4 : ∀ (a0 : Nat) (a1 : Int32) (a2 : Int32) (a3 : Int32) (mm : Mm) (H : Heap) (locs : List Loc) (ls : Array Slot), (sX12 a0) → Wd D ca ad s.heap mm H locs → lv_has ls 6 [(0, .ref (ad a0)), (1, .int a1), (2, .int a2), (3, .int a3)] → k4 a0 a1 a2 a3 mm = some res → W p l e (rmX12_setsBy) s m args below meth c H locs 0 0 (MQ below (QI D ca ad res) args s 0 0 (AA ad)) (F0 m 4 ls [])) (hk80 : ∀ (a0 : Nat) (a1 : Int32) (a2 : Int32) (a3 : Int32) (a4 : Int32) (a5 : Int32) (mm : Mm) (H : Heap) (locs : List Loc) (ls : Array Slot), (sX12 a0) → Wd D ca ad s.heap mm H locs → lv_has ls 6 [(0, .ref (ad a0)), (1, .int a1), (2, .int a2), (3, .int a3), (4, .int a4), (5, .int a5)] → k80 a0 a1 a2 a3 a4 a5 mm = some res → W p l e (rmX12_setsBy) s m args below meth c H locs 0 0 (MQ below (QI D ca ad res) args s 0 0 (AA ad)) (F0 m 80 ls [])) {a0 : Nat} {a1 : Int32} {a2 : Int32} {a3 : Int32} {a5 : Int32} {mm : Mm} {H : Heap} {locs : List Loc} {ls : Array Slot} (ha0 : sX12 a0) (hW : Wd D ca ad s.heap mm H locs) (hl : lv_has ls 6 [(0, .ref (ad a0)), (1, .int a1), (2, .int a2), (3, .int a3), (5, .int a5)]) (hf : fX12_setsBy_120 N k4 k80 a0 a1 a2 a3 a5 mm = some res) : W p l e (rmX12_setsBy) s m args below meth c H locs 0 0 (MQ below (QI D ca ad res) args s 0 0 (AA ad)) (F0 m 120 ls []) := by
  unfold fX12_setsBy_120 at hf
  refine lv_iconst (v := 0) C.1 C.2.1 dX12_setsBy_120 (by decide) ?_
  exact wX12_setsBy_121 C hk4 hk80 ha0 hW (lv_sub hl [0, 1, 2, 3, 4] rfl) hf
set_option maxRecDepth 100000 in
set_option maxHeartbeats 4000000 in
theorem wX12_setsBy_116 (C : Cx p s m meth c args cX12_setsBy 6 (some .int) RX12 D ca ad) {res : Int32 × Mm} {N : Nat} {k4 : Nat → Int32 → Int32 → Int32 → Mm → Option (Int32 × Mm)} {k80 : Nat → Int32 → Int32 → Int32 → Int32 → Int32 → Mm → Option (Int32 × Mm)} (hk4 : ∀ (a0 : Nat) (a1 : Int32) (a2 : Int32) (a3 : Int32) (mm : Mm) (H : Heap) (locs : List Loc) (ls : Array Slot), (sX12 a0) → Wd D ca ad s.heap mm H locs → lv_has ls 6 [(0, .ref (ad a0)), (1, .int a1), (2, .int a2), (3, .int a3)] → k4 a0 a1 a2 a3 mm = some res → W p l e (rmX12_setsBy) s m args below meth c H locs 0 0 (MQ below (QI D ca ad res) args s 0 0 (AA ad)) (F0 m 4 ls [])) (hk80 : ∀ (a0 : Nat) (a1 : Int32) (a2 : Int32) (a3 : Int32) (a4 : Int32) (a5 : Int32) (mm : Mm) (H : Heap) (locs : List Loc) (ls : Array Slot), (sX12 a0) → Wd D ca ad s.heap mm H locs → lv_has ls 6 [(0, .ref (ad a0)), (1, .int a1), (2, .int a2), (3, .int a3), (4, .int a4), (5, .int a5)] → k80 a0 a1 a2 a3 a4 a5 mm = some res → W p l e (rmX12_setsBy) s m args below meth c H locs 0 0 (MQ below (QI D ca ad res) args s 0 0 (AA ad)) (F0 m 80 ls [])) {a0 : Nat} {a1 : Int32} {a2 : Int32} {a3 : Int32} {a5 : Int32} {mm : Mm} {H : Heap} {locs : List Loc} {ls : Array Slot} (ha0 : sX12 a0) (hW : Wd D ca ad s.heap mm H locs) (hl : lv_has ls 6 [(0, .ref (ad a0)), (1, .int a1), (2, .int a2), (3, .int a3), (5, .int a5)]) (hf : fX12_setsBy_116 N k4 k80 a0 a1 a2 a3 a5 mm = some res) : W p l e (rmX12_setsBy) s m args below meth c H locs 0 0 (MQ below (QI D ca ad res) args s 0 0 (AA ad)) (F0 m 116 ls []) := by
  unfold fX12_setsBy_116 at hf
  refine lv_iconst (v := 1) C.1 C.2.1 dX12_setsBy_116 (by decide) ?_
  refine lv_goto (tgt := 121) C.1 C.2.1 dX12_setsBy_117 (by decide) ?_
  exact wX12_setsBy_121 C hk4 hk80 ha0 hW (lv_sub hl [0, 1, 2, 3, 4] rfl) hf
set_option maxRecDepth 100000 in
set_option maxHeartbeats 4000000 in
theorem wX12_setsBy_80 (C : Cx p s m meth c args cX12_setsBy 6 (some .int) RX12 D ca ad) {res : Int32 × Mm} {N : Nat} {k4 : Nat → Int32 → Int32 → Int32 → Mm → Option (Int32 × Mm)} (hk4 : ∀ (a0 : Nat) (a1 : Int32) (a2 : Int32) (a3 : Int32) (mm : Mm) (H : Heap) (locs : List Loc) (ls : Array Slot), (sX12 a0) → Wd D ca ad s.heap mm H locs → lv_has ls 6 [(0, .ref (ad a0)), (1, .int a1), (2, .int a2), (3, .int a3)] → k4 a0 a1 a2 a3 mm = some res → W p l e (rmX12_setsBy) s m args below meth c H locs 0 0 (MQ below (QI D ca ad res) args s 0 0 (AA ad)) (F0 m 4 ls [])) : ∀ (n : Nat) {a0 : Nat} {a1 : Int32} {a2 : Int32} {a3 : Int32} {a4 : Int32} {a5 : Int32} {mm : Mm} {H : Heap} {locs : List Loc} {ls : Array Slot}, (sX12 a0) → Wd D ca ad s.heap mm H locs → lv_has ls 6 [(0, .ref (ad a0)), (1, .int a1), (2, .int a2), (3, .int a3), (4, .int a4), (5, .int a5)] → fX12_setsBy_80 N k4 n a0 a1 a2 a3 a4 a5 mm = some res → W p l e (rmX12_setsBy) s m args below meth c H locs 0 0 (MQ below (QI D ca ad res) args s 0 0 (AA ad)) (F0 m 80 ls []) := by
  intro n
  induction n with
  | zero => intro a0 a1 a2 a3 a4 a5 mm H locs ls ha0 hW hl hf; cases hf
  | succ n ih =>
    intro a0 a1 a2 a3 a4 a5 mm H locs ls ha0 hW hl hf
    have hk80 : ∀ (a0 : Nat) (a1 : Int32) (a2 : Int32) (a3 : Int32) (a4 : Int32) (a5 : Int32) (mm : Mm) (H : Heap) (locs : List Loc) (ls : Array Slot), (sX12 a0) → Wd D ca ad s.heap mm H locs → lv_has ls 6 [(0, .ref (ad a0)), (1, .int a1), (2, .int a2), (3, .int a3), (4, .int a4), (5, .int a5)] → (fX12_setsBy_80 N k4 n) a0 a1 a2 a3 a4 a5 mm = some res → W p l e (rmX12_setsBy) s m args below meth c H locs 0 0 (MQ below (QI D ca ad res) args s 0 0 (AA ad)) (F0 m 80 ls []) := fun a0 a1 a2 a3 a4 a5 mm H locs ls ha0 hW hl hf => ih ha0 hW hl hf
    unfold fX12_setsBy_80 at hf
    try dsimp only at hf
    refine lv_iload C.1 C.2.1 dX12_setsBy_80 (lv_at hl 5 rfl) ?_
    refine lv_iload_n C.1 C.2.1 dX12_setsBy_82 rfl (lv_at hl 3 rfl) ?_
    refine lv_icmp_ge (tgt := 129) C.1 C.2.1 dX12_setsBy_83 (by decide) (fun c1 => ?_) (fun c1 => ?_)
    · have hf := if_t c1 hf
      refine lv_iload_n C.1 C.2.1 dX12_setsBy_129 rfl (lv_at hl 2 rfl) ?_
      refine lv_iload C.1 C.2.1 dX12_setsBy_130 (lv_at hl 4 rfl) ?_
      refine lv_if_eq (tgt := 139) C.1 C.2.1 dX12_setsBy_132 (by decide) (fun c2 => ?_) (fun c2 => ?_)
      · have hf := if_t c2 hf
        refine lv_iconst (v := 0) C.1 C.2.1 dX12_setsBy_139 (by decide) ?_
        exact wX12_setsBy_140 C hk4 ha0 hW (lv_sub hl [0, 1, 3] rfl) hf
      · have hf := if_f c2 hf
        refine lv_iconst (v := 1) C.1 C.2.1 dX12_setsBy_135 (by decide) ?_
        refine lv_goto (tgt := 140) C.1 C.2.1 dX12_setsBy_136 (by decide) ?_
        exact wX12_setsBy_140 C hk4 ha0 hW (lv_sub hl [0, 1, 3] rfl) hf
    · have hf := if_f c1 hf
      refine lv_iload C.1 C.2.1 dX12_setsBy_86 (lv_at hl 4 rfl) ?_
      refine lv_if_eq (tgt := 120) C.1 C.2.1 dX12_setsBy_88 (by decide) (fun c3 => ?_) (fun c3 => ?_)
      · have hf := if_t c3 hf
        exact wX12_setsBy_120 C hk4 hk80 ha0 hW (lv_sub hl [0, 1, 2, 3, 5] rfl) hf
      · have hf := if_f c3 hf
        refine lv_iload_n C.1 C.2.1 dX12_setsBy_91 rfl (lv_at hl 1 rfl) ?_
        refine lv_iload C.1 C.2.1 dX12_setsBy_92 (lv_at hl 5 rfl) ?_
        refine lv_ishr C.1 C.2.1 dX12_setsBy_94 ?_
        refine lv_iconst (v := 1) C.1 C.2.1 dX12_setsBy_95 (by decide) ?_
        refine lv_iand C.1 C.2.1 dX12_setsBy_96 ?_
        refine lv_if_eq (tgt := 116) C.1 C.2.1 dX12_setsBy_97 (by decide) (fun c4 => ?_) (fun c4 => ?_)
        · have hf := if_t c4 hf
          exact wX12_setsBy_116 C hk4 hk80 ha0 hW (lv_sub hl [0, 1, 2, 3, 5] rfl) hf
        · have hf := if_f c4 hf
          refine lv_aload_n C.1 C.2.1 dX12_setsBy_100 rfl (lv_at hl 0 rfl) ?_
          refine x_getr C hW (ha0).1 (ha0).2.1 (j := 39) rfl kX12 (by decide) rfl q_1055 dX12_setsBy_101 ?_
          refine lv_iload C.1 C.2.1 dX12_setsBy_104 (lv_at hl 5 rfl) ?_
          obtain ⟨g5, hf⟩ := gd_s hf
          refine x_iald C hW ha0.2.2.2.2.2.2.2.2.2.2.2.2.2.2.2.2.2.2.2.2.2.1 g5 dX12_setsBy_106 ?_
          refine lv_aload_n C.1 C.2.1 dX12_setsBy_107 rfl (lv_at hl 0 rfl) ?_
          refine x_getr C hW (ha0).1 (ha0).2.1 (j := 39) rfl kX12 (by decide) rfl q_1055 dX12_setsBy_108 ?_
          refine lv_iload_n C.1 C.2.1 dX12_setsBy_111 rfl (lv_at hl 3 rfl) ?_
          obtain ⟨g6, hf⟩ := gd_s hf
          refine x_iald C hW ha0.2.2.2.2.2.2.2.2.2.2.2.2.2.2.2.2.2.2.2.2.2.1 g6 dX12_setsBy_112 ?_
          refine lv_icmp_eq (tgt := 120) C.1 C.2.1 dX12_setsBy_113 (by decide) (fun c7 => ?_) (fun c7 => ?_)
          · have hf := if_t c7 hf
            exact wX12_setsBy_120 C hk4 hk80 ha0 hW (lv_sub hl [0, 1, 2, 3, 5] rfl) hf
          · have hf := if_f c7 hf
            exact wX12_setsBy_116 C hk4 hk80 ha0 hW (lv_sub hl [0, 1, 2, 3, 5] rfl) hf
set_option maxRecDepth 100000 in
set_option maxHeartbeats 4000000 in
theorem wX12_setsBy_75 (C : Cx p s m meth c args cX12_setsBy 6 (some .int) RX12 D ca ad) {res : Int32 × Mm} {N : Nat} {k4 : Nat → Int32 → Int32 → Int32 → Mm → Option (Int32 × Mm)} (hk4 : ∀ (a0 : Nat) (a1 : Int32) (a2 : Int32) (a3 : Int32) (mm : Mm) (H : Heap) (locs : List Loc) (ls : Array Slot), (sX12 a0) → Wd D ca ad s.heap mm H locs → lv_has ls 6 [(0, .ref (ad a0)), (1, .int a1), (2, .int a2), (3, .int a3)] → k4 a0 a1 a2 a3 mm = some res → W p l e (rmX12_setsBy) s m args below meth c H locs 0 0 (MQ below (QI D ca ad res) args s 0 0 (AA ad)) (F0 m 4 ls [])) {a0 : Nat} {a1 : Int32} {a2 : Int32} {a3 : Int32} {s0 : Int32} {mm : Mm} {H : Heap} {locs : List Loc} {ls : Array Slot} (ha0 : sX12 a0) (hW : Wd D ca ad s.heap mm H locs) (hl : lv_has ls 6 [(0, .ref (ad a0)), (1, .int a1), (2, .int a2), (3, .int a3)]) (hf : fX12_setsBy_75 N k4 a0 a1 a2 a3 s0 mm = some res) : W p l e (rmX12_setsBy) s m args below meth c H locs 0 0 (MQ below (QI D ca ad res) args s 0 0 (AA ad)) (F0 m 75 ls [.int s0]) := by
  unfold fX12_setsBy_75 at hf
  refine lv_istore (lv' := [(4, .int s0), (0, .ref (ad a0)), (1, .int a1), (2, .int a2), (3, .int a3)]) C.1 C.2.1 dX12_setsBy_75 hl (by decide) rfl (fun ls hl => ?_)
  refine lv_iconst (v := 0) C.1 C.2.1 dX12_setsBy_77 (by decide) ?_
  refine lv_istore (lv' := [(5, .int 0), (4, .int s0), (0, .ref (ad a0)), (1, .int a1), (2, .int a2), (3, .int a3)]) C.1 C.2.1 dX12_setsBy_78 hl (by decide) rfl (fun ls hl => ?_)
  exact wX12_setsBy_80 C hk4 N ha0 hW (lv_sub hl [2, 3, 4, 5, 1, 0] rfl) hf
set_option maxRecDepth 100000 in
set_option maxHeartbeats 4000000 in
theorem wX12_setsBy_13 (C : Cx p s m meth c args cX12_setsBy 6 (some .int) RX12 D ca ad) {res : Int32 × Mm} {N : Nat} {k4 : Nat → Int32 → Int32 → Int32 → Mm → Option (Int32 × Mm)} (hk4 : ∀ (a0 : Nat) (a1 : Int32) (a2 : Int32) (a3 : Int32) (mm : Mm) (H : Heap) (locs : List Loc) (ls : Array Slot), (sX12 a0) → Wd D ca ad s.heap mm H locs → lv_has ls 6 [(0, .ref (ad a0)), (1, .int a1), (2, .int a2), (3, .int a3)] → k4 a0 a1 a2 a3 mm = some res → W p l e (rmX12_setsBy) s m args below meth c H locs 0 0 (MQ below (QI D ca ad res) args s 0 0 (AA ad)) (F0 m 4 ls [])) : ∀ (n : Nat) {a0 : Nat} {a1 : Int32} {a2 : Int32} {a3 : Int32} {a4 : Int32} {mm : Mm} {H : Heap} {locs : List Loc} {ls : Array Slot}, (sX12 a0) → Wd D ca ad s.heap mm H locs → lv_has ls 6 [(0, .ref (ad a0)), (1, .int a1), (2, .int a2), (3, .int a3), (4, .int a4)] → fX12_setsBy_13 N k4 n a0 a1 a2 a3 a4 mm = some res → W p l e (rmX12_setsBy) s m args below meth c H locs 0 0 (MQ below (QI D ca ad res) args s 0 0 (AA ad)) (F0 m 13 ls []) := by
  intro n
  induction n with
  | zero => intro a0 a1 a2 a3 a4 mm H locs ls ha0 hW hl hf; cases hf
  | succ n ih =>
    intro a0 a1 a2 a3 a4 mm H locs ls ha0 hW hl hf
    have hk13 : ∀ (a0 : Nat) (a1 : Int32) (a2 : Int32) (a3 : Int32) (a4 : Int32) (mm : Mm) (H : Heap) (locs : List Loc) (ls : Array Slot), (sX12 a0) → Wd D ca ad s.heap mm H locs → lv_has ls 6 [(0, .ref (ad a0)), (1, .int a1), (2, .int a2), (3, .int a3), (4, .int a4)] → (fX12_setsBy_13 N k4 n) a0 a1 a2 a3 a4 mm = some res → W p l e (rmX12_setsBy) s m args below meth c H locs 0 0 (MQ below (QI D ca ad res) args s 0 0 (AA ad)) (F0 m 13 ls []) := fun a0 a1 a2 a3 a4 mm H locs ls ha0 hW hl hf => ih ha0 hW hl hf
    unfold fX12_setsBy_13 at hf
    try dsimp only at hf
    refine lv_iload C.1 C.2.1 dX12_setsBy_13 (lv_at hl 4 rfl) ?_
    refine lv_aload_n C.1 C.2.1 dX12_setsBy_15 rfl (lv_at hl 0 rfl) ?_
    refine x_geti C hW (ha0).1 (ha0).2.1 (j := 10) rfl kX12 (by decide) rfl q_1026 dX12_setsBy_16 ?_
    refine lv_icmp_ge (tgt := 47) C.1 C.2.1 dX12_setsBy_19 (by decide) (fun c8 => ?_) (fun c8 => ?_)
    · have hf := if_t c8 hf
      refine lv_aload_n C.1 C.2.1 dX12_setsBy_47 rfl (lv_at hl 0 rfl) ?_
      obtain ⟨x9, m10, r11, hf⟩ := bd2_s hf
      refine x_cv hW (x_runV C hW [] [] (ha0).1 (ha0).2.1 kX12.1 kvX12_setWinners q_1292 (tX12_setWinners l C.2.2.2.2.2.2.1 ha0 r11) rfl rfl ⟨by decide, by decide⟩ rfl hl.1 rfl (Nat.le_of_ble_eq_true rfl) dX12_setsBy_48) (fun H locs hW => ?_)
      refine lv_aload_n C.1 C.2.1 dX12_setsBy_51 rfl (lv_at hl 0 rfl) ?_
      refine x_getr C hW (ha0).1 (ha0).2.1 (j := 39) rfl kX12 (by decide) rfl q_1055 dX12_setsBy_52 ?_
      refine lv_iload_n C.1 C.2.1 dX12_setsBy_55 rfl (lv_at hl 3 rfl) ?_
      refine lv_aload_n C.1 C.2.1 dX12_setsBy_56 rfl (lv_at hl 0 rfl) ?_
      obtain ⟨x12, m13, r14, hf⟩ := bd2_s hf
      refine x_ci hW (x_runV C hW [] [.int a3, .ref (ad (fr a0 39))] (ha0).1 (ha0).2.1 kX12.1 kvX12_wonSet q_1507 (tX12_wonSet l C.2.2.2.2.2.2.1 ha0 r14) rfl rfl ⟨by decide, by decide⟩ rfl hl.1 rfl (Nat.le_of_ble_eq_true rfl) dX12_setsBy_57) (fun H locs hW => ?_)
      obtain ⟨g15, hf⟩ := gd_s hf
      refine x_iast C hW ha0.2.2.2.2.2.2.2.2.2.2.2.2.2.2.2.2.2.2.2.2.2.1 g15 dX12_setsBy_60 (fun H locs hW => ?_)
      obtain ⟨m16, em16⟩ : ∃ z, z = wr m13 (fr a0 39) a3.toNatClampNeg x12 := ⟨_, rfl⟩
      have hf := nm_s hf em16
      rw [← em16] at hW
      refine lv_iload_n C.1 C.2.1 dX12_setsBy_61 rfl (lv_at hl 1 rfl) ?_
      refine lv_iload_n C.1 C.2.1 dX12_setsBy_62 rfl (lv_at hl 3 rfl) ?_
      refine lv_ishr C.1 C.2.1 dX12_setsBy_63 ?_
      refine lv_iconst (v := 1) C.1 C.2.1 dX12_setsBy_64 (by decide) ?_
      refine lv_iand C.1 C.2.1 dX12_setsBy_65 ?_
      refine lv_iconst (v := 1) C.1 C.2.1 dX12_setsBy_66 (by decide) ?_
      refine lv_icmp_ne (tgt := 74) C.1 C.2.1 dX12_setsBy_67 (by decide) (fun c17 => ?_) (fun c17 => ?_)
      · have hf := if_f c17 hf
        refine lv_iconst (v := 0) C.1 C.2.1 dX12_setsBy_74 (by decide) ?_
        exact wX12_setsBy_75 C hk4 ha0 hW (lv_sub hl [0, 1, 2, 3] rfl) hf
      · have hf := if_t c17 hf
        refine lv_iconst (v := 1) C.1 C.2.1 dX12_setsBy_70 (by decide) ?_
        refine lv_goto (tgt := 75) C.1 C.2.1 dX12_setsBy_71 (by decide) ?_
        exact wX12_setsBy_75 C hk4 ha0 hW (lv_sub hl [0, 1, 2, 3] rfl) hf
    · have hf := if_f c8 hf
      refine lv_aload_n C.1 C.2.1 dX12_setsBy_22 rfl (lv_at hl 0 rfl) ?_
      refine x_getr C hW (ha0).1 (ha0).2.1 (j := 20) rfl kX12 (by decide) rfl q_1036 dX12_setsBy_23 ?_
      refine lv_iload C.1 C.2.1 dX12_setsBy_26 (lv_at hl 4 rfl) ?_
      refine lv_aload_n C.1 C.2.1 dX12_setsBy_28 rfl (lv_at hl 0 rfl) ?_
      refine x_getr C hW (ha0).1 (ha0).2.1 (j := 38) rfl kX12 (by decide) rfl q_1054 dX12_setsBy_29 ?_
      refine lv_bipush (v := 6) C.1 C.2.1 dX12_setsBy_32 (by decide) ?_
      refine lv_iload_n C.1 C.2.1 dX12_setsBy_34 rfl (lv_at hl 3 rfl) ?_
      refine lv_imul C.1 C.2.1 dX12_setsBy_35 ?_
      refine lv_iload C.1 C.2.1 dX12_setsBy_36 (lv_at hl 4 rfl) ?_
      refine lv_iadd C.1 C.2.1 dX12_setsBy_38 ?_
      obtain ⟨g18, hf⟩ := gd_s hf
      refine x_iald C hW ha0.2.2.2.2.2.2.2.2.2.2.2.2.2.2.2.2.2.2.2.2.1 g18 dX12_setsBy_39 ?_
      obtain ⟨g19, hf⟩ := gd_s hf
      refine x_iast C hW ha0.2.2.2.2.2.2.2.2.2.2.2.2.1 g19 dX12_setsBy_40 (fun H locs hW => ?_)
      obtain ⟨m20, em20⟩ : ∃ z, z = wr mm (fr a0 20) a4.toNatClampNeg (rd mm (fr a0 38) (((6 * a3) + a4).toNatClampNeg)) := ⟨_, rfl⟩
      have hf := nm_s hf em20
      rw [← em20] at hW
      refine lv_iinc (v := (a4 + 1)) (lv' := [(4, .int (a4 + 1)), (0, .ref (ad a0)), (1, .int a1), (2, .int a2), (3, .int a3)]) C.1 C.2.1 dX12_setsBy_41 hl (k := 4) rfl rfl (by decide) rfl (fun ls hl => ?_)
      refine lv_goto (tgt := 13) C.1 C.2.1 dX12_setsBy_44 (by decide) ?_
      exact hk13 _ _ _ _ _ _ _ _ _ ha0 hW (lv_sub hl [1, 2, 3, 4, 0] rfl) hf
set_option maxRecDepth 100000 in
set_option maxHeartbeats 4000000 in
theorem wX12_setsBy_4 (C : Cx p s m meth c args cX12_setsBy 6 (some .int) RX12 D ca ad) {res : Int32 × Mm} {N : Nat}  : ∀ (n : Nat) {a0 : Nat} {a1 : Int32} {a2 : Int32} {a3 : Int32} {mm : Mm} {H : Heap} {locs : List Loc} {ls : Array Slot}, (sX12 a0) → Wd D ca ad s.heap mm H locs → lv_has ls 6 [(0, .ref (ad a0)), (1, .int a1), (2, .int a2), (3, .int a3)] → fX12_setsBy_4 N n a0 a1 a2 a3 mm = some res → W p l e (rmX12_setsBy) s m args below meth c H locs 0 0 (MQ below (QI D ca ad res) args s 0 0 (AA ad)) (F0 m 4 ls []) := by
  intro n
  induction n with
  | zero => intro a0 a1 a2 a3 mm H locs ls ha0 hW hl hf; cases hf
  | succ n ih =>
    intro a0 a1 a2 a3 mm H locs ls ha0 hW hl hf
    have hk4 : ∀ (a0 : Nat) (a1 : Int32) (a2 : Int32) (a3 : Int32) (mm : Mm) (H : Heap) (locs : List Loc) (ls : Array Slot), (sX12 a0) → Wd D ca ad s.heap mm H locs → lv_has ls 6 [(0, .ref (ad a0)), (1, .int a1), (2, .int a2), (3, .int a3)] → (fX12_setsBy_4 N n) a0 a1 a2 a3 mm = some res → W p l e (rmX12_setsBy) s m args below meth c H locs 0 0 (MQ below (QI D ca ad res) args s 0 0 (AA ad)) (F0 m 4 ls []) := fun a0 a1 a2 a3 mm H locs ls ha0 hW hl hf => ih ha0 hW hl hf
    unfold fX12_setsBy_4 at hf
    try dsimp only at hf
    refine lv_iload_n C.1 C.2.1 dX12_setsBy_4 rfl (lv_at hl 3 rfl) ?_
    refine lv_bipush (v := 6) C.1 C.2.1 dX12_setsBy_5 (by decide) ?_
    refine lv_icmp_ge (tgt := 148) C.1 C.2.1 dX12_setsBy_7 (by decide) (fun c21 => ?_) (fun c21 => ?_)
    · have hf := if_t c21 hf
      refine lv_iload_n C.1 C.2.1 dX12_setsBy_148 rfl (lv_at hl 2 rfl) ?_
      cases hf
      exact x_iret C hW dX12_setsBy_149
    · have hf := if_f c21 hf
      refine lv_iconst (v := 0) C.1 C.2.1 dX12_setsBy_10 (by decide) ?_
      refine lv_istore (lv' := [(4, .int 0), (0, .ref (ad a0)), (1, .int a1), (2, .int a2), (3, .int a3)]) C.1 C.2.1 dX12_setsBy_11 hl (by decide) rfl (fun ls hl => ?_)
      exact wX12_setsBy_13 C hk4 N ha0 hW (lv_sub hl [1, 2, 3, 4, 0] rfl) hf
set_option maxRecDepth 100000 in
set_option maxHeartbeats 4000000 in
theorem wX12_setsBy_0 (C : Cx p s m meth c args cX12_setsBy 6 (some .int) RX12 D ca ad) {res : Int32 × Mm} {N : Nat}  {a0 : Nat} {a1 : Int32} {mm : Mm} {H : Heap} {locs : List Loc} {ls : Array Slot} (ha0 : sX12 a0) (hW : Wd D ca ad s.heap mm H locs) (hl : lv_has ls 6 [(0, .ref (ad a0)), (1, .int a1)]) (hf : fX12_setsBy N a0 a1 mm = some res) : W p l e (rmX12_setsBy) s m args below meth c H locs 0 0 (MQ below (QI D ca ad res) args s 0 0 (AA ad)) (F0 m 0 ls []) := by
  unfold fX12_setsBy at hf
  refine lv_iconst (v := 0) C.1 C.2.1 dX12_setsBy_0 (by decide) ?_
  refine lv_istore_n (lv' := [(2, .int 0), (0, .ref (ad a0)), (1, .int a1)]) C.1 C.2.1 dX12_setsBy_1 rfl hl (by decide) rfl (fun ls hl => ?_)
  refine lv_iconst (v := 0) C.1 C.2.1 dX12_setsBy_2 (by decide) ?_
  refine lv_istore_n (lv' := [(3, .int 0), (2, .int 0), (0, .ref (ad a0)), (1, .int a1)]) C.1 C.2.1 dX12_setsBy_3 rfl hl (by decide) rfl (fun ls hl => ?_)
  exact wX12_setsBy_4 C  N ha0 hW (lv_sub hl [2, 3, 1, 0] rfl) hf
set_option maxRecDepth 100000 in
set_option maxHeartbeats 4000000 in
theorem tX12_setsBy (l : Launch) {D : va_G} {ca ad : Nat → Nat} (hi : Inj ad) {N : Nat} {a0 : Nat} {a1 : Int32} {mm : Mm} {res : Int32 × Mm} (ha0 : sX12 a0) (hf : fX12_setsBy N a0 a1 mm = some res) : Met l yX12_setsBy (WS yX12_setsBy cX12_setsBy 6 (some .int)) (rmX12_setsBy) (va_Pc [.ref (ad a0), .int a1] (WB D ca ad mm)) (QI D ca ad res) 0 0 (AA ad) := by
  refine x_start hi (by decide) rfl (Nat.le_of_ble_eq_true rfl) (fun p e s m args below meth c ls C hW hl => ?_)
  exact wX12_setsBy_0 C ha0 hW (lv_sub hl [0, 1] rfl) hf
set_option maxRecDepth 100000 in
set_option maxHeartbeats 4000000 in
theorem wX12_tell_112 (C : Cx p s m meth c args cX12_tell 6 (some .int) RX12 D ca ad) {res : Int32 × Mm} {N : Nat} {k59 : Nat → Int32 → Int32 → Int32 → Mm → Option (Int32 × Mm)} (hk59 : ∀ (a0 : Nat) (a1 : Int32) (a2 : Int32) (a3 : Int32) (mm : Mm) (H : Heap) (locs : List Loc) (ls : Array Slot), (sX12 a0) → Wd D ca ad s.heap mm H locs → lv_has ls 6 [(0, .ref (ad a0)), (1, .int a1), (2, .int a2), (3, .int a3)] → k59 a0 a1 a2 a3 mm = some res → W p l e (rmX12_tell) s m args below meth c H locs 0 0 (MQ below (QI D ca ad res) args s 0 0 (AA ad)) (F0 m 59 ls [])) {a0 : Nat} {a1 : Int32} {a2 : Int32} {a3 : Int32} {mm : Mm} {H : Heap} {locs : List Loc} {ls : Array Slot} (ha0 : sX12 a0) (hW : Wd D ca ad s.heap mm H locs) (hl : lv_has ls 6 [(0, .ref (ad a0)), (1, .int a1), (2, .int a2), (3, .int a3)]) (hf : fX12_tell_112 N k59 a0 a1 a2 a3 mm = some res) : W p l e (rmX12_tell) s m args below meth c H locs 0 0 (MQ below (QI D ca ad res) args s 0 0 (AA ad)) (F0 m 112 ls []) := by
  unfold fX12_tell_112 at hf
  refine lv_aload_n C.1 C.2.1 dX12_tell_112 rfl (lv_at hl 0 rfl) ?_
  refine lv_aload_n C.1 C.2.1 dX12_tell_113 rfl (lv_at hl 0 rfl) ?_
  refine x_getr C hW (ha0).1 (ha0).2.1 (j := 12) rfl kX12 (by decide) rfl q_1028 dX12_tell_114 ?_
  refine lv_iconst (v := 0) C.1 C.2.1 dX12_tell_117 (by decide) ?_
  obtain ⟨g1, hf⟩ := gd_s hf
  refine x_iald C hW ha0.2.2.2.2.2.2.2.2.2.1 g1 dX12_tell_118 ?_
  obtain ⟨x2, m3, r4, hf⟩ := bd2_s hf
  refine x_ci hW (x_runV C hW [.int (rd mm (fr a0 12) ((0 : Int32).toNatClampNeg))] [] (ha0).1 (ha0).2.1 kX12.1 kvX12_nextStep q_1369 (tX12_nextStep l C.2.2.2.2.2.2.1 ha0 r4) rfl rfl ⟨by decide, by decide⟩ rfl hl.1 rfl (Nat.le_of_ble_eq_true rfl) dX12_tell_119) (fun H locs hW => ?_)
  refine lv_if_ne (tgt := 59) C.1 C.2.1 dX12_tell_122 (by decide) (fun c5 => ?_) (fun c5 => ?_)
  · have hf := if_f c5 hf
    exact hk59 _ _ _ _ _ _ _ _ ha0 hW (lv_sub hl [0, 1, 2, 3] rfl) hf
  · have hf := if_t c5 hf
    refine lv_aload_n C.1 C.2.1 dX12_tell_125 rfl (lv_at hl 0 rfl) ?_
    refine lv_iload_n C.1 C.2.1 dX12_tell_126 rfl (lv_at hl 1 rfl) ?_
    obtain ⟨x6, m7, r8, hf⟩ := bd2_s hf
    refine x_cv hW (x_runV C hW [.int a1] [] (ha0).1 (ha0).2.1 kX12.1 kvX12_layBest q_1344 (tX12_layBest l C.2.2.2.2.2.2.1 ha0 r8) rfl rfl ⟨by decide, by decide⟩ rfl hl.1 rfl (Nat.le_of_ble_eq_true rfl) dX12_tell_127) (fun H locs hW => ?_)
    refine lv_iload_n C.1 C.2.1 dX12_tell_130 rfl (lv_at hl 3 rfl) ?_
    cases hf
    exact x_iret C hW dX12_tell_131
set_option maxRecDepth 100000 in
set_option maxHeartbeats 4000000 in
theorem wX12_tell_83 (C : Cx p s m meth c args cX12_tell 6 (some .int) RX12 D ca ad) {res : Int32 × Mm} {N : Nat} {k59 : Nat → Int32 → Int32 → Int32 → Mm → Option (Int32 × Mm)} (hk59 : ∀ (a0 : Nat) (a1 : Int32) (a2 : Int32) (a3 : Int32) (mm : Mm) (H : Heap) (locs : List Loc) (ls : Array Slot), (sX12 a0) → Wd D ca ad s.heap mm H locs → lv_has ls 6 [(0, .ref (ad a0)), (1, .int a1), (2, .int a2), (3, .int a3)] → k59 a0 a1 a2 a3 mm = some res → W p l e (rmX12_tell) s m args below meth c H locs 0 0 (MQ below (QI D ca ad res) args s 0 0 (AA ad)) (F0 m 59 ls [])) : ∀ (n : Nat) {a0 : Nat} {a1 : Int32} {a2 : Int32} {a3 : Int32} {a5 : Int32} {mm : Mm} {H : Heap} {locs : List Loc} {ls : Array Slot}, (sX12 a0) → Wd D ca ad s.heap mm H locs → lv_has ls 6 [(0, .ref (ad a0)), (1, .int a1), (2, .int a2), (3, .int a3), (5, .int a5)] → fX12_tell_83 N k59 n a0 a1 a2 a3 a5 mm = some res → W p l e (rmX12_tell) s m args below meth c H locs 0 0 (MQ below (QI D ca ad res) args s 0 0 (AA ad)) (F0 m 83 ls []) := by
  intro n
  induction n with
  | zero => intro a0 a1 a2 a3 a5 mm H locs ls ha0 hW hl hf; cases hf
  | succ n ih =>
    intro a0 a1 a2 a3 a5 mm H locs ls ha0 hW hl hf
    have hk83 : ∀ (a0 : Nat) (a1 : Int32) (a2 : Int32) (a3 : Int32) (a5 : Int32) (mm : Mm) (H : Heap) (locs : List Loc) (ls : Array Slot), (sX12 a0) → Wd D ca ad s.heap mm H locs → lv_has ls 6 [(0, .ref (ad a0)), (1, .int a1), (2, .int a2), (3, .int a3), (5, .int a5)] → (fX12_tell_83 N k59 n) a0 a1 a2 a3 a5 mm = some res → W p l e (rmX12_tell) s m args below meth c H locs 0 0 (MQ below (QI D ca ad res) args s 0 0 (AA ad)) (F0 m 83 ls []) := fun a0 a1 a2 a3 a5 mm H locs ls ha0 hW hl hf => ih ha0 hW hl hf
    unfold fX12_tell_83 at hf
    try dsimp only at hf
    refine lv_iload C.1 C.2.1 dX12_tell_83 (lv_at hl 4 rfl) ?_
    refine lv_aload_n C.1 C.2.1 dX12_tell_85 rfl (lv_at hl 0 rfl) ?_
    refine x_geti C hW (ha0).1 (ha0).2.1 (j := 10) rfl kX12 (by decide) rfl q_1026 dX12_tell_86 ?_
    refine lv_icmp_ge (tgt := 112) C.1 C.2.1 dX12_tell_89 (by decide) (fun c9 => ?_) (fun c9 => ?_)
    · have hf := if_t c9 hf
      exact wX12_tell_112 C hk59 ha0 hW (lv_sub hl [0, 1, 2, 3] rfl) hf
    · have hf := if_f c9 hf
      refine lv_aload_n C.1 C.2.1 dX12_tell_92 rfl (lv_at hl 0 rfl) ?_
      refine x_getr C hW (ha0).1 (ha0).2.1 (j := 27) rfl kX12 (by decide) rfl q_1043 dX12_tell_93 ?_
      refine lv_iload C.1 C.2.1 dX12_tell_96 (lv_at hl 4 rfl) ?_
      refine lv_aload_n C.1 C.2.1 dX12_tell_98 rfl (lv_at hl 0 rfl) ?_
      refine x_getr C hW (ha0).1 (ha0).2.1 (j := 30) rfl kX12 (by decide) rfl q_1046 dX12_tell_99 ?_
      refine lv_iload C.1 C.2.1 dX12_tell_102 (lv_at hl 4 rfl) ?_
      obtain ⟨g10, hf⟩ := gd_s hf
      refine x_iald C hW ha0.2.2.2.2.2.2.2.2.2.2.2.2.2.2.2.2.1 g10 dX12_tell_104 ?_
      obtain ⟨g11, hf⟩ := gd_s hf
      refine x_iast C hW ha0.2.2.2.2.2.2.2.2.2.2.2.2.2.2.2.1 g11 dX12_tell_105 (fun H locs hW => ?_)
      obtain ⟨m12, em12⟩ : ∃ z, z = wr mm (fr a0 27) a5.toNatClampNeg (rd mm (fr a0 30) a5.toNatClampNeg) := ⟨_, rfl⟩
      have hf := nm_s hf em12
      rw [← em12] at hW
      refine lv_iinc (v := (a5 + 1)) (lv' := [(5, .int (a5 + 1)), (0, .ref (ad a0)), (1, .int a1), (2, .int a2), (3, .int a3)]) C.1 C.2.1 dX12_tell_106 hl (k := 4) rfl rfl (by decide) rfl (fun ls hl => ?_)
      refine lv_goto (tgt := 83) C.1 C.2.1 dX12_tell_109 (by decide) ?_
      exact hk83 _ _ _ _ _ _ _ _ _ ha0 hW (lv_sub hl [1, 2, 3, 4, 0] rfl) hf
set_option maxRecDepth 100000 in
set_option maxHeartbeats 4000000 in
theorem wX12_tell_59 (C : Cx p s m meth c args cX12_tell 6 (some .int) RX12 D ca ad) {res : Int32 × Mm} {N : Nat}  : ∀ (n : Nat) {a0 : Nat} {a1 : Int32} {a2 : Int32} {a3 : Int32} {mm : Mm} {H : Heap} {locs : List Loc} {ls : Array Slot}, (sX12 a0) → Wd D ca ad s.heap mm H locs → lv_has ls 6 [(0, .ref (ad a0)), (1, .int a1), (2, .int a2), (3, .int a3)] → fX12_tell_59 N n a0 a1 a2 a3 mm = some res → W p l e (rmX12_tell) s m args below meth c H locs 0 0 (MQ below (QI D ca ad res) args s 0 0 (AA ad)) (F0 m 59 ls []) := by
  intro n
  induction n with
  | zero => intro a0 a1 a2 a3 mm H locs ls ha0 hW hl hf; cases hf
  | succ n ih =>
    intro a0 a1 a2 a3 mm H locs ls ha0 hW hl hf
    have hk59 : ∀ (a0 : Nat) (a1 : Int32) (a2 : Int32) (a3 : Int32) (mm : Mm) (H : Heap) (locs : List Loc) (ls : Array Slot), (sX12 a0) → Wd D ca ad s.heap mm H locs → lv_has ls 6 [(0, .ref (ad a0)), (1, .int a1), (2, .int a2), (3, .int a3)] → (fX12_tell_59 N n) a0 a1 a2 a3 mm = some res → W p l e (rmX12_tell) s m args below meth c H locs 0 0 (MQ below (QI D ca ad res) args s 0 0 (AA ad)) (F0 m 59 ls []) := fun a0 a1 a2 a3 mm H locs ls ha0 hW hl hf => ih ha0 hW hl hf
    unfold fX12_tell_59 at hf
    try dsimp only at hf
    refine lv_aload_n C.1 C.2.1 dX12_tell_59 rfl (lv_at hl 0 rfl) ?_
    refine lv_iconst (v := 0) C.1 C.2.1 dX12_tell_60 (by decide) ?_
    obtain ⟨x13, m14, r15, hf⟩ := bd2_s hf
    refine x_cv hW (x_runV C hW [.int 0] [] (ha0).1 (ha0).2.1 kX12.1 kvX12_stepFor q_1365 (tX12_stepFor l C.2.2.2.2.2.2.1 ha0 r15) rfl rfl ⟨by decide, by decide⟩ rfl hl.1 rfl (Nat.le_of_ble_eq_true rfl) dX12_tell_61) (fun H locs hW => ?_)
    refine lv_aload_n C.1 C.2.1 dX12_tell_64 rfl (lv_at hl 0 rfl) ?_
    refine lv_iload_n C.1 C.2.1 dX12_tell_65 rfl (lv_at hl 2 rfl) ?_
    obtain ⟨x16, m17, r18, hf⟩ := bd2_s hf
    refine x_ci hW (x_runV C hW [.int a2] [] (ha0).1 (ha0).2.1 kX12.1 kvX12_setsBy q_1527 (tX12_setsBy l C.2.2.2.2.2.2.1 ha0 r18) rfl rfl ⟨by decide, by decide⟩ rfl hl.1 rfl (Nat.le_of_ble_eq_true rfl) dX12_tell_66) (fun H locs hW => ?_)
    refine lv_istore (lv' := [(4, .int x16), (0, .ref (ad a0)), (1, .int a1), (2, .int a2), (3, .int a3)]) C.1 C.2.1 dX12_tell_69 hl (by decide) rfl (fun ls hl => ?_)
    refine lv_iload C.1 C.2.1 dX12_tell_71 (lv_at hl 0 rfl) ?_
    refine lv_iload_n C.1 C.2.1 dX12_tell_73 rfl (lv_at hl 4 rfl) ?_
    refine lv_icmp_le (tgt := 112) C.1 C.2.1 dX12_tell_74 (by decide) (fun c19 => ?_) (fun c19 => ?_)
    · have hf := if_t c19 hf
      exact wX12_tell_112 C hk59 ha0 hW (lv_sub hl [1, 2, 3, 4] rfl) hf
    · have hf := if_f c19 hf
      refine lv_iload C.1 C.2.1 dX12_tell_77 (lv_at hl 0 rfl) ?_
      refine lv_istore_n (lv' := [(3, .int x16), (4, .int x16), (0, .ref (ad a0)), (1, .int a1), (2, .int a2)]) C.1 C.2.1 dX12_tell_79 rfl hl (by decide) rfl (fun ls hl => ?_)
      refine lv_iconst (v := 0) C.1 C.2.1 dX12_tell_80 (by decide) ?_
      refine lv_istore (lv' := [(5, .int 0), (3, .int x16), (4, .int x16), (0, .ref (ad a0)), (1, .int a1), (2, .int a2)]) C.1 C.2.1 dX12_tell_81 hl (by decide) rfl (fun ls hl => ?_)
      exact wX12_tell_83 C hk59 N ha0 hW (lv_sub hl [3, 4, 5, 1, 0] rfl) hf
set_option maxRecDepth 100000 in
set_option maxHeartbeats 4000000 in
theorem wX12_tell_0 (C : Cx p s m meth c args cX12_tell 6 (some .int) RX12 D ca ad) {res : Int32 × Mm} {N : Nat}  {a0 : Nat} {a1 : Int32} {mm : Mm} {H : Heap} {locs : List Loc} {ls : Array Slot} (ha0 : sX12 a0) (hW : Wd D ca ad s.heap mm H locs) (hl : lv_has ls 6 [(0, .ref (ad a0)), (1, .int a1)]) (hf : fX12_tell N a0 a1 mm = some res) : W p l e (rmX12_tell) s m args below meth c H locs 0 0 (MQ below (QI D ca ad res) args s 0 0 (AA ad)) (F0 m 0 ls []) := by
  unfold fX12_tell at hf
  refine lv_iload_n C.1 C.2.1 dX12_tell_0 rfl (lv_at hl 1 rfl) ?_
  obtain ⟨x20, m21, r22, hf⟩ := bd2_s hf
  refine x_ci hW (x_runS C hW [.int a1] [] kvX12_isRow q_1147 (tX12_isRow l C.2.2.2.2.2.2.1  r22) rfl rfl ⟨by decide, by decide⟩ rfl hl.1 rfl (Nat.le_of_ble_eq_true rfl) dX12_tell_1) (fun H locs hW => ?_)
  refine lv_if_ne (tgt := 9) C.1 C.2.1 dX12_tell_4 (by decide) (fun c23 => ?_) (fun c23 => ?_)
  · have hf := if_f c23 hf
    refine lv_aload_n C.1 C.2.1 dX12_tell_9 rfl (lv_at hl 0 rfl) ?_
    refine x_getr C hW (ha0).1 (ha0).2.1 (j := 12) rfl kX12 (by decide) rfl q_1028 dX12_tell_10 ?_
    refine lv_iconst (v := 0) C.1 C.2.1 dX12_tell_13 (by decide) ?_
    obtain ⟨g24, hf⟩ := gd_s hf
    refine x_iald C hW ha0.2.2.2.2.2.2.2.2.2.1 g24 dX12_tell_14 ?_
    refine lv_bipush (v := 10) C.1 C.2.1 dX12_tell_15 (by decide) ?_
    refine lv_icmp_gt (tgt := 28) C.1 C.2.1 dX12_tell_17 (by decide) (fun c25 => ?_) (fun c25 => ?_)
    · have hf := if_t c25 hf
      refine lv_bipush (v := (-6)) C.1 C.2.1 dX12_tell_28 (by decide) ?_
      cases hf
      exact x_iret C hW dX12_tell_30
    · have hf := if_f c25 hf
      refine lv_aload_n C.1 C.2.1 dX12_tell_20 rfl (lv_at hl 0 rfl) ?_
      refine x_geti C hW (ha0).1 (ha0).2.1 (j := 10) rfl kX12 (by decide) rfl q_1026 dX12_tell_21 ?_
      refine lv_iconst (v := 4) C.1 C.2.1 dX12_tell_24 (by decide) ?_
      refine lv_icmp_le (tgt := 31) C.1 C.2.1 dX12_tell_25 (by decide) (fun c26 => ?_) (fun c26 => ?_)
      · have hf := if_t c26 hf
        refine lv_aload_n C.1 C.2.1 dX12_tell_31 rfl (lv_at hl 0 rfl) ?_
        refine x_geti C hW (ha0).1 (ha0).2.1 (j := 10) rfl kX12 (by decide) rfl q_1026 dX12_tell_32 ?_
        refine lv_if_ne (tgt := 44) C.1 C.2.1 dX12_tell_35 (by decide) (fun c27 => ?_) (fun c27 => ?_)
        · have hf := if_f c27 hf
          refine lv_aload_n C.1 C.2.1 dX12_tell_44 rfl (lv_at hl 0 rfl) ?_
          obtain ⟨x28, m29, r30, hf⟩ := bd2_s hf
          refine x_ci hW (x_runV C hW [] [] (ha0).1 (ha0).2.1 kX12.1 kvX12_fitting q_1499 (tX12_fitting l C.2.2.2.2.2.2.1 ha0 r30) rfl rfl ⟨by decide, by decide⟩ rfl hl.1 rfl (Nat.le_of_ble_eq_true rfl) dX12_tell_45) (fun H locs hW => ?_)
          refine lv_istore_n (lv' := [(2, .int x28), (0, .ref (ad a0)), (1, .int a1)]) C.1 C.2.1 dX12_tell_48 rfl hl (by decide) rfl (fun ls hl => ?_)
          refine lv_aload_n C.1 C.2.1 dX12_tell_49 rfl (lv_at hl 1 rfl) ?_
          obtain ⟨x31, m32, r33, hf⟩ := bd2_s hf
          refine x_cv hW (x_runV C hW [] [] (ha0).1 (ha0).2.1 kX12.1 kvX12_setRuled q_1511 (tX12_setRuled l C.2.2.2.2.2.2.1 ha0 r33) rfl rfl ⟨by decide, by decide⟩ rfl hl.1 rfl (Nat.le_of_ble_eq_true rfl) dX12_tell_50) (fun H locs hW => ?_)
          refine lv_iconst (v := (-1)) C.1 C.2.1 dX12_tell_53 (by decide) ?_
          refine lv_istore_n (lv' := [(3, .int (-1)), (2, .int x28), (0, .ref (ad a0)), (1, .int a1)]) C.1 C.2.1 dX12_tell_54 rfl hl (by decide) rfl (fun ls hl => ?_)
          refine lv_aload_n C.1 C.2.1 dX12_tell_55 rfl (lv_at hl 2 rfl) ?_
          obtain ⟨x34, m35, r36, hf⟩ := bd2_s hf
          refine x_cv hW (x_runV C hW [] [] (ha0).1 (ha0).2.1 kX12.1 kvX12_firstStep q_1361 (tX12_firstStep l C.2.2.2.2.2.2.1 ha0 r36) rfl rfl ⟨by decide, by decide⟩ rfl hl.1 rfl (Nat.le_of_ble_eq_true rfl) dX12_tell_56) (fun H locs hW => ?_)
          exact wX12_tell_59 C  N ha0 hW (lv_sub hl [2, 3, 1, 0] rfl) hf
        · have hf := if_t c27 hf
          refine lv_aload_n C.1 C.2.1 dX12_tell_38 rfl (lv_at hl 0 rfl) ?_
          refine lv_iconst (v := 4) C.1 C.2.1 dX12_tell_39 (by decide) ?_
          obtain ⟨x37, m38, r39, hf⟩ := bd2_s hf
          refine x_ci hW (x_runV C hW [.int 4] [] (ha0).1 (ha0).2.1 kX12.1 kvX12_meet q_1153 (tX12_meet l C.2.2.2.2.2.2.1 ha0 r39) rfl rfl ⟨by decide, by decide⟩ rfl hl.1 rfl (Nat.le_of_ble_eq_true rfl) dX12_tell_40) (fun H locs hW => ?_)
          cases hf
          exact x_iret C hW dX12_tell_43
      · have hf := if_f c26 hf
        refine lv_bipush (v := (-6)) C.1 C.2.1 dX12_tell_28 (by decide) ?_
        cases hf
        exact x_iret C hW dX12_tell_30
  · have hf := if_t c23 hf
    refine lv_iconst (v := (-1)) C.1 C.2.1 dX12_tell_7 (by decide) ?_
    cases hf
    exact x_iret C hW dX12_tell_8
set_option maxRecDepth 100000 in
set_option maxHeartbeats 4000000 in
theorem tX12_tell (l : Launch) {D : va_G} {ca ad : Nat → Nat} (hi : Inj ad) {N : Nat} {a0 : Nat} {a1 : Int32} {mm : Mm} {res : Int32 × Mm} (ha0 : sX12 a0) (hf : fX12_tell N a0 a1 mm = some res) : Met l yX12_tell (WS yX12_tell cX12_tell 6 (some .int)) (rmX12_tell) (va_Pc [.ref (ad a0), .int a1] (WB D ca ad mm)) (QI D ca ad res) 0 0 (AA ad) := by
  refine x_start hi (by decide) rfl (Nat.le_of_ble_eq_true rfl) (fun p e s m args below meth c ls C hW hl => ?_)
  exact wX12_tell_0 C ha0 hW (lv_sub hl [0, 1] rfl) hf
set_option maxRecDepth 100000 in
set_option maxHeartbeats 4000000 in
theorem wX12_keep_107 (C : Cx p s m meth c args cX12_keep 4 (some .int) RX12 D ca ad) {res : Int32 × Mm} {N : Nat}  : ∀ (n : Nat) {a0 : Nat} {a2 : Int32} {a3 : Int32} {mm : Mm} {H : Heap} {locs : List Loc} {ls : Array Slot}, (sX12 a0) → Wd D ca ad s.heap mm H locs → lv_has ls 4 [(0, .ref (ad a0)), (2, .int a2), (3, .int a3)] → fX12_keep_107 N n a0 a2 a3 mm = some res → W p l e (rmX12_keep) s m args below meth c H locs 0 0 (MQ below (QI D ca ad res) args s 0 0 (AA ad)) (F0 m 107 ls []) := by
  intro n
  induction n with
  | zero => intro a0 a2 a3 mm H locs ls ha0 hW hl hf; cases hf
  | succ n ih =>
    intro a0 a2 a3 mm H locs ls ha0 hW hl hf
    have hk107 : ∀ (a0 : Nat) (a2 : Int32) (a3 : Int32) (mm : Mm) (H : Heap) (locs : List Loc) (ls : Array Slot), (sX12 a0) → Wd D ca ad s.heap mm H locs → lv_has ls 4 [(0, .ref (ad a0)), (2, .int a2), (3, .int a3)] → (fX12_keep_107 N n) a0 a2 a3 mm = some res → W p l e (rmX12_keep) s m args below meth c H locs 0 0 (MQ below (QI D ca ad res) args s 0 0 (AA ad)) (F0 m 107 ls []) := fun a0 a2 a3 mm H locs ls ha0 hW hl hf => ih ha0 hW hl hf
    unfold fX12_keep_107 at hf
    try dsimp only at hf
    refine lv_iload_n C.1 C.2.1 dX12_keep_107 rfl (lv_at hl 2 rfl) ?_
    refine lv_bipush (v := 56) C.1 C.2.1 dX12_keep_108 (by decide) ?_
    refine lv_icmp_ge (tgt := 136) C.1 C.2.1 dX12_keep_110 (by decide) (fun c1 => ?_) (fun c1 => ?_)
    · have hf := if_t c1 hf
      refine lv_aload_n C.1 C.2.1 dX12_keep_136 rfl (lv_at hl 0 rfl) ?_
      refine x_geti C hW (ha0).1 (ha0).2.1 (j := 37) rfl kX12 (by decide) rfl q_1053 dX12_keep_137 ?_
      cases hf
      exact x_iret C hW dX12_keep_140
    · have hf := if_f c1 hf
      refine lv_aload_n C.1 C.2.1 dX12_keep_113 rfl (lv_at hl 0 rfl) ?_
      refine x_getr C hW (ha0).1 (ha0).2.1 (j := 40) rfl kX12 (by decide) rfl q_1056 dX12_keep_114 ?_
      refine lv_iload_n C.1 C.2.1 dX12_keep_117 rfl (lv_at hl 1 rfl) ?_
      refine lv_bipush (v := 8) C.1 C.2.1 dX12_keep_118 (by decide) ?_
      refine lv_iadd C.1 C.2.1 dX12_keep_120 ?_
      refine lv_iload_n C.1 C.2.1 dX12_keep_121 rfl (lv_at hl 2 rfl) ?_
      refine lv_iadd C.1 C.2.1 dX12_keep_122 ?_
      refine lv_aload_n C.1 C.2.1 dX12_keep_123 rfl (lv_at hl 0 rfl) ?_
      refine x_getr C hW (ha0).1 (ha0).2.1 (j := 36) rfl kX12 (by decide) rfl q_1052 dX12_keep_124 ?_
      refine lv_iload_n C.1 C.2.1 dX12_keep_127 rfl (lv_at hl 2 rfl) ?_
      obtain ⟨g2, hf⟩ := gd_s hf
      refine x_iald C hW ha0.2.2.2.2.2.2.2.2.2.2.2.2.2.2.2.2.2.2.2.1 g2 dX12_keep_128 ?_
      obtain ⟨g3, hf⟩ := gd_s hf
      refine x_iast C hW ha0.2.2.2.2.2.2.2.2.2.2.2.2.2.2.2.2.2.2.2.2.2.2 g3 dX12_keep_129 (fun H locs hW => ?_)
      obtain ⟨m4, em4⟩ : ∃ z, z = wr mm (fr a0 40) ((a2 + 8) + a3).toNatClampNeg (rd mm (fr a0 36) a3.toNatClampNeg) := ⟨_, rfl⟩
      have hf := nm_s hf em4
      rw [← em4] at hW
      refine lv_iinc (v := (a3 + 1)) (lv' := [(3, .int (a3 + 1)), (0, .ref (ad a0)), (2, .int a2)]) C.1 C.2.1 dX12_keep_130 hl (k := 2) rfl rfl (by decide) rfl (fun ls hl => ?_)
      refine lv_goto (tgt := 107) C.1 C.2.1 dX12_keep_133 (by decide) ?_
      exact hk107 _ _ _ _ _ _ _ ha0 hW (lv_sub hl [1, 2, 0] rfl) hf
set_option maxRecDepth 100000 in
set_option maxHeartbeats 4000000 in
theorem wX12_keep_78 (C : Cx p s m meth c args cX12_keep 4 (some .int) RX12 D ca ad) {res : Int32 × Mm} {N : Nat}  : ∀ (n : Nat) {a0 : Nat} {a2 : Int32} {a3 : Int32} {mm : Mm} {H : Heap} {locs : List Loc} {ls : Array Slot}, (sX12 a0) → Wd D ca ad s.heap mm H locs → lv_has ls 4 [(0, .ref (ad a0)), (2, .int a2), (3, .int a3)] → fX12_keep_78 N n a0 a2 a3 mm = some res → W p l e (rmX12_keep) s m args below meth c H locs 0 0 (MQ below (QI D ca ad res) args s 0 0 (AA ad)) (F0 m 78 ls []) := by
  intro n
  induction n with
  | zero => intro a0 a2 a3 mm H locs ls ha0 hW hl hf; cases hf
  | succ n ih =>
    intro a0 a2 a3 mm H locs ls ha0 hW hl hf
    have hk78 : ∀ (a0 : Nat) (a2 : Int32) (a3 : Int32) (mm : Mm) (H : Heap) (locs : List Loc) (ls : Array Slot), (sX12 a0) → Wd D ca ad s.heap mm H locs → lv_has ls 4 [(0, .ref (ad a0)), (2, .int a2), (3, .int a3)] → (fX12_keep_78 N n) a0 a2 a3 mm = some res → W p l e (rmX12_keep) s m args below meth c H locs 0 0 (MQ below (QI D ca ad res) args s 0 0 (AA ad)) (F0 m 78 ls []) := fun a0 a2 a3 mm H locs ls ha0 hW hl hf => ih ha0 hW hl hf
    unfold fX12_keep_78 at hf
    try dsimp only at hf
    refine lv_iload_n C.1 C.2.1 dX12_keep_78 rfl (lv_at hl 2 rfl) ?_
    refine lv_iconst (v := 4) C.1 C.2.1 dX12_keep_79 (by decide) ?_
    refine lv_icmp_ge (tgt := 105) C.1 C.2.1 dX12_keep_80 (by decide) (fun c5 => ?_) (fun c5 => ?_)
    · have hf := if_t c5 hf
      refine lv_iconst (v := 0) C.1 C.2.1 dX12_keep_105 (by decide) ?_
      refine lv_istore_n (lv' := [(3, .int 0), (0, .ref (ad a0)), (2, .int a2)]) C.1 C.2.1 dX12_keep_106 rfl hl (by decide) rfl (fun ls hl => ?_)
      exact wX12_keep_107 C  N ha0 hW (lv_sub hl [1, 2, 0] rfl) hf
    · have hf := if_f c5 hf
      refine lv_aload_n C.1 C.2.1 dX12_keep_83 rfl (lv_at hl 0 rfl) ?_
      refine x_getr C hW (ha0).1 (ha0).2.1 (j := 40) rfl kX12 (by decide) rfl q_1056 dX12_keep_84 ?_
      refine lv_iload_n C.1 C.2.1 dX12_keep_87 rfl (lv_at hl 1 rfl) ?_
      refine lv_iconst (v := 4) C.1 C.2.1 dX12_keep_88 (by decide) ?_
      refine lv_iadd C.1 C.2.1 dX12_keep_89 ?_
      refine lv_iload_n C.1 C.2.1 dX12_keep_90 rfl (lv_at hl 2 rfl) ?_
      refine lv_iadd C.1 C.2.1 dX12_keep_91 ?_
      refine lv_aload_n C.1 C.2.1 dX12_keep_92 rfl (lv_at hl 0 rfl) ?_
      refine x_getr C hW (ha0).1 (ha0).2.1 (j := 35) rfl kX12 (by decide) rfl q_1051 dX12_keep_93 ?_
      refine lv_iload_n C.1 C.2.1 dX12_keep_96 rfl (lv_at hl 2 rfl) ?_
      obtain ⟨g6, hf⟩ := gd_s hf
      refine x_iald C hW ha0.2.2.2.2.2.2.2.2.2.2.2.2.2.2.2.2.2.2.1 g6 dX12_keep_97 ?_
      obtain ⟨g7, hf⟩ := gd_s hf
      refine x_iast C hW ha0.2.2.2.2.2.2.2.2.2.2.2.2.2.2.2.2.2.2.2.2.2.2 g7 dX12_keep_98 (fun H locs hW => ?_)
      obtain ⟨m8, em8⟩ : ∃ z, z = wr mm (fr a0 40) ((a2 + 4) + a3).toNatClampNeg (rd mm (fr a0 35) a3.toNatClampNeg) := ⟨_, rfl⟩
      have hf := nm_s hf em8
      rw [← em8] at hW
      refine lv_iinc (v := (a3 + 1)) (lv' := [(3, .int (a3 + 1)), (0, .ref (ad a0)), (2, .int a2)]) C.1 C.2.1 dX12_keep_99 hl (k := 2) rfl rfl (by decide) rfl (fun ls hl => ?_)
      refine lv_goto (tgt := 78) C.1 C.2.1 dX12_keep_102 (by decide) ?_
      exact hk78 _ _ _ _ _ _ _ ha0 hW (lv_sub hl [1, 2, 0] rfl) hf
set_option maxRecDepth 100000 in
set_option maxHeartbeats 4000000 in
theorem wX12_keep_0 (C : Cx p s m meth c args cX12_keep 4 (some .int) RX12 D ca ad) {res : Int32 × Mm} {N : Nat}  {a0 : Nat} {a1 : Int32} {mm : Mm} {H : Heap} {locs : List Loc} {ls : Array Slot} (ha0 : sX12 a0) (hW : Wd D ca ad s.heap mm H locs) (hl : lv_has ls 4 [(0, .ref (ad a0)), (1, .int a1)]) (hf : fX12_keep N a0 a1 mm = some res) : W p l e (rmX12_keep) s m args below meth c H locs 0 0 (MQ below (QI D ca ad res) args s 0 0 (AA ad)) (F0 m 0 ls []) := by
  unfold fX12_keep at hf
  refine lv_iload_n C.1 C.2.1 dX12_keep_0 rfl (lv_at hl 1 rfl) ?_
  refine lv_iconst (v := 0) C.1 C.2.1 dX12_keep_1 (by decide) ?_
  refine lv_iconst (v := 2) C.1 C.2.1 dX12_keep_2 (by decide) ?_
  obtain ⟨x9, m10, r11, hf⟩ := bd2_s hf
  refine x_ci hW (x_runS C hW [.int a1, .int 0, .int 2] [] kvX12_in q_1150 (tX12_in l C.2.2.2.2.2.2.1  r11) rfl rfl ⟨by decide, by decide⟩ rfl hl.1 rfl (Nat.le_of_ble_eq_true rfl) dX12_keep_3) (fun H locs hW => ?_)
  refine lv_if_ne (tgt := 11) C.1 C.2.1 dX12_keep_6 (by decide) (fun c12 => ?_) (fun c12 => ?_)
  · have hf := if_f c12 hf
    refine lv_aload_n C.1 C.2.1 dX12_keep_11 rfl (lv_at hl 0 rfl) ?_
    refine x_geti C hW (ha0).1 (ha0).2.1 (j := 10) rfl kX12 (by decide) rfl q_1026 dX12_keep_12 ?_
    refine lv_if_ne (tgt := 21) C.1 C.2.1 dX12_keep_15 (by decide) (fun c13 => ?_) (fun c13 => ?_)
    · have hf := if_f c13 hf
      refine lv_bipush (v := 72) C.1 C.2.1 dX12_keep_21 (by decide) ?_
      refine lv_iload_n C.1 C.2.1 dX12_keep_23 rfl (lv_at hl 1 rfl) ?_
      refine lv_imul C.1 C.2.1 dX12_keep_24 ?_
      refine lv_istore_n (lv' := [(2, .int (72 * a1)), (0, .ref (ad a0)), (1, .int a1)]) C.1 C.2.1 dX12_keep_25 rfl hl (by decide) rfl (fun ls hl => ?_)
      refine lv_aload_n C.1 C.2.1 dX12_keep_26 rfl (lv_at hl 1 rfl) ?_
      refine x_getr C hW (ha0).1 (ha0).2.1 (j := 40) rfl kX12 (by decide) rfl q_1056 dX12_keep_27 ?_
      refine lv_iload_n C.1 C.2.1 dX12_keep_30 rfl (lv_at hl 0 rfl) ?_
      refine lv_aload_n C.1 C.2.1 dX12_keep_31 rfl (lv_at hl 1 rfl) ?_
      refine x_geti C hW (ha0).1 (ha0).2.1 (j := 37) rfl kX12 (by decide) rfl q_1053 dX12_keep_32 ?_
      obtain ⟨g14, hf⟩ := gd_s hf
      refine x_iast C hW ha0.2.2.2.2.2.2.2.2.2.2.2.2.2.2.2.2.2.2.2.2.2.2 g14 dX12_keep_35 (fun H locs hW => ?_)
      obtain ⟨m15, em15⟩ : ∃ z, z = wr m10 (fr a0 40) (72 * a1).toNatClampNeg (rd m10 a0 37) := ⟨_, rfl⟩
      have hf := nm_s hf em15
      rw [← em15] at hW
      refine lv_aload_n C.1 C.2.1 dX12_keep_36 rfl (lv_at hl 1 rfl) ?_
      refine x_getr C hW (ha0).1 (ha0).2.1 (j := 40) rfl kX12 (by decide) rfl q_1056 dX12_keep_37 ?_
      refine lv_iload_n C.1 C.2.1 dX12_keep_40 rfl (lv_at hl 0 rfl) ?_
      refine lv_iconst (v := 1) C.1 C.2.1 dX12_keep_41 (by decide) ?_
      refine lv_iadd C.1 C.2.1 dX12_keep_42 ?_
      refine lv_aload_n C.1 C.2.1 dX12_keep_43 rfl (lv_at hl 1 rfl) ?_
      refine x_getr C hW (ha0).1 (ha0).2.1 (j := 12) rfl kX12 (by decide) rfl q_1028 dX12_keep_44 ?_
      refine lv_iconst (v := 0) C.1 C.2.1 dX12_keep_47 (by decide) ?_
      obtain ⟨g16, hf⟩ := gd_s hf
      refine x_iald C hW ha0.2.2.2.2.2.2.2.2.2.1 g16 dX12_keep_48 ?_
      obtain ⟨g17, hf⟩ := gd_s hf
      refine x_iast C hW ha0.2.2.2.2.2.2.2.2.2.2.2.2.2.2.2.2.2.2.2.2.2.2 g17 dX12_keep_49 (fun H locs hW => ?_)
      obtain ⟨m18, em18⟩ : ∃ z, z = wr m15 (fr a0 40) ((72 * a1) + 1).toNatClampNeg (rd m15 (fr a0 12) ((0 : Int32).toNatClampNeg)) := ⟨_, rfl⟩
      have hf := nm_s hf em18
      rw [← em18] at hW
      refine lv_aload_n C.1 C.2.1 dX12_keep_50 rfl (lv_at hl 1 rfl) ?_
      refine x_getr C hW (ha0).1 (ha0).2.1 (j := 40) rfl kX12 (by decide) rfl q_1056 dX12_keep_51 ?_
      refine lv_iload_n C.1 C.2.1 dX12_keep_54 rfl (lv_at hl 0 rfl) ?_
      refine lv_iconst (v := 2) C.1 C.2.1 dX12_keep_55 (by decide) ?_
      refine lv_iadd C.1 C.2.1 dX12_keep_56 ?_
      refine lv_aload_n C.1 C.2.1 dX12_keep_57 rfl (lv_at hl 1 rfl) ?_
      refine x_getr C hW (ha0).1 (ha0).2.1 (j := 12) rfl kX12 (by decide) rfl q_1028 dX12_keep_58 ?_
      refine lv_iconst (v := 1) C.1 C.2.1 dX12_keep_61 (by decide) ?_
      obtain ⟨g19, hf⟩ := gd_s hf
      refine x_iald C hW ha0.2.2.2.2.2.2.2.2.2.1 g19 dX12_keep_62 ?_
      obtain ⟨g20, hf⟩ := gd_s hf
      refine x_iast C hW ha0.2.2.2.2.2.2.2.2.2.2.2.2.2.2.2.2.2.2.2.2.2.2 g20 dX12_keep_63 (fun H locs hW => ?_)
      obtain ⟨m21, em21⟩ : ∃ z, z = wr m18 (fr a0 40) ((72 * a1) + 2).toNatClampNeg (rd m18 (fr a0 12) ((1 : Int32).toNatClampNeg)) := ⟨_, rfl⟩
      have hf := nm_s hf em21
      rw [← em21] at hW
      refine lv_aload_n C.1 C.2.1 dX12_keep_64 rfl (lv_at hl 1 rfl) ?_
      refine x_getr C hW (ha0).1 (ha0).2.1 (j := 40) rfl kX12 (by decide) rfl q_1056 dX12_keep_65 ?_
      refine lv_iload_n C.1 C.2.1 dX12_keep_68 rfl (lv_at hl 0 rfl) ?_
      refine lv_iconst (v := 3) C.1 C.2.1 dX12_keep_69 (by decide) ?_
      refine lv_iadd C.1 C.2.1 dX12_keep_70 ?_
      refine lv_aload_n C.1 C.2.1 dX12_keep_71 rfl (lv_at hl 1 rfl) ?_
      refine x_geti C hW (ha0).1 (ha0).2.1 (j := 13) rfl kX12 (by decide) rfl q_1029 dX12_keep_72 ?_
      obtain ⟨g22, hf⟩ := gd_s hf
      refine x_iast C hW ha0.2.2.2.2.2.2.2.2.2.2.2.2.2.2.2.2.2.2.2.2.2.2 g22 dX12_keep_75 (fun H locs hW => ?_)
      obtain ⟨m23, em23⟩ : ∃ z, z = wr m21 (fr a0 40) ((72 * a1) + 3).toNatClampNeg (rd m21 a0 13) := ⟨_, rfl⟩
      have hf := nm_s hf em23
      rw [← em23] at hW
      refine lv_iconst (v := 0) C.1 C.2.1 dX12_keep_76 (by decide) ?_
      refine lv_istore_n (lv' := [(3, .int 0), (2, .int (72 * a1)), (0, .ref (ad a0)), (1, .int a1)]) C.1 C.2.1 dX12_keep_77 rfl hl (by decide) rfl (fun ls hl => ?_)
      exact wX12_keep_78 C  N ha0 hW (lv_sub hl [2, 1, 0] rfl) hf
    · have hf := if_t c13 hf
      refine lv_bipush (v := (-4)) C.1 C.2.1 dX12_keep_18 (by decide) ?_
      cases hf
      exact x_iret C hW dX12_keep_20
  · have hf := if_t c12 hf
    refine lv_iconst (v := (-1)) C.1 C.2.1 dX12_keep_9 (by decide) ?_
    cases hf
    exact x_iret C hW dX12_keep_10
set_option maxRecDepth 100000 in
set_option maxHeartbeats 4000000 in
theorem tX12_keep (l : Launch) {D : va_G} {ca ad : Nat → Nat} (hi : Inj ad) {N : Nat} {a0 : Nat} {a1 : Int32} {mm : Mm} {res : Int32 × Mm} (ha0 : sX12 a0) (hf : fX12_keep N a0 a1 mm = some res) : Met l yX12_keep (WS yX12_keep cX12_keep 4 (some .int)) (rmX12_keep) (va_Pc [.ref (ad a0), .int a1] (WB D ca ad mm)) (QI D ca ad res) 0 0 (AA ad) := by
  refine x_start hi (by decide) rfl (Nat.le_of_ble_eq_true rfl) (fun p e s m args below meth c ls C hW hl => ?_)
  exact wX12_keep_0 C ha0 hW (lv_sub hl [0, 1] rfl) hf
end W_model28
