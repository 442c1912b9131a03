theorem dX12_askedLaying_0 : decode cX12_askedLaying 0 = .ok (.aload_n 0, 1) := by decide +kernel
theorem dX12_askedLaying_1 : decode cX12_askedLaying 1 = .ok (.getfield 17, 3) := by decide +kernel
theorem dX12_askedLaying_4 : decode cX12_askedLaying 4 = .ok (.iload_n 1, 1) := by decide +kernel
theorem dX12_askedLaying_5 : decode cX12_askedLaying 5 = .ok (.iaload, 1) := by decide +kernel
theorem dX12_askedLaying_6 : decode cX12_askedLaying 6 = .ok (.ifCond .ge 9, 3) := by decide +kernel
theorem dX12_askedLaying_9 : decode cX12_askedLaying 9 = .ok (.aload_n 0, 1) := by decide +kernel
theorem dX12_askedLaying_10 : decode cX12_askedLaying 10 = .ok (.iconst 1, 1) := by decide +kernel
theorem dX12_askedLaying_11 : decode cX12_askedLaying 11 = .ok (.invokevirtual 95, 3) := by decide +kernel
theorem dX12_askedLaying_14 : decode cX12_askedLaying 14 = .ok (.ireturn, 1) := by decide +kernel
theorem dX12_askedLaying_15 : decode cX12_askedLaying 15 = .ok (.aload_n 0, 1) := by decide +kernel
theorem dX12_askedLaying_16 : decode cX12_askedLaying 16 = .ok (.iload_n 1, 1) := by decide +kernel
theorem dX12_askedLaying_17 : decode cX12_askedLaying 17 = .ok (.invokevirtual 188, 3) := by decide +kernel
theorem dX12_askedLaying_20 : decode cX12_askedLaying 20 = .ok (.istore_n 3, 1) := by decide +kernel
theorem dX12_askedLaying_21 : decode cX12_askedLaying 21 = .ok (.iload_n 3, 1) := by decide +kernel
theorem dX12_askedLaying_22 : decode cX12_askedLaying 22 = .ok (.ifCond .ge 7, 3) := by decide +kernel
theorem dX12_askedLaying_25 : decode cX12_askedLaying 25 = .ok (.iload_n 3, 1) := by decide +kernel
theorem dX12_askedLaying_26 : decode cX12_askedLaying 26 = .ok (.goto 9, 3) := by decide +kernel
theorem dX12_askedLaying_29 : decode cX12_askedLaying 29 = .ok (.aload_n 0, 1) := by decide +kernel
theorem dX12_askedLaying_30 : decode cX12_askedLaying 30 = .ok (.iload_n 1, 1) := by decide +kernel
theorem dX12_askedLaying_31 : decode cX12_askedLaying 31 = .ok (.iload_n 2, 1) := by decide +kernel
theorem dX12_askedLaying_32 : decode cX12_askedLaying 32 = .ok (.invokevirtual 191, 3) := by decide +kernel
theorem dX12_askedLaying_35 : decode cX12_askedLaying 35 = .ok (.ireturn, 1) := by decide +kernel
theorem dX12_askedTwo_0 : decode cX12_askedTwo 0 = .ok (.aload_n 0, 1) := by decide +kernel
theorem dX12_askedTwo_1 : decode cX12_askedTwo 1 = .ok (.getfield 17, 3) := by decide +kernel
theorem dX12_askedTwo_4 : decode cX12_askedTwo 4 = .ok (.iload_n 1, 1) := by decide +kernel
theorem dX12_askedTwo_5 : decode cX12_askedTwo 5 = .ok (.iaload, 1) := by decide +kernel
theorem dX12_askedTwo_6 : decode cX12_askedTwo 6 = .ok (.ifCond .lt 12, 3) := by decide +kernel
theorem dX12_askedTwo_9 : decode cX12_askedTwo 9 = .ok (.aload_n 0, 1) := by decide +kernel
theorem dX12_askedTwo_10 : decode cX12_askedTwo 10 = .ok (.getfield 17, 3) := by decide +kernel
theorem dX12_askedTwo_13 : decode cX12_askedTwo 13 = .ok (.iload_n 3, 1) := by decide +kernel
theorem dX12_askedTwo_14 : decode cX12_askedTwo 14 = .ok (.iaload, 1) := by decide +kernel
theorem dX12_askedTwo_15 : decode cX12_askedTwo 15 = .ok (.ifCond .ge 9, 3) := by decide +kernel
theorem dX12_askedTwo_18 : decode cX12_askedTwo 18 = .ok (.aload_n 0, 1) := by decide +kernel
theorem dX12_askedTwo_19 : decode cX12_askedTwo 19 = .ok (.iconst 1, 1) := by decide +kernel
theorem dX12_askedTwo_20 : decode cX12_askedTwo 20 = .ok (.invokevirtual 95, 3) := by decide +kernel
theorem dX12_askedTwo_23 : decode cX12_askedTwo 23 = .ok (.ireturn, 1) := by decide +kernel
theorem dX12_askedTwo_24 : decode cX12_askedTwo 24 = .ok (.aload_n 0, 1) := by decide +kernel
theorem dX12_askedTwo_25 : decode cX12_askedTwo 25 = .ok (.getfield 17, 3) := by decide +kernel
theorem dX12_askedTwo_28 : decode cX12_askedTwo 28 = .ok (.iload_n 1, 1) := by decide +kernel
theorem dX12_askedTwo_29 : decode cX12_askedTwo 29 = .ok (.iaload, 1) := by decide +kernel
theorem dX12_askedTwo_30 : decode cX12_askedTwo 30 = .ok (.aload_n 0, 1) := by decide +kernel
theorem dX12_askedTwo_31 : decode cX12_askedTwo 31 = .ok (.getfield 156, 3) := by decide +kernel
theorem dX12_askedTwo_34 : decode cX12_askedTwo 34 = .ok (.if_icmp .ne 16, 3) := by decide +kernel
theorem dX12_askedTwo_37 : decode cX12_askedTwo 37 = .ok (.aload_n 0, 1) := by decide +kernel
theorem dX12_askedTwo_38 : decode cX12_askedTwo 38 = .ok (.getfield 17, 3) := by decide +kernel
theorem dX12_askedTwo_41 : decode cX12_askedTwo 41 = .ok (.iload_n 3, 1) := by decide +kernel
theorem dX12_askedTwo_42 : decode cX12_askedTwo 42 = .ok (.iaload, 1) := by decide +kernel
theorem dX12_askedTwo_43 : decode cX12_askedTwo 43 = .ok (.aload_n 0, 1) := by decide +kernel
theorem dX12_askedTwo_44 : decode cX12_askedTwo 44 = .ok (.getfield 156, 3) := by decide +kernel
theorem dX12_askedTwo_47 : decode cX12_askedTwo 47 = .ok (.if_icmp .eq 9, 3) := by decide +kernel
theorem dX12_askedTwo_50 : decode cX12_askedTwo 50 = .ok (.aload_n 0, 1) := by decide +kernel
theorem dX12_askedTwo_51 : decode cX12_askedTwo 51 = .ok (.iconst 5, 1) := by decide +kernel
theorem dX12_askedTwo_52 : decode cX12_askedTwo 52 = .ok (.invokevirtual 95, 3) := by decide +kernel
theorem dX12_askedTwo_55 : decode cX12_askedTwo 55 = .ok (.ireturn, 1) := by decide +kernel
theorem dX12_askedTwo_56 : decode cX12_askedTwo 56 = .ok (.aload_n 0, 1) := by decide +kernel
theorem dX12_askedTwo_57 : decode cX12_askedTwo 57 = .ok (.iload_n 1, 1) := by decide +kernel
theorem dX12_askedTwo_58 : decode cX12_askedTwo 58 = .ok (.iload_n 2, 1) := by decide +kernel
theorem dX12_askedTwo_59 : decode cX12_askedTwo 59 = .ok (.invokevirtual 191, 3) := by decide +kernel
theorem dX12_askedTwo_62 : decode cX12_askedTwo 62 = .ok (.istore 5, 2) := by decide +kernel
theorem dX12_askedTwo_64 : decode cX12_askedTwo 64 = .ok (.iload 5, 2) := by decide +kernel
theorem dX12_askedTwo_66 : decode cX12_askedTwo 66 = .ok (.ifCond .ge 8, 3) := by decide +kernel
theorem dX12_askedTwo_69 : decode cX12_askedTwo 69 = .ok (.iload 5, 2) := by decide +kernel
theorem dX12_askedTwo_71 : decode cX12_askedTwo 71 = .ok (.goto 10, 3) := by decide +kernel
theorem dX12_askedTwo_74 : decode cX12_askedTwo 74 = .ok (.aload_n 0, 1) := by decide +kernel
theorem dX12_askedTwo_75 : decode cX12_askedTwo 75 = .ok (.iload_n 3, 1) := by decide +kernel
theorem dX12_askedTwo_76 : decode cX12_askedTwo 76 = .ok (.iload 4, 2) := by decide +kernel
theorem dX12_askedTwo_78 : decode cX12_askedTwo 78 = .ok (.invokevirtual 191, 3) := by decide +kernel
theorem dX12_askedTwo_81 : decode cX12_askedTwo 81 = .ok (.ireturn, 1) := by decide +kernel
theorem dX12_takes_0 : decode cX12_takes 0 = .ok (.iconst 0, 1) := by decide +kernel
theorem dX12_takes_1 : decode cX12_takes 1 = .ok (.istore_n 3, 1) := by decide +kernel
theorem dX12_takes_2 : decode cX12_takes 2 = .ok (.iload_n 3, 1) := by decide +kernel
theorem dX12_takes_3 : decode cX12_takes 3 = .ok (.aload_n 0, 1) := by decide +kernel
theorem dX12_takes_4 : decode cX12_takes 4 = .ok (.getfield 156, 3) := by decide +kernel
theorem dX12_takes_7 : decode cX12_takes 7 = .ok (.if_icmp .ge 40, 3) := by decide +kernel
theorem dX12_takes_10 : decode cX12_takes 10 = .ok (.iload_n 2, 1) := by decide +kernel
theorem dX12_takes_11 : decode cX12_takes 11 = .ok (.ifCond .ne 18, 3) := by decide +kernel
theorem dX12_takes_14 : decode cX12_takes 14 = .ok (.aload_n 0, 1) := by decide +kernel
theorem dX12_takes_15 : decode cX12_takes 15 = .ok (.getfield 41, 3) := by decide +kernel
theorem dX12_takes_18 : decode cX12_takes 18 = .ok (.iload_n 3, 1) := by decide +kernel
theorem dX12_takes_19 : decode cX12_takes 19 = .ok (.aload_n 0, 1) := by decide +kernel
theorem dX12_takes_20 : decode cX12_takes 20 = .ok (.iload_n 1, 1) := by decide +kernel
theorem dX12_takes_21 : decode cX12_takes 21 = .ok (.iload_n 3, 1) := by decide +kernel
theorem dX12_takes_22 : decode cX12_takes 22 = .ok (.invokevirtual 109, 3) := by decide +kernel
theorem dX12_takes_25 : decode cX12_takes 25 = .ok (.iastore, 1) := by decide +kernel
theorem dX12_takes_26 : decode cX12_takes 26 = .ok (.goto 15, 3) := by decide +kernel
theorem dX12_takes_29 : decode cX12_takes 29 = .ok (.aload_n 0, 1) := by decide +kernel
theorem dX12_takes_30 : decode cX12_takes 30 = .ok (.getfield 44, 3) := by decide +kernel
theorem dX12_takes_33 : decode cX12_takes 33 = .ok (.iload_n 3, 1) := by decide +kernel
theorem dX12_takes_34 : decode cX12_takes 34 = .ok (.aload_n 0, 1) := by decide +kernel
theorem dX12_takes_35 : decode cX12_takes 35 = .ok (.iload_n 1, 1) := by decide +kernel
theorem dX12_takes_36 : decode cX12_takes 36 = .ok (.iload_n 3, 1) := by decide +kernel
theorem dX12_takes_37 : decode cX12_takes 37 = .ok (.invokevirtual 109, 3) := by decide +kernel
theorem dX12_takes_40 : decode cX12_takes 40 = .ok (.iastore, 1) := by decide +kernel
theorem dX12_takes_41 : decode cX12_takes 41 = .ok (.iinc 3 1, 3) := by decide +kernel
theorem dX12_takes_44 : decode cX12_takes 44 = .ok (.goto (-42), 3) := by decide +kernel
theorem dX12_takes_47 : decode cX12_takes 47 = .ok (.return_, 1) := by decide +kernel
theorem dX12_judge_0 : decode cX12_judge 0 = .ok (.iload_n 1, 1) := by decide +kernel
theorem dX12_judge_1 : decode cX12_judge 1 = .ok (.invokestatic 91, 3) := by decide +kernel
theorem dX12_judge_4 : decode cX12_judge 4 = .ok (.ifCond .eq 10, 3) := by decide +kernel
theorem dX12_judge_7 : decode cX12_judge 7 = .ok (.iload_n 2, 1) := by decide +kernel
theorem dX12_judge_8 : decode cX12_judge 8 = .ok (.invokestatic 91, 3) := by decide +kernel
theorem dX12_judge_11 : decode cX12_judge 11 = .ok (.ifCond .ne 5, 3) := by decide +kernel
theorem dX12_judge_14 : decode cX12_judge 14 = .ok (.iconst (-1), 1) := by decide +kernel
theorem dX12_judge_15 : decode cX12_judge 15 = .ok (.ireturn, 1) := by decide +kernel
theorem dX12_judge_16 : decode cX12_judge 16 = .ok (.aload_n 0, 1) := by decide +kernel
theorem dX12_judge_17 : decode cX12_judge 17 = .ok (.iload_n 1, 1) := by decide +kernel
theorem dX12_judge_18 : decode cX12_judge 18 = .ok (.iconst 0, 1) := by decide +kernel
theorem dX12_judge_19 : decode cX12_judge 19 = .ok (.iload_n 2, 1) := by decide +kernel
theorem dX12_judge_20 : decode cX12_judge 20 = .ok (.iconst 1, 1) := by decide +kernel
theorem dX12_judge_21 : decode cX12_judge 21 = .ok (.invokevirtual 194, 3) := by decide +kernel
theorem dX12_judge_24 : decode cX12_judge 24 = .ok (.istore_n 3, 1) := by decide +kernel
theorem dX12_judge_25 : decode cX12_judge 25 = .ok (.iload_n 3, 1) := by decide +kernel
theorem dX12_judge_26 : decode cX12_judge 26 = .ok (.ifCond .ge 5, 3) := by decide +kernel
theorem dX12_judge_29 : decode cX12_judge 29 = .ok (.iload_n 3, 1) := by decide +kernel
theorem dX12_judge_30 : decode cX12_judge 30 = .ok (.ireturn, 1) := by decide +kernel
theorem dX12_judge_31 : decode cX12_judge 31 = .ok (.aload_n 0, 1) := by decide +kernel
theorem dX12_judge_32 : decode cX12_judge 32 = .ok (.iload_n 1, 1) := by decide +kernel
theorem dX12_judge_33 : decode cX12_judge 33 = .ok (.iconst 0, 1) := by decide +kernel
theorem dX12_judge_34 : decode cX12_judge 34 = .ok (.invokevirtual 198, 3) := by decide +kernel
theorem dX12_judge_37 : decode cX12_judge 37 = .ok (.aload_n 0, 1) := by decide +kernel
theorem dX12_judge_38 : decode cX12_judge 38 = .ok (.iload_n 2, 1) := by decide +kernel
theorem dX12_judge_39 : decode cX12_judge 39 = .ok (.iconst 1, 1) := by decide +kernel
theorem dX12_judge_40 : decode cX12_judge 40 = .ok (.invokevirtual 198, 3) := by decide +kernel
theorem dX12_judge_43 : decode cX12_judge 43 = .ok (.aload_n 0, 1) := by decide +kernel
theorem dX12_judge_44 : decode cX12_judge 44 = .ok (.invokevirtual 202, 3) := by decide +kernel
theorem dX12_judge_47 : decode cX12_judge 47 = .ok (.aload_n 0, 1) := by decide +kernel
theorem dX12_judge_48 : decode cX12_judge 48 = .ok (.aload_n 0, 1) := by decide +kernel
theorem dX12_judge_49 : decode cX12_judge 49 = .ok (.iconst 1, 1) := by decide +kernel
theorem dX12_judge_50 : decode cX12_judge 50 = .ok (.invokevirtual 205, 3) := by decide +kernel
theorem dX12_judge_53 : decode cX12_judge 53 = .ok (.aload_n 0, 1) := by decide +kernel
theorem dX12_judge_54 : decode cX12_judge 54 = .ok (.iconst 0, 1) := by decide +kernel
theorem dX12_judge_55 : decode cX12_judge 55 = .ok (.invokevirtual 205, 3) := by decide +kernel
theorem dX12_judge_58 : decode cX12_judge 58 = .ok (.invokevirtual 113, 3) := by decide +kernel
theorem dX12_judge_61 : decode cX12_judge 61 = .ok (.ireturn, 1) := by decide +kernel
theorem dX12_who_0 : decode cX12_who 0 = .ok (.iload_n 1, 1) := by decide +kernel
theorem dX12_who_1 : decode cX12_who 1 = .ok (.invokestatic 91, 3) := by decide +kernel
theorem dX12_who_4 : decode cX12_who 4 = .ok (.ifCond .eq 18, 3) := by decide +kernel
theorem dX12_who_7 : decode cX12_who 7 = .ok (.iload_n 2, 1) := by decide +kernel
theorem dX12_who_8 : decode cX12_who 8 = .ok (.invokestatic 91, 3) := by decide +kernel
theorem dX12_who_11 : decode cX12_who 11 = .ok (.ifCond .eq 11, 3) := by decide +kernel
theorem dX12_who_14 : decode cX12_who 14 = .ok (.aload_n 0, 1) := by decide +kernel
theorem dX12_who_15 : decode cX12_who 15 = .ok (.iload_n 3, 1) := by decide +kernel
theorem dX12_who_16 : decode cX12_who 16 = .ok (.invokevirtual 165, 3) := by decide +kernel
theorem dX12_who_19 : decode cX12_who 19 = .ok (.ifCond .ne 5, 3) := by decide +kernel
theorem dX12_who_22 : decode cX12_who 22 = .ok (.iconst (-1), 1) := by decide +kernel
theorem dX12_who_23 : decode cX12_who 23 = .ok (.ireturn, 1) := by decide +kernel
theorem dX12_who_24 : decode cX12_who 24 = .ok (.aload_n 0, 1) := by decide +kernel
theorem dX12_who_25 : decode cX12_who 25 = .ok (.iload_n 1, 1) := by decide +kernel
theorem dX12_who_26 : decode cX12_who 26 = .ok (.iconst 0, 1) := by decide +kernel
theorem dX12_who_27 : decode cX12_who 27 = .ok (.iload_n 2, 1) := by decide +kernel
theorem dX12_who_28 : decode cX12_who 28 = .ok (.iconst 1, 1) := by decide +kernel
theorem dX12_who_29 : decode cX12_who 29 = .ok (.invokevirtual 194, 3) := by decide +kernel
theorem dX12_who_32 : decode cX12_who 32 = .ok (.istore 4, 2) := by decide +kernel
theorem dX12_who_34 : decode cX12_who 34 = .ok (.iload 4, 2) := by decide +kernel
theorem dX12_who_36 : decode cX12_who 36 = .ok (.ifCond .ge 6, 3) := by decide +kernel
theorem dX12_who_39 : decode cX12_who 39 = .ok (.iload 4, 2) := by decide +kernel
theorem dX12_who_41 : decode cX12_who 41 = .ok (.ireturn, 1) := by decide +kernel
theorem dX12_who_42 : decode cX12_who 42 = .ok (.aload_n 0, 1) := by decide +kernel
theorem dX12_who_43 : decode cX12_who 43 = .ok (.iload_n 1, 1) := by decide +kernel
theorem dX12_who_44 : decode cX12_who 44 = .ok (.iconst 0, 1) := by decide +kernel
theorem dX12_who_45 : decode cX12_who 45 = .ok (.invokevirtual 198, 3) := by decide +kernel
theorem dX12_who_48 : decode cX12_who 48 = .ok (.aload_n 0, 1) := by decide +kernel
theorem dX12_who_49 : decode cX12_who 49 = .ok (.iload_n 2, 1) := by decide +kernel
theorem dX12_who_50 : decode cX12_who 50 = .ok (.iconst 1, 1) := by decide +kernel
theorem dX12_who_51 : decode cX12_who 51 = .ok (.invokevirtual 198, 3) := by decide +kernel
theorem dX12_who_54 : decode cX12_who 54 = .ok (.aload_n 0, 1) := by decide +kernel
theorem dX12_who_55 : decode cX12_who 55 = .ok (.invokevirtual 202, 3) := by decide +kernel
theorem dX12_who_58 : decode cX12_who 58 = .ok (.aload_n 0, 1) := by decide +kernel
theorem dX12_who_59 : decode cX12_who 59 = .ok (.iload_n 3, 1) := by decide +kernel
theorem dX12_who_60 : decode cX12_who 60 = .ok (.iconst 0, 1) := by decide +kernel
theorem dX12_who_61 : decode cX12_who 61 = .ok (.aload_n 0, 1) := by decide +kernel
theorem dX12_who_62 : decode cX12_who 62 = .ok (.getfield 41, 3) := by decide +kernel
theorem dX12_who_65 : decode cX12_who 65 = .ok (.iload_n 3, 1) := by decide +kernel
theorem dX12_who_66 : decode cX12_who 66 = .ok (.iaload, 1) := by decide +kernel
theorem dX12_who_67 : decode cX12_who 67 = .ok (.invokevirtual 178, 3) := by decide +kernel
theorem dX12_who_70 : decode cX12_who 70 = .ok (.aload_n 0, 1) := by decide +kernel
theorem dX12_who_71 : decode cX12_who 71 = .ok (.iload_n 3, 1) := by decide +kernel
theorem dX12_who_72 : decode cX12_who 72 = .ok (.iconst 1, 1) := by decide +kernel
theorem dX12_who_73 : decode cX12_who 73 = .ok (.aload_n 0, 1) := by decide +kernel
theorem dX12_who_74 : decode cX12_who 74 = .ok (.getfield 44, 3) := by decide +kernel
theorem dX12_who_77 : decode cX12_who 77 = .ok (.iload_n 3, 1) := by decide +kernel
theorem dX12_who_78 : decode cX12_who 78 = .ok (.iaload, 1) := by decide +kernel
theorem dX12_who_79 : decode cX12_who 79 = .ok (.invokevirtual 178, 3) := by decide +kernel
theorem dX12_who_82 : decode cX12_who 82 = .ok (.isub, 1) := by decide +kernel
theorem dX12_who_83 : decode cX12_who 83 = .ok (.istore 5, 2) := by decide +kernel
theorem dX12_who_85 : decode cX12_who 85 = .ok (.aload_n 0, 1) := by decide +kernel
theorem dX12_who_86 : decode cX12_who 86 = .ok (.iload 5, 2) := by decide +kernel
theorem dX12_who_88 : decode cX12_who 88 = .ok (.ifCond .ge 9, 3) := by decide +kernel
theorem dX12_who_91 : decode cX12_who 91 = .ok (.iload 5, 2) := by decide +kernel
theorem dX12_who_93 : decode cX12_who 93 = .ok (.ineg, 1) := by decide +kernel
theorem dX12_who_94 : decode cX12_who 94 = .ok (.goto 5, 3) := by decide +kernel
theorem dX12_who_97 : decode cX12_who 97 = .ok (.iload 5, 2) := by decide +kernel
theorem dX12_who_99 : decode cX12_who 99 = .ok (.aload_n 0, 1) := by decide +kernel
theorem dX12_who_100 : decode cX12_who 100 = .ok (.getfield 47, 3) := by decide +kernel
theorem dX12_who_103 : decode cX12_who 103 = .ok (.iload_n 3, 1) := by decide +kernel
theorem dX12_who_104 : decode cX12_who 104 = .ok (.iaload, 1) := by decide +kernel
theorem dX12_who_105 : decode cX12_who 105 = .ok (.iconst 2, 1) := by decide +kernel
theorem dX12_who_106 : decode cX12_who 106 = .ok (.if_icmp .ne 8, 3) := by decide +kernel
theorem dX12_who_109 : decode cX12_who 109 = .ok (.bipush (-9), 2) := by decide +kernel
theorem dX12_who_111 : decode cX12_who 111 = .ok (.goto 9, 3) := by decide +kernel
theorem dX12_who_114 : decode cX12_who 114 = .ok (.aload_n 0, 1) := by decide +kernel
theorem dX12_who_115 : decode cX12_who 115 = .ok (.getfield 47, 3) := by decide +kernel
theorem dX12_who_118 : decode cX12_who 118 = .ok (.iload_n 3, 1) := by decide +kernel
theorem dX12_who_119 : decode cX12_who 119 = .ok (.iaload, 1) := by decide +kernel
theorem dX12_who_120 : decode cX12_who 120 = .ok (.invokevirtual 113, 3) := by decide +kernel
theorem dX12_who_123 : decode cX12_who 123 = .ok (.ireturn, 1) := by decide +kernel
theorem dX12_fewestFor_0 : decode cX12_fewestFor 0 = .ok (.iconst 0, 1) := by decide +kernel
theorem dX12_fewestFor_1 : decode cX12_fewestFor 1 = .ok (.istore 4, 2) := by decide +kernel
theorem dX12_fewestFor_3 : decode cX12_fewestFor 3 = .ok (.iload 4, 2) := by decide +kernel
theorem dX12_fewestFor_5 : decode cX12_fewestFor 5 = .ok (.bipush 40, 2) := by decide +kernel
theorem dX12_fewestFor_7 : decode cX12_fewestFor 7 = .ok (.if_icmp .gt 51, 3) := by decide +kernel
theorem dX12_fewestFor_10 : decode cX12_fewestFor 10 = .ok (.aload_n 0, 1) := by decide +kernel
theorem dX12_fewestFor_11 : decode cX12_fewestFor 11 = .ok (.iload_n 1, 1) := by decide +kernel
theorem dX12_fewestFor_12 : decode cX12_fewestFor 12 = .ok (.iload_n 2, 1) := by decide +kernel
theorem dX12_fewestFor_13 : decode cX12_fewestFor 13 = .ok (.ifCond .ne 8, 3) := by decide +kernel
theorem dX12_fewestFor_16 : decode cX12_fewestFor 16 = .ok (.iload 4, 2) := by decide +kernel
theorem dX12_fewestFor_18 : decode cX12_fewestFor 18 = .ok (.goto 9, 3) := by decide +kernel
theorem dX12_fewestFor_21 : decode cX12_fewestFor 21 = .ok (.aload_n 0, 1) := by decide +kernel
theorem dX12_fewestFor_22 : decode cX12_fewestFor 22 = .ok (.getfield 41, 3) := by decide +kernel
theorem dX12_fewestFor_25 : decode cX12_fewestFor 25 = .ok (.iload_n 1, 1) := by decide +kernel
theorem dX12_fewestFor_26 : decode cX12_fewestFor 26 = .ok (.iaload, 1) := by decide +kernel
theorem dX12_fewestFor_27 : decode cX12_fewestFor 27 = .ok (.iload_n 2, 1) := by decide +kernel
theorem dX12_fewestFor_28 : decode cX12_fewestFor 28 = .ok (.ifCond .ne 12, 3) := by decide +kernel
theorem dX12_fewestFor_31 : decode cX12_fewestFor 31 = .ok (.aload_n 0, 1) := by decide +kernel
theorem dX12_fewestFor_32 : decode cX12_fewestFor 32 = .ok (.getfield 44, 3) := by decide +kernel
theorem dX12_fewestFor_35 : decode cX12_fewestFor 35 = .ok (.iload_n 1, 1) := by decide +kernel
theorem dX12_fewestFor_36 : decode cX12_fewestFor 36 = .ok (.iaload, 1) := by decide +kernel
theorem dX12_fewestFor_37 : decode cX12_fewestFor 37 = .ok (.goto 5, 3) := by decide +kernel
theorem dX12_fewestFor_40 : decode cX12_fewestFor 40 = .ok (.iload 4, 2) := by decide +kernel
theorem dX12_fewestFor_42 : decode cX12_fewestFor 42 = .ok (.invokevirtual 182, 3) := by decide +kernel
theorem dX12_fewestFor_45 : decode cX12_fewestFor 45 = .ok (.iload_n 3, 1) := by decide +kernel
theorem dX12_fewestFor_46 : decode cX12_fewestFor 46 = .ok (.if_icmp .ne 6, 3) := by decide +kernel
theorem dX12_fewestFor_49 : decode cX12_fewestFor 49 = .ok (.iload 4, 2) := by decide +kernel
theorem dX12_fewestFor_51 : decode cX12_fewestFor 51 = .ok (.ireturn, 1) := by decide +kernel
theorem dX12_fewestFor_52 : decode cX12_fewestFor 52 = .ok (.iinc 4 1, 3) := by decide +kernel
theorem dX12_fewestFor_55 : decode cX12_fewestFor 55 = .ok (.goto (-52), 3) := by decide +kernel
theorem dX12_fewestFor_58 : decode cX12_fewestFor 58 = .ok (.bipush (-9), 2) := by decide +kernel
theorem dX12_fewestFor_60 : decode cX12_fewestFor 60 = .ok (.ireturn, 1) := by decide +kernel
theorem dX12_isAhead_0 : decode cX12_isAhead 0 = .ok (.iload_n 1, 1) := by decide +kernel
theorem dX12_isAhead_1 : decode cX12_isAhead 1 = .ok (.aload_n 0, 1) := by decide +kernel
theorem dX12_isAhead_2 : decode cX12_isAhead 2 = .ok (.getfield 208, 3) := by decide +kernel
theorem dX12_isAhead_5 : decode cX12_isAhead 5 = .ok (.if_icmp .ne 11, 3) := by decide +kernel
theorem dX12_isAhead_8 : decode cX12_isAhead 8 = .ok (.iload_n 2, 1) := by decide +kernel
theorem dX12_isAhead_9 : decode cX12_isAhead 9 = .ok (.aload_n 0, 1) := by decide +kernel
theorem dX12_isAhead_10 : decode cX12_isAhead 10 = .ok (.getfield 211, 3) := by decide +kernel
theorem dX12_isAhead_13 : decode cX12_isAhead 13 = .ok (.if_icmp .eq 33, 3) := by decide +kernel
theorem dX12_isAhead_16 : decode cX12_isAhead 16 = .ok (.iload_n 1, 1) := by decide +kernel
theorem dX12_isAhead_17 : decode cX12_isAhead 17 = .ok (.aload_n 0, 1) := by decide +kernel
theorem dX12_isAhead_18 : decode cX12_isAhead 18 = .ok (.getfield 208, 3) := by decide +kernel
theorem dX12_isAhead_21 : decode cX12_isAhead 21 = .ok (.if_icmp .gt 19, 3) := by decide +kernel
theorem dX12_isAhead_24 : decode cX12_isAhead 24 = .ok (.iload_n 1, 1) := by decide +kernel
theorem dX12_isAhead_25 : decode cX12_isAhead 25 = .ok (.aload_n 0, 1) := by decide +kernel
theorem dX12_isAhead_26 : decode cX12_isAhead 26 = .ok (.getfield 208, 3) := by decide +kernel
theorem dX12_isAhead_29 : decode cX12_isAhead 29 = .ok (.if_icmp .ne 15, 3) := by decide +kernel
theorem dX12_isAhead_32 : decode cX12_isAhead 32 = .ok (.iload_n 2, 1) := by decide +kernel
theorem dX12_isAhead_33 : decode cX12_isAhead 33 = .ok (.aload_n 0, 1) := by decide +kernel
theorem dX12_isAhead_34 : decode cX12_isAhead 34 = .ok (.getfield 211, 3) := by decide +kernel
theorem dX12_isAhead_37 : decode cX12_isAhead 37 = .ok (.if_icmp .ge 7, 3) := by decide +kernel
theorem dX12_isAhead_40 : decode cX12_isAhead 40 = .ok (.iconst 1, 1) := by decide +kernel
theorem dX12_isAhead_41 : decode cX12_isAhead 41 = .ok (.goto 4, 3) := by decide +kernel
theorem dX12_isAhead_44 : decode cX12_isAhead 44 = .ok (.iconst 0, 1) := by decide +kernel
theorem dX12_isAhead_45 : decode cX12_isAhead 45 = .ok (.ireturn, 1) := by decide +kernel
theorem dX12_isAhead_46 : decode cX12_isAhead 46 = .ok (.iconst 0, 1) := by decide +kernel
theorem dX12_isAhead_47 : decode cX12_isAhead 47 = .ok (.istore_n 3, 1) := by decide +kernel
theorem dX12_isAhead_48 : decode cX12_isAhead 48 = .ok (.iload_n 3, 1) := by decide +kernel
theorem dX12_isAhead_49 : decode cX12_isAhead 49 = .ok (.aload_n 0, 1) := by decide +kernel
theorem dX12_isAhead_50 : decode cX12_isAhead 50 = .ok (.getfield 156, 3) := by decide +kernel
theorem dX12_isAhead_53 : decode cX12_isAhead 53 = .ok (.if_icmp .ge 45, 3) := by decide +kernel
theorem dX12_isAhead_56 : decode cX12_isAhead 56 = .ok (.aload_n 0, 1) := by decide +kernel
theorem dX12_isAhead_57 : decode cX12_isAhead 57 = .ok (.getfield 50, 3) := by decide +kernel
theorem dX12_isAhead_60 : decode cX12_isAhead 60 = .ok (.iload_n 3, 1) := by decide +kernel
theorem dX12_isAhead_61 : decode cX12_isAhead 61 = .ok (.iaload, 1) := by decide +kernel
theorem dX12_isAhead_62 : decode cX12_isAhead 62 = .ok (.aload_n 0, 1) := by decide +kernel
theorem dX12_isAhead_63 : decode cX12_isAhead 63 = .ok (.getfield 53, 3) := by decide +kernel
theorem dX12_isAhead_66 : decode cX12_isAhead 66 = .ok (.iload_n 3, 1) := by decide +kernel
theorem dX12_isAhead_67 : decode cX12_isAhead 67 = .ok (.iaload, 1) := by decide +kernel
theorem dX12_isAhead_68 : decode cX12_isAhead 68 = .ok (.if_icmp .eq 24, 3) := by decide +kernel
theorem dX12_isAhead_71 : decode cX12_isAhead 71 = .ok (.aload_n 0, 1) := by decide +kernel
theorem dX12_isAhead_72 : decode cX12_isAhead 72 = .ok (.getfield 50, 3) := by decide +kernel
theorem dX12_isAhead_75 : decode cX12_isAhead 75 = .ok (.iload_n 3, 1) := by decide +kernel
theorem dX12_isAhead_76 : decode cX12_isAhead 76 = .ok (.iaload, 1) := by decide +kernel
theorem dX12_isAhead_77 : decode cX12_isAhead 77 = .ok (.aload_n 0, 1) := by decide +kernel
theorem dX12_isAhead_78 : decode cX12_isAhead 78 = .ok (.getfield 53, 3) := by decide +kernel
theorem dX12_isAhead_81 : decode cX12_isAhead 81 = .ok (.iload_n 3, 1) := by decide +kernel
theorem dX12_isAhead_82 : decode cX12_isAhead 82 = .ok (.iaload, 1) := by decide +kernel
theorem dX12_isAhead_83 : decode cX12_isAhead 83 = .ok (.if_icmp .ge 7, 3) := by decide +kernel
theorem dX12_isAhead_86 : decode cX12_isAhead 86 = .ok (.iconst 1, 1) := by decide +kernel
theorem dX12_isAhead_87 : decode cX12_isAhead 87 = .ok (.goto 4, 3) := by decide +kernel
theorem dX12_isAhead_90 : decode cX12_isAhead 90 = .ok (.iconst 0, 1) := by decide +kernel
theorem dX12_isAhead_91 : decode cX12_isAhead 91 = .ok (.ireturn, 1) := by decide +kernel
theorem dX12_isAhead_92 : decode cX12_isAhead 92 = .ok (.iinc 3 1, 3) := by decide +kernel
theorem dX12_isAhead_95 : decode cX12_isAhead 95 = .ok (.goto (-47), 3) := by decide +kernel
theorem dX12_isAhead_98 : decode cX12_isAhead 98 = .ok (.iconst 0, 1) := by decide +kernel
theorem dX12_isAhead_99 : decode cX12_isAhead 99 = .ok (.ireturn, 1) := by decide +kernel
theorem dX12_bestOn_0 : decode cX12_bestOn 0 = .ok (.iload_n 1, 1) := by decide +kernel
theorem dX12_bestOn_1 : decode cX12_bestOn 1 = .ok (.aload_n 0, 1) := by decide +kernel
theorem dX12_bestOn_2 : decode cX12_bestOn 2 = .ok (.getfield 156, 3) := by decide +kernel
theorem dX12_bestOn_5 : decode cX12_bestOn 5 = .ok (.if_icmp .ne 55, 3) := by decide +kernel
theorem dX12_bestOn_8 : decode cX12_bestOn 8 = .ok (.aload_n 0, 1) := by decide +kernel
theorem dX12_bestOn_9 : decode cX12_bestOn 9 = .ok (.iload_n 2, 1) := by decide +kernel
theorem dX12_bestOn_10 : decode cX12_bestOn 10 = .ok (.iload_n 3, 1) := by decide +kernel
theorem dX12_bestOn_11 : decode cX12_bestOn 11 = .ok (.invokevirtual 214, 3) := by decide +kernel
theorem dX12_bestOn_14 : decode cX12_bestOn 14 = .ok (.ifCond .eq 45, 3) := by decide +kernel
theorem dX12_bestOn_17 : decode cX12_bestOn 17 = .ok (.aload_n 0, 1) := by decide +kernel
theorem dX12_bestOn_18 : decode cX12_bestOn 18 = .ok (.iload_n 2, 1) := by decide +kernel
theorem dX12_bestOn_19 : decode cX12_bestOn 19 = .ok (.putfield 208, 3) := by decide +kernel
theorem dX12_bestOn_22 : decode cX12_bestOn 22 = .ok (.aload_n 0, 1) := by decide +kernel
theorem dX12_bestOn_23 : decode cX12_bestOn 23 = .ok (.iload_n 3, 1) := by decide +kernel
theorem dX12_bestOn_24 : decode cX12_bestOn 24 = .ok (.putfield 211, 3) := by decide +kernel
theorem dX12_bestOn_27 : decode cX12_bestOn 27 = .ok (.iconst 0, 1) := by decide +kernel
theorem dX12_bestOn_28 : decode cX12_bestOn 28 = .ok (.istore 4, 2) := by decide +kernel
theorem dX12_bestOn_30 : decode cX12_bestOn 30 = .ok (.iload 4, 2) := by decide +kernel
theorem dX12_bestOn_32 : decode cX12_bestOn 32 = .ok (.aload_n 0, 1) := by decide +kernel
theorem dX12_bestOn_33 : decode cX12_bestOn 33 = .ok (.getfield 156, 3) := by decide +kernel
theorem dX12_bestOn_36 : decode cX12_bestOn 36 = .ok (.if_icmp .ge 23, 3) := by decide +kernel
theorem dX12_bestOn_39 : decode cX12_bestOn 39 = .ok (.aload_n 0, 1) := by decide +kernel
theorem dX12_bestOn_40 : decode cX12_bestOn 40 = .ok (.getfield 53, 3) := by decide +kernel
theorem dX12_bestOn_43 : decode cX12_bestOn 43 = .ok (.iload 4, 2) := by decide +kernel
theorem dX12_bestOn_45 : decode cX12_bestOn 45 = .ok (.aload_n 0, 1) := by decide +kernel
theorem dX12_bestOn_46 : decode cX12_bestOn 46 = .ok (.getfield 50, 3) := by decide +kernel
theorem dX12_bestOn_49 : decode cX12_bestOn 49 = .ok (.iload 4, 2) := by decide +kernel
theorem dX12_bestOn_51 : decode cX12_bestOn 51 = .ok (.iaload, 1) := by decide +kernel
theorem dX12_bestOn_52 : decode cX12_bestOn 52 = .ok (.iastore, 1) := by decide +kernel
theorem dX12_bestOn_53 : decode cX12_bestOn 53 = .ok (.iinc 4 1, 3) := by decide +kernel
theorem dX12_bestOn_56 : decode cX12_bestOn 56 = .ok (.goto (-26), 3) := by decide +kernel
theorem dX12_bestOn_59 : decode cX12_bestOn 59 = .ok (.return_, 1) := by decide +kernel
theorem dX12_bestOn_60 : decode cX12_bestOn 60 = .ok (.iconst 0, 1) := by decide +kernel
theorem dX12_bestOn_61 : decode cX12_bestOn 61 = .ok (.istore 4, 2) := by decide +kernel
theorem dX12_bestOn_63 : decode cX12_bestOn 63 = .ok (.iload 4, 2) := by decide +kernel
theorem dX12_bestOn_65 : decode cX12_bestOn 65 = .ok (.iconst 3, 1) := by decide +kernel
theorem dX12_bestOn_66 : decode cX12_bestOn 66 = .ok (.if_icmp .ge 74, 3) := by decide +kernel
theorem dX12_bestOn_69 : decode cX12_bestOn 69 = .ok (.aload_n 0, 1) := by decide +kernel
theorem dX12_bestOn_70 : decode cX12_bestOn 70 = .ok (.iload_n 1, 1) := by decide +kernel
theorem dX12_bestOn_71 : decode cX12_bestOn 71 = .ok (.iconst 0, 1) := by decide +kernel
theorem dX12_bestOn_72 : decode cX12_bestOn 72 = .ok (.iload 4, 2) := by decide +kernel
theorem dX12_bestOn_74 : decode cX12_bestOn 74 = .ok (.invokevirtual 217, 3) := by decide +kernel
theorem dX12_bestOn_77 : decode cX12_bestOn 77 = .ok (.istore 5, 2) := by decide +kernel
theorem dX12_bestOn_79 : decode cX12_bestOn 79 = .ok (.iload 5, 2) := by decide +kernel
theorem dX12_bestOn_81 : decode cX12_bestOn 81 = .ok (.bipush (-9), 2) := by decide +kernel
theorem dX12_bestOn_83 : decode cX12_bestOn 83 = .ok (.if_icmp .eq 51, 3) := by decide +kernel
theorem dX12_bestOn_86 : decode cX12_bestOn 86 = .ok (.iload_n 3, 1) := by decide +kernel
theorem dX12_bestOn_87 : decode cX12_bestOn 87 = .ok (.iload 5, 2) := by decide +kernel
theorem dX12_bestOn_89 : decode cX12_bestOn 89 = .ok (.iadd, 1) := by decide +kernel
theorem dX12_bestOn_90 : decode cX12_bestOn 90 = .ok (.aload_n 0, 1) := by decide +kernel
theorem dX12_bestOn_91 : decode cX12_bestOn 91 = .ok (.getfield 220, 3) := by decide +kernel
theorem dX12_bestOn_94 : decode cX12_bestOn 94 = .ok (.if_icmp .gt 40, 3) := by decide +kernel
theorem dX12_bestOn_97 : decode cX12_bestOn 97 = .ok (.aload_n 0, 1) := by decide +kernel
theorem dX12_bestOn_98 : decode cX12_bestOn 98 = .ok (.getfield 50, 3) := by decide +kernel
theorem dX12_bestOn_101 : decode cX12_bestOn 101 = .ok (.iload_n 1, 1) := by decide +kernel
theorem dX12_bestOn_102 : decode cX12_bestOn 102 = .ok (.iload 5, 2) := by decide +kernel
theorem dX12_bestOn_104 : decode cX12_bestOn 104 = .ok (.iastore, 1) := by decide +kernel
theorem dX12_bestOn_105 : decode cX12_bestOn 105 = .ok (.aload_n 0, 1) := by decide +kernel
theorem dX12_bestOn_106 : decode cX12_bestOn 106 = .ok (.getfield 47, 3) := by decide +kernel
theorem dX12_bestOn_109 : decode cX12_bestOn 109 = .ok (.iload_n 1, 1) := by decide +kernel
theorem dX12_bestOn_110 : decode cX12_bestOn 110 = .ok (.iload 4, 2) := by decide +kernel
theorem dX12_bestOn_112 : decode cX12_bestOn 112 = .ok (.iastore, 1) := by decide +kernel
theorem dX12_bestOn_113 : decode cX12_bestOn 113 = .ok (.aload_n 0, 1) := by decide +kernel
theorem dX12_bestOn_114 : decode cX12_bestOn 114 = .ok (.iload_n 1, 1) := by decide +kernel
theorem dX12_bestOn_115 : decode cX12_bestOn 115 = .ok (.iconst 1, 1) := by decide +kernel
theorem dX12_bestOn_116 : decode cX12_bestOn 116 = .ok (.iadd, 1) := by decide +kernel
theorem dX12_bestOn_117 : decode cX12_bestOn 117 = .ok (.iload_n 2, 1) := by decide +kernel
theorem dX12_bestOn_118 : decode cX12_bestOn 118 = .ok (.aload_n 0, 1) := by decide +kernel
theorem dX12_bestOn_119 : decode cX12_bestOn 119 = .ok (.iload_n 1, 1) := by decide +kernel
theorem dX12_bestOn_120 : decode cX12_bestOn 120 = .ok (.iload 4, 2) := by decide +kernel
theorem dX12_bestOn_122 : decode cX12_bestOn 122 = .ok (.iconst 0, 1) := by decide +kernel
theorem dX12_bestOn_123 : decode cX12_bestOn 123 = .ok (.invokevirtual 185, 3) := by decide +kernel
theorem dX12_bestOn_126 : decode cX12_bestOn 126 = .ok (.iadd, 1) := by decide +kernel
theorem dX12_bestOn_127 : decode cX12_bestOn 127 = .ok (.iload_n 3, 1) := by decide +kernel
theorem dX12_bestOn_128 : decode cX12_bestOn 128 = .ok (.iload 5, 2) := by decide +kernel
theorem dX12_bestOn_130 : decode cX12_bestOn 130 = .ok (.iadd, 1) := by decide +kernel
theorem dX12_bestOn_131 : decode cX12_bestOn 131 = .ok (.invokevirtual 223, 3) := by decide +kernel
theorem dX12_bestOn_134 : decode cX12_bestOn 134 = .ok (.iinc 4 1, 3) := by decide +kernel
theorem dX12_bestOn_137 : decode cX12_bestOn 137 = .ok (.goto (-74), 3) := by decide +kernel
theorem dX12_bestOn_140 : decode cX12_bestOn 140 = .ok (.return_, 1) := by decide +kernel
theorem dX12_setBest_0 : decode cX12_setBest 0 = .ok (.aload_n 0, 1) := by decide +kernel
theorem dX12_setBest_1 : decode cX12_setBest 1 = .ok (.iload_n 1, 1) := by decide +kernel
theorem dX12_setBest_2 : decode cX12_setBest 2 = .ok (.putfield 220, 3) := by decide +kernel
theorem dX12_setBest_5 : decode cX12_setBest 5 = .ok (.aload_n 0, 1) := by decide +kernel
theorem dX12_setBest_6 : decode cX12_setBest 6 = .ok (.iconst (-1), 1) := by decide +kernel
theorem dX12_setBest_7 : decode cX12_setBest 7 = .ok (.putfield 208, 3) := by decide +kernel
theorem dX12_setBest_10 : decode cX12_setBest 10 = .ok (.aload_n 0, 1) := by decide +kernel
theorem dX12_setBest_11 : decode cX12_setBest 11 = .ok (.iconst 0, 1) := by decide +kernel
theorem dX12_setBest_12 : decode cX12_setBest 12 = .ok (.putfield 211, 3) := by decide +kernel
theorem dX12_setBest_15 : decode cX12_setBest 15 = .ok (.aload_n 0, 1) := by decide +kernel
theorem dX12_setBest_16 : decode cX12_setBest 16 = .ok (.iconst 0, 1) := by decide +kernel
theorem dX12_setBest_17 : decode cX12_setBest 17 = .ok (.iconst 0, 1) := by decide +kernel
theorem dX12_setBest_18 : decode cX12_setBest 18 = .ok (.iconst 0, 1) := by decide +kernel
theorem dX12_setBest_19 : decode cX12_setBest 19 = .ok (.invokevirtual 223, 3) := by decide +kernel
theorem dX12_setBest_22 : decode cX12_setBest 22 = .ok (.return_, 1) := by decide +kernel
theorem dX12_layBest_0 : decode cX12_layBest 0 = .ok (.aload_n 0, 1) := by decide +kernel
theorem dX12_layBest_1 : decode cX12_layBest 1 = .ok (.iload_n 1, 1) := by decide +kernel
theorem dX12_layBest_2 : decode cX12_layBest 2 = .ok (.aload_n 0, 1) := by decide +kernel
theorem dX12_layBest_3 : decode cX12_layBest 3 = .ok (.getfield 156, 3) := by decide +kernel
theorem dX12_layBest_6 : decode cX12_layBest 6 = .ok (.invokevirtual 226, 3) := by decide +kernel
theorem dX12_layBest_9 : decode cX12_layBest 9 = .ok (.pop, 1) := by decide +kernel
theorem dX12_layBest_10 : decode cX12_layBest 10 = .ok (.iconst 0, 1) := by decide +kernel
theorem dX12_layBest_11 : decode cX12_layBest 11 = .ok (.istore_n 2, 1) := by decide +kernel
theorem dX12_layBest_12 : decode cX12_layBest 12 = .ok (.iload_n 2, 1) := by decide +kernel
theorem dX12_layBest_13 : decode cX12_layBest 13 = .ok (.aload_n 0, 1) := by decide +kernel
theorem dX12_layBest_14 : decode cX12_layBest 14 = .ok (.getfield 156, 3) := by decide +kernel
theorem dX12_layBest_17 : decode cX12_layBest 17 = .ok (.if_icmp .ge 21, 3) := by decide +kernel
theorem dX12_layBest_20 : decode cX12_layBest 20 = .ok (.aload_n 0, 1) := by decide +kernel
theorem dX12_layBest_21 : decode cX12_layBest 21 = .ok (.iload_n 1, 1) := by decide +kernel
theorem dX12_layBest_22 : decode cX12_layBest 22 = .ok (.iload_n 2, 1) := by decide +kernel
theorem dX12_layBest_23 : decode cX12_layBest 23 = .ok (.aload_n 0, 1) := by decide +kernel
theorem dX12_layBest_24 : decode cX12_layBest 24 = .ok (.getfield 53, 3) := by decide +kernel
theorem dX12_layBest_27 : decode cX12_layBest 27 = .ok (.iload_n 2, 1) := by decide +kernel
theorem dX12_layBest_28 : decode cX12_layBest 28 = .ok (.iaload, 1) := by decide +kernel
theorem dX12_layBest_29 : decode cX12_layBest 29 = .ok (.invokevirtual 102, 3) := by decide +kernel
theorem dX12_layBest_32 : decode cX12_layBest 32 = .ok (.iinc 2 1, 3) := by decide +kernel
theorem dX12_layBest_35 : decode cX12_layBest 35 = .ok (.goto (-23), 3) := by decide +kernel
theorem dX12_layBest_38 : decode cX12_layBest 38 = .ok (.return_, 1) := by decide +kernel
theorem dX12_best_0 : decode cX12_best 0 = .ok (.iload_n 1, 1) := by decide +kernel
theorem dX12_best_1 : decode cX12_best 1 = .ok (.invokestatic 91, 3) := by decide +kernel
theorem dX12_best_4 : decode cX12_best 4 = .ok (.ifCond .eq 10, 3) := by decide +kernel
theorem dX12_best_7 : decode cX12_best 7 = .ok (.iload_n 2, 1) := by decide +kernel
theorem dX12_best_8 : decode cX12_best 8 = .ok (.invokestatic 91, 3) := by decide +kernel
theorem dX12_best_11 : decode cX12_best 11 = .ok (.ifCond .ne 5, 3) := by decide +kernel
theorem dX12_best_14 : decode cX12_best 14 = .ok (.iconst (-1), 1) := by decide +kernel
theorem dX12_best_15 : decode cX12_best 15 = .ok (.ireturn, 1) := by decide +kernel
theorem dX12_best_16 : decode cX12_best 16 = .ok (.aload_n 0, 1) := by decide +kernel
theorem dX12_best_17 : decode cX12_best 17 = .ok (.iload_n 1, 1) := by decide +kernel
theorem dX12_best_18 : decode cX12_best 18 = .ok (.iconst 1, 1) := by decide +kernel
theorem dX12_best_19 : decode cX12_best 19 = .ok (.invokevirtual 229, 3) := by decide +kernel
theorem dX12_best_22 : decode cX12_best 22 = .ok (.istore_n 3, 1) := by decide +kernel
theorem dX12_best_23 : decode cX12_best 23 = .ok (.iload_n 3, 1) := by decide +kernel
theorem dX12_best_24 : decode cX12_best 24 = .ok (.ifCond .ge 5, 3) := by decide +kernel
theorem dX12_best_27 : decode cX12_best 27 = .ok (.iload_n 3, 1) := by decide +kernel
theorem dX12_best_28 : decode cX12_best 28 = .ok (.ireturn, 1) := by decide +kernel
theorem dX12_best_29 : decode cX12_best 29 = .ok (.aload_n 0, 1) := by decide +kernel
theorem dX12_best_30 : decode cX12_best 30 = .ok (.iload_n 1, 1) := by decide +kernel
theorem dX12_best_31 : decode cX12_best 31 = .ok (.iconst 1, 1) := by decide +kernel
theorem dX12_best_32 : decode cX12_best 32 = .ok (.invokevirtual 198, 3) := by decide +kernel
theorem dX12_best_35 : decode cX12_best 35 = .ok (.aload_n 0, 1) := by decide +kernel
theorem dX12_best_36 : decode cX12_best 36 = .ok (.aload_n 0, 1) := by decide +kernel
theorem dX12_best_37 : decode cX12_best 37 = .ok (.getfield 35, 3) := by decide +kernel
theorem dX12_best_40 : decode cX12_best 40 = .ok (.iconst 0, 1) := by decide +kernel
theorem dX12_best_41 : decode cX12_best 41 = .ok (.iaload, 1) := by decide +kernel
theorem dX12_best_42 : decode cX12_best 42 = .ok (.invokevirtual 232, 3) := by decide +kernel
theorem dX12_best_45 : decode cX12_best 45 = .ok (.aload_n 0, 1) := by decide +kernel
theorem dX12_best_46 : decode cX12_best 46 = .ok (.iload_n 2, 1) := by decide +kernel
theorem dX12_best_47 : decode cX12_best 47 = .ok (.invokevirtual 236, 3) := by decide +kernel
theorem dX12_best_50 : decode cX12_best 50 = .ok (.aload_n 0, 1) := by decide +kernel
theorem dX12_best_51 : decode cX12_best 51 = .ok (.aload_n 0, 1) := by decide +kernel
theorem dX12_best_52 : decode cX12_best 52 = .ok (.getfield 211, 3) := by decide +kernel
theorem dX12_best_55 : decode cX12_best 55 = .ok (.aload_n 0, 1) := by decide +kernel
theorem dX12_best_56 : decode cX12_best 56 = .ok (.getfield 208, 3) := by decide +kernel
theorem dX12_best_59 : decode cX12_best 59 = .ok (.invokevirtual 113, 3) := by decide +kernel
theorem dX12_best_62 : decode cX12_best 62 = .ok (.ireturn, 1) := by decide +kernel
theorem q_1324 : Cond.methodLink RX12 188 yX12_askedSize ∈ wT := wi_t 1324 (by decide +kernel) (by decide +kernel)
theorem q_1327 : Cond.code yX12_askedSize cX12_askedSize 2 (some .int) ∈ wT := wi_t 1327 (by decide +kernel) (by decide +kernel)
theorem q_1326 : Cond.instanceMethod yX12_askedSize ∈ wT := wi_t 1326 (by decide +kernel) (by decide +kernel)
theorem qs_58 : Cond.selects RX12 yX12_askedSize yX12_askedSize ∈ wT := wi_s (q := (yX12_askedSize, 42)) 58 (by decide +kernel) (by decide +kernel)
theorem q_1284 : Cond.methodLink RX12 191 yX12_askedNumbers ∈ wT := wi_t 1284 (by decide +kernel) (by decide +kernel)
theorem q_1287 : Cond.code yX12_askedNumbers cX12_askedNumbers 5 (some .int) ∈ wT := wi_t 1287 (by decide +kernel) (by decide +kernel)
theorem q_1286 : Cond.instanceMethod yX12_askedNumbers ∈ wT := wi_t 1286 (by decide +kernel) (by decide +kernel)
theorem qs_50 : Cond.selects RX12 yX12_askedNumbers yX12_askedNumbers ∈ wT := wi_s (q := (yX12_askedNumbers, 42)) 50 (by decide +kernel) (by decide +kernel)
theorem q_1280 : Cond.methodLink RX12 194 yX12_askedTwo ∈ wT := wi_t 1280 (by decide +kernel) (by decide +kernel)
theorem q_1283 : Cond.code yX12_askedTwo cX12_askedTwo 6 (some .int) ∈ wT := wi_t 1283 (by decide +kernel) (by decide +kernel)
theorem q_1282 : Cond.instanceMethod yX12_askedTwo ∈ wT := wi_t 1282 (by decide +kernel) (by decide +kernel)
theorem qs_49 : Cond.selects RX12 yX12_askedTwo yX12_askedTwo ∈ wT := wi_s (q := (yX12_askedTwo, 42)) 49 (by decide +kernel) (by decide +kernel)
theorem q_1288 : Cond.methodLink RX12 198 yX12_takes ∈ wT := wi_t 1288 (by decide +kernel) (by decide +kernel)
theorem q_1291 : Cond.code yX12_takes cX12_takes 4 none ∈ wT := wi_t 1291 (by decide +kernel) (by decide +kernel)
theorem q_1290 : Cond.instanceMethod yX12_takes ∈ wT := wi_t 1290 (by decide +kernel) (by decide +kernel)
theorem qs_51 : Cond.selects RX12 yX12_takes yX12_takes ∈ wT := wi_s (q := (yX12_takes, 42)) 51 (by decide +kernel) (by decide +kernel)
theorem q_1292 : Cond.methodLink RX12 202 yX12_setWinners ∈ wT := wi_t 1292 (by decide +kernel) (by decide +kernel)
theorem q_1295 : Cond.code yX12_setWinners cX12_setWinners 2 none ∈ wT := wi_t 1295 (by decide +kernel) (by decide +kernel)
theorem q_1294 : Cond.instanceMethod yX12_setWinners ∈ wT := wi_t 1294 (by decide +kernel) (by decide +kernel)
theorem qs_52 : Cond.selects RX12 yX12_setWinners yX12_setWinners ∈ wT := wi_s (q := (yX12_setWinners, 42)) 52 (by decide +kernel) (by decide +kernel)
theorem q_1304 : Cond.methodLink RX12 205 yX12_scoreOf ∈ wT := wi_t 1304 (by decide +kernel) (by decide +kernel)
theorem q_1307 : Cond.code yX12_scoreOf cX12_scoreOf 4 (some .int) ∈ wT := wi_t 1307 (by decide +kernel) (by decide +kernel)
theorem q_1306 : Cond.instanceMethod yX12_scoreOf ∈ wT := wi_t 1306 (by decide +kernel) (by decide +kernel)
theorem qs_55 : Cond.selects RX12 yX12_scoreOf yX12_scoreOf ∈ wT := wi_s (q := (yX12_scoreOf, 42)) 55 (by decide +kernel) (by decide +kernel)
theorem q_1042 : Cond.fieldLink RX12 50 "HeavyFilesModel" "laid" "[I" ∈ wT := wi_t 1042 (by decide +kernel) (by decide +kernel)
theorem q_1043 : Cond.fieldLink RX12 53 "HeavyFilesModel" "bestLaid" "[I" ∈ wT := wi_t 1043 (by decide +kernel) (by decide +kernel)
theorem q_1040 : Cond.fieldLink RX12 208 "HeavyFilesModel" "bestScore" "I" ∈ wT := wi_t 1040 (by decide +kernel) (by decide +kernel)
theorem q_1041 : Cond.fieldLink RX12 211 "HeavyFilesModel" "bestSheets" "I" ∈ wT := wi_t 1041 (by decide +kernel) (by decide +kernel)
theorem q_1340 : Cond.methodLink RX12 217 yX12_fewestFor ∈ wT := wi_t 1340 (by decide +kernel) (by decide +kernel)
theorem q_1343 : Cond.code yX12_fewestFor cX12_fewestFor 5 (some .int) ∈ wT := wi_t 1343 (by decide +kernel) (by decide +kernel)
theorem q_1342 : Cond.instanceMethod yX12_fewestFor ∈ wT := wi_t 1342 (by decide +kernel) (by decide +kernel)
theorem qs_62 : Cond.selects RX12 yX12_fewestFor yX12_fewestFor ∈ wT := wi_s (q := (yX12_fewestFor, 42)) 62 (by decide +kernel) (by decide +kernel)
theorem q_1038 : Cond.fieldLink RX12 220 "HeavyFilesModel" "limit" "I" ∈ wT := wi_t 1038 (by decide +kernel) (by decide +kernel)
theorem q_1332 : Cond.methodLink RX12 223 yX12_bestOn ∈ wT := wi_t 1332 (by decide +kernel) (by decide +kernel)
theorem q_1335 : Cond.code yX12_bestOn cX12_bestOn 6 none ∈ wT := wi_t 1335 (by decide +kernel) (by decide +kernel)
theorem q_1334 : Cond.instanceMethod yX12_bestOn ∈ wT := wi_t 1334 (by decide +kernel) (by decide +kernel)
theorem qs_60 : Cond.selects RX12 yX12_bestOn yX12_bestOn ∈ wT := wi_s (q := (yX12_bestOn, 42)) 60 (by decide +kernel) (by decide +kernel)
theorem q_1336 : Cond.methodLink RX12 214 yX12_isAhead ∈ wT := wi_t 1336 (by decide +kernel) (by decide +kernel)
theorem q_1339 : Cond.code yX12_isAhead cX12_isAhead 4 (some .boolean) ∈ wT := wi_t 1339 (by decide +kernel) (by decide +kernel)
theorem q_1338 : Cond.instanceMethod yX12_isAhead ∈ wT := wi_t 1338 (by decide +kernel) (by decide +kernel)
theorem qs_61 : Cond.selects RX12 yX12_isAhead yX12_isAhead ∈ wT := wi_s (q := (yX12_isAhead, 42)) 61 (by decide +kernel) (by decide +kernel)
theorem q_1348 : Cond.methodLink RX12 226 yX12_row ∈ wT := wi_t 1348 (by decide +kernel) (by decide +kernel)
theorem q_1146 : Cond.code yX12_row cX12_row 4 (some .int) ∈ wT := wi_t 1146 (by decide +kernel) (by decide +kernel)
theorem q_1144 : Cond.instanceMethod yX12_row ∈ wT := wi_t 1144 (by decide +kernel) (by decide +kernel)
theorem q_1145 : Cond.selects RX12 yX12_row yX12_row ∈ wT := wi_t 1145 (by decide +kernel) (by decide +kernel)
theorem q_1320 : Cond.methodLink RX12 229 yX12_askedLaying ∈ wT := wi_t 1320 (by decide +kernel) (by decide +kernel)
theorem q_1323 : Cond.code yX12_askedLaying cX12_askedLaying 4 (some .int) ∈ wT := wi_t 1323 (by decide +kernel) (by decide +kernel)
theorem q_1322 : Cond.instanceMethod yX12_askedLaying ∈ wT := wi_t 1322 (by decide +kernel) (by decide +kernel)
theorem qs_57 : Cond.selects RX12 yX12_askedLaying yX12_askedLaying ∈ wT := wi_s (q := (yX12_askedLaying, 42)) 57 (by decide +kernel) (by decide +kernel)
theorem q_1328 : Cond.methodLink RX12 232 yX12_setBest ∈ wT := wi_t 1328 (by decide +kernel) (by decide +kernel)
theorem q_1331 : Cond.code yX12_setBest cX12_setBest 2 none ∈ wT := wi_t 1331 (by decide +kernel) (by decide +kernel)
theorem q_1330 : Cond.instanceMethod yX12_setBest ∈ wT := wi_t 1330 (by decide +kernel) (by decide +kernel)
theorem qs_59 : Cond.selects RX12 yX12_setBest yX12_setBest ∈ wT := wi_s (q := (yX12_setBest, 42)) 59 (by decide +kernel) (by decide +kernel)
theorem q_1344 : Cond.methodLink RX12 236 yX12_layBest ∈ wT := wi_t 1344 (by decide +kernel) (by decide +kernel)
theorem q_1347 : Cond.code yX12_layBest cX12_layBest 3 none ∈ wT := wi_t 1347 (by decide +kernel) (by decide +kernel)
theorem q_1346 : Cond.instanceMethod yX12_layBest ∈ wT := wi_t 1346 (by decide +kernel) (by decide +kernel)
theorem qs_63 : Cond.selects RX12 yX12_layBest yX12_layBest ∈ wT := wi_s (q := (yX12_layBest, 42)) 63 (by decide +kernel) (by decide +kernel)
theorem kvX12_askedSize : KV yX12_askedSize RX12 cX12_askedSize 2 (some .int) 1 := ⟨q_1326, qs_58, q_13, q_1327, rfl, by decide +kernel, by decide +kernel, by decide +kernel⟩
theorem kvX12_askedNumbers : KV yX12_askedNumbers RX12 cX12_askedNumbers 5 (some .int) 2 := ⟨q_1286, qs_50, q_13, q_1287, rfl, by decide +kernel, by decide +kernel, by decide +kernel⟩
theorem kvX12_askedTwo : KV yX12_askedTwo RX12 cX12_askedTwo 6 (some .int) 4 := ⟨q_1282, qs_49, q_13, q_1283, rfl, by decide +kernel, by decide +kernel, by decide +kernel⟩
theorem kvX12_takes : KV yX12_takes RX12 cX12_takes 4 none 2 := ⟨q_1290, qs_51, q_13, q_1291, rfl, by decide +kernel, by decide +kernel, by decide +kernel⟩
theorem kvX12_setWinners : KV yX12_setWinners RX12 cX12_setWinners 2 none 0 := ⟨q_1294, qs_52, q_13, q_1295, rfl, by decide +kernel, by decide +kernel, by decide +kernel⟩
theorem kvX12_scoreOf : KV yX12_scoreOf RX12 cX12_scoreOf 4 (some .int) 1 := ⟨q_1306, qs_55, q_13, q_1307, rfl, by decide +kernel, by decide +kernel, by decide +kernel⟩
theorem kvX12_fewestFor : KV yX12_fewestFor RX12 cX12_fewestFor 5 (some .int) 3 := ⟨q_1342, qs_62, q_13, q_1343, rfl, by decide +kernel, by decide +kernel, by decide +kernel⟩
theorem kvX12_bestOn : KV yX12_bestOn RX12 cX12_bestOn 6 none 3 := ⟨q_1334, qs_60, q_13, q_1335, rfl, by decide +kernel, by decide +kernel, by decide +kernel⟩
theorem kvX12_isAhead : KV yX12_isAhead RX12 cX12_isAhead 4 (some .boolean) 2 := ⟨q_1338, qs_61, q_13, q_1339, rfl, by decide +kernel, by decide +kernel, by decide +kernel⟩
theorem kvX12_row : KV yX12_row RX12 cX12_row 4 (some .int) 2 := ⟨q_1144, q_1145, q_13, q_1146, rfl, by decide +kernel, by decide +kernel, by decide +kernel⟩
theorem kvX12_askedLaying : KV yX12_askedLaying RX12 cX12_askedLaying 4 (some .int) 2 := ⟨q_1322, qs_57, q_13, q_1323, rfl, by decide +kernel, by decide +kernel, by decide +kernel⟩
theorem kvX12_setBest : KV yX12_setBest RX12 cX12_setBest 2 none 1 := ⟨q_1330, qs_59, q_13, q_1331, rfl, by decide +kernel, by decide +kernel, by decide +kernel⟩
theorem kvX12_layBest : KV yX12_layBest RX12 cX12_layBest 3 none 1 := ⟨q_1346, qs_63, q_13, q_1347, rfl, by decide +kernel, by decide +kernel, by decide +kernel⟩
/-! HeavyFilesModel.askedLaying(II)I -/
def fX12_askedLaying (N : Nat)  (a0 : Nat) (a1 : Int32) (a2 : Int32) (mm : Mm) : Option (Int32 × Mm) :=
  gd (inb a1 (ln (fr a0 5))) <| if (0 : Int32) ≤ (rd mm (fr a0 5) a1.toNatClampNeg) then (bd2 (fX12_askedSize N a0 a1 mm) fun x3 m4 => if (0 : Int32) ≤ x3 then (bd2 (fX12_askedNumbers N a0 a1 a2 m4) fun x7 m8 => some (x7, m8)) else (some (x3, m4))) else (bd2 (fX12_meet N a0 1 mm) fun x10 m11 => some (x10, m11))
abbrev rmX12_askedLaying : Room := { frames := 3, cells := 0, slots := 0, locals := 102 }
/-! HeavyFilesModel.askedTwo(IIII)I -/
def fX12_askedTwo_50 (N : Nat)  (a0 : Nat) (mm : Mm) : Option (Int32 × Mm) :=
  bd2 (fX12_meet N a0 5 mm) fun x1 m2 => some (x1, m2)
def fX12_askedTwo_18 (N : Nat)  (a0 : Nat) (mm : Mm) : Option (Int32 × Mm) :=
  bd2 (fX12_meet N a0 1 mm) fun x4 m5 => some (x4, m5)
def fX12_askedTwo (N : Nat)  (a0 : Nat) (a1 : Int32) (a2 : Int32) (a3 : Int32) (a4 : Int32) (mm : Mm) : Option (Int32 × Mm) :=
  gd (inb a1 (ln (fr a0 5))) <| if (rd mm (fr a0 5) a1.toNatClampNeg) < 0 then (fX12_askedTwo_18 N a0 mm) else (gd (inb a3 (ln (fr a0 5))) <| if (0 : Int32) ≤ (rd mm (fr a0 5) a3.toNatClampNeg) then (gd (inb a1 (ln (fr a0 5))) <| if (rd mm (fr a0 5) a1.toNatClampNeg) = (rd mm a0 10) then (gd (inb a3 (ln (fr a0 5))) <| if (rd mm (fr a0 5) a3.toNatClampNeg) = (rd mm a0 10) then (bd2 (fX12_askedNumbers N a0 a1 a2 mm) fun x15 m16 => if (0 : Int32) ≤ x15 then (bd2 (fX12_askedNumbers N a0 a3 a4 m16) fun x19 m20 => some (x19, m20)) else (some (x15, m16))) else (fX12_askedTwo_50 N a0 mm)) else (fX12_askedTwo_50 N a0 mm)) else (fX12_askedTwo_18 N a0 mm))
abbrev rmX12_askedTwo : Room := { frames := 3, cells := 0, slots := 0, locals := 102 }
/-! HeavyFilesModel.takes(II)V -/
def fX12_takes_41 (N : Nat) (k2 : Nat → Int32 → Int32 → Int32 → Mm → Option (Unit × Mm)) (a0 : Nat) (a1 : Int32) (a2 : Int32) (a3 : Int32) (mm : Mm) : Option (Unit × Mm) :=
  k2 a0 a1 a2 (a3 + 1) mm
def fX12_takes_2 (N : Nat)  : Nat → Nat → Int32 → Int32 → Int32 → Mm → Option (Unit × Mm)
  | 0 => fun _ _ _ _ _ => none
  | n + 1 => fun a0 a1 a2 a3 mm =>
    let k2 := fX12_takes_2 N  n
    if (rd mm a0 10) ≤ a3 then (some ((), mm)) else (if a2 = 0 then (bd2 (fX12_rowAt N a0 a1 a3 mm) fun x8 m9 => gd (inb a3 (ln (fr a0 19))) <| nm (wr m9 (fr a0 19) a3.toNatClampNeg x8) fun m12 => fX12_takes_41 N k2 a0 a1 a2 a3 m12) else (bd2 (fX12_rowAt N a0 a1 a3 mm) fun x3 m4 => gd (inb a3 (ln (fr a0 20))) <| nm (wr m4 (fr a0 20) a3.toNatClampNeg x3) fun m7 => fX12_takes_41 N k2 a0 a1 a2 a3 m7))
def fX12_takes (N : Nat)  (a0 : Nat) (a1 : Int32) (a2 : Int32) (mm : Mm) : Option (Unit × Mm) :=
  fX12_takes_2 N N a0 a1 a2 0 mm
abbrev rmX12_takes : Room := { frames := 2, cells := 0, slots := 0, locals := 70 }
/-! HeavyFilesModel.judge(II)I -/
def fX12_judge (N : Nat)  (a0 : Nat) (a1 : Int32) (a2 : Int32) (mm : Mm) : Option (Int32 × Mm) :=
  bd2 (fX12_isRow N a1 mm) fun x1 m2 => if x1 = 0 then (some ((-1), m2)) else (bd2 (fX12_isRow N a2 m2) fun x5 m6 => if x5 = 0 then (some ((-1), m6)) else (bd2 (fX12_askedTwo N a0 a1 0 a2 1 m6) fun x9 m10 => if (0 : Int32) ≤ x9 then (bd2 (fX12_takes N a0 a1 0 m10) fun x13 m14 => bd2 (fX12_takes N a0 a2 1 m14) fun x16 m17 => bd2 (fX12_setWinners N a0 m17) fun x19 m20 => bd2 (fX12_scoreOf N a0 1 m20) fun x22 m23 => bd2 (fX12_scoreOf N a0 0 m23) fun x25 m26 => bd2 (fX12_ask N a0 x22 x25 m26) fun x28 m29 => some (x28, m29)) else (some (x9, m10))))
abbrev rmX12_judge : Room := { frames := 5, cells := 0, slots := 0, locals := 165 }
/-! HeavyFilesModel.who(III)I -/
def fX12_who_120 (N : Nat)  (s0 : Nat) (s1 : Int32) (s2 : Int32) (mm : Mm) : Option (Int32 × Mm) :=
  bd2 (fX12_ask N s0 s1 s2 mm) fun x1 m2 => some (x1, m2)
def fX12_who_99 (N : Nat)  (a0 : Nat) (a3 : Int32) (s0 : Nat) (s1 : Int32) (mm : Mm) : Option (Int32 × Mm) :=
  gd (inb a3 (ln (fr a0 21))) <| if (rd mm (fr a0 21) a3.toNatClampNeg) = 2 then (fX12_who_120 N s0 s1 (-9) mm) else (gd (inb a3 (ln (fr a0 21))) <| fX12_who_120 N s0 s1 (rd mm (fr a0 21) a3.toNatClampNeg) mm)
def fX12_who (N : Nat)  (a0 : Nat) (a1 : Int32) (a2 : Int32) (a3 : Int32) (mm : Mm) : Option (Int32 × Mm) :=
  bd2 (fX12_isRow N a1 mm) fun x7 m8 => if x7 = 0 then (some ((-1), m8)) else (bd2 (fX12_isRow N a2 m8) fun x11 m12 => if x11 = 0 then (some ((-1), m12)) else (bd2 (fX12_isSuit N a0 a3 m12) fun x15 m16 => if x15 = 0 then (some ((-1), m16)) else (bd2 (fX12_askedTwo N a0 a1 0 a2 1 m16) fun x19 m20 => if (0 : Int32) ≤ x19 then (bd2 (fX12_takes N a0 a1 0 m20) fun x23 m24 => bd2 (fX12_takes N a0 a2 1 m24) fun x26 m27 => bd2 (fX12_setWinners N a0 m27) fun x29 m30 => gd (inb a3 (ln (fr a0 19))) <| bd2 (fX12_weight N a0 a3 0 (rd m30 (fr a0 19) a3.toNatClampNeg) m30) fun x33 m34 => gd (inb a3 (ln (fr a0 20))) <| bd2 (fX12_weight N a0 a3 1 (rd m34 (fr a0 20) a3.toNatClampNeg) m34) fun x37 m38 => if (0 : Int32) ≤ (x33 - x37) then (fX12_who_99 N a0 a3 a0 (x33 - x37) m38) else (fX12_who_99 N a0 a3 a0 (-(x33 - x37)) m38)) else (some (x19, m20)))))
abbrev rmX12_who : Room := { frames := 5, cells := 0, slots := 0, locals := 165 }
/-! HeavyFilesModel.fewestFor(III)I -/
def fX12_fewestFor_42 (N : Nat) (k3 : Nat → Int32 → Int32 → Int32 → Int32 → Mm → Option (Int32 × Mm)) (a0 : Nat) (a1 : Int32) (a2 : Int32) (a3 : Int32) (a4 : Int32) (s0 : Nat) (s1 : Int32) (s2 : Int32) (s3 : Int32) (mm : Mm) : Option (Int32 × Mm) :=
  bd2 (fX12_winnerOf N s0 s1 s2 s3 mm) fun x1 m2 => if x1 = a3 then (some (a4, m2)) else (k3 a0 a1 a2 a3 (a4 + 1) m2)
def fX12_fewestFor_27 (N : Nat) (k3 : Nat → Int32 → Int32 → Int32 → Int32 → Mm → Option (Int32 × Mm)) (a0 : Nat) (a1 : Int32) (a2 : Int32) (a3 : Int32) (a4 : Int32) (s0 : Nat) (s1 : Int32) (s2 : Int32) (mm : Mm) : Option (Int32 × Mm) :=
  if a2 = 0 then (gd (inb a1 (ln (fr a0 20))) <| fX12_fewestFor_42 N k3 a0 a1 a2 a3 a4 s0 s1 s2 (rd mm (fr a0 20) a1.toNatClampNeg) mm) else (fX12_fewestFor_42 N k3 a0 a1 a2 a3 a4 s0 s1 s2 a4 mm)
def fX12_fewestFor_3 (N : Nat)  : Nat → Nat → Int32 → Int32 → Int32 → Int32 → Mm → Option (Int32 × Mm)
  | 0 => fun _ _ _ _ _ _ => none
  | n + 1 => fun a0 a1 a2 a3 a4 mm =>
    let k3 := fX12_fewestFor_3 N  n
    if (40 : Int32) < a4 then (some ((-9), mm)) else (if a2 = 0 then (fX12_fewestFor_27 N k3 a0 a1 a2 a3 a4 a0 a1 a4 mm) else (gd (inb a1 (ln (fr a0 19))) <| fX12_fewestFor_27 N k3 a0 a1 a2 a3 a4 a0 a1 (rd mm (fr a0 19) a1.toNatClampNeg) mm))
def fX12_fewestFor (N : Nat)  (a0 : Nat) (a1 : Int32) (a2 : Int32) (a3 : Int32) (mm : Mm) : Option (Int32 × Mm) :=
  fX12_fewestFor_3 N N a0 a1 a2 a3 0 mm
abbrev rmX12_fewestFor : Room := { frames := 4, cells := 0, slots := 0, locals := 136 }
/-! HeavyFilesModel.isAhead(II)Z -/
def fX12_isAhead_48 (N : Nat)  : Nat → Nat → Int32 → Mm → Option (Int32 × Mm)
  | 0 => fun _ _ _ => none
  | n + 1 => fun a0 a3 mm =>
    let k48 := fX12_isAhead_48 N  n
    if (rd mm a0 10) ≤ a3 then (some (0, mm)) else (gd (inb a3 (ln (fr a0 26))) <| gd (inb a3 (ln (fr a0 27))) <| if (rd mm (fr a0 26) a3.toNatClampNeg) = (rd mm (fr a0 27) a3.toNatClampNeg) then (k48 a0 (a3 + 1) mm) else (gd (inb a3 (ln (fr a0 26))) <| gd (inb a3 (ln (fr a0 27))) <| if (rd mm (fr a0 27) a3.toNatClampNeg) ≤ (rd mm (fr a0 26) a3.toNatClampNeg) then (some (0, mm)) else (some (1, mm))))
def fX12_isAhead_16 (N : Nat)  (a0 : Nat) (a1 : Int32) (a2 : Int32) (mm : Mm) : Option (Int32 × Mm) :=
  if (rd mm a0 24) < a1 then (some (1, mm)) else (if a1 = (rd mm a0 24) then (if (rd mm a0 25) ≤ a2 then (some (0, mm)) else (some (1, mm))) else (some (0, mm)))
def fX12_isAhead (N : Nat)  (a0 : Nat) (a1 : Int32) (a2 : Int32) (mm : Mm) : Option (Int32 × Mm) :=
  if a1 = (rd mm a0 24) then (if a2 = (rd mm a0 25) then (fX12_isAhead_48 N N a0 0 mm) else (fX12_isAhead_16 N a0 a1 a2 mm)) else (fX12_isAhead_16 N a0 a1 a2 mm)
abbrev rmX12_isAhead : Room := { frames := 1, cells := 0, slots := 0, locals := 40 }
/-! HeavyFilesModel.bestOn(III)V -/
def fX12_bestOn_134 (N : Nat) (rec : Nat → Int32 → Int32 → Int32 → Mm → Option (Unit × Mm)) (k63 : Nat → Int32 → Int32 → Int32 → Int32 → Mm → Option (Unit × Mm)) (a0 : Nat) (a1 : Int32) (a2 : Int32) (a3 : Int32) (a4 : Int32) (mm : Mm) : Option (Unit × Mm) :=
  k63 a0 a1 a2 a3 (a4 + 1) mm
def fX12_bestOn_63 (N : Nat) (rec : Nat → Int32 → Int32 → Int32 → Mm → Option (Unit × Mm)) : Nat → Nat → Int32 → Int32 → Int32 → Int32 → Mm → Option (Unit × Mm)
  | 0 => fun _ _ _ _ _ _ => none
  | n + 1 => fun a0 a1 a2 a3 a4 mm =>
    let k63 := fX12_bestOn_63 N rec n
    if (3 : Int32) ≤ a4 then (some ((), mm)) else (bd2 (fX12_fewestFor N a0 a1 0 a4 mm) fun x2 m3 => if x2 = (-9) then (fX12_bestOn_134 N rec k63 a0 a1 a2 a3 a4 m3) else (if (rd m3 a0 22) < (a3 + x2) then (fX12_bestOn_134 N rec k63 a0 a1 a2 a3 a4 m3) else (gd (inb a1 (ln (fr a0 26))) <| nm (wr m3 (fr a0 26) a1.toNatClampNeg x2) fun m8 => gd (inb a1 (ln (fr a0 21))) <| nm (wr m8 (fr a0 21) a1.toNatClampNeg a4) fun m10 => bd2 (fX12_worthOf N a0 a1 a4 0 m10) fun x11 m12 => bd2 (rec a0 (a1 + 1) (a2 + x11) (a3 + x2) m12) fun x14 m15 => fX12_bestOn_134 N rec k63 a0 a1 a2 a3 a4 m15)))
def fX12_bestOn_30 (N : Nat) (rec : Nat → Int32 → Int32 → Int32 → Mm → Option (Unit × Mm)) : Nat → Nat → Int32 → Mm → Option (Unit × Mm)
  | 0 => fun _ _ _ => none
  | n + 1 => fun a0 a4 mm =>
    let k30 := fX12_bestOn_30 N rec n
    if (rd mm a0 10) ≤ a4 then (some ((), mm)) else (gd (inb a4 (ln (fr a0 26))) <| gd (inb a4 (ln (fr a0 27))) <| nm (wr mm (fr a0 27) a4.toNatClampNeg (rd mm (fr a0 26) a4.toNatClampNeg)) fun m20 => k30 a0 (a4 + 1) m20)
def fX12_bestOn_0 (N : Nat) (rec : Nat → Int32 → Int32 → Int32 → Mm → Option (Unit × Mm)) (a0 : Nat) (a1 : Int32) (a2 : Int32) (a3 : Int32) (mm : Mm) : Option (Unit × Mm) :=
  if a1 = (rd mm a0 10) then (bd2 (fX12_isAhead N a0 a2 a3 mm) fun x22 m23 => if x22 = 0 then (some ((), m23)) else (nm (wr m23 a0 24 a2) fun m26 => nm (wr m26 a0 25 a3) fun m27 => fX12_bestOn_30 N rec N a0 0 m27)) else (fX12_bestOn_63 N rec N a0 a1 a2 a3 0 mm)
def fX12_bestOn (N : Nat) : Nat → Nat → Int32 → Int32 → Int32 → Mm → Option (Unit × Mm)
  | 0 => fun _ _ _ _ _ => none
  | d + 1 => fun a0 a1 a2 a3 mm => fX12_bestOn_0 N (fX12_bestOn N d) a0 a1 a2 a3 mm
def rmX12_bestOn (d : Nat) : Room := { frames := 5 + d, cells := 0, slots := 0, locals := 168 + d * 46 }
/-! HeavyFilesModel.setBest(I)V -/
def fX12_setBest (N : Nat)  (a0 : Nat) (a1 : Int32) (mm : Mm) : Option (Unit × Mm) :=
  nm (wr mm a0 22 a1) fun m1 => nm (wr m1 a0 24 (-1)) fun m2 => nm (wr m2 a0 25 0) fun m3 => bd2 (fX12_bestOn N 9 a0 0 0 0 m3) fun x4 m5 => some ((), m5)
abbrev rmX12_setBest : Room := { frames := 15, cells := 0, slots := 0, locals := 795 }
/-! HeavyFilesModel.layBest(I)V -/
def fX12_layBest_12 (N : Nat)  : Nat → Nat → Int32 → Int32 → Mm → Option (Unit × Mm)
  | 0 => fun _ _ _ _ => none
  | n + 1 => fun a0 a1 a2 mm =>
    let k12 := fX12_layBest_12 N  n
    if (rd mm a0 10) ≤ a2 then (some ((), mm)) else (gd (inb a2 (ln (fr a0 27))) <| bd2 (fX12_setRow N a0 a1 a2 (rd mm (fr a0 27) a2.toNatClampNeg) mm) fun x3 m4 => k12 a0 a1 (a2 + 1) m4)
def fX12_layBest (N : Nat)  (a0 : Nat) (a1 : Int32) (mm : Mm) : Option (Unit × Mm) :=
  bd2 (fX12_row N a0 a1 (rd mm a0 10) mm) fun x6 m7 => fX12_layBest_12 N N a0 a1 0 m7
abbrev rmX12_layBest : Room := { frames := 4, cells := 0, slots := 0, locals := 129 }
/-! HeavyFilesModel.best(II)I -/
def fX12_best (N : Nat)  (a0 : Nat) (a1 : Int32) (a2 : Int32) (mm : Mm) : Option (Int32 × Mm) :=
  bd2 (fX12_isRow N a1 mm) fun x1 m2 => if x1 = 0 then (some ((-1), m2)) else (bd2 (fX12_isRow N a2 m2) fun x5 m6 => if x5 = 0 then (some ((-1), m6)) else (bd2 (fX12_askedLaying N a0 a1 1 m6) fun x9 m10 => if (0 : Int32) ≤ x9 then (bd2 (fX12_takes N a0 a1 1 m10) fun x13 m14 => gd (inb 0 (ln (fr a0 12))) <| bd2 (fX12_setBest N a0 (rd m14 (fr a0 12) ((0 : Int32).toNatClampNeg)) m14) fun x17 m18 => bd2 (fX12_layBest N a0 a2 m18) fun x20 m21 => bd2 (fX12_ask N a0 (rd m21 a0 25) (rd m21 a0 24) m21) fun x23 m24 => some (x23, m24)) else (some (x9, m10))))
abbrev rmX12_best : Room := { frames := 16, cells := 0, slots := 0, locals := 824 }
section W_model23
variable {p : Program} {l : Launch} {e : Env} {s : State} {m : MethodId} {args : Array Value} {below : List Frame} {meth : Method} {c : Code} {D : va_G} {ca ad : Nat → Nat}
set_option maxRecDepth 100000 in
set_option maxHeartbeats 4000000 in
theorem wX12_askedLaying_0 (C : Cx p s m meth c args cX12_askedLaying 4 (some .int) RX12 D ca ad) {res : Int32 × Mm} {N : Nat}  {a0 : Nat} {a1 : Int32} {a2 : Int32} {mm : Mm} {H : Heap} {locs : List Loc} {ls : Array Slot} (ha0 : sX12 a0) (hW : Wd D ca ad s.heap mm H locs) (hl : lv_has ls 4 [(0, .ref (ad a0)), (1, .int a1), (2, .int a2)]) (hf : fX12_askedLaying N a0 a1 a2 mm = some res) : W p l e (rmX12_askedLaying) s m args below meth c H locs 0 0 (MQ below (QI D ca ad res) args s 0 0 (AA ad)) (F0 m 0 ls []) := by
  unfold fX12_askedLaying at hf
  refine lv_aload_n C.1 C.2.1 dX12_askedLaying_0 rfl (lv_at hl 0 rfl) ?_
  refine x_getr C hW (ha0).1 (ha0).2.1 (j := 5) rfl kX12 (by decide) rfl q_1021 dX12_askedLaying_1 ?_
  refine lv_iload_n C.1 C.2.1 dX12_askedLaying_4 rfl (lv_at hl 1 rfl) ?_
  obtain ⟨g1, hf⟩ := gd_s hf
  refine x_iald C hW ha0.2.2.2.1 g1 dX12_askedLaying_5 ?_
  refine lv_if_ge (tgt := 15) C.1 C.2.1 dX12_askedLaying_6 (by decide) (fun c2 => ?_) (fun c2 => ?_)
  · have hf := if_t c2 hf
    refine lv_aload_n C.1 C.2.1 dX12_askedLaying_15 rfl (lv_at hl 0 rfl) ?_
    refine lv_iload_n C.1 C.2.1 dX12_askedLaying_16 rfl (lv_at hl 1 rfl) ?_
    obtain ⟨x3, m4, r5, hf⟩ := bd2_s hf
    refine x_ci hW (x_runV C hW [.int a1] [] (ha0).1 (ha0).2.1 kX12.1 kvX12_askedSize q_1324 (tX12_askedSize l C.2.2.2.2.2.2.1 ha0 r5) rfl rfl ⟨by decide, by decide⟩ rfl hl.1 rfl (Nat.le_of_ble_eq_true rfl) dX12_askedLaying_17) (fun H locs hW => ?_)
    refine lv_istore_n (lv' := [(3, .int x3), (0, .ref (ad a0)), (1, .int a1), (2, .int a2)]) C.1 C.2.1 dX12_askedLaying_20 rfl hl (by decide) rfl (fun ls hl => ?_)
    refine lv_iload_n C.1 C.2.1 dX12_askedLaying_21 rfl (lv_at hl 0 rfl) ?_
    refine lv_if_ge (tgt := 29) C.1 C.2.1 dX12_askedLaying_22 (by decide) (fun c6 => ?_) (fun c6 => ?_)
    · have hf := if_t c6 hf
      refine lv_aload_n C.1 C.2.1 dX12_askedLaying_29 rfl (lv_at hl 1 rfl) ?_
      refine lv_iload_n C.1 C.2.1 dX12_askedLaying_30 rfl (lv_at hl 2 rfl) ?_
      refine lv_iload_n C.1 C.2.1 dX12_askedLaying_31 rfl (lv_at hl 3 rfl) ?_
      obtain ⟨x7, m8, r9, hf⟩ := bd2_s hf
      refine x_ci hW (x_runV C hW [.int a1, .int a2] [] (ha0).1 (ha0).2.1 kX12.1 kvX12_askedNumbers q_1284 (tX12_askedNumbers l C.2.2.2.2.2.2.1 ha0 r9) rfl rfl ⟨by decide, by decide⟩ rfl hl.1 rfl (Nat.le_of_ble_eq_true rfl) dX12_askedLaying_32) (fun H locs hW => ?_)
      cases hf
      exact x_iret C hW dX12_askedLaying_35
    · have hf := if_f c6 hf
      refine lv_iload_n C.1 C.2.1 dX12_askedLaying_25 rfl (lv_at hl 0 rfl) ?_
      refine lv_goto (tgt := 35) C.1 C.2.1 dX12_askedLaying_26 (by decide) ?_
      cases hf
      exact x_iret C hW dX12_askedLaying_35
  · have hf := if_f c2 hf
    refine lv_aload_n C.1 C.2.1 dX12_askedLaying_9 rfl (lv_at hl 0 rfl) ?_
    refine lv_iconst (v := 1) C.1 C.2.1 dX12_askedLaying_10 (by decide) ?_
    obtain ⟨x10, m11, r12, hf⟩ := bd2_s hf
    refine x_ci hW (x_runV C hW [.int 1] [] (ha0).1 (ha0).2.1 kX12.1 kvX12_meet q_1153 (tX12_meet l C.2.2.2.2.2.2.1 ha0 r12) rfl rfl ⟨by decide, by decide⟩ rfl hl.1 rfl (Nat.le_of_ble_eq_true rfl) dX12_askedLaying_11) (fun H locs hW => ?_)
    cases hf
    exact x_iret C hW dX12_askedLaying_14
set_option maxRecDepth 100000 in
set_option maxHeartbeats 4000000 in
theorem tX12_askedLaying (l : Launch) {D : va_G} {ca ad : Nat → Nat} (hi : Inj ad) {N : Nat} {a0 : Nat} {a1 : Int32} {a2 : Int32} {mm : Mm} {res : Int32 × Mm} (ha0 : sX12 a0) (hf : fX12_askedLaying N a0 a1 a2 mm = some res) : Met l yX12_askedLaying (WS yX12_askedLaying cX12_askedLaying 4 (some .int)) (rmX12_askedLaying) (va_Pc [.ref (ad a0), .int a1, .int a2] (WB D ca ad mm)) (QI D ca ad res) 0 0 (AA ad) := by
  refine x_start hi (by decide) rfl (Nat.le_of_ble_eq_true rfl) (fun p e s m args below meth c ls C hW hl => ?_)
  exact wX12_askedLaying_0 C ha0 hW (lv_sub hl [0, 1, 2] rfl) hf
set_option maxRecDepth 100000 in
set_option maxHeartbeats 4000000 in
theorem wX12_askedTwo_50 (C : Cx p s m meth c args cX12_askedTwo 6 (some .int) RX12 D ca ad) {res : Int32 × Mm} {N : Nat}  {a0 : Nat} {mm : Mm} {H : Heap} {locs : List Loc} {ls : Array Slot} (ha0 : sX12 a0) (hW : Wd D ca ad s.heap mm H locs) (hl : lv_has ls 6 [(0, .ref (ad a0))]) (hf : fX12_askedTwo_50 N a0 mm = some res) : W p l e (rmX12_askedTwo) s m args below meth c H locs 0 0 (MQ below (QI D ca ad res) args s 0 0 (AA ad)) (F0 m 50 ls []) := by
  unfold fX12_askedTwo_50 at hf
  refine lv_aload_n C.1 C.2.1 dX12_askedTwo_50 rfl (lv_at hl 0 rfl) ?_
  refine lv_iconst (v := 5) C.1 C.2.1 dX12_askedTwo_51 (by decide) ?_
  obtain ⟨x1, m2, r3, hf⟩ := bd2_s hf
  refine x_ci hW (x_runV C hW [.int 5] [] (ha0).1 (ha0).2.1 kX12.1 kvX12_meet q_1153 (tX12_meet l C.2.2.2.2.2.2.1 ha0 r3) rfl rfl ⟨by decide, by decide⟩ rfl hl.1 rfl (Nat.le_of_ble_eq_true rfl) dX12_askedTwo_52) (fun H locs hW => ?_)
  cases hf
  exact x_iret C hW dX12_askedTwo_55
set_option maxRecDepth 100000 in
set_option maxHeartbeats 4000000 in
theorem wX12_askedTwo_18 (C : Cx p s m meth c args cX12_askedTwo 6 (some .int) RX12 D ca ad) {res : Int32 × Mm} {N : Nat}  {a0 : Nat} {mm : Mm} {H : Heap} {locs : List Loc} {ls : Array Slot} (ha0 : sX12 a0) (hW : Wd D ca ad s.heap mm H locs) (hl : lv_has ls 6 [(0, .ref (ad a0))]) (hf : fX12_askedTwo_18 N a0 mm = some res) : W p l e (rmX12_askedTwo) s m args below meth c H locs 0 0 (MQ below (QI D ca ad res) args s 0 0 (AA ad)) (F0 m 18 ls []) := by
  unfold fX12_askedTwo_18 at hf
  refine lv_aload_n C.1 C.2.1 dX12_askedTwo_18 rfl (lv_at hl 0 rfl) ?_
  refine lv_iconst (v := 1) C.1 C.2.1 dX12_askedTwo_19 (by decide) ?_
  obtain ⟨x4, m5, r6, hf⟩ := bd2_s hf
  refine x_ci hW (x_runV C hW [.int 1] [] (ha0).1 (ha0).2.1 kX12.1 kvX12_meet q_1153 (tX12_meet l C.2.2.2.2.2.2.1 ha0 r6) rfl rfl ⟨by decide, by decide⟩ rfl hl.1 rfl (Nat.le_of_ble_eq_true rfl) dX12_askedTwo_20) (fun H locs hW => ?_)
  cases hf
  exact x_iret C hW dX12_askedTwo_23
set_option maxRecDepth 100000 in
set_option maxHeartbeats 4000000 in
theorem wX12_askedTwo_0 (C : Cx p s m meth c args cX12_askedTwo 6 (some .int) RX12 D ca ad) {res : Int32 × Mm} {N : Nat}  {a0 : Nat} {a1 : Int32} {a2 : Int32} {a3 : Int32} {a4 : Int32} {mm : Mm} {H : Heap} {locs : List Loc} {ls : Array Slot} (ha0 : sX12 a0) (hW : Wd D ca ad s.heap mm H locs) (hl : lv_has ls 6 [(0, .ref (ad a0)), (1, .int a1), (2, .int a2), (3, .int a3), (4, .int a4)]) (hf : fX12_askedTwo N a0 a1 a2 a3 a4 mm = some res) : W p l e (rmX12_askedTwo) s m args below meth c H locs 0 0 (MQ below (QI D ca ad res) args s 0 0 (AA ad)) (F0 m 0 ls []) := by
  unfold fX12_askedTwo at hf
  refine lv_aload_n C.1 C.2.1 dX12_askedTwo_0 rfl (lv_at hl 0 rfl) ?_
  refine x_getr C hW (ha0).1 (ha0).2.1 (j := 5) rfl kX12 (by decide) rfl q_1021 dX12_askedTwo_1 ?_
  refine lv_iload_n C.1 C.2.1 dX12_askedTwo_4 rfl (lv_at hl 1 rfl) ?_
  obtain ⟨g7, hf⟩ := gd_s hf
  refine x_iald C hW ha0.2.2.2.1 g7 dX12_askedTwo_5 ?_
  refine lv_if_lt (tgt := 18) C.1 C.2.1 dX12_askedTwo_6 (by decide) (fun c8 => ?_) (fun c8 => ?_)
  · have hf := if_t c8 hf
    exact wX12_askedTwo_18 C  ha0 hW (lv_sub hl [0] rfl) hf
  · have hf := if_f c8 hf
    refine lv_aload_n C.1 C.2.1 dX12_askedTwo_9 rfl (lv_at hl 0 rfl) ?_
    refine x_getr C hW (ha0).1 (ha0).2.1 (j := 5) rfl kX12 (by decide) rfl q_1021 dX12_askedTwo_10 ?_
    refine lv_iload_n C.1 C.2.1 dX12_askedTwo_13 rfl (lv_at hl 3 rfl) ?_
    obtain ⟨g9, hf⟩ := gd_s hf
    refine x_iald C hW ha0.2.2.2.1 g9 dX12_askedTwo_14 ?_
    refine lv_if_ge (tgt := 24) C.1 C.2.1 dX12_askedTwo_15 (by decide) (fun c10 => ?_) (fun c10 => ?_)
    · have hf := if_t c10 hf
      refine lv_aload_n C.1 C.2.1 dX12_askedTwo_24 rfl (lv_at hl 0 rfl) ?_
      refine x_getr C hW (ha0).1 (ha0).2.1 (j := 5) rfl kX12 (by decide) rfl q_1021 dX12_askedTwo_25 ?_
      refine lv_iload_n C.1 C.2.1 dX12_askedTwo_28 rfl (lv_at hl 1 rfl) ?_
      obtain ⟨g11, hf⟩ := gd_s hf
      refine x_iald C hW ha0.2.2.2.1 g11 dX12_askedTwo_29 ?_
      refine lv_aload_n C.1 C.2.1 dX12_askedTwo_30 rfl (lv_at hl 0 rfl) ?_
      refine x_geti C hW (ha0).1 (ha0).2.1 (j := 10) rfl kX12 (by decide) rfl q_1026 dX12_askedTwo_31 ?_
      refine lv_icmp_ne (tgt := 50) C.1 C.2.1 dX12_askedTwo_34 (by decide) (fun c12 => ?_) (fun c12 => ?_)
      · have hf := if_f c12 hf
        exact wX12_askedTwo_50 C  ha0 hW (lv_sub hl [0] rfl) hf
      · have hf := if_t c12 hf
        refine lv_aload_n C.1 C.2.1 dX12_askedTwo_37 rfl (lv_at hl 0 rfl) ?_
        refine x_getr C hW (ha0).1 (ha0).2.1 (j := 5) rfl kX12 (by decide) rfl q_1021 dX12_askedTwo_38 ?_
        refine lv_iload_n C.1 C.2.1 dX12_askedTwo_41 rfl (lv_at hl 3 rfl) ?_
        obtain ⟨g13, hf⟩ := gd_s hf
        refine x_iald C hW ha0.2.2.2.1 g13 dX12_askedTwo_42 ?_
        refine lv_aload_n C.1 C.2.1 dX12_askedTwo_43 rfl (lv_at hl 0 rfl) ?_
        refine x_geti C hW (ha0).1 (ha0).2.1 (j := 10) rfl kX12 (by decide) rfl q_1026 dX12_askedTwo_44 ?_
        refine lv_icmp_eq (tgt := 56) C.1 C.2.1 dX12_askedTwo_47 (by decide) (fun c14 => ?_) (fun c14 => ?_)
        · have hf := if_t c14 hf
          refine lv_aload_n C.1 C.2.1 dX12_askedTwo_56 rfl (lv_at hl 0 rfl) ?_
          refine lv_iload_n C.1 C.2.1 dX12_askedTwo_57 rfl (lv_at hl 1 rfl) ?_
          refine lv_iload_n C.1 C.2.1 dX12_askedTwo_58 rfl (lv_at hl 2 rfl) ?_
          obtain ⟨x15, m16, r17, hf⟩ := bd2_s hf
          refine x_ci hW (x_runV C hW [.int a1, .int a2] [] (ha0).1 (ha0).2.1 kX12.1 kvX12_askedNumbers q_1284 (tX12_askedNumbers l C.2.2.2.2.2.2.1 ha0 r17) rfl rfl ⟨by decide, by decide⟩ rfl hl.1 rfl (Nat.le_of_ble_eq_true rfl) dX12_askedTwo_59) (fun H locs hW => ?_)
          refine lv_istore (lv' := [(5, .int x15), (0, .ref (ad a0)), (1, .int a1), (2, .int a2), (3, .int a3), (4, .int a4)]) C.1 C.2.1 dX12_askedTwo_62 hl (by decide) rfl (fun ls hl => ?_)
          refine lv_iload C.1 C.2.1 dX12_askedTwo_64 (lv_at hl 0 rfl) ?_
          refine lv_if_ge (tgt := 74) C.1 C.2.1 dX12_askedTwo_66 (by decide) (fun c18 => ?_) (fun c18 => ?_)
          · have hf := if_t c18 hf
            refine lv_aload_n C.1 C.2.1 dX12_askedTwo_74 rfl (lv_at hl 1 rfl) ?_
            refine lv_iload_n C.1 C.2.1 dX12_askedTwo_75 rfl (lv_at hl 4 rfl) ?_
            refine lv_iload C.1 C.2.1 dX12_askedTwo_76 (lv_at hl 5 rfl) ?_
            obtain ⟨x19, m20, r21, hf⟩ := bd2_s hf
            refine x_ci hW (x_runV C hW [.int a3, .int a4] [] (ha0).1 (ha0).2.1 kX12.1 kvX12_askedNumbers q_1284 (tX12_askedNumbers l C.2.2.2.2.2.2.1 ha0 r21) rfl rfl ⟨by decide, by decide⟩ rfl hl.1 rfl (Nat.le_of_ble_eq_true rfl) dX12_askedTwo_78) (fun H locs hW => ?_)
            cases hf
            exact x_iret C hW dX12_askedTwo_81
          · have hf := if_f c18 hf
            refine lv_iload C.1 C.2.1 dX12_askedTwo_69 (lv_at hl 0 rfl) ?_
            refine lv_goto (tgt := 81) C.1 C.2.1 dX12_askedTwo_71 (by decide) ?_
            cases hf
            exact x_iret C hW dX12_askedTwo_81
        · have hf := if_f c14 hf
          exact wX12_askedTwo_50 C  ha0 hW (lv_sub hl [0] rfl) hf
    · have hf := if_f c10 hf
      exact wX12_askedTwo_18 C  ha0 hW (lv_sub hl [0] rfl) hf
set_option maxRecDepth 100000 in
set_option maxHeartbeats 4000000 in
theorem tX12_askedTwo (l : Launch) {D : va_G} {ca ad : Nat → Nat} (hi : Inj ad) {N : Nat} {a0 : Nat} {a1 : Int32} {a2 : Int32} {a3 : Int32} {a4 : Int32} {mm : Mm} {res : Int32 × Mm} (ha0 : sX12 a0) (hf : fX12_askedTwo N a0 a1 a2 a3 a4 mm = some res) : Met l yX12_askedTwo (WS yX12_askedTwo cX12_askedTwo 6 (some .int)) (rmX12_askedTwo) (va_Pc [.ref (ad a0), .int a1, .int a2, .int a3, .int a4] (WB D ca ad mm)) (QI D ca ad res) 0 0 (AA ad) := by
  refine x_start hi (by decide) rfl (Nat.le_of_ble_eq_true rfl) (fun p e s m args below meth c ls C hW hl => ?_)
  exact wX12_askedTwo_0 C ha0 hW (lv_sub hl [0, 1, 2, 3, 4] rfl) hf
set_option maxRecDepth 100000 in
set_option maxHeartbeats 4000000 in
theorem wX12_takes_41 (C : Cx p s m meth c args cX12_takes 4 none RX12 D ca ad) {res : Unit × Mm} {N : Nat} {k2 : Nat → Int32 → Int32 → Int32 → Mm → Option (Unit × Mm)} (hk2 : ∀ (a0 : Nat) (a1 : Int32) (a2 : Int32) (a3 : Int32) (mm : Mm) (H : Heap) (locs : List Loc) (ls : Array Slot), (sX12 a0) → Wd D ca ad s.heap mm H locs → lv_has ls 4 [(0, .ref (ad a0)), (1, .int a1), (2, .int a2), (3, .int a3)] → k2 a0 a1 a2 a3 mm = some res → W p l e (rmX12_takes) s m args below meth c H locs 0 0 (MQ below (QV D ca ad res) args s 0 0 (AA ad)) (F0 m 2 ls [])) {a0 : Nat} {a1 : Int32} {a2 : Int32} {a3 : Int32} {mm : Mm} {H : Heap} {locs : List Loc} {ls : Array Slot} (ha0 : sX12 a0) (hW : Wd D ca ad s.heap mm H locs) (hl : lv_has ls 4 [(0, .ref (ad a0)), (1, .int a1), (2, .int a2), (3, .int a3)]) (hf : fX12_takes_41 N k2 a0 a1 a2 a3 mm = some res) : W p l e (rmX12_takes) s m args below meth c H locs 0 0 (MQ below (QV D ca ad res) args s 0 0 (AA ad)) (F0 m 41 ls []) := by
  unfold fX12_takes_41 at hf
  refine lv_iinc (v := (a3 + 1)) (lv' := [(3, .int (a3 + 1)), (0, .ref (ad a0)), (1, .int a1), (2, .int a2)]) C.1 C.2.1 dX12_takes_41 hl (k := 3) rfl rfl (by decide) rfl (fun ls hl => ?_)
  refine lv_goto (tgt := 2) C.1 C.2.1 dX12_takes_44 (by decide) ?_
  exact hk2 _ _ _ _ _ _ _ _ ha0 hW (lv_sub hl [1, 2, 3, 0] rfl) hf
set_option maxRecDepth 100000 in
set_option maxHeartbeats 4000000 in
theorem wX12_takes_2 (C : Cx p s m meth c args cX12_takes 4 none RX12 D ca ad) {res : Unit × Mm} {N : Nat}  : ∀ (n : Nat) {a0 : Nat} {a1 : Int32} {a2 : Int32} {a3 : Int32} {mm : Mm} {H : Heap} {locs : List Loc} {ls : Array Slot}, (sX12 a0) → Wd D ca ad s.heap mm H locs → lv_has ls 4 [(0, .ref (ad a0)), (1, .int a1), (2, .int a2), (3, .int a3)] → fX12_takes_2 N n a0 a1 a2 a3 mm = some res → W p l e (rmX12_takes) s m args below meth c H locs 0 0 (MQ below (QV D ca ad res) args s 0 0 (AA ad)) (F0 m 2 ls []) := by
  intro n
  induction n with
  | zero => intro a0 a1 a2 a3 mm H locs ls ha0 hW hl hf; cases hf
  | succ n ih =>
    intro a0 a1 a2 a3 mm H locs ls ha0 hW hl hf
    have hk2 : ∀ (a0 : Nat) (a1 : Int32) (a2 : Int32) (a3 : Int32) (mm : Mm) (H : Heap) (locs : List Loc) (ls : Array Slot), (sX12 a0) → Wd D ca ad s.heap mm H locs → lv_has ls 4 [(0, .ref (ad a0)), (1, .int a1), (2, .int a2), (3, .int a3)] → (fX12_takes_2 N n) a0 a1 a2 a3 mm = some res → W p l e (rmX12_takes) s m args below meth c H locs 0 0 (MQ below (QV D ca ad res) args s 0 0 (AA ad)) (F0 m 2 ls []) := fun a0 a1 a2 a3 mm H locs ls ha0 hW hl hf => ih ha0 hW hl hf
    unfold fX12_takes_2 at hf
    try dsimp only at hf
    refine lv_iload_n C.1 C.2.1 dX12_takes_2 rfl (lv_at hl 3 rfl) ?_
    refine lv_aload_n C.1 C.2.1 dX12_takes_3 rfl (lv_at hl 0 rfl) ?_
    refine x_geti C hW (ha0).1 (ha0).2.1 (j := 10) rfl kX12 (by decide) rfl q_1026 dX12_takes_4 ?_
    refine lv_icmp_ge (tgt := 47) C.1 C.2.1 dX12_takes_7 (by decide) (fun c1 => ?_) (fun c1 => ?_)
    · have hf := if_t c1 hf
      cases hf
      exact x_vret C hW dX12_takes_47
    · have hf := if_f c1 hf
      refine lv_iload_n C.1 C.2.1 dX12_takes_10 rfl (lv_at hl 2 rfl) ?_
      refine lv_if_ne (tgt := 29) C.1 C.2.1 dX12_takes_11 (by decide) (fun c2 => ?_) (fun c2 => ?_)
      · have hf := if_f c2 hf
        refine lv_aload_n C.1 C.2.1 dX12_takes_29 rfl (lv_at hl 0 rfl) ?_
        refine x_getr C hW (ha0).1 (ha0).2.1 (j := 20) rfl kX12 (by decide) rfl q_1036 dX12_takes_30 ?_
        refine lv_iload_n C.1 C.2.1 dX12_takes_33 rfl (lv_at hl 3 rfl) ?_
        refine lv_aload_n C.1 C.2.1 dX12_takes_34 rfl (lv_at hl 0 rfl) ?_
        refine lv_iload_n C.1 C.2.1 dX12_takes_35 rfl (lv_at hl 1 rfl) ?_
        refine lv_iload_n C.1 C.2.1 dX12_takes_36 rfl (lv_at hl 3 rfl) ?_
        obtain ⟨x3, m4, r5, hf⟩ := bd2_s hf
        refine x_ci hW (x_runV C hW [.int a1, .int a3] [.int a3, .ref (ad (fr a0 20))] (ha0).1 (ha0).2.1 kX12.1 kvX12_rowAt q_1169 (tX12_rowAt l C.2.2.2.2.2.2.1 ha0 r5) rfl rfl ⟨by decide, by decide⟩ rfl hl.1 rfl (Nat.le_of_ble_eq_true rfl) dX12_takes_37) (fun H locs hW => ?_)
        obtain ⟨g6, hf⟩ := gd_s hf
        refine x_iast C hW ha0.2.2.2.2.2.2.2.2.2.2.2.2.1 g6 dX12_takes_40 (fun H locs hW => ?_)
        obtain ⟨m7, em7⟩ : ∃ z, z = wr m4 (fr a0 20) a3.toNatClampNeg x3 := ⟨_, rfl⟩
        have hf := nm_s hf em7
        rw [← em7] at hW
        exact wX12_takes_41 C hk2 ha0 hW (lv_sub hl [0, 1, 2, 3] rfl) hf
      · have hf := if_t c2 hf
        refine lv_aload_n C.1 C.2.1 dX12_takes_14 rfl (lv_at hl 0 rfl) ?_
        refine x_getr C hW (ha0).1 (ha0).2.1 (j := 19) rfl kX12 (by decide) rfl q_1035 dX12_takes_15 ?_
        refine lv_iload_n C.1 C.2.1 dX12_takes_18 rfl (lv_at hl 3 rfl) ?_
        refine lv_aload_n C.1 C.2.1 dX12_takes_19 rfl (lv_at hl 0 rfl) ?_
        refine lv_iload_n C.1 C.2.1 dX12_takes_20 rfl (lv_at hl 1 rfl) ?_
        refine lv_iload_n C.1 C.2.1 dX12_takes_21 rfl (lv_at hl 3 rfl) ?_
        obtain ⟨x8, m9, r10, hf⟩ := bd2_s hf
        refine x_ci hW (x_runV C hW [.int a1, .int a3] [.int a3, .ref (ad (fr a0 19))] (ha0).1 (ha0).2.1 kX12.1 kvX12_rowAt q_1169 (tX12_rowAt l C.2.2.2.2.2.2.1 ha0 r10) rfl rfl ⟨by decide, by decide⟩ rfl hl.1 rfl (Nat.le_of_ble_eq_true rfl) dX12_takes_22) (fun H locs hW => ?_)
        obtain ⟨g11, hf⟩ := gd_s hf
        refine x_iast C hW ha0.2.2.2.2.2.2.2.2.2.2.2.1 g11 dX12_takes_25 (fun H locs hW => ?_)
        obtain ⟨m12, em12⟩ : ∃ z, z = wr m9 (fr a0 19) a3.toNatClampNeg x8 := ⟨_, rfl⟩
        have hf := nm_s hf em12
        rw [← em12] at hW
        refine lv_goto (tgt := 41) C.1 C.2.1 dX12_takes_26 (by decide) ?_
        exact wX12_takes_41 C hk2 ha0 hW (lv_sub hl [0, 1, 2, 3] rfl) hf
set_option maxRecDepth 100000 in
set_option maxHeartbeats 4000000 in
theorem wX12_takes_0 (C : Cx p s m meth c args cX12_takes 4 none RX12 D ca ad) {res : Unit × Mm} {N : Nat}  {a0 : Nat} {a1 : Int32} {a2 : Int32} {mm : Mm} {H : Heap} {locs : List Loc} {ls : Array Slot} (ha0 : sX12 a0) (hW : Wd D ca ad s.heap mm H locs) (hl : lv_has ls 4 [(0, .ref (ad a0)), (1, .int a1), (2, .int a2)]) (hf : fX12_takes N a0 a1 a2 mm = some res) : W p l e (rmX12_takes) s m args below meth c H locs 0 0 (MQ below (QV D ca ad res) args s 0 0 (AA ad)) (F0 m 0 ls []) := by
  unfold fX12_takes at hf
  refine lv_iconst (v := 0) C.1 C.2.1 dX12_takes_0 (by decide) ?_
  refine lv_istore_n (lv' := [(3, .int 0), (0, .ref (ad a0)), (1, .int a1), (2, .int a2)]) C.1 C.2.1 dX12_takes_1 rfl hl (by decide) rfl (fun ls hl => ?_)
  exact wX12_takes_2 C  N ha0 hW (lv_sub hl [1, 2, 3, 0] rfl) hf
set_option maxRecDepth 100000 in
set_option maxHeartbeats 4000000 in
theorem tX12_takes (l : Launch) {D : va_G} {ca ad : Nat → Nat} (hi : Inj ad) {N : Nat} {a0 : Nat} {a1 : Int32} {a2 : Int32} {mm : Mm} {res : Unit × Mm} (ha0 : sX12 a0) (hf : fX12_takes N a0 a1 a2 mm = some res) : Met l yX12_takes (WS yX12_takes cX12_takes 4 none) (rmX12_takes) (va_Pc [.ref (ad a0), .int a1, .int a2] (WB D ca ad mm)) (QV D ca ad res) 0 0 (AA ad) := by
  refine x_start hi (by decide) rfl (Nat.le_of_ble_eq_true rfl) (fun p e s m args below meth c ls C hW hl => ?_)
  exact wX12_takes_0 C ha0 hW (lv_sub hl [0, 1, 2] rfl) hf
set_option maxRecDepth 100000 in
set_option maxHeartbeats 4000000 in
theorem wX12_judge_0 (C : Cx p s m meth c args cX12_judge 4 (some .int) RX12 D ca ad) {res : Int32 × Mm} {N : Nat}  {a0 : Nat} {a1 : Int32} {a2 : Int32} {mm : Mm} {H : Heap} {locs : List Loc} {ls : Array Slot} (ha0 : sX12 a0) (hW : Wd D ca ad s.heap mm H locs) (hl : lv_has ls 4 [(0, .ref (ad a0)), (1, .int a1), (2, .int a2)]) (hf : fX12_judge N a0 a1 a2 mm = some res) : W p l e (rmX12_judge) s m args below meth c H locs 0 0 (MQ below (QI D ca ad res) args s 0 0 (AA ad)) (F0 m 0 ls []) := by
  unfold fX12_judge at hf
  refine lv_iload_n C.1 C.2.1 dX12_judge_0 rfl (lv_at hl 1 rfl) ?_
  obtain ⟨x1, m2, r3, hf⟩ := bd2_s hf
  refine x_ci hW (x_runS C hW [.int a1] [] kvX12_isRow q_1147 (tX12_isRow l C.2.2.2.2.2.2.1  r3) rfl rfl ⟨by decide, by decide⟩ rfl hl.1 rfl (Nat.le_of_ble_eq_true rfl) dX12_judge_1) (fun H locs hW => ?_)
  refine lv_if_eq (tgt := 14) C.1 C.2.1 dX12_judge_4 (by decide) (fun c4 => ?_) (fun c4 => ?_)
  · have hf := if_t c4 hf
    refine lv_iconst (v := (-1)) C.1 C.2.1 dX12_judge_14 (by decide) ?_
    cases hf
    exact x_iret C hW dX12_judge_15
  · have hf := if_f c4 hf
    refine lv_iload_n C.1 C.2.1 dX12_judge_7 rfl (lv_at hl 2 rfl) ?_
    obtain ⟨x5, m6, r7, hf⟩ := bd2_s hf
    refine x_ci hW (x_runS C hW [.int a2] [] kvX12_isRow q_1147 (tX12_isRow l C.2.2.2.2.2.2.1  r7) rfl rfl ⟨by decide, by decide⟩ rfl hl.1 rfl (Nat.le_of_ble_eq_true rfl) dX12_judge_8) (fun H locs hW => ?_)
    refine lv_if_ne (tgt := 16) C.1 C.2.1 dX12_judge_11 (by decide) (fun c8 => ?_) (fun c8 => ?_)
    · have hf := if_f c8 hf
      refine lv_aload_n C.1 C.2.1 dX12_judge_16 rfl (lv_at hl 0 rfl) ?_
      refine lv_iload_n C.1 C.2.1 dX12_judge_17 rfl (lv_at hl 1 rfl) ?_
      refine lv_iconst (v := 0) C.1 C.2.1 dX12_judge_18 (by decide) ?_
      refine lv_iload_n C.1 C.2.1 dX12_judge_19 rfl (lv_at hl 2 rfl) ?_
      refine lv_iconst (v := 1) C.1 C.2.1 dX12_judge_20 (by decide) ?_
      obtain ⟨x9, m10, r11, hf⟩ := bd2_s hf
      refine x_ci hW (x_runV C hW [.int a1, .int 0, .int a2, .int 1] [] (ha0).1 (ha0).2.1 kX12.1 kvX12_askedTwo q_1280 (tX12_askedTwo l C.2.2.2.2.2.2.1 ha0 r11) rfl rfl ⟨by decide, by decide⟩ rfl hl.1 rfl (Nat.le_of_ble_eq_true rfl) dX12_judge_21) (fun H locs hW => ?_)
      refine lv_istore_n (lv' := [(3, .int x9), (0, .ref (ad a0)), (1, .int a1), (2, .int a2)]) C.1 C.2.1 dX12_judge_24 rfl hl (by decide) rfl (fun ls hl => ?_)
      refine lv_iload_n C.1 C.2.1 dX12_judge_25 rfl (lv_at hl 0 rfl) ?_
      refine lv_if_ge (tgt := 31) C.1 C.2.1 dX12_judge_26 (by decide) (fun c12 => ?_) (fun c12 => ?_)
      · have hf := if_t c12 hf
        refine lv_aload_n C.1 C.2.1 dX12_judge_31 rfl (lv_at hl 1 rfl) ?_
        refine lv_iload_n C.1 C.2.1 dX12_judge_32 rfl (lv_at hl 2 rfl) ?_
        refine lv_iconst (v := 0) C.1 C.2.1 dX12_judge_33 (by decide) ?_
        obtain ⟨x13, m14, r15, hf⟩ := bd2_s hf
        refine x_cv hW (x_runV C hW [.int a1, .int 0] [] (ha0).1 (ha0).2.1 kX12.1 kvX12_takes q_1288 (tX12_takes l C.2.2.2.2.2.2.1 ha0 r15) rfl rfl ⟨by decide, by decide⟩ rfl hl.1 rfl (Nat.le_of_ble_eq_true rfl) dX12_judge_34) (fun H locs hW => ?_)
        refine lv_aload_n C.1 C.2.1 dX12_judge_37 rfl (lv_at hl 1 rfl) ?_
        refine lv_iload_n C.1 C.2.1 dX12_judge_38 rfl (lv_at hl 3 rfl) ?_
        refine lv_iconst (v := 1) C.1 C.2.1 dX12_judge_39 (by decide) ?_
        obtain ⟨x16, m17, r18, hf⟩ := bd2_s hf
        refine x_cv hW (x_runV C hW [.int a2, .int 1] [] (ha0).1 (ha0).2.1 kX12.1 kvX12_takes q_1288 (tX12_takes l C.2.2.2.2.2.2.1 ha0 r18) rfl rfl ⟨by decide, by decide⟩ rfl hl.1 rfl (Nat.le_of_ble_eq_true rfl) dX12_judge_40) (fun H locs hW => ?_)
        refine lv_aload_n C.1 C.2.1 dX12_judge_43 rfl (lv_at hl 1 rfl) ?_
        obtain ⟨x19, m20, r21, hf⟩ := bd2_s hf
        refine x_cv hW (x_runV C hW [] [] (ha0).1 (ha0).2.1 kX12.1 kvX12_setWinners q_1292 (tX12_setWinners l C.2.2.2.2.2.2.1 ha0 r21) rfl rfl ⟨by decide, by decide⟩ rfl hl.1 rfl (Nat.le_of_ble_eq_true rfl) dX12_judge_44) (fun H locs hW => ?_)
        refine lv_aload_n C.1 C.2.1 dX12_judge_47 rfl (lv_at hl 1 rfl) ?_
        refine lv_aload_n C.1 C.2.1 dX12_judge_48 rfl (lv_at hl 1 rfl) ?_
        refine lv_iconst (v := 1) C.1 C.2.1 dX12_judge_49 (by decide) ?_
        obtain ⟨x22, m23, r24, hf⟩ := bd2_s hf
        refine x_ci hW (x_runV C hW [.int 1] [.ref (ad a0)] (ha0).1 (ha0).2.1 kX12.1 kvX12_scoreOf q_1304 (tX12_scoreOf l C.2.2.2.2.2.2.1 ha0 r24) rfl rfl ⟨by decide, by decide⟩ rfl hl.1 rfl (Nat.le_of_ble_eq_true rfl) dX12_judge_50) (fun H locs hW => ?_)
        refine lv_aload_n C.1 C.2.1 dX12_judge_53 rfl (lv_at hl 1 rfl) ?_
        refine lv_iconst (v := 0) C.1 C.2.1 dX12_judge_54 (by decide) ?_
        obtain ⟨x25, m26, r27, hf⟩ := bd2_s hf
        refine x_ci hW (x_runV C hW [.int 0] [.int x22, .ref (ad a0)] (ha0).1 (ha0).2.1 kX12.1 kvX12_scoreOf q_1304 (tX12_scoreOf l C.2.2.2.2.2.2.1 ha0 r27) rfl rfl ⟨by decide, by decide⟩ rfl hl.1 rfl (Nat.le_of_ble_eq_true rfl) dX12_judge_55) (fun H locs hW => ?_)
        obtain ⟨x28, m29, r30, hf⟩ := bd2_s hf
        refine x_ci hW (x_runV C hW [.int x22, .int x25] [] (ha0).1 (ha0).2.1 kX12.1 kvX12_ask q_1173 (tX12_ask l C.2.2.2.2.2.2.1 ha0 r30) rfl rfl ⟨by decide, by decide⟩ rfl hl.1 rfl (Nat.le_of_ble_eq_true rfl) dX12_judge_58) (fun H locs hW => ?_)
        cases hf
        exact x_iret C hW dX12_judge_61
      · have hf := if_f c12 hf
        refine lv_iload_n C.1 C.2.1 dX12_judge_29 rfl (lv_at hl 0 rfl) ?_
        cases hf
        exact x_iret C hW dX12_judge_30
    · have hf := if_t c8 hf
      refine lv_iconst (v := (-1)) C.1 C.2.1 dX12_judge_14 (by decide) ?_
      cases hf
      exact x_iret C hW dX12_judge_15
set_option maxRecDepth 100000 in
set_option maxHeartbeats 4000000 in
theorem tX12_judge (l : Launch) {D : va_G} {ca ad : Nat → Nat} (hi : Inj ad) {N : Nat} {a0 : Nat} {a1 : Int32} {a2 : Int32} {mm : Mm} {res : Int32 × Mm} (ha0 : sX12 a0) (hf : fX12_judge N a0 a1 a2 mm = some res) : Met l yX12_judge (WS yX12_judge cX12_judge 4 (some .int)) (rmX12_judge) (va_Pc [.ref (ad a0), .int a1, .int a2] (WB D ca ad mm)) (QI D ca ad res) 0 0 (AA ad) := by
  refine x_start hi (by decide) rfl (Nat.le_of_ble_eq_true rfl) (fun p e s m args below meth c ls C hW hl => ?_)
  exact wX12_judge_0 C ha0 hW (lv_sub hl [0, 1, 2] rfl) hf
set_option maxRecDepth 100000 in
set_option maxHeartbeats 4000000 in
theorem wX12_who_120 (C : Cx p s m meth c args cX12_who 6 (some .int) RX12 D ca ad) {res : Int32 × Mm} {N : Nat}  {s0 : Nat} {s1 : Int32} {s2 : Int32} {mm : Mm} {H : Heap} {locs : List Loc} {ls : Array Slot} (hs0 : sX12 s0) (hW : Wd D ca ad s.heap mm H locs) (hl : lv_has ls 6 []) (hf : fX12_who_120 N s0 s1 s2 mm = some res) : W p l e (rmX12_who) s m args below meth c H locs 0 0 (MQ below (QI D ca ad res) args s 0 0 (AA ad)) (F0 m 120 ls [.int s2, .int s1, .ref (ad s0)]) := by
  unfold fX12_who_120 at hf
  obtain ⟨x1, m2, r3, hf⟩ := bd2_s hf
  refine x_ci hW (x_runV C hW [.int s1, .int s2] [] (hs0).1 (hs0).2.1 kX12.1 kvX12_ask q_1173 (tX12_ask l C.2.2.2.2.2.2.1 hs0 r3) rfl rfl ⟨by decide, by decide⟩ rfl hl.1 rfl (Nat.le_of_ble_eq_true rfl) dX12_who_120) (fun H locs hW => ?_)
  cases hf
  exact x_iret C hW dX12_who_123
set_option maxRecDepth 100000 in
set_option maxHeartbeats 4000000 in
theorem wX12_who_99 (C : Cx p s m meth c args cX12_who 6 (some .int) RX12 D ca ad) {res : Int32 × Mm} {N : Nat}  {a0 : Nat} {a3 : Int32} {s0 : Nat} {s1 : Int32} {mm : Mm} {H : Heap} {locs : List Loc} {ls : Array Slot} (ha0 : sX12 a0) (hs0 : sX12 s0) (hW : Wd D ca ad s.heap mm H locs) (hl : lv_has ls 6 [(0, .ref (ad a0)), (3, .int a3)]) (hf : fX12_who_99 N a0 a3 s0 s1 mm = some res) : W p l e (rmX12_who) s m args below meth c H locs 0 0 (MQ below (QI D ca ad res) args s 0 0 (AA ad)) (F0 m 99 ls [.int s1, .ref (ad s0)]) := by
  unfold fX12_who_99 at hf
  refine lv_aload_n C.1 C.2.1 dX12_who_99 rfl (lv_at hl 0 rfl) ?_
  refine x_getr C hW (ha0).1 (ha0).2.1 (j := 21) rfl kX12 (by decide) rfl q_1037 dX12_who_100 ?_
  refine lv_iload_n C.1 C.2.1 dX12_who_103 rfl (lv_at hl 1 rfl) ?_
  obtain ⟨g4, hf⟩ := gd_s hf
  refine x_iald C hW ha0.2.2.2.2.2.2.2.2.2.2.2.2.2.1 g4 dX12_who_104 ?_
  refine lv_iconst (v := 2) C.1 C.2.1 dX12_who_105 (by decide) ?_
  refine lv_icmp_ne (tgt := 114) C.1 C.2.1 dX12_who_106 (by decide) (fun c5 => ?_) (fun c5 => ?_)
  · have hf := if_f c5 hf
    refine lv_aload_n C.1 C.2.1 dX12_who_114 rfl (lv_at hl 0 rfl) ?_
    refine x_getr C hW (ha0).1 (ha0).2.1 (j := 21) rfl kX12 (by decide) rfl q_1037 dX12_who_115 ?_
    refine lv_iload_n C.1 C.2.1 dX12_who_118 rfl (lv_at hl 1 rfl) ?_
    obtain ⟨g6, hf⟩ := gd_s hf
    refine x_iald C hW ha0.2.2.2.2.2.2.2.2.2.2.2.2.2.1 g6 dX12_who_119 ?_
    exact wX12_who_120 C  hs0 hW (lv_sub hl [] rfl) hf
  · have hf := if_t c5 hf
    refine lv_bipush (v := (-9)) C.1 C.2.1 dX12_who_109 (by decide) ?_
    refine lv_goto (tgt := 120) C.1 C.2.1 dX12_who_111 (by decide) ?_
    exact wX12_who_120 C  hs0 hW (lv_sub hl [] rfl) hf
set_option maxRecDepth 100000 in
set_option maxHeartbeats 4000000 in
theorem wX12_who_0 (C : Cx p s m meth c args cX12_who 6 (some .int) RX12 D ca ad) {res : Int32 × Mm} {N : Nat}  {a0 : Nat} {a1 : Int32} {a2 : Int32} {a3 : Int32} {mm : Mm} {H : Heap} {locs : List Loc} {ls : Array Slot} (ha0 : sX12 a0) (hW : Wd D ca ad s.heap mm H locs) (hl : lv_has ls 6 [(0, .ref (ad a0)), (1, .int a1), (2, .int a2), (3, .int a3)]) (hf : fX12_who N a0 a1 a2 a3 mm = some res) : W p l e (rmX12_who) s m args below meth c H locs 0 0 (MQ below (QI D ca ad res) args s 0 0 (AA ad)) (F0 m 0 ls []) := by
  unfold fX12_who at hf
  refine lv_iload_n C.1 C.2.1 dX12_who_0 rfl (lv_at hl 1 rfl) ?_
  obtain ⟨x7, m8, r9, hf⟩ := bd2_s hf
  refine x_ci hW (x_runS C hW [.int a1] [] kvX12_isRow q_1147 (tX12_isRow l C.2.2.2.2.2.2.1  r9) rfl rfl ⟨by decide, by decide⟩ rfl hl.1 rfl (Nat.le_of_ble_eq_true rfl) dX12_who_1) (fun H locs hW => ?_)
  refine lv_if_eq (tgt := 22) C.1 C.2.1 dX12_who_4 (by decide) (fun c10 => ?_) (fun c10 => ?_)
  · have hf := if_t c10 hf
    refine lv_iconst (v := (-1)) C.1 C.2.1 dX12_who_22 (by decide) ?_
    cases hf
    exact x_iret C hW dX12_who_23
  · have hf := if_f c10 hf
    refine lv_iload_n C.1 C.2.1 dX12_who_7 rfl (lv_at hl 2 rfl) ?_
    obtain ⟨x11, m12, r13, hf⟩ := bd2_s hf
    refine x_ci hW (x_runS C hW [.int a2] [] kvX12_isRow q_1147 (tX12_isRow l C.2.2.2.2.2.2.1  r13) rfl rfl ⟨by decide, by decide⟩ rfl hl.1 rfl (Nat.le_of_ble_eq_true rfl) dX12_who_8) (fun H locs hW => ?_)
    refine lv_if_eq (tgt := 22) C.1 C.2.1 dX12_who_11 (by decide) (fun c14 => ?_) (fun c14 => ?_)
    · have hf := if_t c14 hf
      refine lv_iconst (v := (-1)) C.1 C.2.1 dX12_who_22 (by decide) ?_
      cases hf
      exact x_iret C hW dX12_who_23
    · have hf := if_f c14 hf
      refine lv_aload_n C.1 C.2.1 dX12_who_14 rfl (lv_at hl 0 rfl) ?_
      refine lv_iload_n C.1 C.2.1 dX12_who_15 rfl (lv_at hl 3 rfl) ?_
      obtain ⟨x15, m16, r17, hf⟩ := bd2_s hf
      refine x_ci hW (x_runV C hW [.int a3] [] (ha0).1 (ha0).2.1 kX12.1 kvX12_isSuit q_1248 (tX12_isSuit l C.2.2.2.2.2.2.1 ha0 r17) rfl rfl ⟨by decide, by decide⟩ rfl hl.1 rfl (Nat.le_of_ble_eq_true rfl) dX12_who_16) (fun H locs hW => ?_)
      refine lv_if_ne (tgt := 24) C.1 C.2.1 dX12_who_19 (by decide) (fun c18 => ?_) (fun c18 => ?_)
      · have hf := if_f c18 hf
        refine lv_aload_n C.1 C.2.1 dX12_who_24 rfl (lv_at hl 0 rfl) ?_
        refine lv_iload_n C.1 C.2.1 dX12_who_25 rfl (lv_at hl 1 rfl) ?_
        refine lv_iconst (v := 0) C.1 C.2.1 dX12_who_26 (by decide) ?_
        refine lv_iload_n C.1 C.2.1 dX12_who_27 rfl (lv_at hl 2 rfl) ?_
        refine lv_iconst (v := 1) C.1 C.2.1 dX12_who_28 (by decide) ?_
        obtain ⟨x19, m20, r21, hf⟩ := bd2_s hf
        refine x_ci hW (x_runV C hW [.int a1, .int 0, .int a2, .int 1] [] (ha0).1 (ha0).2.1 kX12.1 kvX12_askedTwo q_1280 (tX12_askedTwo l C.2.2.2.2.2.2.1 ha0 r21) rfl rfl ⟨by decide, by decide⟩ rfl hl.1 rfl (Nat.le_of_ble_eq_true rfl) dX12_who_29) (fun H locs hW => ?_)
        refine lv_istore (lv' := [(4, .int x19), (0, .ref (ad a0)), (1, .int a1), (2, .int a2), (3, .int a3)]) C.1 C.2.1 dX12_who_32 hl (by decide) rfl (fun ls hl => ?_)
        refine lv_iload C.1 C.2.1 dX12_who_34 (lv_at hl 0 rfl) ?_
        refine lv_if_ge (tgt := 42) C.1 C.2.1 dX12_who_36 (by decide) (fun c22 => ?_) (fun c22 => ?_)
        · have hf := if_t c22 hf
          refine lv_aload_n C.1 C.2.1 dX12_who_42 rfl (lv_at hl 1 rfl) ?_
          refine lv_iload_n C.1 C.2.1 dX12_who_43 rfl (lv_at hl 2 rfl) ?_
          refine lv_iconst (v := 0) C.1 C.2.1 dX12_who_44 (by decide) ?_
          obtain ⟨x23, m24, r25, hf⟩ := bd2_s hf
          refine x_cv hW (x_runV C hW [.int a1, .int 0] [] (ha0).1 (ha0).2.1 kX12.1 kvX12_takes q_1288 (tX12_takes l C.2.2.2.2.2.2.1 ha0 r25) rfl rfl ⟨by decide, by decide⟩ rfl hl.1 rfl (Nat.le_of_ble_eq_true rfl) dX12_who_45) (fun H locs hW => ?_)
          refine lv_aload_n C.1 C.2.1 dX12_who_48 rfl (lv_at hl 1 rfl) ?_
          refine lv_iload_n C.1 C.2.1 dX12_who_49 rfl (lv_at hl 3 rfl) ?_
          refine lv_iconst (v := 1) C.1 C.2.1 dX12_who_50 (by decide) ?_
          obtain ⟨x26, m27, r28, hf⟩ := bd2_s hf
          refine x_cv hW (x_runV C hW [.int a2, .int 1] [] (ha0).1 (ha0).2.1 kX12.1 kvX12_takes q_1288 (tX12_takes l C.2.2.2.2.2.2.1 ha0 r28) rfl rfl ⟨by decide, by decide⟩ rfl hl.1 rfl (Nat.le_of_ble_eq_true rfl) dX12_who_51) (fun H locs hW => ?_)
          refine lv_aload_n C.1 C.2.1 dX12_who_54 rfl (lv_at hl 1 rfl) ?_
          obtain ⟨x29, m30, r31, hf⟩ := bd2_s hf
          refine x_cv hW (x_runV C hW [] [] (ha0).1 (ha0).2.1 kX12.1 kvX12_setWinners q_1292 (tX12_setWinners l C.2.2.2.2.2.2.1 ha0 r31) rfl rfl ⟨by decide, by decide⟩ rfl hl.1 rfl (Nat.le_of_ble_eq_true rfl) dX12_who_55) (fun H locs hW => ?_)
          refine lv_aload_n C.1 C.2.1 dX12_who_58 rfl (lv_at hl 1 rfl) ?_
          refine lv_iload_n C.1 C.2.1 dX12_who_59 rfl (lv_at hl 4 rfl) ?_
          refine lv_iconst (v := 0) C.1 C.2.1 dX12_who_60 (by decide) ?_
          refine lv_aload_n C.1 C.2.1 dX12_who_61 rfl (lv_at hl 1 rfl) ?_
          refine x_getr C hW (ha0).1 (ha0).2.1 (j := 19) rfl kX12 (by decide) rfl q_1035 dX12_who_62 ?_
          refine lv_iload_n C.1 C.2.1 dX12_who_65 rfl (lv_at hl 4 rfl) ?_
          obtain ⟨g32, hf⟩ := gd_s hf
          refine x_iald C hW ha0.2.2.2.2.2.2.2.2.2.2.2.1 g32 dX12_who_66 ?_
          obtain ⟨x33, m34, r35, hf⟩ := bd2_s hf
          refine x_ci hW (x_runV C hW [.int a3, .int 0, .int (rd m30 (fr a0 19) a3.toNatClampNeg)] [] (ha0).1 (ha0).2.1 kX12.1 kvX12_weight q_1300 (tX12_weight l C.2.2.2.2.2.2.1 ha0 r35) rfl rfl ⟨by decide, by decide⟩ rfl hl.1 rfl (Nat.le_of_ble_eq_true rfl) dX12_who_67) (fun H locs hW => ?_)
          refine lv_aload_n C.1 C.2.1 dX12_who_70 rfl (lv_at hl 1 rfl) ?_
          refine lv_iload_n C.1 C.2.1 dX12_who_71 rfl (lv_at hl 4 rfl) ?_
          refine lv_iconst (v := 1) C.1 C.2.1 dX12_who_72 (by decide) ?_
          refine lv_aload_n C.1 C.2.1 dX12_who_73 rfl (lv_at hl 1 rfl) ?_
          refine x_getr C hW (ha0).1 (ha0).2.1 (j := 20) rfl kX12 (by decide) rfl q_1036 dX12_who_74 ?_
          refine lv_iload_n C.1 C.2.1 dX12_who_77 rfl (lv_at hl 4 rfl) ?_
          obtain ⟨g36, hf⟩ := gd_s hf
          refine x_iald C hW ha0.2.2.2.2.2.2.2.2.2.2.2.2.1 g36 dX12_who_78 ?_
          obtain ⟨x37, m38, r39, hf⟩ := bd2_s hf
          refine x_ci hW (x_runV C hW [.int a3, .int 1, .int (rd m34 (fr a0 20) a3.toNatClampNeg)] [.int x33] (ha0).1 (ha0).2.1 kX12.1 kvX12_weight q_1300 (tX12_weight l C.2.2.2.2.2.2.1 ha0 r39) rfl rfl ⟨by decide, by decide⟩ rfl hl.1 rfl (Nat.le_of_ble_eq_true rfl) dX12_who_79) (fun H locs hW => ?_)
          refine lv_isub C.1 C.2.1 dX12_who_82 ?_
          refine lv_istore (lv' := [(5, .int (x33 - x37)), (4, .int x19), (0, .ref (ad a0)), (1, .int a1), (2, .int a2), (3, .int a3)]) C.1 C.2.1 dX12_who_83 hl (by decide) rfl (fun ls hl => ?_)
          refine lv_aload_n C.1 C.2.1 dX12_who_85 rfl (lv_at hl 2 rfl) ?_
          refine lv_iload C.1 C.2.1 dX12_who_86 (lv_at hl 0 rfl) ?_
          refine lv_if_ge (tgt := 97) C.1 C.2.1 dX12_who_88 (by decide) (fun c40 => ?_) (fun c40 => ?_)
          · have hf := if_t c40 hf
            refine lv_iload C.1 C.2.1 dX12_who_97 (lv_at hl 0 rfl) ?_
            exact wX12_who_99 C  ha0 ha0 hW (lv_sub hl [2, 5] rfl) hf
          · have hf := if_f c40 hf
            refine lv_iload C.1 C.2.1 dX12_who_91 (lv_at hl 0 rfl) ?_
            refine lv_ineg C.1 C.2.1 dX12_who_93 ?_
            refine lv_goto (tgt := 99) C.1 C.2.1 dX12_who_94 (by decide) ?_
            exact wX12_who_99 C  ha0 ha0 hW (lv_sub hl [2, 5] rfl) hf
        · have hf := if_f c22 hf
          refine lv_iload C.1 C.2.1 dX12_who_39 (lv_at hl 0 rfl) ?_
          cases hf
          exact x_iret C hW dX12_who_41
      · have hf := if_t c18 hf
        refine lv_iconst (v := (-1)) C.1 C.2.1 dX12_who_22 (by decide) ?_
        cases hf
        exact x_iret C hW dX12_who_23
set_option maxRecDepth 100000 in
set_option maxHeartbeats 4000000 in
theorem tX12_who (l : Launch) {D : va_G} {ca ad : Nat → Nat} (hi : Inj ad) {N : Nat} {a0 : Nat} {a1 : Int32} {a2 : Int32} {a3 : Int32} {mm : Mm} {res : Int32 × Mm} (ha0 : sX12 a0) (hf : fX12_who N a0 a1 a2 a3 mm = some res) : Met l yX12_who (WS yX12_who cX12_who 6 (some .int)) (rmX12_who) (va_Pc [.ref (ad a0), .int a1, .int a2, .int a3] (WB D ca ad mm)) (QI D ca ad res) 0 0 (AA ad) := by
  refine x_start hi (by decide) rfl (Nat.le_of_ble_eq_true rfl) (fun p e s m args below meth c ls C hW hl => ?_)
  exact wX12_who_0 C ha0 hW (lv_sub hl [0, 1, 2, 3] rfl) hf
set_option maxRecDepth 100000 in
set_option maxHeartbeats 4000000 in
theorem wX12_fewestFor_42 (C : Cx p s m meth c args cX12_fewestFor 5 (some .int) RX12 D ca ad) {res : Int32 × Mm} {N : Nat} {k3 : Nat → Int32 → Int32 → Int32 → Int32 → Mm → Option (Int32 × Mm)} (hk3 : ∀ (a0 : Nat) (a1 : Int32) (a2 : Int32) (a3 : Int32) (a4 : Int32) (mm : Mm) (H : Heap) (locs : List Loc) (ls : Array Slot), (sX12 a0) → Wd D ca ad s.heap mm H locs → lv_has ls 5 [(0, .ref (ad a0)), (1, .int a1), (2, .int a2), (3, .int a3), (4, .int a4)] → k3 a0 a1 a2 a3 a4 mm = some res → W p l e (rmX12_fewestFor) s m args below meth c H locs 0 0 (MQ below (QI D ca ad res) args s 0 0 (AA ad)) (F0 m 3 ls [])) {a0 : Nat} {a1 : Int32} {a2 : Int32} {a3 : Int32} {a4 : Int32} {s0 : Nat} {s1 : Int32} {s2 : Int32} {s3 : Int32} {mm : Mm} {H : Heap} {locs : List Loc} {ls : Array Slot} (ha0 : sX12 a0) (hs0 : sX12 s0) (hW : Wd D ca ad s.heap mm H locs) (hl : lv_has ls 5 [(0, .ref (ad a0)), (1, .int a1), (2, .int a2), (3, .int a3), (4, .int a4)]) (hf : fX12_fewestFor_42 N k3 a0 a1 a2 a3 a4 s0 s1 s2 s3 mm = some res) : W p l e (rmX12_fewestFor) s m args below meth c H locs 0 0 (MQ below (QI D ca ad res) args s 0 0 (AA ad)) (F0 m 42 ls [.int s3, .int s2, .int s1, .ref (ad s0)]) := by
  unfold fX12_fewestFor_42 at hf
  obtain ⟨x1, m2, r3, hf⟩ := bd2_s hf
  refine x_ci hW (x_runV C hW [.int s1, .int s2, .int s3] [] (hs0).1 (hs0).2.1 kX12.1 kvX12_winnerOf q_1296 (tX12_winnerOf l C.2.2.2.2.2.2.1 hs0 r3) rfl rfl ⟨by decide, by decide⟩ rfl hl.1 rfl (Nat.le_of_ble_eq_true rfl) dX12_fewestFor_42) (fun H locs hW => ?_)
  refine lv_iload_n C.1 C.2.1 dX12_fewestFor_45 rfl (lv_at hl 3 rfl) ?_
  refine lv_icmp_ne (tgt := 52) C.1 C.2.1 dX12_fewestFor_46 (by decide) (fun c4 => ?_) (fun c4 => ?_)
  · have hf := if_f c4 hf
    refine lv_iinc (v := (a4 + 1)) (lv' := [(4, .int (a4 + 1)), (0, .ref (ad a0)), (1, .int a1), (2, .int a2), (3, .int a3)]) C.1 C.2.1 dX12_fewestFor_52 hl (k := 4) rfl rfl (by decide) rfl (fun ls hl => ?_)
    refine lv_goto (tgt := 3) C.1 C.2.1 dX12_fewestFor_55 (by decide) ?_
    exact hk3 _ _ _ _ _ _ _ _ _ ha0 hW (lv_sub hl [1, 2, 3, 4, 0] rfl) hf
  · have hf := if_t c4 hf
    refine lv_iload C.1 C.2.1 dX12_fewestFor_49 (lv_at hl 4 rfl) ?_
    cases hf
    exact x_iret C hW dX12_fewestFor_51
set_option maxRecDepth 100000 in
set_option maxHeartbeats 4000000 in
theorem wX12_fewestFor_27 (C : Cx p s m meth c args cX12_fewestFor 5 (some .int) RX12 D ca ad) {res : Int32 × Mm} {N : Nat} {k3 : Nat → Int32 → Int32 → Int32 → Int32 → Mm → Option (Int32 × Mm)} (hk3 : ∀ (a0 : Nat) (a1 : Int32) (a2 : Int32) (a3 : Int32) (a4 : Int32) (mm : Mm) (H : Heap) (locs : List Loc) (ls : Array Slot), (sX12 a0) → Wd D ca ad s.heap mm H locs → lv_has ls 5 [(0, .ref (ad a0)), (1, .int a1), (2, .int a2), (3, .int a3), (4, .int a4)] → k3 a0 a1 a2 a3 a4 mm = some res → W p l e (rmX12_fewestFor) s m args below meth c H locs 0 0 (MQ below (QI D ca ad res) args s 0 0 (AA ad)) (F0 m 3 ls [])) {a0 : Nat} {a1 : Int32} {a2 : Int32} {a3 : Int32} {a4 : Int32} {s0 : Nat} {s1 : Int32} {s2 : Int32} {mm : Mm} {H : Heap} {locs : List Loc} {ls : Array Slot} (ha0 : sX12 a0) (hs0 : sX12 s0) (hW : Wd D ca ad s.heap mm H locs) (hl : lv_has ls 5 [(0, .ref (ad a0)), (1, .int a1), (2, .int a2), (3, .int a3), (4, .int a4)]) (hf : fX12_fewestFor_27 N k3 a0 a1 a2 a3 a4 s0 s1 s2 mm = some res) : W p l e (rmX12_fewestFor) s m args below meth c H locs 0 0 (MQ below (QI D ca ad res) args s 0 0 (AA ad)) (F0 m 27 ls [.int s2, .int s1, .ref (ad s0)]) := by
  unfold fX12_fewestFor_27 at hf
  refine lv_iload_n C.1 C.2.1 dX12_fewestFor_27 rfl (lv_at hl 2 rfl) ?_
  refine lv_if_ne (tgt := 40) C.1 C.2.1 dX12_fewestFor_28 (by decide) (fun c5 => ?_) (fun c5 => ?_)
  · have hf := if_f c5 hf
    refine lv_iload C.1 C.2.1 dX12_fewestFor_40 (lv_at hl 4 rfl) ?_
    exact wX12_fewestFor_42 C hk3 ha0 hs0 hW (lv_sub hl [0, 1, 2, 3, 4] rfl) hf
  · have hf := if_t c5 hf
    refine lv_aload_n C.1 C.2.1 dX12_fewestFor_31 rfl (lv_at hl 0 rfl) ?_
    refine x_getr C hW (ha0).1 (ha0).2.1 (j := 20) rfl kX12 (by decide) rfl q_1036 dX12_fewestFor_32 ?_
    refine lv_iload_n C.1 C.2.1 dX12_fewestFor_35 rfl (lv_at hl 1 rfl) ?_
    obtain ⟨g6, hf⟩ := gd_s hf
    refine x_iald C hW ha0.2.2.2.2.2.2.2.2.2.2.2.2.1 g6 dX12_fewestFor_36 ?_
    refine lv_goto (tgt := 42) C.1 C.2.1 dX12_fewestFor_37 (by decide) ?_
    exact wX12_fewestFor_42 C hk3 ha0 hs0 hW (lv_sub hl [0, 1, 2, 3, 4] rfl) hf
set_option maxRecDepth 100000 in
set_option maxHeartbeats 4000000 in
theorem wX12_fewestFor_3 (C : Cx p s m meth c args cX12_fewestFor 5 (some .int) RX12 D ca ad) {res : Int32 × Mm} {N : Nat}  : ∀ (n : Nat) {a0 : Nat} {a1 : Int32} {a2 : Int32} {a3 : Int32} {a4 : Int32} {mm : Mm} {H : Heap} {locs : List Loc} {ls : Array Slot}, (sX12 a0) → Wd D ca ad s.heap mm H locs → lv_has ls 5 [(0, .ref (ad a0)), (1, .int a1), (2, .int a2), (3, .int a3), (4, .int a4)] → fX12_fewestFor_3 N n a0 a1 a2 a3 a4 mm = some res → W p l e (rmX12_fewestFor) s m args below meth c H locs 0 0 (MQ below (QI D ca ad res) args s 0 0 (AA ad)) (F0 m 3 ls []) := by
  intro n
  induction n with
  | zero => intro a0 a1 a2 a3 a4 mm H locs ls ha0 hW hl hf; cases hf
  | succ n ih =>
    intro a0 a1 a2 a3 a4 mm H locs ls ha0 hW hl hf
    have hk3 : ∀ (a0 : Nat) (a1 : Int32) (a2 : Int32) (a3 : Int32) (a4 : Int32) (mm : Mm) (H : Heap) (locs : List Loc) (ls : Array Slot), (sX12 a0) → Wd D ca ad s.heap mm H locs → lv_has ls 5 [(0, .ref (ad a0)), (1, .int a1), (2, .int a2), (3, .int a3), (4, .int a4)] → (fX12_fewestFor_3 N n) a0 a1 a2 a3 a4 mm = some res → W p l e (rmX12_fewestFor) s m args below meth c H locs 0 0 (MQ below (QI D ca ad res) args s 0 0 (AA ad)) (F0 m 3 ls []) := fun a0 a1 a2 a3 a4 mm H locs ls ha0 hW hl hf => ih ha0 hW hl hf
    unfold fX12_fewestFor_3 at hf
    try dsimp only at hf
    refine lv_iload C.1 C.2.1 dX12_fewestFor_3 (lv_at hl 4 rfl) ?_
    refine lv_bipush (v := 40) C.1 C.2.1 dX12_fewestFor_5 (by decide) ?_
    refine lv_icmp_gt (tgt := 58) C.1 C.2.1 dX12_fewestFor_7 (by decide) (fun c7 => ?_) (fun c7 => ?_)
    · have hf := if_t c7 hf
      refine lv_bipush (v := (-9)) C.1 C.2.1 dX12_fewestFor_58 (by decide) ?_
      cases hf
      exact x_iret C hW dX12_fewestFor_60
    · have hf := if_f c7 hf
      refine lv_aload_n C.1 C.2.1 dX12_fewestFor_10 rfl (lv_at hl 0 rfl) ?_
      refine lv_iload_n C.1 C.2.1 dX12_fewestFor_11 rfl (lv_at hl 1 rfl) ?_
      refine lv_iload_n C.1 C.2.1 dX12_fewestFor_12 rfl (lv_at hl 2 rfl) ?_
      refine lv_if_ne (tgt := 21) C.1 C.2.1 dX12_fewestFor_13 (by decide) (fun c8 => ?_) (fun c8 => ?_)
      · have hf := if_f c8 hf
        refine lv_aload_n C.1 C.2.1 dX12_fewestFor_21 rfl (lv_at hl 0 rfl) ?_
        refine x_getr C hW (ha0).1 (ha0).2.1 (j := 19) rfl kX12 (by decide) rfl q_1035 dX12_fewestFor_22 ?_
        refine lv_iload_n C.1 C.2.1 dX12_fewestFor_25 rfl (lv_at hl 1 rfl) ?_
        obtain ⟨g9, hf⟩ := gd_s hf
        refine x_iald C hW ha0.2.2.2.2.2.2.2.2.2.2.2.1 g9 dX12_fewestFor_26 ?_
        exact wX12_fewestFor_27 C hk3 ha0 ha0 hW (lv_sub hl [0, 1, 2, 3, 4] rfl) hf
      · have hf := if_t c8 hf
        refine lv_iload C.1 C.2.1 dX12_fewestFor_16 (lv_at hl 4 rfl) ?_
        refine lv_goto (tgt := 27) C.1 C.2.1 dX12_fewestFor_18 (by decide) ?_
        exact wX12_fewestFor_27 C hk3 ha0 ha0 hW (lv_sub hl [0, 1, 2, 3, 4] rfl) hf
set_option maxRecDepth 100000 in
set_option maxHeartbeats 4000000 in
theorem wX12_fewestFor_0 (C : Cx p s m meth c args cX12_fewestFor 5 (some .int) RX12 D ca ad) {res : Int32 × Mm} {N : Nat}  {a0 : Nat} {a1 : Int32} {a2 : Int32} {a3 : Int32} {mm : Mm} {H : Heap} {locs : List Loc} {ls : Array Slot} (ha0 : sX12 a0) (hW : Wd D ca ad s.heap mm H locs) (hl : lv_has ls 5 [(0, .ref (ad a0)), (1, .int a1), (2, .int a2), (3, .int a3)]) (hf : fX12_fewestFor N a0 a1 a2 a3 mm = some res) : W p l e (rmX12_fewestFor) s m args below meth c H locs 0 0 (MQ below (QI D ca ad res) args s 0 0 (AA ad)) (F0 m 0 ls []) := by
  unfold fX12_fewestFor at hf
  refine lv_iconst (v := 0) C.1 C.2.1 dX12_fewestFor_0 (by decide) ?_
  refine lv_istore (lv' := [(4, .int 0), (0, .ref (ad a0)), (1, .int a1), (2, .int a2), (3, .int a3)]) C.1 C.2.1 dX12_fewestFor_1 hl (by decide) rfl (fun ls hl => ?_)
  exact wX12_fewestFor_3 C  N ha0 hW (lv_sub hl [1, 2, 3, 4, 0] rfl) hf
set_option maxRecDepth 100000 in
set_option maxHeartbeats 4000000 in
theorem tX12_fewestFor (l : Launch) {D : va_G} {ca ad : Nat → Nat} (hi : Inj ad) {N : Nat} {a0 : Nat} {a1 : Int32} {a2 : Int32} {a3 : Int32} {mm : Mm} {res : Int32 × Mm} (ha0 : sX12 a0) (hf : fX12_fewestFor N a0 a1 a2 a3 mm = some res) : Met l yX12_fewestFor (WS yX12_fewestFor cX12_fewestFor 5 (some .int)) (rmX12_fewestFor) (va_Pc [.ref (ad a0), .int a1, .int a2, .int a3] (WB D ca ad mm)) (QI D ca ad res) 0 0 (AA ad) := by
  refine x_start hi (by decide) rfl (Nat.le_of_ble_eq_true rfl) (fun p e s m args below meth c ls C hW hl => ?_)
  exact wX12_fewestFor_0 C ha0 hW (lv_sub hl [0, 1, 2, 3] rfl) hf
set_option maxRecDepth 100000 in
set_option maxHeartbeats 4000000 in
theorem wX12_isAhead_48 (C : Cx p s m meth c args cX12_isAhead 4 (some .boolean) RX12 D ca ad) {res : Int32 × Mm} {N : Nat}  : ∀ (n : Nat) {a0 : Nat} {a3 : Int32} {mm : Mm} {H : Heap} {locs : List Loc} {ls : Array Slot}, (sX12 a0) → Wd D ca ad s.heap mm H locs → lv_has ls 4 [(0, .ref (ad a0)), (3, .int a3)] → fX12_isAhead_48 N n a0 a3 mm = some res → W p l e (rmX12_isAhead) s m args below meth c H locs 0 0 (MQ below (QI D ca ad res) args s 0 0 (AA ad)) (F0 m 48 ls []) := by
  intro n
  induction n with
  | zero => intro a0 a3 mm H locs ls ha0 hW hl hf; cases hf
  | succ n ih =>
    intro a0 a3 mm H locs ls ha0 hW hl hf
    have hk48 : ∀ (a0 : Nat) (a3 : Int32) (mm : Mm) (H : Heap) (locs : List Loc) (ls : Array Slot), (sX12 a0) → Wd D ca ad s.heap mm H locs → lv_has ls 4 [(0, .ref (ad a0)), (3, .int a3)] → (fX12_isAhead_48 N n) a0 a3 mm = some res → W p l e (rmX12_isAhead) s m args below meth c H locs 0 0 (MQ below (QI D ca ad res) args s 0 0 (AA ad)) (F0 m 48 ls []) := fun a0 a3 mm H locs ls ha0 hW hl hf => ih ha0 hW hl hf
    unfold fX12_isAhead_48 at hf
    try dsimp only at hf
    refine lv_iload_n C.1 C.2.1 dX12_isAhead_48 rfl (lv_at hl 1 rfl) ?_
    refine lv_aload_n C.1 C.2.1 dX12_isAhead_49 rfl (lv_at hl 0 rfl) ?_
    refine x_geti C hW (ha0).1 (ha0).2.1 (j := 10) rfl kX12 (by decide) rfl q_1026 dX12_isAhead_50 ?_
    refine lv_icmp_ge (tgt := 98) C.1 C.2.1 dX12_isAhead_53 (by decide) (fun c1 => ?_) (fun c1 => ?_)
    · have hf := if_t c1 hf
      refine lv_iconst (v := 0) C.1 C.2.1 dX12_isAhead_98 (by decide) ?_
      cases hf
      exact x_zret C hW (by decide) dX12_isAhead_99
    · have hf := if_f c1 hf
      refine lv_aload_n C.1 C.2.1 dX12_isAhead_56 rfl (lv_at hl 0 rfl) ?_
      refine x_getr C hW (ha0).1 (ha0).2.1 (j := 26) rfl kX12 (by decide) rfl q_1042 dX12_isAhead_57 ?_
      refine lv_iload_n C.1 C.2.1 dX12_isAhead_60 rfl (lv_at hl 1 rfl) ?_
      obtain ⟨g2, hf⟩ := gd_s hf
      refine x_iald C hW ha0.2.2.2.2.2.2.2.2.2.2.2.2.2.2.1 g2 dX12_isAhead_61 ?_
      refine lv_aload_n C.1 C.2.1 dX12_isAhead_62 rfl (lv_at hl 0 rfl) ?_
      refine x_getr C hW (ha0).1 (ha0).2.1 (j := 27) rfl kX12 (by decide) rfl q_1043 dX12_isAhead_63 ?_
      refine lv_iload_n C.1 C.2.1 dX12_isAhead_66 rfl (lv_at hl 1 rfl) ?_
      obtain ⟨g3, hf⟩ := gd_s hf
      refine x_iald C hW ha0.2.2.2.2.2.2.2.2.2.2.2.2.2.2.2.1 g3 dX12_isAhead_67 ?_
      refine lv_icmp_eq (tgt := 92) C.1 C.2.1 dX12_isAhead_68 (by decide) (fun c4 => ?_) (fun c4 => ?_)
      · have hf := if_t c4 hf
        refine lv_iinc (v := (a3 + 1)) (lv' := [(3, .int (a3 + 1)), (0, .ref (ad a0))]) C.1 C.2.1 dX12_isAhead_92 hl (k := 1) rfl rfl (by decide) rfl (fun ls hl => ?_)
        refine lv_goto (tgt := 48) C.1 C.2.1 dX12_isAhead_95 (by decide) ?_
        exact hk48 _ _ _ _ _ _ ha0 hW (lv_sub hl [1, 0] rfl) hf
      · have hf := if_f c4 hf
        refine lv_aload_n C.1 C.2.1 dX12_isAhead_71 rfl (lv_at hl 0 rfl) ?_
        refine x_getr C hW (ha0).1 (ha0).2.1 (j := 26) rfl kX12 (by decide) rfl q_1042 dX12_isAhead_72 ?_
        refine lv_iload_n C.1 C.2.1 dX12_isAhead_75 rfl (lv_at hl 1 rfl) ?_
        obtain ⟨g5, hf⟩ := gd_s hf
        refine x_iald C hW ha0.2.2.2.2.2.2.2.2.2.2.2.2.2.2.1 g5 dX12_isAhead_76 ?_
        refine lv_aload_n C.1 C.2.1 dX12_isAhead_77 rfl (lv_at hl 0 rfl) ?_
        refine x_getr C hW (ha0).1 (ha0).2.1 (j := 27) rfl kX12 (by decide) rfl q_1043 dX12_isAhead_78 ?_
        refine lv_iload_n C.1 C.2.1 dX12_isAhead_81 rfl (lv_at hl 1 rfl) ?_
        obtain ⟨g6, hf⟩ := gd_s hf
        refine x_iald C hW ha0.2.2.2.2.2.2.2.2.2.2.2.2.2.2.2.1 g6 dX12_isAhead_82 ?_
        refine lv_icmp_ge (tgt := 90) C.1 C.2.1 dX12_isAhead_83 (by decide) (fun c7 => ?_) (fun c7 => ?_)
        · have hf := if_t c7 hf
          refine lv_iconst (v := 0) C.1 C.2.1 dX12_isAhead_90 (by decide) ?_
          cases hf
          exact x_zret C hW (by decide) dX12_isAhead_91
        · have hf := if_f c7 hf
          refine lv_iconst (v := 1) C.1 C.2.1 dX12_isAhead_86 (by decide) ?_
          refine lv_goto (tgt := 91) C.1 C.2.1 dX12_isAhead_87 (by decide) ?_
          cases hf
          exact x_zret C hW (by decide) dX12_isAhead_91
set_option maxRecDepth 100000 in
set_option maxHeartbeats 4000000 in
theorem wX12_isAhead_16 (C : Cx p s m meth c args cX12_isAhead 4 (some .boolean) RX12 D ca ad) {res : Int32 × Mm} {N : Nat}  {a0 : Nat} {a1 : Int32} {a2 : Int32} {mm : Mm} {H : Heap} {locs : List Loc} {ls : Array Slot} (ha0 : sX12 a0) (hW : Wd D ca ad s.heap mm H locs) (hl : lv_has ls 4 [(0, .ref (ad a0)), (1, .int a1), (2, .int a2)]) (hf : fX12_isAhead_16 N a0 a1 a2 mm = some res) : W p l e (rmX12_isAhead) s m args below meth c H locs 0 0 (MQ below (QI D ca ad res) args s 0 0 (AA ad)) (F0 m 16 ls []) := by
  unfold fX12_isAhead_16 at hf
  refine lv_iload_n C.1 C.2.1 dX12_isAhead_16 rfl (lv_at hl 1 rfl) ?_
  refine lv_aload_n C.1 C.2.1 dX12_isAhead_17 rfl (lv_at hl 0 rfl) ?_
  refine x_geti C hW (ha0).1 (ha0).2.1 (j := 24) rfl kX12 (by decide) rfl q_1040 dX12_isAhead_18 ?_
  refine lv_icmp_gt (tgt := 40) C.1 C.2.1 dX12_isAhead_21 (by decide) (fun c8 => ?_) (fun c8 => ?_)
  · have hf := if_t c8 hf
    refine lv_iconst (v := 1) C.1 C.2.1 dX12_isAhead_40 (by decide) ?_
    refine lv_goto (tgt := 45) C.1 C.2.1 dX12_isAhead_41 (by decide) ?_
    cases hf
    exact x_zret C hW (by decide) dX12_isAhead_45
  · have hf := if_f c8 hf
    refine lv_iload_n C.1 C.2.1 dX12_isAhead_24 rfl (lv_at hl 1 rfl) ?_
    refine lv_aload_n C.1 C.2.1 dX12_isAhead_25 rfl (lv_at hl 0 rfl) ?_
    refine x_geti C hW (ha0).1 (ha0).2.1 (j := 24) rfl kX12 (by decide) rfl q_1040 dX12_isAhead_26 ?_
    refine lv_icmp_ne (tgt := 44) C.1 C.2.1 dX12_isAhead_29 (by decide) (fun c9 => ?_) (fun c9 => ?_)
    · have hf := if_f c9 hf
      refine lv_iconst (v := 0) C.1 C.2.1 dX12_isAhead_44 (by decide) ?_
      cases hf
      exact x_zret C hW (by decide) dX12_isAhead_45
    · have hf := if_t c9 hf
      refine lv_iload_n C.1 C.2.1 dX12_isAhead_32 rfl (lv_at hl 2 rfl) ?_
      refine lv_aload_n C.1 C.2.1 dX12_isAhead_33 rfl (lv_at hl 0 rfl) ?_
      refine x_geti C hW (ha0).1 (ha0).2.1 (j := 25) rfl kX12 (by decide) rfl q_1041 dX12_isAhead_34 ?_
      refine lv_icmp_ge (tgt := 44) C.1 C.2.1 dX12_isAhead_37 (by decide) (fun c10 => ?_) (fun c10 => ?_)
      · have hf := if_t c10 hf
        refine lv_iconst (v := 0) C.1 C.2.1 dX12_isAhead_44 (by decide) ?_
        cases hf
        exact x_zret C hW (by decide) dX12_isAhead_45
      · have hf := if_f c10 hf
        refine lv_iconst (v := 1) C.1 C.2.1 dX12_isAhead_40 (by decide) ?_
        refine lv_goto (tgt := 45) C.1 C.2.1 dX12_isAhead_41 (by decide) ?_
        cases hf
        exact x_zret C hW (by decide) dX12_isAhead_45
set_option maxRecDepth 100000 in
set_option maxHeartbeats 4000000 in
theorem wX12_isAhead_0 (C : Cx p s m meth c args cX12_isAhead 4 (some .boolean) RX12 D ca ad) {res : Int32 × Mm} {N : Nat}  {a0 : Nat} {a1 : Int32} {a2 : Int32} {mm : Mm} {H : Heap} {locs : List Loc} {ls : Array Slot} (ha0 : sX12 a0) (hW : Wd D ca ad s.heap mm H locs) (hl : lv_has ls 4 [(0, .ref (ad a0)), (1, .int a1), (2, .int a2)]) (hf : fX12_isAhead N a0 a1 a2 mm = some res) : W p l e (rmX12_isAhead) s m args below meth c H locs 0 0 (MQ below (QI D ca ad res) args s 0 0 (AA ad)) (F0 m 0 ls []) := by
  unfold fX12_isAhead at hf
  refine lv_iload_n C.1 C.2.1 dX12_isAhead_0 rfl (lv_at hl 1 rfl) ?_
  refine lv_aload_n C.1 C.2.1 dX12_isAhead_1 rfl (lv_at hl 0 rfl) ?_
  refine x_geti C hW (ha0).1 (ha0).2.1 (j := 24) rfl kX12 (by decide) rfl q_1040 dX12_isAhead_2 ?_
  refine lv_icmp_ne (tgt := 16) C.1 C.2.1 dX12_isAhead_5 (by decide) (fun c11 => ?_) (fun c11 => ?_)
  · have hf := if_f c11 hf
    exact wX12_isAhead_16 C  ha0 hW (lv_sub hl [0, 1, 2] rfl) hf
  · have hf := if_t c11 hf
    refine lv_iload_n C.1 C.2.1 dX12_isAhead_8 rfl (lv_at hl 2 rfl) ?_
    refine lv_aload_n C.1 C.2.1 dX12_isAhead_9 rfl (lv_at hl 0 rfl) ?_
    refine x_geti C hW (ha0).1 (ha0).2.1 (j := 25) rfl kX12 (by decide) rfl q_1041 dX12_isAhead_10 ?_
    refine lv_icmp_eq (tgt := 46) C.1 C.2.1 dX12_isAhead_13 (by decide) (fun c12 => ?_) (fun c12 => ?_)
    · have hf := if_t c12 hf
      refine lv_iconst (v := 0) C.1 C.2.1 dX12_isAhead_46 (by decide) ?_
      refine lv_istore_n (lv' := [(3, .int 0), (0, .ref (ad a0)), (1, .int a1), (2, .int a2)]) C.1 C.2.1 dX12_isAhead_47 rfl hl (by decide) rfl (fun ls hl => ?_)
      exact wX12_isAhead_48 C  N ha0 hW (lv_sub hl [1, 0] rfl) hf
    · have hf := if_f c12 hf
      exact wX12_isAhead_16 C  ha0 hW (lv_sub hl [0, 1, 2] rfl) hf
set_option maxRecDepth 100000 in
set_option maxHeartbeats 4000000 in
theorem tX12_isAhead (l : Launch) {D : va_G} {ca ad : Nat → Nat} (hi : Inj ad) {N : Nat} {a0 : Nat} {a1 : Int32} {a2 : Int32} {mm : Mm} {res : Int32 × Mm} (ha0 : sX12 a0) (hf : fX12_isAhead N a0 a1 a2 mm = some res) : Met l yX12_isAhead (WS yX12_isAhead cX12_isAhead 4 (some .boolean)) (rmX12_isAhead) (va_Pc [.ref (ad a0), .int a1, .int a2] (WB D ca ad mm)) (QI D ca ad res) 0 0 (AA ad) := by
  refine x_start hi (by decide) rfl (Nat.le_of_ble_eq_true rfl) (fun p e s m args below meth c ls C hW hl => ?_)
  exact wX12_isAhead_0 C ha0 hW (lv_sub hl [0, 1, 2] rfl) hf
set_option maxRecDepth 100000 in
set_option maxHeartbeats 4000000 in
theorem wX12_bestOn_134 (C : Cx p s m meth c args cX12_bestOn 6 none RX12 D ca ad) {res : Unit × Mm} {d0 : Nat} {N : Nat} {rec : Nat → Int32 → Int32 → Int32 → Mm → Option (Unit × Mm)} {k63 : Nat → Int32 → Int32 → Int32 → Int32 → Mm → Option (Unit × Mm)} (hrec : ∀ (a0 : Nat) (a1 : Int32) (a2 : Int32) (a3 : Int32) (mm : Mm) (res : Unit × Mm), (sX12 a0) → rec a0 a1 a2 a3 mm = some res → Met l yX12_bestOn (WS yX12_bestOn cX12_bestOn 6 none) (rmX12_bestOn d0) (va_Pc [.ref (ad a0), .int a1, .int a2, .int a3] (WB D ca ad mm)) (QV D ca ad res) 0 0 (AA ad)) (hk63 : ∀ (a0 : Nat) (a1 : Int32) (a2 : Int32) (a3 : Int32) (a4 : Int32) (mm : Mm) (H : Heap) (locs : List Loc) (ls : Array Slot), (sX12 a0) → Wd D ca ad s.heap mm H locs → lv_has ls 6 [(0, .ref (ad a0)), (1, .int a1), (2, .int a2), (3, .int a3), (4, .int a4)] → k63 a0 a1 a2 a3 a4 mm = some res → W p l e (rmX12_bestOn (d0 + 1)) s m args below meth c H locs 0 0 (MQ below (QV D ca ad res) args s 0 0 (AA ad)) (F0 m 63 ls [])) {a0 : Nat} {a1 : Int32} {a2 : Int32} {a3 : Int32} {a4 : Int32} {mm : Mm} {H : Heap} {locs : List Loc} {ls : Array Slot} (ha0 : sX12 a0) (hW : Wd D ca ad s.heap mm H locs) (hl : lv_has ls 6 [(0, .ref (ad a0)), (1, .int a1), (2, .int a2), (3, .int a3), (4, .int a4)]) (hf : fX12_bestOn_134 N rec k63 a0 a1 a2 a3 a4 mm = some res) : W p l e (rmX12_bestOn (d0 + 1)) s m args below meth c H locs 0 0 (MQ below (QV D ca ad res) args s 0 0 (AA ad)) (F0 m 134 ls []) := by
  unfold fX12_bestOn_134 at hf
  refine lv_iinc (v := (a4 + 1)) (lv' := [(4, .int (a4 + 1)), (0, .ref (ad a0)), (1, .int a1), (2, .int a2), (3, .int a3)]) C.1 C.2.1 dX12_bestOn_134 hl (k := 4) rfl rfl (by decide) rfl (fun ls hl => ?_)
  refine lv_goto (tgt := 63) C.1 C.2.1 dX12_bestOn_137 (by decide) ?_
  exact hk63 _ _ _ _ _ _ _ _ _ ha0 hW (lv_sub hl [1, 2, 3, 4, 0] rfl) hf
set_option maxRecDepth 100000 in
set_option maxHeartbeats 4000000 in
theorem wX12_bestOn_63 (C : Cx p s m meth c args cX12_bestOn 6 none RX12 D ca ad) {res : Unit × Mm} {d0 : Nat} {N : Nat} {rec : Nat → Int32 → Int32 → Int32 → Mm → Option (Unit × Mm)} (hrec : ∀ (a0 : Nat) (a1 : Int32) (a2 : Int32) (a3 : Int32) (mm : Mm) (res : Unit × Mm), (sX12 a0) → rec a0 a1 a2 a3 mm = some res → Met l yX12_bestOn (WS yX12_bestOn cX12_bestOn 6 none) (rmX12_bestOn d0) (va_Pc [.ref (ad a0), .int a1, .int a2, .int a3] (WB D ca ad mm)) (QV D ca ad res) 0 0 (AA ad)) : ∀ (n : Nat) {a0 : Nat} {a1 : Int32} {a2 : Int32} {a3 : Int32} {a4 : Int32} {mm : Mm} {H : Heap} {locs : List Loc} {ls : Array Slot}, (sX12 a0) → Wd D ca ad s.heap mm H locs → lv_has ls 6 [(0, .ref (ad a0)), (1, .int a1), (2, .int a2), (3, .int a3), (4, .int a4)] → fX12_bestOn_63 N rec n a0 a1 a2 a3 a4 mm = some res → W p l e (rmX12_bestOn (d0 + 1)) s m args below meth c H locs 0 0 (MQ below (QV D ca ad res) args s 0 0 (AA ad)) (F0 m 63 ls []) := by
  intro n
  induction n with
  | zero => intro a0 a1 a2 a3 a4 mm H locs ls ha0 hW hl hf; cases hf
  | succ n ih =>
    intro a0 a1 a2 a3 a4 mm H locs ls ha0 hW hl hf
    have hk63 : ∀ (a0 : Nat) (a1 : Int32) (a2 : Int32) (a3 : Int32) (a4 : Int32) (mm : Mm) (H : Heap) (locs : List Loc) (ls : Array Slot), (sX12 a0) → Wd D ca ad s.heap mm H locs → lv_has ls 6 [(0, .ref (ad a0)), (1, .int a1), (2, .int a2), (3, .int a3), (4, .int a4)] → (fX12_bestOn_63 N rec n) a0 a1 a2 a3 a4 mm = some res → W p l e (rmX12_bestOn (d0 + 1)) s m args below meth c H locs 0 0 (MQ below (QV D ca ad res) args s 0 0 (AA ad)) (F0 m 63 ls []) := fun a0 a1 a2 a3 a4 mm H locs ls ha0 hW hl hf => ih ha0 hW hl hf
    unfold fX12_bestOn_63 at hf
    try dsimp only at hf
    refine lv_iload C.1 C.2.1 dX12_bestOn_63 (lv_at hl 4 rfl) ?_
    refine lv_iconst (v := 3) C.1 C.2.1 dX12_bestOn_65 (by decide) ?_
    refine lv_icmp_ge (tgt := 140) C.1 C.2.1 dX12_bestOn_66 (by decide) (fun c1 => ?_) (fun c1 => ?_)
    · have hf := if_t c1 hf
      cases hf
      exact x_vret C hW dX12_bestOn_140
    · have hf := if_f c1 hf
      refine lv_aload_n C.1 C.2.1 dX12_bestOn_69 rfl (lv_at hl 0 rfl) ?_
      refine lv_iload_n C.1 C.2.1 dX12_bestOn_70 rfl (lv_at hl 1 rfl) ?_
      refine lv_iconst (v := 0) C.1 C.2.1 dX12_bestOn_71 (by decide) ?_
      refine lv_iload C.1 C.2.1 dX12_bestOn_72 (lv_at hl 4 rfl) ?_
      obtain ⟨x2, m3, r4, hf⟩ := bd2_s hf
      refine x_ci hW (x_runV C hW [.int a1, .int 0, .int a4] [] (ha0).1 (ha0).2.1 kX12.1 kvX12_fewestFor q_1340 (tX12_fewestFor l C.2.2.2.2.2.2.1 ha0 r4) rfl rfl ⟨by first | decide | (simp only [rmX12_bestOn, rmX12_fewestFor]; omega), by first | decide | (simp only [rmX12_bestOn, rmX12_fewestFor]; omega)⟩ rfl hl.1 rfl (Nat.le_of_ble_eq_true rfl) dX12_bestOn_74) (fun H locs hW => ?_)
      refine lv_istore (lv' := [(5, .int x2), (0, .ref (ad a0)), (1, .int a1), (2, .int a2), (3, .int a3), (4, .int a4)]) C.1 C.2.1 dX12_bestOn_77 hl (by decide) rfl (fun ls hl => ?_)
      refine lv_iload C.1 C.2.1 dX12_bestOn_79 (lv_at hl 0 rfl) ?_
      refine lv_bipush (v := (-9)) C.1 C.2.1 dX12_bestOn_81 (by decide) ?_
      refine lv_icmp_eq (tgt := 134) C.1 C.2.1 dX12_bestOn_83 (by decide) (fun c5 => ?_) (fun c5 => ?_)
      · have hf := if_t c5 hf
        exact wX12_bestOn_134 C hrec hk63 ha0 hW (lv_sub hl [1, 2, 3, 4, 5] rfl) hf
      · have hf := if_f c5 hf
        refine lv_iload_n C.1 C.2.1 dX12_bestOn_86 rfl (lv_at hl 4 rfl) ?_
        refine lv_iload C.1 C.2.1 dX12_bestOn_87 (lv_at hl 0 rfl) ?_
        refine lv_iadd C.1 C.2.1 dX12_bestOn_89 ?_
        refine lv_aload_n C.1 C.2.1 dX12_bestOn_90 rfl (lv_at hl 1 rfl) ?_
        refine x_geti C hW (ha0).1 (ha0).2.1 (j := 22) rfl kX12 (by decide) rfl q_1038 dX12_bestOn_91 ?_
        refine lv_icmp_gt (tgt := 134) C.1 C.2.1 dX12_bestOn_94 (by decide) (fun c6 => ?_) (fun c6 => ?_)
        · have hf := if_t c6 hf
          exact wX12_bestOn_134 C hrec hk63 ha0 hW (lv_sub hl [1, 2, 3, 4, 5] rfl) hf
        · have hf := if_f c6 hf
          refine lv_aload_n C.1 C.2.1 dX12_bestOn_97 rfl (lv_at hl 1 rfl) ?_
          refine x_getr C hW (ha0).1 (ha0).2.1 (j := 26) rfl kX12 (by decide) rfl q_1042 dX12_bestOn_98 ?_
          refine lv_iload_n C.1 C.2.1 dX12_bestOn_101 rfl (lv_at hl 2 rfl) ?_
          refine lv_iload C.1 C.2.1 dX12_bestOn_102 (lv_at hl 0 rfl) ?_
          obtain ⟨g7, hf⟩ := gd_s hf
          refine x_iast C hW ha0.2.2.2.2.2.2.2.2.2.2.2.2.2.2.1 g7 dX12_bestOn_104 (fun H locs hW => ?_)
          obtain ⟨m8, em8⟩ : ∃ z, z = wr m3 (fr a0 26) a1.toNatClampNeg x2 := ⟨_, rfl⟩
          have hf := nm_s hf em8
          rw [← em8] at hW
          refine lv_aload_n C.1 C.2.1 dX12_bestOn_105 rfl (lv_at hl 1 rfl) ?_
          refine x_getr C hW (ha0).1 (ha0).2.1 (j := 21) rfl kX12 (by decide) rfl q_1037 dX12_bestOn_106 ?_
          refine lv_iload_n C.1 C.2.1 dX12_bestOn_109 rfl (lv_at hl 2 rfl) ?_
          refine lv_iload C.1 C.2.1 dX12_bestOn_110 (lv_at hl 5 rfl) ?_
          obtain ⟨g9, hf⟩ := gd_s hf
          refine x_iast C hW ha0.2.2.2.2.2.2.2.2.2.2.2.2.2.1 g9 dX12_bestOn_112 (fun H locs hW => ?_)
          obtain ⟨m10, em10⟩ : ∃ z, z = wr m8 (fr a0 21) a1.toNatClampNeg a4 := ⟨_, rfl⟩
          have hf := nm_s hf em10
          rw [← em10] at hW
          refine lv_aload_n C.1 C.2.1 dX12_bestOn_113 rfl (lv_at hl 1 rfl) ?_
          refine lv_iload_n C.1 C.2.1 dX12_bestOn_114 rfl (lv_at hl 2 rfl) ?_
          refine lv_iconst (v := 1) C.1 C.2.1 dX12_bestOn_115 (by decide) ?_
          refine lv_iadd C.1 C.2.1 dX12_bestOn_116 ?_
          refine lv_iload_n C.1 C.2.1 dX12_bestOn_117 rfl (lv_at hl 3 rfl) ?_
          refine lv_aload_n C.1 C.2.1 dX12_bestOn_118 rfl (lv_at hl 1 rfl) ?_
          refine lv_iload_n C.1 C.2.1 dX12_bestOn_119 rfl (lv_at hl 2 rfl) ?_
          refine lv_iload C.1 C.2.1 dX12_bestOn_120 (lv_at hl 5 rfl) ?_
          refine lv_iconst (v := 0) C.1 C.2.1 dX12_bestOn_122 (by decide) ?_
          obtain ⟨x11, m12, r13, hf⟩ := bd2_s hf
          refine x_ci hW (x_runV C hW [.int a1, .int a4, .int 0] [.int a2, .int (a1 + 1), .ref (ad a0)] (ha0).1 (ha0).2.1 kX12.1 kvX12_worthOf q_1308 (tX12_worthOf l C.2.2.2.2.2.2.1 ha0 r13) rfl rfl ⟨by first | decide | (simp only [rmX12_bestOn, rmX12_worthOf]; omega), by first | decide | (simp only [rmX12_bestOn, rmX12_worthOf]; omega)⟩ rfl hl.1 rfl (Nat.le_of_ble_eq_true rfl) dX12_bestOn_123) (fun H locs hW => ?_)
          refine lv_iadd C.1 C.2.1 dX12_bestOn_126 ?_
          refine lv_iload_n C.1 C.2.1 dX12_bestOn_127 rfl (lv_at hl 4 rfl) ?_
          refine lv_iload C.1 C.2.1 dX12_bestOn_128 (lv_at hl 0 rfl) ?_
          refine lv_iadd C.1 C.2.1 dX12_bestOn_130 ?_
          obtain ⟨x14, m15, r16, hf⟩ := bd2_s hf
          refine x_cv hW (x_runV C hW [.int (a1 + 1), .int (a2 + x11), .int (a3 + x2)] [] (ha0).1 (ha0).2.1 kX12.1 kvX12_bestOn q_1332 (hrec _ _ _ _ _ _ ha0 r16) rfl rfl ⟨by first | decide | (simp only [rmX12_bestOn]; omega), by first | decide | (simp only [rmX12_bestOn]; omega)⟩ rfl hl.1 rfl (Nat.le_of_ble_eq_true rfl) dX12_bestOn_131) (fun H locs hW => ?_)
          exact wX12_bestOn_134 C hrec hk63 ha0 hW (lv_sub hl [1, 2, 3, 4, 5] rfl) hf
set_option maxRecDepth 100000 in
set_option maxHeartbeats 4000000 in
theorem wX12_bestOn_30 (C : Cx p s m meth c args cX12_bestOn 6 none RX12 D ca ad) {res : Unit × Mm} {d0 : Nat} {N : Nat} {rec : Nat → Int32 → Int32 → Int32 → Mm → Option (Unit × Mm)} (hrec : ∀ (a0 : Nat) (a1 : Int32) (a2 : Int32) (a3 : Int32) (mm : Mm) (res : Unit × Mm), (sX12 a0) → rec a0 a1 a2 a3 mm = some res → Met l yX12_bestOn (WS yX12_bestOn cX12_bestOn 6 none) (rmX12_bestOn d0) (va_Pc [.ref (ad a0), .int a1, .int a2, .int a3] (WB D ca ad mm)) (QV D ca ad res) 0 0 (AA ad)) : ∀ (n : Nat) {a0 : Nat} {a4 : Int32} {mm : Mm} {H : Heap} {locs : List Loc} {ls : Array Slot}, (sX12 a0) → Wd D ca ad s.heap mm H locs → lv_has ls 6 [(0, .ref (ad a0)), (4, .int a4)] → fX12_bestOn_30 N rec n a0 a4 mm = some res → W p l e (rmX12_bestOn (d0 + 1)) s m args below meth c H locs 0 0 (MQ below (QV D ca ad res) args s 0 0 (AA ad)) (F0 m 30 ls []) := by
  intro n
  induction n with
  | zero => intro a0 a4 mm H locs ls ha0 hW hl hf; cases hf
  | succ n ih =>
    intro a0 a4 mm H locs ls ha0 hW hl hf
    have hk30 : ∀ (a0 : Nat) (a4 : Int32) (mm : Mm) (H : Heap) (locs : List Loc) (ls : Array Slot), (sX12 a0) → Wd D ca ad s.heap mm H locs → lv_has ls 6 [(0, .ref (ad a0)), (4, .int a4)] → (fX12_bestOn_30 N rec n) a0 a4 mm = some res → W p l e (rmX12_bestOn (d0 + 1)) s m args below meth c H locs 0 0 (MQ below (QV D ca ad res) args s 0 0 (AA ad)) (F0 m 30 ls []) := fun a0 a4 mm H locs ls ha0 hW hl hf => ih ha0 hW hl hf
    unfold fX12_bestOn_30 at hf
    try dsimp only at hf
    refine lv_iload C.1 C.2.1 dX12_bestOn_30 (lv_at hl 1 rfl) ?_
    refine lv_aload_n C.1 C.2.1 dX12_bestOn_32 rfl (lv_at hl 0 rfl) ?_
    refine x_geti C hW (ha0).1 (ha0).2.1 (j := 10) rfl kX12 (by decide) rfl q_1026 dX12_bestOn_33 ?_
    refine lv_icmp_ge (tgt := 59) C.1 C.2.1 dX12_bestOn_36 (by decide) (fun c17 => ?_) (fun c17 => ?_)
    · have hf := if_t c17 hf
      cases hf
      exact x_vret C hW dX12_bestOn_59
    · have hf := if_f c17 hf
      refine lv_aload_n C.1 C.2.1 dX12_bestOn_39 rfl (lv_at hl 0 rfl) ?_
      refine x_getr C hW (ha0).1 (ha0).2.1 (j := 27) rfl kX12 (by decide) rfl q_1043 dX12_bestOn_40 ?_
      refine lv_iload C.1 C.2.1 dX12_bestOn_43 (lv_at hl 1 rfl) ?_
      refine lv_aload_n C.1 C.2.1 dX12_bestOn_45 rfl (lv_at hl 0 rfl) ?_
      refine x_getr C hW (ha0).1 (ha0).2.1 (j := 26) rfl kX12 (by decide) rfl q_1042 dX12_bestOn_46 ?_
      refine lv_iload C.1 C.2.1 dX12_bestOn_49 (lv_at hl 1 rfl) ?_
      obtain ⟨g18, hf⟩ := gd_s hf
      refine x_iald C hW ha0.2.2.2.2.2.2.2.2.2.2.2.2.2.2.1 g18 dX12_bestOn_51 ?_
      obtain ⟨g19, hf⟩ := gd_s hf
      refine x_iast C hW ha0.2.2.2.2.2.2.2.2.2.2.2.2.2.2.2.1 g19 dX12_bestOn_52 (fun H locs hW => ?_)
      obtain ⟨m20, em20⟩ : ∃ z, z = wr mm (fr a0 27) a4.toNatClampNeg (rd mm (fr a0 26) a4.toNatClampNeg) := ⟨_, rfl⟩
      have hf := nm_s hf em20
      rw [← em20] at hW
      refine lv_iinc (v := (a4 + 1)) (lv' := [(4, .int (a4 + 1)), (0, .ref (ad a0))]) C.1 C.2.1 dX12_bestOn_53 hl (k := 1) rfl rfl (by decide) rfl (fun ls hl => ?_)
      refine lv_goto (tgt := 30) C.1 C.2.1 dX12_bestOn_56 (by decide) ?_
      exact hk30 _ _ _ _ _ _ ha0 hW (lv_sub hl [1, 0] rfl) hf
set_option maxRecDepth 100000 in
set_option maxHeartbeats 4000000 in
theorem wX12_bestOn_0 (C : Cx p s m meth c args cX12_bestOn 6 none RX12 D ca ad) {res : Unit × Mm} {d0 : Nat} {N : Nat} {rec : Nat → Int32 → Int32 → Int32 → Mm → Option (Unit × Mm)} (hrec : ∀ (a0 : Nat) (a1 : Int32) (a2 : Int32) (a3 : Int32) (mm : Mm) (res : Unit × Mm), (sX12 a0) → rec a0 a1 a2 a3 mm = some res → Met l yX12_bestOn (WS yX12_bestOn cX12_bestOn 6 none) (rmX12_bestOn d0) (va_Pc [.ref (ad a0), .int a1, .int a2, .int a3] (WB D ca ad mm)) (QV D ca ad res) 0 0 (AA ad)) {a0 : Nat} {a1 : Int32} {a2 : Int32} {a3 : Int32} {mm : Mm} {H : Heap} {locs : List Loc} {ls : Array Slot} (ha0 : sX12 a0) (hW : Wd D ca ad s.heap mm H locs) (hl : lv_has ls 6 [(0, .ref (ad a0)), (1, .int a1), (2, .int a2), (3, .int a3)]) (hf : fX12_bestOn_0 N rec a0 a1 a2 a3 mm = some res) : W p l e (rmX12_bestOn (d0 + 1)) s m args below meth c H locs 0 0 (MQ below (QV D ca ad res) args s 0 0 (AA ad)) (F0 m 0 ls []) := by
  unfold fX12_bestOn_0 at hf
  refine lv_iload_n C.1 C.2.1 dX12_bestOn_0 rfl (lv_at hl 1 rfl) ?_
  refine lv_aload_n C.1 C.2.1 dX12_bestOn_1 rfl (lv_at hl 0 rfl) ?_
  refine x_geti C hW (ha0).1 (ha0).2.1 (j := 10) rfl kX12 (by decide) rfl q_1026 dX12_bestOn_2 ?_
  refine lv_icmp_ne (tgt := 60) C.1 C.2.1 dX12_bestOn_5 (by decide) (fun c21 => ?_) (fun c21 => ?_)
  · have hf := if_f c21 hf
    refine lv_iconst (v := 0) C.1 C.2.1 dX12_bestOn_60 (by decide) ?_
    refine lv_istore (lv' := [(4, .int 0), (0, .ref (ad a0)), (1, .int a1), (2, .int a2), (3, .int a3)]) C.1 C.2.1 dX12_bestOn_61 hl (by decide) rfl (fun ls hl => ?_)
    exact wX12_bestOn_63 C hrec N ha0 hW (lv_sub hl [1, 2, 3, 4, 0] rfl) hf
  · have hf := if_t c21 hf
    refine lv_aload_n C.1 C.2.1 dX12_bestOn_8 rfl (lv_at hl 0 rfl) ?_
    refine lv_iload_n C.1 C.2.1 dX12_bestOn_9 rfl (lv_at hl 2 rfl) ?_
    refine lv_iload_n C.1 C.2.1 dX12_bestOn_10 rfl (lv_at hl 3 rfl) ?_
    obtain ⟨x22, m23, r24, hf⟩ := bd2_s hf
    refine x_ci hW (x_runV C hW [.int a2, .int a3] [] (ha0).1 (ha0).2.1 kX12.1 kvX12_isAhead q_1336 (tX12_isAhead l C.2.2.2.2.2.2.1 ha0 r24) rfl rfl ⟨by first | decide | (simp only [rmX12_bestOn, rmX12_isAhead]; omega), by first | decide | (simp only [rmX12_bestOn, rmX12_isAhead]; omega)⟩ rfl hl.1 rfl (Nat.le_of_ble_eq_true rfl) dX12_bestOn_11) (fun H locs hW => ?_)
    refine lv_if_eq (tgt := 59) C.1 C.2.1 dX12_bestOn_14 (by decide) (fun c25 => ?_) (fun c25 => ?_)
    · have hf := if_t c25 hf
      cases hf
      exact x_vret C hW dX12_bestOn_59
    · have hf := if_f c25 hf
      refine lv_aload_n C.1 C.2.1 dX12_bestOn_17 rfl (lv_at hl 0 rfl) ?_
      refine lv_iload_n C.1 C.2.1 dX12_bestOn_18 rfl (lv_at hl 2 rfl) ?_
      refine x_put C hW (ha0).1 (ha0).2.1 (j := 24) (t1 := .int) rfl kX12 (by decide) rfl rfl q_1040 (by decide +kernel) rfl rfl dX12_bestOn_19 (fun H locs hW => ?_)
      obtain ⟨m26, em26⟩ : ∃ z, z = wr m23 a0 24 a2 := ⟨_, rfl⟩
      have hf := nm_s hf em26
      rw [← em26] at hW
      refine lv_aload_n C.1 C.2.1 dX12_bestOn_22 rfl (lv_at hl 0 rfl) ?_
      refine lv_iload_n C.1 C.2.1 dX12_bestOn_23 rfl (lv_at hl 3 rfl) ?_
      refine x_put C hW (ha0).1 (ha0).2.1 (j := 25) (t1 := .int) rfl kX12 (by decide) rfl rfl q_1041 (by decide +kernel) rfl rfl dX12_bestOn_24 (fun H locs hW => ?_)
      obtain ⟨m27, em27⟩ : ∃ z, z = wr m26 a0 25 a3 := ⟨_, rfl⟩
      have hf := nm_s hf em27
      rw [← em27] at hW
      refine lv_iconst (v := 0) C.1 C.2.1 dX12_bestOn_27 (by decide) ?_
      refine lv_istore (lv' := [(4, .int 0), (0, .ref (ad a0)), (1, .int a1), (2, .int a2), (3, .int a3)]) C.1 C.2.1 dX12_bestOn_28 hl (by decide) rfl (fun ls hl => ?_)
      exact wX12_bestOn_30 C hrec N ha0 hW (lv_sub hl [1, 0] rfl) hf
set_option maxRecDepth 100000 in
set_option maxHeartbeats 4000000 in
theorem tX12_bestOn (l : Launch) {D : va_G} {ca ad : Nat → Nat} (hi : Inj ad) {N : Nat} : ∀ {d : Nat} {a0 : Nat} {a1 : Int32} {a2 : Int32} {a3 : Int32} {mm : Mm} {res : Unit × Mm}, (sX12 a0) → fX12_bestOn N d a0 a1 a2 a3 mm = some res → Met l yX12_bestOn (WS yX12_bestOn cX12_bestOn 6 none) (rmX12_bestOn d) (va_Pc [.ref (ad a0), .int a1, .int a2, .int a3] (WB D ca ad mm)) (QV D ca ad res) 0 0 (AA ad) := by
  intro d
  induction d with
  | zero => intro a0 a1 a2 a3 mm res ha0 hf; cases hf
  | succ d ih =>
    intro a0 a1 a2 a3 mm res ha0 hf
    refine x_start hi (by decide) rfl (Nat.le_of_ble_eq_true rfl) (fun p e s m args below meth c ls C hW hl => ?_)
    exact wX12_bestOn_0 C (d0 := d) (fun a0 a1 a2 a3 mm res ha0 hf => by exact (ih ha0 hf)) ha0 hW (lv_sub hl [0, 1, 2, 3] rfl) hf
set_option maxRecDepth 100000 in
set_option maxHeartbeats 4000000 in
theorem wX12_setBest_0 (C : Cx p s m meth c args cX12_setBest 2 none RX12 D ca ad) {res : Unit × Mm} {N : Nat}  {a0 : Nat} {a1 : Int32} {mm : Mm} {H : Heap} {locs : List Loc} {ls : Array Slot} (ha0 : sX12 a0) (hW : Wd D ca ad s.heap mm H locs) (hl : lv_has ls 2 [(0, .ref (ad a0)), (1, .int a1)]) (hf : fX12_setBest N a0 a1 mm = some res) : W p l e (rmX12_setBest) s m args below meth c H locs 0 0 (MQ below (QV D ca ad res) args s 0 0 (AA ad)) (F0 m 0 ls []) := by
  unfold fX12_setBest at hf
  refine lv_aload_n C.1 C.2.1 dX12_setBest_0 rfl (lv_at hl 0 rfl) ?_
  refine lv_iload_n C.1 C.2.1 dX12_setBest_1 rfl (lv_at hl 1 rfl) ?_
  refine x_put C hW (ha0).1 (ha0).2.1 (j := 22) (t1 := .int) rfl kX12 (by decide) rfl rfl q_1038 (by decide +kernel) rfl rfl dX12_setBest_2 (fun H locs hW => ?_)
  obtain ⟨m1, em1⟩ : ∃ z, z = wr mm a0 22 a1 := ⟨_, rfl⟩
  have hf := nm_s hf em1
  rw [← em1] at hW
  refine lv_aload_n C.1 C.2.1 dX12_setBest_5 rfl (lv_at hl 0 rfl) ?_
  refine lv_iconst (v := (-1)) C.1 C.2.1 dX12_setBest_6 (by decide) ?_
  refine x_put C hW (ha0).1 (ha0).2.1 (j := 24) (t1 := .int) rfl kX12 (by decide) rfl rfl q_1040 (by decide +kernel) rfl rfl dX12_setBest_7 (fun H locs hW => ?_)
  obtain ⟨m2, em2⟩ : ∃ z, z = wr m1 a0 24 (-1) := ⟨_, rfl⟩
  have hf := nm_s hf em2
  rw [← em2] at hW
  refine lv_aload_n C.1 C.2.1 dX12_setBest_10 rfl (lv_at hl 0 rfl) ?_
  refine lv_iconst (v := 0) C.1 C.2.1 dX12_setBest_11 (by decide) ?_
  refine x_put C hW (ha0).1 (ha0).2.1 (j := 25) (t1 := .int) rfl kX12 (by decide) rfl rfl q_1041 (by decide +kernel) rfl rfl dX12_setBest_12 (fun H locs hW => ?_)
  obtain ⟨m3, em3⟩ : ∃ z, z = wr m2 a0 25 0 := ⟨_, rfl⟩
  have hf := nm_s hf em3
  rw [← em3] at hW
  refine lv_aload_n C.1 C.2.1 dX12_setBest_15 rfl (lv_at hl 0 rfl) ?_
  refine lv_iconst (v := 0) C.1 C.2.1 dX12_setBest_16 (by decide) ?_
  refine lv_iconst (v := 0) C.1 C.2.1 dX12_setBest_17 (by decide) ?_
  refine lv_iconst (v := 0) C.1 C.2.1 dX12_setBest_18 (by decide) ?_
  obtain ⟨x4, m5, r6, hf⟩ := bd2_s hf
  refine x_cv hW (x_runV C hW [.int 0, .int 0, .int 0] [] (ha0).1 (ha0).2.1 kX12.1 kvX12_bestOn q_1332 (tX12_bestOn l C.2.2.2.2.2.2.1 (d := 9) ha0 r6) rfl rfl ⟨by first | decide | (simp only [rmX12_bestOn, rmX12_setBest]; omega), by first | decide | (simp only [rmX12_bestOn, rmX12_setBest]; omega)⟩ rfl hl.1 rfl (Nat.le_of_ble_eq_true rfl) dX12_setBest_19) (fun H locs hW => ?_)
  cases hf
  exact x_vret C hW dX12_setBest_22
set_option maxRecDepth 100000 in
set_option maxHeartbeats 4000000 in
theorem tX12_setBest (l : Launch) {D : va_G} {ca ad : Nat → Nat} (hi : Inj ad) {N : Nat} {a0 : Nat} {a1 : Int32} {mm : Mm} {res : Unit × Mm} (ha0 : sX12 a0) (hf : fX12_setBest N a0 a1 mm = some res) : Met l yX12_setBest (WS yX12_setBest cX12_setBest 2 none) (rmX12_setBest) (va_Pc [.ref (ad a0), .int a1] (WB D ca ad mm)) (QV D ca ad res) 0 0 (AA ad) := by
  refine x_start hi (by decide) rfl (Nat.le_of_ble_eq_true rfl) (fun p e s m args below meth c ls C hW hl => ?_)
  exact wX12_setBest_0 C ha0 hW (lv_sub hl [0, 1] rfl) hf
set_option maxRecDepth 100000 in
set_option maxHeartbeats 4000000 in
theorem wX12_layBest_12 (C : Cx p s m meth c args cX12_layBest 3 none RX12 D ca ad) {res : Unit × Mm} {N : Nat}  : ∀ (n : Nat) {a0 : Nat} {a1 : Int32} {a2 : Int32} {mm : Mm} {H : Heap} {locs : List Loc} {ls : Array Slot}, (sX12 a0) → Wd D ca ad s.heap mm H locs → lv_has ls 3 [(0, .ref (ad a0)), (1, .int a1), (2, .int a2)] → fX12_layBest_12 N n a0 a1 a2 mm = some res → W p l e (rmX12_layBest) s m args below meth c H locs 0 0 (MQ below (QV D ca ad res) args s 0 0 (AA ad)) (F0 m 12 ls []) := by
  intro n
  induction n with
  | zero => intro a0 a1 a2 mm H locs ls ha0 hW hl hf; cases hf
  | succ n ih =>
    intro a0 a1 a2 mm H locs ls ha0 hW hl hf
    have hk12 : ∀ (a0 : Nat) (a1 : Int32) (a2 : Int32) (mm : Mm) (H : Heap) (locs : List Loc) (ls : Array Slot), (sX12 a0) → Wd D ca ad s.heap mm H locs → lv_has ls 3 [(0, .ref (ad a0)), (1, .int a1), (2, .int a2)] → (fX12_layBest_12 N n) a0 a1 a2 mm = some res → W p l e (rmX12_layBest) s m args below meth c H locs 0 0 (MQ below (QV D ca ad res) args s 0 0 (AA ad)) (F0 m 12 ls []) := fun a0 a1 a2 mm H locs ls ha0 hW hl hf => ih ha0 hW hl hf
    unfold fX12_layBest_12 at hf
    try dsimp only at hf
    refine lv_iload_n C.1 C.2.1 dX12_layBest_12 rfl (lv_at hl 2 rfl) ?_
    refine lv_aload_n C.1 C.2.1 dX12_layBest_13 rfl (lv_at hl 0 rfl) ?_
    refine x_geti C hW (ha0).1 (ha0).2.1 (j := 10) rfl kX12 (by decide) rfl q_1026 dX12_layBest_14 ?_
    refine lv_icmp_ge (tgt := 38) C.1 C.2.1 dX12_layBest_17 (by decide) (fun c1 => ?_) (fun c1 => ?_)
    · have hf := if_t c1 hf
      cases hf
      exact x_vret C hW dX12_layBest_38
    · have hf := if_f c1 hf
      refine lv_aload_n C.1 C.2.1 dX12_layBest_20 rfl (lv_at hl 0 rfl) ?_
      refine lv_iload_n C.1 C.2.1 dX12_layBest_21 rfl (lv_at hl 1 rfl) ?_
      refine lv_iload_n C.1 C.2.1 dX12_layBest_22 rfl (lv_at hl 2 rfl) ?_
      refine lv_aload_n C.1 C.2.1 dX12_layBest_23 rfl (lv_at hl 0 rfl) ?_
      refine x_getr C hW (ha0).1 (ha0).2.1 (j := 27) rfl kX12 (by decide) rfl q_1043 dX12_layBest_24 ?_
      refine lv_iload_n C.1 C.2.1 dX12_layBest_27 rfl (lv_at hl 2 rfl) ?_
      obtain ⟨g2, hf⟩ := gd_s hf
      refine x_iald C hW ha0.2.2.2.2.2.2.2.2.2.2.2.2.2.2.2.1 g2 dX12_layBest_28 ?_
      obtain ⟨x3, m4, r5, hf⟩ := bd2_s hf
      refine x_cv hW (x_runV C hW [.int a1, .int a2, .int (rd mm (fr a0 27) a2.toNatClampNeg)] [] (ha0).1 (ha0).2.1 kX12.1 kvX12_setRow q_1157 (tX12_setRow l C.2.2.2.2.2.2.1 ha0 r5) rfl rfl ⟨by decide, by decide⟩ rfl hl.1 rfl (Nat.le_of_ble_eq_true rfl) dX12_layBest_29) (fun H locs hW => ?_)
      refine lv_iinc (v := (a2 + 1)) (lv' := [(2, .int (a2 + 1)), (0, .ref (ad a0)), (1, .int a1)]) C.1 C.2.1 dX12_layBest_32 hl (k := 2) rfl rfl (by decide) rfl (fun ls hl => ?_)
      refine lv_goto (tgt := 12) C.1 C.2.1 dX12_layBest_35 (by decide) ?_
      exact hk12 _ _ _ _ _ _ _ ha0 hW (lv_sub hl [1, 2, 0] rfl) hf
set_option maxRecDepth 100000 in
set_option maxHeartbeats 4000000 in
theorem wX12_layBest_0 (C : Cx p s m meth c args cX12_layBest 3 none RX12 D ca ad) {res : Unit × Mm} {N : Nat}  {a0 : Nat} {a1 : Int32} {mm : Mm} {H : Heap} {locs : List Loc} {ls : Array Slot} (ha0 : sX12 a0) (hW : Wd D ca ad s.heap mm H locs) (hl : lv_has ls 3 [(0, .ref (ad a0)), (1, .int a1)]) (hf : fX12_layBest N a0 a1 mm = some res) : W p l e (rmX12_layBest) s m args below meth c H locs 0 0 (MQ below (QV D ca ad res) args s 0 0 (AA ad)) (F0 m 0 ls []) := by
  unfold fX12_layBest at hf
  refine lv_aload_n C.1 C.2.1 dX12_layBest_0 rfl (lv_at hl 0 rfl) ?_
  refine lv_iload_n C.1 C.2.1 dX12_layBest_1 rfl (lv_at hl 1 rfl) ?_
  refine lv_aload_n C.1 C.2.1 dX12_layBest_2 rfl (lv_at hl 0 rfl) ?_
  refine x_geti C hW (ha0).1 (ha0).2.1 (j := 10) rfl kX12 (by decide) rfl q_1026 dX12_layBest_3 ?_
  obtain ⟨x6, m7, r8, hf⟩ := bd2_s hf
  refine x_ci hW (x_runV C hW [.int a1, .int (rd mm a0 10)] [] (ha0).1 (ha0).2.1 kX12.1 kvX12_row q_1348 (tX12_row l C.2.2.2.2.2.2.1 ha0 r8) rfl rfl ⟨by decide, by decide⟩ rfl hl.1 rfl (Nat.le_of_ble_eq_true rfl) dX12_layBest_6) (fun H locs hW => ?_)
  refine lv_pop C.1 C.2.1 dX12_layBest_9 rfl ?_
  refine lv_iconst (v := 0) C.1 C.2.1 dX12_layBest_10 (by decide) ?_
  refine lv_istore_n (lv' := [(2, .int 0), (0, .ref (ad a0)), (1, .int a1)]) C.1 C.2.1 dX12_layBest_11 rfl hl (by decide) rfl (fun ls hl => ?_)
  exact wX12_layBest_12 C  N ha0 hW (lv_sub hl [1, 2, 0] rfl) hf
set_option maxRecDepth 100000 in
set_option maxHeartbeats 4000000 in
theorem tX12_layBest (l : Launch) {D : va_G} {ca ad : Nat → Nat} (hi : Inj ad) {N : Nat} {a0 : Nat} {a1 : Int32} {mm : Mm} {res : Unit × Mm} (ha0 : sX12 a0) (hf : fX12_layBest N a0 a1 mm = some res) : Met l yX12_layBest (WS yX12_layBest cX12_layBest 3 none) (rmX12_layBest) (va_Pc [.ref (ad a0), .int a1] (WB D ca ad mm)) (QV D ca ad res) 0 0 (AA ad) := by
  refine x_start hi (by decide) rfl (Nat.le_of_ble_eq_true rfl) (fun p e s m args below meth c ls C hW hl => ?_)
  exact wX12_layBest_0 C ha0 hW (lv_sub hl [0, 1] rfl) hf
set_option maxRecDepth 100000 in
set_option maxHeartbeats 4000000 in
theorem wX12_best_0 (C : Cx p s m meth c args cX12_best 4 (some .int) RX12 D ca ad) {res : Int32 × Mm} {N : Nat}  {a0 : Nat} {a1 : Int32} {a2 : Int32} {mm : Mm} {H : Heap} {locs : List Loc} {ls : Array Slot} (ha0 : sX12 a0) (hW : Wd D ca ad s.heap mm H locs) (hl : lv_has ls 4 [(0, .ref (ad a0)), (1, .int a1), (2, .int a2)]) (hf : fX12_best N a0 a1 a2 mm = some res) : W p l e (rmX12_best) s m args below meth c H locs 0 0 (MQ below (QI D ca ad res) args s 0 0 (AA ad)) (F0 m 0 ls []) := by
  unfold fX12_best at hf
  refine lv_iload_n C.1 C.2.1 dX12_best_0 rfl (lv_at hl 1 rfl) ?_
  obtain ⟨x1, m2, r3, hf⟩ := bd2_s hf
  refine x_ci hW (x_runS C hW [.int a1] [] kvX12_isRow q_1147 (tX12_isRow l C.2.2.2.2.2.2.1  r3) rfl rfl ⟨by decide, by decide⟩ rfl hl.1 rfl (Nat.le_of_ble_eq_true rfl) dX12_best_1) (fun H locs hW => ?_)
  refine lv_if_eq (tgt := 14) C.1 C.2.1 dX12_best_4 (by decide) (fun c4 => ?_) (fun c4 => ?_)
  · have hf := if_t c4 hf
    refine lv_iconst (v := (-1)) C.1 C.2.1 dX12_best_14 (by decide) ?_
    cases hf
    exact x_iret C hW dX12_best_15
  · have hf := if_f c4 hf
    refine lv_iload_n C.1 C.2.1 dX12_best_7 rfl (lv_at hl 2 rfl) ?_
    obtain ⟨x5, m6, r7, hf⟩ := bd2_s hf
    refine x_ci hW (x_runS C hW [.int a2] [] kvX12_isRow q_1147 (tX12_isRow l C.2.2.2.2.2.2.1  r7) rfl rfl ⟨by decide, by decide⟩ rfl hl.1 rfl (Nat.le_of_ble_eq_true rfl) dX12_best_8) (fun H locs hW => ?_)
    refine lv_if_ne (tgt := 16) C.1 C.2.1 dX12_best_11 (by decide) (fun c8 => ?_) (fun c8 => ?_)
    · have hf := if_f c8 hf
      refine lv_aload_n C.1 C.2.1 dX12_best_16 rfl (lv_at hl 0 rfl) ?_
      refine lv_iload_n C.1 C.2.1 dX12_best_17 rfl (lv_at hl 1 rfl) ?_
      refine lv_iconst (v := 1) C.1 C.2.1 dX12_best_18 (by decide) ?_
      obtain ⟨x9, m10, r11, hf⟩ := bd2_s hf
      refine x_ci hW (x_runV C hW [.int a1, .int 1] [] (ha0).1 (ha0).2.1 kX12.1 kvX12_askedLaying q_1320 (tX12_askedLaying l C.2.2.2.2.2.2.1 ha0 r11) rfl rfl ⟨by decide, by decide⟩ rfl hl.1 rfl (Nat.le_of_ble_eq_true rfl) dX12_best_19) (fun H locs hW => ?_)
      refine lv_istore_n (lv' := [(3, .int x9), (0, .ref (ad a0)), (1, .int a1), (2, .int a2)]) C.1 C.2.1 dX12_best_22 rfl hl (by decide) rfl (fun ls hl => ?_)
      refine lv_iload_n C.1 C.2.1 dX12_best_23 rfl (lv_at hl 0 rfl) ?_
      refine lv_if_ge (tgt := 29) C.1 C.2.1 dX12_best_24 (by decide) (fun c12 => ?_) (fun c12 => ?_)
      · have hf := if_t c12 hf
        refine lv_aload_n C.1 C.2.1 dX12_best_29 rfl (lv_at hl 1 rfl) ?_
        refine lv_iload_n C.1 C.2.1 dX12_best_30 rfl (lv_at hl 2 rfl) ?_
        refine lv_iconst (v := 1) C.1 C.2.1 dX12_best_31 (by decide) ?_
        obtain ⟨x13, m14, r15, hf⟩ := bd2_s hf
        refine x_cv hW (x_runV C hW [.int a1, .int 1] [] (ha0).1 (ha0).2.1 kX12.1 kvX12_takes q_1288 (tX12_takes l C.2.2.2.2.2.2.1 ha0 r15) rfl rfl ⟨by decide, by decide⟩ rfl hl.1 rfl (Nat.le_of_ble_eq_true rfl) dX12_best_32) (fun H locs hW => ?_)
        refine lv_aload_n C.1 C.2.1 dX12_best_35 rfl (lv_at hl 1 rfl) ?_
        refine lv_aload_n C.1 C.2.1 dX12_best_36 rfl (lv_at hl 1 rfl) ?_
        refine x_getr C hW (ha0).1 (ha0).2.1 (j := 12) rfl kX12 (by decide) rfl q_1028 dX12_best_37 ?_
        refine lv_iconst (v := 0) C.1 C.2.1 dX12_best_40 (by decide) ?_
        obtain ⟨g16, hf⟩ := gd_s hf
        refine x_iald C hW ha0.2.2.2.2.2.2.2.2.2.1 g16 dX12_best_41 ?_
        obtain ⟨x17, m18, r19, hf⟩ := bd2_s hf
        refine x_cv hW (x_runV C hW [.int (rd m14 (fr a0 12) ((0 : Int32).toNatClampNeg))] [] (ha0).1 (ha0).2.1 kX12.1 kvX12_setBest q_1328 (tX12_setBest l C.2.2.2.2.2.2.1 ha0 r19) rfl rfl ⟨by decide, by decide⟩ rfl hl.1 rfl (Nat.le_of_ble_eq_true rfl) dX12_best_42) (fun H locs hW => ?_)
        refine lv_aload_n C.1 C.2.1 dX12_best_45 rfl (lv_at hl 1 rfl) ?_
        refine lv_iload_n C.1 C.2.1 dX12_best_46 rfl (lv_at hl 3 rfl) ?_
        obtain ⟨x20, m21, r22, hf⟩ := bd2_s hf
        refine x_cv hW (x_runV C hW [.int a2] [] (ha0).1 (ha0).2.1 kX12.1 kvX12_layBest q_1344 (tX12_layBest l C.2.2.2.2.2.2.1 ha0 r22) rfl rfl ⟨by decide, by decide⟩ rfl hl.1 rfl (Nat.le_of_ble_eq_true rfl) dX12_best_47) (fun H locs hW => ?_)
        refine lv_aload_n C.1 C.2.1 dX12_best_50 rfl (lv_at hl 1 rfl) ?_
        refine lv_aload_n C.1 C.2.1 dX12_best_51 rfl (lv_at hl 1 rfl) ?_
        refine x_geti C hW (ha0).1 (ha0).2.1 (j := 25) rfl kX12 (by decide) rfl q_1041 dX12_best_52 ?_
        refine lv_aload_n C.1 C.2.1 dX12_best_55 rfl (lv_at hl 1 rfl) ?_
        refine x_geti C hW (ha0).1 (ha0).2.1 (j := 24) rfl kX12 (by decide) rfl q_1040 dX12_best_56 ?_
        obtain ⟨x23, m24, r25, hf⟩ := bd2_s hf
        refine x_ci hW (x_runV C hW [.int (rd m21 a0 25), .int (rd m21 a0 24)] [] (ha0).1 (ha0).2.1 kX12.1 kvX12_ask q_1173 (tX12_ask l C.2.2.2.2.2.2.1 ha0 r25) rfl rfl ⟨by decide, by decide⟩ rfl hl.1 rfl (Nat.le_of_ble_eq_true rfl) dX12_best_59) (fun H locs hW => ?_)
        cases hf
        exact x_iret C hW dX12_best_62
      · have hf := if_f c12 hf
        refine lv_iload_n C.1 C.2.1 dX12_best_27 rfl (lv_at hl 0 rfl) ?_
        cases hf
        exact x_iret C hW dX12_best_28
    · have hf := if_t c8 hf
      refine lv_iconst (v := (-1)) C.1 C.2.1 dX12_best_14 (by decide) ?_
      cases hf
      exact x_iret C hW dX12_best_15
set_option maxRecDepth 100000 in
set_option maxHeartbeats 4000000 in
theorem tX12_best (l : Launch) {D : va_G} {ca ad : Nat → Nat} (hi : Inj ad) {N : Nat} {a0 : Nat} {a1 : Int32} {a2 : Int32} {mm : Mm} {res : Int32 × Mm} (ha0 : sX12 a0) (hf : fX12_best N a0 a1 a2 mm = some res) : Met l yX12_best (WS yX12_best cX12_best 4 (some .int)) (rmX12_best) (va_Pc [.ref (ad a0), .int a1, .int a2] (WB D ca ad mm)) (QI D ca ad res) 0 0 (AA ad) := by
  refine x_start hi (by decide) rfl (Nat.le_of_ble_eq_true rfl) (fun p e s m args below meth c ls C hW hl => ?_)
  exact wX12_best_0 C ha0 hW (lv_sub hl [0, 1, 2] rfl) hf
end W_model23
