theorem dX8_isEarlier_0 : decode cX8_isEarlier 0 = .ok (.iconst 0, 1) := by decide +kernel
theorem dX8_isEarlier_1 : decode cX8_isEarlier 1 = .ok (.istore_n 1, 1) := by decide +kernel
theorem dX8_isEarlier_2 : decode cX8_isEarlier 2 = .ok (.iload_n 1, 1) := by decide +kernel
theorem dX8_isEarlier_3 : decode cX8_isEarlier 3 = .ok (.bipush 6, 2) := by decide +kernel
theorem dX8_isEarlier_5 : decode cX8_isEarlier 5 = .ok (.if_icmp .ge 45, 3) := by decide +kernel
theorem dX8_isEarlier_8 : decode cX8_isEarlier 8 = .ok (.aload_n 0, 1) := by decide +kernel
theorem dX8_isEarlier_9 : decode cX8_isEarlier 9 = .ok (.getfield 21, 3) := by decide +kernel
theorem dX8_isEarlier_12 : decode cX8_isEarlier 12 = .ok (.iload_n 1, 1) := by decide +kernel
theorem dX8_isEarlier_13 : decode cX8_isEarlier 13 = .ok (.iaload, 1) := by decide +kernel
theorem dX8_isEarlier_14 : decode cX8_isEarlier 14 = .ok (.aload_n 0, 1) := by decide +kernel
theorem dX8_isEarlier_15 : decode cX8_isEarlier 15 = .ok (.getfield 9, 3) := by decide +kernel
theorem dX8_isEarlier_18 : decode cX8_isEarlier 18 = .ok (.iload_n 1, 1) := by decide +kernel
theorem dX8_isEarlier_19 : decode cX8_isEarlier 19 = .ok (.iaload, 1) := by decide +kernel
theorem dX8_isEarlier_20 : decode cX8_isEarlier 20 = .ok (.if_icmp .eq 24, 3) := by decide +kernel
theorem dX8_isEarlier_23 : decode cX8_isEarlier 23 = .ok (.aload_n 0, 1) := by decide +kernel
theorem dX8_isEarlier_24 : decode cX8_isEarlier 24 = .ok (.getfield 21, 3) := by decide +kernel
theorem dX8_isEarlier_27 : decode cX8_isEarlier 27 = .ok (.iload_n 1, 1) := by decide +kernel
theorem dX8_isEarlier_28 : decode cX8_isEarlier 28 = .ok (.iaload, 1) := by decide +kernel
theorem dX8_isEarlier_29 : decode cX8_isEarlier 29 = .ok (.aload_n 0, 1) := by decide +kernel
theorem dX8_isEarlier_30 : decode cX8_isEarlier 30 = .ok (.getfield 9, 3) := by decide +kernel
theorem dX8_isEarlier_33 : decode cX8_isEarlier 33 = .ok (.iload_n 1, 1) := by decide +kernel
theorem dX8_isEarlier_34 : decode cX8_isEarlier 34 = .ok (.iaload, 1) := by decide +kernel
theorem dX8_isEarlier_35 : decode cX8_isEarlier 35 = .ok (.if_icmp .ge 7, 3) := by decide +kernel
theorem dX8_isEarlier_38 : decode cX8_isEarlier 38 = .ok (.iconst 1, 1) := by decide +kernel
theorem dX8_isEarlier_39 : decode cX8_isEarlier 39 = .ok (.goto 4, 3) := by decide +kernel
theorem dX8_isEarlier_42 : decode cX8_isEarlier 42 = .ok (.iconst 0, 1) := by decide +kernel
theorem dX8_isEarlier_43 : decode cX8_isEarlier 43 = .ok (.ireturn, 1) := by decide +kernel
theorem dX8_isEarlier_44 : decode cX8_isEarlier 44 = .ok (.iinc 1 1, 3) := by decide +kernel
theorem dX8_isEarlier_47 : decode cX8_isEarlier 47 = .ok (.goto (-45), 3) := by decide +kernel
theorem dX8_isEarlier_50 : decode cX8_isEarlier 50 = .ok (.iconst 0, 1) := by decide +kernel
theorem dX8_isEarlier_51 : decode cX8_isEarlier 51 = .ok (.ireturn, 1) := by decide +kernel
theorem dX8_close_0 : decode cX8_close 0 = .ok (.iload_n 1, 1) := by decide +kernel
theorem dX8_close_1 : decode cX8_close 1 = .ok (.ifCond .lt 29, 3) := by decide +kernel
theorem dX8_close_4 : decode cX8_close 4 = .ok (.iload_n 1, 1) := by decide +kernel
theorem dX8_close_5 : decode cX8_close 5 = .ok (.aload_n 0, 1) := by decide +kernel
theorem dX8_close_6 : decode cX8_close 6 = .ok (.getfield 15, 3) := by decide +kernel
theorem dX8_close_9 : decode cX8_close 9 = .ok (.arraylength, 1) := by decide +kernel
theorem dX8_close_10 : decode cX8_close 10 = .ok (.if_icmp .ge 20, 3) := by decide +kernel
theorem dX8_close_13 : decode cX8_close 13 = .ok (.iload_n 2, 1) := by decide +kernel
theorem dX8_close_14 : decode cX8_close 14 = .ok (.aload_n 0, 1) := by decide +kernel
theorem dX8_close_15 : decode cX8_close 15 = .ok (.getfield 15, 3) := by decide +kernel
theorem dX8_close_18 : decode cX8_close 18 = .ok (.iload_n 1, 1) := by decide +kernel
theorem dX8_close_19 : decode cX8_close 19 = .ok (.iaload, 1) := by decide +kernel
theorem dX8_close_20 : decode cX8_close 20 = .ok (.if_icmp .le 10, 3) := by decide +kernel
theorem dX8_close_23 : decode cX8_close 23 = .ok (.aload_n 0, 1) := by decide +kernel
theorem dX8_close_24 : decode cX8_close 24 = .ok (.getfield 15, 3) := by decide +kernel
theorem dX8_close_27 : decode cX8_close 27 = .ok (.iload_n 1, 1) := by decide +kernel
theorem dX8_close_28 : decode cX8_close 28 = .ok (.iload_n 2, 1) := by decide +kernel
theorem dX8_close_29 : decode cX8_close 29 = .ok (.iastore, 1) := by decide +kernel
theorem dX8_close_30 : decode cX8_close 30 = .ok (.iload_n 2, 1) := by decide +kernel
theorem dX8_close_31 : decode cX8_close 31 = .ok (.aload_n 0, 1) := by decide +kernel
theorem dX8_close_32 : decode cX8_close 32 = .ok (.getfield 37, 3) := by decide +kernel
theorem dX8_close_35 : decode cX8_close 35 = .ok (.if_icmp .gt 34, 3) := by decide +kernel
theorem dX8_close_38 : decode cX8_close 38 = .ok (.iload_n 2, 1) := by decide +kernel
theorem dX8_close_39 : decode cX8_close 39 = .ok (.aload_n 0, 1) := by decide +kernel
theorem dX8_close_40 : decode cX8_close 40 = .ok (.getfield 37, 3) := by decide +kernel
theorem dX8_close_43 : decode cX8_close 43 = .ok (.if_icmp .ne 51, 3) := by decide +kernel
theorem dX8_close_46 : decode cX8_close 46 = .ok (.iload_n 1, 1) := by decide +kernel
theorem dX8_close_47 : decode cX8_close 47 = .ok (.aload_n 0, 1) := by decide +kernel
theorem dX8_close_48 : decode cX8_close 48 = .ok (.getfield 40, 3) := by decide +kernel
theorem dX8_close_51 : decode cX8_close 51 = .ok (.if_icmp .lt 18, 3) := by decide +kernel
theorem dX8_close_54 : decode cX8_close 54 = .ok (.iload_n 1, 1) := by decide +kernel
theorem dX8_close_55 : decode cX8_close 55 = .ok (.aload_n 0, 1) := by decide +kernel
theorem dX8_close_56 : decode cX8_close 56 = .ok (.getfield 40, 3) := by decide +kernel
theorem dX8_close_59 : decode cX8_close 59 = .ok (.if_icmp .ne 35, 3) := by decide +kernel
theorem dX8_close_62 : decode cX8_close 62 = .ok (.aload_n 0, 1) := by decide +kernel
theorem dX8_close_63 : decode cX8_close 63 = .ok (.invokevirtual 75, 3) := by decide +kernel
theorem dX8_close_66 : decode cX8_close 66 = .ok (.ifCond .eq 28, 3) := by decide +kernel
theorem dX8_close_69 : decode cX8_close 69 = .ok (.aload_n 0, 1) := by decide +kernel
theorem dX8_close_70 : decode cX8_close 70 = .ok (.iload_n 2, 1) := by decide +kernel
theorem dX8_close_71 : decode cX8_close 71 = .ok (.putfield 37, 3) := by decide +kernel
theorem dX8_close_74 : decode cX8_close 74 = .ok (.aload_n 0, 1) := by decide +kernel
theorem dX8_close_75 : decode cX8_close 75 = .ok (.iload_n 1, 1) := by decide +kernel
theorem dX8_close_76 : decode cX8_close 76 = .ok (.putfield 40, 3) := by decide +kernel
theorem dX8_close_79 : decode cX8_close 79 = .ok (.aload_n 0, 1) := by decide +kernel
theorem dX8_close_80 : decode cX8_close 80 = .ok (.getfield 21, 3) := by decide +kernel
theorem dX8_close_83 : decode cX8_close 83 = .ok (.iconst 0, 1) := by decide +kernel
theorem dX8_close_84 : decode cX8_close 84 = .ok (.aload_n 0, 1) := by decide +kernel
theorem dX8_close_85 : decode cX8_close 85 = .ok (.getfield 9, 3) := by decide +kernel
theorem dX8_close_88 : decode cX8_close 88 = .ok (.iconst 0, 1) := by decide +kernel
theorem dX8_close_89 : decode cX8_close 89 = .ok (.bipush 6, 2) := by decide +kernel
theorem dX8_close_91 : decode cX8_close 91 = .ok (.invokestatic 79, 3) := by decide +kernel
theorem dX8_close_94 : decode cX8_close 94 = .ok (.return_, 1) := by decide +kernel
theorem dX8_branch_0 : decode cX8_branch 0 = .ok (.aload_n 1, 1) := by decide +kernel
theorem dX8_branch_1 : decode cX8_branch 1 = .ok (.iload_n 3, 1) := by decide +kernel
theorem dX8_branch_2 : decode cX8_branch 2 = .ok (.invokevirtual 56, 3) := by decide +kernel
theorem dX8_branch_5 : decode cX8_branch 5 = .ok (.astore 6, 2) := by decide +kernel
theorem dX8_branch_7 : decode cX8_branch 7 = .ok (.aload 6, 2) := by decide +kernel
theorem dX8_branch_9 : decode cX8_branch 9 = .ok (.ifnull 15, 3) := by decide +kernel
theorem dX8_branch_12 : decode cX8_branch 12 = .ok (.iload_n 3, 1) := by decide +kernel
theorem dX8_branch_13 : decode cX8_branch 13 = .ok (.bipush 6, 2) := by decide +kernel
theorem dX8_branch_15 : decode cX8_branch 15 = .ok (.if_icmp .ge 9, 3) := by decide +kernel
theorem dX8_branch_18 : decode cX8_branch 18 = .ok (.iload_n 3, 1) := by decide +kernel
theorem dX8_branch_19 : decode cX8_branch 19 = .ok (.aload_n 2, 1) := by decide +kernel
theorem dX8_branch_20 : decode cX8_branch 20 = .ok (.arraylength, 1) := by decide +kernel
theorem dX8_branch_21 : decode cX8_branch 21 = .ok (.if_icmp .lt 12, 3) := by decide +kernel
theorem dX8_branch_24 : decode cX8_branch 24 = .ok (.aload_n 0, 1) := by decide +kernel
theorem dX8_branch_25 : decode cX8_branch 25 = .ok (.iload 4, 2) := by decide +kernel
theorem dX8_branch_27 : decode cX8_branch 27 = .ok (.iload 5, 2) := by decide +kernel
theorem dX8_branch_29 : decode cX8_branch 29 = .ok (.invokevirtual 62, 3) := by decide +kernel
theorem dX8_branch_32 : decode cX8_branch 32 = .ok (.return_, 1) := by decide +kernel
theorem dX8_branch_33 : decode cX8_branch 33 = .ok (.iconst 0, 1) := by decide +kernel
theorem dX8_branch_34 : decode cX8_branch 34 = .ok (.istore 7, 2) := by decide +kernel
theorem dX8_branch_36 : decode cX8_branch 36 = .ok (.iload 7, 2) := by decide +kernel
theorem dX8_branch_38 : decode cX8_branch 38 = .ok (.iconst 3, 1) := by decide +kernel
theorem dX8_branch_39 : decode cX8_branch 39 = .ok (.if_icmp .ge 95, 3) := by decide +kernel
theorem dX8_branch_42 : decode cX8_branch 42 = .ok (.aload_n 1, 1) := by decide +kernel
theorem dX8_branch_43 : decode cX8_branch 43 = .ok (.iload_n 3, 1) := by decide +kernel
theorem dX8_branch_44 : decode cX8_branch 44 = .ok (.iconst 0, 1) := by decide +kernel
theorem dX8_branch_45 : decode cX8_branch 45 = .ok (.iload 7, 2) := by decide +kernel
theorem dX8_branch_47 : decode cX8_branch 47 = .ok (.aload_n 2, 1) := by decide +kernel
theorem dX8_branch_48 : decode cX8_branch 48 = .ok (.iload_n 3, 1) := by decide +kernel
theorem dX8_branch_49 : decode cX8_branch 49 = .ok (.iaload, 1) := by decide +kernel
theorem dX8_branch_50 : decode cX8_branch 50 = .ok (.aload_n 0, 1) := by decide +kernel
theorem dX8_branch_51 : decode cX8_branch 51 = .ok (.getfield 24, 3) := by decide +kernel
theorem dX8_branch_54 : decode cX8_branch 54 = .ok (.aload_n 0, 1) := by decide +kernel
theorem dX8_branch_55 : decode cX8_branch 55 = .ok (.getfield 18, 3) := by decide +kernel
theorem dX8_branch_58 : decode cX8_branch 58 = .ok (.invokevirtual 66, 3) := by decide +kernel
theorem dX8_branch_61 : decode cX8_branch 61 = .ok (.istore 8, 2) := by decide +kernel
theorem dX8_branch_63 : decode cX8_branch 63 = .ok (.iload 8, 2) := by decide +kernel
theorem dX8_branch_65 : decode cX8_branch 65 = .ok (.ifCond .lt 63, 3) := by decide +kernel
theorem dX8_branch_68 : decode cX8_branch 68 = .ok (.iload 8, 2) := by decide +kernel
theorem dX8_branch_70 : decode cX8_branch 70 = .ok (.bipush 40, 2) := by decide +kernel
theorem dX8_branch_72 : decode cX8_branch 72 = .ok (.if_icmp .gt 56, 3) := by decide +kernel
theorem dX8_branch_75 : decode cX8_branch 75 = .ok (.iload 4, 2) := by decide +kernel
theorem dX8_branch_77 : decode cX8_branch 77 = .ok (.iload 8, 2) := by decide +kernel
theorem dX8_branch_79 : decode cX8_branch 79 = .ok (.iadd, 1) := by decide +kernel
theorem dX8_branch_80 : decode cX8_branch 80 = .ok (.aload_n 0, 1) := by decide +kernel
theorem dX8_branch_81 : decode cX8_branch 81 = .ok (.getfield 34, 3) := by decide +kernel
theorem dX8_branch_84 : decode cX8_branch 84 = .ok (.if_icmp .gt 44, 3) := by decide +kernel
theorem dX8_branch_87 : decode cX8_branch 87 = .ok (.aload_n 0, 1) := by decide +kernel
theorem dX8_branch_88 : decode cX8_branch 88 = .ok (.getfield 18, 3) := by decide +kernel
theorem dX8_branch_91 : decode cX8_branch 91 = .ok (.iload_n 3, 1) := by decide +kernel
theorem dX8_branch_92 : decode cX8_branch 92 = .ok (.iload 7, 2) := by decide +kernel
theorem dX8_branch_94 : decode cX8_branch 94 = .ok (.iastore, 1) := by decide +kernel
theorem dX8_branch_95 : decode cX8_branch 95 = .ok (.aload_n 0, 1) := by decide +kernel
theorem dX8_branch_96 : decode cX8_branch 96 = .ok (.getfield 21, 3) := by decide +kernel
theorem dX8_branch_99 : decode cX8_branch 99 = .ok (.iload_n 3, 1) := by decide +kernel
theorem dX8_branch_100 : decode cX8_branch 100 = .ok (.iload 8, 2) := by decide +kernel
theorem dX8_branch_102 : decode cX8_branch 102 = .ok (.iastore, 1) := by decide +kernel
theorem dX8_branch_103 : decode cX8_branch 103 = .ok (.aload_n 0, 1) := by decide +kernel
theorem dX8_branch_104 : decode cX8_branch 104 = .ok (.aload_n 1, 1) := by decide +kernel
theorem dX8_branch_105 : decode cX8_branch 105 = .ok (.aload_n 2, 1) := by decide +kernel
theorem dX8_branch_106 : decode cX8_branch 106 = .ok (.iload_n 3, 1) := by decide +kernel
theorem dX8_branch_107 : decode cX8_branch 107 = .ok (.iconst 1, 1) := by decide +kernel
theorem dX8_branch_108 : decode cX8_branch 108 = .ok (.iadd, 1) := by decide +kernel
theorem dX8_branch_109 : decode cX8_branch 109 = .ok (.iload 4, 2) := by decide +kernel
theorem dX8_branch_111 : decode cX8_branch 111 = .ok (.iload 8, 2) := by decide +kernel
theorem dX8_branch_113 : decode cX8_branch 113 = .ok (.iadd, 1) := by decide +kernel
theorem dX8_branch_114 : decode cX8_branch 114 = .ok (.iload 5, 2) := by decide +kernel
theorem dX8_branch_116 : decode cX8_branch 116 = .ok (.aload 6, 2) := by decide +kernel
theorem dX8_branch_118 : decode cX8_branch 118 = .ok (.iconst 0, 1) := by decide +kernel
theorem dX8_branch_119 : decode cX8_branch 119 = .ok (.iload 7, 2) := by decide +kernel
theorem dX8_branch_121 : decode cX8_branch 121 = .ok (.invokevirtual 70, 3) := by decide +kernel
theorem dX8_branch_124 : decode cX8_branch 124 = .ok (.iadd, 1) := by decide +kernel
theorem dX8_branch_125 : decode cX8_branch 125 = .ok (.invokestatic 49, 3) := by decide +kernel
theorem dX8_branch_128 : decode cX8_branch 128 = .ok (.iinc 7 1, 3) := by decide +kernel
theorem dX8_branch_131 : decode cX8_branch 131 = .ok (.goto (-95), 3) := by decide +kernel
theorem dX8_branch_134 : decode cX8_branch 134 = .ok (.return_, 1) := by decide +kernel
theorem dX8_run_0 : decode cX8_run 0 = .ok (.aload_n 0, 1) := by decide +kernel
theorem dX8_run_1 : decode cX8_run 1 = .ok (.iload_n 2, 1) := by decide +kernel
theorem dX8_run_2 : decode cX8_run 2 = .ok (.putfield 24, 3) := by decide +kernel
theorem dX8_run_5 : decode cX8_run 5 = .ok (.aload_n 0, 1) := by decide +kernel
theorem dX8_run_6 : decode cX8_run 6 = .ok (.iload 4, 2) := by decide +kernel
theorem dX8_run_8 : decode cX8_run 8 = .ok (.sipush 240, 3) := by decide +kernel
theorem dX8_run_11 : decode cX8_run 11 = .ok (.invokestatic 28, 3) := by decide +kernel
theorem dX8_run_14 : decode cX8_run 14 = .ok (.putfield 34, 3) := by decide +kernel
theorem dX8_run_17 : decode cX8_run 17 = .ok (.aload_n 0, 1) := by decide +kernel
theorem dX8_run_18 : decode cX8_run 18 = .ok (.iconst (-1), 1) := by decide +kernel
theorem dX8_run_19 : decode cX8_run 19 = .ok (.putfield 37, 3) := by decide +kernel
theorem dX8_run_22 : decode cX8_run 22 = .ok (.aload_n 0, 1) := by decide +kernel
theorem dX8_run_23 : decode cX8_run 23 = .ok (.iconst 0, 1) := by decide +kernel
theorem dX8_run_24 : decode cX8_run 24 = .ok (.putfield 40, 3) := by decide +kernel
theorem dX8_run_27 : decode cX8_run 27 = .ok (.aload_n 0, 1) := by decide +kernel
theorem dX8_run_28 : decode cX8_run 28 = .ok (.getfield 15, 3) := by decide +kernel
theorem dX8_run_31 : decode cX8_run 31 = .ok (.iconst (-1), 1) := by decide +kernel
theorem dX8_run_32 : decode cX8_run 32 = .ok (.invokestatic 43, 3) := by decide +kernel
theorem dX8_run_35 : decode cX8_run 35 = .ok (.aload_n 0, 1) := by decide +kernel
theorem dX8_run_36 : decode cX8_run 36 = .ok (.getfield 9, 3) := by decide +kernel
theorem dX8_run_39 : decode cX8_run 39 = .ok (.iconst 0, 1) := by decide +kernel
theorem dX8_run_40 : decode cX8_run 40 = .ok (.invokestatic 43, 3) := by decide +kernel
theorem dX8_run_43 : decode cX8_run 43 = .ok (.aload_n 0, 1) := by decide +kernel
theorem dX8_run_44 : decode cX8_run 44 = .ok (.getfield 21, 3) := by decide +kernel
theorem dX8_run_47 : decode cX8_run 47 = .ok (.iconst 0, 1) := by decide +kernel
theorem dX8_run_48 : decode cX8_run 48 = .ok (.invokestatic 43, 3) := by decide +kernel
theorem dX8_run_51 : decode cX8_run 51 = .ok (.aload_n 0, 1) := by decide +kernel
theorem dX8_run_52 : decode cX8_run 52 = .ok (.aload_n 1, 1) := by decide +kernel
theorem dX8_run_53 : decode cX8_run 53 = .ok (.aload_n 3, 1) := by decide +kernel
theorem dX8_run_54 : decode cX8_run 54 = .ok (.iconst 0, 1) := by decide +kernel
theorem dX8_run_55 : decode cX8_run 55 = .ok (.iconst 0, 1) := by decide +kernel
theorem dX8_run_56 : decode cX8_run 56 = .ok (.iconst 0, 1) := by decide +kernel
theorem dX8_run_57 : decode cX8_run 57 = .ok (.invokestatic 49, 3) := by decide +kernel
theorem dX8_run_60 : decode cX8_run 60 = .ok (.return_, 1) := by decide +kernel
theorem dX8_mostBy_0 : decode cX8_mostBy 0 = .ok (.iconst 0, 1) := by decide +kernel
theorem dX8_mostBy_1 : decode cX8_mostBy 1 = .ok (.istore_n 2, 1) := by decide +kernel
theorem dX8_mostBy_2 : decode cX8_mostBy 2 = .ok (.iconst 0, 1) := by decide +kernel
theorem dX8_mostBy_3 : decode cX8_mostBy 3 = .ok (.istore_n 3, 1) := by decide +kernel
theorem dX8_mostBy_4 : decode cX8_mostBy 4 = .ok (.iload_n 3, 1) := by decide +kernel
theorem dX8_mostBy_5 : decode cX8_mostBy 5 = .ok (.iload_n 1, 1) := by decide +kernel
theorem dX8_mostBy_6 : decode cX8_mostBy 6 = .ok (.if_icmp .gt 29, 3) := by decide +kernel
theorem dX8_mostBy_9 : decode cX8_mostBy 9 = .ok (.iload_n 3, 1) := by decide +kernel
theorem dX8_mostBy_10 : decode cX8_mostBy 10 = .ok (.aload_n 0, 1) := by decide +kernel
theorem dX8_mostBy_11 : decode cX8_mostBy 11 = .ok (.getfield 15, 3) := by decide +kernel
theorem dX8_mostBy_14 : decode cX8_mostBy 14 = .ok (.arraylength, 1) := by decide +kernel
theorem dX8_mostBy_15 : decode cX8_mostBy 15 = .ok (.if_icmp .ge 20, 3) := by decide +kernel
theorem dX8_mostBy_18 : decode cX8_mostBy 18 = .ok (.iload_n 2, 1) := by decide +kernel
theorem dX8_mostBy_19 : decode cX8_mostBy 19 = .ok (.aload_n 0, 1) := by decide +kernel
theorem dX8_mostBy_20 : decode cX8_mostBy 20 = .ok (.getfield 15, 3) := by decide +kernel
theorem dX8_mostBy_23 : decode cX8_mostBy 23 = .ok (.iload_n 3, 1) := by decide +kernel
theorem dX8_mostBy_24 : decode cX8_mostBy 24 = .ok (.iaload, 1) := by decide +kernel
theorem dX8_mostBy_25 : decode cX8_mostBy 25 = .ok (.invokestatic 53, 3) := by decide +kernel
theorem dX8_mostBy_28 : decode cX8_mostBy 28 = .ok (.istore_n 2, 1) := by decide +kernel
theorem dX8_mostBy_29 : decode cX8_mostBy 29 = .ok (.iinc 3 1, 3) := by decide +kernel
theorem dX8_mostBy_32 : decode cX8_mostBy 32 = .ok (.goto (-28), 3) := by decide +kernel
theorem dX8_mostBy_35 : decode cX8_mostBy 35 = .ok (.iload_n 2, 1) := by decide +kernel
theorem dX8_mostBy_36 : decode cX8_mostBy 36 = .ok (.ireturn, 1) := by decide +kernel
theorem dX8_fewestFor_0 : decode cX8_fewestFor 0 = .ok (.iconst 0, 1) := by decide +kernel
theorem dX8_fewestFor_1 : decode cX8_fewestFor 1 = .ok (.istore_n 2, 1) := by decide +kernel
theorem dX8_fewestFor_2 : decode cX8_fewestFor 2 = .ok (.iload_n 2, 1) := by decide +kernel
theorem dX8_fewestFor_3 : decode cX8_fewestFor 3 = .ok (.aload_n 0, 1) := by decide +kernel
theorem dX8_fewestFor_4 : decode cX8_fewestFor 4 = .ok (.getfield 15, 3) := by decide +kernel
theorem dX8_fewestFor_7 : decode cX8_fewestFor 7 = .ok (.arraylength, 1) := by decide +kernel
theorem dX8_fewestFor_8 : decode cX8_fewestFor 8 = .ok (.if_icmp .ge 21, 3) := by decide +kernel
theorem dX8_fewestFor_11 : decode cX8_fewestFor 11 = .ok (.aload_n 0, 1) := by decide +kernel
theorem dX8_fewestFor_12 : decode cX8_fewestFor 12 = .ok (.getfield 15, 3) := by decide +kernel
theorem dX8_fewestFor_15 : decode cX8_fewestFor 15 = .ok (.iload_n 2, 1) := by decide +kernel
theorem dX8_fewestFor_16 : decode cX8_fewestFor 16 = .ok (.iaload, 1) := by decide +kernel
theorem dX8_fewestFor_17 : decode cX8_fewestFor 17 = .ok (.iload_n 1, 1) := by decide +kernel
theorem dX8_fewestFor_18 : decode cX8_fewestFor 18 = .ok (.if_icmp .lt 5, 3) := by decide +kernel
theorem dX8_fewestFor_21 : decode cX8_fewestFor 21 = .ok (.iload_n 2, 1) := by decide +kernel
theorem dX8_fewestFor_22 : decode cX8_fewestFor 22 = .ok (.ireturn, 1) := by decide +kernel
theorem dX8_fewestFor_23 : decode cX8_fewestFor 23 = .ok (.iinc 2 1, 3) := by decide +kernel
theorem dX8_fewestFor_26 : decode cX8_fewestFor 26 = .ok (.goto (-24), 3) := by decide +kernel
theorem dX8_fewestFor_29 : decode cX8_fewestFor 29 = .ok (.bipush (-9), 2) := by decide +kernel
theorem dX8_fewestFor_31 : decode cX8_fewestFor 31 = .ok (.ireturn, 1) := by decide +kernel
theorem q_189 : Cond.fieldLink RX8 21 "HeavyFiles$Search" "laid" "[I" ∈ wT := wi_t 189 (by decide +kernel) (by decide +kernel)
theorem q_181 : Cond.fieldLink RX8 9 "HeavyFiles$Search" "laying" "[I" ∈ wT := wi_t 181 (by decide +kernel) (by decide +kernel)
theorem q_183 : Cond.fieldLink RX8 37 "HeavyFiles$Search" "score" "I" ∈ wT := wi_t 183 (by decide +kernel) (by decide +kernel)
theorem q_185 : Cond.fieldLink RX8 40 "HeavyFiles$Search" "sheets" "I" ∈ wT := wi_t 185 (by decide +kernel) (by decide +kernel)
theorem q_494 : Cond.methodLink RX8 79 arraycopyName ∈ wT := wi_t 494 (by decide +kernel) (by decide +kernel)
theorem q_490 : Cond.methodLink RX8 75 yX8_isEarlier ∈ wT := wi_t 490 (by decide +kernel) (by decide +kernel)
theorem q_493 : Cond.code yX8_isEarlier cX8_isEarlier 2 (some .boolean) ∈ wT := wi_t 493 (by decide +kernel) (by decide +kernel)
theorem q_492 : Cond.instanceMethod yX8_isEarlier ∈ wT := wi_t 492 (by decide +kernel) (by decide +kernel)
theorem q_7 : Cond.initialized RX8 ∈ wT := wi_t 7 (by decide +kernel) (by decide +kernel)
theorem qs_8 : Cond.selects RX8 yX8_isEarlier yX8_isEarlier ∈ wT := wi_s (q := (yX8_isEarlier, 8)) 8 (by decide +kernel) (by decide +kernel)
theorem q_187 : Cond.fieldLink RX8 15 "HeavyFiles$Search" "greatest" "[I" ∈ wT := wi_t 187 (by decide +kernel) (by decide +kernel)
theorem q_191 : Cond.fieldLink RX8 24 "HeavyFiles$Search" "dampness" "I" ∈ wT := wi_t 191 (by decide +kernel) (by decide +kernel)
theorem q_188 : Cond.fieldLink RX8 18 "HeavyFiles$Search" "winners" "[I" ∈ wT := wi_t 188 (by decide +kernel) (by decide +kernel)
theorem q_497 : Cond.methodLink RX8 66 yX0_need ∈ wT := wi_t 497 (by decide +kernel) (by decide +kernel)
theorem q_500 : Cond.code yX0_need cX0_need 10 (some .int) ∈ wT := wi_t 500 (by decide +kernel) (by decide +kernel)
theorem q_498 : Cond.instanceMethod yX0_need ∈ wT := wi_t 498 (by decide +kernel) (by decide +kernel)
theorem q_499 : Cond.selects RX0 yX0_need yX0_need ∈ wT := wi_t 499 (by decide +kernel) (by decide +kernel)
theorem q_190 : Cond.fieldLink RX8 34 "HeavyFiles$Search" "limit" "I" ∈ wT := wi_t 190 (by decide +kernel) (by decide +kernel)
theorem q_512 : Cond.methodLink RX8 70 yX9_points ∈ wT := wi_t 512 (by decide +kernel) (by decide +kernel)
theorem q_482 : Cond.methodLink RX8 49 yX8_branch ∈ wT := wi_t 482 (by decide +kernel) (by decide +kernel)
theorem q_484 : Cond.code yX8_branch cX8_branch 9 none ∈ wT := wi_t 484 (by decide +kernel) (by decide +kernel)
theorem q_483 : Cond.static yX8_branch ∈ wT := wi_t 483 (by decide +kernel) (by decide +kernel)
theorem q_486 : Cond.methodLink RX8 62 yX8_close ∈ wT := wi_t 486 (by decide +kernel) (by decide +kernel)
theorem q_489 : Cond.code yX8_close cX8_close 3 none ∈ wT := wi_t 489 (by decide +kernel) (by decide +kernel)
theorem q_488 : Cond.instanceMethod yX8_close ∈ wT := wi_t 488 (by decide +kernel) (by decide +kernel)
theorem qs_7 : Cond.selects RX8 yX8_close yX8_close ∈ wT := wi_s (q := (yX8_close, 8)) 7 (by decide +kernel) (by decide +kernel)
theorem q_485 : Cond.methodLink RX8 56 yX0_suitOf ∈ wT := wi_t 485 (by decide +kernel) (by decide +kernel)
theorem q_478 : Cond.methodLink RX8 28 Lib.Math.min.name ∈ wT := wi_t 478 (by decide +kernel) (by decide +kernel)
theorem q_479 : Cond.methodLink RX8 43 yJ7_fill_53178 ∈ wT := wi_t 479 (by decide +kernel) (by decide +kernel)
theorem q_532 : Cond.methodLink RX8 53 Lib.Math.max.name ∈ wT := wi_t 532 (by decide +kernel) (by decide +kernel)
theorem kvX8_isEarlier : KV yX8_isEarlier RX8 cX8_isEarlier 2 (some .boolean) 0 := ⟨q_492, qs_8, q_7, q_493, rfl, by decide +kernel, by decide +kernel, by decide +kernel⟩
theorem kvX0_need : KV yX0_need RX0 cX0_need 10 (some .int) 6 := ⟨q_498, q_499, q_2, q_500, rfl, by decide +kernel, by decide +kernel, by decide +kernel⟩
theorem kvX8_branch : KS yX8_branch cX8_branch 9 none 6 := ⟨q_483, q_7, q_484, by decide +kernel, by decide +kernel, by decide +kernel⟩
theorem kvX8_close : KV yX8_close RX8 cX8_close 3 none 2 := ⟨q_488, qs_7, q_7, q_489, rfl, by decide +kernel, by decide +kernel, by decide +kernel⟩
/-! HeavyFiles$Search.isEarlier()Z -/
def fX8_isEarlier_2 (N : Nat)  : Nat → Nat → Int32 → Mm → Option (Int32 × Mm)
  | 0 => fun _ _ _ => none
  | n + 1 => fun a0 a1 mm =>
    let k2 := fX8_isEarlier_2 N  n
    if (6 : Int32) ≤ a1 then (some (0, mm)) else (gd (inb a1 (ln (fr a0 5))) <| gd (inb a1 (ln (fr a0 0))) <| if (rd mm (fr a0 5) a1.toNatClampNeg) = (rd mm (fr a0 0) a1.toNatClampNeg) then (k2 a0 (a1 + 1) mm) else (gd (inb a1 (ln (fr a0 5))) <| gd (inb a1 (ln (fr a0 0))) <| if (rd mm (fr a0 0) a1.toNatClampNeg) ≤ (rd mm (fr a0 5) a1.toNatClampNeg) then (some (0, mm)) else (some (1, mm))))
def fX8_isEarlier (N : Nat)  (a0 : Nat) (mm : Mm) : Option (Int32 × Mm) :=
  fX8_isEarlier_2 N N a0 0 mm
abbrev rmX8_isEarlier : Room := { frames := 1, cells := 0, slots := 0, locals := 40 }
/-! HeavyFiles$Search.close(II)V -/
def fX8_close_69 (N : Nat)  (a0 : Nat) (a1 : Int32) (a2 : Int32) (mm : Mm) : Option (Unit × Mm) :=
  nm (wr mm a0 1 a2) fun m1 => nm (wr m1 a0 2 a1) fun m2 => gd (cpok (ln (fr a0 5)) (ln (fr a0 0)) 0 0 6) <| nm (cpy m2 (fr a0 5) (fr a0 0) 0 0 6) fun m4 => some ((), m4)
def fX8_close_30 (N : Nat)  (a0 : Nat) (a1 : Int32) (a2 : Int32) (mm : Mm) : Option (Unit × Mm) :=
  if (rd mm a0 1) < a2 then (fX8_close_69 N a0 a1 a2 mm) else (if a2 = (rd mm a0 1) then (if a1 < (rd mm a0 2) then (fX8_close_69 N a0 a1 a2 mm) else (if a1 = (rd mm a0 2) then (bd2 (fX8_isEarlier N a0 mm) fun x9 m10 => if x9 = 0 then (some ((), m10)) else (fX8_close_69 N a0 a1 a2 m10)) else (some ((), mm)))) else (some ((), mm)))
def fX8_close (N : Nat)  (a0 : Nat) (a1 : Int32) (a2 : Int32) (mm : Mm) : Option (Unit × Mm) :=
  if a1 < 0 then (fX8_close_30 N a0 a1 a2 mm) else (if (Int32.ofNat (ln (fr a0 3))) ≤ a1 then (fX8_close_30 N a0 a1 a2 mm) else (gd (inb a1 (ln (fr a0 3))) <| if a2 ≤ (rd mm (fr a0 3) a1.toNatClampNeg) then (fX8_close_30 N a0 a1 a2 mm) else (gd (inb a1 (ln (fr a0 3))) <| nm (wr mm (fr a0 3) a1.toNatClampNeg a2) fun m18 => fX8_close_30 N a0 a1 a2 m18)))
abbrev rmX8_close : Room := { frames := 2, cells := 0, slots := 0, locals := 69 }
/-! HeavyFiles$Search.branch(LHeavyFiles$Search;LHeavyFiles$Court;[IIII)V -/
def fX8_branch_128 (N : Nat) (rec : Nat → Nat → Nat → Int32 → Int32 → Int32 → Mm → Option (Unit × Mm)) (k36 : Nat → Nat → Nat → Int32 → Int32 → Int32 → Nat → Int32 → Mm → Option (Unit × Mm)) (a0 : Nat) (a1 : Nat) (a2 : Nat) (a3 : Int32) (a4 : Int32) (a5 : Int32) (a6 : Nat) (a7 : Int32) (mm : Mm) : Option (Unit × Mm) :=
  k36 a0 a1 a2 a3 a4 a5 a6 (a7 + 1) mm
def fX8_branch_36 (N : Nat) (rec : Nat → Nat → Nat → Int32 → Int32 → Int32 → Mm → Option (Unit × Mm)) : Nat → Nat → Nat → Nat → Int32 → Int32 → Int32 → Nat → Int32 → Mm → Option (Unit × Mm)
  | 0 => fun _ _ _ _ _ _ _ _ _ => none
  | n + 1 => fun a0 a1 a2 a3 a4 a5 a6 a7 mm =>
    let k36 := fX8_branch_36 N rec n
    if (3 : Int32) ≤ a7 then (some ((), mm)) else (gd (inb a3 (ln a2)) <| bd2 (fX0_need N a1 a3 0 a7 (rd mm a2 a3.toNatClampNeg) (rd mm a0 7) (fr a0 4) mm) fun x3 m4 => if x3 < 0 then (fX8_branch_128 N rec k36 a0 a1 a2 a3 a4 a5 a6 a7 m4) else (if (40 : Int32) < x3 then (fX8_branch_128 N rec k36 a0 a1 a2 a3 a4 a5 a6 a7 m4) else (if (rd m4 a0 6) < (a4 + x3) then (fX8_branch_128 N rec k36 a0 a1 a2 a3 a4 a5 a6 a7 m4) else (gd (inb a3 (ln (fr a0 4))) <| nm (wr m4 (fr a0 4) a3.toNatClampNeg a7) fun m10 => gd (inb a3 (ln (fr a0 5))) <| nm (wr m10 (fr a0 5) a3.toNatClampNeg x3) fun m12 => bd2 (fX9_points N a6 0 a7 m12) fun x13 m14 => bd2 (rec a0 a1 a2 (a3 + 1) (a4 + x3) (a5 + x13) m14) fun x16 m17 => fX8_branch_128 N rec k36 a0 a1 a2 a3 a4 a5 a6 a7 m17))))
def fX8_branch_24 (N : Nat) (rec : Nat → Nat → Nat → Int32 → Int32 → Int32 → Mm → Option (Unit × Mm)) (a0 : Nat) (a4 : Int32) (a5 : Int32) (mm : Mm) : Option (Unit × Mm) :=
  bd2 (fX8_close N a0 a4 a5 mm) fun x19 m20 => some ((), m20)
def fX8_branch_0 (N : Nat) (rec : Nat → Nat → Nat → Int32 → Int32 → Int32 → Mm → Option (Unit × Mm)) (a0 : Nat) (a1 : Nat) (a2 : Nat) (a3 : Int32) (a4 : Int32) (a5 : Int32) (mm : Mm) : Option (Unit × Mm) :=
  bd2 (fX0_suitOf N a1 a3 mm) fun x22 m23 => cs x22 (fX8_branch_24 N rec a0 a4 a5 m23) (fun z25 => if (6 : Int32) ≤ a3 then (fX8_branch_24 N rec a0 a4 a5 m23) else (if a3 < (Int32.ofNat (ln a2)) then (fX8_branch_36 N rec N a0 a1 a2 a3 a4 a5 z25 0 m23) else (fX8_branch_24 N rec a0 a4 a5 m23)))
def fX8_branch (N : Nat) : Nat → Nat → Nat → Nat → Int32 → Int32 → Int32 → Mm → Option (Unit × Mm)
  | 0 => fun _ _ _ _ _ _ _ => none
  | d + 1 => fun a0 a1 a2 a3 a4 a5 mm => fX8_branch_0 N (fX8_branch N d) a0 a1 a2 a3 a4 a5 mm
def rmX8_branch (d : Nat) : Room := { frames := 5 + d, cells := 0, slots := 0, locals := 172 + d * 49 }
/-! HeavyFiles$Search.run(LHeavyFiles$Court;I[II)V -/
def fX8_run (N : Nat)  (a0 : Nat) (a1 : Nat) (a2 : Int32) (a3 : Nat) (a4 : Int32) (mm : Mm) : Option (Unit × Mm) :=
  nm (wr mm a0 7 a2) fun m1 => nm (if 240 < a4 then 240 else a4) fun x2 => nm (wr m1 a0 6 x2) fun m3 => nm (wr m3 a0 1 (-1)) fun m4 => nm (wr m4 a0 2 0) fun m5 => bd2 (fJ7_fill_53178 N (fr a0 3) (-1) m5) fun x6 m7 => bd2 (fJ7_fill_53178 N (fr a0 0) 0 m7) fun x9 m10 => bd2 (fJ7_fill_53178 N (fr a0 5) 0 m10) fun x12 m13 => bd2 (fX8_branch N 9 a0 a1 a3 0 0 0 m13) fun x15 m16 => some ((), m16)
abbrev rmX8_run : Room := { frames := 15, cells := 0, slots := 0, locals := 829 }
/-! HeavyFiles$Search.mostBy(I)I -/
def fX8_mostBy_4 (N : Nat)  : Nat → Nat → Int32 → Int32 → Int32 → Mm → Option (Int32 × Mm)
  | 0 => fun _ _ _ _ _ => none
  | n + 1 => fun a0 a1 a2 a3 mm =>
    let k4 := fX8_mostBy_4 N  n
    if a1 < a3 then (some (a2, mm)) else (if (Int32.ofNat (ln (fr a0 3))) ≤ a3 then (some (a2, mm)) else (gd (inb a3 (ln (fr a0 3))) <| nm (if a2 < (rd mm (fr a0 3) a3.toNatClampNeg) then (rd mm (fr a0 3) a3.toNatClampNeg) else a2) fun x4 => k4 a0 a1 x4 (a3 + 1) mm))
def fX8_mostBy (N : Nat)  (a0 : Nat) (a1 : Int32) (mm : Mm) : Option (Int32 × Mm) :=
  fX8_mostBy_4 N N a0 a1 0 0 mm
abbrev rmX8_mostBy : Room := { frames := 2, cells := 0, slots := 0, locals := 69 }
/-! HeavyFiles$Search.fewestFor(I)I -/
def fX8_fewestFor_2 (N : Nat)  : Nat → Nat → Int32 → Int32 → Mm → Option (Int32 × Mm)
  | 0 => fun _ _ _ _ => none
  | n + 1 => fun a0 a1 a2 mm =>
    let k2 := fX8_fewestFor_2 N  n
    if (Int32.ofNat (ln (fr a0 3))) ≤ a2 then (some ((-9), mm)) else (gd (inb a2 (ln (fr a0 3))) <| if (rd mm (fr a0 3) a2.toNatClampNeg) < a1 then (k2 a0 a1 (a2 + 1) mm) else (some (a2, mm)))
def fX8_fewestFor (N : Nat)  (a0 : Nat) (a1 : Int32) (mm : Mm) : Option (Int32 × Mm) :=
  fX8_fewestFor_2 N N a0 a1 0 mm
abbrev rmX8_fewestFor : Room := { frames := 1, cells := 0, slots := 0, locals := 40 }
section W_search10
variable {p : Program} {l : Launch} {e : Env} {s : State} {m : MethodId} {args : Array Value} {below : List Frame} {meth : Method} {c : Code} {D : va_G} {ca ad : Nat → Nat}
set_option maxRecDepth 100000 in
set_option maxHeartbeats 4000000 in
theorem wX8_isEarlier_2 (C : Cx p s m meth c args cX8_isEarlier 2 (some .boolean) RX8 D ca ad) {res : Int32 × Mm} {N : Nat}  : ∀ (n : Nat) {a0 : Nat} {a1 : Int32} {mm : Mm} {H : Heap} {locs : List Loc} {ls : Array Slot}, (sX8 a0) → Wd D ca ad s.heap mm H locs → lv_has ls 2 [(0, .ref (ad a0)), (1, .int a1)] → fX8_isEarlier_2 N n a0 a1 mm = some res → W p l e (rmX8_isEarlier) s m args below meth c H locs 0 0 (MQ below (QI D ca ad res) args s 0 0 (AA ad)) (F0 m 2 ls []) := by
  intro n
  induction n with
  | zero => intro a0 a1 mm H locs ls ha0 hW hl hf; cases hf
  | succ n ih =>
    intro a0 a1 mm H locs ls ha0 hW hl hf
    have hk2 : ∀ (a0 : Nat) (a1 : Int32) (mm : Mm) (H : Heap) (locs : List Loc) (ls : Array Slot), (sX8 a0) → Wd D ca ad s.heap mm H locs → lv_has ls 2 [(0, .ref (ad a0)), (1, .int a1)] → (fX8_isEarlier_2 N n) a0 a1 mm = some res → W p l e (rmX8_isEarlier) s m args below meth c H locs 0 0 (MQ below (QI D ca ad res) args s 0 0 (AA ad)) (F0 m 2 ls []) := fun a0 a1 mm H locs ls ha0 hW hl hf => ih ha0 hW hl hf
    unfold fX8_isEarlier_2 at hf
    try dsimp only at hf
    refine lv_iload_n C.1 C.2.1 dX8_isEarlier_2 rfl (lv_at hl 1 rfl) ?_
    refine lv_bipush (v := 6) C.1 C.2.1 dX8_isEarlier_3 (by decide) ?_
    refine lv_icmp_ge (tgt := 50) C.1 C.2.1 dX8_isEarlier_5 (by decide) (fun c1 => ?_) (fun c1 => ?_)
    · have hf := if_t c1 hf
      refine lv_iconst (v := 0) C.1 C.2.1 dX8_isEarlier_50 (by decide) ?_
      cases hf
      exact x_zret C hW (by decide) dX8_isEarlier_51
    · have hf := if_f c1 hf
      refine lv_aload_n C.1 C.2.1 dX8_isEarlier_8 rfl (lv_at hl 0 rfl) ?_
      refine x_getr C hW (ha0).1 (ha0).2.1 (j := 5) rfl kX8 (by decide) rfl q_189 dX8_isEarlier_9 ?_
      refine lv_iload_n C.1 C.2.1 dX8_isEarlier_12 rfl (lv_at hl 1 rfl) ?_
      obtain ⟨g2, hf⟩ := gd_s hf
      refine x_iald C hW ha0.2.2.2.2.2 g2 dX8_isEarlier_13 ?_
      refine lv_aload_n C.1 C.2.1 dX8_isEarlier_14 rfl (lv_at hl 0 rfl) ?_
      refine x_getr C hW (ha0).1 (ha0).2.1 (j := 0) rfl kX8 (by decide) rfl q_181 dX8_isEarlier_15 ?_
      refine lv_iload_n C.1 C.2.1 dX8_isEarlier_18 rfl (lv_at hl 1 rfl) ?_
      obtain ⟨g3, hf⟩ := gd_s hf
      refine x_iald C hW ha0.2.2.1 g3 dX8_isEarlier_19 ?_
      refine lv_icmp_eq (tgt := 44) C.1 C.2.1 dX8_isEarlier_20 (by decide) (fun c4 => ?_) (fun c4 => ?_)
      · have hf := if_t c4 hf
        refine lv_iinc (v := (a1 + 1)) (lv' := [(1, .int (a1 + 1)), (0, .ref (ad a0))]) C.1 C.2.1 dX8_isEarlier_44 hl (k := 1) rfl rfl (by decide) rfl (fun ls hl => ?_)
        refine lv_goto (tgt := 2) C.1 C.2.1 dX8_isEarlier_47 (by decide) ?_
        exact hk2 _ _ _ _ _ _ ha0 hW (lv_sub hl [1, 0] rfl) hf
      · have hf := if_f c4 hf
        refine lv_aload_n C.1 C.2.1 dX8_isEarlier_23 rfl (lv_at hl 0 rfl) ?_
        refine x_getr C hW (ha0).1 (ha0).2.1 (j := 5) rfl kX8 (by decide) rfl q_189 dX8_isEarlier_24 ?_
        refine lv_iload_n C.1 C.2.1 dX8_isEarlier_27 rfl (lv_at hl 1 rfl) ?_
        obtain ⟨g5, hf⟩ := gd_s hf
        refine x_iald C hW ha0.2.2.2.2.2 g5 dX8_isEarlier_28 ?_
        refine lv_aload_n C.1 C.2.1 dX8_isEarlier_29 rfl (lv_at hl 0 rfl) ?_
        refine x_getr C hW (ha0).1 (ha0).2.1 (j := 0) rfl kX8 (by decide) rfl q_181 dX8_isEarlier_30 ?_
        refine lv_iload_n C.1 C.2.1 dX8_isEarlier_33 rfl (lv_at hl 1 rfl) ?_
        obtain ⟨g6, hf⟩ := gd_s hf
        refine x_iald C hW ha0.2.2.1 g6 dX8_isEarlier_34 ?_
        refine lv_icmp_ge (tgt := 42) C.1 C.2.1 dX8_isEarlier_35 (by decide) (fun c7 => ?_) (fun c7 => ?_)
        · have hf := if_t c7 hf
          refine lv_iconst (v := 0) C.1 C.2.1 dX8_isEarlier_42 (by decide) ?_
          cases hf
          exact x_zret C hW (by decide) dX8_isEarlier_43
        · have hf := if_f c7 hf
          refine lv_iconst (v := 1) C.1 C.2.1 dX8_isEarlier_38 (by decide) ?_
          refine lv_goto (tgt := 43) C.1 C.2.1 dX8_isEarlier_39 (by decide) ?_
          cases hf
          exact x_zret C hW (by decide) dX8_isEarlier_43
set_option maxRecDepth 100000 in
set_option maxHeartbeats 4000000 in
theorem wX8_isEarlier_0 (C : Cx p s m meth c args cX8_isEarlier 2 (some .boolean) RX8 D ca ad) {res : Int32 × Mm} {N : Nat}  {a0 : Nat} {mm : Mm} {H : Heap} {locs : List Loc} {ls : Array Slot} (ha0 : sX8 a0) (hW : Wd D ca ad s.heap mm H locs) (hl : lv_has ls 2 [(0, .ref (ad a0))]) (hf : fX8_isEarlier N a0 mm = some res) : W p l e (rmX8_isEarlier) s m args below meth c H locs 0 0 (MQ below (QI D ca ad res) args s 0 0 (AA ad)) (F0 m 0 ls []) := by
  unfold fX8_isEarlier at hf
  refine lv_iconst (v := 0) C.1 C.2.1 dX8_isEarlier_0 (by decide) ?_
  refine lv_istore_n (lv' := [(1, .int 0), (0, .ref (ad a0))]) C.1 C.2.1 dX8_isEarlier_1 rfl hl (by decide) rfl (fun ls hl => ?_)
  exact wX8_isEarlier_2 C  N ha0 hW (lv_sub hl [1, 0] rfl) hf
set_option maxRecDepth 100000 in
set_option maxHeartbeats 4000000 in
theorem tX8_isEarlier (l : Launch) {D : va_G} {ca ad : Nat → Nat} (hi : Inj ad) {N : Nat} {a0 : Nat} {mm : Mm} {res : Int32 × Mm} (ha0 : sX8 a0) (hf : fX8_isEarlier N a0 mm = some res) : Met l yX8_isEarlier (WS yX8_isEarlier cX8_isEarlier 2 (some .boolean)) (rmX8_isEarlier) (va_Pc [.ref (ad a0)] (WB D ca ad mm)) (QI D ca ad res) 0 0 (AA ad) := by
  refine x_start hi (by decide) rfl (Nat.le_of_ble_eq_true rfl) (fun p e s m args below meth c ls C hW hl => ?_)
  exact wX8_isEarlier_0 C ha0 hW (lv_sub hl [0] rfl) hf
set_option maxRecDepth 100000 in
set_option maxHeartbeats 4000000 in
theorem wX8_close_69 (C : Cx p s m meth c args cX8_close 3 none RX8 D ca ad) {res : Unit × Mm} {N : Nat}  {a0 : Nat} {a1 : Int32} {a2 : Int32} {mm : Mm} {H : Heap} {locs : List Loc} {ls : Array Slot} (ha0 : sX8 a0) (hW : Wd D ca ad s.heap mm H locs) (hl : lv_has ls 3 [(0, .ref (ad a0)), (1, .int a1), (2, .int a2)]) (hf : fX8_close_69 N a0 a1 a2 mm = some res) : W p l e (rmX8_close) s m args below meth c H locs 0 0 (MQ below (QV D ca ad res) args s 0 0 (AA ad)) (F0 m 69 ls []) := by
  unfold fX8_close_69 at hf
  refine lv_aload_n C.1 C.2.1 dX8_close_69 rfl (lv_at hl 0 rfl) ?_
  refine lv_iload_n C.1 C.2.1 dX8_close_70 rfl (lv_at hl 2 rfl) ?_
  refine x_put C hW (ha0).1 (ha0).2.1 (j := 1) (t1 := .int) rfl kX8 (by decide) rfl rfl q_183 (by decide +kernel) rfl rfl dX8_close_71 (fun H locs hW => ?_)
  obtain ⟨m1, em1⟩ : ∃ z, z = wr mm a0 1 a2 := ⟨_, rfl⟩
  have hf := nm_s hf em1
  rw [← em1] at hW
  refine lv_aload_n C.1 C.2.1 dX8_close_74 rfl (lv_at hl 0 rfl) ?_
  refine lv_iload_n C.1 C.2.1 dX8_close_75 rfl (lv_at hl 1 rfl) ?_
  refine x_put C hW (ha0).1 (ha0).2.1 (j := 2) (t1 := .int) rfl kX8 (by decide) rfl rfl q_185 (by decide +kernel) rfl rfl dX8_close_76 (fun H locs hW => ?_)
  obtain ⟨m2, em2⟩ : ∃ z, z = wr m1 a0 2 a1 := ⟨_, rfl⟩
  have hf := nm_s hf em2
  rw [← em2] at hW
  refine lv_aload_n C.1 C.2.1 dX8_close_79 rfl (lv_at hl 0 rfl) ?_
  refine x_getr C hW (ha0).1 (ha0).2.1 (j := 5) rfl kX8 (by decide) rfl q_189 dX8_close_80 ?_
  refine lv_iconst (v := 0) C.1 C.2.1 dX8_close_83 (by decide) ?_
  refine lv_aload_n C.1 C.2.1 dX8_close_84 rfl (lv_at hl 0 rfl) ?_
  refine x_getr C hW (ha0).1 (ha0).2.1 (j := 0) rfl kX8 (by decide) rfl q_181 dX8_close_85 ?_
  refine lv_iconst (v := 0) C.1 C.2.1 dX8_close_88 (by decide) ?_
  refine lv_bipush (v := 6) C.1 C.2.1 dX8_close_89 (by decide) ?_
  obtain ⟨g3, hf⟩ := gd_s hf
  refine x_copy C hW ha0.2.2.2.2.2 ha0.2.2.1 g3 hl.1 q_494 q_496 q_495 q_14 (by decide) (Nat.le_of_ble_eq_true rfl) dX8_close_91 (fun H locs hW => ?_)
  obtain ⟨m4, em4⟩ : ∃ z, z = cpy m2 (fr a0 5) (fr a0 0) 0 0 6 := ⟨_, rfl⟩
  have hf := nm_s hf em4
  rw [← em4] at hW
  cases hf
  exact x_vret C hW dX8_close_94
set_option maxRecDepth 100000 in
set_option maxHeartbeats 4000000 in
theorem wX8_close_30 (C : Cx p s m meth c args cX8_close 3 none RX8 D ca ad) {res : Unit × Mm} {N : Nat}  {a0 : Nat} {a1 : Int32} {a2 : Int32} {mm : Mm} {H : Heap} {locs : List Loc} {ls : Array Slot} (ha0 : sX8 a0) (hW : Wd D ca ad s.heap mm H locs) (hl : lv_has ls 3 [(0, .ref (ad a0)), (1, .int a1), (2, .int a2)]) (hf : fX8_close_30 N a0 a1 a2 mm = some res) : W p l e (rmX8_close) s m args below meth c H locs 0 0 (MQ below (QV D ca ad res) args s 0 0 (AA ad)) (F0 m 30 ls []) := by
  unfold fX8_close_30 at hf
  refine lv_iload_n C.1 C.2.1 dX8_close_30 rfl (lv_at hl 2 rfl) ?_
  refine lv_aload_n C.1 C.2.1 dX8_close_31 rfl (lv_at hl 0 rfl) ?_
  refine x_geti C hW (ha0).1 (ha0).2.1 (j := 1) rfl kX8 (by decide) rfl q_183 dX8_close_32 ?_
  refine lv_icmp_gt (tgt := 69) C.1 C.2.1 dX8_close_35 (by decide) (fun c5 => ?_) (fun c5 => ?_)
  · have hf := if_t c5 hf
    exact wX8_close_69 C  ha0 hW (lv_sub hl [0, 1, 2] rfl) hf
  · have hf := if_f c5 hf
    refine lv_iload_n C.1 C.2.1 dX8_close_38 rfl (lv_at hl 2 rfl) ?_
    refine lv_aload_n C.1 C.2.1 dX8_close_39 rfl (lv_at hl 0 rfl) ?_
    refine x_geti C hW (ha0).1 (ha0).2.1 (j := 1) rfl kX8 (by decide) rfl q_183 dX8_close_40 ?_
    refine lv_icmp_ne (tgt := 94) C.1 C.2.1 dX8_close_43 (by decide) (fun c6 => ?_) (fun c6 => ?_)
    · have hf := if_f c6 hf
      cases hf
      exact x_vret C hW dX8_close_94
    · have hf := if_t c6 hf
      refine lv_iload_n C.1 C.2.1 dX8_close_46 rfl (lv_at hl 1 rfl) ?_
      refine lv_aload_n C.1 C.2.1 dX8_close_47 rfl (lv_at hl 0 rfl) ?_
      refine x_geti C hW (ha0).1 (ha0).2.1 (j := 2) rfl kX8 (by decide) rfl q_185 dX8_close_48 ?_
      refine lv_icmp_lt (tgt := 69) C.1 C.2.1 dX8_close_51 (by decide) (fun c7 => ?_) (fun c7 => ?_)
      · have hf := if_t c7 hf
        exact wX8_close_69 C  ha0 hW (lv_sub hl [0, 1, 2] rfl) hf
      · have hf := if_f c7 hf
        refine lv_iload_n C.1 C.2.1 dX8_close_54 rfl (lv_at hl 1 rfl) ?_
        refine lv_aload_n C.1 C.2.1 dX8_close_55 rfl (lv_at hl 0 rfl) ?_
        refine x_geti C hW (ha0).1 (ha0).2.1 (j := 2) rfl kX8 (by decide) rfl q_185 dX8_close_56 ?_
        refine lv_icmp_ne (tgt := 94) C.1 C.2.1 dX8_close_59 (by decide) (fun c8 => ?_) (fun c8 => ?_)
        · have hf := if_f c8 hf
          cases hf
          exact x_vret C hW dX8_close_94
        · have hf := if_t c8 hf
          refine lv_aload_n C.1 C.2.1 dX8_close_62 rfl (lv_at hl 0 rfl) ?_
          obtain ⟨x9, m10, r11, hf⟩ := bd2_s hf
          refine x_ci hW (x_runV C hW [] [] (ha0).1 (ha0).2.1 kX8.1 kvX8_isEarlier q_490 (tX8_isEarlier l C.2.2.2.2.2.2.1 ha0 r11) rfl rfl ⟨by decide, by decide⟩ rfl hl.1 rfl (Nat.le_of_ble_eq_true rfl) dX8_close_63) (fun H locs hW => ?_)
          refine lv_if_eq (tgt := 94) C.1 C.2.1 dX8_close_66 (by decide) (fun c12 => ?_) (fun c12 => ?_)
          · have hf := if_t c12 hf
            cases hf
            exact x_vret C hW dX8_close_94
          · have hf := if_f c12 hf
            exact wX8_close_69 C  ha0 hW (lv_sub hl [0, 1, 2] rfl) hf
set_option maxRecDepth 100000 in
set_option maxHeartbeats 4000000 in
theorem wX8_close_0 (C : Cx p s m meth c args cX8_close 3 none RX8 D ca ad) {res : Unit × Mm} {N : Nat}  {a0 : Nat} {a1 : Int32} {a2 : Int32} {mm : Mm} {H : Heap} {locs : List Loc} {ls : Array Slot} (ha0 : sX8 a0) (hW : Wd D ca ad s.heap mm H locs) (hl : lv_has ls 3 [(0, .ref (ad a0)), (1, .int a1), (2, .int a2)]) (hf : fX8_close N a0 a1 a2 mm = some res) : W p l e (rmX8_close) s m args below meth c H locs 0 0 (MQ below (QV D ca ad res) args s 0 0 (AA ad)) (F0 m 0 ls []) := by
  unfold fX8_close at hf
  refine lv_iload_n C.1 C.2.1 dX8_close_0 rfl (lv_at hl 1 rfl) ?_
  refine lv_if_lt (tgt := 30) C.1 C.2.1 dX8_close_1 (by decide) (fun c13 => ?_) (fun c13 => ?_)
  · have hf := if_t c13 hf
    exact wX8_close_30 C  ha0 hW (lv_sub hl [0, 1, 2] rfl) hf
  · have hf := if_f c13 hf
    refine lv_iload_n C.1 C.2.1 dX8_close_4 rfl (lv_at hl 1 rfl) ?_
    refine lv_aload_n C.1 C.2.1 dX8_close_5 rfl (lv_at hl 0 rfl) ?_
    refine x_getr C hW (ha0).1 (ha0).2.1 (j := 3) rfl kX8 (by decide) rfl q_187 dX8_close_6 ?_
    refine x_alen C hW ha0.2.2.2.1 dX8_close_9 ?_
    refine lv_icmp_ge (tgt := 30) C.1 C.2.1 dX8_close_10 (by decide) (fun c14 => ?_) (fun c14 => ?_)
    · have hf := if_t c14 hf
      exact wX8_close_30 C  ha0 hW (lv_sub hl [0, 1, 2] rfl) hf
    · have hf := if_f c14 hf
      refine lv_iload_n C.1 C.2.1 dX8_close_13 rfl (lv_at hl 2 rfl) ?_
      refine lv_aload_n C.1 C.2.1 dX8_close_14 rfl (lv_at hl 0 rfl) ?_
      refine x_getr C hW (ha0).1 (ha0).2.1 (j := 3) rfl kX8 (by decide) rfl q_187 dX8_close_15 ?_
      refine lv_iload_n C.1 C.2.1 dX8_close_18 rfl (lv_at hl 1 rfl) ?_
      obtain ⟨g15, hf⟩ := gd_s hf
      refine x_iald C hW ha0.2.2.2.1 g15 dX8_close_19 ?_
      refine lv_icmp_le (tgt := 30) C.1 C.2.1 dX8_close_20 (by decide) (fun c16 => ?_) (fun c16 => ?_)
      · have hf := if_t c16 hf
        exact wX8_close_30 C  ha0 hW (lv_sub hl [0, 1, 2] rfl) hf
      · have hf := if_f c16 hf
        refine lv_aload_n C.1 C.2.1 dX8_close_23 rfl (lv_at hl 0 rfl) ?_
        refine x_getr C hW (ha0).1 (ha0).2.1 (j := 3) rfl kX8 (by decide) rfl q_187 dX8_close_24 ?_
        refine lv_iload_n C.1 C.2.1 dX8_close_27 rfl (lv_at hl 1 rfl) ?_
        refine lv_iload_n C.1 C.2.1 dX8_close_28 rfl (lv_at hl 2 rfl) ?_
        obtain ⟨g17, hf⟩ := gd_s hf
        refine x_iast C hW ha0.2.2.2.1 g17 dX8_close_29 (fun H locs hW => ?_)
        obtain ⟨m18, em18⟩ : ∃ z, z = wr mm (fr a0 3) a1.toNatClampNeg a2 := ⟨_, rfl⟩
        have hf := nm_s hf em18
        rw [← em18] at hW
        exact wX8_close_30 C  ha0 hW (lv_sub hl [0, 1, 2] rfl) hf
set_option maxRecDepth 100000 in
set_option maxHeartbeats 4000000 in
theorem tX8_close (l : Launch) {D : va_G} {ca ad : Nat → Nat} (hi : Inj ad) {N : Nat} {a0 : Nat} {a1 : Int32} {a2 : Int32} {mm : Mm} {res : Unit × Mm} (ha0 : sX8 a0) (hf : fX8_close N a0 a1 a2 mm = some res) : Met l yX8_close (WS yX8_close cX8_close 3 none) (rmX8_close) (va_Pc [.ref (ad a0), .int a1, .int a2] (WB D ca ad mm)) (QV D ca ad res) 0 0 (AA ad) := by
  refine x_start hi (by decide) rfl (Nat.le_of_ble_eq_true rfl) (fun p e s m args below meth c ls C hW hl => ?_)
  exact wX8_close_0 C ha0 hW (lv_sub hl [0, 1, 2] rfl) hf
set_option maxRecDepth 100000 in
set_option maxHeartbeats 4000000 in
theorem wX8_branch_128 (C : Cx p s m meth c args cX8_branch 9 none RX8 D ca ad) {res : Unit × Mm} {d0 : Nat} {N : Nat} {rec : Nat → Nat → Nat → Int32 → Int32 → Int32 → Mm → Option (Unit × Mm)} {k36 : Nat → Nat → Nat → Int32 → Int32 → Int32 → Nat → Int32 → Mm → Option (Unit × Mm)} (hrec : ∀ (a0 : Nat) (a1 : Nat) (a2 : Nat) (a3 : Int32) (a4 : Int32) (a5 : Int32) (mm : Mm) (res : Unit × Mm), (sX8 a0) → (sX0 a1) → (sI a2) → rec a0 a1 a2 a3 a4 a5 mm = some res → Met l yX8_branch (WS yX8_branch cX8_branch 9 none) (rmX8_branch d0) (va_Pc [.ref (ad a0), .ref (ad a1), .ref (ad a2), .int a3, .int a4, .int a5] (WB D ca ad mm)) (QV D ca ad res) 0 0 (AA ad)) (hk36 : ∀ (a0 : Nat) (a1 : Nat) (a2 : Nat) (a3 : Int32) (a4 : Int32) (a5 : Int32) (a6 : Nat) (a7 : Int32) (mm : Mm) (H : Heap) (locs : List Loc) (ls : Array Slot), (sX8 a0) → (sX0 a1) → (sI a2) → (sX9 a6) → Wd D ca ad s.heap mm H locs → lv_has ls 9 [(0, .ref (ad a0)), (1, .ref (ad a1)), (2, .ref (ad a2)), (3, .int a3), (4, .int a4), (5, .int a5), (6, .ref (ad a6)), (7, .int a7)] → k36 a0 a1 a2 a3 a4 a5 a6 a7 mm = some res → W p l e (rmX8_branch (d0 + 1)) s m args below meth c H locs 0 0 (MQ below (QV D ca ad res) args s 0 0 (AA ad)) (F0 m 36 ls [])) {a0 : Nat} {a1 : Nat} {a2 : Nat} {a3 : Int32} {a4 : Int32} {a5 : Int32} {a6 : Nat} {a7 : Int32} {mm : Mm} {H : Heap} {locs : List Loc} {ls : Array Slot} (ha0 : sX8 a0) (ha1 : sX0 a1) (ha2 : sI a2) (ha6 : sX9 a6) (hW : Wd D ca ad s.heap mm H locs) (hl : lv_has ls 9 [(0, .ref (ad a0)), (1, .ref (ad a1)), (2, .ref (ad a2)), (3, .int a3), (4, .int a4), (5, .int a5), (6, .ref (ad a6)), (7, .int a7)]) (hf : fX8_branch_128 N rec k36 a0 a1 a2 a3 a4 a5 a6 a7 mm = some res) : W p l e (rmX8_branch (d0 + 1)) s m args below meth c H locs 0 0 (MQ below (QV D ca ad res) args s 0 0 (AA ad)) (F0 m 128 ls []) := by
  unfold fX8_branch_128 at hf
  refine lv_iinc (v := (a7 + 1)) (lv' := [(7, .int (a7 + 1)), (0, .ref (ad a0)), (1, .ref (ad a1)), (2, .ref (ad a2)), (3, .int a3), (4, .int a4), (5, .int a5), (6, .ref (ad a6))]) C.1 C.2.1 dX8_branch_128 hl (k := 7) rfl rfl (by decide) rfl (fun ls hl => ?_)
  refine lv_goto (tgt := 36) C.1 C.2.1 dX8_branch_131 (by decide) ?_
  exact hk36 _ _ _ _ _ _ _ _ _ _ _ _ ha0 ha1 ha2 ha6 hW (lv_sub hl [1, 2, 3, 4, 5, 6, 7, 0] rfl) hf
set_option maxRecDepth 100000 in
set_option maxHeartbeats 4000000 in
theorem wX8_branch_36 (C : Cx p s m meth c args cX8_branch 9 none RX8 D ca ad) {res : Unit × Mm} {d0 : Nat} {N : Nat} {rec : Nat → Nat → Nat → Int32 → Int32 → Int32 → Mm → Option (Unit × Mm)} (hrec : ∀ (a0 : Nat) (a1 : Nat) (a2 : Nat) (a3 : Int32) (a4 : Int32) (a5 : Int32) (mm : Mm) (res : Unit × Mm), (sX8 a0) → (sX0 a1) → (sI a2) → rec a0 a1 a2 a3 a4 a5 mm = some res → Met l yX8_branch (WS yX8_branch cX8_branch 9 none) (rmX8_branch d0) (va_Pc [.ref (ad a0), .ref (ad a1), .ref (ad a2), .int a3, .int a4, .int a5] (WB D ca ad mm)) (QV D ca ad res) 0 0 (AA ad)) : ∀ (n : Nat) {a0 : Nat} {a1 : Nat} {a2 : Nat} {a3 : Int32} {a4 : Int32} {a5 : Int32} {a6 : Nat} {a7 : Int32} {mm : Mm} {H : Heap} {locs : List Loc} {ls : Array Slot}, (sX8 a0) → (sX0 a1) → (sI a2) → (sX9 a6) → Wd D ca ad s.heap mm H locs → lv_has ls 9 [(0, .ref (ad a0)), (1, .ref (ad a1)), (2, .ref (ad a2)), (3, .int a3), (4, .int a4), (5, .int a5), (6, .ref (ad a6)), (7, .int a7)] → fX8_branch_36 N rec n a0 a1 a2 a3 a4 a5 a6 a7 mm = some res → W p l e (rmX8_branch (d0 + 1)) s m args below meth c H locs 0 0 (MQ below (QV D ca ad res) args s 0 0 (AA ad)) (F0 m 36 ls []) := by
  intro n
  induction n with
  | zero => intro a0 a1 a2 a3 a4 a5 a6 a7 mm H locs ls ha0 ha1 ha2 ha6 hW hl hf; cases hf
  | succ n ih =>
    intro a0 a1 a2 a3 a4 a5 a6 a7 mm H locs ls ha0 ha1 ha2 ha6 hW hl hf
    have hk36 : ∀ (a0 : Nat) (a1 : Nat) (a2 : Nat) (a3 : Int32) (a4 : Int32) (a5 : Int32) (a6 : Nat) (a7 : Int32) (mm : Mm) (H : Heap) (locs : List Loc) (ls : Array Slot), (sX8 a0) → (sX0 a1) → (sI a2) → (sX9 a6) → Wd D ca ad s.heap mm H locs → lv_has ls 9 [(0, .ref (ad a0)), (1, .ref (ad a1)), (2, .ref (ad a2)), (3, .int a3), (4, .int a4), (5, .int a5), (6, .ref (ad a6)), (7, .int a7)] → (fX8_branch_36 N rec n) a0 a1 a2 a3 a4 a5 a6 a7 mm = some res → W p l e (rmX8_branch (d0 + 1)) s m args below meth c H locs 0 0 (MQ below (QV D ca ad res) args s 0 0 (AA ad)) (F0 m 36 ls []) := fun a0 a1 a2 a3 a4 a5 a6 a7 mm H locs ls ha0 ha1 ha2 ha6 hW hl hf => ih ha0 ha1 ha2 ha6 hW hl hf
    unfold fX8_branch_36 at hf
    try dsimp only at hf
    refine lv_iload C.1 C.2.1 dX8_branch_36 (lv_at hl 7 rfl) ?_
    refine lv_iconst (v := 3) C.1 C.2.1 dX8_branch_38 (by decide) ?_
    refine lv_icmp_ge (tgt := 134) C.1 C.2.1 dX8_branch_39 (by decide) (fun c1 => ?_) (fun c1 => ?_)
    · have hf := if_t c1 hf
      cases hf
      exact x_vret C hW dX8_branch_134
    · have hf := if_f c1 hf
      refine lv_aload_n C.1 C.2.1 dX8_branch_42 rfl (lv_at hl 1 rfl) ?_
      refine lv_iload_n C.1 C.2.1 dX8_branch_43 rfl (lv_at hl 3 rfl) ?_
      refine lv_iconst (v := 0) C.1 C.2.1 dX8_branch_44 (by decide) ?_
      refine lv_iload C.1 C.2.1 dX8_branch_45 (lv_at hl 7 rfl) ?_
      refine lv_aload_n C.1 C.2.1 dX8_branch_47 rfl (lv_at hl 2 rfl) ?_
      refine lv_iload_n C.1 C.2.1 dX8_branch_48 rfl (lv_at hl 3 rfl) ?_
      obtain ⟨g2, hf⟩ := gd_s hf
      refine x_iald C hW ha2 g2 dX8_branch_49 ?_
      refine lv_aload_n C.1 C.2.1 dX8_branch_50 rfl (lv_at hl 0 rfl) ?_
      refine x_geti C hW (ha0).1 (ha0).2.1 (j := 7) rfl kX8 (by decide) rfl q_191 dX8_branch_51 ?_
      refine lv_aload_n C.1 C.2.1 dX8_branch_54 rfl (lv_at hl 0 rfl) ?_
      refine x_getr C hW (ha0).1 (ha0).2.1 (j := 4) rfl kX8 (by decide) rfl q_188 dX8_branch_55 ?_
      obtain ⟨x3, m4, r5, hf⟩ := bd2_s hf
      refine x_ci hW (x_runV C hW [.int a3, .int 0, .int a7, .int (rd mm a2 a3.toNatClampNeg), .int (rd mm a0 7), .ref (ad (fr a0 4))] [] (ha1).1 (ha1).2.1 kX0.1 kvX0_need q_497 (tX0_need l C.2.2.2.2.2.2.1 ha1 ha0.2.2.2.2.1 r5) rfl rfl ⟨by first | decide | (simp only [rmX0_need, rmX8_branch]; omega), by first | decide | (simp only [rmX0_need, rmX8_branch]; omega)⟩ rfl hl.1 rfl (Nat.le_of_ble_eq_true rfl) dX8_branch_58) (fun H locs hW => ?_)
      refine lv_istore (lv' := [(8, .int x3), (0, .ref (ad a0)), (1, .ref (ad a1)), (2, .ref (ad a2)), (3, .int a3), (4, .int a4), (5, .int a5), (6, .ref (ad a6)), (7, .int a7)]) C.1 C.2.1 dX8_branch_61 hl (by decide) rfl (fun ls hl => ?_)
      refine lv_iload C.1 C.2.1 dX8_branch_63 (lv_at hl 0 rfl) ?_
      refine lv_if_lt (tgt := 128) C.1 C.2.1 dX8_branch_65 (by decide) (fun c6 => ?_) (fun c6 => ?_)
      · have hf := if_t c6 hf
        exact wX8_branch_128 C hrec hk36 ha0 ha1 ha2 ha6 hW (lv_sub hl [1, 2, 3, 4, 5, 6, 7, 8] rfl) hf
      · have hf := if_f c6 hf
        refine lv_iload C.1 C.2.1 dX8_branch_68 (lv_at hl 0 rfl) ?_
        refine lv_bipush (v := 40) C.1 C.2.1 dX8_branch_70 (by decide) ?_
        refine lv_icmp_gt (tgt := 128) C.1 C.2.1 dX8_branch_72 (by decide) (fun c7 => ?_) (fun c7 => ?_)
        · have hf := if_t c7 hf
          exact wX8_branch_128 C hrec hk36 ha0 ha1 ha2 ha6 hW (lv_sub hl [1, 2, 3, 4, 5, 6, 7, 8] rfl) hf
        · have hf := if_f c7 hf
          refine lv_iload C.1 C.2.1 dX8_branch_75 (lv_at hl 5 rfl) ?_
          refine lv_iload C.1 C.2.1 dX8_branch_77 (lv_at hl 0 rfl) ?_
          refine lv_iadd C.1 C.2.1 dX8_branch_79 ?_
          refine lv_aload_n C.1 C.2.1 dX8_branch_80 rfl (lv_at hl 1 rfl) ?_
          refine x_geti C hW (ha0).1 (ha0).2.1 (j := 6) rfl kX8 (by decide) rfl q_190 dX8_branch_81 ?_
          refine lv_icmp_gt (tgt := 128) C.1 C.2.1 dX8_branch_84 (by decide) (fun c8 => ?_) (fun c8 => ?_)
          · have hf := if_t c8 hf
            exact wX8_branch_128 C hrec hk36 ha0 ha1 ha2 ha6 hW (lv_sub hl [1, 2, 3, 4, 5, 6, 7, 8] rfl) hf
          · have hf := if_f c8 hf
            refine lv_aload_n C.1 C.2.1 dX8_branch_87 rfl (lv_at hl 1 rfl) ?_
            refine x_getr C hW (ha0).1 (ha0).2.1 (j := 4) rfl kX8 (by decide) rfl q_188 dX8_branch_88 ?_
            refine lv_iload_n C.1 C.2.1 dX8_branch_91 rfl (lv_at hl 4 rfl) ?_
            refine lv_iload C.1 C.2.1 dX8_branch_92 (lv_at hl 8 rfl) ?_
            obtain ⟨g9, hf⟩ := gd_s hf
            refine x_iast C hW ha0.2.2.2.2.1 g9 dX8_branch_94 (fun H locs hW => ?_)
            obtain ⟨m10, em10⟩ : ∃ z, z = wr m4 (fr a0 4) a3.toNatClampNeg a7 := ⟨_, rfl⟩
            have hf := nm_s hf em10
            rw [← em10] at hW
            refine lv_aload_n C.1 C.2.1 dX8_branch_95 rfl (lv_at hl 1 rfl) ?_
            refine x_getr C hW (ha0).1 (ha0).2.1 (j := 5) rfl kX8 (by decide) rfl q_189 dX8_branch_96 ?_
            refine lv_iload_n C.1 C.2.1 dX8_branch_99 rfl (lv_at hl 4 rfl) ?_
            refine lv_iload C.1 C.2.1 dX8_branch_100 (lv_at hl 0 rfl) ?_
            obtain ⟨g11, hf⟩ := gd_s hf
            refine x_iast C hW ha0.2.2.2.2.2 g11 dX8_branch_102 (fun H locs hW => ?_)
            obtain ⟨m12, em12⟩ : ∃ z, z = wr m10 (fr a0 5) a3.toNatClampNeg x3 := ⟨_, rfl⟩
            have hf := nm_s hf em12
            rw [← em12] at hW
            refine lv_aload_n C.1 C.2.1 dX8_branch_103 rfl (lv_at hl 1 rfl) ?_
            refine lv_aload_n C.1 C.2.1 dX8_branch_104 rfl (lv_at hl 2 rfl) ?_
            refine lv_aload_n C.1 C.2.1 dX8_branch_105 rfl (lv_at hl 3 rfl) ?_
            refine lv_iload_n C.1 C.2.1 dX8_branch_106 rfl (lv_at hl 4 rfl) ?_
            refine lv_iconst (v := 1) C.1 C.2.1 dX8_branch_107 (by decide) ?_
            refine lv_iadd C.1 C.2.1 dX8_branch_108 ?_
            refine lv_iload C.1 C.2.1 dX8_branch_109 (lv_at hl 5 rfl) ?_
            refine lv_iload C.1 C.2.1 dX8_branch_111 (lv_at hl 0 rfl) ?_
            refine lv_iadd C.1 C.2.1 dX8_branch_113 ?_
            refine lv_iload C.1 C.2.1 dX8_branch_114 (lv_at hl 6 rfl) ?_
            refine lv_aload C.1 C.2.1 dX8_branch_116 (lv_at hl 7 rfl) ?_
            refine lv_iconst (v := 0) C.1 C.2.1 dX8_branch_118 (by decide) ?_
            refine lv_iload C.1 C.2.1 dX8_branch_119 (lv_at hl 8 rfl) ?_
            obtain ⟨x13, m14, r15, hf⟩ := bd2_s hf
            refine x_ci hW (x_runV C hW [.int 0, .int a7] [.int a5, .int (a4 + x3), .int (a3 + 1), .ref (ad a2), .ref (ad a1), .ref (ad a0)] (ha6).1 (ha6).2.1 kX9.1 kvX9_points q_512 (tX9_points l C.2.2.2.2.2.2.1 ha6 r15) rfl rfl ⟨by first | decide | (simp only [rmX8_branch, rmX9_points]; omega), by first | decide | (simp only [rmX8_branch, rmX9_points]; omega)⟩ rfl hl.1 rfl (Nat.le_of_ble_eq_true rfl) dX8_branch_121) (fun H locs hW => ?_)
            refine lv_iadd C.1 C.2.1 dX8_branch_124 ?_
            obtain ⟨x16, m17, r18, hf⟩ := bd2_s hf
            refine x_cv hW (x_runS C hW [.ref (ad a0), .ref (ad a1), .ref (ad a2), .int (a3 + 1), .int (a4 + x3), .int (a5 + x13)] [] kvX8_branch q_482 (hrec _ _ _ _ _ _ _ _ ha0 ha1 ha2 r18) rfl rfl ⟨by first | decide | (simp only [rmX8_branch]; omega), by first | decide | (simp only [rmX8_branch]; omega)⟩ rfl hl.1 rfl (Nat.le_of_ble_eq_true rfl) dX8_branch_125) (fun H locs hW => ?_)
            exact wX8_branch_128 C hrec hk36 ha0 ha1 ha2 ha6 hW (lv_sub hl [1, 2, 3, 4, 5, 6, 7, 8] rfl) hf
set_option maxRecDepth 100000 in
set_option maxHeartbeats 4000000 in
theorem wX8_branch_24 (C : Cx p s m meth c args cX8_branch 9 none RX8 D ca ad) {res : Unit × Mm} {d0 : Nat} {N : Nat} {rec : Nat → Nat → Nat → Int32 → Int32 → Int32 → Mm → Option (Unit × Mm)} (hrec : ∀ (a0 : Nat) (a1 : Nat) (a2 : Nat) (a3 : Int32) (a4 : Int32) (a5 : Int32) (mm : Mm) (res : Unit × Mm), (sX8 a0) → (sX0 a1) → (sI a2) → rec a0 a1 a2 a3 a4 a5 mm = some res → Met l yX8_branch (WS yX8_branch cX8_branch 9 none) (rmX8_branch d0) (va_Pc [.ref (ad a0), .ref (ad a1), .ref (ad a2), .int a3, .int a4, .int a5] (WB D ca ad mm)) (QV D ca ad res) 0 0 (AA ad)) {a0 : Nat} {a4 : Int32} {a5 : Int32} {mm : Mm} {H : Heap} {locs : List Loc} {ls : Array Slot} (ha0 : sX8 a0) (hW : Wd D ca ad s.heap mm H locs) (hl : lv_has ls 9 [(0, .ref (ad a0)), (4, .int a4), (5, .int a5)]) (hf : fX8_branch_24 N rec a0 a4 a5 mm = some res) : W p l e (rmX8_branch (d0 + 1)) s m args below meth c H locs 0 0 (MQ below (QV D ca ad res) args s 0 0 (AA ad)) (F0 m 24 ls []) := by
  unfold fX8_branch_24 at hf
  refine lv_aload_n C.1 C.2.1 dX8_branch_24 rfl (lv_at hl 0 rfl) ?_
  refine lv_iload C.1 C.2.1 dX8_branch_25 (lv_at hl 1 rfl) ?_
  refine lv_iload C.1 C.2.1 dX8_branch_27 (lv_at hl 2 rfl) ?_
  obtain ⟨x19, m20, r21, hf⟩ := bd2_s hf
  refine x_cv hW (x_runV C hW [.int a4, .int a5] [] (ha0).1 (ha0).2.1 kX8.1 kvX8_close q_486 (tX8_close l C.2.2.2.2.2.2.1 ha0 r21) rfl rfl ⟨by first | decide | (simp only [rmX8_branch, rmX8_close]; omega), by first | decide | (simp only [rmX8_branch, rmX8_close]; omega)⟩ rfl hl.1 rfl (Nat.le_of_ble_eq_true rfl) dX8_branch_29) (fun H locs hW => ?_)
  cases hf
  exact x_vret C hW dX8_branch_32
set_option maxRecDepth 100000 in
set_option maxHeartbeats 4000000 in
theorem wX8_branch_0 (C : Cx p s m meth c args cX8_branch 9 none RX8 D ca ad) {res : Unit × Mm} {d0 : Nat} {N : Nat} {rec : Nat → Nat → Nat → Int32 → Int32 → Int32 → Mm → Option (Unit × Mm)} (hrec : ∀ (a0 : Nat) (a1 : Nat) (a2 : Nat) (a3 : Int32) (a4 : Int32) (a5 : Int32) (mm : Mm) (res : Unit × Mm), (sX8 a0) → (sX0 a1) → (sI a2) → rec a0 a1 a2 a3 a4 a5 mm = some res → Met l yX8_branch (WS yX8_branch cX8_branch 9 none) (rmX8_branch d0) (va_Pc [.ref (ad a0), .ref (ad a1), .ref (ad a2), .int a3, .int a4, .int a5] (WB D ca ad mm)) (QV D ca ad res) 0 0 (AA ad)) {a0 : Nat} {a1 : Nat} {a2 : Nat} {a3 : Int32} {a4 : Int32} {a5 : Int32} {mm : Mm} {H : Heap} {locs : List Loc} {ls : Array Slot} (ha0 : sX8 a0) (ha1 : sX0 a1) (ha2 : sI a2) (hW : Wd D ca ad s.heap mm H locs) (hl : lv_has ls 9 [(0, .ref (ad a0)), (1, .ref (ad a1)), (2, .ref (ad a2)), (3, .int a3), (4, .int a4), (5, .int a5)]) (hf : fX8_branch_0 N rec a0 a1 a2 a3 a4 a5 mm = some res) : W p l e (rmX8_branch (d0 + 1)) s m args below meth c H locs 0 0 (MQ below (QV D ca ad res) args s 0 0 (AA ad)) (F0 m 0 ls []) := by
  unfold fX8_branch_0 at hf
  refine lv_aload_n C.1 C.2.1 dX8_branch_0 rfl (lv_at hl 1 rfl) ?_
  refine lv_iload_n C.1 C.2.1 dX8_branch_1 rfl (lv_at hl 3 rfl) ?_
  obtain ⟨x22, m23, r24, hf⟩ := bd2_s hf
  refine x_cr hW (x_runV C hW [.int a3] [] (ha1).1 (ha1).2.1 kX0.1 kvX0_suitOf q_485 (tX0_suitOf l C.2.2.2.2.2.2.1 ha1 r24) rfl rfl ⟨by first | decide | (simp only [rmX0_suitOf, rmX8_branch]; omega), by first | decide | (simp only [rmX0_suitOf, rmX8_branch]; omega)⟩ rfl hl.1 rfl (Nat.le_of_ble_eq_true rfl) dX8_branch_2) (fun H locs hW => ?_)
  refine x_astore (lv' := [(6, va_re ad x22), (0, .ref (ad a0)), (1, .ref (ad a1)), (2, .ref (ad a2)), (3, .int a3), (4, .int a4), (5, .int a5)]) C dX8_branch_5 hl (by decide) rfl (fun ls hl => ?_)
  refine x_aload C dX8_branch_7 (lv_at hl 0 rfl) ?_
  refine x_ifnull C (tgt := 24) dX8_branch_9 (by decide) (fun n26 => ?_) (fun z25 n26 => ?_)
  · subst n26
    have hf := cs_n hf
    exact wX8_branch_24 C hrec ha0 hW (lv_sub hl [1, 5, 6] rfl) hf
  · subst n26
    have hf := cs_q hf
    refine lv_iload_n C.1 C.2.1 dX8_branch_12 rfl (lv_at hl 4 rfl) ?_
    refine lv_bipush (v := 6) C.1 C.2.1 dX8_branch_13 (by decide) ?_
    refine lv_icmp_ge (tgt := 24) C.1 C.2.1 dX8_branch_15 (by decide) (fun c27 => ?_) (fun c27 => ?_)
    · have hf := if_t c27 hf
      exact wX8_branch_24 C hrec ha0 hW (lv_sub hl [1, 5, 6] rfl) hf
    · have hf := if_f c27 hf
      refine lv_iload_n C.1 C.2.1 dX8_branch_18 rfl (lv_at hl 4 rfl) ?_
      refine lv_aload_n C.1 C.2.1 dX8_branch_19 rfl (lv_at hl 3 rfl) ?_
      refine x_alen C hW ha2 dX8_branch_20 ?_
      refine lv_icmp_lt (tgt := 33) C.1 C.2.1 dX8_branch_21 (by decide) (fun c28 => ?_) (fun c28 => ?_)
      · have hf := if_t c28 hf
        refine lv_iconst (v := 0) C.1 C.2.1 dX8_branch_33 (by decide) ?_
        refine lv_istore (lv' := [(7, .int 0), (6, .ref (ad z25)), (0, .ref (ad a0)), (1, .ref (ad a1)), (2, .ref (ad a2)), (3, .int a3), (4, .int a4), (5, .int a5)]) C.1 C.2.1 dX8_branch_34 hl (by decide) rfl (fun ls hl => ?_)
        exact wX8_branch_36 C hrec N ha0 ha1 ha2 ((gX0_suitOf ha1 r24) z25 rfl) hW (lv_sub hl [2, 3, 4, 5, 6, 7, 1, 0] rfl) hf
      · have hf := if_f c28 hf
        exact wX8_branch_24 C hrec ha0 hW (lv_sub hl [1, 5, 6] rfl) hf
set_option maxRecDepth 100000 in
set_option maxHeartbeats 4000000 in
theorem tX8_branch (l : Launch) {D : va_G} {ca ad : Nat → Nat} (hi : Inj ad) {N : Nat} : ∀ {d : Nat} {a0 : Nat} {a1 : Nat} {a2 : Nat} {a3 : Int32} {a4 : Int32} {a5 : Int32} {mm : Mm} {res : Unit × Mm}, (sX8 a0) → (sX0 a1) → (sI a2) → fX8_branch N d a0 a1 a2 a3 a4 a5 mm = some res → Met l yX8_branch (WS yX8_branch cX8_branch 9 none) (rmX8_branch d) (va_Pc [.ref (ad a0), .ref (ad a1), .ref (ad a2), .int a3, .int a4, .int a5] (WB D ca ad mm)) (QV D ca ad res) 0 0 (AA ad) := by
  intro d
  induction d with
  | zero => intro a0 a1 a2 a3 a4 a5 mm res ha0 ha1 ha2 hf; cases hf
  | succ d ih =>
    intro a0 a1 a2 a3 a4 a5 mm res ha0 ha1 ha2 hf
    refine x_start hi (by decide) rfl (Nat.le_of_ble_eq_true rfl) (fun p e s m args below meth c ls C hW hl => ?_)
    exact wX8_branch_0 C (d0 := d) (fun a0 a1 a2 a3 a4 a5 mm res ha0 ha1 ha2 hf => by exact (ih ha0 ha1 ha2 hf)) ha0 ha1 ha2 hW (lv_sub hl [0, 1, 2, 3, 4, 5] rfl) hf
set_option maxRecDepth 100000 in
set_option maxHeartbeats 4000000 in
theorem wX8_run_0 (C : Cx p s m meth c args cX8_run 5 none RX8 D ca ad) {res : Unit × Mm} {N : Nat}  {a0 : Nat} {a1 : Nat} {a2 : Int32} {a3 : Nat} {a4 : Int32} {mm : Mm} {H : Heap} {locs : List Loc} {ls : Array Slot} (ha0 : sX8 a0) (ha1 : sX0 a1) (ha3 : sI a3) (hW : Wd D ca ad s.heap mm H locs) (hl : lv_has ls 5 [(0, .ref (ad a0)), (1, .ref (ad a1)), (2, .int a2), (3, .ref (ad a3)), (4, .int a4)]) (hf : fX8_run N a0 a1 a2 a3 a4 mm = some res) : W p l e (rmX8_run) s m args below meth c H locs 0 0 (MQ below (QV D ca ad res) args s 0 0 (AA ad)) (F0 m 0 ls []) := by
  unfold fX8_run at hf
  refine lv_aload_n C.1 C.2.1 dX8_run_0 rfl (lv_at hl 0 rfl) ?_
  refine lv_iload_n C.1 C.2.1 dX8_run_1 rfl (lv_at hl 2 rfl) ?_
  refine x_put C hW (ha0).1 (ha0).2.1 (j := 7) (t1 := .int) rfl kX8 (by decide) rfl rfl q_191 (by decide +kernel) rfl rfl dX8_run_2 (fun H locs hW => ?_)
  obtain ⟨m1, em1⟩ : ∃ z, z = wr mm a0 7 a2 := ⟨_, rfl⟩
  have hf := nm_s hf em1
  rw [← em1] at hW
  refine lv_aload_n C.1 C.2.1 dX8_run_5 rfl (lv_at hl 0 rfl) ?_
  refine lv_iload C.1 C.2.1 dX8_run_6 (lv_at hl 4 rfl) ?_
  refine lv_sipush (v := 240) C.1 C.2.1 dX8_run_8 (by decide) ?_
  refine va_mmin C.1 C.2.1 (C.2.2.1.trans hl.1.symm) C.2.2.2.1 (C.2.2.2.2.1 _ q_478) (C.2.2.2.2.1 _ q_421) (C.2.2.2.2.1 _ q_15) (C.2.2.2.2.1 _ q_422) (by decide) (Nat.le_of_ble_eq_true rfl) (Nat.zero_le _) (Nat.zero_le _) dX8_run_11 ?_
  refine lv_topi (fun x2 ex2 => ?_)
  have hf := nm_s hf ex2
  refine x_put C hW (ha0).1 (ha0).2.1 (j := 6) (t1 := .int) rfl kX8 (by decide) rfl rfl q_190 (by decide +kernel) rfl rfl dX8_run_14 (fun H locs hW => ?_)
  obtain ⟨m3, em3⟩ : ∃ z, z = wr m1 a0 6 x2 := ⟨_, rfl⟩
  have hf := nm_s hf em3
  rw [← em3] at hW
  refine lv_aload_n C.1 C.2.1 dX8_run_17 rfl (lv_at hl 0 rfl) ?_
  refine lv_iconst (v := (-1)) C.1 C.2.1 dX8_run_18 (by decide) ?_
  refine x_put C hW (ha0).1 (ha0).2.1 (j := 1) (t1 := .int) rfl kX8 (by decide) rfl rfl q_183 (by decide +kernel) rfl rfl dX8_run_19 (fun H locs hW => ?_)
  obtain ⟨m4, em4⟩ : ∃ z, z = wr m3 a0 1 (-1) := ⟨_, rfl⟩
  have hf := nm_s hf em4
  rw [← em4] at hW
  refine lv_aload_n C.1 C.2.1 dX8_run_22 rfl (lv_at hl 0 rfl) ?_
  refine lv_iconst (v := 0) C.1 C.2.1 dX8_run_23 (by decide) ?_
  refine x_put C hW (ha0).1 (ha0).2.1 (j := 2) (t1 := .int) rfl kX8 (by decide) rfl rfl q_185 (by decide +kernel) rfl rfl dX8_run_24 (fun H locs hW => ?_)
  obtain ⟨m5, em5⟩ : ∃ z, z = wr m4 a0 2 0 := ⟨_, rfl⟩
  have hf := nm_s hf em5
  rw [← em5] at hW
  refine lv_aload_n C.1 C.2.1 dX8_run_27 rfl (lv_at hl 0 rfl) ?_
  refine x_getr C hW (ha0).1 (ha0).2.1 (j := 3) rfl kX8 (by decide) rfl q_187 dX8_run_28 ?_
  refine lv_iconst (v := (-1)) C.1 C.2.1 dX8_run_31 (by decide) ?_
  obtain ⟨x6, m7, r8, hf⟩ := bd2_s hf
  refine x_cv hW (x_runS C hW [.ref (ad (fr a0 3)), .int (-1)] [] kvJ7_fill_53178 q_479 (tJ7_fill_53178 l C.2.2.2.2.2.2.1 ha0.2.2.2.1 r8) rfl rfl ⟨by decide, by decide⟩ rfl hl.1 rfl (Nat.le_of_ble_eq_true rfl) dX8_run_32) (fun H locs hW => ?_)
  refine lv_aload_n C.1 C.2.1 dX8_run_35 rfl (lv_at hl 0 rfl) ?_
  refine x_getr C hW (ha0).1 (ha0).2.1 (j := 0) rfl kX8 (by decide) rfl q_181 dX8_run_36 ?_
  refine lv_iconst (v := 0) C.1 C.2.1 dX8_run_39 (by decide) ?_
  obtain ⟨x9, m10, r11, hf⟩ := bd2_s hf
  refine x_cv hW (x_runS C hW [.ref (ad (fr a0 0)), .int 0] [] kvJ7_fill_53178 q_479 (tJ7_fill_53178 l C.2.2.2.2.2.2.1 ha0.2.2.1 r11) rfl rfl ⟨by decide, by decide⟩ rfl hl.1 rfl (Nat.le_of_ble_eq_true rfl) dX8_run_40) (fun H locs hW => ?_)
  refine lv_aload_n C.1 C.2.1 dX8_run_43 rfl (lv_at hl 0 rfl) ?_
  refine x_getr C hW (ha0).1 (ha0).2.1 (j := 5) rfl kX8 (by decide) rfl q_189 dX8_run_44 ?_
  refine lv_iconst (v := 0) C.1 C.2.1 dX8_run_47 (by decide) ?_
  obtain ⟨x12, m13, r14, hf⟩ := bd2_s hf
  refine x_cv hW (x_runS C hW [.ref (ad (fr a0 5)), .int 0] [] kvJ7_fill_53178 q_479 (tJ7_fill_53178 l C.2.2.2.2.2.2.1 ha0.2.2.2.2.2 r14) rfl rfl ⟨by decide, by decide⟩ rfl hl.1 rfl (Nat.le_of_ble_eq_true rfl) dX8_run_48) (fun H locs hW => ?_)
  refine lv_aload_n C.1 C.2.1 dX8_run_51 rfl (lv_at hl 0 rfl) ?_
  refine lv_aload_n C.1 C.2.1 dX8_run_52 rfl (lv_at hl 1 rfl) ?_
  refine lv_aload_n C.1 C.2.1 dX8_run_53 rfl (lv_at hl 3 rfl) ?_
  refine lv_iconst (v := 0) C.1 C.2.1 dX8_run_54 (by decide) ?_
  refine lv_iconst (v := 0) C.1 C.2.1 dX8_run_55 (by decide) ?_
  refine lv_iconst (v := 0) C.1 C.2.1 dX8_run_56 (by decide) ?_
  obtain ⟨x15, m16, r17, hf⟩ := bd2_s hf
  refine x_cv hW (x_runS C hW [.ref (ad a0), .ref (ad a1), .ref (ad a3), .int 0, .int 0, .int 0] [] kvX8_branch q_482 (tX8_branch l C.2.2.2.2.2.2.1 (d := 9) ha0 ha1 ha3 r17) rfl rfl ⟨by first | decide | (simp only [rmX8_branch, rmX8_run]; omega), by first | decide | (simp only [rmX8_branch, rmX8_run]; omega)⟩ rfl hl.1 rfl (Nat.le_of_ble_eq_true rfl) dX8_run_57) (fun H locs hW => ?_)
  cases hf
  exact x_vret C hW dX8_run_60
set_option maxRecDepth 100000 in
set_option maxHeartbeats 4000000 in
theorem tX8_run (l : Launch) {D : va_G} {ca ad : Nat → Nat} (hi : Inj ad) {N : Nat} {a0 : Nat} {a1 : Nat} {a2 : Int32} {a3 : Nat} {a4 : Int32} {mm : Mm} {res : Unit × Mm} (ha0 : sX8 a0) (ha1 : sX0 a1) (ha3 : sI a3) (hf : fX8_run N a0 a1 a2 a3 a4 mm = some res) : Met l yX8_run (WS yX8_run cX8_run 5 none) (rmX8_run) (va_Pc [.ref (ad a0), .ref (ad a1), .int a2, .ref (ad a3), .int a4] (WB D ca ad mm)) (QV D ca ad res) 0 0 (AA ad) := by
  refine x_start hi (by decide) rfl (Nat.le_of_ble_eq_true rfl) (fun p e s m args below meth c ls C hW hl => ?_)
  exact wX8_run_0 C ha0 ha1 ha3 hW (lv_sub hl [0, 1, 2, 3, 4] rfl) hf
set_option maxRecDepth 100000 in
set_option maxHeartbeats 4000000 in
theorem wX8_mostBy_4 (C : Cx p s m meth c args cX8_mostBy 4 (some .int) RX8 D ca ad) {res : Int32 × Mm} {N : Nat}  : ∀ (n : Nat) {a0 : Nat} {a1 : Int32} {a2 : Int32} {a3 : Int32} {mm : Mm} {H : Heap} {locs : List Loc} {ls : Array Slot}, (sX8 a0) → Wd D ca ad s.heap mm H locs → lv_has ls 4 [(0, .ref (ad a0)), (1, .int a1), (2, .int a2), (3, .int a3)] → fX8_mostBy_4 N n a0 a1 a2 a3 mm = some res → W p l e (rmX8_mostBy) s m args below meth c H locs 0 0 (MQ below (QI D ca ad res) args s 0 0 (AA ad)) (F0 m 4 ls []) := by
  intro n
  induction n with
  | zero => intro a0 a1 a2 a3 mm H locs ls ha0 hW hl hf; cases hf
  | succ n ih =>
    intro a0 a1 a2 a3 mm H locs ls ha0 hW hl hf
    have hk4 : ∀ (a0 : Nat) (a1 : Int32) (a2 : Int32) (a3 : Int32) (mm : Mm) (H : Heap) (locs : List Loc) (ls : Array Slot), (sX8 a0) → Wd D ca ad s.heap mm H locs → lv_has ls 4 [(0, .ref (ad a0)), (1, .int a1), (2, .int a2), (3, .int a3)] → (fX8_mostBy_4 N n) a0 a1 a2 a3 mm = some res → W p l e (rmX8_mostBy) s m args below meth c H locs 0 0 (MQ below (QI D ca ad res) args s 0 0 (AA ad)) (F0 m 4 ls []) := fun a0 a1 a2 a3 mm H locs ls ha0 hW hl hf => ih ha0 hW hl hf
    unfold fX8_mostBy_4 at hf
    try dsimp only at hf
    refine lv_iload_n C.1 C.2.1 dX8_mostBy_4 rfl (lv_at hl 3 rfl) ?_
    refine lv_iload_n C.1 C.2.1 dX8_mostBy_5 rfl (lv_at hl 1 rfl) ?_
    refine lv_icmp_gt (tgt := 35) C.1 C.2.1 dX8_mostBy_6 (by decide) (fun c1 => ?_) (fun c1 => ?_)
    · have hf := if_t c1 hf
      refine lv_iload_n C.1 C.2.1 dX8_mostBy_35 rfl (lv_at hl 2 rfl) ?_
      cases hf
      exact x_iret C hW dX8_mostBy_36
    · have hf := if_f c1 hf
      refine lv_iload_n C.1 C.2.1 dX8_mostBy_9 rfl (lv_at hl 3 rfl) ?_
      refine lv_aload_n C.1 C.2.1 dX8_mostBy_10 rfl (lv_at hl 0 rfl) ?_
      refine x_getr C hW (ha0).1 (ha0).2.1 (j := 3) rfl kX8 (by decide) rfl q_187 dX8_mostBy_11 ?_
      refine x_alen C hW ha0.2.2.2.1 dX8_mostBy_14 ?_
      refine lv_icmp_ge (tgt := 35) C.1 C.2.1 dX8_mostBy_15 (by decide) (fun c2 => ?_) (fun c2 => ?_)
      · have hf := if_t c2 hf
        refine lv_iload_n C.1 C.2.1 dX8_mostBy_35 rfl (lv_at hl 2 rfl) ?_
        cases hf
        exact x_iret C hW dX8_mostBy_36
      · have hf := if_f c2 hf
        refine lv_iload_n C.1 C.2.1 dX8_mostBy_18 rfl (lv_at hl 2 rfl) ?_
        refine lv_aload_n C.1 C.2.1 dX8_mostBy_19 rfl (lv_at hl 0 rfl) ?_
        refine x_getr C hW (ha0).1 (ha0).2.1 (j := 3) rfl kX8 (by decide) rfl q_187 dX8_mostBy_20 ?_
        refine lv_iload_n C.1 C.2.1 dX8_mostBy_23 rfl (lv_at hl 3 rfl) ?_
        obtain ⟨g3, hf⟩ := gd_s hf
        refine x_iald C hW ha0.2.2.2.1 g3 dX8_mostBy_24 ?_
        refine va_mmax C.1 C.2.1 (C.2.2.1.trans hl.1.symm) C.2.2.2.1 (C.2.2.2.2.1 _ q_532) (C.2.2.2.2.1 _ q_424) (C.2.2.2.2.1 _ q_15) (C.2.2.2.2.1 _ q_425) (by decide) (Nat.le_of_ble_eq_true rfl) (Nat.zero_le _) (Nat.zero_le _) dX8_mostBy_25 ?_
        refine lv_topi (fun x4 ex4 => ?_)
        have hf := nm_s hf ex4
        refine lv_istore_n (lv' := [(2, .int x4), (0, .ref (ad a0)), (1, .int a1), (3, .int a3)]) C.1 C.2.1 dX8_mostBy_28 rfl hl (by decide) rfl (fun ls hl => ?_)
        refine lv_iinc (v := (a3 + 1)) (lv' := [(3, .int (a3 + 1)), (2, .int x4), (0, .ref (ad a0)), (1, .int a1)]) C.1 C.2.1 dX8_mostBy_29 hl (k := 3) rfl rfl (by decide) rfl (fun ls hl => ?_)
        refine lv_goto (tgt := 4) C.1 C.2.1 dX8_mostBy_32 (by decide) ?_
        exact hk4 _ _ _ _ _ _ _ _ ha0 hW (lv_sub hl [2, 3, 1, 0] rfl) hf
set_option maxRecDepth 100000 in
set_option maxHeartbeats 4000000 in
theorem wX8_mostBy_0 (C : Cx p s m meth c args cX8_mostBy 4 (some .int) RX8 D ca ad) {res : Int32 × Mm} {N : Nat}  {a0 : Nat} {a1 : Int32} {mm : Mm} {H : Heap} {locs : List Loc} {ls : Array Slot} (ha0 : sX8 a0) (hW : Wd D ca ad s.heap mm H locs) (hl : lv_has ls 4 [(0, .ref (ad a0)), (1, .int a1)]) (hf : fX8_mostBy N a0 a1 mm = some res) : W p l e (rmX8_mostBy) s m args below meth c H locs 0 0 (MQ below (QI D ca ad res) args s 0 0 (AA ad)) (F0 m 0 ls []) := by
  unfold fX8_mostBy at hf
  refine lv_iconst (v := 0) C.1 C.2.1 dX8_mostBy_0 (by decide) ?_
  refine lv_istore_n (lv' := [(2, .int 0), (0, .ref (ad a0)), (1, .int a1)]) C.1 C.2.1 dX8_mostBy_1 rfl hl (by decide) rfl (fun ls hl => ?_)
  refine lv_iconst (v := 0) C.1 C.2.1 dX8_mostBy_2 (by decide) ?_
  refine lv_istore_n (lv' := [(3, .int 0), (2, .int 0), (0, .ref (ad a0)), (1, .int a1)]) C.1 C.2.1 dX8_mostBy_3 rfl hl (by decide) rfl (fun ls hl => ?_)
  exact wX8_mostBy_4 C  N ha0 hW (lv_sub hl [2, 3, 1, 0] rfl) hf
set_option maxRecDepth 100000 in
set_option maxHeartbeats 4000000 in
theorem tX8_mostBy (l : Launch) {D : va_G} {ca ad : Nat → Nat} (hi : Inj ad) {N : Nat} {a0 : Nat} {a1 : Int32} {mm : Mm} {res : Int32 × Mm} (ha0 : sX8 a0) (hf : fX8_mostBy N a0 a1 mm = some res) : Met l yX8_mostBy (WS yX8_mostBy cX8_mostBy 4 (some .int)) (rmX8_mostBy) (va_Pc [.ref (ad a0), .int a1] (WB D ca ad mm)) (QI D ca ad res) 0 0 (AA ad) := by
  refine x_start hi (by decide) rfl (Nat.le_of_ble_eq_true rfl) (fun p e s m args below meth c ls C hW hl => ?_)
  exact wX8_mostBy_0 C ha0 hW (lv_sub hl [0, 1] rfl) hf
set_option maxRecDepth 100000 in
set_option maxHeartbeats 4000000 in
theorem wX8_fewestFor_2 (C : Cx p s m meth c args cX8_fewestFor 3 (some .int) RX8 D ca ad) {res : Int32 × Mm} {N : Nat}  : ∀ (n : Nat) {a0 : Nat} {a1 : Int32} {a2 : Int32} {mm : Mm} {H : Heap} {locs : List Loc} {ls : Array Slot}, (sX8 a0) → Wd D ca ad s.heap mm H locs → lv_has ls 3 [(0, .ref (ad a0)), (1, .int a1), (2, .int a2)] → fX8_fewestFor_2 N n a0 a1 a2 mm = some res → W p l e (rmX8_fewestFor) s m args below meth c H locs 0 0 (MQ below (QI D ca ad res) args s 0 0 (AA ad)) (F0 m 2 ls []) := by
  intro n
  induction n with
  | zero => intro a0 a1 a2 mm H locs ls ha0 hW hl hf; cases hf
  | succ n ih =>
    intro a0 a1 a2 mm H locs ls ha0 hW hl hf
    have hk2 : ∀ (a0 : Nat) (a1 : Int32) (a2 : Int32) (mm : Mm) (H : Heap) (locs : List Loc) (ls : Array Slot), (sX8 a0) → Wd D ca ad s.heap mm H locs → lv_has ls 3 [(0, .ref (ad a0)), (1, .int a1), (2, .int a2)] → (fX8_fewestFor_2 N n) a0 a1 a2 mm = some res → W p l e (rmX8_fewestFor) s m args below meth c H locs 0 0 (MQ below (QI D ca ad res) args s 0 0 (AA ad)) (F0 m 2 ls []) := fun a0 a1 a2 mm H locs ls ha0 hW hl hf => ih ha0 hW hl hf
    unfold fX8_fewestFor_2 at hf
    try dsimp only at hf
    refine lv_iload_n C.1 C.2.1 dX8_fewestFor_2 rfl (lv_at hl 2 rfl) ?_
    refine lv_aload_n C.1 C.2.1 dX8_fewestFor_3 rfl (lv_at hl 0 rfl) ?_
    refine x_getr C hW (ha0).1 (ha0).2.1 (j := 3) rfl kX8 (by decide) rfl q_187 dX8_fewestFor_4 ?_
    refine x_alen C hW ha0.2.2.2.1 dX8_fewestFor_7 ?_
    refine lv_icmp_ge (tgt := 29) C.1 C.2.1 dX8_fewestFor_8 (by decide) (fun c1 => ?_) (fun c1 => ?_)
    · have hf := if_t c1 hf
      refine lv_bipush (v := (-9)) C.1 C.2.1 dX8_fewestFor_29 (by decide) ?_
      cases hf
      exact x_iret C hW dX8_fewestFor_31
    · have hf := if_f c1 hf
      refine lv_aload_n C.1 C.2.1 dX8_fewestFor_11 rfl (lv_at hl 0 rfl) ?_
      refine x_getr C hW (ha0).1 (ha0).2.1 (j := 3) rfl kX8 (by decide) rfl q_187 dX8_fewestFor_12 ?_
      refine lv_iload_n C.1 C.2.1 dX8_fewestFor_15 rfl (lv_at hl 2 rfl) ?_
      obtain ⟨g2, hf⟩ := gd_s hf
      refine x_iald C hW ha0.2.2.2.1 g2 dX8_fewestFor_16 ?_
      refine lv_iload_n C.1 C.2.1 dX8_fewestFor_17 rfl (lv_at hl 1 rfl) ?_
      refine lv_icmp_lt (tgt := 23) C.1 C.2.1 dX8_fewestFor_18 (by decide) (fun c3 => ?_) (fun c3 => ?_)
      · have hf := if_t c3 hf
        refine lv_iinc (v := (a2 + 1)) (lv' := [(2, .int (a2 + 1)), (0, .ref (ad a0)), (1, .int a1)]) C.1 C.2.1 dX8_fewestFor_23 hl (k := 2) rfl rfl (by decide) rfl (fun ls hl => ?_)
        refine lv_goto (tgt := 2) C.1 C.2.1 dX8_fewestFor_26 (by decide) ?_
        exact hk2 _ _ _ _ _ _ _ ha0 hW (lv_sub hl [1, 2, 0] rfl) hf
      · have hf := if_f c3 hf
        refine lv_iload_n C.1 C.2.1 dX8_fewestFor_21 rfl (lv_at hl 2 rfl) ?_
        cases hf
        exact x_iret C hW dX8_fewestFor_22
set_option maxRecDepth 100000 in
set_option maxHeartbeats 4000000 in
theorem wX8_fewestFor_0 (C : Cx p s m meth c args cX8_fewestFor 3 (some .int) RX8 D ca ad) {res : Int32 × Mm} {N : Nat}  {a0 : Nat} {a1 : Int32} {mm : Mm} {H : Heap} {locs : List Loc} {ls : Array Slot} (ha0 : sX8 a0) (hW : Wd D ca ad s.heap mm H locs) (hl : lv_has ls 3 [(0, .ref (ad a0)), (1, .int a1)]) (hf : fX8_fewestFor N a0 a1 mm = some res) : W p l e (rmX8_fewestFor) s m args below meth c H locs 0 0 (MQ below (QI D ca ad res) args s 0 0 (AA ad)) (F0 m 0 ls []) := by
  unfold fX8_fewestFor at hf
  refine lv_iconst (v := 0) C.1 C.2.1 dX8_fewestFor_0 (by decide) ?_
  refine lv_istore_n (lv' := [(2, .int 0), (0, .ref (ad a0)), (1, .int a1)]) C.1 C.2.1 dX8_fewestFor_1 rfl hl (by decide) rfl (fun ls hl => ?_)
  exact wX8_fewestFor_2 C  N ha0 hW (lv_sub hl [1, 2, 0] rfl) hf
set_option maxRecDepth 100000 in
set_option maxHeartbeats 4000000 in
theorem tX8_fewestFor (l : Launch) {D : va_G} {ca ad : Nat → Nat} (hi : Inj ad) {N : Nat} {a0 : Nat} {a1 : Int32} {mm : Mm} {res : Int32 × Mm} (ha0 : sX8 a0) (hf : fX8_fewestFor N a0 a1 mm = some res) : Met l yX8_fewestFor (WS yX8_fewestFor cX8_fewestFor 3 (some .int)) (rmX8_fewestFor) (va_Pc [.ref (ad a0), .int a1] (WB D ca ad mm)) (QI D ca ad res) 0 0 (AA ad) := by
  refine x_start hi (by decide) rfl (Nat.le_of_ble_eq_true rfl) (fun p e s m args below meth c ls C hW hl => ?_)
  exact wX8_fewestFor_0 C ha0 hW (lv_sub hl [0, 1] rfl) hf
end W_search10
