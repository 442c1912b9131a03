theorem dX1_branch_0 : decode cX1_branch 0 = .ok (.iload 5, 2) := by decide +kernel
theorem dX1_branch_2 : decode cX1_branch 2 = .ok (.aload_n 0, 1) := by decide +kernel
theorem dX1_branch_3 : decode cX1_branch 3 = .ok (.getfield 16, 3) := by decide +kernel
theorem dX1_branch_6 : decode cX1_branch 6 = .ok (.if_icmp .ge 14, 3) := by decide +kernel
theorem dX1_branch_9 : decode cX1_branch 9 = .ok (.aload_n 0, 1) := by decide +kernel
theorem dX1_branch_10 : decode cX1_branch 10 = .ok (.getfield 16, 3) := by decide +kernel
theorem dX1_branch_13 : decode cX1_branch 13 = .ok (.aload_n 0, 1) := by decide +kernel
theorem dX1_branch_14 : decode cX1_branch 14 = .ok (.getfield 20, 3) := by decide +kernel
theorem dX1_branch_17 : decode cX1_branch 17 = .ok (.if_icmp .gt 4, 3) := by decide +kernel
theorem dX1_branch_20 : decode cX1_branch 20 = .ok (.return_, 1) := by decide +kernel
theorem dX1_branch_21 : decode cX1_branch 21 = .ok (.aload_n 1, 1) := by decide +kernel
theorem dX1_branch_22 : decode cX1_branch 22 = .ok (.iload_n 3, 1) := by decide +kernel
theorem dX1_branch_23 : decode cX1_branch 23 = .ok (.invokevirtual 32, 3) := by decide +kernel
theorem dX1_branch_26 : decode cX1_branch 26 = .ok (.astore 6, 2) := by decide +kernel
theorem dX1_branch_28 : decode cX1_branch 28 = .ok (.aload 6, 2) := by decide +kernel
theorem dX1_branch_30 : decode cX1_branch 30 = .ok (.ifnull 15, 3) := by decide +kernel
theorem dX1_branch_33 : decode cX1_branch 33 = .ok (.iload_n 3, 1) := by decide +kernel
theorem dX1_branch_34 : decode cX1_branch 34 = .ok (.bipush 6, 2) := by decide +kernel
theorem dX1_branch_36 : decode cX1_branch 36 = .ok (.if_icmp .ge 9, 3) := by decide +kernel
theorem dX1_branch_39 : decode cX1_branch 39 = .ok (.iload_n 3, 1) := by decide +kernel
theorem dX1_branch_40 : decode cX1_branch 40 = .ok (.aload_n 2, 1) := by decide +kernel
theorem dX1_branch_41 : decode cX1_branch 41 = .ok (.arraylength, 1) := by decide +kernel
theorem dX1_branch_42 : decode cX1_branch 42 = .ok (.if_icmp .lt 10, 3) := by decide +kernel
theorem dX1_branch_45 : decode cX1_branch 45 = .ok (.aload_n 0, 1) := by decide +kernel
theorem dX1_branch_46 : decode cX1_branch 46 = .ok (.iload 5, 2) := by decide +kernel
theorem dX1_branch_48 : decode cX1_branch 48 = .ok (.putfield 16, 3) := by decide +kernel
theorem dX1_branch_51 : decode cX1_branch 51 = .ok (.return_, 1) := by decide +kernel
theorem dX1_branch_52 : decode cX1_branch 52 = .ok (.iconst 0, 1) := by decide +kernel
theorem dX1_branch_53 : decode cX1_branch 53 = .ok (.istore 7, 2) := by decide +kernel
theorem dX1_branch_55 : decode cX1_branch 55 = .ok (.iload 7, 2) := by decide +kernel
theorem dX1_branch_57 : decode cX1_branch 57 = .ok (.iconst 3, 1) := by decide +kernel
theorem dX1_branch_58 : decode cX1_branch 58 = .ok (.if_icmp .ge 75, 3) := by decide +kernel
theorem dX1_branch_61 : decode cX1_branch 61 = .ok (.aload_n 1, 1) := by decide +kernel
theorem dX1_branch_62 : decode cX1_branch 62 = .ok (.iload_n 3, 1) := by decide +kernel
theorem dX1_branch_63 : decode cX1_branch 63 = .ok (.iconst 1, 1) := by decide +kernel
theorem dX1_branch_64 : decode cX1_branch 64 = .ok (.iload 7, 2) := by decide +kernel
theorem dX1_branch_66 : decode cX1_branch 66 = .ok (.aload_n 2, 1) := by decide +kernel
theorem dX1_branch_67 : decode cX1_branch 67 = .ok (.iload_n 3, 1) := by decide +kernel
theorem dX1_branch_68 : decode cX1_branch 68 = .ok (.iaload, 1) := by decide +kernel
theorem dX1_branch_69 : decode cX1_branch 69 = .ok (.aload_n 1, 1) := by decide +kernel
theorem dX1_branch_70 : decode cX1_branch 70 = .ok (.getfield 36, 3) := by decide +kernel
theorem dX1_branch_73 : decode cX1_branch 73 = .ok (.aload_n 0, 1) := by decide +kernel
theorem dX1_branch_74 : decode cX1_branch 74 = .ok (.getfield 9, 3) := by decide +kernel
theorem dX1_branch_77 : decode cX1_branch 77 = .ok (.invokevirtual 39, 3) := by decide +kernel
theorem dX1_branch_80 : decode cX1_branch 80 = .ok (.istore 8, 2) := by decide +kernel
theorem dX1_branch_82 : decode cX1_branch 82 = .ok (.iload 8, 2) := by decide +kernel
theorem dX1_branch_84 : decode cX1_branch 84 = .ok (.ifCond .lt 43, 3) := by decide +kernel
theorem dX1_branch_87 : decode cX1_branch 87 = .ok (.iload 8, 2) := by decide +kernel
theorem dX1_branch_89 : decode cX1_branch 89 = .ok (.iload 4, 2) := by decide +kernel
theorem dX1_branch_91 : decode cX1_branch 91 = .ok (.if_icmp .gt 36, 3) := by decide +kernel
theorem dX1_branch_94 : decode cX1_branch 94 = .ok (.aload_n 0, 1) := by decide +kernel
theorem dX1_branch_95 : decode cX1_branch 95 = .ok (.getfield 9, 3) := by decide +kernel
theorem dX1_branch_98 : decode cX1_branch 98 = .ok (.iload_n 3, 1) := by decide +kernel
theorem dX1_branch_99 : decode cX1_branch 99 = .ok (.iload 7, 2) := by decide +kernel
theorem dX1_branch_101 : decode cX1_branch 101 = .ok (.iastore, 1) := by decide +kernel
theorem dX1_branch_102 : decode cX1_branch 102 = .ok (.aload_n 0, 1) := by decide +kernel
theorem dX1_branch_103 : decode cX1_branch 103 = .ok (.aload_n 1, 1) := by decide +kernel
theorem dX1_branch_104 : decode cX1_branch 104 = .ok (.aload_n 2, 1) := by decide +kernel
theorem dX1_branch_105 : decode cX1_branch 105 = .ok (.iload_n 3, 1) := by decide +kernel
theorem dX1_branch_106 : decode cX1_branch 106 = .ok (.iconst 1, 1) := by decide +kernel
theorem dX1_branch_107 : decode cX1_branch 107 = .ok (.iadd, 1) := by decide +kernel
theorem dX1_branch_108 : decode cX1_branch 108 = .ok (.iload 4, 2) := by decide +kernel
theorem dX1_branch_110 : decode cX1_branch 110 = .ok (.iload 8, 2) := by decide +kernel
theorem dX1_branch_112 : decode cX1_branch 112 = .ok (.isub, 1) := by decide +kernel
theorem dX1_branch_113 : decode cX1_branch 113 = .ok (.iload 5, 2) := by decide +kernel
theorem dX1_branch_115 : decode cX1_branch 115 = .ok (.aload 6, 2) := by decide +kernel
theorem dX1_branch_117 : decode cX1_branch 117 = .ok (.iconst 0, 1) := by decide +kernel
theorem dX1_branch_118 : decode cX1_branch 118 = .ok (.iload 7, 2) := by decide +kernel
theorem dX1_branch_120 : decode cX1_branch 120 = .ok (.invokevirtual 43, 3) := by decide +kernel
theorem dX1_branch_123 : decode cX1_branch 123 = .ok (.iadd, 1) := by decide +kernel
theorem dX1_branch_124 : decode cX1_branch 124 = .ok (.invokestatic 28, 3) := by decide +kernel
theorem dX1_branch_127 : decode cX1_branch 127 = .ok (.iinc 7 1, 3) := by decide +kernel
theorem dX1_branch_130 : decode cX1_branch 130 = .ok (.goto (-75), 3) := by decide +kernel
theorem dX1_branch_133 : decode cX1_branch 133 = .ok (.return_, 1) := by decide +kernel
theorem dX1_leastFor_0 : decode cX1_leastFor 0 = .ok (.aload_n 0, 1) := by decide +kernel
theorem dX1_leastFor_1 : decode cX1_leastFor 1 = .ok (.ldc 15, 2) := by decide +kernel
theorem dX1_leastFor_3 : decode cX1_leastFor 3 = .ok (.putfield 16, 3) := by decide +kernel
theorem dX1_leastFor_6 : decode cX1_leastFor 6 = .ok (.aload_n 0, 1) := by decide +kernel
theorem dX1_leastFor_7 : decode cX1_leastFor 7 = .ok (.iload_n 3, 1) := by decide +kernel
theorem dX1_leastFor_8 : decode cX1_leastFor 8 = .ok (.putfield 20, 3) := by decide +kernel
theorem dX1_leastFor_11 : decode cX1_leastFor 11 = .ok (.aload_n 0, 1) := by decide +kernel
theorem dX1_leastFor_12 : decode cX1_leastFor 12 = .ok (.aload_n 1, 1) := by decide +kernel
theorem dX1_leastFor_13 : decode cX1_leastFor 13 = .ok (.aload_n 2, 1) := by decide +kernel
theorem dX1_leastFor_14 : decode cX1_leastFor 14 = .ok (.iconst 0, 1) := by decide +kernel
theorem dX1_leastFor_15 : decode cX1_leastFor 15 = .ok (.aload_n 1, 1) := by decide +kernel
theorem dX1_leastFor_16 : decode cX1_leastFor 16 = .ok (.getfield 23, 3) := by decide +kernel
theorem dX1_leastFor_19 : decode cX1_leastFor 19 = .ok (.iconst 1, 1) := by decide +kernel
theorem dX1_leastFor_20 : decode cX1_leastFor 20 = .ok (.iaload, 1) := by decide +kernel
theorem dX1_leastFor_21 : decode cX1_leastFor 21 = .ok (.iconst 0, 1) := by decide +kernel
theorem dX1_leastFor_22 : decode cX1_leastFor 22 = .ok (.invokestatic 28, 3) := by decide +kernel
theorem dX1_leastFor_25 : decode cX1_leastFor 25 = .ok (.aload_n 0, 1) := by decide +kernel
theorem dX1_leastFor_26 : decode cX1_leastFor 26 = .ok (.getfield 16, 3) := by decide +kernel
theorem dX1_leastFor_29 : decode cX1_leastFor 29 = .ok (.ireturn, 1) := by decide +kernel
theorem dX4_weighAll_0 : decode cX4_weighAll 0 = .ok (.aload_n 0, 1) := by decide +kernel
theorem dX4_weighAll_1 : decode cX4_weighAll 1 = .ok (.getfield 21, 3) := by decide +kernel
theorem dX4_weighAll_4 : decode cX4_weighAll 4 = .ok (.ldc 25, 2) := by decide +kernel
theorem dX4_weighAll_6 : decode cX4_weighAll 6 = .ok (.invokestatic 26, 3) := by decide +kernel
theorem dX4_weighAll_9 : decode cX4_weighAll 9 = .ok (.aload_n 2, 1) := by decide +kernel
theorem dX4_weighAll_10 : decode cX4_weighAll 10 = .ok (.aload_n 1, 1) := by decide +kernel
theorem dX4_weighAll_11 : decode cX4_weighAll 11 = .ok (.getfield 32, 3) := by decide +kernel
theorem dX4_weighAll_14 : decode cX4_weighAll 14 = .ok (.aload_n 1, 1) := by decide +kernel
theorem dX4_weighAll_15 : decode cX4_weighAll 15 = .ok (.getfield 38, 3) := by decide +kernel
theorem dX4_weighAll_18 : decode cX4_weighAll 18 = .ok (.iconst 1, 1) := by decide +kernel
theorem dX4_weighAll_19 : decode cX4_weighAll 19 = .ok (.iaload, 1) := by decide +kernel
theorem dX4_weighAll_20 : decode cX4_weighAll 20 = .ok (.invokevirtual 41, 3) := by decide +kernel
theorem dX4_weighAll_23 : decode cX4_weighAll 23 = .ok (.iconst 0, 1) := by decide +kernel
theorem dX4_weighAll_24 : decode cX4_weighAll 24 = .ok (.istore 5, 2) := by decide +kernel
theorem dX4_weighAll_26 : decode cX4_weighAll 26 = .ok (.iconst 0, 1) := by decide +kernel
theorem dX4_weighAll_27 : decode cX4_weighAll 27 = .ok (.istore 6, 2) := by decide +kernel
theorem dX4_weighAll_29 : decode cX4_weighAll 29 = .ok (.iload 5, 2) := by decide +kernel
theorem dX4_weighAll_31 : decode cX4_weighAll 31 = .ok (.ifCond .lt 112, 3) := by decide +kernel
theorem dX4_weighAll_34 : decode cX4_weighAll 34 = .ok (.iload 6, 2) := by decide +kernel
theorem dX4_weighAll_36 : decode cX4_weighAll 36 = .ok (.ldc 25, 2) := by decide +kernel
theorem dX4_weighAll_38 : decode cX4_weighAll 38 = .ok (.if_icmp .ge 105, 3) := by decide +kernel
theorem dX4_weighAll_41 : decode cX4_weighAll 41 = .ok (.aload_n 0, 1) := by decide +kernel
theorem dX4_weighAll_42 : decode cX4_weighAll 42 = .ok (.getfield 12, 3) := by decide +kernel
theorem dX4_weighAll_45 : decode cX4_weighAll 45 = .ok (.aload_n 1, 1) := by decide +kernel
theorem dX4_weighAll_46 : decode cX4_weighAll 46 = .ok (.aload_n 3, 1) := by decide +kernel
theorem dX4_weighAll_47 : decode cX4_weighAll 47 = .ok (.aload_n 2, 1) := by decide +kernel
theorem dX4_weighAll_48 : decode cX4_weighAll 48 = .ok (.getfield 47, 3) := by decide +kernel
theorem dX4_weighAll_51 : decode cX4_weighAll 51 = .ok (.iload 5, 2) := by decide +kernel
theorem dX4_weighAll_53 : decode cX4_weighAll 53 = .ok (.invokevirtual 50, 3) := by decide +kernel
theorem dX4_weighAll_56 : decode cX4_weighAll 56 = .ok (.aload_n 0, 1) := by decide +kernel
theorem dX4_weighAll_57 : decode cX4_weighAll 57 = .ok (.getfield 18, 3) := by decide +kernel
theorem dX4_weighAll_60 : decode cX4_weighAll 60 = .ok (.aload_n 1, 1) := by decide +kernel
theorem dX4_weighAll_61 : decode cX4_weighAll 61 = .ok (.aload 4, 2) := by decide +kernel
theorem dX4_weighAll_63 : decode cX4_weighAll 63 = .ok (.aload_n 2, 1) := by decide +kernel
theorem dX4_weighAll_64 : decode cX4_weighAll 64 = .ok (.getfield 47, 3) := by decide +kernel
theorem dX4_weighAll_67 : decode cX4_weighAll 67 = .ok (.iload 5, 2) := by decide +kernel
theorem dX4_weighAll_69 : decode cX4_weighAll 69 = .ok (.invokevirtual 50, 3) := by decide +kernel
theorem dX4_weighAll_72 : decode cX4_weighAll 72 = .ok (.aload_n 0, 1) := by decide +kernel
theorem dX4_weighAll_73 : decode cX4_weighAll 73 = .ok (.getfield 12, 3) := by decide +kernel
theorem dX4_weighAll_76 : decode cX4_weighAll 76 = .ok (.getfield 54, 3) := by decide +kernel
theorem dX4_weighAll_79 : decode cX4_weighAll 79 = .ok (.ifCond .lt 52, 3) := by decide +kernel
theorem dX4_weighAll_82 : decode cX4_weighAll 82 = .ok (.aload_n 0, 1) := by decide +kernel
theorem dX4_weighAll_83 : decode cX4_weighAll 83 = .ok (.getfield 12, 3) := by decide +kernel
theorem dX4_weighAll_86 : decode cX4_weighAll 86 = .ok (.getfield 54, 3) := by decide +kernel
theorem dX4_weighAll_89 : decode cX4_weighAll 89 = .ok (.aload_n 0, 1) := by decide +kernel
theorem dX4_weighAll_90 : decode cX4_weighAll 90 = .ok (.getfield 21, 3) := by decide +kernel
theorem dX4_weighAll_93 : decode cX4_weighAll 93 = .ok (.arraylength, 1) := by decide +kernel
theorem dX4_weighAll_94 : decode cX4_weighAll 94 = .ok (.if_icmp .ge 37, 3) := by decide +kernel
theorem dX4_weighAll_97 : decode cX4_weighAll 97 = .ok (.aload_n 0, 1) := by decide +kernel
theorem dX4_weighAll_98 : decode cX4_weighAll 98 = .ok (.getfield 21, 3) := by decide +kernel
theorem dX4_weighAll_101 : decode cX4_weighAll 101 = .ok (.aload_n 0, 1) := by decide +kernel
theorem dX4_weighAll_102 : decode cX4_weighAll 102 = .ok (.getfield 12, 3) := by decide +kernel
theorem dX4_weighAll_105 : decode cX4_weighAll 105 = .ok (.getfield 54, 3) := by decide +kernel
theorem dX4_weighAll_108 : decode cX4_weighAll 108 = .ok (.aload_n 0, 1) := by decide +kernel
theorem dX4_weighAll_109 : decode cX4_weighAll 109 = .ok (.getfield 21, 3) := by decide +kernel
theorem dX4_weighAll_112 : decode cX4_weighAll 112 = .ok (.aload_n 0, 1) := by decide +kernel
theorem dX4_weighAll_113 : decode cX4_weighAll 113 = .ok (.getfield 12, 3) := by decide +kernel
theorem dX4_weighAll_116 : decode cX4_weighAll 116 = .ok (.getfield 54, 3) := by decide +kernel
theorem dX4_weighAll_119 : decode cX4_weighAll 119 = .ok (.iaload, 1) := by decide +kernel
theorem dX4_weighAll_120 : decode cX4_weighAll 120 = .ok (.aload_n 0, 1) := by decide +kernel
theorem dX4_weighAll_121 : decode cX4_weighAll 121 = .ok (.getfield 18, 3) := by decide +kernel
theorem dX4_weighAll_124 : decode cX4_weighAll 124 = .ok (.getfield 54, 3) := by decide +kernel
theorem dX4_weighAll_127 : decode cX4_weighAll 127 = .ok (.invokestatic 57, 3) := by decide +kernel
theorem dX4_weighAll_130 : decode cX4_weighAll 130 = .ok (.iastore, 1) := by decide +kernel
theorem dX4_weighAll_131 : decode cX4_weighAll 131 = .ok (.aload_n 2, 1) := by decide +kernel
theorem dX4_weighAll_132 : decode cX4_weighAll 132 = .ok (.invokevirtual 63, 3) := by decide +kernel
theorem dX4_weighAll_135 : decode cX4_weighAll 135 = .ok (.istore 5, 2) := by decide +kernel
theorem dX4_weighAll_137 : decode cX4_weighAll 137 = .ok (.iinc 6 1, 3) := by decide +kernel
theorem dX4_weighAll_140 : decode cX4_weighAll 140 = .ok (.goto (-111), 3) := by decide +kernel
theorem dX4_weighAll_143 : decode cX4_weighAll 143 = .ok (.return_, 1) := by decide +kernel
theorem dX4_leastBy_0 : decode cX4_leastBy 0 = .ok (.ldc 25, 2) := by decide +kernel
theorem dX4_leastBy_2 : decode cX4_leastBy 2 = .ok (.istore_n 3, 1) := by decide +kernel
theorem dX4_leastBy_3 : decode cX4_leastBy 3 = .ok (.iconst 0, 1) := by decide +kernel
theorem dX4_leastBy_4 : decode cX4_leastBy 4 = .ok (.istore 4, 2) := by decide +kernel
theorem dX4_leastBy_6 : decode cX4_leastBy 6 = .ok (.iload 4, 2) := by decide +kernel
theorem dX4_leastBy_8 : decode cX4_leastBy 8 = .ok (.aload_n 0, 1) := by decide +kernel
theorem dX4_leastBy_9 : decode cX4_leastBy 9 = .ok (.getfield 21, 3) := by decide +kernel
theorem dX4_leastBy_12 : decode cX4_leastBy 12 = .ok (.arraylength, 1) := by decide +kernel
theorem dX4_leastBy_13 : decode cX4_leastBy 13 = .ok (.if_icmp .ge 42, 3) := by decide +kernel
theorem dX4_leastBy_16 : decode cX4_leastBy 16 = .ok (.aload_n 0, 1) := by decide +kernel
theorem dX4_leastBy_17 : decode cX4_leastBy 17 = .ok (.getfield 21, 3) := by decide +kernel
theorem dX4_leastBy_20 : decode cX4_leastBy 20 = .ok (.iload 4, 2) := by decide +kernel
theorem dX4_leastBy_22 : decode cX4_leastBy 22 = .ok (.iaload, 1) := by decide +kernel
theorem dX4_leastBy_23 : decode cX4_leastBy 23 = .ok (.ldc 25, 2) := by decide +kernel
theorem dX4_leastBy_25 : decode cX4_leastBy 25 = .ok (.if_icmp .ge 24, 3) := by decide +kernel
theorem dX4_leastBy_28 : decode cX4_leastBy 28 = .ok (.iload_n 3, 1) := by decide +kernel
theorem dX4_leastBy_29 : decode cX4_leastBy 29 = .ok (.iload_n 1, 1) := by decide +kernel
theorem dX4_leastBy_30 : decode cX4_leastBy 30 = .ok (.iload 4, 2) := by decide +kernel
theorem dX4_leastBy_32 : decode cX4_leastBy 32 = .ok (.imul, 1) := by decide +kernel
theorem dX4_leastBy_33 : decode cX4_leastBy 33 = .ok (.iload_n 2, 1) := by decide +kernel
theorem dX4_leastBy_34 : decode cX4_leastBy 34 = .ok (.iload_n 1, 1) := by decide +kernel
theorem dX4_leastBy_35 : decode cX4_leastBy 35 = .ok (.isub, 1) := by decide +kernel
theorem dX4_leastBy_36 : decode cX4_leastBy 36 = .ok (.aload_n 0, 1) := by decide +kernel
theorem dX4_leastBy_37 : decode cX4_leastBy 37 = .ok (.getfield 21, 3) := by decide +kernel
theorem dX4_leastBy_40 : decode cX4_leastBy 40 = .ok (.iload 4, 2) := by decide +kernel
theorem dX4_leastBy_42 : decode cX4_leastBy 42 = .ok (.iaload, 1) := by decide +kernel
theorem dX4_leastBy_43 : decode cX4_leastBy 43 = .ok (.imul, 1) := by decide +kernel
theorem dX4_leastBy_44 : decode cX4_leastBy 44 = .ok (.iadd, 1) := by decide +kernel
theorem dX4_leastBy_45 : decode cX4_leastBy 45 = .ok (.invokestatic 57, 3) := by decide +kernel
theorem dX4_leastBy_48 : decode cX4_leastBy 48 = .ok (.istore_n 3, 1) := by decide +kernel
theorem dX4_leastBy_49 : decode cX4_leastBy 49 = .ok (.iinc 4 1, 3) := by decide +kernel
theorem dX4_leastBy_52 : decode cX4_leastBy 52 = .ok (.goto (-46), 3) := by decide +kernel
theorem dX4_leastBy_55 : decode cX4_leastBy 55 = .ok (.iload_n 3, 1) := by decide +kernel
theorem dX4_leastBy_56 : decode cX4_leastBy 56 = .ok (.ireturn, 1) := by decide +kernel
theorem dX4_bestParts_0 : decode cX4_bestParts 0 = .ok (.iconst 0, 1) := by decide +kernel
theorem dX4_bestParts_1 : decode cX4_bestParts 1 = .ok (.istore_n 1, 1) := by decide +kernel
theorem dX4_bestParts_2 : decode cX4_bestParts 2 = .ok (.iconst 1, 1) := by decide +kernel
theorem dX4_bestParts_3 : decode cX4_bestParts 3 = .ok (.istore_n 2, 1) := by decide +kernel
theorem dX4_bestParts_4 : decode cX4_bestParts 4 = .ok (.iload_n 2, 1) := by decide +kernel
theorem dX4_bestParts_5 : decode cX4_bestParts 5 = .ok (.bipush 12, 2) := by decide +kernel
theorem dX4_bestParts_7 : decode cX4_bestParts 7 = .ok (.if_icmp .gt 28, 3) := by decide +kernel
theorem dX4_bestParts_10 : decode cX4_bestParts 10 = .ok (.aload_n 0, 1) := by decide +kernel
theorem dX4_bestParts_11 : decode cX4_bestParts 11 = .ok (.iload_n 2, 1) := by decide +kernel
theorem dX4_bestParts_12 : decode cX4_bestParts 12 = .ok (.bipush 12, 2) := by decide +kernel
theorem dX4_bestParts_14 : decode cX4_bestParts 14 = .ok (.invokevirtual 67, 3) := by decide +kernel
theorem dX4_bestParts_17 : decode cX4_bestParts 17 = .ok (.aload_n 0, 1) := by decide +kernel
theorem dX4_bestParts_18 : decode cX4_bestParts 18 = .ok (.iload_n 1, 1) := by decide +kernel
theorem dX4_bestParts_19 : decode cX4_bestParts 19 = .ok (.bipush 12, 2) := by decide +kernel
theorem dX4_bestParts_21 : decode cX4_bestParts 21 = .ok (.invokevirtual 67, 3) := by decide +kernel
theorem dX4_bestParts_24 : decode cX4_bestParts 24 = .ok (.if_icmp .le 5, 3) := by decide +kernel
theorem dX4_bestParts_27 : decode cX4_bestParts 27 = .ok (.iload_n 2, 1) := by decide +kernel
theorem dX4_bestParts_28 : decode cX4_bestParts 28 = .ok (.istore_n 1, 1) := by decide +kernel
theorem dX4_bestParts_29 : decode cX4_bestParts 29 = .ok (.iinc 2 1, 3) := by decide +kernel
theorem dX4_bestParts_32 : decode cX4_bestParts 32 = .ok (.goto (-28), 3) := by decide +kernel
theorem dX4_bestParts_35 : decode cX4_bestParts 35 = .ok (.iload_n 1, 1) := by decide +kernel
theorem dX4_bestParts_36 : decode cX4_bestParts 36 = .ok (.ireturn, 1) := by decide +kernel
theorem q_75 : Cond.fieldLink RX1 36 "HeavyFiles$Court" "damp" "I" ∈ wT := wi_t 75 (by decide +kernel) (by decide +kernel)
theorem q_215 : Cond.fieldLink RX1 9 "HeavyFiles$Dread" "winners" "[I" ∈ wT := wi_t 215 (by decide +kernel) (by decide +kernel)
theorem q_568 : Cond.methodLink RX1 39 yX0_need ∈ wT := wi_t 568 (by decide +kernel) (by decide +kernel)
theorem q_569 : Cond.methodLink RX1 43 yX9_points ∈ wT := wi_t 569 (by decide +kernel) (by decide +kernel)
theorem q_564 : Cond.methodLink RX1 28 yX1_branch ∈ wT := wi_t 564 (by decide +kernel) (by decide +kernel)
theorem q_566 : Cond.code yX1_branch cX1_branch 9 none ∈ wT := wi_t 566 (by decide +kernel) (by decide +kernel)
theorem q_565 : Cond.static yX1_branch ∈ wT := wi_t 565 (by decide +kernel) (by decide +kernel)
theorem q_8 : Cond.initialized RX1 ∈ wT := wi_t 8 (by decide +kernel) (by decide +kernel)
theorem q_216 : Cond.fieldLink RX1 16 "HeavyFiles$Dread" "least" "I" ∈ wT := wi_t 216 (by decide +kernel) (by decide +kernel)
theorem q_217 : Cond.fieldLink RX1 20 "HeavyFiles$Dread" "enough" "I" ∈ wT := wi_t 217 (by decide +kernel) (by decide +kernel)
theorem q_567 : Cond.methodLink RX1 32 yX0_suitOf ∈ wT := wi_t 567 (by decide +kernel) (by decide +kernel)
theorem q_563 : Cond.constant RX1 15 1000000 ∈ wT := wi_t 563 (by decide +kernel) (by decide +kernel)
theorem q_61 : Cond.fieldLink RX1 23 "HeavyFiles$Court" "stocks" "[I" ∈ wT := wi_t 61 (by decide +kernel) (by decide +kernel)
theorem q_591 : Cond.methodLink RX4 63 yX3_next ∈ wT := wi_t 591 (by decide +kernel) (by decide +kernel)
theorem q_547 : Cond.code yX3_next cX3_next 2 (some .int) ∈ wT := wi_t 547 (by decide +kernel) (by decide +kernel)
theorem q_545 : Cond.instanceMethod yX3_next ∈ wT := wi_t 545 (by decide +kernel) (by decide +kernel)
theorem q_6 : Cond.initialized RX3 ∈ wT := wi_t 6 (by decide +kernel) (by decide +kernel)
theorem q_546 : Cond.selects RX3 yX3_next yX3_next ∈ wT := wi_t 546 (by decide +kernel) (by decide +kernel)
theorem q_586 : Cond.constant RX4 25 1000000 ∈ wT := wi_t 586 (by decide +kernel) (by decide +kernel)
theorem q_233 : Cond.fieldLink RX4 12 "HeavyFiles$Mixing" "first" "LHeavyFiles$Scale;" ∈ wT := wi_t 233 (by decide +kernel) (by decide +kernel)
theorem q_164 : Cond.fieldLink RX4 47 "HeavyFiles$Layings" "laid" "[I" ∈ wT := wi_t 164 (by decide +kernel) (by decide +kernel)
theorem q_589 : Cond.methodLink RX4 50 yX7_weigh ∈ wT := wi_t 589 (by decide +kernel) (by decide +kernel)
theorem q_419 : Cond.code yX7_weigh cX7_weigh 11 none ∈ wT := wi_t 419 (by decide +kernel) (by decide +kernel)
theorem q_417 : Cond.instanceMethod yX7_weigh ∈ wT := wi_t 417 (by decide +kernel) (by decide +kernel)
theorem q_5 : Cond.initialized RX7 ∈ wT := wi_t 5 (by decide +kernel) (by decide +kernel)
theorem q_418 : Cond.selects RX7 yX7_weigh yX7_weigh ∈ wT := wi_t 418 (by decide +kernel) (by decide +kernel)
theorem q_234 : Cond.fieldLink RX4 18 "HeavyFiles$Mixing" "second" "LHeavyFiles$Scale;" ∈ wT := wi_t 234 (by decide +kernel) (by decide +kernel)
theorem q_143 : Cond.fieldLink RX4 54 "HeavyFiles$Scale" "score" "I" ∈ wT := wi_t 143 (by decide +kernel) (by decide +kernel)
theorem q_235 : Cond.fieldLink RX4 21 "HeavyFiles$Mixing" "least" "[I" ∈ wT := wi_t 235 (by decide +kernel) (by decide +kernel)
theorem q_590 : Cond.methodLink RX4 57 Lib.Math.min.name ∈ wT := wi_t 590 (by decide +kernel) (by decide +kernel)
theorem q_587 : Cond.methodLink RX4 26 yJ7_fill_53178 ∈ wT := wi_t 587 (by decide +kernel) (by decide +kernel)
theorem q_69 : Cond.fieldLink RX4 32 "HeavyFiles$Court" "size" "I" ∈ wT := wi_t 69 (by decide +kernel) (by decide +kernel)
theorem q_60 : Cond.fieldLink RX4 38 "HeavyFiles$Court" "stocks" "[I" ∈ wT := wi_t 60 (by decide +kernel) (by decide +kernel)
theorem q_588 : Cond.methodLink RX4 41 yX3_begin ∈ wT := wi_t 588 (by decide +kernel) (by decide +kernel)
theorem q_540 : Cond.code yX3_begin cX3_begin 3 none ∈ wT := wi_t 540 (by decide +kernel) (by decide +kernel)
theorem q_538 : Cond.instanceMethod yX3_begin ∈ wT := wi_t 538 (by decide +kernel) (by decide +kernel)
theorem q_539 : Cond.selects RX3 yX3_begin yX3_begin ∈ wT := wi_t 539 (by decide +kernel) (by decide +kernel)
theorem q_604 : Cond.methodLink RX4 67 yX4_leastBy ∈ wT := wi_t 604 (by decide +kernel) (by decide +kernel)
theorem q_595 : Cond.code yX4_leastBy cX4_leastBy 5 (some .int) ∈ wT := wi_t 595 (by decide +kernel) (by decide +kernel)
theorem q_593 : Cond.instanceMethod yX4_leastBy ∈ wT := wi_t 593 (by decide +kernel) (by decide +kernel)
theorem q_9 : Cond.initialized RX4 ∈ wT := wi_t 9 (by decide +kernel) (by decide +kernel)
theorem q_594 : Cond.selects RX4 yX4_leastBy yX4_leastBy ∈ wT := wi_t 594 (by decide +kernel) (by decide +kernel)
theorem kvX1_branch : KS yX1_branch cX1_branch 9 none 6 := ⟨q_565, q_8, q_566, by decide +kernel, by decide +kernel, by decide +kernel⟩
theorem kvX3_next : KV yX3_next RX3 cX3_next 2 (some .int) 0 := ⟨q_545, q_546, q_6, q_547, rfl, by decide +kernel, by decide +kernel, by decide +kernel⟩
theorem kvX7_weigh : KV yX7_weigh RX7 cX7_weigh 11 none 4 := ⟨q_417, q_418, q_5, q_419, rfl, by decide +kernel, by decide +kernel, by decide +kernel⟩
theorem kvX3_begin : KV yX3_begin RX3 cX3_begin 3 none 2 := ⟨q_538, q_539, q_6, q_540, rfl, by decide +kernel, by decide +kernel, by decide +kernel⟩
theorem kvX4_leastBy : KV yX4_leastBy RX4 cX4_leastBy 5 (some .int) 2 := ⟨q_593, q_594, q_9, q_595, rfl, by decide +kernel, by decide +kernel, by decide +kernel⟩
/-! HeavyFiles$Dread.branch(LHeavyFiles$Dread;LHeavyFiles$Court;[IIII)V -/
def fX1_branch_127 (N : Nat) (rec : Nat → Nat → Nat → Int32 → Int32 → Int32 → Mm → Option (Unit × Mm)) (k55 : Nat → Nat → Nat → Int32 → Int32 → Int32 → Nat → Int32 → Mm → Option (Unit × Mm)) (a0 : Nat) (a1 : Nat) (a2 : Nat) (a3 : Int32) (a4 : Int32) (a5 : Int32) (a6 : Nat) (a7 : Int32) (mm : Mm) : Option (Unit × Mm) :=
  k55 a0 a1 a2 a3 a4 a5 a6 (a7 + 1) mm
def fX1_branch_55 (N : Nat) (rec : Nat → Nat → Nat → Int32 → Int32 → Int32 → Mm → Option (Unit × Mm)) : Nat → Nat → Nat → Nat → Int32 → Int32 → Int32 → Nat → Int32 → Mm → Option (Unit × Mm)
  | 0 => fun _ _ _ _ _ _ _ _ _ => none
  | n + 1 => fun a0 a1 a2 a3 a4 a5 a6 a7 mm =>
    let k55 := fX1_branch_55 N rec n
    if (3 : Int32) ≤ a7 then (some ((), mm)) else (gd (inb a3 (ln a2)) <| bd2 (fX0_need N a1 a3 1 a7 (rd mm a2 a3.toNatClampNeg) (rd mm a1 6) (fr a0 0) mm) fun x3 m4 => if x3 < 0 then (fX1_branch_127 N rec k55 a0 a1 a2 a3 a4 a5 a6 a7 m4) else (if a4 < x3 then (fX1_branch_127 N rec k55 a0 a1 a2 a3 a4 a5 a6 a7 m4) else (gd (inb a3 (ln (fr a0 0))) <| nm (wr m4 (fr a0 0) a3.toNatClampNeg a7) fun m9 => bd2 (fX9_points N a6 0 a7 m9) fun x10 m11 => bd2 (rec a0 a1 a2 (a3 + 1) (a4 - x3) (a5 + x10) m11) fun x13 m14 => fX1_branch_127 N rec k55 a0 a1 a2 a3 a4 a5 a6 a7 m14)))
def fX1_branch_45 (N : Nat) (rec : Nat → Nat → Nat → Int32 → Int32 → Int32 → Mm → Option (Unit × Mm)) (a0 : Nat) (a5 : Int32) (mm : Mm) : Option (Unit × Mm) :=
  nm (wr mm a0 1 a5) fun m16 => some ((), m16)
def fX1_branch_0 (N : Nat) (rec : Nat → Nat → Nat → Int32 → Int32 → Int32 → Mm → Option (Unit × Mm)) (a0 : Nat) (a1 : Nat) (a2 : Nat) (a3 : Int32) (a4 : Int32) (a5 : Int32) (mm : Mm) : Option (Unit × Mm) :=
  if (rd mm a0 1) ≤ a5 then (some ((), mm)) else (if (rd mm a0 2) < (rd mm a0 1) then (bd2 (fX0_suitOf N a1 a3 mm) fun x19 m20 => cs x19 (fX1_branch_45 N rec a0 a5 m20) (fun z22 => if (6 : Int32) ≤ a3 then (fX1_branch_45 N rec a0 a5 m20) else (if a3 < (Int32.ofNat (ln a2)) then (fX1_branch_55 N rec N a0 a1 a2 a3 a4 a5 z22 0 m20) else (fX1_branch_45 N rec a0 a5 m20)))) else (some ((), mm)))
def fX1_branch (N : Nat) : Nat → Nat → Nat → Nat → Int32 → Int32 → Int32 → Mm → Option (Unit × Mm)
  | 0 => fun _ _ _ _ _ _ _ => none
  | d + 1 => fun a0 a1 a2 a3 a4 a5 mm => fX1_branch_0 N (fX1_branch N d) a0 a1 a2 a3 a4 a5 mm
def rmX1_branch (d : Nat) : Room := { frames := 5 + d, cells := 0, slots := 0, locals := 172 + d * 49 }
/-! HeavyFiles$Dread.leastFor(LHeavyFiles$Court;[II)I -/
def fX1_leastFor (N : Nat)  (a0 : Nat) (a1 : Nat) (a2 : Nat) (a3 : Int32) (mm : Mm) : Option (Int32 × Mm) :=
  nm (wr mm a0 1 1000000) fun m1 => nm (wr m1 a0 2 a3) fun m2 => gd (inb 1 (ln (fr a1 1))) <| bd2 (fX1_branch N 9 a0 a1 a2 0 (rd m2 (fr a1 1) ((1 : Int32).toNatClampNeg)) 0 m2) fun x4 m5 => some (rd m5 a0 1, m5)
abbrev rmX1_leastFor : Room := { frames := 15, cells := 0, slots := 0, locals := 829 }
/-! HeavyFiles$Mixing.weighAll(LHeavyFiles$Court;LHeavyFiles$Layings;[I[I)V -/
def fX4_weighAll_131 (N : Nat) (k29 : Nat → Nat → Nat → Nat → Nat → Int32 → Int32 → Mm → Option (Unit × Mm)) (a0 : Nat) (a1 : Nat) (a2 : Nat) (a3 : Nat) (a4 : Nat) (a6 : Int32) (mm : Mm) : Option (Unit × Mm) :=
  bd2 (fX3_next N a2 mm) fun x1 m2 => k29 a0 a1 a2 a3 a4 x1 (a6 + 1) m2
def fX4_weighAll_29 (N : Nat)  : Nat → Nat → Nat → Nat → Nat → Nat → Int32 → Int32 → Mm → Option (Unit × Mm)
  | 0 => fun _ _ _ _ _ _ _ _ => none
  | n + 1 => fun a0 a1 a2 a3 a4 a5 a6 mm =>
    let k29 := fX4_weighAll_29 N  n
    if a5 < 0 then (some ((), mm)) else (if (1000000 : Int32) ≤ a6 then (some ((), mm)) else (bd2 (fX7_weigh N (fr a0 0) a1 a3 (fr a2 0) a5 mm) fun x6 m7 => bd2 (fX7_weigh N (fr a0 1) a1 a4 (fr a2 0) a5 m7) fun x9 m10 => if (rd m10 (fr a0 0) 3) < 0 then (fX4_weighAll_131 N k29 a0 a1 a2 a3 a4 a6 m10) else (if (Int32.ofNat (ln (fr a0 2))) ≤ (rd m10 (fr a0 0) 3) then (fX4_weighAll_131 N k29 a0 a1 a2 a3 a4 a6 m10) else (gd (inb (rd m10 (fr a0 0) 3) (ln (fr a0 2))) <| nm (if (rd m10 (fr a0 1) 3) < (rd m10 (fr a0 2) ((rd m10 (fr a0 0) 3).toNatClampNeg)) then (rd m10 (fr a0 1) 3) else (rd m10 (fr a0 2) ((rd m10 (fr a0 0) 3).toNatClampNeg))) fun x15 => gd (inb (rd m10 (fr a0 0) 3) (ln (fr a0 2))) <| nm (wr m10 (fr a0 2) (rd m10 (fr a0 0) 3).toNatClampNeg x15) fun m17 => fX4_weighAll_131 N k29 a0 a1 a2 a3 a4 a6 m17))))
def fX4_weighAll (N : Nat)  (a0 : Nat) (a1 : Nat) (a2 : Nat) (a3 : Nat) (a4 : Nat) (mm : Mm) : Option (Unit × Mm) :=
  bd2 (fJ7_fill_53178 N (fr a0 2) 1000000 mm) fun x18 m19 => gd (inb 1 (ln (fr a1 1))) <| bd2 (fX3_begin N a2 (rd m19 a1 5) (rd m19 (fr a1 1) ((1 : Int32).toNatClampNeg)) m19) fun x22 m23 => fX4_weighAll_29 N N a0 a1 a2 a3 a4 0 0 m23
abbrev rmX4_weighAll : Room := { frames := 4, cells := 0, slots := 0, locals := 136 }
/-! HeavyFiles$Mixing.leastBy(II)I -/
def fX4_leastBy_49 (N : Nat) (k6 : Nat → Int32 → Int32 → Int32 → Int32 → Mm → Option (Int32 × Mm)) (a0 : Nat) (a1 : Int32) (a2 : Int32) (a3 : Int32) (a4 : Int32) (mm : Mm) : Option (Int32 × Mm) :=
  k6 a0 a1 a2 a3 (a4 + 1) mm
def fX4_leastBy_6 (N : Nat)  : Nat → Nat → Int32 → Int32 → Int32 → Int32 → Mm → Option (Int32 × Mm)
  | 0 => fun _ _ _ _ _ _ => none
  | n + 1 => fun a0 a1 a2 a3 a4 mm =>
    let k6 := fX4_leastBy_6 N  n
    if (Int32.ofNat (ln (fr a0 2))) ≤ a4 then (some (a3, mm)) else (gd (inb a4 (ln (fr a0 2))) <| if (1000000 : Int32) ≤ (rd mm (fr a0 2) a4.toNatClampNeg) then (fX4_leastBy_49 N k6 a0 a1 a2 a3 a4 mm) else (gd (inb a4 (ln (fr a0 2))) <| nm (if ((a1 * a4) + ((a2 - a1) * (rd mm (fr a0 2) a4.toNatClampNeg))) < a3 then ((a1 * a4) + ((a2 - a1) * (rd mm (fr a0 2) a4.toNatClampNeg))) else a3) fun x5 => fX4_leastBy_49 N k6 a0 a1 a2 x5 a4 mm))
def fX4_leastBy (N : Nat)  (a0 : Nat) (a1 : Int32) (a2 : Int32) (mm : Mm) : Option (Int32 × Mm) :=
  fX4_leastBy_6 N N a0 a1 a2 1000000 0 mm
abbrev rmX4_leastBy : Room := { frames := 2, cells := 0, slots := 0, locals := 69 }
/-! HeavyFiles$Mixing.bestParts()I -/
def fX4_bestParts_29 (N : Nat) (k4 : Nat → Int32 → Int32 → Mm → Option (Int32 × Mm)) (a0 : Nat) (a1 : Int32) (a2 : Int32) (mm : Mm) : Option (Int32 × Mm) :=
  k4 a0 a1 (a2 + 1) mm
def fX4_bestParts_4 (N : Nat)  : Nat → Nat → Int32 → Int32 → Mm → Option (Int32 × Mm)
  | 0 => fun _ _ _ _ => none
  | n + 1 => fun a0 a1 a2 mm =>
    let k4 := fX4_bestParts_4 N  n
    if (12 : Int32) < a2 then (some (a1, mm)) else (bd2 (fX4_leastBy N a0 a2 12 mm) fun x2 m3 => bd2 (fX4_leastBy N a0 a1 12 m3) fun x5 m6 => if x2 ≤ x5 then (fX4_bestParts_29 N k4 a0 a1 a2 m6) else (fX4_bestParts_29 N k4 a0 a2 a2 m6))
def fX4_bestParts (N : Nat)  (a0 : Nat) (mm : Mm) : Option (Int32 × Mm) :=
  fX4_bestParts_4 N N a0 0 1 mm
abbrev rmX4_bestParts : Room := { frames := 3, cells := 0, slots := 0, locals := 101 }
section W_dread11
variable {p : Program} {l : Launch} {e : Env} {s : State} {m : MethodId} {args : Array Value} {below : List Frame} {meth : Method} {c : Code} {D : va_G} {ca ad : Nat → Nat}
set_option maxRecDepth 100000 in
set_option maxHeartbeats 4000000 in
theorem wX1_branch_127 (C : Cx p s m meth c args cX1_branch 9 none RX1 D ca ad) {res : Unit × Mm} {d0 : Nat} {N : Nat} {rec : Nat → Nat → Nat → Int32 → Int32 → Int32 → Mm → Option (Unit × Mm)} {k55 : Nat → Nat → Nat → Int32 → Int32 → Int32 → Nat → Int32 → Mm → Option (Unit × Mm)} (hrec : ∀ (a0 : Nat) (a1 : Nat) (a2 : Nat) (a3 : Int32) (a4 : Int32) (a5 : Int32) (mm : Mm) (res : Unit × Mm), (sX1 a0) → (sX0 a1) → (sI a2) → rec a0 a1 a2 a3 a4 a5 mm = some res → Met l yX1_branch (WS yX1_branch cX1_branch 9 none) (rmX1_branch d0) (va_Pc [.ref (ad a0), .ref (ad a1), .ref (ad a2), .int a3, .int a4, .int a5] (WB D ca ad mm)) (QV D ca ad res) 0 0 (AA ad)) (hk55 : ∀ (a0 : Nat) (a1 : Nat) (a2 : Nat) (a3 : Int32) (a4 : Int32) (a5 : Int32) (a6 : Nat) (a7 : Int32) (mm : Mm) (H : Heap) (locs : List Loc) (ls : Array Slot), (sX1 a0) → (sX0 a1) → (sI a2) → (sX9 a6) → Wd D ca ad s.heap mm H locs → lv_has ls 9 [(0, .ref (ad a0)), (1, .ref (ad a1)), (2, .ref (ad a2)), (3, .int a3), (4, .int a4), (5, .int a5), (6, .ref (ad a6)), (7, .int a7)] → k55 a0 a1 a2 a3 a4 a5 a6 a7 mm = some res → W p l e (rmX1_branch (d0 + 1)) s m args below meth c H locs 0 0 (MQ below (QV D ca ad res) args s 0 0 (AA ad)) (F0 m 55 ls [])) {a0 : Nat} {a1 : Nat} {a2 : Nat} {a3 : Int32} {a4 : Int32} {a5 : Int32} {a6 : Nat} {a7 : Int32} {mm : Mm} {H : Heap} {locs : List Loc} {ls : Array Slot} (ha0 : sX1 a0) (ha1 : sX0 a1) (ha2 : sI a2) (ha6 : sX9 a6) (hW : Wd D ca ad s.heap mm H locs) (hl : lv_has ls 9 [(0, .ref (ad a0)), (1, .ref (ad a1)), (2, .ref (ad a2)), (3, .int a3), (4, .int a4), (5, .int a5), (6, .ref (ad a6)), (7, .int a7)]) (hf : fX1_branch_127 N rec k55 a0 a1 a2 a3 a4 a5 a6 a7 mm = some res) : W p l e (rmX1_branch (d0 + 1)) s m args below meth c H locs 0 0 (MQ below (QV D ca ad res) args s 0 0 (AA ad)) (F0 m 127 ls []) := by
  unfold fX1_branch_127 at hf
  refine lv_iinc (v := (a7 + 1)) (lv' := [(7, .int (a7 + 1)), (0, .ref (ad a0)), (1, .ref (ad a1)), (2, .ref (ad a2)), (3, .int a3), (4, .int a4), (5, .int a5), (6, .ref (ad a6))]) C.1 C.2.1 dX1_branch_127 hl (k := 7) rfl rfl (by decide) rfl (fun ls hl => ?_)
  refine lv_goto (tgt := 55) C.1 C.2.1 dX1_branch_130 (by decide) ?_
  exact hk55 _ _ _ _ _ _ _ _ _ _ _ _ ha0 ha1 ha2 ha6 hW (lv_sub hl [1, 2, 3, 4, 5, 6, 7, 0] rfl) hf
set_option maxRecDepth 100000 in
set_option maxHeartbeats 4000000 in
theorem wX1_branch_55 (C : Cx p s m meth c args cX1_branch 9 none RX1 D ca ad) {res : Unit × Mm} {d0 : Nat} {N : Nat} {rec : Nat → Nat → Nat → Int32 → Int32 → Int32 → Mm → Option (Unit × Mm)} (hrec : ∀ (a0 : Nat) (a1 : Nat) (a2 : Nat) (a3 : Int32) (a4 : Int32) (a5 : Int32) (mm : Mm) (res : Unit × Mm), (sX1 a0) → (sX0 a1) → (sI a2) → rec a0 a1 a2 a3 a4 a5 mm = some res → Met l yX1_branch (WS yX1_branch cX1_branch 9 none) (rmX1_branch d0) (va_Pc [.ref (ad a0), .ref (ad a1), .ref (ad a2), .int a3, .int a4, .int a5] (WB D ca ad mm)) (QV D ca ad res) 0 0 (AA ad)) : ∀ (n : Nat) {a0 : Nat} {a1 : Nat} {a2 : Nat} {a3 : Int32} {a4 : Int32} {a5 : Int32} {a6 : Nat} {a7 : Int32} {mm : Mm} {H : Heap} {locs : List Loc} {ls : Array Slot}, (sX1 a0) → (sX0 a1) → (sI a2) → (sX9 a6) → Wd D ca ad s.heap mm H locs → lv_has ls 9 [(0, .ref (ad a0)), (1, .ref (ad a1)), (2, .ref (ad a2)), (3, .int a3), (4, .int a4), (5, .int a5), (6, .ref (ad a6)), (7, .int a7)] → fX1_branch_55 N rec n a0 a1 a2 a3 a4 a5 a6 a7 mm = some res → W p l e (rmX1_branch (d0 + 1)) s m args below meth c H locs 0 0 (MQ below (QV D ca ad res) args s 0 0 (AA ad)) (F0 m 55 ls []) := by
  intro n
  induction n with
  | zero => intro a0 a1 a2 a3 a4 a5 a6 a7 mm H locs ls ha0 ha1 ha2 ha6 hW hl hf; cases hf
  | succ n ih =>
    intro a0 a1 a2 a3 a4 a5 a6 a7 mm H locs ls ha0 ha1 ha2 ha6 hW hl hf
    have hk55 : ∀ (a0 : Nat) (a1 : Nat) (a2 : Nat) (a3 : Int32) (a4 : Int32) (a5 : Int32) (a6 : Nat) (a7 : Int32) (mm : Mm) (H : Heap) (locs : List Loc) (ls : Array Slot), (sX1 a0) → (sX0 a1) → (sI a2) → (sX9 a6) → Wd D ca ad s.heap mm H locs → lv_has ls 9 [(0, .ref (ad a0)), (1, .ref (ad a1)), (2, .ref (ad a2)), (3, .int a3), (4, .int a4), (5, .int a5), (6, .ref (ad a6)), (7, .int a7)] → (fX1_branch_55 N rec n) a0 a1 a2 a3 a4 a5 a6 a7 mm = some res → W p l e (rmX1_branch (d0 + 1)) s m args below meth c H locs 0 0 (MQ below (QV D ca ad res) args s 0 0 (AA ad)) (F0 m 55 ls []) := fun a0 a1 a2 a3 a4 a5 a6 a7 mm H locs ls ha0 ha1 ha2 ha6 hW hl hf => ih ha0 ha1 ha2 ha6 hW hl hf
    unfold fX1_branch_55 at hf
    try dsimp only at hf
    refine lv_iload C.1 C.2.1 dX1_branch_55 (lv_at hl 7 rfl) ?_
    refine lv_iconst (v := 3) C.1 C.2.1 dX1_branch_57 (by decide) ?_
    refine lv_icmp_ge (tgt := 133) C.1 C.2.1 dX1_branch_58 (by decide) (fun c1 => ?_) (fun c1 => ?_)
    · have hf := if_t c1 hf
      cases hf
      exact x_vret C hW dX1_branch_133
    · have hf := if_f c1 hf
      refine lv_aload_n C.1 C.2.1 dX1_branch_61 rfl (lv_at hl 1 rfl) ?_
      refine lv_iload_n C.1 C.2.1 dX1_branch_62 rfl (lv_at hl 3 rfl) ?_
      refine lv_iconst (v := 1) C.1 C.2.1 dX1_branch_63 (by decide) ?_
      refine lv_iload C.1 C.2.1 dX1_branch_64 (lv_at hl 7 rfl) ?_
      refine lv_aload_n C.1 C.2.1 dX1_branch_66 rfl (lv_at hl 2 rfl) ?_
      refine lv_iload_n C.1 C.2.1 dX1_branch_67 rfl (lv_at hl 3 rfl) ?_
      obtain ⟨g2, hf⟩ := gd_s hf
      refine x_iald C hW ha2 g2 dX1_branch_68 ?_
      refine lv_aload_n C.1 C.2.1 dX1_branch_69 rfl (lv_at hl 1 rfl) ?_
      refine x_geti C hW (ha1).1 (ha1).2.1 (j := 6) rfl kX0 (by decide) rfl q_75 dX1_branch_70 ?_
      refine lv_aload_n C.1 C.2.1 dX1_branch_73 rfl (lv_at hl 0 rfl) ?_
      refine x_getr C hW (ha0).1 (ha0).2.1 (j := 0) rfl kX1 (by decide) rfl q_215 dX1_branch_74 ?_
      obtain ⟨x3, m4, r5, hf⟩ := bd2_s hf
      refine x_ci hW (x_runV C hW [.int a3, .int 1, .int a7, .int (rd mm a2 a3.toNatClampNeg), .int (rd mm a1 6), .ref (ad (fr a0 0))] [] (ha1).1 (ha1).2.1 kX0.1 kvX0_need q_568 (tX0_need l C.2.2.2.2.2.2.1 ha1 ha0.2.2 r5) rfl rfl ⟨by first | decide | (simp only [rmX0_need, rmX1_branch]; omega), by first | decide | (simp only [rmX0_need, rmX1_branch]; omega)⟩ rfl hl.1 rfl (Nat.le_of_ble_eq_true rfl) dX1_branch_77) (fun H locs hW => ?_)
      refine lv_istore (lv' := [(8, .int x3), (0, .ref (ad a0)), (1, .ref (ad a1)), (2, .ref (ad a2)), (3, .int a3), (4, .int a4), (5, .int a5), (6, .ref (ad a6)), (7, .int a7)]) C.1 C.2.1 dX1_branch_80 hl (by decide) rfl (fun ls hl => ?_)
      refine lv_iload C.1 C.2.1 dX1_branch_82 (lv_at hl 0 rfl) ?_
      refine lv_if_lt (tgt := 127) C.1 C.2.1 dX1_branch_84 (by decide) (fun c6 => ?_) (fun c6 => ?_)
      · have hf := if_t c6 hf
        exact wX1_branch_127 C hrec hk55 ha0 ha1 ha2 ha6 hW (lv_sub hl [1, 2, 3, 4, 5, 6, 7, 8] rfl) hf
      · have hf := if_f c6 hf
        refine lv_iload C.1 C.2.1 dX1_branch_87 (lv_at hl 0 rfl) ?_
        refine lv_iload C.1 C.2.1 dX1_branch_89 (lv_at hl 5 rfl) ?_
        refine lv_icmp_gt (tgt := 127) C.1 C.2.1 dX1_branch_91 (by decide) (fun c7 => ?_) (fun c7 => ?_)
        · have hf := if_t c7 hf
          exact wX1_branch_127 C hrec hk55 ha0 ha1 ha2 ha6 hW (lv_sub hl [1, 2, 3, 4, 5, 6, 7, 8] rfl) hf
        · have hf := if_f c7 hf
          refine lv_aload_n C.1 C.2.1 dX1_branch_94 rfl (lv_at hl 1 rfl) ?_
          refine x_getr C hW (ha0).1 (ha0).2.1 (j := 0) rfl kX1 (by decide) rfl q_215 dX1_branch_95 ?_
          refine lv_iload_n C.1 C.2.1 dX1_branch_98 rfl (lv_at hl 4 rfl) ?_
          refine lv_iload C.1 C.2.1 dX1_branch_99 (lv_at hl 8 rfl) ?_
          obtain ⟨g8, hf⟩ := gd_s hf
          refine x_iast C hW ha0.2.2 g8 dX1_branch_101 (fun H locs hW => ?_)
          obtain ⟨m9, em9⟩ : ∃ z, z = wr m4 (fr a0 0) a3.toNatClampNeg a7 := ⟨_, rfl⟩
          have hf := nm_s hf em9
          rw [← em9] at hW
          refine lv_aload_n C.1 C.2.1 dX1_branch_102 rfl (lv_at hl 1 rfl) ?_
          refine lv_aload_n C.1 C.2.1 dX1_branch_103 rfl (lv_at hl 2 rfl) ?_
          refine lv_aload_n C.1 C.2.1 dX1_branch_104 rfl (lv_at hl 3 rfl) ?_
          refine lv_iload_n C.1 C.2.1 dX1_branch_105 rfl (lv_at hl 4 rfl) ?_
          refine lv_iconst (v := 1) C.1 C.2.1 dX1_branch_106 (by decide) ?_
          refine lv_iadd C.1 C.2.1 dX1_branch_107 ?_
          refine lv_iload C.1 C.2.1 dX1_branch_108 (lv_at hl 5 rfl) ?_
          refine lv_iload C.1 C.2.1 dX1_branch_110 (lv_at hl 0 rfl) ?_
          refine lv_isub C.1 C.2.1 dX1_branch_112 ?_
          refine lv_iload C.1 C.2.1 dX1_branch_113 (lv_at hl 6 rfl) ?_
          refine lv_aload C.1 C.2.1 dX1_branch_115 (lv_at hl 7 rfl) ?_
          refine lv_iconst (v := 0) C.1 C.2.1 dX1_branch_117 (by decide) ?_
          refine lv_iload C.1 C.2.1 dX1_branch_118 (lv_at hl 8 rfl) ?_
          obtain ⟨x10, m11, r12, hf⟩ := bd2_s hf
          refine x_ci hW (x_runV C hW [.int 0, .int a7] [.int a5, .int (a4 - x3), .int (a3 + 1), .ref (ad a2), .ref (ad a1), .ref (ad a0)] (ha6).1 (ha6).2.1 kX9.1 kvX9_points q_569 (tX9_points l C.2.2.2.2.2.2.1 ha6 r12) rfl rfl ⟨by first | decide | (simp only [rmX1_branch, rmX9_points]; omega), by first | decide | (simp only [rmX1_branch, rmX9_points]; omega)⟩ rfl hl.1 rfl (Nat.le_of_ble_eq_true rfl) dX1_branch_120) (fun H locs hW => ?_)
          refine lv_iadd C.1 C.2.1 dX1_branch_123 ?_
          obtain ⟨x13, m14, r15, hf⟩ := bd2_s hf
          refine x_cv hW (x_runS C hW [.ref (ad a0), .ref (ad a1), .ref (ad a2), .int (a3 + 1), .int (a4 - x3), .int (a5 + x10)] [] kvX1_branch q_564 (hrec _ _ _ _ _ _ _ _ ha0 ha1 ha2 r15) rfl rfl ⟨by first | decide | (simp only [rmX1_branch]; omega), by first | decide | (simp only [rmX1_branch]; omega)⟩ rfl hl.1 rfl (Nat.le_of_ble_eq_true rfl) dX1_branch_124) (fun H locs hW => ?_)
          exact wX1_branch_127 C hrec hk55 ha0 ha1 ha2 ha6 hW (lv_sub hl [1, 2, 3, 4, 5, 6, 7, 8] rfl) hf
set_option maxRecDepth 100000 in
set_option maxHeartbeats 4000000 in
theorem wX1_branch_45 (C : Cx p s m meth c args cX1_branch 9 none RX1 D ca ad) {res : Unit × Mm} {d0 : Nat} {N : Nat} {rec : Nat → Nat → Nat → Int32 → Int32 → Int32 → Mm → Option (Unit × Mm)} (hrec : ∀ (a0 : Nat) (a1 : Nat) (a2 : Nat) (a3 : Int32) (a4 : Int32) (a5 : Int32) (mm : Mm) (res : Unit × Mm), (sX1 a0) → (sX0 a1) → (sI a2) → rec a0 a1 a2 a3 a4 a5 mm = some res → Met l yX1_branch (WS yX1_branch cX1_branch 9 none) (rmX1_branch d0) (va_Pc [.ref (ad a0), .ref (ad a1), .ref (ad a2), .int a3, .int a4, .int a5] (WB D ca ad mm)) (QV D ca ad res) 0 0 (AA ad)) {a0 : Nat} {a5 : Int32} {mm : Mm} {H : Heap} {locs : List Loc} {ls : Array Slot} (ha0 : sX1 a0) (hW : Wd D ca ad s.heap mm H locs) (hl : lv_has ls 9 [(0, .ref (ad a0)), (5, .int a5)]) (hf : fX1_branch_45 N rec a0 a5 mm = some res) : W p l e (rmX1_branch (d0 + 1)) s m args below meth c H locs 0 0 (MQ below (QV D ca ad res) args s 0 0 (AA ad)) (F0 m 45 ls []) := by
  unfold fX1_branch_45 at hf
  refine lv_aload_n C.1 C.2.1 dX1_branch_45 rfl (lv_at hl 0 rfl) ?_
  refine lv_iload C.1 C.2.1 dX1_branch_46 (lv_at hl 1 rfl) ?_
  refine x_put C hW (ha0).1 (ha0).2.1 (j := 1) (t1 := .int) rfl kX1 (by decide) rfl rfl q_216 (by decide +kernel) rfl rfl dX1_branch_48 (fun H locs hW => ?_)
  obtain ⟨m16, em16⟩ : ∃ z, z = wr mm a0 1 a5 := ⟨_, rfl⟩
  have hf := nm_s hf em16
  rw [← em16] at hW
  cases hf
  exact x_vret C hW dX1_branch_51
set_option maxRecDepth 100000 in
set_option maxHeartbeats 4000000 in
theorem wX1_branch_0 (C : Cx p s m meth c args cX1_branch 9 none RX1 D ca ad) {res : Unit × Mm} {d0 : Nat} {N : Nat} {rec : Nat → Nat → Nat → Int32 → Int32 → Int32 → Mm → Option (Unit × Mm)} (hrec : ∀ (a0 : Nat) (a1 : Nat) (a2 : Nat) (a3 : Int32) (a4 : Int32) (a5 : Int32) (mm : Mm) (res : Unit × Mm), (sX1 a0) → (sX0 a1) → (sI a2) → rec a0 a1 a2 a3 a4 a5 mm = some res → Met l yX1_branch (WS yX1_branch cX1_branch 9 none) (rmX1_branch d0) (va_Pc [.ref (ad a0), .ref (ad a1), .ref (ad a2), .int a3, .int a4, .int a5] (WB D ca ad mm)) (QV D ca ad res) 0 0 (AA ad)) {a0 : Nat} {a1 : Nat} {a2 : Nat} {a3 : Int32} {a4 : Int32} {a5 : Int32} {mm : Mm} {H : Heap} {locs : List Loc} {ls : Array Slot} (ha0 : sX1 a0) (ha1 : sX0 a1) (ha2 : sI a2) (hW : Wd D ca ad s.heap mm H locs) (hl : lv_has ls 9 [(0, .ref (ad a0)), (1, .ref (ad a1)), (2, .ref (ad a2)), (3, .int a3), (4, .int a4), (5, .int a5)]) (hf : fX1_branch_0 N rec a0 a1 a2 a3 a4 a5 mm = some res) : W p l e (rmX1_branch (d0 + 1)) s m args below meth c H locs 0 0 (MQ below (QV D ca ad res) args s 0 0 (AA ad)) (F0 m 0 ls []) := by
  unfold fX1_branch_0 at hf
  refine lv_iload C.1 C.2.1 dX1_branch_0 (lv_at hl 5 rfl) ?_
  refine lv_aload_n C.1 C.2.1 dX1_branch_2 rfl (lv_at hl 0 rfl) ?_
  refine x_geti C hW (ha0).1 (ha0).2.1 (j := 1) rfl kX1 (by decide) rfl q_216 dX1_branch_3 ?_
  refine lv_icmp_ge (tgt := 20) C.1 C.2.1 dX1_branch_6 (by decide) (fun c17 => ?_) (fun c17 => ?_)
  · have hf := if_t c17 hf
    cases hf
    exact x_vret C hW dX1_branch_20
  · have hf := if_f c17 hf
    refine lv_aload_n C.1 C.2.1 dX1_branch_9 rfl (lv_at hl 0 rfl) ?_
    refine x_geti C hW (ha0).1 (ha0).2.1 (j := 1) rfl kX1 (by decide) rfl q_216 dX1_branch_10 ?_
    refine lv_aload_n C.1 C.2.1 dX1_branch_13 rfl (lv_at hl 0 rfl) ?_
    refine x_geti C hW (ha0).1 (ha0).2.1 (j := 2) rfl kX1 (by decide) rfl q_217 dX1_branch_14 ?_
    refine lv_icmp_gt (tgt := 21) C.1 C.2.1 dX1_branch_17 (by decide) (fun c18 => ?_) (fun c18 => ?_)
    · have hf := if_t c18 hf
      refine lv_aload_n C.1 C.2.1 dX1_branch_21 rfl (lv_at hl 1 rfl) ?_
      refine lv_iload_n C.1 C.2.1 dX1_branch_22 rfl (lv_at hl 3 rfl) ?_
      obtain ⟨x19, m20, r21, hf⟩ := bd2_s hf
      refine x_cr hW (x_runV C hW [.int a3] [] (ha1).1 (ha1).2.1 kX0.1 kvX0_suitOf q_567 (tX0_suitOf l C.2.2.2.2.2.2.1 ha1 r21) rfl rfl ⟨by first | decide | (simp only [rmX0_suitOf, rmX1_branch]; omega), by first | decide | (simp only [rmX0_suitOf, rmX1_branch]; omega)⟩ rfl hl.1 rfl (Nat.le_of_ble_eq_true rfl) dX1_branch_23) (fun H locs hW => ?_)
      refine x_astore (lv' := [(6, va_re ad x19), (0, .ref (ad a0)), (1, .ref (ad a1)), (2, .ref (ad a2)), (3, .int a3), (4, .int a4), (5, .int a5)]) C dX1_branch_26 hl (by decide) rfl (fun ls hl => ?_)
      refine x_aload C dX1_branch_28 (lv_at hl 0 rfl) ?_
      refine x_ifnull C (tgt := 45) dX1_branch_30 (by decide) (fun n23 => ?_) (fun z22 n23 => ?_)
      · subst n23
        have hf := cs_n hf
        exact wX1_branch_45 C hrec ha0 hW (lv_sub hl [1, 6] rfl) hf
      · subst n23
        have hf := cs_q hf
        refine lv_iload_n C.1 C.2.1 dX1_branch_33 rfl (lv_at hl 4 rfl) ?_
        refine lv_bipush (v := 6) C.1 C.2.1 dX1_branch_34 (by decide) ?_
        refine lv_icmp_ge (tgt := 45) C.1 C.2.1 dX1_branch_36 (by decide) (fun c24 => ?_) (fun c24 => ?_)
        · have hf := if_t c24 hf
          exact wX1_branch_45 C hrec ha0 hW (lv_sub hl [1, 6] rfl) hf
        · have hf := if_f c24 hf
          refine lv_iload_n C.1 C.2.1 dX1_branch_39 rfl (lv_at hl 4 rfl) ?_
          refine lv_aload_n C.1 C.2.1 dX1_branch_40 rfl (lv_at hl 3 rfl) ?_
          refine x_alen C hW ha2 dX1_branch_41 ?_
          refine lv_icmp_lt (tgt := 52) C.1 C.2.1 dX1_branch_42 (by decide) (fun c25 => ?_) (fun c25 => ?_)
          · have hf := if_t c25 hf
            refine lv_iconst (v := 0) C.1 C.2.1 dX1_branch_52 (by decide) ?_
            refine lv_istore (lv' := [(7, .int 0), (6, .ref (ad z22)), (0, .ref (ad a0)), (1, .ref (ad a1)), (2, .ref (ad a2)), (3, .int a3), (4, .int a4), (5, .int a5)]) C.1 C.2.1 dX1_branch_53 hl (by decide) rfl (fun ls hl => ?_)
            exact wX1_branch_55 C hrec N ha0 ha1 ha2 ((gX0_suitOf ha1 r21) z22 rfl) hW (lv_sub hl [2, 3, 4, 5, 6, 7, 1, 0] rfl) hf
          · have hf := if_f c25 hf
            exact wX1_branch_45 C hrec ha0 hW (lv_sub hl [1, 6] rfl) hf
    · have hf := if_f c18 hf
      cases hf
      exact x_vret C hW dX1_branch_20
set_option maxRecDepth 100000 in
set_option maxHeartbeats 4000000 in
theorem tX1_branch (l : Launch) {D : va_G} {ca ad : Nat → Nat} (hi : Inj ad) {N : Nat} : ∀ {d : Nat} {a0 : Nat} {a1 : Nat} {a2 : Nat} {a3 : Int32} {a4 : Int32} {a5 : Int32} {mm : Mm} {res : Unit × Mm}, (sX1 a0) → (sX0 a1) → (sI a2) → fX1_branch N d a0 a1 a2 a3 a4 a5 mm = some res → Met l yX1_branch (WS yX1_branch cX1_branch 9 none) (rmX1_branch d) (va_Pc [.ref (ad a0), .ref (ad a1), .ref (ad a2), .int a3, .int a4, .int a5] (WB D ca ad mm)) (QV D ca ad res) 0 0 (AA ad) := by
  intro d
  induction d with
  | zero => intro a0 a1 a2 a3 a4 a5 mm res ha0 ha1 ha2 hf; cases hf
  | succ d ih =>
    intro a0 a1 a2 a3 a4 a5 mm res ha0 ha1 ha2 hf
    refine x_start hi (by decide) rfl (Nat.le_of_ble_eq_true rfl) (fun p e s m args below meth c ls C hW hl => ?_)
    exact wX1_branch_0 C (d0 := d) (fun a0 a1 a2 a3 a4 a5 mm res ha0 ha1 ha2 hf => by exact (ih ha0 ha1 ha2 hf)) ha0 ha1 ha2 hW (lv_sub hl [0, 1, 2, 3, 4, 5] rfl) hf
set_option maxRecDepth 100000 in
set_option maxHeartbeats 4000000 in
theorem wX1_leastFor_0 (C : Cx p s m meth c args cX1_leastFor 4 (some .int) RX1 D ca ad) {res : Int32 × Mm} {N : Nat}  {a0 : Nat} {a1 : Nat} {a2 : Nat} {a3 : Int32} {mm : Mm} {H : Heap} {locs : List Loc} {ls : Array Slot} (ha0 : sX1 a0) (ha1 : sX0 a1) (ha2 : sI a2) (hW : Wd D ca ad s.heap mm H locs) (hl : lv_has ls 4 [(0, .ref (ad a0)), (1, .ref (ad a1)), (2, .ref (ad a2)), (3, .int a3)]) (hf : fX1_leastFor N a0 a1 a2 a3 mm = some res) : W p l e (rmX1_leastFor) s m args below meth c H locs 0 0 (MQ below (QI D ca ad res) args s 0 0 (AA ad)) (F0 m 0 ls []) := by
  unfold fX1_leastFor at hf
  refine lv_aload_n C.1 C.2.1 dX1_leastFor_0 rfl (lv_at hl 0 rfl) ?_
  refine lv_ldc C.1 C.2.1 C.2.2.2.1 (C.2.2.2.2.1 _ q_563) dX1_leastFor_1 ?_
  refine x_put C hW (ha0).1 (ha0).2.1 (j := 1) (t1 := .int) rfl kX1 (by decide) rfl rfl q_216 (by decide +kernel) rfl rfl dX1_leastFor_3 (fun H locs hW => ?_)
  obtain ⟨m1, em1⟩ : ∃ z, z = wr mm a0 1 1000000 := ⟨_, rfl⟩
  have hf := nm_s hf em1
  rw [← em1] at hW
  refine lv_aload_n C.1 C.2.1 dX1_leastFor_6 rfl (lv_at hl 0 rfl) ?_
  refine lv_iload_n C.1 C.2.1 dX1_leastFor_7 rfl (lv_at hl 3 rfl) ?_
  refine x_put C hW (ha0).1 (ha0).2.1 (j := 2) (t1 := .int) rfl kX1 (by decide) rfl rfl q_217 (by decide +kernel) rfl rfl dX1_leastFor_8 (fun H locs hW => ?_)
  obtain ⟨m2, em2⟩ : ∃ z, z = wr m1 a0 2 a3 := ⟨_, rfl⟩
  have hf := nm_s hf em2
  rw [← em2] at hW
  refine lv_aload_n C.1 C.2.1 dX1_leastFor_11 rfl (lv_at hl 0 rfl) ?_
  refine lv_aload_n C.1 C.2.1 dX1_leastFor_12 rfl (lv_at hl 1 rfl) ?_
  refine lv_aload_n C.1 C.2.1 dX1_leastFor_13 rfl (lv_at hl 2 rfl) ?_
  refine lv_iconst (v := 0) C.1 C.2.1 dX1_leastFor_14 (by decide) ?_
  refine lv_aload_n C.1 C.2.1 dX1_leastFor_15 rfl (lv_at hl 1 rfl) ?_
  refine x_getr C hW (ha1).1 (ha1).2.1 (j := 1) rfl kX0 (by decide) rfl q_61 dX1_leastFor_16 ?_
  refine lv_iconst (v := 1) C.1 C.2.1 dX1_leastFor_19 (by decide) ?_
  obtain ⟨g3, hf⟩ := gd_s hf
  refine x_iald C hW ha1.2.2.2.1 g3 dX1_leastFor_20 ?_
  refine lv_iconst (v := 0) C.1 C.2.1 dX1_leastFor_21 (by decide) ?_
  obtain ⟨x4, m5, r6, hf⟩ := bd2_s hf
  refine x_cv hW (x_runS C hW [.ref (ad a0), .ref (ad a1), .ref (ad a2), .int 0, .int (rd m2 (fr a1 1) ((1 : Int32).toNatClampNeg)), .int 0] [] kvX1_branch q_564 (tX1_branch l C.2.2.2.2.2.2.1 (d := 9) ha0 ha1 ha2 r6) rfl rfl ⟨by first | decide | (simp only [rmX1_branch, rmX1_leastFor]; omega), by first | decide | (simp only [rmX1_branch, rmX1_leastFor]; omega)⟩ rfl hl.1 rfl (Nat.le_of_ble_eq_true rfl) dX1_leastFor_22) (fun H locs hW => ?_)
  refine lv_aload_n C.1 C.2.1 dX1_leastFor_25 rfl (lv_at hl 0 rfl) ?_
  refine x_geti C hW (ha0).1 (ha0).2.1 (j := 1) rfl kX1 (by decide) rfl q_216 dX1_leastFor_26 ?_
  cases hf
  exact x_iret C hW dX1_leastFor_29
set_option maxRecDepth 100000 in
set_option maxHeartbeats 4000000 in
theorem tX1_leastFor (l : Launch) {D : va_G} {ca ad : Nat → Nat} (hi : Inj ad) {N : Nat} {a0 : Nat} {a1 : Nat} {a2 : Nat} {a3 : Int32} {mm : Mm} {res : Int32 × Mm} (ha0 : sX1 a0) (ha1 : sX0 a1) (ha2 : sI a2) (hf : fX1_leastFor N a0 a1 a2 a3 mm = some res) : Met l yX1_leastFor (WS yX1_leastFor cX1_leastFor 4 (some .int)) (rmX1_leastFor) (va_Pc [.ref (ad a0), .ref (ad a1), .ref (ad a2), .int a3] (WB D ca ad mm)) (QI D ca ad res) 0 0 (AA ad) := by
  refine x_start hi (by decide) rfl (Nat.le_of_ble_eq_true rfl) (fun p e s m args below meth c ls C hW hl => ?_)
  exact wX1_leastFor_0 C ha0 ha1 ha2 hW (lv_sub hl [0, 1, 2, 3] rfl) hf
set_option maxRecDepth 100000 in
set_option maxHeartbeats 4000000 in
theorem wX4_weighAll_131 (C : Cx p s m meth c args cX4_weighAll 7 none RX4 D ca ad) {res : Unit × Mm} {N : Nat} {k29 : Nat → Nat → Nat → Nat → Nat → Int32 → Int32 → Mm → Option (Unit × Mm)} (hk29 : ∀ (a0 : Nat) (a1 : Nat) (a2 : Nat) (a3 : Nat) (a4 : Nat) (a5 : Int32) (a6 : Int32) (mm : Mm) (H : Heap) (locs : List Loc) (ls : Array Slot), (sX4 a0) → (sX0 a1) → (sX3 a2) → (sI a3) → (sI a4) → Wd D ca ad s.heap mm H locs → lv_has ls 7 [(0, .ref (ad a0)), (1, .ref (ad a1)), (2, .ref (ad a2)), (3, .ref (ad a3)), (4, .ref (ad a4)), (5, .int a5), (6, .int a6)] → k29 a0 a1 a2 a3 a4 a5 a6 mm = some res → W p l e (rmX4_weighAll) s m args below meth c H locs 0 0 (MQ below (QV D ca ad res) args s 0 0 (AA ad)) (F0 m 29 ls [])) {a0 : Nat} {a1 : Nat} {a2 : Nat} {a3 : Nat} {a4 : Nat} {a6 : Int32} {mm : Mm} {H : Heap} {locs : List Loc} {ls : Array Slot} (ha0 : sX4 a0) (ha1 : sX0 a1) (ha2 : sX3 a2) (ha3 : sI a3) (ha4 : sI a4) (hW : Wd D ca ad s.heap mm H locs) (hl : lv_has ls 7 [(0, .ref (ad a0)), (1, .ref (ad a1)), (2, .ref (ad a2)), (3, .ref (ad a3)), (4, .ref (ad a4)), (6, .int a6)]) (hf : fX4_weighAll_131 N k29 a0 a1 a2 a3 a4 a6 mm = some res) : W p l e (rmX4_weighAll) s m args below meth c H locs 0 0 (MQ below (QV D ca ad res) args s 0 0 (AA ad)) (F0 m 131 ls []) := by
  unfold fX4_weighAll_131 at hf
  refine lv_aload_n C.1 C.2.1 dX4_weighAll_131 rfl (lv_at hl 2 rfl) ?_
  obtain ⟨x1, m2, r3, hf⟩ := bd2_s hf
  refine x_ci hW (x_runV C hW [] [] (ha2).1 (ha2).2.1 kX3.1 kvX3_next q_591 (tX3_next l C.2.2.2.2.2.2.1 ha2 r3) rfl rfl ⟨by decide, by decide⟩ rfl hl.1 rfl (Nat.le_of_ble_eq_true rfl) dX4_weighAll_132) (fun H locs hW => ?_)
  refine lv_istore (lv' := [(5, .int x1), (0, .ref (ad a0)), (1, .ref (ad a1)), (2, .ref (ad a2)), (3, .ref (ad a3)), (4, .ref (ad a4)), (6, .int a6)]) C.1 C.2.1 dX4_weighAll_135 hl (by decide) rfl (fun ls hl => ?_)
  refine lv_iinc (v := (a6 + 1)) (lv' := [(6, .int (a6 + 1)), (5, .int x1), (0, .ref (ad a0)), (1, .ref (ad a1)), (2, .ref (ad a2)), (3, .ref (ad a3)), (4, .ref (ad a4))]) C.1 C.2.1 dX4_weighAll_137 hl (k := 6) rfl rfl (by decide) rfl (fun ls hl => ?_)
  refine lv_goto (tgt := 29) C.1 C.2.1 dX4_weighAll_140 (by decide) ?_
  exact hk29 _ _ _ _ _ _ _ _ _ _ _ ha0 ha1 ha2 ha3 ha4 hW (lv_sub hl [2, 3, 4, 5, 6, 1, 0] rfl) hf
set_option maxRecDepth 100000 in
set_option maxHeartbeats 4000000 in
theorem wX4_weighAll_29 (C : Cx p s m meth c args cX4_weighAll 7 none RX4 D ca ad) {res : Unit × Mm} {N : Nat}  : ∀ (n : Nat) {a0 : Nat} {a1 : Nat} {a2 : Nat} {a3 : Nat} {a4 : Nat} {a5 : Int32} {a6 : Int32} {mm : Mm} {H : Heap} {locs : List Loc} {ls : Array Slot}, (sX4 a0) → (sX0 a1) → (sX3 a2) → (sI a3) → (sI a4) → Wd D ca ad s.heap mm H locs → lv_has ls 7 [(0, .ref (ad a0)), (1, .ref (ad a1)), (2, .ref (ad a2)), (3, .ref (ad a3)), (4, .ref (ad a4)), (5, .int a5), (6, .int a6)] → fX4_weighAll_29 N n a0 a1 a2 a3 a4 a5 a6 mm = some res → W p l e (rmX4_weighAll) s m args below meth c H locs 0 0 (MQ below (QV D ca ad res) args s 0 0 (AA ad)) (F0 m 29 ls []) := by
  intro n
  induction n with
  | zero => intro a0 a1 a2 a3 a4 a5 a6 mm H locs ls ha0 ha1 ha2 ha3 ha4 hW hl hf; cases hf
  | succ n ih =>
    intro a0 a1 a2 a3 a4 a5 a6 mm H locs ls ha0 ha1 ha2 ha3 ha4 hW hl hf
    have hk29 : ∀ (a0 : Nat) (a1 : Nat) (a2 : Nat) (a3 : Nat) (a4 : Nat) (a5 : Int32) (a6 : Int32) (mm : Mm) (H : Heap) (locs : List Loc) (ls : Array Slot), (sX4 a0) → (sX0 a1) → (sX3 a2) → (sI a3) → (sI a4) → Wd D ca ad s.heap mm H locs → lv_has ls 7 [(0, .ref (ad a0)), (1, .ref (ad a1)), (2, .ref (ad a2)), (3, .ref (ad a3)), (4, .ref (ad a4)), (5, .int a5), (6, .int a6)] → (fX4_weighAll_29 N n) a0 a1 a2 a3 a4 a5 a6 mm = some res → W p l e (rmX4_weighAll) s m args below meth c H locs 0 0 (MQ below (QV D ca ad res) args s 0 0 (AA ad)) (F0 m 29 ls []) := fun a0 a1 a2 a3 a4 a5 a6 mm H locs ls ha0 ha1 ha2 ha3 ha4 hW hl hf => ih ha0 ha1 ha2 ha3 ha4 hW hl hf
    unfold fX4_weighAll_29 at hf
    try dsimp only at hf
    refine lv_iload C.1 C.2.1 dX4_weighAll_29 (lv_at hl 5 rfl) ?_
    refine lv_if_lt (tgt := 143) C.1 C.2.1 dX4_weighAll_31 (by decide) (fun c4 => ?_) (fun c4 => ?_)
    · have hf := if_t c4 hf
      cases hf
      exact x_vret C hW dX4_weighAll_143
    · have hf := if_f c4 hf
      refine lv_iload C.1 C.2.1 dX4_weighAll_34 (lv_at hl 6 rfl) ?_
      refine lv_ldc C.1 C.2.1 C.2.2.2.1 (C.2.2.2.2.1 _ q_586) dX4_weighAll_36 ?_
      refine lv_icmp_ge (tgt := 143) C.1 C.2.1 dX4_weighAll_38 (by decide) (fun c5 => ?_) (fun c5 => ?_)
      · have hf := if_t c5 hf
        cases hf
        exact x_vret C hW dX4_weighAll_143
      · have hf := if_f c5 hf
        refine lv_aload_n C.1 C.2.1 dX4_weighAll_41 rfl (lv_at hl 0 rfl) ?_
        refine x_getr C hW (ha0).1 (ha0).2.1 (j := 0) rfl kX4 (by decide) rfl q_233 dX4_weighAll_42 ?_
        refine lv_aload_n C.1 C.2.1 dX4_weighAll_45 rfl (lv_at hl 1 rfl) ?_
        refine lv_aload_n C.1 C.2.1 dX4_weighAll_46 rfl (lv_at hl 3 rfl) ?_
        refine lv_aload_n C.1 C.2.1 dX4_weighAll_47 rfl (lv_at hl 2 rfl) ?_
        refine x_getr C hW (ha2).1 (ha2).2.1 (j := 0) rfl kX3 (by decide) rfl q_164 dX4_weighAll_48 ?_
        refine lv_iload C.1 C.2.1 dX4_weighAll_51 (lv_at hl 5 rfl) ?_
        obtain ⟨x6, m7, r8, hf⟩ := bd2_s hf
        refine x_cv hW (x_runV C hW [.ref (ad a1), .ref (ad a3), .ref (ad (fr a2 0)), .int a5] [] (ha0.2.2.1).1 (ha0.2.2.1).2.1 kX7.1 kvX7_weigh q_589 (tX7_weigh l C.2.2.2.2.2.2.1 ha0.2.2.1 ha1 ha3 ha2.2.2 r8) rfl rfl ⟨by decide, by decide⟩ rfl hl.1 rfl (Nat.le_of_ble_eq_true rfl) dX4_weighAll_53) (fun H locs hW => ?_)
        refine lv_aload_n C.1 C.2.1 dX4_weighAll_56 rfl (lv_at hl 0 rfl) ?_
        refine x_getr C hW (ha0).1 (ha0).2.1 (j := 1) rfl kX4 (by decide) rfl q_234 dX4_weighAll_57 ?_
        refine lv_aload_n C.1 C.2.1 dX4_weighAll_60 rfl (lv_at hl 1 rfl) ?_
        refine lv_aload C.1 C.2.1 dX4_weighAll_61 (lv_at hl 4 rfl) ?_
        refine lv_aload_n C.1 C.2.1 dX4_weighAll_63 rfl (lv_at hl 2 rfl) ?_
        refine x_getr C hW (ha2).1 (ha2).2.1 (j := 0) rfl kX3 (by decide) rfl q_164 dX4_weighAll_64 ?_
        refine lv_iload C.1 C.2.1 dX4_weighAll_67 (lv_at hl 5 rfl) ?_
        obtain ⟨x9, m10, r11, hf⟩ := bd2_s hf
        refine x_cv hW (x_runV C hW [.ref (ad a1), .ref (ad a4), .ref (ad (fr a2 0)), .int a5] [] (ha0.2.2.2.1).1 (ha0.2.2.2.1).2.1 kX7.1 kvX7_weigh q_589 (tX7_weigh l C.2.2.2.2.2.2.1 ha0.2.2.2.1 ha1 ha4 ha2.2.2 r11) rfl rfl ⟨by decide, by decide⟩ rfl hl.1 rfl (Nat.le_of_ble_eq_true rfl) dX4_weighAll_69) (fun H locs hW => ?_)
        refine lv_aload_n C.1 C.2.1 dX4_weighAll_72 rfl (lv_at hl 0 rfl) ?_
        refine x_getr C hW (ha0).1 (ha0).2.1 (j := 0) rfl kX4 (by decide) rfl q_233 dX4_weighAll_73 ?_
        refine x_geti C hW (ha0.2.2.1).1 (ha0.2.2.1).2.1 (j := 3) rfl kX7 (by decide) rfl q_143 dX4_weighAll_76 ?_
        refine lv_if_lt (tgt := 131) C.1 C.2.1 dX4_weighAll_79 (by decide) (fun c12 => ?_) (fun c12 => ?_)
        · have hf := if_t c12 hf
          exact wX4_weighAll_131 C hk29 ha0 ha1 ha2 ha3 ha4 hW (lv_sub hl [0, 1, 2, 3, 4, 6] rfl) hf
        · have hf := if_f c12 hf
          refine lv_aload_n C.1 C.2.1 dX4_weighAll_82 rfl (lv_at hl 0 rfl) ?_
          refine x_getr C hW (ha0).1 (ha0).2.1 (j := 0) rfl kX4 (by decide) rfl q_233 dX4_weighAll_83 ?_
          refine x_geti C hW (ha0.2.2.1).1 (ha0.2.2.1).2.1 (j := 3) rfl kX7 (by decide) rfl q_143 dX4_weighAll_86 ?_
          refine lv_aload_n C.1 C.2.1 dX4_weighAll_89 rfl (lv_at hl 0 rfl) ?_
          refine x_getr C hW (ha0).1 (ha0).2.1 (j := 2) rfl kX4 (by decide) rfl q_235 dX4_weighAll_90 ?_
          refine x_alen C hW ha0.2.2.2.2 dX4_weighAll_93 ?_
          refine lv_icmp_ge (tgt := 131) C.1 C.2.1 dX4_weighAll_94 (by decide) (fun c13 => ?_) (fun c13 => ?_)
          · have hf := if_t c13 hf
            exact wX4_weighAll_131 C hk29 ha0 ha1 ha2 ha3 ha4 hW (lv_sub hl [0, 1, 2, 3, 4, 6] rfl) hf
          · have hf := if_f c13 hf
            refine lv_aload_n C.1 C.2.1 dX4_weighAll_97 rfl (lv_at hl 0 rfl) ?_
            refine x_getr C hW (ha0).1 (ha0).2.1 (j := 2) rfl kX4 (by decide) rfl q_235 dX4_weighAll_98 ?_
            refine lv_aload_n C.1 C.2.1 dX4_weighAll_101 rfl (lv_at hl 0 rfl) ?_
            refine x_getr C hW (ha0).1 (ha0).2.1 (j := 0) rfl kX4 (by decide) rfl q_233 dX4_weighAll_102 ?_
            refine x_geti C hW (ha0.2.2.1).1 (ha0.2.2.1).2.1 (j := 3) rfl kX7 (by decide) rfl q_143 dX4_weighAll_105 ?_
            refine lv_aload_n C.1 C.2.1 dX4_weighAll_108 rfl (lv_at hl 0 rfl) ?_
            refine x_getr C hW (ha0).1 (ha0).2.1 (j := 2) rfl kX4 (by decide) rfl q_235 dX4_weighAll_109 ?_
            refine lv_aload_n C.1 C.2.1 dX4_weighAll_112 rfl (lv_at hl 0 rfl) ?_
            refine x_getr C hW (ha0).1 (ha0).2.1 (j := 0) rfl kX4 (by decide) rfl q_233 dX4_weighAll_113 ?_
            refine x_geti C hW (ha0.2.2.1).1 (ha0.2.2.1).2.1 (j := 3) rfl kX7 (by decide) rfl q_143 dX4_weighAll_116 ?_
            obtain ⟨g14, hf⟩ := gd_s hf
            refine x_iald C hW ha0.2.2.2.2 g14 dX4_weighAll_119 ?_
            refine lv_aload_n C.1 C.2.1 dX4_weighAll_120 rfl (lv_at hl 0 rfl) ?_
            refine x_getr C hW (ha0).1 (ha0).2.1 (j := 1) rfl kX4 (by decide) rfl q_234 dX4_weighAll_121 ?_
            refine x_geti C hW (ha0.2.2.2.1).1 (ha0.2.2.2.1).2.1 (j := 3) rfl kX7 (by decide) rfl q_143 dX4_weighAll_124 ?_
            refine va_mmin C.1 C.2.1 (C.2.2.1.trans hl.1.symm) C.2.2.2.1 (C.2.2.2.2.1 _ q_590) (C.2.2.2.2.1 _ q_421) (C.2.2.2.2.1 _ q_15) (C.2.2.2.2.1 _ q_422) (by decide) (Nat.le_of_ble_eq_true rfl) (Nat.zero_le _) (Nat.zero_le _) dX4_weighAll_127 ?_
            refine lv_topi (fun x15 ex15 => ?_)
            have hf := nm_s hf ex15
            obtain ⟨g16, hf⟩ := gd_s hf
            refine x_iast C hW ha0.2.2.2.2 g16 dX4_weighAll_130 (fun H locs hW => ?_)
            obtain ⟨m17, em17⟩ : ∃ z, z = wr m10 (fr a0 2) (rd m10 (fr a0 0) 3).toNatClampNeg x15 := ⟨_, rfl⟩
            have hf := nm_s hf em17
            rw [← em17] at hW
            exact wX4_weighAll_131 C hk29 ha0 ha1 ha2 ha3 ha4 hW (lv_sub hl [0, 1, 2, 3, 4, 6] rfl) hf
set_option maxRecDepth 100000 in
set_option maxHeartbeats 4000000 in
theorem wX4_weighAll_0 (C : Cx p s m meth c args cX4_weighAll 7 none RX4 D ca ad) {res : Unit × Mm} {N : Nat}  {a0 : Nat} {a1 : Nat} {a2 : Nat} {a3 : Nat} {a4 : Nat} {mm : Mm} {H : Heap} {locs : List Loc} {ls : Array Slot} (ha0 : sX4 a0) (ha1 : sX0 a1) (ha2 : sX3 a2) (ha3 : sI a3) (ha4 : sI a4) (hW : Wd D ca ad s.heap mm H locs) (hl : lv_has ls 7 [(0, .ref (ad a0)), (1, .ref (ad a1)), (2, .ref (ad a2)), (3, .ref (ad a3)), (4, .ref (ad a4))]) (hf : fX4_weighAll N a0 a1 a2 a3 a4 mm = some res) : W p l e (rmX4_weighAll) s m args below meth c H locs 0 0 (MQ below (QV D ca ad res) args s 0 0 (AA ad)) (F0 m 0 ls []) := by
  unfold fX4_weighAll at hf
  refine lv_aload_n C.1 C.2.1 dX4_weighAll_0 rfl (lv_at hl 0 rfl) ?_
  refine x_getr C hW (ha0).1 (ha0).2.1 (j := 2) rfl kX4 (by decide) rfl q_235 dX4_weighAll_1 ?_
  refine lv_ldc C.1 C.2.1 C.2.2.2.1 (C.2.2.2.2.1 _ q_586) dX4_weighAll_4 ?_
  obtain ⟨x18, m19, r20, hf⟩ := bd2_s hf
  refine x_cv hW (x_runS C hW [.ref (ad (fr a0 2)), .int 1000000] [] kvJ7_fill_53178 q_587 (tJ7_fill_53178 l C.2.2.2.2.2.2.1 ha0.2.2.2.2 r20) rfl rfl ⟨by decide, by decide⟩ rfl hl.1 rfl (Nat.le_of_ble_eq_true rfl) dX4_weighAll_6) (fun H locs hW => ?_)
  refine lv_aload_n C.1 C.2.1 dX4_weighAll_9 rfl (lv_at hl 2 rfl) ?_
  refine lv_aload_n C.1 C.2.1 dX4_weighAll_10 rfl (lv_at hl 1 rfl) ?_
  refine x_geti C hW (ha1).1 (ha1).2.1 (j := 5) rfl kX0 (by decide) rfl q_69 dX4_weighAll_11 ?_
  refine lv_aload_n C.1 C.2.1 dX4_weighAll_14 rfl (lv_at hl 1 rfl) ?_
  refine x_getr C hW (ha1).1 (ha1).2.1 (j := 1) rfl kX0 (by decide) rfl q_60 dX4_weighAll_15 ?_
  refine lv_iconst (v := 1) C.1 C.2.1 dX4_weighAll_18 (by decide) ?_
  obtain ⟨g21, hf⟩ := gd_s hf
  refine x_iald C hW ha1.2.2.2.1 g21 dX4_weighAll_19 ?_
  obtain ⟨x22, m23, r24, hf⟩ := bd2_s hf
  refine x_cv hW (x_runV C hW [.int (rd m19 a1 5), .int (rd m19 (fr a1 1) ((1 : Int32).toNatClampNeg))] [] (ha2).1 (ha2).2.1 kX3.1 kvX3_begin q_588 (tX3_begin l C.2.2.2.2.2.2.1 ha2 r24) rfl rfl ⟨by decide, by decide⟩ rfl hl.1 rfl (Nat.le_of_ble_eq_true rfl) dX4_weighAll_20) (fun H locs hW => ?_)
  refine lv_iconst (v := 0) C.1 C.2.1 dX4_weighAll_23 (by decide) ?_
  refine lv_istore (lv' := [(5, .int 0), (0, .ref (ad a0)), (1, .ref (ad a1)), (2, .ref (ad a2)), (3, .ref (ad a3)), (4, .ref (ad a4))]) C.1 C.2.1 dX4_weighAll_24 hl (by decide) rfl (fun ls hl => ?_)
  refine lv_iconst (v := 0) C.1 C.2.1 dX4_weighAll_26 (by decide) ?_
  refine lv_istore (lv' := [(6, .int 0), (5, .int 0), (0, .ref (ad a0)), (1, .ref (ad a1)), (2, .ref (ad a2)), (3, .ref (ad a3)), (4, .ref (ad a4))]) C.1 C.2.1 dX4_weighAll_27 hl (by decide) rfl (fun ls hl => ?_)
  exact wX4_weighAll_29 C  N ha0 ha1 ha2 ha3 ha4 hW (lv_sub hl [2, 3, 4, 5, 6, 1, 0] rfl) hf
set_option maxRecDepth 100000 in
set_option maxHeartbeats 4000000 in
theorem tX4_weighAll (l : Launch) {D : va_G} {ca ad : Nat → Nat} (hi : Inj ad) {N : Nat} {a0 : Nat} {a1 : Nat} {a2 : Nat} {a3 : Nat} {a4 : Nat} {mm : Mm} {res : Unit × Mm} (ha0 : sX4 a0) (ha1 : sX0 a1) (ha2 : sX3 a2) (ha3 : sI a3) (ha4 : sI a4) (hf : fX4_weighAll N a0 a1 a2 a3 a4 mm = some res) : Met l yX4_weighAll (WS yX4_weighAll cX4_weighAll 7 none) (rmX4_weighAll) (va_Pc [.ref (ad a0), .ref (ad a1), .ref (ad a2), .ref (ad a3), .ref (ad a4)] (WB D ca ad mm)) (QV D ca ad res) 0 0 (AA ad) := by
  refine x_start hi (by decide) rfl (Nat.le_of_ble_eq_true rfl) (fun p e s m args below meth c ls C hW hl => ?_)
  exact wX4_weighAll_0 C ha0 ha1 ha2 ha3 ha4 hW (lv_sub hl [0, 1, 2, 3, 4] rfl) hf
set_option maxRecDepth 100000 in
set_option maxHeartbeats 4000000 in
theorem wX4_leastBy_49 (C : Cx p s m meth c args cX4_leastBy 5 (some .int) RX4 D ca ad) {res : Int32 × Mm} {N : Nat} {k6 : Nat → Int32 → Int32 → Int32 → Int32 → Mm → Option (Int32 × Mm)} (hk6 : ∀ (a0 : Nat) (a1 : Int32) (a2 : Int32) (a3 : Int32) (a4 : Int32) (mm : Mm) (H : Heap) (locs : List Loc) (ls : Array Slot), (sX4 a0) → Wd D ca ad s.heap mm H locs → lv_has ls 5 [(0, .ref (ad a0)), (1, .int a1), (2, .int a2), (3, .int a3), (4, .int a4)] → k6 a0 a1 a2 a3 a4 mm = some res → W p l e (rmX4_leastBy) s m args below meth c H locs 0 0 (MQ below (QI D ca ad res) args s 0 0 (AA ad)) (F0 m 6 ls [])) {a0 : Nat} {a1 : Int32} {a2 : Int32} {a3 : Int32} {a4 : Int32} {mm : Mm} {H : Heap} {locs : List Loc} {ls : Array Slot} (ha0 : sX4 a0) (hW : Wd D ca ad s.heap mm H locs) (hl : lv_has ls 5 [(0, .ref (ad a0)), (1, .int a1), (2, .int a2), (3, .int a3), (4, .int a4)]) (hf : fX4_leastBy_49 N k6 a0 a1 a2 a3 a4 mm = some res) : W p l e (rmX4_leastBy) s m args below meth c H locs 0 0 (MQ below (QI D ca ad res) args s 0 0 (AA ad)) (F0 m 49 ls []) := by
  unfold fX4_leastBy_49 at hf
  refine lv_iinc (v := (a4 + 1)) (lv' := [(4, .int (a4 + 1)), (0, .ref (ad a0)), (1, .int a1), (2, .int a2), (3, .int a3)]) C.1 C.2.1 dX4_leastBy_49 hl (k := 4) rfl rfl (by decide) rfl (fun ls hl => ?_)
  refine lv_goto (tgt := 6) C.1 C.2.1 dX4_leastBy_52 (by decide) ?_
  exact hk6 _ _ _ _ _ _ _ _ _ ha0 hW (lv_sub hl [1, 2, 3, 4, 0] rfl) hf
set_option maxRecDepth 100000 in
set_option maxHeartbeats 4000000 in
theorem wX4_leastBy_6 (C : Cx p s m meth c args cX4_leastBy 5 (some .int) RX4 D ca ad) {res : Int32 × Mm} {N : Nat}  : ∀ (n : Nat) {a0 : Nat} {a1 : Int32} {a2 : Int32} {a3 : Int32} {a4 : Int32} {mm : Mm} {H : Heap} {locs : List Loc} {ls : Array Slot}, (sX4 a0) → Wd D ca ad s.heap mm H locs → lv_has ls 5 [(0, .ref (ad a0)), (1, .int a1), (2, .int a2), (3, .int a3), (4, .int a4)] → fX4_leastBy_6 N n a0 a1 a2 a3 a4 mm = some res → W p l e (rmX4_leastBy) s m args below meth c H locs 0 0 (MQ below (QI D ca ad res) args s 0 0 (AA ad)) (F0 m 6 ls []) := by
  intro n
  induction n with
  | zero => intro a0 a1 a2 a3 a4 mm H locs ls ha0 hW hl hf; cases hf
  | succ n ih =>
    intro a0 a1 a2 a3 a4 mm H locs ls ha0 hW hl hf
    have hk6 : ∀ (a0 : Nat) (a1 : Int32) (a2 : Int32) (a3 : Int32) (a4 : Int32) (mm : Mm) (H : Heap) (locs : List Loc) (ls : Array Slot), (sX4 a0) → Wd D ca ad s.heap mm H locs → lv_has ls 5 [(0, .ref (ad a0)), (1, .int a1), (2, .int a2), (3, .int a3), (4, .int a4)] → (fX4_leastBy_6 N n) a0 a1 a2 a3 a4 mm = some res → W p l e (rmX4_leastBy) s m args below meth c H locs 0 0 (MQ below (QI D ca ad res) args s 0 0 (AA ad)) (F0 m 6 ls []) := fun a0 a1 a2 a3 a4 mm H locs ls ha0 hW hl hf => ih ha0 hW hl hf
    unfold fX4_leastBy_6 at hf
    try dsimp only at hf
    refine lv_iload C.1 C.2.1 dX4_leastBy_6 (lv_at hl 4 rfl) ?_
    refine lv_aload_n C.1 C.2.1 dX4_leastBy_8 rfl (lv_at hl 0 rfl) ?_
    refine x_getr C hW (ha0).1 (ha0).2.1 (j := 2) rfl kX4 (by decide) rfl q_235 dX4_leastBy_9 ?_
    refine x_alen C hW ha0.2.2.2.2 dX4_leastBy_12 ?_
    refine lv_icmp_ge (tgt := 55) C.1 C.2.1 dX4_leastBy_13 (by decide) (fun c1 => ?_) (fun c1 => ?_)
    · have hf := if_t c1 hf
      refine lv_iload_n C.1 C.2.1 dX4_leastBy_55 rfl (lv_at hl 3 rfl) ?_
      cases hf
      exact x_iret C hW dX4_leastBy_56
    · have hf := if_f c1 hf
      refine lv_aload_n C.1 C.2.1 dX4_leastBy_16 rfl (lv_at hl 0 rfl) ?_
      refine x_getr C hW (ha0).1 (ha0).2.1 (j := 2) rfl kX4 (by decide) rfl q_235 dX4_leastBy_17 ?_
      refine lv_iload C.1 C.2.1 dX4_leastBy_20 (lv_at hl 4 rfl) ?_
      obtain ⟨g2, hf⟩ := gd_s hf
      refine x_iald C hW ha0.2.2.2.2 g2 dX4_leastBy_22 ?_
      refine lv_ldc C.1 C.2.1 C.2.2.2.1 (C.2.2.2.2.1 _ q_586) dX4_leastBy_23 ?_
      refine lv_icmp_ge (tgt := 49) C.1 C.2.1 dX4_leastBy_25 (by decide) (fun c3 => ?_) (fun c3 => ?_)
      · have hf := if_t c3 hf
        exact wX4_leastBy_49 C hk6 ha0 hW (lv_sub hl [0, 1, 2, 3, 4] rfl) hf
      · have hf := if_f c3 hf
        refine lv_iload_n C.1 C.2.1 dX4_leastBy_28 rfl (lv_at hl 3 rfl) ?_
        refine lv_iload_n C.1 C.2.1 dX4_leastBy_29 rfl (lv_at hl 1 rfl) ?_
        refine lv_iload C.1 C.2.1 dX4_leastBy_30 (lv_at hl 4 rfl) ?_
        refine lv_imul C.1 C.2.1 dX4_leastBy_32 ?_
        refine lv_iload_n C.1 C.2.1 dX4_leastBy_33 rfl (lv_at hl 2 rfl) ?_
        refine lv_iload_n C.1 C.2.1 dX4_leastBy_34 rfl (lv_at hl 1 rfl) ?_
        refine lv_isub C.1 C.2.1 dX4_leastBy_35 ?_
        refine lv_aload_n C.1 C.2.1 dX4_leastBy_36 rfl (lv_at hl 0 rfl) ?_
        refine x_getr C hW (ha0).1 (ha0).2.1 (j := 2) rfl kX4 (by decide) rfl q_235 dX4_leastBy_37 ?_
        refine lv_iload C.1 C.2.1 dX4_leastBy_40 (lv_at hl 4 rfl) ?_
        obtain ⟨g4, hf⟩ := gd_s hf
        refine x_iald C hW ha0.2.2.2.2 g4 dX4_leastBy_42 ?_
        refine lv_imul C.1 C.2.1 dX4_leastBy_43 ?_
        refine lv_iadd C.1 C.2.1 dX4_leastBy_44 ?_
        refine va_mmin C.1 C.2.1 (C.2.2.1.trans hl.1.symm) C.2.2.2.1 (C.2.2.2.2.1 _ q_590) (C.2.2.2.2.1 _ q_421) (C.2.2.2.2.1 _ q_15) (C.2.2.2.2.1 _ q_422) (by decide) (Nat.le_of_ble_eq_true rfl) (Nat.zero_le _) (Nat.zero_le _) dX4_leastBy_45 ?_
        refine lv_topi (fun x5 ex5 => ?_)
        have hf := nm_s hf ex5
        refine lv_istore_n (lv' := [(3, .int x5), (0, .ref (ad a0)), (1, .int a1), (2, .int a2), (4, .int a4)]) C.1 C.2.1 dX4_leastBy_48 rfl hl (by decide) rfl (fun ls hl => ?_)
        exact wX4_leastBy_49 C hk6 ha0 hW (lv_sub hl [1, 2, 3, 0, 4] rfl) hf
set_option maxRecDepth 100000 in
set_option maxHeartbeats 4000000 in
theorem wX4_leastBy_0 (C : Cx p s m meth c args cX4_leastBy 5 (some .int) RX4 D ca ad) {res : Int32 × Mm} {N : Nat}  {a0 : Nat} {a1 : Int32} {a2 : Int32} {mm : Mm} {H : Heap} {locs : List Loc} {ls : Array Slot} (ha0 : sX4 a0) (hW : Wd D ca ad s.heap mm H locs) (hl : lv_has ls 5 [(0, .ref (ad a0)), (1, .int a1), (2, .int a2)]) (hf : fX4_leastBy N a0 a1 a2 mm = some res) : W p l e (rmX4_leastBy) s m args below meth c H locs 0 0 (MQ below (QI D ca ad res) args s 0 0 (AA ad)) (F0 m 0 ls []) := by
  unfold fX4_leastBy at hf
  refine lv_ldc C.1 C.2.1 C.2.2.2.1 (C.2.2.2.2.1 _ q_586) dX4_leastBy_0 ?_
  refine lv_istore_n (lv' := [(3, .int 1000000), (0, .ref (ad a0)), (1, .int a1), (2, .int a2)]) C.1 C.2.1 dX4_leastBy_2 rfl hl (by decide) rfl (fun ls hl => ?_)
  refine lv_iconst (v := 0) C.1 C.2.1 dX4_leastBy_3 (by decide) ?_
  refine lv_istore (lv' := [(4, .int 0), (3, .int 1000000), (0, .ref (ad a0)), (1, .int a1), (2, .int a2)]) C.1 C.2.1 dX4_leastBy_4 hl (by decide) rfl (fun ls hl => ?_)
  exact wX4_leastBy_6 C  N ha0 hW (lv_sub hl [2, 3, 4, 1, 0] rfl) hf
set_option maxRecDepth 100000 in
set_option maxHeartbeats 4000000 in
theorem tX4_leastBy (l : Launch) {D : va_G} {ca ad : Nat → Nat} (hi : Inj ad) {N : Nat} {a0 : Nat} {a1 : Int32} {a2 : Int32} {mm : Mm} {res : Int32 × Mm} (ha0 : sX4 a0) (hf : fX4_leastBy N a0 a1 a2 mm = some res) : Met l yX4_leastBy (WS yX4_leastBy cX4_leastBy 5 (some .int)) (rmX4_leastBy) (va_Pc [.ref (ad a0), .int a1, .int a2] (WB D ca ad mm)) (QI D ca ad res) 0 0 (AA ad) := by
  refine x_start hi (by decide) rfl (Nat.le_of_ble_eq_true rfl) (fun p e s m args below meth c ls C hW hl => ?_)
  exact wX4_leastBy_0 C ha0 hW (lv_sub hl [0, 1, 2] rfl) hf
set_option maxRecDepth 100000 in
set_option maxHeartbeats 4000000 in
theorem wX4_bestParts_29 (C : Cx p s m meth c args cX4_bestParts 3 (some .int) RX4 D ca ad) {res : Int32 × Mm} {N : Nat} {k4 : Nat → Int32 → Int32 → Mm → Option (Int32 × Mm)} (hk4 : ∀ (a0 : Nat) (a1 : Int32) (a2 : Int32) (mm : Mm) (H : Heap) (locs : List Loc) (ls : Array Slot), (sX4 a0) → Wd D ca ad s.heap mm H locs → lv_has ls 3 [(0, .ref (ad a0)), (1, .int a1), (2, .int a2)] → k4 a0 a1 a2 mm = some res → W p l e (rmX4_bestParts) s m args below meth c H locs 0 0 (MQ below (QI D ca ad res) args s 0 0 (AA ad)) (F0 m 4 ls [])) {a0 : Nat} {a1 : Int32} {a2 : Int32} {mm : Mm} {H : Heap} {locs : List Loc} {ls : Array Slot} (ha0 : sX4 a0) (hW : Wd D ca ad s.heap mm H locs) (hl : lv_has ls 3 [(0, .ref (ad a0)), (1, .int a1), (2, .int a2)]) (hf : fX4_bestParts_29 N k4 a0 a1 a2 mm = some res) : W p l e (rmX4_bestParts) s m args below meth c H locs 0 0 (MQ below (QI D ca ad res) args s 0 0 (AA ad)) (F0 m 29 ls []) := by
  unfold fX4_bestParts_29 at hf
  refine lv_iinc (v := (a2 + 1)) (lv' := [(2, .int (a2 + 1)), (0, .ref (ad a0)), (1, .int a1)]) C.1 C.2.1 dX4_bestParts_29 hl (k := 2) rfl rfl (by decide) rfl (fun ls hl => ?_)
  refine lv_goto (tgt := 4) C.1 C.2.1 dX4_bestParts_32 (by decide) ?_
  exact hk4 _ _ _ _ _ _ _ ha0 hW (lv_sub hl [1, 2, 0] rfl) hf
set_option maxRecDepth 100000 in
set_option maxHeartbeats 4000000 in
theorem wX4_bestParts_4 (C : Cx p s m meth c args cX4_bestParts 3 (some .int) RX4 D ca ad) {res : Int32 × Mm} {N : Nat}  : ∀ (n : Nat) {a0 : Nat} {a1 : Int32} {a2 : Int32} {mm : Mm} {H : Heap} {locs : List Loc} {ls : Array Slot}, (sX4 a0) → Wd D ca ad s.heap mm H locs → lv_has ls 3 [(0, .ref (ad a0)), (1, .int a1), (2, .int a2)] → fX4_bestParts_4 N n a0 a1 a2 mm = some res → W p l e (rmX4_bestParts) s m args below meth c H locs 0 0 (MQ below (QI D ca ad res) args s 0 0 (AA ad)) (F0 m 4 ls []) := by
  intro n
  induction n with
  | zero => intro a0 a1 a2 mm H locs ls ha0 hW hl hf; cases hf
  | succ n ih =>
    intro a0 a1 a2 mm H locs ls ha0 hW hl hf
    have hk4 : ∀ (a0 : Nat) (a1 : Int32) (a2 : Int32) (mm : Mm) (H : Heap) (locs : List Loc) (ls : Array Slot), (sX4 a0) → Wd D ca ad s.heap mm H locs → lv_has ls 3 [(0, .ref (ad a0)), (1, .int a1), (2, .int a2)] → (fX4_bestParts_4 N n) a0 a1 a2 mm = some res → W p l e (rmX4_bestParts) s m args below meth c H locs 0 0 (MQ below (QI D ca ad res) args s 0 0 (AA ad)) (F0 m 4 ls []) := fun a0 a1 a2 mm H locs ls ha0 hW hl hf => ih ha0 hW hl hf
    unfold fX4_bestParts_4 at hf
    try dsimp only at hf
    refine lv_iload_n C.1 C.2.1 dX4_bestParts_4 rfl (lv_at hl 2 rfl) ?_
    refine lv_bipush (v := 12) C.1 C.2.1 dX4_bestParts_5 (by decide) ?_
    refine lv_icmp_gt (tgt := 35) C.1 C.2.1 dX4_bestParts_7 (by decide) (fun c1 => ?_) (fun c1 => ?_)
    · have hf := if_t c1 hf
      refine lv_iload_n C.1 C.2.1 dX4_bestParts_35 rfl (lv_at hl 1 rfl) ?_
      cases hf
      exact x_iret C hW dX4_bestParts_36
    · have hf := if_f c1 hf
      refine lv_aload_n C.1 C.2.1 dX4_bestParts_10 rfl (lv_at hl 0 rfl) ?_
      refine lv_iload_n C.1 C.2.1 dX4_bestParts_11 rfl (lv_at hl 2 rfl) ?_
      refine lv_bipush (v := 12) C.1 C.2.1 dX4_bestParts_12 (by decide) ?_
      obtain ⟨x2, m3, r4, hf⟩ := bd2_s hf
      refine x_ci hW (x_runV C hW [.int a2, .int 12] [] (ha0).1 (ha0).2.1 kX4.1 kvX4_leastBy q_604 (tX4_leastBy l C.2.2.2.2.2.2.1 ha0 r4) rfl rfl ⟨by decide, by decide⟩ rfl hl.1 rfl (Nat.le_of_ble_eq_true rfl) dX4_bestParts_14) (fun H locs hW => ?_)
      refine lv_aload_n C.1 C.2.1 dX4_bestParts_17 rfl (lv_at hl 0 rfl) ?_
      refine lv_iload_n C.1 C.2.1 dX4_bestParts_18 rfl (lv_at hl 1 rfl) ?_
      refine lv_bipush (v := 12) C.1 C.2.1 dX4_bestParts_19 (by decide) ?_
      obtain ⟨x5, m6, r7, hf⟩ := bd2_s hf
      refine x_ci hW (x_runV C hW [.int a1, .int 12] [.int x2] (ha0).1 (ha0).2.1 kX4.1 kvX4_leastBy q_604 (tX4_leastBy l C.2.2.2.2.2.2.1 ha0 r7) rfl rfl ⟨by decide, by decide⟩ rfl hl.1 rfl (Nat.le_of_ble_eq_true rfl) dX4_bestParts_21) (fun H locs hW => ?_)
      refine lv_icmp_le (tgt := 29) C.1 C.2.1 dX4_bestParts_24 (by decide) (fun c8 => ?_) (fun c8 => ?_)
      · have hf := if_t c8 hf
        exact wX4_bestParts_29 C hk4 ha0 hW (lv_sub hl [0, 1, 2] rfl) hf
      · have hf := if_f c8 hf
        refine lv_iload_n C.1 C.2.1 dX4_bestParts_27 rfl (lv_at hl 2 rfl) ?_
        refine lv_istore_n (lv' := [(1, .int a2), (0, .ref (ad a0)), (2, .int a2)]) C.1 C.2.1 dX4_bestParts_28 rfl hl (by decide) rfl (fun ls hl => ?_)
        exact wX4_bestParts_29 C hk4 ha0 hW (lv_sub hl [1, 0, 2] rfl) hf
set_option maxRecDepth 100000 in
set_option maxHeartbeats 4000000 in
theorem wX4_bestParts_0 (C : Cx p s m meth c args cX4_bestParts 3 (some .int) RX4 D ca ad) {res : Int32 × Mm} {N : Nat}  {a0 : Nat} {mm : Mm} {H : Heap} {locs : List Loc} {ls : Array Slot} (ha0 : sX4 a0) (hW : Wd D ca ad s.heap mm H locs) (hl : lv_has ls 3 [(0, .ref (ad a0))]) (hf : fX4_bestParts N a0 mm = some res) : W p l e (rmX4_bestParts) s m args below meth c H locs 0 0 (MQ below (QI D ca ad res) args s 0 0 (AA ad)) (F0 m 0 ls []) := by
  unfold fX4_bestParts at hf
  refine lv_iconst (v := 0) C.1 C.2.1 dX4_bestParts_0 (by decide) ?_
  refine lv_istore_n (lv' := [(1, .int 0), (0, .ref (ad a0))]) C.1 C.2.1 dX4_bestParts_1 rfl hl (by decide) rfl (fun ls hl => ?_)
  refine lv_iconst (v := 1) C.1 C.2.1 dX4_bestParts_2 (by decide) ?_
  refine lv_istore_n (lv' := [(2, .int 1), (1, .int 0), (0, .ref (ad a0))]) C.1 C.2.1 dX4_bestParts_3 rfl hl (by decide) rfl (fun ls hl => ?_)
  exact wX4_bestParts_4 C  N ha0 hW (lv_sub hl [2, 1, 0] rfl) hf
set_option maxRecDepth 100000 in
set_option maxHeartbeats 4000000 in
theorem tX4_bestParts (l : Launch) {D : va_G} {ca ad : Nat → Nat} (hi : Inj ad) {N : Nat} {a0 : Nat} {mm : Mm} {res : Int32 × Mm} (ha0 : sX4 a0) (hf : fX4_bestParts N a0 mm = some res) : Met l yX4_bestParts (WS yX4_bestParts cX4_bestParts 3 (some .int)) (rmX4_bestParts) (va_Pc [.ref (ad a0)] (WB D ca ad mm)) (QI D ca ad res) 0 0 (AA ad) := by
  refine x_start hi (by decide) rfl (Nat.le_of_ble_eq_true rfl) (fun p e s m args below meth c ls C hW hl => ?_)
  exact wX4_bestParts_0 C ha0 hW (lv_sub hl [0] rfl) hf
end W_dread11
