theorem dX10_forget_0 : decode cX10_forget 0 = .ok (.aload_n 0, 1) := by decide +kernel
theorem dX10_forget_1 : decode cX10_forget 1 = .ok (.iconst 0, 1) := by decide +kernel
theorem dX10_forget_2 : decode cX10_forget 2 = .ok (.putfield 18, 3) := by decide +kernel
theorem dX10_forget_5 : decode cX10_forget 5 = .ok (.return_, 1) := by decide +kernel
theorem dX10_placeOf_0 : decode cX10_placeOf 0 = .ok (.iload_n 0, 1) := by decide +kernel
theorem dX10_placeOf_1 : decode cX10_placeOf 1 = .ok (.ifCond .lt 29, 3) := by decide +kernel
theorem dX10_placeOf_4 : decode cX10_placeOf 4 = .ok (.iload_n 0, 1) := by decide +kernel
theorem dX10_placeOf_5 : decode cX10_placeOf 5 = .ok (.bipush 6, 2) := by decide +kernel
theorem dX10_placeOf_7 : decode cX10_placeOf 7 = .ok (.if_icmp .gt 23, 3) := by decide +kernel
theorem dX10_placeOf_10 : decode cX10_placeOf 10 = .ok (.iload_n 1, 1) := by decide +kernel
theorem dX10_placeOf_11 : decode cX10_placeOf 11 = .ok (.ifCond .lt 19, 3) := by decide +kernel
theorem dX10_placeOf_14 : decode cX10_placeOf 14 = .ok (.iload_n 1, 1) := by decide +kernel
theorem dX10_placeOf_15 : decode cX10_placeOf 15 = .ok (.bipush 16, 2) := by decide +kernel
theorem dX10_placeOf_17 : decode cX10_placeOf 17 = .ok (.if_icmp .ge 13, 3) := by decide +kernel
theorem dX10_placeOf_20 : decode cX10_placeOf 20 = .ok (.iload_n 2, 1) := by decide +kernel
theorem dX10_placeOf_21 : decode cX10_placeOf 21 = .ok (.ifCond .lt 9, 3) := by decide +kernel
theorem dX10_placeOf_24 : decode cX10_placeOf 24 = .ok (.iload_n 2, 1) := by decide +kernel
theorem dX10_placeOf_25 : decode cX10_placeOf 25 = .ok (.bipush 16, 2) := by decide +kernel
theorem dX10_placeOf_27 : decode cX10_placeOf 27 = .ok (.if_icmp .lt 6, 3) := by decide +kernel
theorem dX10_placeOf_30 : decode cX10_placeOf 30 = .ok (.bipush (-9), 2) := by decide +kernel
theorem dX10_placeOf_32 : decode cX10_placeOf 32 = .ok (.ireturn, 1) := by decide +kernel
theorem dX10_placeOf_33 : decode cX10_placeOf 33 = .ok (.iload_n 0, 1) := by decide +kernel
theorem dX10_placeOf_34 : decode cX10_placeOf 34 = .ok (.bipush 16, 2) := by decide +kernel
theorem dX10_placeOf_36 : decode cX10_placeOf 36 = .ok (.imul, 1) := by decide +kernel
theorem dX10_placeOf_37 : decode cX10_placeOf 37 = .ok (.iload_n 1, 1) := by decide +kernel
theorem dX10_placeOf_38 : decode cX10_placeOf 38 = .ok (.iadd, 1) := by decide +kernel
theorem dX10_placeOf_39 : decode cX10_placeOf 39 = .ok (.bipush 16, 2) := by decide +kernel
theorem dX10_placeOf_41 : decode cX10_placeOf 41 = .ok (.imul, 1) := by decide +kernel
theorem dX10_placeOf_42 : decode cX10_placeOf 42 = .ok (.iload_n 2, 1) := by decide +kernel
theorem dX10_placeOf_43 : decode cX10_placeOf 43 = .ok (.iadd, 1) := by decide +kernel
theorem dX10_placeOf_44 : decode cX10_placeOf 44 = .ok (.ireturn, 1) := by decide +kernel
theorem dX10_value_0 : decode cX10_value 0 = .ok (.iload_n 1, 1) := by decide +kernel
theorem dX10_value_1 : decode cX10_value 1 = .ok (.iload_n 2, 1) := by decide +kernel
theorem dX10_value_2 : decode cX10_value 2 = .ok (.iload_n 3, 1) := by decide +kernel
theorem dX10_value_3 : decode cX10_value 3 = .ok (.invokestatic 69, 3) := by decide +kernel
theorem dX10_value_6 : decode cX10_value 6 = .ok (.istore 4, 2) := by decide +kernel
theorem dX10_value_8 : decode cX10_value 8 = .ok (.iload 4, 2) := by decide +kernel
theorem dX10_value_10 : decode cX10_value 10 = .ok (.ifCond .ge 7, 3) := by decide +kernel
theorem dX10_value_13 : decode cX10_value 13 = .ok (.iconst 0, 1) := by decide +kernel
theorem dX10_value_14 : decode cX10_value 14 = .ok (.goto 10, 3) := by decide +kernel
theorem dX10_value_17 : decode cX10_value 17 = .ok (.aload_n 0, 1) := by decide +kernel
theorem dX10_value_18 : decode cX10_value 18 = .ok (.getfield 9, 3) := by decide +kernel
theorem dX10_value_21 : decode cX10_value 21 = .ok (.iload 4, 2) := by decide +kernel
theorem dX10_value_23 : decode cX10_value 23 = .ok (.iaload, 1) := by decide +kernel
theorem dX10_value_24 : decode cX10_value 24 = .ok (.ireturn, 1) := by decide +kernel
theorem dX10_after_0 : decode cX10_after 0 = .ok (.ldc 85, 2) := by decide +kernel
theorem dX10_after_2 : decode cX10_after 2 = .ok (.istore 6, 2) := by decide +kernel
theorem dX10_after_4 : decode cX10_after 4 = .ok (.aload_n 0, 1) := by decide +kernel
theorem dX10_after_5 : decode cX10_after 5 = .ok (.iconst 0, 1) := by decide +kernel
theorem dX10_after_6 : decode cX10_after 6 = .ok (.putfield 48, 3) := by decide +kernel
theorem dX10_after_9 : decode cX10_after 9 = .ok (.iconst 0, 1) := by decide +kernel
theorem dX10_after_10 : decode cX10_after 10 = .ok (.istore 7, 2) := by decide +kernel
theorem dX10_after_12 : decode cX10_after 12 = .ok (.iload 7, 2) := by decide +kernel
theorem dX10_after_14 : decode cX10_after 14 = .ok (.iconst 3, 1) := by decide +kernel
theorem dX10_after_15 : decode cX10_after 15 = .ok (.if_icmp .ge 127, 3) := by decide +kernel
theorem dX10_after_18 : decode cX10_after 18 = .ok (.iload 5, 2) := by decide +kernel
theorem dX10_after_20 : decode cX10_after 20 = .ok (.iconst 3, 1) := by decide +kernel
theorem dX10_after_21 : decode cX10_after 21 = .ok (.imul, 1) := by decide +kernel
theorem dX10_after_22 : decode cX10_after 22 = .ok (.iload 7, 2) := by decide +kernel
theorem dX10_after_24 : decode cX10_after 24 = .ok (.iadd, 1) := by decide +kernel
theorem dX10_after_25 : decode cX10_after 25 = .ok (.istore 8, 2) := by decide +kernel
theorem dX10_after_27 : decode cX10_after 27 = .ok (.iload 8, 2) := by decide +kernel
theorem dX10_after_29 : decode cX10_after 29 = .ok (.ifCond .lt 23, 3) := by decide +kernel
theorem dX10_after_32 : decode cX10_after 32 = .ok (.iload 8, 2) := by decide +kernel
theorem dX10_after_34 : decode cX10_after 34 = .ok (.aload_n 0, 1) := by decide +kernel
theorem dX10_after_35 : decode cX10_after 35 = .ok (.getfield 15, 3) := by decide +kernel
theorem dX10_after_38 : decode cX10_after 38 = .ok (.arraylength, 1) := by decide +kernel
theorem dX10_after_39 : decode cX10_after 39 = .ok (.if_icmp .ge 13, 3) := by decide +kernel
theorem dX10_after_42 : decode cX10_after 42 = .ok (.aload_n 0, 1) := by decide +kernel
theorem dX10_after_43 : decode cX10_after 43 = .ok (.getfield 15, 3) := by decide +kernel
theorem dX10_after_46 : decode cX10_after 46 = .ok (.iload 8, 2) := by decide +kernel
theorem dX10_after_48 : decode cX10_after 48 = .ok (.iaload, 1) := by decide +kernel
theorem dX10_after_49 : decode cX10_after 49 = .ok (.goto 5, 3) := by decide +kernel
theorem dX10_after_52 : decode cX10_after 52 = .ok (.bipush (-9), 2) := by decide +kernel
theorem dX10_after_54 : decode cX10_after 54 = .ok (.istore 9, 2) := by decide +kernel
theorem dX10_after_56 : decode cX10_after 56 = .ok (.iload 9, 2) := by decide +kernel
theorem dX10_after_58 : decode cX10_after 58 = .ok (.ifCond .lt 78, 3) := by decide +kernel
theorem dX10_after_61 : decode cX10_after 61 = .ok (.iload 9, 2) := by decide +kernel
theorem dX10_after_63 : decode cX10_after 63 = .ok (.iload 4, 2) := by decide +kernel
theorem dX10_after_65 : decode cX10_after 65 = .ok (.if_icmp .gt 71, 3) := by decide +kernel
theorem dX10_after_68 : decode cX10_after 68 = .ok (.aload_n 1, 1) := by decide +kernel
theorem dX10_after_69 : decode cX10_after 69 = .ok (.iconst 0, 1) := by decide +kernel
theorem dX10_after_70 : decode cX10_after 70 = .ok (.iload 7, 2) := by decide +kernel
theorem dX10_after_72 : decode cX10_after 72 = .ok (.invokevirtual 86, 3) := by decide +kernel
theorem dX10_after_75 : decode cX10_after 75 = .ok (.aload_n 1, 1) := by decide +kernel
theorem dX10_after_76 : decode cX10_after 76 = .ok (.iconst 1, 1) := by decide +kernel
theorem dX10_after_77 : decode cX10_after 77 = .ok (.iload 7, 2) := by decide +kernel
theorem dX10_after_79 : decode cX10_after 79 = .ok (.invokevirtual 86, 3) := by decide +kernel
theorem dX10_after_82 : decode cX10_after 82 = .ok (.isub, 1) := by decide +kernel
theorem dX10_after_83 : decode cX10_after 83 = .ok (.istore 10, 2) := by decide +kernel
theorem dX10_after_85 : decode cX10_after 85 = .ok (.iload 10, 2) := by decide +kernel
theorem dX10_after_87 : decode cX10_after 87 = .ok (.aload_n 0, 1) := by decide +kernel
theorem dX10_after_88 : decode cX10_after 88 = .ok (.iload_n 2, 1) := by decide +kernel
theorem dX10_after_89 : decode cX10_after 89 = .ok (.iconst 1, 1) := by decide +kernel
theorem dX10_after_90 : decode cX10_after 90 = .ok (.iadd, 1) := by decide +kernel
theorem dX10_after_91 : decode cX10_after 91 = .ok (.iload_n 3, 1) := by decide +kernel
theorem dX10_after_92 : decode cX10_after 92 = .ok (.iload 4, 2) := by decide +kernel
theorem dX10_after_94 : decode cX10_after 94 = .ok (.iload 9, 2) := by decide +kernel
theorem dX10_after_96 : decode cX10_after 96 = .ok (.isub, 1) := by decide +kernel
theorem dX10_after_97 : decode cX10_after 97 = .ok (.invokevirtual 26, 3) := by decide +kernel
theorem dX10_after_100 : decode cX10_after 100 = .ok (.iadd, 1) := by decide +kernel
theorem dX10_after_101 : decode cX10_after 101 = .ok (.istore 11, 2) := by decide +kernel
theorem dX10_after_103 : decode cX10_after 103 = .ok (.iload 11, 2) := by decide +kernel
theorem dX10_after_105 : decode cX10_after 105 = .ok (.iload 6, 2) := by decide +kernel
theorem dX10_after_107 : decode cX10_after 107 = .ok (.if_icmp .lt 19, 3) := by decide +kernel
theorem dX10_after_110 : decode cX10_after 110 = .ok (.iload 11, 2) := by decide +kernel
theorem dX10_after_112 : decode cX10_after 112 = .ok (.iload 6, 2) := by decide +kernel
theorem dX10_after_114 : decode cX10_after 114 = .ok (.if_icmp .ne 22, 3) := by decide +kernel
theorem dX10_after_117 : decode cX10_after 117 = .ok (.iload 9, 2) := by decide +kernel
theorem dX10_after_119 : decode cX10_after 119 = .ok (.aload_n 0, 1) := by decide +kernel
theorem dX10_after_120 : decode cX10_after 120 = .ok (.getfield 48, 3) := by decide +kernel
theorem dX10_after_123 : decode cX10_after 123 = .ok (.if_icmp .ge 13, 3) := by decide +kernel
theorem dX10_after_126 : decode cX10_after 126 = .ok (.iload 11, 2) := by decide +kernel
theorem dX10_after_128 : decode cX10_after 128 = .ok (.istore 6, 2) := by decide +kernel
theorem dX10_after_130 : decode cX10_after 130 = .ok (.aload_n 0, 1) := by decide +kernel
theorem dX10_after_131 : decode cX10_after 131 = .ok (.iload 9, 2) := by decide +kernel
theorem dX10_after_133 : decode cX10_after 133 = .ok (.putfield 48, 3) := by decide +kernel
theorem dX10_after_136 : decode cX10_after 136 = .ok (.iinc 7 1, 3) := by decide +kernel
theorem dX10_after_139 : decode cX10_after 139 = .ok (.goto (-127), 3) := by decide +kernel
theorem dX10_after_142 : decode cX10_after 142 = .ok (.iload 6, 2) := by decide +kernel
theorem dX10_after_144 : decode cX10_after 144 = .ok (.ireturn, 1) := by decide +kernel
theorem dX10_fillSuit_0 : decode cX10_fillSuit 0 = .ok (.iconst 0, 1) := by decide +kernel
theorem dX10_fillSuit_1 : decode cX10_fillSuit 1 = .ok (.istore_n 3, 1) := by decide +kernel
theorem dX10_fillSuit_2 : decode cX10_fillSuit 2 = .ok (.iload_n 3, 1) := by decide +kernel
theorem dX10_fillSuit_3 : decode cX10_fillSuit 3 = .ok (.bipush 16, 2) := by decide +kernel
theorem dX10_fillSuit_5 : decode cX10_fillSuit 5 = .ok (.if_icmp .ge 88, 3) := by decide +kernel
theorem dX10_fillSuit_8 : decode cX10_fillSuit 8 = .ok (.iconst 0, 1) := by decide +kernel
theorem dX10_fillSuit_9 : decode cX10_fillSuit 9 = .ok (.istore 4, 2) := by decide +kernel
theorem dX10_fillSuit_11 : decode cX10_fillSuit 11 = .ok (.iload 4, 2) := by decide +kernel
theorem dX10_fillSuit_13 : decode cX10_fillSuit 13 = .ok (.bipush 16, 2) := by decide +kernel
theorem dX10_fillSuit_15 : decode cX10_fillSuit 15 = .ok (.if_icmp .ge 72, 3) := by decide +kernel
theorem dX10_fillSuit_18 : decode cX10_fillSuit 18 = .ok (.ldc 62, 2) := by decide +kernel
theorem dX10_fillSuit_20 : decode cX10_fillSuit 20 = .ok (.istore 5, 2) := by decide +kernel
theorem dX10_fillSuit_22 : decode cX10_fillSuit 22 = .ok (.iconst 0, 1) := by decide +kernel
theorem dX10_fillSuit_23 : decode cX10_fillSuit 23 = .ok (.istore 6, 2) := by decide +kernel
theorem dX10_fillSuit_25 : decode cX10_fillSuit 25 = .ok (.iload 6, 2) := by decide +kernel
theorem dX10_fillSuit_27 : decode cX10_fillSuit 27 = .ok (.iload_n 3, 1) := by decide +kernel
theorem dX10_fillSuit_28 : decode cX10_fillSuit 28 = .ok (.if_icmp .gt 30, 3) := by decide +kernel
theorem dX10_fillSuit_31 : decode cX10_fillSuit 31 = .ok (.iload 5, 2) := by decide +kernel
theorem dX10_fillSuit_33 : decode cX10_fillSuit 33 = .ok (.aload_n 0, 1) := by decide +kernel
theorem dX10_fillSuit_34 : decode cX10_fillSuit 34 = .ok (.aload_n 1, 1) := by decide +kernel
theorem dX10_fillSuit_35 : decode cX10_fillSuit 35 = .ok (.iload_n 2, 1) := by decide +kernel
theorem dX10_fillSuit_36 : decode cX10_fillSuit 36 = .ok (.iload_n 3, 1) := by decide +kernel
theorem dX10_fillSuit_37 : decode cX10_fillSuit 37 = .ok (.iload 6, 2) := by decide +kernel
theorem dX10_fillSuit_39 : decode cX10_fillSuit 39 = .ok (.isub, 1) := by decide +kernel
theorem dX10_fillSuit_40 : decode cX10_fillSuit 40 = .ok (.iload 4, 2) := by decide +kernel
theorem dX10_fillSuit_42 : decode cX10_fillSuit 42 = .ok (.iload 6, 2) := by decide +kernel
theorem dX10_fillSuit_44 : decode cX10_fillSuit 44 = .ok (.invokevirtual 44, 3) := by decide +kernel
theorem dX10_fillSuit_47 : decode cX10_fillSuit 47 = .ok (.invokestatic 63, 3) := by decide +kernel
theorem dX10_fillSuit_50 : decode cX10_fillSuit 50 = .ok (.istore 5, 2) := by decide +kernel
theorem dX10_fillSuit_52 : decode cX10_fillSuit 52 = .ok (.iinc 6 1, 3) := by decide +kernel
theorem dX10_fillSuit_55 : decode cX10_fillSuit 55 = .ok (.goto (-30), 3) := by decide +kernel
theorem dX10_fillSuit_58 : decode cX10_fillSuit 58 = .ok (.iload_n 2, 1) := by decide +kernel
theorem dX10_fillSuit_59 : decode cX10_fillSuit 59 = .ok (.iload_n 3, 1) := by decide +kernel
theorem dX10_fillSuit_60 : decode cX10_fillSuit 60 = .ok (.iload 4, 2) := by decide +kernel
theorem dX10_fillSuit_62 : decode cX10_fillSuit 62 = .ok (.invokestatic 69, 3) := by decide +kernel
theorem dX10_fillSuit_65 : decode cX10_fillSuit 65 = .ok (.istore 6, 2) := by decide +kernel
theorem dX10_fillSuit_67 : decode cX10_fillSuit 67 = .ok (.iload 6, 2) := by decide +kernel
theorem dX10_fillSuit_69 : decode cX10_fillSuit 69 = .ok (.ifCond .lt 12, 3) := by decide +kernel
theorem dX10_fillSuit_72 : decode cX10_fillSuit 72 = .ok (.aload_n 0, 1) := by decide +kernel
theorem dX10_fillSuit_73 : decode cX10_fillSuit 73 = .ok (.getfield 9, 3) := by decide +kernel
theorem dX10_fillSuit_76 : decode cX10_fillSuit 76 = .ok (.iload 6, 2) := by decide +kernel
theorem dX10_fillSuit_78 : decode cX10_fillSuit 78 = .ok (.iload 5, 2) := by decide +kernel
theorem dX10_fillSuit_80 : decode cX10_fillSuit 80 = .ok (.iastore, 1) := by decide +kernel
theorem dX10_fillSuit_81 : decode cX10_fillSuit 81 = .ok (.iinc 4 1, 3) := by decide +kernel
theorem dX10_fillSuit_84 : decode cX10_fillSuit 84 = .ok (.goto (-73), 3) := by decide +kernel
theorem dX10_fillSuit_87 : decode cX10_fillSuit 87 = .ok (.iinc 3 1, 3) := by decide +kernel
theorem dX10_fillSuit_90 : decode cX10_fillSuit 90 = .ok (.goto (-88), 3) := by decide +kernel
theorem dX10_fillSuit_93 : decode cX10_fillSuit 93 = .ok (.return_, 1) := by decide +kernel
theorem dX10_prepare_0 : decode cX10_prepare 0 = .ok (.aload_n 1, 1) := by decide +kernel
theorem dX10_prepare_1 : decode cX10_prepare 1 = .ok (.iload_n 2, 1) := by decide +kernel
theorem dX10_prepare_2 : decode cX10_prepare 2 = .ok (.iconst 0, 1) := by decide +kernel
theorem dX10_prepare_3 : decode cX10_prepare 3 = .ok (.invokevirtual 72, 3) := by decide +kernel
theorem dX10_prepare_6 : decode cX10_prepare 6 = .ok (.istore_n 3, 1) := by decide +kernel
theorem dX10_prepare_7 : decode cX10_prepare 7 = .ok (.iconst 0, 1) := by decide +kernel
theorem dX10_prepare_8 : decode cX10_prepare 8 = .ok (.istore 4, 2) := by decide +kernel
theorem dX10_prepare_10 : decode cX10_prepare 10 = .ok (.iload 4, 2) := by decide +kernel
theorem dX10_prepare_12 : decode cX10_prepare 12 = .ok (.bipush 16, 2) := by decide +kernel
theorem dX10_prepare_14 : decode cX10_prepare 14 = .ok (.if_icmp .ge 51, 3) := by decide +kernel
theorem dX10_prepare_17 : decode cX10_prepare 17 = .ok (.iconst 0, 1) := by decide +kernel
theorem dX10_prepare_18 : decode cX10_prepare 18 = .ok (.istore 5, 2) := by decide +kernel
theorem dX10_prepare_20 : decode cX10_prepare 20 = .ok (.iload 5, 2) := by decide +kernel
theorem dX10_prepare_22 : decode cX10_prepare 22 = .ok (.iconst 3, 1) := by decide +kernel
theorem dX10_prepare_23 : decode cX10_prepare 23 = .ok (.if_icmp .ge 36, 3) := by decide +kernel
theorem dX10_prepare_26 : decode cX10_prepare 26 = .ok (.aload_n 0, 1) := by decide +kernel
theorem dX10_prepare_27 : decode cX10_prepare 27 = .ok (.getfield 15, 3) := by decide +kernel
theorem dX10_prepare_30 : decode cX10_prepare 30 = .ok (.iload 4, 2) := by decide +kernel
theorem dX10_prepare_32 : decode cX10_prepare 32 = .ok (.iconst 3, 1) := by decide +kernel
theorem dX10_prepare_33 : decode cX10_prepare 33 = .ok (.imul, 1) := by decide +kernel
theorem dX10_prepare_34 : decode cX10_prepare 34 = .ok (.iload 5, 2) := by decide +kernel
theorem dX10_prepare_36 : decode cX10_prepare 36 = .ok (.iadd, 1) := by decide +kernel
theorem dX10_prepare_37 : decode cX10_prepare 37 = .ok (.aload_n 1, 1) := by decide +kernel
theorem dX10_prepare_38 : decode cX10_prepare 38 = .ok (.iconst 1, 1) := by decide +kernel
theorem dX10_prepare_39 : decode cX10_prepare 39 = .ok (.iload 5, 2) := by decide +kernel
theorem dX10_prepare_41 : decode cX10_prepare 41 = .ok (.aload_n 1, 1) := by decide +kernel
theorem dX10_prepare_42 : decode cX10_prepare 42 = .ok (.iload 4, 2) := by decide +kernel
theorem dX10_prepare_44 : decode cX10_prepare 44 = .ok (.iload_n 3, 1) := by decide +kernel
theorem dX10_prepare_45 : decode cX10_prepare 45 = .ok (.invokevirtual 78, 3) := by decide +kernel
theorem dX10_prepare_48 : decode cX10_prepare 48 = .ok (.iload_n 3, 1) := by decide +kernel
theorem dX10_prepare_49 : decode cX10_prepare 49 = .ok (.invokevirtual 81, 3) := by decide +kernel
theorem dX10_prepare_52 : decode cX10_prepare 52 = .ok (.iastore, 1) := by decide +kernel
theorem dX10_prepare_53 : decode cX10_prepare 53 = .ok (.iinc 5 1, 3) := by decide +kernel
theorem dX10_prepare_56 : decode cX10_prepare 56 = .ok (.goto (-36), 3) := by decide +kernel
theorem dX10_prepare_59 : decode cX10_prepare 59 = .ok (.iinc 4 1, 3) := by decide +kernel
theorem dX10_prepare_62 : decode cX10_prepare 62 = .ok (.goto (-52), 3) := by decide +kernel
theorem dX10_prepare_65 : decode cX10_prepare 65 = .ok (.return_, 1) := by decide +kernel
theorem dX10_fill_0 : decode cX10_fill 0 = .ok (.aload_n 0, 1) := by decide +kernel
theorem dX10_fill_1 : decode cX10_fill 1 = .ok (.getfield 18, 3) := by decide +kernel
theorem dX10_fill_4 : decode cX10_fill 4 = .ok (.ifCond .eq 4, 3) := by decide +kernel
theorem dX10_fill_7 : decode cX10_fill 7 = .ok (.return_, 1) := by decide +kernel
theorem dX10_fill_8 : decode cX10_fill 8 = .ok (.aload_n 0, 1) := by decide +kernel
theorem dX10_fill_9 : decode cX10_fill 9 = .ok (.getfield 9, 3) := by decide +kernel
theorem dX10_fill_12 : decode cX10_fill 12 = .ok (.iconst 0, 1) := by decide +kernel
theorem dX10_fill_13 : decode cX10_fill 13 = .ok (.invokestatic 51, 3) := by decide +kernel
theorem dX10_fill_16 : decode cX10_fill 16 = .ok (.aload_n 1, 1) := by decide +kernel
theorem dX10_fill_17 : decode cX10_fill 17 = .ok (.getfield 56, 3) := by decide +kernel
theorem dX10_fill_20 : decode cX10_fill 20 = .ok (.iconst 1, 1) := by decide +kernel
theorem dX10_fill_21 : decode cX10_fill 21 = .ok (.isub, 1) := by decide +kernel
theorem dX10_fill_22 : decode cX10_fill 22 = .ok (.istore_n 2, 1) := by decide +kernel
theorem dX10_fill_23 : decode cX10_fill 23 = .ok (.iload_n 2, 1) := by decide +kernel
theorem dX10_fill_24 : decode cX10_fill 24 = .ok (.ifCond .lt 34, 3) := by decide +kernel
theorem dX10_fill_27 : decode cX10_fill 27 = .ok (.aload_n 1, 1) := by decide +kernel
theorem dX10_fill_28 : decode cX10_fill 28 = .ok (.iload_n 2, 1) := by decide +kernel
theorem dX10_fill_29 : decode cX10_fill 29 = .ok (.invokevirtual 30, 3) := by decide +kernel
theorem dX10_fill_32 : decode cX10_fill 32 = .ok (.astore_n 3, 1) := by decide +kernel
theorem dX10_fill_33 : decode cX10_fill 33 = .ok (.aload_n 3, 1) := by decide +kernel
theorem dX10_fill_34 : decode cX10_fill 34 = .ok (.ifnull 18, 3) := by decide +kernel
theorem dX10_fill_37 : decode cX10_fill 37 = .ok (.aload_n 0, 1) := by decide +kernel
theorem dX10_fill_38 : decode cX10_fill 38 = .ok (.aload_n 3, 1) := by decide +kernel
theorem dX10_fill_39 : decode cX10_fill 39 = .ok (.aload_n 1, 1) := by decide +kernel
theorem dX10_fill_40 : decode cX10_fill 40 = .ok (.getfield 36, 3) := by decide +kernel
theorem dX10_fill_43 : decode cX10_fill 43 = .ok (.invokevirtual 40, 3) := by decide +kernel
theorem dX10_fill_46 : decode cX10_fill 46 = .ok (.aload_n 0, 1) := by decide +kernel
theorem dX10_fill_47 : decode cX10_fill 47 = .ok (.aload_n 3, 1) := by decide +kernel
theorem dX10_fill_48 : decode cX10_fill 48 = .ok (.iload_n 2, 1) := by decide +kernel
theorem dX10_fill_49 : decode cX10_fill 49 = .ok (.invokevirtual 59, 3) := by decide +kernel
theorem dX10_fill_52 : decode cX10_fill 52 = .ok (.iinc 2 (-1), 3) := by decide +kernel
theorem dX10_fill_55 : decode cX10_fill 55 = .ok (.goto (-32), 3) := by decide +kernel
theorem dX10_fill_58 : decode cX10_fill 58 = .ok (.aload_n 0, 1) := by decide +kernel
theorem dX10_fill_59 : decode cX10_fill 59 = .ok (.iconst 1, 1) := by decide +kernel
theorem dX10_fill_60 : decode cX10_fill 60 = .ok (.putfield 18, 3) := by decide +kernel
theorem dX10_fill_63 : decode cX10_fill 63 = .ok (.return_, 1) := by decide +kernel
theorem dX10_valueOf_0 : decode cX10_valueOf 0 = .ok (.aload_n 0, 1) := by decide +kernel
theorem dX10_valueOf_1 : decode cX10_valueOf 1 = .ok (.aload_n 1, 1) := by decide +kernel
theorem dX10_valueOf_2 : decode cX10_valueOf 2 = .ok (.invokevirtual 22, 3) := by decide +kernel
theorem dX10_valueOf_5 : decode cX10_valueOf 5 = .ok (.aload_n 0, 1) := by decide +kernel
theorem dX10_valueOf_6 : decode cX10_valueOf 6 = .ok (.iload_n 2, 1) := by decide +kernel
theorem dX10_valueOf_7 : decode cX10_valueOf 7 = .ok (.iload_n 3, 1) := by decide +kernel
theorem dX10_valueOf_8 : decode cX10_valueOf 8 = .ok (.iload 4, 2) := by decide +kernel
theorem dX10_valueOf_10 : decode cX10_valueOf 10 = .ok (.invokevirtual 26, 3) := by decide +kernel
theorem dX10_valueOf_13 : decode cX10_valueOf 13 = .ok (.ireturn, 1) := by decide +kernel
theorem q_251 : Cond.fieldLink RX10 18 "HeavyFiles$TurnTable" "isFilled" "Z" ∈ wT := wi_t 251 (by decide +kernel) (by decide +kernel)
theorem q_645 : Cond.methodLink RX10 69 yX10_placeOf ∈ wT := wi_t 645 (by decide +kernel) (by decide +kernel)
theorem q_647 : Cond.code yX10_placeOf cX10_placeOf 3 (some .int) ∈ wT := wi_t 647 (by decide +kernel) (by decide +kernel)
theorem q_646 : Cond.static yX10_placeOf ∈ wT := wi_t 646 (by decide +kernel) (by decide +kernel)
theorem q_10 : Cond.initialized RX10 ∈ wT := wi_t 10 (by decide +kernel) (by decide +kernel)
theorem q_249 : Cond.fieldLink RX10 9 "HeavyFiles$TurnTable" "values" "[I" ∈ wT := wi_t 249 (by decide +kernel) (by decide +kernel)
theorem q_252 : Cond.fieldLink RX10 48 "HeavyFiles$TurnTable" "answered" "I" ∈ wT := wi_t 252 (by decide +kernel) (by decide +kernel)
theorem q_640 : Cond.methodLink RX10 86 yX9_points ∈ wT := wi_t 640 (by decide +kernel) (by decide +kernel)
theorem q_641 : Cond.methodLink RX10 26 yX10_value ∈ wT := wi_t 641 (by decide +kernel) (by decide +kernel)
theorem q_644 : Cond.code yX10_value cX10_value 5 (some .int) ∈ wT := wi_t 644 (by decide +kernel) (by decide +kernel)
theorem q_643 : Cond.instanceMethod yX10_value ∈ wT := wi_t 643 (by decide +kernel) (by decide +kernel)
theorem qs_15 : Cond.selects RX10 yX10_value yX10_value ∈ wT := wi_s (q := (yX10_value, 4)) 15 (by decide +kernel) (by decide +kernel)
theorem q_250 : Cond.fieldLink RX10 15 "HeavyFiles$TurnTable" "needs" "[I" ∈ wT := wi_t 250 (by decide +kernel) (by decide +kernel)
theorem q_639 : Cond.constant RX10 85 1000000 ∈ wT := wi_t 639 (by decide +kernel) (by decide +kernel)
theorem q_635 : Cond.methodLink RX10 44 yX10_after ∈ wT := wi_t 635 (by decide +kernel) (by decide +kernel)
theorem q_638 : Cond.code yX10_after cX10_after 12 (some .int) ∈ wT := wi_t 638 (by decide +kernel) (by decide +kernel)
theorem q_637 : Cond.instanceMethod yX10_after ∈ wT := wi_t 637 (by decide +kernel) (by decide +kernel)
theorem qs_14 : Cond.selects RX10 yX10_after yX10_after ∈ wT := wi_s (q := (yX10_after, 4)) 14 (by decide +kernel) (by decide +kernel)
theorem q_648 : Cond.methodLink RX10 63 Lib.Math.max.name ∈ wT := wi_t 648 (by decide +kernel) (by decide +kernel)
theorem q_634 : Cond.constant RX10 62 (-1000000) ∈ wT := wi_t 634 (by decide +kernel) (by decide +kernel)
theorem q_628 : Cond.methodLink RX10 78 yX9_weight ∈ wT := wi_t 628 (by decide +kernel) (by decide +kernel)
theorem q_629 : Cond.methodLink RX10 81 yX9_need ∈ wT := wi_t 629 (by decide +kernel) (by decide +kernel)
theorem q_627 : Cond.methodLink RX10 72 yX9_extra ∈ wT := wi_t 627 (by decide +kernel) (by decide +kernel)
theorem q_622 : Cond.methodLink RX10 30 yX0_suitOf ∈ wT := wi_t 622 (by decide +kernel) (by decide +kernel)
theorem q_76 : Cond.fieldLink RX10 36 "HeavyFiles$Court" "damp" "I" ∈ wT := wi_t 76 (by decide +kernel) (by decide +kernel)
theorem q_623 : Cond.methodLink RX10 40 yX10_prepare ∈ wT := wi_t 623 (by decide +kernel) (by decide +kernel)
theorem q_626 : Cond.code yX10_prepare cX10_prepare 6 none ∈ wT := wi_t 626 (by decide +kernel) (by decide +kernel)
theorem q_625 : Cond.instanceMethod yX10_prepare ∈ wT := wi_t 625 (by decide +kernel) (by decide +kernel)
theorem qs_12 : Cond.selects RX10 yX10_prepare yX10_prepare ∈ wT := wi_s (q := (yX10_prepare, 4)) 12 (by decide +kernel) (by decide +kernel)
theorem q_630 : Cond.methodLink RX10 59 yX10_fillSuit ∈ wT := wi_t 630 (by decide +kernel) (by decide +kernel)
theorem q_633 : Cond.code yX10_fillSuit cX10_fillSuit 7 none ∈ wT := wi_t 633 (by decide +kernel) (by decide +kernel)
theorem q_632 : Cond.instanceMethod yX10_fillSuit ∈ wT := wi_t 632 (by decide +kernel) (by decide +kernel)
theorem qs_13 : Cond.selects RX10 yX10_fillSuit yX10_fillSuit ∈ wT := wi_s (q := (yX10_fillSuit, 4)) 13 (by decide +kernel) (by decide +kernel)
theorem q_621 : Cond.methodLink RX10 51 yJ7_fill_53178 ∈ wT := wi_t 621 (by decide +kernel) (by decide +kernel)
theorem q_71 : Cond.fieldLink RX10 56 "HeavyFiles$Court" "size" "I" ∈ wT := wi_t 71 (by decide +kernel) (by decide +kernel)
theorem q_617 : Cond.methodLink RX10 22 yX10_fill ∈ wT := wi_t 617 (by decide +kernel) (by decide +kernel)
theorem q_620 : Cond.code yX10_fill cX10_fill 4 none ∈ wT := wi_t 620 (by decide +kernel) (by decide +kernel)
theorem q_619 : Cond.instanceMethod yX10_fill ∈ wT := wi_t 619 (by decide +kernel) (by decide +kernel)
theorem qs_11 : Cond.selects RX10 yX10_fill yX10_fill ∈ wT := wi_s (q := (yX10_fill, 4)) 11 (by decide +kernel) (by decide +kernel)
theorem kvX10_placeOf : KS yX10_placeOf cX10_placeOf 3 (some .int) 3 := ⟨q_646, q_10, q_647, by decide +kernel, by decide +kernel, by decide +kernel⟩
theorem kvX10_value : KV yX10_value RX10 cX10_value 5 (some .int) 3 := ⟨q_643, qs_15, q_10, q_644, rfl, by decide +kernel, by decide +kernel, by decide +kernel⟩
theorem kvX10_after : KV yX10_after RX10 cX10_after 12 (some .int) 5 := ⟨q_637, qs_14, q_10, q_638, rfl, by decide +kernel, by decide +kernel, by decide +kernel⟩
theorem kvX10_prepare : KV yX10_prepare RX10 cX10_prepare 6 none 2 := ⟨q_625, qs_12, q_10, q_626, rfl, by decide +kernel, by decide +kernel, by decide +kernel⟩
theorem kvX10_fillSuit : KV yX10_fillSuit RX10 cX10_fillSuit 7 none 2 := ⟨q_632, qs_13, q_10, q_633, rfl, by decide +kernel, by decide +kernel, by decide +kernel⟩
theorem kvX10_fill : KV yX10_fill RX10 cX10_fill 4 none 1 := ⟨q_619, qs_11, q_10, q_620, rfl, by decide +kernel, by decide +kernel, by decide +kernel⟩
/-! HeavyFiles$TurnTable.forget()V -/
def fX10_forget (N : Nat)  (a0 : Nat) (mm : Mm) : Option (Unit × Mm) :=
  nm (wr mm a0 2 0) fun m1 => some ((), m1)
abbrev rmX10_forget : Room := { frames := 1, cells := 0, slots := 0, locals := 40 }
/-! HeavyFiles$TurnTable.placeOf(III)I -/
def fX10_placeOf (N : Nat)  (a0 : Int32) (a1 : Int32) (a2 : Int32) (mm : Mm) : Option (Int32 × Mm) :=
  if a0 < 0 then (some ((-9), mm)) else (if (6 : Int32) < a0 then (some ((-9), mm)) else (if a1 < 0 then (some ((-9), mm)) else (if (16 : Int32) ≤ a1 then (some ((-9), mm)) else (if a2 < 0 then (some ((-9), mm)) else (if a2 < 16 then (some ((((a0 * 16) + a1) * 16) + a2, mm)) else (some ((-9), mm)))))))
abbrev rmX10_placeOf : Room := { frames := 1, cells := 0, slots := 0, locals := 40 }
/-! HeavyFiles$TurnTable.value(III)I -/
def fX10_value (N : Nat)  (a0 : Nat) (a1 : Int32) (a2 : Int32) (a3 : Int32) (mm : Mm) : Option (Int32 × Mm) :=
  bd2 (fX10_placeOf N a1 a2 a3 mm) fun x1 m2 => if (0 : Int32) ≤ x1 then (gd (inb x1 (ln (fr a0 0))) <| some (rd m2 (fr a0 0) x1.toNatClampNeg, m2)) else (some (0, m2))
abbrev rmX10_value : Room := { frames := 2, cells := 0, slots := 0, locals := 70 }
/-! HeavyFiles$TurnTable.after(LHeavyFiles$Suit;IIII)I -/
def fX10_after_136 (N : Nat) (k12 : Nat → Nat → Int32 → Int32 → Int32 → Int32 → Int32 → Int32 → Mm → Option (Int32 × Mm)) (a0 : Nat) (a1 : Nat) (a2 : Int32) (a3 : Int32) (a4 : Int32) (a5 : Int32) (a6 : Int32) (a7 : Int32) (mm : Mm) : Option (Int32 × Mm) :=
  k12 a0 a1 a2 a3 a4 a5 a6 (a7 + 1) mm
def fX10_after_126 (N : Nat) (k12 : Nat → Nat → Int32 → Int32 → Int32 → Int32 → Int32 → Int32 → Mm → Option (Int32 × Mm)) (a0 : Nat) (a1 : Nat) (a2 : Int32) (a3 : Int32) (a4 : Int32) (a5 : Int32) (a7 : Int32) (a9 : Int32) (a11 : Int32) (mm : Mm) : Option (Int32 × Mm) :=
  nm (wr mm a0 3 a9) fun m1 => fX10_after_136 N k12 a0 a1 a2 a3 a4 a5 a11 a7 m1
def fX10_after_54 (N : Nat) (k12 : Nat → Nat → Int32 → Int32 → Int32 → Int32 → Int32 → Int32 → Mm → Option (Int32 × Mm)) (a0 : Nat) (a1 : Nat) (a2 : Int32) (a3 : Int32) (a4 : Int32) (a5 : Int32) (a6 : Int32) (a7 : Int32) (s0 : Int32) (mm : Mm) : Option (Int32 × Mm) :=
  if s0 < 0 then (fX10_after_136 N k12 a0 a1 a2 a3 a4 a5 a6 a7 mm) else (if a4 < s0 then (fX10_after_136 N k12 a0 a1 a2 a3 a4 a5 a6 a7 mm) else (bd2 (fX9_points N a1 0 a7 mm) fun x4 m5 => bd2 (fX9_points N a1 1 a7 m5) fun x7 m8 => bd2 (fX10_value N a0 (a2 + 1) a3 (a4 - s0) m8) fun x10 m11 => if ((x4 - x7) + x10) < a6 then (fX10_after_126 N k12 a0 a1 a2 a3 a4 a5 a7 s0 ((x4 - x7) + x10) m11) else (if ((x4 - x7) + x10) = a6 then (if (rd m11 a0 3) ≤ s0 then (fX10_after_136 N k12 a0 a1 a2 a3 a4 a5 a6 a7 m11) else (fX10_after_126 N k12 a0 a1 a2 a3 a4 a5 a7 s0 ((x4 - x7) + x10) m11)) else (fX10_after_136 N k12 a0 a1 a2 a3 a4 a5 a6 a7 m11))))
def fX10_after_52 (N : Nat) (k12 : Nat → Nat → Int32 → Int32 → Int32 → Int32 → Int32 → Int32 → Mm → Option (Int32 × Mm)) (a0 : Nat) (a1 : Nat) (a2 : Int32) (a3 : Int32) (a4 : Int32) (a5 : Int32) (a6 : Int32) (a7 : Int32) (mm : Mm) : Option (Int32 × Mm) :=
  fX10_after_54 N k12 a0 a1 a2 a3 a4 a5 a6 a7 (-9) mm
def fX10_after_12 (N : Nat)  : Nat → Nat → Nat → Int32 → Int32 → Int32 → Int32 → Int32 → Int32 → Mm → Option (Int32 × Mm)
  | 0 => fun _ _ _ _ _ _ _ _ _ => none
  | n + 1 => fun a0 a1 a2 a3 a4 a5 a6 a7 mm =>
    let k12 := fX10_after_12 N  n
    if (3 : Int32) ≤ a7 then (some (a6, mm)) else (if ((a5 * 3) + a7) < 0 then (fX10_after_52 N k12 a0 a1 a2 a3 a4 a5 a6 a7 mm) else (if (Int32.ofNat (ln (fr a0 1))) ≤ ((a5 * 3) + a7) then (fX10_after_52 N k12 a0 a1 a2 a3 a4 a5 a6 a7 mm) else (gd (inb ((a5 * 3) + a7) (ln (fr a0 1))) <| fX10_after_54 N k12 a0 a1 a2 a3 a4 a5 a6 a7 (rd mm (fr a0 1) (((a5 * 3) + a7).toNatClampNeg)) mm)))
def fX10_after (N : Nat)  (a0 : Nat) (a1 : Nat) (a2 : Int32) (a3 : Int32) (a4 : Int32) (a5 : Int32) (mm : Mm) : Option (Int32 × Mm) :=
  nm (wr mm a0 3 0) fun m20 => fX10_after_12 N N a0 a1 a2 a3 a4 a5 1000000 0 m20
abbrev rmX10_after : Room := { frames := 3, cells := 0, slots := 0, locals := 102 }
/-! HeavyFiles$TurnTable.fillSuit(LHeavyFiles$Suit;I)V -/
def fX10_fillSuit_81 (N : Nat) (k2 : Nat → Nat → Int32 → Int32 → Mm → Option (Unit × Mm)) (k11 : Nat → Nat → Int32 → Int32 → Int32 → Mm → Option (Unit × Mm)) (a0 : Nat) (a1 : Nat) (a2 : Int32) (a3 : Int32) (a4 : Int32) (mm : Mm) : Option (Unit × Mm) :=
  k11 a0 a1 a2 a3 (a4 + 1) mm
def fX10_fillSuit_25 (N : Nat) (k2 : Nat → Nat → Int32 → Int32 → Mm → Option (Unit × Mm)) (k11 : Nat → Nat → Int32 → Int32 → Int32 → Mm → Option (Unit × Mm)) : Nat → Nat → Nat → Int32 → Int32 → Int32 → Int32 → Int32 → Mm → Option (Unit × Mm)
  | 0 => fun _ _ _ _ _ _ _ _ => none
  | n + 1 => fun a0 a1 a2 a3 a4 a5 a6 mm =>
    let k25 := fX10_fillSuit_25 N k2 k11 n
    if a3 < a6 then (bd2 (fX10_placeOf N a2 a3 a4 mm) fun x2 m3 => if x2 < 0 then (fX10_fillSuit_81 N k2 k11 a0 a1 a2 a3 a4 m3) else (gd (inb x2 (ln (fr a0 0))) <| nm (wr m3 (fr a0 0) x2.toNatClampNeg a5) fun m7 => fX10_fillSuit_81 N k2 k11 a0 a1 a2 a3 a4 m7)) else (bd2 (fX10_after N a0 a1 a2 (a3 - a6) a4 a6 mm) fun x8 m9 => nm (if a5 < x8 then x8 else a5) fun x11 => k25 a0 a1 a2 a3 a4 x11 (a6 + 1) m9)
def fX10_fillSuit_11 (N : Nat) (k2 : Nat → Nat → Int32 → Int32 → Mm → Option (Unit × Mm)) : Nat → Nat → Nat → Int32 → Int32 → Int32 → Mm → Option (Unit × Mm)
  | 0 => fun _ _ _ _ _ _ => none
  | n + 1 => fun a0 a1 a2 a3 a4 mm =>
    let k11 := fX10_fillSuit_11 N k2 n
    if (16 : Int32) ≤ a4 then (k2 a0 a1 a2 (a3 + 1) mm) else (fX10_fillSuit_25 N k2 k11 N a0 a1 a2 a3 a4 (-1000000) 0 mm)
def fX10_fillSuit_2 (N : Nat)  : Nat → Nat → Nat → Int32 → Int32 → Mm → Option (Unit × Mm)
  | 0 => fun _ _ _ _ _ => none
  | n + 1 => fun a0 a1 a2 a3 mm =>
    let k2 := fX10_fillSuit_2 N  n
    if (16 : Int32) ≤ a3 then (some ((), mm)) else (fX10_fillSuit_11 N k2 N a0 a1 a2 a3 0 mm)
def fX10_fillSuit (N : Nat)  (a0 : Nat) (a1 : Nat) (a2 : Int32) (mm : Mm) : Option (Unit × Mm) :=
  fX10_fillSuit_2 N N a0 a1 a2 0 mm
abbrev rmX10_fillSuit : Room := { frames := 4, cells := 0, slots := 0, locals := 141 }
/-! HeavyFiles$TurnTable.prepare(LHeavyFiles$Suit;I)V -/
def fX10_prepare_20 (N : Nat) (k10 : Nat → Nat → Int32 → Int32 → Mm → Option (Unit × Mm)) : Nat → Nat → Nat → Int32 → Int32 → Int32 → Mm → Option (Unit × Mm)
  | 0 => fun _ _ _ _ _ _ => none
  | n + 1 => fun a0 a1 a3 a4 a5 mm =>
    let k20 := fX10_prepare_20 N k10 n
    if (3 : Int32) ≤ a5 then (k10 a0 a1 a3 (a4 + 1) mm) else (bd2 (fX9_weight N a1 a4 a3 mm) fun x2 m3 => bd2 (fX9_need N a1 1 a5 x2 a3 m3) fun x5 m6 => gd (inb ((a4 * 3) + a5) (ln (fr a0 1))) <| nm (wr m6 (fr a0 1) ((a4 * 3) + a5).toNatClampNeg x5) fun m9 => k20 a0 a1 a3 a4 (a5 + 1) m9)
def fX10_prepare_10 (N : Nat)  : Nat → Nat → Nat → Int32 → Int32 → Mm → Option (Unit × Mm)
  | 0 => fun _ _ _ _ _ => none
  | n + 1 => fun a0 a1 a3 a4 mm =>
    let k10 := fX10_prepare_10 N  n
    if (16 : Int32) ≤ a4 then (some ((), mm)) else (fX10_prepare_20 N k10 N a0 a1 a3 a4 0 mm)
def fX10_prepare (N : Nat)  (a0 : Nat) (a1 : Nat) (a2 : Int32) (mm : Mm) : Option (Unit × Mm) :=
  bd2 (fX9_extra N a1 a2 0 mm) fun x11 m12 => fX10_prepare_10 N N a0 a1 x11 0 m12
abbrev rmX10_prepare : Room := { frames := 4, cells := 0, slots := 0, locals := 135 }
/-! HeavyFiles$TurnTable.fill(LHeavyFiles$Court;)V -/
def fX10_fill_52 (N : Nat) (k23 : Nat → Nat → Int32 → Mm → Option (Unit × Mm)) (a0 : Nat) (a1 : Nat) (a2 : Int32) (mm : Mm) : Option (Unit × Mm) :=
  k23 a0 a1 (a2 + (-1)) mm
def fX10_fill_23 (N : Nat)  : Nat → Nat → Nat → Int32 → Mm → Option (Unit × Mm)
  | 0 => fun _ _ _ _ => none
  | n + 1 => fun a0 a1 a2 mm =>
    let k23 := fX10_fill_23 N  n
    if a2 < 0 then (nm (wr mm a0 2 1) fun m2 => some ((), m2)) else (bd2 (fX0_suitOf N a1 a2 mm) fun x3 m4 => cs x3 (fX10_fill_52 N k23 a0 a1 a2 m4) (fun z6 => bd2 (fX10_prepare N a0 z6 (rd m4 a1 6) m4) fun x8 m9 => bd2 (fX10_fillSuit N a0 z6 a2 m9) fun x11 m12 => fX10_fill_52 N k23 a0 a1 a2 m12))
def fX10_fill (N : Nat)  (a0 : Nat) (a1 : Nat) (mm : Mm) : Option (Unit × Mm) :=
  if (rd mm a0 2) = 0 then (bd2 (fJ7_fill_53178 N (fr a0 0) 0 mm) fun x15 m16 => fX10_fill_23 N N a0 a1 ((rd m16 a1 5) - 1) m16) else (some ((), mm))
abbrev rmX10_fill : Room := { frames := 5, cells := 0, slots := 0, locals := 175 }
/-! HeavyFiles$TurnTable.valueOf(LHeavyFiles$Court;III)I -/
def fX10_valueOf (N : Nat)  (a0 : Nat) (a1 : Nat) (a2 : Int32) (a3 : Int32) (a4 : Int32) (mm : Mm) : Option (Int32 × Mm) :=
  bd2 (fX10_fill N a0 a1 mm) fun x1 m2 => bd2 (fX10_value N a0 a2 a3 a4 m2) fun x4 m5 => some (x4, m5)
abbrev rmX10_valueOf : Room := { frames := 6, cells := 0, slots := 0, locals := 206 }
section W_turns12
variable {p : Program} {l : Launch} {e : Env} {s : State} {m : MethodId} {args : Array Value} {below : List Frame} {meth : Method} {c : Code} {D : va_G} {ca ad : Nat → Nat}
set_option maxRecDepth 100000 in
set_option maxHeartbeats 4000000 in
theorem wX10_forget_0 (C : Cx p s m meth c args cX10_forget 1 none RX10 D ca ad) {res : Unit × Mm} {N : Nat}  {a0 : Nat} {mm : Mm} {H : Heap} {locs : List Loc} {ls : Array Slot} (ha0 : sX10 a0) (hW : Wd D ca ad s.heap mm H locs) (hl : lv_has ls 1 [(0, .ref (ad a0))]) (hf : fX10_forget N a0 mm = some res) : W p l e (rmX10_forget) s m args below meth c H locs 0 0 (MQ below (QV D ca ad res) args s 0 0 (AA ad)) (F0 m 0 ls []) := by
  unfold fX10_forget at hf
  refine lv_aload_n C.1 C.2.1 dX10_forget_0 rfl (lv_at hl 0 rfl) ?_
  refine lv_iconst (v := 0) C.1 C.2.1 dX10_forget_1 (by decide) ?_
  refine x_put C hW (ha0).1 (ha0).2.1 (j := 2) (t1 := .boolean) rfl kX10 (by decide) rfl rfl q_251 (by decide +kernel) rfl rfl dX10_forget_2 (fun H locs hW => ?_)
  obtain ⟨m1, em1⟩ : ∃ z, z = wr mm a0 2 0 := ⟨_, rfl⟩
  have hf := nm_s hf em1
  rw [← em1] at hW
  cases hf
  exact x_vret C hW dX10_forget_5
set_option maxRecDepth 100000 in
set_option maxHeartbeats 4000000 in
theorem tX10_forget (l : Launch) {D : va_G} {ca ad : Nat → Nat} (hi : Inj ad) {N : Nat} {a0 : Nat} {mm : Mm} {res : Unit × Mm} (ha0 : sX10 a0) (hf : fX10_forget N a0 mm = some res) : Met l yX10_forget (WS yX10_forget cX10_forget 1 none) (rmX10_forget) (va_Pc [.ref (ad a0)] (WB D ca ad mm)) (QV D ca ad res) 0 0 (AA ad) := by
  refine x_start hi (by decide) rfl (Nat.le_of_ble_eq_true rfl) (fun p e s m args below meth c ls C hW hl => ?_)
  exact wX10_forget_0 C ha0 hW (lv_sub hl [0] rfl) hf
set_option maxRecDepth 100000 in
set_option maxHeartbeats 4000000 in
theorem wX10_placeOf_0 (C : Cx p s m meth c args cX10_placeOf 3 (some .int) RX10 D ca ad) {res : Int32 × Mm} {N : Nat}  {a0 : Int32} {a1 : Int32} {a2 : Int32} {mm : Mm} {H : Heap} {locs : List Loc} {ls : Array Slot}  (hW : Wd D ca ad s.heap mm H locs) (hl : lv_has ls 3 [(0, .int a0), (1, .int a1), (2, .int a2)]) (hf : fX10_placeOf N a0 a1 a2 mm = some res) : W p l e (rmX10_placeOf) s m args below meth c H locs 0 0 (MQ below (QI D ca ad res) args s 0 0 (AA ad)) (F0 m 0 ls []) := by
  unfold fX10_placeOf at hf
  refine lv_iload_n C.1 C.2.1 dX10_placeOf_0 rfl (lv_at hl 0 rfl) ?_
  refine lv_if_lt (tgt := 30) C.1 C.2.1 dX10_placeOf_1 (by decide) (fun c1 => ?_) (fun c1 => ?_)
  · have hf := if_t c1 hf
    refine lv_bipush (v := (-9)) C.1 C.2.1 dX10_placeOf_30 (by decide) ?_
    cases hf
    exact x_iret C hW dX10_placeOf_32
  · have hf := if_f c1 hf
    refine lv_iload_n C.1 C.2.1 dX10_placeOf_4 rfl (lv_at hl 0 rfl) ?_
    refine lv_bipush (v := 6) C.1 C.2.1 dX10_placeOf_5 (by decide) ?_
    refine lv_icmp_gt (tgt := 30) C.1 C.2.1 dX10_placeOf_7 (by decide) (fun c2 => ?_) (fun c2 => ?_)
    · have hf := if_t c2 hf
      refine lv_bipush (v := (-9)) C.1 C.2.1 dX10_placeOf_30 (by decide) ?_
      cases hf
      exact x_iret C hW dX10_placeOf_32
    · have hf := if_f c2 hf
      refine lv_iload_n C.1 C.2.1 dX10_placeOf_10 rfl (lv_at hl 1 rfl) ?_
      refine lv_if_lt (tgt := 30) C.1 C.2.1 dX10_placeOf_11 (by decide) (fun c3 => ?_) (fun c3 => ?_)
      · have hf := if_t c3 hf
        refine lv_bipush (v := (-9)) C.1 C.2.1 dX10_placeOf_30 (by decide) ?_
        cases hf
        exact x_iret C hW dX10_placeOf_32
      · have hf := if_f c3 hf
        refine lv_iload_n C.1 C.2.1 dX10_placeOf_14 rfl (lv_at hl 1 rfl) ?_
        refine lv_bipush (v := 16) C.1 C.2.1 dX10_placeOf_15 (by decide) ?_
        refine lv_icmp_ge (tgt := 30) C.1 C.2.1 dX10_placeOf_17 (by decide) (fun c4 => ?_) (fun c4 => ?_)
        · have hf := if_t c4 hf
          refine lv_bipush (v := (-9)) C.1 C.2.1 dX10_placeOf_30 (by decide) ?_
          cases hf
          exact x_iret C hW dX10_placeOf_32
        · have hf := if_f c4 hf
          refine lv_iload_n C.1 C.2.1 dX10_placeOf_20 rfl (lv_at hl 2 rfl) ?_
          refine lv_if_lt (tgt := 30) C.1 C.2.1 dX10_placeOf_21 (by decide) (fun c5 => ?_) (fun c5 => ?_)
          · have hf := if_t c5 hf
            refine lv_bipush (v := (-9)) C.1 C.2.1 dX10_placeOf_30 (by decide) ?_
            cases hf
            exact x_iret C hW dX10_placeOf_32
          · have hf := if_f c5 hf
            refine lv_iload_n C.1 C.2.1 dX10_placeOf_24 rfl (lv_at hl 2 rfl) ?_
            refine lv_bipush (v := 16) C.1 C.2.1 dX10_placeOf_25 (by decide) ?_
            refine lv_icmp_lt (tgt := 33) C.1 C.2.1 dX10_placeOf_27 (by decide) (fun c6 => ?_) (fun c6 => ?_)
            · have hf := if_t c6 hf
              refine lv_iload_n C.1 C.2.1 dX10_placeOf_33 rfl (lv_at hl 0 rfl) ?_
              refine lv_bipush (v := 16) C.1 C.2.1 dX10_placeOf_34 (by decide) ?_
              refine lv_imul C.1 C.2.1 dX10_placeOf_36 ?_
              refine lv_iload_n C.1 C.2.1 dX10_placeOf_37 rfl (lv_at hl 1 rfl) ?_
              refine lv_iadd C.1 C.2.1 dX10_placeOf_38 ?_
              refine lv_bipush (v := 16) C.1 C.2.1 dX10_placeOf_39 (by decide) ?_
              refine lv_imul C.1 C.2.1 dX10_placeOf_41 ?_
              refine lv_iload_n C.1 C.2.1 dX10_placeOf_42 rfl (lv_at hl 2 rfl) ?_
              refine lv_iadd C.1 C.2.1 dX10_placeOf_43 ?_
              cases hf
              exact x_iret C hW dX10_placeOf_44
            · have hf := if_f c6 hf
              refine lv_bipush (v := (-9)) C.1 C.2.1 dX10_placeOf_30 (by decide) ?_
              cases hf
              exact x_iret C hW dX10_placeOf_32
set_option maxRecDepth 100000 in
set_option maxHeartbeats 4000000 in
theorem tX10_placeOf (l : Launch) {D : va_G} {ca ad : Nat → Nat} (hi : Inj ad) {N : Nat} {a0 : Int32} {a1 : Int32} {a2 : Int32} {mm : Mm} {res : Int32 × Mm}  (hf : fX10_placeOf N a0 a1 a2 mm = some res) : Met l yX10_placeOf (WS yX10_placeOf cX10_placeOf 3 (some .int)) (rmX10_placeOf) (va_Pc [.int a0, .int a1, .int a2] (WB D ca ad mm)) (QI D ca ad res) 0 0 (AA ad) := by
  refine x_start hi (by decide) rfl (Nat.le_of_ble_eq_true rfl) (fun p e s m args below meth c ls C hW hl => ?_)
  exact wX10_placeOf_0 C  hW (lv_sub hl [0, 1, 2] rfl) hf
set_option maxRecDepth 100000 in
set_option maxHeartbeats 4000000 in
theorem wX10_value_0 (C : Cx p s m meth c args cX10_value 5 (some .int) RX10 D ca ad) {res : Int32 × Mm} {N : Nat}  {a0 : Nat} {a1 : Int32} {a2 : Int32} {a3 : Int32} {mm : Mm} {H : Heap} {locs : List Loc} {ls : Array Slot} (ha0 : sX10 a0) (hW : Wd D ca ad s.heap mm H locs) (hl : lv_has ls 5 [(0, .ref (ad a0)), (1, .int a1), (2, .int a2), (3, .int a3)]) (hf : fX10_value N a0 a1 a2 a3 mm = some res) : W p l e (rmX10_value) s m args below meth c H locs 0 0 (MQ below (QI D ca ad res) args s 0 0 (AA ad)) (F0 m 0 ls []) := by
  unfold fX10_value at hf
  refine lv_iload_n C.1 C.2.1 dX10_value_0 rfl (lv_at hl 1 rfl) ?_
  refine lv_iload_n C.1 C.2.1 dX10_value_1 rfl (lv_at hl 2 rfl) ?_
  refine lv_iload_n C.1 C.2.1 dX10_value_2 rfl (lv_at hl 3 rfl) ?_
  obtain ⟨x1, m2, r3, hf⟩ := bd2_s hf
  refine x_ci hW (x_runS C hW [.int a1, .int a2, .int a3] [] kvX10_placeOf q_645 (tX10_placeOf l C.2.2.2.2.2.2.1  r3) rfl rfl ⟨by decide, by decide⟩ rfl hl.1 rfl (Nat.le_of_ble_eq_true rfl) dX10_value_3) (fun H locs hW => ?_)
  refine lv_istore (lv' := [(4, .int x1), (0, .ref (ad a0)), (1, .int a1), (2, .int a2), (3, .int a3)]) C.1 C.2.1 dX10_value_6 hl (by decide) rfl (fun ls hl => ?_)
  refine lv_iload C.1 C.2.1 dX10_value_8 (lv_at hl 0 rfl) ?_
  refine lv_if_ge (tgt := 17) C.1 C.2.1 dX10_value_10 (by decide) (fun c4 => ?_) (fun c4 => ?_)
  · have hf := if_t c4 hf
    refine lv_aload_n C.1 C.2.1 dX10_value_17 rfl (lv_at hl 1 rfl) ?_
    refine x_getr C hW (ha0).1 (ha0).2.1 (j := 0) rfl kX10 (by decide) rfl q_249 dX10_value_18 ?_
    refine lv_iload C.1 C.2.1 dX10_value_21 (lv_at hl 0 rfl) ?_
    obtain ⟨g5, hf⟩ := gd_s hf
    refine x_iald C hW ha0.2.2.1 g5 dX10_value_23 ?_
    cases hf
    exact x_iret C hW dX10_value_24
  · have hf := if_f c4 hf
    refine lv_iconst (v := 0) C.1 C.2.1 dX10_value_13 (by decide) ?_
    refine lv_goto (tgt := 24) C.1 C.2.1 dX10_value_14 (by decide) ?_
    cases hf
    exact x_iret C hW dX10_value_24
set_option maxRecDepth 100000 in
set_option maxHeartbeats 4000000 in
theorem tX10_value (l : Launch) {D : va_G} {ca ad : Nat → Nat} (hi : Inj ad) {N : Nat} {a0 : Nat} {a1 : Int32} {a2 : Int32} {a3 : Int32} {mm : Mm} {res : Int32 × Mm} (ha0 : sX10 a0) (hf : fX10_value N a0 a1 a2 a3 mm = some res) : Met l yX10_value (WS yX10_value cX10_value 5 (some .int)) (rmX10_value) (va_Pc [.ref (ad a0), .int a1, .int a2, .int a3] (WB D ca ad mm)) (QI D ca ad res) 0 0 (AA ad) := by
  refine x_start hi (by decide) rfl (Nat.le_of_ble_eq_true rfl) (fun p e s m args below meth c ls C hW hl => ?_)
  exact wX10_value_0 C ha0 hW (lv_sub hl [0, 1, 2, 3] rfl) hf
set_option maxRecDepth 100000 in
set_option maxHeartbeats 4000000 in
theorem wX10_after_136 (C : Cx p s m meth c args cX10_after 12 (some .int) RX10 D ca ad) {res : Int32 × Mm} {N : Nat} {k12 : Nat → Nat → Int32 → Int32 → Int32 → Int32 → Int32 → Int32 → Mm → Option (Int32 × Mm)} (hk12 : ∀ (a0 : Nat) (a1 : Nat) (a2 : Int32) (a3 : Int32) (a4 : Int32) (a5 : Int32) (a6 : Int32) (a7 : Int32) (mm : Mm) (H : Heap) (locs : List Loc) (ls : Array Slot), (sX10 a0) → (sX9 a1) → Wd D ca ad s.heap mm H locs → lv_has ls 12 [(0, .ref (ad a0)), (1, .ref (ad a1)), (2, .int a2), (3, .int a3), (4, .int a4), (5, .int a5), (6, .int a6), (7, .int a7)] → k12 a0 a1 a2 a3 a4 a5 a6 a7 mm = some res → W p l e (rmX10_after) s m args below meth c H locs 0 0 (MQ below (QI D ca ad res) args s 0 0 (AA ad)) (F0 m 12 ls [])) {a0 : Nat} {a1 : Nat} {a2 : Int32} {a3 : Int32} {a4 : Int32} {a5 : Int32} {a6 : Int32} {a7 : Int32} {mm : Mm} {H : Heap} {locs : List Loc} {ls : Array Slot} (ha0 : sX10 a0) (ha1 : sX9 a1) (hW : Wd D ca ad s.heap mm H locs) (hl : lv_has ls 12 [(0, .ref (ad a0)), (1, .ref (ad a1)), (2, .int a2), (3, .int a3), (4, .int a4), (5, .int a5), (6, .int a6), (7, .int a7)]) (hf : fX10_after_136 N k12 a0 a1 a2 a3 a4 a5 a6 a7 mm = some res) : W p l e (rmX10_after) s m args below meth c H locs 0 0 (MQ below (QI D ca ad res) args s 0 0 (AA ad)) (F0 m 136 ls []) := by
  unfold fX10_after_136 at hf
  refine lv_iinc (v := (a7 + 1)) (lv' := [(7, .int (a7 + 1)), (0, .ref (ad a0)), (1, .ref (ad a1)), (2, .int a2), (3, .int a3), (4, .int a4), (5, .int a5), (6, .int a6)]) C.1 C.2.1 dX10_after_136 hl (k := 7) rfl rfl (by decide) rfl (fun ls hl => ?_)
  refine lv_goto (tgt := 12) C.1 C.2.1 dX10_after_139 (by decide) ?_
  exact hk12 _ _ _ _ _ _ _ _ _ _ _ _ ha0 ha1 hW (lv_sub hl [1, 2, 3, 4, 5, 6, 7, 0] rfl) hf
set_option maxRecDepth 100000 in
set_option maxHeartbeats 4000000 in
theorem wX10_after_126 (C : Cx p s m meth c args cX10_after 12 (some .int) RX10 D ca ad) {res : Int32 × Mm} {N : Nat} {k12 : Nat → Nat → Int32 → Int32 → Int32 → Int32 → Int32 → Int32 → Mm → Option (Int32 × Mm)} (hk12 : ∀ (a0 : Nat) (a1 : Nat) (a2 : Int32) (a3 : Int32) (a4 : Int32) (a5 : Int32) (a6 : Int32) (a7 : Int32) (mm : Mm) (H : Heap) (locs : List Loc) (ls : Array Slot), (sX10 a0) → (sX9 a1) → Wd D ca ad s.heap mm H locs → lv_has ls 12 [(0, .ref (ad a0)), (1, .ref (ad a1)), (2, .int a2), (3, .int a3), (4, .int a4), (5, .int a5), (6, .int a6), (7, .int a7)] → k12 a0 a1 a2 a3 a4 a5 a6 a7 mm = some res → W p l e (rmX10_after) s m args below meth c H locs 0 0 (MQ below (QI D ca ad res) args s 0 0 (AA ad)) (F0 m 12 ls [])) {a0 : Nat} {a1 : Nat} {a2 : Int32} {a3 : Int32} {a4 : Int32} {a5 : Int32} {a7 : Int32} {a9 : Int32} {a11 : Int32} {mm : Mm} {H : Heap} {locs : List Loc} {ls : Array Slot} (ha0 : sX10 a0) (ha1 : sX9 a1) (hW : Wd D ca ad s.heap mm H locs) (hl : lv_has ls 12 [(0, .ref (ad a0)), (1, .ref (ad a1)), (2, .int a2), (3, .int a3), (4, .int a4), (5, .int a5), (7, .int a7), (9, .int a9), (11, .int a11)]) (hf : fX10_after_126 N k12 a0 a1 a2 a3 a4 a5 a7 a9 a11 mm = some res) : W p l e (rmX10_after) s m args below meth c H locs 0 0 (MQ below (QI D ca ad res) args s 0 0 (AA ad)) (F0 m 126 ls []) := by
  unfold fX10_after_126 at hf
  refine lv_iload C.1 C.2.1 dX10_after_126 (lv_at hl 8 rfl) ?_
  refine lv_istore (lv' := [(6, .int a11), (0, .ref (ad a0)), (1, .ref (ad a1)), (2, .int a2), (3, .int a3), (4, .int a4), (5, .int a5), (7, .int a7), (9, .int a9), (11, .int a11)]) C.1 C.2.1 dX10_after_128 hl (by decide) rfl (fun ls hl => ?_)
  refine lv_aload_n C.1 C.2.1 dX10_after_130 rfl (lv_at hl 1 rfl) ?_
  refine lv_iload C.1 C.2.1 dX10_after_131 (lv_at hl 8 rfl) ?_
  refine x_put C hW (ha0).1 (ha0).2.1 (j := 3) (t1 := .int) rfl kX10 (by decide) rfl rfl q_252 (by decide +kernel) rfl rfl dX10_after_133 (fun H locs hW => ?_)
  obtain ⟨m1, em1⟩ : ∃ z, z = wr mm a0 3 a9 := ⟨_, rfl⟩
  have hf := nm_s hf em1
  rw [← em1] at hW
  exact wX10_after_136 C hk12 ha0 ha1 hW (lv_sub hl [1, 2, 3, 4, 5, 6, 0, 7] rfl) hf
set_option maxRecDepth 100000 in
set_option maxHeartbeats 4000000 in
theorem wX10_after_54 (C : Cx p s m meth c args cX10_after 12 (some .int) RX10 D ca ad) {res : Int32 × Mm} {N : Nat} {k12 : Nat → Nat → Int32 → Int32 → Int32 → Int32 → Int32 → Int32 → Mm → Option (Int32 × Mm)} (hk12 : ∀ (a0 : Nat) (a1 : Nat) (a2 : Int32) (a3 : Int32) (a4 : Int32) (a5 : Int32) (a6 : Int32) (a7 : Int32) (mm : Mm) (H : Heap) (locs : List Loc) (ls : Array Slot), (sX10 a0) → (sX9 a1) → Wd D ca ad s.heap mm H locs → lv_has ls 12 [(0, .ref (ad a0)), (1, .ref (ad a1)), (2, .int a2), (3, .int a3), (4, .int a4), (5, .int a5), (6, .int a6), (7, .int a7)] → k12 a0 a1 a2 a3 a4 a5 a6 a7 mm = some res → W p l e (rmX10_after) s m args below meth c H locs 0 0 (MQ below (QI D ca ad res) args s 0 0 (AA ad)) (F0 m 12 ls [])) {a0 : Nat} {a1 : Nat} {a2 : Int32} {a3 : Int32} {a4 : Int32} {a5 : Int32} {a6 : Int32} {a7 : Int32} {s0 : Int32} {mm : Mm} {H : Heap} {locs : List Loc} {ls : Array Slot} (ha0 : sX10 a0) (ha1 : sX9 a1) (hW : Wd D ca ad s.heap mm H locs) (hl : lv_has ls 12 [(0, .ref (ad a0)), (1, .ref (ad a1)), (2, .int a2), (3, .int a3), (4, .int a4), (5, .int a5), (6, .int a6), (7, .int a7)]) (hf : fX10_after_54 N k12 a0 a1 a2 a3 a4 a5 a6 a7 s0 mm = some res) : W p l e (rmX10_after) s m args below meth c H locs 0 0 (MQ below (QI D ca ad res) args s 0 0 (AA ad)) (F0 m 54 ls [.int s0]) := by
  unfold fX10_after_54 at hf
  refine lv_istore (lv' := [(9, .int s0), (0, .ref (ad a0)), (1, .ref (ad a1)), (2, .int a2), (3, .int a3), (4, .int a4), (5, .int a5), (6, .int a6), (7, .int a7)]) C.1 C.2.1 dX10_after_54 hl (by decide) rfl (fun ls hl => ?_)
  refine lv_iload C.1 C.2.1 dX10_after_56 (lv_at hl 0 rfl) ?_
  refine lv_if_lt (tgt := 136) C.1 C.2.1 dX10_after_58 (by decide) (fun c2 => ?_) (fun c2 => ?_)
  · have hf := if_t c2 hf
    exact wX10_after_136 C hk12 ha0 ha1 hW (lv_sub hl [1, 2, 3, 4, 5, 6, 7, 8] rfl) hf
  · have hf := if_f c2 hf
    refine lv_iload C.1 C.2.1 dX10_after_61 (lv_at hl 0 rfl) ?_
    refine lv_iload C.1 C.2.1 dX10_after_63 (lv_at hl 5 rfl) ?_
    refine lv_icmp_gt (tgt := 136) C.1 C.2.1 dX10_after_65 (by decide) (fun c3 => ?_) (fun c3 => ?_)
    · have hf := if_t c3 hf
      exact wX10_after_136 C hk12 ha0 ha1 hW (lv_sub hl [1, 2, 3, 4, 5, 6, 7, 8] rfl) hf
    · have hf := if_f c3 hf
      refine lv_aload_n C.1 C.2.1 dX10_after_68 rfl (lv_at hl 2 rfl) ?_
      refine lv_iconst (v := 0) C.1 C.2.1 dX10_after_69 (by decide) ?_
      refine lv_iload C.1 C.2.1 dX10_after_70 (lv_at hl 8 rfl) ?_
      obtain ⟨x4, m5, r6, hf⟩ := bd2_s hf
      refine x_ci hW (x_runV C hW [.int 0, .int a7] [] (ha1).1 (ha1).2.1 kX9.1 kvX9_points q_640 (tX9_points l C.2.2.2.2.2.2.1 ha1 r6) rfl rfl ⟨by decide, by decide⟩ rfl hl.1 rfl (Nat.le_of_ble_eq_true rfl) dX10_after_72) (fun H locs hW => ?_)
      refine lv_aload_n C.1 C.2.1 dX10_after_75 rfl (lv_at hl 2 rfl) ?_
      refine lv_iconst (v := 1) C.1 C.2.1 dX10_after_76 (by decide) ?_
      refine lv_iload C.1 C.2.1 dX10_after_77 (lv_at hl 8 rfl) ?_
      obtain ⟨x7, m8, r9, hf⟩ := bd2_s hf
      refine x_ci hW (x_runV C hW [.int 1, .int a7] [.int x4] (ha1).1 (ha1).2.1 kX9.1 kvX9_points q_640 (tX9_points l C.2.2.2.2.2.2.1 ha1 r9) rfl rfl ⟨by decide, by decide⟩ rfl hl.1 rfl (Nat.le_of_ble_eq_true rfl) dX10_after_79) (fun H locs hW => ?_)
      refine lv_isub C.1 C.2.1 dX10_after_82 ?_
      refine lv_istore (lv' := [(10, .int (x4 - x7)), (9, .int s0), (0, .ref (ad a0)), (1, .ref (ad a1)), (2, .int a2), (3, .int a3), (4, .int a4), (5, .int a5), (6, .int a6), (7, .int a7)]) C.1 C.2.1 dX10_after_83 hl (by decide) rfl (fun ls hl => ?_)
      refine lv_iload C.1 C.2.1 dX10_after_85 (lv_at hl 0 rfl) ?_
      refine lv_aload_n C.1 C.2.1 dX10_after_87 rfl (lv_at hl 2 rfl) ?_
      refine lv_iload_n C.1 C.2.1 dX10_after_88 rfl (lv_at hl 4 rfl) ?_
      refine lv_iconst (v := 1) C.1 C.2.1 dX10_after_89 (by decide) ?_
      refine lv_iadd C.1 C.2.1 dX10_after_90 ?_
      refine lv_iload_n C.1 C.2.1 dX10_after_91 rfl (lv_at hl 5 rfl) ?_
      refine lv_iload C.1 C.2.1 dX10_after_92 (lv_at hl 6 rfl) ?_
      refine lv_iload C.1 C.2.1 dX10_after_94 (lv_at hl 1 rfl) ?_
      refine lv_isub C.1 C.2.1 dX10_after_96 ?_
      obtain ⟨x10, m11, r12, hf⟩ := bd2_s hf
      refine x_ci hW (x_runV C hW [.int (a2 + 1), .int a3, .int (a4 - s0)] [.int (x4 - x7)] (ha0).1 (ha0).2.1 kX10.1 kvX10_value q_641 (tX10_value l C.2.2.2.2.2.2.1 ha0 r12) rfl rfl ⟨by decide, by decide⟩ rfl hl.1 rfl (Nat.le_of_ble_eq_true rfl) dX10_after_97) (fun H locs hW => ?_)
      refine lv_iadd C.1 C.2.1 dX10_after_100 ?_
      refine lv_istore (lv' := [(11, .int ((x4 - x7) + x10)), (10, .int (x4 - x7)), (9, .int s0), (0, .ref (ad a0)), (1, .ref (ad a1)), (2, .int a2), (3, .int a3), (4, .int a4), (5, .int a5), (6, .int a6), (7, .int a7)]) C.1 C.2.1 dX10_after_101 hl (by decide) rfl (fun ls hl => ?_)
      refine lv_iload C.1 C.2.1 dX10_after_103 (lv_at hl 0 rfl) ?_
      refine lv_iload C.1 C.2.1 dX10_after_105 (lv_at hl 9 rfl) ?_
      refine lv_icmp_lt (tgt := 126) C.1 C.2.1 dX10_after_107 (by decide) (fun c13 => ?_) (fun c13 => ?_)
      · have hf := if_t c13 hf
        exact wX10_after_126 C hk12 ha0 ha1 hW (lv_sub hl [3, 4, 5, 6, 7, 8, 10, 2, 0] rfl) hf
      · have hf := if_f c13 hf
        refine lv_iload C.1 C.2.1 dX10_after_110 (lv_at hl 0 rfl) ?_
        refine lv_iload C.1 C.2.1 dX10_after_112 (lv_at hl 9 rfl) ?_
        refine lv_icmp_ne (tgt := 136) C.1 C.2.1 dX10_after_114 (by decide) (fun c14 => ?_) (fun c14 => ?_)
        · have hf := if_f c14 hf
          exact wX10_after_136 C hk12 ha0 ha1 hW (lv_sub hl [3, 4, 5, 6, 7, 8, 9, 10] rfl) hf
        · have hf := if_t c14 hf
          refine lv_iload C.1 C.2.1 dX10_after_117 (lv_at hl 2 rfl) ?_
          refine lv_aload_n C.1 C.2.1 dX10_after_119 rfl (lv_at hl 3 rfl) ?_
          refine x_geti C hW (ha0).1 (ha0).2.1 (j := 3) rfl kX10 (by decide) rfl q_252 dX10_after_120 ?_
          refine lv_icmp_ge (tgt := 136) C.1 C.2.1 dX10_after_123 (by decide) (fun c15 => ?_) (fun c15 => ?_)
          · have hf := if_t c15 hf
            exact wX10_after_136 C hk12 ha0 ha1 hW (lv_sub hl [3, 4, 5, 6, 7, 8, 9, 10] rfl) hf
          · have hf := if_f c15 hf
            exact wX10_after_126 C hk12 ha0 ha1 hW (lv_sub hl [3, 4, 5, 6, 7, 8, 10, 2, 0] rfl) hf
set_option maxRecDepth 100000 in
set_option maxHeartbeats 4000000 in
theorem wX10_after_52 (C : Cx p s m meth c args cX10_after 12 (some .int) RX10 D ca ad) {res : Int32 × Mm} {N : Nat} {k12 : Nat → Nat → Int32 → Int32 → Int32 → Int32 → Int32 → Int32 → Mm → Option (Int32 × Mm)} (hk12 : ∀ (a0 : Nat) (a1 : Nat) (a2 : Int32) (a3 : Int32) (a4 : Int32) (a5 : Int32) (a6 : Int32) (a7 : Int32) (mm : Mm) (H : Heap) (locs : List Loc) (ls : Array Slot), (sX10 a0) → (sX9 a1) → Wd D ca ad s.heap mm H locs → lv_has ls 12 [(0, .ref (ad a0)), (1, .ref (ad a1)), (2, .int a2), (3, .int a3), (4, .int a4), (5, .int a5), (6, .int a6), (7, .int a7)] → k12 a0 a1 a2 a3 a4 a5 a6 a7 mm = some res → W p l e (rmX10_after) s m args below meth c H locs 0 0 (MQ below (QI D ca ad res) args s 0 0 (AA ad)) (F0 m 12 ls [])) {a0 : Nat} {a1 : Nat} {a2 : Int32} {a3 : Int32} {a4 : Int32} {a5 : Int32} {a6 : Int32} {a7 : Int32} {mm : Mm} {H : Heap} {locs : List Loc} {ls : Array Slot} (ha0 : sX10 a0) (ha1 : sX9 a1) (hW : Wd D ca ad s.heap mm H locs) (hl : lv_has ls 12 [(0, .ref (ad a0)), (1, .ref (ad a1)), (2, .int a2), (3, .int a3), (4, .int a4), (5, .int a5), (6, .int a6), (7, .int a7)]) (hf : fX10_after_52 N k12 a0 a1 a2 a3 a4 a5 a6 a7 mm = some res) : W p l e (rmX10_after) s m args below meth c H locs 0 0 (MQ below (QI D ca ad res) args s 0 0 (AA ad)) (F0 m 52 ls []) := by
  unfold fX10_after_52 at hf
  refine lv_bipush (v := (-9)) C.1 C.2.1 dX10_after_52 (by decide) ?_
  exact wX10_after_54 C hk12 ha0 ha1 hW (lv_sub hl [0, 1, 2, 3, 4, 5, 6, 7] rfl) hf
set_option maxRecDepth 100000 in
set_option maxHeartbeats 4000000 in
theorem wX10_after_12 (C : Cx p s m meth c args cX10_after 12 (some .int) RX10 D ca ad) {res : Int32 × Mm} {N : Nat}  : ∀ (n : Nat) {a0 : Nat} {a1 : Nat} {a2 : Int32} {a3 : Int32} {a4 : Int32} {a5 : Int32} {a6 : Int32} {a7 : Int32} {mm : Mm} {H : Heap} {locs : List Loc} {ls : Array Slot}, (sX10 a0) → (sX9 a1) → Wd D ca ad s.heap mm H locs → lv_has ls 12 [(0, .ref (ad a0)), (1, .ref (ad a1)), (2, .int a2), (3, .int a3), (4, .int a4), (5, .int a5), (6, .int a6), (7, .int a7)] → fX10_after_12 N n a0 a1 a2 a3 a4 a5 a6 a7 mm = some res → W p l e (rmX10_after) s m args below meth c H locs 0 0 (MQ below (QI D ca ad res) args s 0 0 (AA ad)) (F0 m 12 ls []) := by
  intro n
  induction n with
  | zero => intro a0 a1 a2 a3 a4 a5 a6 a7 mm H locs ls ha0 ha1 hW hl hf; cases hf
  | succ n ih =>
    intro a0 a1 a2 a3 a4 a5 a6 a7 mm H locs ls ha0 ha1 hW hl hf
    have hk12 : ∀ (a0 : Nat) (a1 : Nat) (a2 : Int32) (a3 : Int32) (a4 : Int32) (a5 : Int32) (a6 : Int32) (a7 : Int32) (mm : Mm) (H : Heap) (locs : List Loc) (ls : Array Slot), (sX10 a0) → (sX9 a1) → Wd D ca ad s.heap mm H locs → lv_has ls 12 [(0, .ref (ad a0)), (1, .ref (ad a1)), (2, .int a2), (3, .int a3), (4, .int a4), (5, .int a5), (6, .int a6), (7, .int a7)] → (fX10_after_12 N n) a0 a1 a2 a3 a4 a5 a6 a7 mm = some res → W p l e (rmX10_after) s m args below meth c H locs 0 0 (MQ below (QI D ca ad res) args s 0 0 (AA ad)) (F0 m 12 ls []) := fun a0 a1 a2 a3 a4 a5 a6 a7 mm H locs ls ha0 ha1 hW hl hf => ih ha0 ha1 hW hl hf
    unfold fX10_after_12 at hf
    try dsimp only at hf
    refine lv_iload C.1 C.2.1 dX10_after_12 (lv_at hl 7 rfl) ?_
    refine lv_iconst (v := 3) C.1 C.2.1 dX10_after_14 (by decide) ?_
    refine lv_icmp_ge (tgt := 142) C.1 C.2.1 dX10_after_15 (by decide) (fun c16 => ?_) (fun c16 => ?_)
    · have hf := if_t c16 hf
      refine lv_iload C.1 C.2.1 dX10_after_142 (lv_at hl 6 rfl) ?_
      cases hf
      exact x_iret C hW dX10_after_144
    · have hf := if_f c16 hf
      refine lv_iload C.1 C.2.1 dX10_after_18 (lv_at hl 5 rfl) ?_
      refine lv_iconst (v := 3) C.1 C.2.1 dX10_after_20 (by decide) ?_
      refine lv_imul C.1 C.2.1 dX10_after_21 ?_
      refine lv_iload C.1 C.2.1 dX10_after_22 (lv_at hl 7 rfl) ?_
      refine lv_iadd C.1 C.2.1 dX10_after_24 ?_
      refine lv_istore (lv' := [(8, .int ((a5 * 3) + a7)), (0, .ref (ad a0)), (1, .ref (ad a1)), (2, .int a2), (3, .int a3), (4, .int a4), (5, .int a5), (6, .int a6), (7, .int a7)]) C.1 C.2.1 dX10_after_25 hl (by decide) rfl (fun ls hl => ?_)
      refine lv_iload C.1 C.2.1 dX10_after_27 (lv_at hl 0 rfl) ?_
      refine lv_if_lt (tgt := 52) C.1 C.2.1 dX10_after_29 (by decide) (fun c17 => ?_) (fun c17 => ?_)
      · have hf := if_t c17 hf
        exact wX10_after_52 C hk12 ha0 ha1 hW (lv_sub hl [1, 2, 3, 4, 5, 6, 7, 8] rfl) hf
      · have hf := if_f c17 hf
        refine lv_iload C.1 C.2.1 dX10_after_32 (lv_at hl 0 rfl) ?_
        refine lv_aload_n C.1 C.2.1 dX10_after_34 rfl (lv_at hl 1 rfl) ?_
        refine x_getr C hW (ha0).1 (ha0).2.1 (j := 1) rfl kX10 (by decide) rfl q_250 dX10_after_35 ?_
        refine x_alen C hW ha0.2.2.2 dX10_after_38 ?_
        refine lv_icmp_ge (tgt := 52) C.1 C.2.1 dX10_after_39 (by decide) (fun c18 => ?_) (fun c18 => ?_)
        · have hf := if_t c18 hf
          exact wX10_after_52 C hk12 ha0 ha1 hW (lv_sub hl [1, 2, 3, 4, 5, 6, 7, 8] rfl) hf
        · have hf := if_f c18 hf
          refine lv_aload_n C.1 C.2.1 dX10_after_42 rfl (lv_at hl 1 rfl) ?_
          refine x_getr C hW (ha0).1 (ha0).2.1 (j := 1) rfl kX10 (by decide) rfl q_250 dX10_after_43 ?_
          refine lv_iload C.1 C.2.1 dX10_after_46 (lv_at hl 0 rfl) ?_
          obtain ⟨g19, hf⟩ := gd_s hf
          refine x_iald C hW ha0.2.2.2 g19 dX10_after_48 ?_
          refine lv_goto (tgt := 54) C.1 C.2.1 dX10_after_49 (by decide) ?_
          exact wX10_after_54 C hk12 ha0 ha1 hW (lv_sub hl [1, 2, 3, 4, 5, 6, 7, 8] rfl) hf
set_option maxRecDepth 100000 in
set_option maxHeartbeats 4000000 in
theorem wX10_after_0 (C : Cx p s m meth c args cX10_after 12 (some .int) RX10 D ca ad) {res : Int32 × Mm} {N : Nat}  {a0 : Nat} {a1 : Nat} {a2 : Int32} {a3 : Int32} {a4 : Int32} {a5 : Int32} {mm : Mm} {H : Heap} {locs : List Loc} {ls : Array Slot} (ha0 : sX10 a0) (ha1 : sX9 a1) (hW : Wd D ca ad s.heap mm H locs) (hl : lv_has ls 12 [(0, .ref (ad a0)), (1, .ref (ad a1)), (2, .int a2), (3, .int a3), (4, .int a4), (5, .int a5)]) (hf : fX10_after N a0 a1 a2 a3 a4 a5 mm = some res) : W p l e (rmX10_after) s m args below meth c H locs 0 0 (MQ below (QI D ca ad res) args s 0 0 (AA ad)) (F0 m 0 ls []) := by
  unfold fX10_after at hf
  refine lv_ldc C.1 C.2.1 C.2.2.2.1 (C.2.2.2.2.1 _ q_639) dX10_after_0 ?_
  refine lv_istore (lv' := [(6, .int 1000000), (0, .ref (ad a0)), (1, .ref (ad a1)), (2, .int a2), (3, .int a3), (4, .int a4), (5, .int a5)]) C.1 C.2.1 dX10_after_2 hl (by decide) rfl (fun ls hl => ?_)
  refine lv_aload_n C.1 C.2.1 dX10_after_4 rfl (lv_at hl 1 rfl) ?_
  refine lv_iconst (v := 0) C.1 C.2.1 dX10_after_5 (by decide) ?_
  refine x_put C hW (ha0).1 (ha0).2.1 (j := 3) (t1 := .int) rfl kX10 (by decide) rfl rfl q_252 (by decide +kernel) rfl rfl dX10_after_6 (fun H locs hW => ?_)
  obtain ⟨m20, em20⟩ : ∃ z, z = wr mm a0 3 0 := ⟨_, rfl⟩
  have hf := nm_s hf em20
  rw [← em20] at hW
  refine lv_iconst (v := 0) C.1 C.2.1 dX10_after_9 (by decide) ?_
  refine lv_istore (lv' := [(7, .int 0), (6, .int 1000000), (0, .ref (ad a0)), (1, .ref (ad a1)), (2, .int a2), (3, .int a3), (4, .int a4), (5, .int a5)]) C.1 C.2.1 dX10_after_10 hl (by decide) rfl (fun ls hl => ?_)
  exact wX10_after_12 C  N ha0 ha1 hW (lv_sub hl [2, 3, 4, 5, 6, 7, 1, 0] rfl) hf
set_option maxRecDepth 100000 in
set_option maxHeartbeats 4000000 in
theorem tX10_after (l : Launch) {D : va_G} {ca ad : Nat → Nat} (hi : Inj ad) {N : Nat} {a0 : Nat} {a1 : Nat} {a2 : Int32} {a3 : Int32} {a4 : Int32} {a5 : Int32} {mm : Mm} {res : Int32 × Mm} (ha0 : sX10 a0) (ha1 : sX9 a1) (hf : fX10_after N a0 a1 a2 a3 a4 a5 mm = some res) : Met l yX10_after (WS yX10_after cX10_after 12 (some .int)) (rmX10_after) (va_Pc [.ref (ad a0), .ref (ad a1), .int a2, .int a3, .int a4, .int a5] (WB D ca ad mm)) (QI D ca ad res) 0 0 (AA ad) := by
  refine x_start hi (by decide) rfl (Nat.le_of_ble_eq_true rfl) (fun p e s m args below meth c ls C hW hl => ?_)
  exact wX10_after_0 C ha0 ha1 hW (lv_sub hl [0, 1, 2, 3, 4, 5] rfl) hf
set_option maxRecDepth 100000 in
set_option maxHeartbeats 4000000 in
theorem wX10_fillSuit_81 (C : Cx p s m meth c args cX10_fillSuit 7 none RX10 D ca ad) {res : Unit × Mm} {N : Nat} {k2 : Nat → Nat → Int32 → Int32 → Mm → Option (Unit × Mm)} {k11 : Nat → Nat → Int32 → Int32 → Int32 → Mm → Option (Unit × Mm)} (hk2 : ∀ (a0 : Nat) (a1 : Nat) (a2 : Int32) (a3 : Int32) (mm : Mm) (H : Heap) (locs : List Loc) (ls : Array Slot), (sX10 a0) → (sX9 a1) → Wd D ca ad s.heap mm H locs → lv_has ls 7 [(0, .ref (ad a0)), (1, .ref (ad a1)), (2, .int a2), (3, .int a3)] → k2 a0 a1 a2 a3 mm = some res → W p l e (rmX10_fillSuit) s m args below meth c H locs 0 0 (MQ below (QV D ca ad res) args s 0 0 (AA ad)) (F0 m 2 ls [])) (hk11 : ∀ (a0 : Nat) (a1 : Nat) (a2 : Int32) (a3 : Int32) (a4 : Int32) (mm : Mm) (H : Heap) (locs : List Loc) (ls : Array Slot), (sX10 a0) → (sX9 a1) → Wd D ca ad s.heap mm H locs → lv_has ls 7 [(0, .ref (ad a0)), (1, .ref (ad a1)), (2, .int a2), (3, .int a3), (4, .int a4)] → k11 a0 a1 a2 a3 a4 mm = some res → W p l e (rmX10_fillSuit) s m args below meth c H locs 0 0 (MQ below (QV D ca ad res) args s 0 0 (AA ad)) (F0 m 11 ls [])) {a0 : Nat} {a1 : Nat} {a2 : Int32} {a3 : Int32} {a4 : Int32} {mm : Mm} {H : Heap} {locs : List Loc} {ls : Array Slot} (ha0 : sX10 a0) (ha1 : sX9 a1) (hW : Wd D ca ad s.heap mm H locs) (hl : lv_has ls 7 [(0, .ref (ad a0)), (1, .ref (ad a1)), (2, .int a2), (3, .int a3), (4, .int a4)]) (hf : fX10_fillSuit_81 N k2 k11 a0 a1 a2 a3 a4 mm = some res) : W p l e (rmX10_fillSuit) s m args below meth c H locs 0 0 (MQ below (QV D ca ad res) args s 0 0 (AA ad)) (F0 m 81 ls []) := by
  unfold fX10_fillSuit_81 at hf
  refine lv_iinc (v := (a4 + 1)) (lv' := [(4, .int (a4 + 1)), (0, .ref (ad a0)), (1, .ref (ad a1)), (2, .int a2), (3, .int a3)]) C.1 C.2.1 dX10_fillSuit_81 hl (k := 4) rfl rfl (by decide) rfl (fun ls hl => ?_)
  refine lv_goto (tgt := 11) C.1 C.2.1 dX10_fillSuit_84 (by decide) ?_
  exact hk11 _ _ _ _ _ _ _ _ _ ha0 ha1 hW (lv_sub hl [1, 2, 3, 4, 0] rfl) hf
set_option maxRecDepth 100000 in
set_option maxHeartbeats 4000000 in
theorem wX10_fillSuit_25 (C : Cx p s m meth c args cX10_fillSuit 7 none RX10 D ca ad) {res : Unit × Mm} {N : Nat} {k2 : Nat → Nat → Int32 → Int32 → Mm → Option (Unit × Mm)} {k11 : Nat → Nat → Int32 → Int32 → Int32 → Mm → Option (Unit × Mm)} (hk2 : ∀ (a0 : Nat) (a1 : Nat) (a2 : Int32) (a3 : Int32) (mm : Mm) (H : Heap) (locs : List Loc) (ls : Array Slot), (sX10 a0) → (sX9 a1) → Wd D ca ad s.heap mm H locs → lv_has ls 7 [(0, .ref (ad a0)), (1, .ref (ad a1)), (2, .int a2), (3, .int a3)] → k2 a0 a1 a2 a3 mm = some res → W p l e (rmX10_fillSuit) s m args below meth c H locs 0 0 (MQ below (QV D ca ad res) args s 0 0 (AA ad)) (F0 m 2 ls [])) (hk11 : ∀ (a0 : Nat) (a1 : Nat) (a2 : Int32) (a3 : Int32) (a4 : Int32) (mm : Mm) (H : Heap) (locs : List Loc) (ls : Array Slot), (sX10 a0) → (sX9 a1) → Wd D ca ad s.heap mm H locs → lv_has ls 7 [(0, .ref (ad a0)), (1, .ref (ad a1)), (2, .int a2), (3, .int a3), (4, .int a4)] → k11 a0 a1 a2 a3 a4 mm = some res → W p l e (rmX10_fillSuit) s m args below meth c H locs 0 0 (MQ below (QV D ca ad res) args s 0 0 (AA ad)) (F0 m 11 ls [])) : ∀ (n : Nat) {a0 : Nat} {a1 : Nat} {a2 : Int32} {a3 : Int32} {a4 : Int32} {a5 : Int32} {a6 : Int32} {mm : Mm} {H : Heap} {locs : List Loc} {ls : Array Slot}, (sX10 a0) → (sX9 a1) → Wd D ca ad s.heap mm H locs → lv_has ls 7 [(0, .ref (ad a0)), (1, .ref (ad a1)), (2, .int a2), (3, .int a3), (4, .int a4), (5, .int a5), (6, .int a6)] → fX10_fillSuit_25 N k2 k11 n a0 a1 a2 a3 a4 a5 a6 mm = some res → W p l e (rmX10_fillSuit) s m args below meth c H locs 0 0 (MQ below (QV D ca ad res) args s 0 0 (AA ad)) (F0 m 25 ls []) := by
  intro n
  induction n with
  | zero => intro a0 a1 a2 a3 a4 a5 a6 mm H locs ls ha0 ha1 hW hl hf; cases hf
  | succ n ih =>
    intro a0 a1 a2 a3 a4 a5 a6 mm H locs ls ha0 ha1 hW hl hf
    have hk25 : ∀ (a0 : Nat) (a1 : Nat) (a2 : Int32) (a3 : Int32) (a4 : Int32) (a5 : Int32) (a6 : Int32) (mm : Mm) (H : Heap) (locs : List Loc) (ls : Array Slot), (sX10 a0) → (sX9 a1) → Wd D ca ad s.heap mm H locs → lv_has ls 7 [(0, .ref (ad a0)), (1, .ref (ad a1)), (2, .int a2), (3, .int a3), (4, .int a4), (5, .int a5), (6, .int a6)] → (fX10_fillSuit_25 N k2 k11 n) a0 a1 a2 a3 a4 a5 a6 mm = some res → W p l e (rmX10_fillSuit) s m args below meth c H locs 0 0 (MQ below (QV D ca ad res) args s 0 0 (AA ad)) (F0 m 25 ls []) := fun a0 a1 a2 a3 a4 a5 a6 mm H locs ls ha0 ha1 hW hl hf => ih ha0 ha1 hW hl hf
    unfold fX10_fillSuit_25 at hf
    try dsimp only at hf
    refine lv_iload C.1 C.2.1 dX10_fillSuit_25 (lv_at hl 6 rfl) ?_
    refine lv_iload_n C.1 C.2.1 dX10_fillSuit_27 rfl (lv_at hl 3 rfl) ?_
    refine lv_icmp_gt (tgt := 58) C.1 C.2.1 dX10_fillSuit_28 (by decide) (fun c1 => ?_) (fun c1 => ?_)
    · have hf := if_t c1 hf
      refine lv_iload_n C.1 C.2.1 dX10_fillSuit_58 rfl (lv_at hl 2 rfl) ?_
      refine lv_iload_n C.1 C.2.1 dX10_fillSuit_59 rfl (lv_at hl 3 rfl) ?_
      refine lv_iload C.1 C.2.1 dX10_fillSuit_60 (lv_at hl 4 rfl) ?_
      obtain ⟨x2, m3, r4, hf⟩ := bd2_s hf
      refine x_ci hW (x_runS C hW [.int a2, .int a3, .int a4] [] kvX10_placeOf q_645 (tX10_placeOf l C.2.2.2.2.2.2.1  r4) rfl rfl ⟨by decide, by decide⟩ rfl hl.1 rfl (Nat.le_of_ble_eq_true rfl) dX10_fillSuit_62) (fun H locs hW => ?_)
      refine lv_istore (lv' := [(6, .int x2), (0, .ref (ad a0)), (1, .ref (ad a1)), (2, .int a2), (3, .int a3), (4, .int a4), (5, .int a5)]) C.1 C.2.1 dX10_fillSuit_65 hl (by decide) rfl (fun ls hl => ?_)
      refine lv_iload C.1 C.2.1 dX10_fillSuit_67 (lv_at hl 0 rfl) ?_
      refine lv_if_lt (tgt := 81) C.1 C.2.1 dX10_fillSuit_69 (by decide) (fun c5 => ?_) (fun c5 => ?_)
      · have hf := if_t c5 hf
        exact wX10_fillSuit_81 C hk2 hk11 ha0 ha1 hW (lv_sub hl [1, 2, 3, 4, 5] rfl) hf
      · have hf := if_f c5 hf
        refine lv_aload_n C.1 C.2.1 dX10_fillSuit_72 rfl (lv_at hl 1 rfl) ?_
        refine x_getr C hW (ha0).1 (ha0).2.1 (j := 0) rfl kX10 (by decide) rfl q_249 dX10_fillSuit_73 ?_
        refine lv_iload C.1 C.2.1 dX10_fillSuit_76 (lv_at hl 0 rfl) ?_
        refine lv_iload C.1 C.2.1 dX10_fillSuit_78 (lv_at hl 6 rfl) ?_
        obtain ⟨g6, hf⟩ := gd_s hf
        refine x_iast C hW ha0.2.2.1 g6 dX10_fillSuit_80 (fun H locs hW => ?_)
        obtain ⟨m7, em7⟩ : ∃ z, z = wr m3 (fr a0 0) x2.toNatClampNeg a5 := ⟨_, rfl⟩
        have hf := nm_s hf em7
        rw [← em7] at hW
        exact wX10_fillSuit_81 C hk2 hk11 ha0 ha1 hW (lv_sub hl [1, 2, 3, 4, 5] rfl) hf
    · have hf := if_f c1 hf
      refine lv_iload C.1 C.2.1 dX10_fillSuit_31 (lv_at hl 5 rfl) ?_
      refine lv_aload_n C.1 C.2.1 dX10_fillSuit_33 rfl (lv_at hl 0 rfl) ?_
      refine lv_aload_n C.1 C.2.1 dX10_fillSuit_34 rfl (lv_at hl 1 rfl) ?_
      refine lv_iload_n C.1 C.2.1 dX10_fillSuit_35 rfl (lv_at hl 2 rfl) ?_
      refine lv_iload_n C.1 C.2.1 dX10_fillSuit_36 rfl (lv_at hl 3 rfl) ?_
      refine lv_iload C.1 C.2.1 dX10_fillSuit_37 (lv_at hl 6 rfl) ?_
      refine lv_isub C.1 C.2.1 dX10_fillSuit_39 ?_
      refine lv_iload C.1 C.2.1 dX10_fillSuit_40 (lv_at hl 4 rfl) ?_
      refine lv_iload C.1 C.2.1 dX10_fillSuit_42 (lv_at hl 6 rfl) ?_
      obtain ⟨x8, m9, r10, hf⟩ := bd2_s hf
      refine x_ci hW (x_runV C hW [.ref (ad a1), .int a2, .int (a3 - a6), .int a4, .int a6] [.int a5] (ha0).1 (ha0).2.1 kX10.1 kvX10_after q_635 (tX10_after l C.2.2.2.2.2.2.1 ha0 ha1 r10) rfl rfl ⟨by decide, by decide⟩ rfl hl.1 rfl (Nat.le_of_ble_eq_true rfl) dX10_fillSuit_44) (fun H locs hW => ?_)
      refine va_mmax C.1 C.2.1 (C.2.2.1.trans hl.1.symm) C.2.2.2.1 (C.2.2.2.2.1 _ q_648) (C.2.2.2.2.1 _ q_424) (C.2.2.2.2.1 _ q_15) (C.2.2.2.2.1 _ q_425) (by decide) (Nat.le_of_ble_eq_true rfl) (Nat.zero_le _) (Nat.zero_le _) dX10_fillSuit_47 ?_
      refine lv_topi (fun x11 ex11 => ?_)
      have hf := nm_s hf ex11
      refine lv_istore (lv' := [(5, .int x11), (0, .ref (ad a0)), (1, .ref (ad a1)), (2, .int a2), (3, .int a3), (4, .int a4), (6, .int a6)]) C.1 C.2.1 dX10_fillSuit_50 hl (by decide) rfl (fun ls hl => ?_)
      refine lv_iinc (v := (a6 + 1)) (lv' := [(6, .int (a6 + 1)), (5, .int x11), (0, .ref (ad a0)), (1, .ref (ad a1)), (2, .int a2), (3, .int a3), (4, .int a4)]) C.1 C.2.1 dX10_fillSuit_52 hl (k := 6) rfl rfl (by decide) rfl (fun ls hl => ?_)
      refine lv_goto (tgt := 25) C.1 C.2.1 dX10_fillSuit_55 (by decide) ?_
      exact hk25 _ _ _ _ _ _ _ _ _ _ _ ha0 ha1 hW (lv_sub hl [2, 3, 4, 5, 6, 1, 0] rfl) hf
set_option maxRecDepth 100000 in
set_option maxHeartbeats 4000000 in
theorem wX10_fillSuit_11 (C : Cx p s m meth c args cX10_fillSuit 7 none RX10 D ca ad) {res : Unit × Mm} {N : Nat} {k2 : Nat → Nat → Int32 → Int32 → Mm → Option (Unit × Mm)} (hk2 : ∀ (a0 : Nat) (a1 : Nat) (a2 : Int32) (a3 : Int32) (mm : Mm) (H : Heap) (locs : List Loc) (ls : Array Slot), (sX10 a0) → (sX9 a1) → Wd D ca ad s.heap mm H locs → lv_has ls 7 [(0, .ref (ad a0)), (1, .ref (ad a1)), (2, .int a2), (3, .int a3)] → k2 a0 a1 a2 a3 mm = some res → W p l e (rmX10_fillSuit) s m args below meth c H locs 0 0 (MQ below (QV D ca ad res) args s 0 0 (AA ad)) (F0 m 2 ls [])) : ∀ (n : Nat) {a0 : Nat} {a1 : Nat} {a2 : Int32} {a3 : Int32} {a4 : Int32} {mm : Mm} {H : Heap} {locs : List Loc} {ls : Array Slot}, (sX10 a0) → (sX9 a1) → Wd D ca ad s.heap mm H locs → lv_has ls 7 [(0, .ref (ad a0)), (1, .ref (ad a1)), (2, .int a2), (3, .int a3), (4, .int a4)] → fX10_fillSuit_11 N k2 n a0 a1 a2 a3 a4 mm = some res → W p l e (rmX10_fillSuit) s m args below meth c H locs 0 0 (MQ below (QV D ca ad res) args s 0 0 (AA ad)) (F0 m 11 ls []) := by
  intro n
  induction n with
  | zero => intro a0 a1 a2 a3 a4 mm H locs ls ha0 ha1 hW hl hf; cases hf
  | succ n ih =>
    intro a0 a1 a2 a3 a4 mm H locs ls ha0 ha1 hW hl hf
    have hk11 : ∀ (a0 : Nat) (a1 : Nat) (a2 : Int32) (a3 : Int32) (a4 : Int32) (mm : Mm) (H : Heap) (locs : List Loc) (ls : Array Slot), (sX10 a0) → (sX9 a1) → Wd D ca ad s.heap mm H locs → lv_has ls 7 [(0, .ref (ad a0)), (1, .ref (ad a1)), (2, .int a2), (3, .int a3), (4, .int a4)] → (fX10_fillSuit_11 N k2 n) a0 a1 a2 a3 a4 mm = some res → W p l e (rmX10_fillSuit) s m args below meth c H locs 0 0 (MQ below (QV D ca ad res) args s 0 0 (AA ad)) (F0 m 11 ls []) := fun a0 a1 a2 a3 a4 mm H locs ls ha0 ha1 hW hl hf => ih ha0 ha1 hW hl hf
    unfold fX10_fillSuit_11 at hf
    try dsimp only at hf
    refine lv_iload C.1 C.2.1 dX10_fillSuit_11 (lv_at hl 4 rfl) ?_
    refine lv_bipush (v := 16) C.1 C.2.1 dX10_fillSuit_13 (by decide) ?_
    refine lv_icmp_ge (tgt := 87) C.1 C.2.1 dX10_fillSuit_15 (by decide) (fun c12 => ?_) (fun c12 => ?_)
    · have hf := if_t c12 hf
      refine lv_iinc (v := (a3 + 1)) (lv' := [(3, .int (a3 + 1)), (0, .ref (ad a0)), (1, .ref (ad a1)), (2, .int a2), (4, .int a4)]) C.1 C.2.1 dX10_fillSuit_87 hl (k := 3) rfl rfl (by decide) rfl (fun ls hl => ?_)
      refine lv_goto (tgt := 2) C.1 C.2.1 dX10_fillSuit_90 (by decide) ?_
      exact hk2 _ _ _ _ _ _ _ _ ha0 ha1 hW (lv_sub hl [1, 2, 3, 0] rfl) hf
    · have hf := if_f c12 hf
      refine lv_ldc C.1 C.2.1 C.2.2.2.1 (C.2.2.2.2.1 _ q_634) dX10_fillSuit_18 ?_
      refine lv_istore (lv' := [(5, .int (-1000000)), (0, .ref (ad a0)), (1, .ref (ad a1)), (2, .int a2), (3, .int a3), (4, .int a4)]) C.1 C.2.1 dX10_fillSuit_20 hl (by decide) rfl (fun ls hl => ?_)
      refine lv_iconst (v := 0) C.1 C.2.1 dX10_fillSuit_22 (by decide) ?_
      refine lv_istore (lv' := [(6, .int 0), (5, .int (-1000000)), (0, .ref (ad a0)), (1, .ref (ad a1)), (2, .int a2), (3, .int a3), (4, .int a4)]) C.1 C.2.1 dX10_fillSuit_23 hl (by decide) rfl (fun ls hl => ?_)
      exact wX10_fillSuit_25 C hk2 hk11 N ha0 ha1 hW (lv_sub hl [2, 3, 4, 5, 6, 1, 0] rfl) hf
set_option maxRecDepth 100000 in
set_option maxHeartbeats 4000000 in
theorem wX10_fillSuit_2 (C : Cx p s m meth c args cX10_fillSuit 7 none RX10 D ca ad) {res : Unit × Mm} {N : Nat}  : ∀ (n : Nat) {a0 : Nat} {a1 : Nat} {a2 : Int32} {a3 : Int32} {mm : Mm} {H : Heap} {locs : List Loc} {ls : Array Slot}, (sX10 a0) → (sX9 a1) → Wd D ca ad s.heap mm H locs → lv_has ls 7 [(0, .ref (ad a0)), (1, .ref (ad a1)), (2, .int a2), (3, .int a3)] → fX10_fillSuit_2 N n a0 a1 a2 a3 mm = some res → W p l e (rmX10_fillSuit) s m args below meth c H locs 0 0 (MQ below (QV D ca ad res) args s 0 0 (AA ad)) (F0 m 2 ls []) := by
  intro n
  induction n with
  | zero => intro a0 a1 a2 a3 mm H locs ls ha0 ha1 hW hl hf; cases hf
  | succ n ih =>
    intro a0 a1 a2 a3 mm H locs ls ha0 ha1 hW hl hf
    have hk2 : ∀ (a0 : Nat) (a1 : Nat) (a2 : Int32) (a3 : Int32) (mm : Mm) (H : Heap) (locs : List Loc) (ls : Array Slot), (sX10 a0) → (sX9 a1) → Wd D ca ad s.heap mm H locs → lv_has ls 7 [(0, .ref (ad a0)), (1, .ref (ad a1)), (2, .int a2), (3, .int a3)] → (fX10_fillSuit_2 N n) a0 a1 a2 a3 mm = some res → W p l e (rmX10_fillSuit) s m args below meth c H locs 0 0 (MQ below (QV D ca ad res) args s 0 0 (AA ad)) (F0 m 2 ls []) := fun a0 a1 a2 a3 mm H locs ls ha0 ha1 hW hl hf => ih ha0 ha1 hW hl hf
    unfold fX10_fillSuit_2 at hf
    try dsimp only at hf
    refine lv_iload_n C.1 C.2.1 dX10_fillSuit_2 rfl (lv_at hl 3 rfl) ?_
    refine lv_bipush (v := 16) C.1 C.2.1 dX10_fillSuit_3 (by decide) ?_
    refine lv_icmp_ge (tgt := 93) C.1 C.2.1 dX10_fillSuit_5 (by decide) (fun c13 => ?_) (fun c13 => ?_)
    · have hf := if_t c13 hf
      cases hf
      exact x_vret C hW dX10_fillSuit_93
    · have hf := if_f c13 hf
      refine lv_iconst (v := 0) C.1 C.2.1 dX10_fillSuit_8 (by decide) ?_
      refine lv_istore (lv' := [(4, .int 0), (0, .ref (ad a0)), (1, .ref (ad a1)), (2, .int a2), (3, .int a3)]) C.1 C.2.1 dX10_fillSuit_9 hl (by decide) rfl (fun ls hl => ?_)
      exact wX10_fillSuit_11 C hk2 N ha0 ha1 hW (lv_sub hl [1, 2, 3, 4, 0] rfl) hf
set_option maxRecDepth 100000 in
set_option maxHeartbeats 4000000 in
theorem wX10_fillSuit_0 (C : Cx p s m meth c args cX10_fillSuit 7 none RX10 D ca ad) {res : Unit × Mm} {N : Nat}  {a0 : Nat} {a1 : Nat} {a2 : Int32} {mm : Mm} {H : Heap} {locs : List Loc} {ls : Array Slot} (ha0 : sX10 a0) (ha1 : sX9 a1) (hW : Wd D ca ad s.heap mm H locs) (hl : lv_has ls 7 [(0, .ref (ad a0)), (1, .ref (ad a1)), (2, .int a2)]) (hf : fX10_fillSuit N a0 a1 a2 mm = some res) : W p l e (rmX10_fillSuit) s m args below meth c H locs 0 0 (MQ below (QV D ca ad res) args s 0 0 (AA ad)) (F0 m 0 ls []) := by
  unfold fX10_fillSuit at hf
  refine lv_iconst (v := 0) C.1 C.2.1 dX10_fillSuit_0 (by decide) ?_
  refine lv_istore_n (lv' := [(3, .int 0), (0, .ref (ad a0)), (1, .ref (ad a1)), (2, .int a2)]) C.1 C.2.1 dX10_fillSuit_1 rfl hl (by decide) rfl (fun ls hl => ?_)
  exact wX10_fillSuit_2 C  N ha0 ha1 hW (lv_sub hl [1, 2, 3, 0] rfl) hf
set_option maxRecDepth 100000 in
set_option maxHeartbeats 4000000 in
theorem tX10_fillSuit (l : Launch) {D : va_G} {ca ad : Nat → Nat} (hi : Inj ad) {N : Nat} {a0 : Nat} {a1 : Nat} {a2 : Int32} {mm : Mm} {res : Unit × Mm} (ha0 : sX10 a0) (ha1 : sX9 a1) (hf : fX10_fillSuit N a0 a1 a2 mm = some res) : Met l yX10_fillSuit (WS yX10_fillSuit cX10_fillSuit 7 none) (rmX10_fillSuit) (va_Pc [.ref (ad a0), .ref (ad a1), .int a2] (WB D ca ad mm)) (QV D ca ad res) 0 0 (AA ad) := by
  refine x_start hi (by decide) rfl (Nat.le_of_ble_eq_true rfl) (fun p e s m args below meth c ls C hW hl => ?_)
  exact wX10_fillSuit_0 C ha0 ha1 hW (lv_sub hl [0, 1, 2] rfl) hf
set_option maxRecDepth 100000 in
set_option maxHeartbeats 4000000 in
theorem wX10_prepare_20 (C : Cx p s m meth c args cX10_prepare 6 none RX10 D ca ad) {res : Unit × Mm} {N : Nat} {k10 : Nat → Nat → Int32 → Int32 → Mm → Option (Unit × Mm)} (hk10 : ∀ (a0 : Nat) (a1 : Nat) (a3 : Int32) (a4 : Int32) (mm : Mm) (H : Heap) (locs : List Loc) (ls : Array Slot), (sX10 a0) → (sX9 a1) → Wd D ca ad s.heap mm H locs → lv_has ls 6 [(0, .ref (ad a0)), (1, .ref (ad a1)), (3, .int a3), (4, .int a4)] → k10 a0 a1 a3 a4 mm = some res → W p l e (rmX10_prepare) s m args below meth c H locs 0 0 (MQ below (QV D ca ad res) args s 0 0 (AA ad)) (F0 m 10 ls [])) : ∀ (n : Nat) {a0 : Nat} {a1 : Nat} {a3 : Int32} {a4 : Int32} {a5 : Int32} {mm : Mm} {H : Heap} {locs : List Loc} {ls : Array Slot}, (sX10 a0) → (sX9 a1) → Wd D ca ad s.heap mm H locs → lv_has ls 6 [(0, .ref (ad a0)), (1, .ref (ad a1)), (3, .int a3), (4, .int a4), (5, .int a5)] → fX10_prepare_20 N k10 n a0 a1 a3 a4 a5 mm = some res → W p l e (rmX10_prepare) s m args below meth c H locs 0 0 (MQ below (QV D ca ad res) args s 0 0 (AA ad)) (F0 m 20 ls []) := by
  intro n
  induction n with
  | zero => intro a0 a1 a3 a4 a5 mm H locs ls ha0 ha1 hW hl hf; cases hf
  | succ n ih =>
    intro a0 a1 a3 a4 a5 mm H locs ls ha0 ha1 hW hl hf
    have hk20 : ∀ (a0 : Nat) (a1 : Nat) (a3 : Int32) (a4 : Int32) (a5 : Int32) (mm : Mm) (H : Heap) (locs : List Loc) (ls : Array Slot), (sX10 a0) → (sX9 a1) → Wd D ca ad s.heap mm H locs → lv_has ls 6 [(0, .ref (ad a0)), (1, .ref (ad a1)), (3, .int a3), (4, .int a4), (5, .int a5)] → (fX10_prepare_20 N k10 n) a0 a1 a3 a4 a5 mm = some res → W p l e (rmX10_prepare) s m args below meth c H locs 0 0 (MQ below (QV D ca ad res) args s 0 0 (AA ad)) (F0 m 20 ls []) := fun a0 a1 a3 a4 a5 mm H locs ls ha0 ha1 hW hl hf => ih ha0 ha1 hW hl hf
    unfold fX10_prepare_20 at hf
    try dsimp only at hf
    refine lv_iload C.1 C.2.1 dX10_prepare_20 (lv_at hl 4 rfl) ?_
    refine lv_iconst (v := 3) C.1 C.2.1 dX10_prepare_22 (by decide) ?_
    refine lv_icmp_ge (tgt := 59) C.1 C.2.1 dX10_prepare_23 (by decide) (fun c1 => ?_) (fun c1 => ?_)
    · have hf := if_t c1 hf
      refine lv_iinc (v := (a4 + 1)) (lv' := [(4, .int (a4 + 1)), (0, .ref (ad a0)), (1, .ref (ad a1)), (3, .int a3), (5, .int a5)]) C.1 C.2.1 dX10_prepare_59 hl (k := 3) rfl rfl (by decide) rfl (fun ls hl => ?_)
      refine lv_goto (tgt := 10) C.1 C.2.1 dX10_prepare_62 (by decide) ?_
      exact hk10 _ _ _ _ _ _ _ _ ha0 ha1 hW (lv_sub hl [1, 2, 3, 0] rfl) hf
    · have hf := if_f c1 hf
      refine lv_aload_n C.1 C.2.1 dX10_prepare_26 rfl (lv_at hl 0 rfl) ?_
      refine x_getr C hW (ha0).1 (ha0).2.1 (j := 1) rfl kX10 (by decide) rfl q_250 dX10_prepare_27 ?_
      refine lv_iload C.1 C.2.1 dX10_prepare_30 (lv_at hl 3 rfl) ?_
      refine lv_iconst (v := 3) C.1 C.2.1 dX10_prepare_32 (by decide) ?_
      refine lv_imul C.1 C.2.1 dX10_prepare_33 ?_
      refine lv_iload C.1 C.2.1 dX10_prepare_34 (lv_at hl 4 rfl) ?_
      refine lv_iadd C.1 C.2.1 dX10_prepare_36 ?_
      refine lv_aload_n C.1 C.2.1 dX10_prepare_37 rfl (lv_at hl 1 rfl) ?_
      refine lv_iconst (v := 1) C.1 C.2.1 dX10_prepare_38 (by decide) ?_
      refine lv_iload C.1 C.2.1 dX10_prepare_39 (lv_at hl 4 rfl) ?_
      refine lv_aload_n C.1 C.2.1 dX10_prepare_41 rfl (lv_at hl 1 rfl) ?_
      refine lv_iload C.1 C.2.1 dX10_prepare_42 (lv_at hl 3 rfl) ?_
      refine lv_iload_n C.1 C.2.1 dX10_prepare_44 rfl (lv_at hl 2 rfl) ?_
      obtain ⟨x2, m3, r4, hf⟩ := bd2_s hf
      refine x_ci hW (x_runV C hW [.int a4, .int a3] [.int a5, .int 1, .ref (ad a1), .int ((a4 * 3) + a5), .ref (ad (fr a0 1))] (ha1).1 (ha1).2.1 kX9.1 kvX9_weight q_628 (tX9_weight l C.2.2.2.2.2.2.1 ha1 r4) rfl rfl ⟨by decide, by decide⟩ rfl hl.1 rfl (Nat.le_of_ble_eq_true rfl) dX10_prepare_45) (fun H locs hW => ?_)
      refine lv_iload_n C.1 C.2.1 dX10_prepare_48 rfl (lv_at hl 2 rfl) ?_
      obtain ⟨x5, m6, r7, hf⟩ := bd2_s hf
      refine x_ci hW (x_runV C hW [.int 1, .int a5, .int x2, .int a3] [.int ((a4 * 3) + a5), .ref (ad (fr a0 1))] (ha1).1 (ha1).2.1 kX9.1 kvX9_need q_629 (tX9_need l C.2.2.2.2.2.2.1 ha1 r7) rfl rfl ⟨by decide, by decide⟩ rfl hl.1 rfl (Nat.le_of_ble_eq_true rfl) dX10_prepare_49) (fun H locs hW => ?_)
      obtain ⟨g8, hf⟩ := gd_s hf
      refine x_iast C hW ha0.2.2.2 g8 dX10_prepare_52 (fun H locs hW => ?_)
      obtain ⟨m9, em9⟩ : ∃ z, z = wr m6 (fr a0 1) ((a4 * 3) + a5).toNatClampNeg x5 := ⟨_, rfl⟩
      have hf := nm_s hf em9
      rw [← em9] at hW
      refine lv_iinc (v := (a5 + 1)) (lv' := [(5, .int (a5 + 1)), (0, .ref (ad a0)), (1, .ref (ad a1)), (3, .int a3), (4, .int a4)]) C.1 C.2.1 dX10_prepare_53 hl (k := 4) rfl rfl (by decide) rfl (fun ls hl => ?_)
      refine lv_goto (tgt := 20) C.1 C.2.1 dX10_prepare_56 (by decide) ?_
      exact hk20 _ _ _ _ _ _ _ _ _ ha0 ha1 hW (lv_sub hl [1, 2, 3, 4, 0] rfl) hf
set_option maxRecDepth 100000 in
set_option maxHeartbeats 4000000 in
theorem wX10_prepare_10 (C : Cx p s m meth c args cX10_prepare 6 none RX10 D ca ad) {res : Unit × Mm} {N : Nat}  : ∀ (n : Nat) {a0 : Nat} {a1 : Nat} {a3 : Int32} {a4 : Int32} {mm : Mm} {H : Heap} {locs : List Loc} {ls : Array Slot}, (sX10 a0) → (sX9 a1) → Wd D ca ad s.heap mm H locs → lv_has ls 6 [(0, .ref (ad a0)), (1, .ref (ad a1)), (3, .int a3), (4, .int a4)] → fX10_prepare_10 N n a0 a1 a3 a4 mm = some res → W p l e (rmX10_prepare) s m args below meth c H locs 0 0 (MQ below (QV D ca ad res) args s 0 0 (AA ad)) (F0 m 10 ls []) := by
  intro n
  induction n with
  | zero => intro a0 a1 a3 a4 mm H locs ls ha0 ha1 hW hl hf; cases hf
  | succ n ih =>
    intro a0 a1 a3 a4 mm H locs ls ha0 ha1 hW hl hf
    have hk10 : ∀ (a0 : Nat) (a1 : Nat) (a3 : Int32) (a4 : Int32) (mm : Mm) (H : Heap) (locs : List Loc) (ls : Array Slot), (sX10 a0) → (sX9 a1) → Wd D ca ad s.heap mm H locs → lv_has ls 6 [(0, .ref (ad a0)), (1, .ref (ad a1)), (3, .int a3), (4, .int a4)] → (fX10_prepare_10 N n) a0 a1 a3 a4 mm = some res → W p l e (rmX10_prepare) s m args below meth c H locs 0 0 (MQ below (QV D ca ad res) args s 0 0 (AA ad)) (F0 m 10 ls []) := fun a0 a1 a3 a4 mm H locs ls ha0 ha1 hW hl hf => ih ha0 ha1 hW hl hf
    unfold fX10_prepare_10 at hf
    try dsimp only at hf
    refine lv_iload C.1 C.2.1 dX10_prepare_10 (lv_at hl 3 rfl) ?_
    refine lv_bipush (v := 16) C.1 C.2.1 dX10_prepare_12 (by decide) ?_
    refine lv_icmp_ge (tgt := 65) C.1 C.2.1 dX10_prepare_14 (by decide) (fun c10 => ?_) (fun c10 => ?_)
    · have hf := if_t c10 hf
      cases hf
      exact x_vret C hW dX10_prepare_65
    · have hf := if_f c10 hf
      refine lv_iconst (v := 0) C.1 C.2.1 dX10_prepare_17 (by decide) ?_
      refine lv_istore (lv' := [(5, .int 0), (0, .ref (ad a0)), (1, .ref (ad a1)), (3, .int a3), (4, .int a4)]) C.1 C.2.1 dX10_prepare_18 hl (by decide) rfl (fun ls hl => ?_)
      exact wX10_prepare_20 C hk10 N ha0 ha1 hW (lv_sub hl [1, 2, 3, 4, 0] rfl) hf
set_option maxRecDepth 100000 in
set_option maxHeartbeats 4000000 in
theorem wX10_prepare_0 (C : Cx p s m meth c args cX10_prepare 6 none RX10 D ca ad) {res : Unit × Mm} {N : Nat}  {a0 : Nat} {a1 : Nat} {a2 : Int32} {mm : Mm} {H : Heap} {locs : List Loc} {ls : Array Slot} (ha0 : sX10 a0) (ha1 : sX9 a1) (hW : Wd D ca ad s.heap mm H locs) (hl : lv_has ls 6 [(0, .ref (ad a0)), (1, .ref (ad a1)), (2, .int a2)]) (hf : fX10_prepare N a0 a1 a2 mm = some res) : W p l e (rmX10_prepare) s m args below meth c H locs 0 0 (MQ below (QV D ca ad res) args s 0 0 (AA ad)) (F0 m 0 ls []) := by
  unfold fX10_prepare at hf
  refine lv_aload_n C.1 C.2.1 dX10_prepare_0 rfl (lv_at hl 1 rfl) ?_
  refine lv_iload_n C.1 C.2.1 dX10_prepare_1 rfl (lv_at hl 2 rfl) ?_
  refine lv_iconst (v := 0) C.1 C.2.1 dX10_prepare_2 (by decide) ?_
  obtain ⟨x11, m12, r13, hf⟩ := bd2_s hf
  refine x_ci hW (x_runV C hW [.int a2, .int 0] [] (ha1).1 (ha1).2.1 kX9.1 kvX9_extra q_627 (tX9_extra l C.2.2.2.2.2.2.1 ha1 r13) rfl rfl ⟨by decide, by decide⟩ rfl hl.1 rfl (Nat.le_of_ble_eq_true rfl) dX10_prepare_3) (fun H locs hW => ?_)
  refine lv_istore_n (lv' := [(3, .int x11), (0, .ref (ad a0)), (1, .ref (ad a1)), (2, .int a2)]) C.1 C.2.1 dX10_prepare_6 rfl hl (by decide) rfl (fun ls hl => ?_)
  refine lv_iconst (v := 0) C.1 C.2.1 dX10_prepare_7 (by decide) ?_
  refine lv_istore (lv' := [(4, .int 0), (3, .int x11), (0, .ref (ad a0)), (1, .ref (ad a1)), (2, .int a2)]) C.1 C.2.1 dX10_prepare_8 hl (by decide) rfl (fun ls hl => ?_)
  exact wX10_prepare_10 C  N ha0 ha1 hW (lv_sub hl [2, 3, 1, 0] rfl) hf
set_option maxRecDepth 100000 in
set_option maxHeartbeats 4000000 in
theorem tX10_prepare (l : Launch) {D : va_G} {ca ad : Nat → Nat} (hi : Inj ad) {N : Nat} {a0 : Nat} {a1 : Nat} {a2 : Int32} {mm : Mm} {res : Unit × Mm} (ha0 : sX10 a0) (ha1 : sX9 a1) (hf : fX10_prepare N a0 a1 a2 mm = some res) : Met l yX10_prepare (WS yX10_prepare cX10_prepare 6 none) (rmX10_prepare) (va_Pc [.ref (ad a0), .ref (ad a1), .int a2] (WB D ca ad mm)) (QV D ca ad res) 0 0 (AA ad) := by
  refine x_start hi (by decide) rfl (Nat.le_of_ble_eq_true rfl) (fun p e s m args below meth c ls C hW hl => ?_)
  exact wX10_prepare_0 C ha0 ha1 hW (lv_sub hl [0, 1, 2] rfl) hf
set_option maxRecDepth 100000 in
set_option maxHeartbeats 4000000 in
theorem wX10_fill_52 (C : Cx p s m meth c args cX10_fill 4 none RX10 D ca ad) {res : Unit × Mm} {N : Nat} {k23 : Nat → Nat → Int32 → Mm → Option (Unit × Mm)} (hk23 : ∀ (a0 : Nat) (a1 : Nat) (a2 : Int32) (mm : Mm) (H : Heap) (locs : List Loc) (ls : Array Slot), (sX10 a0) → (sX0 a1) → Wd D ca ad s.heap mm H locs → lv_has ls 4 [(0, .ref (ad a0)), (1, .ref (ad a1)), (2, .int a2)] → k23 a0 a1 a2 mm = some res → W p l e (rmX10_fill) s m args below meth c H locs 0 0 (MQ below (QV D ca ad res) args s 0 0 (AA ad)) (F0 m 23 ls [])) {a0 : Nat} {a1 : Nat} {a2 : Int32} {mm : Mm} {H : Heap} {locs : List Loc} {ls : Array Slot} (ha0 : sX10 a0) (ha1 : sX0 a1) (hW : Wd D ca ad s.heap mm H locs) (hl : lv_has ls 4 [(0, .ref (ad a0)), (1, .ref (ad a1)), (2, .int a2)]) (hf : fX10_fill_52 N k23 a0 a1 a2 mm = some res) : W p l e (rmX10_fill) s m args below meth c H locs 0 0 (MQ below (QV D ca ad res) args s 0 0 (AA ad)) (F0 m 52 ls []) := by
  unfold fX10_fill_52 at hf
  refine lv_iinc (v := (a2 + (-1))) (lv' := [(2, .int (a2 + (-1))), (0, .ref (ad a0)), (1, .ref (ad a1))]) C.1 C.2.1 dX10_fill_52 hl (k := 2) rfl rfl (by decide) rfl (fun ls hl => ?_)
  refine lv_goto (tgt := 23) C.1 C.2.1 dX10_fill_55 (by decide) ?_
  exact hk23 _ _ _ _ _ _ _ ha0 ha1 hW (lv_sub hl [1, 2, 0] rfl) hf
set_option maxRecDepth 100000 in
set_option maxHeartbeats 4000000 in
theorem wX10_fill_23 (C : Cx p s m meth c args cX10_fill 4 none RX10 D ca ad) {res : Unit × Mm} {N : Nat}  : ∀ (n : Nat) {a0 : Nat} {a1 : Nat} {a2 : Int32} {mm : Mm} {H : Heap} {locs : List Loc} {ls : Array Slot}, (sX10 a0) → (sX0 a1) → Wd D ca ad s.heap mm H locs → lv_has ls 4 [(0, .ref (ad a0)), (1, .ref (ad a1)), (2, .int a2)] → fX10_fill_23 N n a0 a1 a2 mm = some res → W p l e (rmX10_fill) s m args below meth c H locs 0 0 (MQ below (QV D ca ad res) args s 0 0 (AA ad)) (F0 m 23 ls []) := by
  intro n
  induction n with
  | zero => intro a0 a1 a2 mm H locs ls ha0 ha1 hW hl hf; cases hf
  | succ n ih =>
    intro a0 a1 a2 mm H locs ls ha0 ha1 hW hl hf
    have hk23 : ∀ (a0 : Nat) (a1 : Nat) (a2 : Int32) (mm : Mm) (H : Heap) (locs : List Loc) (ls : Array Slot), (sX10 a0) → (sX0 a1) → Wd D ca ad s.heap mm H locs → lv_has ls 4 [(0, .ref (ad a0)), (1, .ref (ad a1)), (2, .int a2)] → (fX10_fill_23 N n) a0 a1 a2 mm = some res → W p l e (rmX10_fill) s m args below meth c H locs 0 0 (MQ below (QV D ca ad res) args s 0 0 (AA ad)) (F0 m 23 ls []) := fun a0 a1 a2 mm H locs ls ha0 ha1 hW hl hf => ih ha0 ha1 hW hl hf
    unfold fX10_fill_23 at hf
    try dsimp only at hf
    refine lv_iload_n C.1 C.2.1 dX10_fill_23 rfl (lv_at hl 2 rfl) ?_
    refine lv_if_lt (tgt := 58) C.1 C.2.1 dX10_fill_24 (by decide) (fun c1 => ?_) (fun c1 => ?_)
    · have hf := if_t c1 hf
      refine lv_aload_n C.1 C.2.1 dX10_fill_58 rfl (lv_at hl 0 rfl) ?_
      refine lv_iconst (v := 1) C.1 C.2.1 dX10_fill_59 (by decide) ?_
      refine x_put C hW (ha0).1 (ha0).2.1 (j := 2) (t1 := .boolean) rfl kX10 (by decide) rfl rfl q_251 (by decide +kernel) rfl rfl dX10_fill_60 (fun H locs hW => ?_)
      obtain ⟨m2, em2⟩ : ∃ z, z = wr mm a0 2 1 := ⟨_, rfl⟩
      have hf := nm_s hf em2
      rw [← em2] at hW
      cases hf
      exact x_vret C hW dX10_fill_63
    · have hf := if_f c1 hf
      refine lv_aload_n C.1 C.2.1 dX10_fill_27 rfl (lv_at hl 1 rfl) ?_
      refine lv_iload_n C.1 C.2.1 dX10_fill_28 rfl (lv_at hl 2 rfl) ?_
      obtain ⟨x3, m4, r5, hf⟩ := bd2_s hf
      refine x_cr hW (x_runV C hW [.int a2] [] (ha1).1 (ha1).2.1 kX0.1 kvX0_suitOf q_622 (tX0_suitOf l C.2.2.2.2.2.2.1 ha1 r5) rfl rfl ⟨by decide, by decide⟩ rfl hl.1 rfl (Nat.le_of_ble_eq_true rfl) dX10_fill_29) (fun H locs hW => ?_)
      refine x_astore_n (lv' := [(3, va_re ad x3), (0, .ref (ad a0)), (1, .ref (ad a1)), (2, .int a2)]) C dX10_fill_32 rfl hl (by decide) rfl (fun ls hl => ?_)
      refine x_aload_n C dX10_fill_33 rfl (lv_at hl 0 rfl) ?_
      refine x_ifnull C (tgt := 52) dX10_fill_34 (by decide) (fun n7 => ?_) (fun z6 n7 => ?_)
      · subst n7
        have hf := cs_n hf
        exact wX10_fill_52 C hk23 ha0 ha1 hW (lv_sub hl [1, 2, 3] rfl) hf
      · subst n7
        have hf := cs_q hf
        refine lv_aload_n C.1 C.2.1 dX10_fill_37 rfl (lv_at hl 1 rfl) ?_
        refine lv_aload_n C.1 C.2.1 dX10_fill_38 rfl (lv_at hl 0 rfl) ?_
        refine lv_aload_n C.1 C.2.1 dX10_fill_39 rfl (lv_at hl 2 rfl) ?_
        refine x_geti C hW (ha1).1 (ha1).2.1 (j := 6) rfl kX0 (by decide) rfl q_76 dX10_fill_40 ?_
        obtain ⟨x8, m9, r10, hf⟩ := bd2_s hf
        refine x_cv hW (x_runV C hW [.ref (ad z6), .int (rd m4 a1 6)] [] (ha0).1 (ha0).2.1 kX10.1 kvX10_prepare q_623 (tX10_prepare l C.2.2.2.2.2.2.1 ha0 ((gX0_suitOf ha1 r5) z6 rfl) r10) rfl rfl ⟨by decide, by decide⟩ rfl hl.1 rfl (Nat.le_of_ble_eq_true rfl) dX10_fill_43) (fun H locs hW => ?_)
        refine lv_aload_n C.1 C.2.1 dX10_fill_46 rfl (lv_at hl 1 rfl) ?_
        refine lv_aload_n C.1 C.2.1 dX10_fill_47 rfl (lv_at hl 0 rfl) ?_
        refine lv_iload_n C.1 C.2.1 dX10_fill_48 rfl (lv_at hl 3 rfl) ?_
        obtain ⟨x11, m12, r13, hf⟩ := bd2_s hf
        refine x_cv hW (x_runV C hW [.ref (ad z6), .int a2] [] (ha0).1 (ha0).2.1 kX10.1 kvX10_fillSuit q_630 (tX10_fillSuit l C.2.2.2.2.2.2.1 ha0 ((gX0_suitOf ha1 r5) z6 rfl) r13) rfl rfl ⟨by decide, by decide⟩ rfl hl.1 rfl (Nat.le_of_ble_eq_true rfl) dX10_fill_49) (fun H locs hW => ?_)
        exact wX10_fill_52 C hk23 ha0 ha1 hW (lv_sub hl [1, 2, 3] rfl) hf
set_option maxRecDepth 100000 in
set_option maxHeartbeats 4000000 in
theorem wX10_fill_0 (C : Cx p s m meth c args cX10_fill 4 none RX10 D ca ad) {res : Unit × Mm} {N : Nat}  {a0 : Nat} {a1 : Nat} {mm : Mm} {H : Heap} {locs : List Loc} {ls : Array Slot} (ha0 : sX10 a0) (ha1 : sX0 a1) (hW : Wd D ca ad s.heap mm H locs) (hl : lv_has ls 4 [(0, .ref (ad a0)), (1, .ref (ad a1))]) (hf : fX10_fill N a0 a1 mm = some res) : W p l e (rmX10_fill) s m args below meth c H locs 0 0 (MQ below (QV D ca ad res) args s 0 0 (AA ad)) (F0 m 0 ls []) := by
  unfold fX10_fill at hf
  refine lv_aload_n C.1 C.2.1 dX10_fill_0 rfl (lv_at hl 0 rfl) ?_
  refine x_geti C hW (ha0).1 (ha0).2.1 (j := 2) rfl kX10 (by decide) rfl q_251 dX10_fill_1 ?_
  refine lv_if_eq (tgt := 8) C.1 C.2.1 dX10_fill_4 (by decide) (fun c14 => ?_) (fun c14 => ?_)
  · have hf := if_t c14 hf
    refine lv_aload_n C.1 C.2.1 dX10_fill_8 rfl (lv_at hl 0 rfl) ?_
    refine x_getr C hW (ha0).1 (ha0).2.1 (j := 0) rfl kX10 (by decide) rfl q_249 dX10_fill_9 ?_
    refine lv_iconst (v := 0) C.1 C.2.1 dX10_fill_12 (by decide) ?_
    obtain ⟨x15, m16, r17, hf⟩ := bd2_s hf
    refine x_cv hW (x_runS C hW [.ref (ad (fr a0 0)), .int 0] [] kvJ7_fill_53178 q_621 (tJ7_fill_53178 l C.2.2.2.2.2.2.1 ha0.2.2.1 r17) rfl rfl ⟨by decide, by decide⟩ rfl hl.1 rfl (Nat.le_of_ble_eq_true rfl) dX10_fill_13) (fun H locs hW => ?_)
    refine lv_aload_n C.1 C.2.1 dX10_fill_16 rfl (lv_at hl 1 rfl) ?_
    refine x_geti C hW (ha1).1 (ha1).2.1 (j := 5) rfl kX0 (by decide) rfl q_71 dX10_fill_17 ?_
    refine lv_iconst (v := 1) C.1 C.2.1 dX10_fill_20 (by decide) ?_
    refine lv_isub C.1 C.2.1 dX10_fill_21 ?_
    refine lv_istore_n (lv' := [(2, .int ((rd m16 a1 5) - 1)), (0, .ref (ad a0)), (1, .ref (ad a1))]) C.1 C.2.1 dX10_fill_22 rfl hl (by decide) rfl (fun ls hl => ?_)
    exact wX10_fill_23 C  N ha0 ha1 hW (lv_sub hl [1, 2, 0] rfl) hf
  · have hf := if_f c14 hf
    cases hf
    exact x_vret C hW dX10_fill_7
set_option maxRecDepth 100000 in
set_option maxHeartbeats 4000000 in
theorem tX10_fill (l : Launch) {D : va_G} {ca ad : Nat → Nat} (hi : Inj ad) {N : Nat} {a0 : Nat} {a1 : Nat} {mm : Mm} {res : Unit × Mm} (ha0 : sX10 a0) (ha1 : sX0 a1) (hf : fX10_fill N a0 a1 mm = some res) : Met l yX10_fill (WS yX10_fill cX10_fill 4 none) (rmX10_fill) (va_Pc [.ref (ad a0), .ref (ad a1)] (WB D ca ad mm)) (QV D ca ad res) 0 0 (AA ad) := by
  refine x_start hi (by decide) rfl (Nat.le_of_ble_eq_true rfl) (fun p e s m args below meth c ls C hW hl => ?_)
  exact wX10_fill_0 C ha0 ha1 hW (lv_sub hl [0, 1] rfl) hf
set_option maxRecDepth 100000 in
set_option maxHeartbeats 4000000 in
theorem wX10_valueOf_0 (C : Cx p s m meth c args cX10_valueOf 5 (some .int) RX10 D ca ad) {res : Int32 × Mm} {N : Nat}  {a0 : Nat} {a1 : Nat} {a2 : Int32} {a3 : Int32} {a4 : Int32} {mm : Mm} {H : Heap} {locs : List Loc} {ls : Array Slot} (ha0 : sX10 a0) (ha1 : sX0 a1) (hW : Wd D ca ad s.heap mm H locs) (hl : lv_has ls 5 [(0, .ref (ad a0)), (1, .ref (ad a1)), (2, .int a2), (3, .int a3), (4, .int a4)]) (hf : fX10_valueOf N a0 a1 a2 a3 a4 mm = some res) : W p l e (rmX10_valueOf) s m args below meth c H locs 0 0 (MQ below (QI D ca ad res) args s 0 0 (AA ad)) (F0 m 0 ls []) := by
  unfold fX10_valueOf at hf
  refine lv_aload_n C.1 C.2.1 dX10_valueOf_0 rfl (lv_at hl 0 rfl) ?_
  refine lv_aload_n C.1 C.2.1 dX10_valueOf_1 rfl (lv_at hl 1 rfl) ?_
  obtain ⟨x1, m2, r3, hf⟩ := bd2_s hf
  refine x_cv hW (x_runV C hW [.ref (ad a1)] [] (ha0).1 (ha0).2.1 kX10.1 kvX10_fill q_617 (tX10_fill l C.2.2.2.2.2.2.1 ha0 ha1 r3) rfl rfl ⟨by decide, by decide⟩ rfl hl.1 rfl (Nat.le_of_ble_eq_true rfl) dX10_valueOf_2) (fun H locs hW => ?_)
  refine lv_aload_n C.1 C.2.1 dX10_valueOf_5 rfl (lv_at hl 0 rfl) ?_
  refine lv_iload_n C.1 C.2.1 dX10_valueOf_6 rfl (lv_at hl 2 rfl) ?_
  refine lv_iload_n C.1 C.2.1 dX10_valueOf_7 rfl (lv_at hl 3 rfl) ?_
  refine lv_iload C.1 C.2.1 dX10_valueOf_8 (lv_at hl 4 rfl) ?_
  obtain ⟨x4, m5, r6, hf⟩ := bd2_s hf
  refine x_ci hW (x_runV C hW [.int a2, .int a3, .int a4] [] (ha0).1 (ha0).2.1 kX10.1 kvX10_value q_641 (tX10_value l C.2.2.2.2.2.2.1 ha0 r6) rfl rfl ⟨by decide, by decide⟩ rfl hl.1 rfl (Nat.le_of_ble_eq_true rfl) dX10_valueOf_10) (fun H locs hW => ?_)
  cases hf
  exact x_iret C hW dX10_valueOf_13
set_option maxRecDepth 100000 in
set_option maxHeartbeats 4000000 in
theorem tX10_valueOf (l : Launch) {D : va_G} {ca ad : Nat → Nat} (hi : Inj ad) {N : Nat} {a0 : Nat} {a1 : Nat} {a2 : Int32} {a3 : Int32} {a4 : Int32} {mm : Mm} {res : Int32 × Mm} (ha0 : sX10 a0) (ha1 : sX0 a1) (hf : fX10_valueOf N a0 a1 a2 a3 a4 mm = some res) : Met l yX10_valueOf (WS yX10_valueOf cX10_valueOf 5 (some .int)) (rmX10_valueOf) (va_Pc [.ref (ad a0), .ref (ad a1), .int a2, .int a3, .int a4] (WB D ca ad mm)) (QI D ca ad res) 0 0 (AA ad) := by
  refine x_start hi (by decide) rfl (Nat.le_of_ble_eq_true rfl) (fun p e s m args below meth c ls C hW hl => ?_)
  exact wX10_valueOf_0 C ha0 ha1 hW (lv_sub hl [0, 1, 2, 3, 4] rfl) hf
end W_turns12
