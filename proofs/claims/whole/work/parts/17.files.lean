theorem dX11_ways_0 : decode cX11_ways 0 = .ok (.aload_n 0, 1) := by decide +kernel
theorem dX11_ways_1 : decode cX11_ways 1 = .ok (.iload_n 1, 1) := by decide +kernel
theorem dX11_ways_2 : decode cX11_ways 2 = .ok (.invokevirtual 96, 3) := by decide +kernel
theorem dX11_ways_5 : decode cX11_ways 5 = .ok (.astore_n 3, 1) := by decide +kernel
theorem dX11_ways_6 : decode cX11_ways 6 = .ok (.aload_n 3, 1) := by decide +kernel
theorem dX11_ways_7 : decode cX11_ways 7 = .ok (.ifnull 13, 3) := by decide +kernel
theorem dX11_ways_10 : decode cX11_ways 10 = .ok (.iload_n 2, 1) := by decide +kernel
theorem dX11_ways_11 : decode cX11_ways 11 = .ok (.ifCond .lt 9, 3) := by decide +kernel
theorem dX11_ways_14 : decode cX11_ways 14 = .ok (.iload_n 2, 1) := by decide +kernel
theorem dX11_ways_15 : decode cX11_ways 15 = .ok (.bipush 108, 2) := by decide +kernel
theorem dX11_ways_17 : decode cX11_ways 17 = .ok (.if_icmp .le 5, 3) := by decide +kernel
theorem dX11_ways_20 : decode cX11_ways 20 = .ok (.iconst (-1), 1) := by decide +kernel
theorem dX11_ways_21 : decode cX11_ways 21 = .ok (.ireturn, 1) := by decide +kernel
theorem dX11_ways_22 : decode cX11_ways 22 = .ok (.aload_n 0, 1) := by decide +kernel
theorem dX11_ways_23 : decode cX11_ways 23 = .ok (.getfield 21, 3) := by decide +kernel
theorem dX11_ways_26 : decode cX11_ways 26 = .ok (.getfield 188, 3) := by decide +kernel
theorem dX11_ways_29 : decode cX11_ways 29 = .ok (.iconst 0, 1) := by decide +kernel
theorem dX11_ways_30 : decode cX11_ways 30 = .ok (.iaload, 1) := by decide +kernel
theorem dX11_ways_31 : decode cX11_ways 31 = .ok (.bipush 12, 2) := by decide +kernel
theorem dX11_ways_33 : decode cX11_ways 33 = .ok (.if_icmp .le 6, 3) := by decide +kernel
theorem dX11_ways_36 : decode cX11_ways 36 = .ok (.bipush (-6), 2) := by decide +kernel
theorem dX11_ways_38 : decode cX11_ways 38 = .ok (.ireturn, 1) := by decide +kernel
theorem dX11_ways_39 : decode cX11_ways 39 = .ok (.aload_n 0, 1) := by decide +kernel
theorem dX11_ways_40 : decode cX11_ways 40 = .ok (.aload_n 3, 1) := by decide +kernel
theorem dX11_ways_41 : decode cX11_ways 41 = .ok (.iconst 1, 1) := by decide +kernel
theorem dX11_ways_42 : decode cX11_ways 42 = .ok (.invokevirtual 226, 3) := by decide +kernel
theorem dX11_ways_45 : decode cX11_ways 45 = .ok (.ifCond .eq 6, 3) := by decide +kernel
theorem dX11_ways_48 : decode cX11_ways 48 = .ok (.bipush (-3), 2) := by decide +kernel
theorem dX11_ways_50 : decode cX11_ways 50 = .ok (.ireturn, 1) := by decide +kernel
theorem dX11_ways_51 : decode cX11_ways 51 = .ok (.aload_n 0, 1) := by decide +kernel
theorem dX11_ways_52 : decode cX11_ways 52 = .ok (.getfield 46, 3) := by decide +kernel
theorem dX11_ways_55 : decode cX11_ways 55 = .ok (.aload_n 0, 1) := by decide +kernel
theorem dX11_ways_56 : decode cX11_ways 56 = .ok (.getfield 21, 3) := by decide +kernel
theorem dX11_ways_59 : decode cX11_ways 59 = .ok (.getfield 158, 3) := by decide +kernel
theorem dX11_ways_62 : decode cX11_ways 62 = .ok (.aload_n 0, 1) := by decide +kernel
theorem dX11_ways_63 : decode cX11_ways 63 = .ok (.getfield 21, 3) := by decide +kernel
theorem dX11_ways_66 : decode cX11_ways 66 = .ok (.getfield 188, 3) := by decide +kernel
theorem dX11_ways_69 : decode cX11_ways 69 = .ok (.iconst 0, 1) := by decide +kernel
theorem dX11_ways_70 : decode cX11_ways 70 = .ok (.iaload, 1) := by decide +kernel
theorem dX11_ways_71 : decode cX11_ways 71 = .ok (.invokevirtual 250, 3) := by decide +kernel
theorem dX11_ways_74 : decode cX11_ways 74 = .ok (.iconst 0, 1) := by decide +kernel
theorem dX11_ways_75 : decode cX11_ways 75 = .ok (.istore 4, 2) := by decide +kernel
theorem dX11_ways_77 : decode cX11_ways 77 = .ok (.iconst 0, 1) := by decide +kernel
theorem dX11_ways_78 : decode cX11_ways 78 = .ok (.istore 5, 2) := by decide +kernel
theorem dX11_ways_80 : decode cX11_ways 80 = .ok (.iconst 0, 1) := by decide +kernel
theorem dX11_ways_81 : decode cX11_ways 81 = .ok (.istore 6, 2) := by decide +kernel
theorem dX11_ways_83 : decode cX11_ways 83 = .ok (.iload 6, 2) := by decide +kernel
theorem dX11_ways_85 : decode cX11_ways 85 = .ok (.ifCond .lt 63, 3) := by decide +kernel
theorem dX11_ways_88 : decode cX11_ways 88 = .ok (.iload 4, 2) := by decide +kernel
theorem dX11_ways_90 : decode cX11_ways 90 = .ok (.ldc 253, 2) := by decide +kernel
theorem dX11_ways_92 : decode cX11_ways 92 = .ok (.if_icmp .ge 56, 3) := by decide +kernel
theorem dX11_ways_95 : decode cX11_ways 95 = .ok (.aload_n 0, 1) := by decide +kernel
theorem dX11_ways_96 : decode cX11_ways 96 = .ok (.getfield 39, 3) := by decide +kernel
theorem dX11_ways_99 : decode cX11_ways 99 = .ok (.aload_n 0, 1) := by decide +kernel
theorem dX11_ways_100 : decode cX11_ways 100 = .ok (.getfield 21, 3) := by decide +kernel
theorem dX11_ways_103 : decode cX11_ways 103 = .ok (.aload_n 0, 1) := by decide +kernel
theorem dX11_ways_104 : decode cX11_ways 104 = .ok (.getfield 46, 3) := by decide +kernel
theorem dX11_ways_107 : decode cX11_ways 107 = .ok (.getfield 254, 3) := by decide +kernel
theorem dX11_ways_110 : decode cX11_ways 110 = .ok (.aload_n 3, 1) := by decide +kernel
theorem dX11_ways_111 : decode cX11_ways 111 = .ok (.getfield 116, 3) := by decide +kernel
theorem dX11_ways_114 : decode cX11_ways 114 = .ok (.iload 6, 2) := by decide +kernel
theorem dX11_ways_116 : decode cX11_ways 116 = .ok (.invokevirtual 206, 3) := by decide +kernel
theorem dX11_ways_119 : decode cX11_ways 119 = .ok (.iinc 4 1, 3) := by decide +kernel
theorem dX11_ways_122 : decode cX11_ways 122 = .ok (.aload_n 0, 1) := by decide +kernel
theorem dX11_ways_123 : decode cX11_ways 123 = .ok (.getfield 39, 3) := by decide +kernel
theorem dX11_ways_126 : decode cX11_ways 126 = .ok (.getfield 214, 3) := by decide +kernel
theorem dX11_ways_129 : decode cX11_ways 129 = .ok (.iload_n 2, 1) := by decide +kernel
theorem dX11_ways_130 : decode cX11_ways 130 = .ok (.if_icmp .lt 6, 3) := by decide +kernel
theorem dX11_ways_133 : decode cX11_ways 133 = .ok (.iinc 5 1, 3) := by decide +kernel
theorem dX11_ways_136 : decode cX11_ways 136 = .ok (.aload_n 0, 1) := by decide +kernel
theorem dX11_ways_137 : decode cX11_ways 137 = .ok (.getfield 46, 3) := by decide +kernel
theorem dX11_ways_140 : decode cX11_ways 140 = .ok (.invokevirtual 257, 3) := by decide +kernel
theorem dX11_ways_143 : decode cX11_ways 143 = .ok (.istore 6, 2) := by decide +kernel
theorem dX11_ways_145 : decode cX11_ways 145 = .ok (.goto (-62), 3) := by decide +kernel
theorem dX11_ways_148 : decode cX11_ways 148 = .ok (.aload_n 0, 1) := by decide +kernel
theorem dX11_ways_149 : decode cX11_ways 149 = .ok (.iload 5, 2) := by decide +kernel
theorem dX11_ways_151 : decode cX11_ways 151 = .ok (.i2l, 1) := by decide +kernel
theorem dX11_ways_152 : decode cX11_ways 152 = .ok (.iload 4, 2) := by decide +kernel
theorem dX11_ways_154 : decode cX11_ways 154 = .ok (.i2l, 1) := by decide +kernel
theorem dX11_ways_155 : decode cX11_ways 155 = .ok (.invokevirtual 260, 3) := by decide +kernel
theorem dX11_ways_158 : decode cX11_ways 158 = .ok (.iload 5, 2) := by decide +kernel
theorem dX11_ways_160 : decode cX11_ways 160 = .ok (.ireturn, 1) := by decide +kernel
theorem dX11_sure_0 : decode cX11_sure 0 = .ok (.aload_n 0, 1) := by decide +kernel
theorem dX11_sure_1 : decode cX11_sure 1 = .ok (.iload_n 1, 1) := by decide +kernel
theorem dX11_sure_2 : decode cX11_sure 2 = .ok (.invokevirtual 96, 3) := by decide +kernel
theorem dX11_sure_5 : decode cX11_sure 5 = .ok (.astore_n 2, 1) := by decide +kernel
theorem dX11_sure_6 : decode cX11_sure 6 = .ok (.aload_n 2, 1) := by decide +kernel
theorem dX11_sure_7 : decode cX11_sure 7 = .ok (.ifnonnull 5, 3) := by decide +kernel
theorem dX11_sure_10 : decode cX11_sure 10 = .ok (.iconst (-1), 1) := by decide +kernel
theorem dX11_sure_11 : decode cX11_sure 11 = .ok (.ireturn, 1) := by decide +kernel
theorem dX11_sure_12 : decode cX11_sure 12 = .ok (.aload_n 0, 1) := by decide +kernel
theorem dX11_sure_13 : decode cX11_sure 13 = .ok (.aload_n 2, 1) := by decide +kernel
theorem dX11_sure_14 : decode cX11_sure 14 = .ok (.iconst 0, 1) := by decide +kernel
theorem dX11_sure_15 : decode cX11_sure 15 = .ok (.invokevirtual 226, 3) := by decide +kernel
theorem dX11_sure_18 : decode cX11_sure 18 = .ok (.ifCond .eq 6, 3) := by decide +kernel
theorem dX11_sure_21 : decode cX11_sure 21 = .ok (.bipush (-3), 2) := by decide +kernel
theorem dX11_sure_23 : decode cX11_sure 23 = .ok (.ireturn, 1) := by decide +kernel
theorem dX11_sure_24 : decode cX11_sure 24 = .ok (.aload_n 0, 1) := by decide +kernel
theorem dX11_sure_25 : decode cX11_sure 25 = .ok (.getfield 60, 3) := by decide +kernel
theorem dX11_sure_28 : decode cX11_sure 28 = .ok (.aload_n 0, 1) := by decide +kernel
theorem dX11_sure_29 : decode cX11_sure 29 = .ok (.getfield 21, 3) := by decide +kernel
theorem dX11_sure_32 : decode cX11_sure 32 = .ok (.aload_n 2, 1) := by decide +kernel
theorem dX11_sure_33 : decode cX11_sure 33 = .ok (.getfield 116, 3) := by decide +kernel
theorem dX11_sure_36 : decode cX11_sure 36 = .ok (.iconst (-1), 1) := by decide +kernel
theorem dX11_sure_37 : decode cX11_sure 37 = .ok (.invokevirtual 264, 3) := by decide +kernel
theorem dX11_sure_40 : decode cX11_sure 40 = .ok (.ireturn, 1) := by decide +kernel
theorem dX11_isTooMuch_0 : decode cX11_isTooMuch 0 = .ok (.aload_n 0, 1) := by decide +kernel
theorem dX11_isTooMuch_1 : decode cX11_isTooMuch 1 = .ok (.getfield 21, 3) := by decide +kernel
theorem dX11_isTooMuch_4 : decode cX11_isTooMuch 4 = .ok (.getfield 188, 3) := by decide +kernel
theorem dX11_isTooMuch_7 : decode cX11_isTooMuch 7 = .ok (.iload_n 1, 1) := by decide +kernel
theorem dX11_isTooMuch_8 : decode cX11_isTooMuch 8 = .ok (.iaload, 1) := by decide +kernel
theorem dX11_isTooMuch_9 : decode cX11_isTooMuch 9 = .ok (.bipush 10, 2) := by decide +kernel
theorem dX11_isTooMuch_11 : decode cX11_isTooMuch 11 = .ok (.if_icmp .gt 14, 3) := by decide +kernel
theorem dX11_isTooMuch_14 : decode cX11_isTooMuch 14 = .ok (.aload_n 0, 1) := by decide +kernel
theorem dX11_isTooMuch_15 : decode cX11_isTooMuch 15 = .ok (.getfield 21, 3) := by decide +kernel
theorem dX11_isTooMuch_18 : decode cX11_isTooMuch 18 = .ok (.getfield 158, 3) := by decide +kernel
theorem dX11_isTooMuch_21 : decode cX11_isTooMuch 21 = .ok (.iconst 4, 1) := by decide +kernel
theorem dX11_isTooMuch_22 : decode cX11_isTooMuch 22 = .ok (.if_icmp .le 7, 3) := by decide +kernel
theorem dX11_isTooMuch_25 : decode cX11_isTooMuch 25 = .ok (.iconst 1, 1) := by decide +kernel
theorem dX11_isTooMuch_26 : decode cX11_isTooMuch 26 = .ok (.goto 4, 3) := by decide +kernel
theorem dX11_isTooMuch_29 : decode cX11_isTooMuch 29 = .ok (.iconst 0, 1) := by decide +kernel
theorem dX11_isTooMuch_30 : decode cX11_isTooMuch 30 = .ok (.ireturn, 1) := by decide +kernel
theorem dX11_safe_0 : decode cX11_safe 0 = .ok (.aload_n 0, 1) := by decide +kernel
theorem dX11_safe_1 : decode cX11_safe 1 = .ok (.iload_n 1, 1) := by decide +kernel
theorem dX11_safe_2 : decode cX11_safe 2 = .ok (.invokevirtual 96, 3) := by decide +kernel
theorem dX11_safe_5 : decode cX11_safe 5 = .ok (.astore_n 2, 1) := by decide +kernel
theorem dX11_safe_6 : decode cX11_safe 6 = .ok (.aload_n 2, 1) := by decide +kernel
theorem dX11_safe_7 : decode cX11_safe 7 = .ok (.ifnonnull 5, 3) := by decide +kernel
theorem dX11_safe_10 : decode cX11_safe 10 = .ok (.iconst (-1), 1) := by decide +kernel
theorem dX11_safe_11 : decode cX11_safe 11 = .ok (.ireturn, 1) := by decide +kernel
theorem dX11_safe_12 : decode cX11_safe 12 = .ok (.aload_n 0, 1) := by decide +kernel
theorem dX11_safe_13 : decode cX11_safe 13 = .ok (.iconst 0, 1) := by decide +kernel
theorem dX11_safe_14 : decode cX11_safe 14 = .ok (.invokevirtual 268, 3) := by decide +kernel
theorem dX11_safe_17 : decode cX11_safe 17 = .ok (.ifCond .eq 6, 3) := by decide +kernel
theorem dX11_safe_20 : decode cX11_safe 20 = .ok (.bipush (-6), 2) := by decide +kernel
theorem dX11_safe_22 : decode cX11_safe 22 = .ok (.ireturn, 1) := by decide +kernel
theorem dX11_safe_23 : decode cX11_safe 23 = .ok (.aload_n 0, 1) := by decide +kernel
theorem dX11_safe_24 : decode cX11_safe 24 = .ok (.getfield 46, 3) := by decide +kernel
theorem dX11_safe_27 : decode cX11_safe 27 = .ok (.aload_n 0, 1) := by decide +kernel
theorem dX11_safe_28 : decode cX11_safe 28 = .ok (.getfield 21, 3) := by decide +kernel
theorem dX11_safe_31 : decode cX11_safe 31 = .ok (.getfield 158, 3) := by decide +kernel
theorem dX11_safe_34 : decode cX11_safe 34 = .ok (.aload_n 0, 1) := by decide +kernel
theorem dX11_safe_35 : decode cX11_safe 35 = .ok (.getfield 21, 3) := by decide +kernel
theorem dX11_safe_38 : decode cX11_safe 38 = .ok (.getfield 188, 3) := by decide +kernel
theorem dX11_safe_41 : decode cX11_safe 41 = .ok (.iconst 0, 1) := by decide +kernel
theorem dX11_safe_42 : decode cX11_safe 42 = .ok (.iaload, 1) := by decide +kernel
theorem dX11_safe_43 : decode cX11_safe 43 = .ok (.invokevirtual 250, 3) := by decide +kernel
theorem dX11_safe_46 : decode cX11_safe 46 = .ok (.iconst (-1), 1) := by decide +kernel
theorem dX11_safe_47 : decode cX11_safe 47 = .ok (.istore_n 3, 1) := by decide +kernel
theorem dX11_safe_48 : decode cX11_safe 48 = .ok (.iconst 0, 1) := by decide +kernel
theorem dX11_safe_49 : decode cX11_safe 49 = .ok (.istore 4, 2) := by decide +kernel
theorem dX11_safe_51 : decode cX11_safe 51 = .ok (.iconst 0, 1) := by decide +kernel
theorem dX11_safe_52 : decode cX11_safe 52 = .ok (.istore 5, 2) := by decide +kernel
theorem dX11_safe_54 : decode cX11_safe 54 = .ok (.iload 4, 2) := by decide +kernel
theorem dX11_safe_56 : decode cX11_safe 56 = .ok (.ifCond .lt 73, 3) := by decide +kernel
theorem dX11_safe_59 : decode cX11_safe 59 = .ok (.iload 5, 2) := by decide +kernel
theorem dX11_safe_61 : decode cX11_safe 61 = .ok (.ldc 253, 2) := by decide +kernel
theorem dX11_safe_63 : decode cX11_safe 63 = .ok (.if_icmp .ge 66, 3) := by decide +kernel
theorem dX11_safe_66 : decode cX11_safe 66 = .ok (.aload_n 0, 1) := by decide +kernel
theorem dX11_safe_67 : decode cX11_safe 67 = .ok (.getfield 60, 3) := by decide +kernel
theorem dX11_safe_70 : decode cX11_safe 70 = .ok (.aload_n 0, 1) := by decide +kernel
theorem dX11_safe_71 : decode cX11_safe 71 = .ok (.getfield 21, 3) := by decide +kernel
theorem dX11_safe_74 : decode cX11_safe 74 = .ok (.aload_n 0, 1) := by decide +kernel
theorem dX11_safe_75 : decode cX11_safe 75 = .ok (.getfield 46, 3) := by decide +kernel
theorem dX11_safe_78 : decode cX11_safe 78 = .ok (.getfield 254, 3) := by decide +kernel
theorem dX11_safe_81 : decode cX11_safe 81 = .ok (.iload_n 3, 1) := by decide +kernel
theorem dX11_safe_82 : decode cX11_safe 82 = .ok (.invokevirtual 264, 3) := by decide +kernel
theorem dX11_safe_85 : decode cX11_safe 85 = .ok (.istore 6, 2) := by decide +kernel
theorem dX11_safe_87 : decode cX11_safe 87 = .ok (.iload 6, 2) := by decide +kernel
theorem dX11_safe_89 : decode cX11_safe 89 = .ok (.iload_n 3, 1) := by decide +kernel
theorem dX11_safe_90 : decode cX11_safe 90 = .ok (.if_icmp .le 24, 3) := by decide +kernel
theorem dX11_safe_93 : decode cX11_safe 93 = .ok (.iload 6, 2) := by decide +kernel
theorem dX11_safe_95 : decode cX11_safe 95 = .ok (.istore_n 3, 1) := by decide +kernel
theorem dX11_safe_96 : decode cX11_safe 96 = .ok (.aload_n 2, 1) := by decide +kernel
theorem dX11_safe_97 : decode cX11_safe 97 = .ok (.aload_n 0, 1) := by decide +kernel
theorem dX11_safe_98 : decode cX11_safe 98 = .ok (.getfield 46, 3) := by decide +kernel
theorem dX11_safe_101 : decode cX11_safe 101 = .ok (.getfield 254, 3) := by decide +kernel
theorem dX11_safe_104 : decode cX11_safe 104 = .ok (.aload_n 0, 1) := by decide +kernel
theorem dX11_safe_105 : decode cX11_safe 105 = .ok (.getfield 21, 3) := by decide +kernel
theorem dX11_safe_108 : decode cX11_safe 108 = .ok (.getfield 158, 3) := by decide +kernel
theorem dX11_safe_111 : decode cX11_safe 111 = .ok (.invokevirtual 236, 3) := by decide +kernel
theorem dX11_safe_114 : decode cX11_safe 114 = .ok (.aload_n 0, 1) := by decide +kernel
theorem dX11_safe_115 : decode cX11_safe 115 = .ok (.getfield 46, 3) := by decide +kernel
theorem dX11_safe_118 : decode cX11_safe 118 = .ok (.invokevirtual 257, 3) := by decide +kernel
theorem dX11_safe_121 : decode cX11_safe 121 = .ok (.istore 4, 2) := by decide +kernel
theorem dX11_safe_123 : decode cX11_safe 123 = .ok (.iinc 5 1, 3) := by decide +kernel
theorem dX11_safe_126 : decode cX11_safe 126 = .ok (.goto (-72), 3) := by decide +kernel
theorem dX11_safe_129 : decode cX11_safe 129 = .ok (.iload_n 3, 1) := by decide +kernel
theorem dX11_safe_130 : decode cX11_safe 130 = .ok (.ireturn, 1) := by decide +kernel
theorem dX11_mixed_0 : decode cX11_mixed 0 = .ok (.aload_n 0, 1) := by decide +kernel
theorem dX11_mixed_1 : decode cX11_mixed 1 = .ok (.iload_n 1, 1) := by decide +kernel
theorem dX11_mixed_2 : decode cX11_mixed 2 = .ok (.invokevirtual 96, 3) := by decide +kernel
theorem dX11_mixed_5 : decode cX11_mixed 5 = .ok (.astore 5, 2) := by decide +kernel
theorem dX11_mixed_7 : decode cX11_mixed 7 = .ok (.aload_n 0, 1) := by decide +kernel
theorem dX11_mixed_8 : decode cX11_mixed 8 = .ok (.iload_n 2, 1) := by decide +kernel
theorem dX11_mixed_9 : decode cX11_mixed 9 = .ok (.invokevirtual 96, 3) := by decide +kernel
theorem dX11_mixed_12 : decode cX11_mixed 12 = .ok (.astore 6, 2) := by decide +kernel
theorem dX11_mixed_14 : decode cX11_mixed 14 = .ok (.aload 5, 2) := by decide +kernel
theorem dX11_mixed_16 : decode cX11_mixed 16 = .ok (.ifnull 31, 3) := by decide +kernel
theorem dX11_mixed_19 : decode cX11_mixed 19 = .ok (.aload 6, 2) := by decide +kernel
theorem dX11_mixed_21 : decode cX11_mixed 21 = .ok (.ifnull 26, 3) := by decide +kernel
theorem dX11_mixed_24 : decode cX11_mixed 24 = .ok (.iload 4, 2) := by decide +kernel
theorem dX11_mixed_26 : decode cX11_mixed 26 = .ok (.iconst 1, 1) := by decide +kernel
theorem dX11_mixed_27 : decode cX11_mixed 27 = .ok (.if_icmp .lt 20, 3) := by decide +kernel
theorem dX11_mixed_30 : decode cX11_mixed 30 = .ok (.iload 4, 2) := by decide +kernel
theorem dX11_mixed_32 : decode cX11_mixed 32 = .ok (.bipush 99, 2) := by decide +kernel
theorem dX11_mixed_34 : decode cX11_mixed 34 = .ok (.if_icmp .gt 13, 3) := by decide +kernel
theorem dX11_mixed_37 : decode cX11_mixed 37 = .ok (.iload_n 3, 1) := by decide +kernel
theorem dX11_mixed_38 : decode cX11_mixed 38 = .ok (.ifCond .lt 9, 3) := by decide +kernel
theorem dX11_mixed_41 : decode cX11_mixed 41 = .ok (.iload_n 3, 1) := by decide +kernel
theorem dX11_mixed_42 : decode cX11_mixed 42 = .ok (.iload 4, 2) := by decide +kernel
theorem dX11_mixed_44 : decode cX11_mixed 44 = .ok (.if_icmp .le 5, 3) := by decide +kernel
theorem dX11_mixed_47 : decode cX11_mixed 47 = .ok (.iconst (-1), 1) := by decide +kernel
theorem dX11_mixed_48 : decode cX11_mixed 48 = .ok (.ireturn, 1) := by decide +kernel
theorem dX11_mixed_49 : decode cX11_mixed 49 = .ok (.aload_n 0, 1) := by decide +kernel
theorem dX11_mixed_50 : decode cX11_mixed 50 = .ok (.iconst 1, 1) := by decide +kernel
theorem dX11_mixed_51 : decode cX11_mixed 51 = .ok (.invokevirtual 268, 3) := by decide +kernel
theorem dX11_mixed_54 : decode cX11_mixed 54 = .ok (.ifCond .eq 6, 3) := by decide +kernel
theorem dX11_mixed_57 : decode cX11_mixed 57 = .ok (.bipush (-6), 2) := by decide +kernel
theorem dX11_mixed_59 : decode cX11_mixed 59 = .ok (.ireturn, 1) := by decide +kernel
theorem dX11_mixed_60 : decode cX11_mixed 60 = .ok (.aload_n 0, 1) := by decide +kernel
theorem dX11_mixed_61 : decode cX11_mixed 61 = .ok (.aload 5, 2) := by decide +kernel
theorem dX11_mixed_63 : decode cX11_mixed 63 = .ok (.iconst 0, 1) := by decide +kernel
theorem dX11_mixed_64 : decode cX11_mixed 64 = .ok (.aload 6, 2) := by decide +kernel
theorem dX11_mixed_66 : decode cX11_mixed 66 = .ok (.iconst 0, 1) := by decide +kernel
theorem dX11_mixed_67 : decode cX11_mixed 67 = .ok (.invokevirtual 202, 3) := by decide +kernel
theorem dX11_mixed_70 : decode cX11_mixed 70 = .ok (.ifCond .eq 6, 3) := by decide +kernel
theorem dX11_mixed_73 : decode cX11_mixed 73 = .ok (.bipush (-3), 2) := by decide +kernel
theorem dX11_mixed_75 : decode cX11_mixed 75 = .ok (.ireturn, 1) := by decide +kernel
theorem dX11_mixed_76 : decode cX11_mixed 76 = .ok (.aload_n 0, 1) := by decide +kernel
theorem dX11_mixed_77 : decode cX11_mixed 77 = .ok (.getfield 67, 3) := by decide +kernel
theorem dX11_mixed_80 : decode cX11_mixed 80 = .ok (.aload_n 0, 1) := by decide +kernel
theorem dX11_mixed_81 : decode cX11_mixed 81 = .ok (.getfield 21, 3) := by decide +kernel
theorem dX11_mixed_84 : decode cX11_mixed 84 = .ok (.aload_n 0, 1) := by decide +kernel
theorem dX11_mixed_85 : decode cX11_mixed 85 = .ok (.getfield 46, 3) := by decide +kernel
theorem dX11_mixed_88 : decode cX11_mixed 88 = .ok (.aload 5, 2) := by decide +kernel
theorem dX11_mixed_90 : decode cX11_mixed 90 = .ok (.getfield 116, 3) := by decide +kernel
theorem dX11_mixed_93 : decode cX11_mixed 93 = .ok (.aload 6, 2) := by decide +kernel
theorem dX11_mixed_95 : decode cX11_mixed 95 = .ok (.getfield 116, 3) := by decide +kernel
theorem dX11_mixed_98 : decode cX11_mixed 98 = .ok (.invokevirtual 271, 3) := by decide +kernel
theorem dX11_mixed_101 : decode cX11_mixed 101 = .ok (.aload_n 0, 1) := by decide +kernel
theorem dX11_mixed_102 : decode cX11_mixed 102 = .ok (.aload_n 0, 1) := by decide +kernel
theorem dX11_mixed_103 : decode cX11_mixed 103 = .ok (.getfield 67, 3) := by decide +kernel
theorem dX11_mixed_106 : decode cX11_mixed 106 = .ok (.iload_n 3, 1) := by decide +kernel
theorem dX11_mixed_107 : decode cX11_mixed 107 = .ok (.iload 4, 2) := by decide +kernel
theorem dX11_mixed_109 : decode cX11_mixed 109 = .ok (.invokevirtual 275, 3) := by decide +kernel
theorem dX11_mixed_112 : decode cX11_mixed 112 = .ok (.i2l, 1) := by decide +kernel
theorem dX11_mixed_113 : decode cX11_mixed 113 = .ok (.iload 4, 2) := by decide +kernel
theorem dX11_mixed_115 : decode cX11_mixed 115 = .ok (.i2l, 1) := by decide +kernel
theorem dX11_mixed_116 : decode cX11_mixed 116 = .ok (.invokevirtual 260, 3) := by decide +kernel
theorem dX11_mixed_119 : decode cX11_mixed 119 = .ok (.iconst 1, 1) := by decide +kernel
theorem dX11_mixed_120 : decode cX11_mixed 120 = .ok (.ireturn, 1) := by decide +kernel
theorem dX11_mix_0 : decode cX11_mix 0 = .ok (.aload_n 0, 1) := by decide +kernel
theorem dX11_mix_1 : decode cX11_mix 1 = .ok (.iload_n 1, 1) := by decide +kernel
theorem dX11_mix_2 : decode cX11_mix 2 = .ok (.invokevirtual 96, 3) := by decide +kernel
theorem dX11_mix_5 : decode cX11_mix 5 = .ok (.astore_n 3, 1) := by decide +kernel
theorem dX11_mix_6 : decode cX11_mix 6 = .ok (.aload_n 0, 1) := by decide +kernel
theorem dX11_mix_7 : decode cX11_mix 7 = .ok (.iload_n 2, 1) := by decide +kernel
theorem dX11_mix_8 : decode cX11_mix 8 = .ok (.invokevirtual 96, 3) := by decide +kernel
theorem dX11_mix_11 : decode cX11_mix 11 = .ok (.astore 4, 2) := by decide +kernel
theorem dX11_mix_13 : decode cX11_mix 13 = .ok (.aload_n 3, 1) := by decide +kernel
theorem dX11_mix_14 : decode cX11_mix 14 = .ok (.ifnull 8, 3) := by decide +kernel
theorem dX11_mix_17 : decode cX11_mix 17 = .ok (.aload 4, 2) := by decide +kernel
theorem dX11_mix_19 : decode cX11_mix 19 = .ok (.ifnonnull 5, 3) := by decide +kernel
theorem dX11_mix_22 : decode cX11_mix 22 = .ok (.iconst (-1), 1) := by decide +kernel
theorem dX11_mix_23 : decode cX11_mix 23 = .ok (.ireturn, 1) := by decide +kernel
theorem dX11_mix_24 : decode cX11_mix 24 = .ok (.aload_n 0, 1) := by decide +kernel
theorem dX11_mix_25 : decode cX11_mix 25 = .ok (.iconst 1, 1) := by decide +kernel
theorem dX11_mix_26 : decode cX11_mix 26 = .ok (.invokevirtual 268, 3) := by decide +kernel
theorem dX11_mix_29 : decode cX11_mix 29 = .ok (.ifCond .eq 6, 3) := by decide +kernel
theorem dX11_mix_32 : decode cX11_mix 32 = .ok (.bipush (-6), 2) := by decide +kernel
theorem dX11_mix_34 : decode cX11_mix 34 = .ok (.ireturn, 1) := by decide +kernel
theorem dX11_mix_35 : decode cX11_mix 35 = .ok (.aload_n 0, 1) := by decide +kernel
theorem dX11_mix_36 : decode cX11_mix 36 = .ok (.aload_n 3, 1) := by decide +kernel
theorem dX11_mix_37 : decode cX11_mix 37 = .ok (.iconst 0, 1) := by decide +kernel
theorem dX11_mix_38 : decode cX11_mix 38 = .ok (.aload 4, 2) := by decide +kernel
theorem dX11_mix_40 : decode cX11_mix 40 = .ok (.iconst 0, 1) := by decide +kernel
theorem dX11_mix_41 : decode cX11_mix 41 = .ok (.invokevirtual 202, 3) := by decide +kernel
theorem dX11_mix_44 : decode cX11_mix 44 = .ok (.ifCond .eq 6, 3) := by decide +kernel
theorem dX11_mix_47 : decode cX11_mix 47 = .ok (.bipush (-3), 2) := by decide +kernel
theorem dX11_mix_49 : decode cX11_mix 49 = .ok (.ireturn, 1) := by decide +kernel
theorem dX11_mix_50 : decode cX11_mix 50 = .ok (.aload_n 0, 1) := by decide +kernel
theorem dX11_mix_51 : decode cX11_mix 51 = .ok (.getfield 67, 3) := by decide +kernel
theorem dX11_mix_54 : decode cX11_mix 54 = .ok (.aload_n 0, 1) := by decide +kernel
theorem dX11_mix_55 : decode cX11_mix 55 = .ok (.getfield 21, 3) := by decide +kernel
theorem dX11_mix_58 : decode cX11_mix 58 = .ok (.aload_n 0, 1) := by decide +kernel
theorem dX11_mix_59 : decode cX11_mix 59 = .ok (.getfield 46, 3) := by decide +kernel
theorem dX11_mix_62 : decode cX11_mix 62 = .ok (.aload_n 3, 1) := by decide +kernel
theorem dX11_mix_63 : decode cX11_mix 63 = .ok (.getfield 116, 3) := by decide +kernel
theorem dX11_mix_66 : decode cX11_mix 66 = .ok (.aload 4, 2) := by decide +kernel
theorem dX11_mix_68 : decode cX11_mix 68 = .ok (.getfield 116, 3) := by decide +kernel
theorem dX11_mix_71 : decode cX11_mix 71 = .ok (.invokevirtual 271, 3) := by decide +kernel
theorem dX11_mix_74 : decode cX11_mix 74 = .ok (.aload_n 0, 1) := by decide +kernel
theorem dX11_mix_75 : decode cX11_mix 75 = .ok (.getfield 67, 3) := by decide +kernel
theorem dX11_mix_78 : decode cX11_mix 78 = .ok (.invokevirtual 278, 3) := by decide +kernel
theorem dX11_mix_81 : decode cX11_mix 81 = .ok (.istore 5, 2) := by decide +kernel
theorem dX11_mix_83 : decode cX11_mix 83 = .ok (.aload_n 0, 1) := by decide +kernel
theorem dX11_mix_84 : decode cX11_mix 84 = .ok (.aload_n 0, 1) := by decide +kernel
theorem dX11_mix_85 : decode cX11_mix 85 = .ok (.getfield 67, 3) := by decide +kernel
theorem dX11_mix_88 : decode cX11_mix 88 = .ok (.iload 5, 2) := by decide +kernel
theorem dX11_mix_90 : decode cX11_mix 90 = .ok (.bipush 12, 2) := by decide +kernel
theorem dX11_mix_92 : decode cX11_mix 92 = .ok (.invokevirtual 275, 3) := by decide +kernel
theorem dX11_mix_95 : decode cX11_mix 95 = .ok (.i2l, 1) := by decide +kernel
theorem dX11_mix_96 : decode cX11_mix 96 = .ok (.ldc2_w 281, 3) := by decide +kernel
theorem dX11_mix_99 : decode cX11_mix 99 = .ok (.invokevirtual 260, 3) := by decide +kernel
theorem dX11_mix_102 : decode cX11_mix 102 = .ok (.iload 5, 2) := by decide +kernel
theorem dX11_mix_104 : decode cX11_mix 104 = .ok (.ireturn, 1) := by decide +kernel
theorem dX11_turns_0 : decode cX11_turns 0 = .ok (.aload_n 0, 1) := by decide +kernel
theorem dX11_turns_1 : decode cX11_turns 1 = .ok (.getfield 21, 3) := by decide +kernel
theorem dX11_turns_4 : decode cX11_turns 4 = .ok (.getfield 188, 3) := by decide +kernel
theorem dX11_turns_7 : decode cX11_turns 7 = .ok (.iconst 0, 1) := by decide +kernel
theorem dX11_turns_8 : decode cX11_turns 8 = .ok (.iaload, 1) := by decide +kernel
theorem dX11_turns_9 : decode cX11_turns 9 = .ok (.istore_n 1, 1) := by decide +kernel
theorem dX11_turns_10 : decode cX11_turns 10 = .ok (.aload_n 0, 1) := by decide +kernel
theorem dX11_turns_11 : decode cX11_turns 11 = .ok (.getfield 21, 3) := by decide +kernel
theorem dX11_turns_14 : decode cX11_turns 14 = .ok (.getfield 188, 3) := by decide +kernel
theorem dX11_turns_17 : decode cX11_turns 17 = .ok (.iconst 1, 1) := by decide +kernel
theorem dX11_turns_18 : decode cX11_turns 18 = .ok (.iaload, 1) := by decide +kernel
theorem dX11_turns_19 : decode cX11_turns 19 = .ok (.istore_n 2, 1) := by decide +kernel
theorem dX11_turns_20 : decode cX11_turns 20 = .ok (.iload_n 1, 1) := by decide +kernel
theorem dX11_turns_21 : decode cX11_turns 21 = .ok (.bipush 15, 2) := by decide +kernel
theorem dX11_turns_23 : decode cX11_turns 23 = .ok (.if_icmp .gt 9, 3) := by decide +kernel
theorem dX11_turns_26 : decode cX11_turns 26 = .ok (.iload_n 2, 1) := by decide +kernel
theorem dX11_turns_27 : decode cX11_turns 27 = .ok (.bipush 15, 2) := by decide +kernel
theorem dX11_turns_29 : decode cX11_turns 29 = .ok (.if_icmp .le 6, 3) := by decide +kernel
theorem dX11_turns_32 : decode cX11_turns 32 = .ok (.bipush (-6), 2) := by decide +kernel
theorem dX11_turns_34 : decode cX11_turns 34 = .ok (.ireturn, 1) := by decide +kernel
theorem dX11_turns_35 : decode cX11_turns 35 = .ok (.aload_n 0, 1) := by decide +kernel
theorem dX11_turns_36 : decode cX11_turns 36 = .ok (.getfield 21, 3) := by decide +kernel
theorem dX11_turns_39 : decode cX11_turns 39 = .ok (.getfield 158, 3) := by decide +kernel
theorem dX11_turns_42 : decode cX11_turns 42 = .ok (.ifCond .ne 6, 3) := by decide +kernel
theorem dX11_turns_45 : decode cX11_turns 45 = .ok (.bipush (-9), 2) := by decide +kernel
theorem dX11_turns_47 : decode cX11_turns 47 = .ok (.ireturn, 1) := by decide +kernel
theorem dX11_turns_48 : decode cX11_turns 48 = .ok (.aload_n 0, 1) := by decide +kernel
theorem dX11_turns_49 : decode cX11_turns 49 = .ok (.aload_n 0, 1) := by decide +kernel
theorem dX11_turns_50 : decode cX11_turns 50 = .ok (.getfield 74, 3) := by decide +kernel
theorem dX11_turns_53 : decode cX11_turns 53 = .ok (.aload_n 0, 1) := by decide +kernel
theorem dX11_turns_54 : decode cX11_turns 54 = .ok (.getfield 21, 3) := by decide +kernel
theorem dX11_turns_57 : decode cX11_turns 57 = .ok (.iconst 0, 1) := by decide +kernel
theorem dX11_turns_58 : decode cX11_turns 58 = .ok (.iload_n 1, 1) := by decide +kernel
theorem dX11_turns_59 : decode cX11_turns 59 = .ok (.iload_n 2, 1) := by decide +kernel
theorem dX11_turns_60 : decode cX11_turns 60 = .ok (.invokevirtual 283, 3) := by decide +kernel
theorem dX11_turns_63 : decode cX11_turns 63 = .ok (.putfield 217, 3) := by decide +kernel
theorem dX11_turns_66 : decode cX11_turns 66 = .ok (.aload_n 0, 1) := by decide +kernel
theorem dX11_turns_67 : decode cX11_turns 67 = .ok (.getfield 74, 3) := by decide +kernel
theorem dX11_turns_70 : decode cX11_turns 70 = .ok (.aload_n 0, 1) := by decide +kernel
theorem dX11_turns_71 : decode cX11_turns 71 = .ok (.getfield 21, 3) := by decide +kernel
theorem dX11_turns_74 : decode cX11_turns 74 = .ok (.iload_n 1, 1) := by decide +kernel
theorem dX11_turns_75 : decode cX11_turns 75 = .ok (.iload_n 2, 1) := by decide +kernel
theorem dX11_turns_76 : decode cX11_turns 76 = .ok (.invokevirtual 287, 3) := by decide +kernel
theorem dX11_turns_79 : decode cX11_turns 79 = .ok (.ireturn, 1) := by decide +kernel
theorem dX11_isInTurn_0 : decode cX11_isInTurn 0 = .ok (.iload_n 0, 1) := by decide +kernel
theorem dX11_isInTurn_1 : decode cX11_isInTurn 1 = .ok (.ifCond .lt 13, 3) := by decide +kernel
theorem dX11_isInTurn_4 : decode cX11_isInTurn 4 = .ok (.iload_n 0, 1) := by decide +kernel
theorem dX11_isInTurn_5 : decode cX11_isInTurn 5 = .ok (.bipush 15, 2) := by decide +kernel
theorem dX11_isInTurn_7 : decode cX11_isInTurn 7 = .ok (.if_icmp .gt 7, 3) := by decide +kernel
theorem dX11_isInTurn_10 : decode cX11_isInTurn 10 = .ok (.iconst 1, 1) := by decide +kernel
theorem dX11_isInTurn_11 : decode cX11_isInTurn 11 = .ok (.goto 4, 3) := by decide +kernel
theorem dX11_isInTurn_14 : decode cX11_isInTurn 14 = .ok (.iconst 0, 1) := by decide +kernel
theorem dX11_isInTurn_15 : decode cX11_isInTurn 15 = .ok (.ireturn, 1) := by decide +kernel
theorem dX11_from_0 : decode cX11_from 0 = .ok (.iload_n 1, 1) := by decide +kernel
theorem dX11_from_1 : decode cX11_from 1 = .ok (.ifCond .lt 28, 3) := by decide +kernel
theorem dX11_from_4 : decode cX11_from 4 = .ok (.iload_n 1, 1) := by decide +kernel
theorem dX11_from_5 : decode cX11_from 5 = .ok (.aload_n 0, 1) := by decide +kernel
theorem dX11_from_6 : decode cX11_from 6 = .ok (.getfield 21, 3) := by decide +kernel
theorem dX11_from_9 : decode cX11_from 9 = .ok (.getfield 158, 3) := by decide +kernel
theorem dX11_from_12 : decode cX11_from 12 = .ok (.if_icmp .gt 17, 3) := by decide +kernel
theorem dX11_from_15 : decode cX11_from 15 = .ok (.iload_n 2, 1) := by decide +kernel
theorem dX11_from_16 : decode cX11_from 16 = .ok (.invokestatic 291, 3) := by decide +kernel
theorem dX11_from_19 : decode cX11_from 19 = .ok (.ifCond .eq 10, 3) := by decide +kernel
theorem dX11_from_22 : decode cX11_from 22 = .ok (.iload_n 3, 1) := by decide +kernel
theorem dX11_from_23 : decode cX11_from 23 = .ok (.invokestatic 291, 3) := by decide +kernel
theorem dX11_from_26 : decode cX11_from 26 = .ok (.ifCond .ne 5, 3) := by decide +kernel
theorem dX11_from_29 : decode cX11_from 29 = .ok (.iconst (-1), 1) := by decide +kernel
theorem dX11_from_30 : decode cX11_from 30 = .ok (.ireturn, 1) := by decide +kernel
theorem dX11_from_31 : decode cX11_from 31 = .ok (.aload_n 0, 1) := by decide +kernel
theorem dX11_from_32 : decode cX11_from 32 = .ok (.aload_n 0, 1) := by decide +kernel
theorem dX11_from_33 : decode cX11_from 33 = .ok (.getfield 74, 3) := by decide +kernel
theorem dX11_from_36 : decode cX11_from 36 = .ok (.aload_n 0, 1) := by decide +kernel
theorem dX11_from_37 : decode cX11_from 37 = .ok (.getfield 21, 3) := by decide +kernel
theorem dX11_from_40 : decode cX11_from 40 = .ok (.iload_n 1, 1) := by decide +kernel
theorem dX11_from_41 : decode cX11_from 41 = .ok (.iload_n 2, 1) := by decide +kernel
theorem dX11_from_42 : decode cX11_from 42 = .ok (.iload_n 3, 1) := by decide +kernel
theorem dX11_from_43 : decode cX11_from 43 = .ok (.invokevirtual 283, 3) := by decide +kernel
theorem dX11_from_46 : decode cX11_from 46 = .ok (.invokevirtual 119, 3) := by decide +kernel
theorem dX11_from_49 : decode cX11_from 49 = .ok (.ireturn, 1) := by decide +kernel
theorem dX11_answer_0 : decode cX11_answer 0 = .ok (.aload_n 0, 1) := by decide +kernel
theorem dX11_answer_1 : decode cX11_answer 1 = .ok (.getfield 21, 3) := by decide +kernel
theorem dX11_answer_4 : decode cX11_answer 4 = .ok (.iload_n 1, 1) := by decide +kernel
theorem dX11_answer_5 : decode cX11_answer 5 = .ok (.invokevirtual 159, 3) := by decide +kernel
theorem dX11_answer_8 : decode cX11_answer 8 = .ok (.ifnull 28, 3) := by decide +kernel
theorem dX11_answer_11 : decode cX11_answer 11 = .ok (.iload_n 2, 1) := by decide +kernel
theorem dX11_answer_12 : decode cX11_answer 12 = .ok (.invokestatic 291, 3) := by decide +kernel
theorem dX11_answer_15 : decode cX11_answer 15 = .ok (.ifCond .eq 21, 3) := by decide +kernel
theorem dX11_answer_18 : decode cX11_answer 18 = .ok (.iload_n 3, 1) := by decide +kernel
theorem dX11_answer_19 : decode cX11_answer 19 = .ok (.invokestatic 291, 3) := by decide +kernel
theorem dX11_answer_22 : decode cX11_answer 22 = .ok (.ifCond .eq 14, 3) := by decide +kernel
theorem dX11_answer_25 : decode cX11_answer 25 = .ok (.iload 4, 2) := by decide +kernel
theorem dX11_answer_27 : decode cX11_answer 27 = .ok (.ifCond .lt 9, 3) := by decide +kernel
theorem dX11_answer_30 : decode cX11_answer 30 = .ok (.iload 4, 2) := by decide +kernel
theorem dX11_answer_32 : decode cX11_answer 32 = .ok (.iload_n 2, 1) := by decide +kernel
theorem dX11_answer_33 : decode cX11_answer 33 = .ok (.if_icmp .le 5, 3) := by decide +kernel
theorem dX11_answer_36 : decode cX11_answer 36 = .ok (.iconst (-1), 1) := by decide +kernel
theorem dX11_answer_37 : decode cX11_answer 37 = .ok (.ireturn, 1) := by decide +kernel
theorem dX11_answer_38 : decode cX11_answer 38 = .ok (.aload_n 0, 1) := by decide +kernel
theorem dX11_answer_39 : decode cX11_answer 39 = .ok (.getfield 74, 3) := by decide +kernel
theorem dX11_answer_42 : decode cX11_answer 42 = .ok (.aload_n 0, 1) := by decide +kernel
theorem dX11_answer_43 : decode cX11_answer 43 = .ok (.getfield 21, 3) := by decide +kernel
theorem dX11_answer_46 : decode cX11_answer 46 = .ok (.iload_n 1, 1) := by decide +kernel
theorem dX11_answer_47 : decode cX11_answer 47 = .ok (.iload_n 2, 1) := by decide +kernel
theorem dX11_answer_48 : decode cX11_answer 48 = .ok (.iload_n 3, 1) := by decide +kernel
theorem dX11_answer_49 : decode cX11_answer 49 = .ok (.iload 4, 2) := by decide +kernel
theorem dX11_answer_51 : decode cX11_answer 51 = .ok (.invokevirtual 294, 3) := by decide +kernel
theorem dX11_answer_54 : decode cX11_answer 54 = .ok (.ireturn, 1) := by decide +kernel
theorem dX11_lender_0 : decode cX11_lender 0 = .ok (.iload_n 1, 1) := by decide +kernel
theorem dX11_lender_1 : decode cX11_lender 1 = .ok (.ifCond .lt 18, 3) := by decide +kernel
theorem dX11_lender_4 : decode cX11_lender 4 = .ok (.iload_n 1, 1) := by decide +kernel
theorem dX11_lender_5 : decode cX11_lender 5 = .ok (.iconst 4, 1) := by decide +kernel
theorem dX11_lender_6 : decode cX11_lender 6 = .ok (.if_icmp .ge 13, 3) := by decide +kernel
theorem dX11_lender_9 : decode cX11_lender 9 = .ok (.iload_n 2, 1) := by decide +kernel
theorem dX11_lender_10 : decode cX11_lender 10 = .ok (.ifCond .lt 9, 3) := by decide +kernel
theorem dX11_lender_13 : decode cX11_lender 13 = .ok (.iload_n 2, 1) := by decide +kernel
theorem dX11_lender_14 : decode cX11_lender 14 = .ok (.bipush 20, 2) := by decide +kernel
theorem dX11_lender_16 : decode cX11_lender 16 = .ok (.if_icmp .le 5, 3) := by decide +kernel
theorem dX11_lender_19 : decode cX11_lender 19 = .ok (.iconst (-1), 1) := by decide +kernel
theorem dX11_lender_20 : decode cX11_lender 20 = .ok (.ireturn, 1) := by decide +kernel
theorem dX11_lender_21 : decode cX11_lender 21 = .ok (.aload_n 0, 1) := by decide +kernel
theorem dX11_lender_22 : decode cX11_lender 22 = .ok (.getfield 21, 3) := by decide +kernel
theorem dX11_lender_25 : decode cX11_lender 25 = .ok (.getfield 298, 3) := by decide +kernel
theorem dX11_lender_28 : decode cX11_lender 28 = .ok (.iload_n 1, 1) := by decide +kernel
theorem dX11_lender_29 : decode cX11_lender 29 = .ok (.iaload, 1) := by decide +kernel
theorem dX11_lender_30 : decode cX11_lender 30 = .ok (.istore_n 3, 1) := by decide +kernel
theorem dX11_lender_31 : decode cX11_lender 31 = .ok (.aload_n 0, 1) := by decide +kernel
theorem dX11_lender_32 : decode cX11_lender 32 = .ok (.getfield 21, 3) := by decide +kernel
theorem dX11_lender_35 : decode cX11_lender 35 = .ok (.getfield 298, 3) := by decide +kernel
theorem dX11_lender_38 : decode cX11_lender 38 = .ok (.iload_n 1, 1) := by decide +kernel
theorem dX11_lender_39 : decode cX11_lender 39 = .ok (.iload_n 2, 1) := by decide +kernel
theorem dX11_lender_40 : decode cX11_lender 40 = .ok (.iastore, 1) := by decide +kernel
theorem dX11_lender_41 : decode cX11_lender 41 = .ok (.iload_n 3, 1) := by decide +kernel
theorem dX11_lender_42 : decode cX11_lender 42 = .ok (.ireturn, 1) := by decide +kernel
theorem q_679 : Cond.methodLink RX11 260 yX11_fraction ∈ wT := wi_t 679 (by decide +kernel) (by decide +kernel)
theorem q_682 : Cond.code yX11_fraction cX11_fraction 12 none ∈ wT := wi_t 682 (by decide +kernel) (by decide +kernel)
theorem q_681 : Cond.instanceMethod yX11_fraction ∈ wT := wi_t 681 (by decide +kernel) (by decide +kernel)
theorem qs_16 : Cond.selects RX11 yX11_fraction yX11_fraction ∈ wT := wi_s (q := (yX11_fraction, 17)) 16 (by decide +kernel) (by decide +kernel)
theorem q_315 : Cond.fieldLink RX11 46 "HeavyFiles" "layings" "LHeavyFiles$Layings;" ∈ wT := wi_t 315 (by decide +kernel) (by decide +kernel)
theorem q_675 : Cond.methodLink RX11 257 yX3_next ∈ wT := wi_t 675 (by decide +kernel) (by decide +kernel)
theorem q_166 : Cond.fieldLink RX11 254 "HeavyFiles$Layings" "laid" "[I" ∈ wT := wi_t 166 (by decide +kernel) (by decide +kernel)
theorem q_668 : Cond.methodLink RX11 250 yX3_begin ∈ wT := wi_t 668 (by decide +kernel) (by decide +kernel)
theorem q_317 : Cond.fieldLink RX11 60 "HeavyFiles" "dread" "LHeavyFiles$Dread;" ∈ wT := wi_t 317 (by decide +kernel) (by decide +kernel)
theorem q_690 : Cond.methodLink RX11 264 yX1_leastFor ∈ wT := wi_t 690 (by decide +kernel) (by decide +kernel)
theorem q_693 : Cond.code yX1_leastFor cX1_leastFor 4 (some .int) ∈ wT := wi_t 693 (by decide +kernel) (by decide +kernel)
theorem q_691 : Cond.instanceMethod yX1_leastFor ∈ wT := wi_t 691 (by decide +kernel) (by decide +kernel)
theorem q_692 : Cond.selects RX1 yX1_leastFor yX1_leastFor ∈ wT := wi_t 692 (by decide +kernel) (by decide +kernel)
theorem q_705 : Cond.methodLink RX11 268 yX11_isTooMuch ∈ wT := wi_t 705 (by decide +kernel) (by decide +kernel)
theorem q_708 : Cond.code yX11_isTooMuch cX11_isTooMuch 2 (some .boolean) ∈ wT := wi_t 708 (by decide +kernel) (by decide +kernel)
theorem q_707 : Cond.instanceMethod yX11_isTooMuch ∈ wT := wi_t 707 (by decide +kernel) (by decide +kernel)
theorem qs_17 : Cond.selects RX11 yX11_isTooMuch yX11_isTooMuch ∈ wT := wi_s (q := (yX11_isTooMuch, 17)) 17 (by decide +kernel) (by decide +kernel)
theorem q_318 : Cond.fieldLink RX11 67 "HeavyFiles" "mixing" "LHeavyFiles$Mixing;" ∈ wT := wi_t 318 (by decide +kernel) (by decide +kernel)
theorem q_713 : Cond.methodLink RX11 271 yX4_weighAll ∈ wT := wi_t 713 (by decide +kernel) (by decide +kernel)
theorem q_716 : Cond.code yX4_weighAll cX4_weighAll 7 none ∈ wT := wi_t 716 (by decide +kernel) (by decide +kernel)
theorem q_714 : Cond.instanceMethod yX4_weighAll ∈ wT := wi_t 714 (by decide +kernel) (by decide +kernel)
theorem q_715 : Cond.selects RX4 yX4_weighAll yX4_weighAll ∈ wT := wi_t 715 (by decide +kernel) (by decide +kernel)
theorem q_723 : Cond.methodLink RX11 275 yX4_leastBy ∈ wT := wi_t 723 (by decide +kernel) (by decide +kernel)
theorem q_731 : Cond.methodLink RX11 278 yX4_bestParts ∈ wT := wi_t 731 (by decide +kernel) (by decide +kernel)
theorem q_734 : Cond.code yX4_bestParts cX4_bestParts 3 (some .int) ∈ wT := wi_t 734 (by decide +kernel) (by decide +kernel)
theorem q_732 : Cond.instanceMethod yX4_bestParts ∈ wT := wi_t 732 (by decide +kernel) (by decide +kernel)
theorem q_733 : Cond.selects RX4 yX4_bestParts yX4_bestParts ∈ wT := wi_t 733 (by decide +kernel) (by decide +kernel)
theorem q_736 : Cond.constantLong RX11 281 12 ∈ wT := wi_t 736 (by decide +kernel) (by decide +kernel)
theorem q_741 : Cond.methodLink RX11 283 yX10_valueOf ∈ wT := wi_t 741 (by decide +kernel) (by decide +kernel)
theorem q_744 : Cond.code yX10_valueOf cX10_valueOf 5 (some .int) ∈ wT := wi_t 744 (by decide +kernel) (by decide +kernel)
theorem q_742 : Cond.instanceMethod yX10_valueOf ∈ wT := wi_t 742 (by decide +kernel) (by decide +kernel)
theorem q_743 : Cond.selects RX10 yX10_valueOf yX10_valueOf ∈ wT := wi_t 743 (by decide +kernel) (by decide +kernel)
theorem q_777 : Cond.methodLink RX11 287 yX10_firstLaid ∈ wT := wi_t 777 (by decide +kernel) (by decide +kernel)
theorem q_780 : Cond.code yX10_firstLaid cX10_firstLaid 7 (some .int) ∈ wT := wi_t 780 (by decide +kernel) (by decide +kernel)
theorem q_778 : Cond.instanceMethod yX10_firstLaid ∈ wT := wi_t 778 (by decide +kernel) (by decide +kernel)
theorem q_779 : Cond.selects RX10 yX10_firstLaid yX10_firstLaid ∈ wT := wi_t 779 (by decide +kernel) (by decide +kernel)
theorem q_785 : Cond.methodLink RX11 291 yX11_isInTurn ∈ wT := wi_t 785 (by decide +kernel) (by decide +kernel)
theorem q_787 : Cond.code yX11_isInTurn cX11_isInTurn 1 (some .boolean) ∈ wT := wi_t 787 (by decide +kernel) (by decide +kernel)
theorem q_786 : Cond.static yX11_isInTurn ∈ wT := wi_t 786 (by decide +kernel) (by decide +kernel)
theorem q_792 : Cond.methodLink RX11 294 yX10_answerTo ∈ wT := wi_t 792 (by decide +kernel) (by decide +kernel)
theorem q_795 : Cond.code yX10_answerTo cX10_answerTo 7 (some .int) ∈ wT := wi_t 795 (by decide +kernel) (by decide +kernel)
theorem q_793 : Cond.instanceMethod yX10_answerTo ∈ wT := wi_t 793 (by decide +kernel) (by decide +kernel)
theorem q_794 : Cond.selects RX10 yX10_answerTo yX10_answerTo ∈ wT := wi_t 794 (by decide +kernel) (by decide +kernel)
theorem q_65 : Cond.fieldLink RX11 298 "HeavyFiles$Court" "lent" "[I" ∈ wT := wi_t 65 (by decide +kernel) (by decide +kernel)
theorem kvX11_fraction : KV yX11_fraction RX11 cX11_fraction 12 none 2 := ⟨q_681, qs_16, q_1, q_682, rfl, by decide +kernel, by decide +kernel, by decide +kernel⟩
theorem kvX1_leastFor : KV yX1_leastFor RX1 cX1_leastFor 4 (some .int) 3 := ⟨q_691, q_692, q_8, q_693, rfl, by decide +kernel, by decide +kernel, by decide +kernel⟩
theorem kvX11_isTooMuch : KV yX11_isTooMuch RX11 cX11_isTooMuch 2 (some .boolean) 1 := ⟨q_707, qs_17, q_1, q_708, rfl, by decide +kernel, by decide +kernel, by decide +kernel⟩
theorem kvX4_weighAll : KV yX4_weighAll RX4 cX4_weighAll 7 none 4 := ⟨q_714, q_715, q_9, q_716, rfl, by decide +kernel, by decide +kernel, by decide +kernel⟩
theorem kvX4_bestParts : KV yX4_bestParts RX4 cX4_bestParts 3 (some .int) 0 := ⟨q_732, q_733, q_9, q_734, rfl, by decide +kernel, by decide +kernel, by decide +kernel⟩
theorem kvX10_valueOf : KV yX10_valueOf RX10 cX10_valueOf 5 (some .int) 4 := ⟨q_742, q_743, q_10, q_744, rfl, by decide +kernel, by decide +kernel, by decide +kernel⟩
theorem kvX10_firstLaid : KV yX10_firstLaid RX10 cX10_firstLaid 7 (some .int) 3 := ⟨q_778, q_779, q_10, q_780, rfl, by decide +kernel, by decide +kernel, by decide +kernel⟩
theorem kvX11_isInTurn : KS yX11_isInTurn cX11_isInTurn 1 (some .boolean) 1 := ⟨q_786, q_1, q_787, by decide +kernel, by decide +kernel, by decide +kernel⟩
theorem kvX10_answerTo : KV yX10_answerTo RX10 cX10_answerTo 7 (some .int) 5 := ⟨q_793, q_794, q_10, q_795, rfl, by decide +kernel, by decide +kernel, by decide +kernel⟩
/-! HeavyFiles.ways(II)I -/
def fX11_ways_148 (N : Nat)  (a0 : Nat) (a4 : Int32) (a5 : Int32) (mm : Mm) : Option (Int32 × Mm) :=
  bd2 (fX11_fraction N a0 a5.toInt64 a4.toInt64 mm) fun x1 m2 => some (a5, m2)
def fX11_ways_136 (N : Nat) (k83 : Nat → Int32 → Nat → Int32 → Int32 → Int32 → Mm → Option (Int32 × Mm)) (a0 : Nat) (a2 : Int32) (a3 : Nat) (a4 : Int32) (a5 : Int32) (mm : Mm) : Option (Int32 × Mm) :=
  bd2 (fX3_next N (fr a0 6) mm) fun x4 m5 => k83 a0 a2 a3 a4 a5 x4 m5
def fX11_ways_83 (N : Nat)  : Nat → Nat → Int32 → Nat → Int32 → Int32 → Int32 → Mm → Option (Int32 × Mm)
  | 0 => fun _ _ _ _ _ _ _ => none
  | n + 1 => fun a0 a2 a3 a4 a5 a6 mm =>
    let k83 := fX11_ways_83 N  n
    if a6 < 0 then (fX11_ways_148 N a0 a4 a5 mm) else (if (1000000 : Int32) ≤ a4 then (fX11_ways_148 N a0 a4 a5 mm) else (bd2 (fX7_weigh N (fr a0 5) (fr a0 2) (fr (fr a0 6) 0) (fr a3 0) a6 mm) fun x9 m10 => if (rd m10 (fr a0 5) 3) < a2 then (fX11_ways_136 N k83 a0 a2 a3 (a4 + 1) a5 m10) else (fX11_ways_136 N k83 a0 a2 a3 (a4 + 1) (a5 + 1) m10)))
def fX11_ways (N : Nat)  (a0 : Nat) (a1 : Int32) (a2 : Int32) (mm : Mm) : Option (Int32 × Mm) :=
  bd2 (fX11_rowOf N a0 a1 mm) fun x13 m14 => cs x13 (some ((-1), m14)) (fun z16 => if a2 < 0 then (some ((-1), m14)) else (if a2 ≤ 108 then (gd (inb 0 (ln (fr (fr a0 2) 1))) <| if (rd m14 (fr (fr a0 2) 1) ((0 : Int32).toNatClampNeg)) ≤ 12 then (bd2 (fX11_isWrong N a0 z16 1 m14) fun x22 m23 => if x22 = 0 then (gd (inb 0 (ln (fr (fr a0 2) 1))) <| bd2 (fX3_begin N (fr a0 6) (rd m23 (fr a0 2) 5) (rd m23 (fr (fr a0 2) 1) ((0 : Int32).toNatClampNeg)) m23) fun x27 m28 => fX11_ways_83 N N a0 a2 z16 0 0 0 m28) else (some ((-3), m23))) else (some ((-6), m14))) else (some ((-1), m14))))
abbrev rmX11_ways : Room := { frames := 5, cells := 0, slots := 0, locals := 165 }
/-! HeavyFiles.sure(I)I -/
def fX11_sure (N : Nat)  (a0 : Nat) (a1 : Int32) (mm : Mm) : Option (Int32 × Mm) :=
  bd2 (fX11_rowOf N a0 a1 mm) fun x1 m2 => cs x1 (some ((-1), m2)) (fun z4 => bd2 (fX11_isWrong N a0 z4 0 m2) fun x6 m7 => if x6 = 0 then (bd2 (fX1_leastFor N (fr a0 8) (fr a0 2) (fr z4 0) (-1) m7) fun x10 m11 => some (x10, m11)) else (some ((-3), m7)))
abbrev rmX11_sure : Room := { frames := 16, cells := 0, slots := 0, locals := 860 }
/-! HeavyFiles.isTooMuch(I)Z -/
def fX11_isTooMuch (N : Nat)  (a0 : Nat) (a1 : Int32) (mm : Mm) : Option (Int32 × Mm) :=
  gd (inb a1 (ln (fr (fr a0 2) 1))) <| if (10 : Int32) < (rd mm (fr (fr a0 2) 1) a1.toNatClampNeg) then (some (1, mm)) else (if (rd mm (fr a0 2) 5) ≤ 4 then (some (0, mm)) else (some (1, mm)))
abbrev rmX11_isTooMuch : Room := { frames := 1, cells := 0, slots := 0, locals := 40 }
/-! HeavyFiles.safe(I)I -/
def fX11_safe_114 (N : Nat) (k54 : Nat → Nat → Int32 → Int32 → Int32 → Mm → Option (Int32 × Mm)) (a0 : Nat) (a2 : Nat) (a3 : Int32) (a5 : Int32) (mm : Mm) : Option (Int32 × Mm) :=
  bd2 (fX3_next N (fr a0 6) mm) fun x1 m2 => k54 a0 a2 a3 x1 (a5 + 1) m2
def fX11_safe_54 (N : Nat)  : Nat → Nat → Nat → Int32 → Int32 → Int32 → Mm → Option (Int32 × Mm)
  | 0 => fun _ _ _ _ _ _ => none
  | n + 1 => fun a0 a2 a3 a4 a5 mm =>
    let k54 := fX11_safe_54 N  n
    if a4 < 0 then (some (a3, mm)) else (if (1000000 : Int32) ≤ a5 then (some (a3, mm)) else (bd2 (fX1_leastFor N (fr a0 8) (fr a0 2) (fr (fr a0 6) 0) a3 mm) fun x6 m7 => if x6 ≤ a3 then (fX11_safe_114 N k54 a0 a2 a3 a5 m7) else (bd2 (fX6_take N a2 (fr (fr a0 6) 0) (rd m7 (fr a0 2) 5) m7) fun x10 m11 => fX11_safe_114 N k54 a0 a2 x6 a5 m11)))
def fX11_safe (N : Nat)  (a0 : Nat) (a1 : Int32) (mm : Mm) : Option (Int32 × Mm) :=
  bd2 (fX11_rowOf N a0 a1 mm) fun x13 m14 => cs x13 (some ((-1), m14)) (fun z16 => bd2 (fX11_isTooMuch N a0 0 m14) fun x18 m19 => if x18 = 0 then (gd (inb 0 (ln (fr (fr a0 2) 1))) <| bd2 (fX3_begin N (fr a0 6) (rd m19 (fr a0 2) 5) (rd m19 (fr (fr a0 2) 1) ((0 : Int32).toNatClampNeg)) m19) fun x23 m24 => fX11_safe_54 N N a0 z16 (-1) 0 0 m24) else (some ((-6), m19)))
abbrev rmX11_safe : Room := { frames := 16, cells := 0, slots := 0, locals := 860 }
/-! HeavyFiles.mixed(IIII)I -/
def fX11_mixed (N : Nat)  (a0 : Nat) (a1 : Int32) (a2 : Int32) (a3 : Int32) (a4 : Int32) (mm : Mm) : Option (Int32 × Mm) :=
  bd2 (fX11_rowOf N a0 a1 mm) fun x1 m2 => bd2 (fX11_rowOf N a0 a2 m2) fun x4 m5 => cs x1 (some ((-1), m5)) (fun z7 => cs x4 (some ((-1), m5)) (fun z9 => if a4 < 1 then (some ((-1), m5)) else (if (99 : Int32) < a4 then (some ((-1), m5)) else (if a3 < 0 then (some ((-1), m5)) else (if a3 ≤ a4 then (bd2 (fX11_isTooMuch N a0 1 m5) fun x15 m16 => if x15 = 0 then (bd2 (fX11_isWrong_ N a0 z7 0 z9 0 m16) fun x19 m20 => if x19 = 0 then (bd2 (fX4_weighAll N (fr a0 9) (fr a0 2) (fr a0 6) (fr z7 0) (fr z9 0) m20) fun x23 m24 => bd2 (fX4_leastBy N (fr a0 9) a3 a4 m24) fun x26 m27 => bd2 (fX11_fraction N a0 x26.toInt64 a4.toInt64 m27) fun x29 m30 => some (1, m30)) else (some ((-3), m20))) else (some ((-6), m16))) else (some ((-1), m5)))))))
abbrev rmX11_mixed : Room := { frames := 5, cells := 0, slots := 0, locals := 170 }
/-! HeavyFiles.mix(II)I -/
def fX11_mix (N : Nat)  (a0 : Nat) (a1 : Int32) (a2 : Int32) (mm : Mm) : Option (Int32 × Mm) :=
  bd2 (fX11_rowOf N a0 a1 mm) fun x1 m2 => bd2 (fX11_rowOf N a0 a2 m2) fun x4 m5 => cs x1 (some ((-1), m5)) (fun z7 => cs x4 (some ((-1), m5)) (fun z9 => bd2 (fX11_isTooMuch N a0 1 m5) fun x11 m12 => if x11 = 0 then (bd2 (fX11_isWrong_ N a0 z7 0 z9 0 m12) fun x15 m16 => if x15 = 0 then (bd2 (fX4_weighAll N (fr a0 9) (fr a0 2) (fr a0 6) (fr z7 0) (fr z9 0) m16) fun x19 m20 => bd2 (fX4_bestParts N (fr a0 9) m20) fun x22 m23 => bd2 (fX4_leastBy N (fr a0 9) x22 12 m23) fun x25 m26 => bd2 (fX11_fraction N a0 x25.toInt64 12 m26) fun x28 m29 => some (x22, m29)) else (some ((-3), m16))) else (some ((-6), m12))))
abbrev rmX11_mix : Room := { frames := 5, cells := 0, slots := 0, locals := 170 }
/-! HeavyFiles.turns()I -/
def fX11_turns (N : Nat)  (a0 : Nat) (mm : Mm) : Option (Int32 × Mm) :=
  gd (inb 0 (ln (fr (fr a0 2) 1))) <| nm (rd mm (fr (fr a0 2) 1) ((0 : Int32).toNatClampNeg)) fun x2 => gd (inb 1 (ln (fr (fr a0 2) 1))) <| nm (rd mm (fr (fr a0 2) 1) ((1 : Int32).toNatClampNeg)) fun x4 => if (15 : Int32) < x2 then (some ((-6), mm)) else (if x4 ≤ 15 then (if (rd mm (fr a0 2) 5) = 0 then (some ((-9), mm)) else (bd2 (fX10_valueOf N (fr a0 10) (fr a0 2) 0 x2 x4 mm) fun x8 m9 => nm (wr m9 a0 14 x8) fun m11 => bd2 (fX10_firstLaid N (fr a0 10) (fr a0 2) x2 x4 m11) fun x12 m13 => some (x12, m13))) else (some ((-6), mm)))
abbrev rmX11_turns : Room := { frames := 7, cells := 0, slots := 0, locals := 240 }
/-! HeavyFiles.isInTurn(I)Z -/
def fX11_isInTurn (N : Nat)  (a0 : Int32) (mm : Mm) : Option (Int32 × Mm) :=
  if a0 < 0 then (some (0, mm)) else (if (15 : Int32) < a0 then (some (0, mm)) else (some (1, mm)))
abbrev rmX11_isInTurn : Room := { frames := 1, cells := 0, slots := 0, locals := 40 }
/-! HeavyFiles.from(III)I -/
def fX11_from (N : Nat)  (a0 : Nat) (a1 : Int32) (a2 : Int32) (a3 : Int32) (mm : Mm) : Option (Int32 × Mm) :=
  if a1 < 0 then (some ((-1), mm)) else (if (rd mm (fr a0 2) 5) < a1 then (some ((-1), mm)) else (bd2 (fX11_isInTurn N a2 mm) fun x3 m4 => if x3 = 0 then (some ((-1), m4)) else (bd2 (fX11_isInTurn N a3 m4) fun x7 m8 => if x7 = 0 then (some ((-1), m8)) else (bd2 (fX10_valueOf N (fr a0 10) (fr a0 2) a1 a2 a3 m8) fun x11 m12 => bd2 (fX11_told N a0 x11 m12) fun x14 m15 => some (x14, m15)))))
abbrev rmX11_from : Room := { frames := 7, cells := 0, slots := 0, locals := 238 }
/-! HeavyFiles.answer(IIII)I -/
def fX11_answer (N : Nat)  (a0 : Nat) (a1 : Int32) (a2 : Int32) (a3 : Int32) (a4 : Int32) (mm : Mm) : Option (Int32 × Mm) :=
  bd2 (fX0_suitOf N (fr a0 2) a1 mm) fun x1 m2 => cs x1 (some ((-1), m2)) (fun z4 => bd2 (fX11_isInTurn N a2 m2) fun x6 m7 => if x6 = 0 then (some ((-1), m7)) else (bd2 (fX11_isInTurn N a3 m7) fun x10 m11 => if x10 = 0 then (some ((-1), m11)) else (if a4 < 0 then (some ((-1), m11)) else (if a4 ≤ a2 then (bd2 (fX10_answerTo N (fr a0 10) (fr a0 2) a1 a2 a3 a4 m11) fun x16 m17 => some (x16, m17)) else (some ((-1), m11))))))
abbrev rmX11_answer : Room := { frames := 7, cells := 0, slots := 0, locals := 240 }
/-! HeavyFiles.lender(II)I -/
def fX11_lender (N : Nat)  (a0 : Nat) (a1 : Int32) (a2 : Int32) (mm : Mm) : Option (Int32 × Mm) :=
  if a1 < 0 then (some ((-1), mm)) else (if (4 : Int32) ≤ a1 then (some ((-1), mm)) else (if a2 < 0 then (some ((-1), mm)) else (if a2 ≤ 20 then (gd (inb a1 (ln (fr (fr a0 2) 2))) <| nm (rd mm (fr (fr a0 2) 2) a1.toNatClampNeg) fun x6 => gd (inb a1 (ln (fr (fr a0 2) 2))) <| nm (wr mm (fr (fr a0 2) 2) a1.toNatClampNeg a2) fun m8 => some (x6, m8)) else (some ((-1), mm)))))
abbrev rmX11_lender : Room := { frames := 1, cells := 0, slots := 0, locals := 40 }
section W_files17
variable {p : Program} {l : Launch} {e : Env} {s : State} {m : MethodId} {args : Array Value} {below : List Frame} {meth : Method} {c : Code} {D : va_G} {ca ad : Nat → Nat}
set_option maxRecDepth 100000 in
set_option maxHeartbeats 4000000 in
theorem wX11_ways_148 (C : Cx p s m meth c args cX11_ways 7 (some .int) RX11 D ca ad) {res : Int32 × Mm} {N : Nat}  {a0 : Nat} {a4 : Int32} {a5 : Int32} {mm : Mm} {H : Heap} {locs : List Loc} {ls : Array Slot} (ha0 : sX11 a0) (hW : Wd D ca ad s.heap mm H locs) (hl : lv_has ls 7 [(0, .ref (ad a0)), (4, .int a4), (5, .int a5)]) (hf : fX11_ways_148 N a0 a4 a5 mm = some res) : W p l e (rmX11_ways) s m args below meth c H locs 0 0 (MQ below (QI D ca ad res) args s 0 0 (AA ad)) (F0 m 148 ls []) := by
  unfold fX11_ways_148 at hf
  refine lv_aload_n C.1 C.2.1 dX11_ways_148 rfl (lv_at hl 0 rfl) ?_
  refine lv_iload C.1 C.2.1 dX11_ways_149 (lv_at hl 2 rfl) ?_
  refine lv_i2l C.1 C.2.1 dX11_ways_151 rfl ?_
  refine lv_iload C.1 C.2.1 dX11_ways_152 (lv_at hl 1 rfl) ?_
  refine lv_i2l C.1 C.2.1 dX11_ways_154 rfl ?_
  obtain ⟨x1, m2, r3, hf⟩ := bd2_s hf
  refine x_cv hW (x_runV C hW [.long a5.toInt64, .long a4.toInt64] [] (ha0).1 (ha0).2.1 kX11.1 kvX11_fraction q_679 (tX11_fraction l C.2.2.2.2.2.2.1 ha0 r3) rfl rfl ⟨by decide, by decide⟩ rfl hl.1 rfl (Nat.le_of_ble_eq_true rfl) dX11_ways_155) (fun H locs hW => ?_)
  refine lv_iload C.1 C.2.1 dX11_ways_158 (lv_at hl 2 rfl) ?_
  cases hf
  exact x_iret C hW dX11_ways_160
set_option maxRecDepth 100000 in
set_option maxHeartbeats 4000000 in
theorem wX11_ways_136 (C : Cx p s m meth c args cX11_ways 7 (some .int) RX11 D ca ad) {res : Int32 × Mm} {N : Nat} {k83 : Nat → Int32 → Nat → Int32 → Int32 → Int32 → Mm → Option (Int32 × Mm)} (hk83 : ∀ (a0 : Nat) (a2 : Int32) (a3 : Nat) (a4 : Int32) (a5 : Int32) (a6 : Int32) (mm : Mm) (H : Heap) (locs : List Loc) (ls : Array Slot), (sX11 a0) → (sX6 a3) → Wd D ca ad s.heap mm H locs → lv_has ls 7 [(0, .ref (ad a0)), (2, .int a2), (3, .ref (ad a3)), (4, .int a4), (5, .int a5), (6, .int a6)] → k83 a0 a2 a3 a4 a5 a6 mm = some res → W p l e (rmX11_ways) s m args below meth c H locs 0 0 (MQ below (QI D ca ad res) args s 0 0 (AA ad)) (F0 m 83 ls [])) {a0 : Nat} {a2 : Int32} {a3 : Nat} {a4 : Int32} {a5 : Int32} {mm : Mm} {H : Heap} {locs : List Loc} {ls : Array Slot} (ha0 : sX11 a0) (ha3 : sX6 a3) (hW : Wd D ca ad s.heap mm H locs) (hl : lv_has ls 7 [(0, .ref (ad a0)), (2, .int a2), (3, .ref (ad a3)), (4, .int a4), (5, .int a5)]) (hf : fX11_ways_136 N k83 a0 a2 a3 a4 a5 mm = some res) : W p l e (rmX11_ways) s m args below meth c H locs 0 0 (MQ below (QI D ca ad res) args s 0 0 (AA ad)) (F0 m 136 ls []) := by
  unfold fX11_ways_136 at hf
  refine lv_aload_n C.1 C.2.1 dX11_ways_136 rfl (lv_at hl 0 rfl) ?_
  refine x_getr C hW (ha0).1 (ha0).2.1 (j := 6) rfl kX11 (by decide) rfl q_315 dX11_ways_137 ?_
  obtain ⟨x4, m5, r6, hf⟩ := bd2_s hf
  refine x_ci hW (x_runV C hW [] [] (ha0.2.2.2.2.2.2.2.2.1).1 (ha0.2.2.2.2.2.2.2.2.1).2.1 kX3.1 kvX3_next q_675 (tX3_next l C.2.2.2.2.2.2.1 ha0.2.2.2.2.2.2.2.2.1 r6) rfl rfl ⟨by decide, by decide⟩ rfl hl.1 rfl (Nat.le_of_ble_eq_true rfl) dX11_ways_140) (fun H locs hW => ?_)
  refine lv_istore (lv' := [(6, .int x4), (0, .ref (ad a0)), (2, .int a2), (3, .ref (ad a3)), (4, .int a4), (5, .int a5)]) C.1 C.2.1 dX11_ways_143 hl (by decide) rfl (fun ls hl => ?_)
  refine lv_goto (tgt := 83) C.1 C.2.1 dX11_ways_145 (by decide) ?_
  exact hk83 _ _ _ _ _ _ _ _ _ _ ha0 ha3 hW (lv_sub hl [1, 2, 3, 4, 5, 0] rfl) hf
set_option maxRecDepth 100000 in
set_option maxHeartbeats 4000000 in
theorem wX11_ways_83 (C : Cx p s m meth c args cX11_ways 7 (some .int) RX11 D ca ad) {res : Int32 × Mm} {N : Nat}  : ∀ (n : Nat) {a0 : Nat} {a2 : Int32} {a3 : Nat} {a4 : Int32} {a5 : Int32} {a6 : Int32} {mm : Mm} {H : Heap} {locs : List Loc} {ls : Array Slot}, (sX11 a0) → (sX6 a3) → Wd D ca ad s.heap mm H locs → lv_has ls 7 [(0, .ref (ad a0)), (2, .int a2), (3, .ref (ad a3)), (4, .int a4), (5, .int a5), (6, .int a6)] → fX11_ways_83 N n a0 a2 a3 a4 a5 a6 mm = some res → W p l e (rmX11_ways) s m args below meth c H locs 0 0 (MQ below (QI D ca ad res) args s 0 0 (AA ad)) (F0 m 83 ls []) := by
  intro n
  induction n with
  | zero => intro a0 a2 a3 a4 a5 a6 mm H locs ls ha0 ha3 hW hl hf; cases hf
  | succ n ih =>
    intro a0 a2 a3 a4 a5 a6 mm H locs ls ha0 ha3 hW hl hf
    have hk83 : ∀ (a0 : Nat) (a2 : Int32) (a3 : Nat) (a4 : Int32) (a5 : Int32) (a6 : Int32) (mm : Mm) (H : Heap) (locs : List Loc) (ls : Array Slot), (sX11 a0) → (sX6 a3) → Wd D ca ad s.heap mm H locs → lv_has ls 7 [(0, .ref (ad a0)), (2, .int a2), (3, .ref (ad a3)), (4, .int a4), (5, .int a5), (6, .int a6)] → (fX11_ways_83 N n) a0 a2 a3 a4 a5 a6 mm = some res → W p l e (rmX11_ways) s m args below meth c H locs 0 0 (MQ below (QI D ca ad res) args s 0 0 (AA ad)) (F0 m 83 ls []) := fun a0 a2 a3 a4 a5 a6 mm H locs ls ha0 ha3 hW hl hf => ih ha0 ha3 hW hl hf
    unfold fX11_ways_83 at hf
    try dsimp only at hf
    refine lv_iload C.1 C.2.1 dX11_ways_83 (lv_at hl 5 rfl) ?_
    refine lv_if_lt (tgt := 148) C.1 C.2.1 dX11_ways_85 (by decide) (fun c7 => ?_) (fun c7 => ?_)
    · have hf := if_t c7 hf
      exact wX11_ways_148 C  ha0 hW (lv_sub hl [0, 3, 4] rfl) hf
    · have hf := if_f c7 hf
      refine lv_iload C.1 C.2.1 dX11_ways_88 (lv_at hl 3 rfl) ?_
      refine lv_ldc C.1 C.2.1 C.2.2.2.1 (C.2.2.2.2.1 _ q_674) dX11_ways_90 ?_
      refine lv_icmp_ge (tgt := 148) C.1 C.2.1 dX11_ways_92 (by decide) (fun c8 => ?_) (fun c8 => ?_)
      · have hf := if_t c8 hf
        exact wX11_ways_148 C  ha0 hW (lv_sub hl [0, 3, 4] rfl) hf
      · have hf := if_f c8 hf
        refine lv_aload_n C.1 C.2.1 dX11_ways_95 rfl (lv_at hl 0 rfl) ?_
        refine x_getr C hW (ha0).1 (ha0).2.1 (j := 5) rfl kX11 (by decide) rfl q_314 dX11_ways_96 ?_
        refine lv_aload_n C.1 C.2.1 dX11_ways_99 rfl (lv_at hl 0 rfl) ?_
        refine x_getr C hW (ha0).1 (ha0).2.1 (j := 2) rfl kX11 (by decide) rfl q_311 dX11_ways_100 ?_
        refine lv_aload_n C.1 C.2.1 dX11_ways_103 rfl (lv_at hl 0 rfl) ?_
        refine x_getr C hW (ha0).1 (ha0).2.1 (j := 6) rfl kX11 (by decide) rfl q_315 dX11_ways_104 ?_
        refine x_getr C hW (ha0.2.2.2.2.2.2.2.2.1).1 (ha0.2.2.2.2.2.2.2.2.1).2.1 (j := 0) rfl kX3 (by decide) rfl q_166 dX11_ways_107 ?_
        refine lv_aload_n C.1 C.2.1 dX11_ways_110 rfl (lv_at hl 2 rfl) ?_
        refine x_getr C hW (ha3).1 (ha3).2.1 (j := 0) rfl kX6 (by decide) rfl q_300 dX11_ways_111 ?_
        refine lv_iload C.1 C.2.1 dX11_ways_114 (lv_at hl 5 rfl) ?_
        obtain ⟨x9, m10, r11, hf⟩ := bd2_s hf
        refine x_cv hW (x_runV C hW [.ref (ad (fr a0 2)), .ref (ad (fr (fr a0 6) 0)), .ref (ad (fr a3 0)), .int a6] [] (ha0.2.2.2.2.2.2.2.1).1 (ha0.2.2.2.2.2.2.2.1).2.1 kX7.1 kvX7_weigh q_566 (tX7_weigh l C.2.2.2.2.2.2.1 ha0.2.2.2.2.2.2.2.1 ha0.2.2.2.2.1 ha0.2.2.2.2.2.2.2.2.1.2.2 ha3.2.2 r11) rfl rfl ⟨by decide, by decide⟩ rfl hl.1 rfl (Nat.le_of_ble_eq_true rfl) dX11_ways_116) (fun H locs hW => ?_)
        refine lv_iinc (v := (a4 + 1)) (lv' := [(4, .int (a4 + 1)), (0, .ref (ad a0)), (2, .int a2), (3, .ref (ad a3)), (5, .int a5), (6, .int a6)]) C.1 C.2.1 dX11_ways_119 hl (k := 3) rfl rfl (by decide) rfl (fun ls hl => ?_)
        refine lv_aload_n C.1 C.2.1 dX11_ways_122 rfl (lv_at hl 1 rfl) ?_
        refine x_getr C hW (ha0).1 (ha0).2.1 (j := 5) rfl kX11 (by decide) rfl q_314 dX11_ways_123 ?_
        refine x_geti C hW (ha0.2.2.2.2.2.2.2.1).1 (ha0.2.2.2.2.2.2.2.1).2.1 (j := 3) rfl kX7 (by decide) rfl q_146 dX11_ways_126 ?_
        refine lv_iload_n C.1 C.2.1 dX11_ways_129 rfl (lv_at hl 2 rfl) ?_
        refine lv_icmp_lt (tgt := 136) C.1 C.2.1 dX11_ways_130 (by decide) (fun c12 => ?_) (fun c12 => ?_)
        · have hf := if_t c12 hf
          exact wX11_ways_136 C hk83 ha0 ha3 hW (lv_sub hl [1, 2, 3, 0, 4] rfl) hf
        · have hf := if_f c12 hf
          refine lv_iinc (v := (a5 + 1)) (lv' := [(5, .int (a5 + 1)), (4, .int (a4 + 1)), (0, .ref (ad a0)), (2, .int a2), (3, .ref (ad a3)), (6, .int a6)]) C.1 C.2.1 dX11_ways_133 hl (k := 4) rfl rfl (by decide) rfl (fun ls hl => ?_)
          exact wX11_ways_136 C hk83 ha0 ha3 hW (lv_sub hl [2, 3, 4, 1, 0] rfl) hf
set_option maxRecDepth 100000 in
set_option maxHeartbeats 4000000 in
theorem wX11_ways_0 (C : Cx p s m meth c args cX11_ways 7 (some .int) RX11 D ca ad) {res : Int32 × Mm} {N : Nat}  {a0 : Nat} {a1 : Int32} {a2 : Int32} {mm : Mm} {H : Heap} {locs : List Loc} {ls : Array Slot} (ha0 : sX11 a0) (hW : Wd D ca ad s.heap mm H locs) (hl : lv_has ls 7 [(0, .ref (ad a0)), (1, .int a1), (2, .int a2)]) (hf : fX11_ways N a0 a1 a2 mm = some res) : W p l e (rmX11_ways) s m args below meth c H locs 0 0 (MQ below (QI D ca ad res) args s 0 0 (AA ad)) (F0 m 0 ls []) := by
  unfold fX11_ways at hf
  refine lv_aload_n C.1 C.2.1 dX11_ways_0 rfl (lv_at hl 0 rfl) ?_
  refine lv_iload_n C.1 C.2.1 dX11_ways_1 rfl (lv_at hl 1 rfl) ?_
  obtain ⟨x13, m14, r15, hf⟩ := bd2_s hf
  refine x_cr hW (x_runV C hW [.int a1] [] (ha0).1 (ha0).2.1 kX11.1 kvX11_rowOf q_365 (tX11_rowOf l C.2.2.2.2.2.2.1 ha0 r15) rfl rfl ⟨by decide, by decide⟩ rfl hl.1 rfl (Nat.le_of_ble_eq_true rfl) dX11_ways_2) (fun H locs hW => ?_)
  refine x_astore_n (lv' := [(3, va_re ad x13), (0, .ref (ad a0)), (1, .int a1), (2, .int a2)]) C dX11_ways_5 rfl hl (by decide) rfl (fun ls hl => ?_)
  refine x_aload_n C dX11_ways_6 rfl (lv_at hl 0 rfl) ?_
  refine x_ifnull C (tgt := 20) dX11_ways_7 (by decide) (fun n17 => ?_) (fun z16 n17 => ?_)
  · subst n17
    have hf := cs_n hf
    refine lv_iconst (v := (-1)) C.1 C.2.1 dX11_ways_20 (by decide) ?_
    cases hf
    exact x_iret C hW dX11_ways_21
  · subst n17
    have hf := cs_q hf
    refine lv_iload_n C.1 C.2.1 dX11_ways_10 rfl (lv_at hl 3 rfl) ?_
    refine lv_if_lt (tgt := 20) C.1 C.2.1 dX11_ways_11 (by decide) (fun c18 => ?_) (fun c18 => ?_)
    · have hf := if_t c18 hf
      refine lv_iconst (v := (-1)) C.1 C.2.1 dX11_ways_20 (by decide) ?_
      cases hf
      exact x_iret C hW dX11_ways_21
    · have hf := if_f c18 hf
      refine lv_iload_n C.1 C.2.1 dX11_ways_14 rfl (lv_at hl 3 rfl) ?_
      refine lv_bipush (v := 108) C.1 C.2.1 dX11_ways_15 (by decide) ?_
      refine lv_icmp_le (tgt := 22) C.1 C.2.1 dX11_ways_17 (by decide) (fun c19 => ?_) (fun c19 => ?_)
      · have hf := if_t c19 hf
        refine lv_aload_n C.1 C.2.1 dX11_ways_22 rfl (lv_at hl 1 rfl) ?_
        refine x_getr C hW (ha0).1 (ha0).2.1 (j := 2) rfl kX11 (by decide) rfl q_311 dX11_ways_23 ?_
        refine x_getr C hW (ha0.2.2.2.2.1).1 (ha0.2.2.2.2.1).2.1 (j := 1) rfl kX0 (by decide) rfl q_63 dX11_ways_26 ?_
        refine lv_iconst (v := 0) C.1 C.2.1 dX11_ways_29 (by decide) ?_
        obtain ⟨g20, hf⟩ := gd_s hf
        refine x_iald C hW ha0.2.2.2.2.1.2.2.2.1 g20 dX11_ways_30 ?_
        refine lv_bipush (v := 12) C.1 C.2.1 dX11_ways_31 (by decide) ?_
        refine lv_icmp_le (tgt := 39) C.1 C.2.1 dX11_ways_33 (by decide) (fun c21 => ?_) (fun c21 => ?_)
        · have hf := if_t c21 hf
          refine lv_aload_n C.1 C.2.1 dX11_ways_39 rfl (lv_at hl 1 rfl) ?_
          refine lv_aload_n C.1 C.2.1 dX11_ways_40 rfl (lv_at hl 0 rfl) ?_
          refine lv_iconst (v := 1) C.1 C.2.1 dX11_ways_41 (by decide) ?_
          obtain ⟨x22, m23, r24, hf⟩ := bd2_s hf
          refine x_ci hW (x_runV C hW [.ref (ad z16), .int 1] [] (ha0).1 (ha0).2.1 kX11.1 kvX11_isWrong q_605 (tX11_isWrong l C.2.2.2.2.2.2.1 ha0 ((gX11_rowOf ha0 r15) z16 rfl) r24) rfl rfl ⟨by decide, by decide⟩ rfl hl.1 rfl (Nat.le_of_ble_eq_true rfl) dX11_ways_42) (fun H locs hW => ?_)
          refine lv_if_eq (tgt := 51) C.1 C.2.1 dX11_ways_45 (by decide) (fun c25 => ?_) (fun c25 => ?_)
          · have hf := if_t c25 hf
            refine lv_aload_n C.1 C.2.1 dX11_ways_51 rfl (lv_at hl 1 rfl) ?_
            refine x_getr C hW (ha0).1 (ha0).2.1 (j := 6) rfl kX11 (by decide) rfl q_315 dX11_ways_52 ?_
            refine lv_aload_n C.1 C.2.1 dX11_ways_55 rfl (lv_at hl 1 rfl) ?_
            refine x_getr C hW (ha0).1 (ha0).2.1 (j := 2) rfl kX11 (by decide) rfl q_311 dX11_ways_56 ?_
            refine x_geti C hW (ha0.2.2.2.2.1).1 (ha0.2.2.2.2.1).2.1 (j := 5) rfl kX0 (by decide) rfl q_73 dX11_ways_59 ?_
            refine lv_aload_n C.1 C.2.1 dX11_ways_62 rfl (lv_at hl 1 rfl) ?_
            refine x_getr C hW (ha0).1 (ha0).2.1 (j := 2) rfl kX11 (by decide) rfl q_311 dX11_ways_63 ?_
            refine x_getr C hW (ha0.2.2.2.2.1).1 (ha0.2.2.2.2.1).2.1 (j := 1) rfl kX0 (by decide) rfl q_63 dX11_ways_66 ?_
            refine lv_iconst (v := 0) C.1 C.2.1 dX11_ways_69 (by decide) ?_
            obtain ⟨g26, hf⟩ := gd_s hf
            refine x_iald C hW ha0.2.2.2.2.1.2.2.2.1 g26 dX11_ways_70 ?_
            obtain ⟨x27, m28, r29, hf⟩ := bd2_s hf
            refine x_cv hW (x_runV C hW [.int (rd m23 (fr a0 2) 5), .int (rd m23 (fr (fr a0 2) 1) ((0 : Int32).toNatClampNeg))] [] (ha0.2.2.2.2.2.2.2.2.1).1 (ha0.2.2.2.2.2.2.2.2.1).2.1 kX3.1 kvX3_begin q_668 (tX3_begin l C.2.2.2.2.2.2.1 ha0.2.2.2.2.2.2.2.2.1 r29) rfl rfl ⟨by decide, by decide⟩ rfl hl.1 rfl (Nat.le_of_ble_eq_true rfl) dX11_ways_71) (fun H locs hW => ?_)
            refine lv_iconst (v := 0) C.1 C.2.1 dX11_ways_74 (by decide) ?_
            refine lv_istore (lv' := [(4, .int 0), (3, .ref (ad z16)), (0, .ref (ad a0)), (1, .int a1), (2, .int a2)]) C.1 C.2.1 dX11_ways_75 hl (by decide) rfl (fun ls hl => ?_)
            refine lv_iconst (v := 0) C.1 C.2.1 dX11_ways_77 (by decide) ?_
            refine lv_istore (lv' := [(5, .int 0), (4, .int 0), (3, .ref (ad z16)), (0, .ref (ad a0)), (1, .int a1), (2, .int a2)]) C.1 C.2.1 dX11_ways_78 hl (by decide) rfl (fun ls hl => ?_)
            refine lv_iconst (v := 0) C.1 C.2.1 dX11_ways_80 (by decide) ?_
            refine lv_istore (lv' := [(6, .int 0), (5, .int 0), (4, .int 0), (3, .ref (ad z16)), (0, .ref (ad a0)), (1, .int a1), (2, .int a2)]) C.1 C.2.1 dX11_ways_81 hl (by decide) rfl (fun ls hl => ?_)
            exact wX11_ways_83 C  N ha0 ((gX11_rowOf ha0 r15) z16 rfl) hW (lv_sub hl [4, 6, 3, 2, 1, 0] rfl) hf
          · have hf := if_f c25 hf
            refine lv_bipush (v := (-3)) C.1 C.2.1 dX11_ways_48 (by decide) ?_
            cases hf
            exact x_iret C hW dX11_ways_50
        · have hf := if_f c21 hf
          refine lv_bipush (v := (-6)) C.1 C.2.1 dX11_ways_36 (by decide) ?_
          cases hf
          exact x_iret C hW dX11_ways_38
      · have hf := if_f c19 hf
        refine lv_iconst (v := (-1)) C.1 C.2.1 dX11_ways_20 (by decide) ?_
        cases hf
        exact x_iret C hW dX11_ways_21
set_option maxRecDepth 100000 in
set_option maxHeartbeats 4000000 in
theorem tX11_ways (l : Launch) {D : va_G} {ca ad : Nat → Nat} (hi : Inj ad) {N : Nat} {a0 : Nat} {a1 : Int32} {a2 : Int32} {mm : Mm} {res : Int32 × Mm} (ha0 : sX11 a0) (hf : fX11_ways N a0 a1 a2 mm = some res) : Met l yX11_ways (WS yX11_ways cX11_ways 7 (some .int)) (rmX11_ways) (va_Pc [.ref (ad a0), .int a1, .int a2] (WB D ca ad mm)) (QI D ca ad res) 0 0 (AA ad) := by
  refine x_start hi (by decide) rfl (Nat.le_of_ble_eq_true rfl) (fun p e s m args below meth c ls C hW hl => ?_)
  exact wX11_ways_0 C ha0 hW (lv_sub hl [0, 1, 2] rfl) hf
set_option maxRecDepth 100000 in
set_option maxHeartbeats 4000000 in
theorem wX11_sure_0 (C : Cx p s m meth c args cX11_sure 3 (some .int) RX11 D ca ad) {res : Int32 × Mm} {N : Nat}  {a0 : Nat} {a1 : Int32} {mm : Mm} {H : Heap} {locs : List Loc} {ls : Array Slot} (ha0 : sX11 a0) (hW : Wd D ca ad s.heap mm H locs) (hl : lv_has ls 3 [(0, .ref (ad a0)), (1, .int a1)]) (hf : fX11_sure N a0 a1 mm = some res) : W p l e (rmX11_sure) s m args below meth c H locs 0 0 (MQ below (QI D ca ad res) args s 0 0 (AA ad)) (F0 m 0 ls []) := by
  unfold fX11_sure at hf
  refine lv_aload_n C.1 C.2.1 dX11_sure_0 rfl (lv_at hl 0 rfl) ?_
  refine lv_iload_n C.1 C.2.1 dX11_sure_1 rfl (lv_at hl 1 rfl) ?_
  obtain ⟨x1, m2, r3, hf⟩ := bd2_s hf
  refine x_cr hW (x_runV C hW [.int a1] [] (ha0).1 (ha0).2.1 kX11.1 kvX11_rowOf q_365 (tX11_rowOf l C.2.2.2.2.2.2.1 ha0 r3) rfl rfl ⟨by decide, by decide⟩ rfl hl.1 rfl (Nat.le_of_ble_eq_true rfl) dX11_sure_2) (fun H locs hW => ?_)
  refine x_astore_n (lv' := [(2, va_re ad x1), (0, .ref (ad a0)), (1, .int a1)]) C dX11_sure_5 rfl hl (by decide) rfl (fun ls hl => ?_)
  refine x_aload_n C dX11_sure_6 rfl (lv_at hl 0 rfl) ?_
  refine x_ifnonnull C (tgt := 12) dX11_sure_7 (by decide) (fun n5 => ?_) (fun z4 n5 => ?_)
  · subst n5
    have hf := cs_n hf
    refine lv_iconst (v := (-1)) C.1 C.2.1 dX11_sure_10 (by decide) ?_
    cases hf
    exact x_iret C hW dX11_sure_11
  · subst n5
    have hf := cs_q hf
    refine lv_aload_n C.1 C.2.1 dX11_sure_12 rfl (lv_at hl 1 rfl) ?_
    refine lv_aload_n C.1 C.2.1 dX11_sure_13 rfl (lv_at hl 0 rfl) ?_
    refine lv_iconst (v := 0) C.1 C.2.1 dX11_sure_14 (by decide) ?_
    obtain ⟨x6, m7, r8, hf⟩ := bd2_s hf
    refine x_ci hW (x_runV C hW [.ref (ad z4), .int 0] [] (ha0).1 (ha0).2.1 kX11.1 kvX11_isWrong q_605 (tX11_isWrong l C.2.2.2.2.2.2.1 ha0 ((gX11_rowOf ha0 r3) z4 rfl) r8) rfl rfl ⟨by decide, by decide⟩ rfl hl.1 rfl (Nat.le_of_ble_eq_true rfl) dX11_sure_15) (fun H locs hW => ?_)
    refine lv_if_eq (tgt := 24) C.1 C.2.1 dX11_sure_18 (by decide) (fun c9 => ?_) (fun c9 => ?_)
    · have hf := if_t c9 hf
      refine lv_aload_n C.1 C.2.1 dX11_sure_24 rfl (lv_at hl 1 rfl) ?_
      refine x_getr C hW (ha0).1 (ha0).2.1 (j := 8) rfl kX11 (by decide) rfl q_317 dX11_sure_25 ?_
      refine lv_aload_n C.1 C.2.1 dX11_sure_28 rfl (lv_at hl 1 rfl) ?_
      refine x_getr C hW (ha0).1 (ha0).2.1 (j := 2) rfl kX11 (by decide) rfl q_311 dX11_sure_29 ?_
      refine lv_aload_n C.1 C.2.1 dX11_sure_32 rfl (lv_at hl 0 rfl) ?_
      refine x_getr C hW (((gX11_rowOf ha0 r3) z4 rfl)).1 (((gX11_rowOf ha0 r3) z4 rfl)).2.1 (j := 0) rfl kX6 (by decide) rfl q_300 dX11_sure_33 ?_
      refine lv_iconst (v := (-1)) C.1 C.2.1 dX11_sure_36 (by decide) ?_
      obtain ⟨x10, m11, r12, hf⟩ := bd2_s hf
      refine x_ci hW (x_runV C hW [.ref (ad (fr a0 2)), .ref (ad (fr z4 0)), .int (-1)] [] (ha0.2.2.2.2.2.2.2.2.2.2.1).1 (ha0.2.2.2.2.2.2.2.2.2.2.1).2.1 kX1.1 kvX1_leastFor q_690 (tX1_leastFor l C.2.2.2.2.2.2.1 ha0.2.2.2.2.2.2.2.2.2.2.1 ha0.2.2.2.2.1 (((gX11_rowOf ha0 r3) z4 rfl).2.2) r12) rfl rfl ⟨by decide, by decide⟩ rfl hl.1 rfl (Nat.le_of_ble_eq_true rfl) dX11_sure_37) (fun H locs hW => ?_)
      cases hf
      exact x_iret C hW dX11_sure_40
    · have hf := if_f c9 hf
      refine lv_bipush (v := (-3)) C.1 C.2.1 dX11_sure_21 (by decide) ?_
      cases hf
      exact x_iret C hW dX11_sure_23
set_option maxRecDepth 100000 in
set_option maxHeartbeats 4000000 in
theorem tX11_sure (l : Launch) {D : va_G} {ca ad : Nat → Nat} (hi : Inj ad) {N : Nat} {a0 : Nat} {a1 : Int32} {mm : Mm} {res : Int32 × Mm} (ha0 : sX11 a0) (hf : fX11_sure N a0 a1 mm = some res) : Met l yX11_sure (WS yX11_sure cX11_sure 3 (some .int)) (rmX11_sure) (va_Pc [.ref (ad a0), .int a1] (WB D ca ad mm)) (QI D ca ad res) 0 0 (AA ad) := by
  refine x_start hi (by decide) rfl (Nat.le_of_ble_eq_true rfl) (fun p e s m args below meth c ls C hW hl => ?_)
  exact wX11_sure_0 C ha0 hW (lv_sub hl [0, 1] rfl) hf
set_option maxRecDepth 100000 in
set_option maxHeartbeats 4000000 in
theorem wX11_isTooMuch_0 (C : Cx p s m meth c args cX11_isTooMuch 2 (some .boolean) RX11 D ca ad) {res : Int32 × Mm} {N : Nat}  {a0 : Nat} {a1 : Int32} {mm : Mm} {H : Heap} {locs : List Loc} {ls : Array Slot} (ha0 : sX11 a0) (hW : Wd D ca ad s.heap mm H locs) (hl : lv_has ls 2 [(0, .ref (ad a0)), (1, .int a1)]) (hf : fX11_isTooMuch N a0 a1 mm = some res) : W p l e (rmX11_isTooMuch) s m args below meth c H locs 0 0 (MQ below (QI D ca ad res) args s 0 0 (AA ad)) (F0 m 0 ls []) := by
  unfold fX11_isTooMuch at hf
  refine lv_aload_n C.1 C.2.1 dX11_isTooMuch_0 rfl (lv_at hl 0 rfl) ?_
  refine x_getr C hW (ha0).1 (ha0).2.1 (j := 2) rfl kX11 (by decide) rfl q_311 dX11_isTooMuch_1 ?_
  refine x_getr C hW (ha0.2.2.2.2.1).1 (ha0.2.2.2.2.1).2.1 (j := 1) rfl kX0 (by decide) rfl q_63 dX11_isTooMuch_4 ?_
  refine lv_iload_n C.1 C.2.1 dX11_isTooMuch_7 rfl (lv_at hl 1 rfl) ?_
  obtain ⟨g1, hf⟩ := gd_s hf
  refine x_iald C hW ha0.2.2.2.2.1.2.2.2.1 g1 dX11_isTooMuch_8 ?_
  refine lv_bipush (v := 10) C.1 C.2.1 dX11_isTooMuch_9 (by decide) ?_
  refine lv_icmp_gt (tgt := 25) C.1 C.2.1 dX11_isTooMuch_11 (by decide) (fun c2 => ?_) (fun c2 => ?_)
  · have hf := if_t c2 hf
    refine lv_iconst (v := 1) C.1 C.2.1 dX11_isTooMuch_25 (by decide) ?_
    refine lv_goto (tgt := 30) C.1 C.2.1 dX11_isTooMuch_26 (by decide) ?_
    cases hf
    exact x_zret C hW (by decide) dX11_isTooMuch_30
  · have hf := if_f c2 hf
    refine lv_aload_n C.1 C.2.1 dX11_isTooMuch_14 rfl (lv_at hl 0 rfl) ?_
    refine x_getr C hW (ha0).1 (ha0).2.1 (j := 2) rfl kX11 (by decide) rfl q_311 dX11_isTooMuch_15 ?_
    refine x_geti C hW (ha0.2.2.2.2.1).1 (ha0.2.2.2.2.1).2.1 (j := 5) rfl kX0 (by decide) rfl q_73 dX11_isTooMuch_18 ?_
    refine lv_iconst (v := 4) C.1 C.2.1 dX11_isTooMuch_21 (by decide) ?_
    refine lv_icmp_le (tgt := 29) C.1 C.2.1 dX11_isTooMuch_22 (by decide) (fun c3 => ?_) (fun c3 => ?_)
    · have hf := if_t c3 hf
      refine lv_iconst (v := 0) C.1 C.2.1 dX11_isTooMuch_29 (by decide) ?_
      cases hf
      exact x_zret C hW (by decide) dX11_isTooMuch_30
    · have hf := if_f c3 hf
      refine lv_iconst (v := 1) C.1 C.2.1 dX11_isTooMuch_25 (by decide) ?_
      refine lv_goto (tgt := 30) C.1 C.2.1 dX11_isTooMuch_26 (by decide) ?_
      cases hf
      exact x_zret C hW (by decide) dX11_isTooMuch_30
set_option maxRecDepth 100000 in
set_option maxHeartbeats 4000000 in
theorem tX11_isTooMuch (l : Launch) {D : va_G} {ca ad : Nat → Nat} (hi : Inj ad) {N : Nat} {a0 : Nat} {a1 : Int32} {mm : Mm} {res : Int32 × Mm} (ha0 : sX11 a0) (hf : fX11_isTooMuch N a0 a1 mm = some res) : Met l yX11_isTooMuch (WS yX11_isTooMuch cX11_isTooMuch 2 (some .boolean)) (rmX11_isTooMuch) (va_Pc [.ref (ad a0), .int a1] (WB D ca ad mm)) (QI D ca ad res) 0 0 (AA ad) := by
  refine x_start hi (by decide) rfl (Nat.le_of_ble_eq_true rfl) (fun p e s m args below meth c ls C hW hl => ?_)
  exact wX11_isTooMuch_0 C ha0 hW (lv_sub hl [0, 1] rfl) hf
set_option maxRecDepth 100000 in
set_option maxHeartbeats 4000000 in
theorem wX11_safe_114 (C : Cx p s m meth c args cX11_safe 7 (some .int) RX11 D ca ad) {res : Int32 × Mm} {N : Nat} {k54 : Nat → Nat → Int32 → Int32 → Int32 → Mm → Option (Int32 × Mm)} (hk54 : ∀ (a0 : Nat) (a2 : Nat) (a3 : Int32) (a4 : Int32) (a5 : Int32) (mm : Mm) (H : Heap) (locs : List Loc) (ls : Array Slot), (sX11 a0) → (sX6 a2) → Wd D ca ad s.heap mm H locs → lv_has ls 7 [(0, .ref (ad a0)), (2, .ref (ad a2)), (3, .int a3), (4, .int a4), (5, .int a5)] → k54 a0 a2 a3 a4 a5 mm = some res → W p l e (rmX11_safe) s m args below meth c H locs 0 0 (MQ below (QI D ca ad res) args s 0 0 (AA ad)) (F0 m 54 ls [])) {a0 : Nat} {a2 : Nat} {a3 : Int32} {a5 : Int32} {mm : Mm} {H : Heap} {locs : List Loc} {ls : Array Slot} (ha0 : sX11 a0) (ha2 : sX6 a2) (hW : Wd D ca ad s.heap mm H locs) (hl : lv_has ls 7 [(0, .ref (ad a0)), (2, .ref (ad a2)), (3, .int a3), (5, .int a5)]) (hf : fX11_safe_114 N k54 a0 a2 a3 a5 mm = some res) : W p l e (rmX11_safe) s m args below meth c H locs 0 0 (MQ below (QI D ca ad res) args s 0 0 (AA ad)) (F0 m 114 ls []) := by
  unfold fX11_safe_114 at hf
  refine lv_aload_n C.1 C.2.1 dX11_safe_114 rfl (lv_at hl 0 rfl) ?_
  refine x_getr C hW (ha0).1 (ha0).2.1 (j := 6) rfl kX11 (by decide) rfl q_315 dX11_safe_115 ?_
  obtain ⟨x1, m2, r3, hf⟩ := bd2_s hf
  refine x_ci hW (x_runV C hW [] [] (ha0.2.2.2.2.2.2.2.2.1).1 (ha0.2.2.2.2.2.2.2.2.1).2.1 kX3.1 kvX3_next q_675 (tX3_next l C.2.2.2.2.2.2.1 ha0.2.2.2.2.2.2.2.2.1 r3) rfl rfl ⟨by decide, by decide⟩ rfl hl.1 rfl (Nat.le_of_ble_eq_true rfl) dX11_safe_118) (fun H locs hW => ?_)
  refine lv_istore (lv' := [(4, .int x1), (0, .ref (ad a0)), (2, .ref (ad a2)), (3, .int a3), (5, .int a5)]) C.1 C.2.1 dX11_safe_121 hl (by decide) rfl (fun ls hl => ?_)
  refine lv_iinc (v := (a5 + 1)) (lv' := [(5, .int (a5 + 1)), (4, .int x1), (0, .ref (ad a0)), (2, .ref (ad a2)), (3, .int a3)]) C.1 C.2.1 dX11_safe_123 hl (k := 4) rfl rfl (by decide) rfl (fun ls hl => ?_)
  refine lv_goto (tgt := 54) C.1 C.2.1 dX11_safe_126 (by decide) ?_
  exact hk54 _ _ _ _ _ _ _ _ _ ha0 ha2 hW (lv_sub hl [2, 3, 4, 1, 0] rfl) hf
set_option maxRecDepth 100000 in
set_option maxHeartbeats 4000000 in
theorem wX11_safe_54 (C : Cx p s m meth c args cX11_safe 7 (some .int) RX11 D ca ad) {res : Int32 × Mm} {N : Nat}  : ∀ (n : Nat) {a0 : Nat} {a2 : Nat} {a3 : Int32} {a4 : Int32} {a5 : Int32} {mm : Mm} {H : Heap} {locs : List Loc} {ls : Array Slot}, (sX11 a0) → (sX6 a2) → Wd D ca ad s.heap mm H locs → lv_has ls 7 [(0, .ref (ad a0)), (2, .ref (ad a2)), (3, .int a3), (4, .int a4), (5, .int a5)] → fX11_safe_54 N n a0 a2 a3 a4 a5 mm = some res → W p l e (rmX11_safe) s m args below meth c H locs 0 0 (MQ below (QI D ca ad res) args s 0 0 (AA ad)) (F0 m 54 ls []) := by
  intro n
  induction n with
  | zero => intro a0 a2 a3 a4 a5 mm H locs ls ha0 ha2 hW hl hf; cases hf
  | succ n ih =>
    intro a0 a2 a3 a4 a5 mm H locs ls ha0 ha2 hW hl hf
    have hk54 : ∀ (a0 : Nat) (a2 : Nat) (a3 : Int32) (a4 : Int32) (a5 : Int32) (mm : Mm) (H : Heap) (locs : List Loc) (ls : Array Slot), (sX11 a0) → (sX6 a2) → Wd D ca ad s.heap mm H locs → lv_has ls 7 [(0, .ref (ad a0)), (2, .ref (ad a2)), (3, .int a3), (4, .int a4), (5, .int a5)] → (fX11_safe_54 N n) a0 a2 a3 a4 a5 mm = some res → W p l e (rmX11_safe) s m args below meth c H locs 0 0 (MQ below (QI D ca ad res) args s 0 0 (AA ad)) (F0 m 54 ls []) := fun a0 a2 a3 a4 a5 mm H locs ls ha0 ha2 hW hl hf => ih ha0 ha2 hW hl hf
    unfold fX11_safe_54 at hf
    try dsimp only at hf
    refine lv_iload C.1 C.2.1 dX11_safe_54 (lv_at hl 3 rfl) ?_
    refine lv_if_lt (tgt := 129) C.1 C.2.1 dX11_safe_56 (by decide) (fun c4 => ?_) (fun c4 => ?_)
    · have hf := if_t c4 hf
      refine lv_iload_n C.1 C.2.1 dX11_safe_129 rfl (lv_at hl 2 rfl) ?_
      cases hf
      exact x_iret C hW dX11_safe_130
    · have hf := if_f c4 hf
      refine lv_iload C.1 C.2.1 dX11_safe_59 (lv_at hl 4 rfl) ?_
      refine lv_ldc C.1 C.2.1 C.2.2.2.1 (C.2.2.2.2.1 _ q_674) dX11_safe_61 ?_
      refine lv_icmp_ge (tgt := 129) C.1 C.2.1 dX11_safe_63 (by decide) (fun c5 => ?_) (fun c5 => ?_)
      · have hf := if_t c5 hf
        refine lv_iload_n C.1 C.2.1 dX11_safe_129 rfl (lv_at hl 2 rfl) ?_
        cases hf
        exact x_iret C hW dX11_safe_130
      · have hf := if_f c5 hf
        refine lv_aload_n C.1 C.2.1 dX11_safe_66 rfl (lv_at hl 0 rfl) ?_
        refine x_getr C hW (ha0).1 (ha0).2.1 (j := 8) rfl kX11 (by decide) rfl q_317 dX11_safe_67 ?_
        refine lv_aload_n C.1 C.2.1 dX11_safe_70 rfl (lv_at hl 0 rfl) ?_
        refine x_getr C hW (ha0).1 (ha0).2.1 (j := 2) rfl kX11 (by decide) rfl q_311 dX11_safe_71 ?_
        refine lv_aload_n C.1 C.2.1 dX11_safe_74 rfl (lv_at hl 0 rfl) ?_
        refine x_getr C hW (ha0).1 (ha0).2.1 (j := 6) rfl kX11 (by decide) rfl q_315 dX11_safe_75 ?_
        refine x_getr C hW (ha0.2.2.2.2.2.2.2.2.1).1 (ha0.2.2.2.2.2.2.2.2.1).2.1 (j := 0) rfl kX3 (by decide) rfl q_166 dX11_safe_78 ?_
        refine lv_iload_n C.1 C.2.1 dX11_safe_81 rfl (lv_at hl 2 rfl) ?_
        obtain ⟨x6, m7, r8, hf⟩ := bd2_s hf
        refine x_ci hW (x_runV C hW [.ref (ad (fr a0 2)), .ref (ad (fr (fr a0 6) 0)), .int a3] [] (ha0.2.2.2.2.2.2.2.2.2.2.1).1 (ha0.2.2.2.2.2.2.2.2.2.2.1).2.1 kX1.1 kvX1_leastFor q_690 (tX1_leastFor l C.2.2.2.2.2.2.1 ha0.2.2.2.2.2.2.2.2.2.2.1 ha0.2.2.2.2.1 ha0.2.2.2.2.2.2.2.2.1.2.2 r8) rfl rfl ⟨by decide, by decide⟩ rfl hl.1 rfl (Nat.le_of_ble_eq_true rfl) dX11_safe_82) (fun H locs hW => ?_)
        refine lv_istore (lv' := [(6, .int x6), (0, .ref (ad a0)), (2, .ref (ad a2)), (3, .int a3), (4, .int a4), (5, .int a5)]) C.1 C.2.1 dX11_safe_85 hl (by decide) rfl (fun ls hl => ?_)
        refine lv_iload C.1 C.2.1 dX11_safe_87 (lv_at hl 0 rfl) ?_
        refine lv_iload_n C.1 C.2.1 dX11_safe_89 rfl (lv_at hl 3 rfl) ?_
        refine lv_icmp_le (tgt := 114) C.1 C.2.1 dX11_safe_90 (by decide) (fun c9 => ?_) (fun c9 => ?_)
        · have hf := if_t c9 hf
          exact wX11_safe_114 C hk54 ha0 ha2 hW (lv_sub hl [1, 2, 3, 5] rfl) hf
        · have hf := if_f c9 hf
          refine lv_iload C.1 C.2.1 dX11_safe_93 (lv_at hl 0 rfl) ?_
          refine lv_istore_n (lv' := [(3, .int x6), (6, .int x6), (0, .ref (ad a0)), (2, .ref (ad a2)), (4, .int a4), (5, .int a5)]) C.1 C.2.1 dX11_safe_95 rfl hl (by decide) rfl (fun ls hl => ?_)
          refine lv_aload_n C.1 C.2.1 dX11_safe_96 rfl (lv_at hl 3 rfl) ?_
          refine lv_aload_n C.1 C.2.1 dX11_safe_97 rfl (lv_at hl 2 rfl) ?_
          refine x_getr C hW (ha0).1 (ha0).2.1 (j := 6) rfl kX11 (by decide) rfl q_315 dX11_safe_98 ?_
          refine x_getr C hW (ha0.2.2.2.2.2.2.2.2.1).1 (ha0.2.2.2.2.2.2.2.2.1).2.1 (j := 0) rfl kX3 (by decide) rfl q_166 dX11_safe_101 ?_
          refine lv_aload_n C.1 C.2.1 dX11_safe_104 rfl (lv_at hl 2 rfl) ?_
          refine x_getr C hW (ha0).1 (ha0).2.1 (j := 2) rfl kX11 (by decide) rfl q_311 dX11_safe_105 ?_
          refine x_geti C hW (ha0.2.2.2.2.1).1 (ha0.2.2.2.2.1).2.1 (j := 5) rfl kX0 (by decide) rfl q_73 dX11_safe_108 ?_
          obtain ⟨x10, m11, r12, hf⟩ := bd2_s hf
          refine x_cv hW (x_runV C hW [.ref (ad (fr (fr a0 6) 0)), .int (rd m7 (fr a0 2) 5)] [] (ha2).1 (ha2).2.1 kX6.1 kvX6_take q_644 (tX6_take l C.2.2.2.2.2.2.1 ha2 ha0.2.2.2.2.2.2.2.2.1.2.2 r12) rfl rfl ⟨by decide, by decide⟩ rfl hl.1 rfl (Nat.le_of_ble_eq_true rfl) dX11_safe_111) (fun H locs hW => ?_)
          exact wX11_safe_114 C hk54 ha0 ha2 hW (lv_sub hl [2, 3, 0, 5] rfl) hf
set_option maxRecDepth 100000 in
set_option maxHeartbeats 4000000 in
theorem wX11_safe_0 (C : Cx p s m meth c args cX11_safe 7 (some .int) RX11 D ca ad) {res : Int32 × Mm} {N : Nat}  {a0 : Nat} {a1 : Int32} {mm : Mm} {H : Heap} {locs : List Loc} {ls : Array Slot} (ha0 : sX11 a0) (hW : Wd D ca ad s.heap mm H locs) (hl : lv_has ls 7 [(0, .ref (ad a0)), (1, .int a1)]) (hf : fX11_safe N a0 a1 mm = some res) : W p l e (rmX11_safe) s m args below meth c H locs 0 0 (MQ below (QI D ca ad res) args s 0 0 (AA ad)) (F0 m 0 ls []) := by
  unfold fX11_safe at hf
  refine lv_aload_n C.1 C.2.1 dX11_safe_0 rfl (lv_at hl 0 rfl) ?_
  refine lv_iload_n C.1 C.2.1 dX11_safe_1 rfl (lv_at hl 1 rfl) ?_
  obtain ⟨x13, m14, r15, hf⟩ := bd2_s hf
  refine x_cr hW (x_runV C hW [.int a1] [] (ha0).1 (ha0).2.1 kX11.1 kvX11_rowOf q_365 (tX11_rowOf l C.2.2.2.2.2.2.1 ha0 r15) rfl rfl ⟨by decide, by decide⟩ rfl hl.1 rfl (Nat.le_of_ble_eq_true rfl) dX11_safe_2) (fun H locs hW => ?_)
  refine x_astore_n (lv' := [(2, va_re ad x13), (0, .ref (ad a0)), (1, .int a1)]) C dX11_safe_5 rfl hl (by decide) rfl (fun ls hl => ?_)
  refine x_aload_n C dX11_safe_6 rfl (lv_at hl 0 rfl) ?_
  refine x_ifnonnull C (tgt := 12) dX11_safe_7 (by decide) (fun n17 => ?_) (fun z16 n17 => ?_)
  · subst n17
    have hf := cs_n hf
    refine lv_iconst (v := (-1)) C.1 C.2.1 dX11_safe_10 (by decide) ?_
    cases hf
    exact x_iret C hW dX11_safe_11
  · subst n17
    have hf := cs_q hf
    refine lv_aload_n C.1 C.2.1 dX11_safe_12 rfl (lv_at hl 1 rfl) ?_
    refine lv_iconst (v := 0) C.1 C.2.1 dX11_safe_13 (by decide) ?_
    obtain ⟨x18, m19, r20, hf⟩ := bd2_s hf
    refine x_ci hW (x_runV C hW [.int 0] [] (ha0).1 (ha0).2.1 kX11.1 kvX11_isTooMuch q_705 (tX11_isTooMuch l C.2.2.2.2.2.2.1 ha0 r20) rfl rfl ⟨by decide, by decide⟩ rfl hl.1 rfl (Nat.le_of_ble_eq_true rfl) dX11_safe_14) (fun H locs hW => ?_)
    refine lv_if_eq (tgt := 23) C.1 C.2.1 dX11_safe_17 (by decide) (fun c21 => ?_) (fun c21 => ?_)
    · have hf := if_t c21 hf
      refine lv_aload_n C.1 C.2.1 dX11_safe_23 rfl (lv_at hl 1 rfl) ?_
      refine x_getr C hW (ha0).1 (ha0).2.1 (j := 6) rfl kX11 (by decide) rfl q_315 dX11_safe_24 ?_
      refine lv_aload_n C.1 C.2.1 dX11_safe_27 rfl (lv_at hl 1 rfl) ?_
      refine x_getr C hW (ha0).1 (ha0).2.1 (j := 2) rfl kX11 (by decide) rfl q_311 dX11_safe_28 ?_
      refine x_geti C hW (ha0.2.2.2.2.1).1 (ha0.2.2.2.2.1).2.1 (j := 5) rfl kX0 (by decide) rfl q_73 dX11_safe_31 ?_
      refine lv_aload_n C.1 C.2.1 dX11_safe_34 rfl (lv_at hl 1 rfl) ?_
      refine x_getr C hW (ha0).1 (ha0).2.1 (j := 2) rfl kX11 (by decide) rfl q_311 dX11_safe_35 ?_
      refine x_getr C hW (ha0.2.2.2.2.1).1 (ha0.2.2.2.2.1).2.1 (j := 1) rfl kX0 (by decide) rfl q_63 dX11_safe_38 ?_
      refine lv_iconst (v := 0) C.1 C.2.1 dX11_safe_41 (by decide) ?_
      obtain ⟨g22, hf⟩ := gd_s hf
      refine x_iald C hW ha0.2.2.2.2.1.2.2.2.1 g22 dX11_safe_42 ?_
      obtain ⟨x23, m24, r25, hf⟩ := bd2_s hf
      refine x_cv hW (x_runV C hW [.int (rd m19 (fr a0 2) 5), .int (rd m19 (fr (fr a0 2) 1) ((0 : Int32).toNatClampNeg))] [] (ha0.2.2.2.2.2.2.2.2.1).1 (ha0.2.2.2.2.2.2.2.2.1).2.1 kX3.1 kvX3_begin q_668 (tX3_begin l C.2.2.2.2.2.2.1 ha0.2.2.2.2.2.2.2.2.1 r25) rfl rfl ⟨by decide, by decide⟩ rfl hl.1 rfl (Nat.le_of_ble_eq_true rfl) dX11_safe_43) (fun H locs hW => ?_)
      refine lv_iconst (v := (-1)) C.1 C.2.1 dX11_safe_46 (by decide) ?_
      refine lv_istore_n (lv' := [(3, .int (-1)), (2, .ref (ad z16)), (0, .ref (ad a0)), (1, .int a1)]) C.1 C.2.1 dX11_safe_47 rfl hl (by decide) rfl (fun ls hl => ?_)
      refine lv_iconst (v := 0) C.1 C.2.1 dX11_safe_48 (by decide) ?_
      refine lv_istore (lv' := [(4, .int 0), (3, .int (-1)), (2, .ref (ad z16)), (0, .ref (ad a0)), (1, .int a1)]) C.1 C.2.1 dX11_safe_49 hl (by decide) rfl (fun ls hl => ?_)
      refine lv_iconst (v := 0) C.1 C.2.1 dX11_safe_51 (by decide) ?_
      refine lv_istore (lv' := [(5, .int 0), (4, .int 0), (3, .int (-1)), (2, .ref (ad z16)), (0, .ref (ad a0)), (1, .int a1)]) C.1 C.2.1 dX11_safe_52 hl (by decide) rfl (fun ls hl => ?_)
      exact wX11_safe_54 C  N ha0 ((gX11_rowOf ha0 r15) z16 rfl) hW (lv_sub hl [4, 3, 2, 1, 0] rfl) hf
    · have hf := if_f c21 hf
      refine lv_bipush (v := (-6)) C.1 C.2.1 dX11_safe_20 (by decide) ?_
      cases hf
      exact x_iret C hW dX11_safe_22
set_option maxRecDepth 100000 in
set_option maxHeartbeats 4000000 in
theorem tX11_safe (l : Launch) {D : va_G} {ca ad : Nat → Nat} (hi : Inj ad) {N : Nat} {a0 : Nat} {a1 : Int32} {mm : Mm} {res : Int32 × Mm} (ha0 : sX11 a0) (hf : fX11_safe N a0 a1 mm = some res) : Met l yX11_safe (WS yX11_safe cX11_safe 7 (some .int)) (rmX11_safe) (va_Pc [.ref (ad a0), .int a1] (WB D ca ad mm)) (QI D ca ad res) 0 0 (AA ad) := by
  refine x_start hi (by decide) rfl (Nat.le_of_ble_eq_true rfl) (fun p e s m args below meth c ls C hW hl => ?_)
  exact wX11_safe_0 C ha0 hW (lv_sub hl [0, 1] rfl) hf
set_option maxRecDepth 100000 in
set_option maxHeartbeats 4000000 in
theorem wX11_mixed_0 (C : Cx p s m meth c args cX11_mixed 7 (some .int) RX11 D ca ad) {res : Int32 × Mm} {N : Nat}  {a0 : Nat} {a1 : Int32} {a2 : Int32} {a3 : Int32} {a4 : Int32} {mm : Mm} {H : Heap} {locs : List Loc} {ls : Array Slot} (ha0 : sX11 a0) (hW : Wd D ca ad s.heap mm H locs) (hl : lv_has ls 7 [(0, .ref (ad a0)), (1, .int a1), (2, .int a2), (3, .int a3), (4, .int a4)]) (hf : fX11_mixed N a0 a1 a2 a3 a4 mm = some res) : W p l e (rmX11_mixed) s m args below meth c H locs 0 0 (MQ below (QI D ca ad res) args s 0 0 (AA ad)) (F0 m 0 ls []) := by
  unfold fX11_mixed at hf
  refine lv_aload_n C.1 C.2.1 dX11_mixed_0 rfl (lv_at hl 0 rfl) ?_
  refine lv_iload_n C.1 C.2.1 dX11_mixed_1 rfl (lv_at hl 1 rfl) ?_
  obtain ⟨x1, m2, r3, hf⟩ := bd2_s hf
  refine x_cr hW (x_runV C hW [.int a1] [] (ha0).1 (ha0).2.1 kX11.1 kvX11_rowOf q_365 (tX11_rowOf l C.2.2.2.2.2.2.1 ha0 r3) rfl rfl ⟨by decide, by decide⟩ rfl hl.1 rfl (Nat.le_of_ble_eq_true rfl) dX11_mixed_2) (fun H locs hW => ?_)
  refine x_astore (lv' := [(5, va_re ad x1), (0, .ref (ad a0)), (1, .int a1), (2, .int a2), (3, .int a3), (4, .int a4)]) C dX11_mixed_5 hl (by decide) rfl (fun ls hl => ?_)
  refine lv_aload_n C.1 C.2.1 dX11_mixed_7 rfl (lv_at hl 1 rfl) ?_
  refine lv_iload_n C.1 C.2.1 dX11_mixed_8 rfl (lv_at hl 3 rfl) ?_
  obtain ⟨x4, m5, r6, hf⟩ := bd2_s hf
  refine x_cr hW (x_runV C hW [.int a2] [] (ha0).1 (ha0).2.1 kX11.1 kvX11_rowOf q_365 (tX11_rowOf l C.2.2.2.2.2.2.1 ha0 r6) rfl rfl ⟨by decide, by decide⟩ rfl hl.1 rfl (Nat.le_of_ble_eq_true rfl) dX11_mixed_9) (fun H locs hW => ?_)
  refine x_astore (lv' := [(6, va_re ad x4), (5, va_re ad x1), (0, .ref (ad a0)), (1, .int a1), (2, .int a2), (3, .int a3), (4, .int a4)]) C dX11_mixed_12 hl (by decide) (by cases x1 <;> rfl) (fun ls hl => ?_)
  refine x_aload C dX11_mixed_14 (lv_at hl 1 rfl) ?_
  refine x_ifnull C (tgt := 47) dX11_mixed_16 (by decide) (fun n8 => ?_) (fun z7 n8 => ?_)
  · subst n8
    have hf := cs_n hf
    refine lv_iconst (v := (-1)) C.1 C.2.1 dX11_mixed_47 (by decide) ?_
    cases hf
    exact x_iret C hW dX11_mixed_48
  · subst n8
    have hf := cs_q hf
    refine x_aload C dX11_mixed_19 (lv_at hl 0 rfl) ?_
    refine x_ifnull C (tgt := 47) dX11_mixed_21 (by decide) (fun n10 => ?_) (fun z9 n10 => ?_)
    · subst n10
      have hf := cs_n hf
      refine lv_iconst (v := (-1)) C.1 C.2.1 dX11_mixed_47 (by decide) ?_
      cases hf
      exact x_iret C hW dX11_mixed_48
    · subst n10
      have hf := cs_q hf
      refine lv_iload C.1 C.2.1 dX11_mixed_24 (lv_at hl 6 rfl) ?_
      refine lv_iconst (v := 1) C.1 C.2.1 dX11_mixed_26 (by decide) ?_
      refine lv_icmp_lt (tgt := 47) C.1 C.2.1 dX11_mixed_27 (by decide) (fun c11 => ?_) (fun c11 => ?_)
      · have hf := if_t c11 hf
        refine lv_iconst (v := (-1)) C.1 C.2.1 dX11_mixed_47 (by decide) ?_
        cases hf
        exact x_iret C hW dX11_mixed_48
      · have hf := if_f c11 hf
        refine lv_iload C.1 C.2.1 dX11_mixed_30 (lv_at hl 6 rfl) ?_
        refine lv_bipush (v := 99) C.1 C.2.1 dX11_mixed_32 (by decide) ?_
        refine lv_icmp_gt (tgt := 47) C.1 C.2.1 dX11_mixed_34 (by decide) (fun c12 => ?_) (fun c12 => ?_)
        · have hf := if_t c12 hf
          refine lv_iconst (v := (-1)) C.1 C.2.1 dX11_mixed_47 (by decide) ?_
          cases hf
          exact x_iret C hW dX11_mixed_48
        · have hf := if_f c12 hf
          refine lv_iload_n C.1 C.2.1 dX11_mixed_37 rfl (lv_at hl 5 rfl) ?_
          refine lv_if_lt (tgt := 47) C.1 C.2.1 dX11_mixed_38 (by decide) (fun c13 => ?_) (fun c13 => ?_)
          · have hf := if_t c13 hf
            refine lv_iconst (v := (-1)) C.1 C.2.1 dX11_mixed_47 (by decide) ?_
            cases hf
            exact x_iret C hW dX11_mixed_48
          · have hf := if_f c13 hf
            refine lv_iload_n C.1 C.2.1 dX11_mixed_41 rfl (lv_at hl 5 rfl) ?_
            refine lv_iload C.1 C.2.1 dX11_mixed_42 (lv_at hl 6 rfl) ?_
            refine lv_icmp_le (tgt := 49) C.1 C.2.1 dX11_mixed_44 (by decide) (fun c14 => ?_) (fun c14 => ?_)
            · have hf := if_t c14 hf
              refine lv_aload_n C.1 C.2.1 dX11_mixed_49 rfl (lv_at hl 2 rfl) ?_
              refine lv_iconst (v := 1) C.1 C.2.1 dX11_mixed_50 (by decide) ?_
              obtain ⟨x15, m16, r17, hf⟩ := bd2_s hf
              refine x_ci hW (x_runV C hW [.int 1] [] (ha0).1 (ha0).2.1 kX11.1 kvX11_isTooMuch q_705 (tX11_isTooMuch l C.2.2.2.2.2.2.1 ha0 r17) rfl rfl ⟨by decide, by decide⟩ rfl hl.1 rfl (Nat.le_of_ble_eq_true rfl) dX11_mixed_51) (fun H locs hW => ?_)
              refine lv_if_eq (tgt := 60) C.1 C.2.1 dX11_mixed_54 (by decide) (fun c18 => ?_) (fun c18 => ?_)
              · have hf := if_t c18 hf
                refine lv_aload_n C.1 C.2.1 dX11_mixed_60 rfl (lv_at hl 2 rfl) ?_
                refine lv_aload C.1 C.2.1 dX11_mixed_61 (lv_at hl 1 rfl) ?_
                refine lv_iconst (v := 0) C.1 C.2.1 dX11_mixed_63 (by decide) ?_
                refine lv_aload C.1 C.2.1 dX11_mixed_64 (lv_at hl 0 rfl) ?_
                refine lv_iconst (v := 0) C.1 C.2.1 dX11_mixed_66 (by decide) ?_
                obtain ⟨x19, m20, r21, hf⟩ := bd2_s hf
                refine x_ci hW (x_runV C hW [.ref (ad z7), .int 0, .ref (ad z9), .int 0] [] (ha0).1 (ha0).2.1 kX11.1 kvX11_isWrong_ q_549 (tX11_isWrong_ l C.2.2.2.2.2.2.1 ha0 ((gX11_rowOf ha0 r3) z7 rfl) ((gX11_rowOf ha0 r6) z9 rfl) r21) rfl rfl ⟨by decide, by decide⟩ rfl hl.1 rfl (Nat.le_of_ble_eq_true rfl) dX11_mixed_67) (fun H locs hW => ?_)
                refine lv_if_eq (tgt := 76) C.1 C.2.1 dX11_mixed_70 (by decide) (fun c22 => ?_) (fun c22 => ?_)
                · have hf := if_t c22 hf
                  refine lv_aload_n C.1 C.2.1 dX11_mixed_76 rfl (lv_at hl 2 rfl) ?_
                  refine x_getr C hW (ha0).1 (ha0).2.1 (j := 9) rfl kX11 (by decide) rfl q_318 dX11_mixed_77 ?_
                  refine lv_aload_n C.1 C.2.1 dX11_mixed_80 rfl (lv_at hl 2 rfl) ?_
                  refine x_getr C hW (ha0).1 (ha0).2.1 (j := 2) rfl kX11 (by decide) rfl q_311 dX11_mixed_81 ?_
                  refine lv_aload_n C.1 C.2.1 dX11_mixed_84 rfl (lv_at hl 2 rfl) ?_
                  refine x_getr C hW (ha0).1 (ha0).2.1 (j := 6) rfl kX11 (by decide) rfl q_315 dX11_mixed_85 ?_
                  refine lv_aload C.1 C.2.1 dX11_mixed_88 (lv_at hl 1 rfl) ?_
                  refine x_getr C hW (((gX11_rowOf ha0 r3) z7 rfl)).1 (((gX11_rowOf ha0 r3) z7 rfl)).2.1 (j := 0) rfl kX6 (by decide) rfl q_300 dX11_mixed_90 ?_
                  refine lv_aload C.1 C.2.1 dX11_mixed_93 (lv_at hl 0 rfl) ?_
                  refine x_getr C hW (((gX11_rowOf ha0 r6) z9 rfl)).1 (((gX11_rowOf ha0 r6) z9 rfl)).2.1 (j := 0) rfl kX6 (by decide) rfl q_300 dX11_mixed_95 ?_
                  obtain ⟨x23, m24, r25, hf⟩ := bd2_s hf
                  refine x_cv hW (x_runV C hW [.ref (ad (fr a0 2)), .ref (ad (fr a0 6)), .ref (ad (fr z7 0)), .ref (ad (fr z9 0))] [] (ha0.2.2.2.2.2.2.2.2.2.2.2.1).1 (ha0.2.2.2.2.2.2.2.2.2.2.2.1).2.1 kX4.1 kvX4_weighAll q_713 (tX4_weighAll l C.2.2.2.2.2.2.1 ha0.2.2.2.2.2.2.2.2.2.2.2.1 ha0.2.2.2.2.1 ha0.2.2.2.2.2.2.2.2.1 (((gX11_rowOf ha0 r3) z7 rfl).2.2) (((gX11_rowOf ha0 r6) z9 rfl).2.2) r25) rfl rfl ⟨by decide, by decide⟩ rfl hl.1 rfl (Nat.le_of_ble_eq_true rfl) dX11_mixed_98) (fun H locs hW => ?_)
                  refine lv_aload_n C.1 C.2.1 dX11_mixed_101 rfl (lv_at hl 2 rfl) ?_
                  refine lv_aload_n C.1 C.2.1 dX11_mixed_102 rfl (lv_at hl 2 rfl) ?_
                  refine x_getr C hW (ha0).1 (ha0).2.1 (j := 9) rfl kX11 (by decide) rfl q_318 dX11_mixed_103 ?_
                  refine lv_iload_n C.1 C.2.1 dX11_mixed_106 rfl (lv_at hl 5 rfl) ?_
                  refine lv_iload C.1 C.2.1 dX11_mixed_107 (lv_at hl 6 rfl) ?_
                  obtain ⟨x26, m27, r28, hf⟩ := bd2_s hf
                  refine x_ci hW (x_runV C hW [.int a3, .int a4] [.ref (ad a0)] (ha0.2.2.2.2.2.2.2.2.2.2.2.1).1 (ha0.2.2.2.2.2.2.2.2.2.2.2.1).2.1 kX4.1 kvX4_leastBy q_723 (tX4_leastBy l C.2.2.2.2.2.2.1 ha0.2.2.2.2.2.2.2.2.2.2.2.1 r28) rfl rfl ⟨by decide, by decide⟩ rfl hl.1 rfl (Nat.le_of_ble_eq_true rfl) dX11_mixed_109) (fun H locs hW => ?_)
                  refine lv_i2l C.1 C.2.1 dX11_mixed_112 rfl ?_
                  refine lv_iload C.1 C.2.1 dX11_mixed_113 (lv_at hl 6 rfl) ?_
                  refine lv_i2l C.1 C.2.1 dX11_mixed_115 rfl ?_
                  obtain ⟨x29, m30, r31, hf⟩ := bd2_s hf
                  refine x_cv hW (x_runV C hW [.long x26.toInt64, .long a4.toInt64] [] (ha0).1 (ha0).2.1 kX11.1 kvX11_fraction q_679 (tX11_fraction l C.2.2.2.2.2.2.1 ha0 r31) rfl rfl ⟨by decide, by decide⟩ rfl hl.1 rfl (Nat.le_of_ble_eq_true rfl) dX11_mixed_116) (fun H locs hW => ?_)
                  refine lv_iconst (v := 1) C.1 C.2.1 dX11_mixed_119 (by decide) ?_
                  cases hf
                  exact x_iret C hW dX11_mixed_120
                · have hf := if_f c22 hf
                  refine lv_bipush (v := (-3)) C.1 C.2.1 dX11_mixed_73 (by decide) ?_
                  cases hf
                  exact x_iret C hW dX11_mixed_75
              · have hf := if_f c18 hf
                refine lv_bipush (v := (-6)) C.1 C.2.1 dX11_mixed_57 (by decide) ?_
                cases hf
                exact x_iret C hW dX11_mixed_59
            · have hf := if_f c14 hf
              refine lv_iconst (v := (-1)) C.1 C.2.1 dX11_mixed_47 (by decide) ?_
              cases hf
              exact x_iret C hW dX11_mixed_48
set_option maxRecDepth 100000 in
set_option maxHeartbeats 4000000 in
theorem tX11_mixed (l : Launch) {D : va_G} {ca ad : Nat → Nat} (hi : Inj ad) {N : Nat} {a0 : Nat} {a1 : Int32} {a2 : Int32} {a3 : Int32} {a4 : Int32} {mm : Mm} {res : Int32 × Mm} (ha0 : sX11 a0) (hf : fX11_mixed N a0 a1 a2 a3 a4 mm = some res) : Met l yX11_mixed (WS yX11_mixed cX11_mixed 7 (some .int)) (rmX11_mixed) (va_Pc [.ref (ad a0), .int a1, .int a2, .int a3, .int a4] (WB D ca ad mm)) (QI D ca ad res) 0 0 (AA ad) := by
  refine x_start hi (by decide) rfl (Nat.le_of_ble_eq_true rfl) (fun p e s m args below meth c ls C hW hl => ?_)
  exact wX11_mixed_0 C ha0 hW (lv_sub hl [0, 1, 2, 3, 4] rfl) hf
set_option maxRecDepth 100000 in
set_option maxHeartbeats 4000000 in
theorem wX11_mix_0 (C : Cx p s m meth c args cX11_mix 6 (some .int) RX11 D ca ad) {res : Int32 × Mm} {N : Nat}  {a0 : Nat} {a1 : Int32} {a2 : Int32} {mm : Mm} {H : Heap} {locs : List Loc} {ls : Array Slot} (ha0 : sX11 a0) (hW : Wd D ca ad s.heap mm H locs) (hl : lv_has ls 6 [(0, .ref (ad a0)), (1, .int a1), (2, .int a2)]) (hf : fX11_mix N a0 a1 a2 mm = some res) : W p l e (rmX11_mix) s m args below meth c H locs 0 0 (MQ below (QI D ca ad res) args s 0 0 (AA ad)) (F0 m 0 ls []) := by
  unfold fX11_mix at hf
  refine lv_aload_n C.1 C.2.1 dX11_mix_0 rfl (lv_at hl 0 rfl) ?_
  refine lv_iload_n C.1 C.2.1 dX11_mix_1 rfl (lv_at hl 1 rfl) ?_
  obtain ⟨x1, m2, r3, hf⟩ := bd2_s hf
  refine x_cr hW (x_runV C hW [.int a1] [] (ha0).1 (ha0).2.1 kX11.1 kvX11_rowOf q_365 (tX11_rowOf l C.2.2.2.2.2.2.1 ha0 r3) rfl rfl ⟨by decide, by decide⟩ rfl hl.1 rfl (Nat.le_of_ble_eq_true rfl) dX11_mix_2) (fun H locs hW => ?_)
  refine x_astore_n (lv' := [(3, va_re ad x1), (0, .ref (ad a0)), (1, .int a1), (2, .int a2)]) C dX11_mix_5 rfl hl (by decide) rfl (fun ls hl => ?_)
  refine lv_aload_n C.1 C.2.1 dX11_mix_6 rfl (lv_at hl 1 rfl) ?_
  refine lv_iload_n C.1 C.2.1 dX11_mix_7 rfl (lv_at hl 3 rfl) ?_
  obtain ⟨x4, m5, r6, hf⟩ := bd2_s hf
  refine x_cr hW (x_runV C hW [.int a2] [] (ha0).1 (ha0).2.1 kX11.1 kvX11_rowOf q_365 (tX11_rowOf l C.2.2.2.2.2.2.1 ha0 r6) rfl rfl ⟨by decide, by decide⟩ rfl hl.1 rfl (Nat.le_of_ble_eq_true rfl) dX11_mix_8) (fun H locs hW => ?_)
  refine x_astore (lv' := [(4, va_re ad x4), (3, va_re ad x1), (0, .ref (ad a0)), (1, .int a1), (2, .int a2)]) C dX11_mix_11 hl (by decide) (by cases x1 <;> rfl) (fun ls hl => ?_)
  refine x_aload_n C dX11_mix_13 rfl (lv_at hl 1 rfl) ?_
  refine x_ifnull C (tgt := 22) dX11_mix_14 (by decide) (fun n8 => ?_) (fun z7 n8 => ?_)
  · subst n8
    have hf := cs_n hf
    refine lv_iconst (v := (-1)) C.1 C.2.1 dX11_mix_22 (by decide) ?_
    cases hf
    exact x_iret C hW dX11_mix_23
  · subst n8
    have hf := cs_q hf
    refine x_aload C dX11_mix_17 (lv_at hl 0 rfl) ?_
    refine x_ifnonnull C (tgt := 24) dX11_mix_19 (by decide) (fun n10 => ?_) (fun z9 n10 => ?_)
    · subst n10
      have hf := cs_n hf
      refine lv_iconst (v := (-1)) C.1 C.2.1 dX11_mix_22 (by decide) ?_
      cases hf
      exact x_iret C hW dX11_mix_23
    · subst n10
      have hf := cs_q hf
      refine lv_aload_n C.1 C.2.1 dX11_mix_24 rfl (lv_at hl 2 rfl) ?_
      refine lv_iconst (v := 1) C.1 C.2.1 dX11_mix_25 (by decide) ?_
      obtain ⟨x11, m12, r13, hf⟩ := bd2_s hf
      refine x_ci hW (x_runV C hW [.int 1] [] (ha0).1 (ha0).2.1 kX11.1 kvX11_isTooMuch q_705 (tX11_isTooMuch l C.2.2.2.2.2.2.1 ha0 r13) rfl rfl ⟨by decide, by decide⟩ rfl hl.1 rfl (Nat.le_of_ble_eq_true rfl) dX11_mix_26) (fun H locs hW => ?_)
      refine lv_if_eq (tgt := 35) C.1 C.2.1 dX11_mix_29 (by decide) (fun c14 => ?_) (fun c14 => ?_)
      · have hf := if_t c14 hf
        refine lv_aload_n C.1 C.2.1 dX11_mix_35 rfl (lv_at hl 2 rfl) ?_
        refine lv_aload_n C.1 C.2.1 dX11_mix_36 rfl (lv_at hl 1 rfl) ?_
        refine lv_iconst (v := 0) C.1 C.2.1 dX11_mix_37 (by decide) ?_
        refine lv_aload C.1 C.2.1 dX11_mix_38 (lv_at hl 0 rfl) ?_
        refine lv_iconst (v := 0) C.1 C.2.1 dX11_mix_40 (by decide) ?_
        obtain ⟨x15, m16, r17, hf⟩ := bd2_s hf
        refine x_ci hW (x_runV C hW [.ref (ad z7), .int 0, .ref (ad z9), .int 0] [] (ha0).1 (ha0).2.1 kX11.1 kvX11_isWrong_ q_549 (tX11_isWrong_ l C.2.2.2.2.2.2.1 ha0 ((gX11_rowOf ha0 r3) z7 rfl) ((gX11_rowOf ha0 r6) z9 rfl) r17) rfl rfl ⟨by decide, by decide⟩ rfl hl.1 rfl (Nat.le_of_ble_eq_true rfl) dX11_mix_41) (fun H locs hW => ?_)
        refine lv_if_eq (tgt := 50) C.1 C.2.1 dX11_mix_44 (by decide) (fun c18 => ?_) (fun c18 => ?_)
        · have hf := if_t c18 hf
          refine lv_aload_n C.1 C.2.1 dX11_mix_50 rfl (lv_at hl 2 rfl) ?_
          refine x_getr C hW (ha0).1 (ha0).2.1 (j := 9) rfl kX11 (by decide) rfl q_318 dX11_mix_51 ?_
          refine lv_aload_n C.1 C.2.1 dX11_mix_54 rfl (lv_at hl 2 rfl) ?_
          refine x_getr C hW (ha0).1 (ha0).2.1 (j := 2) rfl kX11 (by decide) rfl q_311 dX11_mix_55 ?_
          refine lv_aload_n C.1 C.2.1 dX11_mix_58 rfl (lv_at hl 2 rfl) ?_
          refine x_getr C hW (ha0).1 (ha0).2.1 (j := 6) rfl kX11 (by decide) rfl q_315 dX11_mix_59 ?_
          refine lv_aload_n C.1 C.2.1 dX11_mix_62 rfl (lv_at hl 1 rfl) ?_
          refine x_getr C hW (((gX11_rowOf ha0 r3) z7 rfl)).1 (((gX11_rowOf ha0 r3) z7 rfl)).2.1 (j := 0) rfl kX6 (by decide) rfl q_300 dX11_mix_63 ?_
          refine lv_aload C.1 C.2.1 dX11_mix_66 (lv_at hl 0 rfl) ?_
          refine x_getr C hW (((gX11_rowOf ha0 r6) z9 rfl)).1 (((gX11_rowOf ha0 r6) z9 rfl)).2.1 (j := 0) rfl kX6 (by decide) rfl q_300 dX11_mix_68 ?_
          obtain ⟨x19, m20, r21, hf⟩ := bd2_s hf
          refine x_cv hW (x_runV C hW [.ref (ad (fr a0 2)), .ref (ad (fr a0 6)), .ref (ad (fr z7 0)), .ref (ad (fr z9 0))] [] (ha0.2.2.2.2.2.2.2.2.2.2.2.1).1 (ha0.2.2.2.2.2.2.2.2.2.2.2.1).2.1 kX4.1 kvX4_weighAll q_713 (tX4_weighAll l C.2.2.2.2.2.2.1 ha0.2.2.2.2.2.2.2.2.2.2.2.1 ha0.2.2.2.2.1 ha0.2.2.2.2.2.2.2.2.1 (((gX11_rowOf ha0 r3) z7 rfl).2.2) (((gX11_rowOf ha0 r6) z9 rfl).2.2) r21) rfl rfl ⟨by decide, by decide⟩ rfl hl.1 rfl (Nat.le_of_ble_eq_true rfl) dX11_mix_71) (fun H locs hW => ?_)
          refine lv_aload_n C.1 C.2.1 dX11_mix_74 rfl (lv_at hl 2 rfl) ?_
          refine x_getr C hW (ha0).1 (ha0).2.1 (j := 9) rfl kX11 (by decide) rfl q_318 dX11_mix_75 ?_
          obtain ⟨x22, m23, r24, hf⟩ := bd2_s hf
          refine x_ci hW (x_runV C hW [] [] (ha0.2.2.2.2.2.2.2.2.2.2.2.1).1 (ha0.2.2.2.2.2.2.2.2.2.2.2.1).2.1 kX4.1 kvX4_bestParts q_731 (tX4_bestParts l C.2.2.2.2.2.2.1 ha0.2.2.2.2.2.2.2.2.2.2.2.1 r24) rfl rfl ⟨by decide, by decide⟩ rfl hl.1 rfl (Nat.le_of_ble_eq_true rfl) dX11_mix_78) (fun H locs hW => ?_)
          refine lv_istore (lv' := [(5, .int x22), (4, .ref (ad z9)), (3, .ref (ad z7)), (0, .ref (ad a0)), (1, .int a1), (2, .int a2)]) C.1 C.2.1 dX11_mix_81 hl (by decide) rfl (fun ls hl => ?_)
          refine lv_aload_n C.1 C.2.1 dX11_mix_83 rfl (lv_at hl 3 rfl) ?_
          refine lv_aload_n C.1 C.2.1 dX11_mix_84 rfl (lv_at hl 3 rfl) ?_
          refine x_getr C hW (ha0).1 (ha0).2.1 (j := 9) rfl kX11 (by decide) rfl q_318 dX11_mix_85 ?_
          refine lv_iload C.1 C.2.1 dX11_mix_88 (lv_at hl 0 rfl) ?_
          refine lv_bipush (v := 12) C.1 C.2.1 dX11_mix_90 (by decide) ?_
          obtain ⟨x25, m26, r27, hf⟩ := bd2_s hf
          refine x_ci hW (x_runV C hW [.int x22, .int 12] [.ref (ad a0)] (ha0.2.2.2.2.2.2.2.2.2.2.2.1).1 (ha0.2.2.2.2.2.2.2.2.2.2.2.1).2.1 kX4.1 kvX4_leastBy q_723 (tX4_leastBy l C.2.2.2.2.2.2.1 ha0.2.2.2.2.2.2.2.2.2.2.2.1 r27) rfl rfl ⟨by decide, by decide⟩ rfl hl.1 rfl (Nat.le_of_ble_eq_true rfl) dX11_mix_92) (fun H locs hW => ?_)
          refine lv_i2l C.1 C.2.1 dX11_mix_95 rfl ?_
          refine lv_ldc2 C.1 C.2.1 C.2.2.2.1 (C.2.2.2.2.1 _ q_736) dX11_mix_96 ?_
          obtain ⟨x28, m29, r30, hf⟩ := bd2_s hf
          refine x_cv hW (x_runV C hW [.long x25.toInt64, .long 12] [] (ha0).1 (ha0).2.1 kX11.1 kvX11_fraction q_679 (tX11_fraction l C.2.2.2.2.2.2.1 ha0 r30) rfl rfl ⟨by decide, by decide⟩ rfl hl.1 rfl (Nat.le_of_ble_eq_true rfl) dX11_mix_99) (fun H locs hW => ?_)
          refine lv_iload C.1 C.2.1 dX11_mix_102 (lv_at hl 0 rfl) ?_
          cases hf
          exact x_iret C hW dX11_mix_104
        · have hf := if_f c18 hf
          refine lv_bipush (v := (-3)) C.1 C.2.1 dX11_mix_47 (by decide) ?_
          cases hf
          exact x_iret C hW dX11_mix_49
      · have hf := if_f c14 hf
        refine lv_bipush (v := (-6)) C.1 C.2.1 dX11_mix_32 (by decide) ?_
        cases hf
        exact x_iret C hW dX11_mix_34
set_option maxRecDepth 100000 in
set_option maxHeartbeats 4000000 in
theorem tX11_mix (l : Launch) {D : va_G} {ca ad : Nat → Nat} (hi : Inj ad) {N : Nat} {a0 : Nat} {a1 : Int32} {a2 : Int32} {mm : Mm} {res : Int32 × Mm} (ha0 : sX11 a0) (hf : fX11_mix N a0 a1 a2 mm = some res) : Met l yX11_mix (WS yX11_mix cX11_mix 6 (some .int)) (rmX11_mix) (va_Pc [.ref (ad a0), .int a1, .int a2] (WB D ca ad mm)) (QI D ca ad res) 0 0 (AA ad) := by
  refine x_start hi (by decide) rfl (Nat.le_of_ble_eq_true rfl) (fun p e s m args below meth c ls C hW hl => ?_)
  exact wX11_mix_0 C ha0 hW (lv_sub hl [0, 1, 2] rfl) hf
set_option maxRecDepth 100000 in
set_option maxHeartbeats 4000000 in
theorem wX11_turns_0 (C : Cx p s m meth c args cX11_turns 3 (some .int) RX11 D ca ad) {res : Int32 × Mm} {N : Nat}  {a0 : Nat} {mm : Mm} {H : Heap} {locs : List Loc} {ls : Array Slot} (ha0 : sX11 a0) (hW : Wd D ca ad s.heap mm H locs) (hl : lv_has ls 3 [(0, .ref (ad a0))]) (hf : fX11_turns N a0 mm = some res) : W p l e (rmX11_turns) s m args below meth c H locs 0 0 (MQ below (QI D ca ad res) args s 0 0 (AA ad)) (F0 m 0 ls []) := by
  unfold fX11_turns at hf
  refine lv_aload_n C.1 C.2.1 dX11_turns_0 rfl (lv_at hl 0 rfl) ?_
  refine x_getr C hW (ha0).1 (ha0).2.1 (j := 2) rfl kX11 (by decide) rfl q_311 dX11_turns_1 ?_
  refine x_getr C hW (ha0.2.2.2.2.1).1 (ha0.2.2.2.2.1).2.1 (j := 1) rfl kX0 (by decide) rfl q_63 dX11_turns_4 ?_
  refine lv_iconst (v := 0) C.1 C.2.1 dX11_turns_7 (by decide) ?_
  obtain ⟨g1, hf⟩ := gd_s hf
  refine x_iald C hW ha0.2.2.2.2.1.2.2.2.1 g1 dX11_turns_8 ?_
  refine lv_topi (fun x2 ex2 => ?_)
  have hf := nm_s hf ex2
  refine lv_istore_n (lv' := [(1, .int x2), (0, .ref (ad a0))]) C.1 C.2.1 dX11_turns_9 rfl hl (by decide) rfl (fun ls hl => ?_)
  refine lv_aload_n C.1 C.2.1 dX11_turns_10 rfl (lv_at hl 1 rfl) ?_
  refine x_getr C hW (ha0).1 (ha0).2.1 (j := 2) rfl kX11 (by decide) rfl q_311 dX11_turns_11 ?_
  refine x_getr C hW (ha0.2.2.2.2.1).1 (ha0.2.2.2.2.1).2.1 (j := 1) rfl kX0 (by decide) rfl q_63 dX11_turns_14 ?_
  refine lv_iconst (v := 1) C.1 C.2.1 dX11_turns_17 (by decide) ?_
  obtain ⟨g3, hf⟩ := gd_s hf
  refine x_iald C hW ha0.2.2.2.2.1.2.2.2.1 g3 dX11_turns_18 ?_
  refine lv_topi (fun x4 ex4 => ?_)
  have hf := nm_s hf ex4
  refine lv_istore_n (lv' := [(2, .int x4), (1, .int x2), (0, .ref (ad a0))]) C.1 C.2.1 dX11_turns_19 rfl hl (by decide) rfl (fun ls hl => ?_)
  refine lv_iload_n C.1 C.2.1 dX11_turns_20 rfl (lv_at hl 1 rfl) ?_
  refine lv_bipush (v := 15) C.1 C.2.1 dX11_turns_21 (by decide) ?_
  refine lv_icmp_gt (tgt := 32) C.1 C.2.1 dX11_turns_23 (by decide) (fun c5 => ?_) (fun c5 => ?_)
  · have hf := if_t c5 hf
    refine lv_bipush (v := (-6)) C.1 C.2.1 dX11_turns_32 (by decide) ?_
    cases hf
    exact x_iret C hW dX11_turns_34
  · have hf := if_f c5 hf
    refine lv_iload_n C.1 C.2.1 dX11_turns_26 rfl (lv_at hl 0 rfl) ?_
    refine lv_bipush (v := 15) C.1 C.2.1 dX11_turns_27 (by decide) ?_
    refine lv_icmp_le (tgt := 35) C.1 C.2.1 dX11_turns_29 (by decide) (fun c6 => ?_) (fun c6 => ?_)
    · have hf := if_t c6 hf
      refine lv_aload_n C.1 C.2.1 dX11_turns_35 rfl (lv_at hl 2 rfl) ?_
      refine x_getr C hW (ha0).1 (ha0).2.1 (j := 2) rfl kX11 (by decide) rfl q_311 dX11_turns_36 ?_
      refine x_geti C hW (ha0.2.2.2.2.1).1 (ha0.2.2.2.2.1).2.1 (j := 5) rfl kX0 (by decide) rfl q_73 dX11_turns_39 ?_
      refine lv_if_ne (tgt := 48) C.1 C.2.1 dX11_turns_42 (by decide) (fun c7 => ?_) (fun c7 => ?_)
      · have hf := if_f c7 hf
        refine lv_aload_n C.1 C.2.1 dX11_turns_48 rfl (lv_at hl 2 rfl) ?_
        refine lv_aload_n C.1 C.2.1 dX11_turns_49 rfl (lv_at hl 2 rfl) ?_
        refine x_getr C hW (ha0).1 (ha0).2.1 (j := 10) rfl kX11 (by decide) rfl q_319 dX11_turns_50 ?_
        refine lv_aload_n C.1 C.2.1 dX11_turns_53 rfl (lv_at hl 2 rfl) ?_
        refine x_getr C hW (ha0).1 (ha0).2.1 (j := 2) rfl kX11 (by decide) rfl q_311 dX11_turns_54 ?_
        refine lv_iconst (v := 0) C.1 C.2.1 dX11_turns_57 (by decide) ?_
        refine lv_iload_n C.1 C.2.1 dX11_turns_58 rfl (lv_at hl 1 rfl) ?_
        refine lv_iload_n C.1 C.2.1 dX11_turns_59 rfl (lv_at hl 0 rfl) ?_
        obtain ⟨x8, m9, r10, hf⟩ := bd2_s hf
        refine x_ci hW (x_runV C hW [.ref (ad (fr a0 2)), .int 0, .int x2, .int x4] [.ref (ad a0)] (ha0.2.2.2.2.2.2.2.2.2.2.2.2.1).1 (ha0.2.2.2.2.2.2.2.2.2.2.2.2.1).2.1 kX10.1 kvX10_valueOf q_741 (tX10_valueOf l C.2.2.2.2.2.2.1 ha0.2.2.2.2.2.2.2.2.2.2.2.2.1 ha0.2.2.2.2.1 r10) rfl rfl ⟨by decide, by decide⟩ rfl hl.1 rfl (Nat.le_of_ble_eq_true rfl) dX11_turns_60) (fun H locs hW => ?_)
        refine x_put C hW (ha0).1 (ha0).2.1 (j := 14) (t1 := .int) rfl kX11 (by decide) rfl rfl q_323 (by decide +kernel) rfl rfl dX11_turns_63 (fun H locs hW => ?_)
        obtain ⟨m11, em11⟩ : ∃ z, z = wr m9 a0 14 x8 := ⟨_, rfl⟩
        have hf := nm_s hf em11
        rw [← em11] at hW
        refine lv_aload_n C.1 C.2.1 dX11_turns_66 rfl (lv_at hl 2 rfl) ?_
        refine x_getr C hW (ha0).1 (ha0).2.1 (j := 10) rfl kX11 (by decide) rfl q_319 dX11_turns_67 ?_
        refine lv_aload_n C.1 C.2.1 dX11_turns_70 rfl (lv_at hl 2 rfl) ?_
        refine x_getr C hW (ha0).1 (ha0).2.1 (j := 2) rfl kX11 (by decide) rfl q_311 dX11_turns_71 ?_
        refine lv_iload_n C.1 C.2.1 dX11_turns_74 rfl (lv_at hl 1 rfl) ?_
        refine lv_iload_n C.1 C.2.1 dX11_turns_75 rfl (lv_at hl 0 rfl) ?_
        obtain ⟨x12, m13, r14, hf⟩ := bd2_s hf
        refine x_ci hW (x_runV C hW [.ref (ad (fr a0 2)), .int x2, .int x4] [] (ha0.2.2.2.2.2.2.2.2.2.2.2.2.1).1 (ha0.2.2.2.2.2.2.2.2.2.2.2.2.1).2.1 kX10.1 kvX10_firstLaid q_777 (tX10_firstLaid l C.2.2.2.2.2.2.1 ha0.2.2.2.2.2.2.2.2.2.2.2.2.1 ha0.2.2.2.2.1 r14) rfl rfl ⟨by decide, by decide⟩ rfl hl.1 rfl (Nat.le_of_ble_eq_true rfl) dX11_turns_76) (fun H locs hW => ?_)
        cases hf
        exact x_iret C hW dX11_turns_79
      · have hf := if_t c7 hf
        refine lv_bipush (v := (-9)) C.1 C.2.1 dX11_turns_45 (by decide) ?_
        cases hf
        exact x_iret C hW dX11_turns_47
    · have hf := if_f c6 hf
      refine lv_bipush (v := (-6)) C.1 C.2.1 dX11_turns_32 (by decide) ?_
      cases hf
      exact x_iret C hW dX11_turns_34
set_option maxRecDepth 100000 in
set_option maxHeartbeats 4000000 in
theorem tX11_turns (l : Launch) {D : va_G} {ca ad : Nat → Nat} (hi : Inj ad) {N : Nat} {a0 : Nat} {mm : Mm} {res : Int32 × Mm} (ha0 : sX11 a0) (hf : fX11_turns N a0 mm = some res) : Met l yX11_turns (WS yX11_turns cX11_turns 3 (some .int)) (rmX11_turns) (va_Pc [.ref (ad a0)] (WB D ca ad mm)) (QI D ca ad res) 0 0 (AA ad) := by
  refine x_start hi (by decide) rfl (Nat.le_of_ble_eq_true rfl) (fun p e s m args below meth c ls C hW hl => ?_)
  exact wX11_turns_0 C ha0 hW (lv_sub hl [0] rfl) hf
set_option maxRecDepth 100000 in
set_option maxHeartbeats 4000000 in
theorem wX11_isInTurn_0 (C : Cx p s m meth c args cX11_isInTurn 1 (some .boolean) RX11 D ca ad) {res : Int32 × Mm} {N : Nat}  {a0 : Int32} {mm : Mm} {H : Heap} {locs : List Loc} {ls : Array Slot}  (hW : Wd D ca ad s.heap mm H locs) (hl : lv_has ls 1 [(0, .int a0)]) (hf : fX11_isInTurn N a0 mm = some res) : W p l e (rmX11_isInTurn) s m args below meth c H locs 0 0 (MQ below (QI D ca ad res) args s 0 0 (AA ad)) (F0 m 0 ls []) := by
  unfold fX11_isInTurn at hf
  refine lv_iload_n C.1 C.2.1 dX11_isInTurn_0 rfl (lv_at hl 0 rfl) ?_
  refine lv_if_lt (tgt := 14) C.1 C.2.1 dX11_isInTurn_1 (by decide) (fun c1 => ?_) (fun c1 => ?_)
  · have hf := if_t c1 hf
    refine lv_iconst (v := 0) C.1 C.2.1 dX11_isInTurn_14 (by decide) ?_
    cases hf
    exact x_zret C hW (by decide) dX11_isInTurn_15
  · have hf := if_f c1 hf
    refine lv_iload_n C.1 C.2.1 dX11_isInTurn_4 rfl (lv_at hl 0 rfl) ?_
    refine lv_bipush (v := 15) C.1 C.2.1 dX11_isInTurn_5 (by decide) ?_
    refine lv_icmp_gt (tgt := 14) C.1 C.2.1 dX11_isInTurn_7 (by decide) (fun c2 => ?_) (fun c2 => ?_)
    · have hf := if_t c2 hf
      refine lv_iconst (v := 0) C.1 C.2.1 dX11_isInTurn_14 (by decide) ?_
      cases hf
      exact x_zret C hW (by decide) dX11_isInTurn_15
    · have hf := if_f c2 hf
      refine lv_iconst (v := 1) C.1 C.2.1 dX11_isInTurn_10 (by decide) ?_
      refine lv_goto (tgt := 15) C.1 C.2.1 dX11_isInTurn_11 (by decide) ?_
      cases hf
      exact x_zret C hW (by decide) dX11_isInTurn_15
set_option maxRecDepth 100000 in
set_option maxHeartbeats 4000000 in
theorem tX11_isInTurn (l : Launch) {D : va_G} {ca ad : Nat → Nat} (hi : Inj ad) {N : Nat} {a0 : Int32} {mm : Mm} {res : Int32 × Mm}  (hf : fX11_isInTurn N a0 mm = some res) : Met l yX11_isInTurn (WS yX11_isInTurn cX11_isInTurn 1 (some .boolean)) (rmX11_isInTurn) (va_Pc [.int a0] (WB D ca ad mm)) (QI D ca ad res) 0 0 (AA ad) := by
  refine x_start hi (by decide) rfl (Nat.le_of_ble_eq_true rfl) (fun p e s m args below meth c ls C hW hl => ?_)
  exact wX11_isInTurn_0 C  hW (lv_sub hl [0] rfl) hf
set_option maxRecDepth 100000 in
set_option maxHeartbeats 4000000 in
theorem wX11_from_0 (C : Cx p s m meth c args cX11_from 4 (some .int) RX11 D ca ad) {res : Int32 × Mm} {N : Nat}  {a0 : Nat} {a1 : Int32} {a2 : Int32} {a3 : Int32} {mm : Mm} {H : Heap} {locs : List Loc} {ls : Array Slot} (ha0 : sX11 a0) (hW : Wd D ca ad s.heap mm H locs) (hl : lv_has ls 4 [(0, .ref (ad a0)), (1, .int a1), (2, .int a2), (3, .int a3)]) (hf : fX11_from N a0 a1 a2 a3 mm = some res) : W p l e (rmX11_from) s m args below meth c H locs 0 0 (MQ below (QI D ca ad res) args s 0 0 (AA ad)) (F0 m 0 ls []) := by
  unfold fX11_from at hf
  refine lv_iload_n C.1 C.2.1 dX11_from_0 rfl (lv_at hl 1 rfl) ?_
  refine lv_if_lt (tgt := 29) C.1 C.2.1 dX11_from_1 (by decide) (fun c1 => ?_) (fun c1 => ?_)
  · have hf := if_t c1 hf
    refine lv_iconst (v := (-1)) C.1 C.2.1 dX11_from_29 (by decide) ?_
    cases hf
    exact x_iret C hW dX11_from_30
  · have hf := if_f c1 hf
    refine lv_iload_n C.1 C.2.1 dX11_from_4 rfl (lv_at hl 1 rfl) ?_
    refine lv_aload_n C.1 C.2.1 dX11_from_5 rfl (lv_at hl 0 rfl) ?_
    refine x_getr C hW (ha0).1 (ha0).2.1 (j := 2) rfl kX11 (by decide) rfl q_311 dX11_from_6 ?_
    refine x_geti C hW (ha0.2.2.2.2.1).1 (ha0.2.2.2.2.1).2.1 (j := 5) rfl kX0 (by decide) rfl q_73 dX11_from_9 ?_
    refine lv_icmp_gt (tgt := 29) C.1 C.2.1 dX11_from_12 (by decide) (fun c2 => ?_) (fun c2 => ?_)
    · have hf := if_t c2 hf
      refine lv_iconst (v := (-1)) C.1 C.2.1 dX11_from_29 (by decide) ?_
      cases hf
      exact x_iret C hW dX11_from_30
    · have hf := if_f c2 hf
      refine lv_iload_n C.1 C.2.1 dX11_from_15 rfl (lv_at hl 2 rfl) ?_
      obtain ⟨x3, m4, r5, hf⟩ := bd2_s hf
      refine x_ci hW (x_runS C hW [.int a2] [] kvX11_isInTurn q_785 (tX11_isInTurn l C.2.2.2.2.2.2.1  r5) rfl rfl ⟨by decide, by decide⟩ rfl hl.1 rfl (Nat.le_of_ble_eq_true rfl) dX11_from_16) (fun H locs hW => ?_)
      refine lv_if_eq (tgt := 29) C.1 C.2.1 dX11_from_19 (by decide) (fun c6 => ?_) (fun c6 => ?_)
      · have hf := if_t c6 hf
        refine lv_iconst (v := (-1)) C.1 C.2.1 dX11_from_29 (by decide) ?_
        cases hf
        exact x_iret C hW dX11_from_30
      · have hf := if_f c6 hf
        refine lv_iload_n C.1 C.2.1 dX11_from_22 rfl (lv_at hl 3 rfl) ?_
        obtain ⟨x7, m8, r9, hf⟩ := bd2_s hf
        refine x_ci hW (x_runS C hW [.int a3] [] kvX11_isInTurn q_785 (tX11_isInTurn l C.2.2.2.2.2.2.1  r9) rfl rfl ⟨by decide, by decide⟩ rfl hl.1 rfl (Nat.le_of_ble_eq_true rfl) dX11_from_23) (fun H locs hW => ?_)
        refine lv_if_ne (tgt := 31) C.1 C.2.1 dX11_from_26 (by decide) (fun c10 => ?_) (fun c10 => ?_)
        · have hf := if_f c10 hf
          refine lv_aload_n C.1 C.2.1 dX11_from_31 rfl (lv_at hl 0 rfl) ?_
          refine lv_aload_n C.1 C.2.1 dX11_from_32 rfl (lv_at hl 0 rfl) ?_
          refine x_getr C hW (ha0).1 (ha0).2.1 (j := 10) rfl kX11 (by decide) rfl q_319 dX11_from_33 ?_
          refine lv_aload_n C.1 C.2.1 dX11_from_36 rfl (lv_at hl 0 rfl) ?_
          refine x_getr C hW (ha0).1 (ha0).2.1 (j := 2) rfl kX11 (by decide) rfl q_311 dX11_from_37 ?_
          refine lv_iload_n C.1 C.2.1 dX11_from_40 rfl (lv_at hl 1 rfl) ?_
          refine lv_iload_n C.1 C.2.1 dX11_from_41 rfl (lv_at hl 2 rfl) ?_
          refine lv_iload_n C.1 C.2.1 dX11_from_42 rfl (lv_at hl 3 rfl) ?_
          obtain ⟨x11, m12, r13, hf⟩ := bd2_s hf
          refine x_ci hW (x_runV C hW [.ref (ad (fr a0 2)), .int a1, .int a2, .int a3] [.ref (ad a0)] (ha0.2.2.2.2.2.2.2.2.2.2.2.2.1).1 (ha0.2.2.2.2.2.2.2.2.2.2.2.2.1).2.1 kX10.1 kvX10_valueOf q_741 (tX10_valueOf l C.2.2.2.2.2.2.1 ha0.2.2.2.2.2.2.2.2.2.2.2.2.1 ha0.2.2.2.2.1 r13) rfl rfl ⟨by decide, by decide⟩ rfl hl.1 rfl (Nat.le_of_ble_eq_true rfl) dX11_from_43) (fun H locs hW => ?_)
          obtain ⟨x14, m15, r16, hf⟩ := bd2_s hf
          refine x_ci hW (x_runV C hW [.int x11] [] (ha0).1 (ha0).2.1 kX11.1 kvX11_told q_392 (tX11_told l C.2.2.2.2.2.2.1 ha0 r16) rfl rfl ⟨by decide, by decide⟩ rfl hl.1 rfl (Nat.le_of_ble_eq_true rfl) dX11_from_46) (fun H locs hW => ?_)
          cases hf
          exact x_iret C hW dX11_from_49
        · have hf := if_t c10 hf
          refine lv_iconst (v := (-1)) C.1 C.2.1 dX11_from_29 (by decide) ?_
          cases hf
          exact x_iret C hW dX11_from_30
set_option maxRecDepth 100000 in
set_option maxHeartbeats 4000000 in
theorem tX11_from (l : Launch) {D : va_G} {ca ad : Nat → Nat} (hi : Inj ad) {N : Nat} {a0 : Nat} {a1 : Int32} {a2 : Int32} {a3 : Int32} {mm : Mm} {res : Int32 × Mm} (ha0 : sX11 a0) (hf : fX11_from N a0 a1 a2 a3 mm = some res) : Met l yX11_from (WS yX11_from cX11_from 4 (some .int)) (rmX11_from) (va_Pc [.ref (ad a0), .int a1, .int a2, .int a3] (WB D ca ad mm)) (QI D ca ad res) 0 0 (AA ad) := by
  refine x_start hi (by decide) rfl (Nat.le_of_ble_eq_true rfl) (fun p e s m args below meth c ls C hW hl => ?_)
  exact wX11_from_0 C ha0 hW (lv_sub hl [0, 1, 2, 3] rfl) hf
set_option maxRecDepth 100000 in
set_option maxHeartbeats 4000000 in
theorem wX11_answer_0 (C : Cx p s m meth c args cX11_answer 5 (some .int) RX11 D ca ad) {res : Int32 × Mm} {N : Nat}  {a0 : Nat} {a1 : Int32} {a2 : Int32} {a3 : Int32} {a4 : Int32} {mm : Mm} {H : Heap} {locs : List Loc} {ls : Array Slot} (ha0 : sX11 a0) (hW : Wd D ca ad s.heap mm H locs) (hl : lv_has ls 5 [(0, .ref (ad a0)), (1, .int a1), (2, .int a2), (3, .int a3), (4, .int a4)]) (hf : fX11_answer N a0 a1 a2 a3 a4 mm = some res) : W p l e (rmX11_answer) s m args below meth c H locs 0 0 (MQ below (QI D ca ad res) args s 0 0 (AA ad)) (F0 m 0 ls []) := by
  unfold fX11_answer at hf
  refine lv_aload_n C.1 C.2.1 dX11_answer_0 rfl (lv_at hl 0 rfl) ?_
  refine x_getr C hW (ha0).1 (ha0).2.1 (j := 2) rfl kX11 (by decide) rfl q_311 dX11_answer_1 ?_
  refine lv_iload_n C.1 C.2.1 dX11_answer_4 rfl (lv_at hl 1 rfl) ?_
  obtain ⟨x1, m2, r3, hf⟩ := bd2_s hf
  refine x_cr hW (x_runV C hW [.int a1] [] (ha0.2.2.2.2.1).1 (ha0.2.2.2.2.1).2.1 kX0.1 kvX0_suitOf q_493 (tX0_suitOf l C.2.2.2.2.2.2.1 ha0.2.2.2.2.1 r3) rfl rfl ⟨by decide, by decide⟩ rfl hl.1 rfl (Nat.le_of_ble_eq_true rfl) dX11_answer_5) (fun H locs hW => ?_)
  refine x_ifnull C (tgt := 36) dX11_answer_8 (by decide) (fun n5 => ?_) (fun z4 n5 => ?_)
  · subst n5
    have hf := cs_n hf
    refine lv_iconst (v := (-1)) C.1 C.2.1 dX11_answer_36 (by decide) ?_
    cases hf
    exact x_iret C hW dX11_answer_37
  · subst n5
    have hf := cs_q hf
    refine lv_iload_n C.1 C.2.1 dX11_answer_11 rfl (lv_at hl 2 rfl) ?_
    obtain ⟨x6, m7, r8, hf⟩ := bd2_s hf
    refine x_ci hW (x_runS C hW [.int a2] [] kvX11_isInTurn q_785 (tX11_isInTurn l C.2.2.2.2.2.2.1  r8) rfl rfl ⟨by decide, by decide⟩ rfl hl.1 rfl (Nat.le_of_ble_eq_true rfl) dX11_answer_12) (fun H locs hW => ?_)
    refine lv_if_eq (tgt := 36) C.1 C.2.1 dX11_answer_15 (by decide) (fun c9 => ?_) (fun c9 => ?_)
    · have hf := if_t c9 hf
      refine lv_iconst (v := (-1)) C.1 C.2.1 dX11_answer_36 (by decide) ?_
      cases hf
      exact x_iret C hW dX11_answer_37
    · have hf := if_f c9 hf
      refine lv_iload_n C.1 C.2.1 dX11_answer_18 rfl (lv_at hl 3 rfl) ?_
      obtain ⟨x10, m11, r12, hf⟩ := bd2_s hf
      refine x_ci hW (x_runS C hW [.int a3] [] kvX11_isInTurn q_785 (tX11_isInTurn l C.2.2.2.2.2.2.1  r12) rfl rfl ⟨by decide, by decide⟩ rfl hl.1 rfl (Nat.le_of_ble_eq_true rfl) dX11_answer_19) (fun H locs hW => ?_)
      refine lv_if_eq (tgt := 36) C.1 C.2.1 dX11_answer_22 (by decide) (fun c13 => ?_) (fun c13 => ?_)
      · have hf := if_t c13 hf
        refine lv_iconst (v := (-1)) C.1 C.2.1 dX11_answer_36 (by decide) ?_
        cases hf
        exact x_iret C hW dX11_answer_37
      · have hf := if_f c13 hf
        refine lv_iload C.1 C.2.1 dX11_answer_25 (lv_at hl 4 rfl) ?_
        refine lv_if_lt (tgt := 36) C.1 C.2.1 dX11_answer_27 (by decide) (fun c14 => ?_) (fun c14 => ?_)
        · have hf := if_t c14 hf
          refine lv_iconst (v := (-1)) C.1 C.2.1 dX11_answer_36 (by decide) ?_
          cases hf
          exact x_iret C hW dX11_answer_37
        · have hf := if_f c14 hf
          refine lv_iload C.1 C.2.1 dX11_answer_30 (lv_at hl 4 rfl) ?_
          refine lv_iload_n C.1 C.2.1 dX11_answer_32 rfl (lv_at hl 2 rfl) ?_
          refine lv_icmp_le (tgt := 38) C.1 C.2.1 dX11_answer_33 (by decide) (fun c15 => ?_) (fun c15 => ?_)
          · have hf := if_t c15 hf
            refine lv_aload_n C.1 C.2.1 dX11_answer_38 rfl (lv_at hl 0 rfl) ?_
            refine x_getr C hW (ha0).1 (ha0).2.1 (j := 10) rfl kX11 (by decide) rfl q_319 dX11_answer_39 ?_
            refine lv_aload_n C.1 C.2.1 dX11_answer_42 rfl (lv_at hl 0 rfl) ?_
            refine x_getr C hW (ha0).1 (ha0).2.1 (j := 2) rfl kX11 (by decide) rfl q_311 dX11_answer_43 ?_
            refine lv_iload_n C.1 C.2.1 dX11_answer_46 rfl (lv_at hl 1 rfl) ?_
            refine lv_iload_n C.1 C.2.1 dX11_answer_47 rfl (lv_at hl 2 rfl) ?_
            refine lv_iload_n C.1 C.2.1 dX11_answer_48 rfl (lv_at hl 3 rfl) ?_
            refine lv_iload C.1 C.2.1 dX11_answer_49 (lv_at hl 4 rfl) ?_
            obtain ⟨x16, m17, r18, hf⟩ := bd2_s hf
            refine x_ci hW (x_runV C hW [.ref (ad (fr a0 2)), .int a1, .int a2, .int a3, .int a4] [] (ha0.2.2.2.2.2.2.2.2.2.2.2.2.1).1 (ha0.2.2.2.2.2.2.2.2.2.2.2.2.1).2.1 kX10.1 kvX10_answerTo q_792 (tX10_answerTo l C.2.2.2.2.2.2.1 ha0.2.2.2.2.2.2.2.2.2.2.2.2.1 ha0.2.2.2.2.1 r18) rfl rfl ⟨by decide, by decide⟩ rfl hl.1 rfl (Nat.le_of_ble_eq_true rfl) dX11_answer_51) (fun H locs hW => ?_)
            cases hf
            exact x_iret C hW dX11_answer_54
          · have hf := if_f c15 hf
            refine lv_iconst (v := (-1)) C.1 C.2.1 dX11_answer_36 (by decide) ?_
            cases hf
            exact x_iret C hW dX11_answer_37
set_option maxRecDepth 100000 in
set_option maxHeartbeats 4000000 in
theorem tX11_answer (l : Launch) {D : va_G} {ca ad : Nat → Nat} (hi : Inj ad) {N : Nat} {a0 : Nat} {a1 : Int32} {a2 : Int32} {a3 : Int32} {a4 : Int32} {mm : Mm} {res : Int32 × Mm} (ha0 : sX11 a0) (hf : fX11_answer N a0 a1 a2 a3 a4 mm = some res) : Met l yX11_answer (WS yX11_answer cX11_answer 5 (some .int)) (rmX11_answer) (va_Pc [.ref (ad a0), .int a1, .int a2, .int a3, .int a4] (WB D ca ad mm)) (QI D ca ad res) 0 0 (AA ad) := by
  refine x_start hi (by decide) rfl (Nat.le_of_ble_eq_true rfl) (fun p e s m args below meth c ls C hW hl => ?_)
  exact wX11_answer_0 C ha0 hW (lv_sub hl [0, 1, 2, 3, 4] rfl) hf
set_option maxRecDepth 100000 in
set_option maxHeartbeats 4000000 in
theorem wX11_lender_0 (C : Cx p s m meth c args cX11_lender 4 (some .int) RX11 D ca ad) {res : Int32 × Mm} {N : Nat}  {a0 : Nat} {a1 : Int32} {a2 : Int32} {mm : Mm} {H : Heap} {locs : List Loc} {ls : Array Slot} (ha0 : sX11 a0) (hW : Wd D ca ad s.heap mm H locs) (hl : lv_has ls 4 [(0, .ref (ad a0)), (1, .int a1), (2, .int a2)]) (hf : fX11_lender N a0 a1 a2 mm = some res) : W p l e (rmX11_lender) s m args below meth c H locs 0 0 (MQ below (QI D ca ad res) args s 0 0 (AA ad)) (F0 m 0 ls []) := by
  unfold fX11_lender at hf
  refine lv_iload_n C.1 C.2.1 dX11_lender_0 rfl (lv_at hl 1 rfl) ?_
  refine lv_if_lt (tgt := 19) C.1 C.2.1 dX11_lender_1 (by decide) (fun c1 => ?_) (fun c1 => ?_)
  · have hf := if_t c1 hf
    refine lv_iconst (v := (-1)) C.1 C.2.1 dX11_lender_19 (by decide) ?_
    cases hf
    exact x_iret C hW dX11_lender_20
  · have hf := if_f c1 hf
    refine lv_iload_n C.1 C.2.1 dX11_lender_4 rfl (lv_at hl 1 rfl) ?_
    refine lv_iconst (v := 4) C.1 C.2.1 dX11_lender_5 (by decide) ?_
    refine lv_icmp_ge (tgt := 19) C.1 C.2.1 dX11_lender_6 (by decide) (fun c2 => ?_) (fun c2 => ?_)
    · have hf := if_t c2 hf
      refine lv_iconst (v := (-1)) C.1 C.2.1 dX11_lender_19 (by decide) ?_
      cases hf
      exact x_iret C hW dX11_lender_20
    · have hf := if_f c2 hf
      refine lv_iload_n C.1 C.2.1 dX11_lender_9 rfl (lv_at hl 2 rfl) ?_
      refine lv_if_lt (tgt := 19) C.1 C.2.1 dX11_lender_10 (by decide) (fun c3 => ?_) (fun c3 => ?_)
      · have hf := if_t c3 hf
        refine lv_iconst (v := (-1)) C.1 C.2.1 dX11_lender_19 (by decide) ?_
        cases hf
        exact x_iret C hW dX11_lender_20
      · have hf := if_f c3 hf
        refine lv_iload_n C.1 C.2.1 dX11_lender_13 rfl (lv_at hl 2 rfl) ?_
        refine lv_bipush (v := 20) C.1 C.2.1 dX11_lender_14 (by decide) ?_
        refine lv_icmp_le (tgt := 21) C.1 C.2.1 dX11_lender_16 (by decide) (fun c4 => ?_) (fun c4 => ?_)
        · have hf := if_t c4 hf
          refine lv_aload_n C.1 C.2.1 dX11_lender_21 rfl (lv_at hl 0 rfl) ?_
          refine x_getr C hW (ha0).1 (ha0).2.1 (j := 2) rfl kX11 (by decide) rfl q_311 dX11_lender_22 ?_
          refine x_getr C hW (ha0.2.2.2.2.1).1 (ha0.2.2.2.2.1).2.1 (j := 2) rfl kX0 (by decide) rfl q_65 dX11_lender_25 ?_
          refine lv_iload_n C.1 C.2.1 dX11_lender_28 rfl (lv_at hl 1 rfl) ?_
          obtain ⟨g5, hf⟩ := gd_s hf
          refine x_iald C hW ha0.2.2.2.2.1.2.2.2.2.1 g5 dX11_lender_29 ?_
          refine lv_topi (fun x6 ex6 => ?_)
          have hf := nm_s hf ex6
          refine lv_istore_n (lv' := [(3, .int x6), (0, .ref (ad a0)), (1, .int a1), (2, .int a2)]) C.1 C.2.1 dX11_lender_30 rfl hl (by decide) rfl (fun ls hl => ?_)
          refine lv_aload_n C.1 C.2.1 dX11_lender_31 rfl (lv_at hl 1 rfl) ?_
          refine x_getr C hW (ha0).1 (ha0).2.1 (j := 2) rfl kX11 (by decide) rfl q_311 dX11_lender_32 ?_
          refine x_getr C hW (ha0.2.2.2.2.1).1 (ha0.2.2.2.2.1).2.1 (j := 2) rfl kX0 (by decide) rfl q_65 dX11_lender_35 ?_
          refine lv_iload_n C.1 C.2.1 dX11_lender_38 rfl (lv_at hl 2 rfl) ?_
          refine lv_iload_n C.1 C.2.1 dX11_lender_39 rfl (lv_at hl 3 rfl) ?_
          obtain ⟨g7, hf⟩ := gd_s hf
          refine x_iast C hW ha0.2.2.2.2.1.2.2.2.2.1 g7 dX11_lender_40 (fun H locs hW => ?_)
          obtain ⟨m8, em8⟩ : ∃ z, z = wr mm (fr (fr a0 2) 2) a1.toNatClampNeg a2 := ⟨_, rfl⟩
          have hf := nm_s hf em8
          rw [← em8] at hW
          refine lv_iload_n C.1 C.2.1 dX11_lender_41 rfl (lv_at hl 0 rfl) ?_
          cases hf
          exact x_iret C hW dX11_lender_42
        · have hf := if_f c4 hf
          refine lv_iconst (v := (-1)) C.1 C.2.1 dX11_lender_19 (by decide) ?_
          cases hf
          exact x_iret C hW dX11_lender_20
set_option maxRecDepth 100000 in
set_option maxHeartbeats 4000000 in
theorem tX11_lender (l : Launch) {D : va_G} {ca ad : Nat → Nat} (hi : Inj ad) {N : Nat} {a0 : Nat} {a1 : Int32} {a2 : Int32} {mm : Mm} {res : Int32 × Mm} (ha0 : sX11 a0) (hf : fX11_lender N a0 a1 a2 mm = some res) : Met l yX11_lender (WS yX11_lender cX11_lender 4 (some .int)) (rmX11_lender) (va_Pc [.ref (ad a0), .int a1, .int a2] (WB D ca ad mm)) (QI D ca ad res) 0 0 (AA ad) := by
  refine x_start hi (by decide) rfl (Nat.le_of_ble_eq_true rfl) (fun p e s m args below meth c ls C hW hl => ?_)
  exact wX11_lender_0 C ha0 hW (lv_sub hl [0, 1, 2] rfl) hf
end W_files17
