theorem dX5_sign_0 : decode cX5_sign 0 = .ok (.aload_n 1, 1) := by decide +kernel
theorem dX5_sign_1 : decode cX5_sign 1 = .ok (.aload_n 0, 1) := by decide +kernel
theorem dX5_sign_2 : decode cX5_sign 2 = .ok (.getfield 24, 3) := by decide +kernel
theorem dX5_sign_5 : decode cX5_sign 5 = .ok (.invokevirtual 51, 3) := by decide +kernel
theorem dX5_sign_8 : decode cX5_sign 8 = .ok (.ifCond .eq 15, 3) := by decide +kernel
theorem dX5_sign_11 : decode cX5_sign 11 = .ok (.aload_n 1, 1) := by decide +kernel
theorem dX5_sign_12 : decode cX5_sign 12 = .ok (.getfield 55, 3) := by decide +kernel
theorem dX5_sign_15 : decode cX5_sign 15 = .ok (.aload_n 0, 1) := by decide +kernel
theorem dX5_sign_16 : decode cX5_sign 16 = .ok (.getfield 24, 3) := by decide +kernel
theorem dX5_sign_19 : decode cX5_sign 19 = .ok (.iaload, 1) := by decide +kernel
theorem dX5_sign_20 : decode cX5_sign 20 = .ok (.goto 6, 3) := by decide +kernel
theorem dX5_sign_23 : decode cX5_sign 23 = .ok (.sipush 1000, 3) := by decide +kernel
theorem dX5_sign_26 : decode cX5_sign 26 = .ok (.ireturn, 1) := by decide +kernel
theorem dX5_passes_0 : decode cX5_passes 0 = .ok (.aload_n 0, 1) := by decide +kernel
theorem dX5_passes_1 : decode cX5_passes 1 = .ok (.aload_n 1, 1) := by decide +kernel
theorem dX5_passes_2 : decode cX5_passes 2 = .ok (.invokevirtual 58, 3) := by decide +kernel
theorem dX5_passes_5 : decode cX5_passes 5 = .ok (.iload_n 2, 1) := by decide +kernel
theorem dX5_passes_6 : decode cX5_passes 6 = .ok (.if_icmp .eq 5, 3) := by decide +kernel
theorem dX5_passes_9 : decode cX5_passes 9 = .ok (.iconst 0, 1) := by decide +kernel
theorem dX5_passes_10 : decode cX5_passes 10 = .ok (.ireturn, 1) := by decide +kernel
theorem dX5_passes_11 : decode cX5_passes 11 = .ok (.aload_n 0, 1) := by decide +kernel
theorem dX5_passes_12 : decode cX5_passes 12 = .ok (.dup, 1) := by decide +kernel
theorem dX5_passes_13 : decode cX5_passes 13 = .ok (.getfield 24, 3) := by decide +kernel
theorem dX5_passes_16 : decode cX5_passes 16 = .ok (.iconst 1, 1) := by decide +kernel
theorem dX5_passes_17 : decode cX5_passes 17 = .ok (.iadd, 1) := by decide +kernel
theorem dX5_passes_18 : decode cX5_passes 18 = .ok (.putfield 24, 3) := by decide +kernel
theorem dX5_passes_21 : decode cX5_passes 21 = .ok (.iconst 1, 1) := by decide +kernel
theorem dX5_passes_22 : decode cX5_passes 22 = .ok (.ireturn, 1) := by decide +kernel
theorem dX5_figure_0 : decode cX5_figure 0 = .ok (.aload_n 0, 1) := by decide +kernel
theorem dX5_figure_1 : decode cX5_figure 1 = .ok (.aload_n 1, 1) := by decide +kernel
theorem dX5_figure_2 : decode cX5_figure 2 = .ok (.invokevirtual 58, 3) := by decide +kernel
theorem dX5_figure_5 : decode cX5_figure 5 = .ok (.istore_n 2, 1) := by decide +kernel
theorem dX5_figure_6 : decode cX5_figure 6 = .ok (.iload_n 2, 1) := by decide +kernel
theorem dX5_figure_7 : decode cX5_figure 7 = .ok (.bipush 48, 2) := by decide +kernel
theorem dX5_figure_9 : decode cX5_figure 9 = .ok (.if_icmp .lt 16, 3) := by decide +kernel
theorem dX5_figure_12 : decode cX5_figure 12 = .ok (.iload_n 2, 1) := by decide +kernel
theorem dX5_figure_13 : decode cX5_figure 13 = .ok (.bipush 57, 2) := by decide +kernel
theorem dX5_figure_15 : decode cX5_figure 15 = .ok (.if_icmp .gt 10, 3) := by decide +kernel
theorem dX5_figure_18 : decode cX5_figure 18 = .ok (.iload_n 2, 1) := by decide +kernel
theorem dX5_figure_19 : decode cX5_figure 19 = .ok (.bipush 48, 2) := by decide +kernel
theorem dX5_figure_21 : decode cX5_figure 21 = .ok (.isub, 1) := by decide +kernel
theorem dX5_figure_22 : decode cX5_figure 22 = .ok (.goto 5, 3) := by decide +kernel
theorem dX5_figure_25 : decode cX5_figure 25 = .ok (.bipush (-9), 2) := by decide +kernel
theorem dX5_figure_27 : decode cX5_figure 27 = .ok (.ireturn, 1) := by decide +kernel
theorem dX5_passesStock_0 : decode cX5_passesStock 0 = .ok (.aload_n 0, 1) := by decide +kernel
theorem dX5_passesStock_1 : decode cX5_passesStock 1 = .ok (.aload_n 1, 1) := by decide +kernel
theorem dX5_passesStock_2 : decode cX5_passesStock 2 = .ok (.invokevirtual 62, 3) := by decide +kernel
theorem dX5_passesStock_5 : decode cX5_passesStock 5 = .ok (.istore_n 3, 1) := by decide +kernel
theorem dX5_passesStock_6 : decode cX5_passesStock 6 = .ok (.iload_n 3, 1) := by decide +kernel
theorem dX5_passesStock_7 : decode cX5_passesStock 7 = .ok (.ifCond .ge 5, 3) := by decide +kernel
theorem dX5_passesStock_10 : decode cX5_passesStock 10 = .ok (.iconst 0, 1) := by decide +kernel
theorem dX5_passesStock_11 : decode cX5_passesStock 11 = .ok (.ireturn, 1) := by decide +kernel
theorem dX5_passesStock_12 : decode cX5_passesStock 12 = .ok (.aload_n 0, 1) := by decide +kernel
theorem dX5_passesStock_13 : decode cX5_passesStock 13 = .ok (.dup, 1) := by decide +kernel
theorem dX5_passesStock_14 : decode cX5_passesStock 14 = .ok (.getfield 24, 3) := by decide +kernel
theorem dX5_passesStock_17 : decode cX5_passesStock 17 = .ok (.iconst 1, 1) := by decide +kernel
theorem dX5_passesStock_18 : decode cX5_passesStock 18 = .ok (.iadd, 1) := by decide +kernel
theorem dX5_passesStock_19 : decode cX5_passesStock 19 = .ok (.putfield 24, 3) := by decide +kernel
theorem dX5_passesStock_22 : decode cX5_passesStock 22 = .ok (.aload_n 0, 1) := by decide +kernel
theorem dX5_passesStock_23 : decode cX5_passesStock 23 = .ok (.aload_n 1, 1) := by decide +kernel
theorem dX5_passesStock_24 : decode cX5_passesStock 24 = .ok (.invokevirtual 62, 3) := by decide +kernel
theorem dX5_passesStock_27 : decode cX5_passesStock 27 = .ok (.istore 4, 2) := by decide +kernel
theorem dX5_passesStock_29 : decode cX5_passesStock 29 = .ok (.iload 4, 2) := by decide +kernel
theorem dX5_passesStock_31 : decode cX5_passesStock 31 = .ok (.ifCond .lt 21, 3) := by decide +kernel
theorem dX5_passesStock_34 : decode cX5_passesStock 34 = .ok (.aload_n 0, 1) := by decide +kernel
theorem dX5_passesStock_35 : decode cX5_passesStock 35 = .ok (.dup, 1) := by decide +kernel
theorem dX5_passesStock_36 : decode cX5_passesStock 36 = .ok (.getfield 24, 3) := by decide +kernel
theorem dX5_passesStock_39 : decode cX5_passesStock 39 = .ok (.iconst 1, 1) := by decide +kernel
theorem dX5_passesStock_40 : decode cX5_passesStock 40 = .ok (.iadd, 1) := by decide +kernel
theorem dX5_passesStock_41 : decode cX5_passesStock 41 = .ok (.putfield 24, 3) := by decide +kernel
theorem dX5_passesStock_44 : decode cX5_passesStock 44 = .ok (.bipush 10, 2) := by decide +kernel
theorem dX5_passesStock_46 : decode cX5_passesStock 46 = .ok (.iload_n 3, 1) := by decide +kernel
theorem dX5_passesStock_47 : decode cX5_passesStock 47 = .ok (.imul, 1) := by decide +kernel
theorem dX5_passesStock_48 : decode cX5_passesStock 48 = .ok (.iload 4, 2) := by decide +kernel
theorem dX5_passesStock_50 : decode cX5_passesStock 50 = .ok (.iadd, 1) := by decide +kernel
theorem dX5_passesStock_51 : decode cX5_passesStock 51 = .ok (.istore_n 3, 1) := by decide +kernel
theorem dX5_passesStock_52 : decode cX5_passesStock 52 = .ok (.aload_n 0, 1) := by decide +kernel
theorem dX5_passesStock_53 : decode cX5_passesStock 53 = .ok (.getfield 9, 3) := by decide +kernel
theorem dX5_passesStock_56 : decode cX5_passesStock 56 = .ok (.iload_n 2, 1) := by decide +kernel
theorem dX5_passesStock_57 : decode cX5_passesStock 57 = .ok (.iload_n 3, 1) := by decide +kernel
theorem dX5_passesStock_58 : decode cX5_passesStock 58 = .ok (.iastore, 1) := by decide +kernel
theorem dX5_passesStock_59 : decode cX5_passesStock 59 = .ok (.iload_n 3, 1) := by decide +kernel
theorem dX5_passesStock_60 : decode cX5_passesStock 60 = .ok (.bipush 40, 2) := by decide +kernel
theorem dX5_passesStock_62 : decode cX5_passesStock 62 = .ok (.if_icmp .gt 7, 3) := by decide +kernel
theorem dX5_passesStock_65 : decode cX5_passesStock 65 = .ok (.iconst 1, 1) := by decide +kernel
theorem dX5_passesStock_66 : decode cX5_passesStock 66 = .ok (.goto 4, 3) := by decide +kernel
theorem dX5_passesStock_69 : decode cX5_passesStock 69 = .ok (.iconst 0, 1) := by decide +kernel
theorem dX5_passesStock_70 : decode cX5_passesStock 70 = .ok (.ireturn, 1) := by decide +kernel
theorem dX5_kindBy_0 : decode cX5_kindBy 0 = .ok (.iload_n 0, 1) := by decide +kernel
theorem dX5_kindBy_1 : decode cX5_kindBy 1 = .ok (.tableswitch 91 100 115 #[85, 91, 83, 91, 89, 91, 91, 91, 91, 91, 91, 81, 87, 91, 91, 79], 79) := by decide +kernel
theorem dX5_kindBy_80 : decode cX5_kindBy 80 = .ok (.iconst 0, 1) := by decide +kernel
theorem dX5_kindBy_81 : decode cX5_kindBy 81 = .ok (.ireturn, 1) := by decide +kernel
theorem dX5_kindBy_82 : decode cX5_kindBy 82 = .ok (.iconst 1, 1) := by decide +kernel
theorem dX5_kindBy_83 : decode cX5_kindBy 83 = .ok (.ireturn, 1) := by decide +kernel
theorem dX5_kindBy_84 : decode cX5_kindBy 84 = .ok (.iconst 2, 1) := by decide +kernel
theorem dX5_kindBy_85 : decode cX5_kindBy 85 = .ok (.ireturn, 1) := by decide +kernel
theorem dX5_kindBy_86 : decode cX5_kindBy 86 = .ok (.iconst 3, 1) := by decide +kernel
theorem dX5_kindBy_87 : decode cX5_kindBy 87 = .ok (.ireturn, 1) := by decide +kernel
theorem dX5_kindBy_88 : decode cX5_kindBy 88 = .ok (.iconst 4, 1) := by decide +kernel
theorem dX5_kindBy_89 : decode cX5_kindBy 89 = .ok (.ireturn, 1) := by decide +kernel
theorem dX5_kindBy_90 : decode cX5_kindBy 90 = .ok (.iconst 5, 1) := by decide +kernel
theorem dX5_kindBy_91 : decode cX5_kindBy 91 = .ok (.ireturn, 1) := by decide +kernel
theorem dX5_kindBy_92 : decode cX5_kindBy 92 = .ok (.bipush (-9), 2) := by decide +kernel
theorem dX5_kindBy_94 : decode cX5_kindBy 94 = .ok (.ireturn, 1) := by decide +kernel
theorem dX5_passesSuit_0 : decode cX5_passesSuit 0 = .ok (.aload_n 0, 1) := by decide +kernel
theorem dX5_passesSuit_1 : decode cX5_passesSuit 1 = .ok (.aload_n 1, 1) := by decide +kernel
theorem dX5_passesSuit_2 : decode cX5_passesSuit 2 = .ok (.invokevirtual 58, 3) := by decide +kernel
theorem dX5_passesSuit_5 : decode cX5_passesSuit 5 = .ok (.invokestatic 65, 3) := by decide +kernel
theorem dX5_passesSuit_8 : decode cX5_passesSuit 8 = .ok (.istore_n 2, 1) := by decide +kernel
theorem dX5_passesSuit_9 : decode cX5_passesSuit 9 = .ok (.iload_n 2, 1) := by decide +kernel
theorem dX5_passesSuit_10 : decode cX5_passesSuit 10 = .ok (.ifCond .lt 12, 3) := by decide +kernel
theorem dX5_passesSuit_13 : decode cX5_passesSuit 13 = .ok (.aload_n 0, 1) := by decide +kernel
theorem dX5_passesSuit_14 : decode cX5_passesSuit 14 = .ok (.getfield 28, 3) := by decide +kernel
theorem dX5_passesSuit_17 : decode cX5_passesSuit 17 = .ok (.bipush 6, 2) := by decide +kernel
theorem dX5_passesSuit_19 : decode cX5_passesSuit 19 = .ok (.if_icmp .lt 5, 3) := by decide +kernel
theorem dX5_passesSuit_22 : decode cX5_passesSuit 22 = .ok (.iconst 0, 1) := by decide +kernel
theorem dX5_passesSuit_23 : decode cX5_passesSuit 23 = .ok (.ireturn, 1) := by decide +kernel
theorem dX5_passesSuit_24 : decode cX5_passesSuit 24 = .ok (.aload_n 0, 1) := by decide +kernel
theorem dX5_passesSuit_25 : decode cX5_passesSuit 25 = .ok (.dup, 1) := by decide +kernel
theorem dX5_passesSuit_26 : decode cX5_passesSuit 26 = .ok (.getfield 24, 3) := by decide +kernel
theorem dX5_passesSuit_29 : decode cX5_passesSuit 29 = .ok (.iconst 1, 1) := by decide +kernel
theorem dX5_passesSuit_30 : decode cX5_passesSuit 30 = .ok (.iadd, 1) := by decide +kernel
theorem dX5_passesSuit_31 : decode cX5_passesSuit 31 = .ok (.putfield 24, 3) := by decide +kernel
theorem dX5_passesSuit_34 : decode cX5_passesSuit 34 = .ok (.aload_n 0, 1) := by decide +kernel
theorem dX5_passesSuit_35 : decode cX5_passesSuit 35 = .ok (.aload_n 1, 1) := by decide +kernel
theorem dX5_passesSuit_36 : decode cX5_passesSuit 36 = .ok (.invokevirtual 62, 3) := by decide +kernel
theorem dX5_passesSuit_39 : decode cX5_passesSuit 39 = .ok (.istore_n 3, 1) := by decide +kernel
theorem dX5_passesSuit_40 : decode cX5_passesSuit 40 = .ok (.iload_n 3, 1) := by decide +kernel
theorem dX5_passesSuit_41 : decode cX5_passesSuit 41 = .ok (.iconst 1, 1) := by decide +kernel
theorem dX5_passesSuit_42 : decode cX5_passesSuit 42 = .ok (.if_icmp .ge 5, 3) := by decide +kernel
theorem dX5_passesSuit_45 : decode cX5_passesSuit 45 = .ok (.iconst 0, 1) := by decide +kernel
theorem dX5_passesSuit_46 : decode cX5_passesSuit 46 = .ok (.ireturn, 1) := by decide +kernel
theorem dX5_passesSuit_47 : decode cX5_passesSuit 47 = .ok (.aload_n 0, 1) := by decide +kernel
theorem dX5_passesSuit_48 : decode cX5_passesSuit 48 = .ok (.dup, 1) := by decide +kernel
theorem dX5_passesSuit_49 : decode cX5_passesSuit 49 = .ok (.getfield 24, 3) := by decide +kernel
theorem dX5_passesSuit_52 : decode cX5_passesSuit 52 = .ok (.iconst 1, 1) := by decide +kernel
theorem dX5_passesSuit_53 : decode cX5_passesSuit 53 = .ok (.iadd, 1) := by decide +kernel
theorem dX5_passesSuit_54 : decode cX5_passesSuit 54 = .ok (.putfield 24, 3) := by decide +kernel
theorem dX5_passesSuit_57 : decode cX5_passesSuit 57 = .ok (.bipush (-9), 2) := by decide +kernel
theorem dX5_passesSuit_59 : decode cX5_passesSuit 59 = .ok (.istore 4, 2) := by decide +kernel
theorem dX5_passesSuit_61 : decode cX5_passesSuit 61 = .ok (.iload_n 2, 1) := by decide +kernel
theorem dX5_passesSuit_62 : decode cX5_passesSuit 62 = .ok (.iconst 3, 1) := by decide +kernel
theorem dX5_passesSuit_63 : decode cX5_passesSuit 63 = .ok (.if_icmp .lt 50, 3) := by decide +kernel
theorem dX5_passesSuit_66 : decode cX5_passesSuit 66 = .ok (.aload_n 0, 1) := by decide +kernel
theorem dX5_passesSuit_67 : decode cX5_passesSuit 67 = .ok (.aload_n 1, 1) := by decide +kernel
theorem dX5_passesSuit_68 : decode cX5_passesSuit 68 = .ok (.invokevirtual 62, 3) := by decide +kernel
theorem dX5_passesSuit_71 : decode cX5_passesSuit 71 = .ok (.istore 4, 2) := by decide +kernel
theorem dX5_passesSuit_73 : decode cX5_passesSuit 73 = .ok (.iload_n 2, 1) := by decide +kernel
theorem dX5_passesSuit_74 : decode cX5_passesSuit 74 = .ok (.iconst 5, 1) := by decide +kernel
theorem dX5_passesSuit_75 : decode cX5_passesSuit 75 = .ok (.if_icmp .ne 20, 3) := by decide +kernel
theorem dX5_passesSuit_78 : decode cX5_passesSuit 78 = .ok (.iload 4, 2) := by decide +kernel
theorem dX5_passesSuit_80 : decode cX5_passesSuit 80 = .ok (.ifCond .lt 21, 3) := by decide +kernel
theorem dX5_passesSuit_83 : decode cX5_passesSuit 83 = .ok (.iload 4, 2) := by decide +kernel
theorem dX5_passesSuit_85 : decode cX5_passesSuit 85 = .ok (.aload_n 0, 1) := by decide +kernel
theorem dX5_passesSuit_86 : decode cX5_passesSuit 86 = .ok (.getfield 28, 3) := by decide +kernel
theorem dX5_passesSuit_89 : decode cX5_passesSuit 89 = .ok (.if_icmp .lt 14, 3) := by decide +kernel
theorem dX5_passesSuit_92 : decode cX5_passesSuit 92 = .ok (.goto 9, 3) := by decide +kernel
theorem dX5_passesSuit_95 : decode cX5_passesSuit 95 = .ok (.iload 4, 2) := by decide +kernel
theorem dX5_passesSuit_97 : decode cX5_passesSuit 97 = .ok (.iconst 1, 1) := by decide +kernel
theorem dX5_passesSuit_98 : decode cX5_passesSuit 98 = .ok (.if_icmp .ge 5, 3) := by decide +kernel
theorem dX5_passesSuit_101 : decode cX5_passesSuit 101 = .ok (.iconst 0, 1) := by decide +kernel
theorem dX5_passesSuit_102 : decode cX5_passesSuit 102 = .ok (.ireturn, 1) := by decide +kernel
theorem dX5_passesSuit_103 : decode cX5_passesSuit 103 = .ok (.aload_n 0, 1) := by decide +kernel
theorem dX5_passesSuit_104 : decode cX5_passesSuit 104 = .ok (.dup, 1) := by decide +kernel
theorem dX5_passesSuit_105 : decode cX5_passesSuit 105 = .ok (.getfield 24, 3) := by decide +kernel
theorem dX5_passesSuit_108 : decode cX5_passesSuit 108 = .ok (.iconst 1, 1) := by decide +kernel
theorem dX5_passesSuit_109 : decode cX5_passesSuit 109 = .ok (.iadd, 1) := by decide +kernel
theorem dX5_passesSuit_110 : decode cX5_passesSuit 110 = .ok (.putfield 24, 3) := by decide +kernel
theorem dX5_passesSuit_113 : decode cX5_passesSuit 113 = .ok (.aload_n 0, 1) := by decide +kernel
theorem dX5_passesSuit_114 : decode cX5_passesSuit 114 = .ok (.getfield 15, 3) := by decide +kernel
theorem dX5_passesSuit_117 : decode cX5_passesSuit 117 = .ok (.aload_n 0, 1) := by decide +kernel
theorem dX5_passesSuit_118 : decode cX5_passesSuit 118 = .ok (.getfield 28, 3) := by decide +kernel
theorem dX5_passesSuit_121 : decode cX5_passesSuit 121 = .ok (.iload_n 2, 1) := by decide +kernel
theorem dX5_passesSuit_122 : decode cX5_passesSuit 122 = .ok (.iastore, 1) := by decide +kernel
theorem dX5_passesSuit_123 : decode cX5_passesSuit 123 = .ok (.aload_n 0, 1) := by decide +kernel
theorem dX5_passesSuit_124 : decode cX5_passesSuit 124 = .ok (.getfield 18, 3) := by decide +kernel
theorem dX5_passesSuit_127 : decode cX5_passesSuit 127 = .ok (.aload_n 0, 1) := by decide +kernel
theorem dX5_passesSuit_128 : decode cX5_passesSuit 128 = .ok (.getfield 28, 3) := by decide +kernel
theorem dX5_passesSuit_131 : decode cX5_passesSuit 131 = .ok (.iload_n 3, 1) := by decide +kernel
theorem dX5_passesSuit_132 : decode cX5_passesSuit 132 = .ok (.iastore, 1) := by decide +kernel
theorem dX5_passesSuit_133 : decode cX5_passesSuit 133 = .ok (.aload_n 0, 1) := by decide +kernel
theorem dX5_passesSuit_134 : decode cX5_passesSuit 134 = .ok (.getfield 21, 3) := by decide +kernel
theorem dX5_passesSuit_137 : decode cX5_passesSuit 137 = .ok (.aload_n 0, 1) := by decide +kernel
theorem dX5_passesSuit_138 : decode cX5_passesSuit 138 = .ok (.getfield 28, 3) := by decide +kernel
theorem dX5_passesSuit_141 : decode cX5_passesSuit 141 = .ok (.iload 4, 2) := by decide +kernel
theorem dX5_passesSuit_143 : decode cX5_passesSuit 143 = .ok (.iastore, 1) := by decide +kernel
theorem dX5_passesSuit_144 : decode cX5_passesSuit 144 = .ok (.aload_n 0, 1) := by decide +kernel
theorem dX5_passesSuit_145 : decode cX5_passesSuit 145 = .ok (.dup, 1) := by decide +kernel
theorem dX5_passesSuit_146 : decode cX5_passesSuit 146 = .ok (.getfield 28, 3) := by decide +kernel
theorem dX5_passesSuit_149 : decode cX5_passesSuit 149 = .ok (.iconst 1, 1) := by decide +kernel
theorem dX5_passesSuit_150 : decode cX5_passesSuit 150 = .ok (.iadd, 1) := by decide +kernel
theorem dX5_passesSuit_151 : decode cX5_passesSuit 151 = .ok (.putfield 28, 3) := by decide +kernel
theorem dX5_passesSuit_154 : decode cX5_passesSuit 154 = .ok (.iconst 1, 1) := by decide +kernel
theorem dX5_passesSuit_155 : decode cX5_passesSuit 155 = .ok (.ireturn, 1) := by decide +kernel
theorem dX5_skipBlanks_0 : decode cX5_skipBlanks 0 = .ok (.aload_n 0, 1) := by decide +kernel
theorem dX5_skipBlanks_1 : decode cX5_skipBlanks 1 = .ok (.getfield 24, 3) := by decide +kernel
theorem dX5_skipBlanks_4 : decode cX5_skipBlanks 4 = .ok (.aload_n 1, 1) := by decide +kernel
theorem dX5_skipBlanks_5 : decode cX5_skipBlanks 5 = .ok (.getfield 42, 3) := by decide +kernel
theorem dX5_skipBlanks_8 : decode cX5_skipBlanks 8 = .ok (.if_icmp .ge 26, 3) := by decide +kernel
theorem dX5_skipBlanks_11 : decode cX5_skipBlanks 11 = .ok (.aload_n 0, 1) := by decide +kernel
theorem dX5_skipBlanks_12 : decode cX5_skipBlanks 12 = .ok (.aload_n 1, 1) := by decide +kernel
theorem dX5_skipBlanks_13 : decode cX5_skipBlanks 13 = .ok (.invokevirtual 58, 3) := by decide +kernel
theorem dX5_skipBlanks_16 : decode cX5_skipBlanks 16 = .ok (.bipush 32, 2) := by decide +kernel
theorem dX5_skipBlanks_18 : decode cX5_skipBlanks 18 = .ok (.if_icmp .ne 16, 3) := by decide +kernel
theorem dX5_skipBlanks_21 : decode cX5_skipBlanks 21 = .ok (.aload_n 0, 1) := by decide +kernel
theorem dX5_skipBlanks_22 : decode cX5_skipBlanks 22 = .ok (.dup, 1) := by decide +kernel
theorem dX5_skipBlanks_23 : decode cX5_skipBlanks 23 = .ok (.getfield 24, 3) := by decide +kernel
theorem dX5_skipBlanks_26 : decode cX5_skipBlanks 26 = .ok (.iconst 1, 1) := by decide +kernel
theorem dX5_skipBlanks_27 : decode cX5_skipBlanks 27 = .ok (.iadd, 1) := by decide +kernel
theorem dX5_skipBlanks_28 : decode cX5_skipBlanks 28 = .ok (.putfield 24, 3) := by decide +kernel
theorem dX5_skipBlanks_31 : decode cX5_skipBlanks 31 = .ok (.goto (-31), 3) := by decide +kernel
theorem dX5_skipBlanks_34 : decode cX5_skipBlanks 34 = .ok (.return_, 1) := by decide +kernel
theorem dX5_read_0 : decode cX5_read 0 = .ok (.aload_n 0, 1) := by decide +kernel
theorem dX5_read_1 : decode cX5_read 1 = .ok (.iconst 0, 1) := by decide +kernel
theorem dX5_read_2 : decode cX5_read 2 = .ok (.putfield 24, 3) := by decide +kernel
theorem dX5_read_5 : decode cX5_read 5 = .ok (.aload_n 0, 1) := by decide +kernel
theorem dX5_read_6 : decode cX5_read 6 = .ok (.iconst 0, 1) := by decide +kernel
theorem dX5_read_7 : decode cX5_read 7 = .ok (.putfield 28, 3) := by decide +kernel
theorem dX5_read_10 : decode cX5_read 10 = .ok (.aload_n 0, 1) := by decide +kernel
theorem dX5_read_11 : decode cX5_read 11 = .ok (.aload_n 1, 1) := by decide +kernel
theorem dX5_read_12 : decode cX5_read 12 = .ok (.invokevirtual 31, 3) := by decide +kernel
theorem dX5_read_15 : decode cX5_read 15 = .ok (.aload_n 0, 1) := by decide +kernel
theorem dX5_read_16 : decode cX5_read 16 = .ok (.aload_n 1, 1) := by decide +kernel
theorem dX5_read_17 : decode cX5_read 17 = .ok (.bipush 110, 2) := by decide +kernel
theorem dX5_read_19 : decode cX5_read 19 = .ok (.invokevirtual 35, 3) := by decide +kernel
theorem dX5_read_22 : decode cX5_read 22 = .ok (.ifCond .eq 31, 3) := by decide +kernel
theorem dX5_read_25 : decode cX5_read 25 = .ok (.aload_n 0, 1) := by decide +kernel
theorem dX5_read_26 : decode cX5_read 26 = .ok (.aload_n 1, 1) := by decide +kernel
theorem dX5_read_27 : decode cX5_read 27 = .ok (.iconst 0, 1) := by decide +kernel
theorem dX5_read_28 : decode cX5_read 28 = .ok (.invokevirtual 39, 3) := by decide +kernel
theorem dX5_read_31 : decode cX5_read 31 = .ok (.ifCond .eq 22, 3) := by decide +kernel
theorem dX5_read_34 : decode cX5_read 34 = .ok (.aload_n 0, 1) := by decide +kernel
theorem dX5_read_35 : decode cX5_read 35 = .ok (.aload_n 1, 1) := by decide +kernel
theorem dX5_read_36 : decode cX5_read 36 = .ok (.bipush 58, 2) := by decide +kernel
theorem dX5_read_38 : decode cX5_read 38 = .ok (.invokevirtual 35, 3) := by decide +kernel
theorem dX5_read_41 : decode cX5_read 41 = .ok (.ifCond .eq 12, 3) := by decide +kernel
theorem dX5_read_44 : decode cX5_read 44 = .ok (.aload_n 0, 1) := by decide +kernel
theorem dX5_read_45 : decode cX5_read 45 = .ok (.aload_n 1, 1) := by decide +kernel
theorem dX5_read_46 : decode cX5_read 46 = .ok (.iconst 1, 1) := by decide +kernel
theorem dX5_read_47 : decode cX5_read 47 = .ok (.invokevirtual 39, 3) := by decide +kernel
theorem dX5_read_50 : decode cX5_read 50 = .ok (.ifCond .ne 8, 3) := by decide +kernel
theorem dX5_read_53 : decode cX5_read 53 = .ok (.aload_n 0, 1) := by decide +kernel
theorem dX5_read_54 : decode cX5_read 54 = .ok (.getfield 24, 3) := by decide +kernel
theorem dX5_read_57 : decode cX5_read 57 = .ok (.ireturn, 1) := by decide +kernel
theorem dX5_read_58 : decode cX5_read 58 = .ok (.iconst 0, 1) := by decide +kernel
theorem dX5_read_59 : decode cX5_read 59 = .ok (.istore_n 2, 1) := by decide +kernel
theorem dX5_read_60 : decode cX5_read 60 = .ok (.iload_n 2, 1) := by decide +kernel
theorem dX5_read_61 : decode cX5_read 61 = .ok (.bipush 6, 2) := by decide +kernel
theorem dX5_read_63 : decode cX5_read 63 = .ok (.if_icmp .gt 41, 3) := by decide +kernel
theorem dX5_read_66 : decode cX5_read 66 = .ok (.aload_n 0, 1) := by decide +kernel
theorem dX5_read_67 : decode cX5_read 67 = .ok (.aload_n 1, 1) := by decide +kernel
theorem dX5_read_68 : decode cX5_read 68 = .ok (.invokevirtual 31, 3) := by decide +kernel
theorem dX5_read_71 : decode cX5_read 71 = .ok (.aload_n 0, 1) := by decide +kernel
theorem dX5_read_72 : decode cX5_read 72 = .ok (.getfield 24, 3) := by decide +kernel
theorem dX5_read_75 : decode cX5_read 75 = .ok (.aload_n 1, 1) := by decide +kernel
theorem dX5_read_76 : decode cX5_read 76 = .ok (.getfield 42, 3) := by decide +kernel
theorem dX5_read_79 : decode cX5_read 79 = .ok (.if_icmp .lt 6, 3) := by decide +kernel
theorem dX5_read_82 : decode cX5_read 82 = .ok (.bipush (-9), 2) := by decide +kernel
theorem dX5_read_84 : decode cX5_read 84 = .ok (.ireturn, 1) := by decide +kernel
theorem dX5_read_85 : decode cX5_read 85 = .ok (.aload_n 0, 1) := by decide +kernel
theorem dX5_read_86 : decode cX5_read 86 = .ok (.aload_n 1, 1) := by decide +kernel
theorem dX5_read_87 : decode cX5_read 87 = .ok (.invokevirtual 47, 3) := by decide +kernel
theorem dX5_read_90 : decode cX5_read 90 = .ok (.ifCond .ne 8, 3) := by decide +kernel
theorem dX5_read_93 : decode cX5_read 93 = .ok (.aload_n 0, 1) := by decide +kernel
theorem dX5_read_94 : decode cX5_read 94 = .ok (.getfield 24, 3) := by decide +kernel
theorem dX5_read_97 : decode cX5_read 97 = .ok (.ireturn, 1) := by decide +kernel
theorem dX5_read_98 : decode cX5_read 98 = .ok (.iinc 2 1, 3) := by decide +kernel
theorem dX5_read_101 : decode cX5_read 101 = .ok (.goto (-41), 3) := by decide +kernel
theorem dX5_read_104 : decode cX5_read 104 = .ok (.aload_n 0, 1) := by decide +kernel
theorem dX5_read_105 : decode cX5_read 105 = .ok (.getfield 24, 3) := by decide +kernel
theorem dX5_read_108 : decode cX5_read 108 = .ok (.ireturn, 1) := by decide +kernel
theorem q_118 : Cond.fieldLink RX5 24 "HeavyFiles$Reader" "place" "I" ∈ wT := wi_t 118 (by decide +kernel) (by decide +kernel)
theorem q_881 : Cond.methodLink RX5 51 yX6_has ∈ wT := wi_t 881 (by decide +kernel) (by decide +kernel)
theorem q_379 : Cond.code yX6_has cX6_has 2 (some .boolean) ∈ wT := wi_t 379 (by decide +kernel) (by decide +kernel)
theorem q_377 : Cond.instanceMethod yX6_has ∈ wT := wi_t 377 (by decide +kernel) (by decide +kernel)
theorem q_378 : Cond.selects RX6 yX6_has yX6_has ∈ wT := wi_t 378 (by decide +kernel) (by decide +kernel)
theorem q_298 : Cond.fieldLink RX5 55 "HeavyFiles$Row" "places" "[I" ∈ wT := wi_t 298 (by decide +kernel) (by decide +kernel)
theorem q_877 : Cond.methodLink RX5 58 yX5_sign ∈ wT := wi_t 877 (by decide +kernel) (by decide +kernel)
theorem q_880 : Cond.code yX5_sign cX5_sign 2 (some .int) ∈ wT := wi_t 880 (by decide +kernel) (by decide +kernel)
theorem q_879 : Cond.instanceMethod yX5_sign ∈ wT := wi_t 879 (by decide +kernel) (by decide +kernel)
theorem q_4 : Cond.initialized RX5 ∈ wT := wi_t 4 (by decide +kernel) (by decide +kernel)
theorem qs_27 : Cond.selects RX5 yX5_sign yX5_sign ∈ wT := wi_s (q := (yX5_sign, 6)) 27 (by decide +kernel) (by decide +kernel)
theorem q_108 : Cond.fieldLink RX5 9 "HeavyFiles$Reader" "stocks" "[I" ∈ wT := wi_t 108 (by decide +kernel) (by decide +kernel)
theorem q_890 : Cond.methodLink RX5 62 yX5_figure ∈ wT := wi_t 890 (by decide +kernel) (by decide +kernel)
theorem q_893 : Cond.code yX5_figure cX5_figure 3 (some .int) ∈ wT := wi_t 893 (by decide +kernel) (by decide +kernel)
theorem q_892 : Cond.instanceMethod yX5_figure ∈ wT := wi_t 892 (by decide +kernel) (by decide +kernel)
theorem qs_30 : Cond.selects RX5 yX5_figure yX5_figure ∈ wT := wi_s (q := (yX5_figure, 6)) 30 (by decide +kernel) (by decide +kernel)
theorem q_110 : Cond.fieldLink RX5 15 "HeavyFiles$Reader" "kinds" "[I" ∈ wT := wi_t 110 (by decide +kernel) (by decide +kernel)
theorem q_117 : Cond.fieldLink RX5 28 "HeavyFiles$Reader" "suits" "I" ∈ wT := wi_t 117 (by decide +kernel) (by decide +kernel)
theorem q_112 : Cond.fieldLink RX5 18 "HeavyFiles$Reader" "worths" "[I" ∈ wT := wi_t 112 (by decide +kernel) (by decide +kernel)
theorem q_114 : Cond.fieldLink RX5 21 "HeavyFiles$Reader" "figures" "[I" ∈ wT := wi_t 114 (by decide +kernel) (by decide +kernel)
theorem q_898 : Cond.methodLink RX5 65 yX5_kindBy ∈ wT := wi_t 898 (by decide +kernel) (by decide +kernel)
theorem q_900 : Cond.code yX5_kindBy cX5_kindBy 1 (some .int) ∈ wT := wi_t 900 (by decide +kernel) (by decide +kernel)
theorem q_899 : Cond.static yX5_kindBy ∈ wT := wi_t 899 (by decide +kernel) (by decide +kernel)
theorem q_301 : Cond.fieldLink RX5 42 "HeavyFiles$Row" "size" "I" ∈ wT := wi_t 301 (by decide +kernel) (by decide +kernel)
theorem q_873 : Cond.methodLink RX5 31 yX5_skipBlanks ∈ wT := wi_t 873 (by decide +kernel) (by decide +kernel)
theorem q_876 : Cond.code yX5_skipBlanks cX5_skipBlanks 2 none ∈ wT := wi_t 876 (by decide +kernel) (by decide +kernel)
theorem q_875 : Cond.instanceMethod yX5_skipBlanks ∈ wT := wi_t 875 (by decide +kernel) (by decide +kernel)
theorem qs_26 : Cond.selects RX5 yX5_skipBlanks yX5_skipBlanks ∈ wT := wi_s (q := (yX5_skipBlanks, 6)) 26 (by decide +kernel) (by decide +kernel)
theorem q_894 : Cond.methodLink RX5 47 yX5_passesSuit ∈ wT := wi_t 894 (by decide +kernel) (by decide +kernel)
theorem q_897 : Cond.code yX5_passesSuit cX5_passesSuit 5 (some .boolean) ∈ wT := wi_t 897 (by decide +kernel) (by decide +kernel)
theorem q_896 : Cond.instanceMethod yX5_passesSuit ∈ wT := wi_t 896 (by decide +kernel) (by decide +kernel)
theorem qs_31 : Cond.selects RX5 yX5_passesSuit yX5_passesSuit ∈ wT := wi_s (q := (yX5_passesSuit, 6)) 31 (by decide +kernel) (by decide +kernel)
theorem q_882 : Cond.methodLink RX5 35 yX5_passes ∈ wT := wi_t 882 (by decide +kernel) (by decide +kernel)
theorem q_885 : Cond.code yX5_passes cX5_passes 3 (some .boolean) ∈ wT := wi_t 885 (by decide +kernel) (by decide +kernel)
theorem q_884 : Cond.instanceMethod yX5_passes ∈ wT := wi_t 884 (by decide +kernel) (by decide +kernel)
theorem qs_28 : Cond.selects RX5 yX5_passes yX5_passes ∈ wT := wi_s (q := (yX5_passes, 6)) 28 (by decide +kernel) (by decide +kernel)
theorem q_886 : Cond.methodLink RX5 39 yX5_passesStock ∈ wT := wi_t 886 (by decide +kernel) (by decide +kernel)
theorem q_889 : Cond.code yX5_passesStock cX5_passesStock 5 (some .boolean) ∈ wT := wi_t 889 (by decide +kernel) (by decide +kernel)
theorem q_888 : Cond.instanceMethod yX5_passesStock ∈ wT := wi_t 888 (by decide +kernel) (by decide +kernel)
theorem qs_29 : Cond.selects RX5 yX5_passesStock yX5_passesStock ∈ wT := wi_s (q := (yX5_passesStock, 6)) 29 (by decide +kernel) (by decide +kernel)
theorem kvX6_has : KV yX6_has RX6 cX6_has 2 (some .boolean) 1 := ⟨q_377, q_378, q_12, q_379, rfl, by decide +kernel, by decide +kernel, by decide +kernel⟩
theorem kvX5_sign : KV yX5_sign RX5 cX5_sign 2 (some .int) 1 := ⟨q_879, qs_27, q_4, q_880, rfl, by decide +kernel, by decide +kernel, by decide +kernel⟩
theorem kvX5_figure : KV yX5_figure RX5 cX5_figure 3 (some .int) 1 := ⟨q_892, qs_30, q_4, q_893, rfl, by decide +kernel, by decide +kernel, by decide +kernel⟩
theorem kvX5_kindBy : KS yX5_kindBy cX5_kindBy 1 (some .int) 1 := ⟨q_899, q_4, q_900, by decide +kernel, by decide +kernel, by decide +kernel⟩
theorem kvX5_skipBlanks : KV yX5_skipBlanks RX5 cX5_skipBlanks 2 none 1 := ⟨q_875, qs_26, q_4, q_876, rfl, by decide +kernel, by decide +kernel, by decide +kernel⟩
theorem kvX5_passesSuit : KV yX5_passesSuit RX5 cX5_passesSuit 5 (some .boolean) 1 := ⟨q_896, qs_31, q_4, q_897, rfl, by decide +kernel, by decide +kernel, by decide +kernel⟩
theorem kvX5_passes : KV yX5_passes RX5 cX5_passes 3 (some .boolean) 2 := ⟨q_884, qs_28, q_4, q_885, rfl, by decide +kernel, by decide +kernel, by decide +kernel⟩
theorem kvX5_passesStock : KV yX5_passesStock RX5 cX5_passesStock 5 (some .boolean) 2 := ⟨q_888, qs_29, q_4, q_889, rfl, by decide +kernel, by decide +kernel, by decide +kernel⟩
/-! HeavyFiles$Reader.sign(LHeavyFiles$Row;)I -/
def fX5_sign (N : Nat)  (a0 : Nat) (a1 : Nat) (mm : Mm) : Option (Int32 × Mm) :=
  bd2 (fX6_has N a1 (rd mm a0 5) mm) fun x1 m2 => if x1 = 0 then (some (1000, m2)) else (gd (inb (rd m2 a0 5) (ln (fr a1 0))) <| some (rd m2 (fr a1 0) ((rd m2 a0 5).toNatClampNeg), m2))
abbrev rmX5_sign : Room := { frames := 2, cells := 0, slots := 0, locals := 69 }
/-! HeavyFiles$Reader.passes(LHeavyFiles$Row;I)Z -/
def fX5_passes (N : Nat)  (a0 : Nat) (a1 : Nat) (a2 : Int32) (mm : Mm) : Option (Int32 × Mm) :=
  bd2 (fX5_sign N a0 a1 mm) fun x1 m2 => if x1 = a2 then (nm (wr m2 a0 5 ((rd m2 a0 5) + 1)) fun m5 => some (1, m5)) else (some (0, m2))
abbrev rmX5_passes : Room := { frames := 3, cells := 0, slots := 0, locals := 98 }
/-! HeavyFiles$Reader.figure(LHeavyFiles$Row;)I -/
def fX5_figure (N : Nat)  (a0 : Nat) (a1 : Nat) (mm : Mm) : Option (Int32 × Mm) :=
  bd2 (fX5_sign N a0 a1 mm) fun x1 m2 => if x1 < 48 then (some ((-9), m2)) else (if (57 : Int32) < x1 then (some ((-9), m2)) else (some (x1 - 48, m2)))
abbrev rmX5_figure : Room := { frames := 3, cells := 0, slots := 0, locals := 98 }
/-! HeavyFiles$Reader.passesStock(LHeavyFiles$Row;I)Z -/
def fX5_passesStock_52 (N : Nat)  (a0 : Nat) (a2 : Int32) (a3 : Int32) (mm : Mm) : Option (Int32 × Mm) :=
  gd (inb a2 (ln (fr a0 0))) <| nm (wr mm (fr a0 0) a2.toNatClampNeg a3) fun m2 => if (40 : Int32) < a3 then (some (0, m2)) else (some (1, m2))
def fX5_passesStock (N : Nat)  (a0 : Nat) (a1 : Nat) (a2 : Int32) (mm : Mm) : Option (Int32 × Mm) :=
  bd2 (fX5_figure N a0 a1 mm) fun x4 m5 => if (0 : Int32) ≤ x4 then (nm (wr m5 a0 5 ((rd m5 a0 5) + 1)) fun m8 => bd2 (fX5_figure N a0 a1 m8) fun x9 m10 => if x9 < 0 then (fX5_passesStock_52 N a0 a2 x4 m10) else (nm (wr m10 a0 5 ((rd m10 a0 5) + 1)) fun m13 => fX5_passesStock_52 N a0 a2 ((10 * x4) + x9) m13)) else (some (0, m5))
abbrev rmX5_passesStock : Room := { frames := 4, cells := 0, slots := 0, locals := 128 }
/-! HeavyFiles$Reader.kindBy(I)I -/
def fX5_kindBy (N : Nat)  (a0 : Int32) (mm : Mm) : Option (Int32 × Mm) :=
  if a0 = 100 then (some (3, mm)) else if a0 = 102 then (some (2, mm)) else if a0 = 104 then (some (5, mm)) else if a0 = 111 then (some (1, mm)) else if a0 = 112 then (some (4, mm)) else if a0 = 115 then (some (0, mm)) else (some ((-9), mm))
abbrev rmX5_kindBy : Room := { frames := 1, cells := 0, slots := 0, locals := 40 }
/-! HeavyFiles$Reader.passesSuit(LHeavyFiles$Row;)Z -/
def fX5_passesSuit_113 (N : Nat)  (a0 : Nat) (a2 : Int32) (a3 : Int32) (a4 : Int32) (mm : Mm) : Option (Int32 × Mm) :=
  gd (inb (rd mm a0 4) (ln (fr a0 1))) <| nm (wr mm (fr a0 1) (rd mm a0 4).toNatClampNeg a2) fun m2 => gd (inb (rd m2 a0 4) (ln (fr a0 2))) <| nm (wr m2 (fr a0 2) (rd m2 a0 4).toNatClampNeg a3) fun m4 => gd (inb (rd m4 a0 4) (ln (fr a0 3))) <| nm (wr m4 (fr a0 3) (rd m4 a0 4).toNatClampNeg a4) fun m6 => nm (wr m6 a0 4 ((rd m6 a0 4) + 1)) fun m7 => some (1, m7)
def fX5_passesSuit_103 (N : Nat)  (a0 : Nat) (a2 : Int32) (a3 : Int32) (a4 : Int32) (mm : Mm) : Option (Int32 × Mm) :=
  nm (wr mm a0 5 ((rd mm a0 5) + 1)) fun m8 => fX5_passesSuit_113 N a0 a2 a3 a4 m8
def fX5_passesSuit (N : Nat)  (a0 : Nat) (a1 : Nat) (mm : Mm) : Option (Int32 × Mm) :=
  bd2 (fX5_sign N a0 a1 mm) fun x9 m10 => bd2 (fX5_kindBy N x9 m10) fun x12 m13 => if x12 < 0 then (some (0, m13)) else (if (rd m13 a0 4) < 6 then (nm (wr m13 a0 5 ((rd m13 a0 5) + 1)) fun m17 => bd2 (fX5_figure N a0 a1 m17) fun x18 m19 => if (1 : Int32) ≤ x18 then (nm (wr m19 a0 5 ((rd m19 a0 5) + 1)) fun m22 => if x12 < 3 then (fX5_passesSuit_113 N a0 x12 x18 (-9) m22) else (bd2 (fX5_figure N a0 a1 m22) fun x24 m25 => if x12 = 5 then (if x24 < 0 then (some (0, m25)) else (if x24 < (rd m25 a0 4) then (fX5_passesSuit_103 N a0 x12 x18 x24 m25) else (some (0, m25)))) else (if (1 : Int32) ≤ x24 then (fX5_passesSuit_103 N a0 x12 x18 x24 m25) else (some (0, m25))))) else (some (0, m19))) else (some (0, m13)))
abbrev rmX5_passesSuit : Room := { frames := 4, cells := 0, slots := 0, locals := 128 }
/-! HeavyFiles$Reader.skipBlanks(LHeavyFiles$Row;)V -/
def fX5_skipBlanks_0 (N : Nat)  : Nat → Nat → Nat → Mm → Option (Unit × Mm)
  | 0 => fun _ _ _ => none
  | n + 1 => fun a0 a1 mm =>
    let k0 := fX5_skipBlanks_0 N  n
    if (rd mm a1 1) ≤ (rd mm a0 5) then (some ((), mm)) else (bd2 (fX5_sign N a0 a1 mm) fun x2 m3 => if x2 = 32 then (nm (wr m3 a0 5 ((rd m3 a0 5) + 1)) fun m6 => k0 a0 a1 m6) else (some ((), m3)))
def fX5_skipBlanks (N : Nat) (a0 : Nat) (a1 : Nat) (mm : Mm) : Option (Unit × Mm) := fX5_skipBlanks_0 N N a0 a1 mm
abbrev rmX5_skipBlanks : Room := { frames := 3, cells := 0, slots := 0, locals := 98 }
/-! HeavyFiles$Reader.read(LHeavyFiles$Row;)I -/
def fX5_read_60 (N : Nat)  : Nat → Nat → Nat → Int32 → Mm → Option (Int32 × Mm)
  | 0 => fun _ _ _ _ => none
  | n + 1 => fun a0 a1 a2 mm =>
    let k60 := fX5_read_60 N  n
    if (6 : Int32) < a2 then (some (rd mm a0 5, mm)) else (bd2 (fX5_skipBlanks N a0 a1 mm) fun x2 m3 => if (rd m3 a0 5) < (rd m3 a1 1) then (bd2 (fX5_passesSuit N a0 a1 m3) fun x6 m7 => if x6 = 0 then (some (rd m7 a0 5, m7)) else (k60 a0 a1 (a2 + 1) m7)) else (some ((-9), m3)))
def fX5_read (N : Nat)  (a0 : Nat) (a1 : Nat) (mm : Mm) : Option (Int32 × Mm) :=
  nm (wr mm a0 5 0) fun m10 => nm (wr m10 a0 4 0) fun m11 => bd2 (fX5_skipBlanks N a0 a1 m11) fun x12 m13 => bd2 (fX5_passes N a0 a1 110 m13) fun x15 m16 => if x15 = 0 then (some (rd m16 a0 5, m16)) else (bd2 (fX5_passesStock N a0 a1 0 m16) fun x19 m20 => if x19 = 0 then (some (rd m20 a0 5, m20)) else (bd2 (fX5_passes N a0 a1 58 m20) fun x23 m24 => if x23 = 0 then (some (rd m24 a0 5, m24)) else (bd2 (fX5_passesStock N a0 a1 1 m24) fun x27 m28 => if x27 = 0 then (some (rd m28 a0 5, m28)) else (fX5_read_60 N N a0 a1 0 m28))))
abbrev rmX5_read : Room := { frames := 5, cells := 0, slots := 0, locals := 160 }
section W_reader14
variable {p : Program} {l : Launch} {e : Env} {s : State} {m : MethodId} {args : Array Value} {below : List Frame} {meth : Method} {c : Code} {D : va_G} {ca ad : Nat → Nat}
set_option maxRecDepth 100000 in
set_option maxHeartbeats 4000000 in
theorem wX5_sign_0 (C : Cx p s m meth c args cX5_sign 2 (some .int) RX5 D ca ad) {res : Int32 × Mm} {N : Nat}  {a0 : Nat} {a1 : Nat} {mm : Mm} {H : Heap} {locs : List Loc} {ls : Array Slot} (ha0 : sX5 a0) (ha1 : sX6 a1) (hW : Wd D ca ad s.heap mm H locs) (hl : lv_has ls 2 [(0, .ref (ad a0)), (1, .ref (ad a1))]) (hf : fX5_sign N a0 a1 mm = some res) : W p l e (rmX5_sign) s m args below meth c H locs 0 0 (MQ below (QI D ca ad res) args s 0 0 (AA ad)) (F0 m 0 ls []) := by
  unfold fX5_sign at hf
  refine lv_aload_n C.1 C.2.1 dX5_sign_0 rfl (lv_at hl 1 rfl) ?_
  refine lv_aload_n C.1 C.2.1 dX5_sign_1 rfl (lv_at hl 0 rfl) ?_
  refine x_geti C hW (ha0).1 (ha0).2.1 (j := 5) rfl kX5 (by decide) rfl q_118 dX5_sign_2 ?_
  obtain ⟨x1, m2, r3, hf⟩ := bd2_s hf
  refine x_ci hW (x_runV C hW [.int (rd mm a0 5)] [] (ha1).1 (ha1).2.1 kX6.1 kvX6_has q_881 (tX6_has l C.2.2.2.2.2.2.1 ha1 r3) rfl rfl ⟨by decide, by decide⟩ rfl hl.1 rfl (Nat.le_of_ble_eq_true rfl) dX5_sign_5) (fun H locs hW => ?_)
  refine lv_if_eq (tgt := 23) C.1 C.2.1 dX5_sign_8 (by decide) (fun c4 => ?_) (fun c4 => ?_)
  · have hf := if_t c4 hf
    refine lv_sipush (v := 1000) C.1 C.2.1 dX5_sign_23 (by decide) ?_
    cases hf
    exact x_iret C hW dX5_sign_26
  · have hf := if_f c4 hf
    refine lv_aload_n C.1 C.2.1 dX5_sign_11 rfl (lv_at hl 1 rfl) ?_
    refine x_getr C hW (ha1).1 (ha1).2.1 (j := 0) rfl kX6 (by decide) rfl q_298 dX5_sign_12 ?_
    refine lv_aload_n C.1 C.2.1 dX5_sign_15 rfl (lv_at hl 0 rfl) ?_
    refine x_geti C hW (ha0).1 (ha0).2.1 (j := 5) rfl kX5 (by decide) rfl q_118 dX5_sign_16 ?_
    obtain ⟨g5, hf⟩ := gd_s hf
    refine x_iald C hW ha1.2.2 g5 dX5_sign_19 ?_
    refine lv_goto (tgt := 26) C.1 C.2.1 dX5_sign_20 (by decide) ?_
    cases hf
    exact x_iret C hW dX5_sign_26
set_option maxRecDepth 100000 in
set_option maxHeartbeats 4000000 in
theorem tX5_sign (l : Launch) {D : va_G} {ca ad : Nat → Nat} (hi : Inj ad) {N : Nat} {a0 : Nat} {a1 : Nat} {mm : Mm} {res : Int32 × Mm} (ha0 : sX5 a0) (ha1 : sX6 a1) (hf : fX5_sign N a0 a1 mm = some res) : Met l yX5_sign (WS yX5_sign cX5_sign 2 (some .int)) (rmX5_sign) (va_Pc [.ref (ad a0), .ref (ad a1)] (WB D ca ad mm)) (QI D ca ad res) 0 0 (AA ad) := by
  refine x_start hi (by decide) rfl (Nat.le_of_ble_eq_true rfl) (fun p e s m args below meth c ls C hW hl => ?_)
  exact wX5_sign_0 C ha0 ha1 hW (lv_sub hl [0, 1] rfl) hf
set_option maxRecDepth 100000 in
set_option maxHeartbeats 4000000 in
theorem wX5_passes_0 (C : Cx p s m meth c args cX5_passes 3 (some .boolean) RX5 D ca ad) {res : Int32 × Mm} {N : Nat}  {a0 : Nat} {a1 : Nat} {a2 : Int32} {mm : Mm} {H : Heap} {locs : List Loc} {ls : Array Slot} (ha0 : sX5 a0) (ha1 : sX6 a1) (hW : Wd D ca ad s.heap mm H locs) (hl : lv_has ls 3 [(0, .ref (ad a0)), (1, .ref (ad a1)), (2, .int a2)]) (hf : fX5_passes N a0 a1 a2 mm = some res) : W p l e (rmX5_passes) s m args below meth c H locs 0 0 (MQ below (QI D ca ad res) args s 0 0 (AA ad)) (F0 m 0 ls []) := by
  unfold fX5_passes at hf
  refine lv_aload_n C.1 C.2.1 dX5_passes_0 rfl (lv_at hl 0 rfl) ?_
  refine lv_aload_n C.1 C.2.1 dX5_passes_1 rfl (lv_at hl 1 rfl) ?_
  obtain ⟨x1, m2, r3, hf⟩ := bd2_s hf
  refine x_ci hW (x_runV C hW [.ref (ad a1)] [] (ha0).1 (ha0).2.1 kX5.1 kvX5_sign q_877 (tX5_sign l C.2.2.2.2.2.2.1 ha0 ha1 r3) rfl rfl ⟨by decide, by decide⟩ rfl hl.1 rfl (Nat.le_of_ble_eq_true rfl) dX5_passes_2) (fun H locs hW => ?_)
  refine lv_iload_n C.1 C.2.1 dX5_passes_5 rfl (lv_at hl 2 rfl) ?_
  refine lv_icmp_eq (tgt := 11) C.1 C.2.1 dX5_passes_6 (by decide) (fun c4 => ?_) (fun c4 => ?_)
  · have hf := if_t c4 hf
    refine lv_aload_n C.1 C.2.1 dX5_passes_11 rfl (lv_at hl 0 rfl) ?_
    refine lv_dup C.1 C.2.1 dX5_passes_12 rfl ?_
    refine x_geti C hW (ha0).1 (ha0).2.1 (j := 5) rfl kX5 (by decide) rfl q_118 dX5_passes_13 ?_
    refine lv_iconst (v := 1) C.1 C.2.1 dX5_passes_16 (by decide) ?_
    refine lv_iadd C.1 C.2.1 dX5_passes_17 ?_
    refine x_put C hW (ha0).1 (ha0).2.1 (j := 5) (t1 := .int) rfl kX5 (by decide) rfl rfl q_118 (by decide +kernel) rfl rfl dX5_passes_18 (fun H locs hW => ?_)
    obtain ⟨m5, em5⟩ : ∃ z, z = wr m2 a0 5 ((rd m2 a0 5) + 1) := ⟨_, rfl⟩
    have hf := nm_s hf em5
    rw [← em5] at hW
    refine lv_iconst (v := 1) C.1 C.2.1 dX5_passes_21 (by decide) ?_
    cases hf
    exact x_zret C hW (by decide) dX5_passes_22
  · have hf := if_f c4 hf
    refine lv_iconst (v := 0) C.1 C.2.1 dX5_passes_9 (by decide) ?_
    cases hf
    exact x_zret C hW (by decide) dX5_passes_10
set_option maxRecDepth 100000 in
set_option maxHeartbeats 4000000 in
theorem tX5_passes (l : Launch) {D : va_G} {ca ad : Nat → Nat} (hi : Inj ad) {N : Nat} {a0 : Nat} {a1 : Nat} {a2 : Int32} {mm : Mm} {res : Int32 × Mm} (ha0 : sX5 a0) (ha1 : sX6 a1) (hf : fX5_passes N a0 a1 a2 mm = some res) : Met l yX5_passes (WS yX5_passes cX5_passes 3 (some .boolean)) (rmX5_passes) (va_Pc [.ref (ad a0), .ref (ad a1), .int a2] (WB D ca ad mm)) (QI D ca ad res) 0 0 (AA ad) := by
  refine x_start hi (by decide) rfl (Nat.le_of_ble_eq_true rfl) (fun p e s m args below meth c ls C hW hl => ?_)
  exact wX5_passes_0 C ha0 ha1 hW (lv_sub hl [0, 1, 2] rfl) hf
set_option maxRecDepth 100000 in
set_option maxHeartbeats 4000000 in
theorem wX5_figure_0 (C : Cx p s m meth c args cX5_figure 3 (some .int) RX5 D ca ad) {res : Int32 × Mm} {N : Nat}  {a0 : Nat} {a1 : Nat} {mm : Mm} {H : Heap} {locs : List Loc} {ls : Array Slot} (ha0 : sX5 a0) (ha1 : sX6 a1) (hW : Wd D ca ad s.heap mm H locs) (hl : lv_has ls 3 [(0, .ref (ad a0)), (1, .ref (ad a1))]) (hf : fX5_figure N a0 a1 mm = some res) : W p l e (rmX5_figure) s m args below meth c H locs 0 0 (MQ below (QI D ca ad res) args s 0 0 (AA ad)) (F0 m 0 ls []) := by
  unfold fX5_figure at hf
  refine lv_aload_n C.1 C.2.1 dX5_figure_0 rfl (lv_at hl 0 rfl) ?_
  refine lv_aload_n C.1 C.2.1 dX5_figure_1 rfl (lv_at hl 1 rfl) ?_
  obtain ⟨x1, m2, r3, hf⟩ := bd2_s hf
  refine x_ci hW (x_runV C hW [.ref (ad a1)] [] (ha0).1 (ha0).2.1 kX5.1 kvX5_sign q_877 (tX5_sign l C.2.2.2.2.2.2.1 ha0 ha1 r3) rfl rfl ⟨by decide, by decide⟩ rfl hl.1 rfl (Nat.le_of_ble_eq_true rfl) dX5_figure_2) (fun H locs hW => ?_)
  refine lv_istore_n (lv' := [(2, .int x1), (0, .ref (ad a0)), (1, .ref (ad a1))]) C.1 C.2.1 dX5_figure_5 rfl hl (by decide) rfl (fun ls hl => ?_)
  refine lv_iload_n C.1 C.2.1 dX5_figure_6 rfl (lv_at hl 0 rfl) ?_
  refine lv_bipush (v := 48) C.1 C.2.1 dX5_figure_7 (by decide) ?_
  refine lv_icmp_lt (tgt := 25) C.1 C.2.1 dX5_figure_9 (by decide) (fun c4 => ?_) (fun c4 => ?_)
  · have hf := if_t c4 hf
    refine lv_bipush (v := (-9)) C.1 C.2.1 dX5_figure_25 (by decide) ?_
    cases hf
    exact x_iret C hW dX5_figure_27
  · have hf := if_f c4 hf
    refine lv_iload_n C.1 C.2.1 dX5_figure_12 rfl (lv_at hl 0 rfl) ?_
    refine lv_bipush (v := 57) C.1 C.2.1 dX5_figure_13 (by decide) ?_
    refine lv_icmp_gt (tgt := 25) C.1 C.2.1 dX5_figure_15 (by decide) (fun c5 => ?_) (fun c5 => ?_)
    · have hf := if_t c5 hf
      refine lv_bipush (v := (-9)) C.1 C.2.1 dX5_figure_25 (by decide) ?_
      cases hf
      exact x_iret C hW dX5_figure_27
    · have hf := if_f c5 hf
      refine lv_iload_n C.1 C.2.1 dX5_figure_18 rfl (lv_at hl 0 rfl) ?_
      refine lv_bipush (v := 48) C.1 C.2.1 dX5_figure_19 (by decide) ?_
      refine lv_isub C.1 C.2.1 dX5_figure_21 ?_
      refine lv_goto (tgt := 27) C.1 C.2.1 dX5_figure_22 (by decide) ?_
      cases hf
      exact x_iret C hW dX5_figure_27
set_option maxRecDepth 100000 in
set_option maxHeartbeats 4000000 in
theorem tX5_figure (l : Launch) {D : va_G} {ca ad : Nat → Nat} (hi : Inj ad) {N : Nat} {a0 : Nat} {a1 : Nat} {mm : Mm} {res : Int32 × Mm} (ha0 : sX5 a0) (ha1 : sX6 a1) (hf : fX5_figure N a0 a1 mm = some res) : Met l yX5_figure (WS yX5_figure cX5_figure 3 (some .int)) (rmX5_figure) (va_Pc [.ref (ad a0), .ref (ad a1)] (WB D ca ad mm)) (QI D ca ad res) 0 0 (AA ad) := by
  refine x_start hi (by decide) rfl (Nat.le_of_ble_eq_true rfl) (fun p e s m args below meth c ls C hW hl => ?_)
  exact wX5_figure_0 C ha0 ha1 hW (lv_sub hl [0, 1] rfl) hf
set_option maxRecDepth 100000 in
set_option maxHeartbeats 4000000 in
theorem wX5_passesStock_52 (C : Cx p s m meth c args cX5_passesStock 5 (some .boolean) RX5 D ca ad) {res : Int32 × Mm} {N : Nat}  {a0 : Nat} {a2 : Int32} {a3 : Int32} {mm : Mm} {H : Heap} {locs : List Loc} {ls : Array Slot} (ha0 : sX5 a0) (hW : Wd D ca ad s.heap mm H locs) (hl : lv_has ls 5 [(0, .ref (ad a0)), (2, .int a2), (3, .int a3)]) (hf : fX5_passesStock_52 N a0 a2 a3 mm = some res) : W p l e (rmX5_passesStock) s m args below meth c H locs 0 0 (MQ below (QI D ca ad res) args s 0 0 (AA ad)) (F0 m 52 ls []) := by
  unfold fX5_passesStock_52 at hf
  refine lv_aload_n C.1 C.2.1 dX5_passesStock_52 rfl (lv_at hl 0 rfl) ?_
  refine x_getr C hW (ha0).1 (ha0).2.1 (j := 0) rfl kX5 (by decide) rfl q_108 dX5_passesStock_53 ?_
  refine lv_iload_n C.1 C.2.1 dX5_passesStock_56 rfl (lv_at hl 1 rfl) ?_
  refine lv_iload_n C.1 C.2.1 dX5_passesStock_57 rfl (lv_at hl 2 rfl) ?_
  obtain ⟨g1, hf⟩ := gd_s hf
  refine x_iast C hW ha0.2.2.1 g1 dX5_passesStock_58 (fun H locs hW => ?_)
  obtain ⟨m2, em2⟩ : ∃ z, z = wr mm (fr a0 0) a2.toNatClampNeg a3 := ⟨_, rfl⟩
  have hf := nm_s hf em2
  rw [← em2] at hW
  refine lv_iload_n C.1 C.2.1 dX5_passesStock_59 rfl (lv_at hl 2 rfl) ?_
  refine lv_bipush (v := 40) C.1 C.2.1 dX5_passesStock_60 (by decide) ?_
  refine lv_icmp_gt (tgt := 69) C.1 C.2.1 dX5_passesStock_62 (by decide) (fun c3 => ?_) (fun c3 => ?_)
  · have hf := if_t c3 hf
    refine lv_iconst (v := 0) C.1 C.2.1 dX5_passesStock_69 (by decide) ?_
    cases hf
    exact x_zret C hW (by decide) dX5_passesStock_70
  · have hf := if_f c3 hf
    refine lv_iconst (v := 1) C.1 C.2.1 dX5_passesStock_65 (by decide) ?_
    refine lv_goto (tgt := 70) C.1 C.2.1 dX5_passesStock_66 (by decide) ?_
    cases hf
    exact x_zret C hW (by decide) dX5_passesStock_70
set_option maxRecDepth 100000 in
set_option maxHeartbeats 4000000 in
theorem wX5_passesStock_0 (C : Cx p s m meth c args cX5_passesStock 5 (some .boolean) RX5 D ca ad) {res : Int32 × Mm} {N : Nat}  {a0 : Nat} {a1 : Nat} {a2 : Int32} {mm : Mm} {H : Heap} {locs : List Loc} {ls : Array Slot} (ha0 : sX5 a0) (ha1 : sX6 a1) (hW : Wd D ca ad s.heap mm H locs) (hl : lv_has ls 5 [(0, .ref (ad a0)), (1, .ref (ad a1)), (2, .int a2)]) (hf : fX5_passesStock N a0 a1 a2 mm = some res) : W p l e (rmX5_passesStock) s m args below meth c H locs 0 0 (MQ below (QI D ca ad res) args s 0 0 (AA ad)) (F0 m 0 ls []) := by
  unfold fX5_passesStock at hf
  refine lv_aload_n C.1 C.2.1 dX5_passesStock_0 rfl (lv_at hl 0 rfl) ?_
  refine lv_aload_n C.1 C.2.1 dX5_passesStock_1 rfl (lv_at hl 1 rfl) ?_
  obtain ⟨x4, m5, r6, hf⟩ := bd2_s hf
  refine x_ci hW (x_runV C hW [.ref (ad a1)] [] (ha0).1 (ha0).2.1 kX5.1 kvX5_figure q_890 (tX5_figure l C.2.2.2.2.2.2.1 ha0 ha1 r6) rfl rfl ⟨by decide, by decide⟩ rfl hl.1 rfl (Nat.le_of_ble_eq_true rfl) dX5_passesStock_2) (fun H locs hW => ?_)
  refine lv_istore_n (lv' := [(3, .int x4), (0, .ref (ad a0)), (1, .ref (ad a1)), (2, .int a2)]) C.1 C.2.1 dX5_passesStock_5 rfl hl (by decide) rfl (fun ls hl => ?_)
  refine lv_iload_n C.1 C.2.1 dX5_passesStock_6 rfl (lv_at hl 0 rfl) ?_
  refine lv_if_ge (tgt := 12) C.1 C.2.1 dX5_passesStock_7 (by decide) (fun c7 => ?_) (fun c7 => ?_)
  · have hf := if_t c7 hf
    refine lv_aload_n C.1 C.2.1 dX5_passesStock_12 rfl (lv_at hl 1 rfl) ?_
    refine lv_dup C.1 C.2.1 dX5_passesStock_13 rfl ?_
    refine x_geti C hW (ha0).1 (ha0).2.1 (j := 5) rfl kX5 (by decide) rfl q_118 dX5_passesStock_14 ?_
    refine lv_iconst (v := 1) C.1 C.2.1 dX5_passesStock_17 (by decide) ?_
    refine lv_iadd C.1 C.2.1 dX5_passesStock_18 ?_
    refine x_put C hW (ha0).1 (ha0).2.1 (j := 5) (t1 := .int) rfl kX5 (by decide) rfl rfl q_118 (by decide +kernel) rfl rfl dX5_passesStock_19 (fun H locs hW => ?_)
    obtain ⟨m8, em8⟩ : ∃ z, z = wr m5 a0 5 ((rd m5 a0 5) + 1) := ⟨_, rfl⟩
    have hf := nm_s hf em8
    rw [← em8] at hW
    refine lv_aload_n C.1 C.2.1 dX5_passesStock_22 rfl (lv_at hl 1 rfl) ?_
    refine lv_aload_n C.1 C.2.1 dX5_passesStock_23 rfl (lv_at hl 2 rfl) ?_
    obtain ⟨x9, m10, r11, hf⟩ := bd2_s hf
    refine x_ci hW (x_runV C hW [.ref (ad a1)] [] (ha0).1 (ha0).2.1 kX5.1 kvX5_figure q_890 (tX5_figure l C.2.2.2.2.2.2.1 ha0 ha1 r11) rfl rfl ⟨by decide, by decide⟩ rfl hl.1 rfl (Nat.le_of_ble_eq_true rfl) dX5_passesStock_24) (fun H locs hW => ?_)
    refine lv_istore (lv' := [(4, .int x9), (3, .int x4), (0, .ref (ad a0)), (1, .ref (ad a1)), (2, .int a2)]) C.1 C.2.1 dX5_passesStock_27 hl (by decide) rfl (fun ls hl => ?_)
    refine lv_iload C.1 C.2.1 dX5_passesStock_29 (lv_at hl 0 rfl) ?_
    refine lv_if_lt (tgt := 52) C.1 C.2.1 dX5_passesStock_31 (by decide) (fun c12 => ?_) (fun c12 => ?_)
    · have hf := if_t c12 hf
      exact wX5_passesStock_52 C  ha0 hW (lv_sub hl [2, 4, 1] rfl) hf
    · have hf := if_f c12 hf
      refine lv_aload_n C.1 C.2.1 dX5_passesStock_34 rfl (lv_at hl 2 rfl) ?_
      refine lv_dup C.1 C.2.1 dX5_passesStock_35 rfl ?_
      refine x_geti C hW (ha0).1 (ha0).2.1 (j := 5) rfl kX5 (by decide) rfl q_118 dX5_passesStock_36 ?_
      refine lv_iconst (v := 1) C.1 C.2.1 dX5_passesStock_39 (by decide) ?_
      refine lv_iadd C.1 C.2.1 dX5_passesStock_40 ?_
      refine x_put C hW (ha0).1 (ha0).2.1 (j := 5) (t1 := .int) rfl kX5 (by decide) rfl rfl q_118 (by decide +kernel) rfl rfl dX5_passesStock_41 (fun H locs hW => ?_)
      obtain ⟨m13, em13⟩ : ∃ z, z = wr m10 a0 5 ((rd m10 a0 5) + 1) := ⟨_, rfl⟩
      have hf := nm_s hf em13
      rw [← em13] at hW
      refine lv_bipush (v := 10) C.1 C.2.1 dX5_passesStock_44 (by decide) ?_
      refine lv_iload_n C.1 C.2.1 dX5_passesStock_46 rfl (lv_at hl 1 rfl) ?_
      refine lv_imul C.1 C.2.1 dX5_passesStock_47 ?_
      refine lv_iload C.1 C.2.1 dX5_passesStock_48 (lv_at hl 0 rfl) ?_
      refine lv_iadd C.1 C.2.1 dX5_passesStock_50 ?_
      refine lv_istore_n (lv' := [(3, .int ((10 * x4) + x9)), (4, .int x9), (0, .ref (ad a0)), (1, .ref (ad a1)), (2, .int a2)]) C.1 C.2.1 dX5_passesStock_51 rfl hl (by decide) rfl (fun ls hl => ?_)
      exact wX5_passesStock_52 C  ha0 hW (lv_sub hl [2, 4, 0] rfl) hf
  · have hf := if_f c7 hf
    refine lv_iconst (v := 0) C.1 C.2.1 dX5_passesStock_10 (by decide) ?_
    cases hf
    exact x_zret C hW (by decide) dX5_passesStock_11
set_option maxRecDepth 100000 in
set_option maxHeartbeats 4000000 in
theorem tX5_passesStock (l : Launch) {D : va_G} {ca ad : Nat → Nat} (hi : Inj ad) {N : Nat} {a0 : Nat} {a1 : Nat} {a2 : Int32} {mm : Mm} {res : Int32 × Mm} (ha0 : sX5 a0) (ha1 : sX6 a1) (hf : fX5_passesStock N a0 a1 a2 mm = some res) : Met l yX5_passesStock (WS yX5_passesStock cX5_passesStock 5 (some .boolean)) (rmX5_passesStock) (va_Pc [.ref (ad a0), .ref (ad a1), .int a2] (WB D ca ad mm)) (QI D ca ad res) 0 0 (AA ad) := by
  refine x_start hi (by decide) rfl (Nat.le_of_ble_eq_true rfl) (fun p e s m args below meth c ls C hW hl => ?_)
  exact wX5_passesStock_0 C ha0 ha1 hW (lv_sub hl [0, 1, 2] rfl) hf
set_option maxRecDepth 100000 in
set_option maxHeartbeats 4000000 in
theorem wX5_kindBy_0 (C : Cx p s m meth c args cX5_kindBy 1 (some .int) RX5 D ca ad) {res : Int32 × Mm} {N : Nat}  {a0 : Int32} {mm : Mm} {H : Heap} {locs : List Loc} {ls : Array Slot}  (hW : Wd D ca ad s.heap mm H locs) (hl : lv_has ls 1 [(0, .int a0)]) (hf : fX5_kindBy N a0 mm = some res) : W p l e (rmX5_kindBy) s m args below meth c H locs 0 0 (MQ below (QI D ca ad res) args s 0 0 (AA ad)) (F0 m 0 ls []) := by
  unfold fX5_kindBy at hf
  refine lv_iload_n C.1 C.2.1 dX5_kindBy_0 rfl (lv_at hl 0 rfl) ?_
  by_cases c1 : a0 = 100
  · have hf := if_t c1 hf
    refine x_tin C (tgt := 86) dX5_kindBy_1 c1 (by decide) (by decide) (off := 85) rfl (by decide) ?_
    refine lv_iconst (v := 3) C.1 C.2.1 dX5_kindBy_86 (by decide) ?_
    cases hf
    exact x_iret C hW dX5_kindBy_87
  have hf := if_f c1 hf
  by_cases c2 : a0 = 102
  · have hf := if_t c2 hf
    refine x_tin C (tgt := 84) dX5_kindBy_1 c2 (by decide) (by decide) (off := 83) rfl (by decide) ?_
    refine lv_iconst (v := 2) C.1 C.2.1 dX5_kindBy_84 (by decide) ?_
    cases hf
    exact x_iret C hW dX5_kindBy_85
  have hf := if_f c2 hf
  by_cases c3 : a0 = 104
  · have hf := if_t c3 hf
    refine x_tin C (tgt := 90) dX5_kindBy_1 c3 (by decide) (by decide) (off := 89) rfl (by decide) ?_
    refine lv_iconst (v := 5) C.1 C.2.1 dX5_kindBy_90 (by decide) ?_
    cases hf
    exact x_iret C hW dX5_kindBy_91
  have hf := if_f c3 hf
  by_cases c4 : a0 = 111
  · have hf := if_t c4 hf
    refine x_tin C (tgt := 82) dX5_kindBy_1 c4 (by decide) (by decide) (off := 81) rfl (by decide) ?_
    refine lv_iconst (v := 1) C.1 C.2.1 dX5_kindBy_82 (by decide) ?_
    cases hf
    exact x_iret C hW dX5_kindBy_83
  have hf := if_f c4 hf
  by_cases c5 : a0 = 112
  · have hf := if_t c5 hf
    refine x_tin C (tgt := 88) dX5_kindBy_1 c5 (by decide) (by decide) (off := 87) rfl (by decide) ?_
    refine lv_iconst (v := 4) C.1 C.2.1 dX5_kindBy_88 (by decide) ?_
    cases hf
    exact x_iret C hW dX5_kindBy_89
  have hf := if_f c5 hf
  by_cases c6 : a0 = 115
  · have hf := if_t c6 hf
    refine x_tin C (tgt := 80) dX5_kindBy_1 c6 (by decide) (by decide) (off := 79) rfl (by decide) ?_
    refine lv_iconst (v := 0) C.1 C.2.1 dX5_kindBy_80 (by decide) ?_
    cases hf
    exact x_iret C hW dX5_kindBy_81
  have hf := if_f c6 hf
  refine x_tdef C (tgt := 92) dX5_kindBy_1 (by
      have := lv_neT c1 (a := 100) (by decide)
      have := lv_neT c2 (a := 102) (by decide)
      have := lv_neT c3 (a := 104) (by decide)
      have := lv_neT c4 (a := 111) (by decide)
      have := lv_neT c5 (a := 112) (by decide)
      have := lv_neT c6 (a := 115) (by decide)
      rcases (by omega : a0.toInt < 100 ∨ 115 < a0.toInt ∨ a0.toInt = 101 ∨ a0.toInt = 103 ∨ a0.toInt = 105 ∨ a0.toInt = 106 ∨ a0.toInt = 107 ∨ a0.toInt = 108 ∨ a0.toInt = 109 ∨ a0.toInt = 110 ∨ a0.toInt = 113 ∨ a0.toInt = 114) with h | h | h | h | h | h | h | h | h | h | h | h
      · exact Or.inl h
      · exact Or.inr (Or.inl h)
      · rw [h]; exact Or.inr (Or.inr ⟨by decide, by decide, rfl⟩)
      · rw [h]; exact Or.inr (Or.inr ⟨by decide, by decide, rfl⟩)
      · rw [h]; exact Or.inr (Or.inr ⟨by decide, by decide, rfl⟩)
      · rw [h]; exact Or.inr (Or.inr ⟨by decide, by decide, rfl⟩)
      · rw [h]; exact Or.inr (Or.inr ⟨by decide, by decide, rfl⟩)
      · rw [h]; exact Or.inr (Or.inr ⟨by decide, by decide, rfl⟩)
      · rw [h]; exact Or.inr (Or.inr ⟨by decide, by decide, rfl⟩)
      · rw [h]; exact Or.inr (Or.inr ⟨by decide, by decide, rfl⟩)
      · rw [h]; exact Or.inr (Or.inr ⟨by decide, by decide, rfl⟩)
      · rw [h]; exact Or.inr (Or.inr ⟨by decide, by decide, rfl⟩)) (by decide) ?_
  refine lv_bipush (v := (-9)) C.1 C.2.1 dX5_kindBy_92 (by decide) ?_
  cases hf
  exact x_iret C hW dX5_kindBy_94
set_option maxRecDepth 100000 in
set_option maxHeartbeats 4000000 in
theorem tX5_kindBy (l : Launch) {D : va_G} {ca ad : Nat → Nat} (hi : Inj ad) {N : Nat} {a0 : Int32} {mm : Mm} {res : Int32 × Mm}  (hf : fX5_kindBy N a0 mm = some res) : Met l yX5_kindBy (WS yX5_kindBy cX5_kindBy 1 (some .int)) (rmX5_kindBy) (va_Pc [.int a0] (WB D ca ad mm)) (QI D ca ad res) 0 0 (AA ad) := by
  refine x_start hi (by decide) rfl (Nat.le_of_ble_eq_true rfl) (fun p e s m args below meth c ls C hW hl => ?_)
  exact wX5_kindBy_0 C  hW (lv_sub hl [0] rfl) hf
set_option maxRecDepth 100000 in
set_option maxHeartbeats 4000000 in
theorem wX5_passesSuit_113 (C : Cx p s m meth c args cX5_passesSuit 5 (some .boolean) RX5 D ca ad) {res : Int32 × Mm} {N : Nat}  {a0 : Nat} {a2 : Int32} {a3 : Int32} {a4 : Int32} {mm : Mm} {H : Heap} {locs : List Loc} {ls : Array Slot} (ha0 : sX5 a0) (hW : Wd D ca ad s.heap mm H locs) (hl : lv_has ls 5 [(0, .ref (ad a0)), (2, .int a2), (3, .int a3), (4, .int a4)]) (hf : fX5_passesSuit_113 N a0 a2 a3 a4 mm = some res) : W p l e (rmX5_passesSuit) s m args below meth c H locs 0 0 (MQ below (QI D ca ad res) args s 0 0 (AA ad)) (F0 m 113 ls []) := by
  unfold fX5_passesSuit_113 at hf
  refine lv_aload_n C.1 C.2.1 dX5_passesSuit_113 rfl (lv_at hl 0 rfl) ?_
  refine x_getr C hW (ha0).1 (ha0).2.1 (j := 1) rfl kX5 (by decide) rfl q_110 dX5_passesSuit_114 ?_
  refine lv_aload_n C.1 C.2.1 dX5_passesSuit_117 rfl (lv_at hl 0 rfl) ?_
  refine x_geti C hW (ha0).1 (ha0).2.1 (j := 4) rfl kX5 (by decide) rfl q_117 dX5_passesSuit_118 ?_
  refine lv_iload_n C.1 C.2.1 dX5_passesSuit_121 rfl (lv_at hl 1 rfl) ?_
  obtain ⟨g1, hf⟩ := gd_s hf
  refine x_iast C hW ha0.2.2.2.1 g1 dX5_passesSuit_122 (fun H locs hW => ?_)
  obtain ⟨m2, em2⟩ : ∃ z, z = wr mm (fr a0 1) (rd mm a0 4).toNatClampNeg a2 := ⟨_, rfl⟩
  have hf := nm_s hf em2
  rw [← em2] at hW
  refine lv_aload_n C.1 C.2.1 dX5_passesSuit_123 rfl (lv_at hl 0 rfl) ?_
  refine x_getr C hW (ha0).1 (ha0).2.1 (j := 2) rfl kX5 (by decide) rfl q_112 dX5_passesSuit_124 ?_
  refine lv_aload_n C.1 C.2.1 dX5_passesSuit_127 rfl (lv_at hl 0 rfl) ?_
  refine x_geti C hW (ha0).1 (ha0).2.1 (j := 4) rfl kX5 (by decide) rfl q_117 dX5_passesSuit_128 ?_
  refine lv_iload_n C.1 C.2.1 dX5_passesSuit_131 rfl (lv_at hl 2 rfl) ?_
  obtain ⟨g3, hf⟩ := gd_s hf
  refine x_iast C hW ha0.2.2.2.2.1 g3 dX5_passesSuit_132 (fun H locs hW => ?_)
  obtain ⟨m4, em4⟩ : ∃ z, z = wr m2 (fr a0 2) (rd m2 a0 4).toNatClampNeg a3 := ⟨_, rfl⟩
  have hf := nm_s hf em4
  rw [← em4] at hW
  refine lv_aload_n C.1 C.2.1 dX5_passesSuit_133 rfl (lv_at hl 0 rfl) ?_
  refine x_getr C hW (ha0).1 (ha0).2.1 (j := 3) rfl kX5 (by decide) rfl q_114 dX5_passesSuit_134 ?_
  refine lv_aload_n C.1 C.2.1 dX5_passesSuit_137 rfl (lv_at hl 0 rfl) ?_
  refine x_geti C hW (ha0).1 (ha0).2.1 (j := 4) rfl kX5 (by decide) rfl q_117 dX5_passesSuit_138 ?_
  refine lv_iload C.1 C.2.1 dX5_passesSuit_141 (lv_at hl 3 rfl) ?_
  obtain ⟨g5, hf⟩ := gd_s hf
  refine x_iast C hW ha0.2.2.2.2.2 g5 dX5_passesSuit_143 (fun H locs hW => ?_)
  obtain ⟨m6, em6⟩ : ∃ z, z = wr m4 (fr a0 3) (rd m4 a0 4).toNatClampNeg a4 := ⟨_, rfl⟩
  have hf := nm_s hf em6
  rw [← em6] at hW
  refine lv_aload_n C.1 C.2.1 dX5_passesSuit_144 rfl (lv_at hl 0 rfl) ?_
  refine lv_dup C.1 C.2.1 dX5_passesSuit_145 rfl ?_
  refine x_geti C hW (ha0).1 (ha0).2.1 (j := 4) rfl kX5 (by decide) rfl q_117 dX5_passesSuit_146 ?_
  refine lv_iconst (v := 1) C.1 C.2.1 dX5_passesSuit_149 (by decide) ?_
  refine lv_iadd C.1 C.2.1 dX5_passesSuit_150 ?_
  refine x_put C hW (ha0).1 (ha0).2.1 (j := 4) (t1 := .int) rfl kX5 (by decide) rfl rfl q_117 (by decide +kernel) rfl rfl dX5_passesSuit_151 (fun H locs hW => ?_)
  obtain ⟨m7, em7⟩ : ∃ z, z = wr m6 a0 4 ((rd m6 a0 4) + 1) := ⟨_, rfl⟩
  have hf := nm_s hf em7
  rw [← em7] at hW
  refine lv_iconst (v := 1) C.1 C.2.1 dX5_passesSuit_154 (by decide) ?_
  cases hf
  exact x_zret C hW (by decide) dX5_passesSuit_155
set_option maxRecDepth 100000 in
set_option maxHeartbeats 4000000 in
theorem wX5_passesSuit_103 (C : Cx p s m meth c args cX5_passesSuit 5 (some .boolean) RX5 D ca ad) {res : Int32 × Mm} {N : Nat}  {a0 : Nat} {a2 : Int32} {a3 : Int32} {a4 : Int32} {mm : Mm} {H : Heap} {locs : List Loc} {ls : Array Slot} (ha0 : sX5 a0) (hW : Wd D ca ad s.heap mm H locs) (hl : lv_has ls 5 [(0, .ref (ad a0)), (2, .int a2), (3, .int a3), (4, .int a4)]) (hf : fX5_passesSuit_103 N a0 a2 a3 a4 mm = some res) : W p l e (rmX5_passesSuit) s m args below meth c H locs 0 0 (MQ below (QI D ca ad res) args s 0 0 (AA ad)) (F0 m 103 ls []) := by
  unfold fX5_passesSuit_103 at hf
  refine lv_aload_n C.1 C.2.1 dX5_passesSuit_103 rfl (lv_at hl 0 rfl) ?_
  refine lv_dup C.1 C.2.1 dX5_passesSuit_104 rfl ?_
  refine x_geti C hW (ha0).1 (ha0).2.1 (j := 5) rfl kX5 (by decide) rfl q_118 dX5_passesSuit_105 ?_
  refine lv_iconst (v := 1) C.1 C.2.1 dX5_passesSuit_108 (by decide) ?_
  refine lv_iadd C.1 C.2.1 dX5_passesSuit_109 ?_
  refine x_put C hW (ha0).1 (ha0).2.1 (j := 5) (t1 := .int) rfl kX5 (by decide) rfl rfl q_118 (by decide +kernel) rfl rfl dX5_passesSuit_110 (fun H locs hW => ?_)
  obtain ⟨m8, em8⟩ : ∃ z, z = wr mm a0 5 ((rd mm a0 5) + 1) := ⟨_, rfl⟩
  have hf := nm_s hf em8
  rw [← em8] at hW
  exact wX5_passesSuit_113 C  ha0 hW (lv_sub hl [0, 1, 2, 3] rfl) hf
set_option maxRecDepth 100000 in
set_option maxHeartbeats 4000000 in
theorem wX5_passesSuit_0 (C : Cx p s m meth c args cX5_passesSuit 5 (some .boolean) RX5 D ca ad) {res : Int32 × Mm} {N : Nat}  {a0 : Nat} {a1 : Nat} {mm : Mm} {H : Heap} {locs : List Loc} {ls : Array Slot} (ha0 : sX5 a0) (ha1 : sX6 a1) (hW : Wd D ca ad s.heap mm H locs) (hl : lv_has ls 5 [(0, .ref (ad a0)), (1, .ref (ad a1))]) (hf : fX5_passesSuit N a0 a1 mm = some res) : W p l e (rmX5_passesSuit) s m args below meth c H locs 0 0 (MQ below (QI D ca ad res) args s 0 0 (AA ad)) (F0 m 0 ls []) := by
  unfold fX5_passesSuit at hf
  refine lv_aload_n C.1 C.2.1 dX5_passesSuit_0 rfl (lv_at hl 0 rfl) ?_
  refine lv_aload_n C.1 C.2.1 dX5_passesSuit_1 rfl (lv_at hl 1 rfl) ?_
  obtain ⟨x9, m10, r11, hf⟩ := bd2_s hf
  refine x_ci hW (x_runV C hW [.ref (ad a1)] [] (ha0).1 (ha0).2.1 kX5.1 kvX5_sign q_877 (tX5_sign l C.2.2.2.2.2.2.1 ha0 ha1 r11) rfl rfl ⟨by decide, by decide⟩ rfl hl.1 rfl (Nat.le_of_ble_eq_true rfl) dX5_passesSuit_2) (fun H locs hW => ?_)
  obtain ⟨x12, m13, r14, hf⟩ := bd2_s hf
  refine x_ci hW (x_runS C hW [.int x9] [] kvX5_kindBy q_898 (tX5_kindBy l C.2.2.2.2.2.2.1  r14) rfl rfl ⟨by decide, by decide⟩ rfl hl.1 rfl (Nat.le_of_ble_eq_true rfl) dX5_passesSuit_5) (fun H locs hW => ?_)
  refine lv_istore_n (lv' := [(2, .int x12), (0, .ref (ad a0)), (1, .ref (ad a1))]) C.1 C.2.1 dX5_passesSuit_8 rfl hl (by decide) rfl (fun ls hl => ?_)
  refine lv_iload_n C.1 C.2.1 dX5_passesSuit_9 rfl (lv_at hl 0 rfl) ?_
  refine lv_if_lt (tgt := 22) C.1 C.2.1 dX5_passesSuit_10 (by decide) (fun c15 => ?_) (fun c15 => ?_)
  · have hf := if_t c15 hf
    refine lv_iconst (v := 0) C.1 C.2.1 dX5_passesSuit_22 (by decide) ?_
    cases hf
    exact x_zret C hW (by decide) dX5_passesSuit_23
  · have hf := if_f c15 hf
    refine lv_aload_n C.1 C.2.1 dX5_passesSuit_13 rfl (lv_at hl 1 rfl) ?_
    refine x_geti C hW (ha0).1 (ha0).2.1 (j := 4) rfl kX5 (by decide) rfl q_117 dX5_passesSuit_14 ?_
    refine lv_bipush (v := 6) C.1 C.2.1 dX5_passesSuit_17 (by decide) ?_
    refine lv_icmp_lt (tgt := 24) C.1 C.2.1 dX5_passesSuit_19 (by decide) (fun c16 => ?_) (fun c16 => ?_)
    · have hf := if_t c16 hf
      refine lv_aload_n C.1 C.2.1 dX5_passesSuit_24 rfl (lv_at hl 1 rfl) ?_
      refine lv_dup C.1 C.2.1 dX5_passesSuit_25 rfl ?_
      refine x_geti C hW (ha0).1 (ha0).2.1 (j := 5) rfl kX5 (by decide) rfl q_118 dX5_passesSuit_26 ?_
      refine lv_iconst (v := 1) C.1 C.2.1 dX5_passesSuit_29 (by decide) ?_
      refine lv_iadd C.1 C.2.1 dX5_passesSuit_30 ?_
      refine x_put C hW (ha0).1 (ha0).2.1 (j := 5) (t1 := .int) rfl kX5 (by decide) rfl rfl q_118 (by decide +kernel) rfl rfl dX5_passesSuit_31 (fun H locs hW => ?_)
      obtain ⟨m17, em17⟩ : ∃ z, z = wr m13 a0 5 ((rd m13 a0 5) + 1) := ⟨_, rfl⟩
      have hf := nm_s hf em17
      rw [← em17] at hW
      refine lv_aload_n C.1 C.2.1 dX5_passesSuit_34 rfl (lv_at hl 1 rfl) ?_
      refine lv_aload_n C.1 C.2.1 dX5_passesSuit_35 rfl (lv_at hl 2 rfl) ?_
      obtain ⟨x18, m19, r20, hf⟩ := bd2_s hf
      refine x_ci hW (x_runV C hW [.ref (ad a1)] [] (ha0).1 (ha0).2.1 kX5.1 kvX5_figure q_890 (tX5_figure l C.2.2.2.2.2.2.1 ha0 ha1 r20) rfl rfl ⟨by decide, by decide⟩ rfl hl.1 rfl (Nat.le_of_ble_eq_true rfl) dX5_passesSuit_36) (fun H locs hW => ?_)
      refine lv_istore_n (lv' := [(3, .int x18), (2, .int x12), (0, .ref (ad a0)), (1, .ref (ad a1))]) C.1 C.2.1 dX5_passesSuit_39 rfl hl (by decide) rfl (fun ls hl => ?_)
      refine lv_iload_n C.1 C.2.1 dX5_passesSuit_40 rfl (lv_at hl 0 rfl) ?_
      refine lv_iconst (v := 1) C.1 C.2.1 dX5_passesSuit_41 (by decide) ?_
      refine lv_icmp_ge (tgt := 47) C.1 C.2.1 dX5_passesSuit_42 (by decide) (fun c21 => ?_) (fun c21 => ?_)
      · have hf := if_t c21 hf
        refine lv_aload_n C.1 C.2.1 dX5_passesSuit_47 rfl (lv_at hl 2 rfl) ?_
        refine lv_dup C.1 C.2.1 dX5_passesSuit_48 rfl ?_
        refine x_geti C hW (ha0).1 (ha0).2.1 (j := 5) rfl kX5 (by decide) rfl q_118 dX5_passesSuit_49 ?_
        refine lv_iconst (v := 1) C.1 C.2.1 dX5_passesSuit_52 (by decide) ?_
        refine lv_iadd C.1 C.2.1 dX5_passesSuit_53 ?_
        refine x_put C hW (ha0).1 (ha0).2.1 (j := 5) (t1 := .int) rfl kX5 (by decide) rfl rfl q_118 (by decide +kernel) rfl rfl dX5_passesSuit_54 (fun H locs hW => ?_)
        obtain ⟨m22, em22⟩ : ∃ z, z = wr m19 a0 5 ((rd m19 a0 5) + 1) := ⟨_, rfl⟩
        have hf := nm_s hf em22
        rw [← em22] at hW
        refine lv_bipush (v := (-9)) C.1 C.2.1 dX5_passesSuit_57 (by decide) ?_
        refine lv_istore (lv' := [(4, .int (-9)), (3, .int x18), (2, .int x12), (0, .ref (ad a0)), (1, .ref (ad a1))]) C.1 C.2.1 dX5_passesSuit_59 hl (by decide) rfl (fun ls hl => ?_)
        refine lv_iload_n C.1 C.2.1 dX5_passesSuit_61 rfl (lv_at hl 2 rfl) ?_
        refine lv_iconst (v := 3) C.1 C.2.1 dX5_passesSuit_62 (by decide) ?_
        refine lv_icmp_lt (tgt := 113) C.1 C.2.1 dX5_passesSuit_63 (by decide) (fun c23 => ?_) (fun c23 => ?_)
        · have hf := if_t c23 hf
          exact wX5_passesSuit_113 C  ha0 hW (lv_sub hl [3, 2, 1, 0] rfl) hf
        · have hf := if_f c23 hf
          refine lv_aload_n C.1 C.2.1 dX5_passesSuit_66 rfl (lv_at hl 3 rfl) ?_
          refine lv_aload_n C.1 C.2.1 dX5_passesSuit_67 rfl (lv_at hl 4 rfl) ?_
          obtain ⟨x24, m25, r26, hf⟩ := bd2_s hf
          refine x_ci hW (x_runV C hW [.ref (ad a1)] [] (ha0).1 (ha0).2.1 kX5.1 kvX5_figure q_890 (tX5_figure l C.2.2.2.2.2.2.1 ha0 ha1 r26) rfl rfl ⟨by decide, by decide⟩ rfl hl.1 rfl (Nat.le_of_ble_eq_true rfl) dX5_passesSuit_68) (fun H locs hW => ?_)
          refine lv_istore (lv' := [(4, .int x24), (3, .int x18), (2, .int x12), (0, .ref (ad a0)), (1, .ref (ad a1))]) C.1 C.2.1 dX5_passesSuit_71 hl (by decide) rfl (fun ls hl => ?_)
          refine lv_iload_n C.1 C.2.1 dX5_passesSuit_73 rfl (lv_at hl 2 rfl) ?_
          refine lv_iconst (v := 5) C.1 C.2.1 dX5_passesSuit_74 (by decide) ?_
          refine lv_icmp_ne (tgt := 95) C.1 C.2.1 dX5_passesSuit_75 (by decide) (fun c27 => ?_) (fun c27 => ?_)
          · have hf := if_f c27 hf
            refine lv_iload C.1 C.2.1 dX5_passesSuit_95 (lv_at hl 0 rfl) ?_
            refine lv_iconst (v := 1) C.1 C.2.1 dX5_passesSuit_97 (by decide) ?_
            refine lv_icmp_ge (tgt := 103) C.1 C.2.1 dX5_passesSuit_98 (by decide) (fun c28 => ?_) (fun c28 => ?_)
            · have hf := if_t c28 hf
              exact wX5_passesSuit_103 C  ha0 hW (lv_sub hl [3, 2, 1, 0] rfl) hf
            · have hf := if_f c28 hf
              refine lv_iconst (v := 0) C.1 C.2.1 dX5_passesSuit_101 (by decide) ?_
              cases hf
              exact x_zret C hW (by decide) dX5_passesSuit_102
          · have hf := if_t c27 hf
            refine lv_iload C.1 C.2.1 dX5_passesSuit_78 (lv_at hl 0 rfl) ?_
            refine lv_if_lt (tgt := 101) C.1 C.2.1 dX5_passesSuit_80 (by decide) (fun c29 => ?_) (fun c29 => ?_)
            · have hf := if_t c29 hf
              refine lv_iconst (v := 0) C.1 C.2.1 dX5_passesSuit_101 (by decide) ?_
              cases hf
              exact x_zret C hW (by decide) dX5_passesSuit_102
            · have hf := if_f c29 hf
              refine lv_iload C.1 C.2.1 dX5_passesSuit_83 (lv_at hl 0 rfl) ?_
              refine lv_aload_n C.1 C.2.1 dX5_passesSuit_85 rfl (lv_at hl 3 rfl) ?_
              refine x_geti C hW (ha0).1 (ha0).2.1 (j := 4) rfl kX5 (by decide) rfl q_117 dX5_passesSuit_86 ?_
              refine lv_icmp_lt (tgt := 103) C.1 C.2.1 dX5_passesSuit_89 (by decide) (fun c30 => ?_) (fun c30 => ?_)
              · have hf := if_t c30 hf
                exact wX5_passesSuit_103 C  ha0 hW (lv_sub hl [3, 2, 1, 0] rfl) hf
              · have hf := if_f c30 hf
                refine lv_goto (tgt := 101) C.1 C.2.1 dX5_passesSuit_92 (by decide) ?_
                refine lv_iconst (v := 0) C.1 C.2.1 dX5_passesSuit_101 (by decide) ?_
                cases hf
                exact x_zret C hW (by decide) dX5_passesSuit_102
      · have hf := if_f c21 hf
        refine lv_iconst (v := 0) C.1 C.2.1 dX5_passesSuit_45 (by decide) ?_
        cases hf
        exact x_zret C hW (by decide) dX5_passesSuit_46
    · have hf := if_f c16 hf
      refine lv_iconst (v := 0) C.1 C.2.1 dX5_passesSuit_22 (by decide) ?_
      cases hf
      exact x_zret C hW (by decide) dX5_passesSuit_23
set_option maxRecDepth 100000 in
set_option maxHeartbeats 4000000 in
theorem tX5_passesSuit (l : Launch) {D : va_G} {ca ad : Nat → Nat} (hi : Inj ad) {N : Nat} {a0 : Nat} {a1 : Nat} {mm : Mm} {res : Int32 × Mm} (ha0 : sX5 a0) (ha1 : sX6 a1) (hf : fX5_passesSuit N a0 a1 mm = some res) : Met l yX5_passesSuit (WS yX5_passesSuit cX5_passesSuit 5 (some .boolean)) (rmX5_passesSuit) (va_Pc [.ref (ad a0), .ref (ad a1)] (WB D ca ad mm)) (QI D ca ad res) 0 0 (AA ad) := by
  refine x_start hi (by decide) rfl (Nat.le_of_ble_eq_true rfl) (fun p e s m args below meth c ls C hW hl => ?_)
  exact wX5_passesSuit_0 C ha0 ha1 hW (lv_sub hl [0, 1] rfl) hf
set_option maxRecDepth 100000 in
set_option maxHeartbeats 4000000 in
theorem wX5_skipBlanks_0 (C : Cx p s m meth c args cX5_skipBlanks 2 none RX5 D ca ad) {res : Unit × Mm} {N : Nat}  : ∀ (n : Nat) {a0 : Nat} {a1 : Nat} {mm : Mm} {H : Heap} {locs : List Loc} {ls : Array Slot}, (sX5 a0) → (sX6 a1) → Wd D ca ad s.heap mm H locs → lv_has ls 2 [(0, .ref (ad a0)), (1, .ref (ad a1))] → fX5_skipBlanks_0 N n a0 a1 mm = some res → W p l e (rmX5_skipBlanks) s m args below meth c H locs 0 0 (MQ below (QV D ca ad res) args s 0 0 (AA ad)) (F0 m 0 ls []) := by
  intro n
  induction n with
  | zero => intro a0 a1 mm H locs ls ha0 ha1 hW hl hf; cases hf
  | succ n ih =>
    intro a0 a1 mm H locs ls ha0 ha1 hW hl hf
    have hk0 : ∀ (a0 : Nat) (a1 : Nat) (mm : Mm) (H : Heap) (locs : List Loc) (ls : Array Slot), (sX5 a0) → (sX6 a1) → Wd D ca ad s.heap mm H locs → lv_has ls 2 [(0, .ref (ad a0)), (1, .ref (ad a1))] → (fX5_skipBlanks_0 N n) a0 a1 mm = some res → W p l e (rmX5_skipBlanks) s m args below meth c H locs 0 0 (MQ below (QV D ca ad res) args s 0 0 (AA ad)) (F0 m 0 ls []) := fun a0 a1 mm H locs ls ha0 ha1 hW hl hf => ih ha0 ha1 hW hl hf
    unfold fX5_skipBlanks_0 at hf
    try dsimp only at hf
    refine lv_aload_n C.1 C.2.1 dX5_skipBlanks_0 rfl (lv_at hl 0 rfl) ?_
    refine x_geti C hW (ha0).1 (ha0).2.1 (j := 5) rfl kX5 (by decide) rfl q_118 dX5_skipBlanks_1 ?_
    refine lv_aload_n C.1 C.2.1 dX5_skipBlanks_4 rfl (lv_at hl 1 rfl) ?_
    refine x_geti C hW (ha1).1 (ha1).2.1 (j := 1) rfl kX6 (by decide) rfl q_301 dX5_skipBlanks_5 ?_
    refine lv_icmp_ge (tgt := 34) C.1 C.2.1 dX5_skipBlanks_8 (by decide) (fun c1 => ?_) (fun c1 => ?_)
    · have hf := if_t c1 hf
      cases hf
      exact x_vret C hW dX5_skipBlanks_34
    · have hf := if_f c1 hf
      refine lv_aload_n C.1 C.2.1 dX5_skipBlanks_11 rfl (lv_at hl 0 rfl) ?_
      refine lv_aload_n C.1 C.2.1 dX5_skipBlanks_12 rfl (lv_at hl 1 rfl) ?_
      obtain ⟨x2, m3, r4, hf⟩ := bd2_s hf
      refine x_ci hW (x_runV C hW [.ref (ad a1)] [] (ha0).1 (ha0).2.1 kX5.1 kvX5_sign q_877 (tX5_sign l C.2.2.2.2.2.2.1 ha0 ha1 r4) rfl rfl ⟨by decide, by decide⟩ rfl hl.1 rfl (Nat.le_of_ble_eq_true rfl) dX5_skipBlanks_13) (fun H locs hW => ?_)
      refine lv_bipush (v := 32) C.1 C.2.1 dX5_skipBlanks_16 (by decide) ?_
      refine lv_icmp_ne (tgt := 34) C.1 C.2.1 dX5_skipBlanks_18 (by decide) (fun c5 => ?_) (fun c5 => ?_)
      · have hf := if_f c5 hf
        cases hf
        exact x_vret C hW dX5_skipBlanks_34
      · have hf := if_t c5 hf
        refine lv_aload_n C.1 C.2.1 dX5_skipBlanks_21 rfl (lv_at hl 0 rfl) ?_
        refine lv_dup C.1 C.2.1 dX5_skipBlanks_22 rfl ?_
        refine x_geti C hW (ha0).1 (ha0).2.1 (j := 5) rfl kX5 (by decide) rfl q_118 dX5_skipBlanks_23 ?_
        refine lv_iconst (v := 1) C.1 C.2.1 dX5_skipBlanks_26 (by decide) ?_
        refine lv_iadd C.1 C.2.1 dX5_skipBlanks_27 ?_
        refine x_put C hW (ha0).1 (ha0).2.1 (j := 5) (t1 := .int) rfl kX5 (by decide) rfl rfl q_118 (by decide +kernel) rfl rfl dX5_skipBlanks_28 (fun H locs hW => ?_)
        obtain ⟨m6, em6⟩ : ∃ z, z = wr m3 a0 5 ((rd m3 a0 5) + 1) := ⟨_, rfl⟩
        have hf := nm_s hf em6
        rw [← em6] at hW
        refine lv_goto (tgt := 0) C.1 C.2.1 dX5_skipBlanks_31 (by decide) ?_
        exact hk0 _ _ _ _ _ _ ha0 ha1 hW (lv_sub hl [0, 1] rfl) hf
set_option maxRecDepth 100000 in
set_option maxHeartbeats 4000000 in
theorem tX5_skipBlanks (l : Launch) {D : va_G} {ca ad : Nat → Nat} (hi : Inj ad) {N : Nat} {a0 : Nat} {a1 : Nat} {mm : Mm} {res : Unit × Mm} (ha0 : sX5 a0) (ha1 : sX6 a1) (hf : fX5_skipBlanks N a0 a1 mm = some res) : Met l yX5_skipBlanks (WS yX5_skipBlanks cX5_skipBlanks 2 none) (rmX5_skipBlanks) (va_Pc [.ref (ad a0), .ref (ad a1)] (WB D ca ad mm)) (QV D ca ad res) 0 0 (AA ad) := by
  refine x_start hi (by decide) rfl (Nat.le_of_ble_eq_true rfl) (fun p e s m args below meth c ls C hW hl => ?_)
  exact wX5_skipBlanks_0 C N ha0 ha1 hW (lv_sub hl [0, 1] rfl) hf
set_option maxRecDepth 100000 in
set_option maxHeartbeats 4000000 in
theorem wX5_read_60 (C : Cx p s m meth c args cX5_read 3 (some .int) RX5 D ca ad) {res : Int32 × Mm} {N : Nat}  : ∀ (n : Nat) {a0 : Nat} {a1 : Nat} {a2 : Int32} {mm : Mm} {H : Heap} {locs : List Loc} {ls : Array Slot}, (sX5 a0) → (sX6 a1) → Wd D ca ad s.heap mm H locs → lv_has ls 3 [(0, .ref (ad a0)), (1, .ref (ad a1)), (2, .int a2)] → fX5_read_60 N n a0 a1 a2 mm = some res → W p l e (rmX5_read) s m args below meth c H locs 0 0 (MQ below (QI D ca ad res) args s 0 0 (AA ad)) (F0 m 60 ls []) := by
  intro n
  induction n with
  | zero => intro a0 a1 a2 mm H locs ls ha0 ha1 hW hl hf; cases hf
  | succ n ih =>
    intro a0 a1 a2 mm H locs ls ha0 ha1 hW hl hf
    have hk60 : ∀ (a0 : Nat) (a1 : Nat) (a2 : Int32) (mm : Mm) (H : Heap) (locs : List Loc) (ls : Array Slot), (sX5 a0) → (sX6 a1) → Wd D ca ad s.heap mm H locs → lv_has ls 3 [(0, .ref (ad a0)), (1, .ref (ad a1)), (2, .int a2)] → (fX5_read_60 N n) a0 a1 a2 mm = some res → W p l e (rmX5_read) s m args below meth c H locs 0 0 (MQ below (QI D ca ad res) args s 0 0 (AA ad)) (F0 m 60 ls []) := fun a0 a1 a2 mm H locs ls ha0 ha1 hW hl hf => ih ha0 ha1 hW hl hf
    unfold fX5_read_60 at hf
    try dsimp only at hf
    refine lv_iload_n C.1 C.2.1 dX5_read_60 rfl (lv_at hl 2 rfl) ?_
    refine lv_bipush (v := 6) C.1 C.2.1 dX5_read_61 (by decide) ?_
    refine lv_icmp_gt (tgt := 104) C.1 C.2.1 dX5_read_63 (by decide) (fun c1 => ?_) (fun c1 => ?_)
    · have hf := if_t c1 hf
      refine lv_aload_n C.1 C.2.1 dX5_read_104 rfl (lv_at hl 0 rfl) ?_
      refine x_geti C hW (ha0).1 (ha0).2.1 (j := 5) rfl kX5 (by decide) rfl q_118 dX5_read_105 ?_
      cases hf
      exact x_iret C hW dX5_read_108
    · have hf := if_f c1 hf
      refine lv_aload_n C.1 C.2.1 dX5_read_66 rfl (lv_at hl 0 rfl) ?_
      refine lv_aload_n C.1 C.2.1 dX5_read_67 rfl (lv_at hl 1 rfl) ?_
      obtain ⟨x2, m3, r4, hf⟩ := bd2_s hf
      refine x_cv hW (x_runV C hW [.ref (ad a1)] [] (ha0).1 (ha0).2.1 kX5.1 kvX5_skipBlanks q_873 (tX5_skipBlanks l C.2.2.2.2.2.2.1 ha0 ha1 r4) rfl rfl ⟨by decide, by decide⟩ rfl hl.1 rfl (Nat.le_of_ble_eq_true rfl) dX5_read_68) (fun H locs hW => ?_)
      refine lv_aload_n C.1 C.2.1 dX5_read_71 rfl (lv_at hl 0 rfl) ?_
      refine x_geti C hW (ha0).1 (ha0).2.1 (j := 5) rfl kX5 (by decide) rfl q_118 dX5_read_72 ?_
      refine lv_aload_n C.1 C.2.1 dX5_read_75 rfl (lv_at hl 1 rfl) ?_
      refine x_geti C hW (ha1).1 (ha1).2.1 (j := 1) rfl kX6 (by decide) rfl q_301 dX5_read_76 ?_
      refine lv_icmp_lt (tgt := 85) C.1 C.2.1 dX5_read_79 (by decide) (fun c5 => ?_) (fun c5 => ?_)
      · have hf := if_t c5 hf
        refine lv_aload_n C.1 C.2.1 dX5_read_85 rfl (lv_at hl 0 rfl) ?_
        refine lv_aload_n C.1 C.2.1 dX5_read_86 rfl (lv_at hl 1 rfl) ?_
        obtain ⟨x6, m7, r8, hf⟩ := bd2_s hf
        refine x_ci hW (x_runV C hW [.ref (ad a1)] [] (ha0).1 (ha0).2.1 kX5.1 kvX5_passesSuit q_894 (tX5_passesSuit l C.2.2.2.2.2.2.1 ha0 ha1 r8) rfl rfl ⟨by decide, by decide⟩ rfl hl.1 rfl (Nat.le_of_ble_eq_true rfl) dX5_read_87) (fun H locs hW => ?_)
        refine lv_if_ne (tgt := 98) C.1 C.2.1 dX5_read_90 (by decide) (fun c9 => ?_) (fun c9 => ?_)
        · have hf := if_f c9 hf
          refine lv_iinc (v := (a2 + 1)) (lv' := [(2, .int (a2 + 1)), (0, .ref (ad a0)), (1, .ref (ad a1))]) C.1 C.2.1 dX5_read_98 hl (k := 2) rfl rfl (by decide) rfl (fun ls hl => ?_)
          refine lv_goto (tgt := 60) C.1 C.2.1 dX5_read_101 (by decide) ?_
          exact hk60 _ _ _ _ _ _ _ ha0 ha1 hW (lv_sub hl [1, 2, 0] rfl) hf
        · have hf := if_t c9 hf
          refine lv_aload_n C.1 C.2.1 dX5_read_93 rfl (lv_at hl 0 rfl) ?_
          refine x_geti C hW (ha0).1 (ha0).2.1 (j := 5) rfl kX5 (by decide) rfl q_118 dX5_read_94 ?_
          cases hf
          exact x_iret C hW dX5_read_97
      · have hf := if_f c5 hf
        refine lv_bipush (v := (-9)) C.1 C.2.1 dX5_read_82 (by decide) ?_
        cases hf
        exact x_iret C hW dX5_read_84
set_option maxRecDepth 100000 in
set_option maxHeartbeats 4000000 in
theorem wX5_read_0 (C : Cx p s m meth c args cX5_read 3 (some .int) RX5 D ca ad) {res : Int32 × Mm} {N : Nat}  {a0 : Nat} {a1 : Nat} {mm : Mm} {H : Heap} {locs : List Loc} {ls : Array Slot} (ha0 : sX5 a0) (ha1 : sX6 a1) (hW : Wd D ca ad s.heap mm H locs) (hl : lv_has ls 3 [(0, .ref (ad a0)), (1, .ref (ad a1))]) (hf : fX5_read N a0 a1 mm = some res) : W p l e (rmX5_read) s m args below meth c H locs 0 0 (MQ below (QI D ca ad res) args s 0 0 (AA ad)) (F0 m 0 ls []) := by
  unfold fX5_read at hf
  refine lv_aload_n C.1 C.2.1 dX5_read_0 rfl (lv_at hl 0 rfl) ?_
  refine lv_iconst (v := 0) C.1 C.2.1 dX5_read_1 (by decide) ?_
  refine x_put C hW (ha0).1 (ha0).2.1 (j := 5) (t1 := .int) rfl kX5 (by decide) rfl rfl q_118 (by decide +kernel) rfl rfl dX5_read_2 (fun H locs hW => ?_)
  obtain ⟨m10, em10⟩ : ∃ z, z = wr mm a0 5 0 := ⟨_, rfl⟩
  have hf := nm_s hf em10
  rw [← em10] at hW
  refine lv_aload_n C.1 C.2.1 dX5_read_5 rfl (lv_at hl 0 rfl) ?_
  refine lv_iconst (v := 0) C.1 C.2.1 dX5_read_6 (by decide) ?_
  refine x_put C hW (ha0).1 (ha0).2.1 (j := 4) (t1 := .int) rfl kX5 (by decide) rfl rfl q_117 (by decide +kernel) rfl rfl dX5_read_7 (fun H locs hW => ?_)
  obtain ⟨m11, em11⟩ : ∃ z, z = wr m10 a0 4 0 := ⟨_, rfl⟩
  have hf := nm_s hf em11
  rw [← em11] at hW
  refine lv_aload_n C.1 C.2.1 dX5_read_10 rfl (lv_at hl 0 rfl) ?_
  refine lv_aload_n C.1 C.2.1 dX5_read_11 rfl (lv_at hl 1 rfl) ?_
  obtain ⟨x12, m13, r14, hf⟩ := bd2_s hf
  refine x_cv hW (x_runV C hW [.ref (ad a1)] [] (ha0).1 (ha0).2.1 kX5.1 kvX5_skipBlanks q_873 (tX5_skipBlanks l C.2.2.2.2.2.2.1 ha0 ha1 r14) rfl rfl ⟨by decide, by decide⟩ rfl hl.1 rfl (Nat.le_of_ble_eq_true rfl) dX5_read_12) (fun H locs hW => ?_)
  refine lv_aload_n C.1 C.2.1 dX5_read_15 rfl (lv_at hl 0 rfl) ?_
  refine lv_aload_n C.1 C.2.1 dX5_read_16 rfl (lv_at hl 1 rfl) ?_
  refine lv_bipush (v := 110) C.1 C.2.1 dX5_read_17 (by decide) ?_
  obtain ⟨x15, m16, r17, hf⟩ := bd2_s hf
  refine x_ci hW (x_runV C hW [.ref (ad a1), .int 110] [] (ha0).1 (ha0).2.1 kX5.1 kvX5_passes q_882 (tX5_passes l C.2.2.2.2.2.2.1 ha0 ha1 r17) rfl rfl ⟨by decide, by decide⟩ rfl hl.1 rfl (Nat.le_of_ble_eq_true rfl) dX5_read_19) (fun H locs hW => ?_)
  refine lv_if_eq (tgt := 53) C.1 C.2.1 dX5_read_22 (by decide) (fun c18 => ?_) (fun c18 => ?_)
  · have hf := if_t c18 hf
    refine lv_aload_n C.1 C.2.1 dX5_read_53 rfl (lv_at hl 0 rfl) ?_
    refine x_geti C hW (ha0).1 (ha0).2.1 (j := 5) rfl kX5 (by decide) rfl q_118 dX5_read_54 ?_
    cases hf
    exact x_iret C hW dX5_read_57
  · have hf := if_f c18 hf
    refine lv_aload_n C.1 C.2.1 dX5_read_25 rfl (lv_at hl 0 rfl) ?_
    refine lv_aload_n C.1 C.2.1 dX5_read_26 rfl (lv_at hl 1 rfl) ?_
    refine lv_iconst (v := 0) C.1 C.2.1 dX5_read_27 (by decide) ?_
    obtain ⟨x19, m20, r21, hf⟩ := bd2_s hf
    refine x_ci hW (x_runV C hW [.ref (ad a1), .int 0] [] (ha0).1 (ha0).2.1 kX5.1 kvX5_passesStock q_886 (tX5_passesStock l C.2.2.2.2.2.2.1 ha0 ha1 r21) rfl rfl ⟨by decide, by decide⟩ rfl hl.1 rfl (Nat.le_of_ble_eq_true rfl) dX5_read_28) (fun H locs hW => ?_)
    refine lv_if_eq (tgt := 53) C.1 C.2.1 dX5_read_31 (by decide) (fun c22 => ?_) (fun c22 => ?_)
    · have hf := if_t c22 hf
      refine lv_aload_n C.1 C.2.1 dX5_read_53 rfl (lv_at hl 0 rfl) ?_
      refine x_geti C hW (ha0).1 (ha0).2.1 (j := 5) rfl kX5 (by decide) rfl q_118 dX5_read_54 ?_
      cases hf
      exact x_iret C hW dX5_read_57
    · have hf := if_f c22 hf
      refine lv_aload_n C.1 C.2.1 dX5_read_34 rfl (lv_at hl 0 rfl) ?_
      refine lv_aload_n C.1 C.2.1 dX5_read_35 rfl (lv_at hl 1 rfl) ?_
      refine lv_bipush (v := 58) C.1 C.2.1 dX5_read_36 (by decide) ?_
      obtain ⟨x23, m24, r25, hf⟩ := bd2_s hf
      refine x_ci hW (x_runV C hW [.ref (ad a1), .int 58] [] (ha0).1 (ha0).2.1 kX5.1 kvX5_passes q_882 (tX5_passes l C.2.2.2.2.2.2.1 ha0 ha1 r25) rfl rfl ⟨by decide, by decide⟩ rfl hl.1 rfl (Nat.le_of_ble_eq_true rfl) dX5_read_38) (fun H locs hW => ?_)
      refine lv_if_eq (tgt := 53) C.1 C.2.1 dX5_read_41 (by decide) (fun c26 => ?_) (fun c26 => ?_)
      · have hf := if_t c26 hf
        refine lv_aload_n C.1 C.2.1 dX5_read_53 rfl (lv_at hl 0 rfl) ?_
        refine x_geti C hW (ha0).1 (ha0).2.1 (j := 5) rfl kX5 (by decide) rfl q_118 dX5_read_54 ?_
        cases hf
        exact x_iret C hW dX5_read_57
      · have hf := if_f c26 hf
        refine lv_aload_n C.1 C.2.1 dX5_read_44 rfl (lv_at hl 0 rfl) ?_
        refine lv_aload_n C.1 C.2.1 dX5_read_45 rfl (lv_at hl 1 rfl) ?_
        refine lv_iconst (v := 1) C.1 C.2.1 dX5_read_46 (by decide) ?_
        obtain ⟨x27, m28, r29, hf⟩ := bd2_s hf
        refine x_ci hW (x_runV C hW [.ref (ad a1), .int 1] [] (ha0).1 (ha0).2.1 kX5.1 kvX5_passesStock q_886 (tX5_passesStock l C.2.2.2.2.2.2.1 ha0 ha1 r29) rfl rfl ⟨by decide, by decide⟩ rfl hl.1 rfl (Nat.le_of_ble_eq_true rfl) dX5_read_47) (fun H locs hW => ?_)
        refine lv_if_ne (tgt := 58) C.1 C.2.1 dX5_read_50 (by decide) (fun c30 => ?_) (fun c30 => ?_)
        · have hf := if_f c30 hf
          refine lv_iconst (v := 0) C.1 C.2.1 dX5_read_58 (by decide) ?_
          refine lv_istore_n (lv' := [(2, .int 0), (0, .ref (ad a0)), (1, .ref (ad a1))]) C.1 C.2.1 dX5_read_59 rfl hl (by decide) rfl (fun ls hl => ?_)
          exact wX5_read_60 C  N ha0 ha1 hW (lv_sub hl [1, 2, 0] rfl) hf
        · have hf := if_t c30 hf
          refine lv_aload_n C.1 C.2.1 dX5_read_53 rfl (lv_at hl 0 rfl) ?_
          refine x_geti C hW (ha0).1 (ha0).2.1 (j := 5) rfl kX5 (by decide) rfl q_118 dX5_read_54 ?_
          cases hf
          exact x_iret C hW dX5_read_57
set_option maxRecDepth 100000 in
set_option maxHeartbeats 4000000 in
theorem tX5_read (l : Launch) {D : va_G} {ca ad : Nat → Nat} (hi : Inj ad) {N : Nat} {a0 : Nat} {a1 : Nat} {mm : Mm} {res : Int32 × Mm} (ha0 : sX5 a0) (ha1 : sX6 a1) (hf : fX5_read N a0 a1 mm = some res) : Met l yX5_read (WS yX5_read cX5_read 3 (some .int)) (rmX5_read) (va_Pc [.ref (ad a0), .ref (ad a1)] (WB D ca ad mm)) (QI D ca ad res) 0 0 (AA ad) := by
  refine x_start hi (by decide) rfl (Nat.le_of_ble_eq_true rfl) (fun p e s m args below meth c ls C hW hl => ?_)
  exact wX5_read_0 C ha0 ha1 hW (lv_sub hl [0, 1] rfl) hf
end W_reader14
