theorem dX12_on_0 : decode cX12_on 0 = .ok (.iload_n 1, 1) := by decide +kernel
theorem dX12_on_1 : decode cX12_on 1 = .ok (.iconst 0, 1) := by decide +kernel
theorem dX12_on_2 : decode cX12_on 2 = .ok (.iconst 2, 1) := by decide +kernel
theorem dX12_on_3 : decode cX12_on 3 = .ok (.invokestatic 87, 3) := by decide +kernel
theorem dX12_on_6 : decode cX12_on 6 = .ok (.ifCond .ne 5, 3) := by decide +kernel
theorem dX12_on_9 : decode cX12_on 9 = .ok (.iconst (-1), 1) := by decide +kernel
theorem dX12_on_10 : decode cX12_on 10 = .ok (.ireturn, 1) := by decide +kernel
theorem dX12_on_11 : decode cX12_on 11 = .ok (.bipush 72, 2) := by decide +kernel
theorem dX12_on_13 : decode cX12_on 13 = .ok (.iload_n 1, 1) := by decide +kernel
theorem dX12_on_14 : decode cX12_on 14 = .ok (.imul, 1) := by decide +kernel
theorem dX12_on_15 : decode cX12_on 15 = .ok (.istore_n 2, 1) := by decide +kernel
theorem dX12_on_16 : decode cX12_on 16 = .ok (.aload_n 0, 1) := by decide +kernel
theorem dX12_on_17 : decode cX12_on 17 = .ok (.getfield 74, 3) := by decide +kernel
theorem dX12_on_20 : decode cX12_on 20 = .ok (.iload_n 2, 1) := by decide +kernel
theorem dX12_on_21 : decode cX12_on 21 = .ok (.iaload, 1) := by decide +kernel
theorem dX12_on_22 : decode cX12_on 22 = .ok (.bipush (-9), 2) := by decide +kernel
theorem dX12_on_24 : decode cX12_on 24 = .ok (.if_icmp .ne 9, 3) := by decide +kernel
theorem dX12_on_27 : decode cX12_on 27 = .ok (.aload_n 0, 1) := by decide +kernel
theorem dX12_on_28 : decode cX12_on 28 = .ok (.iconst 1, 1) := by decide +kernel
theorem dX12_on_29 : decode cX12_on 29 = .ok (.invokevirtual 95, 3) := by decide +kernel
theorem dX12_on_32 : decode cX12_on 32 = .ok (.ireturn, 1) := by decide +kernel
theorem dX12_on_33 : decode cX12_on 33 = .ok (.aload_n 0, 1) := by decide +kernel
theorem dX12_on_34 : decode cX12_on 34 = .ok (.aload_n 0, 1) := by decide +kernel
theorem dX12_on_35 : decode cX12_on 35 = .ok (.getfield 74, 3) := by decide +kernel
theorem dX12_on_38 : decode cX12_on 38 = .ok (.iload_n 2, 1) := by decide +kernel
theorem dX12_on_39 : decode cX12_on 39 = .ok (.iaload, 1) := by decide +kernel
theorem dX12_on_40 : decode cX12_on 40 = .ok (.putfield 162, 3) := by decide +kernel
theorem dX12_on_43 : decode cX12_on 43 = .ok (.aload_n 0, 1) := by decide +kernel
theorem dX12_on_44 : decode cX12_on 44 = .ok (.getfield 35, 3) := by decide +kernel
theorem dX12_on_47 : decode cX12_on 47 = .ok (.iconst 0, 1) := by decide +kernel
theorem dX12_on_48 : decode cX12_on 48 = .ok (.aload_n 0, 1) := by decide +kernel
theorem dX12_on_49 : decode cX12_on 49 = .ok (.getfield 74, 3) := by decide +kernel
theorem dX12_on_52 : decode cX12_on 52 = .ok (.iload_n 2, 1) := by decide +kernel
theorem dX12_on_53 : decode cX12_on 53 = .ok (.iconst 1, 1) := by decide +kernel
theorem dX12_on_54 : decode cX12_on 54 = .ok (.iadd, 1) := by decide +kernel
theorem dX12_on_55 : decode cX12_on 55 = .ok (.iaload, 1) := by decide +kernel
theorem dX12_on_56 : decode cX12_on 56 = .ok (.iastore, 1) := by decide +kernel
theorem dX12_on_57 : decode cX12_on 57 = .ok (.aload_n 0, 1) := by decide +kernel
theorem dX12_on_58 : decode cX12_on 58 = .ok (.getfield 35, 3) := by decide +kernel
theorem dX12_on_61 : decode cX12_on 61 = .ok (.iconst 1, 1) := by decide +kernel
theorem dX12_on_62 : decode cX12_on 62 = .ok (.aload_n 0, 1) := by decide +kernel
theorem dX12_on_63 : decode cX12_on 63 = .ok (.getfield 74, 3) := by decide +kernel
theorem dX12_on_66 : decode cX12_on 66 = .ok (.iload_n 2, 1) := by decide +kernel
theorem dX12_on_67 : decode cX12_on 67 = .ok (.iconst 2, 1) := by decide +kernel
theorem dX12_on_68 : decode cX12_on 68 = .ok (.iadd, 1) := by decide +kernel
theorem dX12_on_69 : decode cX12_on 69 = .ok (.iaload, 1) := by decide +kernel
theorem dX12_on_70 : decode cX12_on 70 = .ok (.iastore, 1) := by decide +kernel
theorem dX12_on_71 : decode cX12_on 71 = .ok (.aload_n 0, 1) := by decide +kernel
theorem dX12_on_72 : decode cX12_on 72 = .ok (.aload_n 0, 1) := by decide +kernel
theorem dX12_on_73 : decode cX12_on 73 = .ok (.getfield 74, 3) := by decide +kernel
theorem dX12_on_76 : decode cX12_on 76 = .ok (.iload_n 2, 1) := by decide +kernel
theorem dX12_on_77 : decode cX12_on 77 = .ok (.iconst 3, 1) := by decide +kernel
theorem dX12_on_78 : decode cX12_on 78 = .ok (.iadd, 1) := by decide +kernel
theorem dX12_on_79 : decode cX12_on 79 = .ok (.iaload, 1) := by decide +kernel
theorem dX12_on_80 : decode cX12_on 80 = .ok (.putfield 159, 3) := by decide +kernel
theorem dX12_on_83 : decode cX12_on 83 = .ok (.iconst 0, 1) := by decide +kernel
theorem dX12_on_84 : decode cX12_on 84 = .ok (.istore_n 3, 1) := by decide +kernel
theorem dX12_on_85 : decode cX12_on 85 = .ok (.iload_n 3, 1) := by decide +kernel
theorem dX12_on_86 : decode cX12_on 86 = .ok (.iconst 4, 1) := by decide +kernel
theorem dX12_on_87 : decode cX12_on 87 = .ok (.if_icmp .ge 25, 3) := by decide +kernel
theorem dX12_on_90 : decode cX12_on 90 = .ok (.aload_n 0, 1) := by decide +kernel
theorem dX12_on_91 : decode cX12_on 91 = .ok (.getfield 62, 3) := by decide +kernel
theorem dX12_on_94 : decode cX12_on 94 = .ok (.iload_n 3, 1) := by decide +kernel
theorem dX12_on_95 : decode cX12_on 95 = .ok (.aload_n 0, 1) := by decide +kernel
theorem dX12_on_96 : decode cX12_on 96 = .ok (.getfield 74, 3) := by decide +kernel
theorem dX12_on_99 : decode cX12_on 99 = .ok (.iload_n 2, 1) := by decide +kernel
theorem dX12_on_100 : decode cX12_on 100 = .ok (.iconst 4, 1) := by decide +kernel
theorem dX12_on_101 : decode cX12_on 101 = .ok (.iadd, 1) := by decide +kernel
theorem dX12_on_102 : decode cX12_on 102 = .ok (.iload_n 3, 1) := by decide +kernel
theorem dX12_on_103 : decode cX12_on 103 = .ok (.iadd, 1) := by decide +kernel
theorem dX12_on_104 : decode cX12_on 104 = .ok (.iaload, 1) := by decide +kernel
theorem dX12_on_105 : decode cX12_on 105 = .ok (.iastore, 1) := by decide +kernel
theorem dX12_on_106 : decode cX12_on 106 = .ok (.iinc 3 1, 3) := by decide +kernel
theorem dX12_on_109 : decode cX12_on 109 = .ok (.goto (-24), 3) := by decide +kernel
theorem dX12_on_112 : decode cX12_on 112 = .ok (.iconst 0, 1) := by decide +kernel
theorem dX12_on_113 : decode cX12_on 113 = .ok (.istore_n 3, 1) := by decide +kernel
theorem dX12_on_114 : decode cX12_on 114 = .ok (.iload_n 3, 1) := by decide +kernel
theorem dX12_on_115 : decode cX12_on 115 = .ok (.bipush 56, 2) := by decide +kernel
theorem dX12_on_117 : decode cX12_on 117 = .ok (.if_icmp .ge 26, 3) := by decide +kernel
theorem dX12_on_120 : decode cX12_on 120 = .ok (.aload_n 0, 1) := by decide +kernel
theorem dX12_on_121 : decode cX12_on 121 = .ok (.getfield 65, 3) := by decide +kernel
theorem dX12_on_124 : decode cX12_on 124 = .ok (.iload_n 3, 1) := by decide +kernel
theorem dX12_on_125 : decode cX12_on 125 = .ok (.aload_n 0, 1) := by decide +kernel
theorem dX12_on_126 : decode cX12_on 126 = .ok (.getfield 74, 3) := by decide +kernel
theorem dX12_on_129 : decode cX12_on 129 = .ok (.iload_n 2, 1) := by decide +kernel
theorem dX12_on_130 : decode cX12_on 130 = .ok (.bipush 8, 2) := by decide +kernel
theorem dX12_on_132 : decode cX12_on 132 = .ok (.iadd, 1) := by decide +kernel
theorem dX12_on_133 : decode cX12_on 133 = .ok (.iload_n 3, 1) := by decide +kernel
theorem dX12_on_134 : decode cX12_on 134 = .ok (.iadd, 1) := by decide +kernel
theorem dX12_on_135 : decode cX12_on 135 = .ok (.iaload, 1) := by decide +kernel
theorem dX12_on_136 : decode cX12_on 136 = .ok (.iastore, 1) := by decide +kernel
theorem dX12_on_137 : decode cX12_on 137 = .ok (.iinc 3 1, 3) := by decide +kernel
theorem dX12_on_140 : decode cX12_on 140 = .ok (.goto (-26), 3) := by decide +kernel
theorem dX12_on_143 : decode cX12_on 143 = .ok (.aload_n 0, 1) := by decide +kernel
theorem dX12_on_144 : decode cX12_on 144 = .ok (.getfield 162, 3) := by decide +kernel
theorem dX12_on_147 : decode cX12_on 147 = .ok (.ireturn, 1) := by decide +kernel
theorem dX12_asked_0 : decode cX12_asked 0 = .ok (.aload_n 0, 1) := by decide +kernel
theorem dX12_asked_1 : decode cX12_asked 1 = .ok (.getfield 81, 3) := by decide +kernel
theorem dX12_asked_4 : decode cX12_asked 4 = .ok (.ireturn, 1) := by decide +kernel
theorem dX12_upper_0 : decode cX12_upper 0 = .ok (.aload_n 0, 1) := by decide +kernel
theorem dX12_upper_1 : decode cX12_upper 1 = .ok (.getfield 84, 3) := by decide +kernel
theorem dX12_upper_4 : decode cX12_upper 4 = .ok (.lreturn, 1) := by decide +kernel
theorem dX12_lower_0 : decode cX12_lower 0 = .ok (.aload_n 0, 1) := by decide +kernel
theorem dX12_lower_1 : decode cX12_lower 1 = .ok (.getfield 13, 3) := by decide +kernel
theorem dX12_lower_4 : decode cX12_lower 4 = .ok (.lreturn, 1) := by decide +kernel
theorem dX12_counts_0 : decode cX12_counts 0 = .ok (.iconst 0, 1) := by decide +kernel
theorem dX12_counts_1 : decode cX12_counts 1 = .ok (.istore_n 2, 1) := by decide +kernel
theorem dX12_counts_2 : decode cX12_counts 2 = .ok (.iconst 0, 1) := by decide +kernel
theorem dX12_counts_3 : decode cX12_counts 3 = .ok (.istore_n 3, 1) := by decide +kernel
theorem dX12_counts_4 : decode cX12_counts 4 = .ok (.iconst 0, 1) := by decide +kernel
theorem dX12_counts_5 : decode cX12_counts 5 = .ok (.istore 4, 2) := by decide +kernel
theorem dX12_counts_7 : decode cX12_counts 7 = .ok (.iload 4, 2) := by decide +kernel
theorem dX12_counts_9 : decode cX12_counts 9 = .ok (.bipush 6, 2) := by decide +kernel
theorem dX12_counts_11 : decode cX12_counts 11 = .ok (.if_icmp .ge 104, 3) := by decide +kernel
theorem dX12_counts_14 : decode cX12_counts 14 = .ok (.iload_n 2, 1) := by decide +kernel
theorem dX12_counts_15 : decode cX12_counts 15 = .ok (.iload_n 1, 1) := by decide +kernel
theorem dX12_counts_16 : decode cX12_counts 16 = .ok (.bipush 6, 2) := by decide +kernel
theorem dX12_counts_18 : decode cX12_counts 18 = .ok (.if_icmp .ne 13, 3) := by decide +kernel
theorem dX12_counts_21 : decode cX12_counts 21 = .ok (.aload_n 0, 1) := by decide +kernel
theorem dX12_counts_22 : decode cX12_counts 22 = .ok (.getfield 17, 3) := by decide +kernel
theorem dX12_counts_25 : decode cX12_counts 25 = .ok (.iload 4, 2) := by decide +kernel
theorem dX12_counts_27 : decode cX12_counts 27 = .ok (.iaload, 1) := by decide +kernel
theorem dX12_counts_28 : decode cX12_counts 28 = .ok (.ifCond .ge 51, 3) := by decide +kernel
theorem dX12_counts_31 : decode cX12_counts 31 = .ok (.iload_n 1, 1) := by decide +kernel
theorem dX12_counts_32 : decode cX12_counts 32 = .ok (.iconst 5, 1) := by decide +kernel
theorem dX12_counts_33 : decode cX12_counts 33 = .ok (.if_icmp .ne 24, 3) := by decide +kernel
theorem dX12_counts_36 : decode cX12_counts 36 = .ok (.iload 4, 2) := by decide +kernel
theorem dX12_counts_38 : decode cX12_counts 38 = .ok (.iconst 3, 1) := by decide +kernel
theorem dX12_counts_39 : decode cX12_counts 39 = .ok (.if_icmp .ge 18, 3) := by decide +kernel
theorem dX12_counts_42 : decode cX12_counts 42 = .ok (.aload_n 0, 1) := by decide +kernel
theorem dX12_counts_43 : decode cX12_counts 43 = .ok (.getfield 74, 3) := by decide +kernel
theorem dX12_counts_46 : decode cX12_counts 46 = .ok (.bipush 72, 2) := by decide +kernel
theorem dX12_counts_48 : decode cX12_counts 48 = .ok (.iload 4, 2) := by decide +kernel
theorem dX12_counts_50 : decode cX12_counts 50 = .ok (.imul, 1) := by decide +kernel
theorem dX12_counts_51 : decode cX12_counts 51 = .ok (.iaload, 1) := by decide +kernel
theorem dX12_counts_52 : decode cX12_counts 52 = .ok (.bipush (-9), 2) := by decide +kernel
theorem dX12_counts_54 : decode cX12_counts 54 = .ok (.if_icmp .ne 25, 3) := by decide +kernel
theorem dX12_counts_57 : decode cX12_counts 57 = .ok (.iload_n 1, 1) := by decide +kernel
theorem dX12_counts_58 : decode cX12_counts 58 = .ok (.bipush 7, 2) := by decide +kernel
theorem dX12_counts_60 : decode cX12_counts 60 = .ok (.if_icmp .ne 23, 3) := by decide +kernel
theorem dX12_counts_63 : decode cX12_counts 63 = .ok (.iload 4, 2) := by decide +kernel
theorem dX12_counts_65 : decode cX12_counts 65 = .ok (.iconst 4, 1) := by decide +kernel
theorem dX12_counts_66 : decode cX12_counts 66 = .ok (.if_icmp .ge 17, 3) := by decide +kernel
theorem dX12_counts_69 : decode cX12_counts 69 = .ok (.aload_n 0, 1) := by decide +kernel
theorem dX12_counts_70 : decode cX12_counts 70 = .ok (.getfield 26, 3) := by decide +kernel
theorem dX12_counts_73 : decode cX12_counts 73 = .ok (.iload 4, 2) := by decide +kernel
theorem dX12_counts_75 : decode cX12_counts 75 = .ok (.iaload, 1) := by decide +kernel
theorem dX12_counts_76 : decode cX12_counts 76 = .ok (.ifCond .lt 7, 3) := by decide +kernel
theorem dX12_counts_79 : decode cX12_counts 79 = .ok (.iconst 1, 1) := by decide +kernel
theorem dX12_counts_80 : decode cX12_counts 80 = .ok (.goto 4, 3) := by decide +kernel
theorem dX12_counts_83 : decode cX12_counts 83 = .ok (.iconst 0, 1) := by decide +kernel
theorem dX12_counts_84 : decode cX12_counts 84 = .ok (.iadd, 1) := by decide +kernel
theorem dX12_counts_85 : decode cX12_counts 85 = .ok (.istore_n 2, 1) := by decide +kernel
theorem dX12_counts_86 : decode cX12_counts 86 = .ok (.iload_n 3, 1) := by decide +kernel
theorem dX12_counts_87 : decode cX12_counts 87 = .ok (.iload 4, 2) := by decide +kernel
theorem dX12_counts_89 : decode cX12_counts 89 = .ok (.aload_n 0, 1) := by decide +kernel
theorem dX12_counts_90 : decode cX12_counts 90 = .ok (.getfield 156, 3) := by decide +kernel
theorem dX12_counts_93 : decode cX12_counts 93 = .ok (.if_icmp .ge 13, 3) := by decide +kernel
theorem dX12_counts_96 : decode cX12_counts 96 = .ok (.aload_n 0, 1) := by decide +kernel
theorem dX12_counts_97 : decode cX12_counts 97 = .ok (.iload 4, 2) := by decide +kernel
theorem dX12_counts_99 : decode cX12_counts 99 = .ok (.iconst 1, 1) := by decide +kernel
theorem dX12_counts_100 : decode cX12_counts 100 = .ok (.invokevirtual 168, 3) := by decide +kernel
theorem dX12_counts_103 : decode cX12_counts 103 = .ok (.goto 4, 3) := by decide +kernel
theorem dX12_counts_106 : decode cX12_counts 106 = .ok (.iconst 0, 1) := by decide +kernel
theorem dX12_counts_107 : decode cX12_counts 107 = .ok (.iadd, 1) := by decide +kernel
theorem dX12_counts_108 : decode cX12_counts 108 = .ok (.istore_n 3, 1) := by decide +kernel
theorem dX12_counts_109 : decode cX12_counts 109 = .ok (.iinc 4 1, 3) := by decide +kernel
theorem dX12_counts_112 : decode cX12_counts 112 = .ok (.goto (-105), 3) := by decide +kernel
theorem dX12_counts_115 : decode cX12_counts 115 = .ok (.iload_n 1, 1) := by decide +kernel
theorem dX12_counts_116 : decode cX12_counts 116 = .ok (.tableswitch 60 0 4 #[36, 41, 43, 49, 55], 36) := by decide +kernel
theorem dX12_counts_152 : decode cX12_counts 152 = .ok (.aload_n 0, 1) := by decide +kernel
theorem dX12_counts_153 : decode cX12_counts 153 = .ok (.getfield 156, 3) := by decide +kernel
theorem dX12_counts_156 : decode cX12_counts 156 = .ok (.ireturn, 1) := by decide +kernel
theorem dX12_counts_157 : decode cX12_counts 157 = .ok (.iload_n 3, 1) := by decide +kernel
theorem dX12_counts_158 : decode cX12_counts 158 = .ok (.ireturn, 1) := by decide +kernel
theorem dX12_counts_159 : decode cX12_counts 159 = .ok (.aload_n 0, 1) := by decide +kernel
theorem dX12_counts_160 : decode cX12_counts 160 = .ok (.iconst 1, 1) := by decide +kernel
theorem dX12_counts_161 : decode cX12_counts 161 = .ok (.invokevirtual 175, 3) := by decide +kernel
theorem dX12_counts_164 : decode cX12_counts 164 = .ok (.ireturn, 1) := by decide +kernel
theorem dX12_counts_165 : decode cX12_counts 165 = .ok (.aload_n 0, 1) := by decide +kernel
theorem dX12_counts_166 : decode cX12_counts 166 = .ok (.iconst 3, 1) := by decide +kernel
theorem dX12_counts_167 : decode cX12_counts 167 = .ok (.invokevirtual 175, 3) := by decide +kernel
theorem dX12_counts_170 : decode cX12_counts 170 = .ok (.ireturn, 1) := by decide +kernel
theorem dX12_counts_171 : decode cX12_counts 171 = .ok (.aload_n 0, 1) := by decide +kernel
theorem dX12_counts_172 : decode cX12_counts 172 = .ok (.getfield 162, 3) := by decide +kernel
theorem dX12_counts_175 : decode cX12_counts 175 = .ok (.ireturn, 1) := by decide +kernel
theorem dX12_counts_176 : decode cX12_counts 176 = .ok (.iload_n 2, 1) := by decide +kernel
theorem dX12_counts_177 : decode cX12_counts 177 = .ok (.ireturn, 1) := by decide +kernel
theorem dX12_count_0 : decode cX12_count 0 = .ok (.iload_n 1, 1) := by decide +kernel
theorem dX12_count_1 : decode cX12_count 1 = .ok (.iconst 0, 1) := by decide +kernel
theorem dX12_count_2 : decode cX12_count 2 = .ok (.bipush 7, 2) := by decide +kernel
theorem dX12_count_4 : decode cX12_count 4 = .ok (.invokestatic 87, 3) := by decide +kernel
theorem dX12_count_7 : decode cX12_count 7 = .ok (.ifCond .eq 11, 3) := by decide +kernel
theorem dX12_count_10 : decode cX12_count 10 = .ok (.aload_n 0, 1) := by decide +kernel
theorem dX12_count_11 : decode cX12_count 11 = .ok (.iload_n 1, 1) := by decide +kernel
theorem dX12_count_12 : decode cX12_count 12 = .ok (.invokevirtual 339, 3) := by decide +kernel
theorem dX12_count_15 : decode cX12_count 15 = .ok (.goto 4, 3) := by decide +kernel
theorem dX12_count_18 : decode cX12_count 18 = .ok (.iconst (-1), 1) := by decide +kernel
theorem dX12_count_19 : decode cX12_count 19 = .ok (.ireturn, 1) := by decide +kernel
theorem dX12_finding_0 : decode cX12_finding 0 = .ok (.aload_n 0, 1) := by decide +kernel
theorem dX12_finding_1 : decode cX12_finding 1 = .ok (.getfield 77, 3) := by decide +kernel
theorem dX12_finding_4 : decode cX12_finding 4 = .ok (.ireturn, 1) := by decide +kernel
theorem dX12_findings_0 : decode cX12_findings 0 = .ok (.iload_n 1, 1) := by decide +kernel
theorem dX12_findings_1 : decode cX12_findings 1 = .ok (.iconst 1, 1) := by decide +kernel
theorem dX12_findings_2 : decode cX12_findings 2 = .ok (.iconst 5, 1) := by decide +kernel
theorem dX12_findings_3 : decode cX12_findings 3 = .ok (.invokestatic 87, 3) := by decide +kernel
theorem dX12_findings_6 : decode cX12_findings 6 = .ok (.ifCond .eq 12, 3) := by decide +kernel
theorem dX12_findings_9 : decode cX12_findings 9 = .ok (.aload_n 0, 1) := by decide +kernel
theorem dX12_findings_10 : decode cX12_findings 10 = .ok (.getfield 7, 3) := by decide +kernel
theorem dX12_findings_13 : decode cX12_findings 13 = .ok (.iload_n 1, 1) := by decide +kernel
theorem dX12_findings_14 : decode cX12_findings 14 = .ok (.iaload, 1) := by decide +kernel
theorem dX12_findings_15 : decode cX12_findings 15 = .ok (.goto 4, 3) := by decide +kernel
theorem dX12_findings_18 : decode cX12_findings 18 = .ok (.iconst (-1), 1) := by decide +kernel
theorem dX12_findings_19 : decode cX12_findings 19 = .ok (.ireturn, 1) := by decide +kernel
theorem dX12_adding_0 : decode cX12_adding 0 = .ok (.aload_n 0, 1) := by decide +kernel
theorem dX12_adding_1 : decode cX12_adding 1 = .ok (.ldc2_w 342, 3) := by decide +kernel
theorem dX12_adding_4 : decode cX12_adding 4 = .ok (.aload_n 0, 1) := by decide +kernel
theorem dX12_adding_5 : decode cX12_adding 5 = .ok (.getfield 344, 3) := by decide +kernel
theorem dX12_adding_8 : decode cX12_adding 8 = .ok (.lmul, 1) := by decide +kernel
theorem dX12_adding_9 : decode cX12_adding 9 = .ok (.iload_n 1, 1) := by decide +kernel
theorem dX12_adding_10 : decode cX12_adding 10 = .ok (.i2l, 1) := by decide +kernel
theorem dX12_adding_11 : decode cX12_adding 11 = .ok (.ladd, 1) := by decide +kernel
theorem dX12_adding_12 : decode cX12_adding 12 = .ok (.putfield 344, 3) := by decide +kernel
theorem dX12_adding_15 : decode cX12_adding 15 = .ok (.return_, 1) := by decide +kernel
theorem dX12_mixCourt_0 : decode cX12_mixCourt 0 = .ok (.aload_n 0, 1) := by decide +kernel
theorem dX12_mixCourt_1 : decode cX12_mixCourt 1 = .ok (.aload_n 0, 1) := by decide +kernel
theorem dX12_mixCourt_2 : decode cX12_mixCourt 2 = .ok (.getfield 35, 3) := by decide +kernel
theorem dX12_mixCourt_5 : decode cX12_mixCourt 5 = .ok (.iconst 0, 1) := by decide +kernel
theorem dX12_mixCourt_6 : decode cX12_mixCourt 6 = .ok (.iaload, 1) := by decide +kernel
theorem dX12_mixCourt_7 : decode cX12_mixCourt 7 = .ok (.invokevirtual 347, 3) := by decide +kernel
theorem dX12_mixCourt_10 : decode cX12_mixCourt 10 = .ok (.aload_n 0, 1) := by decide +kernel
theorem dX12_mixCourt_11 : decode cX12_mixCourt 11 = .ok (.aload_n 0, 1) := by decide +kernel
theorem dX12_mixCourt_12 : decode cX12_mixCourt 12 = .ok (.getfield 35, 3) := by decide +kernel
theorem dX12_mixCourt_15 : decode cX12_mixCourt 15 = .ok (.iconst 1, 1) := by decide +kernel
theorem dX12_mixCourt_16 : decode cX12_mixCourt 16 = .ok (.iaload, 1) := by decide +kernel
theorem dX12_mixCourt_17 : decode cX12_mixCourt 17 = .ok (.invokevirtual 347, 3) := by decide +kernel
theorem dX12_mixCourt_20 : decode cX12_mixCourt 20 = .ok (.aload_n 0, 1) := by decide +kernel
theorem dX12_mixCourt_21 : decode cX12_mixCourt 21 = .ok (.aload_n 0, 1) := by decide +kernel
theorem dX12_mixCourt_22 : decode cX12_mixCourt 22 = .ok (.getfield 159, 3) := by decide +kernel
theorem dX12_mixCourt_25 : decode cX12_mixCourt 25 = .ok (.invokevirtual 347, 3) := by decide +kernel
theorem dX12_mixCourt_28 : decode cX12_mixCourt 28 = .ok (.iconst 0, 1) := by decide +kernel
theorem dX12_mixCourt_29 : decode cX12_mixCourt 29 = .ok (.istore_n 1, 1) := by decide +kernel
theorem dX12_mixCourt_30 : decode cX12_mixCourt 30 = .ok (.iload_n 1, 1) := by decide +kernel
theorem dX12_mixCourt_31 : decode cX12_mixCourt 31 = .ok (.iconst 4, 1) := by decide +kernel
theorem dX12_mixCourt_32 : decode cX12_mixCourt 32 = .ok (.if_icmp .ge 19, 3) := by decide +kernel
theorem dX12_mixCourt_35 : decode cX12_mixCourt 35 = .ok (.aload_n 0, 1) := by decide +kernel
theorem dX12_mixCourt_36 : decode cX12_mixCourt 36 = .ok (.aload_n 0, 1) := by decide +kernel
theorem dX12_mixCourt_37 : decode cX12_mixCourt 37 = .ok (.getfield 62, 3) := by decide +kernel
theorem dX12_mixCourt_40 : decode cX12_mixCourt 40 = .ok (.iload_n 1, 1) := by decide +kernel
theorem dX12_mixCourt_41 : decode cX12_mixCourt 41 = .ok (.iaload, 1) := by decide +kernel
theorem dX12_mixCourt_42 : decode cX12_mixCourt 42 = .ok (.invokevirtual 347, 3) := by decide +kernel
theorem dX12_mixCourt_45 : decode cX12_mixCourt 45 = .ok (.iinc 1 1, 3) := by decide +kernel
theorem dX12_mixCourt_48 : decode cX12_mixCourt 48 = .ok (.goto (-18), 3) := by decide +kernel
theorem dX12_mixCourt_51 : decode cX12_mixCourt 51 = .ok (.iconst 0, 1) := by decide +kernel
theorem dX12_mixCourt_52 : decode cX12_mixCourt 52 = .ok (.istore_n 1, 1) := by decide +kernel
theorem dX12_mixCourt_53 : decode cX12_mixCourt 53 = .ok (.iload_n 1, 1) := by decide +kernel
theorem dX12_mixCourt_54 : decode cX12_mixCourt 54 = .ok (.aload_n 0, 1) := by decide +kernel
theorem dX12_mixCourt_55 : decode cX12_mixCourt 55 = .ok (.getfield 156, 3) := by decide +kernel
theorem dX12_mixCourt_58 : decode cX12_mixCourt 58 = .ok (.if_icmp .ge 32, 3) := by decide +kernel
theorem dX12_mixCourt_61 : decode cX12_mixCourt 61 = .ok (.iconst 0, 1) := by decide +kernel
theorem dX12_mixCourt_62 : decode cX12_mixCourt 62 = .ok (.istore_n 2, 1) := by decide +kernel
theorem dX12_mixCourt_63 : decode cX12_mixCourt 63 = .ok (.iload_n 2, 1) := by decide +kernel
theorem dX12_mixCourt_64 : decode cX12_mixCourt 64 = .ok (.iconst 2, 1) := by decide +kernel
theorem dX12_mixCourt_65 : decode cX12_mixCourt 65 = .ok (.if_icmp .gt 19, 3) := by decide +kernel
theorem dX12_mixCourt_68 : decode cX12_mixCourt 68 = .ok (.aload_n 0, 1) := by decide +kernel
theorem dX12_mixCourt_69 : decode cX12_mixCourt 69 = .ok (.aload_n 0, 1) := by decide +kernel
theorem dX12_mixCourt_70 : decode cX12_mixCourt 70 = .ok (.iload_n 1, 1) := by decide +kernel
theorem dX12_mixCourt_71 : decode cX12_mixCourt 71 = .ok (.iload_n 2, 1) := by decide +kernel
theorem dX12_mixCourt_72 : decode cX12_mixCourt 72 = .ok (.invokevirtual 168, 3) := by decide +kernel
theorem dX12_mixCourt_75 : decode cX12_mixCourt 75 = .ok (.invokevirtual 347, 3) := by decide +kernel
theorem dX12_mixCourt_78 : decode cX12_mixCourt 78 = .ok (.iinc 2 1, 3) := by decide +kernel
theorem dX12_mixCourt_81 : decode cX12_mixCourt 81 = .ok (.goto (-18), 3) := by decide +kernel
theorem dX12_mixCourt_84 : decode cX12_mixCourt 84 = .ok (.iinc 1 1, 3) := by decide +kernel
theorem dX12_mixCourt_87 : decode cX12_mixCourt 87 = .ok (.goto (-34), 3) := by decide +kernel
theorem dX12_mixCourt_90 : decode cX12_mixCourt 90 = .ok (.iconst 0, 1) := by decide +kernel
theorem dX12_mixCourt_91 : decode cX12_mixCourt 91 = .ok (.istore_n 1, 1) := by decide +kernel
theorem dX12_mixCourt_92 : decode cX12_mixCourt 92 = .ok (.iload_n 1, 1) := by decide +kernel
theorem dX12_mixCourt_93 : decode cX12_mixCourt 93 = .ok (.aload_n 0, 1) := by decide +kernel
theorem dX12_mixCourt_94 : decode cX12_mixCourt 94 = .ok (.getfield 162, 3) := by decide +kernel
theorem dX12_mixCourt_97 : decode cX12_mixCourt 97 = .ok (.if_icmp .ge 56, 3) := by decide +kernel
theorem dX12_mixCourt_100 : decode cX12_mixCourt 100 = .ok (.iconst 0, 1) := by decide +kernel
theorem dX12_mixCourt_101 : decode cX12_mixCourt 101 = .ok (.istore_n 2, 1) := by decide +kernel
theorem dX12_mixCourt_102 : decode cX12_mixCourt 102 = .ok (.iload_n 2, 1) := by decide +kernel
theorem dX12_mixCourt_103 : decode cX12_mixCourt 103 = .ok (.aload_n 0, 1) := by decide +kernel
theorem dX12_mixCourt_104 : decode cX12_mixCourt 104 = .ok (.getfield 156, 3) := by decide +kernel
theorem dX12_mixCourt_107 : decode cX12_mixCourt 107 = .ok (.if_icmp .ge 24, 3) := by decide +kernel
theorem dX12_mixCourt_110 : decode cX12_mixCourt 110 = .ok (.aload_n 0, 1) := by decide +kernel
theorem dX12_mixCourt_111 : decode cX12_mixCourt 111 = .ok (.aload_n 0, 1) := by decide +kernel
theorem dX12_mixCourt_112 : decode cX12_mixCourt 112 = .ok (.getfield 65, 3) := by decide +kernel
theorem dX12_mixCourt_115 : decode cX12_mixCourt 115 = .ok (.bipush 7, 2) := by decide +kernel
theorem dX12_mixCourt_117 : decode cX12_mixCourt 117 = .ok (.iload_n 1, 1) := by decide +kernel
theorem dX12_mixCourt_118 : decode cX12_mixCourt 118 = .ok (.imul, 1) := by decide +kernel
theorem dX12_mixCourt_119 : decode cX12_mixCourt 119 = .ok (.iload_n 2, 1) := by decide +kernel
theorem dX12_mixCourt_120 : decode cX12_mixCourt 120 = .ok (.iadd, 1) := by decide +kernel
theorem dX12_mixCourt_121 : decode cX12_mixCourt 121 = .ok (.iaload, 1) := by decide +kernel
theorem dX12_mixCourt_122 : decode cX12_mixCourt 122 = .ok (.invokevirtual 347, 3) := by decide +kernel
theorem dX12_mixCourt_125 : decode cX12_mixCourt 125 = .ok (.iinc 2 1, 3) := by decide +kernel
theorem dX12_mixCourt_128 : decode cX12_mixCourt 128 = .ok (.goto (-26), 3) := by decide +kernel
theorem dX12_mixCourt_131 : decode cX12_mixCourt 131 = .ok (.aload_n 0, 1) := by decide +kernel
theorem dX12_mixCourt_132 : decode cX12_mixCourt 132 = .ok (.aload_n 0, 1) := by decide +kernel
theorem dX12_mixCourt_133 : decode cX12_mixCourt 133 = .ok (.getfield 65, 3) := by decide +kernel
theorem dX12_mixCourt_136 : decode cX12_mixCourt 136 = .ok (.bipush 7, 2) := by decide +kernel
theorem dX12_mixCourt_138 : decode cX12_mixCourt 138 = .ok (.iload_n 1, 1) := by decide +kernel
theorem dX12_mixCourt_139 : decode cX12_mixCourt 139 = .ok (.imul, 1) := by decide +kernel
theorem dX12_mixCourt_140 : decode cX12_mixCourt 140 = .ok (.bipush 6, 2) := by decide +kernel
theorem dX12_mixCourt_142 : decode cX12_mixCourt 142 = .ok (.iadd, 1) := by decide +kernel
theorem dX12_mixCourt_143 : decode cX12_mixCourt 143 = .ok (.iaload, 1) := by decide +kernel
theorem dX12_mixCourt_144 : decode cX12_mixCourt 144 = .ok (.invokevirtual 347, 3) := by decide +kernel
theorem dX12_mixCourt_147 : decode cX12_mixCourt 147 = .ok (.iinc 1 1, 3) := by decide +kernel
theorem dX12_mixCourt_150 : decode cX12_mixCourt 150 = .ok (.goto (-58), 3) := by decide +kernel
theorem dX12_mixCourt_153 : decode cX12_mixCourt 153 = .ok (.iconst 0, 1) := by decide +kernel
theorem dX12_mixCourt_154 : decode cX12_mixCourt 154 = .ok (.istore_n 1, 1) := by decide +kernel
theorem dX12_mixCourt_155 : decode cX12_mixCourt 155 = .ok (.iload_n 1, 1) := by decide +kernel
theorem dX12_mixCourt_156 : decode cX12_mixCourt 156 = .ok (.iconst 3, 1) := by decide +kernel
theorem dX12_mixCourt_157 : decode cX12_mixCourt 157 = .ok (.if_icmp .ge 40, 3) := by decide +kernel
theorem dX12_mixCourt_160 : decode cX12_mixCourt 160 = .ok (.aload_n 0, 1) := by decide +kernel
theorem dX12_mixCourt_161 : decode cX12_mixCourt 161 = .ok (.aload_n 0, 1) := by decide +kernel
theorem dX12_mixCourt_162 : decode cX12_mixCourt 162 = .ok (.getfield 74, 3) := by decide +kernel
theorem dX12_mixCourt_165 : decode cX12_mixCourt 165 = .ok (.bipush 72, 2) := by decide +kernel
theorem dX12_mixCourt_167 : decode cX12_mixCourt 167 = .ok (.iload_n 1, 1) := by decide +kernel
theorem dX12_mixCourt_168 : decode cX12_mixCourt 168 = .ok (.imul, 1) := by decide +kernel
theorem dX12_mixCourt_169 : decode cX12_mixCourt 169 = .ok (.iaload, 1) := by decide +kernel
theorem dX12_mixCourt_170 : decode cX12_mixCourt 170 = .ok (.bipush (-9), 2) := by decide +kernel
theorem dX12_mixCourt_172 : decode cX12_mixCourt 172 = .ok (.if_icmp .ne 7, 3) := by decide +kernel
theorem dX12_mixCourt_175 : decode cX12_mixCourt 175 = .ok (.iconst (-1), 1) := by decide +kernel
theorem dX12_mixCourt_176 : decode cX12_mixCourt 176 = .ok (.goto 12, 3) := by decide +kernel
theorem dX12_mixCourt_179 : decode cX12_mixCourt 179 = .ok (.aload_n 0, 1) := by decide +kernel
theorem dX12_mixCourt_180 : decode cX12_mixCourt 180 = .ok (.getfield 74, 3) := by decide +kernel
theorem dX12_mixCourt_183 : decode cX12_mixCourt 183 = .ok (.bipush 72, 2) := by decide +kernel
theorem dX12_mixCourt_185 : decode cX12_mixCourt 185 = .ok (.iload_n 1, 1) := by decide +kernel
theorem dX12_mixCourt_186 : decode cX12_mixCourt 186 = .ok (.imul, 1) := by decide +kernel
theorem dX12_mixCourt_187 : decode cX12_mixCourt 187 = .ok (.iaload, 1) := by decide +kernel
theorem dX12_mixCourt_188 : decode cX12_mixCourt 188 = .ok (.invokevirtual 347, 3) := by decide +kernel
theorem dX12_mixCourt_191 : decode cX12_mixCourt 191 = .ok (.iinc 1 1, 3) := by decide +kernel
theorem dX12_mixCourt_194 : decode cX12_mixCourt 194 = .ok (.goto (-39), 3) := by decide +kernel
theorem dX12_mixCourt_197 : decode cX12_mixCourt 197 = .ok (.return_, 1) := by decide +kernel
theorem dX12_digest_0 : decode cX12_digest 0 = .ok (.aload_n 0, 1) := by decide +kernel
theorem dX12_digest_1 : decode cX12_digest 1 = .ok (.ldc2_w 350, 3) := by decide +kernel
theorem dX12_digest_4 : decode cX12_digest 4 = .ok (.putfield 344, 3) := by decide +kernel
theorem dX12_digest_7 : decode cX12_digest 7 = .ok (.iconst 0, 1) := by decide +kernel
theorem dX12_digest_8 : decode cX12_digest 8 = .ok (.istore_n 1, 1) := by decide +kernel
theorem dX12_digest_9 : decode cX12_digest 9 = .ok (.iload_n 1, 1) := by decide +kernel
theorem dX12_digest_10 : decode cX12_digest 10 = .ok (.bipush 7, 2) := by decide +kernel
theorem dX12_digest_12 : decode cX12_digest 12 = .ok (.if_icmp .gt 18, 3) := by decide +kernel
theorem dX12_digest_15 : decode cX12_digest 15 = .ok (.aload_n 0, 1) := by decide +kernel
theorem dX12_digest_16 : decode cX12_digest 16 = .ok (.aload_n 0, 1) := by decide +kernel
theorem dX12_digest_17 : decode cX12_digest 17 = .ok (.iload_n 1, 1) := by decide +kernel
theorem dX12_digest_18 : decode cX12_digest 18 = .ok (.invokevirtual 339, 3) := by decide +kernel
theorem dX12_digest_21 : decode cX12_digest 21 = .ok (.invokevirtual 347, 3) := by decide +kernel
theorem dX12_digest_24 : decode cX12_digest 24 = .ok (.iinc 1 1, 3) := by decide +kernel
theorem dX12_digest_27 : decode cX12_digest 27 = .ok (.goto (-18), 3) := by decide +kernel
theorem dX12_digest_30 : decode cX12_digest 30 = .ok (.aload_n 0, 1) := by decide +kernel
theorem dX12_digest_31 : decode cX12_digest 31 = .ok (.invokevirtual 352, 3) := by decide +kernel
theorem dX12_digest_34 : decode cX12_digest 34 = .ok (.iconst 0, 1) := by decide +kernel
theorem dX12_digest_35 : decode cX12_digest 35 = .ok (.istore_n 1, 1) := by decide +kernel
theorem dX12_digest_36 : decode cX12_digest 36 = .ok (.iload_n 1, 1) := by decide +kernel
theorem dX12_digest_37 : decode cX12_digest 37 = .ok (.bipush 6, 2) := by decide +kernel
theorem dX12_digest_39 : decode cX12_digest 39 = .ok (.if_icmp .ge 60, 3) := by decide +kernel
theorem dX12_digest_42 : decode cX12_digest 42 = .ok (.aload_n 0, 1) := by decide +kernel
theorem dX12_digest_43 : decode cX12_digest 43 = .ok (.aload_n 0, 1) := by decide +kernel
theorem dX12_digest_44 : decode cX12_digest 44 = .ok (.getfield 17, 3) := by decide +kernel
theorem dX12_digest_47 : decode cX12_digest 47 = .ok (.iload_n 1, 1) := by decide +kernel
theorem dX12_digest_48 : decode cX12_digest 48 = .ok (.iaload, 1) := by decide +kernel
theorem dX12_digest_49 : decode cX12_digest 49 = .ok (.ifCond .ge 7, 3) := by decide +kernel
theorem dX12_digest_52 : decode cX12_digest 52 = .ok (.iconst (-1), 1) := by decide +kernel
theorem dX12_digest_53 : decode cX12_digest 53 = .ok (.goto 9, 3) := by decide +kernel
theorem dX12_digest_56 : decode cX12_digest 56 = .ok (.aload_n 0, 1) := by decide +kernel
theorem dX12_digest_57 : decode cX12_digest 57 = .ok (.getfield 17, 3) := by decide +kernel
theorem dX12_digest_60 : decode cX12_digest 60 = .ok (.iload_n 1, 1) := by decide +kernel
theorem dX12_digest_61 : decode cX12_digest 61 = .ok (.iaload, 1) := by decide +kernel
theorem dX12_digest_62 : decode cX12_digest 62 = .ok (.invokevirtual 347, 3) := by decide +kernel
theorem dX12_digest_65 : decode cX12_digest 65 = .ok (.iconst 0, 1) := by decide +kernel
theorem dX12_digest_66 : decode cX12_digest 66 = .ok (.istore_n 2, 1) := by decide +kernel
theorem dX12_digest_67 : decode cX12_digest 67 = .ok (.iload_n 2, 1) := by decide +kernel
theorem dX12_digest_68 : decode cX12_digest 68 = .ok (.aload_n 0, 1) := by decide +kernel
theorem dX12_digest_69 : decode cX12_digest 69 = .ok (.getfield 17, 3) := by decide +kernel
theorem dX12_digest_72 : decode cX12_digest 72 = .ok (.iload_n 1, 1) := by decide +kernel
theorem dX12_digest_73 : decode cX12_digest 73 = .ok (.iaload, 1) := by decide +kernel
theorem dX12_digest_74 : decode cX12_digest 74 = .ok (.if_icmp .ge 19, 3) := by decide +kernel
theorem dX12_digest_77 : decode cX12_digest 77 = .ok (.aload_n 0, 1) := by decide +kernel
theorem dX12_digest_78 : decode cX12_digest 78 = .ok (.aload_n 0, 1) := by decide +kernel
theorem dX12_digest_79 : decode cX12_digest 79 = .ok (.iload_n 1, 1) := by decide +kernel
theorem dX12_digest_80 : decode cX12_digest 80 = .ok (.iload_n 2, 1) := by decide +kernel
theorem dX12_digest_81 : decode cX12_digest 81 = .ok (.invokevirtual 109, 3) := by decide +kernel
theorem dX12_digest_84 : decode cX12_digest 84 = .ok (.invokevirtual 347, 3) := by decide +kernel
theorem dX12_digest_87 : decode cX12_digest 87 = .ok (.iinc 2 1, 3) := by decide +kernel
theorem dX12_digest_90 : decode cX12_digest 90 = .ok (.goto (-23), 3) := by decide +kernel
theorem dX12_digest_93 : decode cX12_digest 93 = .ok (.iinc 1 1, 3) := by decide +kernel
theorem dX12_digest_96 : decode cX12_digest 96 = .ok (.goto (-60), 3) := by decide +kernel
theorem dX12_digest_99 : decode cX12_digest 99 = .ok (.iconst 0, 1) := by decide +kernel
theorem dX12_digest_100 : decode cX12_digest 100 = .ok (.istore_n 1, 1) := by decide +kernel
theorem dX12_digest_101 : decode cX12_digest 101 = .ok (.iload_n 1, 1) := by decide +kernel
theorem dX12_digest_102 : decode cX12_digest 102 = .ok (.iconst 4, 1) := by decide +kernel
theorem dX12_digest_103 : decode cX12_digest 103 = .ok (.if_icmp .ge 65, 3) := by decide +kernel
theorem dX12_digest_106 : decode cX12_digest 106 = .ok (.aload_n 0, 1) := by decide +kernel
theorem dX12_digest_107 : decode cX12_digest 107 = .ok (.aload_n 0, 1) := by decide +kernel
theorem dX12_digest_108 : decode cX12_digest 108 = .ok (.getfield 26, 3) := by decide +kernel
theorem dX12_digest_111 : decode cX12_digest 111 = .ok (.iload_n 1, 1) := by decide +kernel
theorem dX12_digest_112 : decode cX12_digest 112 = .ok (.iaload, 1) := by decide +kernel
theorem dX12_digest_113 : decode cX12_digest 113 = .ok (.ifCond .ge 7, 3) := by decide +kernel
theorem dX12_digest_116 : decode cX12_digest 116 = .ok (.iconst (-1), 1) := by decide +kernel
theorem dX12_digest_117 : decode cX12_digest 117 = .ok (.goto 9, 3) := by decide +kernel
theorem dX12_digest_120 : decode cX12_digest 120 = .ok (.aload_n 0, 1) := by decide +kernel
theorem dX12_digest_121 : decode cX12_digest 121 = .ok (.getfield 26, 3) := by decide +kernel
theorem dX12_digest_124 : decode cX12_digest 124 = .ok (.iload_n 1, 1) := by decide +kernel
theorem dX12_digest_125 : decode cX12_digest 125 = .ok (.iaload, 1) := by decide +kernel
theorem dX12_digest_126 : decode cX12_digest 126 = .ok (.invokevirtual 347, 3) := by decide +kernel
theorem dX12_digest_129 : decode cX12_digest 129 = .ok (.iconst 0, 1) := by decide +kernel
theorem dX12_digest_130 : decode cX12_digest 130 = .ok (.istore_n 2, 1) := by decide +kernel
theorem dX12_digest_131 : decode cX12_digest 131 = .ok (.iload_n 2, 1) := by decide +kernel
theorem dX12_digest_132 : decode cX12_digest 132 = .ok (.aload_n 0, 1) := by decide +kernel
theorem dX12_digest_133 : decode cX12_digest 133 = .ok (.getfield 26, 3) := by decide +kernel
theorem dX12_digest_136 : decode cX12_digest 136 = .ok (.iload_n 1, 1) := by decide +kernel
theorem dX12_digest_137 : decode cX12_digest 137 = .ok (.iaload, 1) := by decide +kernel
theorem dX12_digest_138 : decode cX12_digest 138 = .ok (.if_icmp .ge 24, 3) := by decide +kernel
theorem dX12_digest_141 : decode cX12_digest 141 = .ok (.aload_n 0, 1) := by decide +kernel
theorem dX12_digest_142 : decode cX12_digest 142 = .ok (.aload_n 0, 1) := by decide +kernel
theorem dX12_digest_143 : decode cX12_digest 143 = .ok (.getfield 29, 3) := by decide +kernel
theorem dX12_digest_146 : decode cX12_digest 146 = .ok (.bipush 80, 2) := by decide +kernel
theorem dX12_digest_148 : decode cX12_digest 148 = .ok (.iload_n 1, 1) := by decide +kernel
theorem dX12_digest_149 : decode cX12_digest 149 = .ok (.imul, 1) := by decide +kernel
theorem dX12_digest_150 : decode cX12_digest 150 = .ok (.iload_n 2, 1) := by decide +kernel
theorem dX12_digest_151 : decode cX12_digest 151 = .ok (.iadd, 1) := by decide +kernel
theorem dX12_digest_152 : decode cX12_digest 152 = .ok (.iaload, 1) := by decide +kernel
theorem dX12_digest_153 : decode cX12_digest 153 = .ok (.invokevirtual 347, 3) := by decide +kernel
theorem dX12_digest_156 : decode cX12_digest 156 = .ok (.iinc 2 1, 3) := by decide +kernel
theorem dX12_digest_159 : decode cX12_digest 159 = .ok (.goto (-28), 3) := by decide +kernel
theorem dX12_digest_162 : decode cX12_digest 162 = .ok (.iinc 1 1, 3) := by decide +kernel
theorem dX12_digest_165 : decode cX12_digest 165 = .ok (.goto (-64), 3) := by decide +kernel
theorem dX12_digest_168 : decode cX12_digest 168 = .ok (.aload_n 0, 1) := by decide +kernel
theorem dX12_digest_169 : decode cX12_digest 169 = .ok (.getfield 344, 3) := by decide +kernel
theorem dX12_digest_172 : decode cX12_digest 172 = .ok (.lreturn, 1) := by decide +kernel
theorem q_1555 : Cond.methodLink RX12 339 yX12_counts ∈ wT := wi_t 1555 (by decide +kernel) (by decide +kernel)
theorem q_1558 : Cond.code yX12_counts cX12_counts 5 (some .int) ∈ wT := wi_t 1558 (by decide +kernel) (by decide +kernel)
theorem q_1557 : Cond.instanceMethod yX12_counts ∈ wT := wi_t 1557 (by decide +kernel) (by decide +kernel)
theorem qs_88 : Cond.selects RX12 yX12_counts yX12_counts ∈ wT := wi_s (q := (yX12_counts, 42)) 88 (by decide +kernel) (by decide +kernel)
theorem q_1576 : Cond.constantLong RX12 342 31 ∈ wT := wi_t 1576 (by decide +kernel) (by decide +kernel)
theorem q_1057 : Cond.fieldLink RX12 344 "HeavyFilesModel" "h0" "J" ∈ wT := wi_t 1057 (by decide +kernel) (by decide +kernel)
theorem q_1572 : Cond.methodLink RX12 347 yX12_adding ∈ wT := wi_t 1572 (by decide +kernel) (by decide +kernel)
theorem q_1575 : Cond.code yX12_adding cX12_adding 2 none ∈ wT := wi_t 1575 (by decide +kernel) (by decide +kernel)
theorem q_1574 : Cond.instanceMethod yX12_adding ∈ wT := wi_t 1574 (by decide +kernel) (by decide +kernel)
theorem qs_89 : Cond.selects RX12 yX12_adding yX12_adding ∈ wT := wi_s (q := (yX12_adding, 42)) 89 (by decide +kernel) (by decide +kernel)
theorem q_1577 : Cond.methodLink RX12 352 yX12_mixCourt ∈ wT := wi_t 1577 (by decide +kernel) (by decide +kernel)
theorem q_1580 : Cond.code yX12_mixCourt cX12_mixCourt 3 none ∈ wT := wi_t 1580 (by decide +kernel) (by decide +kernel)
theorem q_1579 : Cond.instanceMethod yX12_mixCourt ∈ wT := wi_t 1579 (by decide +kernel) (by decide +kernel)
theorem qs_90 : Cond.selects RX12 yX12_mixCourt yX12_mixCourt ∈ wT := wi_s (q := (yX12_mixCourt, 42)) 90 (by decide +kernel) (by decide +kernel)
theorem q_1571 : Cond.constantLong RX12 350 17 ∈ wT := wi_t 1571 (by decide +kernel) (by decide +kernel)
theorem kvX12_counts : KV yX12_counts RX12 cX12_counts 5 (some .int) 1 := ⟨q_1557, qs_88, q_13, q_1558, rfl, by decide +kernel, by decide +kernel, by decide +kernel⟩
theorem kvX12_adding : KV yX12_adding RX12 cX12_adding 2 none 1 := ⟨q_1574, qs_89, q_13, q_1575, rfl, by decide +kernel, by decide +kernel, by decide +kernel⟩
theorem kvX12_mixCourt : KV yX12_mixCourt RX12 cX12_mixCourt 3 none 0 := ⟨q_1579, qs_90, q_13, q_1580, rfl, by decide +kernel, by decide +kernel, by decide +kernel⟩
/-! HeavyFilesModel.on(I)I -/
def fX12_on_114 (N : Nat)  : Nat → Nat → Int32 → Int32 → Mm → Option (Int32 × Mm)
  | 0 => fun _ _ _ _ => none
  | n + 1 => fun a0 a2 a3 mm =>
    let k114 := fX12_on_114 N  n
    if (56 : Int32) ≤ a3 then (some (rd mm a0 37, mm)) else (gd (inb ((a2 + 8) + a3) (ln (fr a0 40))) <| gd (inb a3 (ln (fr a0 36))) <| nm (wr mm (fr a0 36) a3.toNatClampNeg (rd mm (fr a0 40) (((a2 + 8) + a3).toNatClampNeg))) fun m4 => k114 a0 a2 (a3 + 1) m4)
def fX12_on_85 (N : Nat)  : Nat → Nat → Int32 → Int32 → Mm → Option (Int32 × Mm)
  | 0 => fun _ _ _ _ => none
  | n + 1 => fun a0 a2 a3 mm =>
    let k85 := fX12_on_85 N  n
    if (4 : Int32) ≤ a3 then (fX12_on_114 N N a0 a2 0 mm) else (gd (inb ((a2 + 4) + a3) (ln (fr a0 40))) <| gd (inb a3 (ln (fr a0 35))) <| nm (wr mm (fr a0 35) a3.toNatClampNeg (rd mm (fr a0 40) (((a2 + 4) + a3).toNatClampNeg))) fun m8 => k85 a0 a2 (a3 + 1) m8)
def fX12_on (N : Nat)  (a0 : Nat) (a1 : Int32) (mm : Mm) : Option (Int32 × Mm) :=
  bd2 (fX12_in N a1 0 2 mm) fun x9 m10 => if x9 = 0 then (some ((-1), m10)) else (gd (inb (72 * a1) (ln (fr a0 40))) <| if (rd m10 (fr a0 40) ((72 * a1).toNatClampNeg)) = (-9) then (bd2 (fX12_meet N a0 1 m10) fun x25 m26 => some (x25, m26)) else (gd (inb (72 * a1) (ln (fr a0 40))) <| nm (wr m10 a0 37 (rd m10 (fr a0 40) ((72 * a1).toNatClampNeg))) fun m16 => gd (inb ((72 * a1) + 1) (ln (fr a0 40))) <| gd (inb 0 (ln (fr a0 12))) <| nm (wr m16 (fr a0 12) (0 : Int32).toNatClampNeg (rd m16 (fr a0 40) (((72 * a1) + 1).toNatClampNeg))) fun m19 => gd (inb ((72 * a1) + 2) (ln (fr a0 40))) <| gd (inb 1 (ln (fr a0 12))) <| nm (wr m19 (fr a0 12) (1 : Int32).toNatClampNeg (rd m19 (fr a0 40) (((72 * a1) + 2).toNatClampNeg))) fun m22 => gd (inb ((72 * a1) + 3) (ln (fr a0 40))) <| nm (wr m22 a0 13 (rd m22 (fr a0 40) (((72 * a1) + 3).toNatClampNeg))) fun m24 => fX12_on_85 N N a0 (72 * a1) 0 m24))
abbrev rmX12_on : Room := { frames := 2, cells := 0, slots := 0, locals := 70 }
/-! HeavyFilesModel.asked()I -/
def fX12_asked (N : Nat)  (a0 : Nat) (mm : Mm) : Option (Int32 × Mm) :=
  some (rd mm a0 2, mm)
abbrev rmX12_asked : Room := { frames := 1, cells := 0, slots := 0, locals := 40 }
/-! HeavyFilesModel.upper()J -/
def fX12_upper (N : Nat)  (a0 : Nat) (mm : Mm) : Option (Int64 × Mm) :=
  some (rdL mm a0 3, mm)
abbrev rmX12_upper : Room := { frames := 1, cells := 0, slots := 0, locals := 40 }
/-! HeavyFilesModel.lower()J -/
def fX12_lower (N : Nat)  (a0 : Nat) (mm : Mm) : Option (Int64 × Mm) :=
  some (rdL mm a0 4, mm)
abbrev rmX12_lower : Room := { frames := 1, cells := 0, slots := 0, locals := 40 }
/-! HeavyFilesModel.counts(I)I -/
def fX12_counts_107 (N : Nat) (k7 : Nat → Int32 → Int32 → Int32 → Int32 → Mm → Option (Int32 × Mm)) (a0 : Nat) (a1 : Int32) (a2 : Int32) (a4 : Int32) (s0 : Int32) (s1 : Int32) (mm : Mm) : Option (Int32 × Mm) :=
  k7 a0 a1 a2 (s0 + s1) (a4 + 1) mm
def fX12_counts_84 (N : Nat) (k7 : Nat → Int32 → Int32 → Int32 → Int32 → Mm → Option (Int32 × Mm)) (a0 : Nat) (a1 : Int32) (a3 : Int32) (a4 : Int32) (s0 : Int32) (s1 : Int32) (mm : Mm) : Option (Int32 × Mm) :=
  if (rd mm a0 10) ≤ a4 then (fX12_counts_107 N k7 a0 a1 (s0 + s1) a4 a3 0 mm) else (bd2 (fX12_of N a0 a4 1 mm) fun x2 m3 => fX12_counts_107 N k7 a0 a1 (s0 + s1) a4 a3 x2 m3)
def fX12_counts_83 (N : Nat) (k7 : Nat → Int32 → Int32 → Int32 → Int32 → Mm → Option (Int32 × Mm)) (a0 : Nat) (a1 : Int32) (a3 : Int32) (a4 : Int32) (s0 : Int32) (mm : Mm) : Option (Int32 × Mm) :=
  fX12_counts_84 N k7 a0 a1 a3 a4 s0 0 mm
def fX12_counts_79 (N : Nat) (k7 : Nat → Int32 → Int32 → Int32 → Int32 → Mm → Option (Int32 × Mm)) (a0 : Nat) (a1 : Int32) (a3 : Int32) (a4 : Int32) (s0 : Int32) (mm : Mm) : Option (Int32 × Mm) :=
  fX12_counts_84 N k7 a0 a1 a3 a4 s0 1 mm
def fX12_counts_57 (N : Nat) (k7 : Nat → Int32 → Int32 → Int32 → Int32 → Mm → Option (Int32 × Mm)) (a0 : Nat) (a1 : Int32) (a3 : Int32) (a4 : Int32) (s0 : Int32) (mm : Mm) : Option (Int32 × Mm) :=
  if a1 = 7 then (if (4 : Int32) ≤ a4 then (fX12_counts_83 N k7 a0 a1 a3 a4 s0 mm) else (gd (inb a4 (ln (fr a0 8))) <| if (rd mm (fr a0 8) a4.toNatClampNeg) < 0 then (fX12_counts_83 N k7 a0 a1 a3 a4 s0 mm) else (fX12_counts_79 N k7 a0 a1 a3 a4 s0 mm))) else (fX12_counts_83 N k7 a0 a1 a3 a4 s0 mm)
def fX12_counts_31 (N : Nat) (k7 : Nat → Int32 → Int32 → Int32 → Int32 → Mm → Option (Int32 × Mm)) (a0 : Nat) (a1 : Int32) (a3 : Int32) (a4 : Int32) (s0 : Int32) (mm : Mm) : Option (Int32 × Mm) :=
  if a1 = 5 then (if (3 : Int32) ≤ a4 then (fX12_counts_57 N k7 a0 a1 a3 a4 s0 mm) else (gd (inb (72 * a4) (ln (fr a0 40))) <| if (rd mm (fr a0 40) ((72 * a4).toNatClampNeg)) = (-9) then (fX12_counts_57 N k7 a0 a1 a3 a4 s0 mm) else (fX12_counts_79 N k7 a0 a1 a3 a4 s0 mm))) else (fX12_counts_57 N k7 a0 a1 a3 a4 s0 mm)
def fX12_counts_7 (N : Nat)  : Nat → Nat → Int32 → Int32 → Int32 → Int32 → Mm → Option (Int32 × Mm)
  | 0 => fun _ _ _ _ _ _ => none
  | n + 1 => fun a0 a1 a2 a3 a4 mm =>
    let k7 := fX12_counts_7 N  n
    if (6 : Int32) ≤ a4 then (if a1 = 0 then (some (rd mm a0 10, mm)) else if a1 = 1 then (some (a3, mm)) else if a1 = 2 then (bd2 (fX12_ofKind N a0 1 mm) fun x17 m18 => some (x17, m18)) else if a1 = 3 then (bd2 (fX12_ofKind N a0 3 mm) fun x21 m22 => some (x21, m22)) else if a1 = 4 then (some (rd mm a0 37, mm)) else (some (a2, mm))) else (if a1 = 6 then (gd (inb a4 (ln (fr a0 5))) <| if (0 : Int32) ≤ (rd mm (fr a0 5) a4.toNatClampNeg) then (fX12_counts_79 N k7 a0 a1 a3 a4 a2 mm) else (fX12_counts_31 N k7 a0 a1 a3 a4 a2 mm)) else (fX12_counts_31 N k7 a0 a1 a3 a4 a2 mm))
def fX12_counts (N : Nat)  (a0 : Nat) (a1 : Int32) (mm : Mm) : Option (Int32 × Mm) :=
  fX12_counts_7 N N a0 a1 0 0 0 mm
abbrev rmX12_counts : Room := { frames := 4, cells := 0, slots := 0, locals := 131 }
/-! HeavyFilesModel.count(I)I -/
def fX12_count (N : Nat)  (a0 : Nat) (a1 : Int32) (mm : Mm) : Option (Int32 × Mm) :=
  bd2 (fX12_in N a1 0 7 mm) fun x1 m2 => if x1 = 0 then (some ((-1), m2)) else (bd2 (fX12_counts N a0 a1 m2) fun x5 m6 => some (x5, m6))
abbrev rmX12_count : Room := { frames := 5, cells := 0, slots := 0, locals := 163 }
/-! HeavyFilesModel.finding()I -/
def fX12_finding (N : Nat)  (a0 : Nat) (mm : Mm) : Option (Int32 × Mm) :=
  some (rd mm a0 0, mm)
abbrev rmX12_finding : Room := { frames := 1, cells := 0, slots := 0, locals := 40 }
/-! HeavyFilesModel.findings(I)I -/
def fX12_findings (N : Nat)  (a0 : Nat) (a1 : Int32) (mm : Mm) : Option (Int32 × Mm) :=
  bd2 (fX12_in N a1 1 5 mm) fun x1 m2 => if x1 = 0 then (some ((-1), m2)) else (gd (inb a1 (ln (fr a0 1))) <| some (rd m2 (fr a0 1) a1.toNatClampNeg, m2))
abbrev rmX12_findings : Room := { frames := 2, cells := 0, slots := 0, locals := 70 }
/-! HeavyFilesModel.adding(I)V -/
def fX12_adding (N : Nat)  (a0 : Nat) (a1 : Int32) (mm : Mm) : Option (Unit × Mm) :=
  nm (wrL mm a0 41 ((31 * (rdL mm a0 41)) + a1.toInt64)) fun m1 => some ((), m1)
abbrev rmX12_adding : Room := { frames := 1, cells := 0, slots := 0, locals := 40 }
/-! HeavyFilesModel.mixCourt()V -/
def fX12_mixCourt_188 (N : Nat) (k155 : Nat → Int32 → Mm → Option (Unit × Mm)) (a0 : Nat) (a1 : Int32) (s0 : Nat) (s1 : Int32) (mm : Mm) : Option (Unit × Mm) :=
  bd2 (fX12_adding N s0 s1 mm) fun x1 m2 => k155 a0 (a1 + 1) m2
def fX12_mixCourt_155 (N : Nat)  : Nat → Nat → Int32 → Mm → Option (Unit × Mm)
  | 0 => fun _ _ _ => none
  | n + 1 => fun a0 a1 mm =>
    let k155 := fX12_mixCourt_155 N  n
    if (3 : Int32) ≤ a1 then (some ((), mm)) else (gd (inb (72 * a1) (ln (fr a0 40))) <| if (rd mm (fr a0 40) ((72 * a1).toNatClampNeg)) = (-9) then (fX12_mixCourt_188 N k155 a0 a1 a0 (-1) mm) else (gd (inb (72 * a1) (ln (fr a0 40))) <| fX12_mixCourt_188 N k155 a0 a1 a0 (rd mm (fr a0 40) ((72 * a1).toNatClampNeg)) mm))
def fX12_mixCourt_102 (N : Nat) (k92 : Nat → Int32 → Mm → Option (Unit × Mm)) : Nat → Nat → Int32 → Int32 → Mm → Option (Unit × Mm)
  | 0 => fun _ _ _ _ => none
  | n + 1 => fun a0 a1 a2 mm =>
    let k102 := fX12_mixCourt_102 N k92 n
    if (rd mm a0 10) ≤ a2 then (gd (inb ((7 * a1) + 6) (ln (fr a0 36))) <| bd2 (fX12_adding N a0 (rd mm (fr a0 36) (((7 * a1) + 6).toNatClampNeg)) mm) fun x10 m11 => k92 a0 (a1 + 1) m11) else (gd (inb ((7 * a1) + a2) (ln (fr a0 36))) <| bd2 (fX12_adding N a0 (rd mm (fr a0 36) (((7 * a1) + a2).toNatClampNeg)) mm) fun x14 m15 => k102 a0 a1 (a2 + 1) m15)
def fX12_mixCourt_92 (N : Nat)  : Nat → Nat → Int32 → Mm → Option (Unit × Mm)
  | 0 => fun _ _ _ => none
  | n + 1 => fun a0 a1 mm =>
    let k92 := fX12_mixCourt_92 N  n
    if (rd mm a0 37) ≤ a1 then (fX12_mixCourt_155 N N a0 0 mm) else (fX12_mixCourt_102 N k92 N a0 a1 0 mm)
def fX12_mixCourt_63 (N : Nat) (k53 : Nat → Int32 → Mm → Option (Unit × Mm)) : Nat → Nat → Int32 → Int32 → Mm → Option (Unit × Mm)
  | 0 => fun _ _ _ _ => none
  | n + 1 => fun a0 a1 a2 mm =>
    let k63 := fX12_mixCourt_63 N k53 n
    if (2 : Int32) < a2 then (k53 a0 (a1 + 1) mm) else (bd2 (fX12_of N a0 a1 a2 mm) fun x19 m20 => bd2 (fX12_adding N a0 x19 m20) fun x22 m23 => k63 a0 a1 (a2 + 1) m23)
def fX12_mixCourt_53 (N : Nat)  : Nat → Nat → Int32 → Mm → Option (Unit × Mm)
  | 0 => fun _ _ _ => none
  | n + 1 => fun a0 a1 mm =>
    let k53 := fX12_mixCourt_53 N  n
    if (rd mm a0 10) ≤ a1 then (fX12_mixCourt_92 N N a0 0 mm) else (fX12_mixCourt_63 N k53 N a0 a1 0 mm)
def fX12_mixCourt_30 (N : Nat)  : Nat → Nat → Int32 → Mm → Option (Unit × Mm)
  | 0 => fun _ _ _ => none
  | n + 1 => fun a0 a1 mm =>
    let k30 := fX12_mixCourt_30 N  n
    if (4 : Int32) ≤ a1 then (fX12_mixCourt_53 N N a0 0 mm) else (gd (inb a1 (ln (fr a0 35))) <| bd2 (fX12_adding N a0 (rd mm (fr a0 35) a1.toNatClampNeg) mm) fun x28 m29 => k30 a0 (a1 + 1) m29)
def fX12_mixCourt (N : Nat)  (a0 : Nat) (mm : Mm) : Option (Unit × Mm) :=
  gd (inb 0 (ln (fr a0 12))) <| bd2 (fX12_adding N a0 (rd mm (fr a0 12) ((0 : Int32).toNatClampNeg)) mm) fun x32 m33 => gd (inb 1 (ln (fr a0 12))) <| bd2 (fX12_adding N a0 (rd m33 (fr a0 12) ((1 : Int32).toNatClampNeg)) m33) fun x36 m37 => bd2 (fX12_adding N a0 (rd m37 a0 13) m37) fun x39 m40 => fX12_mixCourt_30 N N a0 0 m40
abbrev rmX12_mixCourt : Room := { frames := 2, cells := 0, slots := 0, locals := 70 }
/-! HeavyFilesModel.digest()J -/
def fX12_digest_131 (N : Nat) (k101 : Nat → Int32 → Mm → Option (Int64 × Mm)) : Nat → Nat → Int32 → Int32 → Mm → Option (Int64 × Mm)
  | 0 => fun _ _ _ _ => none
  | n + 1 => fun a0 a1 a2 mm =>
    let k131 := fX12_digest_131 N k101 n
    gd (inb a1 (ln (fr a0 8))) <| if (rd mm (fr a0 8) a1.toNatClampNeg) ≤ a2 then (k101 a0 (a1 + 1) mm) else (gd (inb ((80 * a1) + a2) (ln (fr a0 9))) <| bd2 (fX12_adding N a0 (rd mm (fr a0 9) (((80 * a1) + a2).toNatClampNeg)) mm) fun x4 m5 => k131 a0 a1 (a2 + 1) m5)
def fX12_digest_126 (N : Nat) (k101 : Nat → Int32 → Mm → Option (Int64 × Mm)) (a0 : Nat) (a1 : Int32) (s0 : Nat) (s1 : Int32) (mm : Mm) : Option (Int64 × Mm) :=
  bd2 (fX12_adding N s0 s1 mm) fun x7 m8 => fX12_digest_131 N k101 N a0 a1 0 m8
def fX12_digest_101 (N : Nat)  : Nat → Nat → Int32 → Mm → Option (Int64 × Mm)
  | 0 => fun _ _ _ => none
  | n + 1 => fun a0 a1 mm =>
    let k101 := fX12_digest_101 N  n
    if (4 : Int32) ≤ a1 then (some (rdL mm a0 41, mm)) else (gd (inb a1 (ln (fr a0 8))) <| if (0 : Int32) ≤ (rd mm (fr a0 8) a1.toNatClampNeg) then (gd (inb a1 (ln (fr a0 8))) <| fX12_digest_126 N k101 a0 a1 a0 (rd mm (fr a0 8) a1.toNatClampNeg) mm) else (fX12_digest_126 N k101 a0 a1 a0 (-1) mm))
def fX12_digest_67 (N : Nat) (k36 : Nat → Int32 → Mm → Option (Int64 × Mm)) : Nat → Nat → Int32 → Int32 → Mm → Option (Int64 × Mm)
  | 0 => fun _ _ _ _ => none
  | n + 1 => fun a0 a1 a2 mm =>
    let k67 := fX12_digest_67 N k36 n
    gd (inb a1 (ln (fr a0 5))) <| if (rd mm (fr a0 5) a1.toNatClampNeg) ≤ a2 then (k36 a0 (a1 + 1) mm) else (bd2 (fX12_rowAt N a0 a1 a2 mm) fun x16 m17 => bd2 (fX12_adding N a0 x16 m17) fun x19 m20 => k67 a0 a1 (a2 + 1) m20)
def fX12_digest_62 (N : Nat) (k36 : Nat → Int32 → Mm → Option (Int64 × Mm)) (a0 : Nat) (a1 : Int32) (s0 : Nat) (s1 : Int32) (mm : Mm) : Option (Int64 × Mm) :=
  bd2 (fX12_adding N s0 s1 mm) fun x22 m23 => fX12_digest_67 N k36 N a0 a1 0 m23
def fX12_digest_36 (N : Nat)  : Nat → Nat → Int32 → Mm → Option (Int64 × Mm)
  | 0 => fun _ _ _ => none
  | n + 1 => fun a0 a1 mm =>
    let k36 := fX12_digest_36 N  n
    if (6 : Int32) ≤ a1 then (fX12_digest_101 N N a0 0 mm) else (gd (inb a1 (ln (fr a0 5))) <| if (0 : Int32) ≤ (rd mm (fr a0 5) a1.toNatClampNeg) then (gd (inb a1 (ln (fr a0 5))) <| fX12_digest_62 N k36 a0 a1 a0 (rd mm (fr a0 5) a1.toNatClampNeg) mm) else (fX12_digest_62 N k36 a0 a1 a0 (-1) mm))
def fX12_digest_9 (N : Nat)  : Nat → Nat → Int32 → Mm → Option (Int64 × Mm)
  | 0 => fun _ _ _ => none
  | n + 1 => fun a0 a1 mm =>
    let k9 := fX12_digest_9 N  n
    if (7 : Int32) < a1 then (bd2 (fX12_mixCourt N a0 mm) fun x30 m31 => fX12_digest_36 N N a0 0 m31) else (bd2 (fX12_counts N a0 a1 mm) fun x33 m34 => bd2 (fX12_adding N a0 x33 m34) fun x36 m37 => k9 a0 (a1 + 1) m37)
def fX12_digest (N : Nat)  (a0 : Nat) (mm : Mm) : Option (Int64 × Mm) :=
  nm (wrL mm a0 41 17) fun m39 => fX12_digest_9 N N a0 0 m39
abbrev rmX12_digest : Room := { frames := 5, cells := 0, slots := 0, locals := 163 }
section W_model29
variable {p : Program} {l : Launch} {e : Env} {s : State} {m : MethodId} {args : Array Value} {below : List Frame} {meth : Method} {c : Code} {D : va_G} {ca ad : Nat → Nat}
set_option maxRecDepth 100000 in
set_option maxHeartbeats 4000000 in
theorem wX12_on_114 (C : Cx p s m meth c args cX12_on 4 (some .int) RX12 D ca ad) {res : Int32 × Mm} {N : Nat}  : ∀ (n : Nat) {a0 : Nat} {a2 : Int32} {a3 : Int32} {mm : Mm} {H : Heap} {locs : List Loc} {ls : Array Slot}, (sX12 a0) → Wd D ca ad s.heap mm H locs → lv_has ls 4 [(0, .ref (ad a0)), (2, .int a2), (3, .int a3)] → fX12_on_114 N n a0 a2 a3 mm = some res → W p l e (rmX12_on) s m args below meth c H locs 0 0 (MQ below (QI D ca ad res) args s 0 0 (AA ad)) (F0 m 114 ls []) := by
  intro n
  induction n with
  | zero => intro a0 a2 a3 mm H locs ls ha0 hW hl hf; cases hf
  | succ n ih =>
    intro a0 a2 a3 mm H locs ls ha0 hW hl hf
    have hk114 : ∀ (a0 : Nat) (a2 : Int32) (a3 : Int32) (mm : Mm) (H : Heap) (locs : List Loc) (ls : Array Slot), (sX12 a0) → Wd D ca ad s.heap mm H locs → lv_has ls 4 [(0, .ref (ad a0)), (2, .int a2), (3, .int a3)] → (fX12_on_114 N n) a0 a2 a3 mm = some res → W p l e (rmX12_on) s m args below meth c H locs 0 0 (MQ below (QI D ca ad res) args s 0 0 (AA ad)) (F0 m 114 ls []) := fun a0 a2 a3 mm H locs ls ha0 hW hl hf => ih ha0 hW hl hf
    unfold fX12_on_114 at hf
    try dsimp only at hf
    refine lv_iload_n C.1 C.2.1 dX12_on_114 rfl (lv_at hl 2 rfl) ?_
    refine lv_bipush (v := 56) C.1 C.2.1 dX12_on_115 (by decide) ?_
    refine lv_icmp_ge (tgt := 143) C.1 C.2.1 dX12_on_117 (by decide) (fun c1 => ?_) (fun c1 => ?_)
    · have hf := if_t c1 hf
      refine lv_aload_n C.1 C.2.1 dX12_on_143 rfl (lv_at hl 0 rfl) ?_
      refine x_geti C hW (ha0).1 (ha0).2.1 (j := 37) rfl kX12 (by decide) rfl q_1053 dX12_on_144 ?_
      cases hf
      exact x_iret C hW dX12_on_147
    · have hf := if_f c1 hf
      refine lv_aload_n C.1 C.2.1 dX12_on_120 rfl (lv_at hl 0 rfl) ?_
      refine x_getr C hW (ha0).1 (ha0).2.1 (j := 36) rfl kX12 (by decide) rfl q_1052 dX12_on_121 ?_
      refine lv_iload_n C.1 C.2.1 dX12_on_124 rfl (lv_at hl 2 rfl) ?_
      refine lv_aload_n C.1 C.2.1 dX12_on_125 rfl (lv_at hl 0 rfl) ?_
      refine x_getr C hW (ha0).1 (ha0).2.1 (j := 40) rfl kX12 (by decide) rfl q_1056 dX12_on_126 ?_
      refine lv_iload_n C.1 C.2.1 dX12_on_129 rfl (lv_at hl 1 rfl) ?_
      refine lv_bipush (v := 8) C.1 C.2.1 dX12_on_130 (by decide) ?_
      refine lv_iadd C.1 C.2.1 dX12_on_132 ?_
      refine lv_iload_n C.1 C.2.1 dX12_on_133 rfl (lv_at hl 2 rfl) ?_
      refine lv_iadd C.1 C.2.1 dX12_on_134 ?_
      obtain ⟨g2, hf⟩ := gd_s hf
      refine x_iald C hW ha0.2.2.2.2.2.2.2.2.2.2.2.2.2.2.2.2.2.2.2.2.2.2 g2 dX12_on_135 ?_
      obtain ⟨g3, hf⟩ := gd_s hf
      refine x_iast C hW ha0.2.2.2.2.2.2.2.2.2.2.2.2.2.2.2.2.2.2.2.1 g3 dX12_on_136 (fun H locs hW => ?_)
      obtain ⟨m4, em4⟩ : ∃ z, z = wr mm (fr a0 36) a3.toNatClampNeg (rd mm (fr a0 40) (((a2 + 8) + a3).toNatClampNeg)) := ⟨_, rfl⟩
      have hf := nm_s hf em4
      rw [← em4] at hW
      refine lv_iinc (v := (a3 + 1)) (lv' := [(3, .int (a3 + 1)), (0, .ref (ad a0)), (2, .int a2)]) C.1 C.2.1 dX12_on_137 hl (k := 2) rfl rfl (by decide) rfl (fun ls hl => ?_)
      refine lv_goto (tgt := 114) C.1 C.2.1 dX12_on_140 (by decide) ?_
      exact hk114 _ _ _ _ _ _ _ ha0 hW (lv_sub hl [1, 2, 0] rfl) hf
set_option maxRecDepth 100000 in
set_option maxHeartbeats 4000000 in
theorem wX12_on_85 (C : Cx p s m meth c args cX12_on 4 (some .int) RX12 D ca ad) {res : Int32 × Mm} {N : Nat}  : ∀ (n : Nat) {a0 : Nat} {a2 : Int32} {a3 : Int32} {mm : Mm} {H : Heap} {locs : List Loc} {ls : Array Slot}, (sX12 a0) → Wd D ca ad s.heap mm H locs → lv_has ls 4 [(0, .ref (ad a0)), (2, .int a2), (3, .int a3)] → fX12_on_85 N n a0 a2 a3 mm = some res → W p l e (rmX12_on) s m args below meth c H locs 0 0 (MQ below (QI D ca ad res) args s 0 0 (AA ad)) (F0 m 85 ls []) := by
  intro n
  induction n with
  | zero => intro a0 a2 a3 mm H locs ls ha0 hW hl hf; cases hf
  | succ n ih =>
    intro a0 a2 a3 mm H locs ls ha0 hW hl hf
    have hk85 : ∀ (a0 : Nat) (a2 : Int32) (a3 : Int32) (mm : Mm) (H : Heap) (locs : List Loc) (ls : Array Slot), (sX12 a0) → Wd D ca ad s.heap mm H locs → lv_has ls 4 [(0, .ref (ad a0)), (2, .int a2), (3, .int a3)] → (fX12_on_85 N n) a0 a2 a3 mm = some res → W p l e (rmX12_on) s m args below meth c H locs 0 0 (MQ below (QI D ca ad res) args s 0 0 (AA ad)) (F0 m 85 ls []) := fun a0 a2 a3 mm H locs ls ha0 hW hl hf => ih ha0 hW hl hf
    unfold fX12_on_85 at hf
    try dsimp only at hf
    refine lv_iload_n C.1 C.2.1 dX12_on_85 rfl (lv_at hl 2 rfl) ?_
    refine lv_iconst (v := 4) C.1 C.2.1 dX12_on_86 (by decide) ?_
    refine lv_icmp_ge (tgt := 112) C.1 C.2.1 dX12_on_87 (by decide) (fun c5 => ?_) (fun c5 => ?_)
    · have hf := if_t c5 hf
      refine lv_iconst (v := 0) C.1 C.2.1 dX12_on_112 (by decide) ?_
      refine lv_istore_n (lv' := [(3, .int 0), (0, .ref (ad a0)), (2, .int a2)]) C.1 C.2.1 dX12_on_113 rfl hl (by decide) rfl (fun ls hl => ?_)
      exact wX12_on_114 C  N ha0 hW (lv_sub hl [1, 2, 0] rfl) hf
    · have hf := if_f c5 hf
      refine lv_aload_n C.1 C.2.1 dX12_on_90 rfl (lv_at hl 0 rfl) ?_
      refine x_getr C hW (ha0).1 (ha0).2.1 (j := 35) rfl kX12 (by decide) rfl q_1051 dX12_on_91 ?_
      refine lv_iload_n C.1 C.2.1 dX12_on_94 rfl (lv_at hl 2 rfl) ?_
      refine lv_aload_n C.1 C.2.1 dX12_on_95 rfl (lv_at hl 0 rfl) ?_
      refine x_getr C hW (ha0).1 (ha0).2.1 (j := 40) rfl kX12 (by decide) rfl q_1056 dX12_on_96 ?_
      refine lv_iload_n C.1 C.2.1 dX12_on_99 rfl (lv_at hl 1 rfl) ?_
      refine lv_iconst (v := 4) C.1 C.2.1 dX12_on_100 (by decide) ?_
      refine lv_iadd C.1 C.2.1 dX12_on_101 ?_
      refine lv_iload_n C.1 C.2.1 dX12_on_102 rfl (lv_at hl 2 rfl) ?_
      refine lv_iadd C.1 C.2.1 dX12_on_103 ?_
      obtain ⟨g6, hf⟩ := gd_s hf
      refine x_iald C hW ha0.2.2.2.2.2.2.2.2.2.2.2.2.2.2.2.2.2.2.2.2.2.2 g6 dX12_on_104 ?_
      obtain ⟨g7, hf⟩ := gd_s hf
      refine x_iast C hW ha0.2.2.2.2.2.2.2.2.2.2.2.2.2.2.2.2.2.2.1 g7 dX12_on_105 (fun H locs hW => ?_)
      obtain ⟨m8, em8⟩ : ∃ z, z = wr mm (fr a0 35) a3.toNatClampNeg (rd mm (fr a0 40) (((a2 + 4) + a3).toNatClampNeg)) := ⟨_, rfl⟩
      have hf := nm_s hf em8
      rw [← em8] at hW
      refine lv_iinc (v := (a3 + 1)) (lv' := [(3, .int (a3 + 1)), (0, .ref (ad a0)), (2, .int a2)]) C.1 C.2.1 dX12_on_106 hl (k := 2) rfl rfl (by decide) rfl (fun ls hl => ?_)
      refine lv_goto (tgt := 85) C.1 C.2.1 dX12_on_109 (by decide) ?_
      exact hk85 _ _ _ _ _ _ _ ha0 hW (lv_sub hl [1, 2, 0] rfl) hf
set_option maxRecDepth 100000 in
set_option maxHeartbeats 4000000 in
theorem wX12_on_0 (C : Cx p s m meth c args cX12_on 4 (some .int) RX12 D ca ad) {res : Int32 × Mm} {N : Nat}  {a0 : Nat} {a1 : Int32} {mm : Mm} {H : Heap} {locs : List Loc} {ls : Array Slot} (ha0 : sX12 a0) (hW : Wd D ca ad s.heap mm H locs) (hl : lv_has ls 4 [(0, .ref (ad a0)), (1, .int a1)]) (hf : fX12_on N a0 a1 mm = some res) : W p l e (rmX12_on) s m args below meth c H locs 0 0 (MQ below (QI D ca ad res) args s 0 0 (AA ad)) (F0 m 0 ls []) := by
  unfold fX12_on at hf
  refine lv_iload_n C.1 C.2.1 dX12_on_0 rfl (lv_at hl 1 rfl) ?_
  refine lv_iconst (v := 0) C.1 C.2.1 dX12_on_1 (by decide) ?_
  refine lv_iconst (v := 2) C.1 C.2.1 dX12_on_2 (by decide) ?_
  obtain ⟨x9, m10, r11, hf⟩ := bd2_s hf
  refine x_ci hW (x_runS C hW [.int a1, .int 0, .int 2] [] kvX12_in q_1150 (tX12_in l C.2.2.2.2.2.2.1  r11) rfl rfl ⟨by decide, by decide⟩ rfl hl.1 rfl (Nat.le_of_ble_eq_true rfl) dX12_on_3) (fun H locs hW => ?_)
  refine lv_if_ne (tgt := 11) C.1 C.2.1 dX12_on_6 (by decide) (fun c12 => ?_) (fun c12 => ?_)
  · have hf := if_f c12 hf
    refine lv_bipush (v := 72) C.1 C.2.1 dX12_on_11 (by decide) ?_
    refine lv_iload_n C.1 C.2.1 dX12_on_13 rfl (lv_at hl 1 rfl) ?_
    refine lv_imul C.1 C.2.1 dX12_on_14 ?_
    refine lv_istore_n (lv' := [(2, .int (72 * a1)), (0, .ref (ad a0)), (1, .int a1)]) C.1 C.2.1 dX12_on_15 rfl hl (by decide) rfl (fun ls hl => ?_)
    refine lv_aload_n C.1 C.2.1 dX12_on_16 rfl (lv_at hl 1 rfl) ?_
    refine x_getr C hW (ha0).1 (ha0).2.1 (j := 40) rfl kX12 (by decide) rfl q_1056 dX12_on_17 ?_
    refine lv_iload_n C.1 C.2.1 dX12_on_20 rfl (lv_at hl 0 rfl) ?_
    obtain ⟨g13, hf⟩ := gd_s hf
    refine x_iald C hW ha0.2.2.2.2.2.2.2.2.2.2.2.2.2.2.2.2.2.2.2.2.2.2 g13 dX12_on_21 ?_
    refine lv_bipush (v := (-9)) C.1 C.2.1 dX12_on_22 (by decide) ?_
    refine lv_icmp_ne (tgt := 33) C.1 C.2.1 dX12_on_24 (by decide) (fun c14 => ?_) (fun c14 => ?_)
    · have hf := if_f c14 hf
      refine lv_aload_n C.1 C.2.1 dX12_on_33 rfl (lv_at hl 1 rfl) ?_
      refine lv_aload_n C.1 C.2.1 dX12_on_34 rfl (lv_at hl 1 rfl) ?_
      refine x_getr C hW (ha0).1 (ha0).2.1 (j := 40) rfl kX12 (by decide) rfl q_1056 dX12_on_35 ?_
      refine lv_iload_n C.1 C.2.1 dX12_on_38 rfl (lv_at hl 0 rfl) ?_
      obtain ⟨g15, hf⟩ := gd_s hf
      refine x_iald C hW ha0.2.2.2.2.2.2.2.2.2.2.2.2.2.2.2.2.2.2.2.2.2.2 g15 dX12_on_39 ?_
      refine x_put C hW (ha0).1 (ha0).2.1 (j := 37) (t1 := .int) rfl kX12 (by decide) rfl rfl q_1053 (by decide +kernel) rfl rfl dX12_on_40 (fun H locs hW => ?_)
      obtain ⟨m16, em16⟩ : ∃ z, z = wr m10 a0 37 (rd m10 (fr a0 40) ((72 * a1).toNatClampNeg)) := ⟨_, rfl⟩
      have hf := nm_s hf em16
      rw [← em16] at hW
      refine lv_aload_n C.1 C.2.1 dX12_on_43 rfl (lv_at hl 1 rfl) ?_
      refine x_getr C hW (ha0).1 (ha0).2.1 (j := 12) rfl kX12 (by decide) rfl q_1028 dX12_on_44 ?_
      refine lv_iconst (v := 0) C.1 C.2.1 dX12_on_47 (by decide) ?_
      refine lv_aload_n C.1 C.2.1 dX12_on_48 rfl (lv_at hl 1 rfl) ?_
      refine x_getr C hW (ha0).1 (ha0).2.1 (j := 40) rfl kX12 (by decide) rfl q_1056 dX12_on_49 ?_
      refine lv_iload_n C.1 C.2.1 dX12_on_52 rfl (lv_at hl 0 rfl) ?_
      refine lv_iconst (v := 1) C.1 C.2.1 dX12_on_53 (by decide) ?_
      refine lv_iadd C.1 C.2.1 dX12_on_54 ?_
      obtain ⟨g17, hf⟩ := gd_s hf
      refine x_iald C hW ha0.2.2.2.2.2.2.2.2.2.2.2.2.2.2.2.2.2.2.2.2.2.2 g17 dX12_on_55 ?_
      obtain ⟨g18, hf⟩ := gd_s hf
      refine x_iast C hW ha0.2.2.2.2.2.2.2.2.2.1 g18 dX12_on_56 (fun H locs hW => ?_)
      obtain ⟨m19, em19⟩ : ∃ z, z = wr m16 (fr a0 12) (0 : Int32).toNatClampNeg (rd m16 (fr a0 40) (((72 * a1) + 1).toNatClampNeg)) := ⟨_, rfl⟩
      have hf := nm_s hf em19
      rw [← em19] at hW
      refine lv_aload_n C.1 C.2.1 dX12_on_57 rfl (lv_at hl 1 rfl) ?_
      refine x_getr C hW (ha0).1 (ha0).2.1 (j := 12) rfl kX12 (by decide) rfl q_1028 dX12_on_58 ?_
      refine lv_iconst (v := 1) C.1 C.2.1 dX12_on_61 (by decide) ?_
      refine lv_aload_n C.1 C.2.1 dX12_on_62 rfl (lv_at hl 1 rfl) ?_
      refine x_getr C hW (ha0).1 (ha0).2.1 (j := 40) rfl kX12 (by decide) rfl q_1056 dX12_on_63 ?_
      refine lv_iload_n C.1 C.2.1 dX12_on_66 rfl (lv_at hl 0 rfl) ?_
      refine lv_iconst (v := 2) C.1 C.2.1 dX12_on_67 (by decide) ?_
      refine lv_iadd C.1 C.2.1 dX12_on_68 ?_
      obtain ⟨g20, hf⟩ := gd_s hf
      refine x_iald C hW ha0.2.2.2.2.2.2.2.2.2.2.2.2.2.2.2.2.2.2.2.2.2.2 g20 dX12_on_69 ?_
      obtain ⟨g21, hf⟩ := gd_s hf
      refine x_iast C hW ha0.2.2.2.2.2.2.2.2.2.1 g21 dX12_on_70 (fun H locs hW => ?_)
      obtain ⟨m22, em22⟩ : ∃ z, z = wr m19 (fr a0 12) (1 : Int32).toNatClampNeg (rd m19 (fr a0 40) (((72 * a1) + 2).toNatClampNeg)) := ⟨_, rfl⟩
      have hf := nm_s hf em22
      rw [← em22] at hW
      refine lv_aload_n C.1 C.2.1 dX12_on_71 rfl (lv_at hl 1 rfl) ?_
      refine lv_aload_n C.1 C.2.1 dX12_on_72 rfl (lv_at hl 1 rfl) ?_
      refine x_getr C hW (ha0).1 (ha0).2.1 (j := 40) rfl kX12 (by decide) rfl q_1056 dX12_on_73 ?_
      refine lv_iload_n C.1 C.2.1 dX12_on_76 rfl (lv_at hl 0 rfl) ?_
      refine lv_iconst (v := 3) C.1 C.2.1 dX12_on_77 (by decide) ?_
      refine lv_iadd C.1 C.2.1 dX12_on_78 ?_
      obtain ⟨g23, hf⟩ := gd_s hf
      refine x_iald C hW ha0.2.2.2.2.2.2.2.2.2.2.2.2.2.2.2.2.2.2.2.2.2.2 g23 dX12_on_79 ?_
      refine x_put C hW (ha0).1 (ha0).2.1 (j := 13) (t1 := .int) rfl kX12 (by decide) rfl rfl q_1029 (by decide +kernel) rfl rfl dX12_on_80 (fun H locs hW => ?_)
      obtain ⟨m24, em24⟩ : ∃ z, z = wr m22 a0 13 (rd m22 (fr a0 40) (((72 * a1) + 3).toNatClampNeg)) := ⟨_, rfl⟩
      have hf := nm_s hf em24
      rw [← em24] at hW
      refine lv_iconst (v := 0) C.1 C.2.1 dX12_on_83 (by decide) ?_
      refine lv_istore_n (lv' := [(3, .int 0), (2, .int (72 * a1)), (0, .ref (ad a0)), (1, .int a1)]) C.1 C.2.1 dX12_on_84 rfl hl (by decide) rfl (fun ls hl => ?_)
      exact wX12_on_85 C  N ha0 hW (lv_sub hl [2, 1, 0] rfl) hf
    · have hf := if_t c14 hf
      refine lv_aload_n C.1 C.2.1 dX12_on_27 rfl (lv_at hl 1 rfl) ?_
      refine lv_iconst (v := 1) C.1 C.2.1 dX12_on_28 (by decide) ?_
      obtain ⟨x25, m26, r27, hf⟩ := bd2_s hf
      refine x_ci hW (x_runV C hW [.int 1] [] (ha0).1 (ha0).2.1 kX12.1 kvX12_meet q_1153 (tX12_meet l C.2.2.2.2.2.2.1 ha0 r27) rfl rfl ⟨by decide, by decide⟩ rfl hl.1 rfl (Nat.le_of_ble_eq_true rfl) dX12_on_29) (fun H locs hW => ?_)
      cases hf
      exact x_iret C hW dX12_on_32
  · have hf := if_t c12 hf
    refine lv_iconst (v := (-1)) C.1 C.2.1 dX12_on_9 (by decide) ?_
    cases hf
    exact x_iret C hW dX12_on_10
set_option maxRecDepth 100000 in
set_option maxHeartbeats 4000000 in
theorem tX12_on (l : Launch) {D : va_G} {ca ad : Nat → Nat} (hi : Inj ad) {N : Nat} {a0 : Nat} {a1 : Int32} {mm : Mm} {res : Int32 × Mm} (ha0 : sX12 a0) (hf : fX12_on N a0 a1 mm = some res) : Met l yX12_on (WS yX12_on cX12_on 4 (some .int)) (rmX12_on) (va_Pc [.ref (ad a0), .int a1] (WB D ca ad mm)) (QI D ca ad res) 0 0 (AA ad) := by
  refine x_start hi (by decide) rfl (Nat.le_of_ble_eq_true rfl) (fun p e s m args below meth c ls C hW hl => ?_)
  exact wX12_on_0 C ha0 hW (lv_sub hl [0, 1] rfl) hf
set_option maxRecDepth 100000 in
set_option maxHeartbeats 4000000 in
theorem wX12_asked_0 (C : Cx p s m meth c args cX12_asked 1 (some .int) RX12 D ca ad) {res : Int32 × Mm} {N : Nat}  {a0 : Nat} {mm : Mm} {H : Heap} {locs : List Loc} {ls : Array Slot} (ha0 : sX12 a0) (hW : Wd D ca ad s.heap mm H locs) (hl : lv_has ls 1 [(0, .ref (ad a0))]) (hf : fX12_asked N a0 mm = some res) : W p l e (rmX12_asked) s m args below meth c H locs 0 0 (MQ below (QI D ca ad res) args s 0 0 (AA ad)) (F0 m 0 ls []) := by
  unfold fX12_asked at hf
  refine lv_aload_n C.1 C.2.1 dX12_asked_0 rfl (lv_at hl 0 rfl) ?_
  refine x_geti C hW (ha0).1 (ha0).2.1 (j := 2) rfl kX12 (by decide) rfl q_1018 dX12_asked_1 ?_
  cases hf
  exact x_iret C hW dX12_asked_4
set_option maxRecDepth 100000 in
set_option maxHeartbeats 4000000 in
theorem tX12_asked (l : Launch) {D : va_G} {ca ad : Nat → Nat} (hi : Inj ad) {N : Nat} {a0 : Nat} {mm : Mm} {res : Int32 × Mm} (ha0 : sX12 a0) (hf : fX12_asked N a0 mm = some res) : Met l yX12_asked (WS yX12_asked cX12_asked 1 (some .int)) (rmX12_asked) (va_Pc [.ref (ad a0)] (WB D ca ad mm)) (QI D ca ad res) 0 0 (AA ad) := by
  refine x_start hi (by decide) rfl (Nat.le_of_ble_eq_true rfl) (fun p e s m args below meth c ls C hW hl => ?_)
  exact wX12_asked_0 C ha0 hW (lv_sub hl [0] rfl) hf
set_option maxRecDepth 100000 in
set_option maxHeartbeats 4000000 in
theorem wX12_upper_0 (C : Cx p s m meth c args cX12_upper 1 (some .long) RX12 D ca ad) {res : Int64 × Mm} {N : Nat}  {a0 : Nat} {mm : Mm} {H : Heap} {locs : List Loc} {ls : Array Slot} (ha0 : sX12 a0) (hW : Wd D ca ad s.heap mm H locs) (hl : lv_has ls 1 [(0, .ref (ad a0))]) (hf : fX12_upper N a0 mm = some res) : W p l e (rmX12_upper) s m args below meth c H locs 0 0 (MQ below (QL D ca ad res) args s 0 0 (AA ad)) (F0 m 0 ls []) := by
  unfold fX12_upper at hf
  refine lv_aload_n C.1 C.2.1 dX12_upper_0 rfl (lv_at hl 0 rfl) ?_
  refine x_getl C hW (ha0).1 (ha0).2.1 (j := 3) rfl kX12 (by decide) rfl q_1019 dX12_upper_1 ?_
  cases hf
  exact x_lret C hW dX12_upper_4
set_option maxRecDepth 100000 in
set_option maxHeartbeats 4000000 in
theorem tX12_upper (l : Launch) {D : va_G} {ca ad : Nat → Nat} (hi : Inj ad) {N : Nat} {a0 : Nat} {mm : Mm} {res : Int64 × Mm} (ha0 : sX12 a0) (hf : fX12_upper N a0 mm = some res) : Met l yX12_upper (WS yX12_upper cX12_upper 1 (some .long)) (rmX12_upper) (va_Pc [.ref (ad a0)] (WB D ca ad mm)) (QL D ca ad res) 0 0 (AA ad) := by
  refine x_start hi (by decide) rfl (Nat.le_of_ble_eq_true rfl) (fun p e s m args below meth c ls C hW hl => ?_)
  exact wX12_upper_0 C ha0 hW (lv_sub hl [0] rfl) hf
set_option maxRecDepth 100000 in
set_option maxHeartbeats 4000000 in
theorem wX12_lower_0 (C : Cx p s m meth c args cX12_lower 1 (some .long) RX12 D ca ad) {res : Int64 × Mm} {N : Nat}  {a0 : Nat} {mm : Mm} {H : Heap} {locs : List Loc} {ls : Array Slot} (ha0 : sX12 a0) (hW : Wd D ca ad s.heap mm H locs) (hl : lv_has ls 1 [(0, .ref (ad a0))]) (hf : fX12_lower N a0 mm = some res) : W p l e (rmX12_lower) s m args below meth c H locs 0 0 (MQ below (QL D ca ad res) args s 0 0 (AA ad)) (F0 m 0 ls []) := by
  unfold fX12_lower at hf
  refine lv_aload_n C.1 C.2.1 dX12_lower_0 rfl (lv_at hl 0 rfl) ?_
  refine x_getl C hW (ha0).1 (ha0).2.1 (j := 4) rfl kX12 (by decide) rfl q_1020 dX12_lower_1 ?_
  cases hf
  exact x_lret C hW dX12_lower_4
set_option maxRecDepth 100000 in
set_option maxHeartbeats 4000000 in
theorem tX12_lower (l : Launch) {D : va_G} {ca ad : Nat → Nat} (hi : Inj ad) {N : Nat} {a0 : Nat} {mm : Mm} {res : Int64 × Mm} (ha0 : sX12 a0) (hf : fX12_lower N a0 mm = some res) : Met l yX12_lower (WS yX12_lower cX12_lower 1 (some .long)) (rmX12_lower) (va_Pc [.ref (ad a0)] (WB D ca ad mm)) (QL D ca ad res) 0 0 (AA ad) := by
  refine x_start hi (by decide) rfl (Nat.le_of_ble_eq_true rfl) (fun p e s m args below meth c ls C hW hl => ?_)
  exact wX12_lower_0 C ha0 hW (lv_sub hl [0] rfl) hf
set_option maxRecDepth 100000 in
set_option maxHeartbeats 4000000 in
theorem wX12_counts_107 (C : Cx p s m meth c args cX12_counts 5 (some .int) RX12 D ca ad) {res : Int32 × Mm} {N : Nat} {k7 : Nat → Int32 → Int32 → Int32 → Int32 → Mm → Option (Int32 × Mm)} (hk7 : ∀ (a0 : Nat) (a1 : Int32) (a2 : Int32) (a3 : Int32) (a4 : Int32) (mm : Mm) (H : Heap) (locs : List Loc) (ls : Array Slot), (sX12 a0) → Wd D ca ad s.heap mm H locs → lv_has ls 5 [(0, .ref (ad a0)), (1, .int a1), (2, .int a2), (3, .int a3), (4, .int a4)] → k7 a0 a1 a2 a3 a4 mm = some res → W p l e (rmX12_counts) s m args below meth c H locs 0 0 (MQ below (QI D ca ad res) args s 0 0 (AA ad)) (F0 m 7 ls [])) {a0 : Nat} {a1 : Int32} {a2 : Int32} {a4 : Int32} {s0 : Int32} {s1 : Int32} {mm : Mm} {H : Heap} {locs : List Loc} {ls : Array Slot} (ha0 : sX12 a0) (hW : Wd D ca ad s.heap mm H locs) (hl : lv_has ls 5 [(0, .ref (ad a0)), (1, .int a1), (2, .int a2), (4, .int a4)]) (hf : fX12_counts_107 N k7 a0 a1 a2 a4 s0 s1 mm = some res) : W p l e (rmX12_counts) s m args below meth c H locs 0 0 (MQ below (QI D ca ad res) args s 0 0 (AA ad)) (F0 m 107 ls [.int s1, .int s0]) := by
  unfold fX12_counts_107 at hf
  refine lv_iadd C.1 C.2.1 dX12_counts_107 ?_
  refine lv_istore_n (lv' := [(3, .int (s0 + s1)), (0, .ref (ad a0)), (1, .int a1), (2, .int a2), (4, .int a4)]) C.1 C.2.1 dX12_counts_108 rfl hl (by decide) rfl (fun ls hl => ?_)
  refine lv_iinc (v := (a4 + 1)) (lv' := [(4, .int (a4 + 1)), (3, .int (s0 + s1)), (0, .ref (ad a0)), (1, .int a1), (2, .int a2)]) C.1 C.2.1 dX12_counts_109 hl (k := 4) rfl rfl (by decide) rfl (fun ls hl => ?_)
  refine lv_goto (tgt := 7) C.1 C.2.1 dX12_counts_112 (by decide) ?_
  exact hk7 _ _ _ _ _ _ _ _ _ ha0 hW (lv_sub hl [2, 3, 4, 1, 0] rfl) hf
set_option maxRecDepth 100000 in
set_option maxHeartbeats 4000000 in
theorem wX12_counts_84 (C : Cx p s m meth c args cX12_counts 5 (some .int) RX12 D ca ad) {res : Int32 × Mm} {N : Nat} {k7 : Nat → Int32 → Int32 → Int32 → Int32 → Mm → Option (Int32 × Mm)} (hk7 : ∀ (a0 : Nat) (a1 : Int32) (a2 : Int32) (a3 : Int32) (a4 : Int32) (mm : Mm) (H : Heap) (locs : List Loc) (ls : Array Slot), (sX12 a0) → Wd D ca ad s.heap mm H locs → lv_has ls 5 [(0, .ref (ad a0)), (1, .int a1), (2, .int a2), (3, .int a3), (4, .int a4)] → k7 a0 a1 a2 a3 a4 mm = some res → W p l e (rmX12_counts) s m args below meth c H locs 0 0 (MQ below (QI D ca ad res) args s 0 0 (AA ad)) (F0 m 7 ls [])) {a0 : Nat} {a1 : Int32} {a3 : Int32} {a4 : Int32} {s0 : Int32} {s1 : Int32} {mm : Mm} {H : Heap} {locs : List Loc} {ls : Array Slot} (ha0 : sX12 a0) (hW : Wd D ca ad s.heap mm H locs) (hl : lv_has ls 5 [(0, .ref (ad a0)), (1, .int a1), (3, .int a3), (4, .int a4)]) (hf : fX12_counts_84 N k7 a0 a1 a3 a4 s0 s1 mm = some res) : W p l e (rmX12_counts) s m args below meth c H locs 0 0 (MQ below (QI D ca ad res) args s 0 0 (AA ad)) (F0 m 84 ls [.int s1, .int s0]) := by
  unfold fX12_counts_84 at hf
  refine lv_iadd C.1 C.2.1 dX12_counts_84 ?_
  refine lv_istore_n (lv' := [(2, .int (s0 + s1)), (0, .ref (ad a0)), (1, .int a1), (3, .int a3), (4, .int a4)]) C.1 C.2.1 dX12_counts_85 rfl hl (by decide) rfl (fun ls hl => ?_)
  refine lv_iload_n C.1 C.2.1 dX12_counts_86 rfl (lv_at hl 3 rfl) ?_
  refine lv_iload C.1 C.2.1 dX12_counts_87 (lv_at hl 4 rfl) ?_
  refine lv_aload_n C.1 C.2.1 dX12_counts_89 rfl (lv_at hl 1 rfl) ?_
  refine x_geti C hW (ha0).1 (ha0).2.1 (j := 10) rfl kX12 (by decide) rfl q_1026 dX12_counts_90 ?_
  refine lv_icmp_ge (tgt := 106) C.1 C.2.1 dX12_counts_93 (by decide) (fun c1 => ?_) (fun c1 => ?_)
  · have hf := if_t c1 hf
    refine lv_iconst (v := 0) C.1 C.2.1 dX12_counts_106 (by decide) ?_
    exact wX12_counts_107 C hk7 ha0 hW (lv_sub hl [1, 2, 0, 4] rfl) hf
  · have hf := if_f c1 hf
    refine lv_aload_n C.1 C.2.1 dX12_counts_96 rfl (lv_at hl 1 rfl) ?_
    refine lv_iload C.1 C.2.1 dX12_counts_97 (lv_at hl 4 rfl) ?_
    refine lv_iconst (v := 1) C.1 C.2.1 dX12_counts_99 (by decide) ?_
    obtain ⟨x2, m3, r4, hf⟩ := bd2_s hf
    refine x_ci hW (x_runV C hW [.int a4, .int 1] [.int a3] (ha0).1 (ha0).2.1 kX12.1 kvX12_of q_1252 (tX12_of l C.2.2.2.2.2.2.1 ha0 r4) rfl rfl ⟨by decide, by decide⟩ rfl hl.1 rfl (Nat.le_of_ble_eq_true rfl) dX12_counts_100) (fun H locs hW => ?_)
    refine lv_goto (tgt := 107) C.1 C.2.1 dX12_counts_103 (by decide) ?_
    exact wX12_counts_107 C hk7 ha0 hW (lv_sub hl [1, 2, 0, 4] rfl) hf
set_option maxRecDepth 100000 in
set_option maxHeartbeats 4000000 in
theorem wX12_counts_83 (C : Cx p s m meth c args cX12_counts 5 (some .int) RX12 D ca ad) {res : Int32 × Mm} {N : Nat} {k7 : Nat → Int32 → Int32 → Int32 → Int32 → Mm → Option (Int32 × Mm)} (hk7 : ∀ (a0 : Nat) (a1 : Int32) (a2 : Int32) (a3 : Int32) (a4 : Int32) (mm : Mm) (H : Heap) (locs : List Loc) (ls : Array Slot), (sX12 a0) → Wd D ca ad s.heap mm H locs → lv_has ls 5 [(0, .ref (ad a0)), (1, .int a1), (2, .int a2), (3, .int a3), (4, .int a4)] → k7 a0 a1 a2 a3 a4 mm = some res → W p l e (rmX12_counts) s m args below meth c H locs 0 0 (MQ below (QI D ca ad res) args s 0 0 (AA ad)) (F0 m 7 ls [])) {a0 : Nat} {a1 : Int32} {a3 : Int32} {a4 : Int32} {s0 : Int32} {mm : Mm} {H : Heap} {locs : List Loc} {ls : Array Slot} (ha0 : sX12 a0) (hW : Wd D ca ad s.heap mm H locs) (hl : lv_has ls 5 [(0, .ref (ad a0)), (1, .int a1), (3, .int a3), (4, .int a4)]) (hf : fX12_counts_83 N k7 a0 a1 a3 a4 s0 mm = some res) : W p l e (rmX12_counts) s m args below meth c H locs 0 0 (MQ below (QI D ca ad res) args s 0 0 (AA ad)) (F0 m 83 ls [.int s0]) := by
  unfold fX12_counts_83 at hf
  refine lv_iconst (v := 0) C.1 C.2.1 dX12_counts_83 (by decide) ?_
  exact wX12_counts_84 C hk7 ha0 hW (lv_sub hl [0, 1, 2, 3] rfl) hf
set_option maxRecDepth 100000 in
set_option maxHeartbeats 4000000 in
theorem wX12_counts_79 (C : Cx p s m meth c args cX12_counts 5 (some .int) RX12 D ca ad) {res : Int32 × Mm} {N : Nat} {k7 : Nat → Int32 → Int32 → Int32 → Int32 → Mm → Option (Int32 × Mm)} (hk7 : ∀ (a0 : Nat) (a1 : Int32) (a2 : Int32) (a3 : Int32) (a4 : Int32) (mm : Mm) (H : Heap) (locs : List Loc) (ls : Array Slot), (sX12 a0) → Wd D ca ad s.heap mm H locs → lv_has ls 5 [(0, .ref (ad a0)), (1, .int a1), (2, .int a2), (3, .int a3), (4, .int a4)] → k7 a0 a1 a2 a3 a4 mm = some res → W p l e (rmX12_counts) s m args below meth c H locs 0 0 (MQ below (QI D ca ad res) args s 0 0 (AA ad)) (F0 m 7 ls [])) {a0 : Nat} {a1 : Int32} {a3 : Int32} {a4 : Int32} {s0 : Int32} {mm : Mm} {H : Heap} {locs : List Loc} {ls : Array Slot} (ha0 : sX12 a0) (hW : Wd D ca ad s.heap mm H locs) (hl : lv_has ls 5 [(0, .ref (ad a0)), (1, .int a1), (3, .int a3), (4, .int a4)]) (hf : fX12_counts_79 N k7 a0 a1 a3 a4 s0 mm = some res) : W p l e (rmX12_counts) s m args below meth c H locs 0 0 (MQ below (QI D ca ad res) args s 0 0 (AA ad)) (F0 m 79 ls [.int s0]) := by
  unfold fX12_counts_79 at hf
  refine lv_iconst (v := 1) C.1 C.2.1 dX12_counts_79 (by decide) ?_
  refine lv_goto (tgt := 84) C.1 C.2.1 dX12_counts_80 (by decide) ?_
  exact wX12_counts_84 C hk7 ha0 hW (lv_sub hl [0, 1, 2, 3] rfl) hf
set_option maxRecDepth 100000 in
set_option maxHeartbeats 4000000 in
theorem wX12_counts_57 (C : Cx p s m meth c args cX12_counts 5 (some .int) RX12 D ca ad) {res : Int32 × Mm} {N : Nat} {k7 : Nat → Int32 → Int32 → Int32 → Int32 → Mm → Option (Int32 × Mm)} (hk7 : ∀ (a0 : Nat) (a1 : Int32) (a2 : Int32) (a3 : Int32) (a4 : Int32) (mm : Mm) (H : Heap) (locs : List Loc) (ls : Array Slot), (sX12 a0) → Wd D ca ad s.heap mm H locs → lv_has ls 5 [(0, .ref (ad a0)), (1, .int a1), (2, .int a2), (3, .int a3), (4, .int a4)] → k7 a0 a1 a2 a3 a4 mm = some res → W p l e (rmX12_counts) s m args below meth c H locs 0 0 (MQ below (QI D ca ad res) args s 0 0 (AA ad)) (F0 m 7 ls [])) {a0 : Nat} {a1 : Int32} {a3 : Int32} {a4 : Int32} {s0 : Int32} {mm : Mm} {H : Heap} {locs : List Loc} {ls : Array Slot} (ha0 : sX12 a0) (hW : Wd D ca ad s.heap mm H locs) (hl : lv_has ls 5 [(0, .ref (ad a0)), (1, .int a1), (3, .int a3), (4, .int a4)]) (hf : fX12_counts_57 N k7 a0 a1 a3 a4 s0 mm = some res) : W p l e (rmX12_counts) s m args below meth c H locs 0 0 (MQ below (QI D ca ad res) args s 0 0 (AA ad)) (F0 m 57 ls [.int s0]) := by
  unfold fX12_counts_57 at hf
  refine lv_iload_n C.1 C.2.1 dX12_counts_57 rfl (lv_at hl 1 rfl) ?_
  refine lv_bipush (v := 7) C.1 C.2.1 dX12_counts_58 (by decide) ?_
  refine lv_icmp_ne (tgt := 83) C.1 C.2.1 dX12_counts_60 (by decide) (fun c5 => ?_) (fun c5 => ?_)
  · have hf := if_f c5 hf
    exact wX12_counts_83 C hk7 ha0 hW (lv_sub hl [0, 1, 2, 3] rfl) hf
  · have hf := if_t c5 hf
    refine lv_iload C.1 C.2.1 dX12_counts_63 (lv_at hl 3 rfl) ?_
    refine lv_iconst (v := 4) C.1 C.2.1 dX12_counts_65 (by decide) ?_
    refine lv_icmp_ge (tgt := 83) C.1 C.2.1 dX12_counts_66 (by decide) (fun c6 => ?_) (fun c6 => ?_)
    · have hf := if_t c6 hf
      exact wX12_counts_83 C hk7 ha0 hW (lv_sub hl [0, 1, 2, 3] rfl) hf
    · have hf := if_f c6 hf
      refine lv_aload_n C.1 C.2.1 dX12_counts_69 rfl (lv_at hl 0 rfl) ?_
      refine x_getr C hW (ha0).1 (ha0).2.1 (j := 8) rfl kX12 (by decide) rfl q_1024 dX12_counts_70 ?_
      refine lv_iload C.1 C.2.1 dX12_counts_73 (lv_at hl 3 rfl) ?_
      obtain ⟨g7, hf⟩ := gd_s hf
      refine x_iald C hW ha0.2.2.2.2.2.2.1 g7 dX12_counts_75 ?_
      refine lv_if_lt (tgt := 83) C.1 C.2.1 dX12_counts_76 (by decide) (fun c8 => ?_) (fun c8 => ?_)
      · have hf := if_t c8 hf
        exact wX12_counts_83 C hk7 ha0 hW (lv_sub hl [0, 1, 2, 3] rfl) hf
      · have hf := if_f c8 hf
        exact wX12_counts_79 C hk7 ha0 hW (lv_sub hl [0, 1, 2, 3] rfl) hf
set_option maxRecDepth 100000 in
set_option maxHeartbeats 4000000 in
theorem wX12_counts_31 (C : Cx p s m meth c args cX12_counts 5 (some .int) RX12 D ca ad) {res : Int32 × Mm} {N : Nat} {k7 : Nat → Int32 → Int32 → Int32 → Int32 → Mm → Option (Int32 × Mm)} (hk7 : ∀ (a0 : Nat) (a1 : Int32) (a2 : Int32) (a3 : Int32) (a4 : Int32) (mm : Mm) (H : Heap) (locs : List Loc) (ls : Array Slot), (sX12 a0) → Wd D ca ad s.heap mm H locs → lv_has ls 5 [(0, .ref (ad a0)), (1, .int a1), (2, .int a2), (3, .int a3), (4, .int a4)] → k7 a0 a1 a2 a3 a4 mm = some res → W p l e (rmX12_counts) s m args below meth c H locs 0 0 (MQ below (QI D ca ad res) args s 0 0 (AA ad)) (F0 m 7 ls [])) {a0 : Nat} {a1 : Int32} {a3 : Int32} {a4 : Int32} {s0 : Int32} {mm : Mm} {H : Heap} {locs : List Loc} {ls : Array Slot} (ha0 : sX12 a0) (hW : Wd D ca ad s.heap mm H locs) (hl : lv_has ls 5 [(0, .ref (ad a0)), (1, .int a1), (3, .int a3), (4, .int a4)]) (hf : fX12_counts_31 N k7 a0 a1 a3 a4 s0 mm = some res) : W p l e (rmX12_counts) s m args below meth c H locs 0 0 (MQ below (QI D ca ad res) args s 0 0 (AA ad)) (F0 m 31 ls [.int s0]) := by
  unfold fX12_counts_31 at hf
  refine lv_iload_n C.1 C.2.1 dX12_counts_31 rfl (lv_at hl 1 rfl) ?_
  refine lv_iconst (v := 5) C.1 C.2.1 dX12_counts_32 (by decide) ?_
  refine lv_icmp_ne (tgt := 57) C.1 C.2.1 dX12_counts_33 (by decide) (fun c9 => ?_) (fun c9 => ?_)
  · have hf := if_f c9 hf
    exact wX12_counts_57 C hk7 ha0 hW (lv_sub hl [0, 1, 2, 3] rfl) hf
  · have hf := if_t c9 hf
    refine lv_iload C.1 C.2.1 dX12_counts_36 (lv_at hl 3 rfl) ?_
    refine lv_iconst (v := 3) C.1 C.2.1 dX12_counts_38 (by decide) ?_
    refine lv_icmp_ge (tgt := 57) C.1 C.2.1 dX12_counts_39 (by decide) (fun c10 => ?_) (fun c10 => ?_)
    · have hf := if_t c10 hf
      exact wX12_counts_57 C hk7 ha0 hW (lv_sub hl [0, 1, 2, 3] rfl) hf
    · have hf := if_f c10 hf
      refine lv_aload_n C.1 C.2.1 dX12_counts_42 rfl (lv_at hl 0 rfl) ?_
      refine x_getr C hW (ha0).1 (ha0).2.1 (j := 40) rfl kX12 (by decide) rfl q_1056 dX12_counts_43 ?_
      refine lv_bipush (v := 72) C.1 C.2.1 dX12_counts_46 (by decide) ?_
      refine lv_iload C.1 C.2.1 dX12_counts_48 (lv_at hl 3 rfl) ?_
      refine lv_imul C.1 C.2.1 dX12_counts_50 ?_
      obtain ⟨g11, hf⟩ := gd_s hf
      refine x_iald C hW ha0.2.2.2.2.2.2.2.2.2.2.2.2.2.2.2.2.2.2.2.2.2.2 g11 dX12_counts_51 ?_
      refine lv_bipush (v := (-9)) C.1 C.2.1 dX12_counts_52 (by decide) ?_
      refine lv_icmp_ne (tgt := 79) C.1 C.2.1 dX12_counts_54 (by decide) (fun c12 => ?_) (fun c12 => ?_)
      · have hf := if_f c12 hf
        exact wX12_counts_79 C hk7 ha0 hW (lv_sub hl [0, 1, 2, 3] rfl) hf
      · have hf := if_t c12 hf
        exact wX12_counts_57 C hk7 ha0 hW (lv_sub hl [0, 1, 2, 3] rfl) hf
set_option maxRecDepth 100000 in
set_option maxHeartbeats 4000000 in
theorem wX12_counts_7 (C : Cx p s m meth c args cX12_counts 5 (some .int) RX12 D ca ad) {res : Int32 × Mm} {N : Nat}  : ∀ (n : Nat) {a0 : Nat} {a1 : Int32} {a2 : Int32} {a3 : Int32} {a4 : Int32} {mm : Mm} {H : Heap} {locs : List Loc} {ls : Array Slot}, (sX12 a0) → Wd D ca ad s.heap mm H locs → lv_has ls 5 [(0, .ref (ad a0)), (1, .int a1), (2, .int a2), (3, .int a3), (4, .int a4)] → fX12_counts_7 N n a0 a1 a2 a3 a4 mm = some res → W p l e (rmX12_counts) s m args below meth c H locs 0 0 (MQ below (QI D ca ad res) args s 0 0 (AA ad)) (F0 m 7 ls []) := by
  intro n
  induction n with
  | zero => intro a0 a1 a2 a3 a4 mm H locs ls ha0 hW hl hf; cases hf
  | succ n ih =>
    intro a0 a1 a2 a3 a4 mm H locs ls ha0 hW hl hf
    have hk7 : ∀ (a0 : Nat) (a1 : Int32) (a2 : Int32) (a3 : Int32) (a4 : Int32) (mm : Mm) (H : Heap) (locs : List Loc) (ls : Array Slot), (sX12 a0) → Wd D ca ad s.heap mm H locs → lv_has ls 5 [(0, .ref (ad a0)), (1, .int a1), (2, .int a2), (3, .int a3), (4, .int a4)] → (fX12_counts_7 N n) a0 a1 a2 a3 a4 mm = some res → W p l e (rmX12_counts) s m args below meth c H locs 0 0 (MQ below (QI D ca ad res) args s 0 0 (AA ad)) (F0 m 7 ls []) := fun a0 a1 a2 a3 a4 mm H locs ls ha0 hW hl hf => ih ha0 hW hl hf
    unfold fX12_counts_7 at hf
    try dsimp only at hf
    refine lv_iload C.1 C.2.1 dX12_counts_7 (lv_at hl 4 rfl) ?_
    refine lv_bipush (v := 6) C.1 C.2.1 dX12_counts_9 (by decide) ?_
    refine lv_icmp_ge (tgt := 115) C.1 C.2.1 dX12_counts_11 (by decide) (fun c13 => ?_) (fun c13 => ?_)
    · have hf := if_t c13 hf
      refine lv_iload_n C.1 C.2.1 dX12_counts_115 rfl (lv_at hl 1 rfl) ?_
      by_cases c14 : a1 = 0
      · have hf := if_t c14 hf
        refine x_tin C (tgt := 152) dX12_counts_116 c14 (by decide) (by decide) (off := 36) rfl (by decide) ?_
        refine lv_aload_n C.1 C.2.1 dX12_counts_152 rfl (lv_at hl 0 rfl) ?_
        refine x_geti C hW (ha0).1 (ha0).2.1 (j := 10) rfl kX12 (by decide) rfl q_1026 dX12_counts_153 ?_
        cases hf
        exact x_iret C hW dX12_counts_156
      have hf := if_f c14 hf
      by_cases c15 : a1 = 1
      · have hf := if_t c15 hf
        refine x_tin C (tgt := 157) dX12_counts_116 c15 (by decide) (by decide) (off := 41) rfl (by decide) ?_
        refine lv_iload_n C.1 C.2.1 dX12_counts_157 rfl (lv_at hl 3 rfl) ?_
        cases hf
        exact x_iret C hW dX12_counts_158
      have hf := if_f c15 hf
      by_cases c16 : a1 = 2
      · have hf := if_t c16 hf
        refine x_tin C (tgt := 159) dX12_counts_116 c16 (by decide) (by decide) (off := 43) rfl (by decide) ?_
        refine lv_aload_n C.1 C.2.1 dX12_counts_159 rfl (lv_at hl 0 rfl) ?_
        refine lv_iconst (v := 1) C.1 C.2.1 dX12_counts_160 (by decide) ?_
        obtain ⟨x17, m18, r19, hf⟩ := bd2_s hf
        refine x_ci hW (x_runV C hW [.int 1] [] (ha0).1 (ha0).2.1 kX12.1 kvX12_ofKind q_1264 (tX12_ofKind l C.2.2.2.2.2.2.1 ha0 r19) rfl rfl ⟨by decide, by decide⟩ rfl hl.1 rfl (Nat.le_of_ble_eq_true rfl) dX12_counts_161) (fun H locs hW => ?_)
        cases hf
        exact x_iret C hW dX12_counts_164
      have hf := if_f c16 hf
      by_cases c20 : a1 = 3
      · have hf := if_t c20 hf
        refine x_tin C (tgt := 165) dX12_counts_116 c20 (by decide) (by decide) (off := 49) rfl (by decide) ?_
        refine lv_aload_n C.1 C.2.1 dX12_counts_165 rfl (lv_at hl 0 rfl) ?_
        refine lv_iconst (v := 3) C.1 C.2.1 dX12_counts_166 (by decide) ?_
        obtain ⟨x21, m22, r23, hf⟩ := bd2_s hf
        refine x_ci hW (x_runV C hW [.int 3] [] (ha0).1 (ha0).2.1 kX12.1 kvX12_ofKind q_1264 (tX12_ofKind l C.2.2.2.2.2.2.1 ha0 r23) rfl rfl ⟨by decide, by decide⟩ rfl hl.1 rfl (Nat.le_of_ble_eq_true rfl) dX12_counts_167) (fun H locs hW => ?_)
        cases hf
        exact x_iret C hW dX12_counts_170
      have hf := if_f c20 hf
      by_cases c24 : a1 = 4
      · have hf := if_t c24 hf
        refine x_tin C (tgt := 171) dX12_counts_116 c24 (by decide) (by decide) (off := 55) rfl (by decide) ?_
        refine lv_aload_n C.1 C.2.1 dX12_counts_171 rfl (lv_at hl 0 rfl) ?_
        refine x_geti C hW (ha0).1 (ha0).2.1 (j := 37) rfl kX12 (by decide) rfl q_1053 dX12_counts_172 ?_
        cases hf
        exact x_iret C hW dX12_counts_175
      have hf := if_f c24 hf
      refine x_tdef C (tgt := 176) dX12_counts_116 (by
          have := lv_neT c14 (a := 0) (by decide)
          have := lv_neT c15 (a := 1) (by decide)
          have := lv_neT c16 (a := 2) (by decide)
          have := lv_neT c20 (a := 3) (by decide)
          have := lv_neT c24 (a := 4) (by decide)
          rcases (by omega : a1.toInt < 0 ∨ 4 < a1.toInt) with h | h
          · exact Or.inl h
          · exact Or.inr (Or.inl h)) (by decide) ?_
      refine lv_iload_n C.1 C.2.1 dX12_counts_176 rfl (lv_at hl 2 rfl) ?_
      cases hf
      exact x_iret C hW dX12_counts_177
    · have hf := if_f c13 hf
      refine lv_iload_n C.1 C.2.1 dX12_counts_14 rfl (lv_at hl 2 rfl) ?_
      refine lv_iload_n C.1 C.2.1 dX12_counts_15 rfl (lv_at hl 1 rfl) ?_
      refine lv_bipush (v := 6) C.1 C.2.1 dX12_counts_16 (by decide) ?_
      refine lv_icmp_ne (tgt := 31) C.1 C.2.1 dX12_counts_18 (by decide) (fun c25 => ?_) (fun c25 => ?_)
      · have hf := if_f c25 hf
        exact wX12_counts_31 C hk7 ha0 hW (lv_sub hl [0, 1, 3, 4] rfl) hf
      · have hf := if_t c25 hf
        refine lv_aload_n C.1 C.2.1 dX12_counts_21 rfl (lv_at hl 0 rfl) ?_
        refine x_getr C hW (ha0).1 (ha0).2.1 (j := 5) rfl kX12 (by decide) rfl q_1021 dX12_counts_22 ?_
        refine lv_iload C.1 C.2.1 dX12_counts_25 (lv_at hl 4 rfl) ?_
        obtain ⟨g26, hf⟩ := gd_s hf
        refine x_iald C hW ha0.2.2.2.1 g26 dX12_counts_27 ?_
        refine lv_if_ge (tgt := 79) C.1 C.2.1 dX12_counts_28 (by decide) (fun c27 => ?_) (fun c27 => ?_)
        · have hf := if_t c27 hf
          exact wX12_counts_79 C hk7 ha0 hW (lv_sub hl [0, 1, 3, 4] rfl) hf
        · have hf := if_f c27 hf
          exact wX12_counts_31 C hk7 ha0 hW (lv_sub hl [0, 1, 3, 4] rfl) hf
set_option maxRecDepth 100000 in
set_option maxHeartbeats 4000000 in
theorem wX12_counts_0 (C : Cx p s m meth c args cX12_counts 5 (some .int) RX12 D ca ad) {res : Int32 × Mm} {N : Nat}  {a0 : Nat} {a1 : Int32} {mm : Mm} {H : Heap} {locs : List Loc} {ls : Array Slot} (ha0 : sX12 a0) (hW : Wd D ca ad s.heap mm H locs) (hl : lv_has ls 5 [(0, .ref (ad a0)), (1, .int a1)]) (hf : fX12_counts N a0 a1 mm = some res) : W p l e (rmX12_counts) s m args below meth c H locs 0 0 (MQ below (QI D ca ad res) args s 0 0 (AA ad)) (F0 m 0 ls []) := by
  unfold fX12_counts at hf
  refine lv_iconst (v := 0) C.1 C.2.1 dX12_counts_0 (by decide) ?_
  refine lv_istore_n (lv' := [(2, .int 0), (0, .ref (ad a0)), (1, .int a1)]) C.1 C.2.1 dX12_counts_1 rfl hl (by decide) rfl (fun ls hl => ?_)
  refine lv_iconst (v := 0) C.1 C.2.1 dX12_counts_2 (by decide) ?_
  refine lv_istore_n (lv' := [(3, .int 0), (2, .int 0), (0, .ref (ad a0)), (1, .int a1)]) C.1 C.2.1 dX12_counts_3 rfl hl (by decide) rfl (fun ls hl => ?_)
  refine lv_iconst (v := 0) C.1 C.2.1 dX12_counts_4 (by decide) ?_
  refine lv_istore (lv' := [(4, .int 0), (3, .int 0), (2, .int 0), (0, .ref (ad a0)), (1, .int a1)]) C.1 C.2.1 dX12_counts_5 hl (by decide) rfl (fun ls hl => ?_)
  exact wX12_counts_7 C  N ha0 hW (lv_sub hl [3, 4, 2, 1, 0] rfl) hf
set_option maxRecDepth 100000 in
set_option maxHeartbeats 4000000 in
theorem tX12_counts (l : Launch) {D : va_G} {ca ad : Nat → Nat} (hi : Inj ad) {N : Nat} {a0 : Nat} {a1 : Int32} {mm : Mm} {res : Int32 × Mm} (ha0 : sX12 a0) (hf : fX12_counts N a0 a1 mm = some res) : Met l yX12_counts (WS yX12_counts cX12_counts 5 (some .int)) (rmX12_counts) (va_Pc [.ref (ad a0), .int a1] (WB D ca ad mm)) (QI D ca ad res) 0 0 (AA ad) := by
  refine x_start hi (by decide) rfl (Nat.le_of_ble_eq_true rfl) (fun p e s m args below meth c ls C hW hl => ?_)
  exact wX12_counts_0 C ha0 hW (lv_sub hl [0, 1] rfl) hf
set_option maxRecDepth 100000 in
set_option maxHeartbeats 4000000 in
theorem wX12_count_0 (C : Cx p s m meth c args cX12_count 2 (some .int) RX12 D ca ad) {res : Int32 × Mm} {N : Nat}  {a0 : Nat} {a1 : Int32} {mm : Mm} {H : Heap} {locs : List Loc} {ls : Array Slot} (ha0 : sX12 a0) (hW : Wd D ca ad s.heap mm H locs) (hl : lv_has ls 2 [(0, .ref (ad a0)), (1, .int a1)]) (hf : fX12_count N a0 a1 mm = some res) : W p l e (rmX12_count) s m args below meth c H locs 0 0 (MQ below (QI D ca ad res) args s 0 0 (AA ad)) (F0 m 0 ls []) := by
  unfold fX12_count at hf
  refine lv_iload_n C.1 C.2.1 dX12_count_0 rfl (lv_at hl 1 rfl) ?_
  refine lv_iconst (v := 0) C.1 C.2.1 dX12_count_1 (by decide) ?_
  refine lv_bipush (v := 7) C.1 C.2.1 dX12_count_2 (by decide) ?_
  obtain ⟨x1, m2, r3, hf⟩ := bd2_s hf
  refine x_ci hW (x_runS C hW [.int a1, .int 0, .int 7] [] kvX12_in q_1150 (tX12_in l C.2.2.2.2.2.2.1  r3) rfl rfl ⟨by decide, by decide⟩ rfl hl.1 rfl (Nat.le_of_ble_eq_true rfl) dX12_count_4) (fun H locs hW => ?_)
  refine lv_if_eq (tgt := 18) C.1 C.2.1 dX12_count_7 (by decide) (fun c4 => ?_) (fun c4 => ?_)
  · have hf := if_t c4 hf
    refine lv_iconst (v := (-1)) C.1 C.2.1 dX12_count_18 (by decide) ?_
    cases hf
    exact x_iret C hW dX12_count_19
  · have hf := if_f c4 hf
    refine lv_aload_n C.1 C.2.1 dX12_count_10 rfl (lv_at hl 0 rfl) ?_
    refine lv_iload_n C.1 C.2.1 dX12_count_11 rfl (lv_at hl 1 rfl) ?_
    obtain ⟨x5, m6, r7, hf⟩ := bd2_s hf
    refine x_ci hW (x_runV C hW [.int a1] [] (ha0).1 (ha0).2.1 kX12.1 kvX12_counts q_1555 (tX12_counts l C.2.2.2.2.2.2.1 ha0 r7) rfl rfl ⟨by decide, by decide⟩ rfl hl.1 rfl (Nat.le_of_ble_eq_true rfl) dX12_count_12) (fun H locs hW => ?_)
    refine lv_goto (tgt := 19) C.1 C.2.1 dX12_count_15 (by decide) ?_
    cases hf
    exact x_iret C hW dX12_count_19
set_option maxRecDepth 100000 in
set_option maxHeartbeats 4000000 in
theorem tX12_count (l : Launch) {D : va_G} {ca ad : Nat → Nat} (hi : Inj ad) {N : Nat} {a0 : Nat} {a1 : Int32} {mm : Mm} {res : Int32 × Mm} (ha0 : sX12 a0) (hf : fX12_count N a0 a1 mm = some res) : Met l yX12_count (WS yX12_count cX12_count 2 (some .int)) (rmX12_count) (va_Pc [.ref (ad a0), .int a1] (WB D ca ad mm)) (QI D ca ad res) 0 0 (AA ad) := by
  refine x_start hi (by decide) rfl (Nat.le_of_ble_eq_true rfl) (fun p e s m args below meth c ls C hW hl => ?_)
  exact wX12_count_0 C ha0 hW (lv_sub hl [0, 1] rfl) hf
set_option maxRecDepth 100000 in
set_option maxHeartbeats 4000000 in
theorem wX12_finding_0 (C : Cx p s m meth c args cX12_finding 1 (some .int) RX12 D ca ad) {res : Int32 × Mm} {N : Nat}  {a0 : Nat} {mm : Mm} {H : Heap} {locs : List Loc} {ls : Array Slot} (ha0 : sX12 a0) (hW : Wd D ca ad s.heap mm H locs) (hl : lv_has ls 1 [(0, .ref (ad a0))]) (hf : fX12_finding N a0 mm = some res) : W p l e (rmX12_finding) s m args below meth c H locs 0 0 (MQ below (QI D ca ad res) args s 0 0 (AA ad)) (F0 m 0 ls []) := by
  unfold fX12_finding at hf
  refine lv_aload_n C.1 C.2.1 dX12_finding_0 rfl (lv_at hl 0 rfl) ?_
  refine x_geti C hW (ha0).1 (ha0).2.1 (j := 0) rfl kX12 (by decide) rfl q_1016 dX12_finding_1 ?_
  cases hf
  exact x_iret C hW dX12_finding_4
set_option maxRecDepth 100000 in
set_option maxHeartbeats 4000000 in
theorem tX12_finding (l : Launch) {D : va_G} {ca ad : Nat → Nat} (hi : Inj ad) {N : Nat} {a0 : Nat} {mm : Mm} {res : Int32 × Mm} (ha0 : sX12 a0) (hf : fX12_finding N a0 mm = some res) : Met l yX12_finding (WS yX12_finding cX12_finding 1 (some .int)) (rmX12_finding) (va_Pc [.ref (ad a0)] (WB D ca ad mm)) (QI D ca ad res) 0 0 (AA ad) := by
  refine x_start hi (by decide) rfl (Nat.le_of_ble_eq_true rfl) (fun p e s m args below meth c ls C hW hl => ?_)
  exact wX12_finding_0 C ha0 hW (lv_sub hl [0] rfl) hf
set_option maxRecDepth 100000 in
set_option maxHeartbeats 4000000 in
theorem wX12_findings_0 (C : Cx p s m meth c args cX12_findings 2 (some .int) RX12 D ca ad) {res : Int32 × Mm} {N : Nat}  {a0 : Nat} {a1 : Int32} {mm : Mm} {H : Heap} {locs : List Loc} {ls : Array Slot} (ha0 : sX12 a0) (hW : Wd D ca ad s.heap mm H locs) (hl : lv_has ls 2 [(0, .ref (ad a0)), (1, .int a1)]) (hf : fX12_findings N a0 a1 mm = some res) : W p l e (rmX12_findings) s m args below meth c H locs 0 0 (MQ below (QI D ca ad res) args s 0 0 (AA ad)) (F0 m 0 ls []) := by
  unfold fX12_findings at hf
  refine lv_iload_n C.1 C.2.1 dX12_findings_0 rfl (lv_at hl 1 rfl) ?_
  refine lv_iconst (v := 1) C.1 C.2.1 dX12_findings_1 (by decide) ?_
  refine lv_iconst (v := 5) C.1 C.2.1 dX12_findings_2 (by decide) ?_
  obtain ⟨x1, m2, r3, hf⟩ := bd2_s hf
  refine x_ci hW (x_runS C hW [.int a1, .int 1, .int 5] [] kvX12_in q_1150 (tX12_in l C.2.2.2.2.2.2.1  r3) rfl rfl ⟨by decide, by decide⟩ rfl hl.1 rfl (Nat.le_of_ble_eq_true rfl) dX12_findings_3) (fun H locs hW => ?_)
  refine lv_if_eq (tgt := 18) C.1 C.2.1 dX12_findings_6 (by decide) (fun c4 => ?_) (fun c4 => ?_)
  · have hf := if_t c4 hf
    refine lv_iconst (v := (-1)) C.1 C.2.1 dX12_findings_18 (by decide) ?_
    cases hf
    exact x_iret C hW dX12_findings_19
  · have hf := if_f c4 hf
    refine lv_aload_n C.1 C.2.1 dX12_findings_9 rfl (lv_at hl 0 rfl) ?_
    refine x_getr C hW (ha0).1 (ha0).2.1 (j := 1) rfl kX12 (by decide) rfl q_1017 dX12_findings_10 ?_
    refine lv_iload_n C.1 C.2.1 dX12_findings_13 rfl (lv_at hl 1 rfl) ?_
    obtain ⟨g5, hf⟩ := gd_s hf
    refine x_iald C hW ha0.2.2.1 g5 dX12_findings_14 ?_
    refine lv_goto (tgt := 19) C.1 C.2.1 dX12_findings_15 (by decide) ?_
    cases hf
    exact x_iret C hW dX12_findings_19
set_option maxRecDepth 100000 in
set_option maxHeartbeats 4000000 in
theorem tX12_findings (l : Launch) {D : va_G} {ca ad : Nat → Nat} (hi : Inj ad) {N : Nat} {a0 : Nat} {a1 : Int32} {mm : Mm} {res : Int32 × Mm} (ha0 : sX12 a0) (hf : fX12_findings N a0 a1 mm = some res) : Met l yX12_findings (WS yX12_findings cX12_findings 2 (some .int)) (rmX12_findings) (va_Pc [.ref (ad a0), .int a1] (WB D ca ad mm)) (QI D ca ad res) 0 0 (AA ad) := by
  refine x_start hi (by decide) rfl (Nat.le_of_ble_eq_true rfl) (fun p e s m args below meth c ls C hW hl => ?_)
  exact wX12_findings_0 C ha0 hW (lv_sub hl [0, 1] rfl) hf
set_option maxRecDepth 100000 in
set_option maxHeartbeats 4000000 in
theorem wX12_adding_0 (C : Cx p s m meth c args cX12_adding 2 none RX12 D ca ad) {res : Unit × Mm} {N : Nat}  {a0 : Nat} {a1 : Int32} {mm : Mm} {H : Heap} {locs : List Loc} {ls : Array Slot} (ha0 : sX12 a0) (hW : Wd D ca ad s.heap mm H locs) (hl : lv_has ls 2 [(0, .ref (ad a0)), (1, .int a1)]) (hf : fX12_adding N a0 a1 mm = some res) : W p l e (rmX12_adding) s m args below meth c H locs 0 0 (MQ below (QV D ca ad res) args s 0 0 (AA ad)) (F0 m 0 ls []) := by
  unfold fX12_adding at hf
  refine lv_aload_n C.1 C.2.1 dX12_adding_0 rfl (lv_at hl 0 rfl) ?_
  refine lv_ldc2 C.1 C.2.1 C.2.2.2.1 (C.2.2.2.2.1 _ q_1576) dX12_adding_1 ?_
  refine lv_aload_n C.1 C.2.1 dX12_adding_4 rfl (lv_at hl 0 rfl) ?_
  refine x_getl C hW (ha0).1 (ha0).2.1 (j := 41) rfl kX12 (by decide) rfl q_1057 dX12_adding_5 ?_
  refine lv_lmul C.1 C.2.1 dX12_adding_8 ?_
  refine lv_iload_n C.1 C.2.1 dX12_adding_9 rfl (lv_at hl 1 rfl) ?_
  refine lv_i2l C.1 C.2.1 dX12_adding_10 rfl ?_
  refine lv_ladd C.1 C.2.1 dX12_adding_11 ?_
  refine x_putL C hW (ha0).1 (ha0).2.1 (j := 41) rfl kX12 (by decide) rfl rfl q_1057 (by decide +kernel) dX12_adding_12 (fun H locs hW => ?_)
  obtain ⟨m1, em1⟩ : ∃ z, z = wrL mm a0 41 ((31 * (rdL mm a0 41)) + a1.toInt64) := ⟨_, rfl⟩
  have hf := nm_s hf em1
  rw [← em1] at hW
  cases hf
  exact x_vret C hW dX12_adding_15
set_option maxRecDepth 100000 in
set_option maxHeartbeats 4000000 in
theorem tX12_adding (l : Launch) {D : va_G} {ca ad : Nat → Nat} (hi : Inj ad) {N : Nat} {a0 : Nat} {a1 : Int32} {mm : Mm} {res : Unit × Mm} (ha0 : sX12 a0) (hf : fX12_adding N a0 a1 mm = some res) : Met l yX12_adding (WS yX12_adding cX12_adding 2 none) (rmX12_adding) (va_Pc [.ref (ad a0), .int a1] (WB D ca ad mm)) (QV D ca ad res) 0 0 (AA ad) := by
  refine x_start hi (by decide) rfl (Nat.le_of_ble_eq_true rfl) (fun p e s m args below meth c ls C hW hl => ?_)
  exact wX12_adding_0 C ha0 hW (lv_sub hl [0, 1] rfl) hf
set_option maxRecDepth 100000 in
set_option maxHeartbeats 4000000 in
theorem wX12_mixCourt_188 (C : Cx p s m meth c args cX12_mixCourt 3 none RX12 D ca ad) {res : Unit × Mm} {N : Nat} {k155 : Nat → Int32 → Mm → Option (Unit × Mm)} (hk155 : ∀ (a0 : Nat) (a1 : Int32) (mm : Mm) (H : Heap) (locs : List Loc) (ls : Array Slot), (sX12 a0) → Wd D ca ad s.heap mm H locs → lv_has ls 3 [(0, .ref (ad a0)), (1, .int a1)] → k155 a0 a1 mm = some res → W p l e (rmX12_mixCourt) s m args below meth c H locs 0 0 (MQ below (QV D ca ad res) args s 0 0 (AA ad)) (F0 m 155 ls [])) {a0 : Nat} {a1 : Int32} {s0 : Nat} {s1 : Int32} {mm : Mm} {H : Heap} {locs : List Loc} {ls : Array Slot} (ha0 : sX12 a0) (hs0 : sX12 s0) (hW : Wd D ca ad s.heap mm H locs) (hl : lv_has ls 3 [(0, .ref (ad a0)), (1, .int a1)]) (hf : fX12_mixCourt_188 N k155 a0 a1 s0 s1 mm = some res) : W p l e (rmX12_mixCourt) s m args below meth c H locs 0 0 (MQ below (QV D ca ad res) args s 0 0 (AA ad)) (F0 m 188 ls [.int s1, .ref (ad s0)]) := by
  unfold fX12_mixCourt_188 at hf
  obtain ⟨x1, m2, r3, hf⟩ := bd2_s hf
  refine x_cv hW (x_runV C hW [.int s1] [] (hs0).1 (hs0).2.1 kX12.1 kvX12_adding q_1572 (tX12_adding l C.2.2.2.2.2.2.1 hs0 r3) rfl rfl ⟨by decide, by decide⟩ rfl hl.1 rfl (Nat.le_of_ble_eq_true rfl) dX12_mixCourt_188) (fun H locs hW => ?_)
  refine lv_iinc (v := (a1 + 1)) (lv' := [(1, .int (a1 + 1)), (0, .ref (ad a0))]) C.1 C.2.1 dX12_mixCourt_191 hl (k := 1) rfl rfl (by decide) rfl (fun ls hl => ?_)
  refine lv_goto (tgt := 155) C.1 C.2.1 dX12_mixCourt_194 (by decide) ?_
  exact hk155 _ _ _ _ _ _ ha0 hW (lv_sub hl [1, 0] rfl) hf
set_option maxRecDepth 100000 in
set_option maxHeartbeats 4000000 in
theorem wX12_mixCourt_155 (C : Cx p s m meth c args cX12_mixCourt 3 none RX12 D ca ad) {res : Unit × Mm} {N : Nat}  : ∀ (n : Nat) {a0 : Nat} {a1 : Int32} {mm : Mm} {H : Heap} {locs : List Loc} {ls : Array Slot}, (sX12 a0) → Wd D ca ad s.heap mm H locs → lv_has ls 3 [(0, .ref (ad a0)), (1, .int a1)] → fX12_mixCourt_155 N n a0 a1 mm = some res → W p l e (rmX12_mixCourt) s m args below meth c H locs 0 0 (MQ below (QV D ca ad res) args s 0 0 (AA ad)) (F0 m 155 ls []) := by
  intro n
  induction n with
  | zero => intro a0 a1 mm H locs ls ha0 hW hl hf; cases hf
  | succ n ih =>
    intro a0 a1 mm H locs ls ha0 hW hl hf
    have hk155 : ∀ (a0 : Nat) (a1 : Int32) (mm : Mm) (H : Heap) (locs : List Loc) (ls : Array Slot), (sX12 a0) → Wd D ca ad s.heap mm H locs → lv_has ls 3 [(0, .ref (ad a0)), (1, .int a1)] → (fX12_mixCourt_155 N n) a0 a1 mm = some res → W p l e (rmX12_mixCourt) s m args below meth c H locs 0 0 (MQ below (QV D ca ad res) args s 0 0 (AA ad)) (F0 m 155 ls []) := fun a0 a1 mm H locs ls ha0 hW hl hf => ih ha0 hW hl hf
    unfold fX12_mixCourt_155 at hf
    try dsimp only at hf
    refine lv_iload_n C.1 C.2.1 dX12_mixCourt_155 rfl (lv_at hl 1 rfl) ?_
    refine lv_iconst (v := 3) C.1 C.2.1 dX12_mixCourt_156 (by decide) ?_
    refine lv_icmp_ge (tgt := 197) C.1 C.2.1 dX12_mixCourt_157 (by decide) (fun c4 => ?_) (fun c4 => ?_)
    · have hf := if_t c4 hf
      cases hf
      exact x_vret C hW dX12_mixCourt_197
    · have hf := if_f c4 hf
      refine lv_aload_n C.1 C.2.1 dX12_mixCourt_160 rfl (lv_at hl 0 rfl) ?_
      refine lv_aload_n C.1 C.2.1 dX12_mixCourt_161 rfl (lv_at hl 0 rfl) ?_
      refine x_getr C hW (ha0).1 (ha0).2.1 (j := 40) rfl kX12 (by decide) rfl q_1056 dX12_mixCourt_162 ?_
      refine lv_bipush (v := 72) C.1 C.2.1 dX12_mixCourt_165 (by decide) ?_
      refine lv_iload_n C.1 C.2.1 dX12_mixCourt_167 rfl (lv_at hl 1 rfl) ?_
      refine lv_imul C.1 C.2.1 dX12_mixCourt_168 ?_
      obtain ⟨g5, hf⟩ := gd_s hf
      refine x_iald C hW ha0.2.2.2.2.2.2.2.2.2.2.2.2.2.2.2.2.2.2.2.2.2.2 g5 dX12_mixCourt_169 ?_
      refine lv_bipush (v := (-9)) C.1 C.2.1 dX12_mixCourt_170 (by decide) ?_
      refine lv_icmp_ne (tgt := 179) C.1 C.2.1 dX12_mixCourt_172 (by decide) (fun c6 => ?_) (fun c6 => ?_)
      · have hf := if_f c6 hf
        refine lv_aload_n C.1 C.2.1 dX12_mixCourt_179 rfl (lv_at hl 0 rfl) ?_
        refine x_getr C hW (ha0).1 (ha0).2.1 (j := 40) rfl kX12 (by decide) rfl q_1056 dX12_mixCourt_180 ?_
        refine lv_bipush (v := 72) C.1 C.2.1 dX12_mixCourt_183 (by decide) ?_
        refine lv_iload_n C.1 C.2.1 dX12_mixCourt_185 rfl (lv_at hl 1 rfl) ?_
        refine lv_imul C.1 C.2.1 dX12_mixCourt_186 ?_
        obtain ⟨g7, hf⟩ := gd_s hf
        refine x_iald C hW ha0.2.2.2.2.2.2.2.2.2.2.2.2.2.2.2.2.2.2.2.2.2.2 g7 dX12_mixCourt_187 ?_
        exact wX12_mixCourt_188 C hk155 ha0 ha0 hW (lv_sub hl [0, 1] rfl) hf
      · have hf := if_t c6 hf
        refine lv_iconst (v := (-1)) C.1 C.2.1 dX12_mixCourt_175 (by decide) ?_
        refine lv_goto (tgt := 188) C.1 C.2.1 dX12_mixCourt_176 (by decide) ?_
        exact wX12_mixCourt_188 C hk155 ha0 ha0 hW (lv_sub hl [0, 1] rfl) hf
set_option maxRecDepth 100000 in
set_option maxHeartbeats 4000000 in
theorem wX12_mixCourt_102 (C : Cx p s m meth c args cX12_mixCourt 3 none RX12 D ca ad) {res : Unit × Mm} {N : Nat} {k92 : Nat → Int32 → Mm → Option (Unit × Mm)} (hk92 : ∀ (a0 : Nat) (a1 : Int32) (mm : Mm) (H : Heap) (locs : List Loc) (ls : Array Slot), (sX12 a0) → Wd D ca ad s.heap mm H locs → lv_has ls 3 [(0, .ref (ad a0)), (1, .int a1)] → k92 a0 a1 mm = some res → W p l e (rmX12_mixCourt) s m args below meth c H locs 0 0 (MQ below (QV D ca ad res) args s 0 0 (AA ad)) (F0 m 92 ls [])) : ∀ (n : Nat) {a0 : Nat} {a1 : Int32} {a2 : Int32} {mm : Mm} {H : Heap} {locs : List Loc} {ls : Array Slot}, (sX12 a0) → Wd D ca ad s.heap mm H locs → lv_has ls 3 [(0, .ref (ad a0)), (1, .int a1), (2, .int a2)] → fX12_mixCourt_102 N k92 n a0 a1 a2 mm = some res → W p l e (rmX12_mixCourt) s m args below meth c H locs 0 0 (MQ below (QV D ca ad res) args s 0 0 (AA ad)) (F0 m 102 ls []) := by
  intro n
  induction n with
  | zero => intro a0 a1 a2 mm H locs ls ha0 hW hl hf; cases hf
  | succ n ih =>
    intro a0 a1 a2 mm H locs ls ha0 hW hl hf
    have hk102 : ∀ (a0 : Nat) (a1 : Int32) (a2 : Int32) (mm : Mm) (H : Heap) (locs : List Loc) (ls : Array Slot), (sX12 a0) → Wd D ca ad s.heap mm H locs → lv_has ls 3 [(0, .ref (ad a0)), (1, .int a1), (2, .int a2)] → (fX12_mixCourt_102 N k92 n) a0 a1 a2 mm = some res → W p l e (rmX12_mixCourt) s m args below meth c H locs 0 0 (MQ below (QV D ca ad res) args s 0 0 (AA ad)) (F0 m 102 ls []) := fun a0 a1 a2 mm H locs ls ha0 hW hl hf => ih ha0 hW hl hf
    unfold fX12_mixCourt_102 at hf
    try dsimp only at hf
    refine lv_iload_n C.1 C.2.1 dX12_mixCourt_102 rfl (lv_at hl 2 rfl) ?_
    refine lv_aload_n C.1 C.2.1 dX12_mixCourt_103 rfl (lv_at hl 0 rfl) ?_
    refine x_geti C hW (ha0).1 (ha0).2.1 (j := 10) rfl kX12 (by decide) rfl q_1026 dX12_mixCourt_104 ?_
    refine lv_icmp_ge (tgt := 131) C.1 C.2.1 dX12_mixCourt_107 (by decide) (fun c8 => ?_) (fun c8 => ?_)
    · have hf := if_t c8 hf
      refine lv_aload_n C.1 C.2.1 dX12_mixCourt_131 rfl (lv_at hl 0 rfl) ?_
      refine lv_aload_n C.1 C.2.1 dX12_mixCourt_132 rfl (lv_at hl 0 rfl) ?_
      refine x_getr C hW (ha0).1 (ha0).2.1 (j := 36) rfl kX12 (by decide) rfl q_1052 dX12_mixCourt_133 ?_
      refine lv_bipush (v := 7) C.1 C.2.1 dX12_mixCourt_136 (by decide) ?_
      refine lv_iload_n C.1 C.2.1 dX12_mixCourt_138 rfl (lv_at hl 1 rfl) ?_
      refine lv_imul C.1 C.2.1 dX12_mixCourt_139 ?_
      refine lv_bipush (v := 6) C.1 C.2.1 dX12_mixCourt_140 (by decide) ?_
      refine lv_iadd C.1 C.2.1 dX12_mixCourt_142 ?_
      obtain ⟨g9, hf⟩ := gd_s hf
      refine x_iald C hW ha0.2.2.2.2.2.2.2.2.2.2.2.2.2.2.2.2.2.2.2.1 g9 dX12_mixCourt_143 ?_
      obtain ⟨x10, m11, r12, hf⟩ := bd2_s hf
      refine x_cv hW (x_runV C hW [.int (rd mm (fr a0 36) (((7 * a1) + 6).toNatClampNeg))] [] (ha0).1 (ha0).2.1 kX12.1 kvX12_adding q_1572 (tX12_adding l C.2.2.2.2.2.2.1 ha0 r12) rfl rfl ⟨by decide, by decide⟩ rfl hl.1 rfl (Nat.le_of_ble_eq_true rfl) dX12_mixCourt_144) (fun H locs hW => ?_)
      refine lv_iinc (v := (a1 + 1)) (lv' := [(1, .int (a1 + 1)), (0, .ref (ad a0)), (2, .int a2)]) C.1 C.2.1 dX12_mixCourt_147 hl (k := 1) rfl rfl (by decide) rfl (fun ls hl => ?_)
      refine lv_goto (tgt := 92) C.1 C.2.1 dX12_mixCourt_150 (by decide) ?_
      exact hk92 _ _ _ _ _ _ ha0 hW (lv_sub hl [1, 0] rfl) hf
    · have hf := if_f c8 hf
      refine lv_aload_n C.1 C.2.1 dX12_mixCourt_110 rfl (lv_at hl 0 rfl) ?_
      refine lv_aload_n C.1 C.2.1 dX12_mixCourt_111 rfl (lv_at hl 0 rfl) ?_
      refine x_getr C hW (ha0).1 (ha0).2.1 (j := 36) rfl kX12 (by decide) rfl q_1052 dX12_mixCourt_112 ?_
      refine lv_bipush (v := 7) C.1 C.2.1 dX12_mixCourt_115 (by decide) ?_
      refine lv_iload_n C.1 C.2.1 dX12_mixCourt_117 rfl (lv_at hl 1 rfl) ?_
      refine lv_imul C.1 C.2.1 dX12_mixCourt_118 ?_
      refine lv_iload_n C.1 C.2.1 dX12_mixCourt_119 rfl (lv_at hl 2 rfl) ?_
      refine lv_iadd C.1 C.2.1 dX12_mixCourt_120 ?_
      obtain ⟨g13, hf⟩ := gd_s hf
      refine x_iald C hW ha0.2.2.2.2.2.2.2.2.2.2.2.2.2.2.2.2.2.2.2.1 g13 dX12_mixCourt_121 ?_
      obtain ⟨x14, m15, r16, hf⟩ := bd2_s hf
      refine x_cv hW (x_runV C hW [.int (rd mm (fr a0 36) (((7 * a1) + a2).toNatClampNeg))] [] (ha0).1 (ha0).2.1 kX12.1 kvX12_adding q_1572 (tX12_adding l C.2.2.2.2.2.2.1 ha0 r16) rfl rfl ⟨by decide, by decide⟩ rfl hl.1 rfl (Nat.le_of_ble_eq_true rfl) dX12_mixCourt_122) (fun H locs hW => ?_)
      refine lv_iinc (v := (a2 + 1)) (lv' := [(2, .int (a2 + 1)), (0, .ref (ad a0)), (1, .int a1)]) C.1 C.2.1 dX12_mixCourt_125 hl (k := 2) rfl rfl (by decide) rfl (fun ls hl => ?_)
      refine lv_goto (tgt := 102) C.1 C.2.1 dX12_mixCourt_128 (by decide) ?_
      exact hk102 _ _ _ _ _ _ _ ha0 hW (lv_sub hl [1, 2, 0] rfl) hf
set_option maxRecDepth 100000 in
set_option maxHeartbeats 4000000 in
theorem wX12_mixCourt_92 (C : Cx p s m meth c args cX12_mixCourt 3 none RX12 D ca ad) {res : Unit × Mm} {N : Nat}  : ∀ (n : Nat) {a0 : Nat} {a1 : Int32} {mm : Mm} {H : Heap} {locs : List Loc} {ls : Array Slot}, (sX12 a0) → Wd D ca ad s.heap mm H locs → lv_has ls 3 [(0, .ref (ad a0)), (1, .int a1)] → fX12_mixCourt_92 N n a0 a1 mm = some res → W p l e (rmX12_mixCourt) s m args below meth c H locs 0 0 (MQ below (QV D ca ad res) args s 0 0 (AA ad)) (F0 m 92 ls []) := by
  intro n
  induction n with
  | zero => intro a0 a1 mm H locs ls ha0 hW hl hf; cases hf
  | succ n ih =>
    intro a0 a1 mm H locs ls ha0 hW hl hf
    have hk92 : ∀ (a0 : Nat) (a1 : Int32) (mm : Mm) (H : Heap) (locs : List Loc) (ls : Array Slot), (sX12 a0) → Wd D ca ad s.heap mm H locs → lv_has ls 3 [(0, .ref (ad a0)), (1, .int a1)] → (fX12_mixCourt_92 N n) a0 a1 mm = some res → W p l e (rmX12_mixCourt) s m args below meth c H locs 0 0 (MQ below (QV D ca ad res) args s 0 0 (AA ad)) (F0 m 92 ls []) := fun a0 a1 mm H locs ls ha0 hW hl hf => ih ha0 hW hl hf
    unfold fX12_mixCourt_92 at hf
    try dsimp only at hf
    refine lv_iload_n C.1 C.2.1 dX12_mixCourt_92 rfl (lv_at hl 1 rfl) ?_
    refine lv_aload_n C.1 C.2.1 dX12_mixCourt_93 rfl (lv_at hl 0 rfl) ?_
    refine x_geti C hW (ha0).1 (ha0).2.1 (j := 37) rfl kX12 (by decide) rfl q_1053 dX12_mixCourt_94 ?_
    refine lv_icmp_ge (tgt := 153) C.1 C.2.1 dX12_mixCourt_97 (by decide) (fun c17 => ?_) (fun c17 => ?_)
    · have hf := if_t c17 hf
      refine lv_iconst (v := 0) C.1 C.2.1 dX12_mixCourt_153 (by decide) ?_
      refine lv_istore_n (lv' := [(1, .int 0), (0, .ref (ad a0))]) C.1 C.2.1 dX12_mixCourt_154 rfl hl (by decide) rfl (fun ls hl => ?_)
      exact wX12_mixCourt_155 C  N ha0 hW (lv_sub hl [1, 0] rfl) hf
    · have hf := if_f c17 hf
      refine lv_iconst (v := 0) C.1 C.2.1 dX12_mixCourt_100 (by decide) ?_
      refine lv_istore_n (lv' := [(2, .int 0), (0, .ref (ad a0)), (1, .int a1)]) C.1 C.2.1 dX12_mixCourt_101 rfl hl (by decide) rfl (fun ls hl => ?_)
      exact wX12_mixCourt_102 C hk92 N ha0 hW (lv_sub hl [1, 2, 0] rfl) hf
set_option maxRecDepth 100000 in
set_option maxHeartbeats 4000000 in
theorem wX12_mixCourt_63 (C : Cx p s m meth c args cX12_mixCourt 3 none RX12 D ca ad) {res : Unit × Mm} {N : Nat} {k53 : Nat → Int32 → Mm → Option (Unit × Mm)} (hk53 : ∀ (a0 : Nat) (a1 : Int32) (mm : Mm) (H : Heap) (locs : List Loc) (ls : Array Slot), (sX12 a0) → Wd D ca ad s.heap mm H locs → lv_has ls 3 [(0, .ref (ad a0)), (1, .int a1)] → k53 a0 a1 mm = some res → W p l e (rmX12_mixCourt) s m args below meth c H locs 0 0 (MQ below (QV D ca ad res) args s 0 0 (AA ad)) (F0 m 53 ls [])) : ∀ (n : Nat) {a0 : Nat} {a1 : Int32} {a2 : Int32} {mm : Mm} {H : Heap} {locs : List Loc} {ls : Array Slot}, (sX12 a0) → Wd D ca ad s.heap mm H locs → lv_has ls 3 [(0, .ref (ad a0)), (1, .int a1), (2, .int a2)] → fX12_mixCourt_63 N k53 n a0 a1 a2 mm = some res → W p l e (rmX12_mixCourt) s m args below meth c H locs 0 0 (MQ below (QV D ca ad res) args s 0 0 (AA ad)) (F0 m 63 ls []) := by
  intro n
  induction n with
  | zero => intro a0 a1 a2 mm H locs ls ha0 hW hl hf; cases hf
  | succ n ih =>
    intro a0 a1 a2 mm H locs ls ha0 hW hl hf
    have hk63 : ∀ (a0 : Nat) (a1 : Int32) (a2 : Int32) (mm : Mm) (H : Heap) (locs : List Loc) (ls : Array Slot), (sX12 a0) → Wd D ca ad s.heap mm H locs → lv_has ls 3 [(0, .ref (ad a0)), (1, .int a1), (2, .int a2)] → (fX12_mixCourt_63 N k53 n) a0 a1 a2 mm = some res → W p l e (rmX12_mixCourt) s m args below meth c H locs 0 0 (MQ below (QV D ca ad res) args s 0 0 (AA ad)) (F0 m 63 ls []) := fun a0 a1 a2 mm H locs ls ha0 hW hl hf => ih ha0 hW hl hf
    unfold fX12_mixCourt_63 at hf
    try dsimp only at hf
    refine lv_iload_n C.1 C.2.1 dX12_mixCourt_63 rfl (lv_at hl 2 rfl) ?_
    refine lv_iconst (v := 2) C.1 C.2.1 dX12_mixCourt_64 (by decide) ?_
    refine lv_icmp_gt (tgt := 84) C.1 C.2.1 dX12_mixCourt_65 (by decide) (fun c18 => ?_) (fun c18 => ?_)
    · have hf := if_t c18 hf
      refine lv_iinc (v := (a1 + 1)) (lv' := [(1, .int (a1 + 1)), (0, .ref (ad a0)), (2, .int a2)]) C.1 C.2.1 dX12_mixCourt_84 hl (k := 1) rfl rfl (by decide) rfl (fun ls hl => ?_)
      refine lv_goto (tgt := 53) C.1 C.2.1 dX12_mixCourt_87 (by decide) ?_
      exact hk53 _ _ _ _ _ _ ha0 hW (lv_sub hl [1, 0] rfl) hf
    · have hf := if_f c18 hf
      refine lv_aload_n C.1 C.2.1 dX12_mixCourt_68 rfl (lv_at hl 0 rfl) ?_
      refine lv_aload_n C.1 C.2.1 dX12_mixCourt_69 rfl (lv_at hl 0 rfl) ?_
      refine lv_iload_n C.1 C.2.1 dX12_mixCourt_70 rfl (lv_at hl 1 rfl) ?_
      refine lv_iload_n C.1 C.2.1 dX12_mixCourt_71 rfl (lv_at hl 2 rfl) ?_
      obtain ⟨x19, m20, r21, hf⟩ := bd2_s hf
      refine x_ci hW (x_runV C hW [.int a1, .int a2] [.ref (ad a0)] (ha0).1 (ha0).2.1 kX12.1 kvX12_of q_1252 (tX12_of l C.2.2.2.2.2.2.1 ha0 r21) rfl rfl ⟨by decide, by decide⟩ rfl hl.1 rfl (Nat.le_of_ble_eq_true rfl) dX12_mixCourt_72) (fun H locs hW => ?_)
      obtain ⟨x22, m23, r24, hf⟩ := bd2_s hf
      refine x_cv hW (x_runV C hW [.int x19] [] (ha0).1 (ha0).2.1 kX12.1 kvX12_adding q_1572 (tX12_adding l C.2.2.2.2.2.2.1 ha0 r24) rfl rfl ⟨by decide, by decide⟩ rfl hl.1 rfl (Nat.le_of_ble_eq_true rfl) dX12_mixCourt_75) (fun H locs hW => ?_)
      refine lv_iinc (v := (a2 + 1)) (lv' := [(2, .int (a2 + 1)), (0, .ref (ad a0)), (1, .int a1)]) C.1 C.2.1 dX12_mixCourt_78 hl (k := 2) rfl rfl (by decide) rfl (fun ls hl => ?_)
      refine lv_goto (tgt := 63) C.1 C.2.1 dX12_mixCourt_81 (by decide) ?_
      exact hk63 _ _ _ _ _ _ _ ha0 hW (lv_sub hl [1, 2, 0] rfl) hf
set_option maxRecDepth 100000 in
set_option maxHeartbeats 4000000 in
theorem wX12_mixCourt_53 (C : Cx p s m meth c args cX12_mixCourt 3 none RX12 D ca ad) {res : Unit × Mm} {N : Nat}  : ∀ (n : Nat) {a0 : Nat} {a1 : Int32} {mm : Mm} {H : Heap} {locs : List Loc} {ls : Array Slot}, (sX12 a0) → Wd D ca ad s.heap mm H locs → lv_has ls 3 [(0, .ref (ad a0)), (1, .int a1)] → fX12_mixCourt_53 N n a0 a1 mm = some res → W p l e (rmX12_mixCourt) s m args below meth c H locs 0 0 (MQ below (QV D ca ad res) args s 0 0 (AA ad)) (F0 m 53 ls []) := by
  intro n
  induction n with
  | zero => intro a0 a1 mm H locs ls ha0 hW hl hf; cases hf
  | succ n ih =>
    intro a0 a1 mm H locs ls ha0 hW hl hf
    have hk53 : ∀ (a0 : Nat) (a1 : Int32) (mm : Mm) (H : Heap) (locs : List Loc) (ls : Array Slot), (sX12 a0) → Wd D ca ad s.heap mm H locs → lv_has ls 3 [(0, .ref (ad a0)), (1, .int a1)] → (fX12_mixCourt_53 N n) a0 a1 mm = some res → W p l e (rmX12_mixCourt) s m args below meth c H locs 0 0 (MQ below (QV D ca ad res) args s 0 0 (AA ad)) (F0 m 53 ls []) := fun a0 a1 mm H locs ls ha0 hW hl hf => ih ha0 hW hl hf
    unfold fX12_mixCourt_53 at hf
    try dsimp only at hf
    refine lv_iload_n C.1 C.2.1 dX12_mixCourt_53 rfl (lv_at hl 1 rfl) ?_
    refine lv_aload_n C.1 C.2.1 dX12_mixCourt_54 rfl (lv_at hl 0 rfl) ?_
    refine x_geti C hW (ha0).1 (ha0).2.1 (j := 10) rfl kX12 (by decide) rfl q_1026 dX12_mixCourt_55 ?_
    refine lv_icmp_ge (tgt := 90) C.1 C.2.1 dX12_mixCourt_58 (by decide) (fun c25 => ?_) (fun c25 => ?_)
    · have hf := if_t c25 hf
      refine lv_iconst (v := 0) C.1 C.2.1 dX12_mixCourt_90 (by decide) ?_
      refine lv_istore_n (lv' := [(1, .int 0), (0, .ref (ad a0))]) C.1 C.2.1 dX12_mixCourt_91 rfl hl (by decide) rfl (fun ls hl => ?_)
      exact wX12_mixCourt_92 C  N ha0 hW (lv_sub hl [1, 0] rfl) hf
    · have hf := if_f c25 hf
      refine lv_iconst (v := 0) C.1 C.2.1 dX12_mixCourt_61 (by decide) ?_
      refine lv_istore_n (lv' := [(2, .int 0), (0, .ref (ad a0)), (1, .int a1)]) C.1 C.2.1 dX12_mixCourt_62 rfl hl (by decide) rfl (fun ls hl => ?_)
      exact wX12_mixCourt_63 C hk53 N ha0 hW (lv_sub hl [1, 2, 0] rfl) hf
set_option maxRecDepth 100000 in
set_option maxHeartbeats 4000000 in
theorem wX12_mixCourt_30 (C : Cx p s m meth c args cX12_mixCourt 3 none RX12 D ca ad) {res : Unit × Mm} {N : Nat}  : ∀ (n : Nat) {a0 : Nat} {a1 : Int32} {mm : Mm} {H : Heap} {locs : List Loc} {ls : Array Slot}, (sX12 a0) → Wd D ca ad s.heap mm H locs → lv_has ls 3 [(0, .ref (ad a0)), (1, .int a1)] → fX12_mixCourt_30 N n a0 a1 mm = some res → W p l e (rmX12_mixCourt) s m args below meth c H locs 0 0 (MQ below (QV D ca ad res) args s 0 0 (AA ad)) (F0 m 30 ls []) := by
  intro n
  induction n with
  | zero => intro a0 a1 mm H locs ls ha0 hW hl hf; cases hf
  | succ n ih =>
    intro a0 a1 mm H locs ls ha0 hW hl hf
    have hk30 : ∀ (a0 : Nat) (a1 : Int32) (mm : Mm) (H : Heap) (locs : List Loc) (ls : Array Slot), (sX12 a0) → Wd D ca ad s.heap mm H locs → lv_has ls 3 [(0, .ref (ad a0)), (1, .int a1)] → (fX12_mixCourt_30 N n) a0 a1 mm = some res → W p l e (rmX12_mixCourt) s m args below meth c H locs 0 0 (MQ below (QV D ca ad res) args s 0 0 (AA ad)) (F0 m 30 ls []) := fun a0 a1 mm H locs ls ha0 hW hl hf => ih ha0 hW hl hf
    unfold fX12_mixCourt_30 at hf
    try dsimp only at hf
    refine lv_iload_n C.1 C.2.1 dX12_mixCourt_30 rfl (lv_at hl 1 rfl) ?_
    refine lv_iconst (v := 4) C.1 C.2.1 dX12_mixCourt_31 (by decide) ?_
    refine lv_icmp_ge (tgt := 51) C.1 C.2.1 dX12_mixCourt_32 (by decide) (fun c26 => ?_) (fun c26 => ?_)
    · have hf := if_t c26 hf
      refine lv_iconst (v := 0) C.1 C.2.1 dX12_mixCourt_51 (by decide) ?_
      refine lv_istore_n (lv' := [(1, .int 0), (0, .ref (ad a0))]) C.1 C.2.1 dX12_mixCourt_52 rfl hl (by decide) rfl (fun ls hl => ?_)
      exact wX12_mixCourt_53 C  N ha0 hW (lv_sub hl [1, 0] rfl) hf
    · have hf := if_f c26 hf
      refine lv_aload_n C.1 C.2.1 dX12_mixCourt_35 rfl (lv_at hl 0 rfl) ?_
      refine lv_aload_n C.1 C.2.1 dX12_mixCourt_36 rfl (lv_at hl 0 rfl) ?_
      refine x_getr C hW (ha0).1 (ha0).2.1 (j := 35) rfl kX12 (by decide) rfl q_1051 dX12_mixCourt_37 ?_
      refine lv_iload_n C.1 C.2.1 dX12_mixCourt_40 rfl (lv_at hl 1 rfl) ?_
      obtain ⟨g27, hf⟩ := gd_s hf
      refine x_iald C hW ha0.2.2.2.2.2.2.2.2.2.2.2.2.2.2.2.2.2.2.1 g27 dX12_mixCourt_41 ?_
      obtain ⟨x28, m29, r30, hf⟩ := bd2_s hf
      refine x_cv hW (x_runV C hW [.int (rd mm (fr a0 35) a1.toNatClampNeg)] [] (ha0).1 (ha0).2.1 kX12.1 kvX12_adding q_1572 (tX12_adding l C.2.2.2.2.2.2.1 ha0 r30) rfl rfl ⟨by decide, by decide⟩ rfl hl.1 rfl (Nat.le_of_ble_eq_true rfl) dX12_mixCourt_42) (fun H locs hW => ?_)
      refine lv_iinc (v := (a1 + 1)) (lv' := [(1, .int (a1 + 1)), (0, .ref (ad a0))]) C.1 C.2.1 dX12_mixCourt_45 hl (k := 1) rfl rfl (by decide) rfl (fun ls hl => ?_)
      refine lv_goto (tgt := 30) C.1 C.2.1 dX12_mixCourt_48 (by decide) ?_
      exact hk30 _ _ _ _ _ _ ha0 hW (lv_sub hl [1, 0] rfl) hf
set_option maxRecDepth 100000 in
set_option maxHeartbeats 4000000 in
theorem wX12_mixCourt_0 (C : Cx p s m meth c args cX12_mixCourt 3 none RX12 D ca ad) {res : Unit × Mm} {N : Nat}  {a0 : Nat} {mm : Mm} {H : Heap} {locs : List Loc} {ls : Array Slot} (ha0 : sX12 a0) (hW : Wd D ca ad s.heap mm H locs) (hl : lv_has ls 3 [(0, .ref (ad a0))]) (hf : fX12_mixCourt N a0 mm = some res) : W p l e (rmX12_mixCourt) s m args below meth c H locs 0 0 (MQ below (QV D ca ad res) args s 0 0 (AA ad)) (F0 m 0 ls []) := by
  unfold fX12_mixCourt at hf
  refine lv_aload_n C.1 C.2.1 dX12_mixCourt_0 rfl (lv_at hl 0 rfl) ?_
  refine lv_aload_n C.1 C.2.1 dX12_mixCourt_1 rfl (lv_at hl 0 rfl) ?_
  refine x_getr C hW (ha0).1 (ha0).2.1 (j := 12) rfl kX12 (by decide) rfl q_1028 dX12_mixCourt_2 ?_
  refine lv_iconst (v := 0) C.1 C.2.1 dX12_mixCourt_5 (by decide) ?_
  obtain ⟨g31, hf⟩ := gd_s hf
  refine x_iald C hW ha0.2.2.2.2.2.2.2.2.2.1 g31 dX12_mixCourt_6 ?_
  obtain ⟨x32, m33, r34, hf⟩ := bd2_s hf
  refine x_cv hW (x_runV C hW [.int (rd mm (fr a0 12) ((0 : Int32).toNatClampNeg))] [] (ha0).1 (ha0).2.1 kX12.1 kvX12_adding q_1572 (tX12_adding l C.2.2.2.2.2.2.1 ha0 r34) rfl rfl ⟨by decide, by decide⟩ rfl hl.1 rfl (Nat.le_of_ble_eq_true rfl) dX12_mixCourt_7) (fun H locs hW => ?_)
  refine lv_aload_n C.1 C.2.1 dX12_mixCourt_10 rfl (lv_at hl 0 rfl) ?_
  refine lv_aload_n C.1 C.2.1 dX12_mixCourt_11 rfl (lv_at hl 0 rfl) ?_
  refine x_getr C hW (ha0).1 (ha0).2.1 (j := 12) rfl kX12 (by decide) rfl q_1028 dX12_mixCourt_12 ?_
  refine lv_iconst (v := 1) C.1 C.2.1 dX12_mixCourt_15 (by decide) ?_
  obtain ⟨g35, hf⟩ := gd_s hf
  refine x_iald C hW ha0.2.2.2.2.2.2.2.2.2.1 g35 dX12_mixCourt_16 ?_
  obtain ⟨x36, m37, r38, hf⟩ := bd2_s hf
  refine x_cv hW (x_runV C hW [.int (rd m33 (fr a0 12) ((1 : Int32).toNatClampNeg))] [] (ha0).1 (ha0).2.1 kX12.1 kvX12_adding q_1572 (tX12_adding l C.2.2.2.2.2.2.1 ha0 r38) rfl rfl ⟨by decide, by decide⟩ rfl hl.1 rfl (Nat.le_of_ble_eq_true rfl) dX12_mixCourt_17) (fun H locs hW => ?_)
  refine lv_aload_n C.1 C.2.1 dX12_mixCourt_20 rfl (lv_at hl 0 rfl) ?_
  refine lv_aload_n C.1 C.2.1 dX12_mixCourt_21 rfl (lv_at hl 0 rfl) ?_
  refine x_geti C hW (ha0).1 (ha0).2.1 (j := 13) rfl kX12 (by decide) rfl q_1029 dX12_mixCourt_22 ?_
  obtain ⟨x39, m40, r41, hf⟩ := bd2_s hf
  refine x_cv hW (x_runV C hW [.int (rd m37 a0 13)] [] (ha0).1 (ha0).2.1 kX12.1 kvX12_adding q_1572 (tX12_adding l C.2.2.2.2.2.2.1 ha0 r41) rfl rfl ⟨by decide, by decide⟩ rfl hl.1 rfl (Nat.le_of_ble_eq_true rfl) dX12_mixCourt_25) (fun H locs hW => ?_)
  refine lv_iconst (v := 0) C.1 C.2.1 dX12_mixCourt_28 (by decide) ?_
  refine lv_istore_n (lv' := [(1, .int 0), (0, .ref (ad a0))]) C.1 C.2.1 dX12_mixCourt_29 rfl hl (by decide) rfl (fun ls hl => ?_)
  exact wX12_mixCourt_30 C  N ha0 hW (lv_sub hl [1, 0] rfl) hf
set_option maxRecDepth 100000 in
set_option maxHeartbeats 4000000 in
theorem tX12_mixCourt (l : Launch) {D : va_G} {ca ad : Nat → Nat} (hi : Inj ad) {N : Nat} {a0 : Nat} {mm : Mm} {res : Unit × Mm} (ha0 : sX12 a0) (hf : fX12_mixCourt N a0 mm = some res) : Met l yX12_mixCourt (WS yX12_mixCourt cX12_mixCourt 3 none) (rmX12_mixCourt) (va_Pc [.ref (ad a0)] (WB D ca ad mm)) (QV D ca ad res) 0 0 (AA ad) := by
  refine x_start hi (by decide) rfl (Nat.le_of_ble_eq_true rfl) (fun p e s m args below meth c ls C hW hl => ?_)
  exact wX12_mixCourt_0 C ha0 hW (lv_sub hl [0] rfl) hf
set_option maxRecDepth 100000 in
set_option maxHeartbeats 4000000 in
theorem wX12_digest_131 (C : Cx p s m meth c args cX12_digest 3 (some .long) RX12 D ca ad) {res : Int64 × Mm} {N : Nat} {k101 : Nat → Int32 → Mm → Option (Int64 × Mm)} (hk101 : ∀ (a0 : Nat) (a1 : Int32) (mm : Mm) (H : Heap) (locs : List Loc) (ls : Array Slot), (sX12 a0) → Wd D ca ad s.heap mm H locs → lv_has ls 3 [(0, .ref (ad a0)), (1, .int a1)] → k101 a0 a1 mm = some res → W p l e (rmX12_digest) s m args below meth c H locs 0 0 (MQ below (QL D ca ad res) args s 0 0 (AA ad)) (F0 m 101 ls [])) : ∀ (n : Nat) {a0 : Nat} {a1 : Int32} {a2 : Int32} {mm : Mm} {H : Heap} {locs : List Loc} {ls : Array Slot}, (sX12 a0) → Wd D ca ad s.heap mm H locs → lv_has ls 3 [(0, .ref (ad a0)), (1, .int a1), (2, .int a2)] → fX12_digest_131 N k101 n a0 a1 a2 mm = some res → W p l e (rmX12_digest) s m args below meth c H locs 0 0 (MQ below (QL D ca ad res) args s 0 0 (AA ad)) (F0 m 131 ls []) := by
  intro n
  induction n with
  | zero => intro a0 a1 a2 mm H locs ls ha0 hW hl hf; cases hf
  | succ n ih =>
    intro a0 a1 a2 mm H locs ls ha0 hW hl hf
    have hk131 : ∀ (a0 : Nat) (a1 : Int32) (a2 : Int32) (mm : Mm) (H : Heap) (locs : List Loc) (ls : Array Slot), (sX12 a0) → Wd D ca ad s.heap mm H locs → lv_has ls 3 [(0, .ref (ad a0)), (1, .int a1), (2, .int a2)] → (fX12_digest_131 N k101 n) a0 a1 a2 mm = some res → W p l e (rmX12_digest) s m args below meth c H locs 0 0 (MQ below (QL D ca ad res) args s 0 0 (AA ad)) (F0 m 131 ls []) := fun a0 a1 a2 mm H locs ls ha0 hW hl hf => ih ha0 hW hl hf
    unfold fX12_digest_131 at hf
    try dsimp only at hf
    refine lv_iload_n C.1 C.2.1 dX12_digest_131 rfl (lv_at hl 2 rfl) ?_
    refine lv_aload_n C.1 C.2.1 dX12_digest_132 rfl (lv_at hl 0 rfl) ?_
    refine x_getr C hW (ha0).1 (ha0).2.1 (j := 8) rfl kX12 (by decide) rfl q_1024 dX12_digest_133 ?_
    refine lv_iload_n C.1 C.2.1 dX12_digest_136 rfl (lv_at hl 1 rfl) ?_
    obtain ⟨g1, hf⟩ := gd_s hf
    refine x_iald C hW ha0.2.2.2.2.2.2.1 g1 dX12_digest_137 ?_
    refine lv_icmp_ge (tgt := 162) C.1 C.2.1 dX12_digest_138 (by decide) (fun c2 => ?_) (fun c2 => ?_)
    · have hf := if_t c2 hf
      refine lv_iinc (v := (a1 + 1)) (lv' := [(1, .int (a1 + 1)), (0, .ref (ad a0)), (2, .int a2)]) C.1 C.2.1 dX12_digest_162 hl (k := 1) rfl rfl (by decide) rfl (fun ls hl => ?_)
      refine lv_goto (tgt := 101) C.1 C.2.1 dX12_digest_165 (by decide) ?_
      exact hk101 _ _ _ _ _ _ ha0 hW (lv_sub hl [1, 0] rfl) hf
    · have hf := if_f c2 hf
      refine lv_aload_n C.1 C.2.1 dX12_digest_141 rfl (lv_at hl 0 rfl) ?_
      refine lv_aload_n C.1 C.2.1 dX12_digest_142 rfl (lv_at hl 0 rfl) ?_
      refine x_getr C hW (ha0).1 (ha0).2.1 (j := 9) rfl kX12 (by decide) rfl q_1025 dX12_digest_143 ?_
      refine lv_bipush (v := 80) C.1 C.2.1 dX12_digest_146 (by decide) ?_
      refine lv_iload_n C.1 C.2.1 dX12_digest_148 rfl (lv_at hl 1 rfl) ?_
      refine lv_imul C.1 C.2.1 dX12_digest_149 ?_
      refine lv_iload_n C.1 C.2.1 dX12_digest_150 rfl (lv_at hl 2 rfl) ?_
      refine lv_iadd C.1 C.2.1 dX12_digest_151 ?_
      obtain ⟨g3, hf⟩ := gd_s hf
      refine x_iald C hW ha0.2.2.2.2.2.2.2.1 g3 dX12_digest_152 ?_
      obtain ⟨x4, m5, r6, hf⟩ := bd2_s hf
      refine x_cv hW (x_runV C hW [.int (rd mm (fr a0 9) (((80 * a1) + a2).toNatClampNeg))] [] (ha0).1 (ha0).2.1 kX12.1 kvX12_adding q_1572 (tX12_adding l C.2.2.2.2.2.2.1 ha0 r6) rfl rfl ⟨by decide, by decide⟩ rfl hl.1 rfl (Nat.le_of_ble_eq_true rfl) dX12_digest_153) (fun H locs hW => ?_)
      refine lv_iinc (v := (a2 + 1)) (lv' := [(2, .int (a2 + 1)), (0, .ref (ad a0)), (1, .int a1)]) C.1 C.2.1 dX12_digest_156 hl (k := 2) rfl rfl (by decide) rfl (fun ls hl => ?_)
      refine lv_goto (tgt := 131) C.1 C.2.1 dX12_digest_159 (by decide) ?_
      exact hk131 _ _ _ _ _ _ _ ha0 hW (lv_sub hl [1, 2, 0] rfl) hf
set_option maxRecDepth 100000 in
set_option maxHeartbeats 4000000 in
theorem wX12_digest_126 (C : Cx p s m meth c args cX12_digest 3 (some .long) RX12 D ca ad) {res : Int64 × Mm} {N : Nat} {k101 : Nat → Int32 → Mm → Option (Int64 × Mm)} (hk101 : ∀ (a0 : Nat) (a1 : Int32) (mm : Mm) (H : Heap) (locs : List Loc) (ls : Array Slot), (sX12 a0) → Wd D ca ad s.heap mm H locs → lv_has ls 3 [(0, .ref (ad a0)), (1, .int a1)] → k101 a0 a1 mm = some res → W p l e (rmX12_digest) s m args below meth c H locs 0 0 (MQ below (QL D ca ad res) args s 0 0 (AA ad)) (F0 m 101 ls [])) {a0 : Nat} {a1 : Int32} {s0 : Nat} {s1 : Int32} {mm : Mm} {H : Heap} {locs : List Loc} {ls : Array Slot} (ha0 : sX12 a0) (hs0 : sX12 s0) (hW : Wd D ca ad s.heap mm H locs) (hl : lv_has ls 3 [(0, .ref (ad a0)), (1, .int a1)]) (hf : fX12_digest_126 N k101 a0 a1 s0 s1 mm = some res) : W p l e (rmX12_digest) s m args below meth c H locs 0 0 (MQ below (QL D ca ad res) args s 0 0 (AA ad)) (F0 m 126 ls [.int s1, .ref (ad s0)]) := by
  unfold fX12_digest_126 at hf
  obtain ⟨x7, m8, r9, hf⟩ := bd2_s hf
  refine x_cv hW (x_runV C hW [.int s1] [] (hs0).1 (hs0).2.1 kX12.1 kvX12_adding q_1572 (tX12_adding l C.2.2.2.2.2.2.1 hs0 r9) rfl rfl ⟨by decide, by decide⟩ rfl hl.1 rfl (Nat.le_of_ble_eq_true rfl) dX12_digest_126) (fun H locs hW => ?_)
  refine lv_iconst (v := 0) C.1 C.2.1 dX12_digest_129 (by decide) ?_
  refine lv_istore_n (lv' := [(2, .int 0), (0, .ref (ad a0)), (1, .int a1)]) C.1 C.2.1 dX12_digest_130 rfl hl (by decide) rfl (fun ls hl => ?_)
  exact wX12_digest_131 C hk101 N ha0 hW (lv_sub hl [1, 2, 0] rfl) hf
set_option maxRecDepth 100000 in
set_option maxHeartbeats 4000000 in
theorem wX12_digest_101 (C : Cx p s m meth c args cX12_digest 3 (some .long) RX12 D ca ad) {res : Int64 × Mm} {N : Nat}  : ∀ (n : Nat) {a0 : Nat} {a1 : Int32} {mm : Mm} {H : Heap} {locs : List Loc} {ls : Array Slot}, (sX12 a0) → Wd D ca ad s.heap mm H locs → lv_has ls 3 [(0, .ref (ad a0)), (1, .int a1)] → fX12_digest_101 N n a0 a1 mm = some res → W p l e (rmX12_digest) s m args below meth c H locs 0 0 (MQ below (QL D ca ad res) args s 0 0 (AA ad)) (F0 m 101 ls []) := by
  intro n
  induction n with
  | zero => intro a0 a1 mm H locs ls ha0 hW hl hf; cases hf
  | succ n ih =>
    intro a0 a1 mm H locs ls ha0 hW hl hf
    have hk101 : ∀ (a0 : Nat) (a1 : Int32) (mm : Mm) (H : Heap) (locs : List Loc) (ls : Array Slot), (sX12 a0) → Wd D ca ad s.heap mm H locs → lv_has ls 3 [(0, .ref (ad a0)), (1, .int a1)] → (fX12_digest_101 N n) a0 a1 mm = some res → W p l e (rmX12_digest) s m args below meth c H locs 0 0 (MQ below (QL D ca ad res) args s 0 0 (AA ad)) (F0 m 101 ls []) := fun a0 a1 mm H locs ls ha0 hW hl hf => ih ha0 hW hl hf
    unfold fX12_digest_101 at hf
    try dsimp only at hf
    refine lv_iload_n C.1 C.2.1 dX12_digest_101 rfl (lv_at hl 1 rfl) ?_
    refine lv_iconst (v := 4) C.1 C.2.1 dX12_digest_102 (by decide) ?_
    refine lv_icmp_ge (tgt := 168) C.1 C.2.1 dX12_digest_103 (by decide) (fun c10 => ?_) (fun c10 => ?_)
    · have hf := if_t c10 hf
      refine lv_aload_n C.1 C.2.1 dX12_digest_168 rfl (lv_at hl 0 rfl) ?_
      refine x_getl C hW (ha0).1 (ha0).2.1 (j := 41) rfl kX12 (by decide) rfl q_1057 dX12_digest_169 ?_
      cases hf
      exact x_lret C hW dX12_digest_172
    · have hf := if_f c10 hf
      refine lv_aload_n C.1 C.2.1 dX12_digest_106 rfl (lv_at hl 0 rfl) ?_
      refine lv_aload_n C.1 C.2.1 dX12_digest_107 rfl (lv_at hl 0 rfl) ?_
      refine x_getr C hW (ha0).1 (ha0).2.1 (j := 8) rfl kX12 (by decide) rfl q_1024 dX12_digest_108 ?_
      refine lv_iload_n C.1 C.2.1 dX12_digest_111 rfl (lv_at hl 1 rfl) ?_
      obtain ⟨g11, hf⟩ := gd_s hf
      refine x_iald C hW ha0.2.2.2.2.2.2.1 g11 dX12_digest_112 ?_
      refine lv_if_ge (tgt := 120) C.1 C.2.1 dX12_digest_113 (by decide) (fun c12 => ?_) (fun c12 => ?_)
      · have hf := if_t c12 hf
        refine lv_aload_n C.1 C.2.1 dX12_digest_120 rfl (lv_at hl 0 rfl) ?_
        refine x_getr C hW (ha0).1 (ha0).2.1 (j := 8) rfl kX12 (by decide) rfl q_1024 dX12_digest_121 ?_
        refine lv_iload_n C.1 C.2.1 dX12_digest_124 rfl (lv_at hl 1 rfl) ?_
        obtain ⟨g13, hf⟩ := gd_s hf
        refine x_iald C hW ha0.2.2.2.2.2.2.1 g13 dX12_digest_125 ?_
        exact wX12_digest_126 C hk101 ha0 ha0 hW (lv_sub hl [0, 1] rfl) hf
      · have hf := if_f c12 hf
        refine lv_iconst (v := (-1)) C.1 C.2.1 dX12_digest_116 (by decide) ?_
        refine lv_goto (tgt := 126) C.1 C.2.1 dX12_digest_117 (by decide) ?_
        exact wX12_digest_126 C hk101 ha0 ha0 hW (lv_sub hl [0, 1] rfl) hf
set_option maxRecDepth 100000 in
set_option maxHeartbeats 4000000 in
theorem wX12_digest_67 (C : Cx p s m meth c args cX12_digest 3 (some .long) RX12 D ca ad) {res : Int64 × Mm} {N : Nat} {k36 : Nat → Int32 → Mm → Option (Int64 × Mm)} (hk36 : ∀ (a0 : Nat) (a1 : Int32) (mm : Mm) (H : Heap) (locs : List Loc) (ls : Array Slot), (sX12 a0) → Wd D ca ad s.heap mm H locs → lv_has ls 3 [(0, .ref (ad a0)), (1, .int a1)] → k36 a0 a1 mm = some res → W p l e (rmX12_digest) s m args below meth c H locs 0 0 (MQ below (QL D ca ad res) args s 0 0 (AA ad)) (F0 m 36 ls [])) : ∀ (n : Nat) {a0 : Nat} {a1 : Int32} {a2 : Int32} {mm : Mm} {H : Heap} {locs : List Loc} {ls : Array Slot}, (sX12 a0) → Wd D ca ad s.heap mm H locs → lv_has ls 3 [(0, .ref (ad a0)), (1, .int a1), (2, .int a2)] → fX12_digest_67 N k36 n a0 a1 a2 mm = some res → W p l e (rmX12_digest) s m args below meth c H locs 0 0 (MQ below (QL D ca ad res) args s 0 0 (AA ad)) (F0 m 67 ls []) := by
  intro n
  induction n with
  | zero => intro a0 a1 a2 mm H locs ls ha0 hW hl hf; cases hf
  | succ n ih =>
    intro a0 a1 a2 mm H locs ls ha0 hW hl hf
    have hk67 : ∀ (a0 : Nat) (a1 : Int32) (a2 : Int32) (mm : Mm) (H : Heap) (locs : List Loc) (ls : Array Slot), (sX12 a0) → Wd D ca ad s.heap mm H locs → lv_has ls 3 [(0, .ref (ad a0)), (1, .int a1), (2, .int a2)] → (fX12_digest_67 N k36 n) a0 a1 a2 mm = some res → W p l e (rmX12_digest) s m args below meth c H locs 0 0 (MQ below (QL D ca ad res) args s 0 0 (AA ad)) (F0 m 67 ls []) := fun a0 a1 a2 mm H locs ls ha0 hW hl hf => ih ha0 hW hl hf
    unfold fX12_digest_67 at hf
    try dsimp only at hf
    refine lv_iload_n C.1 C.2.1 dX12_digest_67 rfl (lv_at hl 2 rfl) ?_
    refine lv_aload_n C.1 C.2.1 dX12_digest_68 rfl (lv_at hl 0 rfl) ?_
    refine x_getr C hW (ha0).1 (ha0).2.1 (j := 5) rfl kX12 (by decide) rfl q_1021 dX12_digest_69 ?_
    refine lv_iload_n C.1 C.2.1 dX12_digest_72 rfl (lv_at hl 1 rfl) ?_
    obtain ⟨g14, hf⟩ := gd_s hf
    refine x_iald C hW ha0.2.2.2.1 g14 dX12_digest_73 ?_
    refine lv_icmp_ge (tgt := 93) C.1 C.2.1 dX12_digest_74 (by decide) (fun c15 => ?_) (fun c15 => ?_)
    · have hf := if_t c15 hf
      refine lv_iinc (v := (a1 + 1)) (lv' := [(1, .int (a1 + 1)), (0, .ref (ad a0)), (2, .int a2)]) C.1 C.2.1 dX12_digest_93 hl (k := 1) rfl rfl (by decide) rfl (fun ls hl => ?_)
      refine lv_goto (tgt := 36) C.1 C.2.1 dX12_digest_96 (by decide) ?_
      exact hk36 _ _ _ _ _ _ ha0 hW (lv_sub hl [1, 0] rfl) hf
    · have hf := if_f c15 hf
      refine lv_aload_n C.1 C.2.1 dX12_digest_77 rfl (lv_at hl 0 rfl) ?_
      refine lv_aload_n C.1 C.2.1 dX12_digest_78 rfl (lv_at hl 0 rfl) ?_
      refine lv_iload_n C.1 C.2.1 dX12_digest_79 rfl (lv_at hl 1 rfl) ?_
      refine lv_iload_n C.1 C.2.1 dX12_digest_80 rfl (lv_at hl 2 rfl) ?_
      obtain ⟨x16, m17, r18, hf⟩ := bd2_s hf
      refine x_ci hW (x_runV C hW [.int a1, .int a2] [.ref (ad a0)] (ha0).1 (ha0).2.1 kX12.1 kvX12_rowAt q_1169 (tX12_rowAt l C.2.2.2.2.2.2.1 ha0 r18) rfl rfl ⟨by decide, by decide⟩ rfl hl.1 rfl (Nat.le_of_ble_eq_true rfl) dX12_digest_81) (fun H locs hW => ?_)
      obtain ⟨x19, m20, r21, hf⟩ := bd2_s hf
      refine x_cv hW (x_runV C hW [.int x16] [] (ha0).1 (ha0).2.1 kX12.1 kvX12_adding q_1572 (tX12_adding l C.2.2.2.2.2.2.1 ha0 r21) rfl rfl ⟨by decide, by decide⟩ rfl hl.1 rfl (Nat.le_of_ble_eq_true rfl) dX12_digest_84) (fun H locs hW => ?_)
      refine lv_iinc (v := (a2 + 1)) (lv' := [(2, .int (a2 + 1)), (0, .ref (ad a0)), (1, .int a1)]) C.1 C.2.1 dX12_digest_87 hl (k := 2) rfl rfl (by decide) rfl (fun ls hl => ?_)
      refine lv_goto (tgt := 67) C.1 C.2.1 dX12_digest_90 (by decide) ?_
      exact hk67 _ _ _ _ _ _ _ ha0 hW (lv_sub hl [1, 2, 0] rfl) hf
set_option maxRecDepth 100000 in
set_option maxHeartbeats 4000000 in
theorem wX12_digest_62 (C : Cx p s m meth c args cX12_digest 3 (some .long) RX12 D ca ad) {res : Int64 × Mm} {N : Nat} {k36 : Nat → Int32 → Mm → Option (Int64 × Mm)} (hk36 : ∀ (a0 : Nat) (a1 : Int32) (mm : Mm) (H : Heap) (locs : List Loc) (ls : Array Slot), (sX12 a0) → Wd D ca ad s.heap mm H locs → lv_has ls 3 [(0, .ref (ad a0)), (1, .int a1)] → k36 a0 a1 mm = some res → W p l e (rmX12_digest) s m args below meth c H locs 0 0 (MQ below (QL D ca ad res) args s 0 0 (AA ad)) (F0 m 36 ls [])) {a0 : Nat} {a1 : Int32} {s0 : Nat} {s1 : Int32} {mm : Mm} {H : Heap} {locs : List Loc} {ls : Array Slot} (ha0 : sX12 a0) (hs0 : sX12 s0) (hW : Wd D ca ad s.heap mm H locs) (hl : lv_has ls 3 [(0, .ref (ad a0)), (1, .int a1)]) (hf : fX12_digest_62 N k36 a0 a1 s0 s1 mm = some res) : W p l e (rmX12_digest) s m args below meth c H locs 0 0 (MQ below (QL D ca ad res) args s 0 0 (AA ad)) (F0 m 62 ls [.int s1, .ref (ad s0)]) := by
  unfold fX12_digest_62 at hf
  obtain ⟨x22, m23, r24, hf⟩ := bd2_s hf
  refine x_cv hW (x_runV C hW [.int s1] [] (hs0).1 (hs0).2.1 kX12.1 kvX12_adding q_1572 (tX12_adding l C.2.2.2.2.2.2.1 hs0 r24) rfl rfl ⟨by decide, by decide⟩ rfl hl.1 rfl (Nat.le_of_ble_eq_true rfl) dX12_digest_62) (fun H locs hW => ?_)
  refine lv_iconst (v := 0) C.1 C.2.1 dX12_digest_65 (by decide) ?_
  refine lv_istore_n (lv' := [(2, .int 0), (0, .ref (ad a0)), (1, .int a1)]) C.1 C.2.1 dX12_digest_66 rfl hl (by decide) rfl (fun ls hl => ?_)
  exact wX12_digest_67 C hk36 N ha0 hW (lv_sub hl [1, 2, 0] rfl) hf
set_option maxRecDepth 100000 in
set_option maxHeartbeats 4000000 in
theorem wX12_digest_36 (C : Cx p s m meth c args cX12_digest 3 (some .long) RX12 D ca ad) {res : Int64 × Mm} {N : Nat}  : ∀ (n : Nat) {a0 : Nat} {a1 : Int32} {mm : Mm} {H : Heap} {locs : List Loc} {ls : Array Slot}, (sX12 a0) → Wd D ca ad s.heap mm H locs → lv_has ls 3 [(0, .ref (ad a0)), (1, .int a1)] → fX12_digest_36 N n a0 a1 mm = some res → W p l e (rmX12_digest) s m args below meth c H locs 0 0 (MQ below (QL D ca ad res) args s 0 0 (AA ad)) (F0 m 36 ls []) := by
  intro n
  induction n with
  | zero => intro a0 a1 mm H locs ls ha0 hW hl hf; cases hf
  | succ n ih =>
    intro a0 a1 mm H locs ls ha0 hW hl hf
    have hk36 : ∀ (a0 : Nat) (a1 : Int32) (mm : Mm) (H : Heap) (locs : List Loc) (ls : Array Slot), (sX12 a0) → Wd D ca ad s.heap mm H locs → lv_has ls 3 [(0, .ref (ad a0)), (1, .int a1)] → (fX12_digest_36 N n) a0 a1 mm = some res → W p l e (rmX12_digest) s m args below meth c H locs 0 0 (MQ below (QL D ca ad res) args s 0 0 (AA ad)) (F0 m 36 ls []) := fun a0 a1 mm H locs ls ha0 hW hl hf => ih ha0 hW hl hf
    unfold fX12_digest_36 at hf
    try dsimp only at hf
    refine lv_iload_n C.1 C.2.1 dX12_digest_36 rfl (lv_at hl 1 rfl) ?_
    refine lv_bipush (v := 6) C.1 C.2.1 dX12_digest_37 (by decide) ?_
    refine lv_icmp_ge (tgt := 99) C.1 C.2.1 dX12_digest_39 (by decide) (fun c25 => ?_) (fun c25 => ?_)
    · have hf := if_t c25 hf
      refine lv_iconst (v := 0) C.1 C.2.1 dX12_digest_99 (by decide) ?_
      refine lv_istore_n (lv' := [(1, .int 0), (0, .ref (ad a0))]) C.1 C.2.1 dX12_digest_100 rfl hl (by decide) rfl (fun ls hl => ?_)
      exact wX12_digest_101 C  N ha0 hW (lv_sub hl [1, 0] rfl) hf
    · have hf := if_f c25 hf
      refine lv_aload_n C.1 C.2.1 dX12_digest_42 rfl (lv_at hl 0 rfl) ?_
      refine lv_aload_n C.1 C.2.1 dX12_digest_43 rfl (lv_at hl 0 rfl) ?_
      refine x_getr C hW (ha0).1 (ha0).2.1 (j := 5) rfl kX12 (by decide) rfl q_1021 dX12_digest_44 ?_
      refine lv_iload_n C.1 C.2.1 dX12_digest_47 rfl (lv_at hl 1 rfl) ?_
      obtain ⟨g26, hf⟩ := gd_s hf
      refine x_iald C hW ha0.2.2.2.1 g26 dX12_digest_48 ?_
      refine lv_if_ge (tgt := 56) C.1 C.2.1 dX12_digest_49 (by decide) (fun c27 => ?_) (fun c27 => ?_)
      · have hf := if_t c27 hf
        refine lv_aload_n C.1 C.2.1 dX12_digest_56 rfl (lv_at hl 0 rfl) ?_
        refine x_getr C hW (ha0).1 (ha0).2.1 (j := 5) rfl kX12 (by decide) rfl q_1021 dX12_digest_57 ?_
        refine lv_iload_n C.1 C.2.1 dX12_digest_60 rfl (lv_at hl 1 rfl) ?_
        obtain ⟨g28, hf⟩ := gd_s hf
        refine x_iald C hW ha0.2.2.2.1 g28 dX12_digest_61 ?_
        exact wX12_digest_62 C hk36 ha0 ha0 hW (lv_sub hl [0, 1] rfl) hf
      · have hf := if_f c27 hf
        refine lv_iconst (v := (-1)) C.1 C.2.1 dX12_digest_52 (by decide) ?_
        refine lv_goto (tgt := 62) C.1 C.2.1 dX12_digest_53 (by decide) ?_
        exact wX12_digest_62 C hk36 ha0 ha0 hW (lv_sub hl [0, 1] rfl) hf
set_option maxRecDepth 100000 in
set_option maxHeartbeats 4000000 in
theorem wX12_digest_9 (C : Cx p s m meth c args cX12_digest 3 (some .long) RX12 D ca ad) {res : Int64 × Mm} {N : Nat}  : ∀ (n : Nat) {a0 : Nat} {a1 : Int32} {mm : Mm} {H : Heap} {locs : List Loc} {ls : Array Slot}, (sX12 a0) → Wd D ca ad s.heap mm H locs → lv_has ls 3 [(0, .ref (ad a0)), (1, .int a1)] → fX12_digest_9 N n a0 a1 mm = some res → W p l e (rmX12_digest) s m args below meth c H locs 0 0 (MQ below (QL D ca ad res) args s 0 0 (AA ad)) (F0 m 9 ls []) := by
  intro n
  induction n with
  | zero => intro a0 a1 mm H locs ls ha0 hW hl hf; cases hf
  | succ n ih =>
    intro a0 a1 mm H locs ls ha0 hW hl hf
    have hk9 : ∀ (a0 : Nat) (a1 : Int32) (mm : Mm) (H : Heap) (locs : List Loc) (ls : Array Slot), (sX12 a0) → Wd D ca ad s.heap mm H locs → lv_has ls 3 [(0, .ref (ad a0)), (1, .int a1)] → (fX12_digest_9 N n) a0 a1 mm = some res → W p l e (rmX12_digest) s m args below meth c H locs 0 0 (MQ below (QL D ca ad res) args s 0 0 (AA ad)) (F0 m 9 ls []) := fun a0 a1 mm H locs ls ha0 hW hl hf => ih ha0 hW hl hf
    unfold fX12_digest_9 at hf
    try dsimp only at hf
    refine lv_iload_n C.1 C.2.1 dX12_digest_9 rfl (lv_at hl 1 rfl) ?_
    refine lv_bipush (v := 7) C.1 C.2.1 dX12_digest_10 (by decide) ?_
    refine lv_icmp_gt (tgt := 30) C.1 C.2.1 dX12_digest_12 (by decide) (fun c29 => ?_) (fun c29 => ?_)
    · have hf := if_t c29 hf
      refine lv_aload_n C.1 C.2.1 dX12_digest_30 rfl (lv_at hl 0 rfl) ?_
      obtain ⟨x30, m31, r32, hf⟩ := bd2_s hf
      refine x_cv hW (x_runV C hW [] [] (ha0).1 (ha0).2.1 kX12.1 kvX12_mixCourt q_1577 (tX12_mixCourt l C.2.2.2.2.2.2.1 ha0 r32) rfl rfl ⟨by decide, by decide⟩ rfl hl.1 rfl (Nat.le_of_ble_eq_true rfl) dX12_digest_31) (fun H locs hW => ?_)
      refine lv_iconst (v := 0) C.1 C.2.1 dX12_digest_34 (by decide) ?_
      refine lv_istore_n (lv' := [(1, .int 0), (0, .ref (ad a0))]) C.1 C.2.1 dX12_digest_35 rfl hl (by decide) rfl (fun ls hl => ?_)
      exact wX12_digest_36 C  N ha0 hW (lv_sub hl [1, 0] rfl) hf
    · have hf := if_f c29 hf
      refine lv_aload_n C.1 C.2.1 dX12_digest_15 rfl (lv_at hl 0 rfl) ?_
      refine lv_aload_n C.1 C.2.1 dX12_digest_16 rfl (lv_at hl 0 rfl) ?_
      refine lv_iload_n C.1 C.2.1 dX12_digest_17 rfl (lv_at hl 1 rfl) ?_
      obtain ⟨x33, m34, r35, hf⟩ := bd2_s hf
      refine x_ci hW (x_runV C hW [.int a1] [.ref (ad a0)] (ha0).1 (ha0).2.1 kX12.1 kvX12_counts q_1555 (tX12_counts l C.2.2.2.2.2.2.1 ha0 r35) rfl rfl ⟨by decide, by decide⟩ rfl hl.1 rfl (Nat.le_of_ble_eq_true rfl) dX12_digest_18) (fun H locs hW => ?_)
      obtain ⟨x36, m37, r38, hf⟩ := bd2_s hf
      refine x_cv hW (x_runV C hW [.int x33] [] (ha0).1 (ha0).2.1 kX12.1 kvX12_adding q_1572 (tX12_adding l C.2.2.2.2.2.2.1 ha0 r38) rfl rfl ⟨by decide, by decide⟩ rfl hl.1 rfl (Nat.le_of_ble_eq_true rfl) dX12_digest_21) (fun H locs hW => ?_)
      refine lv_iinc (v := (a1 + 1)) (lv' := [(1, .int (a1 + 1)), (0, .ref (ad a0))]) C.1 C.2.1 dX12_digest_24 hl (k := 1) rfl rfl (by decide) rfl (fun ls hl => ?_)
      refine lv_goto (tgt := 9) C.1 C.2.1 dX12_digest_27 (by decide) ?_
      exact hk9 _ _ _ _ _ _ ha0 hW (lv_sub hl [1, 0] rfl) hf
set_option maxRecDepth 100000 in
set_option maxHeartbeats 4000000 in
theorem wX12_digest_0 (C : Cx p s m meth c args cX12_digest 3 (some .long) RX12 D ca ad) {res : Int64 × Mm} {N : Nat}  {a0 : Nat} {mm : Mm} {H : Heap} {locs : List Loc} {ls : Array Slot} (ha0 : sX12 a0) (hW : Wd D ca ad s.heap mm H locs) (hl : lv_has ls 3 [(0, .ref (ad a0))]) (hf : fX12_digest N a0 mm = some res) : W p l e (rmX12_digest) s m args below meth c H locs 0 0 (MQ below (QL D ca ad res) args s 0 0 (AA ad)) (F0 m 0 ls []) := by
  unfold fX12_digest at hf
  refine lv_aload_n C.1 C.2.1 dX12_digest_0 rfl (lv_at hl 0 rfl) ?_
  refine lv_ldc2 C.1 C.2.1 C.2.2.2.1 (C.2.2.2.2.1 _ q_1571) dX12_digest_1 ?_
  refine x_putL C hW (ha0).1 (ha0).2.1 (j := 41) rfl kX12 (by decide) rfl rfl q_1057 (by decide +kernel) dX12_digest_4 (fun H locs hW => ?_)
  obtain ⟨m39, em39⟩ : ∃ z, z = wrL mm a0 41 17 := ⟨_, rfl⟩
  have hf := nm_s hf em39
  rw [← em39] at hW
  refine lv_iconst (v := 0) C.1 C.2.1 dX12_digest_7 (by decide) ?_
  refine lv_istore_n (lv' := [(1, .int 0), (0, .ref (ad a0))]) C.1 C.2.1 dX12_digest_8 rfl hl (by decide) rfl (fun ls hl => ?_)
  exact wX12_digest_9 C  N ha0 hW (lv_sub hl [1, 0] rfl) hf
set_option maxRecDepth 100000 in
set_option maxHeartbeats 4000000 in
theorem tX12_digest (l : Launch) {D : va_G} {ca ad : Nat → Nat} (hi : Inj ad) {N : Nat} {a0 : Nat} {mm : Mm} {res : Int64 × Mm} (ha0 : sX12 a0) (hf : fX12_digest N a0 mm = some res) : Met l yX12_digest (WS yX12_digest cX12_digest 3 (some .long)) (rmX12_digest) (va_Pc [.ref (ad a0)] (WB D ca ad mm)) (QL D ca ad res) 0 0 (AA ad) := by
  refine x_start hi (by decide) rfl (Nat.le_of_ble_eq_true rfl) (fun p e s m args below meth c ls C hW hl => ?_)
  exact wX12_digest_0 C ha0 hW (lv_sub hl [0] rfl) hf
end W_model29
