theorem dX11_note_0 : decode cX11_note 0 = .ok (.aload_n 0, 1) := by decide +kernel
theorem dX11_note_1 : decode cX11_note 1 = .ok (.iload_n 1, 1) := by decide +kernel
theorem dX11_note_2 : decode cX11_note 2 = .ok (.invokevirtual 96, 3) := by decide +kernel
theorem dX11_note_5 : decode cX11_note 5 = .ok (.astore_n 3, 1) := by decide +kernel
theorem dX11_note_6 : decode cX11_note 6 = .ok (.aload_n 3, 1) := by decide +kernel
theorem dX11_note_7 : decode cX11_note 7 = .ok (.ifnull 20, 3) := by decide +kernel
theorem dX11_note_10 : decode cX11_note 10 = .ok (.iload_n 2, 1) := by decide +kernel
theorem dX11_note_11 : decode cX11_note 11 = .ok (.ifCond .lt 16, 3) := by decide +kernel
theorem dX11_note_14 : decode cX11_note 14 = .ok (.iload_n 2, 1) := by decide +kernel
theorem dX11_note_15 : decode cX11_note 15 = .ok (.iconst 1, 1) := by decide +kernel
theorem dX11_note_16 : decode cX11_note 16 = .ok (.aload_n 0, 1) := by decide +kernel
theorem dX11_note_17 : decode cX11_note 17 = .ok (.getfield 21, 3) := by decide +kernel
theorem dX11_note_20 : decode cX11_note 20 = .ok (.getfield 158, 3) := by decide +kernel
theorem dX11_note_23 : decode cX11_note 23 = .ok (.ishl, 1) := by decide +kernel
theorem dX11_note_24 : decode cX11_note 24 = .ok (.if_icmp .lt 5, 3) := by decide +kernel
theorem dX11_note_27 : decode cX11_note 27 = .ok (.iconst (-1), 1) := by decide +kernel
theorem dX11_note_28 : decode cX11_note 28 = .ok (.ireturn, 1) := by decide +kernel
theorem dX11_note_29 : decode cX11_note 29 = .ok (.aload_n 0, 1) := by decide +kernel
theorem dX11_note_30 : decode cX11_note 30 = .ok (.aload_n 3, 1) := by decide +kernel
theorem dX11_note_31 : decode cX11_note 31 = .ok (.iconst 0, 1) := by decide +kernel
theorem dX11_note_32 : decode cX11_note 32 = .ok (.invokevirtual 226, 3) := by decide +kernel
theorem dX11_note_35 : decode cX11_note 35 = .ok (.ifCond .eq 6, 3) := by decide +kernel
theorem dX11_note_38 : decode cX11_note 38 = .ok (.bipush (-3), 2) := by decide +kernel
theorem dX11_note_40 : decode cX11_note 40 = .ok (.ireturn, 1) := by decide +kernel
theorem dX11_note_41 : decode cX11_note 41 = .ok (.aload_n 0, 1) := by decide +kernel
theorem dX11_note_42 : decode cX11_note 42 = .ok (.getfield 21, 3) := by decide +kernel
theorem dX11_note_45 : decode cX11_note 45 = .ok (.getfield 325, 3) := by decide +kernel
theorem dX11_note_48 : decode cX11_note 48 = .ok (.bipush 8, 2) := by decide +kernel
theorem dX11_note_50 : decode cX11_note 50 = .ok (.if_icmp .lt 6, 3) := by decide +kernel
theorem dX11_note_53 : decode cX11_note 53 = .ok (.bipush (-2), 2) := by decide +kernel
theorem dX11_note_55 : decode cX11_note 55 = .ok (.ireturn, 1) := by decide +kernel
theorem dX11_note_56 : decode cX11_note 56 = .ok (.aload_n 0, 1) := by decide +kernel
theorem dX11_note_57 : decode cX11_note 57 = .ok (.getfield 21, 3) := by decide +kernel
theorem dX11_note_60 : decode cX11_note 60 = .ok (.aload_n 3, 1) := by decide +kernel
theorem dX11_note_61 : decode cX11_note 61 = .ok (.getfield 116, 3) := by decide +kernel
theorem dX11_note_64 : decode cX11_note 64 = .ok (.iload_n 2, 1) := by decide +kernel
theorem dX11_note_65 : decode cX11_note 65 = .ok (.invokevirtual 333, 3) := by decide +kernel
theorem dX11_note_68 : decode cX11_note 68 = .ok (.aload_n 0, 1) := by decide +kernel
theorem dX11_note_69 : decode cX11_note 69 = .ok (.getfield 21, 3) := by decide +kernel
theorem dX11_note_72 : decode cX11_note 72 = .ok (.getfield 325, 3) := by decide +kernel
theorem dX11_note_75 : decode cX11_note 75 = .ok (.iconst 1, 1) := by decide +kernel
theorem dX11_note_76 : decode cX11_note 76 = .ok (.isub, 1) := by decide +kernel
theorem dX11_note_77 : decode cX11_note 77 = .ok (.ireturn, 1) := by decide +kernel
theorem dX11_rules_0 : decode cX11_rules 0 = .ok (.aload_n 0, 1) := by decide +kernel
theorem dX11_rules_1 : decode cX11_rules 1 = .ok (.getfield 21, 3) := by decide +kernel
theorem dX11_rules_4 : decode cX11_rules 4 = .ok (.getfield 158, 3) := by decide +kernel
theorem dX11_rules_7 : decode cX11_rules 7 = .ok (.ifCond .ne 9, 3) := by decide +kernel
theorem dX11_rules_10 : decode cX11_rules 10 = .ok (.aload_n 0, 1) := by decide +kernel
theorem dX11_rules_11 : decode cX11_rules 11 = .ok (.iconst 4, 1) := by decide +kernel
theorem dX11_rules_12 : decode cX11_rules 12 = .ok (.invokevirtual 100, 3) := by decide +kernel
theorem dX11_rules_15 : decode cX11_rules 15 = .ok (.ireturn, 1) := by decide +kernel
theorem dX11_rules_16 : decode cX11_rules 16 = .ok (.aload_n 0, 1) := by decide +kernel
theorem dX11_rules_17 : decode cX11_rules 17 = .ok (.getfield 81, 3) := by decide +kernel
theorem dX11_rules_20 : decode cX11_rules 20 = .ok (.aload_n 0, 1) := by decide +kernel
theorem dX11_rules_21 : decode cX11_rules 21 = .ok (.getfield 21, 3) := by decide +kernel
theorem dX11_rules_24 : decode cX11_rules 24 = .ok (.invokevirtual 336, 3) := by decide +kernel
theorem dX11_rules_27 : decode cX11_rules 27 = .ok (.istore_n 1, 1) := by decide +kernel
theorem dX11_rules_28 : decode cX11_rules 28 = .ok (.aload_n 0, 1) := by decide +kernel
theorem dX11_rules_29 : decode cX11_rules 29 = .ok (.aload_n 0, 1) := by decide +kernel
theorem dX11_rules_30 : decode cX11_rules 30 = .ok (.getfield 81, 3) := by decide +kernel
theorem dX11_rules_33 : decode cX11_rules 33 = .ok (.aload_n 0, 1) := by decide +kernel
theorem dX11_rules_34 : decode cX11_rules 34 = .ok (.getfield 21, 3) := by decide +kernel
theorem dX11_rules_37 : decode cX11_rules 37 = .ok (.iload_n 1, 1) := by decide +kernel
theorem dX11_rules_38 : decode cX11_rules 38 = .ok (.invokevirtual 340, 3) := by decide +kernel
theorem dX11_rules_41 : decode cX11_rules 41 = .ok (.putfield 217, 3) := by decide +kernel
theorem dX11_rules_44 : decode cX11_rules 44 = .ok (.iload_n 1, 1) := by decide +kernel
theorem dX11_rules_45 : decode cX11_rules 45 = .ok (.ireturn, 1) := by decide +kernel
theorem dX11_reply_0 : decode cX11_reply 0 = .ok (.aload_n 0, 1) := by decide +kernel
theorem dX11_reply_1 : decode cX11_reply 1 = .ok (.iload_n 1, 1) := by decide +kernel
theorem dX11_reply_2 : decode cX11_reply 2 = .ok (.invokevirtual 96, 3) := by decide +kernel
theorem dX11_reply_5 : decode cX11_reply 5 = .ok (.astore_n 2, 1) := by decide +kernel
theorem dX11_reply_6 : decode cX11_reply 6 = .ok (.aload_n 2, 1) := by decide +kernel
theorem dX11_reply_7 : decode cX11_reply 7 = .ok (.ifnonnull 5, 3) := by decide +kernel
theorem dX11_reply_10 : decode cX11_reply 10 = .ok (.iconst (-1), 1) := by decide +kernel
theorem dX11_reply_11 : decode cX11_reply 11 = .ok (.ireturn, 1) := by decide +kernel
theorem dX11_reply_12 : decode cX11_reply 12 = .ok (.aload_n 0, 1) := by decide +kernel
theorem dX11_reply_13 : decode cX11_reply 13 = .ok (.getfield 21, 3) := by decide +kernel
theorem dX11_reply_16 : decode cX11_reply 16 = .ok (.getfield 158, 3) := by decide +kernel
theorem dX11_reply_19 : decode cX11_reply 19 = .ok (.ifCond .ne 9, 3) := by decide +kernel
theorem dX11_reply_22 : decode cX11_reply 22 = .ok (.aload_n 0, 1) := by decide +kernel
theorem dX11_reply_23 : decode cX11_reply 23 = .ok (.iconst 4, 1) := by decide +kernel
theorem dX11_reply_24 : decode cX11_reply 24 = .ok (.invokevirtual 100, 3) := by decide +kernel
theorem dX11_reply_27 : decode cX11_reply 27 = .ok (.ireturn, 1) := by decide +kernel
theorem dX11_reply_28 : decode cX11_reply 28 = .ok (.aload_n 0, 1) := by decide +kernel
theorem dX11_reply_29 : decode cX11_reply 29 = .ok (.getfield 81, 3) := by decide +kernel
theorem dX11_reply_32 : decode cX11_reply 32 = .ok (.aload_n 0, 1) := by decide +kernel
theorem dX11_reply_33 : decode cX11_reply 33 = .ok (.getfield 21, 3) := by decide +kernel
theorem dX11_reply_36 : decode cX11_reply 36 = .ok (.invokevirtual 336, 3) := by decide +kernel
theorem dX11_reply_39 : decode cX11_reply 39 = .ok (.istore_n 3, 1) := by decide +kernel
theorem dX11_reply_40 : decode cX11_reply 40 = .ok (.iload_n 3, 1) := by decide +kernel
theorem dX11_reply_41 : decode cX11_reply 41 = .ok (.ifCond .ne 6, 3) := by decide +kernel
theorem dX11_reply_44 : decode cX11_reply 44 = .ok (.bipush (-9), 2) := by decide +kernel
theorem dX11_reply_46 : decode cX11_reply 46 = .ok (.ireturn, 1) := by decide +kernel
theorem dX11_reply_47 : decode cX11_reply 47 = .ok (.iload_n 3, 1) := by decide +kernel
theorem dX11_reply_48 : decode cX11_reply 48 = .ok (.invokestatic 344, 3) := by decide +kernel
theorem dX11_reply_51 : decode cX11_reply 51 = .ok (.istore 4, 2) := by decide +kernel
theorem dX11_reply_53 : decode cX11_reply 53 = .ok (.aload_n 0, 1) := by decide +kernel
theorem dX11_reply_54 : decode cX11_reply 54 = .ok (.getfield 81, 3) := by decide +kernel
theorem dX11_reply_57 : decode cX11_reply 57 = .ok (.aload_n 0, 1) := by decide +kernel
theorem dX11_reply_58 : decode cX11_reply 58 = .ok (.getfield 21, 3) := by decide +kernel
theorem dX11_reply_61 : decode cX11_reply 61 = .ok (.iload 4, 2) := by decide +kernel
theorem dX11_reply_63 : decode cX11_reply 63 = .ok (.aload_n 0, 1) := by decide +kernel
theorem dX11_reply_64 : decode cX11_reply 64 = .ok (.getfield 21, 3) := by decide +kernel
theorem dX11_reply_67 : decode cX11_reply 67 = .ok (.getfield 325, 3) := by decide +kernel
theorem dX11_reply_70 : decode cX11_reply 70 = .ok (.invokevirtual 328, 3) := by decide +kernel
theorem dX11_reply_73 : decode cX11_reply 73 = .ok (.aload_n 0, 1) := by decide +kernel
theorem dX11_reply_74 : decode cX11_reply 74 = .ok (.getfield 53, 3) := by decide +kernel
theorem dX11_reply_77 : decode cX11_reply 77 = .ok (.aload_n 0, 1) := by decide +kernel
theorem dX11_reply_78 : decode cX11_reply 78 = .ok (.getfield 21, 3) := by decide +kernel
theorem dX11_reply_81 : decode cX11_reply 81 = .ok (.aload_n 0, 1) := by decide +kernel
theorem dX11_reply_82 : decode cX11_reply 82 = .ok (.getfield 21, 3) := by decide +kernel
theorem dX11_reply_85 : decode cX11_reply 85 = .ok (.getfield 181, 3) := by decide +kernel
theorem dX11_reply_88 : decode cX11_reply 88 = .ok (.aload_n 0, 1) := by decide +kernel
theorem dX11_reply_89 : decode cX11_reply 89 = .ok (.getfield 81, 3) := by decide +kernel
theorem dX11_reply_92 : decode cX11_reply 92 = .ok (.getfield 332, 3) := by decide +kernel
theorem dX11_reply_95 : decode cX11_reply 95 = .ok (.aload_n 0, 1) := by decide +kernel
theorem dX11_reply_96 : decode cX11_reply 96 = .ok (.getfield 21, 3) := by decide +kernel
theorem dX11_reply_99 : decode cX11_reply 99 = .ok (.getfield 188, 3) := by decide +kernel
theorem dX11_reply_102 : decode cX11_reply 102 = .ok (.iconst 0, 1) := by decide +kernel
theorem dX11_reply_103 : decode cX11_reply 103 = .ok (.iaload, 1) := by decide +kernel
theorem dX11_reply_104 : decode cX11_reply 104 = .ok (.invokevirtual 229, 3) := by decide +kernel
theorem dX11_reply_107 : decode cX11_reply 107 = .ok (.aload_n 2, 1) := by decide +kernel
theorem dX11_reply_108 : decode cX11_reply 108 = .ok (.aload_n 0, 1) := by decide +kernel
theorem dX11_reply_109 : decode cX11_reply 109 = .ok (.getfield 53, 3) := by decide +kernel
theorem dX11_reply_112 : decode cX11_reply 112 = .ok (.getfield 233, 3) := by decide +kernel
theorem dX11_reply_115 : decode cX11_reply 115 = .ok (.aload_n 0, 1) := by decide +kernel
theorem dX11_reply_116 : decode cX11_reply 116 = .ok (.getfield 21, 3) := by decide +kernel
theorem dX11_reply_119 : decode cX11_reply 119 = .ok (.getfield 158, 3) := by decide +kernel
theorem dX11_reply_122 : decode cX11_reply 122 = .ok (.invokevirtual 236, 3) := by decide +kernel
theorem dX11_reply_125 : decode cX11_reply 125 = .ok (.aload_n 0, 1) := by decide +kernel
theorem dX11_reply_126 : decode cX11_reply 126 = .ok (.iload 4, 2) := by decide +kernel
theorem dX11_reply_128 : decode cX11_reply 128 = .ok (.putfield 217, 3) := by decide +kernel
theorem dX11_reply_131 : decode cX11_reply 131 = .ok (.aload_n 0, 1) := by decide +kernel
theorem dX11_reply_132 : decode cX11_reply 132 = .ok (.getfield 53, 3) := by decide +kernel
theorem dX11_reply_135 : decode cX11_reply 135 = .ok (.getfield 243, 3) := by decide +kernel
theorem dX11_reply_138 : decode cX11_reply 138 = .ok (.ireturn, 1) := by decide +kernel
theorem dX11_tell_0 : decode cX11_tell 0 = .ok (.aload_n 0, 1) := by decide +kernel
theorem dX11_tell_1 : decode cX11_tell 1 = .ok (.iload_n 1, 1) := by decide +kernel
theorem dX11_tell_2 : decode cX11_tell 2 = .ok (.invokevirtual 96, 3) := by decide +kernel
theorem dX11_tell_5 : decode cX11_tell 5 = .ok (.astore_n 2, 1) := by decide +kernel
theorem dX11_tell_6 : decode cX11_tell 6 = .ok (.aload_n 2, 1) := by decide +kernel
theorem dX11_tell_7 : decode cX11_tell 7 = .ok (.ifnonnull 5, 3) := by decide +kernel
theorem dX11_tell_10 : decode cX11_tell 10 = .ok (.iconst (-1), 1) := by decide +kernel
theorem dX11_tell_11 : decode cX11_tell 11 = .ok (.ireturn, 1) := by decide +kernel
theorem dX11_tell_12 : decode cX11_tell 12 = .ok (.aload_n 0, 1) := by decide +kernel
theorem dX11_tell_13 : decode cX11_tell 13 = .ok (.iconst 0, 1) := by decide +kernel
theorem dX11_tell_14 : decode cX11_tell 14 = .ok (.invokevirtual 268, 3) := by decide +kernel
theorem dX11_tell_17 : decode cX11_tell 17 = .ok (.ifCond .eq 6, 3) := by decide +kernel
theorem dX11_tell_20 : decode cX11_tell 20 = .ok (.bipush (-6), 2) := by decide +kernel
theorem dX11_tell_22 : decode cX11_tell 22 = .ok (.ireturn, 1) := by decide +kernel
theorem dX11_tell_23 : decode cX11_tell 23 = .ok (.aload_n 0, 1) := by decide +kernel
theorem dX11_tell_24 : decode cX11_tell 24 = .ok (.getfield 21, 3) := by decide +kernel
theorem dX11_tell_27 : decode cX11_tell 27 = .ok (.getfield 158, 3) := by decide +kernel
theorem dX11_tell_30 : decode cX11_tell 30 = .ok (.ifCond .ne 9, 3) := by decide +kernel
theorem dX11_tell_33 : decode cX11_tell 33 = .ok (.aload_n 0, 1) := by decide +kernel
theorem dX11_tell_34 : decode cX11_tell 34 = .ok (.iconst 4, 1) := by decide +kernel
theorem dX11_tell_35 : decode cX11_tell 35 = .ok (.invokevirtual 100, 3) := by decide +kernel
theorem dX11_tell_38 : decode cX11_tell 38 = .ok (.ireturn, 1) := by decide +kernel
theorem dX11_tell_39 : decode cX11_tell 39 = .ok (.aload_n 0, 1) := by decide +kernel
theorem dX11_tell_40 : decode cX11_tell 40 = .ok (.getfield 81, 3) := by decide +kernel
theorem dX11_tell_43 : decode cX11_tell 43 = .ok (.aload_n 0, 1) := by decide +kernel
theorem dX11_tell_44 : decode cX11_tell 44 = .ok (.getfield 21, 3) := by decide +kernel
theorem dX11_tell_47 : decode cX11_tell 47 = .ok (.aload_n 0, 1) := by decide +kernel
theorem dX11_tell_48 : decode cX11_tell 48 = .ok (.getfield 81, 3) := by decide +kernel
theorem dX11_tell_51 : decode cX11_tell 51 = .ok (.aload_n 0, 1) := by decide +kernel
theorem dX11_tell_52 : decode cX11_tell 52 = .ok (.getfield 21, 3) := by decide +kernel
theorem dX11_tell_55 : decode cX11_tell 55 = .ok (.invokevirtual 336, 3) := by decide +kernel
theorem dX11_tell_58 : decode cX11_tell 58 = .ok (.invokevirtual 347, 3) := by decide +kernel
theorem dX11_tell_61 : decode cX11_tell 61 = .ok (.aload_n 0, 1) := by decide +kernel
theorem dX11_tell_62 : decode cX11_tell 62 = .ok (.getfield 46, 3) := by decide +kernel
theorem dX11_tell_65 : decode cX11_tell 65 = .ok (.aload_n 0, 1) := by decide +kernel
theorem dX11_tell_66 : decode cX11_tell 66 = .ok (.getfield 21, 3) := by decide +kernel
theorem dX11_tell_69 : decode cX11_tell 69 = .ok (.getfield 158, 3) := by decide +kernel
theorem dX11_tell_72 : decode cX11_tell 72 = .ok (.aload_n 0, 1) := by decide +kernel
theorem dX11_tell_73 : decode cX11_tell 73 = .ok (.getfield 21, 3) := by decide +kernel
theorem dX11_tell_76 : decode cX11_tell 76 = .ok (.getfield 188, 3) := by decide +kernel
theorem dX11_tell_79 : decode cX11_tell 79 = .ok (.iconst 0, 1) := by decide +kernel
theorem dX11_tell_80 : decode cX11_tell 80 = .ok (.iaload, 1) := by decide +kernel
theorem dX11_tell_81 : decode cX11_tell 81 = .ok (.invokevirtual 250, 3) := by decide +kernel
theorem dX11_tell_84 : decode cX11_tell 84 = .ok (.iconst (-1), 1) := by decide +kernel
theorem dX11_tell_85 : decode cX11_tell 85 = .ok (.istore_n 3, 1) := by decide +kernel
theorem dX11_tell_86 : decode cX11_tell 86 = .ok (.iconst 0, 1) := by decide +kernel
theorem dX11_tell_87 : decode cX11_tell 87 = .ok (.istore 4, 2) := by decide +kernel
theorem dX11_tell_89 : decode cX11_tell 89 = .ok (.iconst 0, 1) := by decide +kernel
theorem dX11_tell_90 : decode cX11_tell 90 = .ok (.istore 5, 2) := by decide +kernel
theorem dX11_tell_92 : decode cX11_tell 92 = .ok (.iload 4, 2) := by decide +kernel
theorem dX11_tell_94 : decode cX11_tell 94 = .ok (.ifCond .lt 74, 3) := by decide +kernel
theorem dX11_tell_97 : decode cX11_tell 97 = .ok (.iload 5, 2) := by decide +kernel
theorem dX11_tell_99 : decode cX11_tell 99 = .ok (.ldc 253, 2) := by decide +kernel
theorem dX11_tell_101 : decode cX11_tell 101 = .ok (.if_icmp .ge 67, 3) := by decide +kernel
theorem dX11_tell_104 : decode cX11_tell 104 = .ok (.aload_n 0, 1) := by decide +kernel
theorem dX11_tell_105 : decode cX11_tell 105 = .ok (.getfield 81, 3) := by decide +kernel
theorem dX11_tell_108 : decode cX11_tell 108 = .ok (.aload_n 0, 1) := by decide +kernel
theorem dX11_tell_109 : decode cX11_tell 109 = .ok (.getfield 21, 3) := by decide +kernel
theorem dX11_tell_112 : decode cX11_tell 112 = .ok (.aload_n 0, 1) := by decide +kernel
theorem dX11_tell_113 : decode cX11_tell 113 = .ok (.getfield 46, 3) := by decide +kernel
theorem dX11_tell_116 : decode cX11_tell 116 = .ok (.getfield 254, 3) := by decide +kernel
theorem dX11_tell_119 : decode cX11_tell 119 = .ok (.iload 4, 2) := by decide +kernel
theorem dX11_tell_121 : decode cX11_tell 121 = .ok (.invokevirtual 351, 3) := by decide +kernel
theorem dX11_tell_124 : decode cX11_tell 124 = .ok (.istore 6, 2) := by decide +kernel
theorem dX11_tell_126 : decode cX11_tell 126 = .ok (.iload 6, 2) := by decide +kernel
theorem dX11_tell_128 : decode cX11_tell 128 = .ok (.iload_n 3, 1) := by decide +kernel
theorem dX11_tell_129 : decode cX11_tell 129 = .ok (.if_icmp .le 24, 3) := by decide +kernel
theorem dX11_tell_132 : decode cX11_tell 132 = .ok (.iload 6, 2) := by decide +kernel
theorem dX11_tell_134 : decode cX11_tell 134 = .ok (.istore_n 3, 1) := by decide +kernel
theorem dX11_tell_135 : decode cX11_tell 135 = .ok (.aload_n 2, 1) := by decide +kernel
theorem dX11_tell_136 : decode cX11_tell 136 = .ok (.aload_n 0, 1) := by decide +kernel
theorem dX11_tell_137 : decode cX11_tell 137 = .ok (.getfield 46, 3) := by decide +kernel
theorem dX11_tell_140 : decode cX11_tell 140 = .ok (.getfield 254, 3) := by decide +kernel
theorem dX11_tell_143 : decode cX11_tell 143 = .ok (.aload_n 0, 1) := by decide +kernel
theorem dX11_tell_144 : decode cX11_tell 144 = .ok (.getfield 21, 3) := by decide +kernel
theorem dX11_tell_147 : decode cX11_tell 147 = .ok (.getfield 158, 3) := by decide +kernel
theorem dX11_tell_150 : decode cX11_tell 150 = .ok (.invokevirtual 236, 3) := by decide +kernel
theorem dX11_tell_153 : decode cX11_tell 153 = .ok (.aload_n 0, 1) := by decide +kernel
theorem dX11_tell_154 : decode cX11_tell 154 = .ok (.getfield 46, 3) := by decide +kernel
theorem dX11_tell_157 : decode cX11_tell 157 = .ok (.invokevirtual 257, 3) := by decide +kernel
theorem dX11_tell_160 : decode cX11_tell 160 = .ok (.istore 4, 2) := by decide +kernel
theorem dX11_tell_162 : decode cX11_tell 162 = .ok (.iinc 5 1, 3) := by decide +kernel
theorem dX11_tell_165 : decode cX11_tell 165 = .ok (.goto (-73), 3) := by decide +kernel
theorem dX11_tell_168 : decode cX11_tell 168 = .ok (.iload_n 3, 1) := by decide +kernel
theorem dX11_tell_169 : decode cX11_tell 169 = .ok (.ireturn, 1) := by decide +kernel
theorem dX11_keptOf_0 : decode cX11_keptOf 0 = .ok (.iload_n 1, 1) := by decide +kernel
theorem dX11_keptOf_1 : decode cX11_keptOf 1 = .ok (.ifCond .lt 8, 3) := by decide +kernel
theorem dX11_keptOf_4 : decode cX11_keptOf 4 = .ok (.iload_n 1, 1) := by decide +kernel
theorem dX11_keptOf_5 : decode cX11_keptOf 5 = .ok (.iconst 3, 1) := by decide +kernel
theorem dX11_keptOf_6 : decode cX11_keptOf 6 = .ok (.if_icmp .lt 7, 3) := by decide +kernel
theorem dX11_keptOf_9 : decode cX11_keptOf 9 = .ok (.aconst_null, 1) := by decide +kernel
theorem dX11_keptOf_10 : decode cX11_keptOf 10 = .ok (.goto 9, 3) := by decide +kernel
theorem dX11_keptOf_13 : decode cX11_keptOf 13 = .ok (.aload_n 0, 1) := by decide +kernel
theorem dX11_keptOf_14 : decode cX11_keptOf 14 = .ok (.getfield 25, 3) := by decide +kernel
theorem dX11_keptOf_17 : decode cX11_keptOf 17 = .ok (.iload_n 1, 1) := by decide +kernel
theorem dX11_keptOf_18 : decode cX11_keptOf 18 = .ok (.aaload, 1) := by decide +kernel
theorem dX11_keptOf_19 : decode cX11_keptOf 19 = .ok (.areturn, 1) := by decide +kernel
theorem dX11_keep_0 : decode cX11_keep 0 = .ok (.aload_n 0, 1) := by decide +kernel
theorem dX11_keep_1 : decode cX11_keep 1 = .ok (.iload_n 1, 1) := by decide +kernel
theorem dX11_keep_2 : decode cX11_keep 2 = .ok (.invokevirtual 354, 3) := by decide +kernel
theorem dX11_keep_5 : decode cX11_keep 5 = .ok (.astore_n 2, 1) := by decide +kernel
theorem dX11_keep_6 : decode cX11_keep 6 = .ok (.aload_n 2, 1) := by decide +kernel
theorem dX11_keep_7 : decode cX11_keep 7 = .ok (.ifnonnull 5, 3) := by decide +kernel
theorem dX11_keep_10 : decode cX11_keep 10 = .ok (.iconst (-1), 1) := by decide +kernel
theorem dX11_keep_11 : decode cX11_keep 11 = .ok (.ireturn, 1) := by decide +kernel
theorem dX11_keep_12 : decode cX11_keep 12 = .ok (.aload_n 0, 1) := by decide +kernel
theorem dX11_keep_13 : decode cX11_keep 13 = .ok (.getfield 21, 3) := by decide +kernel
theorem dX11_keep_16 : decode cX11_keep 16 = .ok (.getfield 158, 3) := by decide +kernel
theorem dX11_keep_19 : decode cX11_keep 19 = .ok (.ifCond .ne 6, 3) := by decide +kernel
theorem dX11_keep_22 : decode cX11_keep 22 = .ok (.bipush (-4), 2) := by decide +kernel
theorem dX11_keep_24 : decode cX11_keep 24 = .ok (.ireturn, 1) := by decide +kernel
theorem dX11_keep_25 : decode cX11_keep 25 = .ok (.aload_n 2, 1) := by decide +kernel
theorem dX11_keep_26 : decode cX11_keep 26 = .ok (.aload_n 0, 1) := by decide +kernel
theorem dX11_keep_27 : decode cX11_keep 27 = .ok (.getfield 21, 3) := by decide +kernel
theorem dX11_keep_30 : decode cX11_keep 30 = .ok (.invokevirtual 358, 3) := by decide +kernel
theorem dX11_keep_33 : decode cX11_keep 33 = .ok (.aload_n 2, 1) := by decide +kernel
theorem dX11_keep_34 : decode cX11_keep 34 = .ok (.iconst 1, 1) := by decide +kernel
theorem dX11_keep_35 : decode cX11_keep 35 = .ok (.putfield 151, 3) := by decide +kernel
theorem dX11_keep_38 : decode cX11_keep 38 = .ok (.aload_n 2, 1) := by decide +kernel
theorem dX11_keep_39 : decode cX11_keep 39 = .ok (.getfield 325, 3) := by decide +kernel
theorem dX11_keep_42 : decode cX11_keep 42 = .ok (.ireturn, 1) := by decide +kernel
theorem dX11_on_0 : decode cX11_on 0 = .ok (.aload_n 0, 1) := by decide +kernel
theorem dX11_on_1 : decode cX11_on 1 = .ok (.iload_n 1, 1) := by decide +kernel
theorem dX11_on_2 : decode cX11_on 2 = .ok (.invokevirtual 354, 3) := by decide +kernel
theorem dX11_on_5 : decode cX11_on 5 = .ok (.astore_n 2, 1) := by decide +kernel
theorem dX11_on_6 : decode cX11_on 6 = .ok (.aload_n 2, 1) := by decide +kernel
theorem dX11_on_7 : decode cX11_on 7 = .ok (.ifnonnull 5, 3) := by decide +kernel
theorem dX11_on_10 : decode cX11_on 10 = .ok (.iconst (-1), 1) := by decide +kernel
theorem dX11_on_11 : decode cX11_on 11 = .ok (.ireturn, 1) := by decide +kernel
theorem dX11_on_12 : decode cX11_on 12 = .ok (.aload_n 2, 1) := by decide +kernel
theorem dX11_on_13 : decode cX11_on 13 = .ok (.getfield 151, 3) := by decide +kernel
theorem dX11_on_16 : decode cX11_on 16 = .ok (.ifCond .ne 9, 3) := by decide +kernel
theorem dX11_on_19 : decode cX11_on 19 = .ok (.aload_n 0, 1) := by decide +kernel
theorem dX11_on_20 : decode cX11_on 20 = .ok (.iconst 1, 1) := by decide +kernel
theorem dX11_on_21 : decode cX11_on 21 = .ok (.invokevirtual 100, 3) := by decide +kernel
theorem dX11_on_24 : decode cX11_on 24 = .ok (.ireturn, 1) := by decide +kernel
theorem dX11_on_25 : decode cX11_on 25 = .ok (.aload_n 0, 1) := by decide +kernel
theorem dX11_on_26 : decode cX11_on 26 = .ok (.getfield 21, 3) := by decide +kernel
theorem dX11_on_29 : decode cX11_on 29 = .ok (.aload_n 2, 1) := by decide +kernel
theorem dX11_on_30 : decode cX11_on 30 = .ok (.invokevirtual 358, 3) := by decide +kernel
theorem dX11_on_33 : decode cX11_on 33 = .ok (.aload_n 0, 1) := by decide +kernel
theorem dX11_on_34 : decode cX11_on 34 = .ok (.getfield 74, 3) := by decide +kernel
theorem dX11_on_37 : decode cX11_on 37 = .ok (.invokevirtual 155, 3) := by decide +kernel
theorem dX11_on_40 : decode cX11_on 40 = .ok (.aload_n 0, 1) := by decide +kernel
theorem dX11_on_41 : decode cX11_on 41 = .ok (.getfield 21, 3) := by decide +kernel
theorem dX11_on_44 : decode cX11_on 44 = .ok (.getfield 325, 3) := by decide +kernel
theorem dX11_on_47 : decode cX11_on 47 = .ok (.ireturn, 1) := by decide +kernel
theorem dX11_asked_0 : decode cX11_asked 0 = .ok (.aload_n 0, 1) := by decide +kernel
theorem dX11_asked_1 : decode cX11_asked 1 = .ok (.getfield 217, 3) := by decide +kernel
theorem dX11_asked_4 : decode cX11_asked 4 = .ok (.ireturn, 1) := by decide +kernel
theorem dX11_upper_0 : decode cX11_upper 0 = .ok (.aload_n 0, 1) := by decide +kernel
theorem dX11_upper_1 : decode cX11_upper 1 = .ok (.getfield 361, 3) := by decide +kernel
theorem dX11_upper_4 : decode cX11_upper 4 = .ok (.lreturn, 1) := by decide +kernel
theorem dX11_lower_0 : decode cX11_lower 0 = .ok (.aload_n 0, 1) := by decide +kernel
theorem dX11_lower_1 : decode cX11_lower 1 = .ok (.getfield 89, 3) := by decide +kernel
theorem dX11_lower_4 : decode cX11_lower 4 = .ok (.lreturn, 1) := by decide +kernel
theorem dX11_keptCourts_0 : decode cX11_keptCourts 0 = .ok (.iconst 0, 1) := by decide +kernel
theorem dX11_keptCourts_1 : decode cX11_keptCourts 1 = .ok (.istore_n 1, 1) := by decide +kernel
theorem dX11_keptCourts_2 : decode cX11_keptCourts 2 = .ok (.iconst 0, 1) := by decide +kernel
theorem dX11_keptCourts_3 : decode cX11_keptCourts 3 = .ok (.istore_n 2, 1) := by decide +kernel
theorem dX11_keptCourts_4 : decode cX11_keptCourts 4 = .ok (.iload_n 2, 1) := by decide +kernel
theorem dX11_keptCourts_5 : decode cX11_keptCourts 5 = .ok (.iconst 3, 1) := by decide +kernel
theorem dX11_keptCourts_6 : decode cX11_keptCourts 6 = .ok (.if_icmp .ge 24, 3) := by decide +kernel
theorem dX11_keptCourts_9 : decode cX11_keptCourts 9 = .ok (.aload_n 0, 1) := by decide +kernel
theorem dX11_keptCourts_10 : decode cX11_keptCourts 10 = .ok (.getfield 25, 3) := by decide +kernel
theorem dX11_keptCourts_13 : decode cX11_keptCourts 13 = .ok (.iload_n 2, 1) := by decide +kernel
theorem dX11_keptCourts_14 : decode cX11_keptCourts 14 = .ok (.aaload, 1) := by decide +kernel
theorem dX11_keptCourts_15 : decode cX11_keptCourts 15 = .ok (.getfield 151, 3) := by decide +kernel
theorem dX11_keptCourts_18 : decode cX11_keptCourts 18 = .ok (.ifCond .eq 6, 3) := by decide +kernel
theorem dX11_keptCourts_21 : decode cX11_keptCourts 21 = .ok (.iinc 1 1, 3) := by decide +kernel
theorem dX11_keptCourts_24 : decode cX11_keptCourts 24 = .ok (.iinc 2 1, 3) := by decide +kernel
theorem dX11_keptCourts_27 : decode cX11_keptCourts 27 = .ok (.goto (-23), 3) := by decide +kernel
theorem dX11_keptCourts_30 : decode cX11_keptCourts 30 = .ok (.iload_n 1, 1) := by decide +kernel
theorem dX11_keptCourts_31 : decode cX11_keptCourts 31 = .ok (.ireturn, 1) := by decide +kernel
theorem dX11_there_0 : decode cX11_there 0 = .ok (.iconst 0, 1) := by decide +kernel
theorem dX11_there_1 : decode cX11_there 1 = .ok (.istore_n 1, 1) := by decide +kernel
theorem dX11_there_2 : decode cX11_there 2 = .ok (.iconst 0, 1) := by decide +kernel
theorem dX11_there_3 : decode cX11_there 3 = .ok (.istore_n 2, 1) := by decide +kernel
theorem dX11_there_4 : decode cX11_there 4 = .ok (.iload_n 2, 1) := by decide +kernel
theorem dX11_there_5 : decode cX11_there 5 = .ok (.aload_n 0, 1) := by decide +kernel
theorem dX11_there_6 : decode cX11_there 6 = .ok (.arraylength, 1) := by decide +kernel
theorem dX11_there_7 : decode cX11_there 7 = .ok (.if_icmp .ge 21, 3) := by decide +kernel
theorem dX11_there_10 : decode cX11_there 10 = .ok (.aload_n 0, 1) := by decide +kernel
theorem dX11_there_11 : decode cX11_there 11 = .ok (.iload_n 2, 1) := by decide +kernel
theorem dX11_there_12 : decode cX11_there 12 = .ok (.aaload, 1) := by decide +kernel
theorem dX11_there_13 : decode cX11_there 13 = .ok (.invokevirtual 108, 3) := by decide +kernel
theorem dX11_there_16 : decode cX11_there 16 = .ok (.ifCond .ne 6, 3) := by decide +kernel
theorem dX11_there_19 : decode cX11_there 19 = .ok (.iinc 1 1, 3) := by decide +kernel
theorem dX11_there_22 : decode cX11_there 22 = .ok (.iinc 2 1, 3) := by decide +kernel
theorem dX11_there_25 : decode cX11_there 25 = .ok (.goto (-21), 3) := by decide +kernel
theorem dX11_there_28 : decode cX11_there 28 = .ok (.iload_n 1, 1) := by decide +kernel
theorem dX11_there_29 : decode cX11_there 29 = .ok (.ireturn, 1) := by decide +kernel
theorem dX11_count_0 : decode cX11_count 0 = .ok (.iload_n 1, 1) := by decide +kernel
theorem dX11_count_1 : decode cX11_count 1 = .ok (.tableswitch 110 0 7 #[47, 55, 63, 72, 81, 89, 94, 102], 47) := by decide +kernel
theorem dX11_count_48 : decode cX11_count 48 = .ok (.aload_n 0, 1) := by decide +kernel
theorem dX11_count_49 : decode cX11_count 49 = .ok (.getfield 21, 3) := by decide +kernel
theorem dX11_count_52 : decode cX11_count 52 = .ok (.getfield 158, 3) := by decide +kernel
theorem dX11_count_55 : decode cX11_count 55 = .ok (.ireturn, 1) := by decide +kernel
theorem dX11_count_56 : decode cX11_count 56 = .ok (.aload_n 0, 1) := by decide +kernel
theorem dX11_count_57 : decode cX11_count 57 = .ok (.getfield 21, 3) := by decide +kernel
theorem dX11_count_60 : decode cX11_count 60 = .ok (.invokevirtual 210, 3) := by decide +kernel
theorem dX11_count_63 : decode cX11_count 63 = .ok (.ireturn, 1) := by decide +kernel
theorem dX11_count_64 : decode cX11_count 64 = .ok (.aload_n 0, 1) := by decide +kernel
theorem dX11_count_65 : decode cX11_count 65 = .ok (.getfield 21, 3) := by decide +kernel
theorem dX11_count_68 : decode cX11_count 68 = .ok (.iconst 1, 1) := by decide +kernel
theorem dX11_count_69 : decode cX11_count 69 = .ok (.invokevirtual 171, 3) := by decide +kernel
theorem dX11_count_72 : decode cX11_count 72 = .ok (.ireturn, 1) := by decide +kernel
theorem dX11_count_73 : decode cX11_count 73 = .ok (.aload_n 0, 1) := by decide +kernel
theorem dX11_count_74 : decode cX11_count 74 = .ok (.getfield 21, 3) := by decide +kernel
theorem dX11_count_77 : decode cX11_count 77 = .ok (.iconst 3, 1) := by decide +kernel
theorem dX11_count_78 : decode cX11_count 78 = .ok (.invokevirtual 171, 3) := by decide +kernel
theorem dX11_count_81 : decode cX11_count 81 = .ok (.ireturn, 1) := by decide +kernel
theorem dX11_count_82 : decode cX11_count 82 = .ok (.aload_n 0, 1) := by decide +kernel
theorem dX11_count_83 : decode cX11_count 83 = .ok (.getfield 21, 3) := by decide +kernel
theorem dX11_count_86 : decode cX11_count 86 = .ok (.getfield 325, 3) := by decide +kernel
theorem dX11_count_89 : decode cX11_count 89 = .ok (.ireturn, 1) := by decide +kernel
theorem dX11_count_90 : decode cX11_count 90 = .ok (.aload_n 0, 1) := by decide +kernel
theorem dX11_count_91 : decode cX11_count 91 = .ok (.invokevirtual 364, 3) := by decide +kernel
theorem dX11_count_94 : decode cX11_count 94 = .ok (.ireturn, 1) := by decide +kernel
theorem dX11_count_95 : decode cX11_count 95 = .ok (.aload_n 0, 1) := by decide +kernel
theorem dX11_count_96 : decode cX11_count 96 = .ok (.getfield 11, 3) := by decide +kernel
theorem dX11_count_99 : decode cX11_count 99 = .ok (.invokestatic 367, 3) := by decide +kernel
theorem dX11_count_102 : decode cX11_count 102 = .ok (.ireturn, 1) := by decide +kernel
theorem dX11_count_103 : decode cX11_count 103 = .ok (.aload_n 0, 1) := by decide +kernel
theorem dX11_count_104 : decode cX11_count 104 = .ok (.getfield 15, 3) := by decide +kernel
theorem dX11_count_107 : decode cX11_count 107 = .ok (.invokestatic 367, 3) := by decide +kernel
theorem dX11_count_110 : decode cX11_count 110 = .ok (.ireturn, 1) := by decide +kernel
theorem dX11_count_111 : decode cX11_count 111 = .ok (.iconst (-1), 1) := by decide +kernel
theorem dX11_count_112 : decode cX11_count 112 = .ok (.ireturn, 1) := by decide +kernel
theorem q_719 : Cond.methodLink RX11 333 yX0_write ∈ wT := wi_t 719 (by decide +kernel) (by decide +kernel)
theorem q_722 : Cond.code yX0_write cX0_write 3 none ∈ wT := wi_t 722 (by decide +kernel) (by decide +kernel)
theorem q_720 : Cond.instanceMethod yX0_write ∈ wT := wi_t 720 (by decide +kernel) (by decide +kernel)
theorem q_721 : Cond.selects RX0 yX0_write yX0_write ∈ wT := wi_t 721 (by decide +kernel) (by decide +kernel)
theorem q_729 : Cond.methodLink RX11 336 yX2_fitting ∈ wT := wi_t 729 (by decide +kernel) (by decide +kernel)
theorem q_732 : Cond.code yX2_fitting cX2_fitting 4 (some .int) ∈ wT := wi_t 732 (by decide +kernel) (by decide +kernel)
theorem q_730 : Cond.instanceMethod yX2_fitting ∈ wT := wi_t 730 (by decide +kernel) (by decide +kernel)
theorem q_731 : Cond.selects RX2 yX2_fitting yX2_fitting ∈ wT := wi_t 731 (by decide +kernel) (by decide +kernel)
theorem q_747 : Cond.methodLink RX11 340 yX2_unlikeLayings ∈ wT := wi_t 747 (by decide +kernel) (by decide +kernel)
theorem q_750 : Cond.code yX2_unlikeLayings cX2_unlikeLayings 4 (some .int) ∈ wT := wi_t 750 (by decide +kernel) (by decide +kernel)
theorem q_748 : Cond.instanceMethod yX2_unlikeLayings ∈ wT := wi_t 748 (by decide +kernel) (by decide +kernel)
theorem q_749 : Cond.selects RX2 yX2_unlikeLayings yX2_unlikeLayings ∈ wT := wi_t 749 (by decide +kernel) (by decide +kernel)
theorem q_768 : Cond.methodLink RX11 344 yX2_firstOf ∈ wT := wi_t 768 (by decide +kernel) (by decide +kernel)
theorem q_770 : Cond.code yX2_firstOf cX2_firstOf 2 (some .int) ∈ wT := wi_t 770 (by decide +kernel) (by decide +kernel)
theorem q_769 : Cond.static yX2_firstOf ∈ wT := wi_t 769 (by decide +kernel) (by decide +kernel)
theorem q_776 : Cond.methodLink RX11 351 yX2_unlikeSets ∈ wT := wi_t 776 (by decide +kernel) (by decide +kernel)
theorem q_779 : Cond.code yX2_unlikeSets cX2_unlikeSets 5 (some .int) ∈ wT := wi_t 779 (by decide +kernel) (by decide +kernel)
theorem q_777 : Cond.instanceMethod yX2_unlikeSets ∈ wT := wi_t 777 (by decide +kernel) (by decide +kernel)
theorem q_778 : Cond.selects RX2 yX2_unlikeSets yX2_unlikeSets ∈ wT := wi_t 778 (by decide +kernel) (by decide +kernel)
theorem q_775 : Cond.methodLink RX11 347 yX2_prepare ∈ wT := wi_t 775 (by decide +kernel) (by decide +kernel)
theorem q_784 : Cond.methodLink RX11 354 yX11_keptOf ∈ wT := wi_t 784 (by decide +kernel) (by decide +kernel)
theorem q_787 : Cond.code yX11_keptOf cX11_keptOf 2 (some (.object "HeavyFiles$Court")) ∈ wT := wi_t 787 (by decide +kernel) (by decide +kernel)
theorem q_786 : Cond.instanceMethod yX11_keptOf ∈ wT := wi_t 786 (by decide +kernel) (by decide +kernel)
theorem qs_23 : Cond.selects RX11 yX11_keptOf yX11_keptOf ∈ wT := wi_s (q := (yX11_keptOf, 17)) 23 (by decide +kernel) (by decide +kernel)
theorem q_788 : Cond.methodLink RX11 358 yX0_take ∈ wT := wi_t 788 (by decide +kernel) (by decide +kernel)
theorem q_791 : Cond.code yX0_take cX0_take 3 none ∈ wT := wi_t 791 (by decide +kernel) (by decide +kernel)
theorem q_789 : Cond.instanceMethod yX0_take ∈ wT := wi_t 789 (by decide +kernel) (by decide +kernel)
theorem q_790 : Cond.selects RX0 yX0_take yX0_take ∈ wT := wi_t 790 (by decide +kernel) (by decide +kernel)
theorem q_816 : Cond.methodLink RX11 171 yX0_howMany ∈ wT := wi_t 816 (by decide +kernel) (by decide +kernel)
theorem q_819 : Cond.code yX0_howMany cX0_howMany 4 (some .int) ∈ wT := wi_t 819 (by decide +kernel) (by decide +kernel)
theorem q_817 : Cond.instanceMethod yX0_howMany ∈ wT := wi_t 817 (by decide +kernel) (by decide +kernel)
theorem q_818 : Cond.selects RX0 yX0_howMany yX0_howMany ∈ wT := wi_t 818 (by decide +kernel) (by decide +kernel)
theorem q_824 : Cond.methodLink RX11 364 yX11_keptCourts ∈ wT := wi_t 824 (by decide +kernel) (by decide +kernel)
theorem q_827 : Cond.code yX11_keptCourts cX11_keptCourts 3 (some .int) ∈ wT := wi_t 827 (by decide +kernel) (by decide +kernel)
theorem q_826 : Cond.instanceMethod yX11_keptCourts ∈ wT := wi_t 826 (by decide +kernel) (by decide +kernel)
theorem qs_24 : Cond.selects RX11 yX11_keptCourts yX11_keptCourts ∈ wT := wi_s (q := (yX11_keptCourts, 17)) 24 (by decide +kernel) (by decide +kernel)
theorem q_828 : Cond.methodLink RX11 367 yX11_there ∈ wT := wi_t 828 (by decide +kernel) (by decide +kernel)
theorem q_830 : Cond.code yX11_there cX11_there 3 (some .int) ∈ wT := wi_t 830 (by decide +kernel) (by decide +kernel)
theorem q_829 : Cond.static yX11_there ∈ wT := wi_t 829 (by decide +kernel) (by decide +kernel)
theorem kvX0_write : KV yX0_write RX0 cX0_write 3 none 2 := ⟨q_720, q_721, q_2, q_722, rfl, by decide +kernel, by decide +kernel, by decide +kernel⟩
theorem kvX2_fitting : KV yX2_fitting RX2 cX2_fitting 4 (some .int) 1 := ⟨q_730, q_731, q_11, q_732, rfl, by decide +kernel, by decide +kernel, by decide +kernel⟩
theorem kvX2_unlikeLayings : KV yX2_unlikeLayings RX2 cX2_unlikeLayings 4 (some .int) 2 := ⟨q_748, q_749, q_11, q_750, rfl, by decide +kernel, by decide +kernel, by decide +kernel⟩
theorem kvX2_firstOf : KS yX2_firstOf cX2_firstOf 2 (some .int) 1 := ⟨q_769, q_11, q_770, by decide +kernel, by decide +kernel, by decide +kernel⟩
theorem kvX2_unlikeSets : KV yX2_unlikeSets RX2 cX2_unlikeSets 5 (some .int) 3 := ⟨q_777, q_778, q_11, q_779, rfl, by decide +kernel, by decide +kernel, by decide +kernel⟩
theorem kvX11_keptOf : KV yX11_keptOf RX11 cX11_keptOf 2 (some (.object "HeavyFiles$Court")) 1 := ⟨q_786, qs_23, q_1, q_787, rfl, by decide +kernel, by decide +kernel, by decide +kernel⟩
theorem kvX0_take : KV yX0_take RX0 cX0_take 3 none 1 := ⟨q_789, q_790, q_2, q_791, rfl, by decide +kernel, by decide +kernel, by decide +kernel⟩
theorem kvX0_howMany : KV yX0_howMany RX0 cX0_howMany 4 (some .int) 1 := ⟨q_817, q_818, q_2, q_819, rfl, by decide +kernel, by decide +kernel, by decide +kernel⟩
theorem kvX11_keptCourts : KV yX11_keptCourts RX11 cX11_keptCourts 3 (some .int) 0 := ⟨q_826, qs_24, q_1, q_827, rfl, by decide +kernel, by decide +kernel, by decide +kernel⟩
theorem kvX11_there : KS yX11_there cX11_there 3 (some .int) 1 := ⟨q_829, q_1, q_830, by decide +kernel, by decide +kernel, by decide +kernel⟩
/-! HeavyFiles.note(II)I -/
def fX11_note (N : Nat)  (a0 : Nat) (a1 : Int32) (a2 : Int32) (mm : Mm) : Option (Int32 × Mm) :=
  bd2 (fX11_rowOf N a0 a1 mm) fun x1 m2 => cs x1 (some ((-1), m2)) (fun z4 => if a2 < 0 then (some ((-1), m2)) else (if a2 < (1 <<< ((rd m2 (fr a0 2) 5) &&& 31)) then (bd2 (fX11_isWrong N a0 z4 0 m2) fun x8 m9 => if x8 = 0 then (if (rd m9 (fr a0 2) 7) < 8 then (bd2 (fX0_write N (fr a0 2) (fr z4 0) a2 m9) fun x13 m14 => some ((rd m14 (fr a0 2) 7) - 1, m14)) else (some ((-2), m9))) else (some ((-3), m9))) else (some ((-1), m2))))
abbrev rmX11_note : Room := { frames := 5, cells := 0, slots := 0, locals := 165 }
/-! HeavyFiles.rules()I -/
def fX11_rules (N : Nat)  (a0 : Nat) (mm : Mm) : Option (Int32 × Mm) :=
  if (rd mm (fr a0 2) 5) = 0 then (bd2 (fX11_refused N a0 4 mm) fun x9 m10 => some (x9, m10)) else (bd2 (fX2_fitting N (fr a0 11) (fr a0 2) mm) fun x2 m3 => bd2 (fX2_unlikeLayings N (fr a0 11) (fr a0 2) x2 m3) fun x5 m6 => nm (wr m6 a0 14 x5) fun m8 => some (x2, m8))
abbrev rmX11_rules : Room := { frames := 6, cells := 0, slots := 0, locals := 201 }
/-! HeavyFiles.reply(I)I -/
def fX11_reply (N : Nat)  (a0 : Nat) (a1 : Int32) (mm : Mm) : Option (Int32 × Mm) :=
  bd2 (fX11_rowOf N a0 a1 mm) fun x1 m2 => cs x1 (some ((-1), m2)) (fun z4 => if (rd m2 (fr a0 2) 5) = 0 then (bd2 (fX11_refused N a0 4 m2) fun x25 m26 => some (x25, m26)) else (bd2 (fX2_fitting N (fr a0 11) (fr a0 2) m2) fun x7 m8 => if x7 = 0 then (some ((-9), m8)) else (bd2 (fX2_firstOf N x7 m8) fun x11 m12 => bd2 (fX2_layBy N (fr a0 11) (fr a0 2) x11 (rd m12 (fr a0 2) 7) m12) fun x14 m15 => gd (inb 0 (ln (fr (fr a0 2) 1))) <| bd2 (fX8_run N (fr a0 7) (fr a0 2) (rd m15 (fr a0 2) 6) (fr (fr a0 11) 0) (rd m15 (fr (fr a0 2) 1) ((0 : Int32).toNatClampNeg)) m15) fun x18 m19 => bd2 (fX6_take N z4 (fr (fr a0 7) 0) (rd m19 (fr a0 2) 5) m19) fun x21 m22 => nm (wr m22 a0 14 x11) fun m24 => some (rd m24 (fr a0 7) 1, m24))))
abbrev rmX11_reply : Room := { frames := 16, cells := 0, slots := 0, locals := 861 }
/-! HeavyFiles.tell(I)I -/
def fX11_tell_153 (N : Nat) (k92 : Nat → Nat → Int32 → Int32 → Int32 → Mm → Option (Int32 × Mm)) (a0 : Nat) (a2 : Nat) (a3 : Int32) (a5 : Int32) (mm : Mm) : Option (Int32 × Mm) :=
  bd2 (fX3_next N (fr a0 6) mm) fun x1 m2 => k92 a0 a2 a3 x1 (a5 + 1) m2
def fX11_tell_92 (N : Nat)  : Nat → Nat → Nat → Int32 → Int32 → Int32 → Mm → Option (Int32 × Mm)
  | 0 => fun _ _ _ _ _ _ => none
  | n + 1 => fun a0 a2 a3 a4 a5 mm =>
    let k92 := fX11_tell_92 N  n
    if a4 < 0 then (some (a3, mm)) else (if (1000000 : Int32) ≤ a5 then (some (a3, mm)) else (bd2 (fX2_unlikeSets N (fr a0 11) (fr a0 2) (fr (fr a0 6) 0) a4 mm) fun x6 m7 => if x6 ≤ a3 then (fX11_tell_153 N k92 a0 a2 a3 a5 m7) else (bd2 (fX6_take N a2 (fr (fr a0 6) 0) (rd m7 (fr a0 2) 5) m7) fun x10 m11 => fX11_tell_153 N k92 a0 a2 x6 a5 m11)))
def fX11_tell (N : Nat)  (a0 : Nat) (a1 : Int32) (mm : Mm) : Option (Int32 × Mm) :=
  bd2 (fX11_rowOf N a0 a1 mm) fun x13 m14 => cs x13 (some ((-1), m14)) (fun z16 => bd2 (fX11_isTooMuch N a0 0 m14) fun x18 m19 => if x18 = 0 then (if (rd m19 (fr a0 2) 5) = 0 then (bd2 (fX11_refused N a0 4 m19) fun x33 m34 => some (x33, m34)) else (bd2 (fX2_fitting N (fr a0 11) (fr a0 2) m19) fun x23 m24 => bd2 (fX2_prepare N (fr a0 11) (fr a0 2) x23 m24) fun x26 m27 => gd (inb 0 (ln (fr (fr a0 2) 1))) <| bd2 (fX3_begin N (fr a0 6) (rd m27 (fr a0 2) 5) (rd m27 (fr (fr a0 2) 1) ((0 : Int32).toNatClampNeg)) m27) fun x30 m31 => fX11_tell_92 N N a0 z16 (-1) 0 0 m31)) else (some ((-6), m19)))
abbrev rmX11_tell : Room := { frames := 6, cells := 0, slots := 0, locals := 201 }
/-! HeavyFiles.keptOf(I)LHeavyFiles$Court; -/
def fX11_keptOf (N : Nat)  (a0 : Nat) (a1 : Int32) (mm : Mm) : Option (Option Nat × Mm) :=
  if a1 < 0 then (some (none, mm)) else (if a1 < 3 then (gd (inb a1 (ln (fr a0 3))) <| some (some (el (fr a0 3) a1.toNatClampNeg), mm)) else (some (none, mm)))
abbrev rmX11_keptOf : Room := { frames := 1, cells := 0, slots := 0, locals := 40 }
/-! HeavyFiles.keep(I)I -/
def fX11_keep (N : Nat)  (a0 : Nat) (a1 : Int32) (mm : Mm) : Option (Int32 × Mm) :=
  bd2 (fX11_keptOf N a0 a1 mm) fun x1 m2 => cs x1 (some ((-1), m2)) (fun z4 => if (rd m2 (fr a0 2) 5) = 0 then (some ((-4), m2)) else (bd2 (fX0_take N z4 (fr a0 2) m2) fun x7 m8 => nm (wr m8 z4 8 1) fun m10 => some (rd m10 z4 7, m10)))
abbrev rmX11_keep : Room := { frames := 3, cells := 0, slots := 0, locals := 101 }
/-! HeavyFiles.on(I)I -/
def fX11_on (N : Nat)  (a0 : Nat) (a1 : Int32) (mm : Mm) : Option (Int32 × Mm) :=
  bd2 (fX11_keptOf N a0 a1 mm) fun x1 m2 => cs x1 (some ((-1), m2)) (fun z4 => if (rd m2 z4 8) = 0 then (bd2 (fX11_refused N a0 1 m2) fun x13 m14 => some (x13, m14)) else (bd2 (fX0_take N (fr a0 2) z4 m2) fun x7 m8 => bd2 (fX10_forget N (fr a0 10) m8) fun x10 m11 => some (rd m11 (fr a0 2) 7, m11)))
abbrev rmX11_on : Room := { frames := 3, cells := 0, slots := 0, locals := 101 }
/-! HeavyFiles.asked()I -/
def fX11_asked (N : Nat)  (a0 : Nat) (mm : Mm) : Option (Int32 × Mm) :=
  some (rd mm a0 14, mm)
abbrev rmX11_asked : Room := { frames := 1, cells := 0, slots := 0, locals := 40 }
/-! HeavyFiles.upper()J -/
def fX11_upper (N : Nat)  (a0 : Nat) (mm : Mm) : Option (Int64 × Mm) :=
  some (rdL mm a0 15, mm)
abbrev rmX11_upper : Room := { frames := 1, cells := 0, slots := 0, locals := 40 }
/-! HeavyFiles.lower()J -/
def fX11_lower (N : Nat)  (a0 : Nat) (mm : Mm) : Option (Int64 × Mm) :=
  some (rdL mm a0 16, mm)
abbrev rmX11_lower : Room := { frames := 1, cells := 0, slots := 0, locals := 40 }
/-! HeavyFiles.keptCourts()I -/
def fX11_keptCourts_24 (N : Nat) (k4 : Nat → Int32 → Int32 → Mm → Option (Int32 × Mm)) (a0 : Nat) (a1 : Int32) (a2 : Int32) (mm : Mm) : Option (Int32 × Mm) :=
  k4 a0 a1 (a2 + 1) mm
def fX11_keptCourts_4 (N : Nat)  : Nat → Nat → Int32 → Int32 → Mm → Option (Int32 × Mm)
  | 0 => fun _ _ _ _ => none
  | n + 1 => fun a0 a1 a2 mm =>
    let k4 := fX11_keptCourts_4 N  n
    if (3 : Int32) ≤ a2 then (some (a1, mm)) else (gd (inb a2 (ln (fr a0 3))) <| if (rd mm (el (fr a0 3) a2.toNatClampNeg) 8) = 0 then (fX11_keptCourts_24 N k4 a0 a1 a2 mm) else (fX11_keptCourts_24 N k4 a0 (a1 + 1) a2 mm))
def fX11_keptCourts (N : Nat)  (a0 : Nat) (mm : Mm) : Option (Int32 × Mm) :=
  fX11_keptCourts_4 N N a0 0 0 mm
abbrev rmX11_keptCourts : Room := { frames := 1, cells := 0, slots := 0, locals := 40 }
/-! HeavyFiles.there([LHeavyFiles$Row;)I -/
def fX11_there_22 (N : Nat) (k4 : Nat → Int32 → Int32 → Mm → Option (Int32 × Mm)) (a0 : Nat) (a1 : Int32) (a2 : Int32) (mm : Mm) : Option (Int32 × Mm) :=
  k4 a0 a1 (a2 + 1) mm
def fX11_there_4 (N : Nat)  : Nat → Nat → Int32 → Int32 → Mm → Option (Int32 × Mm)
  | 0 => fun _ _ _ _ => none
  | n + 1 => fun a0 a1 a2 mm =>
    let k4 := fX11_there_4 N  n
    if (Int32.ofNat (ln a0)) ≤ a2 then (some (a1, mm)) else (gd (inb a2 (ln a0)) <| bd2 (fX6_isMissing N (el a0 a2.toNatClampNeg) mm) fun x3 m4 => if x3 = 0 then (fX11_there_22 N k4 a0 (a1 + 1) a2 m4) else (fX11_there_22 N k4 a0 a1 a2 m4))
def fX11_there (N : Nat)  (a0 : Nat) (mm : Mm) : Option (Int32 × Mm) :=
  fX11_there_4 N N a0 0 0 mm
abbrev rmX11_there : Room := { frames := 2, cells := 0, slots := 0, locals := 68 }
/-! HeavyFiles.count(I)I -/
def fX11_count (N : Nat)  (a0 : Nat) (a1 : Int32) (mm : Mm) : Option (Int32 × Mm) :=
  if a1 = 0 then (some (rd mm (fr a0 2) 5, mm)) else if a1 = 1 then (bd2 (fX0_worths N (fr a0 2) mm) fun x3 m4 => some (x3, m4)) else if a1 = 2 then (bd2 (fX0_howMany N (fr a0 2) 1 mm) fun x7 m8 => some (x7, m8)) else if a1 = 3 then (bd2 (fX0_howMany N (fr a0 2) 3 mm) fun x11 m12 => some (x11, m12)) else if a1 = 4 then (some (rd mm (fr a0 2) 7, mm)) else if a1 = 5 then (bd2 (fX11_keptCourts N a0 mm) fun x16 m17 => some (x16, m17)) else if a1 = 6 then (bd2 (fX11_there N (fr a0 0) mm) fun x20 m21 => some (x20, m21)) else if a1 = 7 then (bd2 (fX11_there N (fr a0 1) mm) fun x24 m25 => some (x24, m25)) else (some ((-1), mm))
abbrev rmX11_count : Room := { frames := 3, cells := 0, slots := 0, locals := 100 }
section W_files18
variable {p : Program} {l : Launch} {e : Env} {s : State} {m : MethodId} {args : Array Value} {below : List Frame} {meth : Method} {c : Code} {D : va_G} {ca ad : Nat → Nat}
set_option maxRecDepth 100000 in
set_option maxHeartbeats 4000000 in
theorem wX11_note_0 (C : Cx p s m meth c args cX11_note 4 (some .int) RX11 D ca ad) {res : Int32 × Mm} {N : Nat}  {a0 : Nat} {a1 : Int32} {a2 : Int32} {mm : Mm} {H : Heap} {locs : List Loc} {ls : Array Slot} (ha0 : sX11 a0) (hW : Wd D ca ad s.heap mm H locs) (hl : lv_has ls 4 [(0, .ref (ad a0)), (1, .int a1), (2, .int a2)]) (hf : fX11_note N a0 a1 a2 mm = some res) : W p l e (rmX11_note) s m args below meth c H locs 0 0 (MQ below (QI D ca ad res) args s 0 0 (AA ad)) (F0 m 0 ls []) := by
  unfold fX11_note at hf
  refine lv_aload_n C.1 C.2.1 dX11_note_0 rfl (lv_at hl 0 rfl) ?_
  refine lv_iload_n C.1 C.2.1 dX11_note_1 rfl (lv_at hl 1 rfl) ?_
  obtain ⟨x1, m2, r3, hf⟩ := bd2_s hf
  refine x_cr hW (x_runV C hW [.int a1] [] (ha0).1 (ha0).2.1 kX11.1 kvX11_rowOf q_364 (tX11_rowOf l C.2.2.2.2.2.2.1 ha0 r3) rfl rfl ⟨by decide, by decide⟩ rfl hl.1 rfl (Nat.le_of_ble_eq_true rfl) dX11_note_2) (fun H locs hW => ?_)
  refine x_astore_n (lv' := [(3, va_re ad x1), (0, .ref (ad a0)), (1, .int a1), (2, .int a2)]) C dX11_note_5 rfl hl (by decide) rfl (fun ls hl => ?_)
  refine x_aload_n C dX11_note_6 rfl (lv_at hl 0 rfl) ?_
  refine x_ifnull C (tgt := 27) dX11_note_7 (by decide) (fun n5 => ?_) (fun z4 n5 => ?_)
  · subst n5
    have hf := cs_n hf
    refine lv_iconst (v := (-1)) C.1 C.2.1 dX11_note_27 (by decide) ?_
    cases hf
    exact x_iret C hW dX11_note_28
  · subst n5
    have hf := cs_q hf
    refine lv_iload_n C.1 C.2.1 dX11_note_10 rfl (lv_at hl 3 rfl) ?_
    refine lv_if_lt (tgt := 27) C.1 C.2.1 dX11_note_11 (by decide) (fun c6 => ?_) (fun c6 => ?_)
    · have hf := if_t c6 hf
      refine lv_iconst (v := (-1)) C.1 C.2.1 dX11_note_27 (by decide) ?_
      cases hf
      exact x_iret C hW dX11_note_28
    · have hf := if_f c6 hf
      refine lv_iload_n C.1 C.2.1 dX11_note_14 rfl (lv_at hl 3 rfl) ?_
      refine lv_iconst (v := 1) C.1 C.2.1 dX11_note_15 (by decide) ?_
      refine lv_aload_n C.1 C.2.1 dX11_note_16 rfl (lv_at hl 1 rfl) ?_
      refine x_getr C hW (ha0).1 (ha0).2.1 (j := 2) rfl kX11 (by decide) rfl q_310 dX11_note_17 ?_
      refine x_geti C hW (ha0.2.2.2.2.1).1 (ha0.2.2.2.2.1).2.1 (j := 5) rfl kX0 (by decide) rfl q_72 dX11_note_20 ?_
      refine lv_ishl C.1 C.2.1 dX11_note_23 ?_
      refine lv_icmp_lt (tgt := 29) C.1 C.2.1 dX11_note_24 (by decide) (fun c7 => ?_) (fun c7 => ?_)
      · have hf := if_t c7 hf
        refine lv_aload_n C.1 C.2.1 dX11_note_29 rfl (lv_at hl 1 rfl) ?_
        refine lv_aload_n C.1 C.2.1 dX11_note_30 rfl (lv_at hl 0 rfl) ?_
        refine lv_iconst (v := 0) C.1 C.2.1 dX11_note_31 (by decide) ?_
        obtain ⟨x8, m9, r10, hf⟩ := bd2_s hf
        refine x_ci hW (x_runV C hW [.ref (ad z4), .int 0] [] (ha0).1 (ha0).2.1 kX11.1 kvX11_isWrong q_470 (tX11_isWrong l C.2.2.2.2.2.2.1 ha0 ((gX11_rowOf ha0 r3) z4 rfl) r10) rfl rfl ⟨by decide, by decide⟩ rfl hl.1 rfl (Nat.le_of_ble_eq_true rfl) dX11_note_32) (fun H locs hW => ?_)
        refine lv_if_eq (tgt := 41) C.1 C.2.1 dX11_note_35 (by decide) (fun c11 => ?_) (fun c11 => ?_)
        · have hf := if_t c11 hf
          refine lv_aload_n C.1 C.2.1 dX11_note_41 rfl (lv_at hl 1 rfl) ?_
          refine x_getr C hW (ha0).1 (ha0).2.1 (j := 2) rfl kX11 (by decide) rfl q_310 dX11_note_42 ?_
          refine x_geti C hW (ha0.2.2.2.2.1).1 (ha0.2.2.2.2.1).2.1 (j := 7) rfl kX0 (by decide) rfl q_80 dX11_note_45 ?_
          refine lv_bipush (v := 8) C.1 C.2.1 dX11_note_48 (by decide) ?_
          refine lv_icmp_lt (tgt := 56) C.1 C.2.1 dX11_note_50 (by decide) (fun c12 => ?_) (fun c12 => ?_)
          · have hf := if_t c12 hf
            refine lv_aload_n C.1 C.2.1 dX11_note_56 rfl (lv_at hl 1 rfl) ?_
            refine x_getr C hW (ha0).1 (ha0).2.1 (j := 2) rfl kX11 (by decide) rfl q_310 dX11_note_57 ?_
            refine lv_aload_n C.1 C.2.1 dX11_note_60 rfl (lv_at hl 0 rfl) ?_
            refine x_getr C hW (((gX11_rowOf ha0 r3) z4 rfl)).1 (((gX11_rowOf ha0 r3) z4 rfl)).2.1 (j := 0) rfl kX6 (by decide) rfl q_299 dX11_note_61 ?_
            refine lv_iload_n C.1 C.2.1 dX11_note_64 rfl (lv_at hl 3 rfl) ?_
            obtain ⟨x13, m14, r15, hf⟩ := bd2_s hf
            refine x_cv hW (x_runV C hW [.ref (ad (fr z4 0)), .int a2] [] (ha0.2.2.2.2.1).1 (ha0.2.2.2.2.1).2.1 kX0.1 kvX0_write q_719 (tX0_write l C.2.2.2.2.2.2.1 ha0.2.2.2.2.1 (((gX11_rowOf ha0 r3) z4 rfl).2.2) r15) rfl rfl ⟨by decide, by decide⟩ rfl hl.1 rfl (Nat.le_of_ble_eq_true rfl) dX11_note_65) (fun H locs hW => ?_)
            refine lv_aload_n C.1 C.2.1 dX11_note_68 rfl (lv_at hl 1 rfl) ?_
            refine x_getr C hW (ha0).1 (ha0).2.1 (j := 2) rfl kX11 (by decide) rfl q_310 dX11_note_69 ?_
            refine x_geti C hW (ha0.2.2.2.2.1).1 (ha0.2.2.2.2.1).2.1 (j := 7) rfl kX0 (by decide) rfl q_80 dX11_note_72 ?_
            refine lv_iconst (v := 1) C.1 C.2.1 dX11_note_75 (by decide) ?_
            refine lv_isub C.1 C.2.1 dX11_note_76 ?_
            cases hf
            exact x_iret C hW dX11_note_77
          · have hf := if_f c12 hf
            refine lv_bipush (v := (-2)) C.1 C.2.1 dX11_note_53 (by decide) ?_
            cases hf
            exact x_iret C hW dX11_note_55
        · have hf := if_f c11 hf
          refine lv_bipush (v := (-3)) C.1 C.2.1 dX11_note_38 (by decide) ?_
          cases hf
          exact x_iret C hW dX11_note_40
      · have hf := if_f c7 hf
        refine lv_iconst (v := (-1)) C.1 C.2.1 dX11_note_27 (by decide) ?_
        cases hf
        exact x_iret C hW dX11_note_28
set_option maxRecDepth 100000 in
set_option maxHeartbeats 4000000 in
theorem tX11_note (l : Launch) {D : va_G} {ca ad : Nat → Nat} (hi : Inj ad) {N : Nat} {a0 : Nat} {a1 : Int32} {a2 : Int32} {mm : Mm} {res : Int32 × Mm} (ha0 : sX11 a0) (hf : fX11_note N a0 a1 a2 mm = some res) : Met l yX11_note (WS yX11_note cX11_note 4 (some .int)) (rmX11_note) (va_Pc [.ref (ad a0), .int a1, .int a2] (WB D ca ad mm)) (QI D ca ad res) 0 0 (AA ad) := by
  refine x_start hi (by decide) rfl (Nat.le_of_ble_eq_true rfl) (fun p e s m args below meth c ls C hW hl => ?_)
  exact wX11_note_0 C ha0 hW (lv_sub hl [0, 1, 2] rfl) hf
set_option maxRecDepth 100000 in
set_option maxHeartbeats 4000000 in
theorem wX11_rules_0 (C : Cx p s m meth c args cX11_rules 2 (some .int) RX11 D ca ad) {res : Int32 × Mm} {N : Nat}  {a0 : Nat} {mm : Mm} {H : Heap} {locs : List Loc} {ls : Array Slot} (ha0 : sX11 a0) (hW : Wd D ca ad s.heap mm H locs) (hl : lv_has ls 2 [(0, .ref (ad a0))]) (hf : fX11_rules N a0 mm = some res) : W p l e (rmX11_rules) s m args below meth c H locs 0 0 (MQ below (QI D ca ad res) args s 0 0 (AA ad)) (F0 m 0 ls []) := by
  unfold fX11_rules at hf
  refine lv_aload_n C.1 C.2.1 dX11_rules_0 rfl (lv_at hl 0 rfl) ?_
  refine x_getr C hW (ha0).1 (ha0).2.1 (j := 2) rfl kX11 (by decide) rfl q_310 dX11_rules_1 ?_
  refine x_geti C hW (ha0.2.2.2.2.1).1 (ha0.2.2.2.2.1).2.1 (j := 5) rfl kX0 (by decide) rfl q_72 dX11_rules_4 ?_
  refine lv_if_ne (tgt := 16) C.1 C.2.1 dX11_rules_7 (by decide) (fun c1 => ?_) (fun c1 => ?_)
  · have hf := if_f c1 hf
    refine lv_aload_n C.1 C.2.1 dX11_rules_16 rfl (lv_at hl 0 rfl) ?_
    refine x_getr C hW (ha0).1 (ha0).2.1 (j := 11) rfl kX11 (by decide) rfl q_319 dX11_rules_17 ?_
    refine lv_aload_n C.1 C.2.1 dX11_rules_20 rfl (lv_at hl 0 rfl) ?_
    refine x_getr C hW (ha0).1 (ha0).2.1 (j := 2) rfl kX11 (by decide) rfl q_310 dX11_rules_21 ?_
    obtain ⟨x2, m3, r4, hf⟩ := bd2_s hf
    refine x_ci hW (x_runV C hW [.ref (ad (fr a0 2))] [] (ha0.2.2.2.2.2.2.2.2.2.2.2.2.2.1).1 (ha0.2.2.2.2.2.2.2.2.2.2.2.2.2.1).2.1 kX2.1 kvX2_fitting q_729 (tX2_fitting l C.2.2.2.2.2.2.1 ha0.2.2.2.2.2.2.2.2.2.2.2.2.2.1 ha0.2.2.2.2.1 r4) rfl rfl ⟨by decide, by decide⟩ rfl hl.1 rfl (Nat.le_of_ble_eq_true rfl) dX11_rules_24) (fun H locs hW => ?_)
    refine lv_istore_n (lv' := [(1, .int x2), (0, .ref (ad a0))]) C.1 C.2.1 dX11_rules_27 rfl hl (by decide) rfl (fun ls hl => ?_)
    refine lv_aload_n C.1 C.2.1 dX11_rules_28 rfl (lv_at hl 1 rfl) ?_
    refine lv_aload_n C.1 C.2.1 dX11_rules_29 rfl (lv_at hl 1 rfl) ?_
    refine x_getr C hW (ha0).1 (ha0).2.1 (j := 11) rfl kX11 (by decide) rfl q_319 dX11_rules_30 ?_
    refine lv_aload_n C.1 C.2.1 dX11_rules_33 rfl (lv_at hl 1 rfl) ?_
    refine x_getr C hW (ha0).1 (ha0).2.1 (j := 2) rfl kX11 (by decide) rfl q_310 dX11_rules_34 ?_
    refine lv_iload_n C.1 C.2.1 dX11_rules_37 rfl (lv_at hl 0 rfl) ?_
    obtain ⟨x5, m6, r7, hf⟩ := bd2_s hf
    refine x_ci hW (x_runV C hW [.ref (ad (fr a0 2)), .int x2] [.ref (ad a0)] (ha0.2.2.2.2.2.2.2.2.2.2.2.2.2.1).1 (ha0.2.2.2.2.2.2.2.2.2.2.2.2.2.1).2.1 kX2.1 kvX2_unlikeLayings q_747 (tX2_unlikeLayings l C.2.2.2.2.2.2.1 ha0.2.2.2.2.2.2.2.2.2.2.2.2.2.1 ha0.2.2.2.2.1 r7) rfl rfl ⟨by decide, by decide⟩ rfl hl.1 rfl (Nat.le_of_ble_eq_true rfl) dX11_rules_38) (fun H locs hW => ?_)
    refine x_put C hW (ha0).1 (ha0).2.1 (j := 14) (t1 := .int) rfl kX11 (by decide) rfl rfl q_322 (by decide +kernel) rfl rfl dX11_rules_41 (fun H locs hW => ?_)
    obtain ⟨m8, em8⟩ : ∃ z, z = wr m6 a0 14 x5 := ⟨_, rfl⟩
    have hf := nm_s hf em8
    rw [← em8] at hW
    refine lv_iload_n C.1 C.2.1 dX11_rules_44 rfl (lv_at hl 0 rfl) ?_
    cases hf
    exact x_iret C hW dX11_rules_45
  · have hf := if_t c1 hf
    refine lv_aload_n C.1 C.2.1 dX11_rules_10 rfl (lv_at hl 0 rfl) ?_
    refine lv_iconst (v := 4) C.1 C.2.1 dX11_rules_11 (by decide) ?_
    obtain ⟨x9, m10, r11, hf⟩ := bd2_s hf
    refine x_ci hW (x_runV C hW [.int 4] [] (ha0).1 (ha0).2.1 kX11.1 kvX11_refused q_372 (tX11_refused l C.2.2.2.2.2.2.1 ha0 r11) rfl rfl ⟨by decide, by decide⟩ rfl hl.1 rfl (Nat.le_of_ble_eq_true rfl) dX11_rules_12) (fun H locs hW => ?_)
    cases hf
    exact x_iret C hW dX11_rules_15
set_option maxRecDepth 100000 in
set_option maxHeartbeats 4000000 in
theorem tX11_rules (l : Launch) {D : va_G} {ca ad : Nat → Nat} (hi : Inj ad) {N : Nat} {a0 : Nat} {mm : Mm} {res : Int32 × Mm} (ha0 : sX11 a0) (hf : fX11_rules N a0 mm = some res) : Met l yX11_rules (WS yX11_rules cX11_rules 2 (some .int)) (rmX11_rules) (va_Pc [.ref (ad a0)] (WB D ca ad mm)) (QI D ca ad res) 0 0 (AA ad) := by
  refine x_start hi (by decide) rfl (Nat.le_of_ble_eq_true rfl) (fun p e s m args below meth c ls C hW hl => ?_)
  exact wX11_rules_0 C ha0 hW (lv_sub hl [0] rfl) hf
set_option maxRecDepth 100000 in
set_option maxHeartbeats 4000000 in
theorem wX11_reply_0 (C : Cx p s m meth c args cX11_reply 5 (some .int) RX11 D ca ad) {res : Int32 × Mm} {N : Nat}  {a0 : Nat} {a1 : Int32} {mm : Mm} {H : Heap} {locs : List Loc} {ls : Array Slot} (ha0 : sX11 a0) (hW : Wd D ca ad s.heap mm H locs) (hl : lv_has ls 5 [(0, .ref (ad a0)), (1, .int a1)]) (hf : fX11_reply N a0 a1 mm = some res) : W p l e (rmX11_reply) s m args below meth c H locs 0 0 (MQ below (QI D ca ad res) args s 0 0 (AA ad)) (F0 m 0 ls []) := by
  unfold fX11_reply at hf
  refine lv_aload_n C.1 C.2.1 dX11_reply_0 rfl (lv_at hl 0 rfl) ?_
  refine lv_iload_n C.1 C.2.1 dX11_reply_1 rfl (lv_at hl 1 rfl) ?_
  obtain ⟨x1, m2, r3, hf⟩ := bd2_s hf
  refine x_cr hW (x_runV C hW [.int a1] [] (ha0).1 (ha0).2.1 kX11.1 kvX11_rowOf q_364 (tX11_rowOf l C.2.2.2.2.2.2.1 ha0 r3) rfl rfl ⟨by decide, by decide⟩ rfl hl.1 rfl (Nat.le_of_ble_eq_true rfl) dX11_reply_2) (fun H locs hW => ?_)
  refine x_astore_n (lv' := [(2, va_re ad x1), (0, .ref (ad a0)), (1, .int a1)]) C dX11_reply_5 rfl hl (by decide) rfl (fun ls hl => ?_)
  refine x_aload_n C dX11_reply_6 rfl (lv_at hl 0 rfl) ?_
  refine x_ifnonnull C (tgt := 12) dX11_reply_7 (by decide) (fun n5 => ?_) (fun z4 n5 => ?_)
  · subst n5
    have hf := cs_n hf
    refine lv_iconst (v := (-1)) C.1 C.2.1 dX11_reply_10 (by decide) ?_
    cases hf
    exact x_iret C hW dX11_reply_11
  · subst n5
    have hf := cs_q hf
    refine lv_aload_n C.1 C.2.1 dX11_reply_12 rfl (lv_at hl 1 rfl) ?_
    refine x_getr C hW (ha0).1 (ha0).2.1 (j := 2) rfl kX11 (by decide) rfl q_310 dX11_reply_13 ?_
    refine x_geti C hW (ha0.2.2.2.2.1).1 (ha0.2.2.2.2.1).2.1 (j := 5) rfl kX0 (by decide) rfl q_72 dX11_reply_16 ?_
    refine lv_if_ne (tgt := 28) C.1 C.2.1 dX11_reply_19 (by decide) (fun c6 => ?_) (fun c6 => ?_)
    · have hf := if_f c6 hf
      refine lv_aload_n C.1 C.2.1 dX11_reply_28 rfl (lv_at hl 1 rfl) ?_
      refine x_getr C hW (ha0).1 (ha0).2.1 (j := 11) rfl kX11 (by decide) rfl q_319 dX11_reply_29 ?_
      refine lv_aload_n C.1 C.2.1 dX11_reply_32 rfl (lv_at hl 1 rfl) ?_
      refine x_getr C hW (ha0).1 (ha0).2.1 (j := 2) rfl kX11 (by decide) rfl q_310 dX11_reply_33 ?_
      obtain ⟨x7, m8, r9, hf⟩ := bd2_s hf
      refine x_ci hW (x_runV C hW [.ref (ad (fr a0 2))] [] (ha0.2.2.2.2.2.2.2.2.2.2.2.2.2.1).1 (ha0.2.2.2.2.2.2.2.2.2.2.2.2.2.1).2.1 kX2.1 kvX2_fitting q_729 (tX2_fitting l C.2.2.2.2.2.2.1 ha0.2.2.2.2.2.2.2.2.2.2.2.2.2.1 ha0.2.2.2.2.1 r9) rfl rfl ⟨by decide, by decide⟩ rfl hl.1 rfl (Nat.le_of_ble_eq_true rfl) dX11_reply_36) (fun H locs hW => ?_)
      refine lv_istore_n (lv' := [(3, .int x7), (2, .ref (ad z4)), (0, .ref (ad a0)), (1, .int a1)]) C.1 C.2.1 dX11_reply_39 rfl hl (by decide) rfl (fun ls hl => ?_)
      refine lv_iload_n C.1 C.2.1 dX11_reply_40 rfl (lv_at hl 0 rfl) ?_
      refine lv_if_ne (tgt := 47) C.1 C.2.1 dX11_reply_41 (by decide) (fun c10 => ?_) (fun c10 => ?_)
      · have hf := if_f c10 hf
        refine lv_iload_n C.1 C.2.1 dX11_reply_47 rfl (lv_at hl 0 rfl) ?_
        obtain ⟨x11, m12, r13, hf⟩ := bd2_s hf
        refine x_ci hW (x_runS C hW [.int x7] [] kvX2_firstOf q_768 (tX2_firstOf l C.2.2.2.2.2.2.1  r13) rfl rfl ⟨by decide, by decide⟩ rfl hl.1 rfl (Nat.le_of_ble_eq_true rfl) dX11_reply_48) (fun H locs hW => ?_)
        refine lv_istore (lv' := [(4, .int x11), (3, .int x7), (2, .ref (ad z4)), (0, .ref (ad a0)), (1, .int a1)]) C.1 C.2.1 dX11_reply_51 hl (by decide) rfl (fun ls hl => ?_)
        refine lv_aload_n C.1 C.2.1 dX11_reply_53 rfl (lv_at hl 3 rfl) ?_
        refine x_getr C hW (ha0).1 (ha0).2.1 (j := 11) rfl kX11 (by decide) rfl q_319 dX11_reply_54 ?_
        refine lv_aload_n C.1 C.2.1 dX11_reply_57 rfl (lv_at hl 3 rfl) ?_
        refine x_getr C hW (ha0).1 (ha0).2.1 (j := 2) rfl kX11 (by decide) rfl q_310 dX11_reply_58 ?_
        refine lv_iload C.1 C.2.1 dX11_reply_61 (lv_at hl 0 rfl) ?_
        refine lv_aload_n C.1 C.2.1 dX11_reply_63 rfl (lv_at hl 3 rfl) ?_
        refine x_getr C hW (ha0).1 (ha0).2.1 (j := 2) rfl kX11 (by decide) rfl q_310 dX11_reply_64 ?_
        refine x_geti C hW (ha0.2.2.2.2.1).1 (ha0.2.2.2.2.1).2.1 (j := 7) rfl kX0 (by decide) rfl q_80 dX11_reply_67 ?_
        obtain ⟨x14, m15, r16, hf⟩ := bd2_s hf
        refine x_cv hW (x_runV C hW [.ref (ad (fr a0 2)), .int x11, .int (rd m12 (fr a0 2) 7)] [] (ha0.2.2.2.2.2.2.2.2.2.2.2.2.2.1).1 (ha0.2.2.2.2.2.2.2.2.2.2.2.2.2.1).2.1 kX2.1 kvX2_layBy q_687 (tX2_layBy l C.2.2.2.2.2.2.1 ha0.2.2.2.2.2.2.2.2.2.2.2.2.2.1 ha0.2.2.2.2.1 r16) rfl rfl ⟨by decide, by decide⟩ rfl hl.1 rfl (Nat.le_of_ble_eq_true rfl) dX11_reply_70) (fun H locs hW => ?_)
        refine lv_aload_n C.1 C.2.1 dX11_reply_73 rfl (lv_at hl 3 rfl) ?_
        refine x_getr C hW (ha0).1 (ha0).2.1 (j := 7) rfl kX11 (by decide) rfl q_315 dX11_reply_74 ?_
        refine lv_aload_n C.1 C.2.1 dX11_reply_77 rfl (lv_at hl 3 rfl) ?_
        refine x_getr C hW (ha0).1 (ha0).2.1 (j := 2) rfl kX11 (by decide) rfl q_310 dX11_reply_78 ?_
        refine lv_aload_n C.1 C.2.1 dX11_reply_81 rfl (lv_at hl 3 rfl) ?_
        refine x_getr C hW (ha0).1 (ha0).2.1 (j := 2) rfl kX11 (by decide) rfl q_310 dX11_reply_82 ?_
        refine x_geti C hW (ha0.2.2.2.2.1).1 (ha0.2.2.2.2.1).2.1 (j := 6) rfl kX0 (by decide) rfl q_77 dX11_reply_85 ?_
        refine lv_aload_n C.1 C.2.1 dX11_reply_88 rfl (lv_at hl 3 rfl) ?_
        refine x_getr C hW (ha0).1 (ha0).2.1 (j := 11) rfl kX11 (by decide) rfl q_319 dX11_reply_89 ?_
        refine x_getr C hW (ha0.2.2.2.2.2.2.2.2.2.2.2.2.2.1).1 (ha0.2.2.2.2.2.2.2.2.2.2.2.2.2.1).2.1 (j := 0) rfl kX2 (by decide) rfl q_273 dX11_reply_92 ?_
        refine lv_aload_n C.1 C.2.1 dX11_reply_95 rfl (lv_at hl 3 rfl) ?_
        refine x_getr C hW (ha0).1 (ha0).2.1 (j := 2) rfl kX11 (by decide) rfl q_310 dX11_reply_96 ?_
        refine x_getr C hW (ha0.2.2.2.2.1).1 (ha0.2.2.2.2.1).2.1 (j := 1) rfl kX0 (by decide) rfl q_62 dX11_reply_99 ?_
        refine lv_iconst (v := 0) C.1 C.2.1 dX11_reply_102 (by decide) ?_
        obtain ⟨g17, hf⟩ := gd_s hf
        refine x_iald C hW ha0.2.2.2.2.1.2.2.2.1 g17 dX11_reply_103 ?_
        obtain ⟨x18, m19, r20, hf⟩ := bd2_s hf
        refine x_cv hW (x_runV C hW [.ref (ad (fr a0 2)), .int (rd m15 (fr a0 2) 6), .ref (ad (fr (fr a0 11) 0)), .int (rd m15 (fr (fr a0 2) 1) ((0 : Int32).toNatClampNeg))] [] (ha0.2.2.2.2.2.2.2.2.2.1).1 (ha0.2.2.2.2.2.2.2.2.2.1).2.1 kX8.1 kvX8_run q_474 (tX8_run l C.2.2.2.2.2.2.1 ha0.2.2.2.2.2.2.2.2.2.1 ha0.2.2.2.2.1 ha0.2.2.2.2.2.2.2.2.2.2.2.2.2.1.2.2.1 r20) rfl rfl ⟨by decide, by decide⟩ rfl hl.1 rfl (Nat.le_of_ble_eq_true rfl) dX11_reply_104) (fun H locs hW => ?_)
        refine lv_aload_n C.1 C.2.1 dX11_reply_107 rfl (lv_at hl 2 rfl) ?_
        refine lv_aload_n C.1 C.2.1 dX11_reply_108 rfl (lv_at hl 3 rfl) ?_
        refine x_getr C hW (ha0).1 (ha0).2.1 (j := 7) rfl kX11 (by decide) rfl q_315 dX11_reply_109 ?_
        refine x_getr C hW (ha0.2.2.2.2.2.2.2.2.2.1).1 (ha0.2.2.2.2.2.2.2.2.2.1).2.1 (j := 0) rfl kX8 (by decide) rfl q_182 dX11_reply_112 ?_
        refine lv_aload_n C.1 C.2.1 dX11_reply_115 rfl (lv_at hl 3 rfl) ?_
        refine x_getr C hW (ha0).1 (ha0).2.1 (j := 2) rfl kX11 (by decide) rfl q_310 dX11_reply_116 ?_
        refine x_geti C hW (ha0.2.2.2.2.1).1 (ha0.2.2.2.2.1).2.1 (j := 5) rfl kX0 (by decide) rfl q_72 dX11_reply_119 ?_
        obtain ⟨x21, m22, r23, hf⟩ := bd2_s hf
        refine x_cv hW (x_runV C hW [.ref (ad (fr (fr a0 7) 0)), .int (rd m19 (fr a0 2) 5)] [] (((gX11_rowOf ha0 r3) z4 rfl)).1 (((gX11_rowOf ha0 r3) z4 rfl)).2.1 kX6.1 kvX6_take q_513 (tX6_take l C.2.2.2.2.2.2.1 ((gX11_rowOf ha0 r3) z4 rfl) ha0.2.2.2.2.2.2.2.2.2.1.2.2.1 r23) rfl rfl ⟨by decide, by decide⟩ rfl hl.1 rfl (Nat.le_of_ble_eq_true rfl) dX11_reply_122) (fun H locs hW => ?_)
        refine lv_aload_n C.1 C.2.1 dX11_reply_125 rfl (lv_at hl 3 rfl) ?_
        refine lv_iload C.1 C.2.1 dX11_reply_126 (lv_at hl 0 rfl) ?_
        refine x_put C hW (ha0).1 (ha0).2.1 (j := 14) (t1 := .int) rfl kX11 (by decide) rfl rfl q_322 (by decide +kernel) rfl rfl dX11_reply_128 (fun H locs hW => ?_)
        obtain ⟨m24, em24⟩ : ∃ z, z = wr m22 a0 14 x11 := ⟨_, rfl⟩
        have hf := nm_s hf em24
        rw [← em24] at hW
        refine lv_aload_n C.1 C.2.1 dX11_reply_131 rfl (lv_at hl 3 rfl) ?_
        refine x_getr C hW (ha0).1 (ha0).2.1 (j := 7) rfl kX11 (by decide) rfl q_315 dX11_reply_132 ?_
        refine x_geti C hW (ha0.2.2.2.2.2.2.2.2.2.1).1 (ha0.2.2.2.2.2.2.2.2.2.1).2.1 (j := 1) rfl kX8 (by decide) rfl q_184 dX11_reply_135 ?_
        cases hf
        exact x_iret C hW dX11_reply_138
      · have hf := if_t c10 hf
        refine lv_bipush (v := (-9)) C.1 C.2.1 dX11_reply_44 (by decide) ?_
        cases hf
        exact x_iret C hW dX11_reply_46
    · have hf := if_t c6 hf
      refine lv_aload_n C.1 C.2.1 dX11_reply_22 rfl (lv_at hl 1 rfl) ?_
      refine lv_iconst (v := 4) C.1 C.2.1 dX11_reply_23 (by decide) ?_
      obtain ⟨x25, m26, r27, hf⟩ := bd2_s hf
      refine x_ci hW (x_runV C hW [.int 4] [] (ha0).1 (ha0).2.1 kX11.1 kvX11_refused q_372 (tX11_refused l C.2.2.2.2.2.2.1 ha0 r27) rfl rfl ⟨by decide, by decide⟩ rfl hl.1 rfl (Nat.le_of_ble_eq_true rfl) dX11_reply_24) (fun H locs hW => ?_)
      cases hf
      exact x_iret C hW dX11_reply_27
set_option maxRecDepth 100000 in
set_option maxHeartbeats 4000000 in
theorem tX11_reply (l : Launch) {D : va_G} {ca ad : Nat → Nat} (hi : Inj ad) {N : Nat} {a0 : Nat} {a1 : Int32} {mm : Mm} {res : Int32 × Mm} (ha0 : sX11 a0) (hf : fX11_reply N a0 a1 mm = some res) : Met l yX11_reply (WS yX11_reply cX11_reply 5 (some .int)) (rmX11_reply) (va_Pc [.ref (ad a0), .int a1] (WB D ca ad mm)) (QI D ca ad res) 0 0 (AA ad) := by
  refine x_start hi (by decide) rfl (Nat.le_of_ble_eq_true rfl) (fun p e s m args below meth c ls C hW hl => ?_)
  exact wX11_reply_0 C ha0 hW (lv_sub hl [0, 1] rfl) hf
set_option maxRecDepth 100000 in
set_option maxHeartbeats 4000000 in
theorem wX11_tell_153 (C : Cx p s m meth c args cX11_tell 7 (some .int) RX11 D ca ad) {res : Int32 × Mm} {N : Nat} {k92 : Nat → Nat → Int32 → Int32 → Int32 → Mm → Option (Int32 × Mm)} (hk92 : ∀ (a0 : Nat) (a2 : Nat) (a3 : Int32) (a4 : Int32) (a5 : Int32) (mm : Mm) (H : Heap) (locs : List Loc) (ls : Array Slot), (sX11 a0) → (sX6 a2) → Wd D ca ad s.heap mm H locs → lv_has ls 7 [(0, .ref (ad a0)), (2, .ref (ad a2)), (3, .int a3), (4, .int a4), (5, .int a5)] → k92 a0 a2 a3 a4 a5 mm = some res → W p l e (rmX11_tell) s m args below meth c H locs 0 0 (MQ below (QI D ca ad res) args s 0 0 (AA ad)) (F0 m 92 ls [])) {a0 : Nat} {a2 : Nat} {a3 : Int32} {a5 : Int32} {mm : Mm} {H : Heap} {locs : List Loc} {ls : Array Slot} (ha0 : sX11 a0) (ha2 : sX6 a2) (hW : Wd D ca ad s.heap mm H locs) (hl : lv_has ls 7 [(0, .ref (ad a0)), (2, .ref (ad a2)), (3, .int a3), (5, .int a5)]) (hf : fX11_tell_153 N k92 a0 a2 a3 a5 mm = some res) : W p l e (rmX11_tell) s m args below meth c H locs 0 0 (MQ below (QI D ca ad res) args s 0 0 (AA ad)) (F0 m 153 ls []) := by
  unfold fX11_tell_153 at hf
  refine lv_aload_n C.1 C.2.1 dX11_tell_153 rfl (lv_at hl 0 rfl) ?_
  refine x_getr C hW (ha0).1 (ha0).2.1 (j := 6) rfl kX11 (by decide) rfl q_314 dX11_tell_154 ?_
  obtain ⟨x1, m2, r3, hf⟩ := bd2_s hf
  refine x_ci hW (x_runV C hW [] [] (ha0.2.2.2.2.2.2.2.2.1).1 (ha0.2.2.2.2.2.2.2.2.1).2.1 kX3.1 kvX3_next q_544 (tX3_next l C.2.2.2.2.2.2.1 ha0.2.2.2.2.2.2.2.2.1 r3) rfl rfl ⟨by decide, by decide⟩ rfl hl.1 rfl (Nat.le_of_ble_eq_true rfl) dX11_tell_157) (fun H locs hW => ?_)
  refine lv_istore (lv' := [(4, .int x1), (0, .ref (ad a0)), (2, .ref (ad a2)), (3, .int a3), (5, .int a5)]) C.1 C.2.1 dX11_tell_160 hl (by decide) rfl (fun ls hl => ?_)
  refine lv_iinc (v := (a5 + 1)) (lv' := [(5, .int (a5 + 1)), (4, .int x1), (0, .ref (ad a0)), (2, .ref (ad a2)), (3, .int a3)]) C.1 C.2.1 dX11_tell_162 hl (k := 4) rfl rfl (by decide) rfl (fun ls hl => ?_)
  refine lv_goto (tgt := 92) C.1 C.2.1 dX11_tell_165 (by decide) ?_
  exact hk92 _ _ _ _ _ _ _ _ _ ha0 ha2 hW (lv_sub hl [2, 3, 4, 1, 0] rfl) hf
set_option maxRecDepth 100000 in
set_option maxHeartbeats 4000000 in
theorem wX11_tell_92 (C : Cx p s m meth c args cX11_tell 7 (some .int) RX11 D ca ad) {res : Int32 × Mm} {N : Nat}  : ∀ (n : Nat) {a0 : Nat} {a2 : Nat} {a3 : Int32} {a4 : Int32} {a5 : Int32} {mm : Mm} {H : Heap} {locs : List Loc} {ls : Array Slot}, (sX11 a0) → (sX6 a2) → Wd D ca ad s.heap mm H locs → lv_has ls 7 [(0, .ref (ad a0)), (2, .ref (ad a2)), (3, .int a3), (4, .int a4), (5, .int a5)] → fX11_tell_92 N n a0 a2 a3 a4 a5 mm = some res → W p l e (rmX11_tell) s m args below meth c H locs 0 0 (MQ below (QI D ca ad res) args s 0 0 (AA ad)) (F0 m 92 ls []) := by
  intro n
  induction n with
  | zero => intro a0 a2 a3 a4 a5 mm H locs ls ha0 ha2 hW hl hf; cases hf
  | succ n ih =>
    intro a0 a2 a3 a4 a5 mm H locs ls ha0 ha2 hW hl hf
    have hk92 : ∀ (a0 : Nat) (a2 : Nat) (a3 : Int32) (a4 : Int32) (a5 : Int32) (mm : Mm) (H : Heap) (locs : List Loc) (ls : Array Slot), (sX11 a0) → (sX6 a2) → Wd D ca ad s.heap mm H locs → lv_has ls 7 [(0, .ref (ad a0)), (2, .ref (ad a2)), (3, .int a3), (4, .int a4), (5, .int a5)] → (fX11_tell_92 N n) a0 a2 a3 a4 a5 mm = some res → W p l e (rmX11_tell) s m args below meth c H locs 0 0 (MQ below (QI D ca ad res) args s 0 0 (AA ad)) (F0 m 92 ls []) := fun a0 a2 a3 a4 a5 mm H locs ls ha0 ha2 hW hl hf => ih ha0 ha2 hW hl hf
    unfold fX11_tell_92 at hf
    try dsimp only at hf
    refine lv_iload C.1 C.2.1 dX11_tell_92 (lv_at hl 3 rfl) ?_
    refine lv_if_lt (tgt := 168) C.1 C.2.1 dX11_tell_94 (by decide) (fun c4 => ?_) (fun c4 => ?_)
    · have hf := if_t c4 hf
      refine lv_iload_n C.1 C.2.1 dX11_tell_168 rfl (lv_at hl 2 rfl) ?_
      cases hf
      exact x_iret C hW dX11_tell_169
    · have hf := if_f c4 hf
      refine lv_iload C.1 C.2.1 dX11_tell_97 (lv_at hl 4 rfl) ?_
      refine lv_ldc C.1 C.2.1 C.2.2.2.1 (C.2.2.2.2.1 _ q_543) dX11_tell_99 ?_
      refine lv_icmp_ge (tgt := 168) C.1 C.2.1 dX11_tell_101 (by decide) (fun c5 => ?_) (fun c5 => ?_)
      · have hf := if_t c5 hf
        refine lv_iload_n C.1 C.2.1 dX11_tell_168 rfl (lv_at hl 2 rfl) ?_
        cases hf
        exact x_iret C hW dX11_tell_169
      · have hf := if_f c5 hf
        refine lv_aload_n C.1 C.2.1 dX11_tell_104 rfl (lv_at hl 0 rfl) ?_
        refine x_getr C hW (ha0).1 (ha0).2.1 (j := 11) rfl kX11 (by decide) rfl q_319 dX11_tell_105 ?_
        refine lv_aload_n C.1 C.2.1 dX11_tell_108 rfl (lv_at hl 0 rfl) ?_
        refine x_getr C hW (ha0).1 (ha0).2.1 (j := 2) rfl kX11 (by decide) rfl q_310 dX11_tell_109 ?_
        refine lv_aload_n C.1 C.2.1 dX11_tell_112 rfl (lv_at hl 0 rfl) ?_
        refine x_getr C hW (ha0).1 (ha0).2.1 (j := 6) rfl kX11 (by decide) rfl q_314 dX11_tell_113 ?_
        refine x_getr C hW (ha0.2.2.2.2.2.2.2.2.1).1 (ha0.2.2.2.2.2.2.2.2.1).2.1 (j := 0) rfl kX3 (by decide) rfl q_165 dX11_tell_116 ?_
        refine lv_iload C.1 C.2.1 dX11_tell_119 (lv_at hl 3 rfl) ?_
        obtain ⟨x6, m7, r8, hf⟩ := bd2_s hf
        refine x_ci hW (x_runV C hW [.ref (ad (fr a0 2)), .ref (ad (fr (fr a0 6) 0)), .int a4] [] (ha0.2.2.2.2.2.2.2.2.2.2.2.2.2.1).1 (ha0.2.2.2.2.2.2.2.2.2.2.2.2.2.1).2.1 kX2.1 kvX2_unlikeSets q_776 (tX2_unlikeSets l C.2.2.2.2.2.2.1 ha0.2.2.2.2.2.2.2.2.2.2.2.2.2.1 ha0.2.2.2.2.1 ha0.2.2.2.2.2.2.2.2.1.2.2 r8) rfl rfl ⟨by decide, by decide⟩ rfl hl.1 rfl (Nat.le_of_ble_eq_true rfl) dX11_tell_121) (fun H locs hW => ?_)
        refine lv_istore (lv' := [(6, .int x6), (0, .ref (ad a0)), (2, .ref (ad a2)), (3, .int a3), (4, .int a4), (5, .int a5)]) C.1 C.2.1 dX11_tell_124 hl (by decide) rfl (fun ls hl => ?_)
        refine lv_iload C.1 C.2.1 dX11_tell_126 (lv_at hl 0 rfl) ?_
        refine lv_iload_n C.1 C.2.1 dX11_tell_128 rfl (lv_at hl 3 rfl) ?_
        refine lv_icmp_le (tgt := 153) C.1 C.2.1 dX11_tell_129 (by decide) (fun c9 => ?_) (fun c9 => ?_)
        · have hf := if_t c9 hf
          exact wX11_tell_153 C hk92 ha0 ha2 hW (lv_sub hl [1, 2, 3, 5] rfl) hf
        · have hf := if_f c9 hf
          refine lv_iload C.1 C.2.1 dX11_tell_132 (lv_at hl 0 rfl) ?_
          refine lv_istore_n (lv' := [(3, .int x6), (6, .int x6), (0, .ref (ad a0)), (2, .ref (ad a2)), (4, .int a4), (5, .int a5)]) C.1 C.2.1 dX11_tell_134 rfl hl (by decide) rfl (fun ls hl => ?_)
          refine lv_aload_n C.1 C.2.1 dX11_tell_135 rfl (lv_at hl 3 rfl) ?_
          refine lv_aload_n C.1 C.2.1 dX11_tell_136 rfl (lv_at hl 2 rfl) ?_
          refine x_getr C hW (ha0).1 (ha0).2.1 (j := 6) rfl kX11 (by decide) rfl q_314 dX11_tell_137 ?_
          refine x_getr C hW (ha0.2.2.2.2.2.2.2.2.1).1 (ha0.2.2.2.2.2.2.2.2.1).2.1 (j := 0) rfl kX3 (by decide) rfl q_165 dX11_tell_140 ?_
          refine lv_aload_n C.1 C.2.1 dX11_tell_143 rfl (lv_at hl 2 rfl) ?_
          refine x_getr C hW (ha0).1 (ha0).2.1 (j := 2) rfl kX11 (by decide) rfl q_310 dX11_tell_144 ?_
          refine x_geti C hW (ha0.2.2.2.2.1).1 (ha0.2.2.2.2.1).2.1 (j := 5) rfl kX0 (by decide) rfl q_72 dX11_tell_147 ?_
          obtain ⟨x10, m11, r12, hf⟩ := bd2_s hf
          refine x_cv hW (x_runV C hW [.ref (ad (fr (fr a0 6) 0)), .int (rd m7 (fr a0 2) 5)] [] (ha2).1 (ha2).2.1 kX6.1 kvX6_take q_513 (tX6_take l C.2.2.2.2.2.2.1 ha2 ha0.2.2.2.2.2.2.2.2.1.2.2 r12) rfl rfl ⟨by decide, by decide⟩ rfl hl.1 rfl (Nat.le_of_ble_eq_true rfl) dX11_tell_150) (fun H locs hW => ?_)
          exact wX11_tell_153 C hk92 ha0 ha2 hW (lv_sub hl [2, 3, 0, 5] rfl) hf
set_option maxRecDepth 100000 in
set_option maxHeartbeats 4000000 in
theorem wX11_tell_0 (C : Cx p s m meth c args cX11_tell 7 (some .int) RX11 D ca ad) {res : Int32 × Mm} {N : Nat}  {a0 : Nat} {a1 : Int32} {mm : Mm} {H : Heap} {locs : List Loc} {ls : Array Slot} (ha0 : sX11 a0) (hW : Wd D ca ad s.heap mm H locs) (hl : lv_has ls 7 [(0, .ref (ad a0)), (1, .int a1)]) (hf : fX11_tell N a0 a1 mm = some res) : W p l e (rmX11_tell) s m args below meth c H locs 0 0 (MQ below (QI D ca ad res) args s 0 0 (AA ad)) (F0 m 0 ls []) := by
  unfold fX11_tell at hf
  refine lv_aload_n C.1 C.2.1 dX11_tell_0 rfl (lv_at hl 0 rfl) ?_
  refine lv_iload_n C.1 C.2.1 dX11_tell_1 rfl (lv_at hl 1 rfl) ?_
  obtain ⟨x13, m14, r15, hf⟩ := bd2_s hf
  refine x_cr hW (x_runV C hW [.int a1] [] (ha0).1 (ha0).2.1 kX11.1 kvX11_rowOf q_364 (tX11_rowOf l C.2.2.2.2.2.2.1 ha0 r15) rfl rfl ⟨by decide, by decide⟩ rfl hl.1 rfl (Nat.le_of_ble_eq_true rfl) dX11_tell_2) (fun H locs hW => ?_)
  refine x_astore_n (lv' := [(2, va_re ad x13), (0, .ref (ad a0)), (1, .int a1)]) C dX11_tell_5 rfl hl (by decide) rfl (fun ls hl => ?_)
  refine x_aload_n C dX11_tell_6 rfl (lv_at hl 0 rfl) ?_
  refine x_ifnonnull C (tgt := 12) dX11_tell_7 (by decide) (fun n17 => ?_) (fun z16 n17 => ?_)
  · subst n17
    have hf := cs_n hf
    refine lv_iconst (v := (-1)) C.1 C.2.1 dX11_tell_10 (by decide) ?_
    cases hf
    exact x_iret C hW dX11_tell_11
  · subst n17
    have hf := cs_q hf
    refine lv_aload_n C.1 C.2.1 dX11_tell_12 rfl (lv_at hl 1 rfl) ?_
    refine lv_iconst (v := 0) C.1 C.2.1 dX11_tell_13 (by decide) ?_
    obtain ⟨x18, m19, r20, hf⟩ := bd2_s hf
    refine x_ci hW (x_runV C hW [.int 0] [] (ha0).1 (ha0).2.1 kX11.1 kvX11_isTooMuch q_574 (tX11_isTooMuch l C.2.2.2.2.2.2.1 ha0 r20) rfl rfl ⟨by decide, by decide⟩ rfl hl.1 rfl (Nat.le_of_ble_eq_true rfl) dX11_tell_14) (fun H locs hW => ?_)
    refine lv_if_eq (tgt := 23) C.1 C.2.1 dX11_tell_17 (by decide) (fun c21 => ?_) (fun c21 => ?_)
    · have hf := if_t c21 hf
      refine lv_aload_n C.1 C.2.1 dX11_tell_23 rfl (lv_at hl 1 rfl) ?_
      refine x_getr C hW (ha0).1 (ha0).2.1 (j := 2) rfl kX11 (by decide) rfl q_310 dX11_tell_24 ?_
      refine x_geti C hW (ha0.2.2.2.2.1).1 (ha0.2.2.2.2.1).2.1 (j := 5) rfl kX0 (by decide) rfl q_72 dX11_tell_27 ?_
      refine lv_if_ne (tgt := 39) C.1 C.2.1 dX11_tell_30 (by decide) (fun c22 => ?_) (fun c22 => ?_)
      · have hf := if_f c22 hf
        refine lv_aload_n C.1 C.2.1 dX11_tell_39 rfl (lv_at hl 1 rfl) ?_
        refine x_getr C hW (ha0).1 (ha0).2.1 (j := 11) rfl kX11 (by decide) rfl q_319 dX11_tell_40 ?_
        refine lv_aload_n C.1 C.2.1 dX11_tell_43 rfl (lv_at hl 1 rfl) ?_
        refine x_getr C hW (ha0).1 (ha0).2.1 (j := 2) rfl kX11 (by decide) rfl q_310 dX11_tell_44 ?_
        refine lv_aload_n C.1 C.2.1 dX11_tell_47 rfl (lv_at hl 1 rfl) ?_
        refine x_getr C hW (ha0).1 (ha0).2.1 (j := 11) rfl kX11 (by decide) rfl q_319 dX11_tell_48 ?_
        refine lv_aload_n C.1 C.2.1 dX11_tell_51 rfl (lv_at hl 1 rfl) ?_
        refine x_getr C hW (ha0).1 (ha0).2.1 (j := 2) rfl kX11 (by decide) rfl q_310 dX11_tell_52 ?_
        obtain ⟨x23, m24, r25, hf⟩ := bd2_s hf
        refine x_ci hW (x_runV C hW [.ref (ad (fr a0 2))] [.ref (ad (fr a0 2)), .ref (ad (fr a0 11))] (ha0.2.2.2.2.2.2.2.2.2.2.2.2.2.1).1 (ha0.2.2.2.2.2.2.2.2.2.2.2.2.2.1).2.1 kX2.1 kvX2_fitting q_729 (tX2_fitting l C.2.2.2.2.2.2.1 ha0.2.2.2.2.2.2.2.2.2.2.2.2.2.1 ha0.2.2.2.2.1 r25) rfl rfl ⟨by decide, by decide⟩ rfl hl.1 rfl (Nat.le_of_ble_eq_true rfl) dX11_tell_55) (fun H locs hW => ?_)
        obtain ⟨x26, m27, r28, hf⟩ := bd2_s hf
        refine x_cv hW (x_runV C hW [.ref (ad (fr a0 2)), .int x23] [] (ha0.2.2.2.2.2.2.2.2.2.2.2.2.2.1).1 (ha0.2.2.2.2.2.2.2.2.2.2.2.2.2.1).2.1 kX2.1 kvX2_prepare q_775 (tX2_prepare l C.2.2.2.2.2.2.1 ha0.2.2.2.2.2.2.2.2.2.2.2.2.2.1 ha0.2.2.2.2.1 r28) rfl rfl ⟨by decide, by decide⟩ rfl hl.1 rfl (Nat.le_of_ble_eq_true rfl) dX11_tell_58) (fun H locs hW => ?_)
        refine lv_aload_n C.1 C.2.1 dX11_tell_61 rfl (lv_at hl 1 rfl) ?_
        refine x_getr C hW (ha0).1 (ha0).2.1 (j := 6) rfl kX11 (by decide) rfl q_314 dX11_tell_62 ?_
        refine lv_aload_n C.1 C.2.1 dX11_tell_65 rfl (lv_at hl 1 rfl) ?_
        refine x_getr C hW (ha0).1 (ha0).2.1 (j := 2) rfl kX11 (by decide) rfl q_310 dX11_tell_66 ?_
        refine x_geti C hW (ha0.2.2.2.2.1).1 (ha0.2.2.2.2.1).2.1 (j := 5) rfl kX0 (by decide) rfl q_72 dX11_tell_69 ?_
        refine lv_aload_n C.1 C.2.1 dX11_tell_72 rfl (lv_at hl 1 rfl) ?_
        refine x_getr C hW (ha0).1 (ha0).2.1 (j := 2) rfl kX11 (by decide) rfl q_310 dX11_tell_73 ?_
        refine x_getr C hW (ha0.2.2.2.2.1).1 (ha0.2.2.2.2.1).2.1 (j := 1) rfl kX0 (by decide) rfl q_62 dX11_tell_76 ?_
        refine lv_iconst (v := 0) C.1 C.2.1 dX11_tell_79 (by decide) ?_
        obtain ⟨g29, hf⟩ := gd_s hf
        refine x_iald C hW ha0.2.2.2.2.1.2.2.2.1 g29 dX11_tell_80 ?_
        obtain ⟨x30, m31, r32, hf⟩ := bd2_s hf
        refine x_cv hW (x_runV C hW [.int (rd m27 (fr a0 2) 5), .int (rd m27 (fr (fr a0 2) 1) ((0 : Int32).toNatClampNeg))] [] (ha0.2.2.2.2.2.2.2.2.1).1 (ha0.2.2.2.2.2.2.2.2.1).2.1 kX3.1 kvX3_begin q_537 (tX3_begin l C.2.2.2.2.2.2.1 ha0.2.2.2.2.2.2.2.2.1 r32) rfl rfl ⟨by decide, by decide⟩ rfl hl.1 rfl (Nat.le_of_ble_eq_true rfl) dX11_tell_81) (fun H locs hW => ?_)
        refine lv_iconst (v := (-1)) C.1 C.2.1 dX11_tell_84 (by decide) ?_
        refine lv_istore_n (lv' := [(3, .int (-1)), (2, .ref (ad z16)), (0, .ref (ad a0)), (1, .int a1)]) C.1 C.2.1 dX11_tell_85 rfl hl (by decide) rfl (fun ls hl => ?_)
        refine lv_iconst (v := 0) C.1 C.2.1 dX11_tell_86 (by decide) ?_
        refine lv_istore (lv' := [(4, .int 0), (3, .int (-1)), (2, .ref (ad z16)), (0, .ref (ad a0)), (1, .int a1)]) C.1 C.2.1 dX11_tell_87 hl (by decide) rfl (fun ls hl => ?_)
        refine lv_iconst (v := 0) C.1 C.2.1 dX11_tell_89 (by decide) ?_
        refine lv_istore (lv' := [(5, .int 0), (4, .int 0), (3, .int (-1)), (2, .ref (ad z16)), (0, .ref (ad a0)), (1, .int a1)]) C.1 C.2.1 dX11_tell_90 hl (by decide) rfl (fun ls hl => ?_)
        exact wX11_tell_92 C  N ha0 ((gX11_rowOf ha0 r15) z16 rfl) hW (lv_sub hl [4, 3, 2, 1, 0] rfl) hf
      · have hf := if_t c22 hf
        refine lv_aload_n C.1 C.2.1 dX11_tell_33 rfl (lv_at hl 1 rfl) ?_
        refine lv_iconst (v := 4) C.1 C.2.1 dX11_tell_34 (by decide) ?_
        obtain ⟨x33, m34, r35, hf⟩ := bd2_s hf
        refine x_ci hW (x_runV C hW [.int 4] [] (ha0).1 (ha0).2.1 kX11.1 kvX11_refused q_372 (tX11_refused l C.2.2.2.2.2.2.1 ha0 r35) rfl rfl ⟨by decide, by decide⟩ rfl hl.1 rfl (Nat.le_of_ble_eq_true rfl) dX11_tell_35) (fun H locs hW => ?_)
        cases hf
        exact x_iret C hW dX11_tell_38
    · have hf := if_f c21 hf
      refine lv_bipush (v := (-6)) C.1 C.2.1 dX11_tell_20 (by decide) ?_
      cases hf
      exact x_iret C hW dX11_tell_22
set_option maxRecDepth 100000 in
set_option maxHeartbeats 4000000 in
theorem tX11_tell (l : Launch) {D : va_G} {ca ad : Nat → Nat} (hi : Inj ad) {N : Nat} {a0 : Nat} {a1 : Int32} {mm : Mm} {res : Int32 × Mm} (ha0 : sX11 a0) (hf : fX11_tell N a0 a1 mm = some res) : Met l yX11_tell (WS yX11_tell cX11_tell 7 (some .int)) (rmX11_tell) (va_Pc [.ref (ad a0), .int a1] (WB D ca ad mm)) (QI D ca ad res) 0 0 (AA ad) := by
  refine x_start hi (by decide) rfl (Nat.le_of_ble_eq_true rfl) (fun p e s m args below meth c ls C hW hl => ?_)
  exact wX11_tell_0 C ha0 hW (lv_sub hl [0, 1] rfl) hf
set_option maxRecDepth 100000 in
set_option maxHeartbeats 4000000 in
theorem wX11_keptOf_0 (C : Cx p s m meth c args cX11_keptOf 2 (some (.object "HeavyFiles$Court")) RX11 D ca ad) {res : Option Nat × Mm} {N : Nat}  {a0 : Nat} {a1 : Int32} {mm : Mm} {H : Heap} {locs : List Loc} {ls : Array Slot} (ha0 : sX11 a0) (hW : Wd D ca ad s.heap mm H locs) (hl : lv_has ls 2 [(0, .ref (ad a0)), (1, .int a1)]) (hf : fX11_keptOf N a0 a1 mm = some res) : W p l e (rmX11_keptOf) s m args below meth c H locs 0 0 (MQ below (QR D ca ad res) args s 0 0 (AA ad)) (F0 m 0 ls []) := by
  unfold fX11_keptOf at hf
  refine lv_iload_n C.1 C.2.1 dX11_keptOf_0 rfl (lv_at hl 1 rfl) ?_
  refine lv_if_lt (tgt := 9) C.1 C.2.1 dX11_keptOf_1 (by decide) (fun c1 => ?_) (fun c1 => ?_)
  · have hf := if_t c1 hf
    refine lv_null C.1 C.2.1 dX11_keptOf_9 ?_
    refine lv_goto (tgt := 19) C.1 C.2.1 dX11_keptOf_10 (by decide) ?_
    cases hf
    exact x_aret C (Or.inl ⟨_, rfl⟩) hW dX11_keptOf_19
  · have hf := if_f c1 hf
    refine lv_iload_n C.1 C.2.1 dX11_keptOf_4 rfl (lv_at hl 1 rfl) ?_
    refine lv_iconst (v := 3) C.1 C.2.1 dX11_keptOf_5 (by decide) ?_
    refine lv_icmp_lt (tgt := 13) C.1 C.2.1 dX11_keptOf_6 (by decide) (fun c2 => ?_) (fun c2 => ?_)
    · have hf := if_t c2 hf
      refine lv_aload_n C.1 C.2.1 dX11_keptOf_13 rfl (lv_at hl 0 rfl) ?_
      refine x_getr C hW (ha0).1 (ha0).2.1 (j := 3) rfl kX11 (by decide) rfl q_311 dX11_keptOf_14 ?_
      refine lv_iload_n C.1 C.2.1 dX11_keptOf_17 rfl (lv_at hl 1 rfl) ?_
      obtain ⟨g3, hf⟩ := gd_s hf
      refine x_aald C hW (ha0.2.2.2.2.2.1).1 (fun _ => rfl) rfl g3 dX11_keptOf_18 ?_
      cases hf
      exact x_aret C (Or.inl ⟨_, rfl⟩) hW dX11_keptOf_19
    · have hf := if_f c2 hf
      refine lv_null C.1 C.2.1 dX11_keptOf_9 ?_
      refine lv_goto (tgt := 19) C.1 C.2.1 dX11_keptOf_10 (by decide) ?_
      cases hf
      exact x_aret C (Or.inl ⟨_, rfl⟩) hW dX11_keptOf_19
set_option maxRecDepth 100000 in
set_option maxHeartbeats 4000000 in
theorem tX11_keptOf (l : Launch) {D : va_G} {ca ad : Nat → Nat} (hi : Inj ad) {N : Nat} {a0 : Nat} {a1 : Int32} {mm : Mm} {res : Option Nat × Mm} (ha0 : sX11 a0) (hf : fX11_keptOf N a0 a1 mm = some res) : Met l yX11_keptOf (WS yX11_keptOf cX11_keptOf 2 (some (.object "HeavyFiles$Court"))) (rmX11_keptOf) (va_Pc [.ref (ad a0), .int a1] (WB D ca ad mm)) (QR D ca ad res) 0 0 (AA ad) := by
  refine x_start hi (by decide) rfl (Nat.le_of_ble_eq_true rfl) (fun p e s m args below meth c ls C hW hl => ?_)
  exact wX11_keptOf_0 C ha0 hW (lv_sub hl [0, 1] rfl) hf
theorem gX11_keptOf {N a0 : Nat} {a1 : Int32} {mm m1 : Mm} {x : Option Nat} (ha0 : sX11 a0) (hf : fX11_keptOf N a0 a1 mm = some (x, m1)) : ∀ q, x = some q → sX0 q := by
  intro q hq
  subst hq
  unfold fX11_keptOf at hf
  repeat' (split at hf)
  all_goals first
    | (cases hf; done)
    | (obtain ⟨g, hf⟩ := gd_s hf; cases hf; exact ha0.2.2.2.2.2.1.2 _ (inb_lt g))
set_option maxRecDepth 100000 in
set_option maxHeartbeats 4000000 in
theorem wX11_keep_0 (C : Cx p s m meth c args cX11_keep 3 (some .int) RX11 D ca ad) {res : Int32 × Mm} {N : Nat}  {a0 : Nat} {a1 : Int32} {mm : Mm} {H : Heap} {locs : List Loc} {ls : Array Slot} (ha0 : sX11 a0) (hW : Wd D ca ad s.heap mm H locs) (hl : lv_has ls 3 [(0, .ref (ad a0)), (1, .int a1)]) (hf : fX11_keep N a0 a1 mm = some res) : W p l e (rmX11_keep) s m args below meth c H locs 0 0 (MQ below (QI D ca ad res) args s 0 0 (AA ad)) (F0 m 0 ls []) := by
  unfold fX11_keep at hf
  refine lv_aload_n C.1 C.2.1 dX11_keep_0 rfl (lv_at hl 0 rfl) ?_
  refine lv_iload_n C.1 C.2.1 dX11_keep_1 rfl (lv_at hl 1 rfl) ?_
  obtain ⟨x1, m2, r3, hf⟩ := bd2_s hf
  refine x_cr hW (x_runV C hW [.int a1] [] (ha0).1 (ha0).2.1 kX11.1 kvX11_keptOf q_784 (tX11_keptOf l C.2.2.2.2.2.2.1 ha0 r3) rfl rfl ⟨by decide, by decide⟩ rfl hl.1 rfl (Nat.le_of_ble_eq_true rfl) dX11_keep_2) (fun H locs hW => ?_)
  refine x_astore_n (lv' := [(2, va_re ad x1), (0, .ref (ad a0)), (1, .int a1)]) C dX11_keep_5 rfl hl (by decide) rfl (fun ls hl => ?_)
  refine x_aload_n C dX11_keep_6 rfl (lv_at hl 0 rfl) ?_
  refine x_ifnonnull C (tgt := 12) dX11_keep_7 (by decide) (fun n5 => ?_) (fun z4 n5 => ?_)
  · subst n5
    have hf := cs_n hf
    refine lv_iconst (v := (-1)) C.1 C.2.1 dX11_keep_10 (by decide) ?_
    cases hf
    exact x_iret C hW dX11_keep_11
  · subst n5
    have hf := cs_q hf
    refine lv_aload_n C.1 C.2.1 dX11_keep_12 rfl (lv_at hl 1 rfl) ?_
    refine x_getr C hW (ha0).1 (ha0).2.1 (j := 2) rfl kX11 (by decide) rfl q_310 dX11_keep_13 ?_
    refine x_geti C hW (ha0.2.2.2.2.1).1 (ha0.2.2.2.2.1).2.1 (j := 5) rfl kX0 (by decide) rfl q_72 dX11_keep_16 ?_
    refine lv_if_ne (tgt := 25) C.1 C.2.1 dX11_keep_19 (by decide) (fun c6 => ?_) (fun c6 => ?_)
    · have hf := if_f c6 hf
      refine lv_aload_n C.1 C.2.1 dX11_keep_25 rfl (lv_at hl 0 rfl) ?_
      refine lv_aload_n C.1 C.2.1 dX11_keep_26 rfl (lv_at hl 1 rfl) ?_
      refine x_getr C hW (ha0).1 (ha0).2.1 (j := 2) rfl kX11 (by decide) rfl q_310 dX11_keep_27 ?_
      obtain ⟨x7, m8, r9, hf⟩ := bd2_s hf
      refine x_cv hW (x_runV C hW [.ref (ad (fr a0 2))] [] (((gX11_keptOf ha0 r3) z4 rfl)).1 (((gX11_keptOf ha0 r3) z4 rfl)).2.1 kX0.1 kvX0_take q_788 (tX0_take l C.2.2.2.2.2.2.1 ((gX11_keptOf ha0 r3) z4 rfl) ha0.2.2.2.2.1 r9) rfl rfl ⟨by decide, by decide⟩ rfl hl.1 rfl (Nat.le_of_ble_eq_true rfl) dX11_keep_30) (fun H locs hW => ?_)
      refine lv_aload_n C.1 C.2.1 dX11_keep_33 rfl (lv_at hl 0 rfl) ?_
      refine lv_iconst (v := 1) C.1 C.2.1 dX11_keep_34 (by decide) ?_
      refine x_put C hW (((gX11_keptOf ha0 r3) z4 rfl)).1 (((gX11_keptOf ha0 r3) z4 rfl)).2.1 (j := 8) (t1 := .boolean) rfl kX0 (by decide) rfl rfl q_81 (by decide +kernel) rfl rfl dX11_keep_35 (fun H locs hW => ?_)
      obtain ⟨m10, em10⟩ : ∃ z, z = wr m8 z4 8 1 := ⟨_, rfl⟩
      have hf := nm_s hf em10
      rw [← em10] at hW
      refine lv_aload_n C.1 C.2.1 dX11_keep_38 rfl (lv_at hl 0 rfl) ?_
      refine x_geti C hW (((gX11_keptOf ha0 r3) z4 rfl)).1 (((gX11_keptOf ha0 r3) z4 rfl)).2.1 (j := 7) rfl kX0 (by decide) rfl q_80 dX11_keep_39 ?_
      cases hf
      exact x_iret C hW dX11_keep_42
    · have hf := if_t c6 hf
      refine lv_bipush (v := (-4)) C.1 C.2.1 dX11_keep_22 (by decide) ?_
      cases hf
      exact x_iret C hW dX11_keep_24
set_option maxRecDepth 100000 in
set_option maxHeartbeats 4000000 in
theorem tX11_keep (l : Launch) {D : va_G} {ca ad : Nat → Nat} (hi : Inj ad) {N : Nat} {a0 : Nat} {a1 : Int32} {mm : Mm} {res : Int32 × Mm} (ha0 : sX11 a0) (hf : fX11_keep N a0 a1 mm = some res) : Met l yX11_keep (WS yX11_keep cX11_keep 3 (some .int)) (rmX11_keep) (va_Pc [.ref (ad a0), .int a1] (WB D ca ad mm)) (QI D ca ad res) 0 0 (AA ad) := by
  refine x_start hi (by decide) rfl (Nat.le_of_ble_eq_true rfl) (fun p e s m args below meth c ls C hW hl => ?_)
  exact wX11_keep_0 C ha0 hW (lv_sub hl [0, 1] rfl) hf
set_option maxRecDepth 100000 in
set_option maxHeartbeats 4000000 in
theorem wX11_on_0 (C : Cx p s m meth c args cX11_on 3 (some .int) RX11 D ca ad) {res : Int32 × Mm} {N : Nat}  {a0 : Nat} {a1 : Int32} {mm : Mm} {H : Heap} {locs : List Loc} {ls : Array Slot} (ha0 : sX11 a0) (hW : Wd D ca ad s.heap mm H locs) (hl : lv_has ls 3 [(0, .ref (ad a0)), (1, .int a1)]) (hf : fX11_on N a0 a1 mm = some res) : W p l e (rmX11_on) s m args below meth c H locs 0 0 (MQ below (QI D ca ad res) args s 0 0 (AA ad)) (F0 m 0 ls []) := by
  unfold fX11_on at hf
  refine lv_aload_n C.1 C.2.1 dX11_on_0 rfl (lv_at hl 0 rfl) ?_
  refine lv_iload_n C.1 C.2.1 dX11_on_1 rfl (lv_at hl 1 rfl) ?_
  obtain ⟨x1, m2, r3, hf⟩ := bd2_s hf
  refine x_cr hW (x_runV C hW [.int a1] [] (ha0).1 (ha0).2.1 kX11.1 kvX11_keptOf q_784 (tX11_keptOf l C.2.2.2.2.2.2.1 ha0 r3) rfl rfl ⟨by decide, by decide⟩ rfl hl.1 rfl (Nat.le_of_ble_eq_true rfl) dX11_on_2) (fun H locs hW => ?_)
  refine x_astore_n (lv' := [(2, va_re ad x1), (0, .ref (ad a0)), (1, .int a1)]) C dX11_on_5 rfl hl (by decide) rfl (fun ls hl => ?_)
  refine x_aload_n C dX11_on_6 rfl (lv_at hl 0 rfl) ?_
  refine x_ifnonnull C (tgt := 12) dX11_on_7 (by decide) (fun n5 => ?_) (fun z4 n5 => ?_)
  · subst n5
    have hf := cs_n hf
    refine lv_iconst (v := (-1)) C.1 C.2.1 dX11_on_10 (by decide) ?_
    cases hf
    exact x_iret C hW dX11_on_11
  · subst n5
    have hf := cs_q hf
    refine lv_aload_n C.1 C.2.1 dX11_on_12 rfl (lv_at hl 0 rfl) ?_
    refine x_geti C hW (((gX11_keptOf ha0 r3) z4 rfl)).1 (((gX11_keptOf ha0 r3) z4 rfl)).2.1 (j := 8) rfl kX0 (by decide) rfl q_81 dX11_on_13 ?_
    refine lv_if_ne (tgt := 25) C.1 C.2.1 dX11_on_16 (by decide) (fun c6 => ?_) (fun c6 => ?_)
    · have hf := if_f c6 hf
      refine lv_aload_n C.1 C.2.1 dX11_on_25 rfl (lv_at hl 1 rfl) ?_
      refine x_getr C hW (ha0).1 (ha0).2.1 (j := 2) rfl kX11 (by decide) rfl q_310 dX11_on_26 ?_
      refine lv_aload_n C.1 C.2.1 dX11_on_29 rfl (lv_at hl 0 rfl) ?_
      obtain ⟨x7, m8, r9, hf⟩ := bd2_s hf
      refine x_cv hW (x_runV C hW [.ref (ad z4)] [] (ha0.2.2.2.2.1).1 (ha0.2.2.2.2.1).2.1 kX0.1 kvX0_take q_788 (tX0_take l C.2.2.2.2.2.2.1 ha0.2.2.2.2.1 ((gX11_keptOf ha0 r3) z4 rfl) r9) rfl rfl ⟨by decide, by decide⟩ rfl hl.1 rfl (Nat.le_of_ble_eq_true rfl) dX11_on_30) (fun H locs hW => ?_)
      refine lv_aload_n C.1 C.2.1 dX11_on_33 rfl (lv_at hl 1 rfl) ?_
      refine x_getr C hW (ha0).1 (ha0).2.1 (j := 10) rfl kX11 (by decide) rfl q_318 dX11_on_34 ?_
      obtain ⟨x10, m11, r12, hf⟩ := bd2_s hf
      refine x_cv hW (x_runV C hW [] [] (ha0.2.2.2.2.2.2.2.2.2.2.2.2.1).1 (ha0.2.2.2.2.2.2.2.2.2.2.2.2.1).2.1 kX10.1 kvX10_forget q_388 (tX10_forget l C.2.2.2.2.2.2.1 ha0.2.2.2.2.2.2.2.2.2.2.2.2.1 r12) rfl rfl ⟨by decide, by decide⟩ rfl hl.1 rfl (Nat.le_of_ble_eq_true rfl) dX11_on_37) (fun H locs hW => ?_)
      refine lv_aload_n C.1 C.2.1 dX11_on_40 rfl (lv_at hl 1 rfl) ?_
      refine x_getr C hW (ha0).1 (ha0).2.1 (j := 2) rfl kX11 (by decide) rfl q_310 dX11_on_41 ?_
      refine x_geti C hW (ha0.2.2.2.2.1).1 (ha0.2.2.2.2.1).2.1 (j := 7) rfl kX0 (by decide) rfl q_80 dX11_on_44 ?_
      cases hf
      exact x_iret C hW dX11_on_47
    · have hf := if_t c6 hf
      refine lv_aload_n C.1 C.2.1 dX11_on_19 rfl (lv_at hl 1 rfl) ?_
      refine lv_iconst (v := 1) C.1 C.2.1 dX11_on_20 (by decide) ?_
      obtain ⟨x13, m14, r15, hf⟩ := bd2_s hf
      refine x_ci hW (x_runV C hW [.int 1] [] (ha0).1 (ha0).2.1 kX11.1 kvX11_refused q_372 (tX11_refused l C.2.2.2.2.2.2.1 ha0 r15) rfl rfl ⟨by decide, by decide⟩ rfl hl.1 rfl (Nat.le_of_ble_eq_true rfl) dX11_on_21) (fun H locs hW => ?_)
      cases hf
      exact x_iret C hW dX11_on_24
set_option maxRecDepth 100000 in
set_option maxHeartbeats 4000000 in
theorem tX11_on (l : Launch) {D : va_G} {ca ad : Nat → Nat} (hi : Inj ad) {N : Nat} {a0 : Nat} {a1 : Int32} {mm : Mm} {res : Int32 × Mm} (ha0 : sX11 a0) (hf : fX11_on N a0 a1 mm = some res) : Met l yX11_on (WS yX11_on cX11_on 3 (some .int)) (rmX11_on) (va_Pc [.ref (ad a0), .int a1] (WB D ca ad mm)) (QI D ca ad res) 0 0 (AA ad) := by
  refine x_start hi (by decide) rfl (Nat.le_of_ble_eq_true rfl) (fun p e s m args below meth c ls C hW hl => ?_)
  exact wX11_on_0 C ha0 hW (lv_sub hl [0, 1] rfl) hf
set_option maxRecDepth 100000 in
set_option maxHeartbeats 4000000 in
theorem wX11_asked_0 (C : Cx p s m meth c args cX11_asked 1 (some .int) RX11 D ca ad) {res : Int32 × Mm} {N : Nat}  {a0 : Nat} {mm : Mm} {H : Heap} {locs : List Loc} {ls : Array Slot} (ha0 : sX11 a0) (hW : Wd D ca ad s.heap mm H locs) (hl : lv_has ls 1 [(0, .ref (ad a0))]) (hf : fX11_asked N a0 mm = some res) : W p l e (rmX11_asked) s m args below meth c H locs 0 0 (MQ below (QI D ca ad res) args s 0 0 (AA ad)) (F0 m 0 ls []) := by
  unfold fX11_asked at hf
  refine lv_aload_n C.1 C.2.1 dX11_asked_0 rfl (lv_at hl 0 rfl) ?_
  refine x_geti C hW (ha0).1 (ha0).2.1 (j := 14) rfl kX11 (by decide) rfl q_322 dX11_asked_1 ?_
  cases hf
  exact x_iret C hW dX11_asked_4
set_option maxRecDepth 100000 in
set_option maxHeartbeats 4000000 in
theorem tX11_asked (l : Launch) {D : va_G} {ca ad : Nat → Nat} (hi : Inj ad) {N : Nat} {a0 : Nat} {mm : Mm} {res : Int32 × Mm} (ha0 : sX11 a0) (hf : fX11_asked N a0 mm = some res) : Met l yX11_asked (WS yX11_asked cX11_asked 1 (some .int)) (rmX11_asked) (va_Pc [.ref (ad a0)] (WB D ca ad mm)) (QI D ca ad res) 0 0 (AA ad) := by
  refine x_start hi (by decide) rfl (Nat.le_of_ble_eq_true rfl) (fun p e s m args below meth c ls C hW hl => ?_)
  exact wX11_asked_0 C ha0 hW (lv_sub hl [0] rfl) hf
set_option maxRecDepth 100000 in
set_option maxHeartbeats 4000000 in
theorem wX11_upper_0 (C : Cx p s m meth c args cX11_upper 1 (some .long) RX11 D ca ad) {res : Int64 × Mm} {N : Nat}  {a0 : Nat} {mm : Mm} {H : Heap} {locs : List Loc} {ls : Array Slot} (ha0 : sX11 a0) (hW : Wd D ca ad s.heap mm H locs) (hl : lv_has ls 1 [(0, .ref (ad a0))]) (hf : fX11_upper N a0 mm = some res) : W p l e (rmX11_upper) s m args below meth c H locs 0 0 (MQ below (QL D ca ad res) args s 0 0 (AA ad)) (F0 m 0 ls []) := by
  unfold fX11_upper at hf
  refine lv_aload_n C.1 C.2.1 dX11_upper_0 rfl (lv_at hl 0 rfl) ?_
  refine x_getl C hW (ha0).1 (ha0).2.1 (j := 15) rfl kX11 (by decide) rfl q_323 dX11_upper_1 ?_
  cases hf
  exact x_lret C hW dX11_upper_4
set_option maxRecDepth 100000 in
set_option maxHeartbeats 4000000 in
theorem tX11_upper (l : Launch) {D : va_G} {ca ad : Nat → Nat} (hi : Inj ad) {N : Nat} {a0 : Nat} {mm : Mm} {res : Int64 × Mm} (ha0 : sX11 a0) (hf : fX11_upper N a0 mm = some res) : Met l yX11_upper (WS yX11_upper cX11_upper 1 (some .long)) (rmX11_upper) (va_Pc [.ref (ad a0)] (WB D ca ad mm)) (QL D ca ad res) 0 0 (AA ad) := by
  refine x_start hi (by decide) rfl (Nat.le_of_ble_eq_true rfl) (fun p e s m args below meth c ls C hW hl => ?_)
  exact wX11_upper_0 C ha0 hW (lv_sub hl [0] rfl) hf
set_option maxRecDepth 100000 in
set_option maxHeartbeats 4000000 in
theorem wX11_lower_0 (C : Cx p s m meth c args cX11_lower 1 (some .long) RX11 D ca ad) {res : Int64 × Mm} {N : Nat}  {a0 : Nat} {mm : Mm} {H : Heap} {locs : List Loc} {ls : Array Slot} (ha0 : sX11 a0) (hW : Wd D ca ad s.heap mm H locs) (hl : lv_has ls 1 [(0, .ref (ad a0))]) (hf : fX11_lower N a0 mm = some res) : W p l e (rmX11_lower) s m args below meth c H locs 0 0 (MQ below (QL D ca ad res) args s 0 0 (AA ad)) (F0 m 0 ls []) := by
  unfold fX11_lower at hf
  refine lv_aload_n C.1 C.2.1 dX11_lower_0 rfl (lv_at hl 0 rfl) ?_
  refine x_getl C hW (ha0).1 (ha0).2.1 (j := 16) rfl kX11 (by decide) rfl q_324 dX11_lower_1 ?_
  cases hf
  exact x_lret C hW dX11_lower_4
set_option maxRecDepth 100000 in
set_option maxHeartbeats 4000000 in
theorem tX11_lower (l : Launch) {D : va_G} {ca ad : Nat → Nat} (hi : Inj ad) {N : Nat} {a0 : Nat} {mm : Mm} {res : Int64 × Mm} (ha0 : sX11 a0) (hf : fX11_lower N a0 mm = some res) : Met l yX11_lower (WS yX11_lower cX11_lower 1 (some .long)) (rmX11_lower) (va_Pc [.ref (ad a0)] (WB D ca ad mm)) (QL D ca ad res) 0 0 (AA ad) := by
  refine x_start hi (by decide) rfl (Nat.le_of_ble_eq_true rfl) (fun p e s m args below meth c ls C hW hl => ?_)
  exact wX11_lower_0 C ha0 hW (lv_sub hl [0] rfl) hf
set_option maxRecDepth 100000 in
set_option maxHeartbeats 4000000 in
theorem wX11_keptCourts_24 (C : Cx p s m meth c args cX11_keptCourts 3 (some .int) RX11 D ca ad) {res : Int32 × Mm} {N : Nat} {k4 : Nat → Int32 → Int32 → Mm → Option (Int32 × Mm)} (hk4 : ∀ (a0 : Nat) (a1 : Int32) (a2 : Int32) (mm : Mm) (H : Heap) (locs : List Loc) (ls : Array Slot), (sX11 a0) → Wd D ca ad s.heap mm H locs → lv_has ls 3 [(0, .ref (ad a0)), (1, .int a1), (2, .int a2)] → k4 a0 a1 a2 mm = some res → W p l e (rmX11_keptCourts) s m args below meth c H locs 0 0 (MQ below (QI D ca ad res) args s 0 0 (AA ad)) (F0 m 4 ls [])) {a0 : Nat} {a1 : Int32} {a2 : Int32} {mm : Mm} {H : Heap} {locs : List Loc} {ls : Array Slot} (ha0 : sX11 a0) (hW : Wd D ca ad s.heap mm H locs) (hl : lv_has ls 3 [(0, .ref (ad a0)), (1, .int a1), (2, .int a2)]) (hf : fX11_keptCourts_24 N k4 a0 a1 a2 mm = some res) : W p l e (rmX11_keptCourts) s m args below meth c H locs 0 0 (MQ below (QI D ca ad res) args s 0 0 (AA ad)) (F0 m 24 ls []) := by
  unfold fX11_keptCourts_24 at hf
  refine lv_iinc (v := (a2 + 1)) (lv' := [(2, .int (a2 + 1)), (0, .ref (ad a0)), (1, .int a1)]) C.1 C.2.1 dX11_keptCourts_24 hl (k := 2) rfl rfl (by decide) rfl (fun ls hl => ?_)
  refine lv_goto (tgt := 4) C.1 C.2.1 dX11_keptCourts_27 (by decide) ?_
  exact hk4 _ _ _ _ _ _ _ ha0 hW (lv_sub hl [1, 2, 0] rfl) hf
set_option maxRecDepth 100000 in
set_option maxHeartbeats 4000000 in
theorem wX11_keptCourts_4 (C : Cx p s m meth c args cX11_keptCourts 3 (some .int) RX11 D ca ad) {res : Int32 × Mm} {N : Nat}  : ∀ (n : Nat) {a0 : Nat} {a1 : Int32} {a2 : Int32} {mm : Mm} {H : Heap} {locs : List Loc} {ls : Array Slot}, (sX11 a0) → Wd D ca ad s.heap mm H locs → lv_has ls 3 [(0, .ref (ad a0)), (1, .int a1), (2, .int a2)] → fX11_keptCourts_4 N n a0 a1 a2 mm = some res → W p l e (rmX11_keptCourts) s m args below meth c H locs 0 0 (MQ below (QI D ca ad res) args s 0 0 (AA ad)) (F0 m 4 ls []) := by
  intro n
  induction n with
  | zero => intro a0 a1 a2 mm H locs ls ha0 hW hl hf; cases hf
  | succ n ih =>
    intro a0 a1 a2 mm H locs ls ha0 hW hl hf
    have hk4 : ∀ (a0 : Nat) (a1 : Int32) (a2 : Int32) (mm : Mm) (H : Heap) (locs : List Loc) (ls : Array Slot), (sX11 a0) → Wd D ca ad s.heap mm H locs → lv_has ls 3 [(0, .ref (ad a0)), (1, .int a1), (2, .int a2)] → (fX11_keptCourts_4 N n) a0 a1 a2 mm = some res → W p l e (rmX11_keptCourts) s m args below meth c H locs 0 0 (MQ below (QI D ca ad res) args s 0 0 (AA ad)) (F0 m 4 ls []) := fun a0 a1 a2 mm H locs ls ha0 hW hl hf => ih ha0 hW hl hf
    unfold fX11_keptCourts_4 at hf
    try dsimp only at hf
    refine lv_iload_n C.1 C.2.1 dX11_keptCourts_4 rfl (lv_at hl 2 rfl) ?_
    refine lv_iconst (v := 3) C.1 C.2.1 dX11_keptCourts_5 (by decide) ?_
    refine lv_icmp_ge (tgt := 30) C.1 C.2.1 dX11_keptCourts_6 (by decide) (fun c1 => ?_) (fun c1 => ?_)
    · have hf := if_t c1 hf
      refine lv_iload_n C.1 C.2.1 dX11_keptCourts_30 rfl (lv_at hl 1 rfl) ?_
      cases hf
      exact x_iret C hW dX11_keptCourts_31
    · have hf := if_f c1 hf
      refine lv_aload_n C.1 C.2.1 dX11_keptCourts_9 rfl (lv_at hl 0 rfl) ?_
      refine x_getr C hW (ha0).1 (ha0).2.1 (j := 3) rfl kX11 (by decide) rfl q_311 dX11_keptCourts_10 ?_
      refine lv_iload_n C.1 C.2.1 dX11_keptCourts_13 rfl (lv_at hl 2 rfl) ?_
      obtain ⟨g2, hf⟩ := gd_s hf
      refine x_aald C hW (ha0.2.2.2.2.2.1).1 (fun _ => rfl) rfl g2 dX11_keptCourts_14 ?_
      refine x_geti C hW ((ha0.2.2.2.2.2.1).2 _ (inb_lt g2)).1 ((ha0.2.2.2.2.2.1).2 _ (inb_lt g2)).2.1 (j := 8) rfl kX0 (by decide) rfl q_81 dX11_keptCourts_15 ?_
      refine lv_if_eq (tgt := 24) C.1 C.2.1 dX11_keptCourts_18 (by decide) (fun c3 => ?_) (fun c3 => ?_)
      · have hf := if_t c3 hf
        exact wX11_keptCourts_24 C hk4 ha0 hW (lv_sub hl [0, 1, 2] rfl) hf
      · have hf := if_f c3 hf
        refine lv_iinc (v := (a1 + 1)) (lv' := [(1, .int (a1 + 1)), (0, .ref (ad a0)), (2, .int a2)]) C.1 C.2.1 dX11_keptCourts_21 hl (k := 1) rfl rfl (by decide) rfl (fun ls hl => ?_)
        exact wX11_keptCourts_24 C hk4 ha0 hW (lv_sub hl [1, 0, 2] rfl) hf
set_option maxRecDepth 100000 in
set_option maxHeartbeats 4000000 in
theorem wX11_keptCourts_0 (C : Cx p s m meth c args cX11_keptCourts 3 (some .int) RX11 D ca ad) {res : Int32 × Mm} {N : Nat}  {a0 : Nat} {mm : Mm} {H : Heap} {locs : List Loc} {ls : Array Slot} (ha0 : sX11 a0) (hW : Wd D ca ad s.heap mm H locs) (hl : lv_has ls 3 [(0, .ref (ad a0))]) (hf : fX11_keptCourts N a0 mm = some res) : W p l e (rmX11_keptCourts) s m args below meth c H locs 0 0 (MQ below (QI D ca ad res) args s 0 0 (AA ad)) (F0 m 0 ls []) := by
  unfold fX11_keptCourts at hf
  refine lv_iconst (v := 0) C.1 C.2.1 dX11_keptCourts_0 (by decide) ?_
  refine lv_istore_n (lv' := [(1, .int 0), (0, .ref (ad a0))]) C.1 C.2.1 dX11_keptCourts_1 rfl hl (by decide) rfl (fun ls hl => ?_)
  refine lv_iconst (v := 0) C.1 C.2.1 dX11_keptCourts_2 (by decide) ?_
  refine lv_istore_n (lv' := [(2, .int 0), (1, .int 0), (0, .ref (ad a0))]) C.1 C.2.1 dX11_keptCourts_3 rfl hl (by decide) rfl (fun ls hl => ?_)
  exact wX11_keptCourts_4 C  N ha0 hW (lv_sub hl [2, 1, 0] rfl) hf
set_option maxRecDepth 100000 in
set_option maxHeartbeats 4000000 in
theorem tX11_keptCourts (l : Launch) {D : va_G} {ca ad : Nat → Nat} (hi : Inj ad) {N : Nat} {a0 : Nat} {mm : Mm} {res : Int32 × Mm} (ha0 : sX11 a0) (hf : fX11_keptCourts N a0 mm = some res) : Met l yX11_keptCourts (WS yX11_keptCourts cX11_keptCourts 3 (some .int)) (rmX11_keptCourts) (va_Pc [.ref (ad a0)] (WB D ca ad mm)) (QI D ca ad res) 0 0 (AA ad) := by
  refine x_start hi (by decide) rfl (Nat.le_of_ble_eq_true rfl) (fun p e s m args below meth c ls C hW hl => ?_)
  exact wX11_keptCourts_0 C ha0 hW (lv_sub hl [0] rfl) hf
set_option maxRecDepth 100000 in
set_option maxHeartbeats 4000000 in
theorem wX11_there_22 (C : Cx p s m meth c args cX11_there 3 (some .int) RX11 D ca ad) {res : Int32 × Mm} {N : Nat} {k4 : Nat → Int32 → Int32 → Mm → Option (Int32 × Mm)} (hk4 : ∀ (a0 : Nat) (a1 : Int32) (a2 : Int32) (mm : Mm) (H : Heap) (locs : List Loc) (ls : Array Slot), (sB sX6 0 a0) → Wd D ca ad s.heap mm H locs → lv_has ls 3 [(0, .ref (ad a0)), (1, .int a1), (2, .int a2)] → k4 a0 a1 a2 mm = some res → W p l e (rmX11_there) s m args below meth c H locs 0 0 (MQ below (QI D ca ad res) args s 0 0 (AA ad)) (F0 m 4 ls [])) {a0 : Nat} {a1 : Int32} {a2 : Int32} {mm : Mm} {H : Heap} {locs : List Loc} {ls : Array Slot} (ha0 : sB sX6 0 a0) (hW : Wd D ca ad s.heap mm H locs) (hl : lv_has ls 3 [(0, .ref (ad a0)), (1, .int a1), (2, .int a2)]) (hf : fX11_there_22 N k4 a0 a1 a2 mm = some res) : W p l e (rmX11_there) s m args below meth c H locs 0 0 (MQ below (QI D ca ad res) args s 0 0 (AA ad)) (F0 m 22 ls []) := by
  unfold fX11_there_22 at hf
  refine lv_iinc (v := (a2 + 1)) (lv' := [(2, .int (a2 + 1)), (0, .ref (ad a0)), (1, .int a1)]) C.1 C.2.1 dX11_there_22 hl (k := 2) rfl rfl (by decide) rfl (fun ls hl => ?_)
  refine lv_goto (tgt := 4) C.1 C.2.1 dX11_there_25 (by decide) ?_
  exact hk4 _ _ _ _ _ _ _ ha0 hW (lv_sub hl [1, 2, 0] rfl) hf
set_option maxRecDepth 100000 in
set_option maxHeartbeats 4000000 in
theorem wX11_there_4 (C : Cx p s m meth c args cX11_there 3 (some .int) RX11 D ca ad) {res : Int32 × Mm} {N : Nat}  : ∀ (n : Nat) {a0 : Nat} {a1 : Int32} {a2 : Int32} {mm : Mm} {H : Heap} {locs : List Loc} {ls : Array Slot}, (sB sX6 0 a0) → Wd D ca ad s.heap mm H locs → lv_has ls 3 [(0, .ref (ad a0)), (1, .int a1), (2, .int a2)] → fX11_there_4 N n a0 a1 a2 mm = some res → W p l e (rmX11_there) s m args below meth c H locs 0 0 (MQ below (QI D ca ad res) args s 0 0 (AA ad)) (F0 m 4 ls []) := by
  intro n
  induction n with
  | zero => intro a0 a1 a2 mm H locs ls ha0 hW hl hf; cases hf
  | succ n ih =>
    intro a0 a1 a2 mm H locs ls ha0 hW hl hf
    have hk4 : ∀ (a0 : Nat) (a1 : Int32) (a2 : Int32) (mm : Mm) (H : Heap) (locs : List Loc) (ls : Array Slot), (sB sX6 0 a0) → Wd D ca ad s.heap mm H locs → lv_has ls 3 [(0, .ref (ad a0)), (1, .int a1), (2, .int a2)] → (fX11_there_4 N n) a0 a1 a2 mm = some res → W p l e (rmX11_there) s m args below meth c H locs 0 0 (MQ below (QI D ca ad res) args s 0 0 (AA ad)) (F0 m 4 ls []) := fun a0 a1 a2 mm H locs ls ha0 hW hl hf => ih ha0 hW hl hf
    unfold fX11_there_4 at hf
    try dsimp only at hf
    refine lv_iload_n C.1 C.2.1 dX11_there_4 rfl (lv_at hl 2 rfl) ?_
    refine lv_aload_n C.1 C.2.1 dX11_there_5 rfl (lv_at hl 0 rfl) ?_
    refine x_alenq C hW (ha0).1 (fun _ => rfl) dX11_there_6 ?_
    refine lv_icmp_ge (tgt := 28) C.1 C.2.1 dX11_there_7 (by decide) (fun c1 => ?_) (fun c1 => ?_)
    · have hf := if_t c1 hf
      refine lv_iload_n C.1 C.2.1 dX11_there_28 rfl (lv_at hl 1 rfl) ?_
      cases hf
      exact x_iret C hW dX11_there_29
    · have hf := if_f c1 hf
      refine lv_aload_n C.1 C.2.1 dX11_there_10 rfl (lv_at hl 0 rfl) ?_
      refine lv_iload_n C.1 C.2.1 dX11_there_11 rfl (lv_at hl 2 rfl) ?_
      obtain ⟨g2, hf⟩ := gd_s hf
      refine x_aald C hW (ha0).1 (fun _ => rfl) rfl g2 dX11_there_12 ?_
      obtain ⟨x3, m4, r5, hf⟩ := bd2_s hf
      refine x_ci hW (x_runV C hW [] [] ((ha0).2 _ (inb_lt g2)).1 ((ha0).2 _ (inb_lt g2)).2.1 kX6.1 kvX6_isMissing q_368 (tX6_isMissing l C.2.2.2.2.2.2.1 ((ha0).2 _ (inb_lt g2)) r5) rfl rfl ⟨by decide, by decide⟩ rfl hl.1 rfl (Nat.le_of_ble_eq_true rfl) dX11_there_13) (fun H locs hW => ?_)
      refine lv_if_ne (tgt := 22) C.1 C.2.1 dX11_there_16 (by decide) (fun c6 => ?_) (fun c6 => ?_)
      · have hf := if_f c6 hf
        exact wX11_there_22 C hk4 ha0 hW (lv_sub hl [0, 1, 2] rfl) hf
      · have hf := if_t c6 hf
        refine lv_iinc (v := (a1 + 1)) (lv' := [(1, .int (a1 + 1)), (0, .ref (ad a0)), (2, .int a2)]) C.1 C.2.1 dX11_there_19 hl (k := 1) rfl rfl (by decide) rfl (fun ls hl => ?_)
        exact wX11_there_22 C hk4 ha0 hW (lv_sub hl [1, 0, 2] rfl) hf
set_option maxRecDepth 100000 in
set_option maxHeartbeats 4000000 in
theorem wX11_there_0 (C : Cx p s m meth c args cX11_there 3 (some .int) RX11 D ca ad) {res : Int32 × Mm} {N : Nat}  {a0 : Nat} {mm : Mm} {H : Heap} {locs : List Loc} {ls : Array Slot} (ha0 : sB sX6 0 a0) (hW : Wd D ca ad s.heap mm H locs) (hl : lv_has ls 3 [(0, .ref (ad a0))]) (hf : fX11_there N a0 mm = some res) : W p l e (rmX11_there) s m args below meth c H locs 0 0 (MQ below (QI D ca ad res) args s 0 0 (AA ad)) (F0 m 0 ls []) := by
  unfold fX11_there at hf
  refine lv_iconst (v := 0) C.1 C.2.1 dX11_there_0 (by decide) ?_
  refine lv_istore_n (lv' := [(1, .int 0), (0, .ref (ad a0))]) C.1 C.2.1 dX11_there_1 rfl hl (by decide) rfl (fun ls hl => ?_)
  refine lv_iconst (v := 0) C.1 C.2.1 dX11_there_2 (by decide) ?_
  refine lv_istore_n (lv' := [(2, .int 0), (1, .int 0), (0, .ref (ad a0))]) C.1 C.2.1 dX11_there_3 rfl hl (by decide) rfl (fun ls hl => ?_)
  exact wX11_there_4 C  N ha0 hW (lv_sub hl [2, 1, 0] rfl) hf
set_option maxRecDepth 100000 in
set_option maxHeartbeats 4000000 in
theorem tX11_there (l : Launch) {D : va_G} {ca ad : Nat → Nat} (hi : Inj ad) {N : Nat} {a0 : Nat} {mm : Mm} {res : Int32 × Mm} (ha0 : sB sX6 0 a0) (hf : fX11_there N a0 mm = some res) : Met l yX11_there (WS yX11_there cX11_there 3 (some .int)) (rmX11_there) (va_Pc [.ref (ad a0)] (WB D ca ad mm)) (QI D ca ad res) 0 0 (AA ad) := by
  refine x_start hi (by decide) rfl (Nat.le_of_ble_eq_true rfl) (fun p e s m args below meth c ls C hW hl => ?_)
  exact wX11_there_0 C ha0 hW (lv_sub hl [0] rfl) hf
set_option maxRecDepth 100000 in
set_option maxHeartbeats 4000000 in
theorem wX11_count_0 (C : Cx p s m meth c args cX11_count 2 (some .int) RX11 D ca ad) {res : Int32 × Mm} {N : Nat}  {a0 : Nat} {a1 : Int32} {mm : Mm} {H : Heap} {locs : List Loc} {ls : Array Slot} (ha0 : sX11 a0) (hW : Wd D ca ad s.heap mm H locs) (hl : lv_has ls 2 [(0, .ref (ad a0)), (1, .int a1)]) (hf : fX11_count N a0 a1 mm = some res) : W p l e (rmX11_count) s m args below meth c H locs 0 0 (MQ below (QI D ca ad res) args s 0 0 (AA ad)) (F0 m 0 ls []) := by
  unfold fX11_count at hf
  refine lv_iload_n C.1 C.2.1 dX11_count_0 rfl (lv_at hl 1 rfl) ?_
  by_cases c1 : a1 = 0
  · have hf := if_t c1 hf
    refine x_tin C (tgt := 48) dX11_count_1 c1 (by decide) (by decide) (off := 47) rfl (by decide) ?_
    refine lv_aload_n C.1 C.2.1 dX11_count_48 rfl (lv_at hl 0 rfl) ?_
    refine x_getr C hW (ha0).1 (ha0).2.1 (j := 2) rfl kX11 (by decide) rfl q_310 dX11_count_49 ?_
    refine x_geti C hW (ha0.2.2.2.2.1).1 (ha0.2.2.2.2.1).2.1 (j := 5) rfl kX0 (by decide) rfl q_72 dX11_count_52 ?_
    cases hf
    exact x_iret C hW dX11_count_55
  have hf := if_f c1 hf
  by_cases c2 : a1 = 1
  · have hf := if_t c2 hf
    refine x_tin C (tgt := 56) dX11_count_1 c2 (by decide) (by decide) (off := 55) rfl (by decide) ?_
    refine lv_aload_n C.1 C.2.1 dX11_count_56 rfl (lv_at hl 0 rfl) ?_
    refine x_getr C hW (ha0).1 (ha0).2.1 (j := 2) rfl kX11 (by decide) rfl q_310 dX11_count_57 ?_
    obtain ⟨x3, m4, r5, hf⟩ := bd2_s hf
    refine x_ci hW (x_runV C hW [] [] (ha0.2.2.2.2.1).1 (ha0.2.2.2.2.1).2.1 kX0.1 kvX0_worths q_457 (tX0_worths l C.2.2.2.2.2.2.1 ha0.2.2.2.2.1 r5) rfl rfl ⟨by decide, by decide⟩ rfl hl.1 rfl (Nat.le_of_ble_eq_true rfl) dX11_count_60) (fun H locs hW => ?_)
    cases hf
    exact x_iret C hW dX11_count_63
  have hf := if_f c2 hf
  by_cases c6 : a1 = 2
  · have hf := if_t c6 hf
    refine x_tin C (tgt := 64) dX11_count_1 c6 (by decide) (by decide) (off := 63) rfl (by decide) ?_
    refine lv_aload_n C.1 C.2.1 dX11_count_64 rfl (lv_at hl 0 rfl) ?_
    refine x_getr C hW (ha0).1 (ha0).2.1 (j := 2) rfl kX11 (by decide) rfl q_310 dX11_count_65 ?_
    refine lv_iconst (v := 1) C.1 C.2.1 dX11_count_68 (by decide) ?_
    obtain ⟨x7, m8, r9, hf⟩ := bd2_s hf
    refine x_ci hW (x_runV C hW [.int 1] [] (ha0.2.2.2.2.1).1 (ha0.2.2.2.2.1).2.1 kX0.1 kvX0_howMany q_816 (tX0_howMany l C.2.2.2.2.2.2.1 ha0.2.2.2.2.1 r9) rfl rfl ⟨by decide, by decide⟩ rfl hl.1 rfl (Nat.le_of_ble_eq_true rfl) dX11_count_69) (fun H locs hW => ?_)
    cases hf
    exact x_iret C hW dX11_count_72
  have hf := if_f c6 hf
  by_cases c10 : a1 = 3
  · have hf := if_t c10 hf
    refine x_tin C (tgt := 73) dX11_count_1 c10 (by decide) (by decide) (off := 72) rfl (by decide) ?_
    refine lv_aload_n C.1 C.2.1 dX11_count_73 rfl (lv_at hl 0 rfl) ?_
    refine x_getr C hW (ha0).1 (ha0).2.1 (j := 2) rfl kX11 (by decide) rfl q_310 dX11_count_74 ?_
    refine lv_iconst (v := 3) C.1 C.2.1 dX11_count_77 (by decide) ?_
    obtain ⟨x11, m12, r13, hf⟩ := bd2_s hf
    refine x_ci hW (x_runV C hW [.int 3] [] (ha0.2.2.2.2.1).1 (ha0.2.2.2.2.1).2.1 kX0.1 kvX0_howMany q_816 (tX0_howMany l C.2.2.2.2.2.2.1 ha0.2.2.2.2.1 r13) rfl rfl ⟨by decide, by decide⟩ rfl hl.1 rfl (Nat.le_of_ble_eq_true rfl) dX11_count_78) (fun H locs hW => ?_)
    cases hf
    exact x_iret C hW dX11_count_81
  have hf := if_f c10 hf
  by_cases c14 : a1 = 4
  · have hf := if_t c14 hf
    refine x_tin C (tgt := 82) dX11_count_1 c14 (by decide) (by decide) (off := 81) rfl (by decide) ?_
    refine lv_aload_n C.1 C.2.1 dX11_count_82 rfl (lv_at hl 0 rfl) ?_
    refine x_getr C hW (ha0).1 (ha0).2.1 (j := 2) rfl kX11 (by decide) rfl q_310 dX11_count_83 ?_
    refine x_geti C hW (ha0.2.2.2.2.1).1 (ha0.2.2.2.2.1).2.1 (j := 7) rfl kX0 (by decide) rfl q_80 dX11_count_86 ?_
    cases hf
    exact x_iret C hW dX11_count_89
  have hf := if_f c14 hf
  by_cases c15 : a1 = 5
  · have hf := if_t c15 hf
    refine x_tin C (tgt := 90) dX11_count_1 c15 (by decide) (by decide) (off := 89) rfl (by decide) ?_
    refine lv_aload_n C.1 C.2.1 dX11_count_90 rfl (lv_at hl 0 rfl) ?_
    obtain ⟨x16, m17, r18, hf⟩ := bd2_s hf
    refine x_ci hW (x_runV C hW [] [] (ha0).1 (ha0).2.1 kX11.1 kvX11_keptCourts q_824 (tX11_keptCourts l C.2.2.2.2.2.2.1 ha0 r18) rfl rfl ⟨by decide, by decide⟩ rfl hl.1 rfl (Nat.le_of_ble_eq_true rfl) dX11_count_91) (fun H locs hW => ?_)
    cases hf
    exact x_iret C hW dX11_count_94
  have hf := if_f c15 hf
  by_cases c19 : a1 = 6
  · have hf := if_t c19 hf
    refine x_tin C (tgt := 95) dX11_count_1 c19 (by decide) (by decide) (off := 94) rfl (by decide) ?_
    refine lv_aload_n C.1 C.2.1 dX11_count_95 rfl (lv_at hl 0 rfl) ?_
    refine x_getr C hW (ha0).1 (ha0).2.1 (j := 0) rfl kX11 (by decide) rfl q_308 dX11_count_96 ?_
    obtain ⟨x20, m21, r22, hf⟩ := bd2_s hf
    refine x_ci hW (x_runS C hW [.ref (ad (fr a0 0))] [] kvX11_there q_828 (tX11_there l C.2.2.2.2.2.2.1 ha0.2.2.1 r22) rfl rfl ⟨by decide, by decide⟩ rfl hl.1 rfl (Nat.le_of_ble_eq_true rfl) dX11_count_99) (fun H locs hW => ?_)
    cases hf
    exact x_iret C hW dX11_count_102
  have hf := if_f c19 hf
  by_cases c23 : a1 = 7
  · have hf := if_t c23 hf
    refine x_tin C (tgt := 103) dX11_count_1 c23 (by decide) (by decide) (off := 102) rfl (by decide) ?_
    refine lv_aload_n C.1 C.2.1 dX11_count_103 rfl (lv_at hl 0 rfl) ?_
    refine x_getr C hW (ha0).1 (ha0).2.1 (j := 1) rfl kX11 (by decide) rfl q_309 dX11_count_104 ?_
    obtain ⟨x24, m25, r26, hf⟩ := bd2_s hf
    refine x_ci hW (x_runS C hW [.ref (ad (fr a0 1))] [] kvX11_there q_828 (tX11_there l C.2.2.2.2.2.2.1 ha0.2.2.2.1 r26) rfl rfl ⟨by decide, by decide⟩ rfl hl.1 rfl (Nat.le_of_ble_eq_true rfl) dX11_count_107) (fun H locs hW => ?_)
    cases hf
    exact x_iret C hW dX11_count_110
  have hf := if_f c23 hf
  refine x_tdef C (tgt := 111) dX11_count_1 (by
      have := lv_neT c1 (a := 0) (by decide)
      have := lv_neT c2 (a := 1) (by decide)
      have := lv_neT c6 (a := 2) (by decide)
      have := lv_neT c10 (a := 3) (by decide)
      have := lv_neT c14 (a := 4) (by decide)
      have := lv_neT c15 (a := 5) (by decide)
      have := lv_neT c19 (a := 6) (by decide)
      have := lv_neT c23 (a := 7) (by decide)
      rcases (by omega : a1.toInt < 0 ∨ 7 < a1.toInt) with h | h
      · exact Or.inl h
      · exact Or.inr (Or.inl h)) (by decide) ?_
  refine lv_iconst (v := (-1)) C.1 C.2.1 dX11_count_111 (by decide) ?_
  cases hf
  exact x_iret C hW dX11_count_112
set_option maxRecDepth 100000 in
set_option maxHeartbeats 4000000 in
theorem tX11_count (l : Launch) {D : va_G} {ca ad : Nat → Nat} (hi : Inj ad) {N : Nat} {a0 : Nat} {a1 : Int32} {mm : Mm} {res : Int32 × Mm} (ha0 : sX11 a0) (hf : fX11_count N a0 a1 mm = some res) : Met l yX11_count (WS yX11_count cX11_count 2 (some .int)) (rmX11_count) (va_Pc [.ref (ad a0), .int a1] (WB D ca ad mm)) (QI D ca ad res) 0 0 (AA ad) := by
  refine x_start hi (by decide) rfl (Nat.le_of_ble_eq_true rfl) (fun p e s m args below meth c ls C hW hl => ?_)
  exact wX11_count_0 C ha0 hW (lv_sub hl [0, 1] rfl) hf
end W_files18
