theorem dX0_open_0 : decode cX0_open 0 = .ok (.aload_n 0, 1) := by decide +kernel
theorem dX0_open_1 : decode cX0_open 1 = .ok (.aload_n 1, 1) := by decide +kernel
theorem dX0_open_2 : decode cX0_open 2 = .ok (.getfield 33, 3) := by decide +kernel
theorem dX0_open_5 : decode cX0_open 5 = .ok (.putfield 38, 3) := by decide +kernel
theorem dX0_open_8 : decode cX0_open 8 = .ok (.iconst 0, 1) := by decide +kernel
theorem dX0_open_9 : decode cX0_open 9 = .ok (.istore_n 2, 1) := by decide +kernel
theorem dX0_open_10 : decode cX0_open 10 = .ok (.iload_n 2, 1) := by decide +kernel
theorem dX0_open_11 : decode cX0_open 11 = .ok (.aload_n 0, 1) := by decide +kernel
theorem dX0_open_12 : decode cX0_open 12 = .ok (.getfield 38, 3) := by decide +kernel
theorem dX0_open_15 : decode cX0_open 15 = .ok (.if_icmp .ge 36, 3) := by decide +kernel
theorem dX0_open_18 : decode cX0_open 18 = .ok (.aload_n 0, 1) := by decide +kernel
theorem dX0_open_19 : decode cX0_open 19 = .ok (.getfield 11, 3) := by decide +kernel
theorem dX0_open_22 : decode cX0_open 22 = .ok (.iload_n 2, 1) := by decide +kernel
theorem dX0_open_23 : decode cX0_open 23 = .ok (.aaload, 1) := by decide +kernel
theorem dX0_open_24 : decode cX0_open 24 = .ok (.aload_n 1, 1) := by decide +kernel
theorem dX0_open_25 : decode cX0_open 25 = .ok (.getfield 41, 3) := by decide +kernel
theorem dX0_open_28 : decode cX0_open 28 = .ok (.iload_n 2, 1) := by decide +kernel
theorem dX0_open_29 : decode cX0_open 29 = .ok (.iaload, 1) := by decide +kernel
theorem dX0_open_30 : decode cX0_open 30 = .ok (.aload_n 1, 1) := by decide +kernel
theorem dX0_open_31 : decode cX0_open 31 = .ok (.getfield 44, 3) := by decide +kernel
theorem dX0_open_34 : decode cX0_open 34 = .ok (.iload_n 2, 1) := by decide +kernel
theorem dX0_open_35 : decode cX0_open 35 = .ok (.iaload, 1) := by decide +kernel
theorem dX0_open_36 : decode cX0_open 36 = .ok (.aload_n 1, 1) := by decide +kernel
theorem dX0_open_37 : decode cX0_open 37 = .ok (.getfield 47, 3) := by decide +kernel
theorem dX0_open_40 : decode cX0_open 40 = .ok (.iload_n 2, 1) := by decide +kernel
theorem dX0_open_41 : decode cX0_open 41 = .ok (.iaload, 1) := by decide +kernel
theorem dX0_open_42 : decode cX0_open 42 = .ok (.invokevirtual 50, 3) := by decide +kernel
theorem dX0_open_45 : decode cX0_open 45 = .ok (.iinc 2 1, 3) := by decide +kernel
theorem dX0_open_48 : decode cX0_open 48 = .ok (.goto (-38), 3) := by decide +kernel
theorem dX0_open_51 : decode cX0_open 51 = .ok (.aload_n 1, 1) := by decide +kernel
theorem dX0_open_52 : decode cX0_open 52 = .ok (.getfield 54, 3) := by decide +kernel
theorem dX0_open_55 : decode cX0_open 55 = .ok (.iconst 0, 1) := by decide +kernel
theorem dX0_open_56 : decode cX0_open 56 = .ok (.aload_n 0, 1) := by decide +kernel
theorem dX0_open_57 : decode cX0_open 57 = .ok (.getfield 17, 3) := by decide +kernel
theorem dX0_open_60 : decode cX0_open 60 = .ok (.iconst 0, 1) := by decide +kernel
theorem dX0_open_61 : decode cX0_open 61 = .ok (.iconst 2, 1) := by decide +kernel
theorem dX0_open_62 : decode cX0_open 62 = .ok (.invokestatic 55, 3) := by decide +kernel
theorem dX0_open_65 : decode cX0_open 65 = .ok (.aload_n 0, 1) := by decide +kernel
theorem dX0_open_66 : decode cX0_open 66 = .ok (.getfield 21, 3) := by decide +kernel
theorem dX0_open_69 : decode cX0_open 69 = .ok (.iconst 0, 1) := by decide +kernel
theorem dX0_open_70 : decode cX0_open 70 = .ok (.invokestatic 61, 3) := by decide +kernel
theorem dX0_open_73 : decode cX0_open 73 = .ok (.aload_n 0, 1) := by decide +kernel
theorem dX0_open_74 : decode cX0_open 74 = .ok (.iconst 0, 1) := by decide +kernel
theorem dX0_open_75 : decode cX0_open 75 = .ok (.putfield 67, 3) := by decide +kernel
theorem dX0_open_78 : decode cX0_open 78 = .ok (.aload_n 0, 1) := by decide +kernel
theorem dX0_open_79 : decode cX0_open 79 = .ok (.iconst 0, 1) := by decide +kernel
theorem dX0_open_80 : decode cX0_open 80 = .ok (.putfield 70, 3) := by decide +kernel
theorem dX0_open_83 : decode cX0_open 83 = .ok (.return_, 1) := by decide +kernel
theorem dX0_take_0 : decode cX0_take 0 = .ok (.aload_n 0, 1) := by decide +kernel
theorem dX0_take_1 : decode cX0_take 1 = .ok (.aload_n 1, 1) := by decide +kernel
theorem dX0_take_2 : decode cX0_take 2 = .ok (.getfield 38, 3) := by decide +kernel
theorem dX0_take_5 : decode cX0_take 5 = .ok (.putfield 38, 3) := by decide +kernel
theorem dX0_take_8 : decode cX0_take 8 = .ok (.aload_n 0, 1) := by decide +kernel
theorem dX0_take_9 : decode cX0_take 9 = .ok (.aload_n 1, 1) := by decide +kernel
theorem dX0_take_10 : decode cX0_take 10 = .ok (.getfield 67, 3) := by decide +kernel
theorem dX0_take_13 : decode cX0_take 13 = .ok (.putfield 67, 3) := by decide +kernel
theorem dX0_take_16 : decode cX0_take 16 = .ok (.aload_n 0, 1) := by decide +kernel
theorem dX0_take_17 : decode cX0_take 17 = .ok (.aload_n 1, 1) := by decide +kernel
theorem dX0_take_18 : decode cX0_take 18 = .ok (.getfield 70, 3) := by decide +kernel
theorem dX0_take_21 : decode cX0_take 21 = .ok (.putfield 70, 3) := by decide +kernel
theorem dX0_take_24 : decode cX0_take 24 = .ok (.aload_n 1, 1) := by decide +kernel
theorem dX0_take_25 : decode cX0_take 25 = .ok (.getfield 17, 3) := by decide +kernel
theorem dX0_take_28 : decode cX0_take 28 = .ok (.iconst 0, 1) := by decide +kernel
theorem dX0_take_29 : decode cX0_take 29 = .ok (.aload_n 0, 1) := by decide +kernel
theorem dX0_take_30 : decode cX0_take 30 = .ok (.getfield 17, 3) := by decide +kernel
theorem dX0_take_33 : decode cX0_take 33 = .ok (.iconst 0, 1) := by decide +kernel
theorem dX0_take_34 : decode cX0_take 34 = .ok (.iconst 2, 1) := by decide +kernel
theorem dX0_take_35 : decode cX0_take 35 = .ok (.invokestatic 55, 3) := by decide +kernel
theorem dX0_take_38 : decode cX0_take 38 = .ok (.aload_n 1, 1) := by decide +kernel
theorem dX0_take_39 : decode cX0_take 39 = .ok (.getfield 21, 3) := by decide +kernel
theorem dX0_take_42 : decode cX0_take 42 = .ok (.iconst 0, 1) := by decide +kernel
theorem dX0_take_43 : decode cX0_take 43 = .ok (.aload_n 0, 1) := by decide +kernel
theorem dX0_take_44 : decode cX0_take 44 = .ok (.getfield 21, 3) := by decide +kernel
theorem dX0_take_47 : decode cX0_take 47 = .ok (.iconst 0, 1) := by decide +kernel
theorem dX0_take_48 : decode cX0_take 48 = .ok (.iconst 4, 1) := by decide +kernel
theorem dX0_take_49 : decode cX0_take 49 = .ok (.invokestatic 55, 3) := by decide +kernel
theorem dX0_take_52 : decode cX0_take 52 = .ok (.aload_n 1, 1) := by decide +kernel
theorem dX0_take_53 : decode cX0_take 53 = .ok (.getfield 29, 3) := by decide +kernel
theorem dX0_take_56 : decode cX0_take 56 = .ok (.iconst 0, 1) := by decide +kernel
theorem dX0_take_57 : decode cX0_take 57 = .ok (.aload_n 0, 1) := by decide +kernel
theorem dX0_take_58 : decode cX0_take 58 = .ok (.getfield 29, 3) := by decide +kernel
theorem dX0_take_61 : decode cX0_take 61 = .ok (.iconst 0, 1) := by decide +kernel
theorem dX0_take_62 : decode cX0_take 62 = .ok (.bipush 8, 2) := by decide +kernel
theorem dX0_take_64 : decode cX0_take 64 = .ok (.invokestatic 55, 3) := by decide +kernel
theorem dX0_take_67 : decode cX0_take 67 = .ok (.iconst 0, 1) := by decide +kernel
theorem dX0_take_68 : decode cX0_take 68 = .ok (.istore_n 2, 1) := by decide +kernel
theorem dX0_take_69 : decode cX0_take 69 = .ok (.iload_n 2, 1) := by decide +kernel
theorem dX0_take_70 : decode cX0_take 70 = .ok (.bipush 6, 2) := by decide +kernel
theorem dX0_take_72 : decode cX0_take 72 = .ok (.if_icmp .ge 45, 3) := by decide +kernel
theorem dX0_take_75 : decode cX0_take 75 = .ok (.aload_n 0, 1) := by decide +kernel
theorem dX0_take_76 : decode cX0_take 76 = .ok (.getfield 11, 3) := by decide +kernel
theorem dX0_take_79 : decode cX0_take 79 = .ok (.iload_n 2, 1) := by decide +kernel
theorem dX0_take_80 : decode cX0_take 80 = .ok (.aaload, 1) := by decide +kernel
theorem dX0_take_81 : decode cX0_take 81 = .ok (.aload_n 1, 1) := by decide +kernel
theorem dX0_take_82 : decode cX0_take 82 = .ok (.getfield 11, 3) := by decide +kernel
theorem dX0_take_85 : decode cX0_take 85 = .ok (.iload_n 2, 1) := by decide +kernel
theorem dX0_take_86 : decode cX0_take 86 = .ok (.aaload, 1) := by decide +kernel
theorem dX0_take_87 : decode cX0_take 87 = .ok (.getfield 73, 3) := by decide +kernel
theorem dX0_take_90 : decode cX0_take 90 = .ok (.aload_n 1, 1) := by decide +kernel
theorem dX0_take_91 : decode cX0_take 91 = .ok (.getfield 11, 3) := by decide +kernel
theorem dX0_take_94 : decode cX0_take 94 = .ok (.iload_n 2, 1) := by decide +kernel
theorem dX0_take_95 : decode cX0_take 95 = .ok (.aaload, 1) := by decide +kernel
theorem dX0_take_96 : decode cX0_take 96 = .ok (.getfield 76, 3) := by decide +kernel
theorem dX0_take_99 : decode cX0_take 99 = .ok (.aload_n 1, 1) := by decide +kernel
theorem dX0_take_100 : decode cX0_take 100 = .ok (.getfield 11, 3) := by decide +kernel
theorem dX0_take_103 : decode cX0_take 103 = .ok (.iload_n 2, 1) := by decide +kernel
theorem dX0_take_104 : decode cX0_take 104 = .ok (.aaload, 1) := by decide +kernel
theorem dX0_take_105 : decode cX0_take 105 = .ok (.getfield 79, 3) := by decide +kernel
theorem dX0_take_108 : decode cX0_take 108 = .ok (.invokevirtual 50, 3) := by decide +kernel
theorem dX0_take_111 : decode cX0_take 111 = .ok (.iinc 2 1, 3) := by decide +kernel
theorem dX0_take_114 : decode cX0_take 114 = .ok (.goto (-45), 3) := by decide +kernel
theorem dX0_take_117 : decode cX0_take 117 = .ok (.iconst 0, 1) := by decide +kernel
theorem dX0_take_118 : decode cX0_take 118 = .ok (.istore_n 2, 1) := by decide +kernel
theorem dX0_take_119 : decode cX0_take 119 = .ok (.iload_n 2, 1) := by decide +kernel
theorem dX0_take_120 : decode cX0_take 120 = .ok (.bipush 8, 2) := by decide +kernel
theorem dX0_take_122 : decode cX0_take 122 = .ok (.if_icmp .ge 28, 3) := by decide +kernel
theorem dX0_take_125 : decode cX0_take 125 = .ok (.aload_n 1, 1) := by decide +kernel
theorem dX0_take_126 : decode cX0_take 126 = .ok (.getfield 26, 3) := by decide +kernel
theorem dX0_take_129 : decode cX0_take 129 = .ok (.iload_n 2, 1) := by decide +kernel
theorem dX0_take_130 : decode cX0_take 130 = .ok (.aaload, 1) := by decide +kernel
theorem dX0_take_131 : decode cX0_take 131 = .ok (.iconst 0, 1) := by decide +kernel
theorem dX0_take_132 : decode cX0_take 132 = .ok (.aload_n 0, 1) := by decide +kernel
theorem dX0_take_133 : decode cX0_take 133 = .ok (.getfield 26, 3) := by decide +kernel
theorem dX0_take_136 : decode cX0_take 136 = .ok (.iload_n 2, 1) := by decide +kernel
theorem dX0_take_137 : decode cX0_take 137 = .ok (.aaload, 1) := by decide +kernel
theorem dX0_take_138 : decode cX0_take 138 = .ok (.iconst 0, 1) := by decide +kernel
theorem dX0_take_139 : decode cX0_take 139 = .ok (.bipush 6, 2) := by decide +kernel
theorem dX0_take_141 : decode cX0_take 141 = .ok (.invokestatic 55, 3) := by decide +kernel
theorem dX0_take_144 : decode cX0_take 144 = .ok (.iinc 2 1, 3) := by decide +kernel
theorem dX0_take_147 : decode cX0_take 147 = .ok (.goto (-28), 3) := by decide +kernel
theorem dX0_take_150 : decode cX0_take 150 = .ok (.return_, 1) := by decide +kernel
theorem dX0_suitOf_0 : decode cX0_suitOf 0 = .ok (.iload_n 1, 1) := by decide +kernel
theorem dX0_suitOf_1 : decode cX0_suitOf 1 = .ok (.ifCond .lt 17, 3) := by decide +kernel
theorem dX0_suitOf_4 : decode cX0_suitOf 4 = .ok (.iload_n 1, 1) := by decide +kernel
theorem dX0_suitOf_5 : decode cX0_suitOf 5 = .ok (.aload_n 0, 1) := by decide +kernel
theorem dX0_suitOf_6 : decode cX0_suitOf 6 = .ok (.getfield 38, 3) := by decide +kernel
theorem dX0_suitOf_9 : decode cX0_suitOf 9 = .ok (.if_icmp .ge 9, 3) := by decide +kernel
theorem dX0_suitOf_12 : decode cX0_suitOf 12 = .ok (.iload_n 1, 1) := by decide +kernel
theorem dX0_suitOf_13 : decode cX0_suitOf 13 = .ok (.bipush 6, 2) := by decide +kernel
theorem dX0_suitOf_15 : decode cX0_suitOf 15 = .ok (.if_icmp .lt 7, 3) := by decide +kernel
theorem dX0_suitOf_18 : decode cX0_suitOf 18 = .ok (.aconst_null, 1) := by decide +kernel
theorem dX0_suitOf_19 : decode cX0_suitOf 19 = .ok (.goto 9, 3) := by decide +kernel
theorem dX0_suitOf_22 : decode cX0_suitOf 22 = .ok (.aload_n 0, 1) := by decide +kernel
theorem dX0_suitOf_23 : decode cX0_suitOf 23 = .ok (.getfield 11, 3) := by decide +kernel
theorem dX0_suitOf_26 : decode cX0_suitOf 26 = .ok (.iload_n 1, 1) := by decide +kernel
theorem dX0_suitOf_27 : decode cX0_suitOf 27 = .ok (.aaload, 1) := by decide +kernel
theorem dX0_suitOf_28 : decode cX0_suitOf 28 = .ok (.areturn, 1) := by decide +kernel
theorem dX0_worths_0 : decode cX0_worths 0 = .ok (.iconst 0, 1) := by decide +kernel
theorem dX0_worths_1 : decode cX0_worths 1 = .ok (.istore_n 1, 1) := by decide +kernel
theorem dX0_worths_2 : decode cX0_worths 2 = .ok (.iconst 0, 1) := by decide +kernel
theorem dX0_worths_3 : decode cX0_worths 3 = .ok (.istore_n 2, 1) := by decide +kernel
theorem dX0_worths_4 : decode cX0_worths 4 = .ok (.iload_n 2, 1) := by decide +kernel
theorem dX0_worths_5 : decode cX0_worths 5 = .ok (.aload_n 0, 1) := by decide +kernel
theorem dX0_worths_6 : decode cX0_worths 6 = .ok (.getfield 38, 3) := by decide +kernel
theorem dX0_worths_9 : decode cX0_worths 9 = .ok (.if_icmp .ge 21, 3) := by decide +kernel
theorem dX0_worths_12 : decode cX0_worths 12 = .ok (.iload_n 1, 1) := by decide +kernel
theorem dX0_worths_13 : decode cX0_worths 13 = .ok (.aload_n 0, 1) := by decide +kernel
theorem dX0_worths_14 : decode cX0_worths 14 = .ok (.getfield 11, 3) := by decide +kernel
theorem dX0_worths_17 : decode cX0_worths 17 = .ok (.iload_n 2, 1) := by decide +kernel
theorem dX0_worths_18 : decode cX0_worths 18 = .ok (.aaload, 1) := by decide +kernel
theorem dX0_worths_19 : decode cX0_worths 19 = .ok (.getfield 76, 3) := by decide +kernel
theorem dX0_worths_22 : decode cX0_worths 22 = .ok (.iadd, 1) := by decide +kernel
theorem dX0_worths_23 : decode cX0_worths 23 = .ok (.istore_n 1, 1) := by decide +kernel
theorem dX0_worths_24 : decode cX0_worths 24 = .ok (.iinc 2 1, 3) := by decide +kernel
theorem dX0_worths_27 : decode cX0_worths 27 = .ok (.goto (-23), 3) := by decide +kernel
theorem dX0_worths_30 : decode cX0_worths 30 = .ok (.iload_n 1, 1) := by decide +kernel
theorem dX0_worths_31 : decode cX0_worths 31 = .ok (.ireturn, 1) := by decide +kernel
theorem dX0_howMany_0 : decode cX0_howMany 0 = .ok (.iconst 0, 1) := by decide +kernel
theorem dX0_howMany_1 : decode cX0_howMany 1 = .ok (.istore_n 2, 1) := by decide +kernel
theorem dX0_howMany_2 : decode cX0_howMany 2 = .ok (.iconst 0, 1) := by decide +kernel
theorem dX0_howMany_3 : decode cX0_howMany 3 = .ok (.istore_n 3, 1) := by decide +kernel
theorem dX0_howMany_4 : decode cX0_howMany 4 = .ok (.iload_n 3, 1) := by decide +kernel
theorem dX0_howMany_5 : decode cX0_howMany 5 = .ok (.aload_n 0, 1) := by decide +kernel
theorem dX0_howMany_6 : decode cX0_howMany 6 = .ok (.getfield 38, 3) := by decide +kernel
theorem dX0_howMany_9 : decode cX0_howMany 9 = .ok (.if_icmp .ge 25, 3) := by decide +kernel
theorem dX0_howMany_12 : decode cX0_howMany 12 = .ok (.aload_n 0, 1) := by decide +kernel
theorem dX0_howMany_13 : decode cX0_howMany 13 = .ok (.getfield 11, 3) := by decide +kernel
theorem dX0_howMany_16 : decode cX0_howMany 16 = .ok (.iload_n 3, 1) := by decide +kernel
theorem dX0_howMany_17 : decode cX0_howMany 17 = .ok (.aaload, 1) := by decide +kernel
theorem dX0_howMany_18 : decode cX0_howMany 18 = .ok (.iload_n 1, 1) := by decide +kernel
theorem dX0_howMany_19 : decode cX0_howMany 19 = .ok (.invokevirtual 82, 3) := by decide +kernel
theorem dX0_howMany_22 : decode cX0_howMany 22 = .ok (.ifCond .eq 6, 3) := by decide +kernel
theorem dX0_howMany_25 : decode cX0_howMany 25 = .ok (.iinc 2 1, 3) := by decide +kernel
theorem dX0_howMany_28 : decode cX0_howMany 28 = .ok (.iinc 3 1, 3) := by decide +kernel
theorem dX0_howMany_31 : decode cX0_howMany 31 = .ok (.goto (-27), 3) := by decide +kernel
theorem dX0_howMany_34 : decode cX0_howMany 34 = .ok (.iload_n 2, 1) := by decide +kernel
theorem dX0_howMany_35 : decode cX0_howMany 35 = .ok (.ireturn, 1) := by decide +kernel
theorem dX0_stockWith_0 : decode cX0_stockWith 0 = .ok (.aload_n 0, 1) := by decide +kernel
theorem dX0_stockWith_1 : decode cX0_stockWith 1 = .ok (.getfield 17, 3) := by decide +kernel
theorem dX0_stockWith_4 : decode cX0_stockWith 4 = .ok (.iconst 0, 1) := by decide +kernel
theorem dX0_stockWith_5 : decode cX0_stockWith 5 = .ok (.iaload, 1) := by decide +kernel
theorem dX0_stockWith_6 : decode cX0_stockWith 6 = .ok (.istore_n 2, 1) := by decide +kernel
theorem dX0_stockWith_7 : decode cX0_stockWith 7 = .ok (.iconst 0, 1) := by decide +kernel
theorem dX0_stockWith_8 : decode cX0_stockWith 8 = .ok (.istore_n 3, 1) := by decide +kernel
theorem dX0_stockWith_9 : decode cX0_stockWith 9 = .ok (.iload_n 3, 1) := by decide +kernel
theorem dX0_stockWith_10 : decode cX0_stockWith 10 = .ok (.iconst 4, 1) := by decide +kernel
theorem dX0_stockWith_11 : decode cX0_stockWith 11 = .ok (.if_icmp .ge 26, 3) := by decide +kernel
theorem dX0_stockWith_14 : decode cX0_stockWith 14 = .ok (.iload_n 1, 1) := by decide +kernel
theorem dX0_stockWith_15 : decode cX0_stockWith 15 = .ok (.iload_n 3, 1) := by decide +kernel
theorem dX0_stockWith_16 : decode cX0_stockWith 16 = .ok (.ishr, 1) := by decide +kernel
theorem dX0_stockWith_17 : decode cX0_stockWith 17 = .ok (.iconst 1, 1) := by decide +kernel
theorem dX0_stockWith_18 : decode cX0_stockWith 18 = .ok (.iand, 1) := by decide +kernel
theorem dX0_stockWith_19 : decode cX0_stockWith 19 = .ok (.ifCond .eq 12, 3) := by decide +kernel
theorem dX0_stockWith_22 : decode cX0_stockWith 22 = .ok (.iload_n 2, 1) := by decide +kernel
theorem dX0_stockWith_23 : decode cX0_stockWith 23 = .ok (.aload_n 0, 1) := by decide +kernel
theorem dX0_stockWith_24 : decode cX0_stockWith 24 = .ok (.getfield 21, 3) := by decide +kernel
theorem dX0_stockWith_27 : decode cX0_stockWith 27 = .ok (.iload_n 3, 1) := by decide +kernel
theorem dX0_stockWith_28 : decode cX0_stockWith 28 = .ok (.iaload, 1) := by decide +kernel
theorem dX0_stockWith_29 : decode cX0_stockWith 29 = .ok (.iadd, 1) := by decide +kernel
theorem dX0_stockWith_30 : decode cX0_stockWith 30 = .ok (.istore_n 2, 1) := by decide +kernel
theorem dX0_stockWith_31 : decode cX0_stockWith 31 = .ok (.iinc 3 1, 3) := by decide +kernel
theorem dX0_stockWith_34 : decode cX0_stockWith 34 = .ok (.goto (-25), 3) := by decide +kernel
theorem dX0_stockWith_37 : decode cX0_stockWith 37 = .ok (.iload_n 2, 1) := by decide +kernel
theorem dX0_stockWith_38 : decode cX0_stockWith 38 = .ok (.ireturn, 1) := by decide +kernel
theorem dX0_allows_0 : decode cX0_allows 0 = .ok (.aload_n 1, 1) := by decide +kernel
theorem dX0_allows_1 : decode cX0_allows 1 = .ok (.bipush 40, 2) := by decide +kernel
theorem dX0_allows_3 : decode cX0_allows 3 = .ok (.invokevirtual 86, 3) := by decide +kernel
theorem dX0_allows_6 : decode cX0_allows 6 = .ok (.ifCond .eq 22, 3) := by decide +kernel
theorem dX0_allows_9 : decode cX0_allows 9 = .ok (.aload_n 1, 1) := by decide +kernel
theorem dX0_allows_10 : decode cX0_allows 10 = .ok (.invokevirtual 91, 3) := by decide +kernel
theorem dX0_allows_13 : decode cX0_allows 13 = .ok (.aload_n 0, 1) := by decide +kernel
theorem dX0_allows_14 : decode cX0_allows 14 = .ok (.getfield 17, 3) := by decide +kernel
theorem dX0_allows_17 : decode cX0_allows 17 = .ok (.iload_n 2, 1) := by decide +kernel
theorem dX0_allows_18 : decode cX0_allows 18 = .ok (.iaload, 1) := by decide +kernel
theorem dX0_allows_19 : decode cX0_allows 19 = .ok (.i2l, 1) := by decide +kernel
theorem dX0_allows_20 : decode cX0_allows 20 = .ok (.lcmp, 1) := by decide +kernel
theorem dX0_allows_21 : decode cX0_allows 21 = .ok (.ifCond .gt 7, 3) := by decide +kernel
theorem dX0_allows_24 : decode cX0_allows 24 = .ok (.iconst 1, 1) := by decide +kernel
theorem dX0_allows_25 : decode cX0_allows 25 = .ok (.goto 4, 3) := by decide +kernel
theorem dX0_allows_28 : decode cX0_allows 28 = .ok (.iconst 0, 1) := by decide +kernel
theorem dX0_allows_29 : decode cX0_allows 29 = .ok (.ireturn, 1) := by decide +kernel
theorem dX0_need_0 : decode cX0_need 0 = .ok (.aload_n 0, 1) := by decide +kernel
theorem dX0_need_1 : decode cX0_need 1 = .ok (.iload_n 1, 1) := by decide +kernel
theorem dX0_need_2 : decode cX0_need 2 = .ok (.invokevirtual 95, 3) := by decide +kernel
theorem dX0_need_5 : decode cX0_need 5 = .ok (.astore 7, 2) := by decide +kernel
theorem dX0_need_7 : decode cX0_need 7 = .ok (.aload 7, 2) := by decide +kernel
theorem dX0_need_9 : decode cX0_need 9 = .ok (.ifnonnull 6, 3) := by decide +kernel
theorem dX0_need_12 : decode cX0_need 12 = .ok (.bipush (-9), 2) := by decide +kernel
theorem dX0_need_14 : decode cX0_need 14 = .ok (.ireturn, 1) := by decide +kernel
theorem dX0_need_15 : decode cX0_need 15 = .ok (.aload 7, 2) := by decide +kernel
theorem dX0_need_17 : decode cX0_need 17 = .ok (.aload 6, 2) := by decide +kernel
theorem dX0_need_19 : decode cX0_need 19 = .ok (.invokevirtual 99, 3) := by decide +kernel
theorem dX0_need_22 : decode cX0_need 22 = .ok (.istore 8, 2) := by decide +kernel
theorem dX0_need_24 : decode cX0_need 24 = .ok (.aload 7, 2) := by decide +kernel
theorem dX0_need_26 : decode cX0_need 26 = .ok (.iload 4, 2) := by decide +kernel
theorem dX0_need_28 : decode cX0_need 28 = .ok (.aload 7, 2) := by decide +kernel
theorem dX0_need_30 : decode cX0_need 30 = .ok (.iload 5, 2) := by decide +kernel
theorem dX0_need_32 : decode cX0_need 32 = .ok (.iload 8, 2) := by decide +kernel
theorem dX0_need_34 : decode cX0_need 34 = .ok (.iconst 1, 1) := by decide +kernel
theorem dX0_need_35 : decode cX0_need 35 = .ok (.iload_n 2, 1) := by decide +kernel
theorem dX0_need_36 : decode cX0_need 36 = .ok (.isub, 1) := by decide +kernel
theorem dX0_need_37 : decode cX0_need 37 = .ok (.if_icmp .ne 7, 3) := by decide +kernel
theorem dX0_need_40 : decode cX0_need 40 = .ok (.iconst 1, 1) := by decide +kernel
theorem dX0_need_41 : decode cX0_need 41 = .ok (.goto 4, 3) := by decide +kernel
theorem dX0_need_44 : decode cX0_need 44 = .ok (.iconst 0, 1) := by decide +kernel
theorem dX0_need_45 : decode cX0_need 45 = .ok (.invokevirtual 103, 3) := by decide +kernel
theorem dX0_need_48 : decode cX0_need 48 = .ok (.invokevirtual 107, 3) := by decide +kernel
theorem dX0_need_51 : decode cX0_need 51 = .ok (.istore 9, 2) := by decide +kernel
theorem dX0_need_53 : decode cX0_need 53 = .ok (.aload 7, 2) := by decide +kernel
theorem dX0_need_55 : decode cX0_need 55 = .ok (.iload_n 2, 1) := by decide +kernel
theorem dX0_need_56 : decode cX0_need 56 = .ok (.iload_n 3, 1) := by decide +kernel
theorem dX0_need_57 : decode cX0_need 57 = .ok (.iload 9, 2) := by decide +kernel
theorem dX0_need_59 : decode cX0_need 59 = .ok (.aload 7, 2) := by decide +kernel
theorem dX0_need_61 : decode cX0_need 61 = .ok (.iload 5, 2) := by decide +kernel
theorem dX0_need_63 : decode cX0_need 63 = .ok (.iload 8, 2) := by decide +kernel
theorem dX0_need_65 : decode cX0_need 65 = .ok (.iload_n 2, 1) := by decide +kernel
theorem dX0_need_66 : decode cX0_need 66 = .ok (.if_icmp .ne 7, 3) := by decide +kernel
theorem dX0_need_69 : decode cX0_need 69 = .ok (.iconst 1, 1) := by decide +kernel
theorem dX0_need_70 : decode cX0_need 70 = .ok (.goto 4, 3) := by decide +kernel
theorem dX0_need_73 : decode cX0_need 73 = .ok (.iconst 0, 1) := by decide +kernel
theorem dX0_need_74 : decode cX0_need 74 = .ok (.invokevirtual 103, 3) := by decide +kernel
theorem dX0_need_77 : decode cX0_need 77 = .ok (.invokevirtual 111, 3) := by decide +kernel
theorem dX0_need_80 : decode cX0_need 80 = .ok (.ireturn, 1) := by decide +kernel
theorem dX0_write_0 : decode cX0_write 0 = .ok (.aload_n 0, 1) := by decide +kernel
theorem dX0_write_1 : decode cX0_write 1 = .ok (.getfield 70, 3) := by decide +kernel
theorem dX0_write_4 : decode cX0_write 4 = .ok (.bipush 8, 2) := by decide +kernel
theorem dX0_write_6 : decode cX0_write 6 = .ok (.if_icmp .lt 4, 3) := by decide +kernel
theorem dX0_write_9 : decode cX0_write 9 = .ok (.return_, 1) := by decide +kernel
theorem dX0_write_10 : decode cX0_write 10 = .ok (.aload_n 1, 1) := by decide +kernel
theorem dX0_write_11 : decode cX0_write 11 = .ok (.iconst 0, 1) := by decide +kernel
theorem dX0_write_12 : decode cX0_write 12 = .ok (.aload_n 0, 1) := by decide +kernel
theorem dX0_write_13 : decode cX0_write 13 = .ok (.getfield 26, 3) := by decide +kernel
theorem dX0_write_16 : decode cX0_write 16 = .ok (.aload_n 0, 1) := by decide +kernel
theorem dX0_write_17 : decode cX0_write 17 = .ok (.getfield 70, 3) := by decide +kernel
theorem dX0_write_20 : decode cX0_write 20 = .ok (.aaload, 1) := by decide +kernel
theorem dX0_write_21 : decode cX0_write 21 = .ok (.iconst 0, 1) := by decide +kernel
theorem dX0_write_22 : decode cX0_write 22 = .ok (.aload_n 1, 1) := by decide +kernel
theorem dX0_write_23 : decode cX0_write 23 = .ok (.arraylength, 1) := by decide +kernel
theorem dX0_write_24 : decode cX0_write 24 = .ok (.bipush 6, 2) := by decide +kernel
theorem dX0_write_26 : decode cX0_write 26 = .ok (.invokestatic 115, 3) := by decide +kernel
theorem dX0_write_29 : decode cX0_write 29 = .ok (.invokestatic 55, 3) := by decide +kernel
theorem dX0_write_32 : decode cX0_write 32 = .ok (.aload_n 0, 1) := by decide +kernel
theorem dX0_write_33 : decode cX0_write 33 = .ok (.getfield 29, 3) := by decide +kernel
theorem dX0_write_36 : decode cX0_write 36 = .ok (.aload_n 0, 1) := by decide +kernel
theorem dX0_write_37 : decode cX0_write 37 = .ok (.getfield 70, 3) := by decide +kernel
theorem dX0_write_40 : decode cX0_write 40 = .ok (.iload_n 2, 1) := by decide +kernel
theorem dX0_write_41 : decode cX0_write 41 = .ok (.iastore, 1) := by decide +kernel
theorem dX0_write_42 : decode cX0_write 42 = .ok (.aload_n 0, 1) := by decide +kernel
theorem dX0_write_43 : decode cX0_write 43 = .ok (.dup, 1) := by decide +kernel
theorem dX0_write_44 : decode cX0_write 44 = .ok (.getfield 70, 3) := by decide +kernel
theorem dX0_write_47 : decode cX0_write 47 = .ok (.iconst 1, 1) := by decide +kernel
theorem dX0_write_48 : decode cX0_write 48 = .ok (.iadd, 1) := by decide +kernel
theorem dX0_write_49 : decode cX0_write 49 = .ok (.putfield 70, 3) := by decide +kernel
theorem dX0_write_52 : decode cX0_write 52 = .ok (.return_, 1) := by decide +kernel
theorem dX0_wonAt_0 : decode cX0_wonAt 0 = .ok (.iload_n 1, 1) := by decide +kernel
theorem dX0_wonAt_1 : decode cX0_wonAt 1 = .ok (.ifCond .lt 11, 3) := by decide +kernel
theorem dX0_wonAt_4 : decode cX0_wonAt 4 = .ok (.iload_n 1, 1) := by decide +kernel
theorem dX0_wonAt_5 : decode cX0_wonAt 5 = .ok (.aload_n 0, 1) := by decide +kernel
theorem dX0_wonAt_6 : decode cX0_wonAt 6 = .ok (.getfield 70, 3) := by decide +kernel
theorem dX0_wonAt_9 : decode cX0_wonAt 9 = .ok (.if_icmp .lt 7, 3) := by decide +kernel
theorem dX0_wonAt_12 : decode cX0_wonAt 12 = .ok (.iconst 0, 1) := by decide +kernel
theorem dX0_wonAt_13 : decode cX0_wonAt 13 = .ok (.goto 9, 3) := by decide +kernel
theorem dX0_wonAt_16 : decode cX0_wonAt 16 = .ok (.aload_n 0, 1) := by decide +kernel
theorem dX0_wonAt_17 : decode cX0_wonAt 17 = .ok (.getfield 29, 3) := by decide +kernel
theorem dX0_wonAt_20 : decode cX0_wonAt 20 = .ok (.iload_n 1, 1) := by decide +kernel
theorem dX0_wonAt_21 : decode cX0_wonAt 21 = .ok (.iaload, 1) := by decide +kernel
theorem dX0_wonAt_22 : decode cX0_wonAt 22 = .ok (.ireturn, 1) := by decide +kernel
theorem dX0_laidAt_0 : decode cX0_laidAt 0 = .ok (.iload_n 1, 1) := by decide +kernel
theorem dX0_laidAt_1 : decode cX0_laidAt 1 = .ok (.ifCond .lt 11, 3) := by decide +kernel
theorem dX0_laidAt_4 : decode cX0_laidAt 4 = .ok (.iload_n 1, 1) := by decide +kernel
theorem dX0_laidAt_5 : decode cX0_laidAt 5 = .ok (.aload_n 0, 1) := by decide +kernel
theorem dX0_laidAt_6 : decode cX0_laidAt 6 = .ok (.getfield 70, 3) := by decide +kernel
theorem dX0_laidAt_9 : decode cX0_laidAt 9 = .ok (.if_icmp .lt 7, 3) := by decide +kernel
theorem dX0_laidAt_12 : decode cX0_laidAt 12 = .ok (.aconst_null, 1) := by decide +kernel
theorem dX0_laidAt_13 : decode cX0_laidAt 13 = .ok (.goto 9, 3) := by decide +kernel
theorem dX0_laidAt_16 : decode cX0_laidAt 16 = .ok (.aload_n 0, 1) := by decide +kernel
theorem dX0_laidAt_17 : decode cX0_laidAt 17 = .ok (.getfield 26, 3) := by decide +kernel
theorem dX0_laidAt_20 : decode cX0_laidAt 20 = .ok (.iload_n 1, 1) := by decide +kernel
theorem dX0_laidAt_21 : decode cX0_laidAt 21 = .ok (.aaload, 1) := by decide +kernel
theorem dX0_laidAt_22 : decode cX0_laidAt 22 = .ok (.areturn, 1) := by decide +kernel
theorem q_68 : Cond.fieldLink RX0 38 "HeavyFiles$Court" "size" "I" ∈ wT := wi_t 68 (by decide +kernel) (by decide +kernel)
theorem q_109 : Cond.fieldLink RX0 54 "HeavyFiles$Reader" "stocks" "[I" ∈ wT := wi_t 109 (by decide +kernel) (by decide +kernel)
theorem q_58 : Cond.fieldLink RX0 17 "HeavyFiles$Court" "stocks" "[I" ∈ wT := wi_t 58 (by decide +kernel) (by decide +kernel)
theorem q_724 : Cond.methodLink RX0 55 arraycopyName ∈ wT := wi_t 724 (by decide +kernel) (by decide +kernel)
theorem q_63 : Cond.fieldLink RX0 21 "HeavyFiles$Court" "lent" "[I" ∈ wT := wi_t 63 (by decide +kernel) (by decide +kernel)
theorem q_909 : Cond.methodLink RX0 61 yJ7_fill_53178 ∈ wT := wi_t 909 (by decide +kernel) (by decide +kernel)
theorem q_74 : Cond.fieldLink RX0 67 "HeavyFiles$Court" "damp" "I" ∈ wT := wi_t 74 (by decide +kernel) (by decide +kernel)
theorem q_78 : Cond.fieldLink RX0 70 "HeavyFiles$Court" "notes" "I" ∈ wT := wi_t 78 (by decide +kernel) (by decide +kernel)
theorem q_57 : Cond.fieldLink RX0 11 "HeavyFiles$Court" "suits" "[LHeavyFiles$Suit;" ∈ wT := wi_t 57 (by decide +kernel) (by decide +kernel)
theorem q_111 : Cond.fieldLink RX0 41 "HeavyFiles$Reader" "kinds" "[I" ∈ wT := wi_t 111 (by decide +kernel) (by decide +kernel)
theorem q_113 : Cond.fieldLink RX0 44 "HeavyFiles$Reader" "worths" "[I" ∈ wT := wi_t 113 (by decide +kernel) (by decide +kernel)
theorem q_115 : Cond.fieldLink RX0 47 "HeavyFiles$Reader" "figures" "[I" ∈ wT := wi_t 115 (by decide +kernel) (by decide +kernel)
theorem q_792 : Cond.methodLink RX0 50 yX9_become ∈ wT := wi_t 792 (by decide +kernel) (by decide +kernel)
theorem q_795 : Cond.code yX9_become cX9_become 4 none ∈ wT := wi_t 795 (by decide +kernel) (by decide +kernel)
theorem q_793 : Cond.instanceMethod yX9_become ∈ wT := wi_t 793 (by decide +kernel) (by decide +kernel)
theorem q_794 : Cond.selects RX9 yX9_become yX9_become ∈ wT := wi_t 794 (by decide +kernel) (by decide +kernel)
theorem q_116 : Cond.fieldLink RX0 33 "HeavyFiles$Reader" "suits" "I" ∈ wT := wi_t 116 (by decide +kernel) (by decide +kernel)
theorem q_65 : Cond.fieldLink RX0 26 "HeavyFiles$Court" "laid" "[[I" ∈ wT := wi_t 65 (by decide +kernel) (by decide +kernel)
theorem q_43 : Cond.fieldLink RX0 73 "HeavyFiles$Suit" "kind" "I" ∈ wT := wi_t 43 (by decide +kernel) (by decide +kernel)
theorem q_45 : Cond.fieldLink RX0 76 "HeavyFiles$Suit" "worth" "I" ∈ wT := wi_t 45 (by decide +kernel) (by decide +kernel)
theorem q_48 : Cond.fieldLink RX0 79 "HeavyFiles$Suit" "figure" "I" ∈ wT := wi_t 48 (by decide +kernel) (by decide +kernel)
theorem q_66 : Cond.fieldLink RX0 29 "HeavyFiles$Court" "won" "[I" ∈ wT := wi_t 66 (by decide +kernel) (by decide +kernel)
theorem q_820 : Cond.methodLink RX0 82 yX9_isA ∈ wT := wi_t 820 (by decide +kernel) (by decide +kernel)
theorem q_823 : Cond.code yX9_isA cX9_isA 2 (some .boolean) ∈ wT := wi_t 823 (by decide +kernel) (by decide +kernel)
theorem q_821 : Cond.instanceMethod yX9_isA ∈ wT := wi_t 821 (by decide +kernel) (by decide +kernel)
theorem q_822 : Cond.selects RX9 yX9_isA yX9_isA ∈ wT := wi_t 822 (by decide +kernel) (by decide +kernel)
theorem q_404 : Cond.methodLink RX0 86 yX6_isWithin ∈ wT := wi_t 404 (by decide +kernel) (by decide +kernel)
theorem q_407 : Cond.code yX6_isWithin cX6_isWithin 3 (some .boolean) ∈ wT := wi_t 407 (by decide +kernel) (by decide +kernel)
theorem q_405 : Cond.instanceMethod yX6_isWithin ∈ wT := wi_t 405 (by decide +kernel) (by decide +kernel)
theorem q_12 : Cond.initialized RX6 ∈ wT := wi_t 12 (by decide +kernel) (by decide +kernel)
theorem q_406 : Cond.selects RX6 yX6_isWithin yX6_isWithin ∈ wT := wi_t 406 (by decide +kernel) (by decide +kernel)
theorem q_408 : Cond.methodLink RX0 91 yX6_total ∈ wT := wi_t 408 (by decide +kernel) (by decide +kernel)
theorem q_411 : Cond.code yX6_total cX6_total 4 (some .long) ∈ wT := wi_t 411 (by decide +kernel) (by decide +kernel)
theorem q_409 : Cond.instanceMethod yX6_total ∈ wT := wi_t 409 (by decide +kernel) (by decide +kernel)
theorem q_410 : Cond.selects RX6 yX6_total yX6_total ∈ wT := wi_t 410 (by decide +kernel) (by decide +kernel)
theorem q_503 : Cond.methodLink RX0 103 yX9_extra ∈ wT := wi_t 503 (by decide +kernel) (by decide +kernel)
theorem q_437 : Cond.code yX9_extra cX9_extra 3 (some .int) ∈ wT := wi_t 437 (by decide +kernel) (by decide +kernel)
theorem q_435 : Cond.instanceMethod yX9_extra ∈ wT := wi_t 435 (by decide +kernel) (by decide +kernel)
theorem q_436 : Cond.selects RX9 yX9_extra yX9_extra ∈ wT := wi_t 436 (by decide +kernel) (by decide +kernel)
theorem q_505 : Cond.methodLink RX0 111 yX9_need ∈ wT := wi_t 505 (by decide +kernel) (by decide +kernel)
theorem q_508 : Cond.code yX9_need cX9_need 10 (some .int) ∈ wT := wi_t 508 (by decide +kernel) (by decide +kernel)
theorem q_506 : Cond.instanceMethod yX9_need ∈ wT := wi_t 506 (by decide +kernel) (by decide +kernel)
theorem q_507 : Cond.selects RX9 yX9_need yX9_need ∈ wT := wi_t 507 (by decide +kernel) (by decide +kernel)
theorem q_504 : Cond.methodLink RX0 107 yX9_weight ∈ wT := wi_t 504 (by decide +kernel) (by decide +kernel)
theorem q_501 : Cond.methodLink RX0 95 yX0_suitOf ∈ wT := wi_t 501 (by decide +kernel) (by decide +kernel)
theorem q_429 : Cond.code yX0_suitOf cX0_suitOf 2 (some (.object "HeavyFiles$Suit")) ∈ wT := wi_t 429 (by decide +kernel) (by decide +kernel)
theorem q_427 : Cond.instanceMethod yX0_suitOf ∈ wT := wi_t 427 (by decide +kernel) (by decide +kernel)
theorem q_2 : Cond.initialized RX0 ∈ wT := wi_t 2 (by decide +kernel) (by decide +kernel)
theorem q_428 : Cond.selects RX0 yX0_suitOf yX0_suitOf ∈ wT := wi_t 428 (by decide +kernel) (by decide +kernel)
theorem q_502 : Cond.methodLink RX0 99 yX9_aheadIn ∈ wT := wi_t 502 (by decide +kernel) (by decide +kernel)
theorem q_433 : Cond.code yX9_aheadIn cX9_aheadIn 2 (some .int) ∈ wT := wi_t 433 (by decide +kernel) (by decide +kernel)
theorem q_431 : Cond.instanceMethod yX9_aheadIn ∈ wT := wi_t 431 (by decide +kernel) (by decide +kernel)
theorem q_432 : Cond.selects RX9 yX9_aheadIn yX9_aheadIn ∈ wT := wi_t 432 (by decide +kernel) (by decide +kernel)
theorem q_723 : Cond.methodLink RX0 115 Lib.Math.min.name ∈ wT := wi_t 723 (by decide +kernel) (by decide +kernel)
theorem kvX9_become : KV yX9_become RX9 cX9_become 4 none 3 := ⟨q_793, q_794, q_3, q_795, rfl, by decide +kernel, by decide +kernel, by decide +kernel⟩
theorem kvX9_isA : KV yX9_isA RX9 cX9_isA 2 (some .boolean) 1 := ⟨q_821, q_822, q_3, q_823, rfl, by decide +kernel, by decide +kernel, by decide +kernel⟩
theorem kvX6_isWithin : KV yX6_isWithin RX6 cX6_isWithin 3 (some .boolean) 1 := ⟨q_405, q_406, q_12, q_407, rfl, by decide +kernel, by decide +kernel, by decide +kernel⟩
theorem kvX6_total : KV yX6_total RX6 cX6_total 4 (some .long) 0 := ⟨q_409, q_410, q_12, q_411, rfl, by decide +kernel, by decide +kernel, by decide +kernel⟩
theorem kvX9_extra : KV yX9_extra RX9 cX9_extra 3 (some .int) 2 := ⟨q_435, q_436, q_3, q_437, rfl, by decide +kernel, by decide +kernel, by decide +kernel⟩
theorem kvX9_need : KV yX9_need RX9 cX9_need 10 (some .int) 4 := ⟨q_506, q_507, q_3, q_508, rfl, by decide +kernel, by decide +kernel, by decide +kernel⟩
theorem kvX0_suitOf : KV yX0_suitOf RX0 cX0_suitOf 2 (some (.object "HeavyFiles$Suit")) 1 := ⟨q_427, q_428, q_2, q_429, rfl, by decide +kernel, by decide +kernel, by decide +kernel⟩
theorem kvX9_aheadIn : KV yX9_aheadIn RX9 cX9_aheadIn 2 (some .int) 1 := ⟨q_431, q_432, q_3, q_433, rfl, by decide +kernel, by decide +kernel, by decide +kernel⟩
/-! HeavyFiles$Court.open(LHeavyFiles$Reader;)V -/
def fX0_open_10 (N : Nat)  : Nat → Nat → Nat → Int32 → Mm → Option (Unit × Mm)
  | 0 => fun _ _ _ _ => none
  | n + 1 => fun a0 a1 a2 mm =>
    let k10 := fX0_open_10 N  n
    if (rd mm a0 5) ≤ a2 then (gd (cpok (ln (fr a1 0)) (ln (fr a0 1)) 0 0 2) <| nm (cpy mm (fr a1 0) (fr a0 1) 0 0 2) fun m3 => bd2 (fJ7_fill_53178 N (fr a0 2) 0 m3) fun x4 m5 => nm (wr m5 a0 6 0) fun m7 => nm (wr m7 a0 7 0) fun m8 => some ((), m8)) else (gd (inb a2 (ln (fr a0 0))) <| gd (inb a2 (ln (fr a1 1))) <| gd (inb a2 (ln (fr a1 2))) <| gd (inb a2 (ln (fr a1 3))) <| bd2 (fX9_become N (el (fr a0 0) a2.toNatClampNeg) (rd mm (fr a1 1) a2.toNatClampNeg) (rd mm (fr a1 2) a2.toNatClampNeg) (rd mm (fr a1 3) a2.toNatClampNeg) mm) fun x13 m14 => k10 a0 a1 (a2 + 1) m14)
def fX0_open (N : Nat)  (a0 : Nat) (a1 : Nat) (mm : Mm) : Option (Unit × Mm) :=
  nm (wr mm a0 5 (rd mm a1 4)) fun m16 => fX0_open_10 N N a0 a1 0 m16
abbrev rmX0_open : Room := { frames := 2, cells := 0, slots := 0, locals := 71 }
/-! HeavyFiles$Court.take(LHeavyFiles$Court;)V -/
def fX0_take_119 (N : Nat)  : Nat → Nat → Nat → Int32 → Mm → Option (Unit × Mm)
  | 0 => fun _ _ _ _ => none
  | n + 1 => fun a0 a1 a2 mm =>
    let k119 := fX0_take_119 N  n
    if (8 : Int32) ≤ a2 then (some ((), mm)) else (gd (inb a2 (ln (fr a1 3))) <| gd (inb a2 (ln (fr a0 3))) <| gd (cpok (ln (el (fr a1 3) a2.toNatClampNeg)) (ln (el (fr a0 3) a2.toNatClampNeg)) 0 0 6) <| nm (cpy mm (el (fr a1 3) a2.toNatClampNeg) (el (fr a0 3) a2.toNatClampNeg) 0 0 6) fun m5 => k119 a0 a1 (a2 + 1) m5)
def fX0_take_69 (N : Nat)  : Nat → Nat → Nat → Int32 → Mm → Option (Unit × Mm)
  | 0 => fun _ _ _ _ => none
  | n + 1 => fun a0 a1 a2 mm =>
    let k69 := fX0_take_69 N  n
    if (6 : Int32) ≤ a2 then (fX0_take_119 N N a0 a1 0 mm) else (gd (inb a2 (ln (fr a0 0))) <| gd (inb a2 (ln (fr a1 0))) <| gd (inb a2 (ln (fr a1 0))) <| gd (inb a2 (ln (fr a1 0))) <| bd2 (fX9_become N (el (fr a0 0) a2.toNatClampNeg) (rd mm (el (fr a1 0) a2.toNatClampNeg) 0) (rd mm (el (fr a1 0) a2.toNatClampNeg) 1) (rd mm (el (fr a1 0) a2.toNatClampNeg) 2) mm) fun x11 m12 => k69 a0 a1 (a2 + 1) m12)
def fX0_take (N : Nat)  (a0 : Nat) (a1 : Nat) (mm : Mm) : Option (Unit × Mm) :=
  nm (wr mm a0 5 (rd mm a1 5)) fun m14 => nm (wr m14 a0 6 (rd m14 a1 6)) fun m15 => nm (wr m15 a0 7 (rd m15 a1 7)) fun m16 => gd (cpok (ln (fr a1 1)) (ln (fr a0 1)) 0 0 2) <| nm (cpy m16 (fr a1 1) (fr a0 1) 0 0 2) fun m18 => gd (cpok (ln (fr a1 2)) (ln (fr a0 2)) 0 0 4) <| nm (cpy m18 (fr a1 2) (fr a0 2) 0 0 4) fun m20 => gd (cpok (ln (fr a1 4)) (ln (fr a0 4)) 0 0 8) <| nm (cpy m20 (fr a1 4) (fr a0 4) 0 0 8) fun m22 => fX0_take_69 N N a0 a1 0 m22
abbrev rmX0_take : Room := { frames := 2, cells := 0, slots := 0, locals := 71 }
/-! HeavyFiles$Court.suitOf(I)LHeavyFiles$Suit; -/
def fX0_suitOf (N : Nat)  (a0 : Nat) (a1 : Int32) (mm : Mm) : Option (Option Nat × Mm) :=
  if a1 < 0 then (some (none, mm)) else (if (rd mm a0 5) ≤ a1 then (some (none, mm)) else (if a1 < 6 then (gd (inb a1 (ln (fr a0 0))) <| some (some (el (fr a0 0) a1.toNatClampNeg), mm)) else (some (none, mm))))
abbrev rmX0_suitOf : Room := { frames := 1, cells := 0, slots := 0, locals := 40 }
/-! HeavyFiles$Court.worths()I -/
def fX0_worths_4 (N : Nat)  : Nat → Nat → Int32 → Int32 → Mm → Option (Int32 × Mm)
  | 0 => fun _ _ _ _ => none
  | n + 1 => fun a0 a1 a2 mm =>
    let k4 := fX0_worths_4 N  n
    if (rd mm a0 5) ≤ a2 then (some (a1, mm)) else (gd (inb a2 (ln (fr a0 0))) <| nm (a1 + (rd mm (el (fr a0 0) a2.toNatClampNeg) 1)) fun x3 => k4 a0 x3 (a2 + 1) mm)
def fX0_worths (N : Nat)  (a0 : Nat) (mm : Mm) : Option (Int32 × Mm) :=
  fX0_worths_4 N N a0 0 0 mm
abbrev rmX0_worths : Room := { frames := 1, cells := 0, slots := 0, locals := 40 }
/-! HeavyFiles$Court.howMany(I)I -/
def fX0_howMany_28 (N : Nat) (k4 : Nat → Int32 → Int32 → Int32 → Mm → Option (Int32 × Mm)) (a0 : Nat) (a1 : Int32) (a2 : Int32) (a3 : Int32) (mm : Mm) : Option (Int32 × Mm) :=
  k4 a0 a1 a2 (a3 + 1) mm
def fX0_howMany_4 (N : Nat)  : Nat → Nat → Int32 → Int32 → Int32 → Mm → Option (Int32 × Mm)
  | 0 => fun _ _ _ _ _ => none
  | n + 1 => fun a0 a1 a2 a3 mm =>
    let k4 := fX0_howMany_4 N  n
    if (rd mm a0 5) ≤ a3 then (some (a2, mm)) else (gd (inb a3 (ln (fr a0 0))) <| bd2 (fX9_isA N (el (fr a0 0) a3.toNatClampNeg) a1 mm) fun x3 m4 => if x3 = 0 then (fX0_howMany_28 N k4 a0 a1 a2 a3 m4) else (fX0_howMany_28 N k4 a0 a1 (a2 + 1) a3 m4))
def fX0_howMany (N : Nat)  (a0 : Nat) (a1 : Int32) (mm : Mm) : Option (Int32 × Mm) :=
  fX0_howMany_4 N N a0 a1 0 0 mm
abbrev rmX0_howMany : Room := { frames := 2, cells := 0, slots := 0, locals := 69 }
/-! HeavyFiles$Court.stockWith(I)I -/
def fX0_stockWith_31 (N : Nat) (k9 : Nat → Int32 → Int32 → Int32 → Mm → Option (Int32 × Mm)) (a0 : Nat) (a1 : Int32) (a2 : Int32) (a3 : Int32) (mm : Mm) : Option (Int32 × Mm) :=
  k9 a0 a1 a2 (a3 + 1) mm
def fX0_stockWith_9 (N : Nat)  : Nat → Nat → Int32 → Int32 → Int32 → Mm → Option (Int32 × Mm)
  | 0 => fun _ _ _ _ _ => none
  | n + 1 => fun a0 a1 a2 a3 mm =>
    let k9 := fX0_stockWith_9 N  n
    if (4 : Int32) ≤ a3 then (some (a2, mm)) else (if ((a1 >>> (a3 &&& 31)) &&& 1) = 0 then (fX0_stockWith_31 N k9 a0 a1 a2 a3 mm) else (gd (inb a3 (ln (fr a0 2))) <| nm (a2 + (rd mm (fr a0 2) a3.toNatClampNeg)) fun x4 => fX0_stockWith_31 N k9 a0 a1 x4 a3 mm))
def fX0_stockWith (N : Nat)  (a0 : Nat) (a1 : Int32) (mm : Mm) : Option (Int32 × Mm) :=
  gd (inb 0 (ln (fr a0 1))) <| nm (rd mm (fr a0 1) ((0 : Int32).toNatClampNeg)) fun x6 => fX0_stockWith_9 N N a0 a1 x6 0 mm
abbrev rmX0_stockWith : Room := { frames := 1, cells := 0, slots := 0, locals := 40 }
/-! HeavyFiles$Court.allows(LHeavyFiles$Row;I)Z -/
def fX0_allows (N : Nat)  (a0 : Nat) (a1 : Nat) (a2 : Int32) (mm : Mm) : Option (Int32 × Mm) :=
  bd2 (fX6_isWithin N a1 40 mm) fun x1 m2 => if x1 = 0 then (some (0, m2)) else (bd2 (fX6_total N a1 m2) fun x5 m6 => gd (inb a2 (ln (fr a0 1))) <| if (0 : Int32) < (lg_cmp x5 ((rd m6 (fr a0 1) a2.toNatClampNeg).toInt64)) then (some (0, m6)) else (some (1, m6)))
abbrev rmX0_allows : Room := { frames := 2, cells := 0, slots := 0, locals := 71 }
/-! HeavyFiles$Court.need(IIIII[I)I -/
def fX0_need_74 (N : Nat)  (s0 : Nat) (s1 : Int32) (s2 : Int32) (s3 : Int32) (s4 : Nat) (s5 : Int32) (s6 : Int32) (mm : Mm) : Option (Int32 × Mm) :=
  bd2 (fX9_extra N s4 s5 s6 mm) fun x1 m2 => bd2 (fX9_need N s0 s1 s2 s3 x1 m2) fun x4 m5 => some (x4, m5)
def fX0_need_45 (N : Nat)  (a2 : Int32) (a3 : Int32) (a5 : Int32) (a7 : Nat) (a8 : Int32) (s0 : Nat) (s1 : Int32) (s2 : Nat) (s3 : Int32) (s4 : Int32) (mm : Mm) : Option (Int32 × Mm) :=
  bd2 (fX9_extra N s2 s3 s4 mm) fun x7 m8 => bd2 (fX9_weight N s0 s1 x7 m8) fun x10 m11 => if a8 = a2 then (fX0_need_74 N a7 a2 a3 x10 a7 a5 1 m11) else (fX0_need_74 N a7 a2 a3 x10 a7 a5 0 m11)
def fX0_need (N : Nat)  (a0 : Nat) (a1 : Int32) (a2 : Int32) (a3 : Int32) (a4 : Int32) (a5 : Int32) (a6 : Nat) (mm : Mm) : Option (Int32 × Mm) :=
  bd2 (fX0_suitOf N a0 a1 mm) fun x14 m15 => cs x14 (some ((-9), m15)) (fun z17 => bd2 (fX9_aheadIn N z17 a6 m15) fun x19 m20 => if x19 = (1 - a2) then (fX0_need_45 N a2 a3 a5 z17 x19 z17 a4 z17 a5 1 m20) else (fX0_need_45 N a2 a3 a5 z17 x19 z17 a4 z17 a5 0 m20))
abbrev rmX0_need : Room := { frames := 4, cells := 0, slots := 0, locals := 135 }
/-! HeavyFiles$Court.write([II)V -/
def fX0_write (N : Nat)  (a0 : Nat) (a1 : Nat) (a2 : Int32) (mm : Mm) : Option (Unit × Mm) :=
  if (rd mm a0 7) < 8 then (gd (inb (rd mm a0 7) (ln (fr a0 3))) <| nm (if 6 < (Int32.ofNat (ln a1)) then 6 else (Int32.ofNat (ln a1))) fun x3 => gd (cpok (ln a1) (ln (el (fr a0 3) (rd mm a0 7).toNatClampNeg)) 0 0 x3) <| nm (cpy mm a1 (el (fr a0 3) (rd mm a0 7).toNatClampNeg) 0 0 x3) fun m5 => gd (inb (rd m5 a0 7) (ln (fr a0 4))) <| nm (wr m5 (fr a0 4) (rd m5 a0 7).toNatClampNeg a2) fun m7 => nm (wr m7 a0 7 ((rd m7 a0 7) + 1)) fun m8 => some ((), m8)) else (some ((), mm))
abbrev rmX0_write : Room := { frames := 2, cells := 0, slots := 0, locals := 69 }
/-! HeavyFiles$Court.wonAt(I)I -/
def fX0_wonAt (N : Nat)  (a0 : Nat) (a1 : Int32) (mm : Mm) : Option (Int32 × Mm) :=
  if a1 < 0 then (some (0, mm)) else (if a1 < (rd mm a0 7) then (gd (inb a1 (ln (fr a0 4))) <| some (rd mm (fr a0 4) a1.toNatClampNeg, mm)) else (some (0, mm)))
abbrev rmX0_wonAt : Room := { frames := 1, cells := 0, slots := 0, locals := 40 }
/-! HeavyFiles$Court.laidAt(I)[I -/
def fX0_laidAt (N : Nat)  (a0 : Nat) (a1 : Int32) (mm : Mm) : Option (Option Nat × Mm) :=
  if a1 < 0 then (some (none, mm)) else (if a1 < (rd mm a0 7) then (gd (inb a1 (ln (fr a0 3))) <| some (some (el (fr a0 3) a1.toNatClampNeg), mm)) else (some (none, mm)))
abbrev rmX0_laidAt : Room := { frames := 1, cells := 0, slots := 0, locals := 40 }
section W_court08
variable {p : Program} {l : Launch} {e : Env} {s : State} {m : MethodId} {args : Array Value} {below : List Frame} {meth : Method} {c : Code} {D : va_G} {ca ad : Nat → Nat}
set_option maxRecDepth 100000 in
set_option maxHeartbeats 4000000 in
theorem wX0_open_10 (C : Cx p s m meth c args cX0_open 3 none RX0 D ca ad) {res : Unit × Mm} {N : Nat}  : ∀ (n : Nat) {a0 : Nat} {a1 : Nat} {a2 : Int32} {mm : Mm} {H : Heap} {locs : List Loc} {ls : Array Slot}, (sX0 a0) → (sX5 a1) → Wd D ca ad s.heap mm H locs → lv_has ls 3 [(0, .ref (ad a0)), (1, .ref (ad a1)), (2, .int a2)] → fX0_open_10 N n a0 a1 a2 mm = some res → W p l e (rmX0_open) s m args below meth c H locs 0 0 (MQ below (QV D ca ad res) args s 0 0 (AA ad)) (F0 m 10 ls []) := by
  intro n
  induction n with
  | zero => intro a0 a1 a2 mm H locs ls ha0 ha1 hW hl hf; cases hf
  | succ n ih =>
    intro a0 a1 a2 mm H locs ls ha0 ha1 hW hl hf
    have hk10 : ∀ (a0 : Nat) (a1 : Nat) (a2 : Int32) (mm : Mm) (H : Heap) (locs : List Loc) (ls : Array Slot), (sX0 a0) → (sX5 a1) → Wd D ca ad s.heap mm H locs → lv_has ls 3 [(0, .ref (ad a0)), (1, .ref (ad a1)), (2, .int a2)] → (fX0_open_10 N n) a0 a1 a2 mm = some res → W p l e (rmX0_open) s m args below meth c H locs 0 0 (MQ below (QV D ca ad res) args s 0 0 (AA ad)) (F0 m 10 ls []) := fun a0 a1 a2 mm H locs ls ha0 ha1 hW hl hf => ih ha0 ha1 hW hl hf
    unfold fX0_open_10 at hf
    try dsimp only at hf
    refine lv_iload_n C.1 C.2.1 dX0_open_10 rfl (lv_at hl 2 rfl) ?_
    refine lv_aload_n C.1 C.2.1 dX0_open_11 rfl (lv_at hl 0 rfl) ?_
    refine x_geti C hW (ha0).1 (ha0).2.1 (j := 5) rfl kX0 (by decide) rfl q_68 dX0_open_12 ?_
    refine lv_icmp_ge (tgt := 51) C.1 C.2.1 dX0_open_15 (by decide) (fun c1 => ?_) (fun c1 => ?_)
    · have hf := if_t c1 hf
      refine lv_aload_n C.1 C.2.1 dX0_open_51 rfl (lv_at hl 1 rfl) ?_
      refine x_getr C hW (ha1).1 (ha1).2.1 (j := 0) rfl kX5 (by decide) rfl q_109 dX0_open_52 ?_
      refine lv_iconst (v := 0) C.1 C.2.1 dX0_open_55 (by decide) ?_
      refine lv_aload_n C.1 C.2.1 dX0_open_56 rfl (lv_at hl 0 rfl) ?_
      refine x_getr C hW (ha0).1 (ha0).2.1 (j := 1) rfl kX0 (by decide) rfl q_58 dX0_open_57 ?_
      refine lv_iconst (v := 0) C.1 C.2.1 dX0_open_60 (by decide) ?_
      refine lv_iconst (v := 2) C.1 C.2.1 dX0_open_61 (by decide) ?_
      obtain ⟨g2, hf⟩ := gd_s hf
      refine x_copy C hW ha1.2.2.1 ha0.2.2.2.1 g2 hl.1 q_724 q_496 q_495 q_14 (by decide) (Nat.le_of_ble_eq_true rfl) dX0_open_62 (fun H locs hW => ?_)
      obtain ⟨m3, em3⟩ : ∃ z, z = cpy mm (fr a1 0) (fr a0 1) 0 0 2 := ⟨_, rfl⟩
      have hf := nm_s hf em3
      rw [← em3] at hW
      refine lv_aload_n C.1 C.2.1 dX0_open_65 rfl (lv_at hl 0 rfl) ?_
      refine x_getr C hW (ha0).1 (ha0).2.1 (j := 2) rfl kX0 (by decide) rfl q_63 dX0_open_66 ?_
      refine lv_iconst (v := 0) C.1 C.2.1 dX0_open_69 (by decide) ?_
      obtain ⟨x4, m5, r6, hf⟩ := bd2_s hf
      refine x_cv hW (x_runS C hW [.ref (ad (fr a0 2)), .int 0] [] kvJ7_fill_53178 q_909 (tJ7_fill_53178 l C.2.2.2.2.2.2.1 ha0.2.2.2.2.1 r6) rfl rfl ⟨by decide, by decide⟩ rfl hl.1 rfl (Nat.le_of_ble_eq_true rfl) dX0_open_70) (fun H locs hW => ?_)
      refine lv_aload_n C.1 C.2.1 dX0_open_73 rfl (lv_at hl 0 rfl) ?_
      refine lv_iconst (v := 0) C.1 C.2.1 dX0_open_74 (by decide) ?_
      refine x_put C hW (ha0).1 (ha0).2.1 (j := 6) (t1 := .int) rfl kX0 (by decide) rfl rfl q_74 (by decide +kernel) rfl rfl dX0_open_75 (fun H locs hW => ?_)
      obtain ⟨m7, em7⟩ : ∃ z, z = wr m5 a0 6 0 := ⟨_, rfl⟩
      have hf := nm_s hf em7
      rw [← em7] at hW
      refine lv_aload_n C.1 C.2.1 dX0_open_78 rfl (lv_at hl 0 rfl) ?_
      refine lv_iconst (v := 0) C.1 C.2.1 dX0_open_79 (by decide) ?_
      refine x_put C hW (ha0).1 (ha0).2.1 (j := 7) (t1 := .int) rfl kX0 (by decide) rfl rfl q_78 (by decide +kernel) rfl rfl dX0_open_80 (fun H locs hW => ?_)
      obtain ⟨m8, em8⟩ : ∃ z, z = wr m7 a0 7 0 := ⟨_, rfl⟩
      have hf := nm_s hf em8
      rw [← em8] at hW
      cases hf
      exact x_vret C hW dX0_open_83
    · have hf := if_f c1 hf
      refine lv_aload_n C.1 C.2.1 dX0_open_18 rfl (lv_at hl 0 rfl) ?_
      refine x_getr C hW (ha0).1 (ha0).2.1 (j := 0) rfl kX0 (by decide) rfl q_57 dX0_open_19 ?_
      refine lv_iload_n C.1 C.2.1 dX0_open_22 rfl (lv_at hl 2 rfl) ?_
      obtain ⟨g9, hf⟩ := gd_s hf
      refine x_aald C hW (ha0.2.2.1).1 (fun _ => rfl) rfl g9 dX0_open_23 ?_
      refine lv_aload_n C.1 C.2.1 dX0_open_24 rfl (lv_at hl 1 rfl) ?_
      refine x_getr C hW (ha1).1 (ha1).2.1 (j := 1) rfl kX5 (by decide) rfl q_111 dX0_open_25 ?_
      refine lv_iload_n C.1 C.2.1 dX0_open_28 rfl (lv_at hl 2 rfl) ?_
      obtain ⟨g10, hf⟩ := gd_s hf
      refine x_iald C hW ha1.2.2.2.1 g10 dX0_open_29 ?_
      refine lv_aload_n C.1 C.2.1 dX0_open_30 rfl (lv_at hl 1 rfl) ?_
      refine x_getr C hW (ha1).1 (ha1).2.1 (j := 2) rfl kX5 (by decide) rfl q_113 dX0_open_31 ?_
      refine lv_iload_n C.1 C.2.1 dX0_open_34 rfl (lv_at hl 2 rfl) ?_
      obtain ⟨g11, hf⟩ := gd_s hf
      refine x_iald C hW ha1.2.2.2.2.1 g11 dX0_open_35 ?_
      refine lv_aload_n C.1 C.2.1 dX0_open_36 rfl (lv_at hl 1 rfl) ?_
      refine x_getr C hW (ha1).1 (ha1).2.1 (j := 3) rfl kX5 (by decide) rfl q_115 dX0_open_37 ?_
      refine lv_iload_n C.1 C.2.1 dX0_open_40 rfl (lv_at hl 2 rfl) ?_
      obtain ⟨g12, hf⟩ := gd_s hf
      refine x_iald C hW ha1.2.2.2.2.2 g12 dX0_open_41 ?_
      obtain ⟨x13, m14, r15, hf⟩ := bd2_s hf
      refine x_cv hW (x_runV C hW [.int (rd mm (fr a1 1) a2.toNatClampNeg), .int (rd mm (fr a1 2) a2.toNatClampNeg), .int (rd mm (fr a1 3) a2.toNatClampNeg)] [] ((ha0.2.2.1).2 _ (inb_lt g9)).1 ((ha0.2.2.1).2 _ (inb_lt g9)).2.1 kX9.1 kvX9_become q_792 (tX9_become l C.2.2.2.2.2.2.1 ((ha0.2.2.1).2 _ (inb_lt g9)) r15) rfl rfl ⟨by decide, by decide⟩ rfl hl.1 rfl (Nat.le_of_ble_eq_true rfl) dX0_open_42) (fun H locs hW => ?_)
      refine lv_iinc (v := (a2 + 1)) (lv' := [(2, .int (a2 + 1)), (0, .ref (ad a0)), (1, .ref (ad a1))]) C.1 C.2.1 dX0_open_45 hl (k := 2) rfl rfl (by decide) rfl (fun ls hl => ?_)
      refine lv_goto (tgt := 10) C.1 C.2.1 dX0_open_48 (by decide) ?_
      exact hk10 _ _ _ _ _ _ _ ha0 ha1 hW (lv_sub hl [1, 2, 0] rfl) hf
set_option maxRecDepth 100000 in
set_option maxHeartbeats 4000000 in
theorem wX0_open_0 (C : Cx p s m meth c args cX0_open 3 none RX0 D ca ad) {res : Unit × Mm} {N : Nat}  {a0 : Nat} {a1 : Nat} {mm : Mm} {H : Heap} {locs : List Loc} {ls : Array Slot} (ha0 : sX0 a0) (ha1 : sX5 a1) (hW : Wd D ca ad s.heap mm H locs) (hl : lv_has ls 3 [(0, .ref (ad a0)), (1, .ref (ad a1))]) (hf : fX0_open N a0 a1 mm = some res) : W p l e (rmX0_open) s m args below meth c H locs 0 0 (MQ below (QV D ca ad res) args s 0 0 (AA ad)) (F0 m 0 ls []) := by
  unfold fX0_open at hf
  refine lv_aload_n C.1 C.2.1 dX0_open_0 rfl (lv_at hl 0 rfl) ?_
  refine lv_aload_n C.1 C.2.1 dX0_open_1 rfl (lv_at hl 1 rfl) ?_
  refine x_geti C hW (ha1).1 (ha1).2.1 (j := 4) rfl kX5 (by decide) rfl q_116 dX0_open_2 ?_
  refine x_put C hW (ha0).1 (ha0).2.1 (j := 5) (t1 := .int) rfl kX0 (by decide) rfl rfl q_68 (by decide +kernel) rfl rfl dX0_open_5 (fun H locs hW => ?_)
  obtain ⟨m16, em16⟩ : ∃ z, z = wr mm a0 5 (rd mm a1 4) := ⟨_, rfl⟩
  have hf := nm_s hf em16
  rw [← em16] at hW
  refine lv_iconst (v := 0) C.1 C.2.1 dX0_open_8 (by decide) ?_
  refine lv_istore_n (lv' := [(2, .int 0), (0, .ref (ad a0)), (1, .ref (ad a1))]) C.1 C.2.1 dX0_open_9 rfl hl (by decide) rfl (fun ls hl => ?_)
  exact wX0_open_10 C  N ha0 ha1 hW (lv_sub hl [1, 2, 0] rfl) hf
set_option maxRecDepth 100000 in
set_option maxHeartbeats 4000000 in
theorem tX0_open (l : Launch) {D : va_G} {ca ad : Nat → Nat} (hi : Inj ad) {N : Nat} {a0 : Nat} {a1 : Nat} {mm : Mm} {res : Unit × Mm} (ha0 : sX0 a0) (ha1 : sX5 a1) (hf : fX0_open N a0 a1 mm = some res) : Met l yX0_open (WS yX0_open cX0_open 3 none) (rmX0_open) (va_Pc [.ref (ad a0), .ref (ad a1)] (WB D ca ad mm)) (QV D ca ad res) 0 0 (AA ad) := by
  refine x_start hi (by decide) rfl (Nat.le_of_ble_eq_true rfl) (fun p e s m args below meth c ls C hW hl => ?_)
  exact wX0_open_0 C ha0 ha1 hW (lv_sub hl [0, 1] rfl) hf
set_option maxRecDepth 100000 in
set_option maxHeartbeats 4000000 in
theorem wX0_take_119 (C : Cx p s m meth c args cX0_take 3 none RX0 D ca ad) {res : Unit × Mm} {N : Nat}  : ∀ (n : Nat) {a0 : Nat} {a1 : Nat} {a2 : Int32} {mm : Mm} {H : Heap} {locs : List Loc} {ls : Array Slot}, (sX0 a0) → (sX0 a1) → Wd D ca ad s.heap mm H locs → lv_has ls 3 [(0, .ref (ad a0)), (1, .ref (ad a1)), (2, .int a2)] → fX0_take_119 N n a0 a1 a2 mm = some res → W p l e (rmX0_take) s m args below meth c H locs 0 0 (MQ below (QV D ca ad res) args s 0 0 (AA ad)) (F0 m 119 ls []) := by
  intro n
  induction n with
  | zero => intro a0 a1 a2 mm H locs ls ha0 ha1 hW hl hf; cases hf
  | succ n ih =>
    intro a0 a1 a2 mm H locs ls ha0 ha1 hW hl hf
    have hk119 : ∀ (a0 : Nat) (a1 : Nat) (a2 : Int32) (mm : Mm) (H : Heap) (locs : List Loc) (ls : Array Slot), (sX0 a0) → (sX0 a1) → Wd D ca ad s.heap mm H locs → lv_has ls 3 [(0, .ref (ad a0)), (1, .ref (ad a1)), (2, .int a2)] → (fX0_take_119 N n) a0 a1 a2 mm = some res → W p l e (rmX0_take) s m args below meth c H locs 0 0 (MQ below (QV D ca ad res) args s 0 0 (AA ad)) (F0 m 119 ls []) := fun a0 a1 a2 mm H locs ls ha0 ha1 hW hl hf => ih ha0 ha1 hW hl hf
    unfold fX0_take_119 at hf
    try dsimp only at hf
    refine lv_iload_n C.1 C.2.1 dX0_take_119 rfl (lv_at hl 2 rfl) ?_
    refine lv_bipush (v := 8) C.1 C.2.1 dX0_take_120 (by decide) ?_
    refine lv_icmp_ge (tgt := 150) C.1 C.2.1 dX0_take_122 (by decide) (fun c1 => ?_) (fun c1 => ?_)
    · have hf := if_t c1 hf
      cases hf
      exact x_vret C hW dX0_take_150
    · have hf := if_f c1 hf
      refine lv_aload_n C.1 C.2.1 dX0_take_125 rfl (lv_at hl 1 rfl) ?_
      refine x_getr C hW (ha1).1 (ha1).2.1 (j := 3) rfl kX0 (by decide) rfl q_65 dX0_take_126 ?_
      refine lv_iload_n C.1 C.2.1 dX0_take_129 rfl (lv_at hl 2 rfl) ?_
      obtain ⟨g2, hf⟩ := gd_s hf
      refine x_aald C hW (ha1.2.2.2.2.2.1).1 (fun _ => rfl) rfl g2 dX0_take_130 ?_
      refine lv_iconst (v := 0) C.1 C.2.1 dX0_take_131 (by decide) ?_
      refine lv_aload_n C.1 C.2.1 dX0_take_132 rfl (lv_at hl 0 rfl) ?_
      refine x_getr C hW (ha0).1 (ha0).2.1 (j := 3) rfl kX0 (by decide) rfl q_65 dX0_take_133 ?_
      refine lv_iload_n C.1 C.2.1 dX0_take_136 rfl (lv_at hl 2 rfl) ?_
      obtain ⟨g3, hf⟩ := gd_s hf
      refine x_aald C hW (ha0.2.2.2.2.2.1).1 (fun _ => rfl) rfl g3 dX0_take_137 ?_
      refine lv_iconst (v := 0) C.1 C.2.1 dX0_take_138 (by decide) ?_
      refine lv_bipush (v := 6) C.1 C.2.1 dX0_take_139 (by decide) ?_
      obtain ⟨g4, hf⟩ := gd_s hf
      refine x_copy C hW ((ha1.2.2.2.2.2.1).2 _ (inb_lt g2)) ((ha0.2.2.2.2.2.1).2 _ (inb_lt g3)) g4 hl.1 q_724 q_496 q_495 q_14 (by decide) (Nat.le_of_ble_eq_true rfl) dX0_take_141 (fun H locs hW => ?_)
      obtain ⟨m5, em5⟩ : ∃ z, z = cpy mm (el (fr a1 3) a2.toNatClampNeg) (el (fr a0 3) a2.toNatClampNeg) 0 0 6 := ⟨_, rfl⟩
      have hf := nm_s hf em5
      rw [← em5] at hW
      refine lv_iinc (v := (a2 + 1)) (lv' := [(2, .int (a2 + 1)), (0, .ref (ad a0)), (1, .ref (ad a1))]) C.1 C.2.1 dX0_take_144 hl (k := 2) rfl rfl (by decide) rfl (fun ls hl => ?_)
      refine lv_goto (tgt := 119) C.1 C.2.1 dX0_take_147 (by decide) ?_
      exact hk119 _ _ _ _ _ _ _ ha0 ha1 hW (lv_sub hl [1, 2, 0] rfl) hf
set_option maxRecDepth 100000 in
set_option maxHeartbeats 4000000 in
theorem wX0_take_69 (C : Cx p s m meth c args cX0_take 3 none RX0 D ca ad) {res : Unit × Mm} {N : Nat}  : ∀ (n : Nat) {a0 : Nat} {a1 : Nat} {a2 : Int32} {mm : Mm} {H : Heap} {locs : List Loc} {ls : Array Slot}, (sX0 a0) → (sX0 a1) → Wd D ca ad s.heap mm H locs → lv_has ls 3 [(0, .ref (ad a0)), (1, .ref (ad a1)), (2, .int a2)] → fX0_take_69 N n a0 a1 a2 mm = some res → W p l e (rmX0_take) s m args below meth c H locs 0 0 (MQ below (QV D ca ad res) args s 0 0 (AA ad)) (F0 m 69 ls []) := by
  intro n
  induction n with
  | zero => intro a0 a1 a2 mm H locs ls ha0 ha1 hW hl hf; cases hf
  | succ n ih =>
    intro a0 a1 a2 mm H locs ls ha0 ha1 hW hl hf
    have hk69 : ∀ (a0 : Nat) (a1 : Nat) (a2 : Int32) (mm : Mm) (H : Heap) (locs : List Loc) (ls : Array Slot), (sX0 a0) → (sX0 a1) → Wd D ca ad s.heap mm H locs → lv_has ls 3 [(0, .ref (ad a0)), (1, .ref (ad a1)), (2, .int a2)] → (fX0_take_69 N n) a0 a1 a2 mm = some res → W p l e (rmX0_take) s m args below meth c H locs 0 0 (MQ below (QV D ca ad res) args s 0 0 (AA ad)) (F0 m 69 ls []) := fun a0 a1 a2 mm H locs ls ha0 ha1 hW hl hf => ih ha0 ha1 hW hl hf
    unfold fX0_take_69 at hf
    try dsimp only at hf
    refine lv_iload_n C.1 C.2.1 dX0_take_69 rfl (lv_at hl 2 rfl) ?_
    refine lv_bipush (v := 6) C.1 C.2.1 dX0_take_70 (by decide) ?_
    refine lv_icmp_ge (tgt := 117) C.1 C.2.1 dX0_take_72 (by decide) (fun c6 => ?_) (fun c6 => ?_)
    · have hf := if_t c6 hf
      refine lv_iconst (v := 0) C.1 C.2.1 dX0_take_117 (by decide) ?_
      refine lv_istore_n (lv' := [(2, .int 0), (0, .ref (ad a0)), (1, .ref (ad a1))]) C.1 C.2.1 dX0_take_118 rfl hl (by decide) rfl (fun ls hl => ?_)
      exact wX0_take_119 C  N ha0 ha1 hW (lv_sub hl [1, 2, 0] rfl) hf
    · have hf := if_f c6 hf
      refine lv_aload_n C.1 C.2.1 dX0_take_75 rfl (lv_at hl 0 rfl) ?_
      refine x_getr C hW (ha0).1 (ha0).2.1 (j := 0) rfl kX0 (by decide) rfl q_57 dX0_take_76 ?_
      refine lv_iload_n C.1 C.2.1 dX0_take_79 rfl (lv_at hl 2 rfl) ?_
      obtain ⟨g7, hf⟩ := gd_s hf
      refine x_aald C hW (ha0.2.2.1).1 (fun _ => rfl) rfl g7 dX0_take_80 ?_
      refine lv_aload_n C.1 C.2.1 dX0_take_81 rfl (lv_at hl 1 rfl) ?_
      refine x_getr C hW (ha1).1 (ha1).2.1 (j := 0) rfl kX0 (by decide) rfl q_57 dX0_take_82 ?_
      refine lv_iload_n C.1 C.2.1 dX0_take_85 rfl (lv_at hl 2 rfl) ?_
      obtain ⟨g8, hf⟩ := gd_s hf
      refine x_aald C hW (ha1.2.2.1).1 (fun _ => rfl) rfl g8 dX0_take_86 ?_
      refine x_geti C hW ((ha1.2.2.1).2 _ (inb_lt g8)).1 ((ha1.2.2.1).2 _ (inb_lt g8)).2.1 (j := 0) rfl kX9 (by decide) rfl q_43 dX0_take_87 ?_
      refine lv_aload_n C.1 C.2.1 dX0_take_90 rfl (lv_at hl 1 rfl) ?_
      refine x_getr C hW (ha1).1 (ha1).2.1 (j := 0) rfl kX0 (by decide) rfl q_57 dX0_take_91 ?_
      refine lv_iload_n C.1 C.2.1 dX0_take_94 rfl (lv_at hl 2 rfl) ?_
      obtain ⟨g9, hf⟩ := gd_s hf
      refine x_aald C hW (ha1.2.2.1).1 (fun _ => rfl) rfl g9 dX0_take_95 ?_
      refine x_geti C hW ((ha1.2.2.1).2 _ (inb_lt g9)).1 ((ha1.2.2.1).2 _ (inb_lt g9)).2.1 (j := 1) rfl kX9 (by decide) rfl q_45 dX0_take_96 ?_
      refine lv_aload_n C.1 C.2.1 dX0_take_99 rfl (lv_at hl 1 rfl) ?_
      refine x_getr C hW (ha1).1 (ha1).2.1 (j := 0) rfl kX0 (by decide) rfl q_57 dX0_take_100 ?_
      refine lv_iload_n C.1 C.2.1 dX0_take_103 rfl (lv_at hl 2 rfl) ?_
      obtain ⟨g10, hf⟩ := gd_s hf
      refine x_aald C hW (ha1.2.2.1).1 (fun _ => rfl) rfl g10 dX0_take_104 ?_
      refine x_geti C hW ((ha1.2.2.1).2 _ (inb_lt g10)).1 ((ha1.2.2.1).2 _ (inb_lt g10)).2.1 (j := 2) rfl kX9 (by decide) rfl q_48 dX0_take_105 ?_
      obtain ⟨x11, m12, r13, hf⟩ := bd2_s hf
      refine x_cv hW (x_runV C hW [.int (rd mm (el (fr a1 0) a2.toNatClampNeg) 0), .int (rd mm (el (fr a1 0) a2.toNatClampNeg) 1), .int (rd mm (el (fr a1 0) a2.toNatClampNeg) 2)] [] ((ha0.2.2.1).2 _ (inb_lt g7)).1 ((ha0.2.2.1).2 _ (inb_lt g7)).2.1 kX9.1 kvX9_become q_792 (tX9_become l C.2.2.2.2.2.2.1 ((ha0.2.2.1).2 _ (inb_lt g7)) r13) rfl rfl ⟨by decide, by decide⟩ rfl hl.1 rfl (Nat.le_of_ble_eq_true rfl) dX0_take_108) (fun H locs hW => ?_)
      refine lv_iinc (v := (a2 + 1)) (lv' := [(2, .int (a2 + 1)), (0, .ref (ad a0)), (1, .ref (ad a1))]) C.1 C.2.1 dX0_take_111 hl (k := 2) rfl rfl (by decide) rfl (fun ls hl => ?_)
      refine lv_goto (tgt := 69) C.1 C.2.1 dX0_take_114 (by decide) ?_
      exact hk69 _ _ _ _ _ _ _ ha0 ha1 hW (lv_sub hl [1, 2, 0] rfl) hf
set_option maxRecDepth 100000 in
set_option maxHeartbeats 4000000 in
theorem wX0_take_0 (C : Cx p s m meth c args cX0_take 3 none RX0 D ca ad) {res : Unit × Mm} {N : Nat}  {a0 : Nat} {a1 : Nat} {mm : Mm} {H : Heap} {locs : List Loc} {ls : Array Slot} (ha0 : sX0 a0) (ha1 : sX0 a1) (hW : Wd D ca ad s.heap mm H locs) (hl : lv_has ls 3 [(0, .ref (ad a0)), (1, .ref (ad a1))]) (hf : fX0_take N a0 a1 mm = some res) : W p l e (rmX0_take) s m args below meth c H locs 0 0 (MQ below (QV D ca ad res) args s 0 0 (AA ad)) (F0 m 0 ls []) := by
  unfold fX0_take at hf
  refine lv_aload_n C.1 C.2.1 dX0_take_0 rfl (lv_at hl 0 rfl) ?_
  refine lv_aload_n C.1 C.2.1 dX0_take_1 rfl (lv_at hl 1 rfl) ?_
  refine x_geti C hW (ha1).1 (ha1).2.1 (j := 5) rfl kX0 (by decide) rfl q_68 dX0_take_2 ?_
  refine x_put C hW (ha0).1 (ha0).2.1 (j := 5) (t1 := .int) rfl kX0 (by decide) rfl rfl q_68 (by decide +kernel) rfl rfl dX0_take_5 (fun H locs hW => ?_)
  obtain ⟨m14, em14⟩ : ∃ z, z = wr mm a0 5 (rd mm a1 5) := ⟨_, rfl⟩
  have hf := nm_s hf em14
  rw [← em14] at hW
  refine lv_aload_n C.1 C.2.1 dX0_take_8 rfl (lv_at hl 0 rfl) ?_
  refine lv_aload_n C.1 C.2.1 dX0_take_9 rfl (lv_at hl 1 rfl) ?_
  refine x_geti C hW (ha1).1 (ha1).2.1 (j := 6) rfl kX0 (by decide) rfl q_74 dX0_take_10 ?_
  refine x_put C hW (ha0).1 (ha0).2.1 (j := 6) (t1 := .int) rfl kX0 (by decide) rfl rfl q_74 (by decide +kernel) rfl rfl dX0_take_13 (fun H locs hW => ?_)
  obtain ⟨m15, em15⟩ : ∃ z, z = wr m14 a0 6 (rd m14 a1 6) := ⟨_, rfl⟩
  have hf := nm_s hf em15
  rw [← em15] at hW
  refine lv_aload_n C.1 C.2.1 dX0_take_16 rfl (lv_at hl 0 rfl) ?_
  refine lv_aload_n C.1 C.2.1 dX0_take_17 rfl (lv_at hl 1 rfl) ?_
  refine x_geti C hW (ha1).1 (ha1).2.1 (j := 7) rfl kX0 (by decide) rfl q_78 dX0_take_18 ?_
  refine x_put C hW (ha0).1 (ha0).2.1 (j := 7) (t1 := .int) rfl kX0 (by decide) rfl rfl q_78 (by decide +kernel) rfl rfl dX0_take_21 (fun H locs hW => ?_)
  obtain ⟨m16, em16⟩ : ∃ z, z = wr m15 a0 7 (rd m15 a1 7) := ⟨_, rfl⟩
  have hf := nm_s hf em16
  rw [← em16] at hW
  refine lv_aload_n C.1 C.2.1 dX0_take_24 rfl (lv_at hl 1 rfl) ?_
  refine x_getr C hW (ha1).1 (ha1).2.1 (j := 1) rfl kX0 (by decide) rfl q_58 dX0_take_25 ?_
  refine lv_iconst (v := 0) C.1 C.2.1 dX0_take_28 (by decide) ?_
  refine lv_aload_n C.1 C.2.1 dX0_take_29 rfl (lv_at hl 0 rfl) ?_
  refine x_getr C hW (ha0).1 (ha0).2.1 (j := 1) rfl kX0 (by decide) rfl q_58 dX0_take_30 ?_
  refine lv_iconst (v := 0) C.1 C.2.1 dX0_take_33 (by decide) ?_
  refine lv_iconst (v := 2) C.1 C.2.1 dX0_take_34 (by decide) ?_
  obtain ⟨g17, hf⟩ := gd_s hf
  refine x_copy C hW ha1.2.2.2.1 ha0.2.2.2.1 g17 hl.1 q_724 q_496 q_495 q_14 (by decide) (Nat.le_of_ble_eq_true rfl) dX0_take_35 (fun H locs hW => ?_)
  obtain ⟨m18, em18⟩ : ∃ z, z = cpy m16 (fr a1 1) (fr a0 1) 0 0 2 := ⟨_, rfl⟩
  have hf := nm_s hf em18
  rw [← em18] at hW
  refine lv_aload_n C.1 C.2.1 dX0_take_38 rfl (lv_at hl 1 rfl) ?_
  refine x_getr C hW (ha1).1 (ha1).2.1 (j := 2) rfl kX0 (by decide) rfl q_63 dX0_take_39 ?_
  refine lv_iconst (v := 0) C.1 C.2.1 dX0_take_42 (by decide) ?_
  refine lv_aload_n C.1 C.2.1 dX0_take_43 rfl (lv_at hl 0 rfl) ?_
  refine x_getr C hW (ha0).1 (ha0).2.1 (j := 2) rfl kX0 (by decide) rfl q_63 dX0_take_44 ?_
  refine lv_iconst (v := 0) C.1 C.2.1 dX0_take_47 (by decide) ?_
  refine lv_iconst (v := 4) C.1 C.2.1 dX0_take_48 (by decide) ?_
  obtain ⟨g19, hf⟩ := gd_s hf
  refine x_copy C hW ha1.2.2.2.2.1 ha0.2.2.2.2.1 g19 hl.1 q_724 q_496 q_495 q_14 (by decide) (Nat.le_of_ble_eq_true rfl) dX0_take_49 (fun H locs hW => ?_)
  obtain ⟨m20, em20⟩ : ∃ z, z = cpy m18 (fr a1 2) (fr a0 2) 0 0 4 := ⟨_, rfl⟩
  have hf := nm_s hf em20
  rw [← em20] at hW
  refine lv_aload_n C.1 C.2.1 dX0_take_52 rfl (lv_at hl 1 rfl) ?_
  refine x_getr C hW (ha1).1 (ha1).2.1 (j := 4) rfl kX0 (by decide) rfl q_66 dX0_take_53 ?_
  refine lv_iconst (v := 0) C.1 C.2.1 dX0_take_56 (by decide) ?_
  refine lv_aload_n C.1 C.2.1 dX0_take_57 rfl (lv_at hl 0 rfl) ?_
  refine x_getr C hW (ha0).1 (ha0).2.1 (j := 4) rfl kX0 (by decide) rfl q_66 dX0_take_58 ?_
  refine lv_iconst (v := 0) C.1 C.2.1 dX0_take_61 (by decide) ?_
  refine lv_bipush (v := 8) C.1 C.2.1 dX0_take_62 (by decide) ?_
  obtain ⟨g21, hf⟩ := gd_s hf
  refine x_copy C hW ha1.2.2.2.2.2.2 ha0.2.2.2.2.2.2 g21 hl.1 q_724 q_496 q_495 q_14 (by decide) (Nat.le_of_ble_eq_true rfl) dX0_take_64 (fun H locs hW => ?_)
  obtain ⟨m22, em22⟩ : ∃ z, z = cpy m20 (fr a1 4) (fr a0 4) 0 0 8 := ⟨_, rfl⟩
  have hf := nm_s hf em22
  rw [← em22] at hW
  refine lv_iconst (v := 0) C.1 C.2.1 dX0_take_67 (by decide) ?_
  refine lv_istore_n (lv' := [(2, .int 0), (0, .ref (ad a0)), (1, .ref (ad a1))]) C.1 C.2.1 dX0_take_68 rfl hl (by decide) rfl (fun ls hl => ?_)
  exact wX0_take_69 C  N ha0 ha1 hW (lv_sub hl [1, 2, 0] rfl) hf
set_option maxRecDepth 100000 in
set_option maxHeartbeats 4000000 in
theorem tX0_take (l : Launch) {D : va_G} {ca ad : Nat → Nat} (hi : Inj ad) {N : Nat} {a0 : Nat} {a1 : Nat} {mm : Mm} {res : Unit × Mm} (ha0 : sX0 a0) (ha1 : sX0 a1) (hf : fX0_take N a0 a1 mm = some res) : Met l yX0_take (WS yX0_take cX0_take 3 none) (rmX0_take) (va_Pc [.ref (ad a0), .ref (ad a1)] (WB D ca ad mm)) (QV D ca ad res) 0 0 (AA ad) := by
  refine x_start hi (by decide) rfl (Nat.le_of_ble_eq_true rfl) (fun p e s m args below meth c ls C hW hl => ?_)
  exact wX0_take_0 C ha0 ha1 hW (lv_sub hl [0, 1] rfl) hf
set_option maxRecDepth 100000 in
set_option maxHeartbeats 4000000 in
theorem wX0_suitOf_0 (C : Cx p s m meth c args cX0_suitOf 2 (some (.object "HeavyFiles$Suit")) RX0 D ca ad) {res : Option Nat × Mm} {N : Nat}  {a0 : Nat} {a1 : Int32} {mm : Mm} {H : Heap} {locs : List Loc} {ls : Array Slot} (ha0 : sX0 a0) (hW : Wd D ca ad s.heap mm H locs) (hl : lv_has ls 2 [(0, .ref (ad a0)), (1, .int a1)]) (hf : fX0_suitOf N a0 a1 mm = some res) : W p l e (rmX0_suitOf) s m args below meth c H locs 0 0 (MQ below (QR D ca ad res) args s 0 0 (AA ad)) (F0 m 0 ls []) := by
  unfold fX0_suitOf at hf
  refine lv_iload_n C.1 C.2.1 dX0_suitOf_0 rfl (lv_at hl 1 rfl) ?_
  refine lv_if_lt (tgt := 18) C.1 C.2.1 dX0_suitOf_1 (by decide) (fun c1 => ?_) (fun c1 => ?_)
  · have hf := if_t c1 hf
    refine lv_null C.1 C.2.1 dX0_suitOf_18 ?_
    refine lv_goto (tgt := 28) C.1 C.2.1 dX0_suitOf_19 (by decide) ?_
    cases hf
    exact x_aret C (Or.inl ⟨_, rfl⟩) hW dX0_suitOf_28
  · have hf := if_f c1 hf
    refine lv_iload_n C.1 C.2.1 dX0_suitOf_4 rfl (lv_at hl 1 rfl) ?_
    refine lv_aload_n C.1 C.2.1 dX0_suitOf_5 rfl (lv_at hl 0 rfl) ?_
    refine x_geti C hW (ha0).1 (ha0).2.1 (j := 5) rfl kX0 (by decide) rfl q_68 dX0_suitOf_6 ?_
    refine lv_icmp_ge (tgt := 18) C.1 C.2.1 dX0_suitOf_9 (by decide) (fun c2 => ?_) (fun c2 => ?_)
    · have hf := if_t c2 hf
      refine lv_null C.1 C.2.1 dX0_suitOf_18 ?_
      refine lv_goto (tgt := 28) C.1 C.2.1 dX0_suitOf_19 (by decide) ?_
      cases hf
      exact x_aret C (Or.inl ⟨_, rfl⟩) hW dX0_suitOf_28
    · have hf := if_f c2 hf
      refine lv_iload_n C.1 C.2.1 dX0_suitOf_12 rfl (lv_at hl 1 rfl) ?_
      refine lv_bipush (v := 6) C.1 C.2.1 dX0_suitOf_13 (by decide) ?_
      refine lv_icmp_lt (tgt := 22) C.1 C.2.1 dX0_suitOf_15 (by decide) (fun c3 => ?_) (fun c3 => ?_)
      · have hf := if_t c3 hf
        refine lv_aload_n C.1 C.2.1 dX0_suitOf_22 rfl (lv_at hl 0 rfl) ?_
        refine x_getr C hW (ha0).1 (ha0).2.1 (j := 0) rfl kX0 (by decide) rfl q_57 dX0_suitOf_23 ?_
        refine lv_iload_n C.1 C.2.1 dX0_suitOf_26 rfl (lv_at hl 1 rfl) ?_
        obtain ⟨g4, hf⟩ := gd_s hf
        refine x_aald C hW (ha0.2.2.1).1 (fun _ => rfl) rfl g4 dX0_suitOf_27 ?_
        cases hf
        exact x_aret C (Or.inl ⟨_, rfl⟩) hW dX0_suitOf_28
      · have hf := if_f c3 hf
        refine lv_null C.1 C.2.1 dX0_suitOf_18 ?_
        refine lv_goto (tgt := 28) C.1 C.2.1 dX0_suitOf_19 (by decide) ?_
        cases hf
        exact x_aret C (Or.inl ⟨_, rfl⟩) hW dX0_suitOf_28
set_option maxRecDepth 100000 in
set_option maxHeartbeats 4000000 in
theorem tX0_suitOf (l : Launch) {D : va_G} {ca ad : Nat → Nat} (hi : Inj ad) {N : Nat} {a0 : Nat} {a1 : Int32} {mm : Mm} {res : Option Nat × Mm} (ha0 : sX0 a0) (hf : fX0_suitOf N a0 a1 mm = some res) : Met l yX0_suitOf (WS yX0_suitOf cX0_suitOf 2 (some (.object "HeavyFiles$Suit"))) (rmX0_suitOf) (va_Pc [.ref (ad a0), .int a1] (WB D ca ad mm)) (QR D ca ad res) 0 0 (AA ad) := by
  refine x_start hi (by decide) rfl (Nat.le_of_ble_eq_true rfl) (fun p e s m args below meth c ls C hW hl => ?_)
  exact wX0_suitOf_0 C ha0 hW (lv_sub hl [0, 1] rfl) hf
theorem gX0_suitOf {N a0 : Nat} {a1 : Int32} {mm m1 : Mm} {x : Option Nat} (ha0 : sX0 a0) (hf : fX0_suitOf N a0 a1 mm = some (x, m1)) : ∀ q, x = some q → sX9 q := by
  intro q hq
  subst hq
  unfold fX0_suitOf at hf
  repeat' (split at hf)
  all_goals first
    | (cases hf; done)
    | (obtain ⟨g, hf⟩ := gd_s hf; cases hf; exact ha0.2.2.1.2 _ (inb_lt g))
set_option maxRecDepth 100000 in
set_option maxHeartbeats 4000000 in
theorem wX0_worths_4 (C : Cx p s m meth c args cX0_worths 3 (some .int) RX0 D ca ad) {res : Int32 × Mm} {N : Nat}  : ∀ (n : Nat) {a0 : Nat} {a1 : Int32} {a2 : Int32} {mm : Mm} {H : Heap} {locs : List Loc} {ls : Array Slot}, (sX0 a0) → Wd D ca ad s.heap mm H locs → lv_has ls 3 [(0, .ref (ad a0)), (1, .int a1), (2, .int a2)] → fX0_worths_4 N n a0 a1 a2 mm = some res → W p l e (rmX0_worths) s m args below meth c H locs 0 0 (MQ below (QI D ca ad res) args s 0 0 (AA ad)) (F0 m 4 ls []) := by
  intro n
  induction n with
  | zero => intro a0 a1 a2 mm H locs ls ha0 hW hl hf; cases hf
  | succ n ih =>
    intro a0 a1 a2 mm H locs ls ha0 hW hl hf
    have hk4 : ∀ (a0 : Nat) (a1 : Int32) (a2 : Int32) (mm : Mm) (H : Heap) (locs : List Loc) (ls : Array Slot), (sX0 a0) → Wd D ca ad s.heap mm H locs → lv_has ls 3 [(0, .ref (ad a0)), (1, .int a1), (2, .int a2)] → (fX0_worths_4 N n) a0 a1 a2 mm = some res → W p l e (rmX0_worths) s m args below meth c H locs 0 0 (MQ below (QI D ca ad res) args s 0 0 (AA ad)) (F0 m 4 ls []) := fun a0 a1 a2 mm H locs ls ha0 hW hl hf => ih ha0 hW hl hf
    unfold fX0_worths_4 at hf
    try dsimp only at hf
    refine lv_iload_n C.1 C.2.1 dX0_worths_4 rfl (lv_at hl 2 rfl) ?_
    refine lv_aload_n C.1 C.2.1 dX0_worths_5 rfl (lv_at hl 0 rfl) ?_
    refine x_geti C hW (ha0).1 (ha0).2.1 (j := 5) rfl kX0 (by decide) rfl q_68 dX0_worths_6 ?_
    refine lv_icmp_ge (tgt := 30) C.1 C.2.1 dX0_worths_9 (by decide) (fun c1 => ?_) (fun c1 => ?_)
    · have hf := if_t c1 hf
      refine lv_iload_n C.1 C.2.1 dX0_worths_30 rfl (lv_at hl 1 rfl) ?_
      cases hf
      exact x_iret C hW dX0_worths_31
    · have hf := if_f c1 hf
      refine lv_iload_n C.1 C.2.1 dX0_worths_12 rfl (lv_at hl 1 rfl) ?_
      refine lv_aload_n C.1 C.2.1 dX0_worths_13 rfl (lv_at hl 0 rfl) ?_
      refine x_getr C hW (ha0).1 (ha0).2.1 (j := 0) rfl kX0 (by decide) rfl q_57 dX0_worths_14 ?_
      refine lv_iload_n C.1 C.2.1 dX0_worths_17 rfl (lv_at hl 2 rfl) ?_
      obtain ⟨g2, hf⟩ := gd_s hf
      refine x_aald C hW (ha0.2.2.1).1 (fun _ => rfl) rfl g2 dX0_worths_18 ?_
      refine x_geti C hW ((ha0.2.2.1).2 _ (inb_lt g2)).1 ((ha0.2.2.1).2 _ (inb_lt g2)).2.1 (j := 1) rfl kX9 (by decide) rfl q_45 dX0_worths_19 ?_
      refine lv_iadd C.1 C.2.1 dX0_worths_22 ?_
      refine lv_topi (fun x3 ex3 => ?_)
      have hf := nm_s hf ex3
      refine lv_istore_n (lv' := [(1, .int x3), (0, .ref (ad a0)), (2, .int a2)]) C.1 C.2.1 dX0_worths_23 rfl hl (by decide) rfl (fun ls hl => ?_)
      refine lv_iinc (v := (a2 + 1)) (lv' := [(2, .int (a2 + 1)), (1, .int x3), (0, .ref (ad a0))]) C.1 C.2.1 dX0_worths_24 hl (k := 2) rfl rfl (by decide) rfl (fun ls hl => ?_)
      refine lv_goto (tgt := 4) C.1 C.2.1 dX0_worths_27 (by decide) ?_
      exact hk4 _ _ _ _ _ _ _ ha0 hW (lv_sub hl [2, 1, 0] rfl) hf
set_option maxRecDepth 100000 in
set_option maxHeartbeats 4000000 in
theorem wX0_worths_0 (C : Cx p s m meth c args cX0_worths 3 (some .int) RX0 D ca ad) {res : Int32 × Mm} {N : Nat}  {a0 : Nat} {mm : Mm} {H : Heap} {locs : List Loc} {ls : Array Slot} (ha0 : sX0 a0) (hW : Wd D ca ad s.heap mm H locs) (hl : lv_has ls 3 [(0, .ref (ad a0))]) (hf : fX0_worths N a0 mm = some res) : W p l e (rmX0_worths) s m args below meth c H locs 0 0 (MQ below (QI D ca ad res) args s 0 0 (AA ad)) (F0 m 0 ls []) := by
  unfold fX0_worths at hf
  refine lv_iconst (v := 0) C.1 C.2.1 dX0_worths_0 (by decide) ?_
  refine lv_istore_n (lv' := [(1, .int 0), (0, .ref (ad a0))]) C.1 C.2.1 dX0_worths_1 rfl hl (by decide) rfl (fun ls hl => ?_)
  refine lv_iconst (v := 0) C.1 C.2.1 dX0_worths_2 (by decide) ?_
  refine lv_istore_n (lv' := [(2, .int 0), (1, .int 0), (0, .ref (ad a0))]) C.1 C.2.1 dX0_worths_3 rfl hl (by decide) rfl (fun ls hl => ?_)
  exact wX0_worths_4 C  N ha0 hW (lv_sub hl [2, 1, 0] rfl) hf
set_option maxRecDepth 100000 in
set_option maxHeartbeats 4000000 in
theorem tX0_worths (l : Launch) {D : va_G} {ca ad : Nat → Nat} (hi : Inj ad) {N : Nat} {a0 : Nat} {mm : Mm} {res : Int32 × Mm} (ha0 : sX0 a0) (hf : fX0_worths N a0 mm = some res) : Met l yX0_worths (WS yX0_worths cX0_worths 3 (some .int)) (rmX0_worths) (va_Pc [.ref (ad a0)] (WB D ca ad mm)) (QI D ca ad res) 0 0 (AA ad) := by
  refine x_start hi (by decide) rfl (Nat.le_of_ble_eq_true rfl) (fun p e s m args below meth c ls C hW hl => ?_)
  exact wX0_worths_0 C ha0 hW (lv_sub hl [0] rfl) hf
set_option maxRecDepth 100000 in
set_option maxHeartbeats 4000000 in
theorem wX0_howMany_28 (C : Cx p s m meth c args cX0_howMany 4 (some .int) RX0 D ca ad) {res : Int32 × Mm} {N : Nat} {k4 : Nat → Int32 → Int32 → Int32 → Mm → Option (Int32 × Mm)} (hk4 : ∀ (a0 : Nat) (a1 : Int32) (a2 : Int32) (a3 : Int32) (mm : Mm) (H : Heap) (locs : List Loc) (ls : Array Slot), (sX0 a0) → Wd D ca ad s.heap mm H locs → lv_has ls 4 [(0, .ref (ad a0)), (1, .int a1), (2, .int a2), (3, .int a3)] → k4 a0 a1 a2 a3 mm = some res → W p l e (rmX0_howMany) s m args below meth c H locs 0 0 (MQ below (QI D ca ad res) args s 0 0 (AA ad)) (F0 m 4 ls [])) {a0 : Nat} {a1 : Int32} {a2 : Int32} {a3 : Int32} {mm : Mm} {H : Heap} {locs : List Loc} {ls : Array Slot} (ha0 : sX0 a0) (hW : Wd D ca ad s.heap mm H locs) (hl : lv_has ls 4 [(0, .ref (ad a0)), (1, .int a1), (2, .int a2), (3, .int a3)]) (hf : fX0_howMany_28 N k4 a0 a1 a2 a3 mm = some res) : W p l e (rmX0_howMany) s m args below meth c H locs 0 0 (MQ below (QI D ca ad res) args s 0 0 (AA ad)) (F0 m 28 ls []) := by
  unfold fX0_howMany_28 at hf
  refine lv_iinc (v := (a3 + 1)) (lv' := [(3, .int (a3 + 1)), (0, .ref (ad a0)), (1, .int a1), (2, .int a2)]) C.1 C.2.1 dX0_howMany_28 hl (k := 3) rfl rfl (by decide) rfl (fun ls hl => ?_)
  refine lv_goto (tgt := 4) C.1 C.2.1 dX0_howMany_31 (by decide) ?_
  exact hk4 _ _ _ _ _ _ _ _ ha0 hW (lv_sub hl [1, 2, 3, 0] rfl) hf
set_option maxRecDepth 100000 in
set_option maxHeartbeats 4000000 in
theorem wX0_howMany_4 (C : Cx p s m meth c args cX0_howMany 4 (some .int) RX0 D ca ad) {res : Int32 × Mm} {N : Nat}  : ∀ (n : Nat) {a0 : Nat} {a1 : Int32} {a2 : Int32} {a3 : Int32} {mm : Mm} {H : Heap} {locs : List Loc} {ls : Array Slot}, (sX0 a0) → Wd D ca ad s.heap mm H locs → lv_has ls 4 [(0, .ref (ad a0)), (1, .int a1), (2, .int a2), (3, .int a3)] → fX0_howMany_4 N n a0 a1 a2 a3 mm = some res → W p l e (rmX0_howMany) s m args below meth c H locs 0 0 (MQ below (QI D ca ad res) args s 0 0 (AA ad)) (F0 m 4 ls []) := by
  intro n
  induction n with
  | zero => intro a0 a1 a2 a3 mm H locs ls ha0 hW hl hf; cases hf
  | succ n ih =>
    intro a0 a1 a2 a3 mm H locs ls ha0 hW hl hf
    have hk4 : ∀ (a0 : Nat) (a1 : Int32) (a2 : Int32) (a3 : Int32) (mm : Mm) (H : Heap) (locs : List Loc) (ls : Array Slot), (sX0 a0) → Wd D ca ad s.heap mm H locs → lv_has ls 4 [(0, .ref (ad a0)), (1, .int a1), (2, .int a2), (3, .int a3)] → (fX0_howMany_4 N n) a0 a1 a2 a3 mm = some res → W p l e (rmX0_howMany) s m args below meth c H locs 0 0 (MQ below (QI D ca ad res) args s 0 0 (AA ad)) (F0 m 4 ls []) := fun a0 a1 a2 a3 mm H locs ls ha0 hW hl hf => ih ha0 hW hl hf
    unfold fX0_howMany_4 at hf
    try dsimp only at hf
    refine lv_iload_n C.1 C.2.1 dX0_howMany_4 rfl (lv_at hl 3 rfl) ?_
    refine lv_aload_n C.1 C.2.1 dX0_howMany_5 rfl (lv_at hl 0 rfl) ?_
    refine x_geti C hW (ha0).1 (ha0).2.1 (j := 5) rfl kX0 (by decide) rfl q_68 dX0_howMany_6 ?_
    refine lv_icmp_ge (tgt := 34) C.1 C.2.1 dX0_howMany_9 (by decide) (fun c1 => ?_) (fun c1 => ?_)
    · have hf := if_t c1 hf
      refine lv_iload_n C.1 C.2.1 dX0_howMany_34 rfl (lv_at hl 2 rfl) ?_
      cases hf
      exact x_iret C hW dX0_howMany_35
    · have hf := if_f c1 hf
      refine lv_aload_n C.1 C.2.1 dX0_howMany_12 rfl (lv_at hl 0 rfl) ?_
      refine x_getr C hW (ha0).1 (ha0).2.1 (j := 0) rfl kX0 (by decide) rfl q_57 dX0_howMany_13 ?_
      refine lv_iload_n C.1 C.2.1 dX0_howMany_16 rfl (lv_at hl 3 rfl) ?_
      obtain ⟨g2, hf⟩ := gd_s hf
      refine x_aald C hW (ha0.2.2.1).1 (fun _ => rfl) rfl g2 dX0_howMany_17 ?_
      refine lv_iload_n C.1 C.2.1 dX0_howMany_18 rfl (lv_at hl 1 rfl) ?_
      obtain ⟨x3, m4, r5, hf⟩ := bd2_s hf
      refine x_ci hW (x_runV C hW [.int a1] [] ((ha0.2.2.1).2 _ (inb_lt g2)).1 ((ha0.2.2.1).2 _ (inb_lt g2)).2.1 kX9.1 kvX9_isA q_820 (tX9_isA l C.2.2.2.2.2.2.1 ((ha0.2.2.1).2 _ (inb_lt g2)) r5) rfl rfl ⟨by decide, by decide⟩ rfl hl.1 rfl (Nat.le_of_ble_eq_true rfl) dX0_howMany_19) (fun H locs hW => ?_)
      refine lv_if_eq (tgt := 28) C.1 C.2.1 dX0_howMany_22 (by decide) (fun c6 => ?_) (fun c6 => ?_)
      · have hf := if_t c6 hf
        exact wX0_howMany_28 C hk4 ha0 hW (lv_sub hl [0, 1, 2, 3] rfl) hf
      · have hf := if_f c6 hf
        refine lv_iinc (v := (a2 + 1)) (lv' := [(2, .int (a2 + 1)), (0, .ref (ad a0)), (1, .int a1), (3, .int a3)]) C.1 C.2.1 dX0_howMany_25 hl (k := 2) rfl rfl (by decide) rfl (fun ls hl => ?_)
        exact wX0_howMany_28 C hk4 ha0 hW (lv_sub hl [1, 2, 0, 3] rfl) hf
set_option maxRecDepth 100000 in
set_option maxHeartbeats 4000000 in
theorem wX0_howMany_0 (C : Cx p s m meth c args cX0_howMany 4 (some .int) RX0 D ca ad) {res : Int32 × Mm} {N : Nat}  {a0 : Nat} {a1 : Int32} {mm : Mm} {H : Heap} {locs : List Loc} {ls : Array Slot} (ha0 : sX0 a0) (hW : Wd D ca ad s.heap mm H locs) (hl : lv_has ls 4 [(0, .ref (ad a0)), (1, .int a1)]) (hf : fX0_howMany N a0 a1 mm = some res) : W p l e (rmX0_howMany) s m args below meth c H locs 0 0 (MQ below (QI D ca ad res) args s 0 0 (AA ad)) (F0 m 0 ls []) := by
  unfold fX0_howMany at hf
  refine lv_iconst (v := 0) C.1 C.2.1 dX0_howMany_0 (by decide) ?_
  refine lv_istore_n (lv' := [(2, .int 0), (0, .ref (ad a0)), (1, .int a1)]) C.1 C.2.1 dX0_howMany_1 rfl hl (by decide) rfl (fun ls hl => ?_)
  refine lv_iconst (v := 0) C.1 C.2.1 dX0_howMany_2 (by decide) ?_
  refine lv_istore_n (lv' := [(3, .int 0), (2, .int 0), (0, .ref (ad a0)), (1, .int a1)]) C.1 C.2.1 dX0_howMany_3 rfl hl (by decide) rfl (fun ls hl => ?_)
  exact wX0_howMany_4 C  N ha0 hW (lv_sub hl [2, 3, 1, 0] rfl) hf
set_option maxRecDepth 100000 in
set_option maxHeartbeats 4000000 in
theorem tX0_howMany (l : Launch) {D : va_G} {ca ad : Nat → Nat} (hi : Inj ad) {N : Nat} {a0 : Nat} {a1 : Int32} {mm : Mm} {res : Int32 × Mm} (ha0 : sX0 a0) (hf : fX0_howMany N a0 a1 mm = some res) : Met l yX0_howMany (WS yX0_howMany cX0_howMany 4 (some .int)) (rmX0_howMany) (va_Pc [.ref (ad a0), .int a1] (WB D ca ad mm)) (QI D ca ad res) 0 0 (AA ad) := by
  refine x_start hi (by decide) rfl (Nat.le_of_ble_eq_true rfl) (fun p e s m args below meth c ls C hW hl => ?_)
  exact wX0_howMany_0 C ha0 hW (lv_sub hl [0, 1] rfl) hf
set_option maxRecDepth 100000 in
set_option maxHeartbeats 4000000 in
theorem wX0_stockWith_31 (C : Cx p s m meth c args cX0_stockWith 4 (some .int) RX0 D ca ad) {res : Int32 × Mm} {N : Nat} {k9 : Nat → Int32 → Int32 → Int32 → Mm → Option (Int32 × Mm)} (hk9 : ∀ (a0 : Nat) (a1 : Int32) (a2 : Int32) (a3 : Int32) (mm : Mm) (H : Heap) (locs : List Loc) (ls : Array Slot), (sX0 a0) → Wd D ca ad s.heap mm H locs → lv_has ls 4 [(0, .ref (ad a0)), (1, .int a1), (2, .int a2), (3, .int a3)] → k9 a0 a1 a2 a3 mm = some res → W p l e (rmX0_stockWith) s m args below meth c H locs 0 0 (MQ below (QI D ca ad res) args s 0 0 (AA ad)) (F0 m 9 ls [])) {a0 : Nat} {a1 : Int32} {a2 : Int32} {a3 : Int32} {mm : Mm} {H : Heap} {locs : List Loc} {ls : Array Slot} (ha0 : sX0 a0) (hW : Wd D ca ad s.heap mm H locs) (hl : lv_has ls 4 [(0, .ref (ad a0)), (1, .int a1), (2, .int a2), (3, .int a3)]) (hf : fX0_stockWith_31 N k9 a0 a1 a2 a3 mm = some res) : W p l e (rmX0_stockWith) s m args below meth c H locs 0 0 (MQ below (QI D ca ad res) args s 0 0 (AA ad)) (F0 m 31 ls []) := by
  unfold fX0_stockWith_31 at hf
  refine lv_iinc (v := (a3 + 1)) (lv' := [(3, .int (a3 + 1)), (0, .ref (ad a0)), (1, .int a1), (2, .int a2)]) C.1 C.2.1 dX0_stockWith_31 hl (k := 3) rfl rfl (by decide) rfl (fun ls hl => ?_)
  refine lv_goto (tgt := 9) C.1 C.2.1 dX0_stockWith_34 (by decide) ?_
  exact hk9 _ _ _ _ _ _ _ _ ha0 hW (lv_sub hl [1, 2, 3, 0] rfl) hf
set_option maxRecDepth 100000 in
set_option maxHeartbeats 4000000 in
theorem wX0_stockWith_9 (C : Cx p s m meth c args cX0_stockWith 4 (some .int) RX0 D ca ad) {res : Int32 × Mm} {N : Nat}  : ∀ (n : Nat) {a0 : Nat} {a1 : Int32} {a2 : Int32} {a3 : Int32} {mm : Mm} {H : Heap} {locs : List Loc} {ls : Array Slot}, (sX0 a0) → Wd D ca ad s.heap mm H locs → lv_has ls 4 [(0, .ref (ad a0)), (1, .int a1), (2, .int a2), (3, .int a3)] → fX0_stockWith_9 N n a0 a1 a2 a3 mm = some res → W p l e (rmX0_stockWith) s m args below meth c H locs 0 0 (MQ below (QI D ca ad res) args s 0 0 (AA ad)) (F0 m 9 ls []) := by
  intro n
  induction n with
  | zero => intro a0 a1 a2 a3 mm H locs ls ha0 hW hl hf; cases hf
  | succ n ih =>
    intro a0 a1 a2 a3 mm H locs ls ha0 hW hl hf
    have hk9 : ∀ (a0 : Nat) (a1 : Int32) (a2 : Int32) (a3 : Int32) (mm : Mm) (H : Heap) (locs : List Loc) (ls : Array Slot), (sX0 a0) → Wd D ca ad s.heap mm H locs → lv_has ls 4 [(0, .ref (ad a0)), (1, .int a1), (2, .int a2), (3, .int a3)] → (fX0_stockWith_9 N n) a0 a1 a2 a3 mm = some res → W p l e (rmX0_stockWith) s m args below meth c H locs 0 0 (MQ below (QI D ca ad res) args s 0 0 (AA ad)) (F0 m 9 ls []) := fun a0 a1 a2 a3 mm H locs ls ha0 hW hl hf => ih ha0 hW hl hf
    unfold fX0_stockWith_9 at hf
    try dsimp only at hf
    refine lv_iload_n C.1 C.2.1 dX0_stockWith_9 rfl (lv_at hl 3 rfl) ?_
    refine lv_iconst (v := 4) C.1 C.2.1 dX0_stockWith_10 (by decide) ?_
    refine lv_icmp_ge (tgt := 37) C.1 C.2.1 dX0_stockWith_11 (by decide) (fun c1 => ?_) (fun c1 => ?_)
    · have hf := if_t c1 hf
      refine lv_iload_n C.1 C.2.1 dX0_stockWith_37 rfl (lv_at hl 2 rfl) ?_
      cases hf
      exact x_iret C hW dX0_stockWith_38
    · have hf := if_f c1 hf
      refine lv_iload_n C.1 C.2.1 dX0_stockWith_14 rfl (lv_at hl 1 rfl) ?_
      refine lv_iload_n C.1 C.2.1 dX0_stockWith_15 rfl (lv_at hl 3 rfl) ?_
      refine lv_ishr C.1 C.2.1 dX0_stockWith_16 ?_
      refine lv_iconst (v := 1) C.1 C.2.1 dX0_stockWith_17 (by decide) ?_
      refine lv_iand C.1 C.2.1 dX0_stockWith_18 ?_
      refine lv_if_eq (tgt := 31) C.1 C.2.1 dX0_stockWith_19 (by decide) (fun c2 => ?_) (fun c2 => ?_)
      · have hf := if_t c2 hf
        exact wX0_stockWith_31 C hk9 ha0 hW (lv_sub hl [0, 1, 2, 3] rfl) hf
      · have hf := if_f c2 hf
        refine lv_iload_n C.1 C.2.1 dX0_stockWith_22 rfl (lv_at hl 2 rfl) ?_
        refine lv_aload_n C.1 C.2.1 dX0_stockWith_23 rfl (lv_at hl 0 rfl) ?_
        refine x_getr C hW (ha0).1 (ha0).2.1 (j := 2) rfl kX0 (by decide) rfl q_63 dX0_stockWith_24 ?_
        refine lv_iload_n C.1 C.2.1 dX0_stockWith_27 rfl (lv_at hl 3 rfl) ?_
        obtain ⟨g3, hf⟩ := gd_s hf
        refine x_iald C hW ha0.2.2.2.2.1 g3 dX0_stockWith_28 ?_
        refine lv_iadd C.1 C.2.1 dX0_stockWith_29 ?_
        refine lv_topi (fun x4 ex4 => ?_)
        have hf := nm_s hf ex4
        refine lv_istore_n (lv' := [(2, .int x4), (0, .ref (ad a0)), (1, .int a1), (3, .int a3)]) C.1 C.2.1 dX0_stockWith_30 rfl hl (by decide) rfl (fun ls hl => ?_)
        exact wX0_stockWith_31 C hk9 ha0 hW (lv_sub hl [1, 2, 0, 3] rfl) hf
set_option maxRecDepth 100000 in
set_option maxHeartbeats 4000000 in
theorem wX0_stockWith_0 (C : Cx p s m meth c args cX0_stockWith 4 (some .int) RX0 D ca ad) {res : Int32 × Mm} {N : Nat}  {a0 : Nat} {a1 : Int32} {mm : Mm} {H : Heap} {locs : List Loc} {ls : Array Slot} (ha0 : sX0 a0) (hW : Wd D ca ad s.heap mm H locs) (hl : lv_has ls 4 [(0, .ref (ad a0)), (1, .int a1)]) (hf : fX0_stockWith N a0 a1 mm = some res) : W p l e (rmX0_stockWith) s m args below meth c H locs 0 0 (MQ below (QI D ca ad res) args s 0 0 (AA ad)) (F0 m 0 ls []) := by
  unfold fX0_stockWith at hf
  refine lv_aload_n C.1 C.2.1 dX0_stockWith_0 rfl (lv_at hl 0 rfl) ?_
  refine x_getr C hW (ha0).1 (ha0).2.1 (j := 1) rfl kX0 (by decide) rfl q_58 dX0_stockWith_1 ?_
  refine lv_iconst (v := 0) C.1 C.2.1 dX0_stockWith_4 (by decide) ?_
  obtain ⟨g5, hf⟩ := gd_s hf
  refine x_iald C hW ha0.2.2.2.1 g5 dX0_stockWith_5 ?_
  refine lv_topi (fun x6 ex6 => ?_)
  have hf := nm_s hf ex6
  refine lv_istore_n (lv' := [(2, .int x6), (0, .ref (ad a0)), (1, .int a1)]) C.1 C.2.1 dX0_stockWith_6 rfl hl (by decide) rfl (fun ls hl => ?_)
  refine lv_iconst (v := 0) C.1 C.2.1 dX0_stockWith_7 (by decide) ?_
  refine lv_istore_n (lv' := [(3, .int 0), (2, .int x6), (0, .ref (ad a0)), (1, .int a1)]) C.1 C.2.1 dX0_stockWith_8 rfl hl (by decide) rfl (fun ls hl => ?_)
  exact wX0_stockWith_9 C  N ha0 hW (lv_sub hl [2, 3, 1, 0] rfl) hf
set_option maxRecDepth 100000 in
set_option maxHeartbeats 4000000 in
theorem tX0_stockWith (l : Launch) {D : va_G} {ca ad : Nat → Nat} (hi : Inj ad) {N : Nat} {a0 : Nat} {a1 : Int32} {mm : Mm} {res : Int32 × Mm} (ha0 : sX0 a0) (hf : fX0_stockWith N a0 a1 mm = some res) : Met l yX0_stockWith (WS yX0_stockWith cX0_stockWith 4 (some .int)) (rmX0_stockWith) (va_Pc [.ref (ad a0), .int a1] (WB D ca ad mm)) (QI D ca ad res) 0 0 (AA ad) := by
  refine x_start hi (by decide) rfl (Nat.le_of_ble_eq_true rfl) (fun p e s m args below meth c ls C hW hl => ?_)
  exact wX0_stockWith_0 C ha0 hW (lv_sub hl [0, 1] rfl) hf
set_option maxRecDepth 100000 in
set_option maxHeartbeats 4000000 in
theorem wX0_allows_0 (C : Cx p s m meth c args cX0_allows 3 (some .boolean) RX0 D ca ad) {res : Int32 × Mm} {N : Nat}  {a0 : Nat} {a1 : Nat} {a2 : Int32} {mm : Mm} {H : Heap} {locs : List Loc} {ls : Array Slot} (ha0 : sX0 a0) (ha1 : sX6 a1) (hW : Wd D ca ad s.heap mm H locs) (hl : lv_has ls 3 [(0, .ref (ad a0)), (1, .ref (ad a1)), (2, .int a2)]) (hf : fX0_allows N a0 a1 a2 mm = some res) : W p l e (rmX0_allows) s m args below meth c H locs 0 0 (MQ below (QI D ca ad res) args s 0 0 (AA ad)) (F0 m 0 ls []) := by
  unfold fX0_allows at hf
  refine lv_aload_n C.1 C.2.1 dX0_allows_0 rfl (lv_at hl 1 rfl) ?_
  refine lv_bipush (v := 40) C.1 C.2.1 dX0_allows_1 (by decide) ?_
  obtain ⟨x1, m2, r3, hf⟩ := bd2_s hf
  refine x_ci hW (x_runV C hW [.int 40] [] (ha1).1 (ha1).2.1 kX6.1 kvX6_isWithin q_404 (tX6_isWithin l C.2.2.2.2.2.2.1 ha1 r3) rfl rfl ⟨by decide, by decide⟩ rfl hl.1 rfl (Nat.le_of_ble_eq_true rfl) dX0_allows_3) (fun H locs hW => ?_)
  refine lv_if_eq (tgt := 28) C.1 C.2.1 dX0_allows_6 (by decide) (fun c4 => ?_) (fun c4 => ?_)
  · have hf := if_t c4 hf
    refine lv_iconst (v := 0) C.1 C.2.1 dX0_allows_28 (by decide) ?_
    cases hf
    exact x_zret C hW (by decide) dX0_allows_29
  · have hf := if_f c4 hf
    refine lv_aload_n C.1 C.2.1 dX0_allows_9 rfl (lv_at hl 1 rfl) ?_
    obtain ⟨x5, m6, r7, hf⟩ := bd2_s hf
    refine x_cl hW (x_runV C hW [] [] (ha1).1 (ha1).2.1 kX6.1 kvX6_total q_408 (tX6_total l C.2.2.2.2.2.2.1 ha1 r7) rfl rfl ⟨by decide, by decide⟩ rfl hl.1 rfl (Nat.le_of_ble_eq_true rfl) dX0_allows_10) (fun H locs hW => ?_)
    refine lv_aload_n C.1 C.2.1 dX0_allows_13 rfl (lv_at hl 0 rfl) ?_
    refine x_getr C hW (ha0).1 (ha0).2.1 (j := 1) rfl kX0 (by decide) rfl q_58 dX0_allows_14 ?_
    refine lv_iload_n C.1 C.2.1 dX0_allows_17 rfl (lv_at hl 2 rfl) ?_
    obtain ⟨g8, hf⟩ := gd_s hf
    refine x_iald C hW ha0.2.2.2.1 g8 dX0_allows_18 ?_
    refine lv_i2l C.1 C.2.1 dX0_allows_19 rfl ?_
    refine W.lcmp C.1 C.2.1 dX0_allows_20 ?_
    refine lv_if_gt (tgt := 28) C.1 C.2.1 dX0_allows_21 (by decide) (fun c9 => ?_) (fun c9 => ?_)
    · have hf := if_t c9 hf
      refine lv_iconst (v := 0) C.1 C.2.1 dX0_allows_28 (by decide) ?_
      cases hf
      exact x_zret C hW (by decide) dX0_allows_29
    · have hf := if_f c9 hf
      refine lv_iconst (v := 1) C.1 C.2.1 dX0_allows_24 (by decide) ?_
      refine lv_goto (tgt := 29) C.1 C.2.1 dX0_allows_25 (by decide) ?_
      cases hf
      exact x_zret C hW (by decide) dX0_allows_29
set_option maxRecDepth 100000 in
set_option maxHeartbeats 4000000 in
theorem tX0_allows (l : Launch) {D : va_G} {ca ad : Nat → Nat} (hi : Inj ad) {N : Nat} {a0 : Nat} {a1 : Nat} {a2 : Int32} {mm : Mm} {res : Int32 × Mm} (ha0 : sX0 a0) (ha1 : sX6 a1) (hf : fX0_allows N a0 a1 a2 mm = some res) : Met l yX0_allows (WS yX0_allows cX0_allows 3 (some .boolean)) (rmX0_allows) (va_Pc [.ref (ad a0), .ref (ad a1), .int a2] (WB D ca ad mm)) (QI D ca ad res) 0 0 (AA ad) := by
  refine x_start hi (by decide) rfl (Nat.le_of_ble_eq_true rfl) (fun p e s m args below meth c ls C hW hl => ?_)
  exact wX0_allows_0 C ha0 ha1 hW (lv_sub hl [0, 1, 2] rfl) hf
set_option maxRecDepth 100000 in
set_option maxHeartbeats 4000000 in
theorem wX0_need_74 (C : Cx p s m meth c args cX0_need 10 (some .int) RX0 D ca ad) {res : Int32 × Mm} {N : Nat}  {s0 : Nat} {s1 : Int32} {s2 : Int32} {s3 : Int32} {s4 : Nat} {s5 : Int32} {s6 : Int32} {mm : Mm} {H : Heap} {locs : List Loc} {ls : Array Slot} (hs0 : sX9 s0) (hs4 : sX9 s4) (hW : Wd D ca ad s.heap mm H locs) (hl : lv_has ls 10 []) (hf : fX0_need_74 N s0 s1 s2 s3 s4 s5 s6 mm = some res) : W p l e (rmX0_need) s m args below meth c H locs 0 0 (MQ below (QI D ca ad res) args s 0 0 (AA ad)) (F0 m 74 ls [.int s6, .int s5, .ref (ad s4), .int s3, .int s2, .int s1, .ref (ad s0)]) := by
  unfold fX0_need_74 at hf
  obtain ⟨x1, m2, r3, hf⟩ := bd2_s hf
  refine x_ci hW (x_runV C hW [.int s5, .int s6] [.int s3, .int s2, .int s1, .ref (ad s0)] (hs4).1 (hs4).2.1 kX9.1 kvX9_extra q_503 (tX9_extra l C.2.2.2.2.2.2.1 hs4 r3) rfl rfl ⟨by decide, by decide⟩ rfl hl.1 rfl (Nat.le_of_ble_eq_true rfl) dX0_need_74) (fun H locs hW => ?_)
  obtain ⟨x4, m5, r6, hf⟩ := bd2_s hf
  refine x_ci hW (x_runV C hW [.int s1, .int s2, .int s3, .int x1] [] (hs0).1 (hs0).2.1 kX9.1 kvX9_need q_505 (tX9_need l C.2.2.2.2.2.2.1 hs0 r6) rfl rfl ⟨by decide, by decide⟩ rfl hl.1 rfl (Nat.le_of_ble_eq_true rfl) dX0_need_77) (fun H locs hW => ?_)
  cases hf
  exact x_iret C hW dX0_need_80
set_option maxRecDepth 100000 in
set_option maxHeartbeats 4000000 in
theorem wX0_need_45 (C : Cx p s m meth c args cX0_need 10 (some .int) RX0 D ca ad) {res : Int32 × Mm} {N : Nat}  {a2 : Int32} {a3 : Int32} {a5 : Int32} {a7 : Nat} {a8 : Int32} {s0 : Nat} {s1 : Int32} {s2 : Nat} {s3 : Int32} {s4 : Int32} {mm : Mm} {H : Heap} {locs : List Loc} {ls : Array Slot} (ha7 : sX9 a7) (hs0 : sX9 s0) (hs2 : sX9 s2) (hW : Wd D ca ad s.heap mm H locs) (hl : lv_has ls 10 [(2, .int a2), (3, .int a3), (5, .int a5), (7, .ref (ad a7)), (8, .int a8)]) (hf : fX0_need_45 N a2 a3 a5 a7 a8 s0 s1 s2 s3 s4 mm = some res) : W p l e (rmX0_need) s m args below meth c H locs 0 0 (MQ below (QI D ca ad res) args s 0 0 (AA ad)) (F0 m 45 ls [.int s4, .int s3, .ref (ad s2), .int s1, .ref (ad s0)]) := by
  unfold fX0_need_45 at hf
  obtain ⟨x7, m8, r9, hf⟩ := bd2_s hf
  refine x_ci hW (x_runV C hW [.int s3, .int s4] [.int s1, .ref (ad s0)] (hs2).1 (hs2).2.1 kX9.1 kvX9_extra q_503 (tX9_extra l C.2.2.2.2.2.2.1 hs2 r9) rfl rfl ⟨by decide, by decide⟩ rfl hl.1 rfl (Nat.le_of_ble_eq_true rfl) dX0_need_45) (fun H locs hW => ?_)
  obtain ⟨x10, m11, r12, hf⟩ := bd2_s hf
  refine x_ci hW (x_runV C hW [.int s1, .int x7] [] (hs0).1 (hs0).2.1 kX9.1 kvX9_weight q_504 (tX9_weight l C.2.2.2.2.2.2.1 hs0 r12) rfl rfl ⟨by decide, by decide⟩ rfl hl.1 rfl (Nat.le_of_ble_eq_true rfl) dX0_need_48) (fun H locs hW => ?_)
  refine lv_istore (lv' := [(9, .int x10), (2, .int a2), (3, .int a3), (5, .int a5), (7, .ref (ad a7)), (8, .int a8)]) C.1 C.2.1 dX0_need_51 hl (by decide) rfl (fun ls hl => ?_)
  refine lv_aload C.1 C.2.1 dX0_need_53 (lv_at hl 4 rfl) ?_
  refine lv_iload_n C.1 C.2.1 dX0_need_55 rfl (lv_at hl 1 rfl) ?_
  refine lv_iload_n C.1 C.2.1 dX0_need_56 rfl (lv_at hl 2 rfl) ?_
  refine lv_iload C.1 C.2.1 dX0_need_57 (lv_at hl 0 rfl) ?_
  refine lv_aload C.1 C.2.1 dX0_need_59 (lv_at hl 4 rfl) ?_
  refine lv_iload C.1 C.2.1 dX0_need_61 (lv_at hl 3 rfl) ?_
  refine lv_iload C.1 C.2.1 dX0_need_63 (lv_at hl 5 rfl) ?_
  refine lv_iload_n C.1 C.2.1 dX0_need_65 rfl (lv_at hl 1 rfl) ?_
  refine lv_icmp_ne (tgt := 73) C.1 C.2.1 dX0_need_66 (by decide) (fun c13 => ?_) (fun c13 => ?_)
  · have hf := if_f c13 hf
    refine lv_iconst (v := 0) C.1 C.2.1 dX0_need_73 (by decide) ?_
    exact wX0_need_74 C  ha7 ha7 hW (lv_sub hl [] rfl) hf
  · have hf := if_t c13 hf
    refine lv_iconst (v := 1) C.1 C.2.1 dX0_need_69 (by decide) ?_
    refine lv_goto (tgt := 74) C.1 C.2.1 dX0_need_70 (by decide) ?_
    exact wX0_need_74 C  ha7 ha7 hW (lv_sub hl [] rfl) hf
set_option maxRecDepth 100000 in
set_option maxHeartbeats 4000000 in
theorem wX0_need_0 (C : Cx p s m meth c args cX0_need 10 (some .int) RX0 D ca ad) {res : Int32 × Mm} {N : Nat}  {a0 : Nat} {a1 : Int32} {a2 : Int32} {a3 : Int32} {a4 : Int32} {a5 : Int32} {a6 : Nat} {mm : Mm} {H : Heap} {locs : List Loc} {ls : Array Slot} (ha0 : sX0 a0) (ha6 : sI a6) (hW : Wd D ca ad s.heap mm H locs) (hl : lv_has ls 10 [(0, .ref (ad a0)), (1, .int a1), (2, .int a2), (3, .int a3), (4, .int a4), (5, .int a5), (6, .ref (ad a6))]) (hf : fX0_need N a0 a1 a2 a3 a4 a5 a6 mm = some res) : W p l e (rmX0_need) s m args below meth c H locs 0 0 (MQ below (QI D ca ad res) args s 0 0 (AA ad)) (F0 m 0 ls []) := by
  unfold fX0_need at hf
  refine lv_aload_n C.1 C.2.1 dX0_need_0 rfl (lv_at hl 0 rfl) ?_
  refine lv_iload_n C.1 C.2.1 dX0_need_1 rfl (lv_at hl 1 rfl) ?_
  obtain ⟨x14, m15, r16, hf⟩ := bd2_s hf
  refine x_cr hW (x_runV C hW [.int a1] [] (ha0).1 (ha0).2.1 kX0.1 kvX0_suitOf q_501 (tX0_suitOf l C.2.2.2.2.2.2.1 ha0 r16) rfl rfl ⟨by decide, by decide⟩ rfl hl.1 rfl (Nat.le_of_ble_eq_true rfl) dX0_need_2) (fun H locs hW => ?_)
  refine x_astore (lv' := [(7, va_re ad x14), (0, .ref (ad a0)), (1, .int a1), (2, .int a2), (3, .int a3), (4, .int a4), (5, .int a5), (6, .ref (ad a6))]) C dX0_need_5 hl (by decide) rfl (fun ls hl => ?_)
  refine x_aload C dX0_need_7 (lv_at hl 0 rfl) ?_
  refine x_ifnonnull C (tgt := 15) dX0_need_9 (by decide) (fun n18 => ?_) (fun z17 n18 => ?_)
  · subst n18
    have hf := cs_n hf
    refine lv_bipush (v := (-9)) C.1 C.2.1 dX0_need_12 (by decide) ?_
    cases hf
    exact x_iret C hW dX0_need_14
  · subst n18
    have hf := cs_q hf
    refine lv_aload C.1 C.2.1 dX0_need_15 (lv_at hl 0 rfl) ?_
    refine lv_aload C.1 C.2.1 dX0_need_17 (lv_at hl 7 rfl) ?_
    obtain ⟨x19, m20, r21, hf⟩ := bd2_s hf
    refine x_ci hW (x_runV C hW [.ref (ad a6)] [] (((gX0_suitOf ha0 r16) z17 rfl)).1 (((gX0_suitOf ha0 r16) z17 rfl)).2.1 kX9.1 kvX9_aheadIn q_502 (tX9_aheadIn l C.2.2.2.2.2.2.1 ((gX0_suitOf ha0 r16) z17 rfl) ha6 r21) rfl rfl ⟨by decide, by decide⟩ rfl hl.1 rfl (Nat.le_of_ble_eq_true rfl) dX0_need_19) (fun H locs hW => ?_)
    refine lv_istore (lv' := [(8, .int x19), (7, .ref (ad z17)), (0, .ref (ad a0)), (1, .int a1), (2, .int a2), (3, .int a3), (4, .int a4), (5, .int a5), (6, .ref (ad a6))]) C.1 C.2.1 dX0_need_22 hl (by decide) rfl (fun ls hl => ?_)
    refine lv_aload C.1 C.2.1 dX0_need_24 (lv_at hl 1 rfl) ?_
    refine lv_iload C.1 C.2.1 dX0_need_26 (lv_at hl 6 rfl) ?_
    refine lv_aload C.1 C.2.1 dX0_need_28 (lv_at hl 1 rfl) ?_
    refine lv_iload C.1 C.2.1 dX0_need_30 (lv_at hl 7 rfl) ?_
    refine lv_iload C.1 C.2.1 dX0_need_32 (lv_at hl 0 rfl) ?_
    refine lv_iconst (v := 1) C.1 C.2.1 dX0_need_34 (by decide) ?_
    refine lv_iload_n C.1 C.2.1 dX0_need_35 rfl (lv_at hl 4 rfl) ?_
    refine lv_isub C.1 C.2.1 dX0_need_36 ?_
    refine lv_icmp_ne (tgt := 44) C.1 C.2.1 dX0_need_37 (by decide) (fun c22 => ?_) (fun c22 => ?_)
    · have hf := if_f c22 hf
      refine lv_iconst (v := 0) C.1 C.2.1 dX0_need_44 (by decide) ?_
      exact wX0_need_45 C  ((gX0_suitOf ha0 r16) z17 rfl) ((gX0_suitOf ha0 r16) z17 rfl) ((gX0_suitOf ha0 r16) z17 rfl) hW (lv_sub hl [4, 5, 7, 1, 0] rfl) hf
    · have hf := if_t c22 hf
      refine lv_iconst (v := 1) C.1 C.2.1 dX0_need_40 (by decide) ?_
      refine lv_goto (tgt := 45) C.1 C.2.1 dX0_need_41 (by decide) ?_
      exact wX0_need_45 C  ((gX0_suitOf ha0 r16) z17 rfl) ((gX0_suitOf ha0 r16) z17 rfl) ((gX0_suitOf ha0 r16) z17 rfl) hW (lv_sub hl [4, 5, 7, 1, 0] rfl) hf
set_option maxRecDepth 100000 in
set_option maxHeartbeats 4000000 in
theorem tX0_need (l : Launch) {D : va_G} {ca ad : Nat → Nat} (hi : Inj ad) {N : Nat} {a0 : Nat} {a1 : Int32} {a2 : Int32} {a3 : Int32} {a4 : Int32} {a5 : Int32} {a6 : Nat} {mm : Mm} {res : Int32 × Mm} (ha0 : sX0 a0) (ha6 : sI a6) (hf : fX0_need N a0 a1 a2 a3 a4 a5 a6 mm = some res) : Met l yX0_need (WS yX0_need cX0_need 10 (some .int)) (rmX0_need) (va_Pc [.ref (ad a0), .int a1, .int a2, .int a3, .int a4, .int a5, .ref (ad a6)] (WB D ca ad mm)) (QI D ca ad res) 0 0 (AA ad) := by
  refine x_start hi (by decide) rfl (Nat.le_of_ble_eq_true rfl) (fun p e s m args below meth c ls C hW hl => ?_)
  exact wX0_need_0 C ha0 ha6 hW (lv_sub hl [0, 1, 2, 3, 4, 5, 6] rfl) hf
set_option maxRecDepth 100000 in
set_option maxHeartbeats 4000000 in
theorem wX0_write_0 (C : Cx p s m meth c args cX0_write 3 none RX0 D ca ad) {res : Unit × Mm} {N : Nat}  {a0 : Nat} {a1 : Nat} {a2 : Int32} {mm : Mm} {H : Heap} {locs : List Loc} {ls : Array Slot} (ha0 : sX0 a0) (ha1 : sI a1) (hW : Wd D ca ad s.heap mm H locs) (hl : lv_has ls 3 [(0, .ref (ad a0)), (1, .ref (ad a1)), (2, .int a2)]) (hf : fX0_write N a0 a1 a2 mm = some res) : W p l e (rmX0_write) s m args below meth c H locs 0 0 (MQ below (QV D ca ad res) args s 0 0 (AA ad)) (F0 m 0 ls []) := by
  unfold fX0_write at hf
  refine lv_aload_n C.1 C.2.1 dX0_write_0 rfl (lv_at hl 0 rfl) ?_
  refine x_geti C hW (ha0).1 (ha0).2.1 (j := 7) rfl kX0 (by decide) rfl q_78 dX0_write_1 ?_
  refine lv_bipush (v := 8) C.1 C.2.1 dX0_write_4 (by decide) ?_
  refine lv_icmp_lt (tgt := 10) C.1 C.2.1 dX0_write_6 (by decide) (fun c1 => ?_) (fun c1 => ?_)
  · have hf := if_t c1 hf
    refine lv_aload_n C.1 C.2.1 dX0_write_10 rfl (lv_at hl 1 rfl) ?_
    refine lv_iconst (v := 0) C.1 C.2.1 dX0_write_11 (by decide) ?_
    refine lv_aload_n C.1 C.2.1 dX0_write_12 rfl (lv_at hl 0 rfl) ?_
    refine x_getr C hW (ha0).1 (ha0).2.1 (j := 3) rfl kX0 (by decide) rfl q_65 dX0_write_13 ?_
    refine lv_aload_n C.1 C.2.1 dX0_write_16 rfl (lv_at hl 0 rfl) ?_
    refine x_geti C hW (ha0).1 (ha0).2.1 (j := 7) rfl kX0 (by decide) rfl q_78 dX0_write_17 ?_
    obtain ⟨g2, hf⟩ := gd_s hf
    refine x_aald C hW (ha0.2.2.2.2.2.1).1 (fun _ => rfl) rfl g2 dX0_write_20 ?_
    refine lv_iconst (v := 0) C.1 C.2.1 dX0_write_21 (by decide) ?_
    refine lv_aload_n C.1 C.2.1 dX0_write_22 rfl (lv_at hl 1 rfl) ?_
    refine x_alen C hW ha1 dX0_write_23 ?_
    refine lv_bipush (v := 6) C.1 C.2.1 dX0_write_24 (by decide) ?_
    refine va_mmin C.1 C.2.1 (C.2.2.1.trans hl.1.symm) C.2.2.2.1 (C.2.2.2.2.1 _ q_723) (C.2.2.2.2.1 _ q_421) (C.2.2.2.2.1 _ q_15) (C.2.2.2.2.1 _ q_422) (by decide) (Nat.le_of_ble_eq_true rfl) (Nat.zero_le _) (Nat.zero_le _) dX0_write_26 ?_
    refine lv_topi (fun x3 ex3 => ?_)
    have hf := nm_s hf ex3
    obtain ⟨g4, hf⟩ := gd_s hf
    refine x_copy C hW ha1 ((ha0.2.2.2.2.2.1).2 _ (inb_lt g2)) g4 hl.1 q_724 q_496 q_495 q_14 (by decide) (Nat.le_of_ble_eq_true rfl) dX0_write_29 (fun H locs hW => ?_)
    obtain ⟨m5, em5⟩ : ∃ z, z = cpy mm a1 (el (fr a0 3) (rd mm a0 7).toNatClampNeg) 0 0 x3 := ⟨_, rfl⟩
    have hf := nm_s hf em5
    rw [← em5] at hW
    refine lv_aload_n C.1 C.2.1 dX0_write_32 rfl (lv_at hl 0 rfl) ?_
    refine x_getr C hW (ha0).1 (ha0).2.1 (j := 4) rfl kX0 (by decide) rfl q_66 dX0_write_33 ?_
    refine lv_aload_n C.1 C.2.1 dX0_write_36 rfl (lv_at hl 0 rfl) ?_
    refine x_geti C hW (ha0).1 (ha0).2.1 (j := 7) rfl kX0 (by decide) rfl q_78 dX0_write_37 ?_
    refine lv_iload_n C.1 C.2.1 dX0_write_40 rfl (lv_at hl 2 rfl) ?_
    obtain ⟨g6, hf⟩ := gd_s hf
    refine x_iast C hW ha0.2.2.2.2.2.2 g6 dX0_write_41 (fun H locs hW => ?_)
    obtain ⟨m7, em7⟩ : ∃ z, z = wr m5 (fr a0 4) (rd m5 a0 7).toNatClampNeg a2 := ⟨_, rfl⟩
    have hf := nm_s hf em7
    rw [← em7] at hW
    refine lv_aload_n C.1 C.2.1 dX0_write_42 rfl (lv_at hl 0 rfl) ?_
    refine lv_dup C.1 C.2.1 dX0_write_43 rfl ?_
    refine x_geti C hW (ha0).1 (ha0).2.1 (j := 7) rfl kX0 (by decide) rfl q_78 dX0_write_44 ?_
    refine lv_iconst (v := 1) C.1 C.2.1 dX0_write_47 (by decide) ?_
    refine lv_iadd C.1 C.2.1 dX0_write_48 ?_
    refine x_put C hW (ha0).1 (ha0).2.1 (j := 7) (t1 := .int) rfl kX0 (by decide) rfl rfl q_78 (by decide +kernel) rfl rfl dX0_write_49 (fun H locs hW => ?_)
    obtain ⟨m8, em8⟩ : ∃ z, z = wr m7 a0 7 ((rd m7 a0 7) + 1) := ⟨_, rfl⟩
    have hf := nm_s hf em8
    rw [← em8] at hW
    cases hf
    exact x_vret C hW dX0_write_52
  · have hf := if_f c1 hf
    cases hf
    exact x_vret C hW dX0_write_9
set_option maxRecDepth 100000 in
set_option maxHeartbeats 4000000 in
theorem tX0_write (l : Launch) {D : va_G} {ca ad : Nat → Nat} (hi : Inj ad) {N : Nat} {a0 : Nat} {a1 : Nat} {a2 : Int32} {mm : Mm} {res : Unit × Mm} (ha0 : sX0 a0) (ha1 : sI a1) (hf : fX0_write N a0 a1 a2 mm = some res) : Met l yX0_write (WS yX0_write cX0_write 3 none) (rmX0_write) (va_Pc [.ref (ad a0), .ref (ad a1), .int a2] (WB D ca ad mm)) (QV D ca ad res) 0 0 (AA ad) := by
  refine x_start hi (by decide) rfl (Nat.le_of_ble_eq_true rfl) (fun p e s m args below meth c ls C hW hl => ?_)
  exact wX0_write_0 C ha0 ha1 hW (lv_sub hl [0, 1, 2] rfl) hf
set_option maxRecDepth 100000 in
set_option maxHeartbeats 4000000 in
theorem wX0_wonAt_0 (C : Cx p s m meth c args cX0_wonAt 2 (some .int) RX0 D ca ad) {res : Int32 × Mm} {N : Nat}  {a0 : Nat} {a1 : Int32} {mm : Mm} {H : Heap} {locs : List Loc} {ls : Array Slot} (ha0 : sX0 a0) (hW : Wd D ca ad s.heap mm H locs) (hl : lv_has ls 2 [(0, .ref (ad a0)), (1, .int a1)]) (hf : fX0_wonAt N a0 a1 mm = some res) : W p l e (rmX0_wonAt) s m args below meth c H locs 0 0 (MQ below (QI D ca ad res) args s 0 0 (AA ad)) (F0 m 0 ls []) := by
  unfold fX0_wonAt at hf
  refine lv_iload_n C.1 C.2.1 dX0_wonAt_0 rfl (lv_at hl 1 rfl) ?_
  refine lv_if_lt (tgt := 12) C.1 C.2.1 dX0_wonAt_1 (by decide) (fun c1 => ?_) (fun c1 => ?_)
  · have hf := if_t c1 hf
    refine lv_iconst (v := 0) C.1 C.2.1 dX0_wonAt_12 (by decide) ?_
    refine lv_goto (tgt := 22) C.1 C.2.1 dX0_wonAt_13 (by decide) ?_
    cases hf
    exact x_iret C hW dX0_wonAt_22
  · have hf := if_f c1 hf
    refine lv_iload_n C.1 C.2.1 dX0_wonAt_4 rfl (lv_at hl 1 rfl) ?_
    refine lv_aload_n C.1 C.2.1 dX0_wonAt_5 rfl (lv_at hl 0 rfl) ?_
    refine x_geti C hW (ha0).1 (ha0).2.1 (j := 7) rfl kX0 (by decide) rfl q_78 dX0_wonAt_6 ?_
    refine lv_icmp_lt (tgt := 16) C.1 C.2.1 dX0_wonAt_9 (by decide) (fun c2 => ?_) (fun c2 => ?_)
    · have hf := if_t c2 hf
      refine lv_aload_n C.1 C.2.1 dX0_wonAt_16 rfl (lv_at hl 0 rfl) ?_
      refine x_getr C hW (ha0).1 (ha0).2.1 (j := 4) rfl kX0 (by decide) rfl q_66 dX0_wonAt_17 ?_
      refine lv_iload_n C.1 C.2.1 dX0_wonAt_20 rfl (lv_at hl 1 rfl) ?_
      obtain ⟨g3, hf⟩ := gd_s hf
      refine x_iald C hW ha0.2.2.2.2.2.2 g3 dX0_wonAt_21 ?_
      cases hf
      exact x_iret C hW dX0_wonAt_22
    · have hf := if_f c2 hf
      refine lv_iconst (v := 0) C.1 C.2.1 dX0_wonAt_12 (by decide) ?_
      refine lv_goto (tgt := 22) C.1 C.2.1 dX0_wonAt_13 (by decide) ?_
      cases hf
      exact x_iret C hW dX0_wonAt_22
set_option maxRecDepth 100000 in
set_option maxHeartbeats 4000000 in
theorem tX0_wonAt (l : Launch) {D : va_G} {ca ad : Nat → Nat} (hi : Inj ad) {N : Nat} {a0 : Nat} {a1 : Int32} {mm : Mm} {res : Int32 × Mm} (ha0 : sX0 a0) (hf : fX0_wonAt N a0 a1 mm = some res) : Met l yX0_wonAt (WS yX0_wonAt cX0_wonAt 2 (some .int)) (rmX0_wonAt) (va_Pc [.ref (ad a0), .int a1] (WB D ca ad mm)) (QI D ca ad res) 0 0 (AA ad) := by
  refine x_start hi (by decide) rfl (Nat.le_of_ble_eq_true rfl) (fun p e s m args below meth c ls C hW hl => ?_)
  exact wX0_wonAt_0 C ha0 hW (lv_sub hl [0, 1] rfl) hf
set_option maxRecDepth 100000 in
set_option maxHeartbeats 4000000 in
theorem wX0_laidAt_0 (C : Cx p s m meth c args cX0_laidAt 2 (some (.array .int)) RX0 D ca ad) {res : Option Nat × Mm} {N : Nat}  {a0 : Nat} {a1 : Int32} {mm : Mm} {H : Heap} {locs : List Loc} {ls : Array Slot} (ha0 : sX0 a0) (hW : Wd D ca ad s.heap mm H locs) (hl : lv_has ls 2 [(0, .ref (ad a0)), (1, .int a1)]) (hf : fX0_laidAt N a0 a1 mm = some res) : W p l e (rmX0_laidAt) s m args below meth c H locs 0 0 (MQ below (QR D ca ad res) args s 0 0 (AA ad)) (F0 m 0 ls []) := by
  unfold fX0_laidAt at hf
  refine lv_iload_n C.1 C.2.1 dX0_laidAt_0 rfl (lv_at hl 1 rfl) ?_
  refine lv_if_lt (tgt := 12) C.1 C.2.1 dX0_laidAt_1 (by decide) (fun c1 => ?_) (fun c1 => ?_)
  · have hf := if_t c1 hf
    refine lv_null C.1 C.2.1 dX0_laidAt_12 ?_
    refine lv_goto (tgt := 22) C.1 C.2.1 dX0_laidAt_13 (by decide) ?_
    cases hf
    exact x_aret C (Or.inr ⟨_, rfl⟩) hW dX0_laidAt_22
  · have hf := if_f c1 hf
    refine lv_iload_n C.1 C.2.1 dX0_laidAt_4 rfl (lv_at hl 1 rfl) ?_
    refine lv_aload_n C.1 C.2.1 dX0_laidAt_5 rfl (lv_at hl 0 rfl) ?_
    refine x_geti C hW (ha0).1 (ha0).2.1 (j := 7) rfl kX0 (by decide) rfl q_78 dX0_laidAt_6 ?_
    refine lv_icmp_lt (tgt := 16) C.1 C.2.1 dX0_laidAt_9 (by decide) (fun c2 => ?_) (fun c2 => ?_)
    · have hf := if_t c2 hf
      refine lv_aload_n C.1 C.2.1 dX0_laidAt_16 rfl (lv_at hl 0 rfl) ?_
      refine x_getr C hW (ha0).1 (ha0).2.1 (j := 3) rfl kX0 (by decide) rfl q_65 dX0_laidAt_17 ?_
      refine lv_iload_n C.1 C.2.1 dX0_laidAt_20 rfl (lv_at hl 1 rfl) ?_
      obtain ⟨g3, hf⟩ := gd_s hf
      refine x_aald C hW (ha0.2.2.2.2.2.1).1 (fun _ => rfl) rfl g3 dX0_laidAt_21 ?_
      cases hf
      exact x_aret C (Or.inr ⟨_, rfl⟩) hW dX0_laidAt_22
    · have hf := if_f c2 hf
      refine lv_null C.1 C.2.1 dX0_laidAt_12 ?_
      refine lv_goto (tgt := 22) C.1 C.2.1 dX0_laidAt_13 (by decide) ?_
      cases hf
      exact x_aret C (Or.inr ⟨_, rfl⟩) hW dX0_laidAt_22
set_option maxRecDepth 100000 in
set_option maxHeartbeats 4000000 in
theorem tX0_laidAt (l : Launch) {D : va_G} {ca ad : Nat → Nat} (hi : Inj ad) {N : Nat} {a0 : Nat} {a1 : Int32} {mm : Mm} {res : Option Nat × Mm} (ha0 : sX0 a0) (hf : fX0_laidAt N a0 a1 mm = some res) : Met l yX0_laidAt (WS yX0_laidAt cX0_laidAt 2 (some (.array .int))) (rmX0_laidAt) (va_Pc [.ref (ad a0), .int a1] (WB D ca ad mm)) (QR D ca ad res) 0 0 (AA ad) := by
  refine x_start hi (by decide) rfl (Nat.le_of_ble_eq_true rfl) (fun p e s m args below meth c ls C hW hl => ?_)
  exact wX0_laidAt_0 C ha0 hW (lv_sub hl [0, 1] rfl) hf
theorem gX0_laidAt {N a0 : Nat} {a1 : Int32} {mm m1 : Mm} {x : Option Nat} (ha0 : sX0 a0) (hf : fX0_laidAt N a0 a1 mm = some (x, m1)) : ∀ q, x = some q → sI q := by
  intro q hq
  subst hq
  unfold fX0_laidAt at hf
  repeat' (split at hf)
  all_goals first
    | (cases hf; done)
    | (obtain ⟨g, hf⟩ := gd_s hf; cases hf; exact ha0.2.2.2.2.2.1.2 _ (inb_lt g))
end W_court08
