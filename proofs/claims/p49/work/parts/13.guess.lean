theorem dX2_greatestOf_0 : decode cX2_greatestOf 0 = .ok (.iconst 0, 1) := by decide +kernel
theorem dX2_greatestOf_1 : decode cX2_greatestOf 1 = .ok (.istore_n 2, 1) := by decide +kernel
theorem dX2_greatestOf_2 : decode cX2_greatestOf 2 = .ok (.iconst 0, 1) := by decide +kernel
theorem dX2_greatestOf_3 : decode cX2_greatestOf 3 = .ok (.istore_n 3, 1) := by decide +kernel
theorem dX2_greatestOf_4 : decode cX2_greatestOf 4 = .ok (.iconst 0, 1) := by decide +kernel
theorem dX2_greatestOf_5 : decode cX2_greatestOf 5 = .ok (.istore 4, 2) := by decide +kernel
theorem dX2_greatestOf_7 : decode cX2_greatestOf 7 = .ok (.iload 4, 2) := by decide +kernel
theorem dX2_greatestOf_9 : decode cX2_greatestOf 9 = .ok (.iload_n 1, 1) := by decide +kernel
theorem dX2_greatestOf_10 : decode cX2_greatestOf 10 = .ok (.if_icmp .ge 40, 3) := by decide +kernel
theorem dX2_greatestOf_13 : decode cX2_greatestOf 13 = .ok (.aload_n 0, 1) := by decide +kernel
theorem dX2_greatestOf_14 : decode cX2_greatestOf 14 = .ok (.iload 4, 2) := by decide +kernel
theorem dX2_greatestOf_16 : decode cX2_greatestOf 16 = .ok (.invokevirtual 79, 3) := by decide +kernel
theorem dX2_greatestOf_19 : decode cX2_greatestOf 19 = .ok (.astore 5, 2) := by decide +kernel
theorem dX2_greatestOf_21 : decode cX2_greatestOf 21 = .ok (.aload 5, 2) := by decide +kernel
theorem dX2_greatestOf_23 : decode cX2_greatestOf 23 = .ok (.ifnull 21, 3) := by decide +kernel
theorem dX2_greatestOf_26 : decode cX2_greatestOf 26 = .ok (.aload 5, 2) := by decide +kernel
theorem dX2_greatestOf_28 : decode cX2_greatestOf 28 = .ok (.getfield 83, 3) := by decide +kernel
theorem dX2_greatestOf_31 : decode cX2_greatestOf 31 = .ok (.iload_n 3, 1) := by decide +kernel
theorem dX2_greatestOf_32 : decode cX2_greatestOf 32 = .ok (.if_icmp .le 12, 3) := by decide +kernel
theorem dX2_greatestOf_35 : decode cX2_greatestOf 35 = .ok (.iload 4, 2) := by decide +kernel
theorem dX2_greatestOf_37 : decode cX2_greatestOf 37 = .ok (.istore_n 2, 1) := by decide +kernel
theorem dX2_greatestOf_38 : decode cX2_greatestOf 38 = .ok (.aload 5, 2) := by decide +kernel
theorem dX2_greatestOf_40 : decode cX2_greatestOf 40 = .ok (.getfield 83, 3) := by decide +kernel
theorem dX2_greatestOf_43 : decode cX2_greatestOf 43 = .ok (.istore_n 3, 1) := by decide +kernel
theorem dX2_greatestOf_44 : decode cX2_greatestOf 44 = .ok (.iinc 4 1, 3) := by decide +kernel
theorem dX2_greatestOf_47 : decode cX2_greatestOf 47 = .ok (.goto (-40), 3) := by decide +kernel
theorem dX2_greatestOf_50 : decode cX2_greatestOf 50 = .ok (.iload_n 2, 1) := by decide +kernel
theorem dX2_greatestOf_51 : decode cX2_greatestOf 51 = .ok (.ireturn, 1) := by decide +kernel
theorem dX2_layBack_0 : decode cX2_layBack 0 = .ok (.iload_n 3, 1) := by decide +kernel
theorem dX2_layBack_1 : decode cX2_layBack 1 = .ok (.istore 4, 2) := by decide +kernel
theorem dX2_layBack_3 : decode cX2_layBack 3 = .ok (.iconst 0, 1) := by decide +kernel
theorem dX2_layBack_4 : decode cX2_layBack 4 = .ok (.istore 5, 2) := by decide +kernel
theorem dX2_layBack_6 : decode cX2_layBack 6 = .ok (.aload_n 1, 1) := by decide +kernel
theorem dX2_layBack_7 : decode cX2_layBack 7 = .ok (.ifnull 50, 3) := by decide +kernel
theorem dX2_layBack_10 : decode cX2_layBack 10 = .ok (.iload 5, 2) := by decide +kernel
theorem dX2_layBack_12 : decode cX2_layBack 12 = .ok (.iload_n 2, 1) := by decide +kernel
theorem dX2_layBack_13 : decode cX2_layBack 13 = .ok (.if_icmp .ge 44, 3) := by decide +kernel
theorem dX2_layBack_16 : decode cX2_layBack 16 = .ok (.iload 5, 2) := by decide +kernel
theorem dX2_layBack_18 : decode cX2_layBack 18 = .ok (.aload_n 1, 1) := by decide +kernel
theorem dX2_layBack_19 : decode cX2_layBack 19 = .ok (.arraylength, 1) := by decide +kernel
theorem dX2_layBack_20 : decode cX2_layBack 20 = .ok (.if_icmp .ge 37, 3) := by decide +kernel
theorem dX2_layBack_23 : decode cX2_layBack 23 = .ok (.aload_n 0, 1) := by decide +kernel
theorem dX2_layBack_24 : decode cX2_layBack 24 = .ok (.getfield 9, 3) := by decide +kernel
theorem dX2_layBack_27 : decode cX2_layBack 27 = .ok (.iload 5, 2) := by decide +kernel
theorem dX2_layBack_29 : decode cX2_layBack 29 = .ok (.aload_n 1, 1) := by decide +kernel
theorem dX2_layBack_30 : decode cX2_layBack 30 = .ok (.iload 5, 2) := by decide +kernel
theorem dX2_layBack_32 : decode cX2_layBack 32 = .ok (.iaload, 1) := by decide +kernel
theorem dX2_layBack_33 : decode cX2_layBack 33 = .ok (.iload 4, 2) := by decide +kernel
theorem dX2_layBack_35 : decode cX2_layBack 35 = .ok (.invokestatic 49, 3) := by decide +kernel
theorem dX2_layBack_38 : decode cX2_layBack 38 = .ok (.iastore, 1) := by decide +kernel
theorem dX2_layBack_39 : decode cX2_layBack 39 = .ok (.iload 4, 2) := by decide +kernel
theorem dX2_layBack_41 : decode cX2_layBack 41 = .ok (.aload_n 0, 1) := by decide +kernel
theorem dX2_layBack_42 : decode cX2_layBack 42 = .ok (.getfield 9, 3) := by decide +kernel
theorem dX2_layBack_45 : decode cX2_layBack 45 = .ok (.iload 5, 2) := by decide +kernel
theorem dX2_layBack_47 : decode cX2_layBack 47 = .ok (.iaload, 1) := by decide +kernel
theorem dX2_layBack_48 : decode cX2_layBack 48 = .ok (.isub, 1) := by decide +kernel
theorem dX2_layBack_49 : decode cX2_layBack 49 = .ok (.istore 4, 2) := by decide +kernel
theorem dX2_layBack_51 : decode cX2_layBack 51 = .ok (.iinc 5 1, 3) := by decide +kernel
theorem dX2_layBack_54 : decode cX2_layBack 54 = .ok (.goto (-48), 3) := by decide +kernel
theorem dX2_layBack_57 : decode cX2_layBack 57 = .ok (.return_, 1) := by decide +kernel
theorem dX2_layByWorth_0 : decode cX2_layByWorth 0 = .ok (.aload_n 1, 1) := by decide +kernel
theorem dX2_layByWorth_1 : decode cX2_layByWorth 1 = .ok (.invokevirtual 75, 3) := by decide +kernel
theorem dX2_layByWorth_4 : decode cX2_layByWorth 4 = .ok (.istore 4, 2) := by decide +kernel
theorem dX2_layByWorth_6 : decode cX2_layByWorth 6 = .ok (.iload_n 3, 1) := by decide +kernel
theorem dX2_layByWorth_7 : decode cX2_layByWorth 7 = .ok (.istore 5, 2) := by decide +kernel
theorem dX2_layByWorth_9 : decode cX2_layByWorth 9 = .ok (.iconst 0, 1) := by decide +kernel
theorem dX2_layByWorth_10 : decode cX2_layByWorth 10 = .ok (.istore 6, 2) := by decide +kernel
theorem dX2_layByWorth_12 : decode cX2_layByWorth 12 = .ok (.iload 6, 2) := by decide +kernel
theorem dX2_layByWorth_14 : decode cX2_layByWorth 14 = .ok (.iload_n 2, 1) := by decide +kernel
theorem dX2_layByWorth_15 : decode cX2_layByWorth 15 = .ok (.if_icmp .ge 60, 3) := by decide +kernel
theorem dX2_layByWorth_18 : decode cX2_layByWorth 18 = .ok (.iload 4, 2) := by decide +kernel
theorem dX2_layByWorth_20 : decode cX2_layByWorth 20 = .ok (.ifCond .le 55, 3) := by decide +kernel
theorem dX2_layByWorth_23 : decode cX2_layByWorth 23 = .ok (.aload_n 1, 1) := by decide +kernel
theorem dX2_layByWorth_24 : decode cX2_layByWorth 24 = .ok (.iload 6, 2) := by decide +kernel
theorem dX2_layByWorth_26 : decode cX2_layByWorth 26 = .ok (.invokevirtual 79, 3) := by decide +kernel
theorem dX2_layByWorth_29 : decode cX2_layByWorth 29 = .ok (.astore 7, 2) := by decide +kernel
theorem dX2_layByWorth_31 : decode cX2_layByWorth 31 = .ok (.aload_n 0, 1) := by decide +kernel
theorem dX2_layByWorth_32 : decode cX2_layByWorth 32 = .ok (.getfield 9, 3) := by decide +kernel
theorem dX2_layByWorth_35 : decode cX2_layByWorth 35 = .ok (.iload 6, 2) := by decide +kernel
theorem dX2_layByWorth_37 : decode cX2_layByWorth 37 = .ok (.aload 7, 2) := by decide +kernel
theorem dX2_layByWorth_39 : decode cX2_layByWorth 39 = .ok (.ifnonnull 7, 3) := by decide +kernel
theorem dX2_layByWorth_42 : decode cX2_layByWorth 42 = .ok (.iconst 0, 1) := by decide +kernel
theorem dX2_layByWorth_43 : decode cX2_layByWorth 43 = .ok (.goto 13, 3) := by decide +kernel
theorem dX2_layByWorth_46 : decode cX2_layByWorth 46 = .ok (.iload_n 3, 1) := by decide +kernel
theorem dX2_layByWorth_47 : decode cX2_layByWorth 47 = .ok (.aload 7, 2) := by decide +kernel
theorem dX2_layByWorth_49 : decode cX2_layByWorth 49 = .ok (.getfield 83, 3) := by decide +kernel
theorem dX2_layByWorth_52 : decode cX2_layByWorth 52 = .ok (.imul, 1) := by decide +kernel
theorem dX2_layByWorth_53 : decode cX2_layByWorth 53 = .ok (.iload 4, 2) := by decide +kernel
theorem dX2_layByWorth_55 : decode cX2_layByWorth 55 = .ok (.idiv, 1) := by decide +kernel
theorem dX2_layByWorth_56 : decode cX2_layByWorth 56 = .ok (.iastore, 1) := by decide +kernel
theorem dX2_layByWorth_57 : decode cX2_layByWorth 57 = .ok (.iload 5, 2) := by decide +kernel
theorem dX2_layByWorth_59 : decode cX2_layByWorth 59 = .ok (.aload_n 0, 1) := by decide +kernel
theorem dX2_layByWorth_60 : decode cX2_layByWorth 60 = .ok (.getfield 9, 3) := by decide +kernel
theorem dX2_layByWorth_63 : decode cX2_layByWorth 63 = .ok (.iload 6, 2) := by decide +kernel
theorem dX2_layByWorth_65 : decode cX2_layByWorth 65 = .ok (.iaload, 1) := by decide +kernel
theorem dX2_layByWorth_66 : decode cX2_layByWorth 66 = .ok (.isub, 1) := by decide +kernel
theorem dX2_layByWorth_67 : decode cX2_layByWorth 67 = .ok (.istore 5, 2) := by decide +kernel
theorem dX2_layByWorth_69 : decode cX2_layByWorth 69 = .ok (.iinc 6 1, 3) := by decide +kernel
theorem dX2_layByWorth_72 : decode cX2_layByWorth 72 = .ok (.goto (-60), 3) := by decide +kernel
theorem dX2_layByWorth_75 : decode cX2_layByWorth 75 = .ok (.aload_n 0, 1) := by decide +kernel
theorem dX2_layByWorth_76 : decode cX2_layByWorth 76 = .ok (.getfield 9, 3) := by decide +kernel
theorem dX2_layByWorth_79 : decode cX2_layByWorth 79 = .ok (.iconst 0, 1) := by decide +kernel
theorem dX2_layByWorth_80 : decode cX2_layByWorth 80 = .ok (.dup2, 1) := by decide +kernel
theorem dX2_layByWorth_81 : decode cX2_layByWorth 81 = .ok (.iaload, 1) := by decide +kernel
theorem dX2_layByWorth_82 : decode cX2_layByWorth 82 = .ok (.iload 5, 2) := by decide +kernel
theorem dX2_layByWorth_84 : decode cX2_layByWorth 84 = .ok (.iadd, 1) := by decide +kernel
theorem dX2_layByWorth_85 : decode cX2_layByWorth 85 = .ok (.iastore, 1) := by decide +kernel
theorem dX2_layByWorth_86 : decode cX2_layByWorth 86 = .ok (.return_, 1) := by decide +kernel
theorem dX2_layEven_0 : decode cX2_layEven 0 = .ok (.iconst 0, 1) := by decide +kernel
theorem dX2_layEven_1 : decode cX2_layEven 1 = .ok (.istore_n 3, 1) := by decide +kernel
theorem dX2_layEven_2 : decode cX2_layEven 2 = .ok (.iload_n 3, 1) := by decide +kernel
theorem dX2_layEven_3 : decode cX2_layEven 3 = .ok (.iload_n 1, 1) := by decide +kernel
theorem dX2_layEven_4 : decode cX2_layEven 4 = .ok (.if_icmp .ge 31, 3) := by decide +kernel
theorem dX2_layEven_7 : decode cX2_layEven 7 = .ok (.aload_n 0, 1) := by decide +kernel
theorem dX2_layEven_8 : decode cX2_layEven 8 = .ok (.getfield 9, 3) := by decide +kernel
theorem dX2_layEven_11 : decode cX2_layEven 11 = .ok (.iload_n 3, 1) := by decide +kernel
theorem dX2_layEven_12 : decode cX2_layEven 12 = .ok (.iload_n 2, 1) := by decide +kernel
theorem dX2_layEven_13 : decode cX2_layEven 13 = .ok (.iload_n 1, 1) := by decide +kernel
theorem dX2_layEven_14 : decode cX2_layEven 14 = .ok (.idiv, 1) := by decide +kernel
theorem dX2_layEven_15 : decode cX2_layEven 15 = .ok (.iload_n 3, 1) := by decide +kernel
theorem dX2_layEven_16 : decode cX2_layEven 16 = .ok (.iload_n 2, 1) := by decide +kernel
theorem dX2_layEven_17 : decode cX2_layEven 17 = .ok (.iload_n 1, 1) := by decide +kernel
theorem dX2_layEven_18 : decode cX2_layEven 18 = .ok (.irem, 1) := by decide +kernel
theorem dX2_layEven_19 : decode cX2_layEven 19 = .ok (.if_icmp .ge 7, 3) := by decide +kernel
theorem dX2_layEven_22 : decode cX2_layEven 22 = .ok (.iconst 1, 1) := by decide +kernel
theorem dX2_layEven_23 : decode cX2_layEven 23 = .ok (.goto 4, 3) := by decide +kernel
theorem dX2_layEven_26 : decode cX2_layEven 26 = .ok (.iconst 0, 1) := by decide +kernel
theorem dX2_layEven_27 : decode cX2_layEven 27 = .ok (.iadd, 1) := by decide +kernel
theorem dX2_layEven_28 : decode cX2_layEven 28 = .ok (.iastore, 1) := by decide +kernel
theorem dX2_layEven_29 : decode cX2_layEven 29 = .ok (.iinc 3 1, 3) := by decide +kernel
theorem dX2_layEven_32 : decode cX2_layEven 32 = .ok (.goto (-30), 3) := by decide +kernel
theorem dX2_layEven_35 : decode cX2_layEven 35 = .ok (.return_, 1) := by decide +kernel
theorem dX2_layBy_0 : decode cX2_layBy 0 = .ok (.aload_n 0, 1) := by decide +kernel
theorem dX2_layBy_1 : decode cX2_layBy 1 = .ok (.getfield 9, 3) := by decide +kernel
theorem dX2_layBy_4 : decode cX2_layBy 4 = .ok (.iconst 0, 1) := by decide +kernel
theorem dX2_layBy_5 : decode cX2_layBy 5 = .ok (.invokestatic 34, 3) := by decide +kernel
theorem dX2_layBy_8 : decode cX2_layBy 8 = .ok (.aload_n 1, 1) := by decide +kernel
theorem dX2_layBy_9 : decode cX2_layBy 9 = .ok (.getfield 40, 3) := by decide +kernel
theorem dX2_layBy_12 : decode cX2_layBy 12 = .ok (.iconst 1, 1) := by decide +kernel
theorem dX2_layBy_13 : decode cX2_layBy 13 = .ok (.iaload, 1) := by decide +kernel
theorem dX2_layBy_14 : decode cX2_layBy 14 = .ok (.istore 4, 2) := by decide +kernel
theorem dX2_layBy_16 : decode cX2_layBy 16 = .ok (.aload_n 1, 1) := by decide +kernel
theorem dX2_layBy_17 : decode cX2_layBy 17 = .ok (.getfield 45, 3) := by decide +kernel
theorem dX2_layBy_20 : decode cX2_layBy 20 = .ok (.bipush 6, 2) := by decide +kernel
theorem dX2_layBy_22 : decode cX2_layBy 22 = .ok (.invokestatic 49, 3) := by decide +kernel
theorem dX2_layBy_25 : decode cX2_layBy 25 = .ok (.istore 5, 2) := by decide +kernel
theorem dX2_layBy_27 : decode cX2_layBy 27 = .ok (.iload 5, 2) := by decide +kernel
theorem dX2_layBy_29 : decode cX2_layBy 29 = .ok (.iconst 1, 1) := by decide +kernel
theorem dX2_layBy_30 : decode cX2_layBy 30 = .ok (.if_icmp .ge 4, 3) := by decide +kernel
theorem dX2_layBy_33 : decode cX2_layBy 33 = .ok (.return_, 1) := by decide +kernel
theorem dX2_layBy_34 : decode cX2_layBy 34 = .ok (.iload_n 2, 1) := by decide +kernel
theorem dX2_layBy_35 : decode cX2_layBy 35 = .ok (.tableswitch 97 0 4 #[33, 44, 56, 67, 81], 33) := by decide +kernel
theorem dX2_layBy_68 : decode cX2_layBy 68 = .ok (.aload_n 0, 1) := by decide +kernel
theorem dX2_layBy_69 : decode cX2_layBy 69 = .ok (.iload 5, 2) := by decide +kernel
theorem dX2_layBy_71 : decode cX2_layBy 71 = .ok (.iload 4, 2) := by decide +kernel
theorem dX2_layBy_73 : decode cX2_layBy 73 = .ok (.invokevirtual 55, 3) := by decide +kernel
theorem dX2_layBy_76 : decode cX2_layBy 76 = .ok (.goto 71, 3) := by decide +kernel
theorem dX2_layBy_79 : decode cX2_layBy 79 = .ok (.aload_n 0, 1) := by decide +kernel
theorem dX2_layBy_80 : decode cX2_layBy 80 = .ok (.aload_n 1, 1) := by decide +kernel
theorem dX2_layBy_81 : decode cX2_layBy 81 = .ok (.iload 5, 2) := by decide +kernel
theorem dX2_layBy_83 : decode cX2_layBy 83 = .ok (.iload 4, 2) := by decide +kernel
theorem dX2_layBy_85 : decode cX2_layBy 85 = .ok (.invokevirtual 59, 3) := by decide +kernel
theorem dX2_layBy_88 : decode cX2_layBy 88 = .ok (.goto 59, 3) := by decide +kernel
theorem dX2_layBy_91 : decode cX2_layBy 91 = .ok (.aload_n 0, 1) := by decide +kernel
theorem dX2_layBy_92 : decode cX2_layBy 92 = .ok (.getfield 9, 3) := by decide +kernel
theorem dX2_layBy_95 : decode cX2_layBy 95 = .ok (.iconst 0, 1) := by decide +kernel
theorem dX2_layBy_96 : decode cX2_layBy 96 = .ok (.iload 4, 2) := by decide +kernel
theorem dX2_layBy_98 : decode cX2_layBy 98 = .ok (.iastore, 1) := by decide +kernel
theorem dX2_layBy_99 : decode cX2_layBy 99 = .ok (.goto 48, 3) := by decide +kernel
theorem dX2_layBy_102 : decode cX2_layBy 102 = .ok (.aload_n 0, 1) := by decide +kernel
theorem dX2_layBy_103 : decode cX2_layBy 103 = .ok (.getfield 9, 3) := by decide +kernel
theorem dX2_layBy_106 : decode cX2_layBy 106 = .ok (.iload 5, 2) := by decide +kernel
theorem dX2_layBy_108 : decode cX2_layBy 108 = .ok (.iconst 1, 1) := by decide +kernel
theorem dX2_layBy_109 : decode cX2_layBy 109 = .ok (.isub, 1) := by decide +kernel
theorem dX2_layBy_110 : decode cX2_layBy 110 = .ok (.iload 4, 2) := by decide +kernel
theorem dX2_layBy_112 : decode cX2_layBy 112 = .ok (.iastore, 1) := by decide +kernel
theorem dX2_layBy_113 : decode cX2_layBy 113 = .ok (.goto 34, 3) := by decide +kernel
theorem dX2_layBy_116 : decode cX2_layBy 116 = .ok (.aload_n 0, 1) := by decide +kernel
theorem dX2_layBy_117 : decode cX2_layBy 117 = .ok (.getfield 9, 3) := by decide +kernel
theorem dX2_layBy_120 : decode cX2_layBy 120 = .ok (.aload_n 1, 1) := by decide +kernel
theorem dX2_layBy_121 : decode cX2_layBy 121 = .ok (.iload 5, 2) := by decide +kernel
theorem dX2_layBy_123 : decode cX2_layBy 123 = .ok (.invokestatic 63, 3) := by decide +kernel
theorem dX2_layBy_126 : decode cX2_layBy 126 = .ok (.iload 4, 2) := by decide +kernel
theorem dX2_layBy_128 : decode cX2_layBy 128 = .ok (.iastore, 1) := by decide +kernel
theorem dX2_layBy_129 : decode cX2_layBy 129 = .ok (.goto 18, 3) := by decide +kernel
theorem dX2_layBy_132 : decode cX2_layBy 132 = .ok (.aload_n 0, 1) := by decide +kernel
theorem dX2_layBy_133 : decode cX2_layBy 133 = .ok (.aload_n 1, 1) := by decide +kernel
theorem dX2_layBy_134 : decode cX2_layBy 134 = .ok (.iload_n 3, 1) := by decide +kernel
theorem dX2_layBy_135 : decode cX2_layBy 135 = .ok (.iconst 1, 1) := by decide +kernel
theorem dX2_layBy_136 : decode cX2_layBy 136 = .ok (.isub, 1) := by decide +kernel
theorem dX2_layBy_137 : decode cX2_layBy 137 = .ok (.invokevirtual 67, 3) := by decide +kernel
theorem dX2_layBy_140 : decode cX2_layBy 140 = .ok (.iload 5, 2) := by decide +kernel
theorem dX2_layBy_142 : decode cX2_layBy 142 = .ok (.iload 4, 2) := by decide +kernel
theorem dX2_layBy_144 : decode cX2_layBy 144 = .ok (.invokevirtual 71, 3) := by decide +kernel
theorem dX2_layBy_147 : decode cX2_layBy 147 = .ok (.return_, 1) := by decide +kernel
theorem dX2_fits_0 : decode cX2_fits 0 = .ok (.iconst 0, 1) := by decide +kernel
theorem dX2_fits_1 : decode cX2_fits 1 = .ok (.istore_n 3, 1) := by decide +kernel
theorem dX2_fits_2 : decode cX2_fits 2 = .ok (.iload_n 3, 1) := by decide +kernel
theorem dX2_fits_3 : decode cX2_fits 3 = .ok (.aload_n 1, 1) := by decide +kernel
theorem dX2_fits_4 : decode cX2_fits 4 = .ok (.getfield 92, 3) := by decide +kernel
theorem dX2_fits_7 : decode cX2_fits 7 = .ok (.if_icmp .ge 66, 3) := by decide +kernel
theorem dX2_fits_10 : decode cX2_fits 10 = .ok (.aload_n 1, 1) := by decide +kernel
theorem dX2_fits_11 : decode cX2_fits 11 = .ok (.iload_n 3, 1) := by decide +kernel
theorem dX2_fits_12 : decode cX2_fits 12 = .ok (.invokevirtual 67, 3) := by decide +kernel
theorem dX2_fits_15 : decode cX2_fits 15 = .ok (.astore 4, 2) := by decide +kernel
theorem dX2_fits_17 : decode cX2_fits 17 = .ok (.aload 4, 2) := by decide +kernel
theorem dX2_fits_19 : decode cX2_fits 19 = .ok (.ifnonnull 5, 3) := by decide +kernel
theorem dX2_fits_22 : decode cX2_fits 22 = .ok (.iconst 0, 1) := by decide +kernel
theorem dX2_fits_23 : decode cX2_fits 23 = .ok (.ireturn, 1) := by decide +kernel
theorem dX2_fits_24 : decode cX2_fits 24 = .ok (.aload_n 0, 1) := by decide +kernel
theorem dX2_fits_25 : decode cX2_fits 25 = .ok (.aload_n 1, 1) := by decide +kernel
theorem dX2_fits_26 : decode cX2_fits 26 = .ok (.iload_n 2, 1) := by decide +kernel
theorem dX2_fits_27 : decode cX2_fits 27 = .ok (.iload_n 3, 1) := by decide +kernel
theorem dX2_fits_28 : decode cX2_fits 28 = .ok (.invokevirtual 95, 3) := by decide +kernel
theorem dX2_fits_31 : decode cX2_fits 31 = .ok (.aload_n 0, 1) := by decide +kernel
theorem dX2_fits_32 : decode cX2_fits 32 = .ok (.getfield 18, 3) := by decide +kernel
theorem dX2_fits_35 : decode cX2_fits 35 = .ok (.aload_n 1, 1) := by decide +kernel
theorem dX2_fits_36 : decode cX2_fits 36 = .ok (.aload 4, 2) := by decide +kernel
theorem dX2_fits_38 : decode cX2_fits 38 = .ok (.aload_n 0, 1) := by decide +kernel
theorem dX2_fits_39 : decode cX2_fits 39 = .ok (.getfield 9, 3) := by decide +kernel
theorem dX2_fits_42 : decode cX2_fits 42 = .ok (.iconst 0, 1) := by decide +kernel
theorem dX2_fits_43 : decode cX2_fits 43 = .ok (.invokevirtual 98, 3) := by decide +kernel
theorem dX2_fits_46 : decode cX2_fits 46 = .ok (.aload_n 0, 1) := by decide +kernel
theorem dX2_fits_47 : decode cX2_fits 47 = .ok (.getfield 18, 3) := by decide +kernel
theorem dX2_fits_50 : decode cX2_fits 50 = .ok (.aload_n 1, 1) := by decide +kernel
theorem dX2_fits_51 : decode cX2_fits 51 = .ok (.getfield 45, 3) := by decide +kernel
theorem dX2_fits_54 : decode cX2_fits 54 = .ok (.invokevirtual 102, 3) := by decide +kernel
theorem dX2_fits_57 : decode cX2_fits 57 = .ok (.aload_n 1, 1) := by decide +kernel
theorem dX2_fits_58 : decode cX2_fits 58 = .ok (.iload_n 3, 1) := by decide +kernel
theorem dX2_fits_59 : decode cX2_fits 59 = .ok (.invokevirtual 106, 3) := by decide +kernel
theorem dX2_fits_62 : decode cX2_fits 62 = .ok (.if_icmp .eq 5, 3) := by decide +kernel
theorem dX2_fits_65 : decode cX2_fits 65 = .ok (.iconst 0, 1) := by decide +kernel
theorem dX2_fits_66 : decode cX2_fits 66 = .ok (.ireturn, 1) := by decide +kernel
theorem dX2_fits_67 : decode cX2_fits 67 = .ok (.iinc 3 1, 3) := by decide +kernel
theorem dX2_fits_70 : decode cX2_fits 70 = .ok (.goto (-68), 3) := by decide +kernel
theorem dX2_fits_73 : decode cX2_fits 73 = .ok (.iconst 1, 1) := by decide +kernel
theorem dX2_fits_74 : decode cX2_fits 74 = .ok (.ireturn, 1) := by decide +kernel
theorem dX2_fitting_0 : decode cX2_fitting 0 = .ok (.iconst 0, 1) := by decide +kernel
theorem dX2_fitting_1 : decode cX2_fitting 1 = .ok (.istore_n 2, 1) := by decide +kernel
theorem dX2_fitting_2 : decode cX2_fitting 2 = .ok (.iconst 0, 1) := by decide +kernel
theorem dX2_fitting_3 : decode cX2_fitting 3 = .ok (.istore_n 3, 1) := by decide +kernel
theorem dX2_fitting_4 : decode cX2_fitting 4 = .ok (.iload_n 3, 1) := by decide +kernel
theorem dX2_fitting_5 : decode cX2_fitting 5 = .ok (.bipush 6, 2) := by decide +kernel
theorem dX2_fitting_7 : decode cX2_fitting 7 = .ok (.if_icmp .ge 24, 3) := by decide +kernel
theorem dX2_fitting_10 : decode cX2_fitting 10 = .ok (.aload_n 0, 1) := by decide +kernel
theorem dX2_fitting_11 : decode cX2_fitting 11 = .ok (.aload_n 1, 1) := by decide +kernel
theorem dX2_fitting_12 : decode cX2_fitting 12 = .ok (.iload_n 3, 1) := by decide +kernel
theorem dX2_fitting_13 : decode cX2_fitting 13 = .ok (.invokevirtual 88, 3) := by decide +kernel
theorem dX2_fitting_16 : decode cX2_fitting 16 = .ok (.ifCond .eq 9, 3) := by decide +kernel
theorem dX2_fitting_19 : decode cX2_fitting 19 = .ok (.iload_n 2, 1) := by decide +kernel
theorem dX2_fitting_20 : decode cX2_fitting 20 = .ok (.iconst 1, 1) := by decide +kernel
theorem dX2_fitting_21 : decode cX2_fitting 21 = .ok (.iload_n 3, 1) := by decide +kernel
theorem dX2_fitting_22 : decode cX2_fitting 22 = .ok (.ishl, 1) := by decide +kernel
theorem dX2_fitting_23 : decode cX2_fitting 23 = .ok (.ior, 1) := by decide +kernel
theorem dX2_fitting_24 : decode cX2_fitting 24 = .ok (.istore_n 2, 1) := by decide +kernel
theorem dX2_fitting_25 : decode cX2_fitting 25 = .ok (.iinc 3 1, 3) := by decide +kernel
theorem dX2_fitting_28 : decode cX2_fitting 28 = .ok (.goto (-24), 3) := by decide +kernel
theorem dX2_fitting_31 : decode cX2_fitting 31 = .ok (.iload_n 2, 1) := by decide +kernel
theorem dX2_fitting_32 : decode cX2_fitting 32 = .ok (.ireturn, 1) := by decide +kernel
theorem dX2_firstOf_0 : decode cX2_firstOf 0 = .ok (.iconst 0, 1) := by decide +kernel
theorem dX2_firstOf_1 : decode cX2_firstOf 1 = .ok (.istore_n 1, 1) := by decide +kernel
theorem dX2_firstOf_2 : decode cX2_firstOf 2 = .ok (.iload_n 1, 1) := by decide +kernel
theorem dX2_firstOf_3 : decode cX2_firstOf 3 = .ok (.iconst 5, 1) := by decide +kernel
theorem dX2_firstOf_4 : decode cX2_firstOf 4 = .ok (.if_icmp .ge 17, 3) := by decide +kernel
theorem dX2_firstOf_7 : decode cX2_firstOf 7 = .ok (.iload_n 0, 1) := by decide +kernel
theorem dX2_firstOf_8 : decode cX2_firstOf 8 = .ok (.iload_n 1, 1) := by decide +kernel
theorem dX2_firstOf_9 : decode cX2_firstOf 9 = .ok (.ishr, 1) := by decide +kernel
theorem dX2_firstOf_10 : decode cX2_firstOf 10 = .ok (.iconst 1, 1) := by decide +kernel
theorem dX2_firstOf_11 : decode cX2_firstOf 11 = .ok (.iand, 1) := by decide +kernel
theorem dX2_firstOf_12 : decode cX2_firstOf 12 = .ok (.ifCond .ne 9, 3) := by decide +kernel
theorem dX2_firstOf_15 : decode cX2_firstOf 15 = .ok (.iinc 1 1, 3) := by decide +kernel
theorem dX2_firstOf_18 : decode cX2_firstOf 18 = .ok (.goto (-16), 3) := by decide +kernel
theorem dX2_firstOf_21 : decode cX2_firstOf 21 = .ok (.iload_n 1, 1) := by decide +kernel
theorem dX2_firstOf_22 : decode cX2_firstOf 22 = .ok (.ireturn, 1) := by decide +kernel
theorem dX2_prepare_0 : decode cX2_prepare 0 = .ok (.aload_n 0, 1) := by decide +kernel
theorem dX2_prepare_1 : decode cX2_prepare 1 = .ok (.iload_n 2, 1) := by decide +kernel
theorem dX2_prepare_2 : decode cX2_prepare 2 = .ok (.putfield 109, 3) := by decide +kernel
theorem dX2_prepare_5 : decode cX2_prepare 5 = .ok (.iconst 0, 1) := by decide +kernel
theorem dX2_prepare_6 : decode cX2_prepare 6 = .ok (.istore_n 3, 1) := by decide +kernel
theorem dX2_prepare_7 : decode cX2_prepare 7 = .ok (.iload_n 3, 1) := by decide +kernel
theorem dX2_prepare_8 : decode cX2_prepare 8 = .ok (.bipush 6, 2) := by decide +kernel
theorem dX2_prepare_10 : decode cX2_prepare 10 = .ok (.if_icmp .ge 36, 3) := by decide +kernel
theorem dX2_prepare_13 : decode cX2_prepare 13 = .ok (.aload_n 0, 1) := by decide +kernel
theorem dX2_prepare_14 : decode cX2_prepare 14 = .ok (.aload_n 1, 1) := by decide +kernel
theorem dX2_prepare_15 : decode cX2_prepare 15 = .ok (.iload_n 3, 1) := by decide +kernel
theorem dX2_prepare_16 : decode cX2_prepare 16 = .ok (.aload_n 1, 1) := by decide +kernel
theorem dX2_prepare_17 : decode cX2_prepare 17 = .ok (.getfield 92, 3) := by decide +kernel
theorem dX2_prepare_20 : decode cX2_prepare 20 = .ok (.invokevirtual 95, 3) := by decide +kernel
theorem dX2_prepare_23 : decode cX2_prepare 23 = .ok (.aload_n 0, 1) := by decide +kernel
theorem dX2_prepare_24 : decode cX2_prepare 24 = .ok (.getfield 9, 3) := by decide +kernel
theorem dX2_prepare_27 : decode cX2_prepare 27 = .ok (.iconst 0, 1) := by decide +kernel
theorem dX2_prepare_28 : decode cX2_prepare 28 = .ok (.aload_n 0, 1) := by decide +kernel
theorem dX2_prepare_29 : decode cX2_prepare 29 = .ok (.getfield 24, 3) := by decide +kernel
theorem dX2_prepare_32 : decode cX2_prepare 32 = .ok (.iload_n 3, 1) := by decide +kernel
theorem dX2_prepare_33 : decode cX2_prepare 33 = .ok (.aaload, 1) := by decide +kernel
theorem dX2_prepare_34 : decode cX2_prepare 34 = .ok (.iconst 0, 1) := by decide +kernel
theorem dX2_prepare_35 : decode cX2_prepare 35 = .ok (.bipush 6, 2) := by decide +kernel
theorem dX2_prepare_37 : decode cX2_prepare 37 = .ok (.invokestatic 112, 3) := by decide +kernel
theorem dX2_prepare_40 : decode cX2_prepare 40 = .ok (.iinc 3 1, 3) := by decide +kernel
theorem dX2_prepare_43 : decode cX2_prepare 43 = .ok (.goto (-36), 3) := by decide +kernel
theorem dX2_prepare_46 : decode cX2_prepare 46 = .ok (.return_, 1) := by decide +kernel
theorem dX2_firstLike_0 : decode cX2_firstLike 0 = .ok (.iconst 0, 1) := by decide +kernel
theorem dX2_firstLike_1 : decode cX2_firstLike 1 = .ok (.istore_n 2, 1) := by decide +kernel
theorem dX2_firstLike_2 : decode cX2_firstLike 2 = .ok (.iload_n 2, 1) := by decide +kernel
theorem dX2_firstLike_3 : decode cX2_firstLike 3 = .ok (.iload_n 1, 1) := by decide +kernel
theorem dX2_firstLike_4 : decode cX2_firstLike 4 = .ok (.if_icmp .ge 79, 3) := by decide +kernel
theorem dX2_firstLike_7 : decode cX2_firstLike 7 = .ok (.aload_n 0, 1) := by decide +kernel
theorem dX2_firstLike_8 : decode cX2_firstLike 8 = .ok (.getfield 109, 3) := by decide +kernel
theorem dX2_firstLike_11 : decode cX2_firstLike 11 = .ok (.iload_n 2, 1) := by decide +kernel
theorem dX2_firstLike_12 : decode cX2_firstLike 12 = .ok (.ishr, 1) := by decide +kernel
theorem dX2_firstLike_13 : decode cX2_firstLike 13 = .ok (.iconst 1, 1) := by decide +kernel
theorem dX2_firstLike_14 : decode cX2_firstLike 14 = .ok (.iand, 1) := by decide +kernel
theorem dX2_firstLike_15 : decode cX2_firstLike 15 = .ok (.ifCond .eq 7, 3) := by decide +kernel
theorem dX2_firstLike_18 : decode cX2_firstLike 18 = .ok (.iconst 1, 1) := by decide +kernel
theorem dX2_firstLike_19 : decode cX2_firstLike 19 = .ok (.goto 4, 3) := by decide +kernel
theorem dX2_firstLike_22 : decode cX2_firstLike 22 = .ok (.iconst 0, 1) := by decide +kernel
theorem dX2_firstLike_23 : decode cX2_firstLike 23 = .ok (.istore_n 3, 1) := by decide +kernel
theorem dX2_firstLike_24 : decode cX2_firstLike 24 = .ok (.iconst 0, 1) := by decide +kernel
theorem dX2_firstLike_25 : decode cX2_firstLike 25 = .ok (.istore 4, 2) := by decide +kernel
theorem dX2_firstLike_27 : decode cX2_firstLike 27 = .ok (.iload 4, 2) := by decide +kernel
theorem dX2_firstLike_29 : decode cX2_firstLike 29 = .ok (.bipush 6, 2) := by decide +kernel
theorem dX2_firstLike_31 : decode cX2_firstLike 31 = .ok (.if_icmp .ge 40, 3) := by decide +kernel
theorem dX2_firstLike_34 : decode cX2_firstLike 34 = .ok (.iload_n 3, 1) := by decide +kernel
theorem dX2_firstLike_35 : decode cX2_firstLike 35 = .ok (.ifCond .eq 28, 3) := by decide +kernel
theorem dX2_firstLike_38 : decode cX2_firstLike 38 = .ok (.aload_n 0, 1) := by decide +kernel
theorem dX2_firstLike_39 : decode cX2_firstLike 39 = .ok (.getfield 24, 3) := by decide +kernel
theorem dX2_firstLike_42 : decode cX2_firstLike 42 = .ok (.iload_n 2, 1) := by decide +kernel
theorem dX2_firstLike_43 : decode cX2_firstLike 43 = .ok (.aaload, 1) := by decide +kernel
theorem dX2_firstLike_44 : decode cX2_firstLike 44 = .ok (.iload 4, 2) := by decide +kernel
theorem dX2_firstLike_46 : decode cX2_firstLike 46 = .ok (.iaload, 1) := by decide +kernel
theorem dX2_firstLike_47 : decode cX2_firstLike 47 = .ok (.aload_n 0, 1) := by decide +kernel
theorem dX2_firstLike_48 : decode cX2_firstLike 48 = .ok (.getfield 24, 3) := by decide +kernel
theorem dX2_firstLike_51 : decode cX2_firstLike 51 = .ok (.iload_n 1, 1) := by decide +kernel
theorem dX2_firstLike_52 : decode cX2_firstLike 52 = .ok (.aaload, 1) := by decide +kernel
theorem dX2_firstLike_53 : decode cX2_firstLike 53 = .ok (.iload 4, 2) := by decide +kernel
theorem dX2_firstLike_55 : decode cX2_firstLike 55 = .ok (.iaload, 1) := by decide +kernel
theorem dX2_firstLike_56 : decode cX2_firstLike 56 = .ok (.if_icmp .ne 7, 3) := by decide +kernel
theorem dX2_firstLike_59 : decode cX2_firstLike 59 = .ok (.iconst 1, 1) := by decide +kernel
theorem dX2_firstLike_60 : decode cX2_firstLike 60 = .ok (.goto 4, 3) := by decide +kernel
theorem dX2_firstLike_63 : decode cX2_firstLike 63 = .ok (.iconst 0, 1) := by decide +kernel
theorem dX2_firstLike_64 : decode cX2_firstLike 64 = .ok (.istore_n 3, 1) := by decide +kernel
theorem dX2_firstLike_65 : decode cX2_firstLike 65 = .ok (.iinc 4 1, 3) := by decide +kernel
theorem dX2_firstLike_68 : decode cX2_firstLike 68 = .ok (.goto (-41), 3) := by decide +kernel
theorem dX2_firstLike_71 : decode cX2_firstLike 71 = .ok (.iload_n 3, 1) := by decide +kernel
theorem dX2_firstLike_72 : decode cX2_firstLike 72 = .ok (.ifCond .eq 5, 3) := by decide +kernel
theorem dX2_firstLike_75 : decode cX2_firstLike 75 = .ok (.iload_n 2, 1) := by decide +kernel
theorem dX2_firstLike_76 : decode cX2_firstLike 76 = .ok (.ireturn, 1) := by decide +kernel
theorem dX2_firstLike_77 : decode cX2_firstLike 77 = .ok (.iinc 2 1, 3) := by decide +kernel
theorem dX2_firstLike_80 : decode cX2_firstLike 80 = .ok (.goto (-78), 3) := by decide +kernel
theorem dX2_firstLike_83 : decode cX2_firstLike 83 = .ok (.iload_n 1, 1) := by decide +kernel
theorem dX2_firstLike_84 : decode cX2_firstLike 84 = .ok (.ireturn, 1) := by decide +kernel
theorem dX2_unlikeOnes_0 : decode cX2_unlikeOnes 0 = .ok (.iconst 0, 1) := by decide +kernel
theorem dX2_unlikeOnes_1 : decode cX2_unlikeOnes 1 = .ok (.istore_n 1, 1) := by decide +kernel
theorem dX2_unlikeOnes_2 : decode cX2_unlikeOnes 2 = .ok (.iconst 0, 1) := by decide +kernel
theorem dX2_unlikeOnes_3 : decode cX2_unlikeOnes 3 = .ok (.istore_n 2, 1) := by decide +kernel
theorem dX2_unlikeOnes_4 : decode cX2_unlikeOnes 4 = .ok (.iload_n 2, 1) := by decide +kernel
theorem dX2_unlikeOnes_5 : decode cX2_unlikeOnes 5 = .ok (.bipush 6, 2) := by decide +kernel
theorem dX2_unlikeOnes_7 : decode cX2_unlikeOnes 7 = .ok (.if_icmp .ge 86, 3) := by decide +kernel
theorem dX2_unlikeOnes_10 : decode cX2_unlikeOnes 10 = .ok (.aload_n 0, 1) := by decide +kernel
theorem dX2_unlikeOnes_11 : decode cX2_unlikeOnes 11 = .ok (.getfield 109, 3) := by decide +kernel
theorem dX2_unlikeOnes_14 : decode cX2_unlikeOnes 14 = .ok (.iload_n 2, 1) := by decide +kernel
theorem dX2_unlikeOnes_15 : decode cX2_unlikeOnes 15 = .ok (.ishr, 1) := by decide +kernel
theorem dX2_unlikeOnes_16 : decode cX2_unlikeOnes 16 = .ok (.iconst 1, 1) := by decide +kernel
theorem dX2_unlikeOnes_17 : decode cX2_unlikeOnes 17 = .ok (.iand, 1) := by decide +kernel
theorem dX2_unlikeOnes_18 : decode cX2_unlikeOnes 18 = .ok (.ifCond .eq 7, 3) := by decide +kernel
theorem dX2_unlikeOnes_21 : decode cX2_unlikeOnes 21 = .ok (.iconst 1, 1) := by decide +kernel
theorem dX2_unlikeOnes_22 : decode cX2_unlikeOnes 22 = .ok (.goto 4, 3) := by decide +kernel
theorem dX2_unlikeOnes_25 : decode cX2_unlikeOnes 25 = .ok (.iconst 0, 1) := by decide +kernel
theorem dX2_unlikeOnes_26 : decode cX2_unlikeOnes 26 = .ok (.istore_n 3, 1) := by decide +kernel
theorem dX2_unlikeOnes_27 : decode cX2_unlikeOnes 27 = .ok (.iconst 0, 1) := by decide +kernel
theorem dX2_unlikeOnes_28 : decode cX2_unlikeOnes 28 = .ok (.istore 4, 2) := by decide +kernel
theorem dX2_unlikeOnes_30 : decode cX2_unlikeOnes 30 = .ok (.iload 4, 2) := by decide +kernel
theorem dX2_unlikeOnes_32 : decode cX2_unlikeOnes 32 = .ok (.iload_n 2, 1) := by decide +kernel
theorem dX2_unlikeOnes_33 : decode cX2_unlikeOnes 33 = .ok (.if_icmp .ge 47, 3) := by decide +kernel
theorem dX2_unlikeOnes_36 : decode cX2_unlikeOnes 36 = .ok (.iload_n 3, 1) := by decide +kernel
theorem dX2_unlikeOnes_37 : decode cX2_unlikeOnes 37 = .ok (.ifCond .eq 35, 3) := by decide +kernel
theorem dX2_unlikeOnes_40 : decode cX2_unlikeOnes 40 = .ok (.aload_n 0, 1) := by decide +kernel
theorem dX2_unlikeOnes_41 : decode cX2_unlikeOnes 41 = .ok (.getfield 109, 3) := by decide +kernel
theorem dX2_unlikeOnes_44 : decode cX2_unlikeOnes 44 = .ok (.iload 4, 2) := by decide +kernel
theorem dX2_unlikeOnes_46 : decode cX2_unlikeOnes 46 = .ok (.ishr, 1) := by decide +kernel
theorem dX2_unlikeOnes_47 : decode cX2_unlikeOnes 47 = .ok (.iconst 1, 1) := by decide +kernel
theorem dX2_unlikeOnes_48 : decode cX2_unlikeOnes 48 = .ok (.iand, 1) := by decide +kernel
theorem dX2_unlikeOnes_49 : decode cX2_unlikeOnes 49 = .ok (.ifCond .eq 19, 3) := by decide +kernel
theorem dX2_unlikeOnes_52 : decode cX2_unlikeOnes 52 = .ok (.aload_n 0, 1) := by decide +kernel
theorem dX2_unlikeOnes_53 : decode cX2_unlikeOnes 53 = .ok (.getfield 31, 3) := by decide +kernel
theorem dX2_unlikeOnes_56 : decode cX2_unlikeOnes 56 = .ok (.iload 4, 2) := by decide +kernel
theorem dX2_unlikeOnes_58 : decode cX2_unlikeOnes 58 = .ok (.iaload, 1) := by decide +kernel
theorem dX2_unlikeOnes_59 : decode cX2_unlikeOnes 59 = .ok (.aload_n 0, 1) := by decide +kernel
theorem dX2_unlikeOnes_60 : decode cX2_unlikeOnes 60 = .ok (.getfield 31, 3) := by decide +kernel
theorem dX2_unlikeOnes_63 : decode cX2_unlikeOnes 63 = .ok (.iload_n 2, 1) := by decide +kernel
theorem dX2_unlikeOnes_64 : decode cX2_unlikeOnes 64 = .ok (.iaload, 1) := by decide +kernel
theorem dX2_unlikeOnes_65 : decode cX2_unlikeOnes 65 = .ok (.if_icmp .eq 7, 3) := by decide +kernel
theorem dX2_unlikeOnes_68 : decode cX2_unlikeOnes 68 = .ok (.iconst 1, 1) := by decide +kernel
theorem dX2_unlikeOnes_69 : decode cX2_unlikeOnes 69 = .ok (.goto 4, 3) := by decide +kernel
theorem dX2_unlikeOnes_72 : decode cX2_unlikeOnes 72 = .ok (.iconst 0, 1) := by decide +kernel
theorem dX2_unlikeOnes_73 : decode cX2_unlikeOnes 73 = .ok (.istore_n 3, 1) := by decide +kernel
theorem dX2_unlikeOnes_74 : decode cX2_unlikeOnes 74 = .ok (.iinc 4 1, 3) := by decide +kernel
theorem dX2_unlikeOnes_77 : decode cX2_unlikeOnes 77 = .ok (.goto (-47), 3) := by decide +kernel
theorem dX2_unlikeOnes_80 : decode cX2_unlikeOnes 80 = .ok (.iload_n 3, 1) := by decide +kernel
theorem dX2_unlikeOnes_81 : decode cX2_unlikeOnes 81 = .ok (.ifCond .eq 6, 3) := by decide +kernel
theorem dX2_unlikeOnes_84 : decode cX2_unlikeOnes 84 = .ok (.iinc 1 1, 3) := by decide +kernel
theorem dX2_unlikeOnes_87 : decode cX2_unlikeOnes 87 = .ok (.iinc 2 1, 3) := by decide +kernel
theorem dX2_unlikeOnes_90 : decode cX2_unlikeOnes 90 = .ok (.goto (-86), 3) := by decide +kernel
theorem dX2_unlikeOnes_93 : decode cX2_unlikeOnes 93 = .ok (.iload_n 1, 1) := by decide +kernel
theorem dX2_unlikeOnes_94 : decode cX2_unlikeOnes 94 = .ok (.ireturn, 1) := by decide +kernel
theorem dX2_unlikeLayings_0 : decode cX2_unlikeLayings 0 = .ok (.aload_n 0, 1) := by decide +kernel
theorem dX2_unlikeLayings_1 : decode cX2_unlikeLayings 1 = .ok (.aload_n 1, 1) := by decide +kernel
theorem dX2_unlikeLayings_2 : decode cX2_unlikeLayings 2 = .ok (.iload_n 2, 1) := by decide +kernel
theorem dX2_unlikeLayings_3 : decode cX2_unlikeLayings 3 = .ok (.invokevirtual 118, 3) := by decide +kernel
theorem dX2_unlikeLayings_6 : decode cX2_unlikeLayings 6 = .ok (.iconst 0, 1) := by decide +kernel
theorem dX2_unlikeLayings_7 : decode cX2_unlikeLayings 7 = .ok (.istore_n 3, 1) := by decide +kernel
theorem dX2_unlikeLayings_8 : decode cX2_unlikeLayings 8 = .ok (.iload_n 3, 1) := by decide +kernel
theorem dX2_unlikeLayings_9 : decode cX2_unlikeLayings 9 = .ok (.bipush 6, 2) := by decide +kernel
theorem dX2_unlikeLayings_11 : decode cX2_unlikeLayings 11 = .ok (.if_icmp .ge 20, 3) := by decide +kernel
theorem dX2_unlikeLayings_14 : decode cX2_unlikeLayings 14 = .ok (.aload_n 0, 1) := by decide +kernel
theorem dX2_unlikeLayings_15 : decode cX2_unlikeLayings 15 = .ok (.getfield 31, 3) := by decide +kernel
theorem dX2_unlikeLayings_18 : decode cX2_unlikeLayings 18 = .ok (.iload_n 3, 1) := by decide +kernel
theorem dX2_unlikeLayings_19 : decode cX2_unlikeLayings 19 = .ok (.aload_n 0, 1) := by decide +kernel
theorem dX2_unlikeLayings_20 : decode cX2_unlikeLayings 20 = .ok (.iload_n 3, 1) := by decide +kernel
theorem dX2_unlikeLayings_21 : decode cX2_unlikeLayings 21 = .ok (.invokevirtual 122, 3) := by decide +kernel
theorem dX2_unlikeLayings_24 : decode cX2_unlikeLayings 24 = .ok (.iastore, 1) := by decide +kernel
theorem dX2_unlikeLayings_25 : decode cX2_unlikeLayings 25 = .ok (.iinc 3 1, 3) := by decide +kernel
theorem dX2_unlikeLayings_28 : decode cX2_unlikeLayings 28 = .ok (.goto (-20), 3) := by decide +kernel
theorem dX2_unlikeLayings_31 : decode cX2_unlikeLayings 31 = .ok (.aload_n 0, 1) := by decide +kernel
theorem dX2_unlikeLayings_32 : decode cX2_unlikeLayings 32 = .ok (.invokevirtual 125, 3) := by decide +kernel
theorem dX2_unlikeLayings_35 : decode cX2_unlikeLayings 35 = .ok (.ireturn, 1) := by decide +kernel
theorem dX2_unlikeSets_0 : decode cX2_unlikeSets 0 = .ok (.iconst 0, 1) := by decide +kernel
theorem dX2_unlikeSets_1 : decode cX2_unlikeSets 1 = .ok (.istore 4, 2) := by decide +kernel
theorem dX2_unlikeSets_3 : decode cX2_unlikeSets 3 = .ok (.iload 4, 2) := by decide +kernel
theorem dX2_unlikeSets_5 : decode cX2_unlikeSets 5 = .ok (.bipush 6, 2) := by decide +kernel
theorem dX2_unlikeSets_7 : decode cX2_unlikeSets 7 = .ok (.if_icmp .ge 62, 3) := by decide +kernel
theorem dX2_unlikeSets_10 : decode cX2_unlikeSets 10 = .ok (.aload_n 0, 1) := by decide +kernel
theorem dX2_unlikeSets_11 : decode cX2_unlikeSets 11 = .ok (.getfield 109, 3) := by decide +kernel
theorem dX2_unlikeSets_14 : decode cX2_unlikeSets 14 = .ok (.iload 4, 2) := by decide +kernel
theorem dX2_unlikeSets_16 : decode cX2_unlikeSets 16 = .ok (.ishr, 1) := by decide +kernel
theorem dX2_unlikeSets_17 : decode cX2_unlikeSets 17 = .ok (.iconst 1, 1) := by decide +kernel
theorem dX2_unlikeSets_18 : decode cX2_unlikeSets 18 = .ok (.iand, 1) := by decide +kernel
theorem dX2_unlikeSets_19 : decode cX2_unlikeSets 19 = .ok (.ifCond .eq 44, 3) := by decide +kernel
theorem dX2_unlikeSets_22 : decode cX2_unlikeSets 22 = .ok (.aload_n 0, 1) := by decide +kernel
theorem dX2_unlikeSets_23 : decode cX2_unlikeSets 23 = .ok (.getfield 27, 3) := by decide +kernel
theorem dX2_unlikeSets_26 : decode cX2_unlikeSets 26 = .ok (.iload 4, 2) := by decide +kernel
theorem dX2_unlikeSets_28 : decode cX2_unlikeSets 28 = .ok (.aaload, 1) := by decide +kernel
theorem dX2_unlikeSets_29 : decode cX2_unlikeSets 29 = .ok (.aload_n 1, 1) := by decide +kernel
theorem dX2_unlikeSets_30 : decode cX2_unlikeSets 30 = .ok (.aload_n 2, 1) := by decide +kernel
theorem dX2_unlikeSets_31 : decode cX2_unlikeSets 31 = .ok (.aload_n 0, 1) := by decide +kernel
theorem dX2_unlikeSets_32 : decode cX2_unlikeSets 32 = .ok (.getfield 24, 3) := by decide +kernel
theorem dX2_unlikeSets_35 : decode cX2_unlikeSets 35 = .ok (.iload 4, 2) := by decide +kernel
theorem dX2_unlikeSets_37 : decode cX2_unlikeSets 37 = .ok (.aaload, 1) := by decide +kernel
theorem dX2_unlikeSets_38 : decode cX2_unlikeSets 38 = .ok (.iload_n 3, 1) := by decide +kernel
theorem dX2_unlikeSets_39 : decode cX2_unlikeSets 39 = .ok (.invokevirtual 98, 3) := by decide +kernel
theorem dX2_unlikeSets_42 : decode cX2_unlikeSets 42 = .ok (.aload_n 0, 1) := by decide +kernel
theorem dX2_unlikeSets_43 : decode cX2_unlikeSets 43 = .ok (.getfield 31, 3) := by decide +kernel
theorem dX2_unlikeSets_46 : decode cX2_unlikeSets 46 = .ok (.iload 4, 2) := by decide +kernel
theorem dX2_unlikeSets_48 : decode cX2_unlikeSets 48 = .ok (.aload_n 0, 1) := by decide +kernel
theorem dX2_unlikeSets_49 : decode cX2_unlikeSets 49 = .ok (.getfield 27, 3) := by decide +kernel
theorem dX2_unlikeSets_52 : decode cX2_unlikeSets 52 = .ok (.iload 4, 2) := by decide +kernel
theorem dX2_unlikeSets_54 : decode cX2_unlikeSets 54 = .ok (.aaload, 1) := by decide +kernel
theorem dX2_unlikeSets_55 : decode cX2_unlikeSets 55 = .ok (.aload_n 1, 1) := by decide +kernel
theorem dX2_unlikeSets_56 : decode cX2_unlikeSets 56 = .ok (.getfield 45, 3) := by decide +kernel
theorem dX2_unlikeSets_59 : decode cX2_unlikeSets 59 = .ok (.invokevirtual 102, 3) := by decide +kernel
theorem dX2_unlikeSets_62 : decode cX2_unlikeSets 62 = .ok (.iastore, 1) := by decide +kernel
theorem dX2_unlikeSets_63 : decode cX2_unlikeSets 63 = .ok (.iinc 4 1, 3) := by decide +kernel
theorem dX2_unlikeSets_66 : decode cX2_unlikeSets 66 = .ok (.goto (-63), 3) := by decide +kernel
theorem dX2_unlikeSets_69 : decode cX2_unlikeSets 69 = .ok (.aload_n 0, 1) := by decide +kernel
theorem dX2_unlikeSets_70 : decode cX2_unlikeSets 70 = .ok (.invokevirtual 125, 3) := by decide +kernel
theorem dX2_unlikeSets_73 : decode cX2_unlikeSets 73 = .ok (.ireturn, 1) := by decide +kernel
theorem q_702 : Cond.methodLink RX2 79 yX0_suitOf ∈ wT := wi_t 702 (by decide +kernel) (by decide +kernel)
theorem q_46 : Cond.fieldLink RX2 83 "HeavyFiles$Suit" "worth" "I" ∈ wT := wi_t 46 (by decide +kernel) (by decide +kernel)
theorem q_272 : Cond.fieldLink RX2 9 "HeavyFiles$Guess" "laid" "[I" ∈ wT := wi_t 272 (by decide +kernel) (by decide +kernel)
theorem q_692 : Cond.methodLink RX2 49 Lib.Math.min.name ∈ wT := wi_t 692 (by decide +kernel) (by decide +kernel)
theorem q_701 : Cond.methodLink RX2 75 yX0_worths ∈ wT := wi_t 701 (by decide +kernel) (by decide +kernel)
theorem q_460 : Cond.code yX0_worths cX0_worths 3 (some .int) ∈ wT := wi_t 460 (by decide +kernel) (by decide +kernel)
theorem q_458 : Cond.instanceMethod yX0_worths ∈ wT := wi_t 458 (by decide +kernel) (by decide +kernel)
theorem q_459 : Cond.selects RX0 yX0_worths yX0_worths ∈ wT := wi_t 459 (by decide +kernel) (by decide +kernel)
theorem q_691 : Cond.methodLink RX2 34 yJ7_fill_53178 ∈ wT := wi_t 691 (by decide +kernel) (by decide +kernel)
theorem q_59 : Cond.fieldLink RX2 40 "HeavyFiles$Court" "stocks" "[I" ∈ wT := wi_t 59 (by decide +kernel) (by decide +kernel)
theorem q_70 : Cond.fieldLink RX2 45 "HeavyFiles$Court" "size" "I" ∈ wT := wi_t 70 (by decide +kernel) (by decide +kernel)
theorem q_693 : Cond.methodLink RX2 55 yX2_layEven ∈ wT := wi_t 693 (by decide +kernel) (by decide +kernel)
theorem q_696 : Cond.code yX2_layEven cX2_layEven 4 none ∈ wT := wi_t 696 (by decide +kernel) (by decide +kernel)
theorem q_695 : Cond.instanceMethod yX2_layEven ∈ wT := wi_t 695 (by decide +kernel) (by decide +kernel)
theorem q_11 : Cond.initialized RX2 ∈ wT := wi_t 11 (by decide +kernel) (by decide +kernel)
theorem qs_17 : Cond.selects RX2 yX2_layEven yX2_layEven ∈ wT := wi_s (q := (yX2_layEven, 6)) 17 (by decide +kernel) (by decide +kernel)
theorem q_697 : Cond.methodLink RX2 59 yX2_layByWorth ∈ wT := wi_t 697 (by decide +kernel) (by decide +kernel)
theorem q_700 : Cond.code yX2_layByWorth cX2_layByWorth 8 none ∈ wT := wi_t 700 (by decide +kernel) (by decide +kernel)
theorem q_699 : Cond.instanceMethod yX2_layByWorth ∈ wT := wi_t 699 (by decide +kernel) (by decide +kernel)
theorem qs_18 : Cond.selects RX2 yX2_layByWorth yX2_layByWorth ∈ wT := wi_s (q := (yX2_layByWorth, 6)) 18 (by decide +kernel) (by decide +kernel)
theorem q_703 : Cond.methodLink RX2 63 yX2_greatestOf ∈ wT := wi_t 703 (by decide +kernel) (by decide +kernel)
theorem q_705 : Cond.code yX2_greatestOf cX2_greatestOf 6 (some .int) ∈ wT := wi_t 705 (by decide +kernel) (by decide +kernel)
theorem q_704 : Cond.static yX2_greatestOf ∈ wT := wi_t 704 (by decide +kernel) (by decide +kernel)
theorem q_706 : Cond.methodLink RX2 67 yX0_laidAt ∈ wT := wi_t 706 (by decide +kernel) (by decide +kernel)
theorem q_709 : Cond.code yX0_laidAt cX0_laidAt 2 (some (.array .int)) ∈ wT := wi_t 709 (by decide +kernel) (by decide +kernel)
theorem q_707 : Cond.instanceMethod yX0_laidAt ∈ wT := wi_t 707 (by decide +kernel) (by decide +kernel)
theorem q_708 : Cond.selects RX0 yX0_laidAt yX0_laidAt ∈ wT := wi_t 708 (by decide +kernel) (by decide +kernel)
theorem q_710 : Cond.methodLink RX2 71 yX2_layBack ∈ wT := wi_t 710 (by decide +kernel) (by decide +kernel)
theorem q_713 : Cond.code yX2_layBack cX2_layBack 6 none ∈ wT := wi_t 713 (by decide +kernel) (by decide +kernel)
theorem q_712 : Cond.instanceMethod yX2_layBack ∈ wT := wi_t 712 (by decide +kernel) (by decide +kernel)
theorem qs_19 : Cond.selects RX2 yX2_layBack yX2_layBack ∈ wT := wi_s (q := (yX2_layBack, 6)) 19 (by decide +kernel) (by decide +kernel)
theorem q_79 : Cond.fieldLink RX2 92 "HeavyFiles$Court" "notes" "I" ∈ wT := wi_t 79 (by decide +kernel) (by decide +kernel)
theorem q_737 : Cond.methodLink RX2 95 yX2_layBy ∈ wT := wi_t 737 (by decide +kernel) (by decide +kernel)
theorem q_690 : Cond.code yX2_layBy cX2_layBy 6 none ∈ wT := wi_t 690 (by decide +kernel) (by decide +kernel)
theorem q_688 : Cond.instanceMethod yX2_layBy ∈ wT := wi_t 688 (by decide +kernel) (by decide +kernel)
theorem q_689 : Cond.selects RX2 yX2_layBy yX2_layBy ∈ wT := wi_t 689 (by decide +kernel) (by decide +kernel)
theorem q_274 : Cond.fieldLink RX2 18 "HeavyFiles$Guess" "scale" "LHeavyFiles$Scale;" ∈ wT := wi_t 274 (by decide +kernel) (by decide +kernel)
theorem q_738 : Cond.methodLink RX2 98 yX7_weigh ∈ wT := wi_t 738 (by decide +kernel) (by decide +kernel)
theorem q_739 : Cond.methodLink RX2 102 yX7_wonOf ∈ wT := wi_t 739 (by decide +kernel) (by decide +kernel)
theorem q_742 : Cond.code yX7_wonOf cX7_wonOf 4 (some .int) ∈ wT := wi_t 742 (by decide +kernel) (by decide +kernel)
theorem q_740 : Cond.instanceMethod yX7_wonOf ∈ wT := wi_t 740 (by decide +kernel) (by decide +kernel)
theorem q_741 : Cond.selects RX7 yX7_wonOf yX7_wonOf ∈ wT := wi_t 741 (by decide +kernel) (by decide +kernel)
theorem q_743 : Cond.methodLink RX2 106 yX0_wonAt ∈ wT := wi_t 743 (by decide +kernel) (by decide +kernel)
theorem q_746 : Cond.code yX0_wonAt cX0_wonAt 2 (some .int) ∈ wT := wi_t 746 (by decide +kernel) (by decide +kernel)
theorem q_744 : Cond.instanceMethod yX0_wonAt ∈ wT := wi_t 744 (by decide +kernel) (by decide +kernel)
theorem q_745 : Cond.selects RX0 yX0_wonAt yX0_wonAt ∈ wT := wi_t 745 (by decide +kernel) (by decide +kernel)
theorem q_733 : Cond.methodLink RX2 88 yX2_fits ∈ wT := wi_t 733 (by decide +kernel) (by decide +kernel)
theorem q_736 : Cond.code yX2_fits cX2_fits 5 (some .boolean) ∈ wT := wi_t 736 (by decide +kernel) (by decide +kernel)
theorem q_735 : Cond.instanceMethod yX2_fits ∈ wT := wi_t 735 (by decide +kernel) (by decide +kernel)
theorem qs_20 : Cond.selects RX2 yX2_fits yX2_fits ∈ wT := wi_s (q := (yX2_fits, 6)) 20 (by decide +kernel) (by decide +kernel)
theorem q_275 : Cond.fieldLink RX2 24 "HeavyFiles$Guess" "next" "[[I" ∈ wT := wi_t 275 (by decide +kernel) (by decide +kernel)
theorem q_755 : Cond.methodLink RX2 112 arraycopyName ∈ wT := wi_t 755 (by decide +kernel) (by decide +kernel)
theorem q_278 : Cond.fieldLink RX2 109 "HeavyFiles$Guess" "fitting" "I" ∈ wT := wi_t 278 (by decide +kernel) (by decide +kernel)
theorem q_277 : Cond.fieldLink RX2 31 "HeavyFiles$Guess" "sets" "[I" ∈ wT := wi_t 277 (by decide +kernel) (by decide +kernel)
theorem q_760 : Cond.methodLink RX2 125 yX2_unlikeOnes ∈ wT := wi_t 760 (by decide +kernel) (by decide +kernel)
theorem q_763 : Cond.code yX2_unlikeOnes cX2_unlikeOnes 5 (some .int) ∈ wT := wi_t 763 (by decide +kernel) (by decide +kernel)
theorem q_762 : Cond.instanceMethod yX2_unlikeOnes ∈ wT := wi_t 762 (by decide +kernel) (by decide +kernel)
theorem qs_22 : Cond.selects RX2 yX2_unlikeOnes yX2_unlikeOnes ∈ wT := wi_s (q := (yX2_unlikeOnes, 6)) 22 (by decide +kernel) (by decide +kernel)
theorem q_756 : Cond.methodLink RX2 122 yX2_firstLike ∈ wT := wi_t 756 (by decide +kernel) (by decide +kernel)
theorem q_759 : Cond.code yX2_firstLike cX2_firstLike 5 (some .int) ∈ wT := wi_t 759 (by decide +kernel) (by decide +kernel)
theorem q_758 : Cond.instanceMethod yX2_firstLike ∈ wT := wi_t 758 (by decide +kernel) (by decide +kernel)
theorem qs_21 : Cond.selects RX2 yX2_firstLike yX2_firstLike ∈ wT := wi_s (q := (yX2_firstLike, 6)) 21 (by decide +kernel) (by decide +kernel)
theorem q_751 : Cond.methodLink RX2 118 yX2_prepare ∈ wT := wi_t 751 (by decide +kernel) (by decide +kernel)
theorem q_754 : Cond.code yX2_prepare cX2_prepare 4 none ∈ wT := wi_t 754 (by decide +kernel) (by decide +kernel)
theorem q_752 : Cond.instanceMethod yX2_prepare ∈ wT := wi_t 752 (by decide +kernel) (by decide +kernel)
theorem q_753 : Cond.selects RX2 yX2_prepare yX2_prepare ∈ wT := wi_t 753 (by decide +kernel) (by decide +kernel)
theorem q_276 : Cond.fieldLink RX2 27 "HeavyFiles$Guess" "scales" "[LHeavyFiles$Scale;" ∈ wT := wi_t 276 (by decide +kernel) (by decide +kernel)
theorem kvX0_worths : KV yX0_worths RX0 cX0_worths 3 (some .int) 0 := ⟨q_458, q_459, q_2, q_460, rfl, by decide +kernel, by decide +kernel, by decide +kernel⟩
theorem kvX2_layEven : KV yX2_layEven RX2 cX2_layEven 4 none 2 := ⟨q_695, qs_17, q_11, q_696, rfl, by decide +kernel, by decide +kernel, by decide +kernel⟩
theorem kvX2_layByWorth : KV yX2_layByWorth RX2 cX2_layByWorth 8 none 3 := ⟨q_699, qs_18, q_11, q_700, rfl, by decide +kernel, by decide +kernel, by decide +kernel⟩
theorem kvX2_greatestOf : KS yX2_greatestOf cX2_greatestOf 6 (some .int) 2 := ⟨q_704, q_11, q_705, by decide +kernel, by decide +kernel, by decide +kernel⟩
theorem kvX0_laidAt : KV yX0_laidAt RX0 cX0_laidAt 2 (some (.array .int)) 1 := ⟨q_707, q_708, q_2, q_709, rfl, by decide +kernel, by decide +kernel, by decide +kernel⟩
theorem kvX2_layBack : KV yX2_layBack RX2 cX2_layBack 6 none 3 := ⟨q_712, qs_19, q_11, q_713, rfl, by decide +kernel, by decide +kernel, by decide +kernel⟩
theorem kvX2_layBy : KV yX2_layBy RX2 cX2_layBy 6 none 3 := ⟨q_688, q_689, q_11, q_690, rfl, by decide +kernel, by decide +kernel, by decide +kernel⟩
theorem kvX7_wonOf : KV yX7_wonOf RX7 cX7_wonOf 4 (some .int) 1 := ⟨q_740, q_741, q_5, q_742, rfl, by decide +kernel, by decide +kernel, by decide +kernel⟩
theorem kvX0_wonAt : KV yX0_wonAt RX0 cX0_wonAt 2 (some .int) 1 := ⟨q_744, q_745, q_2, q_746, rfl, by decide +kernel, by decide +kernel, by decide +kernel⟩
theorem kvX2_fits : KV yX2_fits RX2 cX2_fits 5 (some .boolean) 2 := ⟨q_735, qs_20, q_11, q_736, rfl, by decide +kernel, by decide +kernel, by decide +kernel⟩
theorem kvX2_unlikeOnes : KV yX2_unlikeOnes RX2 cX2_unlikeOnes 5 (some .int) 0 := ⟨q_762, qs_22, q_11, q_763, rfl, by decide +kernel, by decide +kernel, by decide +kernel⟩
theorem kvX2_firstLike : KV yX2_firstLike RX2 cX2_firstLike 5 (some .int) 1 := ⟨q_758, qs_21, q_11, q_759, rfl, by decide +kernel, by decide +kernel, by decide +kernel⟩
theorem kvX2_prepare : KV yX2_prepare RX2 cX2_prepare 4 none 2 := ⟨q_752, q_753, q_11, q_754, rfl, by decide +kernel, by decide +kernel, by decide +kernel⟩
/-! HeavyFiles$Guess.greatestOf(LHeavyFiles$Court;I)I -/
def fX2_greatestOf_44 (N : Nat) (k7 : Nat → Int32 → Int32 → Int32 → Int32 → Mm → Option (Int32 × Mm)) (a0 : Nat) (a1 : Int32) (a2 : Int32) (a3 : Int32) (a4 : Int32) (mm : Mm) : Option (Int32 × Mm) :=
  k7 a0 a1 a2 a3 (a4 + 1) mm
def fX2_greatestOf_7 (N : Nat)  : Nat → Nat → Int32 → Int32 → Int32 → Int32 → Mm → Option (Int32 × Mm)
  | 0 => fun _ _ _ _ _ _ => none
  | n + 1 => fun a0 a1 a2 a3 a4 mm =>
    let k7 := fX2_greatestOf_7 N  n
    if a1 ≤ a4 then (some (a2, mm)) else (bd2 (fX0_suitOf N a0 a4 mm) fun x2 m3 => cs x2 (fX2_greatestOf_44 N k7 a0 a1 a2 a3 a4 m3) (fun z5 => if (rd m3 z5 1) ≤ a3 then (fX2_greatestOf_44 N k7 a0 a1 a2 a3 a4 m3) else (fX2_greatestOf_44 N k7 a0 a1 a4 (rd m3 z5 1) a4 m3)))
def fX2_greatestOf (N : Nat)  (a0 : Nat) (a1 : Int32) (mm : Mm) : Option (Int32 × Mm) :=
  fX2_greatestOf_7 N N a0 a1 0 0 0 mm
abbrev rmX2_greatestOf : Room := { frames := 2, cells := 0, slots := 0, locals := 69 }
/-! HeavyFiles$Guess.layBack([III)V -/
def fX2_layBack_6 (N : Nat)  : Nat → Nat → Option Nat → Int32 → Int32 → Int32 → Mm → Option (Unit × Mm)
  | 0 => fun _ _ _ _ _ _ => none
  | n + 1 => fun a0 a1 a2 a4 a5 mm =>
    let k6 := fX2_layBack_6 N  n
    cs a1 (some ((), mm)) (fun z1 => if a2 ≤ a5 then (some ((), mm)) else (if (Int32.ofNat (ln z1)) ≤ a5 then (some ((), mm)) else (gd (inb a5 (ln z1)) <| nm (if a4 < (rd mm z1 a5.toNatClampNeg) then a4 else (rd mm z1 a5.toNatClampNeg)) fun x6 => gd (inb a5 (ln (fr a0 0))) <| nm (wr mm (fr a0 0) a5.toNatClampNeg x6) fun m8 => gd (inb a5 (ln (fr a0 0))) <| nm (a4 - (rd m8 (fr a0 0) a5.toNatClampNeg)) fun x10 => k6 a0 (some z1) a2 x10 (a5 + 1) m8)))
def fX2_layBack (N : Nat)  (a0 : Nat) (a1 : Option Nat) (a2 : Int32) (a3 : Int32) (mm : Mm) : Option (Unit × Mm) :=
  fX2_layBack_6 N N a0 a1 a2 a3 0 mm
abbrev rmX2_layBack : Room := { frames := 2, cells := 0, slots := 0, locals := 69 }
/-! HeavyFiles$Guess.layByWorth(LHeavyFiles$Court;II)V -/
def fX2_layByWorth_75 (N : Nat)  (a0 : Nat) (a5 : Int32) (mm : Mm) : Option (Unit × Mm) :=
  gd (inb 0 (ln (fr a0 0))) <| gd (inb 0 (ln (fr a0 0))) <| nm (wr mm (fr a0 0) (0 : Int32).toNatClampNeg ((rd mm (fr a0 0) ((0 : Int32).toNatClampNeg)) + a5)) fun m3 => some ((), m3)
def fX2_layByWorth_56 (N : Nat) (k12 : Nat → Nat → Int32 → Int32 → Int32 → Int32 → Int32 → Mm → Option (Unit × Mm)) (a0 : Nat) (a1 : Nat) (a2 : Int32) (a3 : Int32) (a4 : Int32) (a5 : Int32) (a6 : Int32) (s0 : Nat) (s1 : Int32) (s2 : Int32) (mm : Mm) : Option (Unit × Mm) :=
  gd (inb s1 (ln s0)) <| nm (wr mm s0 s1.toNatClampNeg s2) fun m5 => gd (inb a6 (ln (fr a0 0))) <| nm (a5 - (rd m5 (fr a0 0) a6.toNatClampNeg)) fun x7 => k12 a0 a1 a2 a3 a4 x7 (a6 + 1) m5
def fX2_layByWorth_12 (N : Nat)  : Nat → Nat → Nat → Int32 → Int32 → Int32 → Int32 → Int32 → Mm → Option (Unit × Mm)
  | 0 => fun _ _ _ _ _ _ _ _ => none
  | n + 1 => fun a0 a1 a2 a3 a4 a5 a6 mm =>
    let k12 := fX2_layByWorth_12 N  n
    if a2 ≤ a6 then (fX2_layByWorth_75 N a0 a5 mm) else (if a4 ≤ 0 then (fX2_layByWorth_75 N a0 a5 mm) else (bd2 (fX0_suitOf N a1 a6 mm) fun x10 m11 => cs x10 (fX2_layByWorth_56 N k12 a0 a1 a2 a3 a4 a5 a6 (fr a0 0) a6 0 m11) (fun z13 => gd (nz a4) <| fX2_layByWorth_56 N k12 a0 a1 a2 a3 a4 a5 a6 (fr a0 0) a6 ((a3 * (rd m11 z13 1)) / a4) m11)))
def fX2_layByWorth (N : Nat)  (a0 : Nat) (a1 : Nat) (a2 : Int32) (a3 : Int32) (mm : Mm) : Option (Unit × Mm) :=
  bd2 (fX0_worths N a1 mm) fun x16 m17 => fX2_layByWorth_12 N N a0 a1 a2 a3 x16 a3 0 m17
abbrev rmX2_layByWorth : Room := { frames := 2, cells := 0, slots := 0, locals := 70 }
/-! HeavyFiles$Guess.layEven(II)V -/
def fX2_layEven_27 (N : Nat) (k2 : Nat → Int32 → Int32 → Int32 → Mm → Option (Unit × Mm)) (a0 : Nat) (a1 : Int32) (a2 : Int32) (a3 : Int32) (s0 : Nat) (s1 : Int32) (s2 : Int32) (s3 : Int32) (mm : Mm) : Option (Unit × Mm) :=
  gd (inb s1 (ln s0)) <| nm (wr mm s0 s1.toNatClampNeg (s2 + s3)) fun m2 => k2 a0 a1 a2 (a3 + 1) m2
def fX2_layEven_2 (N : Nat)  : Nat → Nat → Int32 → Int32 → Int32 → Mm → Option (Unit × Mm)
  | 0 => fun _ _ _ _ _ => none
  | n + 1 => fun a0 a1 a2 a3 mm =>
    let k2 := fX2_layEven_2 N  n
    if a1 ≤ a3 then (some ((), mm)) else (gd (nz a1) <| gd (nz a1) <| if (a2 - a2 / a1 * a1) ≤ a3 then (fX2_layEven_27 N k2 a0 a1 a2 a3 (fr a0 0) a3 (a2 / a1) 0 mm) else (fX2_layEven_27 N k2 a0 a1 a2 a3 (fr a0 0) a3 (a2 / a1) 1 mm))
def fX2_layEven (N : Nat)  (a0 : Nat) (a1 : Int32) (a2 : Int32) (mm : Mm) : Option (Unit × Mm) :=
  fX2_layEven_2 N N a0 a1 a2 0 mm
abbrev rmX2_layEven : Room := { frames := 1, cells := 0, slots := 0, locals := 40 }
/-! HeavyFiles$Guess.layBy(LHeavyFiles$Court;II)V -/
def fX2_layBy (N : Nat)  (a0 : Nat) (a1 : Nat) (a2 : Int32) (a3 : Int32) (mm : Mm) : Option (Unit × Mm) :=
  bd2 (fJ7_fill_53178 N (fr a0 0) 0 mm) fun x1 m2 => gd (inb 1 (ln (fr a1 1))) <| nm (rd m2 (fr a1 1) ((1 : Int32).toNatClampNeg)) fun x5 => nm (if 6 < (rd m2 a1 5) then 6 else (rd m2 a1 5)) fun x6 => if (1 : Int32) ≤ x6 then (if a2 = 0 then (bd2 (fX2_layEven N a0 x6 x5 m2) fun x9 m10 => some ((), m10)) else if a2 = 1 then (bd2 (fX2_layByWorth N a0 a1 x6 x5 m2) fun x13 m14 => some ((), m14)) else if a2 = 2 then (gd (inb 0 (ln (fr a0 0))) <| nm (wr m2 (fr a0 0) (0 : Int32).toNatClampNeg x5) fun m18 => some ((), m18)) else if a2 = 3 then (gd (inb (x6 - 1) (ln (fr a0 0))) <| nm (wr m2 (fr a0 0) (x6 - 1).toNatClampNeg x5) fun m21 => some ((), m21)) else if a2 = 4 then (bd2 (fX2_greatestOf N a1 x6 m2) fun x23 m24 => gd (inb x23 (ln (fr a0 0))) <| nm (wr m24 (fr a0 0) x23.toNatClampNeg x5) fun m27 => some ((), m27)) else (bd2 (fX0_laidAt N a1 (a3 - 1) m2) fun x28 m29 => bd2 (fX2_layBack N a0 x28 x6 x5 m29) fun x31 m32 => some ((), m32))) else (some ((), m2))
abbrev rmX2_layBy : Room := { frames := 3, cells := 0, slots := 0, locals := 105 }
/-! HeavyFiles$Guess.fits(LHeavyFiles$Court;I)Z -/
def fX2_fits_2 (N : Nat)  : Nat → Nat → Nat → Int32 → Int32 → Mm → Option (Int32 × Mm)
  | 0 => fun _ _ _ _ _ => none
  | n + 1 => fun a0 a1 a2 a3 mm =>
    let k2 := fX2_fits_2 N  n
    if (rd mm a1 7) ≤ a3 then (some (1, mm)) else (bd2 (fX0_laidAt N a1 a3 mm) fun x2 m3 => cs x2 (some (0, m3)) (fun z5 => bd2 (fX2_layBy N a0 a1 a2 a3 m3) fun x7 m8 => bd2 (fX7_weigh N (fr a0 1) a1 z5 (fr a0 0) 0 m8) fun x10 m11 => bd2 (fX7_wonOf N (fr a0 1) (rd m11 a1 5) m11) fun x13 m14 => bd2 (fX0_wonAt N a1 a3 m14) fun x16 m17 => if x13 = x16 then (k2 a0 a1 a2 (a3 + 1) m17) else (some (0, m17))))
def fX2_fits (N : Nat)  (a0 : Nat) (a1 : Nat) (a2 : Int32) (mm : Mm) : Option (Int32 × Mm) :=
  fX2_fits_2 N N a0 a1 a2 0 mm
abbrev rmX2_fits : Room := { frames := 4, cells := 0, slots := 0, locals := 138 }
/-! HeavyFiles$Guess.fitting(LHeavyFiles$Court;)I -/
def fX2_fitting_25 (N : Nat) (k4 : Nat → Nat → Int32 → Int32 → Mm → Option (Int32 × Mm)) (a0 : Nat) (a1 : Nat) (a2 : Int32) (a3 : Int32) (mm : Mm) : Option (Int32 × Mm) :=
  k4 a0 a1 a2 (a3 + 1) mm
def fX2_fitting_4 (N : Nat)  : Nat → Nat → Nat → Int32 → Int32 → Mm → Option (Int32 × Mm)
  | 0 => fun _ _ _ _ _ => none
  | n + 1 => fun a0 a1 a2 a3 mm =>
    let k4 := fX2_fitting_4 N  n
    if (6 : Int32) ≤ a3 then (some (a2, mm)) else (bd2 (fX2_fits N a0 a1 a3 mm) fun x2 m3 => if x2 = 0 then (fX2_fitting_25 N k4 a0 a1 a2 a3 m3) else (fX2_fitting_25 N k4 a0 a1 (a2 ||| (1 <<< (a3 &&& 31))) a3 m3))
def fX2_fitting (N : Nat)  (a0 : Nat) (a1 : Nat) (mm : Mm) : Option (Int32 × Mm) :=
  fX2_fitting_4 N N a0 a1 0 0 mm
abbrev rmX2_fitting : Room := { frames := 5, cells := 0, slots := 0, locals := 170 }
/-! HeavyFiles$Guess.firstOf(I)I -/
def fX2_firstOf_2 (N : Nat)  : Nat → Int32 → Int32 → Mm → Option (Int32 × Mm)
  | 0 => fun _ _ _ => none
  | n + 1 => fun a0 a1 mm =>
    let k2 := fX2_firstOf_2 N  n
    if (5 : Int32) ≤ a1 then (some (a1, mm)) else (if ((a0 >>> (a1 &&& 31)) &&& 1) = 0 then (k2 a0 (a1 + 1) mm) else (some (a1, mm)))
def fX2_firstOf (N : Nat)  (a0 : Int32) (mm : Mm) : Option (Int32 × Mm) :=
  fX2_firstOf_2 N N a0 0 mm
abbrev rmX2_firstOf : Room := { frames := 1, cells := 0, slots := 0, locals := 40 }
/-! HeavyFiles$Guess.prepare(LHeavyFiles$Court;I)V -/
def fX2_prepare_7 (N : Nat)  : Nat → Nat → Nat → Int32 → Mm → Option (Unit × Mm)
  | 0 => fun _ _ _ _ => none
  | n + 1 => fun a0 a1 a3 mm =>
    let k7 := fX2_prepare_7 N  n
    if (6 : Int32) ≤ a3 then (some ((), mm)) else (bd2 (fX2_layBy N a0 a1 a3 (rd mm a1 7) mm) fun x2 m3 => gd (inb a3 (ln (fr a0 2))) <| gd (cpok (ln (fr a0 0)) (ln (el (fr a0 2) a3.toNatClampNeg)) 0 0 6) <| nm (cpy m3 (fr a0 0) (el (fr a0 2) a3.toNatClampNeg) 0 0 6) fun m7 => k7 a0 a1 (a3 + 1) m7)
def fX2_prepare (N : Nat)  (a0 : Nat) (a1 : Nat) (a2 : Int32) (mm : Mm) : Option (Unit × Mm) :=
  nm (wr mm a0 5 a2) fun m8 => fX2_prepare_7 N N a0 a1 0 m8
abbrev rmX2_prepare : Room := { frames := 4, cells := 0, slots := 0, locals := 138 }
/-! HeavyFiles$Guess.firstLike(I)I -/
def fX2_firstLike_64 (N : Nat) (k2 : Nat → Int32 → Int32 → Mm → Option (Int32 × Mm)) (k27 : Nat → Int32 → Int32 → Int32 → Int32 → Mm → Option (Int32 × Mm)) (a0 : Nat) (a1 : Int32) (a2 : Int32) (a4 : Int32) (s0 : Int32) (mm : Mm) : Option (Int32 × Mm) :=
  k27 a0 a1 a2 s0 (a4 + 1) mm
def fX2_firstLike_63 (N : Nat) (k2 : Nat → Int32 → Int32 → Mm → Option (Int32 × Mm)) (k27 : Nat → Int32 → Int32 → Int32 → Int32 → Mm → Option (Int32 × Mm)) (a0 : Nat) (a1 : Int32) (a2 : Int32) (a4 : Int32) (mm : Mm) : Option (Int32 × Mm) :=
  fX2_firstLike_64 N k2 k27 a0 a1 a2 a4 0 mm
def fX2_firstLike_27 (N : Nat) (k2 : Nat → Int32 → Int32 → Mm → Option (Int32 × Mm)) : Nat → Nat → Int32 → Int32 → Int32 → Int32 → Mm → Option (Int32 × Mm)
  | 0 => fun _ _ _ _ _ _ => none
  | n + 1 => fun a0 a1 a2 a3 a4 mm =>
    let k27 := fX2_firstLike_27 N k2 n
    if (6 : Int32) ≤ a4 then (if a3 = 0 then (k2 a0 a1 (a2 + 1) mm) else (some (a2, mm))) else (if a3 = 0 then (fX2_firstLike_63 N k2 k27 a0 a1 a2 a4 mm) else (gd (inb a2 (ln (fr a0 2))) <| gd (inb a4 (ln (el (fr a0 2) a2.toNatClampNeg))) <| gd (inb a1 (ln (fr a0 2))) <| gd (inb a4 (ln (el (fr a0 2) a1.toNatClampNeg))) <| if (rd mm (el (fr a0 2) a2.toNatClampNeg) a4.toNatClampNeg) = (rd mm (el (fr a0 2) a1.toNatClampNeg) a4.toNatClampNeg) then (fX2_firstLike_64 N k2 k27 a0 a1 a2 a4 1 mm) else (fX2_firstLike_63 N k2 k27 a0 a1 a2 a4 mm)))
def fX2_firstLike_23 (N : Nat) (k2 : Nat → Int32 → Int32 → Mm → Option (Int32 × Mm)) (a0 : Nat) (a1 : Int32) (a2 : Int32) (s0 : Int32) (mm : Mm) : Option (Int32 × Mm) :=
  fX2_firstLike_27 N k2 N a0 a1 a2 s0 0 mm
def fX2_firstLike_2 (N : Nat)  : Nat → Nat → Int32 → Int32 → Mm → Option (Int32 × Mm)
  | 0 => fun _ _ _ _ => none
  | n + 1 => fun a0 a1 a2 mm =>
    let k2 := fX2_firstLike_2 N  n
    if a1 ≤ a2 then (some (a1, mm)) else (if (((rd mm a0 5) >>> (a2 &&& 31)) &&& 1) = 0 then (fX2_firstLike_23 N k2 a0 a1 a2 0 mm) else (fX2_firstLike_23 N k2 a0 a1 a2 1 mm))
def fX2_firstLike (N : Nat)  (a0 : Nat) (a1 : Int32) (mm : Mm) : Option (Int32 × Mm) :=
  fX2_firstLike_2 N N a0 a1 0 mm
abbrev rmX2_firstLike : Room := { frames := 1, cells := 0, slots := 0, locals := 40 }
/-! HeavyFiles$Guess.unlikeOnes()I -/
def fX2_unlikeOnes_87 (N : Nat) (k4 : Nat → Int32 → Int32 → Mm → Option (Int32 × Mm)) (a0 : Nat) (a1 : Int32) (a2 : Int32) (mm : Mm) : Option (Int32 × Mm) :=
  k4 a0 a1 (a2 + 1) mm
def fX2_unlikeOnes_73 (N : Nat) (k4 : Nat → Int32 → Int32 → Mm → Option (Int32 × Mm)) (k30 : Nat → Int32 → Int32 → Int32 → Int32 → Mm → Option (Int32 × Mm)) (a0 : Nat) (a1 : Int32) (a2 : Int32) (a4 : Int32) (s0 : Int32) (mm : Mm) : Option (Int32 × Mm) :=
  k30 a0 a1 a2 s0 (a4 + 1) mm
def fX2_unlikeOnes_72 (N : Nat) (k4 : Nat → Int32 → Int32 → Mm → Option (Int32 × Mm)) (k30 : Nat → Int32 → Int32 → Int32 → Int32 → Mm → Option (Int32 × Mm)) (a0 : Nat) (a1 : Int32) (a2 : Int32) (a4 : Int32) (mm : Mm) : Option (Int32 × Mm) :=
  fX2_unlikeOnes_73 N k4 k30 a0 a1 a2 a4 0 mm
def fX2_unlikeOnes_68 (N : Nat) (k4 : Nat → Int32 → Int32 → Mm → Option (Int32 × Mm)) (k30 : Nat → Int32 → Int32 → Int32 → Int32 → Mm → Option (Int32 × Mm)) (a0 : Nat) (a1 : Int32) (a2 : Int32) (a4 : Int32) (mm : Mm) : Option (Int32 × Mm) :=
  fX2_unlikeOnes_73 N k4 k30 a0 a1 a2 a4 1 mm
def fX2_unlikeOnes_30 (N : Nat) (k4 : Nat → Int32 → Int32 → Mm → Option (Int32 × Mm)) : Nat → Nat → Int32 → Int32 → Int32 → Int32 → Mm → Option (Int32 × Mm)
  | 0 => fun _ _ _ _ _ _ => none
  | n + 1 => fun a0 a1 a2 a3 a4 mm =>
    let k30 := fX2_unlikeOnes_30 N k4 n
    if a2 ≤ a4 then (if a3 = 0 then (fX2_unlikeOnes_87 N k4 a0 a1 a2 mm) else (fX2_unlikeOnes_87 N k4 a0 (a1 + 1) a2 mm)) else (if a3 = 0 then (fX2_unlikeOnes_72 N k4 k30 a0 a1 a2 a4 mm) else (if (((rd mm a0 5) >>> (a4 &&& 31)) &&& 1) = 0 then (fX2_unlikeOnes_68 N k4 k30 a0 a1 a2 a4 mm) else (gd (inb a4 (ln (fr a0 4))) <| gd (inb a2 (ln (fr a0 4))) <| if (rd mm (fr a0 4) a4.toNatClampNeg) = (rd mm (fr a0 4) a2.toNatClampNeg) then (fX2_unlikeOnes_72 N k4 k30 a0 a1 a2 a4 mm) else (fX2_unlikeOnes_68 N k4 k30 a0 a1 a2 a4 mm))))
def fX2_unlikeOnes_26 (N : Nat) (k4 : Nat → Int32 → Int32 → Mm → Option (Int32 × Mm)) (a0 : Nat) (a1 : Int32) (a2 : Int32) (s0 : Int32) (mm : Mm) : Option (Int32 × Mm) :=
  fX2_unlikeOnes_30 N k4 N a0 a1 a2 s0 0 mm
def fX2_unlikeOnes_4 (N : Nat)  : Nat → Nat → Int32 → Int32 → Mm → Option (Int32 × Mm)
  | 0 => fun _ _ _ _ => none
  | n + 1 => fun a0 a1 a2 mm =>
    let k4 := fX2_unlikeOnes_4 N  n
    if (6 : Int32) ≤ a2 then (some (a1, mm)) else (if (((rd mm a0 5) >>> (a2 &&& 31)) &&& 1) = 0 then (fX2_unlikeOnes_26 N k4 a0 a1 a2 0 mm) else (fX2_unlikeOnes_26 N k4 a0 a1 a2 1 mm))
def fX2_unlikeOnes (N : Nat)  (a0 : Nat) (mm : Mm) : Option (Int32 × Mm) :=
  fX2_unlikeOnes_4 N N a0 0 0 mm
abbrev rmX2_unlikeOnes : Room := { frames := 1, cells := 0, slots := 0, locals := 40 }
/-! HeavyFiles$Guess.unlikeLayings(LHeavyFiles$Court;I)I -/
def fX2_unlikeLayings_8 (N : Nat)  : Nat → Nat → Int32 → Mm → Option (Int32 × Mm)
  | 0 => fun _ _ _ => none
  | n + 1 => fun a0 a3 mm =>
    let k8 := fX2_unlikeLayings_8 N  n
    if (6 : Int32) ≤ a3 then (bd2 (fX2_unlikeOnes N a0 mm) fun x2 m3 => some (x2, m3)) else (bd2 (fX2_firstLike N a0 a3 mm) fun x5 m6 => gd (inb a3 (ln (fr a0 4))) <| nm (wr m6 (fr a0 4) a3.toNatClampNeg x5) fun m9 => k8 a0 (a3 + 1) m9)
def fX2_unlikeLayings (N : Nat)  (a0 : Nat) (a1 : Nat) (a2 : Int32) (mm : Mm) : Option (Int32 × Mm) :=
  bd2 (fX2_prepare N a0 a1 a2 mm) fun x10 m11 => fX2_unlikeLayings_8 N N a0 0 m11
abbrev rmX2_unlikeLayings : Room := { frames := 5, cells := 0, slots := 0, locals := 169 }
/-! HeavyFiles$Guess.unlikeSets(LHeavyFiles$Court;[II)I -/
def fX2_unlikeSets_63 (N : Nat) (k3 : Nat → Nat → Nat → Int32 → Int32 → Mm → Option (Int32 × Mm)) (a0 : Nat) (a1 : Nat) (a2 : Nat) (a3 : Int32) (a4 : Int32) (mm : Mm) : Option (Int32 × Mm) :=
  k3 a0 a1 a2 a3 (a4 + 1) mm
def fX2_unlikeSets_3 (N : Nat)  : Nat → Nat → Nat → Nat → Int32 → Int32 → Mm → Option (Int32 × Mm)
  | 0 => fun _ _ _ _ _ _ => none
  | n + 1 => fun a0 a1 a2 a3 a4 mm =>
    let k3 := fX2_unlikeSets_3 N  n
    if (6 : Int32) ≤ a4 then (bd2 (fX2_unlikeOnes N a0 mm) fun x2 m3 => some (x2, m3)) else (if (((rd mm a0 5) >>> (a4 &&& 31)) &&& 1) = 0 then (fX2_unlikeSets_63 N k3 a0 a1 a2 a3 a4 mm) else (gd (inb a4 (ln (fr a0 3))) <| gd (inb a4 (ln (fr a0 2))) <| bd2 (fX7_weigh N (el (fr a0 3) a4.toNatClampNeg) a1 a2 (el (fr a0 2) a4.toNatClampNeg) a3 mm) fun x8 m9 => gd (inb a4 (ln (fr a0 3))) <| bd2 (fX7_wonOf N (el (fr a0 3) a4.toNatClampNeg) (rd m9 a1 5) m9) fun x12 m13 => gd (inb a4 (ln (fr a0 4))) <| nm (wr m13 (fr a0 4) a4.toNatClampNeg x12) fun m16 => fX2_unlikeSets_63 N k3 a0 a1 a2 a3 a4 m16))
def fX2_unlikeSets (N : Nat)  (a0 : Nat) (a1 : Nat) (a2 : Nat) (a3 : Int32) (mm : Mm) : Option (Int32 × Mm) :=
  fX2_unlikeSets_3 N N a0 a1 a2 a3 0 mm
abbrev rmX2_unlikeSets : Room := { frames := 4, cells := 0, slots := 0, locals := 136 }
section W_guess13
variable {p : Program} {l : Launch} {e : Env} {s : State} {m : MethodId} {args : Array Value} {below : List Frame} {meth : Method} {c : Code} {D : va_G} {ca ad : Nat → Nat}
set_option maxRecDepth 100000 in
set_option maxHeartbeats 4000000 in
theorem wX2_greatestOf_44 (C : Cx p s m meth c args cX2_greatestOf 6 (some .int) RX2 D ca ad) {res : Int32 × Mm} {N : Nat} {k7 : Nat → Int32 → Int32 → Int32 → Int32 → Mm → Option (Int32 × Mm)} (hk7 : ∀ (a0 : Nat) (a1 : Int32) (a2 : Int32) (a3 : Int32) (a4 : Int32) (mm : Mm) (H : Heap) (locs : List Loc) (ls : Array Slot), (sX0 a0) → Wd D ca ad s.heap mm H locs → lv_has ls 6 [(0, .ref (ad a0)), (1, .int a1), (2, .int a2), (3, .int a3), (4, .int a4)] → k7 a0 a1 a2 a3 a4 mm = some res → W p l e (rmX2_greatestOf) s m args below meth c H locs 0 0 (MQ below (QI D ca ad res) args s 0 0 (AA ad)) (F0 m 7 ls [])) {a0 : Nat} {a1 : Int32} {a2 : Int32} {a3 : Int32} {a4 : Int32} {mm : Mm} {H : Heap} {locs : List Loc} {ls : Array Slot} (ha0 : sX0 a0) (hW : Wd D ca ad s.heap mm H locs) (hl : lv_has ls 6 [(0, .ref (ad a0)), (1, .int a1), (2, .int a2), (3, .int a3), (4, .int a4)]) (hf : fX2_greatestOf_44 N k7 a0 a1 a2 a3 a4 mm = some res) : W p l e (rmX2_greatestOf) s m args below meth c H locs 0 0 (MQ below (QI D ca ad res) args s 0 0 (AA ad)) (F0 m 44 ls []) := by
  unfold fX2_greatestOf_44 at hf
  refine lv_iinc (v := (a4 + 1)) (lv' := [(4, .int (a4 + 1)), (0, .ref (ad a0)), (1, .int a1), (2, .int a2), (3, .int a3)]) C.1 C.2.1 dX2_greatestOf_44 hl (k := 4) rfl rfl (by decide) rfl (fun ls hl => ?_)
  refine lv_goto (tgt := 7) C.1 C.2.1 dX2_greatestOf_47 (by decide) ?_
  exact hk7 _ _ _ _ _ _ _ _ _ ha0 hW (lv_sub hl [1, 2, 3, 4, 0] rfl) hf
set_option maxRecDepth 100000 in
set_option maxHeartbeats 4000000 in
theorem wX2_greatestOf_7 (C : Cx p s m meth c args cX2_greatestOf 6 (some .int) RX2 D ca ad) {res : Int32 × Mm} {N : Nat}  : ∀ (n : Nat) {a0 : Nat} {a1 : Int32} {a2 : Int32} {a3 : Int32} {a4 : Int32} {mm : Mm} {H : Heap} {locs : List Loc} {ls : Array Slot}, (sX0 a0) → Wd D ca ad s.heap mm H locs → lv_has ls 6 [(0, .ref (ad a0)), (1, .int a1), (2, .int a2), (3, .int a3), (4, .int a4)] → fX2_greatestOf_7 N n a0 a1 a2 a3 a4 mm = some res → W p l e (rmX2_greatestOf) s m args below meth c H locs 0 0 (MQ below (QI D ca ad res) args s 0 0 (AA ad)) (F0 m 7 ls []) := by
  intro n
  induction n with
  | zero => intro a0 a1 a2 a3 a4 mm H locs ls ha0 hW hl hf; cases hf
  | succ n ih =>
    intro a0 a1 a2 a3 a4 mm H locs ls ha0 hW hl hf
    have hk7 : ∀ (a0 : Nat) (a1 : Int32) (a2 : Int32) (a3 : Int32) (a4 : Int32) (mm : Mm) (H : Heap) (locs : List Loc) (ls : Array Slot), (sX0 a0) → Wd D ca ad s.heap mm H locs → lv_has ls 6 [(0, .ref (ad a0)), (1, .int a1), (2, .int a2), (3, .int a3), (4, .int a4)] → (fX2_greatestOf_7 N n) a0 a1 a2 a3 a4 mm = some res → W p l e (rmX2_greatestOf) s m args below meth c H locs 0 0 (MQ below (QI D ca ad res) args s 0 0 (AA ad)) (F0 m 7 ls []) := fun a0 a1 a2 a3 a4 mm H locs ls ha0 hW hl hf => ih ha0 hW hl hf
    unfold fX2_greatestOf_7 at hf
    try dsimp only at hf
    refine lv_iload C.1 C.2.1 dX2_greatestOf_7 (lv_at hl 4 rfl) ?_
    refine lv_iload_n C.1 C.2.1 dX2_greatestOf_9 rfl (lv_at hl 1 rfl) ?_
    refine lv_icmp_ge (tgt := 50) C.1 C.2.1 dX2_greatestOf_10 (by decide) (fun c1 => ?_) (fun c1 => ?_)
    · have hf := if_t c1 hf
      refine lv_iload_n C.1 C.2.1 dX2_greatestOf_50 rfl (lv_at hl 2 rfl) ?_
      cases hf
      exact x_iret C hW dX2_greatestOf_51
    · have hf := if_f c1 hf
      refine lv_aload_n C.1 C.2.1 dX2_greatestOf_13 rfl (lv_at hl 0 rfl) ?_
      refine lv_iload C.1 C.2.1 dX2_greatestOf_14 (lv_at hl 4 rfl) ?_
      obtain ⟨x2, m3, r4, hf⟩ := bd2_s hf
      refine x_cr hW (x_runV C hW [.int a4] [] (ha0).1 (ha0).2.1 kX0.1 kvX0_suitOf q_702 (tX0_suitOf l C.2.2.2.2.2.2.1 ha0 r4) rfl rfl ⟨by decide, by decide⟩ rfl hl.1 rfl (Nat.le_of_ble_eq_true rfl) dX2_greatestOf_16) (fun H locs hW => ?_)
      refine x_astore (lv' := [(5, va_re ad x2), (0, .ref (ad a0)), (1, .int a1), (2, .int a2), (3, .int a3), (4, .int a4)]) C dX2_greatestOf_19 hl (by decide) rfl (fun ls hl => ?_)
      refine x_aload C dX2_greatestOf_21 (lv_at hl 0 rfl) ?_
      refine x_ifnull C (tgt := 44) dX2_greatestOf_23 (by decide) (fun n6 => ?_) (fun z5 n6 => ?_)
      · subst n6
        have hf := cs_n hf
        exact wX2_greatestOf_44 C hk7 ha0 hW (lv_sub hl [1, 2, 3, 4, 5] rfl) hf
      · subst n6
        have hf := cs_q hf
        refine lv_aload C.1 C.2.1 dX2_greatestOf_26 (lv_at hl 0 rfl) ?_
        refine x_geti C hW (((gX0_suitOf ha0 r4) z5 rfl)).1 (((gX0_suitOf ha0 r4) z5 rfl)).2.1 (j := 1) rfl kX9 (by decide) rfl q_46 dX2_greatestOf_28 ?_
        refine lv_iload_n C.1 C.2.1 dX2_greatestOf_31 rfl (lv_at hl 4 rfl) ?_
        refine lv_icmp_le (tgt := 44) C.1 C.2.1 dX2_greatestOf_32 (by decide) (fun c7 => ?_) (fun c7 => ?_)
        · have hf := if_t c7 hf
          exact wX2_greatestOf_44 C hk7 ha0 hW (lv_sub hl [1, 2, 3, 4, 5] rfl) hf
        · have hf := if_f c7 hf
          refine lv_iload C.1 C.2.1 dX2_greatestOf_35 (lv_at hl 5 rfl) ?_
          refine lv_istore_n (lv' := [(2, .int a4), (5, .ref (ad z5)), (0, .ref (ad a0)), (1, .int a1), (3, .int a3), (4, .int a4)]) C.1 C.2.1 dX2_greatestOf_37 rfl hl (by decide) rfl (fun ls hl => ?_)
          refine lv_aload C.1 C.2.1 dX2_greatestOf_38 (lv_at hl 1 rfl) ?_
          refine x_geti C hW (((gX0_suitOf ha0 r4) z5 rfl)).1 (((gX0_suitOf ha0 r4) z5 rfl)).2.1 (j := 1) rfl kX9 (by decide) rfl q_46 dX2_greatestOf_40 ?_
          refine lv_istore_n (lv' := [(3, .int (rd m3 z5 1)), (2, .int a4), (5, .ref (ad z5)), (0, .ref (ad a0)), (1, .int a1), (4, .int a4)]) C.1 C.2.1 dX2_greatestOf_43 rfl hl (by decide) rfl (fun ls hl => ?_)
          exact wX2_greatestOf_44 C hk7 ha0 hW (lv_sub hl [3, 4, 1, 0, 5] rfl) hf
set_option maxRecDepth 100000 in
set_option maxHeartbeats 4000000 in
theorem wX2_greatestOf_0 (C : Cx p s m meth c args cX2_greatestOf 6 (some .int) RX2 D ca ad) {res : Int32 × Mm} {N : Nat}  {a0 : Nat} {a1 : Int32} {mm : Mm} {H : Heap} {locs : List Loc} {ls : Array Slot} (ha0 : sX0 a0) (hW : Wd D ca ad s.heap mm H locs) (hl : lv_has ls 6 [(0, .ref (ad a0)), (1, .int a1)]) (hf : fX2_greatestOf N a0 a1 mm = some res) : W p l e (rmX2_greatestOf) s m args below meth c H locs 0 0 (MQ below (QI D ca ad res) args s 0 0 (AA ad)) (F0 m 0 ls []) := by
  unfold fX2_greatestOf at hf
  refine lv_iconst (v := 0) C.1 C.2.1 dX2_greatestOf_0 (by decide) ?_
  refine lv_istore_n (lv' := [(2, .int 0), (0, .ref (ad a0)), (1, .int a1)]) C.1 C.2.1 dX2_greatestOf_1 rfl hl (by decide) rfl (fun ls hl => ?_)
  refine lv_iconst (v := 0) C.1 C.2.1 dX2_greatestOf_2 (by decide) ?_
  refine lv_istore_n (lv' := [(3, .int 0), (2, .int 0), (0, .ref (ad a0)), (1, .int a1)]) C.1 C.2.1 dX2_greatestOf_3 rfl hl (by decide) rfl (fun ls hl => ?_)
  refine lv_iconst (v := 0) C.1 C.2.1 dX2_greatestOf_4 (by decide) ?_
  refine lv_istore (lv' := [(4, .int 0), (3, .int 0), (2, .int 0), (0, .ref (ad a0)), (1, .int a1)]) C.1 C.2.1 dX2_greatestOf_5 hl (by decide) rfl (fun ls hl => ?_)
  exact wX2_greatestOf_7 C  N ha0 hW (lv_sub hl [3, 4, 2, 1, 0] rfl) hf
set_option maxRecDepth 100000 in
set_option maxHeartbeats 4000000 in
theorem tX2_greatestOf (l : Launch) {D : va_G} {ca ad : Nat → Nat} (hi : Inj ad) {N : Nat} {a0 : Nat} {a1 : Int32} {mm : Mm} {res : Int32 × Mm} (ha0 : sX0 a0) (hf : fX2_greatestOf N a0 a1 mm = some res) : Met l yX2_greatestOf (WS yX2_greatestOf cX2_greatestOf 6 (some .int)) (rmX2_greatestOf) (va_Pc [.ref (ad a0), .int a1] (WB D ca ad mm)) (QI D ca ad res) 0 0 (AA ad) := by
  refine x_start hi (by decide) rfl (Nat.le_of_ble_eq_true rfl) (fun p e s m args below meth c ls C hW hl => ?_)
  exact wX2_greatestOf_0 C ha0 hW (lv_sub hl [0, 1] rfl) hf
set_option maxRecDepth 100000 in
set_option maxHeartbeats 4000000 in
theorem wX2_layBack_6 (C : Cx p s m meth c args cX2_layBack 6 none RX2 D ca ad) {res : Unit × Mm} {N : Nat}  : ∀ (n : Nat) {a0 : Nat} {a1 : Option Nat} {a2 : Int32} {a4 : Int32} {a5 : Int32} {mm : Mm} {H : Heap} {locs : List Loc} {ls : Array Slot}, (sX2 a0) → (∀ q, a1 = some q → sI q) → Wd D ca ad s.heap mm H locs → lv_has ls 6 [(0, .ref (ad a0)), (1, va_re ad a1), (2, .int a2), (4, .int a4), (5, .int a5)] → fX2_layBack_6 N n a0 a1 a2 a4 a5 mm = some res → W p l e (rmX2_layBack) s m args below meth c H locs 0 0 (MQ below (QV D ca ad res) args s 0 0 (AA ad)) (F0 m 6 ls []) := by
  intro n
  induction n with
  | zero => intro a0 a1 a2 a4 a5 mm H locs ls ha0 ha1 hW hl hf; cases hf
  | succ n ih =>
    intro a0 a1 a2 a4 a5 mm H locs ls ha0 ha1 hW hl hf
    have hk6 : ∀ (a0 : Nat) (a1 : Option Nat) (a2 : Int32) (a4 : Int32) (a5 : Int32) (mm : Mm) (H : Heap) (locs : List Loc) (ls : Array Slot), (sX2 a0) → (∀ q, a1 = some q → sI q) → Wd D ca ad s.heap mm H locs → lv_has ls 6 [(0, .ref (ad a0)), (1, va_re ad a1), (2, .int a2), (4, .int a4), (5, .int a5)] → (fX2_layBack_6 N n) a0 a1 a2 a4 a5 mm = some res → W p l e (rmX2_layBack) s m args below meth c H locs 0 0 (MQ below (QV D ca ad res) args s 0 0 (AA ad)) (F0 m 6 ls []) := fun a0 a1 a2 a4 a5 mm H locs ls ha0 ha1 hW hl hf => ih ha0 ha1 hW hl hf
    unfold fX2_layBack_6 at hf
    try dsimp only at hf
    refine x_aload_n C dX2_layBack_6 rfl (lv_at hl 1 rfl) ?_
    refine x_ifnull C (tgt := 57) dX2_layBack_7 (by decide) (fun n2 => ?_) (fun z1 n2 => ?_)
    · subst n2
      have hf := cs_n hf
      cases hf
      exact x_vret C hW dX2_layBack_57
    · subst n2
      have hf := cs_q hf
      refine lv_iload C.1 C.2.1 dX2_layBack_10 (lv_at hl 4 rfl) ?_
      refine lv_iload_n C.1 C.2.1 dX2_layBack_12 rfl (lv_at hl 2 rfl) ?_
      refine lv_icmp_ge (tgt := 57) C.1 C.2.1 dX2_layBack_13 (by decide) (fun c3 => ?_) (fun c3 => ?_)
      · have hf := if_t c3 hf
        cases hf
        exact x_vret C hW dX2_layBack_57
      · have hf := if_f c3 hf
        refine lv_iload C.1 C.2.1 dX2_layBack_16 (lv_at hl 4 rfl) ?_
        refine lv_aload_n C.1 C.2.1 dX2_layBack_18 rfl (lv_at hl 1 rfl) ?_
        refine x_alen C hW (ha1 z1 rfl) dX2_layBack_19 ?_
        refine lv_icmp_ge (tgt := 57) C.1 C.2.1 dX2_layBack_20 (by decide) (fun c4 => ?_) (fun c4 => ?_)
        · have hf := if_t c4 hf
          cases hf
          exact x_vret C hW dX2_layBack_57
        · have hf := if_f c4 hf
          refine lv_aload_n C.1 C.2.1 dX2_layBack_23 rfl (lv_at hl 0 rfl) ?_
          refine x_getr C hW (ha0).1 (ha0).2.1 (j := 0) rfl kX2 (by decide) rfl q_272 dX2_layBack_24 ?_
          refine lv_iload C.1 C.2.1 dX2_layBack_27 (lv_at hl 4 rfl) ?_
          refine lv_aload_n C.1 C.2.1 dX2_layBack_29 rfl (lv_at hl 1 rfl) ?_
          refine lv_iload C.1 C.2.1 dX2_layBack_30 (lv_at hl 4 rfl) ?_
          obtain ⟨g5, hf⟩ := gd_s hf
          refine x_iald C hW (ha1 z1 rfl) g5 dX2_layBack_32 ?_
          refine lv_iload C.1 C.2.1 dX2_layBack_33 (lv_at hl 3 rfl) ?_
          refine va_mmin C.1 C.2.1 (C.2.2.1.trans hl.1.symm) C.2.2.2.1 (C.2.2.2.2.1 _ q_692) (C.2.2.2.2.1 _ q_421) (C.2.2.2.2.1 _ q_15) (C.2.2.2.2.1 _ q_422) (by decide) (Nat.le_of_ble_eq_true rfl) (Nat.zero_le _) (Nat.zero_le _) dX2_layBack_35 ?_
          refine lv_topi (fun x6 ex6 => ?_)
          have hf := nm_s hf ex6
          obtain ⟨g7, hf⟩ := gd_s hf
          refine x_iast C hW ha0.2.2.1 g7 dX2_layBack_38 (fun H locs hW => ?_)
          obtain ⟨m8, em8⟩ : ∃ z, z = wr mm (fr a0 0) a5.toNatClampNeg x6 := ⟨_, rfl⟩
          have hf := nm_s hf em8
          rw [← em8] at hW
          refine lv_iload C.1 C.2.1 dX2_layBack_39 (lv_at hl 3 rfl) ?_
          refine lv_aload_n C.1 C.2.1 dX2_layBack_41 rfl (lv_at hl 0 rfl) ?_
          refine x_getr C hW (ha0).1 (ha0).2.1 (j := 0) rfl kX2 (by decide) rfl q_272 dX2_layBack_42 ?_
          refine lv_iload C.1 C.2.1 dX2_layBack_45 (lv_at hl 4 rfl) ?_
          obtain ⟨g9, hf⟩ := gd_s hf
          refine x_iald C hW ha0.2.2.1 g9 dX2_layBack_47 ?_
          refine lv_isub C.1 C.2.1 dX2_layBack_48 ?_
          refine lv_topi (fun x10 ex10 => ?_)
          have hf := nm_s hf ex10
          refine lv_istore (lv' := [(4, .int x10), (0, .ref (ad a0)), (1, .ref (ad z1)), (2, .int a2), (5, .int a5)]) C.1 C.2.1 dX2_layBack_49 hl (by decide) rfl (fun ls hl => ?_)
          refine lv_iinc (v := (a5 + 1)) (lv' := [(5, .int (a5 + 1)), (4, .int x10), (0, .ref (ad a0)), (1, .ref (ad z1)), (2, .int a2)]) C.1 C.2.1 dX2_layBack_51 hl (k := 4) rfl rfl (by decide) rfl (fun ls hl => ?_)
          refine lv_goto (tgt := 6) C.1 C.2.1 dX2_layBack_54 (by decide) ?_
          exact hk6 _ _ _ _ _ _ _ _ _ ha0 (fun q hq => by cases hq; exact (ha1 z1 rfl)) hW (lv_sub hl [2, 3, 4, 1, 0] rfl) hf
set_option maxRecDepth 100000 in
set_option maxHeartbeats 4000000 in
theorem wX2_layBack_0 (C : Cx p s m meth c args cX2_layBack 6 none RX2 D ca ad) {res : Unit × Mm} {N : Nat}  {a0 : Nat} {a1 : Option Nat} {a2 : Int32} {a3 : Int32} {mm : Mm} {H : Heap} {locs : List Loc} {ls : Array Slot} (ha0 : sX2 a0) (ha1 : ∀ q, a1 = some q → sI q) (hW : Wd D ca ad s.heap mm H locs) (hl : lv_has ls 6 [(0, .ref (ad a0)), (1, va_re ad a1), (2, .int a2), (3, .int a3)]) (hf : fX2_layBack N a0 a1 a2 a3 mm = some res) : W p l e (rmX2_layBack) s m args below meth c H locs 0 0 (MQ below (QV D ca ad res) args s 0 0 (AA ad)) (F0 m 0 ls []) := by
  unfold fX2_layBack at hf
  refine lv_iload_n C.1 C.2.1 dX2_layBack_0 rfl (lv_at hl 3 rfl) ?_
  refine lv_istore (lv' := [(4, .int a3), (0, .ref (ad a0)), (1, va_re ad a1), (2, .int a2), (3, .int a3)]) C.1 C.2.1 dX2_layBack_1 hl (by decide) rfl (fun ls hl => ?_)
  refine lv_iconst (v := 0) C.1 C.2.1 dX2_layBack_3 (by decide) ?_
  refine lv_istore (lv' := [(5, .int 0), (4, .int a3), (0, .ref (ad a0)), (1, va_re ad a1), (2, .int a2), (3, .int a3)]) C.1 C.2.1 dX2_layBack_4 hl (by decide) rfl (fun ls hl => ?_)
  exact wX2_layBack_6 C  N ha0 ha1 hW (lv_sub hl [2, 3, 4, 1, 0] rfl) hf
set_option maxRecDepth 100000 in
set_option maxHeartbeats 4000000 in
theorem tX2_layBack (l : Launch) {D : va_G} {ca ad : Nat → Nat} (hi : Inj ad) {N : Nat} {a0 : Nat} {a1 : Option Nat} {a2 : Int32} {a3 : Int32} {mm : Mm} {res : Unit × Mm} (ha0 : sX2 a0) (ha1 : ∀ q, a1 = some q → sI q) (hf : fX2_layBack N a0 a1 a2 a3 mm = some res) : Met l yX2_layBack (WS yX2_layBack cX2_layBack 6 none) (rmX2_layBack) (va_Pc [.ref (ad a0), va_re ad a1, .int a2, .int a3] (WB D ca ad mm)) (QV D ca ad res) 0 0 (AA ad) := by
  rcases a1 with _ | a1
  all_goals
    refine x_start hi (by decide) rfl (Nat.le_of_ble_eq_true rfl) (fun p e s m args below meth c ls C hW hl => ?_)
    exact wX2_layBack_0 C ha0 ha1 hW (lv_sub hl [0, 1, 2, 3] rfl) hf
set_option maxRecDepth 100000 in
set_option maxHeartbeats 4000000 in
theorem wX2_layByWorth_75 (C : Cx p s m meth c args cX2_layByWorth 8 none RX2 D ca ad) {res : Unit × Mm} {N : Nat}  {a0 : Nat} {a5 : Int32} {mm : Mm} {H : Heap} {locs : List Loc} {ls : Array Slot} (ha0 : sX2 a0) (hW : Wd D ca ad s.heap mm H locs) (hl : lv_has ls 8 [(0, .ref (ad a0)), (5, .int a5)]) (hf : fX2_layByWorth_75 N a0 a5 mm = some res) : W p l e (rmX2_layByWorth) s m args below meth c H locs 0 0 (MQ below (QV D ca ad res) args s 0 0 (AA ad)) (F0 m 75 ls []) := by
  unfold fX2_layByWorth_75 at hf
  refine lv_aload_n C.1 C.2.1 dX2_layByWorth_75 rfl (lv_at hl 0 rfl) ?_
  refine x_getr C hW (ha0).1 (ha0).2.1 (j := 0) rfl kX2 (by decide) rfl q_272 dX2_layByWorth_76 ?_
  refine lv_iconst (v := 0) C.1 C.2.1 dX2_layByWorth_79 (by decide) ?_
  refine lv_dup2_11 C.1 C.2.1 dX2_layByWorth_80 rfl rfl ?_
  obtain ⟨g1, hf⟩ := gd_s hf
  refine x_iald C hW ha0.2.2.1 g1 dX2_layByWorth_81 ?_
  refine lv_iload C.1 C.2.1 dX2_layByWorth_82 (lv_at hl 1 rfl) ?_
  refine lv_iadd C.1 C.2.1 dX2_layByWorth_84 ?_
  obtain ⟨g2, hf⟩ := gd_s hf
  refine x_iast C hW ha0.2.2.1 g2 dX2_layByWorth_85 (fun H locs hW => ?_)
  obtain ⟨m3, em3⟩ : ∃ z, z = wr mm (fr a0 0) (0 : Int32).toNatClampNeg ((rd mm (fr a0 0) ((0 : Int32).toNatClampNeg)) + a5) := ⟨_, rfl⟩
  have hf := nm_s hf em3
  rw [← em3] at hW
  cases hf
  exact x_vret C hW dX2_layByWorth_86
set_option maxRecDepth 100000 in
set_option maxHeartbeats 4000000 in
theorem wX2_layByWorth_56 (C : Cx p s m meth c args cX2_layByWorth 8 none RX2 D ca ad) {res : Unit × Mm} {N : Nat} {k12 : Nat → Nat → Int32 → Int32 → Int32 → Int32 → Int32 → Mm → Option (Unit × Mm)} (hk12 : ∀ (a0 : Nat) (a1 : Nat) (a2 : Int32) (a3 : Int32) (a4 : Int32) (a5 : Int32) (a6 : Int32) (mm : Mm) (H : Heap) (locs : List Loc) (ls : Array Slot), (sX2 a0) → (sX0 a1) → Wd D ca ad s.heap mm H locs → lv_has ls 8 [(0, .ref (ad a0)), (1, .ref (ad a1)), (2, .int a2), (3, .int a3), (4, .int a4), (5, .int a5), (6, .int a6)] → k12 a0 a1 a2 a3 a4 a5 a6 mm = some res → W p l e (rmX2_layByWorth) s m args below meth c H locs 0 0 (MQ below (QV D ca ad res) args s 0 0 (AA ad)) (F0 m 12 ls [])) {a0 : Nat} {a1 : Nat} {a2 : Int32} {a3 : Int32} {a4 : Int32} {a5 : Int32} {a6 : Int32} {s0 : Nat} {s1 : Int32} {s2 : Int32} {mm : Mm} {H : Heap} {locs : List Loc} {ls : Array Slot} (ha0 : sX2 a0) (ha1 : sX0 a1) (hs0 : sI s0) (hW : Wd D ca ad s.heap mm H locs) (hl : lv_has ls 8 [(0, .ref (ad a0)), (1, .ref (ad a1)), (2, .int a2), (3, .int a3), (4, .int a4), (5, .int a5), (6, .int a6)]) (hf : fX2_layByWorth_56 N k12 a0 a1 a2 a3 a4 a5 a6 s0 s1 s2 mm = some res) : W p l e (rmX2_layByWorth) s m args below meth c H locs 0 0 (MQ below (QV D ca ad res) args s 0 0 (AA ad)) (F0 m 56 ls [.int s2, .int s1, .ref (ad s0)]) := by
  unfold fX2_layByWorth_56 at hf
  obtain ⟨g4, hf⟩ := gd_s hf
  refine x_iast C hW hs0 g4 dX2_layByWorth_56 (fun H locs hW => ?_)
  obtain ⟨m5, em5⟩ : ∃ z, z = wr mm s0 s1.toNatClampNeg s2 := ⟨_, rfl⟩
  have hf := nm_s hf em5
  rw [← em5] at hW
  refine lv_iload C.1 C.2.1 dX2_layByWorth_57 (lv_at hl 5 rfl) ?_
  refine lv_aload_n C.1 C.2.1 dX2_layByWorth_59 rfl (lv_at hl 0 rfl) ?_
  refine x_getr C hW (ha0).1 (ha0).2.1 (j := 0) rfl kX2 (by decide) rfl q_272 dX2_layByWorth_60 ?_
  refine lv_iload C.1 C.2.1 dX2_layByWorth_63 (lv_at hl 6 rfl) ?_
  obtain ⟨g6, hf⟩ := gd_s hf
  refine x_iald C hW ha0.2.2.1 g6 dX2_layByWorth_65 ?_
  refine lv_isub C.1 C.2.1 dX2_layByWorth_66 ?_
  refine lv_topi (fun x7 ex7 => ?_)
  have hf := nm_s hf ex7
  refine lv_istore (lv' := [(5, .int x7), (0, .ref (ad a0)), (1, .ref (ad a1)), (2, .int a2), (3, .int a3), (4, .int a4), (6, .int a6)]) C.1 C.2.1 dX2_layByWorth_67 hl (by decide) rfl (fun ls hl => ?_)
  refine lv_iinc (v := (a6 + 1)) (lv' := [(6, .int (a6 + 1)), (5, .int x7), (0, .ref (ad a0)), (1, .ref (ad a1)), (2, .int a2), (3, .int a3), (4, .int a4)]) C.1 C.2.1 dX2_layByWorth_69 hl (k := 6) rfl rfl (by decide) rfl (fun ls hl => ?_)
  refine lv_goto (tgt := 12) C.1 C.2.1 dX2_layByWorth_72 (by decide) ?_
  exact hk12 _ _ _ _ _ _ _ _ _ _ _ ha0 ha1 hW (lv_sub hl [2, 3, 4, 5, 6, 1, 0] rfl) hf
set_option maxRecDepth 100000 in
set_option maxHeartbeats 4000000 in
theorem wX2_layByWorth_12 (C : Cx p s m meth c args cX2_layByWorth 8 none RX2 D ca ad) {res : Unit × Mm} {N : Nat}  : ∀ (n : Nat) {a0 : Nat} {a1 : Nat} {a2 : Int32} {a3 : Int32} {a4 : Int32} {a5 : Int32} {a6 : Int32} {mm : Mm} {H : Heap} {locs : List Loc} {ls : Array Slot}, (sX2 a0) → (sX0 a1) → Wd D ca ad s.heap mm H locs → lv_has ls 8 [(0, .ref (ad a0)), (1, .ref (ad a1)), (2, .int a2), (3, .int a3), (4, .int a4), (5, .int a5), (6, .int a6)] → fX2_layByWorth_12 N n a0 a1 a2 a3 a4 a5 a6 mm = some res → W p l e (rmX2_layByWorth) s m args below meth c H locs 0 0 (MQ below (QV D ca ad res) args s 0 0 (AA ad)) (F0 m 12 ls []) := by
  intro n
  induction n with
  | zero => intro a0 a1 a2 a3 a4 a5 a6 mm H locs ls ha0 ha1 hW hl hf; cases hf
  | succ n ih =>
    intro a0 a1 a2 a3 a4 a5 a6 mm H locs ls ha0 ha1 hW hl hf
    have hk12 : ∀ (a0 : Nat) (a1 : Nat) (a2 : Int32) (a3 : Int32) (a4 : Int32) (a5 : Int32) (a6 : Int32) (mm : Mm) (H : Heap) (locs : List Loc) (ls : Array Slot), (sX2 a0) → (sX0 a1) → Wd D ca ad s.heap mm H locs → lv_has ls 8 [(0, .ref (ad a0)), (1, .ref (ad a1)), (2, .int a2), (3, .int a3), (4, .int a4), (5, .int a5), (6, .int a6)] → (fX2_layByWorth_12 N n) a0 a1 a2 a3 a4 a5 a6 mm = some res → W p l e (rmX2_layByWorth) s m args below meth c H locs 0 0 (MQ below (QV D ca ad res) args s 0 0 (AA ad)) (F0 m 12 ls []) := fun a0 a1 a2 a3 a4 a5 a6 mm H locs ls ha0 ha1 hW hl hf => ih ha0 ha1 hW hl hf
    unfold fX2_layByWorth_12 at hf
    try dsimp only at hf
    refine lv_iload C.1 C.2.1 dX2_layByWorth_12 (lv_at hl 6 rfl) ?_
    refine lv_iload_n C.1 C.2.1 dX2_layByWorth_14 rfl (lv_at hl 2 rfl) ?_
    refine lv_icmp_ge (tgt := 75) C.1 C.2.1 dX2_layByWorth_15 (by decide) (fun c8 => ?_) (fun c8 => ?_)
    · have hf := if_t c8 hf
      exact wX2_layByWorth_75 C  ha0 hW (lv_sub hl [0, 5] rfl) hf
    · have hf := if_f c8 hf
      refine lv_iload C.1 C.2.1 dX2_layByWorth_18 (lv_at hl 4 rfl) ?_
      refine lv_if_le (tgt := 75) C.1 C.2.1 dX2_layByWorth_20 (by decide) (fun c9 => ?_) (fun c9 => ?_)
      · have hf := if_t c9 hf
        exact wX2_layByWorth_75 C  ha0 hW (lv_sub hl [0, 5] rfl) hf
      · have hf := if_f c9 hf
        refine lv_aload_n C.1 C.2.1 dX2_layByWorth_23 rfl (lv_at hl 1 rfl) ?_
        refine lv_iload C.1 C.2.1 dX2_layByWorth_24 (lv_at hl 6 rfl) ?_
        obtain ⟨x10, m11, r12, hf⟩ := bd2_s hf
        refine x_cr hW (x_runV C hW [.int a6] [] (ha1).1 (ha1).2.1 kX0.1 kvX0_suitOf q_702 (tX0_suitOf l C.2.2.2.2.2.2.1 ha1 r12) rfl rfl ⟨by decide, by decide⟩ rfl hl.1 rfl (Nat.le_of_ble_eq_true rfl) dX2_layByWorth_26) (fun H locs hW => ?_)
        refine x_astore (lv' := [(7, va_re ad x10), (0, .ref (ad a0)), (1, .ref (ad a1)), (2, .int a2), (3, .int a3), (4, .int a4), (5, .int a5), (6, .int a6)]) C dX2_layByWorth_29 hl (by decide) rfl (fun ls hl => ?_)
        refine lv_aload_n C.1 C.2.1 dX2_layByWorth_31 rfl (lv_at hl 1 rfl) ?_
        refine x_getr C hW (ha0).1 (ha0).2.1 (j := 0) rfl kX2 (by decide) rfl q_272 dX2_layByWorth_32 ?_
        refine lv_iload C.1 C.2.1 dX2_layByWorth_35 (lv_at hl 7 rfl) ?_
        refine x_aload C dX2_layByWorth_37 (lv_at hl 0 rfl) ?_
        refine x_ifnonnull C (tgt := 46) dX2_layByWorth_39 (by decide) (fun n14 => ?_) (fun z13 n14 => ?_)
        · subst n14
          have hf := cs_n hf
          refine lv_iconst (v := 0) C.1 C.2.1 dX2_layByWorth_42 (by decide) ?_
          refine lv_goto (tgt := 56) C.1 C.2.1 dX2_layByWorth_43 (by decide) ?_
          exact wX2_layByWorth_56 C hk12 ha0 ha1 ha0.2.2.1 hW (lv_sub hl [1, 2, 3, 4, 5, 6, 7] rfl) hf
        · subst n14
          have hf := cs_q hf
          refine lv_iload_n C.1 C.2.1 dX2_layByWorth_46 rfl (lv_at hl 4 rfl) ?_
          refine lv_aload C.1 C.2.1 dX2_layByWorth_47 (lv_at hl 0 rfl) ?_
          refine x_geti C hW (((gX0_suitOf ha1 r12) z13 rfl)).1 (((gX0_suitOf ha1 r12) z13 rfl)).2.1 (j := 1) rfl kX9 (by decide) rfl q_46 dX2_layByWorth_49 ?_
          refine lv_imul C.1 C.2.1 dX2_layByWorth_52 ?_
          refine lv_iload C.1 C.2.1 dX2_layByWorth_53 (lv_at hl 5 rfl) ?_
          obtain ⟨g15, hf⟩ := gd_s hf
          refine lv_idiv C.1 C.2.1 dX2_layByWorth_55 (of_decide_eq_true g15) ?_
          exact wX2_layByWorth_56 C hk12 ha0 ha1 ha0.2.2.1 hW (lv_sub hl [1, 2, 3, 4, 5, 6, 7] rfl) hf
set_option maxRecDepth 100000 in
set_option maxHeartbeats 4000000 in
theorem wX2_layByWorth_0 (C : Cx p s m meth c args cX2_layByWorth 8 none RX2 D ca ad) {res : Unit × Mm} {N : Nat}  {a0 : Nat} {a1 : Nat} {a2 : Int32} {a3 : Int32} {mm : Mm} {H : Heap} {locs : List Loc} {ls : Array Slot} (ha0 : sX2 a0) (ha1 : sX0 a1) (hW : Wd D ca ad s.heap mm H locs) (hl : lv_has ls 8 [(0, .ref (ad a0)), (1, .ref (ad a1)), (2, .int a2), (3, .int a3)]) (hf : fX2_layByWorth N a0 a1 a2 a3 mm = some res) : W p l e (rmX2_layByWorth) s m args below meth c H locs 0 0 (MQ below (QV D ca ad res) args s 0 0 (AA ad)) (F0 m 0 ls []) := by
  unfold fX2_layByWorth at hf
  refine lv_aload_n C.1 C.2.1 dX2_layByWorth_0 rfl (lv_at hl 1 rfl) ?_
  obtain ⟨x16, m17, r18, hf⟩ := bd2_s hf
  refine x_ci hW (x_runV C hW [] [] (ha1).1 (ha1).2.1 kX0.1 kvX0_worths q_701 (tX0_worths l C.2.2.2.2.2.2.1 ha1 r18) rfl rfl ⟨by decide, by decide⟩ rfl hl.1 rfl (Nat.le_of_ble_eq_true rfl) dX2_layByWorth_1) (fun H locs hW => ?_)
  refine lv_istore (lv' := [(4, .int x16), (0, .ref (ad a0)), (1, .ref (ad a1)), (2, .int a2), (3, .int a3)]) C.1 C.2.1 dX2_layByWorth_4 hl (by decide) rfl (fun ls hl => ?_)
  refine lv_iload_n C.1 C.2.1 dX2_layByWorth_6 rfl (lv_at hl 4 rfl) ?_
  refine lv_istore (lv' := [(5, .int a3), (4, .int x16), (0, .ref (ad a0)), (1, .ref (ad a1)), (2, .int a2), (3, .int a3)]) C.1 C.2.1 dX2_layByWorth_7 hl (by decide) rfl (fun ls hl => ?_)
  refine lv_iconst (v := 0) C.1 C.2.1 dX2_layByWorth_9 (by decide) ?_
  refine lv_istore (lv' := [(6, .int 0), (5, .int a3), (4, .int x16), (0, .ref (ad a0)), (1, .ref (ad a1)), (2, .int a2), (3, .int a3)]) C.1 C.2.1 dX2_layByWorth_10 hl (by decide) rfl (fun ls hl => ?_)
  exact wX2_layByWorth_12 C  N ha0 ha1 hW (lv_sub hl [3, 4, 5, 6, 2, 1, 0] rfl) hf
set_option maxRecDepth 100000 in
set_option maxHeartbeats 4000000 in
theorem tX2_layByWorth (l : Launch) {D : va_G} {ca ad : Nat → Nat} (hi : Inj ad) {N : Nat} {a0 : Nat} {a1 : Nat} {a2 : Int32} {a3 : Int32} {mm : Mm} {res : Unit × Mm} (ha0 : sX2 a0) (ha1 : sX0 a1) (hf : fX2_layByWorth N a0 a1 a2 a3 mm = some res) : Met l yX2_layByWorth (WS yX2_layByWorth cX2_layByWorth 8 none) (rmX2_layByWorth) (va_Pc [.ref (ad a0), .ref (ad a1), .int a2, .int a3] (WB D ca ad mm)) (QV D ca ad res) 0 0 (AA ad) := by
  refine x_start hi (by decide) rfl (Nat.le_of_ble_eq_true rfl) (fun p e s m args below meth c ls C hW hl => ?_)
  exact wX2_layByWorth_0 C ha0 ha1 hW (lv_sub hl [0, 1, 2, 3] rfl) hf
set_option maxRecDepth 100000 in
set_option maxHeartbeats 4000000 in
theorem wX2_layEven_27 (C : Cx p s m meth c args cX2_layEven 4 none RX2 D ca ad) {res : Unit × Mm} {N : Nat} {k2 : Nat → Int32 → Int32 → Int32 → Mm → Option (Unit × Mm)} (hk2 : ∀ (a0 : Nat) (a1 : Int32) (a2 : Int32) (a3 : Int32) (mm : Mm) (H : Heap) (locs : List Loc) (ls : Array Slot), (sX2 a0) → Wd D ca ad s.heap mm H locs → lv_has ls 4 [(0, .ref (ad a0)), (1, .int a1), (2, .int a2), (3, .int a3)] → k2 a0 a1 a2 a3 mm = some res → W p l e (rmX2_layEven) s m args below meth c H locs 0 0 (MQ below (QV D ca ad res) args s 0 0 (AA ad)) (F0 m 2 ls [])) {a0 : Nat} {a1 : Int32} {a2 : Int32} {a3 : Int32} {s0 : Nat} {s1 : Int32} {s2 : Int32} {s3 : Int32} {mm : Mm} {H : Heap} {locs : List Loc} {ls : Array Slot} (ha0 : sX2 a0) (hs0 : sI s0) (hW : Wd D ca ad s.heap mm H locs) (hl : lv_has ls 4 [(0, .ref (ad a0)), (1, .int a1), (2, .int a2), (3, .int a3)]) (hf : fX2_layEven_27 N k2 a0 a1 a2 a3 s0 s1 s2 s3 mm = some res) : W p l e (rmX2_layEven) s m args below meth c H locs 0 0 (MQ below (QV D ca ad res) args s 0 0 (AA ad)) (F0 m 27 ls [.int s3, .int s2, .int s1, .ref (ad s0)]) := by
  unfold fX2_layEven_27 at hf
  refine lv_iadd C.1 C.2.1 dX2_layEven_27 ?_
  obtain ⟨g1, hf⟩ := gd_s hf
  refine x_iast C hW hs0 g1 dX2_layEven_28 (fun H locs hW => ?_)
  obtain ⟨m2, em2⟩ : ∃ z, z = wr mm s0 s1.toNatClampNeg (s2 + s3) := ⟨_, rfl⟩
  have hf := nm_s hf em2
  rw [← em2] at hW
  refine lv_iinc (v := (a3 + 1)) (lv' := [(3, .int (a3 + 1)), (0, .ref (ad a0)), (1, .int a1), (2, .int a2)]) C.1 C.2.1 dX2_layEven_29 hl (k := 3) rfl rfl (by decide) rfl (fun ls hl => ?_)
  refine lv_goto (tgt := 2) C.1 C.2.1 dX2_layEven_32 (by decide) ?_
  exact hk2 _ _ _ _ _ _ _ _ ha0 hW (lv_sub hl [1, 2, 3, 0] rfl) hf
set_option maxRecDepth 100000 in
set_option maxHeartbeats 4000000 in
theorem wX2_layEven_2 (C : Cx p s m meth c args cX2_layEven 4 none RX2 D ca ad) {res : Unit × Mm} {N : Nat}  : ∀ (n : Nat) {a0 : Nat} {a1 : Int32} {a2 : Int32} {a3 : Int32} {mm : Mm} {H : Heap} {locs : List Loc} {ls : Array Slot}, (sX2 a0) → Wd D ca ad s.heap mm H locs → lv_has ls 4 [(0, .ref (ad a0)), (1, .int a1), (2, .int a2), (3, .int a3)] → fX2_layEven_2 N n a0 a1 a2 a3 mm = some res → W p l e (rmX2_layEven) s m args below meth c H locs 0 0 (MQ below (QV D ca ad res) args s 0 0 (AA ad)) (F0 m 2 ls []) := by
  intro n
  induction n with
  | zero => intro a0 a1 a2 a3 mm H locs ls ha0 hW hl hf; cases hf
  | succ n ih =>
    intro a0 a1 a2 a3 mm H locs ls ha0 hW hl hf
    have hk2 : ∀ (a0 : Nat) (a1 : Int32) (a2 : Int32) (a3 : Int32) (mm : Mm) (H : Heap) (locs : List Loc) (ls : Array Slot), (sX2 a0) → Wd D ca ad s.heap mm H locs → lv_has ls 4 [(0, .ref (ad a0)), (1, .int a1), (2, .int a2), (3, .int a3)] → (fX2_layEven_2 N n) a0 a1 a2 a3 mm = some res → W p l e (rmX2_layEven) s m args below meth c H locs 0 0 (MQ below (QV D ca ad res) args s 0 0 (AA ad)) (F0 m 2 ls []) := fun a0 a1 a2 a3 mm H locs ls ha0 hW hl hf => ih ha0 hW hl hf
    unfold fX2_layEven_2 at hf
    try dsimp only at hf
    refine lv_iload_n C.1 C.2.1 dX2_layEven_2 rfl (lv_at hl 3 rfl) ?_
    refine lv_iload_n C.1 C.2.1 dX2_layEven_3 rfl (lv_at hl 1 rfl) ?_
    refine lv_icmp_ge (tgt := 35) C.1 C.2.1 dX2_layEven_4 (by decide) (fun c3 => ?_) (fun c3 => ?_)
    · have hf := if_t c3 hf
      cases hf
      exact x_vret C hW dX2_layEven_35
    · have hf := if_f c3 hf
      refine lv_aload_n C.1 C.2.1 dX2_layEven_7 rfl (lv_at hl 0 rfl) ?_
      refine x_getr C hW (ha0).1 (ha0).2.1 (j := 0) rfl kX2 (by decide) rfl q_272 dX2_layEven_8 ?_
      refine lv_iload_n C.1 C.2.1 dX2_layEven_11 rfl (lv_at hl 3 rfl) ?_
      refine lv_iload_n C.1 C.2.1 dX2_layEven_12 rfl (lv_at hl 2 rfl) ?_
      refine lv_iload_n C.1 C.2.1 dX2_layEven_13 rfl (lv_at hl 1 rfl) ?_
      obtain ⟨g4, hf⟩ := gd_s hf
      refine lv_idiv C.1 C.2.1 dX2_layEven_14 (of_decide_eq_true g4) ?_
      refine lv_iload_n C.1 C.2.1 dX2_layEven_15 rfl (lv_at hl 3 rfl) ?_
      refine lv_iload_n C.1 C.2.1 dX2_layEven_16 rfl (lv_at hl 2 rfl) ?_
      refine lv_iload_n C.1 C.2.1 dX2_layEven_17 rfl (lv_at hl 1 rfl) ?_
      obtain ⟨g5, hf⟩ := gd_s hf
      refine lv_irem C.1 C.2.1 dX2_layEven_18 (of_decide_eq_true g5) ?_
      refine lv_icmp_ge (tgt := 26) C.1 C.2.1 dX2_layEven_19 (by decide) (fun c6 => ?_) (fun c6 => ?_)
      · have hf := if_t c6 hf
        refine lv_iconst (v := 0) C.1 C.2.1 dX2_layEven_26 (by decide) ?_
        exact wX2_layEven_27 C hk2 ha0 ha0.2.2.1 hW (lv_sub hl [0, 1, 2, 3] rfl) hf
      · have hf := if_f c6 hf
        refine lv_iconst (v := 1) C.1 C.2.1 dX2_layEven_22 (by decide) ?_
        refine lv_goto (tgt := 27) C.1 C.2.1 dX2_layEven_23 (by decide) ?_
        exact wX2_layEven_27 C hk2 ha0 ha0.2.2.1 hW (lv_sub hl [0, 1, 2, 3] rfl) hf
set_option maxRecDepth 100000 in
set_option maxHeartbeats 4000000 in
theorem wX2_layEven_0 (C : Cx p s m meth c args cX2_layEven 4 none RX2 D ca ad) {res : Unit × Mm} {N : Nat}  {a0 : Nat} {a1 : Int32} {a2 : Int32} {mm : Mm} {H : Heap} {locs : List Loc} {ls : Array Slot} (ha0 : sX2 a0) (hW : Wd D ca ad s.heap mm H locs) (hl : lv_has ls 4 [(0, .ref (ad a0)), (1, .int a1), (2, .int a2)]) (hf : fX2_layEven N a0 a1 a2 mm = some res) : W p l e (rmX2_layEven) s m args below meth c H locs 0 0 (MQ below (QV D ca ad res) args s 0 0 (AA ad)) (F0 m 0 ls []) := by
  unfold fX2_layEven at hf
  refine lv_iconst (v := 0) C.1 C.2.1 dX2_layEven_0 (by decide) ?_
  refine lv_istore_n (lv' := [(3, .int 0), (0, .ref (ad a0)), (1, .int a1), (2, .int a2)]) C.1 C.2.1 dX2_layEven_1 rfl hl (by decide) rfl (fun ls hl => ?_)
  exact wX2_layEven_2 C  N ha0 hW (lv_sub hl [1, 2, 3, 0] rfl) hf
set_option maxRecDepth 100000 in
set_option maxHeartbeats 4000000 in
theorem tX2_layEven (l : Launch) {D : va_G} {ca ad : Nat → Nat} (hi : Inj ad) {N : Nat} {a0 : Nat} {a1 : Int32} {a2 : Int32} {mm : Mm} {res : Unit × Mm} (ha0 : sX2 a0) (hf : fX2_layEven N a0 a1 a2 mm = some res) : Met l yX2_layEven (WS yX2_layEven cX2_layEven 4 none) (rmX2_layEven) (va_Pc [.ref (ad a0), .int a1, .int a2] (WB D ca ad mm)) (QV D ca ad res) 0 0 (AA ad) := by
  refine x_start hi (by decide) rfl (Nat.le_of_ble_eq_true rfl) (fun p e s m args below meth c ls C hW hl => ?_)
  exact wX2_layEven_0 C ha0 hW (lv_sub hl [0, 1, 2] rfl) hf
set_option maxRecDepth 100000 in
set_option maxHeartbeats 4000000 in
theorem wX2_layBy_0 (C : Cx p s m meth c args cX2_layBy 6 none RX2 D ca ad) {res : Unit × Mm} {N : Nat}  {a0 : Nat} {a1 : Nat} {a2 : Int32} {a3 : Int32} {mm : Mm} {H : Heap} {locs : List Loc} {ls : Array Slot} (ha0 : sX2 a0) (ha1 : sX0 a1) (hW : Wd D ca ad s.heap mm H locs) (hl : lv_has ls 6 [(0, .ref (ad a0)), (1, .ref (ad a1)), (2, .int a2), (3, .int a3)]) (hf : fX2_layBy N a0 a1 a2 a3 mm = some res) : W p l e (rmX2_layBy) s m args below meth c H locs 0 0 (MQ below (QV D ca ad res) args s 0 0 (AA ad)) (F0 m 0 ls []) := by
  unfold fX2_layBy at hf
  refine lv_aload_n C.1 C.2.1 dX2_layBy_0 rfl (lv_at hl 0 rfl) ?_
  refine x_getr C hW (ha0).1 (ha0).2.1 (j := 0) rfl kX2 (by decide) rfl q_272 dX2_layBy_1 ?_
  refine lv_iconst (v := 0) C.1 C.2.1 dX2_layBy_4 (by decide) ?_
  obtain ⟨x1, m2, r3, hf⟩ := bd2_s hf
  refine x_cv hW (x_runS C hW [.ref (ad (fr a0 0)), .int 0] [] kvJ7_fill_53178 q_691 (tJ7_fill_53178 l C.2.2.2.2.2.2.1 ha0.2.2.1 r3) rfl rfl ⟨by decide, by decide⟩ rfl hl.1 rfl (Nat.le_of_ble_eq_true rfl) dX2_layBy_5) (fun H locs hW => ?_)
  refine lv_aload_n C.1 C.2.1 dX2_layBy_8 rfl (lv_at hl 1 rfl) ?_
  refine x_getr C hW (ha1).1 (ha1).2.1 (j := 1) rfl kX0 (by decide) rfl q_59 dX2_layBy_9 ?_
  refine lv_iconst (v := 1) C.1 C.2.1 dX2_layBy_12 (by decide) ?_
  obtain ⟨g4, hf⟩ := gd_s hf
  refine x_iald C hW ha1.2.2.2.1 g4 dX2_layBy_13 ?_
  refine lv_topi (fun x5 ex5 => ?_)
  have hf := nm_s hf ex5
  refine lv_istore (lv' := [(4, .int x5), (0, .ref (ad a0)), (1, .ref (ad a1)), (2, .int a2), (3, .int a3)]) C.1 C.2.1 dX2_layBy_14 hl (by decide) rfl (fun ls hl => ?_)
  refine lv_aload_n C.1 C.2.1 dX2_layBy_16 rfl (lv_at hl 2 rfl) ?_
  refine x_geti C hW (ha1).1 (ha1).2.1 (j := 5) rfl kX0 (by decide) rfl q_70 dX2_layBy_17 ?_
  refine lv_bipush (v := 6) C.1 C.2.1 dX2_layBy_20 (by decide) ?_
  refine va_mmin C.1 C.2.1 (C.2.2.1.trans hl.1.symm) C.2.2.2.1 (C.2.2.2.2.1 _ q_692) (C.2.2.2.2.1 _ q_421) (C.2.2.2.2.1 _ q_15) (C.2.2.2.2.1 _ q_422) (by decide) (Nat.le_of_ble_eq_true rfl) (Nat.zero_le _) (Nat.zero_le _) dX2_layBy_22 ?_
  refine lv_topi (fun x6 ex6 => ?_)
  have hf := nm_s hf ex6
  refine lv_istore (lv' := [(5, .int x6), (4, .int x5), (0, .ref (ad a0)), (1, .ref (ad a1)), (2, .int a2), (3, .int a3)]) C.1 C.2.1 dX2_layBy_25 hl (by decide) rfl (fun ls hl => ?_)
  refine lv_iload C.1 C.2.1 dX2_layBy_27 (lv_at hl 0 rfl) ?_
  refine lv_iconst (v := 1) C.1 C.2.1 dX2_layBy_29 (by decide) ?_
  refine lv_icmp_ge (tgt := 34) C.1 C.2.1 dX2_layBy_30 (by decide) (fun c7 => ?_) (fun c7 => ?_)
  · have hf := if_t c7 hf
    refine lv_iload_n C.1 C.2.1 dX2_layBy_34 rfl (lv_at hl 4 rfl) ?_
    by_cases c8 : a2 = 0
    · have hf := if_t c8 hf
      refine x_tin C (tgt := 68) dX2_layBy_35 c8 (by decide) (by decide) (off := 33) rfl (by decide) ?_
      refine lv_aload_n C.1 C.2.1 dX2_layBy_68 rfl (lv_at hl 2 rfl) ?_
      refine lv_iload C.1 C.2.1 dX2_layBy_69 (lv_at hl 0 rfl) ?_
      refine lv_iload C.1 C.2.1 dX2_layBy_71 (lv_at hl 1 rfl) ?_
      obtain ⟨x9, m10, r11, hf⟩ := bd2_s hf
      refine x_cv hW (x_runV C hW [.int x6, .int x5] [] (ha0).1 (ha0).2.1 kX2.1 kvX2_layEven q_693 (tX2_layEven l C.2.2.2.2.2.2.1 ha0 r11) rfl rfl ⟨by decide, by decide⟩ rfl hl.1 rfl (Nat.le_of_ble_eq_true rfl) dX2_layBy_73) (fun H locs hW => ?_)
      refine lv_goto (tgt := 147) C.1 C.2.1 dX2_layBy_76 (by decide) ?_
      cases hf
      exact x_vret C hW dX2_layBy_147
    have hf := if_f c8 hf
    by_cases c12 : a2 = 1
    · have hf := if_t c12 hf
      refine x_tin C (tgt := 79) dX2_layBy_35 c12 (by decide) (by decide) (off := 44) rfl (by decide) ?_
      refine lv_aload_n C.1 C.2.1 dX2_layBy_79 rfl (lv_at hl 2 rfl) ?_
      refine lv_aload_n C.1 C.2.1 dX2_layBy_80 rfl (lv_at hl 3 rfl) ?_
      refine lv_iload C.1 C.2.1 dX2_layBy_81 (lv_at hl 0 rfl) ?_
      refine lv_iload C.1 C.2.1 dX2_layBy_83 (lv_at hl 1 rfl) ?_
      obtain ⟨x13, m14, r15, hf⟩ := bd2_s hf
      refine x_cv hW (x_runV C hW [.ref (ad a1), .int x6, .int x5] [] (ha0).1 (ha0).2.1 kX2.1 kvX2_layByWorth q_697 (tX2_layByWorth l C.2.2.2.2.2.2.1 ha0 ha1 r15) rfl rfl ⟨by decide, by decide⟩ rfl hl.1 rfl (Nat.le_of_ble_eq_true rfl) dX2_layBy_85) (fun H locs hW => ?_)
      refine lv_goto (tgt := 147) C.1 C.2.1 dX2_layBy_88 (by decide) ?_
      cases hf
      exact x_vret C hW dX2_layBy_147
    have hf := if_f c12 hf
    by_cases c16 : a2 = 2
    · have hf := if_t c16 hf
      refine x_tin C (tgt := 91) dX2_layBy_35 c16 (by decide) (by decide) (off := 56) rfl (by decide) ?_
      refine lv_aload_n C.1 C.2.1 dX2_layBy_91 rfl (lv_at hl 2 rfl) ?_
      refine x_getr C hW (ha0).1 (ha0).2.1 (j := 0) rfl kX2 (by decide) rfl q_272 dX2_layBy_92 ?_
      refine lv_iconst (v := 0) C.1 C.2.1 dX2_layBy_95 (by decide) ?_
      refine lv_iload C.1 C.2.1 dX2_layBy_96 (lv_at hl 1 rfl) ?_
      obtain ⟨g17, hf⟩ := gd_s hf
      refine x_iast C hW ha0.2.2.1 g17 dX2_layBy_98 (fun H locs hW => ?_)
      obtain ⟨m18, em18⟩ : ∃ z, z = wr m2 (fr a0 0) (0 : Int32).toNatClampNeg x5 := ⟨_, rfl⟩
      have hf := nm_s hf em18
      rw [← em18] at hW
      refine lv_goto (tgt := 147) C.1 C.2.1 dX2_layBy_99 (by decide) ?_
      cases hf
      exact x_vret C hW dX2_layBy_147
    have hf := if_f c16 hf
    by_cases c19 : a2 = 3
    · have hf := if_t c19 hf
      refine x_tin C (tgt := 102) dX2_layBy_35 c19 (by decide) (by decide) (off := 67) rfl (by decide) ?_
      refine lv_aload_n C.1 C.2.1 dX2_layBy_102 rfl (lv_at hl 2 rfl) ?_
      refine x_getr C hW (ha0).1 (ha0).2.1 (j := 0) rfl kX2 (by decide) rfl q_272 dX2_layBy_103 ?_
      refine lv_iload C.1 C.2.1 dX2_layBy_106 (lv_at hl 0 rfl) ?_
      refine lv_iconst (v := 1) C.1 C.2.1 dX2_layBy_108 (by decide) ?_
      refine lv_isub C.1 C.2.1 dX2_layBy_109 ?_
      refine lv_iload C.1 C.2.1 dX2_layBy_110 (lv_at hl 1 rfl) ?_
      obtain ⟨g20, hf⟩ := gd_s hf
      refine x_iast C hW ha0.2.2.1 g20 dX2_layBy_112 (fun H locs hW => ?_)
      obtain ⟨m21, em21⟩ : ∃ z, z = wr m2 (fr a0 0) (x6 - 1).toNatClampNeg x5 := ⟨_, rfl⟩
      have hf := nm_s hf em21
      rw [← em21] at hW
      refine lv_goto (tgt := 147) C.1 C.2.1 dX2_layBy_113 (by decide) ?_
      cases hf
      exact x_vret C hW dX2_layBy_147
    have hf := if_f c19 hf
    by_cases c22 : a2 = 4
    · have hf := if_t c22 hf
      refine x_tin C (tgt := 116) dX2_layBy_35 c22 (by decide) (by decide) (off := 81) rfl (by decide) ?_
      refine lv_aload_n C.1 C.2.1 dX2_layBy_116 rfl (lv_at hl 2 rfl) ?_
      refine x_getr C hW (ha0).1 (ha0).2.1 (j := 0) rfl kX2 (by decide) rfl q_272 dX2_layBy_117 ?_
      refine lv_aload_n C.1 C.2.1 dX2_layBy_120 rfl (lv_at hl 3 rfl) ?_
      refine lv_iload C.1 C.2.1 dX2_layBy_121 (lv_at hl 0 rfl) ?_
      obtain ⟨x23, m24, r25, hf⟩ := bd2_s hf
      refine x_ci hW (x_runS C hW [.ref (ad a1), .int x6] [.ref (ad (fr a0 0))] kvX2_greatestOf q_703 (tX2_greatestOf l C.2.2.2.2.2.2.1 ha1 r25) rfl rfl ⟨by decide, by decide⟩ rfl hl.1 rfl (Nat.le_of_ble_eq_true rfl) dX2_layBy_123) (fun H locs hW => ?_)
      refine lv_iload C.1 C.2.1 dX2_layBy_126 (lv_at hl 1 rfl) ?_
      obtain ⟨g26, hf⟩ := gd_s hf
      refine x_iast C hW ha0.2.2.1 g26 dX2_layBy_128 (fun H locs hW => ?_)
      obtain ⟨m27, em27⟩ : ∃ z, z = wr m24 (fr a0 0) x23.toNatClampNeg x5 := ⟨_, rfl⟩
      have hf := nm_s hf em27
      rw [← em27] at hW
      refine lv_goto (tgt := 147) C.1 C.2.1 dX2_layBy_129 (by decide) ?_
      cases hf
      exact x_vret C hW dX2_layBy_147
    have hf := if_f c22 hf
    refine x_tdef C (tgt := 132) dX2_layBy_35 (by
        have := lv_neT c8 (a := 0) (by decide)
        have := lv_neT c12 (a := 1) (by decide)
        have := lv_neT c16 (a := 2) (by decide)
        have := lv_neT c19 (a := 3) (by decide)
        have := lv_neT c22 (a := 4) (by decide)
        rcases (by omega : a2.toInt < 0 ∨ 4 < a2.toInt) with h | h
        · exact Or.inl h
        · exact Or.inr (Or.inl h)) (by decide) ?_
    refine lv_aload_n C.1 C.2.1 dX2_layBy_132 rfl (lv_at hl 2 rfl) ?_
    refine lv_aload_n C.1 C.2.1 dX2_layBy_133 rfl (lv_at hl 3 rfl) ?_
    refine lv_iload_n C.1 C.2.1 dX2_layBy_134 rfl (lv_at hl 5 rfl) ?_
    refine lv_iconst (v := 1) C.1 C.2.1 dX2_layBy_135 (by decide) ?_
    refine lv_isub C.1 C.2.1 dX2_layBy_136 ?_
    obtain ⟨x28, m29, r30, hf⟩ := bd2_s hf
    refine x_cr hW (x_runV C hW [.int (a3 - 1)] [.ref (ad a0)] (ha1).1 (ha1).2.1 kX0.1 kvX0_laidAt q_706 (tX0_laidAt l C.2.2.2.2.2.2.1 ha1 r30) rfl rfl ⟨by decide, by decide⟩ rfl hl.1 rfl (Nat.le_of_ble_eq_true rfl) dX2_layBy_137) (fun H locs hW => ?_)
    refine lv_iload C.1 C.2.1 dX2_layBy_140 (lv_at hl 0 rfl) ?_
    refine lv_iload C.1 C.2.1 dX2_layBy_142 (lv_at hl 1 rfl) ?_
    obtain ⟨x31, m32, r33, hf⟩ := bd2_s hf
    refine x_cv hW (x_runV C hW [va_re ad x28, .int x6, .int x5] [] (ha0).1 (ha0).2.1 kX2.1 kvX2_layBack q_710 (tX2_layBack l C.2.2.2.2.2.2.1 ha0 (gX0_laidAt ha1 r30) r33) rfl rfl ⟨by decide, by decide⟩ rfl hl.1 rfl (Nat.le_of_ble_eq_true rfl) dX2_layBy_144) (fun H locs hW => ?_)
    cases hf
    exact x_vret C hW dX2_layBy_147
  · have hf := if_f c7 hf
    cases hf
    exact x_vret C hW dX2_layBy_33
set_option maxRecDepth 100000 in
set_option maxHeartbeats 4000000 in
theorem tX2_layBy (l : Launch) {D : va_G} {ca ad : Nat → Nat} (hi : Inj ad) {N : Nat} {a0 : Nat} {a1 : Nat} {a2 : Int32} {a3 : Int32} {mm : Mm} {res : Unit × Mm} (ha0 : sX2 a0) (ha1 : sX0 a1) (hf : fX2_layBy N a0 a1 a2 a3 mm = some res) : Met l yX2_layBy (WS yX2_layBy cX2_layBy 6 none) (rmX2_layBy) (va_Pc [.ref (ad a0), .ref (ad a1), .int a2, .int a3] (WB D ca ad mm)) (QV D ca ad res) 0 0 (AA ad) := by
  refine x_start hi (by decide) rfl (Nat.le_of_ble_eq_true rfl) (fun p e s m args below meth c ls C hW hl => ?_)
  exact wX2_layBy_0 C ha0 ha1 hW (lv_sub hl [0, 1, 2, 3] rfl) hf
set_option maxRecDepth 100000 in
set_option maxHeartbeats 4000000 in
theorem wX2_fits_2 (C : Cx p s m meth c args cX2_fits 5 (some .boolean) RX2 D ca ad) {res : Int32 × Mm} {N : Nat}  : ∀ (n : Nat) {a0 : Nat} {a1 : Nat} {a2 : Int32} {a3 : Int32} {mm : Mm} {H : Heap} {locs : List Loc} {ls : Array Slot}, (sX2 a0) → (sX0 a1) → Wd D ca ad s.heap mm H locs → lv_has ls 5 [(0, .ref (ad a0)), (1, .ref (ad a1)), (2, .int a2), (3, .int a3)] → fX2_fits_2 N n a0 a1 a2 a3 mm = some res → W p l e (rmX2_fits) s m args below meth c H locs 0 0 (MQ below (QI D ca ad res) args s 0 0 (AA ad)) (F0 m 2 ls []) := by
  intro n
  induction n with
  | zero => intro a0 a1 a2 a3 mm H locs ls ha0 ha1 hW hl hf; cases hf
  | succ n ih =>
    intro a0 a1 a2 a3 mm H locs ls ha0 ha1 hW hl hf
    have hk2 : ∀ (a0 : Nat) (a1 : Nat) (a2 : Int32) (a3 : Int32) (mm : Mm) (H : Heap) (locs : List Loc) (ls : Array Slot), (sX2 a0) → (sX0 a1) → Wd D ca ad s.heap mm H locs → lv_has ls 5 [(0, .ref (ad a0)), (1, .ref (ad a1)), (2, .int a2), (3, .int a3)] → (fX2_fits_2 N n) a0 a1 a2 a3 mm = some res → W p l e (rmX2_fits) s m args below meth c H locs 0 0 (MQ below (QI D ca ad res) args s 0 0 (AA ad)) (F0 m 2 ls []) := fun a0 a1 a2 a3 mm H locs ls ha0 ha1 hW hl hf => ih ha0 ha1 hW hl hf
    unfold fX2_fits_2 at hf
    try dsimp only at hf
    refine lv_iload_n C.1 C.2.1 dX2_fits_2 rfl (lv_at hl 3 rfl) ?_
    refine lv_aload_n C.1 C.2.1 dX2_fits_3 rfl (lv_at hl 1 rfl) ?_
    refine x_geti C hW (ha1).1 (ha1).2.1 (j := 7) rfl kX0 (by decide) rfl q_79 dX2_fits_4 ?_
    refine lv_icmp_ge (tgt := 73) C.1 C.2.1 dX2_fits_7 (by decide) (fun c1 => ?_) (fun c1 => ?_)
    · have hf := if_t c1 hf
      refine lv_iconst (v := 1) C.1 C.2.1 dX2_fits_73 (by decide) ?_
      cases hf
      exact x_zret C hW (by decide) dX2_fits_74
    · have hf := if_f c1 hf
      refine lv_aload_n C.1 C.2.1 dX2_fits_10 rfl (lv_at hl 1 rfl) ?_
      refine lv_iload_n C.1 C.2.1 dX2_fits_11 rfl (lv_at hl 3 rfl) ?_
      obtain ⟨x2, m3, r4, hf⟩ := bd2_s hf
      refine x_cr hW (x_runV C hW [.int a3] [] (ha1).1 (ha1).2.1 kX0.1 kvX0_laidAt q_706 (tX0_laidAt l C.2.2.2.2.2.2.1 ha1 r4) rfl rfl ⟨by decide, by decide⟩ rfl hl.1 rfl (Nat.le_of_ble_eq_true rfl) dX2_fits_12) (fun H locs hW => ?_)
      refine x_astore (lv' := [(4, va_re ad x2), (0, .ref (ad a0)), (1, .ref (ad a1)), (2, .int a2), (3, .int a3)]) C dX2_fits_15 hl (by decide) rfl (fun ls hl => ?_)
      refine x_aload C dX2_fits_17 (lv_at hl 0 rfl) ?_
      refine x_ifnonnull C (tgt := 24) dX2_fits_19 (by decide) (fun n6 => ?_) (fun z5 n6 => ?_)
      · subst n6
        have hf := cs_n hf
        refine lv_iconst (v := 0) C.1 C.2.1 dX2_fits_22 (by decide) ?_
        cases hf
        exact x_zret C hW (by decide) dX2_fits_23
      · subst n6
        have hf := cs_q hf
        refine lv_aload_n C.1 C.2.1 dX2_fits_24 rfl (lv_at hl 1 rfl) ?_
        refine lv_aload_n C.1 C.2.1 dX2_fits_25 rfl (lv_at hl 2 rfl) ?_
        refine lv_iload_n C.1 C.2.1 dX2_fits_26 rfl (lv_at hl 3 rfl) ?_
        refine lv_iload_n C.1 C.2.1 dX2_fits_27 rfl (lv_at hl 4 rfl) ?_
        obtain ⟨x7, m8, r9, hf⟩ := bd2_s hf
        refine x_cv hW (x_runV C hW [.ref (ad a1), .int a2, .int a3] [] (ha0).1 (ha0).2.1 kX2.1 kvX2_layBy q_737 (tX2_layBy l C.2.2.2.2.2.2.1 ha0 ha1 r9) rfl rfl ⟨by decide, by decide⟩ rfl hl.1 rfl (Nat.le_of_ble_eq_true rfl) dX2_fits_28) (fun H locs hW => ?_)
        refine lv_aload_n C.1 C.2.1 dX2_fits_31 rfl (lv_at hl 1 rfl) ?_
        refine x_getr C hW (ha0).1 (ha0).2.1 (j := 1) rfl kX2 (by decide) rfl q_274 dX2_fits_32 ?_
        refine lv_aload_n C.1 C.2.1 dX2_fits_35 rfl (lv_at hl 2 rfl) ?_
        refine lv_aload C.1 C.2.1 dX2_fits_36 (lv_at hl 0 rfl) ?_
        refine lv_aload_n C.1 C.2.1 dX2_fits_38 rfl (lv_at hl 1 rfl) ?_
        refine x_getr C hW (ha0).1 (ha0).2.1 (j := 0) rfl kX2 (by decide) rfl q_272 dX2_fits_39 ?_
        refine lv_iconst (v := 0) C.1 C.2.1 dX2_fits_42 (by decide) ?_
        obtain ⟨x10, m11, r12, hf⟩ := bd2_s hf
        refine x_cv hW (x_runV C hW [.ref (ad a1), .ref (ad z5), .ref (ad (fr a0 0)), .int 0] [] (ha0.2.2.2.1).1 (ha0.2.2.2.1).2.1 kX7.1 kvX7_weigh q_738 (tX7_weigh l C.2.2.2.2.2.2.1 ha0.2.2.2.1 ha1 ((gX0_laidAt ha1 r4) z5 rfl) ha0.2.2.1 r12) rfl rfl ⟨by decide, by decide⟩ rfl hl.1 rfl (Nat.le_of_ble_eq_true rfl) dX2_fits_43) (fun H locs hW => ?_)
        refine lv_aload_n C.1 C.2.1 dX2_fits_46 rfl (lv_at hl 1 rfl) ?_
        refine x_getr C hW (ha0).1 (ha0).2.1 (j := 1) rfl kX2 (by decide) rfl q_274 dX2_fits_47 ?_
        refine lv_aload_n C.1 C.2.1 dX2_fits_50 rfl (lv_at hl 2 rfl) ?_
        refine x_geti C hW (ha1).1 (ha1).2.1 (j := 5) rfl kX0 (by decide) rfl q_70 dX2_fits_51 ?_
        obtain ⟨x13, m14, r15, hf⟩ := bd2_s hf
        refine x_ci hW (x_runV C hW [.int (rd m11 a1 5)] [] (ha0.2.2.2.1).1 (ha0.2.2.2.1).2.1 kX7.1 kvX7_wonOf q_739 (tX7_wonOf l C.2.2.2.2.2.2.1 ha0.2.2.2.1 r15) rfl rfl ⟨by decide, by decide⟩ rfl hl.1 rfl (Nat.le_of_ble_eq_true rfl) dX2_fits_54) (fun H locs hW => ?_)
        refine lv_aload_n C.1 C.2.1 dX2_fits_57 rfl (lv_at hl 2 rfl) ?_
        refine lv_iload_n C.1 C.2.1 dX2_fits_58 rfl (lv_at hl 4 rfl) ?_
        obtain ⟨x16, m17, r18, hf⟩ := bd2_s hf
        refine x_ci hW (x_runV C hW [.int a3] [.int x13] (ha1).1 (ha1).2.1 kX0.1 kvX0_wonAt q_743 (tX0_wonAt l C.2.2.2.2.2.2.1 ha1 r18) rfl rfl ⟨by decide, by decide⟩ rfl hl.1 rfl (Nat.le_of_ble_eq_true rfl) dX2_fits_59) (fun H locs hW => ?_)
        refine lv_icmp_eq (tgt := 67) C.1 C.2.1 dX2_fits_62 (by decide) (fun c19 => ?_) (fun c19 => ?_)
        · have hf := if_t c19 hf
          refine lv_iinc (v := (a3 + 1)) (lv' := [(3, .int (a3 + 1)), (4, .ref (ad z5)), (0, .ref (ad a0)), (1, .ref (ad a1)), (2, .int a2)]) C.1 C.2.1 dX2_fits_67 hl (k := 4) rfl rfl (by decide) rfl (fun ls hl => ?_)
          refine lv_goto (tgt := 2) C.1 C.2.1 dX2_fits_70 (by decide) ?_
          exact hk2 _ _ _ _ _ _ _ _ ha0 ha1 hW (lv_sub hl [2, 3, 4, 0] rfl) hf
        · have hf := if_f c19 hf
          refine lv_iconst (v := 0) C.1 C.2.1 dX2_fits_65 (by decide) ?_
          cases hf
          exact x_zret C hW (by decide) dX2_fits_66
set_option maxRecDepth 100000 in
set_option maxHeartbeats 4000000 in
theorem wX2_fits_0 (C : Cx p s m meth c args cX2_fits 5 (some .boolean) RX2 D ca ad) {res : Int32 × Mm} {N : Nat}  {a0 : Nat} {a1 : Nat} {a2 : Int32} {mm : Mm} {H : Heap} {locs : List Loc} {ls : Array Slot} (ha0 : sX2 a0) (ha1 : sX0 a1) (hW : Wd D ca ad s.heap mm H locs) (hl : lv_has ls 5 [(0, .ref (ad a0)), (1, .ref (ad a1)), (2, .int a2)]) (hf : fX2_fits N a0 a1 a2 mm = some res) : W p l e (rmX2_fits) s m args below meth c H locs 0 0 (MQ below (QI D ca ad res) args s 0 0 (AA ad)) (F0 m 0 ls []) := by
  unfold fX2_fits at hf
  refine lv_iconst (v := 0) C.1 C.2.1 dX2_fits_0 (by decide) ?_
  refine lv_istore_n (lv' := [(3, .int 0), (0, .ref (ad a0)), (1, .ref (ad a1)), (2, .int a2)]) C.1 C.2.1 dX2_fits_1 rfl hl (by decide) rfl (fun ls hl => ?_)
  exact wX2_fits_2 C  N ha0 ha1 hW (lv_sub hl [1, 2, 3, 0] rfl) hf
set_option maxRecDepth 100000 in
set_option maxHeartbeats 4000000 in
theorem tX2_fits (l : Launch) {D : va_G} {ca ad : Nat → Nat} (hi : Inj ad) {N : Nat} {a0 : Nat} {a1 : Nat} {a2 : Int32} {mm : Mm} {res : Int32 × Mm} (ha0 : sX2 a0) (ha1 : sX0 a1) (hf : fX2_fits N a0 a1 a2 mm = some res) : Met l yX2_fits (WS yX2_fits cX2_fits 5 (some .boolean)) (rmX2_fits) (va_Pc [.ref (ad a0), .ref (ad a1), .int a2] (WB D ca ad mm)) (QI D ca ad res) 0 0 (AA ad) := by
  refine x_start hi (by decide) rfl (Nat.le_of_ble_eq_true rfl) (fun p e s m args below meth c ls C hW hl => ?_)
  exact wX2_fits_0 C ha0 ha1 hW (lv_sub hl [0, 1, 2] rfl) hf
set_option maxRecDepth 100000 in
set_option maxHeartbeats 4000000 in
theorem wX2_fitting_25 (C : Cx p s m meth c args cX2_fitting 4 (some .int) RX2 D ca ad) {res : Int32 × Mm} {N : Nat} {k4 : Nat → Nat → Int32 → Int32 → Mm → Option (Int32 × Mm)} (hk4 : ∀ (a0 : Nat) (a1 : Nat) (a2 : Int32) (a3 : Int32) (mm : Mm) (H : Heap) (locs : List Loc) (ls : Array Slot), (sX2 a0) → (sX0 a1) → Wd D ca ad s.heap mm H locs → lv_has ls 4 [(0, .ref (ad a0)), (1, .ref (ad a1)), (2, .int a2), (3, .int a3)] → k4 a0 a1 a2 a3 mm = some res → W p l e (rmX2_fitting) s m args below meth c H locs 0 0 (MQ below (QI D ca ad res) args s 0 0 (AA ad)) (F0 m 4 ls [])) {a0 : Nat} {a1 : Nat} {a2 : Int32} {a3 : Int32} {mm : Mm} {H : Heap} {locs : List Loc} {ls : Array Slot} (ha0 : sX2 a0) (ha1 : sX0 a1) (hW : Wd D ca ad s.heap mm H locs) (hl : lv_has ls 4 [(0, .ref (ad a0)), (1, .ref (ad a1)), (2, .int a2), (3, .int a3)]) (hf : fX2_fitting_25 N k4 a0 a1 a2 a3 mm = some res) : W p l e (rmX2_fitting) s m args below meth c H locs 0 0 (MQ below (QI D ca ad res) args s 0 0 (AA ad)) (F0 m 25 ls []) := by
  unfold fX2_fitting_25 at hf
  refine lv_iinc (v := (a3 + 1)) (lv' := [(3, .int (a3 + 1)), (0, .ref (ad a0)), (1, .ref (ad a1)), (2, .int a2)]) C.1 C.2.1 dX2_fitting_25 hl (k := 3) rfl rfl (by decide) rfl (fun ls hl => ?_)
  refine lv_goto (tgt := 4) C.1 C.2.1 dX2_fitting_28 (by decide) ?_
  exact hk4 _ _ _ _ _ _ _ _ ha0 ha1 hW (lv_sub hl [1, 2, 3, 0] rfl) hf
set_option maxRecDepth 100000 in
set_option maxHeartbeats 4000000 in
theorem wX2_fitting_4 (C : Cx p s m meth c args cX2_fitting 4 (some .int) RX2 D ca ad) {res : Int32 × Mm} {N : Nat}  : ∀ (n : Nat) {a0 : Nat} {a1 : Nat} {a2 : Int32} {a3 : Int32} {mm : Mm} {H : Heap} {locs : List Loc} {ls : Array Slot}, (sX2 a0) → (sX0 a1) → Wd D ca ad s.heap mm H locs → lv_has ls 4 [(0, .ref (ad a0)), (1, .ref (ad a1)), (2, .int a2), (3, .int a3)] → fX2_fitting_4 N n a0 a1 a2 a3 mm = some res → W p l e (rmX2_fitting) s m args below meth c H locs 0 0 (MQ below (QI D ca ad res) args s 0 0 (AA ad)) (F0 m 4 ls []) := by
  intro n
  induction n with
  | zero => intro a0 a1 a2 a3 mm H locs ls ha0 ha1 hW hl hf; cases hf
  | succ n ih =>
    intro a0 a1 a2 a3 mm H locs ls ha0 ha1 hW hl hf
    have hk4 : ∀ (a0 : Nat) (a1 : Nat) (a2 : Int32) (a3 : Int32) (mm : Mm) (H : Heap) (locs : List Loc) (ls : Array Slot), (sX2 a0) → (sX0 a1) → Wd D ca ad s.heap mm H locs → lv_has ls 4 [(0, .ref (ad a0)), (1, .ref (ad a1)), (2, .int a2), (3, .int a3)] → (fX2_fitting_4 N n) a0 a1 a2 a3 mm = some res → W p l e (rmX2_fitting) s m args below meth c H locs 0 0 (MQ below (QI D ca ad res) args s 0 0 (AA ad)) (F0 m 4 ls []) := fun a0 a1 a2 a3 mm H locs ls ha0 ha1 hW hl hf => ih ha0 ha1 hW hl hf
    unfold fX2_fitting_4 at hf
    try dsimp only at hf
    refine lv_iload_n C.1 C.2.1 dX2_fitting_4 rfl (lv_at hl 3 rfl) ?_
    refine lv_bipush (v := 6) C.1 C.2.1 dX2_fitting_5 (by decide) ?_
    refine lv_icmp_ge (tgt := 31) C.1 C.2.1 dX2_fitting_7 (by decide) (fun c1 => ?_) (fun c1 => ?_)
    · have hf := if_t c1 hf
      refine lv_iload_n C.1 C.2.1 dX2_fitting_31 rfl (lv_at hl 2 rfl) ?_
      cases hf
      exact x_iret C hW dX2_fitting_32
    · have hf := if_f c1 hf
      refine lv_aload_n C.1 C.2.1 dX2_fitting_10 rfl (lv_at hl 0 rfl) ?_
      refine lv_aload_n C.1 C.2.1 dX2_fitting_11 rfl (lv_at hl 1 rfl) ?_
      refine lv_iload_n C.1 C.2.1 dX2_fitting_12 rfl (lv_at hl 3 rfl) ?_
      obtain ⟨x2, m3, r4, hf⟩ := bd2_s hf
      refine x_ci hW (x_runV C hW [.ref (ad a1), .int a3] [] (ha0).1 (ha0).2.1 kX2.1 kvX2_fits q_733 (tX2_fits l C.2.2.2.2.2.2.1 ha0 ha1 r4) rfl rfl ⟨by decide, by decide⟩ rfl hl.1 rfl (Nat.le_of_ble_eq_true rfl) dX2_fitting_13) (fun H locs hW => ?_)
      refine lv_if_eq (tgt := 25) C.1 C.2.1 dX2_fitting_16 (by decide) (fun c5 => ?_) (fun c5 => ?_)
      · have hf := if_t c5 hf
        exact wX2_fitting_25 C hk4 ha0 ha1 hW (lv_sub hl [0, 1, 2, 3] rfl) hf
      · have hf := if_f c5 hf
        refine lv_iload_n C.1 C.2.1 dX2_fitting_19 rfl (lv_at hl 2 rfl) ?_
        refine lv_iconst (v := 1) C.1 C.2.1 dX2_fitting_20 (by decide) ?_
        refine lv_iload_n C.1 C.2.1 dX2_fitting_21 rfl (lv_at hl 3 rfl) ?_
        refine lv_ishl C.1 C.2.1 dX2_fitting_22 ?_
        refine lv_ior C.1 C.2.1 dX2_fitting_23 ?_
        refine lv_istore_n (lv' := [(2, .int (a2 ||| (1 <<< (a3 &&& 31)))), (0, .ref (ad a0)), (1, .ref (ad a1)), (3, .int a3)]) C.1 C.2.1 dX2_fitting_24 rfl hl (by decide) rfl (fun ls hl => ?_)
        exact wX2_fitting_25 C hk4 ha0 ha1 hW (lv_sub hl [1, 2, 0, 3] rfl) hf
set_option maxRecDepth 100000 in
set_option maxHeartbeats 4000000 in
theorem wX2_fitting_0 (C : Cx p s m meth c args cX2_fitting 4 (some .int) RX2 D ca ad) {res : Int32 × Mm} {N : Nat}  {a0 : Nat} {a1 : Nat} {mm : Mm} {H : Heap} {locs : List Loc} {ls : Array Slot} (ha0 : sX2 a0) (ha1 : sX0 a1) (hW : Wd D ca ad s.heap mm H locs) (hl : lv_has ls 4 [(0, .ref (ad a0)), (1, .ref (ad a1))]) (hf : fX2_fitting N a0 a1 mm = some res) : W p l e (rmX2_fitting) s m args below meth c H locs 0 0 (MQ below (QI D ca ad res) args s 0 0 (AA ad)) (F0 m 0 ls []) := by
  unfold fX2_fitting at hf
  refine lv_iconst (v := 0) C.1 C.2.1 dX2_fitting_0 (by decide) ?_
  refine lv_istore_n (lv' := [(2, .int 0), (0, .ref (ad a0)), (1, .ref (ad a1))]) C.1 C.2.1 dX2_fitting_1 rfl hl (by decide) rfl (fun ls hl => ?_)
  refine lv_iconst (v := 0) C.1 C.2.1 dX2_fitting_2 (by decide) ?_
  refine lv_istore_n (lv' := [(3, .int 0), (2, .int 0), (0, .ref (ad a0)), (1, .ref (ad a1))]) C.1 C.2.1 dX2_fitting_3 rfl hl (by decide) rfl (fun ls hl => ?_)
  exact wX2_fitting_4 C  N ha0 ha1 hW (lv_sub hl [2, 3, 1, 0] rfl) hf
set_option maxRecDepth 100000 in
set_option maxHeartbeats 4000000 in
theorem tX2_fitting (l : Launch) {D : va_G} {ca ad : Nat → Nat} (hi : Inj ad) {N : Nat} {a0 : Nat} {a1 : Nat} {mm : Mm} {res : Int32 × Mm} (ha0 : sX2 a0) (ha1 : sX0 a1) (hf : fX2_fitting N a0 a1 mm = some res) : Met l yX2_fitting (WS yX2_fitting cX2_fitting 4 (some .int)) (rmX2_fitting) (va_Pc [.ref (ad a0), .ref (ad a1)] (WB D ca ad mm)) (QI D ca ad res) 0 0 (AA ad) := by
  refine x_start hi (by decide) rfl (Nat.le_of_ble_eq_true rfl) (fun p e s m args below meth c ls C hW hl => ?_)
  exact wX2_fitting_0 C ha0 ha1 hW (lv_sub hl [0, 1] rfl) hf
set_option maxRecDepth 100000 in
set_option maxHeartbeats 4000000 in
theorem wX2_firstOf_2 (C : Cx p s m meth c args cX2_firstOf 2 (some .int) RX2 D ca ad) {res : Int32 × Mm} {N : Nat}  : ∀ (n : Nat) {a0 : Int32} {a1 : Int32} {mm : Mm} {H : Heap} {locs : List Loc} {ls : Array Slot}, Wd D ca ad s.heap mm H locs → lv_has ls 2 [(0, .int a0), (1, .int a1)] → fX2_firstOf_2 N n a0 a1 mm = some res → W p l e (rmX2_firstOf) s m args below meth c H locs 0 0 (MQ below (QI D ca ad res) args s 0 0 (AA ad)) (F0 m 2 ls []) := by
  intro n
  induction n with
  | zero => intro a0 a1 mm H locs ls  hW hl hf; cases hf
  | succ n ih =>
    intro a0 a1 mm H locs ls  hW hl hf
    have hk2 : ∀ (a0 : Int32) (a1 : Int32) (mm : Mm) (H : Heap) (locs : List Loc) (ls : Array Slot), Wd D ca ad s.heap mm H locs → lv_has ls 2 [(0, .int a0), (1, .int a1)] → (fX2_firstOf_2 N n) a0 a1 mm = some res → W p l e (rmX2_firstOf) s m args below meth c H locs 0 0 (MQ below (QI D ca ad res) args s 0 0 (AA ad)) (F0 m 2 ls []) := fun a0 a1 mm H locs ls  hW hl hf => ih  hW hl hf
    unfold fX2_firstOf_2 at hf
    try dsimp only at hf
    refine lv_iload_n C.1 C.2.1 dX2_firstOf_2 rfl (lv_at hl 1 rfl) ?_
    refine lv_iconst (v := 5) C.1 C.2.1 dX2_firstOf_3 (by decide) ?_
    refine lv_icmp_ge (tgt := 21) C.1 C.2.1 dX2_firstOf_4 (by decide) (fun c1 => ?_) (fun c1 => ?_)
    · have hf := if_t c1 hf
      refine lv_iload_n C.1 C.2.1 dX2_firstOf_21 rfl (lv_at hl 1 rfl) ?_
      cases hf
      exact x_iret C hW dX2_firstOf_22
    · have hf := if_f c1 hf
      refine lv_iload_n C.1 C.2.1 dX2_firstOf_7 rfl (lv_at hl 0 rfl) ?_
      refine lv_iload_n C.1 C.2.1 dX2_firstOf_8 rfl (lv_at hl 1 rfl) ?_
      refine lv_ishr C.1 C.2.1 dX2_firstOf_9 ?_
      refine lv_iconst (v := 1) C.1 C.2.1 dX2_firstOf_10 (by decide) ?_
      refine lv_iand C.1 C.2.1 dX2_firstOf_11 ?_
      refine lv_if_ne (tgt := 21) C.1 C.2.1 dX2_firstOf_12 (by decide) (fun c2 => ?_) (fun c2 => ?_)
      · have hf := if_f c2 hf
        refine lv_iload_n C.1 C.2.1 dX2_firstOf_21 rfl (lv_at hl 1 rfl) ?_
        cases hf
        exact x_iret C hW dX2_firstOf_22
      · have hf := if_t c2 hf
        refine lv_iinc (v := (a1 + 1)) (lv' := [(1, .int (a1 + 1)), (0, .int a0)]) C.1 C.2.1 dX2_firstOf_15 hl (k := 1) rfl rfl (by decide) rfl (fun ls hl => ?_)
        refine lv_goto (tgt := 2) C.1 C.2.1 dX2_firstOf_18 (by decide) ?_
        exact hk2 _ _ _ _ _ _  hW (lv_sub hl [1, 0] rfl) hf
set_option maxRecDepth 100000 in
set_option maxHeartbeats 4000000 in
theorem wX2_firstOf_0 (C : Cx p s m meth c args cX2_firstOf 2 (some .int) RX2 D ca ad) {res : Int32 × Mm} {N : Nat}  {a0 : Int32} {mm : Mm} {H : Heap} {locs : List Loc} {ls : Array Slot}  (hW : Wd D ca ad s.heap mm H locs) (hl : lv_has ls 2 [(0, .int a0)]) (hf : fX2_firstOf N a0 mm = some res) : W p l e (rmX2_firstOf) s m args below meth c H locs 0 0 (MQ below (QI D ca ad res) args s 0 0 (AA ad)) (F0 m 0 ls []) := by
  unfold fX2_firstOf at hf
  refine lv_iconst (v := 0) C.1 C.2.1 dX2_firstOf_0 (by decide) ?_
  refine lv_istore_n (lv' := [(1, .int 0), (0, .int a0)]) C.1 C.2.1 dX2_firstOf_1 rfl hl (by decide) rfl (fun ls hl => ?_)
  exact wX2_firstOf_2 C  N  hW (lv_sub hl [1, 0] rfl) hf
set_option maxRecDepth 100000 in
set_option maxHeartbeats 4000000 in
theorem tX2_firstOf (l : Launch) {D : va_G} {ca ad : Nat → Nat} (hi : Inj ad) {N : Nat} {a0 : Int32} {mm : Mm} {res : Int32 × Mm}  (hf : fX2_firstOf N a0 mm = some res) : Met l yX2_firstOf (WS yX2_firstOf cX2_firstOf 2 (some .int)) (rmX2_firstOf) (va_Pc [.int a0] (WB D ca ad mm)) (QI D ca ad res) 0 0 (AA ad) := by
  refine x_start hi (by decide) rfl (Nat.le_of_ble_eq_true rfl) (fun p e s m args below meth c ls C hW hl => ?_)
  exact wX2_firstOf_0 C  hW (lv_sub hl [0] rfl) hf
set_option maxRecDepth 100000 in
set_option maxHeartbeats 4000000 in
theorem wX2_prepare_7 (C : Cx p s m meth c args cX2_prepare 4 none RX2 D ca ad) {res : Unit × Mm} {N : Nat}  : ∀ (n : Nat) {a0 : Nat} {a1 : Nat} {a3 : Int32} {mm : Mm} {H : Heap} {locs : List Loc} {ls : Array Slot}, (sX2 a0) → (sX0 a1) → Wd D ca ad s.heap mm H locs → lv_has ls 4 [(0, .ref (ad a0)), (1, .ref (ad a1)), (3, .int a3)] → fX2_prepare_7 N n a0 a1 a3 mm = some res → W p l e (rmX2_prepare) s m args below meth c H locs 0 0 (MQ below (QV D ca ad res) args s 0 0 (AA ad)) (F0 m 7 ls []) := by
  intro n
  induction n with
  | zero => intro a0 a1 a3 mm H locs ls ha0 ha1 hW hl hf; cases hf
  | succ n ih =>
    intro a0 a1 a3 mm H locs ls ha0 ha1 hW hl hf
    have hk7 : ∀ (a0 : Nat) (a1 : Nat) (a3 : Int32) (mm : Mm) (H : Heap) (locs : List Loc) (ls : Array Slot), (sX2 a0) → (sX0 a1) → Wd D ca ad s.heap mm H locs → lv_has ls 4 [(0, .ref (ad a0)), (1, .ref (ad a1)), (3, .int a3)] → (fX2_prepare_7 N n) a0 a1 a3 mm = some res → W p l e (rmX2_prepare) s m args below meth c H locs 0 0 (MQ below (QV D ca ad res) args s 0 0 (AA ad)) (F0 m 7 ls []) := fun a0 a1 a3 mm H locs ls ha0 ha1 hW hl hf => ih ha0 ha1 hW hl hf
    unfold fX2_prepare_7 at hf
    try dsimp only at hf
    refine lv_iload_n C.1 C.2.1 dX2_prepare_7 rfl (lv_at hl 2 rfl) ?_
    refine lv_bipush (v := 6) C.1 C.2.1 dX2_prepare_8 (by decide) ?_
    refine lv_icmp_ge (tgt := 46) C.1 C.2.1 dX2_prepare_10 (by decide) (fun c1 => ?_) (fun c1 => ?_)
    · have hf := if_t c1 hf
      cases hf
      exact x_vret C hW dX2_prepare_46
    · have hf := if_f c1 hf
      refine lv_aload_n C.1 C.2.1 dX2_prepare_13 rfl (lv_at hl 0 rfl) ?_
      refine lv_aload_n C.1 C.2.1 dX2_prepare_14 rfl (lv_at hl 1 rfl) ?_
      refine lv_iload_n C.1 C.2.1 dX2_prepare_15 rfl (lv_at hl 2 rfl) ?_
      refine lv_aload_n C.1 C.2.1 dX2_prepare_16 rfl (lv_at hl 1 rfl) ?_
      refine x_geti C hW (ha1).1 (ha1).2.1 (j := 7) rfl kX0 (by decide) rfl q_79 dX2_prepare_17 ?_
      obtain ⟨x2, m3, r4, hf⟩ := bd2_s hf
      refine x_cv hW (x_runV C hW [.ref (ad a1), .int a3, .int (rd mm a1 7)] [] (ha0).1 (ha0).2.1 kX2.1 kvX2_layBy q_737 (tX2_layBy l C.2.2.2.2.2.2.1 ha0 ha1 r4) rfl rfl ⟨by decide, by decide⟩ rfl hl.1 rfl (Nat.le_of_ble_eq_true rfl) dX2_prepare_20) (fun H locs hW => ?_)
      refine lv_aload_n C.1 C.2.1 dX2_prepare_23 rfl (lv_at hl 0 rfl) ?_
      refine x_getr C hW (ha0).1 (ha0).2.1 (j := 0) rfl kX2 (by decide) rfl q_272 dX2_prepare_24 ?_
      refine lv_iconst (v := 0) C.1 C.2.1 dX2_prepare_27 (by decide) ?_
      refine lv_aload_n C.1 C.2.1 dX2_prepare_28 rfl (lv_at hl 0 rfl) ?_
      refine x_getr C hW (ha0).1 (ha0).2.1 (j := 2) rfl kX2 (by decide) rfl q_275 dX2_prepare_29 ?_
      refine lv_iload_n C.1 C.2.1 dX2_prepare_32 rfl (lv_at hl 2 rfl) ?_
      obtain ⟨g5, hf⟩ := gd_s hf
      refine x_aald C hW (ha0.2.2.2.2.1).1 (fun _ => rfl) rfl g5 dX2_prepare_33 ?_
      refine lv_iconst (v := 0) C.1 C.2.1 dX2_prepare_34 (by decide) ?_
      refine lv_bipush (v := 6) C.1 C.2.1 dX2_prepare_35 (by decide) ?_
      obtain ⟨g6, hf⟩ := gd_s hf
      refine x_copy C hW ha0.2.2.1 ((ha0.2.2.2.2.1).2 _ (inb_lt g5)) g6 hl.1 q_755 q_496 q_495 q_14 (by decide) (Nat.le_of_ble_eq_true rfl) dX2_prepare_37 (fun H locs hW => ?_)
      obtain ⟨m7, em7⟩ : ∃ z, z = cpy m3 (fr a0 0) (el (fr a0 2) a3.toNatClampNeg) 0 0 6 := ⟨_, rfl⟩
      have hf := nm_s hf em7
      rw [← em7] at hW
      refine lv_iinc (v := (a3 + 1)) (lv' := [(3, .int (a3 + 1)), (0, .ref (ad a0)), (1, .ref (ad a1))]) C.1 C.2.1 dX2_prepare_40 hl (k := 2) rfl rfl (by decide) rfl (fun ls hl => ?_)
      refine lv_goto (tgt := 7) C.1 C.2.1 dX2_prepare_43 (by decide) ?_
      exact hk7 _ _ _ _ _ _ _ ha0 ha1 hW (lv_sub hl [1, 2, 0] rfl) hf
set_option maxRecDepth 100000 in
set_option maxHeartbeats 4000000 in
theorem wX2_prepare_0 (C : Cx p s m meth c args cX2_prepare 4 none RX2 D ca ad) {res : Unit × Mm} {N : Nat}  {a0 : Nat} {a1 : Nat} {a2 : Int32} {mm : Mm} {H : Heap} {locs : List Loc} {ls : Array Slot} (ha0 : sX2 a0) (ha1 : sX0 a1) (hW : Wd D ca ad s.heap mm H locs) (hl : lv_has ls 4 [(0, .ref (ad a0)), (1, .ref (ad a1)), (2, .int a2)]) (hf : fX2_prepare N a0 a1 a2 mm = some res) : W p l e (rmX2_prepare) s m args below meth c H locs 0 0 (MQ below (QV D ca ad res) args s 0 0 (AA ad)) (F0 m 0 ls []) := by
  unfold fX2_prepare at hf
  refine lv_aload_n C.1 C.2.1 dX2_prepare_0 rfl (lv_at hl 0 rfl) ?_
  refine lv_iload_n C.1 C.2.1 dX2_prepare_1 rfl (lv_at hl 2 rfl) ?_
  refine x_put C hW (ha0).1 (ha0).2.1 (j := 5) (t1 := .int) rfl kX2 (by decide) rfl rfl q_278 (by decide +kernel) rfl rfl dX2_prepare_2 (fun H locs hW => ?_)
  obtain ⟨m8, em8⟩ : ∃ z, z = wr mm a0 5 a2 := ⟨_, rfl⟩
  have hf := nm_s hf em8
  rw [← em8] at hW
  refine lv_iconst (v := 0) C.1 C.2.1 dX2_prepare_5 (by decide) ?_
  refine lv_istore_n (lv' := [(3, .int 0), (0, .ref (ad a0)), (1, .ref (ad a1)), (2, .int a2)]) C.1 C.2.1 dX2_prepare_6 rfl hl (by decide) rfl (fun ls hl => ?_)
  exact wX2_prepare_7 C  N ha0 ha1 hW (lv_sub hl [1, 2, 0] rfl) hf
set_option maxRecDepth 100000 in
set_option maxHeartbeats 4000000 in
theorem tX2_prepare (l : Launch) {D : va_G} {ca ad : Nat → Nat} (hi : Inj ad) {N : Nat} {a0 : Nat} {a1 : Nat} {a2 : Int32} {mm : Mm} {res : Unit × Mm} (ha0 : sX2 a0) (ha1 : sX0 a1) (hf : fX2_prepare N a0 a1 a2 mm = some res) : Met l yX2_prepare (WS yX2_prepare cX2_prepare 4 none) (rmX2_prepare) (va_Pc [.ref (ad a0), .ref (ad a1), .int a2] (WB D ca ad mm)) (QV D ca ad res) 0 0 (AA ad) := by
  refine x_start hi (by decide) rfl (Nat.le_of_ble_eq_true rfl) (fun p e s m args below meth c ls C hW hl => ?_)
  exact wX2_prepare_0 C ha0 ha1 hW (lv_sub hl [0, 1, 2] rfl) hf
set_option maxRecDepth 100000 in
set_option maxHeartbeats 4000000 in
theorem wX2_firstLike_64 (C : Cx p s m meth c args cX2_firstLike 5 (some .int) RX2 D ca ad) {res : Int32 × Mm} {N : Nat} {k2 : Nat → Int32 → Int32 → Mm → Option (Int32 × Mm)} {k27 : Nat → Int32 → Int32 → Int32 → Int32 → Mm → Option (Int32 × Mm)} (hk2 : ∀ (a0 : Nat) (a1 : Int32) (a2 : Int32) (mm : Mm) (H : Heap) (locs : List Loc) (ls : Array Slot), (sX2 a0) → Wd D ca ad s.heap mm H locs → lv_has ls 5 [(0, .ref (ad a0)), (1, .int a1), (2, .int a2)] → k2 a0 a1 a2 mm = some res → W p l e (rmX2_firstLike) s m args below meth c H locs 0 0 (MQ below (QI D ca ad res) args s 0 0 (AA ad)) (F0 m 2 ls [])) (hk27 : ∀ (a0 : Nat) (a1 : Int32) (a2 : Int32) (a3 : Int32) (a4 : Int32) (mm : Mm) (H : Heap) (locs : List Loc) (ls : Array Slot), (sX2 a0) → Wd D ca ad s.heap mm H locs → lv_has ls 5 [(0, .ref (ad a0)), (1, .int a1), (2, .int a2), (3, .int a3), (4, .int a4)] → k27 a0 a1 a2 a3 a4 mm = some res → W p l e (rmX2_firstLike) s m args below meth c H locs 0 0 (MQ below (QI D ca ad res) args s 0 0 (AA ad)) (F0 m 27 ls [])) {a0 : Nat} {a1 : Int32} {a2 : Int32} {a4 : Int32} {s0 : Int32} {mm : Mm} {H : Heap} {locs : List Loc} {ls : Array Slot} (ha0 : sX2 a0) (hW : Wd D ca ad s.heap mm H locs) (hl : lv_has ls 5 [(0, .ref (ad a0)), (1, .int a1), (2, .int a2), (4, .int a4)]) (hf : fX2_firstLike_64 N k2 k27 a0 a1 a2 a4 s0 mm = some res) : W p l e (rmX2_firstLike) s m args below meth c H locs 0 0 (MQ below (QI D ca ad res) args s 0 0 (AA ad)) (F0 m 64 ls [.int s0]) := by
  unfold fX2_firstLike_64 at hf
  refine lv_istore_n (lv' := [(3, .int s0), (0, .ref (ad a0)), (1, .int a1), (2, .int a2), (4, .int a4)]) C.1 C.2.1 dX2_firstLike_64 rfl hl (by decide) rfl (fun ls hl => ?_)
  refine lv_iinc (v := (a4 + 1)) (lv' := [(4, .int (a4 + 1)), (3, .int s0), (0, .ref (ad a0)), (1, .int a1), (2, .int a2)]) C.1 C.2.1 dX2_firstLike_65 hl (k := 4) rfl rfl (by decide) rfl (fun ls hl => ?_)
  refine lv_goto (tgt := 27) C.1 C.2.1 dX2_firstLike_68 (by decide) ?_
  exact hk27 _ _ _ _ _ _ _ _ _ ha0 hW (lv_sub hl [2, 3, 4, 1, 0] rfl) hf
set_option maxRecDepth 100000 in
set_option maxHeartbeats 4000000 in
theorem wX2_firstLike_63 (C : Cx p s m meth c args cX2_firstLike 5 (some .int) RX2 D ca ad) {res : Int32 × Mm} {N : Nat} {k2 : Nat → Int32 → Int32 → Mm → Option (Int32 × Mm)} {k27 : Nat → Int32 → Int32 → Int32 → Int32 → Mm → Option (Int32 × Mm)} (hk2 : ∀ (a0 : Nat) (a1 : Int32) (a2 : Int32) (mm : Mm) (H : Heap) (locs : List Loc) (ls : Array Slot), (sX2 a0) → Wd D ca ad s.heap mm H locs → lv_has ls 5 [(0, .ref (ad a0)), (1, .int a1), (2, .int a2)] → k2 a0 a1 a2 mm = some res → W p l e (rmX2_firstLike) s m args below meth c H locs 0 0 (MQ below (QI D ca ad res) args s 0 0 (AA ad)) (F0 m 2 ls [])) (hk27 : ∀ (a0 : Nat) (a1 : Int32) (a2 : Int32) (a3 : Int32) (a4 : Int32) (mm : Mm) (H : Heap) (locs : List Loc) (ls : Array Slot), (sX2 a0) → Wd D ca ad s.heap mm H locs → lv_has ls 5 [(0, .ref (ad a0)), (1, .int a1), (2, .int a2), (3, .int a3), (4, .int a4)] → k27 a0 a1 a2 a3 a4 mm = some res → W p l e (rmX2_firstLike) s m args below meth c H locs 0 0 (MQ below (QI D ca ad res) args s 0 0 (AA ad)) (F0 m 27 ls [])) {a0 : Nat} {a1 : Int32} {a2 : Int32} {a4 : Int32} {mm : Mm} {H : Heap} {locs : List Loc} {ls : Array Slot} (ha0 : sX2 a0) (hW : Wd D ca ad s.heap mm H locs) (hl : lv_has ls 5 [(0, .ref (ad a0)), (1, .int a1), (2, .int a2), (4, .int a4)]) (hf : fX2_firstLike_63 N k2 k27 a0 a1 a2 a4 mm = some res) : W p l e (rmX2_firstLike) s m args below meth c H locs 0 0 (MQ below (QI D ca ad res) args s 0 0 (AA ad)) (F0 m 63 ls []) := by
  unfold fX2_firstLike_63 at hf
  refine lv_iconst (v := 0) C.1 C.2.1 dX2_firstLike_63 (by decide) ?_
  exact wX2_firstLike_64 C hk2 hk27 ha0 hW (lv_sub hl [0, 1, 2, 3] rfl) hf
set_option maxRecDepth 100000 in
set_option maxHeartbeats 4000000 in
theorem wX2_firstLike_27 (C : Cx p s m meth c args cX2_firstLike 5 (some .int) RX2 D ca ad) {res : Int32 × Mm} {N : Nat} {k2 : Nat → Int32 → Int32 → Mm → Option (Int32 × Mm)} (hk2 : ∀ (a0 : Nat) (a1 : Int32) (a2 : Int32) (mm : Mm) (H : Heap) (locs : List Loc) (ls : Array Slot), (sX2 a0) → Wd D ca ad s.heap mm H locs → lv_has ls 5 [(0, .ref (ad a0)), (1, .int a1), (2, .int a2)] → k2 a0 a1 a2 mm = some res → W p l e (rmX2_firstLike) s m args below meth c H locs 0 0 (MQ below (QI D ca ad res) args s 0 0 (AA ad)) (F0 m 2 ls [])) : ∀ (n : Nat) {a0 : Nat} {a1 : Int32} {a2 : Int32} {a3 : Int32} {a4 : Int32} {mm : Mm} {H : Heap} {locs : List Loc} {ls : Array Slot}, (sX2 a0) → Wd D ca ad s.heap mm H locs → lv_has ls 5 [(0, .ref (ad a0)), (1, .int a1), (2, .int a2), (3, .int a3), (4, .int a4)] → fX2_firstLike_27 N k2 n a0 a1 a2 a3 a4 mm = some res → W p l e (rmX2_firstLike) s m args below meth c H locs 0 0 (MQ below (QI D ca ad res) args s 0 0 (AA ad)) (F0 m 27 ls []) := by
  intro n
  induction n with
  | zero => intro a0 a1 a2 a3 a4 mm H locs ls ha0 hW hl hf; cases hf
  | succ n ih =>
    intro a0 a1 a2 a3 a4 mm H locs ls ha0 hW hl hf
    have hk27 : ∀ (a0 : Nat) (a1 : Int32) (a2 : Int32) (a3 : Int32) (a4 : Int32) (mm : Mm) (H : Heap) (locs : List Loc) (ls : Array Slot), (sX2 a0) → Wd D ca ad s.heap mm H locs → lv_has ls 5 [(0, .ref (ad a0)), (1, .int a1), (2, .int a2), (3, .int a3), (4, .int a4)] → (fX2_firstLike_27 N k2 n) a0 a1 a2 a3 a4 mm = some res → W p l e (rmX2_firstLike) s m args below meth c H locs 0 0 (MQ below (QI D ca ad res) args s 0 0 (AA ad)) (F0 m 27 ls []) := fun a0 a1 a2 a3 a4 mm H locs ls ha0 hW hl hf => ih ha0 hW hl hf
    unfold fX2_firstLike_27 at hf
    try dsimp only at hf
    refine lv_iload C.1 C.2.1 dX2_firstLike_27 (lv_at hl 4 rfl) ?_
    refine lv_bipush (v := 6) C.1 C.2.1 dX2_firstLike_29 (by decide) ?_
    refine lv_icmp_ge (tgt := 71) C.1 C.2.1 dX2_firstLike_31 (by decide) (fun c1 => ?_) (fun c1 => ?_)
    · have hf := if_t c1 hf
      refine lv_iload_n C.1 C.2.1 dX2_firstLike_71 rfl (lv_at hl 3 rfl) ?_
      refine lv_if_eq (tgt := 77) C.1 C.2.1 dX2_firstLike_72 (by decide) (fun c2 => ?_) (fun c2 => ?_)
      · have hf := if_t c2 hf
        refine lv_iinc (v := (a2 + 1)) (lv' := [(2, .int (a2 + 1)), (0, .ref (ad a0)), (1, .int a1), (3, .int a3), (4, .int a4)]) C.1 C.2.1 dX2_firstLike_77 hl (k := 2) rfl rfl (by decide) rfl (fun ls hl => ?_)
        refine lv_goto (tgt := 2) C.1 C.2.1 dX2_firstLike_80 (by decide) ?_
        exact hk2 _ _ _ _ _ _ _ ha0 hW (lv_sub hl [1, 2, 0] rfl) hf
      · have hf := if_f c2 hf
        refine lv_iload_n C.1 C.2.1 dX2_firstLike_75 rfl (lv_at hl 2 rfl) ?_
        cases hf
        exact x_iret C hW dX2_firstLike_76
    · have hf := if_f c1 hf
      refine lv_iload_n C.1 C.2.1 dX2_firstLike_34 rfl (lv_at hl 3 rfl) ?_
      refine lv_if_eq (tgt := 63) C.1 C.2.1 dX2_firstLike_35 (by decide) (fun c3 => ?_) (fun c3 => ?_)
      · have hf := if_t c3 hf
        exact wX2_firstLike_63 C hk2 hk27 ha0 hW (lv_sub hl [0, 1, 2, 4] rfl) hf
      · have hf := if_f c3 hf
        refine lv_aload_n C.1 C.2.1 dX2_firstLike_38 rfl (lv_at hl 0 rfl) ?_
        refine x_getr C hW (ha0).1 (ha0).2.1 (j := 2) rfl kX2 (by decide) rfl q_275 dX2_firstLike_39 ?_
        refine lv_iload_n C.1 C.2.1 dX2_firstLike_42 rfl (lv_at hl 2 rfl) ?_
        obtain ⟨g4, hf⟩ := gd_s hf
        refine x_aald C hW (ha0.2.2.2.2.1).1 (fun _ => rfl) rfl g4 dX2_firstLike_43 ?_
        refine lv_iload C.1 C.2.1 dX2_firstLike_44 (lv_at hl 4 rfl) ?_
        obtain ⟨g5, hf⟩ := gd_s hf
        refine x_iald C hW ((ha0.2.2.2.2.1).2 _ (inb_lt g4)) g5 dX2_firstLike_46 ?_
        refine lv_aload_n C.1 C.2.1 dX2_firstLike_47 rfl (lv_at hl 0 rfl) ?_
        refine x_getr C hW (ha0).1 (ha0).2.1 (j := 2) rfl kX2 (by decide) rfl q_275 dX2_firstLike_48 ?_
        refine lv_iload_n C.1 C.2.1 dX2_firstLike_51 rfl (lv_at hl 1 rfl) ?_
        obtain ⟨g6, hf⟩ := gd_s hf
        refine x_aald C hW (ha0.2.2.2.2.1).1 (fun _ => rfl) rfl g6 dX2_firstLike_52 ?_
        refine lv_iload C.1 C.2.1 dX2_firstLike_53 (lv_at hl 4 rfl) ?_
        obtain ⟨g7, hf⟩ := gd_s hf
        refine x_iald C hW ((ha0.2.2.2.2.1).2 _ (inb_lt g6)) g7 dX2_firstLike_55 ?_
        refine lv_icmp_ne (tgt := 63) C.1 C.2.1 dX2_firstLike_56 (by decide) (fun c8 => ?_) (fun c8 => ?_)
        · have hf := if_f c8 hf
          exact wX2_firstLike_63 C hk2 hk27 ha0 hW (lv_sub hl [0, 1, 2, 4] rfl) hf
        · have hf := if_t c8 hf
          refine lv_iconst (v := 1) C.1 C.2.1 dX2_firstLike_59 (by decide) ?_
          refine lv_goto (tgt := 64) C.1 C.2.1 dX2_firstLike_60 (by decide) ?_
          exact wX2_firstLike_64 C hk2 hk27 ha0 hW (lv_sub hl [0, 1, 2, 4] rfl) hf
set_option maxRecDepth 100000 in
set_option maxHeartbeats 4000000 in
theorem wX2_firstLike_23 (C : Cx p s m meth c args cX2_firstLike 5 (some .int) RX2 D ca ad) {res : Int32 × Mm} {N : Nat} {k2 : Nat → Int32 → Int32 → Mm → Option (Int32 × Mm)} (hk2 : ∀ (a0 : Nat) (a1 : Int32) (a2 : Int32) (mm : Mm) (H : Heap) (locs : List Loc) (ls : Array Slot), (sX2 a0) → Wd D ca ad s.heap mm H locs → lv_has ls 5 [(0, .ref (ad a0)), (1, .int a1), (2, .int a2)] → k2 a0 a1 a2 mm = some res → W p l e (rmX2_firstLike) s m args below meth c H locs 0 0 (MQ below (QI D ca ad res) args s 0 0 (AA ad)) (F0 m 2 ls [])) {a0 : Nat} {a1 : Int32} {a2 : Int32} {s0 : Int32} {mm : Mm} {H : Heap} {locs : List Loc} {ls : Array Slot} (ha0 : sX2 a0) (hW : Wd D ca ad s.heap mm H locs) (hl : lv_has ls 5 [(0, .ref (ad a0)), (1, .int a1), (2, .int a2)]) (hf : fX2_firstLike_23 N k2 a0 a1 a2 s0 mm = some res) : W p l e (rmX2_firstLike) s m args below meth c H locs 0 0 (MQ below (QI D ca ad res) args s 0 0 (AA ad)) (F0 m 23 ls [.int s0]) := by
  unfold fX2_firstLike_23 at hf
  refine lv_istore_n (lv' := [(3, .int s0), (0, .ref (ad a0)), (1, .int a1), (2, .int a2)]) C.1 C.2.1 dX2_firstLike_23 rfl hl (by decide) rfl (fun ls hl => ?_)
  refine lv_iconst (v := 0) C.1 C.2.1 dX2_firstLike_24 (by decide) ?_
  refine lv_istore (lv' := [(4, .int 0), (3, .int s0), (0, .ref (ad a0)), (1, .int a1), (2, .int a2)]) C.1 C.2.1 dX2_firstLike_25 hl (by decide) rfl (fun ls hl => ?_)
  exact wX2_firstLike_27 C hk2 N ha0 hW (lv_sub hl [2, 3, 4, 1, 0] rfl) hf
set_option maxRecDepth 100000 in
set_option maxHeartbeats 4000000 in
theorem wX2_firstLike_2 (C : Cx p s m meth c args cX2_firstLike 5 (some .int) RX2 D ca ad) {res : Int32 × Mm} {N : Nat}  : ∀ (n : Nat) {a0 : Nat} {a1 : Int32} {a2 : Int32} {mm : Mm} {H : Heap} {locs : List Loc} {ls : Array Slot}, (sX2 a0) → Wd D ca ad s.heap mm H locs → lv_has ls 5 [(0, .ref (ad a0)), (1, .int a1), (2, .int a2)] → fX2_firstLike_2 N n a0 a1 a2 mm = some res → W p l e (rmX2_firstLike) s m args below meth c H locs 0 0 (MQ below (QI D ca ad res) args s 0 0 (AA ad)) (F0 m 2 ls []) := by
  intro n
  induction n with
  | zero => intro a0 a1 a2 mm H locs ls ha0 hW hl hf; cases hf
  | succ n ih =>
    intro a0 a1 a2 mm H locs ls ha0 hW hl hf
    have hk2 : ∀ (a0 : Nat) (a1 : Int32) (a2 : Int32) (mm : Mm) (H : Heap) (locs : List Loc) (ls : Array Slot), (sX2 a0) → Wd D ca ad s.heap mm H locs → lv_has ls 5 [(0, .ref (ad a0)), (1, .int a1), (2, .int a2)] → (fX2_firstLike_2 N n) a0 a1 a2 mm = some res → W p l e (rmX2_firstLike) s m args below meth c H locs 0 0 (MQ below (QI D ca ad res) args s 0 0 (AA ad)) (F0 m 2 ls []) := fun a0 a1 a2 mm H locs ls ha0 hW hl hf => ih ha0 hW hl hf
    unfold fX2_firstLike_2 at hf
    try dsimp only at hf
    refine lv_iload_n C.1 C.2.1 dX2_firstLike_2 rfl (lv_at hl 2 rfl) ?_
    refine lv_iload_n C.1 C.2.1 dX2_firstLike_3 rfl (lv_at hl 1 rfl) ?_
    refine lv_icmp_ge (tgt := 83) C.1 C.2.1 dX2_firstLike_4 (by decide) (fun c9 => ?_) (fun c9 => ?_)
    · have hf := if_t c9 hf
      refine lv_iload_n C.1 C.2.1 dX2_firstLike_83 rfl (lv_at hl 1 rfl) ?_
      cases hf
      exact x_iret C hW dX2_firstLike_84
    · have hf := if_f c9 hf
      refine lv_aload_n C.1 C.2.1 dX2_firstLike_7 rfl (lv_at hl 0 rfl) ?_
      refine x_geti C hW (ha0).1 (ha0).2.1 (j := 5) rfl kX2 (by decide) rfl q_278 dX2_firstLike_8 ?_
      refine lv_iload_n C.1 C.2.1 dX2_firstLike_11 rfl (lv_at hl 2 rfl) ?_
      refine lv_ishr C.1 C.2.1 dX2_firstLike_12 ?_
      refine lv_iconst (v := 1) C.1 C.2.1 dX2_firstLike_13 (by decide) ?_
      refine lv_iand C.1 C.2.1 dX2_firstLike_14 ?_
      refine lv_if_eq (tgt := 22) C.1 C.2.1 dX2_firstLike_15 (by decide) (fun c10 => ?_) (fun c10 => ?_)
      · have hf := if_t c10 hf
        refine lv_iconst (v := 0) C.1 C.2.1 dX2_firstLike_22 (by decide) ?_
        exact wX2_firstLike_23 C hk2 ha0 hW (lv_sub hl [0, 1, 2] rfl) hf
      · have hf := if_f c10 hf
        refine lv_iconst (v := 1) C.1 C.2.1 dX2_firstLike_18 (by decide) ?_
        refine lv_goto (tgt := 23) C.1 C.2.1 dX2_firstLike_19 (by decide) ?_
        exact wX2_firstLike_23 C hk2 ha0 hW (lv_sub hl [0, 1, 2] rfl) hf
set_option maxRecDepth 100000 in
set_option maxHeartbeats 4000000 in
theorem wX2_firstLike_0 (C : Cx p s m meth c args cX2_firstLike 5 (some .int) RX2 D ca ad) {res : Int32 × Mm} {N : Nat}  {a0 : Nat} {a1 : Int32} {mm : Mm} {H : Heap} {locs : List Loc} {ls : Array Slot} (ha0 : sX2 a0) (hW : Wd D ca ad s.heap mm H locs) (hl : lv_has ls 5 [(0, .ref (ad a0)), (1, .int a1)]) (hf : fX2_firstLike N a0 a1 mm = some res) : W p l e (rmX2_firstLike) s m args below meth c H locs 0 0 (MQ below (QI D ca ad res) args s 0 0 (AA ad)) (F0 m 0 ls []) := by
  unfold fX2_firstLike at hf
  refine lv_iconst (v := 0) C.1 C.2.1 dX2_firstLike_0 (by decide) ?_
  refine lv_istore_n (lv' := [(2, .int 0), (0, .ref (ad a0)), (1, .int a1)]) C.1 C.2.1 dX2_firstLike_1 rfl hl (by decide) rfl (fun ls hl => ?_)
  exact wX2_firstLike_2 C  N ha0 hW (lv_sub hl [1, 2, 0] rfl) hf
set_option maxRecDepth 100000 in
set_option maxHeartbeats 4000000 in
theorem tX2_firstLike (l : Launch) {D : va_G} {ca ad : Nat → Nat} (hi : Inj ad) {N : Nat} {a0 : Nat} {a1 : Int32} {mm : Mm} {res : Int32 × Mm} (ha0 : sX2 a0) (hf : fX2_firstLike N a0 a1 mm = some res) : Met l yX2_firstLike (WS yX2_firstLike cX2_firstLike 5 (some .int)) (rmX2_firstLike) (va_Pc [.ref (ad a0), .int a1] (WB D ca ad mm)) (QI D ca ad res) 0 0 (AA ad) := by
  refine x_start hi (by decide) rfl (Nat.le_of_ble_eq_true rfl) (fun p e s m args below meth c ls C hW hl => ?_)
  exact wX2_firstLike_0 C ha0 hW (lv_sub hl [0, 1] rfl) hf
set_option maxRecDepth 100000 in
set_option maxHeartbeats 4000000 in
theorem wX2_unlikeOnes_87 (C : Cx p s m meth c args cX2_unlikeOnes 5 (some .int) RX2 D ca ad) {res : Int32 × Mm} {N : Nat} {k4 : Nat → Int32 → Int32 → Mm → Option (Int32 × Mm)} (hk4 : ∀ (a0 : Nat) (a1 : Int32) (a2 : Int32) (mm : Mm) (H : Heap) (locs : List Loc) (ls : Array Slot), (sX2 a0) → Wd D ca ad s.heap mm H locs → lv_has ls 5 [(0, .ref (ad a0)), (1, .int a1), (2, .int a2)] → k4 a0 a1 a2 mm = some res → W p l e (rmX2_unlikeOnes) s m args below meth c H locs 0 0 (MQ below (QI D ca ad res) args s 0 0 (AA ad)) (F0 m 4 ls [])) {a0 : Nat} {a1 : Int32} {a2 : Int32} {mm : Mm} {H : Heap} {locs : List Loc} {ls : Array Slot} (ha0 : sX2 a0) (hW : Wd D ca ad s.heap mm H locs) (hl : lv_has ls 5 [(0, .ref (ad a0)), (1, .int a1), (2, .int a2)]) (hf : fX2_unlikeOnes_87 N k4 a0 a1 a2 mm = some res) : W p l e (rmX2_unlikeOnes) s m args below meth c H locs 0 0 (MQ below (QI D ca ad res) args s 0 0 (AA ad)) (F0 m 87 ls []) := by
  unfold fX2_unlikeOnes_87 at hf
  refine lv_iinc (v := (a2 + 1)) (lv' := [(2, .int (a2 + 1)), (0, .ref (ad a0)), (1, .int a1)]) C.1 C.2.1 dX2_unlikeOnes_87 hl (k := 2) rfl rfl (by decide) rfl (fun ls hl => ?_)
  refine lv_goto (tgt := 4) C.1 C.2.1 dX2_unlikeOnes_90 (by decide) ?_
  exact hk4 _ _ _ _ _ _ _ ha0 hW (lv_sub hl [1, 2, 0] rfl) hf
set_option maxRecDepth 100000 in
set_option maxHeartbeats 4000000 in
theorem wX2_unlikeOnes_73 (C : Cx p s m meth c args cX2_unlikeOnes 5 (some .int) RX2 D ca ad) {res : Int32 × Mm} {N : Nat} {k4 : Nat → Int32 → Int32 → Mm → Option (Int32 × Mm)} {k30 : Nat → Int32 → Int32 → Int32 → Int32 → Mm → Option (Int32 × Mm)} (hk4 : ∀ (a0 : Nat) (a1 : Int32) (a2 : Int32) (mm : Mm) (H : Heap) (locs : List Loc) (ls : Array Slot), (sX2 a0) → Wd D ca ad s.heap mm H locs → lv_has ls 5 [(0, .ref (ad a0)), (1, .int a1), (2, .int a2)] → k4 a0 a1 a2 mm = some res → W p l e (rmX2_unlikeOnes) s m args below meth c H locs 0 0 (MQ below (QI D ca ad res) args s 0 0 (AA ad)) (F0 m 4 ls [])) (hk30 : ∀ (a0 : Nat) (a1 : Int32) (a2 : Int32) (a3 : Int32) (a4 : Int32) (mm : Mm) (H : Heap) (locs : List Loc) (ls : Array Slot), (sX2 a0) → Wd D ca ad s.heap mm H locs → lv_has ls 5 [(0, .ref (ad a0)), (1, .int a1), (2, .int a2), (3, .int a3), (4, .int a4)] → k30 a0 a1 a2 a3 a4 mm = some res → W p l e (rmX2_unlikeOnes) s m args below meth c H locs 0 0 (MQ below (QI D ca ad res) args s 0 0 (AA ad)) (F0 m 30 ls [])) {a0 : Nat} {a1 : Int32} {a2 : Int32} {a4 : Int32} {s0 : Int32} {mm : Mm} {H : Heap} {locs : List Loc} {ls : Array Slot} (ha0 : sX2 a0) (hW : Wd D ca ad s.heap mm H locs) (hl : lv_has ls 5 [(0, .ref (ad a0)), (1, .int a1), (2, .int a2), (4, .int a4)]) (hf : fX2_unlikeOnes_73 N k4 k30 a0 a1 a2 a4 s0 mm = some res) : W p l e (rmX2_unlikeOnes) s m args below meth c H locs 0 0 (MQ below (QI D ca ad res) args s 0 0 (AA ad)) (F0 m 73 ls [.int s0]) := by
  unfold fX2_unlikeOnes_73 at hf
  refine lv_istore_n (lv' := [(3, .int s0), (0, .ref (ad a0)), (1, .int a1), (2, .int a2), (4, .int a4)]) C.1 C.2.1 dX2_unlikeOnes_73 rfl hl (by decide) rfl (fun ls hl => ?_)
  refine lv_iinc (v := (a4 + 1)) (lv' := [(4, .int (a4 + 1)), (3, .int s0), (0, .ref (ad a0)), (1, .int a1), (2, .int a2)]) C.1 C.2.1 dX2_unlikeOnes_74 hl (k := 4) rfl rfl (by decide) rfl (fun ls hl => ?_)
  refine lv_goto (tgt := 30) C.1 C.2.1 dX2_unlikeOnes_77 (by decide) ?_
  exact hk30 _ _ _ _ _ _ _ _ _ ha0 hW (lv_sub hl [2, 3, 4, 1, 0] rfl) hf
set_option maxRecDepth 100000 in
set_option maxHeartbeats 4000000 in
theorem wX2_unlikeOnes_72 (C : Cx p s m meth c args cX2_unlikeOnes 5 (some .int) RX2 D ca ad) {res : Int32 × Mm} {N : Nat} {k4 : Nat → Int32 → Int32 → Mm → Option (Int32 × Mm)} {k30 : Nat → Int32 → Int32 → Int32 → Int32 → Mm → Option (Int32 × Mm)} (hk4 : ∀ (a0 : Nat) (a1 : Int32) (a2 : Int32) (mm : Mm) (H : Heap) (locs : List Loc) (ls : Array Slot), (sX2 a0) → Wd D ca ad s.heap mm H locs → lv_has ls 5 [(0, .ref (ad a0)), (1, .int a1), (2, .int a2)] → k4 a0 a1 a2 mm = some res → W p l e (rmX2_unlikeOnes) s m args below meth c H locs 0 0 (MQ below (QI D ca ad res) args s 0 0 (AA ad)) (F0 m 4 ls [])) (hk30 : ∀ (a0 : Nat) (a1 : Int32) (a2 : Int32) (a3 : Int32) (a4 : Int32) (mm : Mm) (H : Heap) (locs : List Loc) (ls : Array Slot), (sX2 a0) → Wd D ca ad s.heap mm H locs → lv_has ls 5 [(0, .ref (ad a0)), (1, .int a1), (2, .int a2), (3, .int a3), (4, .int a4)] → k30 a0 a1 a2 a3 a4 mm = some res → W p l e (rmX2_unlikeOnes) s m args below meth c H locs 0 0 (MQ below (QI D ca ad res) args s 0 0 (AA ad)) (F0 m 30 ls [])) {a0 : Nat} {a1 : Int32} {a2 : Int32} {a4 : Int32} {mm : Mm} {H : Heap} {locs : List Loc} {ls : Array Slot} (ha0 : sX2 a0) (hW : Wd D ca ad s.heap mm H locs) (hl : lv_has ls 5 [(0, .ref (ad a0)), (1, .int a1), (2, .int a2), (4, .int a4)]) (hf : fX2_unlikeOnes_72 N k4 k30 a0 a1 a2 a4 mm = some res) : W p l e (rmX2_unlikeOnes) s m args below meth c H locs 0 0 (MQ below (QI D ca ad res) args s 0 0 (AA ad)) (F0 m 72 ls []) := by
  unfold fX2_unlikeOnes_72 at hf
  refine lv_iconst (v := 0) C.1 C.2.1 dX2_unlikeOnes_72 (by decide) ?_
  exact wX2_unlikeOnes_73 C hk4 hk30 ha0 hW (lv_sub hl [0, 1, 2, 3] rfl) hf
set_option maxRecDepth 100000 in
set_option maxHeartbeats 4000000 in
theorem wX2_unlikeOnes_68 (C : Cx p s m meth c args cX2_unlikeOnes 5 (some .int) RX2 D ca ad) {res : Int32 × Mm} {N : Nat} {k4 : Nat → Int32 → Int32 → Mm → Option (Int32 × Mm)} {k30 : Nat → Int32 → Int32 → Int32 → Int32 → Mm → Option (Int32 × Mm)} (hk4 : ∀ (a0 : Nat) (a1 : Int32) (a2 : Int32) (mm : Mm) (H : Heap) (locs : List Loc) (ls : Array Slot), (sX2 a0) → Wd D ca ad s.heap mm H locs → lv_has ls 5 [(0, .ref (ad a0)), (1, .int a1), (2, .int a2)] → k4 a0 a1 a2 mm = some res → W p l e (rmX2_unlikeOnes) s m args below meth c H locs 0 0 (MQ below (QI D ca ad res) args s 0 0 (AA ad)) (F0 m 4 ls [])) (hk30 : ∀ (a0 : Nat) (a1 : Int32) (a2 : Int32) (a3 : Int32) (a4 : Int32) (mm : Mm) (H : Heap) (locs : List Loc) (ls : Array Slot), (sX2 a0) → Wd D ca ad s.heap mm H locs → lv_has ls 5 [(0, .ref (ad a0)), (1, .int a1), (2, .int a2), (3, .int a3), (4, .int a4)] → k30 a0 a1 a2 a3 a4 mm = some res → W p l e (rmX2_unlikeOnes) s m args below meth c H locs 0 0 (MQ below (QI D ca ad res) args s 0 0 (AA ad)) (F0 m 30 ls [])) {a0 : Nat} {a1 : Int32} {a2 : Int32} {a4 : Int32} {mm : Mm} {H : Heap} {locs : List Loc} {ls : Array Slot} (ha0 : sX2 a0) (hW : Wd D ca ad s.heap mm H locs) (hl : lv_has ls 5 [(0, .ref (ad a0)), (1, .int a1), (2, .int a2), (4, .int a4)]) (hf : fX2_unlikeOnes_68 N k4 k30 a0 a1 a2 a4 mm = some res) : W p l e (rmX2_unlikeOnes) s m args below meth c H locs 0 0 (MQ below (QI D ca ad res) args s 0 0 (AA ad)) (F0 m 68 ls []) := by
  unfold fX2_unlikeOnes_68 at hf
  refine lv_iconst (v := 1) C.1 C.2.1 dX2_unlikeOnes_68 (by decide) ?_
  refine lv_goto (tgt := 73) C.1 C.2.1 dX2_unlikeOnes_69 (by decide) ?_
  exact wX2_unlikeOnes_73 C hk4 hk30 ha0 hW (lv_sub hl [0, 1, 2, 3] rfl) hf
set_option maxRecDepth 100000 in
set_option maxHeartbeats 4000000 in
theorem wX2_unlikeOnes_30 (C : Cx p s m meth c args cX2_unlikeOnes 5 (some .int) RX2 D ca ad) {res : Int32 × Mm} {N : Nat} {k4 : Nat → Int32 → Int32 → Mm → Option (Int32 × Mm)} (hk4 : ∀ (a0 : Nat) (a1 : Int32) (a2 : Int32) (mm : Mm) (H : Heap) (locs : List Loc) (ls : Array Slot), (sX2 a0) → Wd D ca ad s.heap mm H locs → lv_has ls 5 [(0, .ref (ad a0)), (1, .int a1), (2, .int a2)] → k4 a0 a1 a2 mm = some res → W p l e (rmX2_unlikeOnes) s m args below meth c H locs 0 0 (MQ below (QI D ca ad res) args s 0 0 (AA ad)) (F0 m 4 ls [])) : ∀ (n : Nat) {a0 : Nat} {a1 : Int32} {a2 : Int32} {a3 : Int32} {a4 : Int32} {mm : Mm} {H : Heap} {locs : List Loc} {ls : Array Slot}, (sX2 a0) → Wd D ca ad s.heap mm H locs → lv_has ls 5 [(0, .ref (ad a0)), (1, .int a1), (2, .int a2), (3, .int a3), (4, .int a4)] → fX2_unlikeOnes_30 N k4 n a0 a1 a2 a3 a4 mm = some res → W p l e (rmX2_unlikeOnes) s m args below meth c H locs 0 0 (MQ below (QI D ca ad res) args s 0 0 (AA ad)) (F0 m 30 ls []) := by
  intro n
  induction n with
  | zero => intro a0 a1 a2 a3 a4 mm H locs ls ha0 hW hl hf; cases hf
  | succ n ih =>
    intro a0 a1 a2 a3 a4 mm H locs ls ha0 hW hl hf
    have hk30 : ∀ (a0 : Nat) (a1 : Int32) (a2 : Int32) (a3 : Int32) (a4 : Int32) (mm : Mm) (H : Heap) (locs : List Loc) (ls : Array Slot), (sX2 a0) → Wd D ca ad s.heap mm H locs → lv_has ls 5 [(0, .ref (ad a0)), (1, .int a1), (2, .int a2), (3, .int a3), (4, .int a4)] → (fX2_unlikeOnes_30 N k4 n) a0 a1 a2 a3 a4 mm = some res → W p l e (rmX2_unlikeOnes) s m args below meth c H locs 0 0 (MQ below (QI D ca ad res) args s 0 0 (AA ad)) (F0 m 30 ls []) := fun a0 a1 a2 a3 a4 mm H locs ls ha0 hW hl hf => ih ha0 hW hl hf
    unfold fX2_unlikeOnes_30 at hf
    try dsimp only at hf
    refine lv_iload C.1 C.2.1 dX2_unlikeOnes_30 (lv_at hl 4 rfl) ?_
    refine lv_iload_n C.1 C.2.1 dX2_unlikeOnes_32 rfl (lv_at hl 2 rfl) ?_
    refine lv_icmp_ge (tgt := 80) C.1 C.2.1 dX2_unlikeOnes_33 (by decide) (fun c1 => ?_) (fun c1 => ?_)
    · have hf := if_t c1 hf
      refine lv_iload_n C.1 C.2.1 dX2_unlikeOnes_80 rfl (lv_at hl 3 rfl) ?_
      refine lv_if_eq (tgt := 87) C.1 C.2.1 dX2_unlikeOnes_81 (by decide) (fun c2 => ?_) (fun c2 => ?_)
      · have hf := if_t c2 hf
        exact wX2_unlikeOnes_87 C hk4 ha0 hW (lv_sub hl [0, 1, 2] rfl) hf
      · have hf := if_f c2 hf
        refine lv_iinc (v := (a1 + 1)) (lv' := [(1, .int (a1 + 1)), (0, .ref (ad a0)), (2, .int a2), (3, .int a3), (4, .int a4)]) C.1 C.2.1 dX2_unlikeOnes_84 hl (k := 1) rfl rfl (by decide) rfl (fun ls hl => ?_)
        exact wX2_unlikeOnes_87 C hk4 ha0 hW (lv_sub hl [1, 0, 2] rfl) hf
    · have hf := if_f c1 hf
      refine lv_iload_n C.1 C.2.1 dX2_unlikeOnes_36 rfl (lv_at hl 3 rfl) ?_
      refine lv_if_eq (tgt := 72) C.1 C.2.1 dX2_unlikeOnes_37 (by decide) (fun c3 => ?_) (fun c3 => ?_)
      · have hf := if_t c3 hf
        exact wX2_unlikeOnes_72 C hk4 hk30 ha0 hW (lv_sub hl [0, 1, 2, 4] rfl) hf
      · have hf := if_f c3 hf
        refine lv_aload_n C.1 C.2.1 dX2_unlikeOnes_40 rfl (lv_at hl 0 rfl) ?_
        refine x_geti C hW (ha0).1 (ha0).2.1 (j := 5) rfl kX2 (by decide) rfl q_278 dX2_unlikeOnes_41 ?_
        refine lv_iload C.1 C.2.1 dX2_unlikeOnes_44 (lv_at hl 4 rfl) ?_
        refine lv_ishr C.1 C.2.1 dX2_unlikeOnes_46 ?_
        refine lv_iconst (v := 1) C.1 C.2.1 dX2_unlikeOnes_47 (by decide) ?_
        refine lv_iand C.1 C.2.1 dX2_unlikeOnes_48 ?_
        refine lv_if_eq (tgt := 68) C.1 C.2.1 dX2_unlikeOnes_49 (by decide) (fun c4 => ?_) (fun c4 => ?_)
        · have hf := if_t c4 hf
          exact wX2_unlikeOnes_68 C hk4 hk30 ha0 hW (lv_sub hl [0, 1, 2, 4] rfl) hf
        · have hf := if_f c4 hf
          refine lv_aload_n C.1 C.2.1 dX2_unlikeOnes_52 rfl (lv_at hl 0 rfl) ?_
          refine x_getr C hW (ha0).1 (ha0).2.1 (j := 4) rfl kX2 (by decide) rfl q_277 dX2_unlikeOnes_53 ?_
          refine lv_iload C.1 C.2.1 dX2_unlikeOnes_56 (lv_at hl 4 rfl) ?_
          obtain ⟨g5, hf⟩ := gd_s hf
          refine x_iald C hW ha0.2.2.2.2.2.2 g5 dX2_unlikeOnes_58 ?_
          refine lv_aload_n C.1 C.2.1 dX2_unlikeOnes_59 rfl (lv_at hl 0 rfl) ?_
          refine x_getr C hW (ha0).1 (ha0).2.1 (j := 4) rfl kX2 (by decide) rfl q_277 dX2_unlikeOnes_60 ?_
          refine lv_iload_n C.1 C.2.1 dX2_unlikeOnes_63 rfl (lv_at hl 2 rfl) ?_
          obtain ⟨g6, hf⟩ := gd_s hf
          refine x_iald C hW ha0.2.2.2.2.2.2 g6 dX2_unlikeOnes_64 ?_
          refine lv_icmp_eq (tgt := 72) C.1 C.2.1 dX2_unlikeOnes_65 (by decide) (fun c7 => ?_) (fun c7 => ?_)
          · have hf := if_t c7 hf
            exact wX2_unlikeOnes_72 C hk4 hk30 ha0 hW (lv_sub hl [0, 1, 2, 4] rfl) hf
          · have hf := if_f c7 hf
            exact wX2_unlikeOnes_68 C hk4 hk30 ha0 hW (lv_sub hl [0, 1, 2, 4] rfl) hf
set_option maxRecDepth 100000 in
set_option maxHeartbeats 4000000 in
theorem wX2_unlikeOnes_26 (C : Cx p s m meth c args cX2_unlikeOnes 5 (some .int) RX2 D ca ad) {res : Int32 × Mm} {N : Nat} {k4 : Nat → Int32 → Int32 → Mm → Option (Int32 × Mm)} (hk4 : ∀ (a0 : Nat) (a1 : Int32) (a2 : Int32) (mm : Mm) (H : Heap) (locs : List Loc) (ls : Array Slot), (sX2 a0) → Wd D ca ad s.heap mm H locs → lv_has ls 5 [(0, .ref (ad a0)), (1, .int a1), (2, .int a2)] → k4 a0 a1 a2 mm = some res → W p l e (rmX2_unlikeOnes) s m args below meth c H locs 0 0 (MQ below (QI D ca ad res) args s 0 0 (AA ad)) (F0 m 4 ls [])) {a0 : Nat} {a1 : Int32} {a2 : Int32} {s0 : Int32} {mm : Mm} {H : Heap} {locs : List Loc} {ls : Array Slot} (ha0 : sX2 a0) (hW : Wd D ca ad s.heap mm H locs) (hl : lv_has ls 5 [(0, .ref (ad a0)), (1, .int a1), (2, .int a2)]) (hf : fX2_unlikeOnes_26 N k4 a0 a1 a2 s0 mm = some res) : W p l e (rmX2_unlikeOnes) s m args below meth c H locs 0 0 (MQ below (QI D ca ad res) args s 0 0 (AA ad)) (F0 m 26 ls [.int s0]) := by
  unfold fX2_unlikeOnes_26 at hf
  refine lv_istore_n (lv' := [(3, .int s0), (0, .ref (ad a0)), (1, .int a1), (2, .int a2)]) C.1 C.2.1 dX2_unlikeOnes_26 rfl hl (by decide) rfl (fun ls hl => ?_)
  refine lv_iconst (v := 0) C.1 C.2.1 dX2_unlikeOnes_27 (by decide) ?_
  refine lv_istore (lv' := [(4, .int 0), (3, .int s0), (0, .ref (ad a0)), (1, .int a1), (2, .int a2)]) C.1 C.2.1 dX2_unlikeOnes_28 hl (by decide) rfl (fun ls hl => ?_)
  exact wX2_unlikeOnes_30 C hk4 N ha0 hW (lv_sub hl [2, 3, 4, 1, 0] rfl) hf
set_option maxRecDepth 100000 in
set_option maxHeartbeats 4000000 in
theorem wX2_unlikeOnes_4 (C : Cx p s m meth c args cX2_unlikeOnes 5 (some .int) RX2 D ca ad) {res : Int32 × Mm} {N : Nat}  : ∀ (n : Nat) {a0 : Nat} {a1 : Int32} {a2 : Int32} {mm : Mm} {H : Heap} {locs : List Loc} {ls : Array Slot}, (sX2 a0) → Wd D ca ad s.heap mm H locs → lv_has ls 5 [(0, .ref (ad a0)), (1, .int a1), (2, .int a2)] → fX2_unlikeOnes_4 N n a0 a1 a2 mm = some res → W p l e (rmX2_unlikeOnes) s m args below meth c H locs 0 0 (MQ below (QI D ca ad res) args s 0 0 (AA ad)) (F0 m 4 ls []) := by
  intro n
  induction n with
  | zero => intro a0 a1 a2 mm H locs ls ha0 hW hl hf; cases hf
  | succ n ih =>
    intro a0 a1 a2 mm H locs ls ha0 hW hl hf
    have hk4 : ∀ (a0 : Nat) (a1 : Int32) (a2 : Int32) (mm : Mm) (H : Heap) (locs : List Loc) (ls : Array Slot), (sX2 a0) → Wd D ca ad s.heap mm H locs → lv_has ls 5 [(0, .ref (ad a0)), (1, .int a1), (2, .int a2)] → (fX2_unlikeOnes_4 N n) a0 a1 a2 mm = some res → W p l e (rmX2_unlikeOnes) s m args below meth c H locs 0 0 (MQ below (QI D ca ad res) args s 0 0 (AA ad)) (F0 m 4 ls []) := fun a0 a1 a2 mm H locs ls ha0 hW hl hf => ih ha0 hW hl hf
    unfold fX2_unlikeOnes_4 at hf
    try dsimp only at hf
    refine lv_iload_n C.1 C.2.1 dX2_unlikeOnes_4 rfl (lv_at hl 2 rfl) ?_
    refine lv_bipush (v := 6) C.1 C.2.1 dX2_unlikeOnes_5 (by decide) ?_
    refine lv_icmp_ge (tgt := 93) C.1 C.2.1 dX2_unlikeOnes_7 (by decide) (fun c8 => ?_) (fun c8 => ?_)
    · have hf := if_t c8 hf
      refine lv_iload_n C.1 C.2.1 dX2_unlikeOnes_93 rfl (lv_at hl 1 rfl) ?_
      cases hf
      exact x_iret C hW dX2_unlikeOnes_94
    · have hf := if_f c8 hf
      refine lv_aload_n C.1 C.2.1 dX2_unlikeOnes_10 rfl (lv_at hl 0 rfl) ?_
      refine x_geti C hW (ha0).1 (ha0).2.1 (j := 5) rfl kX2 (by decide) rfl q_278 dX2_unlikeOnes_11 ?_
      refine lv_iload_n C.1 C.2.1 dX2_unlikeOnes_14 rfl (lv_at hl 2 rfl) ?_
      refine lv_ishr C.1 C.2.1 dX2_unlikeOnes_15 ?_
      refine lv_iconst (v := 1) C.1 C.2.1 dX2_unlikeOnes_16 (by decide) ?_
      refine lv_iand C.1 C.2.1 dX2_unlikeOnes_17 ?_
      refine lv_if_eq (tgt := 25) C.1 C.2.1 dX2_unlikeOnes_18 (by decide) (fun c9 => ?_) (fun c9 => ?_)
      · have hf := if_t c9 hf
        refine lv_iconst (v := 0) C.1 C.2.1 dX2_unlikeOnes_25 (by decide) ?_
        exact wX2_unlikeOnes_26 C hk4 ha0 hW (lv_sub hl [0, 1, 2] rfl) hf
      · have hf := if_f c9 hf
        refine lv_iconst (v := 1) C.1 C.2.1 dX2_unlikeOnes_21 (by decide) ?_
        refine lv_goto (tgt := 26) C.1 C.2.1 dX2_unlikeOnes_22 (by decide) ?_
        exact wX2_unlikeOnes_26 C hk4 ha0 hW (lv_sub hl [0, 1, 2] rfl) hf
set_option maxRecDepth 100000 in
set_option maxHeartbeats 4000000 in
theorem wX2_unlikeOnes_0 (C : Cx p s m meth c args cX2_unlikeOnes 5 (some .int) RX2 D ca ad) {res : Int32 × Mm} {N : Nat}  {a0 : Nat} {mm : Mm} {H : Heap} {locs : List Loc} {ls : Array Slot} (ha0 : sX2 a0) (hW : Wd D ca ad s.heap mm H locs) (hl : lv_has ls 5 [(0, .ref (ad a0))]) (hf : fX2_unlikeOnes N a0 mm = some res) : W p l e (rmX2_unlikeOnes) s m args below meth c H locs 0 0 (MQ below (QI D ca ad res) args s 0 0 (AA ad)) (F0 m 0 ls []) := by
  unfold fX2_unlikeOnes at hf
  refine lv_iconst (v := 0) C.1 C.2.1 dX2_unlikeOnes_0 (by decide) ?_
  refine lv_istore_n (lv' := [(1, .int 0), (0, .ref (ad a0))]) C.1 C.2.1 dX2_unlikeOnes_1 rfl hl (by decide) rfl (fun ls hl => ?_)
  refine lv_iconst (v := 0) C.1 C.2.1 dX2_unlikeOnes_2 (by decide) ?_
  refine lv_istore_n (lv' := [(2, .int 0), (1, .int 0), (0, .ref (ad a0))]) C.1 C.2.1 dX2_unlikeOnes_3 rfl hl (by decide) rfl (fun ls hl => ?_)
  exact wX2_unlikeOnes_4 C  N ha0 hW (lv_sub hl [2, 1, 0] rfl) hf
set_option maxRecDepth 100000 in
set_option maxHeartbeats 4000000 in
theorem tX2_unlikeOnes (l : Launch) {D : va_G} {ca ad : Nat → Nat} (hi : Inj ad) {N : Nat} {a0 : Nat} {mm : Mm} {res : Int32 × Mm} (ha0 : sX2 a0) (hf : fX2_unlikeOnes N a0 mm = some res) : Met l yX2_unlikeOnes (WS yX2_unlikeOnes cX2_unlikeOnes 5 (some .int)) (rmX2_unlikeOnes) (va_Pc [.ref (ad a0)] (WB D ca ad mm)) (QI D ca ad res) 0 0 (AA ad) := by
  refine x_start hi (by decide) rfl (Nat.le_of_ble_eq_true rfl) (fun p e s m args below meth c ls C hW hl => ?_)
  exact wX2_unlikeOnes_0 C ha0 hW (lv_sub hl [0] rfl) hf
set_option maxRecDepth 100000 in
set_option maxHeartbeats 4000000 in
theorem wX2_unlikeLayings_8 (C : Cx p s m meth c args cX2_unlikeLayings 4 (some .int) RX2 D ca ad) {res : Int32 × Mm} {N : Nat}  : ∀ (n : Nat) {a0 : Nat} {a3 : Int32} {mm : Mm} {H : Heap} {locs : List Loc} {ls : Array Slot}, (sX2 a0) → Wd D ca ad s.heap mm H locs → lv_has ls 4 [(0, .ref (ad a0)), (3, .int a3)] → fX2_unlikeLayings_8 N n a0 a3 mm = some res → W p l e (rmX2_unlikeLayings) s m args below meth c H locs 0 0 (MQ below (QI D ca ad res) args s 0 0 (AA ad)) (F0 m 8 ls []) := by
  intro n
  induction n with
  | zero => intro a0 a3 mm H locs ls ha0 hW hl hf; cases hf
  | succ n ih =>
    intro a0 a3 mm H locs ls ha0 hW hl hf
    have hk8 : ∀ (a0 : Nat) (a3 : Int32) (mm : Mm) (H : Heap) (locs : List Loc) (ls : Array Slot), (sX2 a0) → Wd D ca ad s.heap mm H locs → lv_has ls 4 [(0, .ref (ad a0)), (3, .int a3)] → (fX2_unlikeLayings_8 N n) a0 a3 mm = some res → W p l e (rmX2_unlikeLayings) s m args below meth c H locs 0 0 (MQ below (QI D ca ad res) args s 0 0 (AA ad)) (F0 m 8 ls []) := fun a0 a3 mm H locs ls ha0 hW hl hf => ih ha0 hW hl hf
    unfold fX2_unlikeLayings_8 at hf
    try dsimp only at hf
    refine lv_iload_n C.1 C.2.1 dX2_unlikeLayings_8 rfl (lv_at hl 1 rfl) ?_
    refine lv_bipush (v := 6) C.1 C.2.1 dX2_unlikeLayings_9 (by decide) ?_
    refine lv_icmp_ge (tgt := 31) C.1 C.2.1 dX2_unlikeLayings_11 (by decide) (fun c1 => ?_) (fun c1 => ?_)
    · have hf := if_t c1 hf
      refine lv_aload_n C.1 C.2.1 dX2_unlikeLayings_31 rfl (lv_at hl 0 rfl) ?_
      obtain ⟨x2, m3, r4, hf⟩ := bd2_s hf
      refine x_ci hW (x_runV C hW [] [] (ha0).1 (ha0).2.1 kX2.1 kvX2_unlikeOnes q_760 (tX2_unlikeOnes l C.2.2.2.2.2.2.1 ha0 r4) rfl rfl ⟨by decide, by decide⟩ rfl hl.1 rfl (Nat.le_of_ble_eq_true rfl) dX2_unlikeLayings_32) (fun H locs hW => ?_)
      cases hf
      exact x_iret C hW dX2_unlikeLayings_35
    · have hf := if_f c1 hf
      refine lv_aload_n C.1 C.2.1 dX2_unlikeLayings_14 rfl (lv_at hl 0 rfl) ?_
      refine x_getr C hW (ha0).1 (ha0).2.1 (j := 4) rfl kX2 (by decide) rfl q_277 dX2_unlikeLayings_15 ?_
      refine lv_iload_n C.1 C.2.1 dX2_unlikeLayings_18 rfl (lv_at hl 1 rfl) ?_
      refine lv_aload_n C.1 C.2.1 dX2_unlikeLayings_19 rfl (lv_at hl 0 rfl) ?_
      refine lv_iload_n C.1 C.2.1 dX2_unlikeLayings_20 rfl (lv_at hl 1 rfl) ?_
      obtain ⟨x5, m6, r7, hf⟩ := bd2_s hf
      refine x_ci hW (x_runV C hW [.int a3] [.int a3, .ref (ad (fr a0 4))] (ha0).1 (ha0).2.1 kX2.1 kvX2_firstLike q_756 (tX2_firstLike l C.2.2.2.2.2.2.1 ha0 r7) rfl rfl ⟨by decide, by decide⟩ rfl hl.1 rfl (Nat.le_of_ble_eq_true rfl) dX2_unlikeLayings_21) (fun H locs hW => ?_)
      obtain ⟨g8, hf⟩ := gd_s hf
      refine x_iast C hW ha0.2.2.2.2.2.2 g8 dX2_unlikeLayings_24 (fun H locs hW => ?_)
      obtain ⟨m9, em9⟩ : ∃ z, z = wr m6 (fr a0 4) a3.toNatClampNeg x5 := ⟨_, rfl⟩
      have hf := nm_s hf em9
      rw [← em9] at hW
      refine lv_iinc (v := (a3 + 1)) (lv' := [(3, .int (a3 + 1)), (0, .ref (ad a0))]) C.1 C.2.1 dX2_unlikeLayings_25 hl (k := 1) rfl rfl (by decide) rfl (fun ls hl => ?_)
      refine lv_goto (tgt := 8) C.1 C.2.1 dX2_unlikeLayings_28 (by decide) ?_
      exact hk8 _ _ _ _ _ _ ha0 hW (lv_sub hl [1, 0] rfl) hf
set_option maxRecDepth 100000 in
set_option maxHeartbeats 4000000 in
theorem wX2_unlikeLayings_0 (C : Cx p s m meth c args cX2_unlikeLayings 4 (some .int) RX2 D ca ad) {res : Int32 × Mm} {N : Nat}  {a0 : Nat} {a1 : Nat} {a2 : Int32} {mm : Mm} {H : Heap} {locs : List Loc} {ls : Array Slot} (ha0 : sX2 a0) (ha1 : sX0 a1) (hW : Wd D ca ad s.heap mm H locs) (hl : lv_has ls 4 [(0, .ref (ad a0)), (1, .ref (ad a1)), (2, .int a2)]) (hf : fX2_unlikeLayings N a0 a1 a2 mm = some res) : W p l e (rmX2_unlikeLayings) s m args below meth c H locs 0 0 (MQ below (QI D ca ad res) args s 0 0 (AA ad)) (F0 m 0 ls []) := by
  unfold fX2_unlikeLayings at hf
  refine lv_aload_n C.1 C.2.1 dX2_unlikeLayings_0 rfl (lv_at hl 0 rfl) ?_
  refine lv_aload_n C.1 C.2.1 dX2_unlikeLayings_1 rfl (lv_at hl 1 rfl) ?_
  refine lv_iload_n C.1 C.2.1 dX2_unlikeLayings_2 rfl (lv_at hl 2 rfl) ?_
  obtain ⟨x10, m11, r12, hf⟩ := bd2_s hf
  refine x_cv hW (x_runV C hW [.ref (ad a1), .int a2] [] (ha0).1 (ha0).2.1 kX2.1 kvX2_prepare q_751 (tX2_prepare l C.2.2.2.2.2.2.1 ha0 ha1 r12) rfl rfl ⟨by decide, by decide⟩ rfl hl.1 rfl (Nat.le_of_ble_eq_true rfl) dX2_unlikeLayings_3) (fun H locs hW => ?_)
  refine lv_iconst (v := 0) C.1 C.2.1 dX2_unlikeLayings_6 (by decide) ?_
  refine lv_istore_n (lv' := [(3, .int 0), (0, .ref (ad a0)), (1, .ref (ad a1)), (2, .int a2)]) C.1 C.2.1 dX2_unlikeLayings_7 rfl hl (by decide) rfl (fun ls hl => ?_)
  exact wX2_unlikeLayings_8 C  N ha0 hW (lv_sub hl [1, 0] rfl) hf
set_option maxRecDepth 100000 in
set_option maxHeartbeats 4000000 in
theorem tX2_unlikeLayings (l : Launch) {D : va_G} {ca ad : Nat → Nat} (hi : Inj ad) {N : Nat} {a0 : Nat} {a1 : Nat} {a2 : Int32} {mm : Mm} {res : Int32 × Mm} (ha0 : sX2 a0) (ha1 : sX0 a1) (hf : fX2_unlikeLayings N a0 a1 a2 mm = some res) : Met l yX2_unlikeLayings (WS yX2_unlikeLayings cX2_unlikeLayings 4 (some .int)) (rmX2_unlikeLayings) (va_Pc [.ref (ad a0), .ref (ad a1), .int a2] (WB D ca ad mm)) (QI D ca ad res) 0 0 (AA ad) := by
  refine x_start hi (by decide) rfl (Nat.le_of_ble_eq_true rfl) (fun p e s m args below meth c ls C hW hl => ?_)
  exact wX2_unlikeLayings_0 C ha0 ha1 hW (lv_sub hl [0, 1, 2] rfl) hf
set_option maxRecDepth 100000 in
set_option maxHeartbeats 4000000 in
theorem wX2_unlikeSets_63 (C : Cx p s m meth c args cX2_unlikeSets 5 (some .int) RX2 D ca ad) {res : Int32 × Mm} {N : Nat} {k3 : Nat → Nat → Nat → Int32 → Int32 → Mm → Option (Int32 × Mm)} (hk3 : ∀ (a0 : Nat) (a1 : Nat) (a2 : Nat) (a3 : Int32) (a4 : Int32) (mm : Mm) (H : Heap) (locs : List Loc) (ls : Array Slot), (sX2 a0) → (sX0 a1) → (sI a2) → Wd D ca ad s.heap mm H locs → lv_has ls 5 [(0, .ref (ad a0)), (1, .ref (ad a1)), (2, .ref (ad a2)), (3, .int a3), (4, .int a4)] → k3 a0 a1 a2 a3 a4 mm = some res → W p l e (rmX2_unlikeSets) s m args below meth c H locs 0 0 (MQ below (QI D ca ad res) args s 0 0 (AA ad)) (F0 m 3 ls [])) {a0 : Nat} {a1 : Nat} {a2 : Nat} {a3 : Int32} {a4 : Int32} {mm : Mm} {H : Heap} {locs : List Loc} {ls : Array Slot} (ha0 : sX2 a0) (ha1 : sX0 a1) (ha2 : sI a2) (hW : Wd D ca ad s.heap mm H locs) (hl : lv_has ls 5 [(0, .ref (ad a0)), (1, .ref (ad a1)), (2, .ref (ad a2)), (3, .int a3), (4, .int a4)]) (hf : fX2_unlikeSets_63 N k3 a0 a1 a2 a3 a4 mm = some res) : W p l e (rmX2_unlikeSets) s m args below meth c H locs 0 0 (MQ below (QI D ca ad res) args s 0 0 (AA ad)) (F0 m 63 ls []) := by
  unfold fX2_unlikeSets_63 at hf
  refine lv_iinc (v := (a4 + 1)) (lv' := [(4, .int (a4 + 1)), (0, .ref (ad a0)), (1, .ref (ad a1)), (2, .ref (ad a2)), (3, .int a3)]) C.1 C.2.1 dX2_unlikeSets_63 hl (k := 4) rfl rfl (by decide) rfl (fun ls hl => ?_)
  refine lv_goto (tgt := 3) C.1 C.2.1 dX2_unlikeSets_66 (by decide) ?_
  exact hk3 _ _ _ _ _ _ _ _ _ ha0 ha1 ha2 hW (lv_sub hl [1, 2, 3, 4, 0] rfl) hf
set_option maxRecDepth 100000 in
set_option maxHeartbeats 4000000 in
theorem wX2_unlikeSets_3 (C : Cx p s m meth c args cX2_unlikeSets 5 (some .int) RX2 D ca ad) {res : Int32 × Mm} {N : Nat}  : ∀ (n : Nat) {a0 : Nat} {a1 : Nat} {a2 : Nat} {a3 : Int32} {a4 : Int32} {mm : Mm} {H : Heap} {locs : List Loc} {ls : Array Slot}, (sX2 a0) → (sX0 a1) → (sI a2) → Wd D ca ad s.heap mm H locs → lv_has ls 5 [(0, .ref (ad a0)), (1, .ref (ad a1)), (2, .ref (ad a2)), (3, .int a3), (4, .int a4)] → fX2_unlikeSets_3 N n a0 a1 a2 a3 a4 mm = some res → W p l e (rmX2_unlikeSets) s m args below meth c H locs 0 0 (MQ below (QI D ca ad res) args s 0 0 (AA ad)) (F0 m 3 ls []) := by
  intro n
  induction n with
  | zero => intro a0 a1 a2 a3 a4 mm H locs ls ha0 ha1 ha2 hW hl hf; cases hf
  | succ n ih =>
    intro a0 a1 a2 a3 a4 mm H locs ls ha0 ha1 ha2 hW hl hf
    have hk3 : ∀ (a0 : Nat) (a1 : Nat) (a2 : Nat) (a3 : Int32) (a4 : Int32) (mm : Mm) (H : Heap) (locs : List Loc) (ls : Array Slot), (sX2 a0) → (sX0 a1) → (sI a2) → Wd D ca ad s.heap mm H locs → lv_has ls 5 [(0, .ref (ad a0)), (1, .ref (ad a1)), (2, .ref (ad a2)), (3, .int a3), (4, .int a4)] → (fX2_unlikeSets_3 N n) a0 a1 a2 a3 a4 mm = some res → W p l e (rmX2_unlikeSets) s m args below meth c H locs 0 0 (MQ below (QI D ca ad res) args s 0 0 (AA ad)) (F0 m 3 ls []) := fun a0 a1 a2 a3 a4 mm H locs ls ha0 ha1 ha2 hW hl hf => ih ha0 ha1 ha2 hW hl hf
    unfold fX2_unlikeSets_3 at hf
    try dsimp only at hf
    refine lv_iload C.1 C.2.1 dX2_unlikeSets_3 (lv_at hl 4 rfl) ?_
    refine lv_bipush (v := 6) C.1 C.2.1 dX2_unlikeSets_5 (by decide) ?_
    refine lv_icmp_ge (tgt := 69) C.1 C.2.1 dX2_unlikeSets_7 (by decide) (fun c1 => ?_) (fun c1 => ?_)
    · have hf := if_t c1 hf
      refine lv_aload_n C.1 C.2.1 dX2_unlikeSets_69 rfl (lv_at hl 0 rfl) ?_
      obtain ⟨x2, m3, r4, hf⟩ := bd2_s hf
      refine x_ci hW (x_runV C hW [] [] (ha0).1 (ha0).2.1 kX2.1 kvX2_unlikeOnes q_760 (tX2_unlikeOnes l C.2.2.2.2.2.2.1 ha0 r4) rfl rfl ⟨by decide, by decide⟩ rfl hl.1 rfl (Nat.le_of_ble_eq_true rfl) dX2_unlikeSets_70) (fun H locs hW => ?_)
      cases hf
      exact x_iret C hW dX2_unlikeSets_73
    · have hf := if_f c1 hf
      refine lv_aload_n C.1 C.2.1 dX2_unlikeSets_10 rfl (lv_at hl 0 rfl) ?_
      refine x_geti C hW (ha0).1 (ha0).2.1 (j := 5) rfl kX2 (by decide) rfl q_278 dX2_unlikeSets_11 ?_
      refine lv_iload C.1 C.2.1 dX2_unlikeSets_14 (lv_at hl 4 rfl) ?_
      refine lv_ishr C.1 C.2.1 dX2_unlikeSets_16 ?_
      refine lv_iconst (v := 1) C.1 C.2.1 dX2_unlikeSets_17 (by decide) ?_
      refine lv_iand C.1 C.2.1 dX2_unlikeSets_18 ?_
      refine lv_if_eq (tgt := 63) C.1 C.2.1 dX2_unlikeSets_19 (by decide) (fun c5 => ?_) (fun c5 => ?_)
      · have hf := if_t c5 hf
        exact wX2_unlikeSets_63 C hk3 ha0 ha1 ha2 hW (lv_sub hl [0, 1, 2, 3, 4] rfl) hf
      · have hf := if_f c5 hf
        refine lv_aload_n C.1 C.2.1 dX2_unlikeSets_22 rfl (lv_at hl 0 rfl) ?_
        refine x_getr C hW (ha0).1 (ha0).2.1 (j := 3) rfl kX2 (by decide) rfl q_276 dX2_unlikeSets_23 ?_
        refine lv_iload C.1 C.2.1 dX2_unlikeSets_26 (lv_at hl 4 rfl) ?_
        obtain ⟨g6, hf⟩ := gd_s hf
        refine x_aald C hW (ha0.2.2.2.2.2.1).1 (fun _ => rfl) rfl g6 dX2_unlikeSets_28 ?_
        refine lv_aload_n C.1 C.2.1 dX2_unlikeSets_29 rfl (lv_at hl 1 rfl) ?_
        refine lv_aload_n C.1 C.2.1 dX2_unlikeSets_30 rfl (lv_at hl 2 rfl) ?_
        refine lv_aload_n C.1 C.2.1 dX2_unlikeSets_31 rfl (lv_at hl 0 rfl) ?_
        refine x_getr C hW (ha0).1 (ha0).2.1 (j := 2) rfl kX2 (by decide) rfl q_275 dX2_unlikeSets_32 ?_
        refine lv_iload C.1 C.2.1 dX2_unlikeSets_35 (lv_at hl 4 rfl) ?_
        obtain ⟨g7, hf⟩ := gd_s hf
        refine x_aald C hW (ha0.2.2.2.2.1).1 (fun _ => rfl) rfl g7 dX2_unlikeSets_37 ?_
        refine lv_iload_n C.1 C.2.1 dX2_unlikeSets_38 rfl (lv_at hl 3 rfl) ?_
        obtain ⟨x8, m9, r10, hf⟩ := bd2_s hf
        refine x_cv hW (x_runV C hW [.ref (ad a1), .ref (ad a2), .ref (ad (el (fr a0 2) a4.toNatClampNeg)), .int a3] [] ((ha0.2.2.2.2.2.1).2 _ (inb_lt g6)).1 ((ha0.2.2.2.2.2.1).2 _ (inb_lt g6)).2.1 kX7.1 kvX7_weigh q_738 (tX7_weigh l C.2.2.2.2.2.2.1 ((ha0.2.2.2.2.2.1).2 _ (inb_lt g6)) ha1 ha2 ((ha0.2.2.2.2.1).2 _ (inb_lt g7)) r10) rfl rfl ⟨by decide, by decide⟩ rfl hl.1 rfl (Nat.le_of_ble_eq_true rfl) dX2_unlikeSets_39) (fun H locs hW => ?_)
        refine lv_aload_n C.1 C.2.1 dX2_unlikeSets_42 rfl (lv_at hl 0 rfl) ?_
        refine x_getr C hW (ha0).1 (ha0).2.1 (j := 4) rfl kX2 (by decide) rfl q_277 dX2_unlikeSets_43 ?_
        refine lv_iload C.1 C.2.1 dX2_unlikeSets_46 (lv_at hl 4 rfl) ?_
        refine lv_aload_n C.1 C.2.1 dX2_unlikeSets_48 rfl (lv_at hl 0 rfl) ?_
        refine x_getr C hW (ha0).1 (ha0).2.1 (j := 3) rfl kX2 (by decide) rfl q_276 dX2_unlikeSets_49 ?_
        refine lv_iload C.1 C.2.1 dX2_unlikeSets_52 (lv_at hl 4 rfl) ?_
        obtain ⟨g11, hf⟩ := gd_s hf
        refine x_aald C hW (ha0.2.2.2.2.2.1).1 (fun _ => rfl) rfl g11 dX2_unlikeSets_54 ?_
        refine lv_aload_n C.1 C.2.1 dX2_unlikeSets_55 rfl (lv_at hl 1 rfl) ?_
        refine x_geti C hW (ha1).1 (ha1).2.1 (j := 5) rfl kX0 (by decide) rfl q_70 dX2_unlikeSets_56 ?_
        obtain ⟨x12, m13, r14, hf⟩ := bd2_s hf
        refine x_ci hW (x_runV C hW [.int (rd m9 a1 5)] [.int a4, .ref (ad (fr a0 4))] ((ha0.2.2.2.2.2.1).2 _ (inb_lt g11)).1 ((ha0.2.2.2.2.2.1).2 _ (inb_lt g11)).2.1 kX7.1 kvX7_wonOf q_739 (tX7_wonOf l C.2.2.2.2.2.2.1 ((ha0.2.2.2.2.2.1).2 _ (inb_lt g11)) r14) rfl rfl ⟨by decide, by decide⟩ rfl hl.1 rfl (Nat.le_of_ble_eq_true rfl) dX2_unlikeSets_59) (fun H locs hW => ?_)
        obtain ⟨g15, hf⟩ := gd_s hf
        refine x_iast C hW ha0.2.2.2.2.2.2 g15 dX2_unlikeSets_62 (fun H locs hW => ?_)
        obtain ⟨m16, em16⟩ : ∃ z, z = wr m13 (fr a0 4) a4.toNatClampNeg x12 := ⟨_, rfl⟩
        have hf := nm_s hf em16
        rw [← em16] at hW
        exact wX2_unlikeSets_63 C hk3 ha0 ha1 ha2 hW (lv_sub hl [0, 1, 2, 3, 4] rfl) hf
set_option maxRecDepth 100000 in
set_option maxHeartbeats 4000000 in
theorem wX2_unlikeSets_0 (C : Cx p s m meth c args cX2_unlikeSets 5 (some .int) RX2 D ca ad) {res : Int32 × Mm} {N : Nat}  {a0 : Nat} {a1 : Nat} {a2 : Nat} {a3 : Int32} {mm : Mm} {H : Heap} {locs : List Loc} {ls : Array Slot} (ha0 : sX2 a0) (ha1 : sX0 a1) (ha2 : sI a2) (hW : Wd D ca ad s.heap mm H locs) (hl : lv_has ls 5 [(0, .ref (ad a0)), (1, .ref (ad a1)), (2, .ref (ad a2)), (3, .int a3)]) (hf : fX2_unlikeSets N a0 a1 a2 a3 mm = some res) : W p l e (rmX2_unlikeSets) s m args below meth c H locs 0 0 (MQ below (QI D ca ad res) args s 0 0 (AA ad)) (F0 m 0 ls []) := by
  unfold fX2_unlikeSets at hf
  refine lv_iconst (v := 0) C.1 C.2.1 dX2_unlikeSets_0 (by decide) ?_
  refine lv_istore (lv' := [(4, .int 0), (0, .ref (ad a0)), (1, .ref (ad a1)), (2, .ref (ad a2)), (3, .int a3)]) C.1 C.2.1 dX2_unlikeSets_1 hl (by decide) rfl (fun ls hl => ?_)
  exact wX2_unlikeSets_3 C  N ha0 ha1 ha2 hW (lv_sub hl [1, 2, 3, 4, 0] rfl) hf
set_option maxRecDepth 100000 in
set_option maxHeartbeats 4000000 in
theorem tX2_unlikeSets (l : Launch) {D : va_G} {ca ad : Nat → Nat} (hi : Inj ad) {N : Nat} {a0 : Nat} {a1 : Nat} {a2 : Nat} {a3 : Int32} {mm : Mm} {res : Int32 × Mm} (ha0 : sX2 a0) (ha1 : sX0 a1) (ha2 : sI a2) (hf : fX2_unlikeSets N a0 a1 a2 a3 mm = some res) : Met l yX2_unlikeSets (WS yX2_unlikeSets cX2_unlikeSets 5 (some .int)) (rmX2_unlikeSets) (va_Pc [.ref (ad a0), .ref (ad a1), .ref (ad a2), .int a3] (WB D ca ad mm)) (QI D ca ad res) 0 0 (AA ad) := by
  refine x_start hi (by decide) rfl (Nat.le_of_ble_eq_true rfl) (fun p e s m args below meth c ls C hW hl => ?_)
  exact wX2_unlikeSets_0 C ha0 ha1 ha2 hW (lv_sub hl [0, 1, 2, 3] rfl) hf
end W_guess13
