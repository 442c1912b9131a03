theorem dX11_who_0 : decode cX11_who 0 = .ok (.aload_n 0, 1) := by decide +kernel
theorem dX11_who_1 : decode cX11_who 1 = .ok (.iload_n 1, 1) := by decide +kernel
theorem dX11_who_2 : decode cX11_who 2 = .ok (.invokevirtual 96, 3) := by decide +kernel
theorem dX11_who_5 : decode cX11_who 5 = .ok (.astore 4, 2) := by decide +kernel
theorem dX11_who_7 : decode cX11_who 7 = .ok (.aload_n 0, 1) := by decide +kernel
theorem dX11_who_8 : decode cX11_who 8 = .ok (.iload_n 2, 1) := by decide +kernel
theorem dX11_who_9 : decode cX11_who 9 = .ok (.invokevirtual 96, 3) := by decide +kernel
theorem dX11_who_12 : decode cX11_who 12 = .ok (.astore 5, 2) := by decide +kernel
theorem dX11_who_14 : decode cX11_who 14 = .ok (.aload 4, 2) := by decide +kernel
theorem dX11_who_16 : decode cX11_who 16 = .ok (.ifnull 19, 3) := by decide +kernel
theorem dX11_who_19 : decode cX11_who 19 = .ok (.aload 5, 2) := by decide +kernel
theorem dX11_who_21 : decode cX11_who 21 = .ok (.ifnull 14, 3) := by decide +kernel
theorem dX11_who_24 : decode cX11_who 24 = .ok (.aload_n 0, 1) := by decide +kernel
theorem dX11_who_25 : decode cX11_who 25 = .ok (.getfield 21, 3) := by decide +kernel
theorem dX11_who_28 : decode cX11_who 28 = .ok (.iload_n 3, 1) := by decide +kernel
theorem dX11_who_29 : decode cX11_who 29 = .ok (.invokevirtual 159, 3) := by decide +kernel
theorem dX11_who_32 : decode cX11_who 32 = .ok (.ifnonnull 5, 3) := by decide +kernel
theorem dX11_who_35 : decode cX11_who 35 = .ok (.iconst (-1), 1) := by decide +kernel
theorem dX11_who_36 : decode cX11_who 36 = .ok (.ireturn, 1) := by decide +kernel
theorem dX11_who_37 : decode cX11_who 37 = .ok (.aload_n 0, 1) := by decide +kernel
theorem dX11_who_38 : decode cX11_who 38 = .ok (.aload 4, 2) := by decide +kernel
theorem dX11_who_40 : decode cX11_who 40 = .ok (.iconst 0, 1) := by decide +kernel
theorem dX11_who_41 : decode cX11_who 41 = .ok (.aload 5, 2) := by decide +kernel
theorem dX11_who_43 : decode cX11_who 43 = .ok (.iconst 1, 1) := by decide +kernel
theorem dX11_who_44 : decode cX11_who 44 = .ok (.invokevirtual 202, 3) := by decide +kernel
theorem dX11_who_47 : decode cX11_who 47 = .ok (.ifCond .eq 6, 3) := by decide +kernel
theorem dX11_who_50 : decode cX11_who 50 = .ok (.bipush (-3), 2) := by decide +kernel
theorem dX11_who_52 : decode cX11_who 52 = .ok (.ireturn, 1) := by decide +kernel
theorem dX11_who_53 : decode cX11_who 53 = .ok (.aload_n 0, 1) := by decide +kernel
theorem dX11_who_54 : decode cX11_who 54 = .ok (.getfield 39, 3) := by decide +kernel
theorem dX11_who_57 : decode cX11_who 57 = .ok (.aload_n 0, 1) := by decide +kernel
theorem dX11_who_58 : decode cX11_who 58 = .ok (.getfield 21, 3) := by decide +kernel
theorem dX11_who_61 : decode cX11_who 61 = .ok (.aload 4, 2) := by decide +kernel
theorem dX11_who_63 : decode cX11_who 63 = .ok (.getfield 116, 3) := by decide +kernel
theorem dX11_who_66 : decode cX11_who 66 = .ok (.aload 5, 2) := by decide +kernel
theorem dX11_who_68 : decode cX11_who 68 = .ok (.getfield 116, 3) := by decide +kernel
theorem dX11_who_71 : decode cX11_who 71 = .ok (.iconst 0, 1) := by decide +kernel
theorem dX11_who_72 : decode cX11_who 72 = .ok (.invokevirtual 206, 3) := by decide +kernel
theorem dX11_who_75 : decode cX11_who 75 = .ok (.aload_n 0, 1) := by decide +kernel
theorem dX11_who_76 : decode cX11_who 76 = .ok (.aload_n 0, 1) := by decide +kernel
theorem dX11_who_77 : decode cX11_who 77 = .ok (.getfield 39, 3) := by decide +kernel
theorem dX11_who_80 : decode cX11_who 80 = .ok (.getfield 220, 3) := by decide +kernel
theorem dX11_who_83 : decode cX11_who 83 = .ok (.iload_n 3, 1) := by decide +kernel
theorem dX11_who_84 : decode cX11_who 84 = .ok (.iaload, 1) := by decide +kernel
theorem dX11_who_85 : decode cX11_who 85 = .ok (.putfield 217, 3) := by decide +kernel
theorem dX11_who_88 : decode cX11_who 88 = .ok (.aload_n 0, 1) := by decide +kernel
theorem dX11_who_89 : decode cX11_who 89 = .ok (.getfield 39, 3) := by decide +kernel
theorem dX11_who_92 : decode cX11_who 92 = .ok (.getfield 223, 3) := by decide +kernel
theorem dX11_who_95 : decode cX11_who 95 = .ok (.iload_n 3, 1) := by decide +kernel
theorem dX11_who_96 : decode cX11_who 96 = .ok (.iaload, 1) := by decide +kernel
theorem dX11_who_97 : decode cX11_who 97 = .ok (.iconst 2, 1) := by decide +kernel
theorem dX11_who_98 : decode cX11_who 98 = .ok (.if_icmp .ne 8, 3) := by decide +kernel
theorem dX11_who_101 : decode cX11_who 101 = .ok (.bipush (-9), 2) := by decide +kernel
theorem dX11_who_103 : decode cX11_who 103 = .ok (.goto 12, 3) := by decide +kernel
theorem dX11_who_106 : decode cX11_who 106 = .ok (.aload_n 0, 1) := by decide +kernel
theorem dX11_who_107 : decode cX11_who 107 = .ok (.getfield 39, 3) := by decide +kernel
theorem dX11_who_110 : decode cX11_who 110 = .ok (.getfield 223, 3) := by decide +kernel
theorem dX11_who_113 : decode cX11_who 113 = .ok (.iload_n 3, 1) := by decide +kernel
theorem dX11_who_114 : decode cX11_who 114 = .ok (.iaload, 1) := by decide +kernel
theorem dX11_who_115 : decode cX11_who 115 = .ok (.ireturn, 1) := by decide +kernel
theorem dX11_isWrong_0 : decode cX11_isWrong 0 = .ok (.aload_n 0, 1) := by decide +kernel
theorem dX11_isWrong_1 : decode cX11_isWrong 1 = .ok (.aload_n 1, 1) := by decide +kernel
theorem dX11_isWrong_2 : decode cX11_isWrong 2 = .ok (.iload_n 2, 1) := by decide +kernel
theorem dX11_isWrong_3 : decode cX11_isWrong 3 = .ok (.aload_n 1, 1) := by decide +kernel
theorem dX11_isWrong_4 : decode cX11_isWrong 4 = .ok (.iload_n 2, 1) := by decide +kernel
theorem dX11_isWrong_5 : decode cX11_isWrong 5 = .ok (.invokevirtual 202, 3) := by decide +kernel
theorem dX11_isWrong_8 : decode cX11_isWrong 8 = .ok (.ireturn, 1) := by decide +kernel
theorem dX11_best_0 : decode cX11_best 0 = .ok (.aload_n 0, 1) := by decide +kernel
theorem dX11_best_1 : decode cX11_best 1 = .ok (.iload_n 1, 1) := by decide +kernel
theorem dX11_best_2 : decode cX11_best 2 = .ok (.invokevirtual 96, 3) := by decide +kernel
theorem dX11_best_5 : decode cX11_best 5 = .ok (.astore_n 3, 1) := by decide +kernel
theorem dX11_best_6 : decode cX11_best 6 = .ok (.aload_n 0, 1) := by decide +kernel
theorem dX11_best_7 : decode cX11_best 7 = .ok (.iload_n 2, 1) := by decide +kernel
theorem dX11_best_8 : decode cX11_best 8 = .ok (.invokevirtual 96, 3) := by decide +kernel
theorem dX11_best_11 : decode cX11_best 11 = .ok (.astore 4, 2) := by decide +kernel
theorem dX11_best_13 : decode cX11_best 13 = .ok (.aload_n 3, 1) := by decide +kernel
theorem dX11_best_14 : decode cX11_best 14 = .ok (.ifnull 8, 3) := by decide +kernel
theorem dX11_best_17 : decode cX11_best 17 = .ok (.aload 4, 2) := by decide +kernel
theorem dX11_best_19 : decode cX11_best 19 = .ok (.ifnonnull 5, 3) := by decide +kernel
theorem dX11_best_22 : decode cX11_best 22 = .ok (.iconst (-1), 1) := by decide +kernel
theorem dX11_best_23 : decode cX11_best 23 = .ok (.ireturn, 1) := by decide +kernel
theorem dX11_best_24 : decode cX11_best 24 = .ok (.aload_n 0, 1) := by decide +kernel
theorem dX11_best_25 : decode cX11_best 25 = .ok (.aload_n 3, 1) := by decide +kernel
theorem dX11_best_26 : decode cX11_best 26 = .ok (.iconst 1, 1) := by decide +kernel
theorem dX11_best_27 : decode cX11_best 27 = .ok (.invokevirtual 226, 3) := by decide +kernel
theorem dX11_best_30 : decode cX11_best 30 = .ok (.ifCond .eq 6, 3) := by decide +kernel
theorem dX11_best_33 : decode cX11_best 33 = .ok (.bipush (-3), 2) := by decide +kernel
theorem dX11_best_35 : decode cX11_best 35 = .ok (.ireturn, 1) := by decide +kernel
theorem dX11_best_36 : decode cX11_best 36 = .ok (.aload_n 0, 1) := by decide +kernel
theorem dX11_best_37 : decode cX11_best 37 = .ok (.getfield 53, 3) := by decide +kernel
theorem dX11_best_40 : decode cX11_best 40 = .ok (.aload_n 0, 1) := by decide +kernel
theorem dX11_best_41 : decode cX11_best 41 = .ok (.getfield 21, 3) := by decide +kernel
theorem dX11_best_44 : decode cX11_best 44 = .ok (.aload_n 0, 1) := by decide +kernel
theorem dX11_best_45 : decode cX11_best 45 = .ok (.getfield 21, 3) := by decide +kernel
theorem dX11_best_48 : decode cX11_best 48 = .ok (.getfield 181, 3) := by decide +kernel
theorem dX11_best_51 : decode cX11_best 51 = .ok (.aload_n 3, 1) := by decide +kernel
theorem dX11_best_52 : decode cX11_best 52 = .ok (.getfield 116, 3) := by decide +kernel
theorem dX11_best_55 : decode cX11_best 55 = .ok (.aload_n 0, 1) := by decide +kernel
theorem dX11_best_56 : decode cX11_best 56 = .ok (.getfield 21, 3) := by decide +kernel
theorem dX11_best_59 : decode cX11_best 59 = .ok (.getfield 188, 3) := by decide +kernel
theorem dX11_best_62 : decode cX11_best 62 = .ok (.iconst 0, 1) := by decide +kernel
theorem dX11_best_63 : decode cX11_best 63 = .ok (.iaload, 1) := by decide +kernel
theorem dX11_best_64 : decode cX11_best 64 = .ok (.invokevirtual 229, 3) := by decide +kernel
theorem dX11_best_67 : decode cX11_best 67 = .ok (.aload 4, 2) := by decide +kernel
theorem dX11_best_69 : decode cX11_best 69 = .ok (.aload_n 0, 1) := by decide +kernel
theorem dX11_best_70 : decode cX11_best 70 = .ok (.getfield 53, 3) := by decide +kernel
theorem dX11_best_73 : decode cX11_best 73 = .ok (.getfield 233, 3) := by decide +kernel
theorem dX11_best_76 : decode cX11_best 76 = .ok (.aload_n 0, 1) := by decide +kernel
theorem dX11_best_77 : decode cX11_best 77 = .ok (.getfield 21, 3) := by decide +kernel
theorem dX11_best_80 : decode cX11_best 80 = .ok (.getfield 158, 3) := by decide +kernel
theorem dX11_best_83 : decode cX11_best 83 = .ok (.invokevirtual 236, 3) := by decide +kernel
theorem dX11_best_86 : decode cX11_best 86 = .ok (.aload_n 0, 1) := by decide +kernel
theorem dX11_best_87 : decode cX11_best 87 = .ok (.aload_n 0, 1) := by decide +kernel
theorem dX11_best_88 : decode cX11_best 88 = .ok (.getfield 53, 3) := by decide +kernel
theorem dX11_best_91 : decode cX11_best 91 = .ok (.getfield 240, 3) := by decide +kernel
theorem dX11_best_94 : decode cX11_best 94 = .ok (.putfield 217, 3) := by decide +kernel
theorem dX11_best_97 : decode cX11_best 97 = .ok (.aload_n 0, 1) := by decide +kernel
theorem dX11_best_98 : decode cX11_best 98 = .ok (.getfield 53, 3) := by decide +kernel
theorem dX11_best_101 : decode cX11_best 101 = .ok (.getfield 243, 3) := by decide +kernel
theorem dX11_best_104 : decode cX11_best 104 = .ok (.ireturn, 1) := by decide +kernel
theorem dX11_fewest_0 : decode cX11_fewest 0 = .ok (.aload_n 0, 1) := by decide +kernel
theorem dX11_fewest_1 : decode cX11_fewest 1 = .ok (.iload_n 1, 1) := by decide +kernel
theorem dX11_fewest_2 : decode cX11_fewest 2 = .ok (.invokevirtual 96, 3) := by decide +kernel
theorem dX11_fewest_5 : decode cX11_fewest 5 = .ok (.astore_n 3, 1) := by decide +kernel
theorem dX11_fewest_6 : decode cX11_fewest 6 = .ok (.aload_n 3, 1) := by decide +kernel
theorem dX11_fewest_7 : decode cX11_fewest 7 = .ok (.ifnull 13, 3) := by decide +kernel
theorem dX11_fewest_10 : decode cX11_fewest 10 = .ok (.iload_n 2, 1) := by decide +kernel
theorem dX11_fewest_11 : decode cX11_fewest 11 = .ok (.ifCond .lt 9, 3) := by decide +kernel
theorem dX11_fewest_14 : decode cX11_fewest 14 = .ok (.iload_n 2, 1) := by decide +kernel
theorem dX11_fewest_15 : decode cX11_fewest 15 = .ok (.bipush 108, 2) := by decide +kernel
theorem dX11_fewest_17 : decode cX11_fewest 17 = .ok (.if_icmp .le 5, 3) := by decide +kernel
theorem dX11_fewest_20 : decode cX11_fewest 20 = .ok (.iconst (-1), 1) := by decide +kernel
theorem dX11_fewest_21 : decode cX11_fewest 21 = .ok (.ireturn, 1) := by decide +kernel
theorem dX11_fewest_22 : decode cX11_fewest 22 = .ok (.aload_n 0, 1) := by decide +kernel
theorem dX11_fewest_23 : decode cX11_fewest 23 = .ok (.aload_n 3, 1) := by decide +kernel
theorem dX11_fewest_24 : decode cX11_fewest 24 = .ok (.iconst 1, 1) := by decide +kernel
theorem dX11_fewest_25 : decode cX11_fewest 25 = .ok (.invokevirtual 226, 3) := by decide +kernel
theorem dX11_fewest_28 : decode cX11_fewest 28 = .ok (.ifCond .eq 6, 3) := by decide +kernel
theorem dX11_fewest_31 : decode cX11_fewest 31 = .ok (.bipush (-3), 2) := by decide +kernel
theorem dX11_fewest_33 : decode cX11_fewest 33 = .ok (.ireturn, 1) := by decide +kernel
theorem dX11_fewest_34 : decode cX11_fewest 34 = .ok (.aload_n 0, 1) := by decide +kernel
theorem dX11_fewest_35 : decode cX11_fewest 35 = .ok (.getfield 53, 3) := by decide +kernel
theorem dX11_fewest_38 : decode cX11_fewest 38 = .ok (.aload_n 0, 1) := by decide +kernel
theorem dX11_fewest_39 : decode cX11_fewest 39 = .ok (.getfield 21, 3) := by decide +kernel
theorem dX11_fewest_42 : decode cX11_fewest 42 = .ok (.aload_n 0, 1) := by decide +kernel
theorem dX11_fewest_43 : decode cX11_fewest 43 = .ok (.getfield 21, 3) := by decide +kernel
theorem dX11_fewest_46 : decode cX11_fewest 46 = .ok (.getfield 181, 3) := by decide +kernel
theorem dX11_fewest_49 : decode cX11_fewest 49 = .ok (.aload_n 3, 1) := by decide +kernel
theorem dX11_fewest_50 : decode cX11_fewest 50 = .ok (.getfield 116, 3) := by decide +kernel
theorem dX11_fewest_53 : decode cX11_fewest 53 = .ok (.sipush 240, 3) := by decide +kernel
theorem dX11_fewest_56 : decode cX11_fewest 56 = .ok (.invokevirtual 229, 3) := by decide +kernel
theorem dX11_fewest_59 : decode cX11_fewest 59 = .ok (.aload_n 0, 1) := by decide +kernel
theorem dX11_fewest_60 : decode cX11_fewest 60 = .ok (.getfield 53, 3) := by decide +kernel
theorem dX11_fewest_63 : decode cX11_fewest 63 = .ok (.iload_n 2, 1) := by decide +kernel
theorem dX11_fewest_64 : decode cX11_fewest 64 = .ok (.invokevirtual 244, 3) := by decide +kernel
theorem dX11_fewest_67 : decode cX11_fewest 67 = .ok (.istore 4, 2) := by decide +kernel
theorem dX11_fewest_69 : decode cX11_fewest 69 = .ok (.iload 4, 2) := by decide +kernel
theorem dX11_fewest_71 : decode cX11_fewest 71 = .ok (.bipush (-9), 2) := by decide +kernel
theorem dX11_fewest_73 : decode cX11_fewest 73 = .ok (.if_icmp .eq 16, 3) := by decide +kernel
theorem dX11_fewest_76 : decode cX11_fewest 76 = .ok (.aload_n 0, 1) := by decide +kernel
theorem dX11_fewest_77 : decode cX11_fewest 77 = .ok (.aload_n 0, 1) := by decide +kernel
theorem dX11_fewest_78 : decode cX11_fewest 78 = .ok (.getfield 53, 3) := by decide +kernel
theorem dX11_fewest_81 : decode cX11_fewest 81 = .ok (.iload 4, 2) := by decide +kernel
theorem dX11_fewest_83 : decode cX11_fewest 83 = .ok (.invokevirtual 247, 3) := by decide +kernel
theorem dX11_fewest_86 : decode cX11_fewest 86 = .ok (.putfield 217, 3) := by decide +kernel
theorem dX11_fewest_89 : decode cX11_fewest 89 = .ok (.iload 4, 2) := by decide +kernel
theorem dX11_fewest_91 : decode cX11_fewest 91 = .ok (.ireturn, 1) := by decide +kernel
theorem dX11_fraction_0 : decode cX11_fraction 0 = .ok (.lload_n 1, 1) := by decide +kernel
theorem dX11_fraction_1 : decode cX11_fraction 1 = .ok (.invokestatic 390, 3) := by decide +kernel
theorem dX11_fraction_4 : decode cX11_fraction 4 = .ok (.lstore 5, 2) := by decide +kernel
theorem dX11_fraction_6 : decode cX11_fraction 6 = .ok (.lload_n 3, 1) := by decide +kernel
theorem dX11_fraction_7 : decode cX11_fraction 7 = .ok (.lstore 7, 2) := by decide +kernel
theorem dX11_fraction_9 : decode cX11_fraction 9 = .ok (.iconst 0, 1) := by decide +kernel
theorem dX11_fraction_10 : decode cX11_fraction 10 = .ok (.istore 9, 2) := by decide +kernel
theorem dX11_fraction_12 : decode cX11_fraction 12 = .ok (.lload 7, 2) := by decide +kernel
theorem dX11_fraction_14 : decode cX11_fraction 14 = .ok (.lconst 0, 1) := by decide +kernel
theorem dX11_fraction_15 : decode cX11_fraction 15 = .ok (.lcmp, 1) := by decide +kernel
theorem dX11_fraction_16 : decode cX11_fraction 16 = .ok (.ifCond .eq 31, 3) := by decide +kernel
theorem dX11_fraction_19 : decode cX11_fraction 19 = .ok (.iload 9, 2) := by decide +kernel
theorem dX11_fraction_21 : decode cX11_fraction 21 = .ok (.ldc 253, 2) := by decide +kernel
theorem dX11_fraction_23 : decode cX11_fraction 23 = .ok (.if_icmp .ge 24, 3) := by decide +kernel
theorem dX11_fraction_26 : decode cX11_fraction 26 = .ok (.lload 5, 2) := by decide +kernel
theorem dX11_fraction_28 : decode cX11_fraction 28 = .ok (.lload 7, 2) := by decide +kernel
theorem dX11_fraction_30 : decode cX11_fraction 30 = .ok (.lrem, 1) := by decide +kernel
theorem dX11_fraction_31 : decode cX11_fraction 31 = .ok (.lstore 10, 2) := by decide +kernel
theorem dX11_fraction_33 : decode cX11_fraction 33 = .ok (.lload 7, 2) := by decide +kernel
theorem dX11_fraction_35 : decode cX11_fraction 35 = .ok (.lstore 5, 2) := by decide +kernel
theorem dX11_fraction_37 : decode cX11_fraction 37 = .ok (.lload 10, 2) := by decide +kernel
theorem dX11_fraction_39 : decode cX11_fraction 39 = .ok (.lstore 7, 2) := by decide +kernel
theorem dX11_fraction_41 : decode cX11_fraction 41 = .ok (.iinc 9 1, 3) := by decide +kernel
theorem dX11_fraction_44 : decode cX11_fraction 44 = .ok (.goto (-32), 3) := by decide +kernel
theorem dX11_fraction_47 : decode cX11_fraction 47 = .ok (.lload 5, 2) := by decide +kernel
theorem dX11_fraction_49 : decode cX11_fraction 49 = .ok (.lconst 0, 1) := by decide +kernel
theorem dX11_fraction_50 : decode cX11_fraction 50 = .ok (.lcmp, 1) := by decide +kernel
theorem dX11_fraction_51 : decode cX11_fraction 51 = .ok (.ifCond .le 19, 3) := by decide +kernel
theorem dX11_fraction_54 : decode cX11_fraction 54 = .ok (.aload_n 0, 1) := by decide +kernel
theorem dX11_fraction_55 : decode cX11_fraction 55 = .ok (.lload_n 1, 1) := by decide +kernel
theorem dX11_fraction_56 : decode cX11_fraction 56 = .ok (.lload 5, 2) := by decide +kernel
theorem dX11_fraction_58 : decode cX11_fraction 58 = .ok (.ldiv, 1) := by decide +kernel
theorem dX11_fraction_59 : decode cX11_fraction 59 = .ok (.putfield 361, 3) := by decide +kernel
theorem dX11_fraction_62 : decode cX11_fraction 62 = .ok (.aload_n 0, 1) := by decide +kernel
theorem dX11_fraction_63 : decode cX11_fraction 63 = .ok (.lload_n 3, 1) := by decide +kernel
theorem dX11_fraction_64 : decode cX11_fraction 64 = .ok (.lload 5, 2) := by decide +kernel
theorem dX11_fraction_66 : decode cX11_fraction 66 = .ok (.ldiv, 1) := by decide +kernel
theorem dX11_fraction_67 : decode cX11_fraction 67 = .ok (.putfield 89, 3) := by decide +kernel
theorem dX11_fraction_70 : decode cX11_fraction 70 = .ok (.return_, 1) := by decide +kernel
theorem dX11_ways_0 : decode cX11_ways 0 = .ok (.aload_n 0, 1) := by decide +kernel
theorem dX11_ways_1 : decode cX11_ways 1 = .ok (.iload_n 1, 1) := by decide +kernel
theorem dX11_ways_2 : decode cX11_ways 2 = .ok (.invokevirtual 96, 3) := by decide +kernel
theorem dX11_ways_5 : decode cX11_ways 5 = .ok (.astore_n 3, 1) := by decide +kernel
theorem dX11_ways_6 : decode cX11_ways 6 = .ok (.aload_n 3, 1) := by decide +kernel
theorem dX11_ways_7 : decode cX11_ways 7 = .ok (.ifnull 13, 3) := by decide +kernel
theorem dX11_ways_10 : decode cX11_ways 10 = .ok (.iload_n 2, 1) := by decide +kernel
theorem dX11_ways_11 : decode cX11_ways 11 = .ok (.ifCond .lt 9, 3) := by decide +kernel
theorem dX11_ways_14 : decode cX11_ways 14 = .ok (.iload_n 2, 1) := by decide +kernel
theorem dX11_ways_15 : decode cX11_ways 15 = .ok (.bipush 108, 2) := by decide +kernel
theorem dX11_ways_17 : decode cX11_ways 17 = .ok (.if_icmp .le 5, 3) := by decide +kernel
theorem dX11_ways_20 : decode cX11_ways 20 = .ok (.iconst (-1), 1) := by decide +kernel
theorem dX11_ways_21 : decode cX11_ways 21 = .ok (.ireturn, 1) := by decide +kernel
theorem dX11_ways_22 : decode cX11_ways 22 = .ok (.aload_n 0, 1) := by decide +kernel
theorem dX11_ways_23 : decode cX11_ways 23 = .ok (.getfield 21, 3) := by decide +kernel
theorem dX11_ways_26 : decode cX11_ways 26 = .ok (.getfield 188, 3) := by decide +kernel
theorem dX11_ways_29 : decode cX11_ways 29 = .ok (.iconst 0, 1) := by decide +kernel
theorem dX11_ways_30 : decode cX11_ways 30 = .ok (.iaload, 1) := by decide +kernel
theorem dX11_ways_31 : decode cX11_ways 31 = .ok (.bipush 12, 2) := by decide +kernel
theorem dX11_ways_33 : decode cX11_ways 33 = .ok (.if_icmp .le 6, 3) := by decide +kernel
theorem dX11_ways_36 : decode cX11_ways 36 = .ok (.bipush (-6), 2) := by decide +kernel
theorem dX11_ways_38 : decode cX11_ways 38 = .ok (.ireturn, 1) := by decide +kernel
theorem dX11_ways_39 : decode cX11_ways 39 = .ok (.aload_n 0, 1) := by decide +kernel
theorem dX11_ways_40 : decode cX11_ways 40 = .ok (.aload_n 3, 1) := by decide +kernel
theorem dX11_ways_41 : decode cX11_ways 41 = .ok (.iconst 1, 1) := by decide +kernel
theorem dX11_ways_42 : decode cX11_ways 42 = .ok (.invokevirtual 226, 3) := by decide +kernel
theorem dX11_ways_45 : decode cX11_ways 45 = .ok (.ifCond .eq 6, 3) := by decide +kernel
theorem dX11_ways_48 : decode cX11_ways 48 = .ok (.bipush (-3), 2) := by decide +kernel
theorem dX11_ways_50 : decode cX11_ways 50 = .ok (.ireturn, 1) := by decide +kernel
theorem dX11_ways_51 : decode cX11_ways 51 = .ok (.aload_n 0, 1) := by decide +kernel
theorem dX11_ways_52 : decode cX11_ways 52 = .ok (.getfield 46, 3) := by decide +kernel
theorem dX11_ways_55 : decode cX11_ways 55 = .ok (.aload_n 0, 1) := by decide +kernel
theorem dX11_ways_56 : decode cX11_ways 56 = .ok (.getfield 21, 3) := by decide +kernel
theorem dX11_ways_59 : decode cX11_ways 59 = .ok (.getfield 158, 3) := by decide +kernel
theorem dX11_ways_62 : decode cX11_ways 62 = .ok (.aload_n 0, 1) := by decide +kernel
theorem dX11_ways_63 : decode cX11_ways 63 = .ok (.getfield 21, 3) := by decide +kernel
theorem dX11_ways_66 : decode cX11_ways 66 = .ok (.getfield 188, 3) := by decide +kernel
theorem dX11_ways_69 : decode cX11_ways 69 = .ok (.iconst 0, 1) := by decide +kernel
theorem dX11_ways_70 : decode cX11_ways 70 = .ok (.iaload, 1) := by decide +kernel
theorem dX11_ways_71 : decode cX11_ways 71 = .ok (.invokevirtual 250, 3) := by decide +kernel
theorem dX11_ways_74 : decode cX11_ways 74 = .ok (.iconst 0, 1) := by decide +kernel
theorem dX11_ways_75 : decode cX11_ways 75 = .ok (.istore 4, 2) := by decide +kernel
theorem dX11_ways_77 : decode cX11_ways 77 = .ok (.iconst 0, 1) := by decide +kernel
theorem dX11_ways_78 : decode cX11_ways 78 = .ok (.istore 5, 2) := by decide +kernel
theorem dX11_ways_80 : decode cX11_ways 80 = .ok (.iconst 0, 1) := by decide +kernel
theorem dX11_ways_81 : decode cX11_ways 81 = .ok (.istore 6, 2) := by decide +kernel
theorem dX11_ways_83 : decode cX11_ways 83 = .ok (.iload 6, 2) := by decide +kernel
theorem dX11_ways_85 : decode cX11_ways 85 = .ok (.ifCond .lt 63, 3) := by decide +kernel
theorem dX11_ways_88 : decode cX11_ways 88 = .ok (.iload 4, 2) := by decide +kernel
theorem dX11_ways_90 : decode cX11_ways 90 = .ok (.ldc 253, 2) := by decide +kernel
theorem dX11_ways_92 : decode cX11_ways 92 = .ok (.if_icmp .ge 56, 3) := by decide +kernel
theorem dX11_ways_95 : decode cX11_ways 95 = .ok (.aload_n 0, 1) := by decide +kernel
theorem dX11_ways_96 : decode cX11_ways 96 = .ok (.getfield 39, 3) := by decide +kernel
theorem dX11_ways_99 : decode cX11_ways 99 = .ok (.aload_n 0, 1) := by decide +kernel
theorem dX11_ways_100 : decode cX11_ways 100 = .ok (.getfield 21, 3) := by decide +kernel
theorem dX11_ways_103 : decode cX11_ways 103 = .ok (.aload_n 0, 1) := by decide +kernel
theorem dX11_ways_104 : decode cX11_ways 104 = .ok (.getfield 46, 3) := by decide +kernel
theorem dX11_ways_107 : decode cX11_ways 107 = .ok (.getfield 254, 3) := by decide +kernel
theorem dX11_ways_110 : decode cX11_ways 110 = .ok (.aload_n 3, 1) := by decide +kernel
theorem dX11_ways_111 : decode cX11_ways 111 = .ok (.getfield 116, 3) := by decide +kernel
theorem dX11_ways_114 : decode cX11_ways 114 = .ok (.iload 6, 2) := by decide +kernel
theorem dX11_ways_116 : decode cX11_ways 116 = .ok (.invokevirtual 206, 3) := by decide +kernel
theorem dX11_ways_119 : decode cX11_ways 119 = .ok (.iinc 4 1, 3) := by decide +kernel
theorem dX11_ways_122 : decode cX11_ways 122 = .ok (.aload_n 0, 1) := by decide +kernel
theorem dX11_ways_123 : decode cX11_ways 123 = .ok (.getfield 39, 3) := by decide +kernel
theorem dX11_ways_126 : decode cX11_ways 126 = .ok (.getfield 214, 3) := by decide +kernel
theorem dX11_ways_129 : decode cX11_ways 129 = .ok (.iload_n 2, 1) := by decide +kernel
theorem dX11_ways_130 : decode cX11_ways 130 = .ok (.if_icmp .lt 6, 3) := by decide +kernel
theorem dX11_ways_133 : decode cX11_ways 133 = .ok (.iinc 5 1, 3) := by decide +kernel
theorem dX11_ways_136 : decode cX11_ways 136 = .ok (.aload_n 0, 1) := by decide +kernel
theorem dX11_ways_137 : decode cX11_ways 137 = .ok (.getfield 46, 3) := by decide +kernel
theorem dX11_ways_140 : decode cX11_ways 140 = .ok (.invokevirtual 257, 3) := by decide +kernel
theorem dX11_ways_143 : decode cX11_ways 143 = .ok (.istore 6, 2) := by decide +kernel
theorem dX11_ways_145 : decode cX11_ways 145 = .ok (.goto (-62), 3) := by decide +kernel
theorem dX11_ways_148 : decode cX11_ways 148 = .ok (.aload_n 0, 1) := by decide +kernel
theorem dX11_ways_149 : decode cX11_ways 149 = .ok (.iload 5, 2) := by decide +kernel
theorem dX11_ways_151 : decode cX11_ways 151 = .ok (.i2l, 1) := by decide +kernel
theorem dX11_ways_152 : decode cX11_ways 152 = .ok (.iload 4, 2) := by decide +kernel
theorem dX11_ways_154 : decode cX11_ways 154 = .ok (.i2l, 1) := by decide +kernel
theorem dX11_ways_155 : decode cX11_ways 155 = .ok (.invokevirtual 260, 3) := by decide +kernel
theorem dX11_ways_158 : decode cX11_ways 158 = .ok (.iload 5, 2) := by decide +kernel
theorem dX11_ways_160 : decode cX11_ways 160 = .ok (.ireturn, 1) := by decide +kernel
theorem dX11_sure_0 : decode cX11_sure 0 = .ok (.aload_n 0, 1) := by decide +kernel
theorem dX11_sure_1 : decode cX11_sure 1 = .ok (.iload_n 1, 1) := by decide +kernel
theorem dX11_sure_2 : decode cX11_sure 2 = .ok (.invokevirtual 96, 3) := by decide +kernel
theorem dX11_sure_5 : decode cX11_sure 5 = .ok (.astore_n 2, 1) := by decide +kernel
theorem dX11_sure_6 : decode cX11_sure 6 = .ok (.aload_n 2, 1) := by decide +kernel
theorem dX11_sure_7 : decode cX11_sure 7 = .ok (.ifnonnull 5, 3) := by decide +kernel
theorem dX11_sure_10 : decode cX11_sure 10 = .ok (.iconst (-1), 1) := by decide +kernel
theorem dX11_sure_11 : decode cX11_sure 11 = .ok (.ireturn, 1) := by decide +kernel
theorem dX11_sure_12 : decode cX11_sure 12 = .ok (.aload_n 0, 1) := by decide +kernel
theorem dX11_sure_13 : decode cX11_sure 13 = .ok (.aload_n 2, 1) := by decide +kernel
theorem dX11_sure_14 : decode cX11_sure 14 = .ok (.iconst 0, 1) := by decide +kernel
theorem dX11_sure_15 : decode cX11_sure 15 = .ok (.invokevirtual 226, 3) := by decide +kernel
theorem dX11_sure_18 : decode cX11_sure 18 = .ok (.ifCond .eq 6, 3) := by decide +kernel
theorem dX11_sure_21 : decode cX11_sure 21 = .ok (.bipush (-3), 2) := by decide +kernel
theorem dX11_sure_23 : decode cX11_sure 23 = .ok (.ireturn, 1) := by decide +kernel
theorem dX11_sure_24 : decode cX11_sure 24 = .ok (.aload_n 0, 1) := by decide +kernel
theorem dX11_sure_25 : decode cX11_sure 25 = .ok (.getfield 60, 3) := by decide +kernel
theorem dX11_sure_28 : decode cX11_sure 28 = .ok (.aload_n 0, 1) := by decide +kernel
theorem dX11_sure_29 : decode cX11_sure 29 = .ok (.getfield 21, 3) := by decide +kernel
theorem dX11_sure_32 : decode cX11_sure 32 = .ok (.aload_n 2, 1) := by decide +kernel
theorem dX11_sure_33 : decode cX11_sure 33 = .ok (.getfield 116, 3) := by decide +kernel
theorem dX11_sure_36 : decode cX11_sure 36 = .ok (.iconst (-1), 1) := by decide +kernel
theorem dX11_sure_37 : decode cX11_sure 37 = .ok (.invokevirtual 264, 3) := by decide +kernel
theorem dX11_sure_40 : decode cX11_sure 40 = .ok (.ireturn, 1) := by decide +kernel
theorem dX11_isTooMuch_0 : decode cX11_isTooMuch 0 = .ok (.aload_n 0, 1) := by decide +kernel
theorem dX11_isTooMuch_1 : decode cX11_isTooMuch 1 = .ok (.getfield 21, 3) := by decide +kernel
theorem dX11_isTooMuch_4 : decode cX11_isTooMuch 4 = .ok (.getfield 188, 3) := by decide +kernel
theorem dX11_isTooMuch_7 : decode cX11_isTooMuch 7 = .ok (.iload_n 1, 1) := by decide +kernel
theorem dX11_isTooMuch_8 : decode cX11_isTooMuch 8 = .ok (.iaload, 1) := by decide +kernel
theorem dX11_isTooMuch_9 : decode cX11_isTooMuch 9 = .ok (.bipush 10, 2) := by decide +kernel
theorem dX11_isTooMuch_11 : decode cX11_isTooMuch 11 = .ok (.if_icmp .gt 14, 3) := by decide +kernel
theorem dX11_isTooMuch_14 : decode cX11_isTooMuch 14 = .ok (.aload_n 0, 1) := by decide +kernel
theorem dX11_isTooMuch_15 : decode cX11_isTooMuch 15 = .ok (.getfield 21, 3) := by decide +kernel
theorem dX11_isTooMuch_18 : decode cX11_isTooMuch 18 = .ok (.getfield 158, 3) := by decide +kernel
theorem dX11_isTooMuch_21 : decode cX11_isTooMuch 21 = .ok (.iconst 4, 1) := by decide +kernel
theorem dX11_isTooMuch_22 : decode cX11_isTooMuch 22 = .ok (.if_icmp .le 7, 3) := by decide +kernel
theorem dX11_isTooMuch_25 : decode cX11_isTooMuch 25 = .ok (.iconst 1, 1) := by decide +kernel
theorem dX11_isTooMuch_26 : decode cX11_isTooMuch 26 = .ok (.goto 4, 3) := by decide +kernel
theorem dX11_isTooMuch_29 : decode cX11_isTooMuch 29 = .ok (.iconst 0, 1) := by decide +kernel
theorem dX11_isTooMuch_30 : decode cX11_isTooMuch 30 = .ok (.ireturn, 1) := by decide +kernel
theorem dX11_safe_0 : decode cX11_safe 0 = .ok (.aload_n 0, 1) := by decide +kernel
theorem dX11_safe_1 : decode cX11_safe 1 = .ok (.iload_n 1, 1) := by decide +kernel
theorem dX11_safe_2 : decode cX11_safe 2 = .ok (.invokevirtual 96, 3) := by decide +kernel
theorem dX11_safe_5 : decode cX11_safe 5 = .ok (.astore_n 2, 1) := by decide +kernel
theorem dX11_safe_6 : decode cX11_safe 6 = .ok (.aload_n 2, 1) := by decide +kernel
theorem dX11_safe_7 : decode cX11_safe 7 = .ok (.ifnonnull 5, 3) := by decide +kernel
theorem dX11_safe_10 : decode cX11_safe 10 = .ok (.iconst (-1), 1) := by decide +kernel
theorem dX11_safe_11 : decode cX11_safe 11 = .ok (.ireturn, 1) := by decide +kernel
theorem dX11_safe_12 : decode cX11_safe 12 = .ok (.aload_n 0, 1) := by decide +kernel
theorem dX11_safe_13 : decode cX11_safe 13 = .ok (.iconst 0, 1) := by decide +kernel
theorem dX11_safe_14 : decode cX11_safe 14 = .ok (.invokevirtual 268, 3) := by decide +kernel
theorem dX11_safe_17 : decode cX11_safe 17 = .ok (.ifCond .eq 6, 3) := by decide +kernel
theorem dX11_safe_20 : decode cX11_safe 20 = .ok (.bipush (-6), 2) := by decide +kernel
theorem dX11_safe_22 : decode cX11_safe 22 = .ok (.ireturn, 1) := by decide +kernel
theorem dX11_safe_23 : decode cX11_safe 23 = .ok (.aload_n 0, 1) := by decide +kernel
theorem dX11_safe_24 : decode cX11_safe 24 = .ok (.getfield 46, 3) := by decide +kernel
theorem dX11_safe_27 : decode cX11_safe 27 = .ok (.aload_n 0, 1) := by decide +kernel
theorem dX11_safe_28 : decode cX11_safe 28 = .ok (.getfield 21, 3) := by decide +kernel
theorem dX11_safe_31 : decode cX11_safe 31 = .ok (.getfield 158, 3) := by decide +kernel
theorem dX11_safe_34 : decode cX11_safe 34 = .ok (.aload_n 0, 1) := by decide +kernel
theorem dX11_safe_35 : decode cX11_safe 35 = .ok (.getfield 21, 3) := by decide +kernel
theorem dX11_safe_38 : decode cX11_safe 38 = .ok (.getfield 188, 3) := by decide +kernel
theorem dX11_safe_41 : decode cX11_safe 41 = .ok (.iconst 0, 1) := by decide +kernel
theorem dX11_safe_42 : decode cX11_safe 42 = .ok (.iaload, 1) := by decide +kernel
theorem dX11_safe_43 : decode cX11_safe 43 = .ok (.invokevirtual 250, 3) := by decide +kernel
theorem dX11_safe_46 : decode cX11_safe 46 = .ok (.iconst (-1), 1) := by decide +kernel
theorem dX11_safe_47 : decode cX11_safe 47 = .ok (.istore_n 3, 1) := by decide +kernel
theorem dX11_safe_48 : decode cX11_safe 48 = .ok (.iconst 0, 1) := by decide +kernel
theorem dX11_safe_49 : decode cX11_safe 49 = .ok (.istore 4, 2) := by decide +kernel
theorem dX11_safe_51 : decode cX11_safe 51 = .ok (.iconst 0, 1) := by decide +kernel
theorem dX11_safe_52 : decode cX11_safe 52 = .ok (.istore 5, 2) := by decide +kernel
theorem dX11_safe_54 : decode cX11_safe 54 = .ok (.iload 4, 2) := by decide +kernel
theorem dX11_safe_56 : decode cX11_safe 56 = .ok (.ifCond .lt 73, 3) := by decide +kernel
theorem dX11_safe_59 : decode cX11_safe 59 = .ok (.iload 5, 2) := by decide +kernel
theorem dX11_safe_61 : decode cX11_safe 61 = .ok (.ldc 253, 2) := by decide +kernel
theorem dX11_safe_63 : decode cX11_safe 63 = .ok (.if_icmp .ge 66, 3) := by decide +kernel
theorem dX11_safe_66 : decode cX11_safe 66 = .ok (.aload_n 0, 1) := by decide +kernel
theorem dX11_safe_67 : decode cX11_safe 67 = .ok (.getfield 60, 3) := by decide +kernel
theorem dX11_safe_70 : decode cX11_safe 70 = .ok (.aload_n 0, 1) := by decide +kernel
theorem dX11_safe_71 : decode cX11_safe 71 = .ok (.getfield 21, 3) := by decide +kernel
theorem dX11_safe_74 : decode cX11_safe 74 = .ok (.aload_n 0, 1) := by decide +kernel
theorem dX11_safe_75 : decode cX11_safe 75 = .ok (.getfield 46, 3) := by decide +kernel
theorem dX11_safe_78 : decode cX11_safe 78 = .ok (.getfield 254, 3) := by decide +kernel
theorem dX11_safe_81 : decode cX11_safe 81 = .ok (.iload_n 3, 1) := by decide +kernel
theorem dX11_safe_82 : decode cX11_safe 82 = .ok (.invokevirtual 264, 3) := by decide +kernel
theorem dX11_safe_85 : decode cX11_safe 85 = .ok (.istore 6, 2) := by decide +kernel
theorem dX11_safe_87 : decode cX11_safe 87 = .ok (.iload 6, 2) := by decide +kernel
theorem dX11_safe_89 : decode cX11_safe 89 = .ok (.iload_n 3, 1) := by decide +kernel
theorem dX11_safe_90 : decode cX11_safe 90 = .ok (.if_icmp .le 24, 3) := by decide +kernel
theorem dX11_safe_93 : decode cX11_safe 93 = .ok (.iload 6, 2) := by decide +kernel
theorem dX11_safe_95 : decode cX11_safe 95 = .ok (.istore_n 3, 1) := by decide +kernel
theorem dX11_safe_96 : decode cX11_safe 96 = .ok (.aload_n 2, 1) := by decide +kernel
theorem dX11_safe_97 : decode cX11_safe 97 = .ok (.aload_n 0, 1) := by decide +kernel
theorem dX11_safe_98 : decode cX11_safe 98 = .ok (.getfield 46, 3) := by decide +kernel
theorem dX11_safe_101 : decode cX11_safe 101 = .ok (.getfield 254, 3) := by decide +kernel
theorem dX11_safe_104 : decode cX11_safe 104 = .ok (.aload_n 0, 1) := by decide +kernel
theorem dX11_safe_105 : decode cX11_safe 105 = .ok (.getfield 21, 3) := by decide +kernel
theorem dX11_safe_108 : decode cX11_safe 108 = .ok (.getfield 158, 3) := by decide +kernel
theorem dX11_safe_111 : decode cX11_safe 111 = .ok (.invokevirtual 236, 3) := by decide +kernel
theorem dX11_safe_114 : decode cX11_safe 114 = .ok (.aload_n 0, 1) := by decide +kernel
theorem dX11_safe_115 : decode cX11_safe 115 = .ok (.getfield 46, 3) := by decide +kernel
theorem dX11_safe_118 : decode cX11_safe 118 = .ok (.invokevirtual 257, 3) := by decide +kernel
theorem dX11_safe_121 : decode cX11_safe 121 = .ok (.istore 4, 2) := by decide +kernel
theorem dX11_safe_123 : decode cX11_safe 123 = .ok (.iinc 5 1, 3) := by decide +kernel
theorem dX11_safe_126 : decode cX11_safe 126 = .ok (.goto (-72), 3) := by decide +kernel
theorem dX11_safe_129 : decode cX11_safe 129 = .ok (.iload_n 3, 1) := by decide +kernel
theorem dX11_safe_130 : decode cX11_safe 130 = .ok (.ireturn, 1) := by decide +kernel
theorem q_465 : Cond.methodLink RX11 159 yX0_suitOf ∈ wT := wi_t 465 (by decide +kernel) (by decide +kernel)
theorem q_141 : Cond.fieldLink RX11 220 "HeavyFiles$Scale" "leads" "[I" ∈ wT := wi_t 141 (by decide +kernel) (by decide +kernel)
theorem q_139 : Cond.fieldLink RX11 223 "HeavyFiles$Scale" "winners" "[I" ∈ wT := wi_t 139 (by decide +kernel) (by decide +kernel)
theorem q_470 : Cond.methodLink RX11 226 yX11_isWrong ∈ wT := wi_t 470 (by decide +kernel) (by decide +kernel)
theorem q_473 : Cond.code yX11_isWrong cX11_isWrong 3 (some .boolean) ∈ wT := wi_t 473 (by decide +kernel) (by decide +kernel)
theorem q_472 : Cond.instanceMethod yX11_isWrong ∈ wT := wi_t 472 (by decide +kernel) (by decide +kernel)
theorem qs_6 : Cond.selects RX11 yX11_isWrong yX11_isWrong ∈ wT := wi_s (q := (yX11_isWrong, 17)) 6 (by decide +kernel) (by decide +kernel)
theorem q_315 : Cond.fieldLink RX11 53 "HeavyFiles" "search" "LHeavyFiles$Search;" ∈ wT := wi_t 315 (by decide +kernel) (by decide +kernel)
theorem q_62 : Cond.fieldLink RX11 188 "HeavyFiles$Court" "stocks" "[I" ∈ wT := wi_t 62 (by decide +kernel) (by decide +kernel)
theorem q_474 : Cond.methodLink RX11 229 yX8_run ∈ wT := wi_t 474 (by decide +kernel) (by decide +kernel)
theorem q_477 : Cond.code yX8_run cX8_run 5 none ∈ wT := wi_t 477 (by decide +kernel) (by decide +kernel)
theorem q_475 : Cond.instanceMethod yX8_run ∈ wT := wi_t 475 (by decide +kernel) (by decide +kernel)
theorem q_476 : Cond.selects RX8 yX8_run yX8_run ∈ wT := wi_t 476 (by decide +kernel) (by decide +kernel)
theorem q_182 : Cond.fieldLink RX11 233 "HeavyFiles$Search" "laying" "[I" ∈ wT := wi_t 182 (by decide +kernel) (by decide +kernel)
theorem q_513 : Cond.methodLink RX11 236 yX6_take ∈ wT := wi_t 513 (by decide +kernel) (by decide +kernel)
theorem q_516 : Cond.code yX6_take cX6_take 3 none ∈ wT := wi_t 516 (by decide +kernel) (by decide +kernel)
theorem q_514 : Cond.instanceMethod yX6_take ∈ wT := wi_t 514 (by decide +kernel) (by decide +kernel)
theorem q_515 : Cond.selects RX6 yX6_take yX6_take ∈ wT := wi_t 515 (by decide +kernel) (by decide +kernel)
theorem q_186 : Cond.fieldLink RX11 240 "HeavyFiles$Search" "sheets" "I" ∈ wT := wi_t 186 (by decide +kernel) (by decide +kernel)
theorem q_184 : Cond.fieldLink RX11 243 "HeavyFiles$Search" "score" "I" ∈ wT := wi_t 184 (by decide +kernel) (by decide +kernel)
theorem q_524 : Cond.methodLink RX11 244 yX8_fewestFor ∈ wT := wi_t 524 (by decide +kernel) (by decide +kernel)
theorem q_527 : Cond.code yX8_fewestFor cX8_fewestFor 3 (some .int) ∈ wT := wi_t 527 (by decide +kernel) (by decide +kernel)
theorem q_525 : Cond.instanceMethod yX8_fewestFor ∈ wT := wi_t 525 (by decide +kernel) (by decide +kernel)
theorem q_526 : Cond.selects RX8 yX8_fewestFor yX8_fewestFor ∈ wT := wi_t 526 (by decide +kernel) (by decide +kernel)
theorem q_528 : Cond.methodLink RX11 247 yX8_mostBy ∈ wT := wi_t 528 (by decide +kernel) (by decide +kernel)
theorem q_531 : Cond.code yX8_mostBy cX8_mostBy 4 (some .int) ∈ wT := wi_t 531 (by decide +kernel) (by decide +kernel)
theorem q_529 : Cond.instanceMethod yX8_mostBy ∈ wT := wi_t 529 (by decide +kernel) (by decide +kernel)
theorem q_530 : Cond.selects RX8 yX8_mostBy yX8_mostBy ∈ wT := wi_t 530 (by decide +kernel) (by decide +kernel)
theorem q_323 : Cond.fieldLink RX11 361 "HeavyFiles" "upper" "J" ∈ wT := wi_t 323 (by decide +kernel) (by decide +kernel)
theorem q_324 : Cond.fieldLink RX11 89 "HeavyFiles" "lower" "J" ∈ wT := wi_t 324 (by decide +kernel) (by decide +kernel)
theorem q_543 : Cond.constant RX11 253 1000000 ∈ wT := wi_t 543 (by decide +kernel) (by decide +kernel)
theorem q_552 : Cond.methodLink RX11 390 Lib.MathLoose.abs_long.x ∈ wT := wi_t 552 (by decide +kernel) (by decide +kernel)
theorem q_553 : Cond.static Lib.MathLoose.abs_long.x ∈ wT := wi_t 553 (by decide +kernel) (by decide +kernel)
theorem q_554 : Cond.code Lib.MathLoose.abs_long.x Lib.MathLoose.abs_long.code 2 (some .long) ∈ wT := wi_t 554 (by decide +kernel) (by decide +kernel)
theorem q_548 : Cond.methodLink RX11 260 yX11_fraction ∈ wT := wi_t 548 (by decide +kernel) (by decide +kernel)
theorem q_551 : Cond.code yX11_fraction cX11_fraction 12 none ∈ wT := wi_t 551 (by decide +kernel) (by decide +kernel)
theorem q_550 : Cond.instanceMethod yX11_fraction ∈ wT := wi_t 550 (by decide +kernel) (by decide +kernel)
theorem qs_9 : Cond.selects RX11 yX11_fraction yX11_fraction ∈ wT := wi_s (q := (yX11_fraction, 17)) 9 (by decide +kernel) (by decide +kernel)
theorem q_314 : Cond.fieldLink RX11 46 "HeavyFiles" "layings" "LHeavyFiles$Layings;" ∈ wT := wi_t 314 (by decide +kernel) (by decide +kernel)
theorem q_544 : Cond.methodLink RX11 257 yX3_next ∈ wT := wi_t 544 (by decide +kernel) (by decide +kernel)
theorem q_165 : Cond.fieldLink RX11 254 "HeavyFiles$Layings" "laid" "[I" ∈ wT := wi_t 165 (by decide +kernel) (by decide +kernel)
theorem q_537 : Cond.methodLink RX11 250 yX3_begin ∈ wT := wi_t 537 (by decide +kernel) (by decide +kernel)
theorem q_316 : Cond.fieldLink RX11 60 "HeavyFiles" "dread" "LHeavyFiles$Dread;" ∈ wT := wi_t 316 (by decide +kernel) (by decide +kernel)
theorem q_559 : Cond.methodLink RX11 264 yX1_leastFor ∈ wT := wi_t 559 (by decide +kernel) (by decide +kernel)
theorem q_562 : Cond.code yX1_leastFor cX1_leastFor 4 (some .int) ∈ wT := wi_t 562 (by decide +kernel) (by decide +kernel)
theorem q_560 : Cond.instanceMethod yX1_leastFor ∈ wT := wi_t 560 (by decide +kernel) (by decide +kernel)
theorem q_561 : Cond.selects RX1 yX1_leastFor yX1_leastFor ∈ wT := wi_t 561 (by decide +kernel) (by decide +kernel)
theorem q_574 : Cond.methodLink RX11 268 yX11_isTooMuch ∈ wT := wi_t 574 (by decide +kernel) (by decide +kernel)
theorem q_577 : Cond.code yX11_isTooMuch cX11_isTooMuch 2 (some .boolean) ∈ wT := wi_t 577 (by decide +kernel) (by decide +kernel)
theorem q_576 : Cond.instanceMethod yX11_isTooMuch ∈ wT := wi_t 576 (by decide +kernel) (by decide +kernel)
theorem qs_10 : Cond.selects RX11 yX11_isTooMuch yX11_isTooMuch ∈ wT := wi_s (q := (yX11_isTooMuch, 17)) 10 (by decide +kernel) (by decide +kernel)
theorem kvX11_isWrong : KV yX11_isWrong RX11 cX11_isWrong 3 (some .boolean) 2 := ⟨q_472, qs_6, q_1, q_473, rfl, by decide +kernel, by decide +kernel, by decide +kernel⟩
theorem kvX8_run : KV yX8_run RX8 cX8_run 5 none 4 := ⟨q_475, q_476, q_7, q_477, rfl, by decide +kernel, by decide +kernel, by decide +kernel⟩
theorem kvX6_take : KV yX6_take RX6 cX6_take 3 none 2 := ⟨q_514, q_515, q_12, q_516, rfl, by decide +kernel, by decide +kernel, by decide +kernel⟩
theorem kvX8_fewestFor : KV yX8_fewestFor RX8 cX8_fewestFor 3 (some .int) 1 := ⟨q_525, q_526, q_7, q_527, rfl, by decide +kernel, by decide +kernel, by decide +kernel⟩
theorem kvX8_mostBy : KV yX8_mostBy RX8 cX8_mostBy 4 (some .int) 1 := ⟨q_529, q_530, q_7, q_531, rfl, by decide +kernel, by decide +kernel, by decide +kernel⟩
theorem kvX11_fraction : KV yX11_fraction RX11 cX11_fraction 12 none 2 := ⟨q_550, qs_9, q_1, q_551, rfl, by decide +kernel, by decide +kernel, by decide +kernel⟩
theorem kvX1_leastFor : KV yX1_leastFor RX1 cX1_leastFor 4 (some .int) 3 := ⟨q_560, q_561, q_8, q_562, rfl, by decide +kernel, by decide +kernel, by decide +kernel⟩
theorem kvX11_isTooMuch : KV yX11_isTooMuch RX11 cX11_isTooMuch 2 (some .boolean) 1 := ⟨q_576, qs_10, q_1, q_577, rfl, by decide +kernel, by decide +kernel, by decide +kernel⟩
/-! HeavyFiles.who(III)I -/
def fX11_who (N : Nat)  (a0 : Nat) (a1 : Int32) (a2 : Int32) (a3 : Int32) (mm : Mm) : Option (Int32 × Mm) :=
  bd2 (fX11_rowOf N a0 a1 mm) fun x1 m2 => bd2 (fX11_rowOf N a0 a2 m2) fun x4 m5 => cs x1 (some ((-1), m5)) (fun z7 => cs x4 (some ((-1), m5)) (fun z9 => bd2 (fX0_suitOf N (fr a0 2) a3 m5) fun x11 m12 => cs x11 (some ((-1), m12)) (fun z14 => bd2 (fX11_isWrong_ N a0 z7 0 z9 1 m12) fun x16 m17 => if x16 = 0 then (bd2 (fX7_weigh N (fr a0 5) (fr a0 2) (fr z7 0) (fr z9 0) 0 m17) fun x20 m21 => gd (inb a3 (ln (fr (fr a0 5) 1))) <| nm (wr m21 a0 14 (rd m21 (fr (fr a0 5) 1) a3.toNatClampNeg)) fun m24 => gd (inb a3 (ln (fr (fr a0 5) 0))) <| if (rd m24 (fr (fr a0 5) 0) a3.toNatClampNeg) = 2 then (some ((-9), m24)) else (gd (inb a3 (ln (fr (fr a0 5) 0))) <| some (rd m24 (fr (fr a0 5) 0) a3.toNatClampNeg, m24))) else (some ((-3), m17)))))
abbrev rmX11_who : Room := { frames := 4, cells := 0, slots := 0, locals := 136 }
/-! HeavyFiles.isWrong(LHeavyFiles$Row;I)Z -/
def fX11_isWrong (N : Nat)  (a0 : Nat) (a1 : Nat) (a2 : Int32) (mm : Mm) : Option (Int32 × Mm) :=
  bd2 (fX11_isWrong_ N a0 a1 a2 a1 a2 mm) fun x1 m2 => gd (zb x1) <| some (x1, m2)
abbrev rmX11_isWrong : Room := { frames := 4, cells := 0, slots := 0, locals := 135 }
/-! HeavyFiles.best(II)I -/
def fX11_best (N : Nat)  (a0 : Nat) (a1 : Int32) (a2 : Int32) (mm : Mm) : Option (Int32 × Mm) :=
  bd2 (fX11_rowOf N a0 a1 mm) fun x1 m2 => bd2 (fX11_rowOf N a0 a2 m2) fun x4 m5 => cs x1 (some ((-1), m5)) (fun z7 => cs x4 (some ((-1), m5)) (fun z9 => bd2 (fX11_isWrong N a0 z7 1 m5) fun x11 m12 => if x11 = 0 then (gd (inb 0 (ln (fr (fr a0 2) 1))) <| bd2 (fX8_run N (fr a0 7) (fr a0 2) (rd m12 (fr a0 2) 6) (fr z7 0) (rd m12 (fr (fr a0 2) 1) ((0 : Int32).toNatClampNeg)) m12) fun x16 m17 => bd2 (fX6_take N z9 (fr (fr a0 7) 0) (rd m17 (fr a0 2) 5) m17) fun x19 m20 => nm (wr m20 a0 14 (rd m20 (fr a0 7) 2)) fun m22 => some (rd m22 (fr a0 7) 1, m22)) else (some ((-3), m12))))
abbrev rmX11_best : Room := { frames := 16, cells := 0, slots := 0, locals := 861 }
/-! HeavyFiles.fewest(II)I -/
def fX11_fewest (N : Nat)  (a0 : Nat) (a1 : Int32) (a2 : Int32) (mm : Mm) : Option (Int32 × Mm) :=
  bd2 (fX11_rowOf N a0 a1 mm) fun x1 m2 => cs x1 (some ((-1), m2)) (fun z4 => if a2 < 0 then (some ((-1), m2)) else (if a2 ≤ 108 then (bd2 (fX11_isWrong N a0 z4 1 m2) fun x8 m9 => if x8 = 0 then (bd2 (fX8_run N (fr a0 7) (fr a0 2) (rd m9 (fr a0 2) 6) (fr z4 0) 240 m9) fun x12 m13 => bd2 (fX8_fewestFor N (fr a0 7) a2 m13) fun x15 m16 => if x15 = (-9) then (some (x15, m16)) else (bd2 (fX8_mostBy N (fr a0 7) x15 m16) fun x19 m20 => nm (wr m20 a0 14 x19) fun m22 => some (x15, m22))) else (some ((-3), m9))) else (some ((-1), m2))))
abbrev rmX11_fewest : Room := { frames := 16, cells := 0, slots := 0, locals := 861 }
/-! HeavyFiles.fraction(JJ)V -/
def fX11_fraction_47 (N : Nat)  (a0 : Nat) (a1 : Int64) (a3 : Int64) (a5 : Int64) (mm : Mm) : Option (Unit × Mm) :=
  if (lg_cmp a5 0) ≤ 0 then (some ((), mm)) else (gd (nzL a5) <| nm (wrL mm a0 15 (a1 / a5)) fun m3 => gd (nzL a5) <| nm (wrL m3 a0 16 (a3 / a5)) fun m5 => some ((), m5))
def fX11_fraction_12 (N : Nat)  : Nat → Nat → Int64 → Int64 → Int64 → Int64 → Int32 → Mm → Option (Unit × Mm)
  | 0 => fun _ _ _ _ _ _ _ => none
  | n + 1 => fun a0 a1 a3 a5 a7 a9 mm =>
    let k12 := fX11_fraction_12 N  n
    if (lg_cmp a7 0) = 0 then (fX11_fraction_47 N a0 a1 a3 a5 mm) else (if (1000000 : Int32) ≤ a9 then (fX11_fraction_47 N a0 a1 a3 a5 mm) else (gd (nzL a7) <| k12 a0 a1 a3 a7 (a5 - a5 / a7 * a7) (a9 + 1) mm))
def fX11_fraction (N : Nat)  (a0 : Nat) (a1 : Int64) (a3 : Int64) (mm : Mm) : Option (Unit × Mm) :=
  nm (if 0 < a1 then a1 else -a1) fun x9 => fX11_fraction_12 N N a0 a1 a3 x9 a3 0 mm
abbrev rmX11_fraction : Room := { frames := 2, cells := 0, slots := 0, locals := 69 }
/-! HeavyFiles.ways(II)I -/
def fX11_ways_148 (N : Nat)  (a0 : Nat) (a4 : Int32) (a5 : Int32) (mm : Mm) : Option (Int32 × Mm) :=
  bd2 (fX11_fraction N a0 a5.toInt64 a4.toInt64 mm) fun x1 m2 => some (a5, m2)
def fX11_ways_136 (N : Nat) (k83 : Nat → Int32 → Nat → Int32 → Int32 → Int32 → Mm → Option (Int32 × Mm)) (a0 : Nat) (a2 : Int32) (a3 : Nat) (a4 : Int32) (a5 : Int32) (mm : Mm) : Option (Int32 × Mm) :=
  bd2 (fX3_next N (fr a0 6) mm) fun x4 m5 => k83 a0 a2 a3 a4 a5 x4 m5
def fX11_ways_83 (N : Nat)  : Nat → Nat → Int32 → Nat → Int32 → Int32 → Int32 → Mm → Option (Int32 × Mm)
  | 0 => fun _ _ _ _ _ _ _ => none
  | n + 1 => fun a0 a2 a3 a4 a5 a6 mm =>
    let k83 := fX11_ways_83 N  n
    if a6 < 0 then (fX11_ways_148 N a0 a4 a5 mm) else (if (1000000 : Int32) ≤ a4 then (fX11_ways_148 N a0 a4 a5 mm) else (bd2 (fX7_weigh N (fr a0 5) (fr a0 2) (fr (fr a0 6) 0) (fr a3 0) a6 mm) fun x9 m10 => if (rd m10 (fr a0 5) 3) < a2 then (fX11_ways_136 N k83 a0 a2 a3 (a4 + 1) a5 m10) else (fX11_ways_136 N k83 a0 a2 a3 (a4 + 1) (a5 + 1) m10)))
def fX11_ways (N : Nat)  (a0 : Nat) (a1 : Int32) (a2 : Int32) (mm : Mm) : Option (Int32 × Mm) :=
  bd2 (fX11_rowOf N a0 a1 mm) fun x13 m14 => cs x13 (some ((-1), m14)) (fun z16 => if a2 < 0 then (some ((-1), m14)) else (if a2 ≤ 108 then (gd (inb 0 (ln (fr (fr a0 2) 1))) <| if (rd m14 (fr (fr a0 2) 1) ((0 : Int32).toNatClampNeg)) ≤ 12 then (bd2 (fX11_isWrong N a0 z16 1 m14) fun x22 m23 => if x22 = 0 then (gd (inb 0 (ln (fr (fr a0 2) 1))) <| bd2 (fX3_begin N (fr a0 6) (rd m23 (fr a0 2) 5) (rd m23 (fr (fr a0 2) 1) ((0 : Int32).toNatClampNeg)) m23) fun x27 m28 => fX11_ways_83 N N a0 a2 z16 0 0 0 m28) else (some ((-3), m23))) else (some ((-6), m14))) else (some ((-1), m14))))
abbrev rmX11_ways : Room := { frames := 5, cells := 0, slots := 0, locals := 165 }
/-! HeavyFiles.sure(I)I -/
def fX11_sure (N : Nat)  (a0 : Nat) (a1 : Int32) (mm : Mm) : Option (Int32 × Mm) :=
  bd2 (fX11_rowOf N a0 a1 mm) fun x1 m2 => cs x1 (some ((-1), m2)) (fun z4 => bd2 (fX11_isWrong N a0 z4 0 m2) fun x6 m7 => if x6 = 0 then (bd2 (fX1_leastFor N (fr a0 8) (fr a0 2) (fr z4 0) (-1) m7) fun x10 m11 => some (x10, m11)) else (some ((-3), m7)))
abbrev rmX11_sure : Room := { frames := 16, cells := 0, slots := 0, locals := 860 }
/-! HeavyFiles.isTooMuch(I)Z -/
def fX11_isTooMuch (N : Nat)  (a0 : Nat) (a1 : Int32) (mm : Mm) : Option (Int32 × Mm) :=
  gd (inb a1 (ln (fr (fr a0 2) 1))) <| if (10 : Int32) < (rd mm (fr (fr a0 2) 1) a1.toNatClampNeg) then (some (1, mm)) else (if (rd mm (fr a0 2) 5) ≤ 4 then (some (0, mm)) else (some (1, mm)))
abbrev rmX11_isTooMuch : Room := { frames := 1, cells := 0, slots := 0, locals := 40 }
/-! HeavyFiles.safe(I)I -/
def fX11_safe_114 (N : Nat) (k54 : Nat → Nat → Int32 → Int32 → Int32 → Mm → Option (Int32 × Mm)) (a0 : Nat) (a2 : Nat) (a3 : Int32) (a5 : Int32) (mm : Mm) : Option (Int32 × Mm) :=
  bd2 (fX3_next N (fr a0 6) mm) fun x1 m2 => k54 a0 a2 a3 x1 (a5 + 1) m2
def fX11_safe_54 (N : Nat)  : Nat → Nat → Nat → Int32 → Int32 → Int32 → Mm → Option (Int32 × Mm)
  | 0 => fun _ _ _ _ _ _ => none
  | n + 1 => fun a0 a2 a3 a4 a5 mm =>
    let k54 := fX11_safe_54 N  n
    if a4 < 0 then (some (a3, mm)) else (if (1000000 : Int32) ≤ a5 then (some (a3, mm)) else (bd2 (fX1_leastFor N (fr a0 8) (fr a0 2) (fr (fr a0 6) 0) a3 mm) fun x6 m7 => if x6 ≤ a3 then (fX11_safe_114 N k54 a0 a2 a3 a5 m7) else (bd2 (fX6_take N a2 (fr (fr a0 6) 0) (rd m7 (fr a0 2) 5) m7) fun x10 m11 => fX11_safe_114 N k54 a0 a2 x6 a5 m11)))
def fX11_safe (N : Nat)  (a0 : Nat) (a1 : Int32) (mm : Mm) : Option (Int32 × Mm) :=
  bd2 (fX11_rowOf N a0 a1 mm) fun x13 m14 => cs x13 (some ((-1), m14)) (fun z16 => bd2 (fX11_isTooMuch N a0 0 m14) fun x18 m19 => if x18 = 0 then (gd (inb 0 (ln (fr (fr a0 2) 1))) <| bd2 (fX3_begin N (fr a0 6) (rd m19 (fr a0 2) 5) (rd m19 (fr (fr a0 2) 1) ((0 : Int32).toNatClampNeg)) m19) fun x23 m24 => fX11_safe_54 N N a0 z16 (-1) 0 0 m24) else (some ((-6), m19)))
abbrev rmX11_safe : Room := { frames := 16, cells := 0, slots := 0, locals := 860 }
section W_files16
variable {p : Program} {l : Launch} {e : Env} {s : State} {m : MethodId} {args : Array Value} {below : List Frame} {meth : Method} {c : Code} {D : va_G} {ca ad : Nat → Nat}
set_option maxRecDepth 100000 in
set_option maxHeartbeats 4000000 in
theorem wX11_who_0 (C : Cx p s m meth c args cX11_who 6 (some .int) RX11 D ca ad) {res : Int32 × Mm} {N : Nat}  {a0 : Nat} {a1 : Int32} {a2 : Int32} {a3 : Int32} {mm : Mm} {H : Heap} {locs : List Loc} {ls : Array Slot} (ha0 : sX11 a0) (hW : Wd D ca ad s.heap mm H locs) (hl : lv_has ls 6 [(0, .ref (ad a0)), (1, .int a1), (2, .int a2), (3, .int a3)]) (hf : fX11_who N a0 a1 a2 a3 mm = some res) : W p l e (rmX11_who) s m args below meth c H locs 0 0 (MQ below (QI D ca ad res) args s 0 0 (AA ad)) (F0 m 0 ls []) := by
  unfold fX11_who at hf
  refine lv_aload_n C.1 C.2.1 dX11_who_0 rfl (lv_at hl 0 rfl) ?_
  refine lv_iload_n C.1 C.2.1 dX11_who_1 rfl (lv_at hl 1 rfl) ?_
  obtain ⟨x1, m2, r3, hf⟩ := bd2_s hf
  refine x_cr hW (x_runV C hW [.int a1] [] (ha0).1 (ha0).2.1 kX11.1 kvX11_rowOf q_364 (tX11_rowOf l C.2.2.2.2.2.2.1 ha0 r3) rfl rfl ⟨by decide, by decide⟩ rfl hl.1 rfl (Nat.le_of_ble_eq_true rfl) dX11_who_2) (fun H locs hW => ?_)
  refine x_astore (lv' := [(4, va_re ad x1), (0, .ref (ad a0)), (1, .int a1), (2, .int a2), (3, .int a3)]) C dX11_who_5 hl (by decide) rfl (fun ls hl => ?_)
  refine lv_aload_n C.1 C.2.1 dX11_who_7 rfl (lv_at hl 1 rfl) ?_
  refine lv_iload_n C.1 C.2.1 dX11_who_8 rfl (lv_at hl 3 rfl) ?_
  obtain ⟨x4, m5, r6, hf⟩ := bd2_s hf
  refine x_cr hW (x_runV C hW [.int a2] [] (ha0).1 (ha0).2.1 kX11.1 kvX11_rowOf q_364 (tX11_rowOf l C.2.2.2.2.2.2.1 ha0 r6) rfl rfl ⟨by decide, by decide⟩ rfl hl.1 rfl (Nat.le_of_ble_eq_true rfl) dX11_who_9) (fun H locs hW => ?_)
  refine x_astore (lv' := [(5, va_re ad x4), (4, va_re ad x1), (0, .ref (ad a0)), (1, .int a1), (2, .int a2), (3, .int a3)]) C dX11_who_12 hl (by decide) (by cases x1 <;> rfl) (fun ls hl => ?_)
  refine x_aload C dX11_who_14 (lv_at hl 1 rfl) ?_
  refine x_ifnull C (tgt := 35) dX11_who_16 (by decide) (fun n8 => ?_) (fun z7 n8 => ?_)
  · subst n8
    have hf := cs_n hf
    refine lv_iconst (v := (-1)) C.1 C.2.1 dX11_who_35 (by decide) ?_
    cases hf
    exact x_iret C hW dX11_who_36
  · subst n8
    have hf := cs_q hf
    refine x_aload C dX11_who_19 (lv_at hl 0 rfl) ?_
    refine x_ifnull C (tgt := 35) dX11_who_21 (by decide) (fun n10 => ?_) (fun z9 n10 => ?_)
    · subst n10
      have hf := cs_n hf
      refine lv_iconst (v := (-1)) C.1 C.2.1 dX11_who_35 (by decide) ?_
      cases hf
      exact x_iret C hW dX11_who_36
    · subst n10
      have hf := cs_q hf
      refine lv_aload_n C.1 C.2.1 dX11_who_24 rfl (lv_at hl 2 rfl) ?_
      refine x_getr C hW (ha0).1 (ha0).2.1 (j := 2) rfl kX11 (by decide) rfl q_310 dX11_who_25 ?_
      refine lv_iload_n C.1 C.2.1 dX11_who_28 rfl (lv_at hl 5 rfl) ?_
      obtain ⟨x11, m12, r13, hf⟩ := bd2_s hf
      refine x_cr hW (x_runV C hW [.int a3] [] (ha0.2.2.2.2.1).1 (ha0.2.2.2.2.1).2.1 kX0.1 kvX0_suitOf q_465 (tX0_suitOf l C.2.2.2.2.2.2.1 ha0.2.2.2.2.1 r13) rfl rfl ⟨by decide, by decide⟩ rfl hl.1 rfl (Nat.le_of_ble_eq_true rfl) dX11_who_29) (fun H locs hW => ?_)
      refine x_ifnonnull C (tgt := 37) dX11_who_32 (by decide) (fun n15 => ?_) (fun z14 n15 => ?_)
      · subst n15
        have hf := cs_n hf
        refine lv_iconst (v := (-1)) C.1 C.2.1 dX11_who_35 (by decide) ?_
        cases hf
        exact x_iret C hW dX11_who_36
      · subst n15
        have hf := cs_q hf
        refine lv_aload_n C.1 C.2.1 dX11_who_37 rfl (lv_at hl 2 rfl) ?_
        refine lv_aload C.1 C.2.1 dX11_who_38 (lv_at hl 1 rfl) ?_
        refine lv_iconst (v := 0) C.1 C.2.1 dX11_who_40 (by decide) ?_
        refine lv_aload C.1 C.2.1 dX11_who_41 (lv_at hl 0 rfl) ?_
        refine lv_iconst (v := 1) C.1 C.2.1 dX11_who_43 (by decide) ?_
        obtain ⟨x16, m17, r18, hf⟩ := bd2_s hf
        refine x_ci hW (x_runV C hW [.ref (ad z7), .int 0, .ref (ad z9), .int 1] [] (ha0).1 (ha0).2.1 kX11.1 kvX11_isWrong_ q_396 (tX11_isWrong_ l C.2.2.2.2.2.2.1 ha0 ((gX11_rowOf ha0 r3) z7 rfl) ((gX11_rowOf ha0 r6) z9 rfl) r18) rfl rfl ⟨by decide, by decide⟩ rfl hl.1 rfl (Nat.le_of_ble_eq_true rfl) dX11_who_44) (fun H locs hW => ?_)
        refine lv_if_eq (tgt := 53) C.1 C.2.1 dX11_who_47 (by decide) (fun c19 => ?_) (fun c19 => ?_)
        · have hf := if_t c19 hf
          refine lv_aload_n C.1 C.2.1 dX11_who_53 rfl (lv_at hl 2 rfl) ?_
          refine x_getr C hW (ha0).1 (ha0).2.1 (j := 5) rfl kX11 (by decide) rfl q_313 dX11_who_54 ?_
          refine lv_aload_n C.1 C.2.1 dX11_who_57 rfl (lv_at hl 2 rfl) ?_
          refine x_getr C hW (ha0).1 (ha0).2.1 (j := 2) rfl kX11 (by decide) rfl q_310 dX11_who_58 ?_
          refine lv_aload C.1 C.2.1 dX11_who_61 (lv_at hl 1 rfl) ?_
          refine x_getr C hW (((gX11_rowOf ha0 r3) z7 rfl)).1 (((gX11_rowOf ha0 r3) z7 rfl)).2.1 (j := 0) rfl kX6 (by decide) rfl q_299 dX11_who_63 ?_
          refine lv_aload C.1 C.2.1 dX11_who_66 (lv_at hl 0 rfl) ?_
          refine x_getr C hW (((gX11_rowOf ha0 r6) z9 rfl)).1 (((gX11_rowOf ha0 r6) z9 rfl)).2.1 (j := 0) rfl kX6 (by decide) rfl q_299 dX11_who_68 ?_
          refine lv_iconst (v := 0) C.1 C.2.1 dX11_who_71 (by decide) ?_
          obtain ⟨x20, m21, r22, hf⟩ := bd2_s hf
          refine x_cv hW (x_runV C hW [.ref (ad (fr a0 2)), .ref (ad (fr z7 0)), .ref (ad (fr z9 0)), .int 0] [] (ha0.2.2.2.2.2.2.2.1).1 (ha0.2.2.2.2.2.2.2.1).2.1 kX7.1 kvX7_weigh q_416 (tX7_weigh l C.2.2.2.2.2.2.1 ha0.2.2.2.2.2.2.2.1 ha0.2.2.2.2.1 (((gX11_rowOf ha0 r3) z7 rfl).2.2) (((gX11_rowOf ha0 r6) z9 rfl).2.2) r22) rfl rfl ⟨by decide, by decide⟩ rfl hl.1 rfl (Nat.le_of_ble_eq_true rfl) dX11_who_72) (fun H locs hW => ?_)
          refine lv_aload_n C.1 C.2.1 dX11_who_75 rfl (lv_at hl 2 rfl) ?_
          refine lv_aload_n C.1 C.2.1 dX11_who_76 rfl (lv_at hl 2 rfl) ?_
          refine x_getr C hW (ha0).1 (ha0).2.1 (j := 5) rfl kX11 (by decide) rfl q_313 dX11_who_77 ?_
          refine x_getr C hW (ha0.2.2.2.2.2.2.2.1).1 (ha0.2.2.2.2.2.2.2.1).2.1 (j := 1) rfl kX7 (by decide) rfl q_141 dX11_who_80 ?_
          refine lv_iload_n C.1 C.2.1 dX11_who_83 rfl (lv_at hl 5 rfl) ?_
          obtain ⟨g23, hf⟩ := gd_s hf
          refine x_iald C hW ha0.2.2.2.2.2.2.2.1.2.2.2.1 g23 dX11_who_84 ?_
          refine x_put C hW (ha0).1 (ha0).2.1 (j := 14) (t1 := .int) rfl kX11 (by decide) rfl rfl q_322 (by decide +kernel) rfl rfl dX11_who_85 (fun H locs hW => ?_)
          obtain ⟨m24, em24⟩ : ∃ z, z = wr m21 a0 14 (rd m21 (fr (fr a0 5) 1) a3.toNatClampNeg) := ⟨_, rfl⟩
          have hf := nm_s hf em24
          rw [← em24] at hW
          refine lv_aload_n C.1 C.2.1 dX11_who_88 rfl (lv_at hl 2 rfl) ?_
          refine x_getr C hW (ha0).1 (ha0).2.1 (j := 5) rfl kX11 (by decide) rfl q_313 dX11_who_89 ?_
          refine x_getr C hW (ha0.2.2.2.2.2.2.2.1).1 (ha0.2.2.2.2.2.2.2.1).2.1 (j := 0) rfl kX7 (by decide) rfl q_139 dX11_who_92 ?_
          refine lv_iload_n C.1 C.2.1 dX11_who_95 rfl (lv_at hl 5 rfl) ?_
          obtain ⟨g25, hf⟩ := gd_s hf
          refine x_iald C hW ha0.2.2.2.2.2.2.2.1.2.2.1 g25 dX11_who_96 ?_
          refine lv_iconst (v := 2) C.1 C.2.1 dX11_who_97 (by decide) ?_
          refine lv_icmp_ne (tgt := 106) C.1 C.2.1 dX11_who_98 (by decide) (fun c26 => ?_) (fun c26 => ?_)
          · have hf := if_f c26 hf
            refine lv_aload_n C.1 C.2.1 dX11_who_106 rfl (lv_at hl 2 rfl) ?_
            refine x_getr C hW (ha0).1 (ha0).2.1 (j := 5) rfl kX11 (by decide) rfl q_313 dX11_who_107 ?_
            refine x_getr C hW (ha0.2.2.2.2.2.2.2.1).1 (ha0.2.2.2.2.2.2.2.1).2.1 (j := 0) rfl kX7 (by decide) rfl q_139 dX11_who_110 ?_
            refine lv_iload_n C.1 C.2.1 dX11_who_113 rfl (lv_at hl 5 rfl) ?_
            obtain ⟨g27, hf⟩ := gd_s hf
            refine x_iald C hW ha0.2.2.2.2.2.2.2.1.2.2.1 g27 dX11_who_114 ?_
            cases hf
            exact x_iret C hW dX11_who_115
          · have hf := if_t c26 hf
            refine lv_bipush (v := (-9)) C.1 C.2.1 dX11_who_101 (by decide) ?_
            refine lv_goto (tgt := 115) C.1 C.2.1 dX11_who_103 (by decide) ?_
            cases hf
            exact x_iret C hW dX11_who_115
        · have hf := if_f c19 hf
          refine lv_bipush (v := (-3)) C.1 C.2.1 dX11_who_50 (by decide) ?_
          cases hf
          exact x_iret C hW dX11_who_52
set_option maxRecDepth 100000 in
set_option maxHeartbeats 4000000 in
theorem tX11_who (l : Launch) {D : va_G} {ca ad : Nat → Nat} (hi : Inj ad) {N : Nat} {a0 : Nat} {a1 : Int32} {a2 : Int32} {a3 : Int32} {mm : Mm} {res : Int32 × Mm} (ha0 : sX11 a0) (hf : fX11_who N a0 a1 a2 a3 mm = some res) : Met l yX11_who (WS yX11_who cX11_who 6 (some .int)) (rmX11_who) (va_Pc [.ref (ad a0), .int a1, .int a2, .int a3] (WB D ca ad mm)) (QI D ca ad res) 0 0 (AA ad) := by
  refine x_start hi (by decide) rfl (Nat.le_of_ble_eq_true rfl) (fun p e s m args below meth c ls C hW hl => ?_)
  exact wX11_who_0 C ha0 hW (lv_sub hl [0, 1, 2, 3] rfl) hf
set_option maxRecDepth 100000 in
set_option maxHeartbeats 4000000 in
theorem wX11_isWrong_0 (C : Cx p s m meth c args cX11_isWrong 3 (some .boolean) RX11 D ca ad) {res : Int32 × Mm} {N : Nat}  {a0 : Nat} {a1 : Nat} {a2 : Int32} {mm : Mm} {H : Heap} {locs : List Loc} {ls : Array Slot} (ha0 : sX11 a0) (ha1 : sX6 a1) (hW : Wd D ca ad s.heap mm H locs) (hl : lv_has ls 3 [(0, .ref (ad a0)), (1, .ref (ad a1)), (2, .int a2)]) (hf : fX11_isWrong N a0 a1 a2 mm = some res) : W p l e (rmX11_isWrong) s m args below meth c H locs 0 0 (MQ below (QI D ca ad res) args s 0 0 (AA ad)) (F0 m 0 ls []) := by
  unfold fX11_isWrong at hf
  refine lv_aload_n C.1 C.2.1 dX11_isWrong_0 rfl (lv_at hl 0 rfl) ?_
  refine lv_aload_n C.1 C.2.1 dX11_isWrong_1 rfl (lv_at hl 1 rfl) ?_
  refine lv_iload_n C.1 C.2.1 dX11_isWrong_2 rfl (lv_at hl 2 rfl) ?_
  refine lv_aload_n C.1 C.2.1 dX11_isWrong_3 rfl (lv_at hl 1 rfl) ?_
  refine lv_iload_n C.1 C.2.1 dX11_isWrong_4 rfl (lv_at hl 2 rfl) ?_
  obtain ⟨x1, m2, r3, hf⟩ := bd2_s hf
  refine x_ci hW (x_runV C hW [.ref (ad a1), .int a2, .ref (ad a1), .int a2] [] (ha0).1 (ha0).2.1 kX11.1 kvX11_isWrong_ q_396 (tX11_isWrong_ l C.2.2.2.2.2.2.1 ha0 ha1 ha1 r3) rfl rfl ⟨by decide, by decide⟩ rfl hl.1 rfl (Nat.le_of_ble_eq_true rfl) dX11_isWrong_5) (fun H locs hW => ?_)
  obtain ⟨g4, hf⟩ := gd_s hf
  cases hf
  exact x_zret C hW (of_decide_eq_true g4) dX11_isWrong_8
set_option maxRecDepth 100000 in
set_option maxHeartbeats 4000000 in
theorem tX11_isWrong (l : Launch) {D : va_G} {ca ad : Nat → Nat} (hi : Inj ad) {N : Nat} {a0 : Nat} {a1 : Nat} {a2 : Int32} {mm : Mm} {res : Int32 × Mm} (ha0 : sX11 a0) (ha1 : sX6 a1) (hf : fX11_isWrong N a0 a1 a2 mm = some res) : Met l yX11_isWrong (WS yX11_isWrong cX11_isWrong 3 (some .boolean)) (rmX11_isWrong) (va_Pc [.ref (ad a0), .ref (ad a1), .int a2] (WB D ca ad mm)) (QI D ca ad res) 0 0 (AA ad) := by
  refine x_start hi (by decide) rfl (Nat.le_of_ble_eq_true rfl) (fun p e s m args below meth c ls C hW hl => ?_)
  exact wX11_isWrong_0 C ha0 ha1 hW (lv_sub hl [0, 1, 2] rfl) hf
set_option maxRecDepth 100000 in
set_option maxHeartbeats 4000000 in
theorem wX11_best_0 (C : Cx p s m meth c args cX11_best 5 (some .int) RX11 D ca ad) {res : Int32 × Mm} {N : Nat}  {a0 : Nat} {a1 : Int32} {a2 : Int32} {mm : Mm} {H : Heap} {locs : List Loc} {ls : Array Slot} (ha0 : sX11 a0) (hW : Wd D ca ad s.heap mm H locs) (hl : lv_has ls 5 [(0, .ref (ad a0)), (1, .int a1), (2, .int a2)]) (hf : fX11_best N a0 a1 a2 mm = some res) : W p l e (rmX11_best) s m args below meth c H locs 0 0 (MQ below (QI D ca ad res) args s 0 0 (AA ad)) (F0 m 0 ls []) := by
  unfold fX11_best at hf
  refine lv_aload_n C.1 C.2.1 dX11_best_0 rfl (lv_at hl 0 rfl) ?_
  refine lv_iload_n C.1 C.2.1 dX11_best_1 rfl (lv_at hl 1 rfl) ?_
  obtain ⟨x1, m2, r3, hf⟩ := bd2_s hf
  refine x_cr hW (x_runV C hW [.int a1] [] (ha0).1 (ha0).2.1 kX11.1 kvX11_rowOf q_364 (tX11_rowOf l C.2.2.2.2.2.2.1 ha0 r3) rfl rfl ⟨by decide, by decide⟩ rfl hl.1 rfl (Nat.le_of_ble_eq_true rfl) dX11_best_2) (fun H locs hW => ?_)
  refine x_astore_n (lv' := [(3, va_re ad x1), (0, .ref (ad a0)), (1, .int a1), (2, .int a2)]) C dX11_best_5 rfl hl (by decide) rfl (fun ls hl => ?_)
  refine lv_aload_n C.1 C.2.1 dX11_best_6 rfl (lv_at hl 1 rfl) ?_
  refine lv_iload_n C.1 C.2.1 dX11_best_7 rfl (lv_at hl 3 rfl) ?_
  obtain ⟨x4, m5, r6, hf⟩ := bd2_s hf
  refine x_cr hW (x_runV C hW [.int a2] [] (ha0).1 (ha0).2.1 kX11.1 kvX11_rowOf q_364 (tX11_rowOf l C.2.2.2.2.2.2.1 ha0 r6) rfl rfl ⟨by decide, by decide⟩ rfl hl.1 rfl (Nat.le_of_ble_eq_true rfl) dX11_best_8) (fun H locs hW => ?_)
  refine x_astore (lv' := [(4, va_re ad x4), (3, va_re ad x1), (0, .ref (ad a0)), (1, .int a1), (2, .int a2)]) C dX11_best_11 hl (by decide) (by cases x1 <;> rfl) (fun ls hl => ?_)
  refine x_aload_n C dX11_best_13 rfl (lv_at hl 1 rfl) ?_
  refine x_ifnull C (tgt := 22) dX11_best_14 (by decide) (fun n8 => ?_) (fun z7 n8 => ?_)
  · subst n8
    have hf := cs_n hf
    refine lv_iconst (v := (-1)) C.1 C.2.1 dX11_best_22 (by decide) ?_
    cases hf
    exact x_iret C hW dX11_best_23
  · subst n8
    have hf := cs_q hf
    refine x_aload C dX11_best_17 (lv_at hl 0 rfl) ?_
    refine x_ifnonnull C (tgt := 24) dX11_best_19 (by decide) (fun n10 => ?_) (fun z9 n10 => ?_)
    · subst n10
      have hf := cs_n hf
      refine lv_iconst (v := (-1)) C.1 C.2.1 dX11_best_22 (by decide) ?_
      cases hf
      exact x_iret C hW dX11_best_23
    · subst n10
      have hf := cs_q hf
      refine lv_aload_n C.1 C.2.1 dX11_best_24 rfl (lv_at hl 2 rfl) ?_
      refine lv_aload_n C.1 C.2.1 dX11_best_25 rfl (lv_at hl 1 rfl) ?_
      refine lv_iconst (v := 1) C.1 C.2.1 dX11_best_26 (by decide) ?_
      obtain ⟨x11, m12, r13, hf⟩ := bd2_s hf
      refine x_ci hW (x_runV C hW [.ref (ad z7), .int 1] [] (ha0).1 (ha0).2.1 kX11.1 kvX11_isWrong q_470 (tX11_isWrong l C.2.2.2.2.2.2.1 ha0 ((gX11_rowOf ha0 r3) z7 rfl) r13) rfl rfl ⟨by decide, by decide⟩ rfl hl.1 rfl (Nat.le_of_ble_eq_true rfl) dX11_best_27) (fun H locs hW => ?_)
      refine lv_if_eq (tgt := 36) C.1 C.2.1 dX11_best_30 (by decide) (fun c14 => ?_) (fun c14 => ?_)
      · have hf := if_t c14 hf
        refine lv_aload_n C.1 C.2.1 dX11_best_36 rfl (lv_at hl 2 rfl) ?_
        refine x_getr C hW (ha0).1 (ha0).2.1 (j := 7) rfl kX11 (by decide) rfl q_315 dX11_best_37 ?_
        refine lv_aload_n C.1 C.2.1 dX11_best_40 rfl (lv_at hl 2 rfl) ?_
        refine x_getr C hW (ha0).1 (ha0).2.1 (j := 2) rfl kX11 (by decide) rfl q_310 dX11_best_41 ?_
        refine lv_aload_n C.1 C.2.1 dX11_best_44 rfl (lv_at hl 2 rfl) ?_
        refine x_getr C hW (ha0).1 (ha0).2.1 (j := 2) rfl kX11 (by decide) rfl q_310 dX11_best_45 ?_
        refine x_geti C hW (ha0.2.2.2.2.1).1 (ha0.2.2.2.2.1).2.1 (j := 6) rfl kX0 (by decide) rfl q_77 dX11_best_48 ?_
        refine lv_aload_n C.1 C.2.1 dX11_best_51 rfl (lv_at hl 1 rfl) ?_
        refine x_getr C hW (((gX11_rowOf ha0 r3) z7 rfl)).1 (((gX11_rowOf ha0 r3) z7 rfl)).2.1 (j := 0) rfl kX6 (by decide) rfl q_299 dX11_best_52 ?_
        refine lv_aload_n C.1 C.2.1 dX11_best_55 rfl (lv_at hl 2 rfl) ?_
        refine x_getr C hW (ha0).1 (ha0).2.1 (j := 2) rfl kX11 (by decide) rfl q_310 dX11_best_56 ?_
        refine x_getr C hW (ha0.2.2.2.2.1).1 (ha0.2.2.2.2.1).2.1 (j := 1) rfl kX0 (by decide) rfl q_62 dX11_best_59 ?_
        refine lv_iconst (v := 0) C.1 C.2.1 dX11_best_62 (by decide) ?_
        obtain ⟨g15, hf⟩ := gd_s hf
        refine x_iald C hW ha0.2.2.2.2.1.2.2.2.1 g15 dX11_best_63 ?_
        obtain ⟨x16, m17, r18, hf⟩ := bd2_s hf
        refine x_cv hW (x_runV C hW [.ref (ad (fr a0 2)), .int (rd m12 (fr a0 2) 6), .ref (ad (fr z7 0)), .int (rd m12 (fr (fr a0 2) 1) ((0 : Int32).toNatClampNeg))] [] (ha0.2.2.2.2.2.2.2.2.2.1).1 (ha0.2.2.2.2.2.2.2.2.2.1).2.1 kX8.1 kvX8_run q_474 (tX8_run l C.2.2.2.2.2.2.1 ha0.2.2.2.2.2.2.2.2.2.1 ha0.2.2.2.2.1 (((gX11_rowOf ha0 r3) z7 rfl).2.2) r18) rfl rfl ⟨by decide, by decide⟩ rfl hl.1 rfl (Nat.le_of_ble_eq_true rfl) dX11_best_64) (fun H locs hW => ?_)
        refine lv_aload C.1 C.2.1 dX11_best_67 (lv_at hl 0 rfl) ?_
        refine lv_aload_n C.1 C.2.1 dX11_best_69 rfl (lv_at hl 2 rfl) ?_
        refine x_getr C hW (ha0).1 (ha0).2.1 (j := 7) rfl kX11 (by decide) rfl q_315 dX11_best_70 ?_
        refine x_getr C hW (ha0.2.2.2.2.2.2.2.2.2.1).1 (ha0.2.2.2.2.2.2.2.2.2.1).2.1 (j := 0) rfl kX8 (by decide) rfl q_182 dX11_best_73 ?_
        refine lv_aload_n C.1 C.2.1 dX11_best_76 rfl (lv_at hl 2 rfl) ?_
        refine x_getr C hW (ha0).1 (ha0).2.1 (j := 2) rfl kX11 (by decide) rfl q_310 dX11_best_77 ?_
        refine x_geti C hW (ha0.2.2.2.2.1).1 (ha0.2.2.2.2.1).2.1 (j := 5) rfl kX0 (by decide) rfl q_72 dX11_best_80 ?_
        obtain ⟨x19, m20, r21, hf⟩ := bd2_s hf
        refine x_cv hW (x_runV C hW [.ref (ad (fr (fr a0 7) 0)), .int (rd m17 (fr a0 2) 5)] [] (((gX11_rowOf ha0 r6) z9 rfl)).1 (((gX11_rowOf ha0 r6) z9 rfl)).2.1 kX6.1 kvX6_take q_513 (tX6_take l C.2.2.2.2.2.2.1 ((gX11_rowOf ha0 r6) z9 rfl) ha0.2.2.2.2.2.2.2.2.2.1.2.2.1 r21) rfl rfl ⟨by decide, by decide⟩ rfl hl.1 rfl (Nat.le_of_ble_eq_true rfl) dX11_best_83) (fun H locs hW => ?_)
        refine lv_aload_n C.1 C.2.1 dX11_best_86 rfl (lv_at hl 2 rfl) ?_
        refine lv_aload_n C.1 C.2.1 dX11_best_87 rfl (lv_at hl 2 rfl) ?_
        refine x_getr C hW (ha0).1 (ha0).2.1 (j := 7) rfl kX11 (by decide) rfl q_315 dX11_best_88 ?_
        refine x_geti C hW (ha0.2.2.2.2.2.2.2.2.2.1).1 (ha0.2.2.2.2.2.2.2.2.2.1).2.1 (j := 2) rfl kX8 (by decide) rfl q_186 dX11_best_91 ?_
        refine x_put C hW (ha0).1 (ha0).2.1 (j := 14) (t1 := .int) rfl kX11 (by decide) rfl rfl q_322 (by decide +kernel) rfl rfl dX11_best_94 (fun H locs hW => ?_)
        obtain ⟨m22, em22⟩ : ∃ z, z = wr m20 a0 14 (rd m20 (fr a0 7) 2) := ⟨_, rfl⟩
        have hf := nm_s hf em22
        rw [← em22] at hW
        refine lv_aload_n C.1 C.2.1 dX11_best_97 rfl (lv_at hl 2 rfl) ?_
        refine x_getr C hW (ha0).1 (ha0).2.1 (j := 7) rfl kX11 (by decide) rfl q_315 dX11_best_98 ?_
        refine x_geti C hW (ha0.2.2.2.2.2.2.2.2.2.1).1 (ha0.2.2.2.2.2.2.2.2.2.1).2.1 (j := 1) rfl kX8 (by decide) rfl q_184 dX11_best_101 ?_
        cases hf
        exact x_iret C hW dX11_best_104
      · have hf := if_f c14 hf
        refine lv_bipush (v := (-3)) C.1 C.2.1 dX11_best_33 (by decide) ?_
        cases hf
        exact x_iret C hW dX11_best_35
set_option maxRecDepth 100000 in
set_option maxHeartbeats 4000000 in
theorem tX11_best (l : Launch) {D : va_G} {ca ad : Nat → Nat} (hi : Inj ad) {N : Nat} {a0 : Nat} {a1 : Int32} {a2 : Int32} {mm : Mm} {res : Int32 × Mm} (ha0 : sX11 a0) (hf : fX11_best N a0 a1 a2 mm = some res) : Met l yX11_best (WS yX11_best cX11_best 5 (some .int)) (rmX11_best) (va_Pc [.ref (ad a0), .int a1, .int a2] (WB D ca ad mm)) (QI D ca ad res) 0 0 (AA ad) := by
  refine x_start hi (by decide) rfl (Nat.le_of_ble_eq_true rfl) (fun p e s m args below meth c ls C hW hl => ?_)
  exact wX11_best_0 C ha0 hW (lv_sub hl [0, 1, 2] rfl) hf
set_option maxRecDepth 100000 in
set_option maxHeartbeats 4000000 in
theorem wX11_fewest_0 (C : Cx p s m meth c args cX11_fewest 5 (some .int) RX11 D ca ad) {res : Int32 × Mm} {N : Nat}  {a0 : Nat} {a1 : Int32} {a2 : Int32} {mm : Mm} {H : Heap} {locs : List Loc} {ls : Array Slot} (ha0 : sX11 a0) (hW : Wd D ca ad s.heap mm H locs) (hl : lv_has ls 5 [(0, .ref (ad a0)), (1, .int a1), (2, .int a2)]) (hf : fX11_fewest N a0 a1 a2 mm = some res) : W p l e (rmX11_fewest) s m args below meth c H locs 0 0 (MQ below (QI D ca ad res) args s 0 0 (AA ad)) (F0 m 0 ls []) := by
  unfold fX11_fewest at hf
  refine lv_aload_n C.1 C.2.1 dX11_fewest_0 rfl (lv_at hl 0 rfl) ?_
  refine lv_iload_n C.1 C.2.1 dX11_fewest_1 rfl (lv_at hl 1 rfl) ?_
  obtain ⟨x1, m2, r3, hf⟩ := bd2_s hf
  refine x_cr hW (x_runV C hW [.int a1] [] (ha0).1 (ha0).2.1 kX11.1 kvX11_rowOf q_364 (tX11_rowOf l C.2.2.2.2.2.2.1 ha0 r3) rfl rfl ⟨by decide, by decide⟩ rfl hl.1 rfl (Nat.le_of_ble_eq_true rfl) dX11_fewest_2) (fun H locs hW => ?_)
  refine x_astore_n (lv' := [(3, va_re ad x1), (0, .ref (ad a0)), (1, .int a1), (2, .int a2)]) C dX11_fewest_5 rfl hl (by decide) rfl (fun ls hl => ?_)
  refine x_aload_n C dX11_fewest_6 rfl (lv_at hl 0 rfl) ?_
  refine x_ifnull C (tgt := 20) dX11_fewest_7 (by decide) (fun n5 => ?_) (fun z4 n5 => ?_)
  · subst n5
    have hf := cs_n hf
    refine lv_iconst (v := (-1)) C.1 C.2.1 dX11_fewest_20 (by decide) ?_
    cases hf
    exact x_iret C hW dX11_fewest_21
  · subst n5
    have hf := cs_q hf
    refine lv_iload_n C.1 C.2.1 dX11_fewest_10 rfl (lv_at hl 3 rfl) ?_
    refine lv_if_lt (tgt := 20) C.1 C.2.1 dX11_fewest_11 (by decide) (fun c6 => ?_) (fun c6 => ?_)
    · have hf := if_t c6 hf
      refine lv_iconst (v := (-1)) C.1 C.2.1 dX11_fewest_20 (by decide) ?_
      cases hf
      exact x_iret C hW dX11_fewest_21
    · have hf := if_f c6 hf
      refine lv_iload_n C.1 C.2.1 dX11_fewest_14 rfl (lv_at hl 3 rfl) ?_
      refine lv_bipush (v := 108) C.1 C.2.1 dX11_fewest_15 (by decide) ?_
      refine lv_icmp_le (tgt := 22) C.1 C.2.1 dX11_fewest_17 (by decide) (fun c7 => ?_) (fun c7 => ?_)
      · have hf := if_t c7 hf
        refine lv_aload_n C.1 C.2.1 dX11_fewest_22 rfl (lv_at hl 1 rfl) ?_
        refine lv_aload_n C.1 C.2.1 dX11_fewest_23 rfl (lv_at hl 0 rfl) ?_
        refine lv_iconst (v := 1) C.1 C.2.1 dX11_fewest_24 (by decide) ?_
        obtain ⟨x8, m9, r10, hf⟩ := bd2_s hf
        refine x_ci hW (x_runV C hW [.ref (ad z4), .int 1] [] (ha0).1 (ha0).2.1 kX11.1 kvX11_isWrong q_470 (tX11_isWrong l C.2.2.2.2.2.2.1 ha0 ((gX11_rowOf ha0 r3) z4 rfl) r10) rfl rfl ⟨by decide, by decide⟩ rfl hl.1 rfl (Nat.le_of_ble_eq_true rfl) dX11_fewest_25) (fun H locs hW => ?_)
        refine lv_if_eq (tgt := 34) C.1 C.2.1 dX11_fewest_28 (by decide) (fun c11 => ?_) (fun c11 => ?_)
        · have hf := if_t c11 hf
          refine lv_aload_n C.1 C.2.1 dX11_fewest_34 rfl (lv_at hl 1 rfl) ?_
          refine x_getr C hW (ha0).1 (ha0).2.1 (j := 7) rfl kX11 (by decide) rfl q_315 dX11_fewest_35 ?_
          refine lv_aload_n C.1 C.2.1 dX11_fewest_38 rfl (lv_at hl 1 rfl) ?_
          refine x_getr C hW (ha0).1 (ha0).2.1 (j := 2) rfl kX11 (by decide) rfl q_310 dX11_fewest_39 ?_
          refine lv_aload_n C.1 C.2.1 dX11_fewest_42 rfl (lv_at hl 1 rfl) ?_
          refine x_getr C hW (ha0).1 (ha0).2.1 (j := 2) rfl kX11 (by decide) rfl q_310 dX11_fewest_43 ?_
          refine x_geti C hW (ha0.2.2.2.2.1).1 (ha0.2.2.2.2.1).2.1 (j := 6) rfl kX0 (by decide) rfl q_77 dX11_fewest_46 ?_
          refine lv_aload_n C.1 C.2.1 dX11_fewest_49 rfl (lv_at hl 0 rfl) ?_
          refine x_getr C hW (((gX11_rowOf ha0 r3) z4 rfl)).1 (((gX11_rowOf ha0 r3) z4 rfl)).2.1 (j := 0) rfl kX6 (by decide) rfl q_299 dX11_fewest_50 ?_
          refine lv_sipush (v := 240) C.1 C.2.1 dX11_fewest_53 (by decide) ?_
          obtain ⟨x12, m13, r14, hf⟩ := bd2_s hf
          refine x_cv hW (x_runV C hW [.ref (ad (fr a0 2)), .int (rd m9 (fr a0 2) 6), .ref (ad (fr z4 0)), .int 240] [] (ha0.2.2.2.2.2.2.2.2.2.1).1 (ha0.2.2.2.2.2.2.2.2.2.1).2.1 kX8.1 kvX8_run q_474 (tX8_run l C.2.2.2.2.2.2.1 ha0.2.2.2.2.2.2.2.2.2.1 ha0.2.2.2.2.1 (((gX11_rowOf ha0 r3) z4 rfl).2.2) r14) rfl rfl ⟨by decide, by decide⟩ rfl hl.1 rfl (Nat.le_of_ble_eq_true rfl) dX11_fewest_56) (fun H locs hW => ?_)
          refine lv_aload_n C.1 C.2.1 dX11_fewest_59 rfl (lv_at hl 1 rfl) ?_
          refine x_getr C hW (ha0).1 (ha0).2.1 (j := 7) rfl kX11 (by decide) rfl q_315 dX11_fewest_60 ?_
          refine lv_iload_n C.1 C.2.1 dX11_fewest_63 rfl (lv_at hl 3 rfl) ?_
          obtain ⟨x15, m16, r17, hf⟩ := bd2_s hf
          refine x_ci hW (x_runV C hW [.int a2] [] (ha0.2.2.2.2.2.2.2.2.2.1).1 (ha0.2.2.2.2.2.2.2.2.2.1).2.1 kX8.1 kvX8_fewestFor q_524 (tX8_fewestFor l C.2.2.2.2.2.2.1 ha0.2.2.2.2.2.2.2.2.2.1 r17) rfl rfl ⟨by decide, by decide⟩ rfl hl.1 rfl (Nat.le_of_ble_eq_true rfl) dX11_fewest_64) (fun H locs hW => ?_)
          refine lv_istore (lv' := [(4, .int x15), (3, .ref (ad z4)), (0, .ref (ad a0)), (1, .int a1), (2, .int a2)]) C.1 C.2.1 dX11_fewest_67 hl (by decide) rfl (fun ls hl => ?_)
          refine lv_iload C.1 C.2.1 dX11_fewest_69 (lv_at hl 0 rfl) ?_
          refine lv_bipush (v := (-9)) C.1 C.2.1 dX11_fewest_71 (by decide) ?_
          refine lv_icmp_eq (tgt := 89) C.1 C.2.1 dX11_fewest_73 (by decide) (fun c18 => ?_) (fun c18 => ?_)
          · have hf := if_t c18 hf
            refine lv_iload C.1 C.2.1 dX11_fewest_89 (lv_at hl 0 rfl) ?_
            cases hf
            exact x_iret C hW dX11_fewest_91
          · have hf := if_f c18 hf
            refine lv_aload_n C.1 C.2.1 dX11_fewest_76 rfl (lv_at hl 2 rfl) ?_
            refine lv_aload_n C.1 C.2.1 dX11_fewest_77 rfl (lv_at hl 2 rfl) ?_
            refine x_getr C hW (ha0).1 (ha0).2.1 (j := 7) rfl kX11 (by decide) rfl q_315 dX11_fewest_78 ?_
            refine lv_iload C.1 C.2.1 dX11_fewest_81 (lv_at hl 0 rfl) ?_
            obtain ⟨x19, m20, r21, hf⟩ := bd2_s hf
            refine x_ci hW (x_runV C hW [.int x15] [.ref (ad a0)] (ha0.2.2.2.2.2.2.2.2.2.1).1 (ha0.2.2.2.2.2.2.2.2.2.1).2.1 kX8.1 kvX8_mostBy q_528 (tX8_mostBy l C.2.2.2.2.2.2.1 ha0.2.2.2.2.2.2.2.2.2.1 r21) rfl rfl ⟨by decide, by decide⟩ rfl hl.1 rfl (Nat.le_of_ble_eq_true rfl) dX11_fewest_83) (fun H locs hW => ?_)
            refine x_put C hW (ha0).1 (ha0).2.1 (j := 14) (t1 := .int) rfl kX11 (by decide) rfl rfl q_322 (by decide +kernel) rfl rfl dX11_fewest_86 (fun H locs hW => ?_)
            obtain ⟨m22, em22⟩ : ∃ z, z = wr m20 a0 14 x19 := ⟨_, rfl⟩
            have hf := nm_s hf em22
            rw [← em22] at hW
            refine lv_iload C.1 C.2.1 dX11_fewest_89 (lv_at hl 0 rfl) ?_
            cases hf
            exact x_iret C hW dX11_fewest_91
        · have hf := if_f c11 hf
          refine lv_bipush (v := (-3)) C.1 C.2.1 dX11_fewest_31 (by decide) ?_
          cases hf
          exact x_iret C hW dX11_fewest_33
      · have hf := if_f c7 hf
        refine lv_iconst (v := (-1)) C.1 C.2.1 dX11_fewest_20 (by decide) ?_
        cases hf
        exact x_iret C hW dX11_fewest_21
set_option maxRecDepth 100000 in
set_option maxHeartbeats 4000000 in
theorem tX11_fewest (l : Launch) {D : va_G} {ca ad : Nat → Nat} (hi : Inj ad) {N : Nat} {a0 : Nat} {a1 : Int32} {a2 : Int32} {mm : Mm} {res : Int32 × Mm} (ha0 : sX11 a0) (hf : fX11_fewest N a0 a1 a2 mm = some res) : Met l yX11_fewest (WS yX11_fewest cX11_fewest 5 (some .int)) (rmX11_fewest) (va_Pc [.ref (ad a0), .int a1, .int a2] (WB D ca ad mm)) (QI D ca ad res) 0 0 (AA ad) := by
  refine x_start hi (by decide) rfl (Nat.le_of_ble_eq_true rfl) (fun p e s m args below meth c ls C hW hl => ?_)
  exact wX11_fewest_0 C ha0 hW (lv_sub hl [0, 1, 2] rfl) hf
set_option maxRecDepth 100000 in
set_option maxHeartbeats 4000000 in
theorem wX11_fraction_47 (C : Cx p s m meth c args cX11_fraction 12 none RX11 D ca ad) {res : Unit × Mm} {N : Nat}  {a0 : Nat} {a1 : Int64} {a3 : Int64} {a5 : Int64} {mm : Mm} {H : Heap} {locs : List Loc} {ls : Array Slot} (ha0 : sX11 a0) (hW : Wd D ca ad s.heap mm H locs) (hl : lv_has ls 12 [(0, .ref (ad a0)), (1, .long a1), (3, .long a3), (5, .long a5)]) (hf : fX11_fraction_47 N a0 a1 a3 a5 mm = some res) : W p l e (rmX11_fraction) s m args below meth c H locs 0 0 (MQ below (QV D ca ad res) args s 0 0 (AA ad)) (F0 m 47 ls []) := by
  unfold fX11_fraction_47 at hf
  refine lv_lload C.1 C.2.1 dX11_fraction_47 (lv_at hl 3 rfl) ?_
  refine lv_lconst (v := 0) C.1 C.2.1 dX11_fraction_49 (by decide) ?_
  refine W.lcmp C.1 C.2.1 dX11_fraction_50 ?_
  refine lv_if_le (tgt := 70) C.1 C.2.1 dX11_fraction_51 (by decide) (fun c1 => ?_) (fun c1 => ?_)
  · have hf := if_t c1 hf
    cases hf
    exact x_vret C hW dX11_fraction_70
  · have hf := if_f c1 hf
    refine lv_aload_n C.1 C.2.1 dX11_fraction_54 rfl (lv_at hl 0 rfl) ?_
    refine lv_lload_n C.1 C.2.1 dX11_fraction_55 rfl (lv_at hl 1 rfl) ?_
    refine lv_lload C.1 C.2.1 dX11_fraction_56 (lv_at hl 3 rfl) ?_
    obtain ⟨g2, hf⟩ := gd_s hf
    refine lv_ldiv C.1 C.2.1 dX11_fraction_58 (of_decide_eq_true g2) ?_
    refine x_putL C hW (ha0).1 (ha0).2.1 (j := 15) rfl kX11 (by decide) rfl rfl q_323 (by decide +kernel) dX11_fraction_59 (fun H locs hW => ?_)
    obtain ⟨m3, em3⟩ : ∃ z, z = wrL mm a0 15 (a1 / a5) := ⟨_, rfl⟩
    have hf := nm_s hf em3
    rw [← em3] at hW
    refine lv_aload_n C.1 C.2.1 dX11_fraction_62 rfl (lv_at hl 0 rfl) ?_
    refine lv_lload_n C.1 C.2.1 dX11_fraction_63 rfl (lv_at hl 2 rfl) ?_
    refine lv_lload C.1 C.2.1 dX11_fraction_64 (lv_at hl 3 rfl) ?_
    obtain ⟨g4, hf⟩ := gd_s hf
    refine lv_ldiv C.1 C.2.1 dX11_fraction_66 (of_decide_eq_true g4) ?_
    refine x_putL C hW (ha0).1 (ha0).2.1 (j := 16) rfl kX11 (by decide) rfl rfl q_324 (by decide +kernel) dX11_fraction_67 (fun H locs hW => ?_)
    obtain ⟨m5, em5⟩ : ∃ z, z = wrL m3 a0 16 (a3 / a5) := ⟨_, rfl⟩
    have hf := nm_s hf em5
    rw [← em5] at hW
    cases hf
    exact x_vret C hW dX11_fraction_70
set_option maxRecDepth 100000 in
set_option maxHeartbeats 4000000 in
theorem wX11_fraction_12 (C : Cx p s m meth c args cX11_fraction 12 none RX11 D ca ad) {res : Unit × Mm} {N : Nat}  : ∀ (n : Nat) {a0 : Nat} {a1 : Int64} {a3 : Int64} {a5 : Int64} {a7 : Int64} {a9 : Int32} {mm : Mm} {H : Heap} {locs : List Loc} {ls : Array Slot}, (sX11 a0) → Wd D ca ad s.heap mm H locs → lv_has ls 12 [(0, .ref (ad a0)), (1, .long a1), (3, .long a3), (5, .long a5), (7, .long a7), (9, .int a9)] → fX11_fraction_12 N n a0 a1 a3 a5 a7 a9 mm = some res → W p l e (rmX11_fraction) s m args below meth c H locs 0 0 (MQ below (QV D ca ad res) args s 0 0 (AA ad)) (F0 m 12 ls []) := by
  intro n
  induction n with
  | zero => intro a0 a1 a3 a5 a7 a9 mm H locs ls ha0 hW hl hf; cases hf
  | succ n ih =>
    intro a0 a1 a3 a5 a7 a9 mm H locs ls ha0 hW hl hf
    have hk12 : ∀ (a0 : Nat) (a1 : Int64) (a3 : Int64) (a5 : Int64) (a7 : Int64) (a9 : Int32) (mm : Mm) (H : Heap) (locs : List Loc) (ls : Array Slot), (sX11 a0) → Wd D ca ad s.heap mm H locs → lv_has ls 12 [(0, .ref (ad a0)), (1, .long a1), (3, .long a3), (5, .long a5), (7, .long a7), (9, .int a9)] → (fX11_fraction_12 N n) a0 a1 a3 a5 a7 a9 mm = some res → W p l e (rmX11_fraction) s m args below meth c H locs 0 0 (MQ below (QV D ca ad res) args s 0 0 (AA ad)) (F0 m 12 ls []) := fun a0 a1 a3 a5 a7 a9 mm H locs ls ha0 hW hl hf => ih ha0 hW hl hf
    unfold fX11_fraction_12 at hf
    try dsimp only at hf
    refine lv_lload C.1 C.2.1 dX11_fraction_12 (lv_at hl 4 rfl) ?_
    refine lv_lconst (v := 0) C.1 C.2.1 dX11_fraction_14 (by decide) ?_
    refine W.lcmp C.1 C.2.1 dX11_fraction_15 ?_
    refine lv_if_eq (tgt := 47) C.1 C.2.1 dX11_fraction_16 (by decide) (fun c6 => ?_) (fun c6 => ?_)
    · have hf := if_t c6 hf
      exact wX11_fraction_47 C  ha0 hW (lv_sub hl [0, 1, 2, 3] rfl) hf
    · have hf := if_f c6 hf
      refine lv_iload C.1 C.2.1 dX11_fraction_19 (lv_at hl 5 rfl) ?_
      refine lv_ldc C.1 C.2.1 C.2.2.2.1 (C.2.2.2.2.1 _ q_543) dX11_fraction_21 ?_
      refine lv_icmp_ge (tgt := 47) C.1 C.2.1 dX11_fraction_23 (by decide) (fun c7 => ?_) (fun c7 => ?_)
      · have hf := if_t c7 hf
        exact wX11_fraction_47 C  ha0 hW (lv_sub hl [0, 1, 2, 3] rfl) hf
      · have hf := if_f c7 hf
        refine lv_lload C.1 C.2.1 dX11_fraction_26 (lv_at hl 3 rfl) ?_
        refine lv_lload C.1 C.2.1 dX11_fraction_28 (lv_at hl 4 rfl) ?_
        obtain ⟨g8, hf⟩ := gd_s hf
        refine lv_lrem C.1 C.2.1 dX11_fraction_30 (of_decide_eq_true g8) ?_
        refine lv_lstore (lv' := [(10, .long (a5 - a5 / a7 * a7)), (0, .ref (ad a0)), (1, .long a1), (3, .long a3), (5, .long a5), (7, .long a7), (9, .int a9)]) C.1 C.2.1 dX11_fraction_31 hl (by decide) rfl (fun ls hl => ?_)
        refine lv_lload C.1 C.2.1 dX11_fraction_33 (lv_at hl 5 rfl) ?_
        refine lv_lstore (lv' := [(5, .long a7), (10, .long (a5 - a5 / a7 * a7)), (0, .ref (ad a0)), (1, .long a1), (3, .long a3), (7, .long a7), (9, .int a9)]) C.1 C.2.1 dX11_fraction_35 hl (by decide) rfl (fun ls hl => ?_)
        refine lv_lload C.1 C.2.1 dX11_fraction_37 (lv_at hl 1 rfl) ?_
        refine lv_lstore (lv' := [(7, .long (a5 - a5 / a7 * a7)), (5, .long a7), (10, .long (a5 - a5 / a7 * a7)), (0, .ref (ad a0)), (1, .long a1), (3, .long a3), (9, .int a9)]) C.1 C.2.1 dX11_fraction_39 hl (by decide) rfl (fun ls hl => ?_)
        refine lv_iinc (v := (a9 + 1)) (lv' := [(9, .int (a9 + 1)), (7, .long (a5 - a5 / a7 * a7)), (5, .long a7), (10, .long (a5 - a5 / a7 * a7)), (0, .ref (ad a0)), (1, .long a1), (3, .long a3)]) C.1 C.2.1 dX11_fraction_41 hl (k := 6) rfl rfl (by decide) rfl (fun ls hl => ?_)
        refine lv_goto (tgt := 12) C.1 C.2.1 dX11_fraction_44 (by decide) ?_
        exact hk12 _ _ _ _ _ _ _ _ _ _ ha0 hW (lv_sub hl [4, 5, 6, 2, 1, 0] rfl) hf
set_option maxRecDepth 100000 in
set_option maxHeartbeats 4000000 in
theorem wX11_fraction_0 (C : Cx p s m meth c args cX11_fraction 12 none RX11 D ca ad) {res : Unit × Mm} {N : Nat}  {a0 : Nat} {a1 : Int64} {a3 : Int64} {mm : Mm} {H : Heap} {locs : List Loc} {ls : Array Slot} (ha0 : sX11 a0) (hW : Wd D ca ad s.heap mm H locs) (hl : lv_has ls 12 [(0, .ref (ad a0)), (1, .long a1), (3, .long a3)]) (hf : fX11_fraction N a0 a1 a3 mm = some res) : W p l e (rmX11_fraction) s m args below meth c H locs 0 0 (MQ below (QV D ca ad res) args s 0 0 (AA ad)) (F0 m 0 ls []) := by
  unfold fX11_fraction at hf
  refine lv_lload_n C.1 C.2.1 dX11_fraction_0 rfl (lv_at hl 1 rfl) ?_
  refine va_mabs_long C.1 C.2.1 (C.2.2.1.trans hl.1.symm) C.2.2.2.1 (C.2.2.2.2.1 _ q_552) (C.2.2.2.2.1 _ q_553) (C.2.2.2.2.1 _ q_15) (C.2.2.2.2.1 _ q_554) (by decide) (Nat.le_of_ble_eq_true rfl) (Nat.zero_le _) (Nat.zero_le _) dX11_fraction_1 ?_
  refine lv_topl (fun x9 ex9 => ?_)
  have hf := nm_s hf ex9
  refine lv_lstore (lv' := [(5, .long x9), (0, .ref (ad a0)), (1, .long a1), (3, .long a3)]) C.1 C.2.1 dX11_fraction_4 hl (by decide) rfl (fun ls hl => ?_)
  refine lv_lload_n C.1 C.2.1 dX11_fraction_6 rfl (lv_at hl 3 rfl) ?_
  refine lv_lstore (lv' := [(7, .long a3), (5, .long x9), (0, .ref (ad a0)), (1, .long a1), (3, .long a3)]) C.1 C.2.1 dX11_fraction_7 hl (by decide) rfl (fun ls hl => ?_)
  refine lv_iconst (v := 0) C.1 C.2.1 dX11_fraction_9 (by decide) ?_
  refine lv_istore (lv' := [(9, .int 0), (7, .long a3), (5, .long x9), (0, .ref (ad a0)), (1, .long a1), (3, .long a3)]) C.1 C.2.1 dX11_fraction_10 hl (by decide) rfl (fun ls hl => ?_)
  exact wX11_fraction_12 C  N ha0 hW (lv_sub hl [3, 4, 5, 2, 1, 0] rfl) hf
set_option maxRecDepth 100000 in
set_option maxHeartbeats 4000000 in
theorem tX11_fraction (l : Launch) {D : va_G} {ca ad : Nat → Nat} (hi : Inj ad) {N : Nat} {a0 : Nat} {a1 : Int64} {a3 : Int64} {mm : Mm} {res : Unit × Mm} (ha0 : sX11 a0) (hf : fX11_fraction N a0 a1 a3 mm = some res) : Met l yX11_fraction (WS yX11_fraction cX11_fraction 12 none) (rmX11_fraction) (va_Pc [.ref (ad a0), .long a1, .long a3] (WB D ca ad mm)) (QV D ca ad res) 0 0 (AA ad) := by
  refine x_start hi (by decide) rfl (Nat.le_of_ble_eq_true rfl) (fun p e s m args below meth c ls C hW hl => ?_)
  exact wX11_fraction_0 C ha0 hW (lv_sub hl [0, 1, 2] rfl) hf
set_option maxRecDepth 100000 in
set_option maxHeartbeats 4000000 in
theorem wX11_ways_148 (C : Cx p s m meth c args cX11_ways 7 (some .int) RX11 D ca ad) {res : Int32 × Mm} {N : Nat}  {a0 : Nat} {a4 : Int32} {a5 : Int32} {mm : Mm} {H : Heap} {locs : List Loc} {ls : Array Slot} (ha0 : sX11 a0) (hW : Wd D ca ad s.heap mm H locs) (hl : lv_has ls 7 [(0, .ref (ad a0)), (4, .int a4), (5, .int a5)]) (hf : fX11_ways_148 N a0 a4 a5 mm = some res) : W p l e (rmX11_ways) s m args below meth c H locs 0 0 (MQ below (QI D ca ad res) args s 0 0 (AA ad)) (F0 m 148 ls []) := by
  unfold fX11_ways_148 at hf
  refine lv_aload_n C.1 C.2.1 dX11_ways_148 rfl (lv_at hl 0 rfl) ?_
  refine lv_iload C.1 C.2.1 dX11_ways_149 (lv_at hl 2 rfl) ?_
  refine lv_i2l C.1 C.2.1 dX11_ways_151 rfl ?_
  refine lv_iload C.1 C.2.1 dX11_ways_152 (lv_at hl 1 rfl) ?_
  refine lv_i2l C.1 C.2.1 dX11_ways_154 rfl ?_
  obtain ⟨x1, m2, r3, hf⟩ := bd2_s hf
  refine x_cv hW (x_runV C hW [.long a5.toInt64, .long a4.toInt64] [] (ha0).1 (ha0).2.1 kX11.1 kvX11_fraction q_548 (tX11_fraction l C.2.2.2.2.2.2.1 ha0 r3) rfl rfl ⟨by decide, by decide⟩ rfl hl.1 rfl (Nat.le_of_ble_eq_true rfl) dX11_ways_155) (fun H locs hW => ?_)
  refine lv_iload C.1 C.2.1 dX11_ways_158 (lv_at hl 2 rfl) ?_
  cases hf
  exact x_iret C hW dX11_ways_160
set_option maxRecDepth 100000 in
set_option maxHeartbeats 4000000 in
theorem wX11_ways_136 (C : Cx p s m meth c args cX11_ways 7 (some .int) RX11 D ca ad) {res : Int32 × Mm} {N : Nat} {k83 : Nat → Int32 → Nat → Int32 → Int32 → Int32 → Mm → Option (Int32 × Mm)} (hk83 : ∀ (a0 : Nat) (a2 : Int32) (a3 : Nat) (a4 : Int32) (a5 : Int32) (a6 : Int32) (mm : Mm) (H : Heap) (locs : List Loc) (ls : Array Slot), (sX11 a0) → (sX6 a3) → Wd D ca ad s.heap mm H locs → lv_has ls 7 [(0, .ref (ad a0)), (2, .int a2), (3, .ref (ad a3)), (4, .int a4), (5, .int a5), (6, .int a6)] → k83 a0 a2 a3 a4 a5 a6 mm = some res → W p l e (rmX11_ways) s m args below meth c H locs 0 0 (MQ below (QI D ca ad res) args s 0 0 (AA ad)) (F0 m 83 ls [])) {a0 : Nat} {a2 : Int32} {a3 : Nat} {a4 : Int32} {a5 : Int32} {mm : Mm} {H : Heap} {locs : List Loc} {ls : Array Slot} (ha0 : sX11 a0) (ha3 : sX6 a3) (hW : Wd D ca ad s.heap mm H locs) (hl : lv_has ls 7 [(0, .ref (ad a0)), (2, .int a2), (3, .ref (ad a3)), (4, .int a4), (5, .int a5)]) (hf : fX11_ways_136 N k83 a0 a2 a3 a4 a5 mm = some res) : W p l e (rmX11_ways) s m args below meth c H locs 0 0 (MQ below (QI D ca ad res) args s 0 0 (AA ad)) (F0 m 136 ls []) := by
  unfold fX11_ways_136 at hf
  refine lv_aload_n C.1 C.2.1 dX11_ways_136 rfl (lv_at hl 0 rfl) ?_
  refine x_getr C hW (ha0).1 (ha0).2.1 (j := 6) rfl kX11 (by decide) rfl q_314 dX11_ways_137 ?_
  obtain ⟨x4, m5, r6, hf⟩ := bd2_s hf
  refine x_ci hW (x_runV C hW [] [] (ha0.2.2.2.2.2.2.2.2.1).1 (ha0.2.2.2.2.2.2.2.2.1).2.1 kX3.1 kvX3_next q_544 (tX3_next l C.2.2.2.2.2.2.1 ha0.2.2.2.2.2.2.2.2.1 r6) rfl rfl ⟨by decide, by decide⟩ rfl hl.1 rfl (Nat.le_of_ble_eq_true rfl) dX11_ways_140) (fun H locs hW => ?_)
  refine lv_istore (lv' := [(6, .int x4), (0, .ref (ad a0)), (2, .int a2), (3, .ref (ad a3)), (4, .int a4), (5, .int a5)]) C.1 C.2.1 dX11_ways_143 hl (by decide) rfl (fun ls hl => ?_)
  refine lv_goto (tgt := 83) C.1 C.2.1 dX11_ways_145 (by decide) ?_
  exact hk83 _ _ _ _ _ _ _ _ _ _ ha0 ha3 hW (lv_sub hl [1, 2, 3, 4, 5, 0] rfl) hf
set_option maxRecDepth 100000 in
set_option maxHeartbeats 4000000 in
theorem wX11_ways_83 (C : Cx p s m meth c args cX11_ways 7 (some .int) RX11 D ca ad) {res : Int32 × Mm} {N : Nat}  : ∀ (n : Nat) {a0 : Nat} {a2 : Int32} {a3 : Nat} {a4 : Int32} {a5 : Int32} {a6 : Int32} {mm : Mm} {H : Heap} {locs : List Loc} {ls : Array Slot}, (sX11 a0) → (sX6 a3) → Wd D ca ad s.heap mm H locs → lv_has ls 7 [(0, .ref (ad a0)), (2, .int a2), (3, .ref (ad a3)), (4, .int a4), (5, .int a5), (6, .int a6)] → fX11_ways_83 N n a0 a2 a3 a4 a5 a6 mm = some res → W p l e (rmX11_ways) s m args below meth c H locs 0 0 (MQ below (QI D ca ad res) args s 0 0 (AA ad)) (F0 m 83 ls []) := by
  intro n
  induction n with
  | zero => intro a0 a2 a3 a4 a5 a6 mm H locs ls ha0 ha3 hW hl hf; cases hf
  | succ n ih =>
    intro a0 a2 a3 a4 a5 a6 mm H locs ls ha0 ha3 hW hl hf
    have hk83 : ∀ (a0 : Nat) (a2 : Int32) (a3 : Nat) (a4 : Int32) (a5 : Int32) (a6 : Int32) (mm : Mm) (H : Heap) (locs : List Loc) (ls : Array Slot), (sX11 a0) → (sX6 a3) → Wd D ca ad s.heap mm H locs → lv_has ls 7 [(0, .ref (ad a0)), (2, .int a2), (3, .ref (ad a3)), (4, .int a4), (5, .int a5), (6, .int a6)] → (fX11_ways_83 N n) a0 a2 a3 a4 a5 a6 mm = some res → W p l e (rmX11_ways) s m args below meth c H locs 0 0 (MQ below (QI D ca ad res) args s 0 0 (AA ad)) (F0 m 83 ls []) := fun a0 a2 a3 a4 a5 a6 mm H locs ls ha0 ha3 hW hl hf => ih ha0 ha3 hW hl hf
    unfold fX11_ways_83 at hf
    try dsimp only at hf
    refine lv_iload C.1 C.2.1 dX11_ways_83 (lv_at hl 5 rfl) ?_
    refine lv_if_lt (tgt := 148) C.1 C.2.1 dX11_ways_85 (by decide) (fun c7 => ?_) (fun c7 => ?_)
    · have hf := if_t c7 hf
      exact wX11_ways_148 C  ha0 hW (lv_sub hl [0, 3, 4] rfl) hf
    · have hf := if_f c7 hf
      refine lv_iload C.1 C.2.1 dX11_ways_88 (lv_at hl 3 rfl) ?_
      refine lv_ldc C.1 C.2.1 C.2.2.2.1 (C.2.2.2.2.1 _ q_543) dX11_ways_90 ?_
      refine lv_icmp_ge (tgt := 148) C.1 C.2.1 dX11_ways_92 (by decide) (fun c8 => ?_) (fun c8 => ?_)
      · have hf := if_t c8 hf
        exact wX11_ways_148 C  ha0 hW (lv_sub hl [0, 3, 4] rfl) hf
      · have hf := if_f c8 hf
        refine lv_aload_n C.1 C.2.1 dX11_ways_95 rfl (lv_at hl 0 rfl) ?_
        refine x_getr C hW (ha0).1 (ha0).2.1 (j := 5) rfl kX11 (by decide) rfl q_313 dX11_ways_96 ?_
        refine lv_aload_n C.1 C.2.1 dX11_ways_99 rfl (lv_at hl 0 rfl) ?_
        refine x_getr C hW (ha0).1 (ha0).2.1 (j := 2) rfl kX11 (by decide) rfl q_310 dX11_ways_100 ?_
        refine lv_aload_n C.1 C.2.1 dX11_ways_103 rfl (lv_at hl 0 rfl) ?_
        refine x_getr C hW (ha0).1 (ha0).2.1 (j := 6) rfl kX11 (by decide) rfl q_314 dX11_ways_104 ?_
        refine x_getr C hW (ha0.2.2.2.2.2.2.2.2.1).1 (ha0.2.2.2.2.2.2.2.2.1).2.1 (j := 0) rfl kX3 (by decide) rfl q_165 dX11_ways_107 ?_
        refine lv_aload_n C.1 C.2.1 dX11_ways_110 rfl (lv_at hl 2 rfl) ?_
        refine x_getr C hW (ha3).1 (ha3).2.1 (j := 0) rfl kX6 (by decide) rfl q_299 dX11_ways_111 ?_
        refine lv_iload C.1 C.2.1 dX11_ways_114 (lv_at hl 5 rfl) ?_
        obtain ⟨x9, m10, r11, hf⟩ := bd2_s hf
        refine x_cv hW (x_runV C hW [.ref (ad (fr a0 2)), .ref (ad (fr (fr a0 6) 0)), .ref (ad (fr a3 0)), .int a6] [] (ha0.2.2.2.2.2.2.2.1).1 (ha0.2.2.2.2.2.2.2.1).2.1 kX7.1 kvX7_weigh q_416 (tX7_weigh l C.2.2.2.2.2.2.1 ha0.2.2.2.2.2.2.2.1 ha0.2.2.2.2.1 ha0.2.2.2.2.2.2.2.2.1.2.2 ha3.2.2 r11) rfl rfl ⟨by decide, by decide⟩ rfl hl.1 rfl (Nat.le_of_ble_eq_true rfl) dX11_ways_116) (fun H locs hW => ?_)
        refine lv_iinc (v := (a4 + 1)) (lv' := [(4, .int (a4 + 1)), (0, .ref (ad a0)), (2, .int a2), (3, .ref (ad a3)), (5, .int a5), (6, .int a6)]) C.1 C.2.1 dX11_ways_119 hl (k := 3) rfl rfl (by decide) rfl (fun ls hl => ?_)
        refine lv_aload_n C.1 C.2.1 dX11_ways_122 rfl (lv_at hl 1 rfl) ?_
        refine x_getr C hW (ha0).1 (ha0).2.1 (j := 5) rfl kX11 (by decide) rfl q_313 dX11_ways_123 ?_
        refine x_geti C hW (ha0.2.2.2.2.2.2.2.1).1 (ha0.2.2.2.2.2.2.2.1).2.1 (j := 3) rfl kX7 (by decide) rfl q_145 dX11_ways_126 ?_
        refine lv_iload_n C.1 C.2.1 dX11_ways_129 rfl (lv_at hl 2 rfl) ?_
        refine lv_icmp_lt (tgt := 136) C.1 C.2.1 dX11_ways_130 (by decide) (fun c12 => ?_) (fun c12 => ?_)
        · have hf := if_t c12 hf
          exact wX11_ways_136 C hk83 ha0 ha3 hW (lv_sub hl [1, 2, 3, 0, 4] rfl) hf
        · have hf := if_f c12 hf
          refine lv_iinc (v := (a5 + 1)) (lv' := [(5, .int (a5 + 1)), (4, .int (a4 + 1)), (0, .ref (ad a0)), (2, .int a2), (3, .ref (ad a3)), (6, .int a6)]) C.1 C.2.1 dX11_ways_133 hl (k := 4) rfl rfl (by decide) rfl (fun ls hl => ?_)
          exact wX11_ways_136 C hk83 ha0 ha3 hW (lv_sub hl [2, 3, 4, 1, 0] rfl) hf
set_option maxRecDepth 100000 in
set_option maxHeartbeats 4000000 in
theorem wX11_ways_0 (C : Cx p s m meth c args cX11_ways 7 (some .int) RX11 D ca ad) {res : Int32 × Mm} {N : Nat}  {a0 : Nat} {a1 : Int32} {a2 : Int32} {mm : Mm} {H : Heap} {locs : List Loc} {ls : Array Slot} (ha0 : sX11 a0) (hW : Wd D ca ad s.heap mm H locs) (hl : lv_has ls 7 [(0, .ref (ad a0)), (1, .int a1), (2, .int a2)]) (hf : fX11_ways N a0 a1 a2 mm = some res) : W p l e (rmX11_ways) s m args below meth c H locs 0 0 (MQ below (QI D ca ad res) args s 0 0 (AA ad)) (F0 m 0 ls []) := by
  unfold fX11_ways at hf
  refine lv_aload_n C.1 C.2.1 dX11_ways_0 rfl (lv_at hl 0 rfl) ?_
  refine lv_iload_n C.1 C.2.1 dX11_ways_1 rfl (lv_at hl 1 rfl) ?_
  obtain ⟨x13, m14, r15, hf⟩ := bd2_s hf
  refine x_cr hW (x_runV C hW [.int a1] [] (ha0).1 (ha0).2.1 kX11.1 kvX11_rowOf q_364 (tX11_rowOf l C.2.2.2.2.2.2.1 ha0 r15) rfl rfl ⟨by decide, by decide⟩ rfl hl.1 rfl (Nat.le_of_ble_eq_true rfl) dX11_ways_2) (fun H locs hW => ?_)
  refine x_astore_n (lv' := [(3, va_re ad x13), (0, .ref (ad a0)), (1, .int a1), (2, .int a2)]) C dX11_ways_5 rfl hl (by decide) rfl (fun ls hl => ?_)
  refine x_aload_n C dX11_ways_6 rfl (lv_at hl 0 rfl) ?_
  refine x_ifnull C (tgt := 20) dX11_ways_7 (by decide) (fun n17 => ?_) (fun z16 n17 => ?_)
  · subst n17
    have hf := cs_n hf
    refine lv_iconst (v := (-1)) C.1 C.2.1 dX11_ways_20 (by decide) ?_
    cases hf
    exact x_iret C hW dX11_ways_21
  · subst n17
    have hf := cs_q hf
    refine lv_iload_n C.1 C.2.1 dX11_ways_10 rfl (lv_at hl 3 rfl) ?_
    refine lv_if_lt (tgt := 20) C.1 C.2.1 dX11_ways_11 (by decide) (fun c18 => ?_) (fun c18 => ?_)
    · have hf := if_t c18 hf
      refine lv_iconst (v := (-1)) C.1 C.2.1 dX11_ways_20 (by decide) ?_
      cases hf
      exact x_iret C hW dX11_ways_21
    · have hf := if_f c18 hf
      refine lv_iload_n C.1 C.2.1 dX11_ways_14 rfl (lv_at hl 3 rfl) ?_
      refine lv_bipush (v := 108) C.1 C.2.1 dX11_ways_15 (by decide) ?_
      refine lv_icmp_le (tgt := 22) C.1 C.2.1 dX11_ways_17 (by decide) (fun c19 => ?_) (fun c19 => ?_)
      · have hf := if_t c19 hf
        refine lv_aload_n C.1 C.2.1 dX11_ways_22 rfl (lv_at hl 1 rfl) ?_
        refine x_getr C hW (ha0).1 (ha0).2.1 (j := 2) rfl kX11 (by decide) rfl q_310 dX11_ways_23 ?_
        refine x_getr C hW (ha0.2.2.2.2.1).1 (ha0.2.2.2.2.1).2.1 (j := 1) rfl kX0 (by decide) rfl q_62 dX11_ways_26 ?_
        refine lv_iconst (v := 0) C.1 C.2.1 dX11_ways_29 (by decide) ?_
        obtain ⟨g20, hf⟩ := gd_s hf
        refine x_iald C hW ha0.2.2.2.2.1.2.2.2.1 g20 dX11_ways_30 ?_
        refine lv_bipush (v := 12) C.1 C.2.1 dX11_ways_31 (by decide) ?_
        refine lv_icmp_le (tgt := 39) C.1 C.2.1 dX11_ways_33 (by decide) (fun c21 => ?_) (fun c21 => ?_)
        · have hf := if_t c21 hf
          refine lv_aload_n C.1 C.2.1 dX11_ways_39 rfl (lv_at hl 1 rfl) ?_
          refine lv_aload_n C.1 C.2.1 dX11_ways_40 rfl (lv_at hl 0 rfl) ?_
          refine lv_iconst (v := 1) C.1 C.2.1 dX11_ways_41 (by decide) ?_
          obtain ⟨x22, m23, r24, hf⟩ := bd2_s hf
          refine x_ci hW (x_runV C hW [.ref (ad z16), .int 1] [] (ha0).1 (ha0).2.1 kX11.1 kvX11_isWrong q_470 (tX11_isWrong l C.2.2.2.2.2.2.1 ha0 ((gX11_rowOf ha0 r15) z16 rfl) r24) rfl rfl ⟨by decide, by decide⟩ rfl hl.1 rfl (Nat.le_of_ble_eq_true rfl) dX11_ways_42) (fun H locs hW => ?_)
          refine lv_if_eq (tgt := 51) C.1 C.2.1 dX11_ways_45 (by decide) (fun c25 => ?_) (fun c25 => ?_)
          · have hf := if_t c25 hf
            refine lv_aload_n C.1 C.2.1 dX11_ways_51 rfl (lv_at hl 1 rfl) ?_
            refine x_getr C hW (ha0).1 (ha0).2.1 (j := 6) rfl kX11 (by decide) rfl q_314 dX11_ways_52 ?_
            refine lv_aload_n C.1 C.2.1 dX11_ways_55 rfl (lv_at hl 1 rfl) ?_
            refine x_getr C hW (ha0).1 (ha0).2.1 (j := 2) rfl kX11 (by decide) rfl q_310 dX11_ways_56 ?_
            refine x_geti C hW (ha0.2.2.2.2.1).1 (ha0.2.2.2.2.1).2.1 (j := 5) rfl kX0 (by decide) rfl q_72 dX11_ways_59 ?_
            refine lv_aload_n C.1 C.2.1 dX11_ways_62 rfl (lv_at hl 1 rfl) ?_
            refine x_getr C hW (ha0).1 (ha0).2.1 (j := 2) rfl kX11 (by decide) rfl q_310 dX11_ways_63 ?_
            refine x_getr C hW (ha0.2.2.2.2.1).1 (ha0.2.2.2.2.1).2.1 (j := 1) rfl kX0 (by decide) rfl q_62 dX11_ways_66 ?_
            refine lv_iconst (v := 0) C.1 C.2.1 dX11_ways_69 (by decide) ?_
            obtain ⟨g26, hf⟩ := gd_s hf
            refine x_iald C hW ha0.2.2.2.2.1.2.2.2.1 g26 dX11_ways_70 ?_
            obtain ⟨x27, m28, r29, hf⟩ := bd2_s hf
            refine x_cv hW (x_runV C hW [.int (rd m23 (fr a0 2) 5), .int (rd m23 (fr (fr a0 2) 1) ((0 : Int32).toNatClampNeg))] [] (ha0.2.2.2.2.2.2.2.2.1).1 (ha0.2.2.2.2.2.2.2.2.1).2.1 kX3.1 kvX3_begin q_537 (tX3_begin l C.2.2.2.2.2.2.1 ha0.2.2.2.2.2.2.2.2.1 r29) rfl rfl ⟨by decide, by decide⟩ rfl hl.1 rfl (Nat.le_of_ble_eq_true rfl) dX11_ways_71) (fun H locs hW => ?_)
            refine lv_iconst (v := 0) C.1 C.2.1 dX11_ways_74 (by decide) ?_
            refine lv_istore (lv' := [(4, .int 0), (3, .ref (ad z16)), (0, .ref (ad a0)), (1, .int a1), (2, .int a2)]) C.1 C.2.1 dX11_ways_75 hl (by decide) rfl (fun ls hl => ?_)
            refine lv_iconst (v := 0) C.1 C.2.1 dX11_ways_77 (by decide) ?_
            refine lv_istore (lv' := [(5, .int 0), (4, .int 0), (3, .ref (ad z16)), (0, .ref (ad a0)), (1, .int a1), (2, .int a2)]) C.1 C.2.1 dX11_ways_78 hl (by decide) rfl (fun ls hl => ?_)
            refine lv_iconst (v := 0) C.1 C.2.1 dX11_ways_80 (by decide) ?_
            refine lv_istore (lv' := [(6, .int 0), (5, .int 0), (4, .int 0), (3, .ref (ad z16)), (0, .ref (ad a0)), (1, .int a1), (2, .int a2)]) C.1 C.2.1 dX11_ways_81 hl (by decide) rfl (fun ls hl => ?_)
            exact wX11_ways_83 C  N ha0 ((gX11_rowOf ha0 r15) z16 rfl) hW (lv_sub hl [4, 6, 3, 2, 1, 0] rfl) hf
          · have hf := if_f c25 hf
            refine lv_bipush (v := (-3)) C.1 C.2.1 dX11_ways_48 (by decide) ?_
            cases hf
            exact x_iret C hW dX11_ways_50
        · have hf := if_f c21 hf
          refine lv_bipush (v := (-6)) C.1 C.2.1 dX11_ways_36 (by decide) ?_
          cases hf
          exact x_iret C hW dX11_ways_38
      · have hf := if_f c19 hf
        refine lv_iconst (v := (-1)) C.1 C.2.1 dX11_ways_20 (by decide) ?_
        cases hf
        exact x_iret C hW dX11_ways_21
set_option maxRecDepth 100000 in
set_option maxHeartbeats 4000000 in
theorem tX11_ways (l : Launch) {D : va_G} {ca ad : Nat → Nat} (hi : Inj ad) {N : Nat} {a0 : Nat} {a1 : Int32} {a2 : Int32} {mm : Mm} {res : Int32 × Mm} (ha0 : sX11 a0) (hf : fX11_ways N a0 a1 a2 mm = some res) : Met l yX11_ways (WS yX11_ways cX11_ways 7 (some .int)) (rmX11_ways) (va_Pc [.ref (ad a0), .int a1, .int a2] (WB D ca ad mm)) (QI D ca ad res) 0 0 (AA ad) := by
  refine x_start hi (by decide) rfl (Nat.le_of_ble_eq_true rfl) (fun p e s m args below meth c ls C hW hl => ?_)
  exact wX11_ways_0 C ha0 hW (lv_sub hl [0, 1, 2] rfl) hf
set_option maxRecDepth 100000 in
set_option maxHeartbeats 4000000 in
theorem wX11_sure_0 (C : Cx p s m meth c args cX11_sure 3 (some .int) RX11 D ca ad) {res : Int32 × Mm} {N : Nat}  {a0 : Nat} {a1 : Int32} {mm : Mm} {H : Heap} {locs : List Loc} {ls : Array Slot} (ha0 : sX11 a0) (hW : Wd D ca ad s.heap mm H locs) (hl : lv_has ls 3 [(0, .ref (ad a0)), (1, .int a1)]) (hf : fX11_sure N a0 a1 mm = some res) : W p l e (rmX11_sure) s m args below meth c H locs 0 0 (MQ below (QI D ca ad res) args s 0 0 (AA ad)) (F0 m 0 ls []) := by
  unfold fX11_sure at hf
  refine lv_aload_n C.1 C.2.1 dX11_sure_0 rfl (lv_at hl 0 rfl) ?_
  refine lv_iload_n C.1 C.2.1 dX11_sure_1 rfl (lv_at hl 1 rfl) ?_
  obtain ⟨x1, m2, r3, hf⟩ := bd2_s hf
  refine x_cr hW (x_runV C hW [.int a1] [] (ha0).1 (ha0).2.1 kX11.1 kvX11_rowOf q_364 (tX11_rowOf l C.2.2.2.2.2.2.1 ha0 r3) rfl rfl ⟨by decide, by decide⟩ rfl hl.1 rfl (Nat.le_of_ble_eq_true rfl) dX11_sure_2) (fun H locs hW => ?_)
  refine x_astore_n (lv' := [(2, va_re ad x1), (0, .ref (ad a0)), (1, .int a1)]) C dX11_sure_5 rfl hl (by decide) rfl (fun ls hl => ?_)
  refine x_aload_n C dX11_sure_6 rfl (lv_at hl 0 rfl) ?_
  refine x_ifnonnull C (tgt := 12) dX11_sure_7 (by decide) (fun n5 => ?_) (fun z4 n5 => ?_)
  · subst n5
    have hf := cs_n hf
    refine lv_iconst (v := (-1)) C.1 C.2.1 dX11_sure_10 (by decide) ?_
    cases hf
    exact x_iret C hW dX11_sure_11
  · subst n5
    have hf := cs_q hf
    refine lv_aload_n C.1 C.2.1 dX11_sure_12 rfl (lv_at hl 1 rfl) ?_
    refine lv_aload_n C.1 C.2.1 dX11_sure_13 rfl (lv_at hl 0 rfl) ?_
    refine lv_iconst (v := 0) C.1 C.2.1 dX11_sure_14 (by decide) ?_
    obtain ⟨x6, m7, r8, hf⟩ := bd2_s hf
    refine x_ci hW (x_runV C hW [.ref (ad z4), .int 0] [] (ha0).1 (ha0).2.1 kX11.1 kvX11_isWrong q_470 (tX11_isWrong l C.2.2.2.2.2.2.1 ha0 ((gX11_rowOf ha0 r3) z4 rfl) r8) rfl rfl ⟨by decide, by decide⟩ rfl hl.1 rfl (Nat.le_of_ble_eq_true rfl) dX11_sure_15) (fun H locs hW => ?_)
    refine lv_if_eq (tgt := 24) C.1 C.2.1 dX11_sure_18 (by decide) (fun c9 => ?_) (fun c9 => ?_)
    · have hf := if_t c9 hf
      refine lv_aload_n C.1 C.2.1 dX11_sure_24 rfl (lv_at hl 1 rfl) ?_
      refine x_getr C hW (ha0).1 (ha0).2.1 (j := 8) rfl kX11 (by decide) rfl q_316 dX11_sure_25 ?_
      refine lv_aload_n C.1 C.2.1 dX11_sure_28 rfl (lv_at hl 1 rfl) ?_
      refine x_getr C hW (ha0).1 (ha0).2.1 (j := 2) rfl kX11 (by decide) rfl q_310 dX11_sure_29 ?_
      refine lv_aload_n C.1 C.2.1 dX11_sure_32 rfl (lv_at hl 0 rfl) ?_
      refine x_getr C hW (((gX11_rowOf ha0 r3) z4 rfl)).1 (((gX11_rowOf ha0 r3) z4 rfl)).2.1 (j := 0) rfl kX6 (by decide) rfl q_299 dX11_sure_33 ?_
      refine lv_iconst (v := (-1)) C.1 C.2.1 dX11_sure_36 (by decide) ?_
      obtain ⟨x10, m11, r12, hf⟩ := bd2_s hf
      refine x_ci hW (x_runV C hW [.ref (ad (fr a0 2)), .ref (ad (fr z4 0)), .int (-1)] [] (ha0.2.2.2.2.2.2.2.2.2.2.1).1 (ha0.2.2.2.2.2.2.2.2.2.2.1).2.1 kX1.1 kvX1_leastFor q_559 (tX1_leastFor l C.2.2.2.2.2.2.1 ha0.2.2.2.2.2.2.2.2.2.2.1 ha0.2.2.2.2.1 (((gX11_rowOf ha0 r3) z4 rfl).2.2) r12) rfl rfl ⟨by decide, by decide⟩ rfl hl.1 rfl (Nat.le_of_ble_eq_true rfl) dX11_sure_37) (fun H locs hW => ?_)
      cases hf
      exact x_iret C hW dX11_sure_40
    · have hf := if_f c9 hf
      refine lv_bipush (v := (-3)) C.1 C.2.1 dX11_sure_21 (by decide) ?_
      cases hf
      exact x_iret C hW dX11_sure_23
set_option maxRecDepth 100000 in
set_option maxHeartbeats 4000000 in
theorem tX11_sure (l : Launch) {D : va_G} {ca ad : Nat → Nat} (hi : Inj ad) {N : Nat} {a0 : Nat} {a1 : Int32} {mm : Mm} {res : Int32 × Mm} (ha0 : sX11 a0) (hf : fX11_sure N a0 a1 mm = some res) : Met l yX11_sure (WS yX11_sure cX11_sure 3 (some .int)) (rmX11_sure) (va_Pc [.ref (ad a0), .int a1] (WB D ca ad mm)) (QI D ca ad res) 0 0 (AA ad) := by
  refine x_start hi (by decide) rfl (Nat.le_of_ble_eq_true rfl) (fun p e s m args below meth c ls C hW hl => ?_)
  exact wX11_sure_0 C ha0 hW (lv_sub hl [0, 1] rfl) hf
set_option maxRecDepth 100000 in
set_option maxHeartbeats 4000000 in
theorem wX11_isTooMuch_0 (C : Cx p s m meth c args cX11_isTooMuch 2 (some .boolean) RX11 D ca ad) {res : Int32 × Mm} {N : Nat}  {a0 : Nat} {a1 : Int32} {mm : Mm} {H : Heap} {locs : List Loc} {ls : Array Slot} (ha0 : sX11 a0) (hW : Wd D ca ad s.heap mm H locs) (hl : lv_has ls 2 [(0, .ref (ad a0)), (1, .int a1)]) (hf : fX11_isTooMuch N a0 a1 mm = some res) : W p l e (rmX11_isTooMuch) s m args below meth c H locs 0 0 (MQ below (QI D ca ad res) args s 0 0 (AA ad)) (F0 m 0 ls []) := by
  unfold fX11_isTooMuch at hf
  refine lv_aload_n C.1 C.2.1 dX11_isTooMuch_0 rfl (lv_at hl 0 rfl) ?_
  refine x_getr C hW (ha0).1 (ha0).2.1 (j := 2) rfl kX11 (by decide) rfl q_310 dX11_isTooMuch_1 ?_
  refine x_getr C hW (ha0.2.2.2.2.1).1 (ha0.2.2.2.2.1).2.1 (j := 1) rfl kX0 (by decide) rfl q_62 dX11_isTooMuch_4 ?_
  refine lv_iload_n C.1 C.2.1 dX11_isTooMuch_7 rfl (lv_at hl 1 rfl) ?_
  obtain ⟨g1, hf⟩ := gd_s hf
  refine x_iald C hW ha0.2.2.2.2.1.2.2.2.1 g1 dX11_isTooMuch_8 ?_
  refine lv_bipush (v := 10) C.1 C.2.1 dX11_isTooMuch_9 (by decide) ?_
  refine lv_icmp_gt (tgt := 25) C.1 C.2.1 dX11_isTooMuch_11 (by decide) (fun c2 => ?_) (fun c2 => ?_)
  · have hf := if_t c2 hf
    refine lv_iconst (v := 1) C.1 C.2.1 dX11_isTooMuch_25 (by decide) ?_
    refine lv_goto (tgt := 30) C.1 C.2.1 dX11_isTooMuch_26 (by decide) ?_
    cases hf
    exact x_zret C hW (by decide) dX11_isTooMuch_30
  · have hf := if_f c2 hf
    refine lv_aload_n C.1 C.2.1 dX11_isTooMuch_14 rfl (lv_at hl 0 rfl) ?_
    refine x_getr C hW (ha0).1 (ha0).2.1 (j := 2) rfl kX11 (by decide) rfl q_310 dX11_isTooMuch_15 ?_
    refine x_geti C hW (ha0.2.2.2.2.1).1 (ha0.2.2.2.2.1).2.1 (j := 5) rfl kX0 (by decide) rfl q_72 dX11_isTooMuch_18 ?_
    refine lv_iconst (v := 4) C.1 C.2.1 dX11_isTooMuch_21 (by decide) ?_
    refine lv_icmp_le (tgt := 29) C.1 C.2.1 dX11_isTooMuch_22 (by decide) (fun c3 => ?_) (fun c3 => ?_)
    · have hf := if_t c3 hf
      refine lv_iconst (v := 0) C.1 C.2.1 dX11_isTooMuch_29 (by decide) ?_
      cases hf
      exact x_zret C hW (by decide) dX11_isTooMuch_30
    · have hf := if_f c3 hf
      refine lv_iconst (v := 1) C.1 C.2.1 dX11_isTooMuch_25 (by decide) ?_
      refine lv_goto (tgt := 30) C.1 C.2.1 dX11_isTooMuch_26 (by decide) ?_
      cases hf
      exact x_zret C hW (by decide) dX11_isTooMuch_30
set_option maxRecDepth 100000 in
set_option maxHeartbeats 4000000 in
theorem tX11_isTooMuch (l : Launch) {D : va_G} {ca ad : Nat → Nat} (hi : Inj ad) {N : Nat} {a0 : Nat} {a1 : Int32} {mm : Mm} {res : Int32 × Mm} (ha0 : sX11 a0) (hf : fX11_isTooMuch N a0 a1 mm = some res) : Met l yX11_isTooMuch (WS yX11_isTooMuch cX11_isTooMuch 2 (some .boolean)) (rmX11_isTooMuch) (va_Pc [.ref (ad a0), .int a1] (WB D ca ad mm)) (QI D ca ad res) 0 0 (AA ad) := by
  refine x_start hi (by decide) rfl (Nat.le_of_ble_eq_true rfl) (fun p e s m args below meth c ls C hW hl => ?_)
  exact wX11_isTooMuch_0 C ha0 hW (lv_sub hl [0, 1] rfl) hf
set_option maxRecDepth 100000 in
set_option maxHeartbeats 4000000 in
theorem wX11_safe_114 (C : Cx p s m meth c args cX11_safe 7 (some .int) RX11 D ca ad) {res : Int32 × Mm} {N : Nat} {k54 : Nat → Nat → Int32 → Int32 → Int32 → Mm → Option (Int32 × Mm)} (hk54 : ∀ (a0 : Nat) (a2 : Nat) (a3 : Int32) (a4 : Int32) (a5 : Int32) (mm : Mm) (H : Heap) (locs : List Loc) (ls : Array Slot), (sX11 a0) → (sX6 a2) → Wd D ca ad s.heap mm H locs → lv_has ls 7 [(0, .ref (ad a0)), (2, .ref (ad a2)), (3, .int a3), (4, .int a4), (5, .int a5)] → k54 a0 a2 a3 a4 a5 mm = some res → W p l e (rmX11_safe) s m args below meth c H locs 0 0 (MQ below (QI D ca ad res) args s 0 0 (AA ad)) (F0 m 54 ls [])) {a0 : Nat} {a2 : Nat} {a3 : Int32} {a5 : Int32} {mm : Mm} {H : Heap} {locs : List Loc} {ls : Array Slot} (ha0 : sX11 a0) (ha2 : sX6 a2) (hW : Wd D ca ad s.heap mm H locs) (hl : lv_has ls 7 [(0, .ref (ad a0)), (2, .ref (ad a2)), (3, .int a3), (5, .int a5)]) (hf : fX11_safe_114 N k54 a0 a2 a3 a5 mm = some res) : W p l e (rmX11_safe) s m args below meth c H locs 0 0 (MQ below (QI D ca ad res) args s 0 0 (AA ad)) (F0 m 114 ls []) := by
  unfold fX11_safe_114 at hf
  refine lv_aload_n C.1 C.2.1 dX11_safe_114 rfl (lv_at hl 0 rfl) ?_
  refine x_getr C hW (ha0).1 (ha0).2.1 (j := 6) rfl kX11 (by decide) rfl q_314 dX11_safe_115 ?_
  obtain ⟨x1, m2, r3, hf⟩ := bd2_s hf
  refine x_ci hW (x_runV C hW [] [] (ha0.2.2.2.2.2.2.2.2.1).1 (ha0.2.2.2.2.2.2.2.2.1).2.1 kX3.1 kvX3_next q_544 (tX3_next l C.2.2.2.2.2.2.1 ha0.2.2.2.2.2.2.2.2.1 r3) rfl rfl ⟨by decide, by decide⟩ rfl hl.1 rfl (Nat.le_of_ble_eq_true rfl) dX11_safe_118) (fun H locs hW => ?_)
  refine lv_istore (lv' := [(4, .int x1), (0, .ref (ad a0)), (2, .ref (ad a2)), (3, .int a3), (5, .int a5)]) C.1 C.2.1 dX11_safe_121 hl (by decide) rfl (fun ls hl => ?_)
  refine lv_iinc (v := (a5 + 1)) (lv' := [(5, .int (a5 + 1)), (4, .int x1), (0, .ref (ad a0)), (2, .ref (ad a2)), (3, .int a3)]) C.1 C.2.1 dX11_safe_123 hl (k := 4) rfl rfl (by decide) rfl (fun ls hl => ?_)
  refine lv_goto (tgt := 54) C.1 C.2.1 dX11_safe_126 (by decide) ?_
  exact hk54 _ _ _ _ _ _ _ _ _ ha0 ha2 hW (lv_sub hl [2, 3, 4, 1, 0] rfl) hf
set_option maxRecDepth 100000 in
set_option maxHeartbeats 4000000 in
theorem wX11_safe_54 (C : Cx p s m meth c args cX11_safe 7 (some .int) RX11 D ca ad) {res : Int32 × Mm} {N : Nat}  : ∀ (n : Nat) {a0 : Nat} {a2 : Nat} {a3 : Int32} {a4 : Int32} {a5 : Int32} {mm : Mm} {H : Heap} {locs : List Loc} {ls : Array Slot}, (sX11 a0) → (sX6 a2) → Wd D ca ad s.heap mm H locs → lv_has ls 7 [(0, .ref (ad a0)), (2, .ref (ad a2)), (3, .int a3), (4, .int a4), (5, .int a5)] → fX11_safe_54 N n a0 a2 a3 a4 a5 mm = some res → W p l e (rmX11_safe) s m args below meth c H locs 0 0 (MQ below (QI D ca ad res) args s 0 0 (AA ad)) (F0 m 54 ls []) := by
  intro n
  induction n with
  | zero => intro a0 a2 a3 a4 a5 mm H locs ls ha0 ha2 hW hl hf; cases hf
  | succ n ih =>
    intro a0 a2 a3 a4 a5 mm H locs ls ha0 ha2 hW hl hf
    have hk54 : ∀ (a0 : Nat) (a2 : Nat) (a3 : Int32) (a4 : Int32) (a5 : Int32) (mm : Mm) (H : Heap) (locs : List Loc) (ls : Array Slot), (sX11 a0) → (sX6 a2) → Wd D ca ad s.heap mm H locs → lv_has ls 7 [(0, .ref (ad a0)), (2, .ref (ad a2)), (3, .int a3), (4, .int a4), (5, .int a5)] → (fX11_safe_54 N n) a0 a2 a3 a4 a5 mm = some res → W p l e (rmX11_safe) s m args below meth c H locs 0 0 (MQ below (QI D ca ad res) args s 0 0 (AA ad)) (F0 m 54 ls []) := fun a0 a2 a3 a4 a5 mm H locs ls ha0 ha2 hW hl hf => ih ha0 ha2 hW hl hf
    unfold fX11_safe_54 at hf
    try dsimp only at hf
    refine lv_iload C.1 C.2.1 dX11_safe_54 (lv_at hl 3 rfl) ?_
    refine lv_if_lt (tgt := 129) C.1 C.2.1 dX11_safe_56 (by decide) (fun c4 => ?_) (fun c4 => ?_)
    · have hf := if_t c4 hf
      refine lv_iload_n C.1 C.2.1 dX11_safe_129 rfl (lv_at hl 2 rfl) ?_
      cases hf
      exact x_iret C hW dX11_safe_130
    · have hf := if_f c4 hf
      refine lv_iload C.1 C.2.1 dX11_safe_59 (lv_at hl 4 rfl) ?_
      refine lv_ldc C.1 C.2.1 C.2.2.2.1 (C.2.2.2.2.1 _ q_543) dX11_safe_61 ?_
      refine lv_icmp_ge (tgt := 129) C.1 C.2.1 dX11_safe_63 (by decide) (fun c5 => ?_) (fun c5 => ?_)
      · have hf := if_t c5 hf
        refine lv_iload_n C.1 C.2.1 dX11_safe_129 rfl (lv_at hl 2 rfl) ?_
        cases hf
        exact x_iret C hW dX11_safe_130
      · have hf := if_f c5 hf
        refine lv_aload_n C.1 C.2.1 dX11_safe_66 rfl (lv_at hl 0 rfl) ?_
        refine x_getr C hW (ha0).1 (ha0).2.1 (j := 8) rfl kX11 (by decide) rfl q_316 dX11_safe_67 ?_
        refine lv_aload_n C.1 C.2.1 dX11_safe_70 rfl (lv_at hl 0 rfl) ?_
        refine x_getr C hW (ha0).1 (ha0).2.1 (j := 2) rfl kX11 (by decide) rfl q_310 dX11_safe_71 ?_
        refine lv_aload_n C.1 C.2.1 dX11_safe_74 rfl (lv_at hl 0 rfl) ?_
        refine x_getr C hW (ha0).1 (ha0).2.1 (j := 6) rfl kX11 (by decide) rfl q_314 dX11_safe_75 ?_
        refine x_getr C hW (ha0.2.2.2.2.2.2.2.2.1).1 (ha0.2.2.2.2.2.2.2.2.1).2.1 (j := 0) rfl kX3 (by decide) rfl q_165 dX11_safe_78 ?_
        refine lv_iload_n C.1 C.2.1 dX11_safe_81 rfl (lv_at hl 2 rfl) ?_
        obtain ⟨x6, m7, r8, hf⟩ := bd2_s hf
        refine x_ci hW (x_runV C hW [.ref (ad (fr a0 2)), .ref (ad (fr (fr a0 6) 0)), .int a3] [] (ha0.2.2.2.2.2.2.2.2.2.2.1).1 (ha0.2.2.2.2.2.2.2.2.2.2.1).2.1 kX1.1 kvX1_leastFor q_559 (tX1_leastFor l C.2.2.2.2.2.2.1 ha0.2.2.2.2.2.2.2.2.2.2.1 ha0.2.2.2.2.1 ha0.2.2.2.2.2.2.2.2.1.2.2 r8) rfl rfl ⟨by decide, by decide⟩ rfl hl.1 rfl (Nat.le_of_ble_eq_true rfl) dX11_safe_82) (fun H locs hW => ?_)
        refine lv_istore (lv' := [(6, .int x6), (0, .ref (ad a0)), (2, .ref (ad a2)), (3, .int a3), (4, .int a4), (5, .int a5)]) C.1 C.2.1 dX11_safe_85 hl (by decide) rfl (fun ls hl => ?_)
        refine lv_iload C.1 C.2.1 dX11_safe_87 (lv_at hl 0 rfl) ?_
        refine lv_iload_n C.1 C.2.1 dX11_safe_89 rfl (lv_at hl 3 rfl) ?_
        refine lv_icmp_le (tgt := 114) C.1 C.2.1 dX11_safe_90 (by decide) (fun c9 => ?_) (fun c9 => ?_)
        · have hf := if_t c9 hf
          exact wX11_safe_114 C hk54 ha0 ha2 hW (lv_sub hl [1, 2, 3, 5] rfl) hf
        · have hf := if_f c9 hf
          refine lv_iload C.1 C.2.1 dX11_safe_93 (lv_at hl 0 rfl) ?_
          refine lv_istore_n (lv' := [(3, .int x6), (6, .int x6), (0, .ref (ad a0)), (2, .ref (ad a2)), (4, .int a4), (5, .int a5)]) C.1 C.2.1 dX11_safe_95 rfl hl (by decide) rfl (fun ls hl => ?_)
          refine lv_aload_n C.1 C.2.1 dX11_safe_96 rfl (lv_at hl 3 rfl) ?_
          refine lv_aload_n C.1 C.2.1 dX11_safe_97 rfl (lv_at hl 2 rfl) ?_
          refine x_getr C hW (ha0).1 (ha0).2.1 (j := 6) rfl kX11 (by decide) rfl q_314 dX11_safe_98 ?_
          refine x_getr C hW (ha0.2.2.2.2.2.2.2.2.1).1 (ha0.2.2.2.2.2.2.2.2.1).2.1 (j := 0) rfl kX3 (by decide) rfl q_165 dX11_safe_101 ?_
          refine lv_aload_n C.1 C.2.1 dX11_safe_104 rfl (lv_at hl 2 rfl) ?_
          refine x_getr C hW (ha0).1 (ha0).2.1 (j := 2) rfl kX11 (by decide) rfl q_310 dX11_safe_105 ?_
          refine x_geti C hW (ha0.2.2.2.2.1).1 (ha0.2.2.2.2.1).2.1 (j := 5) rfl kX0 (by decide) rfl q_72 dX11_safe_108 ?_
          obtain ⟨x10, m11, r12, hf⟩ := bd2_s hf
          refine x_cv hW (x_runV C hW [.ref (ad (fr (fr a0 6) 0)), .int (rd m7 (fr a0 2) 5)] [] (ha2).1 (ha2).2.1 kX6.1 kvX6_take q_513 (tX6_take l C.2.2.2.2.2.2.1 ha2 ha0.2.2.2.2.2.2.2.2.1.2.2 r12) rfl rfl ⟨by decide, by decide⟩ rfl hl.1 rfl (Nat.le_of_ble_eq_true rfl) dX11_safe_111) (fun H locs hW => ?_)
          exact wX11_safe_114 C hk54 ha0 ha2 hW (lv_sub hl [2, 3, 0, 5] rfl) hf
set_option maxRecDepth 100000 in
set_option maxHeartbeats 4000000 in
theorem wX11_safe_0 (C : Cx p s m meth c args cX11_safe 7 (some .int) RX11 D ca ad) {res : Int32 × Mm} {N : Nat}  {a0 : Nat} {a1 : Int32} {mm : Mm} {H : Heap} {locs : List Loc} {ls : Array Slot} (ha0 : sX11 a0) (hW : Wd D ca ad s.heap mm H locs) (hl : lv_has ls 7 [(0, .ref (ad a0)), (1, .int a1)]) (hf : fX11_safe N a0 a1 mm = some res) : W p l e (rmX11_safe) s m args below meth c H locs 0 0 (MQ below (QI D ca ad res) args s 0 0 (AA ad)) (F0 m 0 ls []) := by
  unfold fX11_safe at hf
  refine lv_aload_n C.1 C.2.1 dX11_safe_0 rfl (lv_at hl 0 rfl) ?_
  refine lv_iload_n C.1 C.2.1 dX11_safe_1 rfl (lv_at hl 1 rfl) ?_
  obtain ⟨x13, m14, r15, hf⟩ := bd2_s hf
  refine x_cr hW (x_runV C hW [.int a1] [] (ha0).1 (ha0).2.1 kX11.1 kvX11_rowOf q_364 (tX11_rowOf l C.2.2.2.2.2.2.1 ha0 r15) rfl rfl ⟨by decide, by decide⟩ rfl hl.1 rfl (Nat.le_of_ble_eq_true rfl) dX11_safe_2) (fun H locs hW => ?_)
  refine x_astore_n (lv' := [(2, va_re ad x13), (0, .ref (ad a0)), (1, .int a1)]) C dX11_safe_5 rfl hl (by decide) rfl (fun ls hl => ?_)
  refine x_aload_n C dX11_safe_6 rfl (lv_at hl 0 rfl) ?_
  refine x_ifnonnull C (tgt := 12) dX11_safe_7 (by decide) (fun n17 => ?_) (fun z16 n17 => ?_)
  · subst n17
    have hf := cs_n hf
    refine lv_iconst (v := (-1)) C.1 C.2.1 dX11_safe_10 (by decide) ?_
    cases hf
    exact x_iret C hW dX11_safe_11
  · subst n17
    have hf := cs_q hf
    refine lv_aload_n C.1 C.2.1 dX11_safe_12 rfl (lv_at hl 1 rfl) ?_
    refine lv_iconst (v := 0) C.1 C.2.1 dX11_safe_13 (by decide) ?_
    obtain ⟨x18, m19, r20, hf⟩ := bd2_s hf
    refine x_ci hW (x_runV C hW [.int 0] [] (ha0).1 (ha0).2.1 kX11.1 kvX11_isTooMuch q_574 (tX11_isTooMuch l C.2.2.2.2.2.2.1 ha0 r20) rfl rfl ⟨by decide, by decide⟩ rfl hl.1 rfl (Nat.le_of_ble_eq_true rfl) dX11_safe_14) (fun H locs hW => ?_)
    refine lv_if_eq (tgt := 23) C.1 C.2.1 dX11_safe_17 (by decide) (fun c21 => ?_) (fun c21 => ?_)
    · have hf := if_t c21 hf
      refine lv_aload_n C.1 C.2.1 dX11_safe_23 rfl (lv_at hl 1 rfl) ?_
      refine x_getr C hW (ha0).1 (ha0).2.1 (j := 6) rfl kX11 (by decide) rfl q_314 dX11_safe_24 ?_
      refine lv_aload_n C.1 C.2.1 dX11_safe_27 rfl (lv_at hl 1 rfl) ?_
      refine x_getr C hW (ha0).1 (ha0).2.1 (j := 2) rfl kX11 (by decide) rfl q_310 dX11_safe_28 ?_
      refine x_geti C hW (ha0.2.2.2.2.1).1 (ha0.2.2.2.2.1).2.1 (j := 5) rfl kX0 (by decide) rfl q_72 dX11_safe_31 ?_
      refine lv_aload_n C.1 C.2.1 dX11_safe_34 rfl (lv_at hl 1 rfl) ?_
      refine x_getr C hW (ha0).1 (ha0).2.1 (j := 2) rfl kX11 (by decide) rfl q_310 dX11_safe_35 ?_
      refine x_getr C hW (ha0.2.2.2.2.1).1 (ha0.2.2.2.2.1).2.1 (j := 1) rfl kX0 (by decide) rfl q_62 dX11_safe_38 ?_
      refine lv_iconst (v := 0) C.1 C.2.1 dX11_safe_41 (by decide) ?_
      obtain ⟨g22, hf⟩ := gd_s hf
      refine x_iald C hW ha0.2.2.2.2.1.2.2.2.1 g22 dX11_safe_42 ?_
      obtain ⟨x23, m24, r25, hf⟩ := bd2_s hf
      refine x_cv hW (x_runV C hW [.int (rd m19 (fr a0 2) 5), .int (rd m19 (fr (fr a0 2) 1) ((0 : Int32).toNatClampNeg))] [] (ha0.2.2.2.2.2.2.2.2.1).1 (ha0.2.2.2.2.2.2.2.2.1).2.1 kX3.1 kvX3_begin q_537 (tX3_begin l C.2.2.2.2.2.2.1 ha0.2.2.2.2.2.2.2.2.1 r25) rfl rfl ⟨by decide, by decide⟩ rfl hl.1 rfl (Nat.le_of_ble_eq_true rfl) dX11_safe_43) (fun H locs hW => ?_)
      refine lv_iconst (v := (-1)) C.1 C.2.1 dX11_safe_46 (by decide) ?_
      refine lv_istore_n (lv' := [(3, .int (-1)), (2, .ref (ad z16)), (0, .ref (ad a0)), (1, .int a1)]) C.1 C.2.1 dX11_safe_47 rfl hl (by decide) rfl (fun ls hl => ?_)
      refine lv_iconst (v := 0) C.1 C.2.1 dX11_safe_48 (by decide) ?_
      refine lv_istore (lv' := [(4, .int 0), (3, .int (-1)), (2, .ref (ad z16)), (0, .ref (ad a0)), (1, .int a1)]) C.1 C.2.1 dX11_safe_49 hl (by decide) rfl (fun ls hl => ?_)
      refine lv_iconst (v := 0) C.1 C.2.1 dX11_safe_51 (by decide) ?_
      refine lv_istore (lv' := [(5, .int 0), (4, .int 0), (3, .int (-1)), (2, .ref (ad z16)), (0, .ref (ad a0)), (1, .int a1)]) C.1 C.2.1 dX11_safe_52 hl (by decide) rfl (fun ls hl => ?_)
      exact wX11_safe_54 C  N ha0 ((gX11_rowOf ha0 r15) z16 rfl) hW (lv_sub hl [4, 3, 2, 1, 0] rfl) hf
    · have hf := if_f c21 hf
      refine lv_bipush (v := (-6)) C.1 C.2.1 dX11_safe_20 (by decide) ?_
      cases hf
      exact x_iret C hW dX11_safe_22
set_option maxRecDepth 100000 in
set_option maxHeartbeats 4000000 in
theorem tX11_safe (l : Launch) {D : va_G} {ca ad : Nat → Nat} (hi : Inj ad) {N : Nat} {a0 : Nat} {a1 : Int32} {mm : Mm} {res : Int32 × Mm} (ha0 : sX11 a0) (hf : fX11_safe N a0 a1 mm = some res) : Met l yX11_safe (WS yX11_safe cX11_safe 7 (some .int)) (rmX11_safe) (va_Pc [.ref (ad a0), .int a1] (WB D ca ad mm)) (QI D ca ad res) 0 0 (AA ad) := by
  refine x_start hi (by decide) rfl (Nat.le_of_ble_eq_true rfl) (fun p e s m args below meth c ls C hW hl => ?_)
  exact wX11_safe_0 C ha0 hW (lv_sub hl [0, 1] rfl) hf
end W_files16
