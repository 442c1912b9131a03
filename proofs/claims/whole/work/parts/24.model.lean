theorem dX12_fewestOn_0 : decode cX12_fewestOn 0 = .ok (.iload_n 1, 1) := by decide +kernel
theorem dX12_fewestOn_1 : decode cX12_fewestOn 1 = .ok (.aload_n 0, 1) := by decide +kernel
theorem dX12_fewestOn_2 : decode cX12_fewestOn 2 = .ok (.getfield 156, 3) := by decide +kernel
theorem dX12_fewestOn_5 : decode cX12_fewestOn 5 = .ok (.if_icmp .ne 55, 3) := by decide +kernel
theorem dX12_fewestOn_8 : decode cX12_fewestOn 8 = .ok (.iload_n 2, 1) := by decide +kernel
theorem dX12_fewestOn_9 : decode cX12_fewestOn 9 = .ok (.aload_n 0, 1) := by decide +kernel
theorem dX12_fewestOn_10 : decode cX12_fewestOn 10 = .ok (.getfield 239, 3) := by decide +kernel
theorem dX12_fewestOn_13 : decode cX12_fewestOn 13 = .ok (.if_icmp .lt 46, 3) := by decide +kernel
theorem dX12_fewestOn_16 : decode cX12_fewestOn 16 = .ok (.aload_n 0, 1) := by decide +kernel
theorem dX12_fewestOn_17 : decode cX12_fewestOn 17 = .ok (.getfield 242, 3) := by decide +kernel
theorem dX12_fewestOn_20 : decode cX12_fewestOn 20 = .ok (.bipush (-9), 2) := by decide +kernel
theorem dX12_fewestOn_22 : decode cX12_fewestOn 22 = .ok (.if_icmp .eq 27, 3) := by decide +kernel
theorem dX12_fewestOn_25 : decode cX12_fewestOn 25 = .ok (.iload_n 3, 1) := by decide +kernel
theorem dX12_fewestOn_26 : decode cX12_fewestOn 26 = .ok (.aload_n 0, 1) := by decide +kernel
theorem dX12_fewestOn_27 : decode cX12_fewestOn 27 = .ok (.getfield 242, 3) := by decide +kernel
theorem dX12_fewestOn_30 : decode cX12_fewestOn 30 = .ok (.if_icmp .lt 19, 3) := by decide +kernel
theorem dX12_fewestOn_33 : decode cX12_fewestOn 33 = .ok (.iload_n 3, 1) := by decide +kernel
theorem dX12_fewestOn_34 : decode cX12_fewestOn 34 = .ok (.aload_n 0, 1) := by decide +kernel
theorem dX12_fewestOn_35 : decode cX12_fewestOn 35 = .ok (.getfield 242, 3) := by decide +kernel
theorem dX12_fewestOn_38 : decode cX12_fewestOn 38 = .ok (.if_icmp .ne 21, 3) := by decide +kernel
theorem dX12_fewestOn_41 : decode cX12_fewestOn 41 = .ok (.iload_n 2, 1) := by decide +kernel
theorem dX12_fewestOn_42 : decode cX12_fewestOn 42 = .ok (.aload_n 0, 1) := by decide +kernel
theorem dX12_fewestOn_43 : decode cX12_fewestOn 43 = .ok (.getfield 245, 3) := by decide +kernel
theorem dX12_fewestOn_46 : decode cX12_fewestOn 46 = .ok (.if_icmp .le 13, 3) := by decide +kernel
theorem dX12_fewestOn_49 : decode cX12_fewestOn 49 = .ok (.aload_n 0, 1) := by decide +kernel
theorem dX12_fewestOn_50 : decode cX12_fewestOn 50 = .ok (.iload_n 3, 1) := by decide +kernel
theorem dX12_fewestOn_51 : decode cX12_fewestOn 51 = .ok (.putfield 242, 3) := by decide +kernel
theorem dX12_fewestOn_54 : decode cX12_fewestOn 54 = .ok (.aload_n 0, 1) := by decide +kernel
theorem dX12_fewestOn_55 : decode cX12_fewestOn 55 = .ok (.iload_n 2, 1) := by decide +kernel
theorem dX12_fewestOn_56 : decode cX12_fewestOn 56 = .ok (.putfield 245, 3) := by decide +kernel
theorem dX12_fewestOn_59 : decode cX12_fewestOn 59 = .ok (.return_, 1) := by decide +kernel
theorem dX12_fewestOn_60 : decode cX12_fewestOn 60 = .ok (.iconst 0, 1) := by decide +kernel
theorem dX12_fewestOn_61 : decode cX12_fewestOn 61 = .ok (.istore 4, 2) := by decide +kernel
theorem dX12_fewestOn_63 : decode cX12_fewestOn 63 = .ok (.iload 4, 2) := by decide +kernel
theorem dX12_fewestOn_65 : decode cX12_fewestOn 65 = .ok (.iconst 3, 1) := by decide +kernel
theorem dX12_fewestOn_66 : decode cX12_fewestOn 66 = .ok (.if_icmp .ge 55, 3) := by decide +kernel
theorem dX12_fewestOn_69 : decode cX12_fewestOn 69 = .ok (.aload_n 0, 1) := by decide +kernel
theorem dX12_fewestOn_70 : decode cX12_fewestOn 70 = .ok (.iload_n 1, 1) := by decide +kernel
theorem dX12_fewestOn_71 : decode cX12_fewestOn 71 = .ok (.iconst 0, 1) := by decide +kernel
theorem dX12_fewestOn_72 : decode cX12_fewestOn 72 = .ok (.iload 4, 2) := by decide +kernel
theorem dX12_fewestOn_74 : decode cX12_fewestOn 74 = .ok (.invokevirtual 217, 3) := by decide +kernel
theorem dX12_fewestOn_77 : decode cX12_fewestOn 77 = .ok (.istore 5, 2) := by decide +kernel
theorem dX12_fewestOn_79 : decode cX12_fewestOn 79 = .ok (.iload 5, 2) := by decide +kernel
theorem dX12_fewestOn_81 : decode cX12_fewestOn 81 = .ok (.bipush (-9), 2) := by decide +kernel
theorem dX12_fewestOn_83 : decode cX12_fewestOn 83 = .ok (.if_icmp .eq 32, 3) := by decide +kernel
theorem dX12_fewestOn_86 : decode cX12_fewestOn 86 = .ok (.aload_n 0, 1) := by decide +kernel
theorem dX12_fewestOn_87 : decode cX12_fewestOn 87 = .ok (.getfield 47, 3) := by decide +kernel
theorem dX12_fewestOn_90 : decode cX12_fewestOn 90 = .ok (.iload_n 1, 1) := by decide +kernel
theorem dX12_fewestOn_91 : decode cX12_fewestOn 91 = .ok (.iload 4, 2) := by decide +kernel
theorem dX12_fewestOn_93 : decode cX12_fewestOn 93 = .ok (.iastore, 1) := by decide +kernel
theorem dX12_fewestOn_94 : decode cX12_fewestOn 94 = .ok (.aload_n 0, 1) := by decide +kernel
theorem dX12_fewestOn_95 : decode cX12_fewestOn 95 = .ok (.iload_n 1, 1) := by decide +kernel
theorem dX12_fewestOn_96 : decode cX12_fewestOn 96 = .ok (.iconst 1, 1) := by decide +kernel
theorem dX12_fewestOn_97 : decode cX12_fewestOn 97 = .ok (.iadd, 1) := by decide +kernel
theorem dX12_fewestOn_98 : decode cX12_fewestOn 98 = .ok (.iload_n 2, 1) := by decide +kernel
theorem dX12_fewestOn_99 : decode cX12_fewestOn 99 = .ok (.aload_n 0, 1) := by decide +kernel
theorem dX12_fewestOn_100 : decode cX12_fewestOn 100 = .ok (.iload_n 1, 1) := by decide +kernel
theorem dX12_fewestOn_101 : decode cX12_fewestOn 101 = .ok (.iload 4, 2) := by decide +kernel
theorem dX12_fewestOn_103 : decode cX12_fewestOn 103 = .ok (.iconst 0, 1) := by decide +kernel
theorem dX12_fewestOn_104 : decode cX12_fewestOn 104 = .ok (.invokevirtual 185, 3) := by decide +kernel
theorem dX12_fewestOn_107 : decode cX12_fewestOn 107 = .ok (.iadd, 1) := by decide +kernel
theorem dX12_fewestOn_108 : decode cX12_fewestOn 108 = .ok (.iload_n 3, 1) := by decide +kernel
theorem dX12_fewestOn_109 : decode cX12_fewestOn 109 = .ok (.iload 5, 2) := by decide +kernel
theorem dX12_fewestOn_111 : decode cX12_fewestOn 111 = .ok (.iadd, 1) := by decide +kernel
theorem dX12_fewestOn_112 : decode cX12_fewestOn 112 = .ok (.invokevirtual 248, 3) := by decide +kernel
theorem dX12_fewestOn_115 : decode cX12_fewestOn 115 = .ok (.iinc 4 1, 3) := by decide +kernel
theorem dX12_fewestOn_118 : decode cX12_fewestOn 118 = .ok (.goto (-55), 3) := by decide +kernel
theorem dX12_fewestOn_121 : decode cX12_fewestOn 121 = .ok (.return_, 1) := by decide +kernel
theorem dX12_fewest_0 : decode cX12_fewest 0 = .ok (.iload_n 1, 1) := by decide +kernel
theorem dX12_fewest_1 : decode cX12_fewest 1 = .ok (.invokestatic 91, 3) := by decide +kernel
theorem dX12_fewest_4 : decode cX12_fewest 4 = .ok (.ifCond .eq 13, 3) := by decide +kernel
theorem dX12_fewest_7 : decode cX12_fewest 7 = .ok (.iload_n 2, 1) := by decide +kernel
theorem dX12_fewest_8 : decode cX12_fewest 8 = .ok (.iconst 0, 1) := by decide +kernel
theorem dX12_fewest_9 : decode cX12_fewest 9 = .ok (.bipush 108, 2) := by decide +kernel
theorem dX12_fewest_11 : decode cX12_fewest 11 = .ok (.invokestatic 87, 3) := by decide +kernel
theorem dX12_fewest_14 : decode cX12_fewest 14 = .ok (.ifCond .ne 5, 3) := by decide +kernel
theorem dX12_fewest_17 : decode cX12_fewest 17 = .ok (.iconst (-1), 1) := by decide +kernel
theorem dX12_fewest_18 : decode cX12_fewest 18 = .ok (.ireturn, 1) := by decide +kernel
theorem dX12_fewest_19 : decode cX12_fewest 19 = .ok (.aload_n 0, 1) := by decide +kernel
theorem dX12_fewest_20 : decode cX12_fewest 20 = .ok (.iload_n 1, 1) := by decide +kernel
theorem dX12_fewest_21 : decode cX12_fewest 21 = .ok (.iconst 1, 1) := by decide +kernel
theorem dX12_fewest_22 : decode cX12_fewest 22 = .ok (.invokevirtual 229, 3) := by decide +kernel
theorem dX12_fewest_25 : decode cX12_fewest 25 = .ok (.istore_n 3, 1) := by decide +kernel
theorem dX12_fewest_26 : decode cX12_fewest 26 = .ok (.iload_n 3, 1) := by decide +kernel
theorem dX12_fewest_27 : decode cX12_fewest 27 = .ok (.ifCond .ge 5, 3) := by decide +kernel
theorem dX12_fewest_30 : decode cX12_fewest 30 = .ok (.iload_n 3, 1) := by decide +kernel
theorem dX12_fewest_31 : decode cX12_fewest 31 = .ok (.ireturn, 1) := by decide +kernel
theorem dX12_fewest_32 : decode cX12_fewest 32 = .ok (.aload_n 0, 1) := by decide +kernel
theorem dX12_fewest_33 : decode cX12_fewest 33 = .ok (.iload_n 1, 1) := by decide +kernel
theorem dX12_fewest_34 : decode cX12_fewest 34 = .ok (.iconst 1, 1) := by decide +kernel
theorem dX12_fewest_35 : decode cX12_fewest 35 = .ok (.invokevirtual 198, 3) := by decide +kernel
theorem dX12_fewest_38 : decode cX12_fewest 38 = .ok (.aload_n 0, 1) := by decide +kernel
theorem dX12_fewest_39 : decode cX12_fewest 39 = .ok (.iload_n 2, 1) := by decide +kernel
theorem dX12_fewest_40 : decode cX12_fewest 40 = .ok (.putfield 239, 3) := by decide +kernel
theorem dX12_fewest_43 : decode cX12_fewest 43 = .ok (.aload_n 0, 1) := by decide +kernel
theorem dX12_fewest_44 : decode cX12_fewest 44 = .ok (.bipush (-9), 2) := by decide +kernel
theorem dX12_fewest_46 : decode cX12_fewest 46 = .ok (.putfield 242, 3) := by decide +kernel
theorem dX12_fewest_49 : decode cX12_fewest 49 = .ok (.aload_n 0, 1) := by decide +kernel
theorem dX12_fewest_50 : decode cX12_fewest 50 = .ok (.iconst 0, 1) := by decide +kernel
theorem dX12_fewest_51 : decode cX12_fewest 51 = .ok (.iconst 0, 1) := by decide +kernel
theorem dX12_fewest_52 : decode cX12_fewest 52 = .ok (.iconst 0, 1) := by decide +kernel
theorem dX12_fewest_53 : decode cX12_fewest 53 = .ok (.invokevirtual 248, 3) := by decide +kernel
theorem dX12_fewest_56 : decode cX12_fewest 56 = .ok (.aload_n 0, 1) := by decide +kernel
theorem dX12_fewest_57 : decode cX12_fewest 57 = .ok (.getfield 242, 3) := by decide +kernel
theorem dX12_fewest_60 : decode cX12_fewest 60 = .ok (.bipush (-9), 2) := by decide +kernel
theorem dX12_fewest_62 : decode cX12_fewest 62 = .ok (.if_icmp .ne 8, 3) := by decide +kernel
theorem dX12_fewest_65 : decode cX12_fewest 65 = .ok (.bipush (-9), 2) := by decide +kernel
theorem dX12_fewest_67 : decode cX12_fewest 67 = .ok (.goto 15, 3) := by decide +kernel
theorem dX12_fewest_70 : decode cX12_fewest 70 = .ok (.aload_n 0, 1) := by decide +kernel
theorem dX12_fewest_71 : decode cX12_fewest 71 = .ok (.aload_n 0, 1) := by decide +kernel
theorem dX12_fewest_72 : decode cX12_fewest 72 = .ok (.getfield 245, 3) := by decide +kernel
theorem dX12_fewest_75 : decode cX12_fewest 75 = .ok (.aload_n 0, 1) := by decide +kernel
theorem dX12_fewest_76 : decode cX12_fewest 76 = .ok (.getfield 242, 3) := by decide +kernel
theorem dX12_fewest_79 : decode cX12_fewest 79 = .ok (.invokevirtual 113, 3) := by decide +kernel
theorem dX12_fewest_82 : decode cX12_fewest 82 = .ok (.ireturn, 1) := by decide +kernel
theorem dX12_firstStep_0 : decode cX12_firstStep 0 = .ok (.iconst 0, 1) := by decide +kernel
theorem dX12_firstStep_1 : decode cX12_firstStep 1 = .ok (.istore_n 1, 1) := by decide +kernel
theorem dX12_firstStep_2 : decode cX12_firstStep 2 = .ok (.iload_n 1, 1) := by decide +kernel
theorem dX12_firstStep_3 : decode cX12_firstStep 3 = .ok (.bipush 6, 2) := by decide +kernel
theorem dX12_firstStep_5 : decode cX12_firstStep 5 = .ok (.if_icmp .ge 16, 3) := by decide +kernel
theorem dX12_firstStep_8 : decode cX12_firstStep 8 = .ok (.aload_n 0, 1) := by decide +kernel
theorem dX12_firstStep_9 : decode cX12_firstStep 9 = .ok (.getfield 56, 3) := by decide +kernel
theorem dX12_firstStep_12 : decode cX12_firstStep 12 = .ok (.iload_n 1, 1) := by decide +kernel
theorem dX12_firstStep_13 : decode cX12_firstStep 13 = .ok (.iconst 0, 1) := by decide +kernel
theorem dX12_firstStep_14 : decode cX12_firstStep 14 = .ok (.iastore, 1) := by decide +kernel
theorem dX12_firstStep_15 : decode cX12_firstStep 15 = .ok (.iinc 1 1, 3) := by decide +kernel
theorem dX12_firstStep_18 : decode cX12_firstStep 18 = .ok (.goto (-16), 3) := by decide +kernel
theorem dX12_firstStep_21 : decode cX12_firstStep 21 = .ok (.return_, 1) := by decide +kernel
theorem dX12_nextStep_0 : decode cX12_nextStep 0 = .ok (.iconst 0, 1) := by decide +kernel
theorem dX12_nextStep_1 : decode cX12_nextStep 1 = .ok (.istore_n 2, 1) := by decide +kernel
theorem dX12_nextStep_2 : decode cX12_nextStep 2 = .ok (.iconst 0, 1) := by decide +kernel
theorem dX12_nextStep_3 : decode cX12_nextStep 3 = .ok (.istore_n 3, 1) := by decide +kernel
theorem dX12_nextStep_4 : decode cX12_nextStep 4 = .ok (.iload_n 3, 1) := by decide +kernel
theorem dX12_nextStep_5 : decode cX12_nextStep 5 = .ok (.aload_n 0, 1) := by decide +kernel
theorem dX12_nextStep_6 : decode cX12_nextStep 6 = .ok (.getfield 156, 3) := by decide +kernel
theorem dX12_nextStep_9 : decode cX12_nextStep 9 = .ok (.if_icmp .ge 18, 3) := by decide +kernel
theorem dX12_nextStep_12 : decode cX12_nextStep 12 = .ok (.iload_n 2, 1) := by decide +kernel
theorem dX12_nextStep_13 : decode cX12_nextStep 13 = .ok (.aload_n 0, 1) := by decide +kernel
theorem dX12_nextStep_14 : decode cX12_nextStep 14 = .ok (.getfield 56, 3) := by decide +kernel
theorem dX12_nextStep_17 : decode cX12_nextStep 17 = .ok (.iload_n 3, 1) := by decide +kernel
theorem dX12_nextStep_18 : decode cX12_nextStep 18 = .ok (.iaload, 1) := by decide +kernel
theorem dX12_nextStep_19 : decode cX12_nextStep 19 = .ok (.iadd, 1) := by decide +kernel
theorem dX12_nextStep_20 : decode cX12_nextStep 20 = .ok (.istore_n 2, 1) := by decide +kernel
theorem dX12_nextStep_21 : decode cX12_nextStep 21 = .ok (.iinc 3 1, 3) := by decide +kernel
theorem dX12_nextStep_24 : decode cX12_nextStep 24 = .ok (.goto (-20), 3) := by decide +kernel
theorem dX12_nextStep_27 : decode cX12_nextStep 27 = .ok (.aload_n 0, 1) := by decide +kernel
theorem dX12_nextStep_28 : decode cX12_nextStep 28 = .ok (.getfield 156, 3) := by decide +kernel
theorem dX12_nextStep_31 : decode cX12_nextStep 31 = .ok (.iconst 1, 1) := by decide +kernel
theorem dX12_nextStep_32 : decode cX12_nextStep 32 = .ok (.isub, 1) := by decide +kernel
theorem dX12_nextStep_33 : decode cX12_nextStep 33 = .ok (.istore_n 3, 1) := by decide +kernel
theorem dX12_nextStep_34 : decode cX12_nextStep 34 = .ok (.iload_n 3, 1) := by decide +kernel
theorem dX12_nextStep_35 : decode cX12_nextStep 35 = .ok (.ifCond .lt 42, 3) := by decide +kernel
theorem dX12_nextStep_38 : decode cX12_nextStep 38 = .ok (.iload_n 2, 1) := by decide +kernel
theorem dX12_nextStep_39 : decode cX12_nextStep 39 = .ok (.iload_n 1, 1) := by decide +kernel
theorem dX12_nextStep_40 : decode cX12_nextStep 40 = .ok (.if_icmp .ge 15, 3) := by decide +kernel
theorem dX12_nextStep_43 : decode cX12_nextStep 43 = .ok (.aload_n 0, 1) := by decide +kernel
theorem dX12_nextStep_44 : decode cX12_nextStep 44 = .ok (.getfield 56, 3) := by decide +kernel
theorem dX12_nextStep_47 : decode cX12_nextStep 47 = .ok (.iload_n 3, 1) := by decide +kernel
theorem dX12_nextStep_48 : decode cX12_nextStep 48 = .ok (.dup2, 1) := by decide +kernel
theorem dX12_nextStep_49 : decode cX12_nextStep 49 = .ok (.iaload, 1) := by decide +kernel
theorem dX12_nextStep_50 : decode cX12_nextStep 50 = .ok (.iconst 1, 1) := by decide +kernel
theorem dX12_nextStep_51 : decode cX12_nextStep 51 = .ok (.iadd, 1) := by decide +kernel
theorem dX12_nextStep_52 : decode cX12_nextStep 52 = .ok (.iastore, 1) := by decide +kernel
theorem dX12_nextStep_53 : decode cX12_nextStep 53 = .ok (.iconst 1, 1) := by decide +kernel
theorem dX12_nextStep_54 : decode cX12_nextStep 54 = .ok (.ireturn, 1) := by decide +kernel
theorem dX12_nextStep_55 : decode cX12_nextStep 55 = .ok (.iload_n 2, 1) := by decide +kernel
theorem dX12_nextStep_56 : decode cX12_nextStep 56 = .ok (.aload_n 0, 1) := by decide +kernel
theorem dX12_nextStep_57 : decode cX12_nextStep 57 = .ok (.getfield 56, 3) := by decide +kernel
theorem dX12_nextStep_60 : decode cX12_nextStep 60 = .ok (.iload_n 3, 1) := by decide +kernel
theorem dX12_nextStep_61 : decode cX12_nextStep 61 = .ok (.iaload, 1) := by decide +kernel
theorem dX12_nextStep_62 : decode cX12_nextStep 62 = .ok (.isub, 1) := by decide +kernel
theorem dX12_nextStep_63 : decode cX12_nextStep 63 = .ok (.istore_n 2, 1) := by decide +kernel
theorem dX12_nextStep_64 : decode cX12_nextStep 64 = .ok (.aload_n 0, 1) := by decide +kernel
theorem dX12_nextStep_65 : decode cX12_nextStep 65 = .ok (.getfield 56, 3) := by decide +kernel
theorem dX12_nextStep_68 : decode cX12_nextStep 68 = .ok (.iload_n 3, 1) := by decide +kernel
theorem dX12_nextStep_69 : decode cX12_nextStep 69 = .ok (.iconst 0, 1) := by decide +kernel
theorem dX12_nextStep_70 : decode cX12_nextStep 70 = .ok (.iastore, 1) := by decide +kernel
theorem dX12_nextStep_71 : decode cX12_nextStep 71 = .ok (.iinc 3 (-1), 3) := by decide +kernel
theorem dX12_nextStep_74 : decode cX12_nextStep 74 = .ok (.goto (-40), 3) := by decide +kernel
theorem dX12_nextStep_77 : decode cX12_nextStep 77 = .ok (.iconst 0, 1) := by decide +kernel
theorem dX12_nextStep_78 : decode cX12_nextStep 78 = .ok (.ireturn, 1) := by decide +kernel
theorem dX12_stepFor_0 : decode cX12_stepFor 0 = .ok (.iconst 0, 1) := by decide +kernel
theorem dX12_stepFor_1 : decode cX12_stepFor 1 = .ok (.istore_n 2, 1) := by decide +kernel
theorem dX12_stepFor_2 : decode cX12_stepFor 2 = .ok (.iload_n 2, 1) := by decide +kernel
theorem dX12_stepFor_3 : decode cX12_stepFor 3 = .ok (.aload_n 0, 1) := by decide +kernel
theorem dX12_stepFor_4 : decode cX12_stepFor 4 = .ok (.getfield 156, 3) := by decide +kernel
theorem dX12_stepFor_7 : decode cX12_stepFor 7 = .ok (.if_icmp .ge 40, 3) := by decide +kernel
theorem dX12_stepFor_10 : decode cX12_stepFor 10 = .ok (.iload_n 1, 1) := by decide +kernel
theorem dX12_stepFor_11 : decode cX12_stepFor 11 = .ok (.ifCond .ne 18, 3) := by decide +kernel
theorem dX12_stepFor_14 : decode cX12_stepFor 14 = .ok (.aload_n 0, 1) := by decide +kernel
theorem dX12_stepFor_15 : decode cX12_stepFor 15 = .ok (.getfield 41, 3) := by decide +kernel
theorem dX12_stepFor_18 : decode cX12_stepFor 18 = .ok (.iload_n 2, 1) := by decide +kernel
theorem dX12_stepFor_19 : decode cX12_stepFor 19 = .ok (.aload_n 0, 1) := by decide +kernel
theorem dX12_stepFor_20 : decode cX12_stepFor 20 = .ok (.getfield 56, 3) := by decide +kernel
theorem dX12_stepFor_23 : decode cX12_stepFor 23 = .ok (.iload_n 2, 1) := by decide +kernel
theorem dX12_stepFor_24 : decode cX12_stepFor 24 = .ok (.iaload, 1) := by decide +kernel
theorem dX12_stepFor_25 : decode cX12_stepFor 25 = .ok (.iastore, 1) := by decide +kernel
theorem dX12_stepFor_26 : decode cX12_stepFor 26 = .ok (.goto 15, 3) := by decide +kernel
theorem dX12_stepFor_29 : decode cX12_stepFor 29 = .ok (.aload_n 0, 1) := by decide +kernel
theorem dX12_stepFor_30 : decode cX12_stepFor 30 = .ok (.getfield 44, 3) := by decide +kernel
theorem dX12_stepFor_33 : decode cX12_stepFor 33 = .ok (.iload_n 2, 1) := by decide +kernel
theorem dX12_stepFor_34 : decode cX12_stepFor 34 = .ok (.aload_n 0, 1) := by decide +kernel
theorem dX12_stepFor_35 : decode cX12_stepFor 35 = .ok (.getfield 56, 3) := by decide +kernel
theorem dX12_stepFor_38 : decode cX12_stepFor 38 = .ok (.iload_n 2, 1) := by decide +kernel
theorem dX12_stepFor_39 : decode cX12_stepFor 39 = .ok (.iaload, 1) := by decide +kernel
theorem dX12_stepFor_40 : decode cX12_stepFor 40 = .ok (.iastore, 1) := by decide +kernel
theorem dX12_stepFor_41 : decode cX12_stepFor 41 = .ok (.iinc 2 1, 3) := by decide +kernel
theorem dX12_stepFor_44 : decode cX12_stepFor 44 = .ok (.goto (-42), 3) := by decide +kernel
theorem dX12_stepFor_47 : decode cX12_stepFor 47 = .ok (.return_, 1) := by decide +kernel
theorem dX12_ways_0 : decode cX12_ways 0 = .ok (.iload_n 1, 1) := by decide +kernel
theorem dX12_ways_1 : decode cX12_ways 1 = .ok (.invokestatic 91, 3) := by decide +kernel
theorem dX12_ways_4 : decode cX12_ways 4 = .ok (.ifCond .eq 13, 3) := by decide +kernel
theorem dX12_ways_7 : decode cX12_ways 7 = .ok (.iload_n 2, 1) := by decide +kernel
theorem dX12_ways_8 : decode cX12_ways 8 = .ok (.iconst 0, 1) := by decide +kernel
theorem dX12_ways_9 : decode cX12_ways 9 = .ok (.bipush 108, 2) := by decide +kernel
theorem dX12_ways_11 : decode cX12_ways 11 = .ok (.invokestatic 87, 3) := by decide +kernel
theorem dX12_ways_14 : decode cX12_ways 14 = .ok (.ifCond .ne 5, 3) := by decide +kernel
theorem dX12_ways_17 : decode cX12_ways 17 = .ok (.iconst (-1), 1) := by decide +kernel
theorem dX12_ways_18 : decode cX12_ways 18 = .ok (.ireturn, 1) := by decide +kernel
theorem dX12_ways_19 : decode cX12_ways 19 = .ok (.aload_n 0, 1) := by decide +kernel
theorem dX12_ways_20 : decode cX12_ways 20 = .ok (.getfield 35, 3) := by decide +kernel
theorem dX12_ways_23 : decode cX12_ways 23 = .ok (.iconst 0, 1) := by decide +kernel
theorem dX12_ways_24 : decode cX12_ways 24 = .ok (.iaload, 1) := by decide +kernel
theorem dX12_ways_25 : decode cX12_ways 25 = .ok (.bipush 12, 2) := by decide +kernel
theorem dX12_ways_27 : decode cX12_ways 27 = .ok (.if_icmp .le 6, 3) := by decide +kernel
theorem dX12_ways_30 : decode cX12_ways 30 = .ok (.bipush (-6), 2) := by decide +kernel
theorem dX12_ways_32 : decode cX12_ways 32 = .ok (.ireturn, 1) := by decide +kernel
theorem dX12_ways_33 : decode cX12_ways 33 = .ok (.aload_n 0, 1) := by decide +kernel
theorem dX12_ways_34 : decode cX12_ways 34 = .ok (.iload_n 1, 1) := by decide +kernel
theorem dX12_ways_35 : decode cX12_ways 35 = .ok (.iconst 1, 1) := by decide +kernel
theorem dX12_ways_36 : decode cX12_ways 36 = .ok (.invokevirtual 229, 3) := by decide +kernel
theorem dX12_ways_39 : decode cX12_ways 39 = .ok (.istore_n 3, 1) := by decide +kernel
theorem dX12_ways_40 : decode cX12_ways 40 = .ok (.iload_n 3, 1) := by decide +kernel
theorem dX12_ways_41 : decode cX12_ways 41 = .ok (.ifCond .ge 5, 3) := by decide +kernel
theorem dX12_ways_44 : decode cX12_ways 44 = .ok (.iload_n 3, 1) := by decide +kernel
theorem dX12_ways_45 : decode cX12_ways 45 = .ok (.ireturn, 1) := by decide +kernel
theorem dX12_ways_46 : decode cX12_ways 46 = .ok (.aload_n 0, 1) := by decide +kernel
theorem dX12_ways_47 : decode cX12_ways 47 = .ok (.iload_n 1, 1) := by decide +kernel
theorem dX12_ways_48 : decode cX12_ways 48 = .ok (.iconst 1, 1) := by decide +kernel
theorem dX12_ways_49 : decode cX12_ways 49 = .ok (.invokevirtual 198, 3) := by decide +kernel
theorem dX12_ways_52 : decode cX12_ways 52 = .ok (.iconst 0, 1) := by decide +kernel
theorem dX12_ways_53 : decode cX12_ways 53 = .ok (.istore 4, 2) := by decide +kernel
theorem dX12_ways_55 : decode cX12_ways 55 = .ok (.iconst 0, 1) := by decide +kernel
theorem dX12_ways_56 : decode cX12_ways 56 = .ok (.istore 5, 2) := by decide +kernel
theorem dX12_ways_58 : decode cX12_ways 58 = .ok (.aload_n 0, 1) := by decide +kernel
theorem dX12_ways_59 : decode cX12_ways 59 = .ok (.invokevirtual 251, 3) := by decide +kernel
theorem dX12_ways_62 : decode cX12_ways 62 = .ok (.aload_n 0, 1) := by decide +kernel
theorem dX12_ways_63 : decode cX12_ways 63 = .ok (.iconst 0, 1) := by decide +kernel
theorem dX12_ways_64 : decode cX12_ways 64 = .ok (.invokevirtual 254, 3) := by decide +kernel
theorem dX12_ways_67 : decode cX12_ways 67 = .ok (.aload_n 0, 1) := by decide +kernel
theorem dX12_ways_68 : decode cX12_ways 68 = .ok (.invokevirtual 202, 3) := by decide +kernel
theorem dX12_ways_71 : decode cX12_ways 71 = .ok (.iinc 4 1, 3) := by decide +kernel
theorem dX12_ways_74 : decode cX12_ways 74 = .ok (.iload 5, 2) := by decide +kernel
theorem dX12_ways_76 : decode cX12_ways 76 = .ok (.aload_n 0, 1) := by decide +kernel
theorem dX12_ways_77 : decode cX12_ways 77 = .ok (.iconst 0, 1) := by decide +kernel
theorem dX12_ways_78 : decode cX12_ways 78 = .ok (.invokevirtual 205, 3) := by decide +kernel
theorem dX12_ways_81 : decode cX12_ways 81 = .ok (.iload_n 2, 1) := by decide +kernel
theorem dX12_ways_82 : decode cX12_ways 82 = .ok (.if_icmp .lt 7, 3) := by decide +kernel
theorem dX12_ways_85 : decode cX12_ways 85 = .ok (.iconst 1, 1) := by decide +kernel
theorem dX12_ways_86 : decode cX12_ways 86 = .ok (.goto 4, 3) := by decide +kernel
theorem dX12_ways_89 : decode cX12_ways 89 = .ok (.iconst 0, 1) := by decide +kernel
theorem dX12_ways_90 : decode cX12_ways 90 = .ok (.iadd, 1) := by decide +kernel
theorem dX12_ways_91 : decode cX12_ways 91 = .ok (.istore 5, 2) := by decide +kernel
theorem dX12_ways_93 : decode cX12_ways 93 = .ok (.aload_n 0, 1) := by decide +kernel
theorem dX12_ways_94 : decode cX12_ways 94 = .ok (.aload_n 0, 1) := by decide +kernel
theorem dX12_ways_95 : decode cX12_ways 95 = .ok (.getfield 35, 3) := by decide +kernel
theorem dX12_ways_98 : decode cX12_ways 98 = .ok (.iconst 0, 1) := by decide +kernel
theorem dX12_ways_99 : decode cX12_ways 99 = .ok (.iaload, 1) := by decide +kernel
theorem dX12_ways_100 : decode cX12_ways 100 = .ok (.invokevirtual 257, 3) := by decide +kernel
theorem dX12_ways_103 : decode cX12_ways 103 = .ok (.ifCond .ne (-41), 3) := by decide +kernel
theorem dX12_ways_106 : decode cX12_ways 106 = .ok (.aload_n 0, 1) := by decide +kernel
theorem dX12_ways_107 : decode cX12_ways 107 = .ok (.iload 5, 2) := by decide +kernel
theorem dX12_ways_109 : decode cX12_ways 109 = .ok (.i2l, 1) := by decide +kernel
theorem dX12_ways_110 : decode cX12_ways 110 = .ok (.iload 4, 2) := by decide +kernel
theorem dX12_ways_112 : decode cX12_ways 112 = .ok (.i2l, 1) := by decide +kernel
theorem dX12_ways_113 : decode cX12_ways 113 = .ok (.iload 5, 2) := by decide +kernel
theorem dX12_ways_115 : decode cX12_ways 115 = .ok (.invokevirtual 260, 3) := by decide +kernel
theorem dX12_ways_118 : decode cX12_ways 118 = .ok (.ireturn, 1) := by decide +kernel
theorem dX12_worstOn_0 : decode cX12_worstOn 0 = .ok (.iload_n 1, 1) := by decide +kernel
theorem dX12_worstOn_1 : decode cX12_worstOn 1 = .ok (.aload_n 0, 1) := by decide +kernel
theorem dX12_worstOn_2 : decode cX12_worstOn 2 = .ok (.getfield 156, 3) := by decide +kernel
theorem dX12_worstOn_5 : decode cX12_worstOn 5 = .ok (.if_icmp .ne 24, 3) := by decide +kernel
theorem dX12_worstOn_8 : decode cX12_worstOn 8 = .ok (.aload_n 0, 1) := by decide +kernel
theorem dX12_worstOn_9 : decode cX12_worstOn 9 = .ok (.iload_n 2, 1) := by decide +kernel
theorem dX12_worstOn_10 : decode cX12_worstOn 10 = .ok (.aload_n 0, 1) := by decide +kernel
theorem dX12_worstOn_11 : decode cX12_worstOn 11 = .ok (.getfield 264, 3) := by decide +kernel
theorem dX12_worstOn_14 : decode cX12_worstOn 14 = .ok (.if_icmp .ge 7, 3) := by decide +kernel
theorem dX12_worstOn_17 : decode cX12_worstOn 17 = .ok (.iload_n 2, 1) := by decide +kernel
theorem dX12_worstOn_18 : decode cX12_worstOn 18 = .ok (.goto 7, 3) := by decide +kernel
theorem dX12_worstOn_21 : decode cX12_worstOn 21 = .ok (.aload_n 0, 1) := by decide +kernel
theorem dX12_worstOn_22 : decode cX12_worstOn 22 = .ok (.getfield 264, 3) := by decide +kernel
theorem dX12_worstOn_25 : decode cX12_worstOn 25 = .ok (.putfield 264, 3) := by decide +kernel
theorem dX12_worstOn_28 : decode cX12_worstOn 28 = .ok (.return_, 1) := by decide +kernel
theorem dX12_worstOn_29 : decode cX12_worstOn 29 = .ok (.iconst 0, 1) := by decide +kernel
theorem dX12_worstOn_30 : decode cX12_worstOn 30 = .ok (.istore 4, 2) := by decide +kernel
theorem dX12_worstOn_32 : decode cX12_worstOn 32 = .ok (.iload 4, 2) := by decide +kernel
theorem dX12_worstOn_34 : decode cX12_worstOn 34 = .ok (.iconst 3, 1) := by decide +kernel
theorem dX12_worstOn_35 : decode cX12_worstOn 35 = .ok (.if_icmp .ge 68, 3) := by decide +kernel
theorem dX12_worstOn_38 : decode cX12_worstOn 38 = .ok (.aload_n 0, 1) := by decide +kernel
theorem dX12_worstOn_39 : decode cX12_worstOn 39 = .ok (.iload_n 1, 1) := by decide +kernel
theorem dX12_worstOn_40 : decode cX12_worstOn 40 = .ok (.iconst 1, 1) := by decide +kernel
theorem dX12_worstOn_41 : decode cX12_worstOn 41 = .ok (.iload 4, 2) := by decide +kernel
theorem dX12_worstOn_43 : decode cX12_worstOn 43 = .ok (.invokevirtual 217, 3) := by decide +kernel
theorem dX12_worstOn_46 : decode cX12_worstOn 46 = .ok (.istore 5, 2) := by decide +kernel
theorem dX12_worstOn_48 : decode cX12_worstOn 48 = .ok (.iload 5, 2) := by decide +kernel
theorem dX12_worstOn_50 : decode cX12_worstOn 50 = .ok (.bipush (-9), 2) := by decide +kernel
theorem dX12_worstOn_52 : decode cX12_worstOn 52 = .ok (.if_icmp .eq 45, 3) := by decide +kernel
theorem dX12_worstOn_55 : decode cX12_worstOn 55 = .ok (.iload_n 3, 1) := by decide +kernel
theorem dX12_worstOn_56 : decode cX12_worstOn 56 = .ok (.iload 5, 2) := by decide +kernel
theorem dX12_worstOn_58 : decode cX12_worstOn 58 = .ok (.iadd, 1) := by decide +kernel
theorem dX12_worstOn_59 : decode cX12_worstOn 59 = .ok (.aload_n 0, 1) := by decide +kernel
theorem dX12_worstOn_60 : decode cX12_worstOn 60 = .ok (.getfield 35, 3) := by decide +kernel
theorem dX12_worstOn_63 : decode cX12_worstOn 63 = .ok (.iconst 1, 1) := by decide +kernel
theorem dX12_worstOn_64 : decode cX12_worstOn 64 = .ok (.iaload, 1) := by decide +kernel
theorem dX12_worstOn_65 : decode cX12_worstOn 65 = .ok (.if_icmp .gt 32, 3) := by decide +kernel
theorem dX12_worstOn_68 : decode cX12_worstOn 68 = .ok (.aload_n 0, 1) := by decide +kernel
theorem dX12_worstOn_69 : decode cX12_worstOn 69 = .ok (.getfield 47, 3) := by decide +kernel
theorem dX12_worstOn_72 : decode cX12_worstOn 72 = .ok (.iload_n 1, 1) := by decide +kernel
theorem dX12_worstOn_73 : decode cX12_worstOn 73 = .ok (.iload 4, 2) := by decide +kernel
theorem dX12_worstOn_75 : decode cX12_worstOn 75 = .ok (.iastore, 1) := by decide +kernel
theorem dX12_worstOn_76 : decode cX12_worstOn 76 = .ok (.aload_n 0, 1) := by decide +kernel
theorem dX12_worstOn_77 : decode cX12_worstOn 77 = .ok (.iload_n 1, 1) := by decide +kernel
theorem dX12_worstOn_78 : decode cX12_worstOn 78 = .ok (.iconst 1, 1) := by decide +kernel
theorem dX12_worstOn_79 : decode cX12_worstOn 79 = .ok (.iadd, 1) := by decide +kernel
theorem dX12_worstOn_80 : decode cX12_worstOn 80 = .ok (.iload_n 2, 1) := by decide +kernel
theorem dX12_worstOn_81 : decode cX12_worstOn 81 = .ok (.aload_n 0, 1) := by decide +kernel
theorem dX12_worstOn_82 : decode cX12_worstOn 82 = .ok (.iload_n 1, 1) := by decide +kernel
theorem dX12_worstOn_83 : decode cX12_worstOn 83 = .ok (.iload 4, 2) := by decide +kernel
theorem dX12_worstOn_85 : decode cX12_worstOn 85 = .ok (.iconst 0, 1) := by decide +kernel
theorem dX12_worstOn_86 : decode cX12_worstOn 86 = .ok (.invokevirtual 185, 3) := by decide +kernel
theorem dX12_worstOn_89 : decode cX12_worstOn 89 = .ok (.iadd, 1) := by decide +kernel
theorem dX12_worstOn_90 : decode cX12_worstOn 90 = .ok (.iload_n 3, 1) := by decide +kernel
theorem dX12_worstOn_91 : decode cX12_worstOn 91 = .ok (.iload 5, 2) := by decide +kernel
theorem dX12_worstOn_93 : decode cX12_worstOn 93 = .ok (.iadd, 1) := by decide +kernel
theorem dX12_worstOn_94 : decode cX12_worstOn 94 = .ok (.invokevirtual 267, 3) := by decide +kernel
theorem dX12_worstOn_97 : decode cX12_worstOn 97 = .ok (.iinc 4 1, 3) := by decide +kernel
theorem dX12_worstOn_100 : decode cX12_worstOn 100 = .ok (.goto (-68), 3) := by decide +kernel
theorem dX12_worstOn_103 : decode cX12_worstOn 103 = .ok (.return_, 1) := by decide +kernel
theorem dX12_sureOf_0 : decode cX12_sureOf 0 = .ok (.aload_n 0, 1) := by decide +kernel
theorem dX12_sureOf_1 : decode cX12_sureOf 1 = .ok (.sipush 1000, 3) := by decide +kernel
theorem dX12_sureOf_4 : decode cX12_sureOf 4 = .ok (.putfield 264, 3) := by decide +kernel
theorem dX12_sureOf_7 : decode cX12_sureOf 7 = .ok (.aload_n 0, 1) := by decide +kernel
theorem dX12_sureOf_8 : decode cX12_sureOf 8 = .ok (.iconst 0, 1) := by decide +kernel
theorem dX12_sureOf_9 : decode cX12_sureOf 9 = .ok (.iconst 0, 1) := by decide +kernel
theorem dX12_sureOf_10 : decode cX12_sureOf 10 = .ok (.iconst 0, 1) := by decide +kernel
theorem dX12_sureOf_11 : decode cX12_sureOf 11 = .ok (.invokevirtual 267, 3) := by decide +kernel
theorem dX12_sureOf_14 : decode cX12_sureOf 14 = .ok (.aload_n 0, 1) := by decide +kernel
theorem dX12_sureOf_15 : decode cX12_sureOf 15 = .ok (.getfield 264, 3) := by decide +kernel
theorem dX12_sureOf_18 : decode cX12_sureOf 18 = .ok (.ireturn, 1) := by decide +kernel
theorem dX12_sure_0 : decode cX12_sure 0 = .ok (.iload_n 1, 1) := by decide +kernel
theorem dX12_sure_1 : decode cX12_sure 1 = .ok (.invokestatic 91, 3) := by decide +kernel
theorem dX12_sure_4 : decode cX12_sure 4 = .ok (.ifCond .ne 5, 3) := by decide +kernel
theorem dX12_sure_7 : decode cX12_sure 7 = .ok (.iconst (-1), 1) := by decide +kernel
theorem dX12_sure_8 : decode cX12_sure 8 = .ok (.ireturn, 1) := by decide +kernel
theorem dX12_sure_9 : decode cX12_sure 9 = .ok (.aload_n 0, 1) := by decide +kernel
theorem dX12_sure_10 : decode cX12_sure 10 = .ok (.iload_n 1, 1) := by decide +kernel
theorem dX12_sure_11 : decode cX12_sure 11 = .ok (.iconst 0, 1) := by decide +kernel
theorem dX12_sure_12 : decode cX12_sure 12 = .ok (.invokevirtual 229, 3) := by decide +kernel
theorem dX12_sure_15 : decode cX12_sure 15 = .ok (.istore_n 2, 1) := by decide +kernel
theorem dX12_sure_16 : decode cX12_sure 16 = .ok (.iload_n 2, 1) := by decide +kernel
theorem dX12_sure_17 : decode cX12_sure 17 = .ok (.ifCond .ge 5, 3) := by decide +kernel
theorem dX12_sure_20 : decode cX12_sure 20 = .ok (.iload_n 2, 1) := by decide +kernel
theorem dX12_sure_21 : decode cX12_sure 21 = .ok (.ireturn, 1) := by decide +kernel
theorem dX12_sure_22 : decode cX12_sure 22 = .ok (.aload_n 0, 1) := by decide +kernel
theorem dX12_sure_23 : decode cX12_sure 23 = .ok (.iload_n 1, 1) := by decide +kernel
theorem dX12_sure_24 : decode cX12_sure 24 = .ok (.iconst 0, 1) := by decide +kernel
theorem dX12_sure_25 : decode cX12_sure 25 = .ok (.invokevirtual 198, 3) := by decide +kernel
theorem dX12_sure_28 : decode cX12_sure 28 = .ok (.aload_n 0, 1) := by decide +kernel
theorem dX12_sure_29 : decode cX12_sure 29 = .ok (.invokevirtual 270, 3) := by decide +kernel
theorem dX12_sure_32 : decode cX12_sure 32 = .ok (.ireturn, 1) := by decide +kernel
theorem dX12_safe_0 : decode cX12_safe 0 = .ok (.iload_n 1, 1) := by decide +kernel
theorem dX12_safe_1 : decode cX12_safe 1 = .ok (.invokestatic 91, 3) := by decide +kernel
theorem dX12_safe_4 : decode cX12_safe 4 = .ok (.ifCond .ne 5, 3) := by decide +kernel
theorem dX12_safe_7 : decode cX12_safe 7 = .ok (.iconst (-1), 1) := by decide +kernel
theorem dX12_safe_8 : decode cX12_safe 8 = .ok (.ireturn, 1) := by decide +kernel
theorem dX12_safe_9 : decode cX12_safe 9 = .ok (.aload_n 0, 1) := by decide +kernel
theorem dX12_safe_10 : decode cX12_safe 10 = .ok (.getfield 35, 3) := by decide +kernel
theorem dX12_safe_13 : decode cX12_safe 13 = .ok (.iconst 0, 1) := by decide +kernel
theorem dX12_safe_14 : decode cX12_safe 14 = .ok (.iaload, 1) := by decide +kernel
theorem dX12_safe_15 : decode cX12_safe 15 = .ok (.bipush 10, 2) := by decide +kernel
theorem dX12_safe_17 : decode cX12_safe 17 = .ok (.if_icmp .gt 11, 3) := by decide +kernel
theorem dX12_safe_20 : decode cX12_safe 20 = .ok (.aload_n 0, 1) := by decide +kernel
theorem dX12_safe_21 : decode cX12_safe 21 = .ok (.getfield 156, 3) := by decide +kernel
theorem dX12_safe_24 : decode cX12_safe 24 = .ok (.iconst 4, 1) := by decide +kernel
theorem dX12_safe_25 : decode cX12_safe 25 = .ok (.if_icmp .le 6, 3) := by decide +kernel
theorem dX12_safe_28 : decode cX12_safe 28 = .ok (.bipush (-6), 2) := by decide +kernel
theorem dX12_safe_30 : decode cX12_safe 30 = .ok (.ireturn, 1) := by decide +kernel
theorem dX12_safe_31 : decode cX12_safe 31 = .ok (.iconst (-1), 1) := by decide +kernel
theorem dX12_safe_32 : decode cX12_safe 32 = .ok (.istore_n 2, 1) := by decide +kernel
theorem dX12_safe_33 : decode cX12_safe 33 = .ok (.aload_n 0, 1) := by decide +kernel
theorem dX12_safe_34 : decode cX12_safe 34 = .ok (.invokevirtual 251, 3) := by decide +kernel
theorem dX12_safe_37 : decode cX12_safe 37 = .ok (.aload_n 0, 1) := by decide +kernel
theorem dX12_safe_38 : decode cX12_safe 38 = .ok (.iconst 0, 1) := by decide +kernel
theorem dX12_safe_39 : decode cX12_safe 39 = .ok (.invokevirtual 254, 3) := by decide +kernel
theorem dX12_safe_42 : decode cX12_safe 42 = .ok (.aload_n 0, 1) := by decide +kernel
theorem dX12_safe_43 : decode cX12_safe 43 = .ok (.invokevirtual 270, 3) := by decide +kernel
theorem dX12_safe_46 : decode cX12_safe 46 = .ok (.istore_n 3, 1) := by decide +kernel
theorem dX12_safe_47 : decode cX12_safe 47 = .ok (.iload_n 3, 1) := by decide +kernel
theorem dX12_safe_48 : decode cX12_safe 48 = .ok (.iload_n 2, 1) := by decide +kernel
theorem dX12_safe_49 : decode cX12_safe 49 = .ok (.if_icmp .le 37, 3) := by decide +kernel
theorem dX12_safe_52 : decode cX12_safe 52 = .ok (.iload_n 3, 1) := by decide +kernel
theorem dX12_safe_53 : decode cX12_safe 53 = .ok (.istore_n 2, 1) := by decide +kernel
theorem dX12_safe_54 : decode cX12_safe 54 = .ok (.iconst 0, 1) := by decide +kernel
theorem dX12_safe_55 : decode cX12_safe 55 = .ok (.istore 4, 2) := by decide +kernel
theorem dX12_safe_57 : decode cX12_safe 57 = .ok (.iload 4, 2) := by decide +kernel
theorem dX12_safe_59 : decode cX12_safe 59 = .ok (.aload_n 0, 1) := by decide +kernel
theorem dX12_safe_60 : decode cX12_safe 60 = .ok (.getfield 156, 3) := by decide +kernel
theorem dX12_safe_63 : decode cX12_safe 63 = .ok (.if_icmp .ge 23, 3) := by decide +kernel
theorem dX12_safe_66 : decode cX12_safe 66 = .ok (.aload_n 0, 1) := by decide +kernel
theorem dX12_safe_67 : decode cX12_safe 67 = .ok (.getfield 53, 3) := by decide +kernel
theorem dX12_safe_70 : decode cX12_safe 70 = .ok (.iload 4, 2) := by decide +kernel
theorem dX12_safe_72 : decode cX12_safe 72 = .ok (.aload_n 0, 1) := by decide +kernel
theorem dX12_safe_73 : decode cX12_safe 73 = .ok (.getfield 56, 3) := by decide +kernel
theorem dX12_safe_76 : decode cX12_safe 76 = .ok (.iload 4, 2) := by decide +kernel
theorem dX12_safe_78 : decode cX12_safe 78 = .ok (.iaload, 1) := by decide +kernel
theorem dX12_safe_79 : decode cX12_safe 79 = .ok (.iastore, 1) := by decide +kernel
theorem dX12_safe_80 : decode cX12_safe 80 = .ok (.iinc 4 1, 3) := by decide +kernel
theorem dX12_safe_83 : decode cX12_safe 83 = .ok (.goto (-26), 3) := by decide +kernel
theorem dX12_safe_86 : decode cX12_safe 86 = .ok (.aload_n 0, 1) := by decide +kernel
theorem dX12_safe_87 : decode cX12_safe 87 = .ok (.aload_n 0, 1) := by decide +kernel
theorem dX12_safe_88 : decode cX12_safe 88 = .ok (.getfield 35, 3) := by decide +kernel
theorem dX12_safe_91 : decode cX12_safe 91 = .ok (.iconst 0, 1) := by decide +kernel
theorem dX12_safe_92 : decode cX12_safe 92 = .ok (.iaload, 1) := by decide +kernel
theorem dX12_safe_93 : decode cX12_safe 93 = .ok (.invokevirtual 257, 3) := by decide +kernel
theorem dX12_safe_96 : decode cX12_safe 96 = .ok (.ifCond .ne (-59), 3) := by decide +kernel
theorem dX12_safe_99 : decode cX12_safe 99 = .ok (.aload_n 0, 1) := by decide +kernel
theorem dX12_safe_100 : decode cX12_safe 100 = .ok (.iload_n 1, 1) := by decide +kernel
theorem dX12_safe_101 : decode cX12_safe 101 = .ok (.invokevirtual 236, 3) := by decide +kernel
theorem dX12_safe_104 : decode cX12_safe 104 = .ok (.iload_n 2, 1) := by decide +kernel
theorem dX12_safe_105 : decode cX12_safe 105 = .ok (.ireturn, 1) := by decide +kernel
theorem dX12_askedMixed_0 : decode cX12_askedMixed 0 = .ok (.aload_n 0, 1) := by decide +kernel
theorem dX12_askedMixed_1 : decode cX12_askedMixed 1 = .ok (.getfield 35, 3) := by decide +kernel
theorem dX12_askedMixed_4 : decode cX12_askedMixed 4 = .ok (.iconst 1, 1) := by decide +kernel
theorem dX12_askedMixed_5 : decode cX12_askedMixed 5 = .ok (.iaload, 1) := by decide +kernel
theorem dX12_askedMixed_6 : decode cX12_askedMixed 6 = .ok (.bipush 10, 2) := by decide +kernel
theorem dX12_askedMixed_8 : decode cX12_askedMixed 8 = .ok (.if_icmp .gt 11, 3) := by decide +kernel
theorem dX12_askedMixed_11 : decode cX12_askedMixed 11 = .ok (.aload_n 0, 1) := by decide +kernel
theorem dX12_askedMixed_12 : decode cX12_askedMixed 12 = .ok (.getfield 156, 3) := by decide +kernel
theorem dX12_askedMixed_15 : decode cX12_askedMixed 15 = .ok (.iconst 4, 1) := by decide +kernel
theorem dX12_askedMixed_16 : decode cX12_askedMixed 16 = .ok (.if_icmp .le 8, 3) := by decide +kernel
theorem dX12_askedMixed_19 : decode cX12_askedMixed 19 = .ok (.bipush (-6), 2) := by decide +kernel
theorem dX12_askedMixed_21 : decode cX12_askedMixed 21 = .ok (.goto 11, 3) := by decide +kernel
theorem dX12_askedMixed_24 : decode cX12_askedMixed 24 = .ok (.aload_n 0, 1) := by decide +kernel
theorem dX12_askedMixed_25 : decode cX12_askedMixed 25 = .ok (.iload_n 1, 1) := by decide +kernel
theorem dX12_askedMixed_26 : decode cX12_askedMixed 26 = .ok (.iconst 0, 1) := by decide +kernel
theorem dX12_askedMixed_27 : decode cX12_askedMixed 27 = .ok (.iload_n 2, 1) := by decide +kernel
theorem dX12_askedMixed_28 : decode cX12_askedMixed 28 = .ok (.iconst 0, 1) := by decide +kernel
theorem dX12_askedMixed_29 : decode cX12_askedMixed 29 = .ok (.invokevirtual 194, 3) := by decide +kernel
theorem dX12_askedMixed_32 : decode cX12_askedMixed 32 = .ok (.ireturn, 1) := by decide +kernel
theorem q_1353 : Cond.methodLink RX12 248 yX12_fewestOn ∈ wT := wi_t 1353 (by decide +kernel) (by decide +kernel)
theorem q_1356 : Cond.code yX12_fewestOn cX12_fewestOn 6 none ∈ wT := wi_t 1356 (by decide +kernel) (by decide +kernel)
theorem q_1355 : Cond.instanceMethod yX12_fewestOn ∈ wT := wi_t 1355 (by decide +kernel) (by decide +kernel)
theorem qs_64 : Cond.selects RX12 yX12_fewestOn yX12_fewestOn ∈ wT := wi_s (q := (yX12_fewestOn, 42)) 64 (by decide +kernel) (by decide +kernel)
theorem q_1044 : Cond.fieldLink RX12 242 "HeavyFilesModel" "leastSheets" "I" ∈ wT := wi_t 1044 (by decide +kernel) (by decide +kernel)
theorem q_1045 : Cond.fieldLink RX12 245 "HeavyFilesModel" "scoreThen" "I" ∈ wT := wi_t 1045 (by decide +kernel) (by decide +kernel)
theorem q_1039 : Cond.fieldLink RX12 239 "HeavyFilesModel" "goal" "I" ∈ wT := wi_t 1039 (by decide +kernel) (by decide +kernel)
theorem q_1046 : Cond.fieldLink RX12 56 "HeavyFilesModel" "step" "[I" ∈ wT := wi_t 1046 (by decide +kernel) (by decide +kernel)
theorem q_1369 : Cond.methodLink RX12 257 yX12_nextStep ∈ wT := wi_t 1369 (by decide +kernel) (by decide +kernel)
theorem q_1372 : Cond.code yX12_nextStep cX12_nextStep 4 (some .boolean) ∈ wT := wi_t 1372 (by decide +kernel) (by decide +kernel)
theorem q_1371 : Cond.instanceMethod yX12_nextStep ∈ wT := wi_t 1371 (by decide +kernel) (by decide +kernel)
theorem qs_67 : Cond.selects RX12 yX12_nextStep yX12_nextStep ∈ wT := wi_s (q := (yX12_nextStep, 42)) 67 (by decide +kernel) (by decide +kernel)
theorem q_1373 : Cond.methodLink RX12 260 yX12_part ∈ wT := wi_t 1373 (by decide +kernel) (by decide +kernel)
theorem q_1376 : Cond.code yX12_part cX12_part 12 (some .int) ∈ wT := wi_t 1376 (by decide +kernel) (by decide +kernel)
theorem q_1375 : Cond.instanceMethod yX12_part ∈ wT := wi_t 1375 (by decide +kernel) (by decide +kernel)
theorem qs_68 : Cond.selects RX12 yX12_part yX12_part ∈ wT := wi_s (q := (yX12_part, 42)) 68 (by decide +kernel) (by decide +kernel)
theorem q_1365 : Cond.methodLink RX12 254 yX12_stepFor ∈ wT := wi_t 1365 (by decide +kernel) (by decide +kernel)
theorem q_1368 : Cond.code yX12_stepFor cX12_stepFor 3 none ∈ wT := wi_t 1368 (by decide +kernel) (by decide +kernel)
theorem q_1367 : Cond.instanceMethod yX12_stepFor ∈ wT := wi_t 1367 (by decide +kernel) (by decide +kernel)
theorem qs_66 : Cond.selects RX12 yX12_stepFor yX12_stepFor ∈ wT := wi_s (q := (yX12_stepFor, 42)) 66 (by decide +kernel) (by decide +kernel)
theorem q_1361 : Cond.methodLink RX12 251 yX12_firstStep ∈ wT := wi_t 1361 (by decide +kernel) (by decide +kernel)
theorem q_1364 : Cond.code yX12_firstStep cX12_firstStep 2 none ∈ wT := wi_t 1364 (by decide +kernel) (by decide +kernel)
theorem q_1363 : Cond.instanceMethod yX12_firstStep ∈ wT := wi_t 1363 (by decide +kernel) (by decide +kernel)
theorem qs_65 : Cond.selects RX12 yX12_firstStep yX12_firstStep ∈ wT := wi_s (q := (yX12_firstStep, 42)) 65 (by decide +kernel) (by decide +kernel)
theorem q_1385 : Cond.methodLink RX12 267 yX12_worstOn ∈ wT := wi_t 1385 (by decide +kernel) (by decide +kernel)
theorem q_1388 : Cond.code yX12_worstOn cX12_worstOn 6 none ∈ wT := wi_t 1388 (by decide +kernel) (by decide +kernel)
theorem q_1387 : Cond.instanceMethod yX12_worstOn ∈ wT := wi_t 1387 (by decide +kernel) (by decide +kernel)
theorem qs_70 : Cond.selects RX12 yX12_worstOn yX12_worstOn ∈ wT := wi_s (q := (yX12_worstOn, 42)) 70 (by decide +kernel) (by decide +kernel)
theorem q_1047 : Cond.fieldLink RX12 264 "HeavyFilesModel" "leastScore" "I" ∈ wT := wi_t 1047 (by decide +kernel) (by decide +kernel)
theorem q_1381 : Cond.methodLink RX12 270 yX12_sureOf ∈ wT := wi_t 1381 (by decide +kernel) (by decide +kernel)
theorem q_1384 : Cond.code yX12_sureOf cX12_sureOf 1 (some .int) ∈ wT := wi_t 1384 (by decide +kernel) (by decide +kernel)
theorem q_1383 : Cond.instanceMethod yX12_sureOf ∈ wT := wi_t 1383 (by decide +kernel) (by decide +kernel)
theorem qs_69 : Cond.selects RX12 yX12_sureOf yX12_sureOf ∈ wT := wi_s (q := (yX12_sureOf, 42)) 69 (by decide +kernel) (by decide +kernel)
theorem kvX12_fewestOn : KV yX12_fewestOn RX12 cX12_fewestOn 6 none 3 := ⟨q_1355, qs_64, q_13, q_1356, rfl, by decide +kernel, by decide +kernel, by decide +kernel⟩
theorem kvX12_nextStep : KV yX12_nextStep RX12 cX12_nextStep 4 (some .boolean) 1 := ⟨q_1371, qs_67, q_13, q_1372, rfl, by decide +kernel, by decide +kernel, by decide +kernel⟩
theorem kvX12_part : KV yX12_part RX12 cX12_part 12 (some .int) 3 := ⟨q_1375, qs_68, q_13, q_1376, rfl, by decide +kernel, by decide +kernel, by decide +kernel⟩
theorem kvX12_stepFor : KV yX12_stepFor RX12 cX12_stepFor 3 none 1 := ⟨q_1367, qs_66, q_13, q_1368, rfl, by decide +kernel, by decide +kernel, by decide +kernel⟩
theorem kvX12_firstStep : KV yX12_firstStep RX12 cX12_firstStep 2 none 0 := ⟨q_1363, qs_65, q_13, q_1364, rfl, by decide +kernel, by decide +kernel, by decide +kernel⟩
theorem kvX12_worstOn : KV yX12_worstOn RX12 cX12_worstOn 6 none 3 := ⟨q_1387, qs_70, q_13, q_1388, rfl, by decide +kernel, by decide +kernel, by decide +kernel⟩
theorem kvX12_sureOf : KV yX12_sureOf RX12 cX12_sureOf 1 (some .int) 0 := ⟨q_1383, qs_69, q_13, q_1384, rfl, by decide +kernel, by decide +kernel, by decide +kernel⟩
/-! HeavyFilesModel.fewestOn(III)V -/
def fX12_fewestOn_115 (N : Nat) (rec : Nat → Int32 → Int32 → Int32 → Mm → Option (Unit × Mm)) (k63 : Nat → Int32 → Int32 → Int32 → Int32 → Mm → Option (Unit × Mm)) (a0 : Nat) (a1 : Int32) (a2 : Int32) (a3 : Int32) (a4 : Int32) (mm : Mm) : Option (Unit × Mm) :=
  k63 a0 a1 a2 a3 (a4 + 1) mm
def fX12_fewestOn_63 (N : Nat) (rec : Nat → Int32 → Int32 → Int32 → Mm → Option (Unit × Mm)) : Nat → Nat → Int32 → Int32 → Int32 → Int32 → Mm → Option (Unit × Mm)
  | 0 => fun _ _ _ _ _ _ => none
  | n + 1 => fun a0 a1 a2 a3 a4 mm =>
    let k63 := fX12_fewestOn_63 N rec n
    if (3 : Int32) ≤ a4 then (some ((), mm)) else (bd2 (fX12_fewestFor N a0 a1 0 a4 mm) fun x2 m3 => if x2 = (-9) then (fX12_fewestOn_115 N rec k63 a0 a1 a2 a3 a4 m3) else (gd (inb a1 (ln (fr a0 21))) <| nm (wr m3 (fr a0 21) a1.toNatClampNeg a4) fun m7 => bd2 (fX12_worthOf N a0 a1 a4 0 m7) fun x8 m9 => bd2 (rec a0 (a1 + 1) (a2 + x8) (a3 + x2) m9) fun x11 m12 => fX12_fewestOn_115 N rec k63 a0 a1 a2 a3 a4 m12))
def fX12_fewestOn_49 (N : Nat) (rec : Nat → Int32 → Int32 → Int32 → Mm → Option (Unit × Mm)) (a0 : Nat) (a2 : Int32) (a3 : Int32) (mm : Mm) : Option (Unit × Mm) :=
  nm (wr mm a0 28 a3) fun m14 => nm (wr m14 a0 29 a2) fun m15 => some ((), m15)
def fX12_fewestOn_0 (N : Nat) (rec : Nat → Int32 → Int32 → Int32 → Mm → Option (Unit × Mm)) (a0 : Nat) (a1 : Int32) (a2 : Int32) (a3 : Int32) (mm : Mm) : Option (Unit × Mm) :=
  if a1 = (rd mm a0 10) then (if a2 < (rd mm a0 23) then (some ((), mm)) else (if (rd mm a0 28) = (-9) then (fX12_fewestOn_49 N rec a0 a2 a3 mm) else (if a3 < (rd mm a0 28) then (fX12_fewestOn_49 N rec a0 a2 a3 mm) else (if a3 = (rd mm a0 28) then (if a2 ≤ (rd mm a0 29) then (some ((), mm)) else (fX12_fewestOn_49 N rec a0 a2 a3 mm)) else (some ((), mm)))))) else (fX12_fewestOn_63 N rec N a0 a1 a2 a3 0 mm)
def fX12_fewestOn (N : Nat) : Nat → Nat → Int32 → Int32 → Int32 → Mm → Option (Unit × Mm)
  | 0 => fun _ _ _ _ _ => none
  | d + 1 => fun a0 a1 a2 a3 mm => fX12_fewestOn_0 N (fX12_fewestOn N d) a0 a1 a2 a3 mm
def rmX12_fewestOn (d : Nat) : Room := { frames := 5 + d, cells := 0, slots := 0, locals := 168 + d * 46 }
/-! HeavyFilesModel.fewest(II)I -/
def fX12_fewest (N : Nat)  (a0 : Nat) (a1 : Int32) (a2 : Int32) (mm : Mm) : Option (Int32 × Mm) :=
  bd2 (fX12_isRow N a1 mm) fun x1 m2 => if x1 = 0 then (some ((-1), m2)) else (bd2 (fX12_in N a2 0 108 m2) fun x5 m6 => if x5 = 0 then (some ((-1), m6)) else (bd2 (fX12_askedLaying N a0 a1 1 m6) fun x9 m10 => if (0 : Int32) ≤ x9 then (bd2 (fX12_takes N a0 a1 1 m10) fun x13 m14 => nm (wr m14 a0 23 a2) fun m16 => nm (wr m16 a0 28 (-9)) fun m17 => bd2 (fX12_fewestOn N 9 a0 0 0 0 m17) fun x18 m19 => if (rd m19 a0 28) = (-9) then (some ((-9), m19)) else (bd2 (fX12_ask N a0 (rd m19 a0 29) (rd m19 a0 28) m19) fun x22 m23 => some (x22, m23))) else (some (x9, m10))))
abbrev rmX12_fewest : Room := { frames := 15, cells := 0, slots := 0, locals := 795 }
/-! HeavyFilesModel.firstStep()V -/
def fX12_firstStep_2 (N : Nat)  : Nat → Nat → Int32 → Mm → Option (Unit × Mm)
  | 0 => fun _ _ _ => none
  | n + 1 => fun a0 a1 mm =>
    let k2 := fX12_firstStep_2 N  n
    if (6 : Int32) ≤ a1 then (some ((), mm)) else (gd (inb a1 (ln (fr a0 30))) <| nm (wr mm (fr a0 30) a1.toNatClampNeg 0) fun m3 => k2 a0 (a1 + 1) m3)
def fX12_firstStep (N : Nat)  (a0 : Nat) (mm : Mm) : Option (Unit × Mm) :=
  fX12_firstStep_2 N N a0 0 mm
abbrev rmX12_firstStep : Room := { frames := 1, cells := 0, slots := 0, locals := 40 }
/-! HeavyFilesModel.nextStep(I)Z -/
def fX12_nextStep_34 (N : Nat)  : Nat → Nat → Int32 → Int32 → Int32 → Mm → Option (Int32 × Mm)
  | 0 => fun _ _ _ _ _ => none
  | n + 1 => fun a0 a1 a2 a3 mm =>
    let k34 := fX12_nextStep_34 N  n
    if a3 < 0 then (some (0, mm)) else (if a1 ≤ a2 then (gd (inb a3 (ln (fr a0 30))) <| nm (a2 - (rd mm (fr a0 30) a3.toNatClampNeg)) fun x4 => gd (inb a3 (ln (fr a0 30))) <| nm (wr mm (fr a0 30) a3.toNatClampNeg 0) fun m6 => k34 a0 a1 x4 (a3 + (-1)) m6) else (gd (inb a3 (ln (fr a0 30))) <| gd (inb a3 (ln (fr a0 30))) <| nm (wr mm (fr a0 30) a3.toNatClampNeg ((rd mm (fr a0 30) a3.toNatClampNeg) + 1)) fun m9 => some (1, m9)))
def fX12_nextStep_4 (N : Nat)  : Nat → Nat → Int32 → Int32 → Int32 → Mm → Option (Int32 × Mm)
  | 0 => fun _ _ _ _ _ => none
  | n + 1 => fun a0 a1 a2 a3 mm =>
    let k4 := fX12_nextStep_4 N  n
    if (rd mm a0 10) ≤ a3 then (fX12_nextStep_34 N N a0 a1 a2 ((rd mm a0 10) - 1) mm) else (gd (inb a3 (ln (fr a0 30))) <| nm (a2 + (rd mm (fr a0 30) a3.toNatClampNeg)) fun x12 => k4 a0 a1 x12 (a3 + 1) mm)
def fX12_nextStep (N : Nat)  (a0 : Nat) (a1 : Int32) (mm : Mm) : Option (Int32 × Mm) :=
  fX12_nextStep_4 N N a0 a1 0 0 mm
abbrev rmX12_nextStep : Room := { frames := 1, cells := 0, slots := 0, locals := 40 }
/-! HeavyFilesModel.stepFor(I)V -/
def fX12_stepFor_41 (N : Nat) (k2 : Nat → Int32 → Int32 → Mm → Option (Unit × Mm)) (a0 : Nat) (a1 : Int32) (a2 : Int32) (mm : Mm) : Option (Unit × Mm) :=
  k2 a0 a1 (a2 + 1) mm
def fX12_stepFor_2 (N : Nat)  : Nat → Nat → Int32 → Int32 → Mm → Option (Unit × Mm)
  | 0 => fun _ _ _ _ => none
  | n + 1 => fun a0 a1 a2 mm =>
    let k2 := fX12_stepFor_2 N  n
    if (rd mm a0 10) ≤ a2 then (some ((), mm)) else (if a1 = 0 then (gd (inb a2 (ln (fr a0 30))) <| gd (inb a2 (ln (fr a0 19))) <| nm (wr mm (fr a0 19) a2.toNatClampNeg (rd mm (fr a0 30) a2.toNatClampNeg)) fun m8 => fX12_stepFor_41 N k2 a0 a1 a2 m8) else (gd (inb a2 (ln (fr a0 30))) <| gd (inb a2 (ln (fr a0 20))) <| nm (wr mm (fr a0 20) a2.toNatClampNeg (rd mm (fr a0 30) a2.toNatClampNeg)) fun m5 => fX12_stepFor_41 N k2 a0 a1 a2 m5))
def fX12_stepFor (N : Nat)  (a0 : Nat) (a1 : Int32) (mm : Mm) : Option (Unit × Mm) :=
  fX12_stepFor_2 N N a0 a1 0 mm
abbrev rmX12_stepFor : Room := { frames := 1, cells := 0, slots := 0, locals := 40 }
/-! HeavyFilesModel.ways(II)I -/
def fX12_ways_90 (N : Nat) (k62 : Nat → Int32 → Int32 → Int32 → Mm → Option (Int32 × Mm)) (a0 : Nat) (a2 : Int32) (a4 : Int32) (s0 : Int32) (s1 : Int32) (mm : Mm) : Option (Int32 × Mm) :=
  gd (inb 0 (ln (fr a0 12))) <| bd2 (fX12_nextStep N a0 (rd mm (fr a0 12) ((0 : Int32).toNatClampNeg)) mm) fun x2 m3 => if x2 = 0 then (bd2 (fX12_part N a0 ((s0 + s1).toInt64) a4.toInt64 (s0 + s1) m3) fun x6 m7 => some (x6, m7)) else (k62 a0 a2 a4 (s0 + s1) m3)
def fX12_ways_62 (N : Nat)  : Nat → Nat → Int32 → Int32 → Int32 → Mm → Option (Int32 × Mm)
  | 0 => fun _ _ _ _ _ => none
  | n + 1 => fun a0 a2 a4 a5 mm =>
    let k62 := fX12_ways_62 N  n
    bd2 (fX12_stepFor N a0 0 mm) fun x9 m10 => bd2 (fX12_setWinners N a0 m10) fun x12 m13 => bd2 (fX12_scoreOf N a0 0 m13) fun x15 m16 => if x15 < a2 then (fX12_ways_90 N k62 a0 a2 (a4 + 1) a5 0 m16) else (fX12_ways_90 N k62 a0 a2 (a4 + 1) a5 1 m16)
def fX12_ways (N : Nat)  (a0 : Nat) (a1 : Int32) (a2 : Int32) (mm : Mm) : Option (Int32 × Mm) :=
  bd2 (fX12_isRow N a1 mm) fun x19 m20 => if x19 = 0 then (some ((-1), m20)) else (bd2 (fX12_in N a2 0 108 m20) fun x23 m24 => if x23 = 0 then (some ((-1), m24)) else (gd (inb 0 (ln (fr a0 12))) <| if (rd m24 (fr a0 12) ((0 : Int32).toNatClampNeg)) ≤ 12 then (bd2 (fX12_askedLaying N a0 a1 1 m24) fun x29 m30 => if (0 : Int32) ≤ x29 then (bd2 (fX12_takes N a0 a1 1 m30) fun x33 m34 => bd2 (fX12_firstStep N a0 m34) fun x36 m37 => fX12_ways_62 N N a0 a2 0 0 m37) else (some (x29, m30))) else (some ((-6), m24))))
abbrev rmX12_ways : Room := { frames := 5, cells := 0, slots := 0, locals := 165 }
/-! HeavyFilesModel.worstOn(III)V -/
def fX12_worstOn_97 (N : Nat) (rec : Nat → Int32 → Int32 → Int32 → Mm → Option (Unit × Mm)) (k32 : Nat → Int32 → Int32 → Int32 → Int32 → Mm → Option (Unit × Mm)) (a0 : Nat) (a1 : Int32) (a2 : Int32) (a3 : Int32) (a4 : Int32) (mm : Mm) : Option (Unit × Mm) :=
  k32 a0 a1 a2 a3 (a4 + 1) mm
def fX12_worstOn_32 (N : Nat) (rec : Nat → Int32 → Int32 → Int32 → Mm → Option (Unit × Mm)) : Nat → Nat → Int32 → Int32 → Int32 → Int32 → Mm → Option (Unit × Mm)
  | 0 => fun _ _ _ _ _ _ => none
  | n + 1 => fun a0 a1 a2 a3 a4 mm =>
    let k32 := fX12_worstOn_32 N rec n
    if (3 : Int32) ≤ a4 then (some ((), mm)) else (bd2 (fX12_fewestFor N a0 a1 1 a4 mm) fun x2 m3 => if x2 = (-9) then (fX12_worstOn_97 N rec k32 a0 a1 a2 a3 a4 m3) else (gd (inb 1 (ln (fr a0 12))) <| if (rd m3 (fr a0 12) ((1 : Int32).toNatClampNeg)) < (a3 + x2) then (fX12_worstOn_97 N rec k32 a0 a1 a2 a3 a4 m3) else (gd (inb a1 (ln (fr a0 21))) <| nm (wr m3 (fr a0 21) a1.toNatClampNeg a4) fun m9 => bd2 (fX12_worthOf N a0 a1 a4 0 m9) fun x10 m11 => bd2 (rec a0 (a1 + 1) (a2 + x10) (a3 + x2) m11) fun x13 m14 => fX12_worstOn_97 N rec k32 a0 a1 a2 a3 a4 m14)))
def fX12_worstOn_25 (N : Nat) (rec : Nat → Int32 → Int32 → Int32 → Mm → Option (Unit × Mm)) (s0 : Nat) (s1 : Int32) (mm : Mm) : Option (Unit × Mm) :=
  nm (wr mm s0 31 s1) fun m16 => some ((), m16)
def fX12_worstOn_0 (N : Nat) (rec : Nat → Int32 → Int32 → Int32 → Mm → Option (Unit × Mm)) (a0 : Nat) (a1 : Int32) (a2 : Int32) (a3 : Int32) (mm : Mm) : Option (Unit × Mm) :=
  if a1 = (rd mm a0 10) then (if (rd mm a0 31) ≤ a2 then (fX12_worstOn_25 N rec a0 (rd mm a0 31) mm) else (fX12_worstOn_25 N rec a0 a2 mm)) else (fX12_worstOn_32 N rec N a0 a1 a2 a3 0 mm)
def fX12_worstOn (N : Nat) : Nat → Nat → Int32 → Int32 → Int32 → Mm → Option (Unit × Mm)
  | 0 => fun _ _ _ _ _ => none
  | d + 1 => fun a0 a1 a2 a3 mm => fX12_worstOn_0 N (fX12_worstOn N d) a0 a1 a2 a3 mm
def rmX12_worstOn (d : Nat) : Room := { frames := 5 + d, cells := 0, slots := 0, locals := 168 + d * 46 }
/-! HeavyFilesModel.sureOf()I -/
def fX12_sureOf (N : Nat)  (a0 : Nat) (mm : Mm) : Option (Int32 × Mm) :=
  nm (wr mm a0 31 1000) fun m1 => bd2 (fX12_worstOn N 9 a0 0 0 0 m1) fun x2 m3 => some (rd m3 a0 31, m3)
abbrev rmX12_sureOf : Room := { frames := 15, cells := 0, slots := 0, locals := 795 }
/-! HeavyFilesModel.sure(I)I -/
def fX12_sure (N : Nat)  (a0 : Nat) (a1 : Int32) (mm : Mm) : Option (Int32 × Mm) :=
  bd2 (fX12_isRow N a1 mm) fun x1 m2 => if x1 = 0 then (some ((-1), m2)) else (bd2 (fX12_askedLaying N a0 a1 0 m2) fun x5 m6 => if (0 : Int32) ≤ x5 then (bd2 (fX12_takes N a0 a1 0 m6) fun x9 m10 => bd2 (fX12_sureOf N a0 m10) fun x12 m13 => some (x12, m13)) else (some (x5, m6)))
abbrev rmX12_sure : Room := { frames := 16, cells := 0, slots := 0, locals := 823 }
/-! HeavyFilesModel.safe(I)I -/
def fX12_safe_86 (N : Nat) (k37 : Nat → Int32 → Int32 → Mm → Option (Int32 × Mm)) (a0 : Nat) (a1 : Int32) (a2 : Int32) (mm : Mm) : Option (Int32 × Mm) :=
  gd (inb 0 (ln (fr a0 12))) <| bd2 (fX12_nextStep N a0 (rd mm (fr a0 12) ((0 : Int32).toNatClampNeg)) mm) fun x2 m3 => if x2 = 0 then (bd2 (fX12_layBest N a0 a1 m3) fun x6 m7 => some (a2, m7)) else (k37 a0 a1 a2 m3)
def fX12_safe_57 (N : Nat) (k37 : Nat → Int32 → Int32 → Mm → Option (Int32 × Mm)) : Nat → Nat → Int32 → Int32 → Int32 → Mm → Option (Int32 × Mm)
  | 0 => fun _ _ _ _ _ => none
  | n + 1 => fun a0 a1 a2 a4 mm =>
    let k57 := fX12_safe_57 N k37 n
    if (rd mm a0 10) ≤ a4 then (fX12_safe_86 N k37 a0 a1 a2 mm) else (gd (inb a4 (ln (fr a0 30))) <| gd (inb a4 (ln (fr a0 27))) <| nm (wr mm (fr a0 27) a4.toNatClampNeg (rd mm (fr a0 30) a4.toNatClampNeg)) fun m12 => k57 a0 a1 a2 (a4 + 1) m12)
def fX12_safe_37 (N : Nat)  : Nat → Nat → Int32 → Int32 → Mm → Option (Int32 × Mm)
  | 0 => fun _ _ _ _ => none
  | n + 1 => fun a0 a1 a2 mm =>
    let k37 := fX12_safe_37 N  n
    bd2 (fX12_stepFor N a0 0 mm) fun x13 m14 => bd2 (fX12_sureOf N a0 m14) fun x16 m17 => if x16 ≤ a2 then (fX12_safe_86 N k37 a0 a1 a2 m17) else (fX12_safe_57 N k37 N a0 a1 x16 0 m17)
def fX12_safe (N : Nat)  (a0 : Nat) (a1 : Int32) (mm : Mm) : Option (Int32 × Mm) :=
  bd2 (fX12_isRow N a1 mm) fun x20 m21 => if x20 = 0 then (some ((-1), m21)) else (gd (inb 0 (ln (fr a0 12))) <| if (10 : Int32) < (rd m21 (fr a0 12) ((0 : Int32).toNatClampNeg)) then (some ((-6), m21)) else (if (rd m21 a0 10) ≤ 4 then (bd2 (fX12_firstStep N a0 m21) fun x27 m28 => fX12_safe_37 N N a0 a1 (-1) m28) else (some ((-6), m21))))
abbrev rmX12_safe : Room := { frames := 16, cells := 0, slots := 0, locals := 823 }
/-! HeavyFilesModel.askedMixed(II)I -/
def fX12_askedMixed (N : Nat)  (a0 : Nat) (a1 : Int32) (a2 : Int32) (mm : Mm) : Option (Int32 × Mm) :=
  gd (inb 1 (ln (fr a0 12))) <| if (10 : Int32) < (rd mm (fr a0 12) ((1 : Int32).toNatClampNeg)) then (some ((-6), mm)) else (if (rd mm a0 10) ≤ 4 then (bd2 (fX12_askedTwo N a0 a1 0 a2 0 mm) fun x4 m5 => some (x4, m5)) else (some ((-6), mm)))
abbrev rmX12_askedMixed : Room := { frames := 4, cells := 0, slots := 0, locals := 135 }
section W_model24
variable {p : Program} {l : Launch} {e : Env} {s : State} {m : MethodId} {args : Array Value} {below : List Frame} {meth : Method} {c : Code} {D : va_G} {ca ad : Nat → Nat}
set_option maxRecDepth 100000 in
set_option maxHeartbeats 4000000 in
theorem wX12_fewestOn_115 (C : Cx p s m meth c args cX12_fewestOn 6 none RX12 D ca ad) {res : Unit × Mm} {d0 : Nat} {N : Nat} {rec : Nat → Int32 → Int32 → Int32 → Mm → Option (Unit × Mm)} {k63 : Nat → Int32 → Int32 → Int32 → Int32 → Mm → Option (Unit × Mm)} (hrec : ∀ (a0 : Nat) (a1 : Int32) (a2 : Int32) (a3 : Int32) (mm : Mm) (res : Unit × Mm), (sX12 a0) → rec a0 a1 a2 a3 mm = some res → Met l yX12_fewestOn (WS yX12_fewestOn cX12_fewestOn 6 none) (rmX12_fewestOn d0) (va_Pc [.ref (ad a0), .int a1, .int a2, .int a3] (WB D ca ad mm)) (QV D ca ad res) 0 0 (AA ad)) (hk63 : ∀ (a0 : Nat) (a1 : Int32) (a2 : Int32) (a3 : Int32) (a4 : Int32) (mm : Mm) (H : Heap) (locs : List Loc) (ls : Array Slot), (sX12 a0) → Wd D ca ad s.heap mm H locs → lv_has ls 6 [(0, .ref (ad a0)), (1, .int a1), (2, .int a2), (3, .int a3), (4, .int a4)] → k63 a0 a1 a2 a3 a4 mm = some res → W p l e (rmX12_fewestOn (d0 + 1)) s m args below meth c H locs 0 0 (MQ below (QV D ca ad res) args s 0 0 (AA ad)) (F0 m 63 ls [])) {a0 : Nat} {a1 : Int32} {a2 : Int32} {a3 : Int32} {a4 : Int32} {mm : Mm} {H : Heap} {locs : List Loc} {ls : Array Slot} (ha0 : sX12 a0) (hW : Wd D ca ad s.heap mm H locs) (hl : lv_has ls 6 [(0, .ref (ad a0)), (1, .int a1), (2, .int a2), (3, .int a3), (4, .int a4)]) (hf : fX12_fewestOn_115 N rec k63 a0 a1 a2 a3 a4 mm = some res) : W p l e (rmX12_fewestOn (d0 + 1)) s m args below meth c H locs 0 0 (MQ below (QV D ca ad res) args s 0 0 (AA ad)) (F0 m 115 ls []) := by
  unfold fX12_fewestOn_115 at hf
  refine lv_iinc (v := (a4 + 1)) (lv' := [(4, .int (a4 + 1)), (0, .ref (ad a0)), (1, .int a1), (2, .int a2), (3, .int a3)]) C.1 C.2.1 dX12_fewestOn_115 hl (k := 4) rfl rfl (by decide) rfl (fun ls hl => ?_)
  refine lv_goto (tgt := 63) C.1 C.2.1 dX12_fewestOn_118 (by decide) ?_
  exact hk63 _ _ _ _ _ _ _ _ _ ha0 hW (lv_sub hl [1, 2, 3, 4, 0] rfl) hf
set_option maxRecDepth 100000 in
set_option maxHeartbeats 4000000 in
theorem wX12_fewestOn_63 (C : Cx p s m meth c args cX12_fewestOn 6 none RX12 D ca ad) {res : Unit × Mm} {d0 : Nat} {N : Nat} {rec : Nat → Int32 → Int32 → Int32 → Mm → Option (Unit × Mm)} (hrec : ∀ (a0 : Nat) (a1 : Int32) (a2 : Int32) (a3 : Int32) (mm : Mm) (res : Unit × Mm), (sX12 a0) → rec a0 a1 a2 a3 mm = some res → Met l yX12_fewestOn (WS yX12_fewestOn cX12_fewestOn 6 none) (rmX12_fewestOn d0) (va_Pc [.ref (ad a0), .int a1, .int a2, .int a3] (WB D ca ad mm)) (QV D ca ad res) 0 0 (AA ad)) : ∀ (n : Nat) {a0 : Nat} {a1 : Int32} {a2 : Int32} {a3 : Int32} {a4 : Int32} {mm : Mm} {H : Heap} {locs : List Loc} {ls : Array Slot}, (sX12 a0) → Wd D ca ad s.heap mm H locs → lv_has ls 6 [(0, .ref (ad a0)), (1, .int a1), (2, .int a2), (3, .int a3), (4, .int a4)] → fX12_fewestOn_63 N rec n a0 a1 a2 a3 a4 mm = some res → W p l e (rmX12_fewestOn (d0 + 1)) s m args below meth c H locs 0 0 (MQ below (QV D ca ad res) args s 0 0 (AA ad)) (F0 m 63 ls []) := by
  intro n
  induction n with
  | zero => intro a0 a1 a2 a3 a4 mm H locs ls ha0 hW hl hf; cases hf
  | succ n ih =>
    intro a0 a1 a2 a3 a4 mm H locs ls ha0 hW hl hf
    have hk63 : ∀ (a0 : Nat) (a1 : Int32) (a2 : Int32) (a3 : Int32) (a4 : Int32) (mm : Mm) (H : Heap) (locs : List Loc) (ls : Array Slot), (sX12 a0) → Wd D ca ad s.heap mm H locs → lv_has ls 6 [(0, .ref (ad a0)), (1, .int a1), (2, .int a2), (3, .int a3), (4, .int a4)] → (fX12_fewestOn_63 N rec n) a0 a1 a2 a3 a4 mm = some res → W p l e (rmX12_fewestOn (d0 + 1)) s m args below meth c H locs 0 0 (MQ below (QV D ca ad res) args s 0 0 (AA ad)) (F0 m 63 ls []) := fun a0 a1 a2 a3 a4 mm H locs ls ha0 hW hl hf => ih ha0 hW hl hf
    unfold fX12_fewestOn_63 at hf
    try dsimp only at hf
    refine lv_iload C.1 C.2.1 dX12_fewestOn_63 (lv_at hl 4 rfl) ?_
    refine lv_iconst (v := 3) C.1 C.2.1 dX12_fewestOn_65 (by decide) ?_
    refine lv_icmp_ge (tgt := 121) C.1 C.2.1 dX12_fewestOn_66 (by decide) (fun c1 => ?_) (fun c1 => ?_)
    · have hf := if_t c1 hf
      cases hf
      exact x_vret C hW dX12_fewestOn_121
    · have hf := if_f c1 hf
      refine lv_aload_n C.1 C.2.1 dX12_fewestOn_69 rfl (lv_at hl 0 rfl) ?_
      refine lv_iload_n C.1 C.2.1 dX12_fewestOn_70 rfl (lv_at hl 1 rfl) ?_
      refine lv_iconst (v := 0) C.1 C.2.1 dX12_fewestOn_71 (by decide) ?_
      refine lv_iload C.1 C.2.1 dX12_fewestOn_72 (lv_at hl 4 rfl) ?_
      obtain ⟨x2, m3, r4, hf⟩ := bd2_s hf
      refine x_ci hW (x_runV C hW [.int a1, .int 0, .int a4] [] (ha0).1 (ha0).2.1 kX12.1 kvX12_fewestFor q_1340 (tX12_fewestFor l C.2.2.2.2.2.2.1 ha0 r4) rfl rfl ⟨by first | decide | (simp only [rmX12_fewestFor, rmX12_fewestOn]; omega), by first | decide | (simp only [rmX12_fewestFor, rmX12_fewestOn]; omega)⟩ rfl hl.1 rfl (Nat.le_of_ble_eq_true rfl) dX12_fewestOn_74) (fun H locs hW => ?_)
      refine lv_istore (lv' := [(5, .int x2), (0, .ref (ad a0)), (1, .int a1), (2, .int a2), (3, .int a3), (4, .int a4)]) C.1 C.2.1 dX12_fewestOn_77 hl (by decide) rfl (fun ls hl => ?_)
      refine lv_iload C.1 C.2.1 dX12_fewestOn_79 (lv_at hl 0 rfl) ?_
      refine lv_bipush (v := (-9)) C.1 C.2.1 dX12_fewestOn_81 (by decide) ?_
      refine lv_icmp_eq (tgt := 115) C.1 C.2.1 dX12_fewestOn_83 (by decide) (fun c5 => ?_) (fun c5 => ?_)
      · have hf := if_t c5 hf
        exact wX12_fewestOn_115 C hrec hk63 ha0 hW (lv_sub hl [1, 2, 3, 4, 5] rfl) hf
      · have hf := if_f c5 hf
        refine lv_aload_n C.1 C.2.1 dX12_fewestOn_86 rfl (lv_at hl 1 rfl) ?_
        refine x_getr C hW (ha0).1 (ha0).2.1 (j := 21) rfl kX12 (by decide) rfl q_1037 dX12_fewestOn_87 ?_
        refine lv_iload_n C.1 C.2.1 dX12_fewestOn_90 rfl (lv_at hl 2 rfl) ?_
        refine lv_iload C.1 C.2.1 dX12_fewestOn_91 (lv_at hl 5 rfl) ?_
        obtain ⟨g6, hf⟩ := gd_s hf
        refine x_iast C hW ha0.2.2.2.2.2.2.2.2.2.2.2.2.2.1 g6 dX12_fewestOn_93 (fun H locs hW => ?_)
        obtain ⟨m7, em7⟩ : ∃ z, z = wr m3 (fr a0 21) a1.toNatClampNeg a4 := ⟨_, rfl⟩
        have hf := nm_s hf em7
        rw [← em7] at hW
        refine lv_aload_n C.1 C.2.1 dX12_fewestOn_94 rfl (lv_at hl 1 rfl) ?_
        refine lv_iload_n C.1 C.2.1 dX12_fewestOn_95 rfl (lv_at hl 2 rfl) ?_
        refine lv_iconst (v := 1) C.1 C.2.1 dX12_fewestOn_96 (by decide) ?_
        refine lv_iadd C.1 C.2.1 dX12_fewestOn_97 ?_
        refine lv_iload_n C.1 C.2.1 dX12_fewestOn_98 rfl (lv_at hl 3 rfl) ?_
        refine lv_aload_n C.1 C.2.1 dX12_fewestOn_99 rfl (lv_at hl 1 rfl) ?_
        refine lv_iload_n C.1 C.2.1 dX12_fewestOn_100 rfl (lv_at hl 2 rfl) ?_
        refine lv_iload C.1 C.2.1 dX12_fewestOn_101 (lv_at hl 5 rfl) ?_
        refine lv_iconst (v := 0) C.1 C.2.1 dX12_fewestOn_103 (by decide) ?_
        obtain ⟨x8, m9, r10, hf⟩ := bd2_s hf
        refine x_ci hW (x_runV C hW [.int a1, .int a4, .int 0] [.int a2, .int (a1 + 1), .ref (ad a0)] (ha0).1 (ha0).2.1 kX12.1 kvX12_worthOf q_1308 (tX12_worthOf l C.2.2.2.2.2.2.1 ha0 r10) rfl rfl ⟨by first | decide | (simp only [rmX12_fewestOn, rmX12_worthOf]; omega), by first | decide | (simp only [rmX12_fewestOn, rmX12_worthOf]; omega)⟩ rfl hl.1 rfl (Nat.le_of_ble_eq_true rfl) dX12_fewestOn_104) (fun H locs hW => ?_)
        refine lv_iadd C.1 C.2.1 dX12_fewestOn_107 ?_
        refine lv_iload_n C.1 C.2.1 dX12_fewestOn_108 rfl (lv_at hl 4 rfl) ?_
        refine lv_iload C.1 C.2.1 dX12_fewestOn_109 (lv_at hl 0 rfl) ?_
        refine lv_iadd C.1 C.2.1 dX12_fewestOn_111 ?_
        obtain ⟨x11, m12, r13, hf⟩ := bd2_s hf
        refine x_cv hW (x_runV C hW [.int (a1 + 1), .int (a2 + x8), .int (a3 + x2)] [] (ha0).1 (ha0).2.1 kX12.1 kvX12_fewestOn q_1353 (hrec _ _ _ _ _ _ ha0 r13) rfl rfl ⟨by first | decide | (simp only [rmX12_fewestOn]; omega), by first | decide | (simp only [rmX12_fewestOn]; omega)⟩ rfl hl.1 rfl (Nat.le_of_ble_eq_true rfl) dX12_fewestOn_112) (fun H locs hW => ?_)
        exact wX12_fewestOn_115 C hrec hk63 ha0 hW (lv_sub hl [1, 2, 3, 4, 5] rfl) hf
set_option maxRecDepth 100000 in
set_option maxHeartbeats 4000000 in
theorem wX12_fewestOn_49 (C : Cx p s m meth c args cX12_fewestOn 6 none RX12 D ca ad) {res : Unit × Mm} {d0 : Nat} {N : Nat} {rec : Nat → Int32 → Int32 → Int32 → Mm → Option (Unit × Mm)} (hrec : ∀ (a0 : Nat) (a1 : Int32) (a2 : Int32) (a3 : Int32) (mm : Mm) (res : Unit × Mm), (sX12 a0) → rec a0 a1 a2 a3 mm = some res → Met l yX12_fewestOn (WS yX12_fewestOn cX12_fewestOn 6 none) (rmX12_fewestOn d0) (va_Pc [.ref (ad a0), .int a1, .int a2, .int a3] (WB D ca ad mm)) (QV D ca ad res) 0 0 (AA ad)) {a0 : Nat} {a2 : Int32} {a3 : Int32} {mm : Mm} {H : Heap} {locs : List Loc} {ls : Array Slot} (ha0 : sX12 a0) (hW : Wd D ca ad s.heap mm H locs) (hl : lv_has ls 6 [(0, .ref (ad a0)), (2, .int a2), (3, .int a3)]) (hf : fX12_fewestOn_49 N rec a0 a2 a3 mm = some res) : W p l e (rmX12_fewestOn (d0 + 1)) s m args below meth c H locs 0 0 (MQ below (QV D ca ad res) args s 0 0 (AA ad)) (F0 m 49 ls []) := by
  unfold fX12_fewestOn_49 at hf
  refine lv_aload_n C.1 C.2.1 dX12_fewestOn_49 rfl (lv_at hl 0 rfl) ?_
  refine lv_iload_n C.1 C.2.1 dX12_fewestOn_50 rfl (lv_at hl 2 rfl) ?_
  refine x_put C hW (ha0).1 (ha0).2.1 (j := 28) (t1 := .int) rfl kX12 (by decide) rfl rfl q_1044 (by decide +kernel) rfl rfl dX12_fewestOn_51 (fun H locs hW => ?_)
  obtain ⟨m14, em14⟩ : ∃ z, z = wr mm a0 28 a3 := ⟨_, rfl⟩
  have hf := nm_s hf em14
  rw [← em14] at hW
  refine lv_aload_n C.1 C.2.1 dX12_fewestOn_54 rfl (lv_at hl 0 rfl) ?_
  refine lv_iload_n C.1 C.2.1 dX12_fewestOn_55 rfl (lv_at hl 1 rfl) ?_
  refine x_put C hW (ha0).1 (ha0).2.1 (j := 29) (t1 := .int) rfl kX12 (by decide) rfl rfl q_1045 (by decide +kernel) rfl rfl dX12_fewestOn_56 (fun H locs hW => ?_)
  obtain ⟨m15, em15⟩ : ∃ z, z = wr m14 a0 29 a2 := ⟨_, rfl⟩
  have hf := nm_s hf em15
  rw [← em15] at hW
  cases hf
  exact x_vret C hW dX12_fewestOn_59
set_option maxRecDepth 100000 in
set_option maxHeartbeats 4000000 in
theorem wX12_fewestOn_0 (C : Cx p s m meth c args cX12_fewestOn 6 none RX12 D ca ad) {res : Unit × Mm} {d0 : Nat} {N : Nat} {rec : Nat → Int32 → Int32 → Int32 → Mm → Option (Unit × Mm)} (hrec : ∀ (a0 : Nat) (a1 : Int32) (a2 : Int32) (a3 : Int32) (mm : Mm) (res : Unit × Mm), (sX12 a0) → rec a0 a1 a2 a3 mm = some res → Met l yX12_fewestOn (WS yX12_fewestOn cX12_fewestOn 6 none) (rmX12_fewestOn d0) (va_Pc [.ref (ad a0), .int a1, .int a2, .int a3] (WB D ca ad mm)) (QV D ca ad res) 0 0 (AA ad)) {a0 : Nat} {a1 : Int32} {a2 : Int32} {a3 : Int32} {mm : Mm} {H : Heap} {locs : List Loc} {ls : Array Slot} (ha0 : sX12 a0) (hW : Wd D ca ad s.heap mm H locs) (hl : lv_has ls 6 [(0, .ref (ad a0)), (1, .int a1), (2, .int a2), (3, .int a3)]) (hf : fX12_fewestOn_0 N rec a0 a1 a2 a3 mm = some res) : W p l e (rmX12_fewestOn (d0 + 1)) s m args below meth c H locs 0 0 (MQ below (QV D ca ad res) args s 0 0 (AA ad)) (F0 m 0 ls []) := by
  unfold fX12_fewestOn_0 at hf
  refine lv_iload_n C.1 C.2.1 dX12_fewestOn_0 rfl (lv_at hl 1 rfl) ?_
  refine lv_aload_n C.1 C.2.1 dX12_fewestOn_1 rfl (lv_at hl 0 rfl) ?_
  refine x_geti C hW (ha0).1 (ha0).2.1 (j := 10) rfl kX12 (by decide) rfl q_1026 dX12_fewestOn_2 ?_
  refine lv_icmp_ne (tgt := 60) C.1 C.2.1 dX12_fewestOn_5 (by decide) (fun c16 => ?_) (fun c16 => ?_)
  · have hf := if_f c16 hf
    refine lv_iconst (v := 0) C.1 C.2.1 dX12_fewestOn_60 (by decide) ?_
    refine lv_istore (lv' := [(4, .int 0), (0, .ref (ad a0)), (1, .int a1), (2, .int a2), (3, .int a3)]) C.1 C.2.1 dX12_fewestOn_61 hl (by decide) rfl (fun ls hl => ?_)
    exact wX12_fewestOn_63 C hrec N ha0 hW (lv_sub hl [1, 2, 3, 4, 0] rfl) hf
  · have hf := if_t c16 hf
    refine lv_iload_n C.1 C.2.1 dX12_fewestOn_8 rfl (lv_at hl 2 rfl) ?_
    refine lv_aload_n C.1 C.2.1 dX12_fewestOn_9 rfl (lv_at hl 0 rfl) ?_
    refine x_geti C hW (ha0).1 (ha0).2.1 (j := 23) rfl kX12 (by decide) rfl q_1039 dX12_fewestOn_10 ?_
    refine lv_icmp_lt (tgt := 59) C.1 C.2.1 dX12_fewestOn_13 (by decide) (fun c17 => ?_) (fun c17 => ?_)
    · have hf := if_t c17 hf
      cases hf
      exact x_vret C hW dX12_fewestOn_59
    · have hf := if_f c17 hf
      refine lv_aload_n C.1 C.2.1 dX12_fewestOn_16 rfl (lv_at hl 0 rfl) ?_
      refine x_geti C hW (ha0).1 (ha0).2.1 (j := 28) rfl kX12 (by decide) rfl q_1044 dX12_fewestOn_17 ?_
      refine lv_bipush (v := (-9)) C.1 C.2.1 dX12_fewestOn_20 (by decide) ?_
      refine lv_icmp_eq (tgt := 49) C.1 C.2.1 dX12_fewestOn_22 (by decide) (fun c18 => ?_) (fun c18 => ?_)
      · have hf := if_t c18 hf
        exact wX12_fewestOn_49 C hrec ha0 hW (lv_sub hl [0, 2, 3] rfl) hf
      · have hf := if_f c18 hf
        refine lv_iload_n C.1 C.2.1 dX12_fewestOn_25 rfl (lv_at hl 3 rfl) ?_
        refine lv_aload_n C.1 C.2.1 dX12_fewestOn_26 rfl (lv_at hl 0 rfl) ?_
        refine x_geti C hW (ha0).1 (ha0).2.1 (j := 28) rfl kX12 (by decide) rfl q_1044 dX12_fewestOn_27 ?_
        refine lv_icmp_lt (tgt := 49) C.1 C.2.1 dX12_fewestOn_30 (by decide) (fun c19 => ?_) (fun c19 => ?_)
        · have hf := if_t c19 hf
          exact wX12_fewestOn_49 C hrec ha0 hW (lv_sub hl [0, 2, 3] rfl) hf
        · have hf := if_f c19 hf
          refine lv_iload_n C.1 C.2.1 dX12_fewestOn_33 rfl (lv_at hl 3 rfl) ?_
          refine lv_aload_n C.1 C.2.1 dX12_fewestOn_34 rfl (lv_at hl 0 rfl) ?_
          refine x_geti C hW (ha0).1 (ha0).2.1 (j := 28) rfl kX12 (by decide) rfl q_1044 dX12_fewestOn_35 ?_
          refine lv_icmp_ne (tgt := 59) C.1 C.2.1 dX12_fewestOn_38 (by decide) (fun c20 => ?_) (fun c20 => ?_)
          · have hf := if_f c20 hf
            cases hf
            exact x_vret C hW dX12_fewestOn_59
          · have hf := if_t c20 hf
            refine lv_iload_n C.1 C.2.1 dX12_fewestOn_41 rfl (lv_at hl 2 rfl) ?_
            refine lv_aload_n C.1 C.2.1 dX12_fewestOn_42 rfl (lv_at hl 0 rfl) ?_
            refine x_geti C hW (ha0).1 (ha0).2.1 (j := 29) rfl kX12 (by decide) rfl q_1045 dX12_fewestOn_43 ?_
            refine lv_icmp_le (tgt := 59) C.1 C.2.1 dX12_fewestOn_46 (by decide) (fun c21 => ?_) (fun c21 => ?_)
            · have hf := if_t c21 hf
              cases hf
              exact x_vret C hW dX12_fewestOn_59
            · have hf := if_f c21 hf
              exact wX12_fewestOn_49 C hrec ha0 hW (lv_sub hl [0, 2, 3] rfl) hf
set_option maxRecDepth 100000 in
set_option maxHeartbeats 4000000 in
theorem tX12_fewestOn (l : Launch) {D : va_G} {ca ad : Nat → Nat} (hi : Inj ad) {N : Nat} : ∀ {d : Nat} {a0 : Nat} {a1 : Int32} {a2 : Int32} {a3 : Int32} {mm : Mm} {res : Unit × Mm}, (sX12 a0) → fX12_fewestOn N d a0 a1 a2 a3 mm = some res → Met l yX12_fewestOn (WS yX12_fewestOn cX12_fewestOn 6 none) (rmX12_fewestOn d) (va_Pc [.ref (ad a0), .int a1, .int a2, .int a3] (WB D ca ad mm)) (QV D ca ad res) 0 0 (AA ad) := by
  intro d
  induction d with
  | zero => intro a0 a1 a2 a3 mm res ha0 hf; cases hf
  | succ d ih =>
    intro a0 a1 a2 a3 mm res ha0 hf
    refine x_start hi (by decide) rfl (Nat.le_of_ble_eq_true rfl) (fun p e s m args below meth c ls C hW hl => ?_)
    exact wX12_fewestOn_0 C (d0 := d) (fun a0 a1 a2 a3 mm res ha0 hf => by exact (ih ha0 hf)) ha0 hW (lv_sub hl [0, 1, 2, 3] rfl) hf
set_option maxRecDepth 100000 in
set_option maxHeartbeats 4000000 in
theorem wX12_fewest_0 (C : Cx p s m meth c args cX12_fewest 4 (some .int) RX12 D ca ad) {res : Int32 × Mm} {N : Nat}  {a0 : Nat} {a1 : Int32} {a2 : Int32} {mm : Mm} {H : Heap} {locs : List Loc} {ls : Array Slot} (ha0 : sX12 a0) (hW : Wd D ca ad s.heap mm H locs) (hl : lv_has ls 4 [(0, .ref (ad a0)), (1, .int a1), (2, .int a2)]) (hf : fX12_fewest N a0 a1 a2 mm = some res) : W p l e (rmX12_fewest) s m args below meth c H locs 0 0 (MQ below (QI D ca ad res) args s 0 0 (AA ad)) (F0 m 0 ls []) := by
  unfold fX12_fewest at hf
  refine lv_iload_n C.1 C.2.1 dX12_fewest_0 rfl (lv_at hl 1 rfl) ?_
  obtain ⟨x1, m2, r3, hf⟩ := bd2_s hf
  refine x_ci hW (x_runS C hW [.int a1] [] kvX12_isRow q_1147 (tX12_isRow l C.2.2.2.2.2.2.1  r3) rfl rfl ⟨by decide, by decide⟩ rfl hl.1 rfl (Nat.le_of_ble_eq_true rfl) dX12_fewest_1) (fun H locs hW => ?_)
  refine lv_if_eq (tgt := 17) C.1 C.2.1 dX12_fewest_4 (by decide) (fun c4 => ?_) (fun c4 => ?_)
  · have hf := if_t c4 hf
    refine lv_iconst (v := (-1)) C.1 C.2.1 dX12_fewest_17 (by decide) ?_
    cases hf
    exact x_iret C hW dX12_fewest_18
  · have hf := if_f c4 hf
    refine lv_iload_n C.1 C.2.1 dX12_fewest_7 rfl (lv_at hl 2 rfl) ?_
    refine lv_iconst (v := 0) C.1 C.2.1 dX12_fewest_8 (by decide) ?_
    refine lv_bipush (v := 108) C.1 C.2.1 dX12_fewest_9 (by decide) ?_
    obtain ⟨x5, m6, r7, hf⟩ := bd2_s hf
    refine x_ci hW (x_runS C hW [.int a2, .int 0, .int 108] [] kvX12_in q_1150 (tX12_in l C.2.2.2.2.2.2.1  r7) rfl rfl ⟨by decide, by decide⟩ rfl hl.1 rfl (Nat.le_of_ble_eq_true rfl) dX12_fewest_11) (fun H locs hW => ?_)
    refine lv_if_ne (tgt := 19) C.1 C.2.1 dX12_fewest_14 (by decide) (fun c8 => ?_) (fun c8 => ?_)
    · have hf := if_f c8 hf
      refine lv_aload_n C.1 C.2.1 dX12_fewest_19 rfl (lv_at hl 0 rfl) ?_
      refine lv_iload_n C.1 C.2.1 dX12_fewest_20 rfl (lv_at hl 1 rfl) ?_
      refine lv_iconst (v := 1) C.1 C.2.1 dX12_fewest_21 (by decide) ?_
      obtain ⟨x9, m10, r11, hf⟩ := bd2_s hf
      refine x_ci hW (x_runV C hW [.int a1, .int 1] [] (ha0).1 (ha0).2.1 kX12.1 kvX12_askedLaying q_1320 (tX12_askedLaying l C.2.2.2.2.2.2.1 ha0 r11) rfl rfl ⟨by decide, by decide⟩ rfl hl.1 rfl (Nat.le_of_ble_eq_true rfl) dX12_fewest_22) (fun H locs hW => ?_)
      refine lv_istore_n (lv' := [(3, .int x9), (0, .ref (ad a0)), (1, .int a1), (2, .int a2)]) C.1 C.2.1 dX12_fewest_25 rfl hl (by decide) rfl (fun ls hl => ?_)
      refine lv_iload_n C.1 C.2.1 dX12_fewest_26 rfl (lv_at hl 0 rfl) ?_
      refine lv_if_ge (tgt := 32) C.1 C.2.1 dX12_fewest_27 (by decide) (fun c12 => ?_) (fun c12 => ?_)
      · have hf := if_t c12 hf
        refine lv_aload_n C.1 C.2.1 dX12_fewest_32 rfl (lv_at hl 1 rfl) ?_
        refine lv_iload_n C.1 C.2.1 dX12_fewest_33 rfl (lv_at hl 2 rfl) ?_
        refine lv_iconst (v := 1) C.1 C.2.1 dX12_fewest_34 (by decide) ?_
        obtain ⟨x13, m14, r15, hf⟩ := bd2_s hf
        refine x_cv hW (x_runV C hW [.int a1, .int 1] [] (ha0).1 (ha0).2.1 kX12.1 kvX12_takes q_1288 (tX12_takes l C.2.2.2.2.2.2.1 ha0 r15) rfl rfl ⟨by decide, by decide⟩ rfl hl.1 rfl (Nat.le_of_ble_eq_true rfl) dX12_fewest_35) (fun H locs hW => ?_)
        refine lv_aload_n C.1 C.2.1 dX12_fewest_38 rfl (lv_at hl 1 rfl) ?_
        refine lv_iload_n C.1 C.2.1 dX12_fewest_39 rfl (lv_at hl 3 rfl) ?_
        refine x_put C hW (ha0).1 (ha0).2.1 (j := 23) (t1 := .int) rfl kX12 (by decide) rfl rfl q_1039 (by decide +kernel) rfl rfl dX12_fewest_40 (fun H locs hW => ?_)
        obtain ⟨m16, em16⟩ : ∃ z, z = wr m14 a0 23 a2 := ⟨_, rfl⟩
        have hf := nm_s hf em16
        rw [← em16] at hW
        refine lv_aload_n C.1 C.2.1 dX12_fewest_43 rfl (lv_at hl 1 rfl) ?_
        refine lv_bipush (v := (-9)) C.1 C.2.1 dX12_fewest_44 (by decide) ?_
        refine x_put C hW (ha0).1 (ha0).2.1 (j := 28) (t1 := .int) rfl kX12 (by decide) rfl rfl q_1044 (by decide +kernel) rfl rfl dX12_fewest_46 (fun H locs hW => ?_)
        obtain ⟨m17, em17⟩ : ∃ z, z = wr m16 a0 28 (-9) := ⟨_, rfl⟩
        have hf := nm_s hf em17
        rw [← em17] at hW
        refine lv_aload_n C.1 C.2.1 dX12_fewest_49 rfl (lv_at hl 1 rfl) ?_
        refine lv_iconst (v := 0) C.1 C.2.1 dX12_fewest_50 (by decide) ?_
        refine lv_iconst (v := 0) C.1 C.2.1 dX12_fewest_51 (by decide) ?_
        refine lv_iconst (v := 0) C.1 C.2.1 dX12_fewest_52 (by decide) ?_
        obtain ⟨x18, m19, r20, hf⟩ := bd2_s hf
        refine x_cv hW (x_runV C hW [.int 0, .int 0, .int 0] [] (ha0).1 (ha0).2.1 kX12.1 kvX12_fewestOn q_1353 (tX12_fewestOn l C.2.2.2.2.2.2.1 (d := 9) ha0 r20) rfl rfl ⟨by first | decide | (simp only [rmX12_fewest, rmX12_fewestOn]; omega), by first | decide | (simp only [rmX12_fewest, rmX12_fewestOn]; omega)⟩ rfl hl.1 rfl (Nat.le_of_ble_eq_true rfl) dX12_fewest_53) (fun H locs hW => ?_)
        refine lv_aload_n C.1 C.2.1 dX12_fewest_56 rfl (lv_at hl 1 rfl) ?_
        refine x_geti C hW (ha0).1 (ha0).2.1 (j := 28) rfl kX12 (by decide) rfl q_1044 dX12_fewest_57 ?_
        refine lv_bipush (v := (-9)) C.1 C.2.1 dX12_fewest_60 (by decide) ?_
        refine lv_icmp_ne (tgt := 70) C.1 C.2.1 dX12_fewest_62 (by decide) (fun c21 => ?_) (fun c21 => ?_)
        · have hf := if_f c21 hf
          refine lv_aload_n C.1 C.2.1 dX12_fewest_70 rfl (lv_at hl 1 rfl) ?_
          refine lv_aload_n C.1 C.2.1 dX12_fewest_71 rfl (lv_at hl 1 rfl) ?_
          refine x_geti C hW (ha0).1 (ha0).2.1 (j := 29) rfl kX12 (by decide) rfl q_1045 dX12_fewest_72 ?_
          refine lv_aload_n C.1 C.2.1 dX12_fewest_75 rfl (lv_at hl 1 rfl) ?_
          refine x_geti C hW (ha0).1 (ha0).2.1 (j := 28) rfl kX12 (by decide) rfl q_1044 dX12_fewest_76 ?_
          obtain ⟨x22, m23, r24, hf⟩ := bd2_s hf
          refine x_ci hW (x_runV C hW [.int (rd m19 a0 29), .int (rd m19 a0 28)] [] (ha0).1 (ha0).2.1 kX12.1 kvX12_ask q_1173 (tX12_ask l C.2.2.2.2.2.2.1 ha0 r24) rfl rfl ⟨by decide, by decide⟩ rfl hl.1 rfl (Nat.le_of_ble_eq_true rfl) dX12_fewest_79) (fun H locs hW => ?_)
          cases hf
          exact x_iret C hW dX12_fewest_82
        · have hf := if_t c21 hf
          refine lv_bipush (v := (-9)) C.1 C.2.1 dX12_fewest_65 (by decide) ?_
          refine lv_goto (tgt := 82) C.1 C.2.1 dX12_fewest_67 (by decide) ?_
          cases hf
          exact x_iret C hW dX12_fewest_82
      · have hf := if_f c12 hf
        refine lv_iload_n C.1 C.2.1 dX12_fewest_30 rfl (lv_at hl 0 rfl) ?_
        cases hf
        exact x_iret C hW dX12_fewest_31
    · have hf := if_t c8 hf
      refine lv_iconst (v := (-1)) C.1 C.2.1 dX12_fewest_17 (by decide) ?_
      cases hf
      exact x_iret C hW dX12_fewest_18
set_option maxRecDepth 100000 in
set_option maxHeartbeats 4000000 in
theorem tX12_fewest (l : Launch) {D : va_G} {ca ad : Nat → Nat} (hi : Inj ad) {N : Nat} {a0 : Nat} {a1 : Int32} {a2 : Int32} {mm : Mm} {res : Int32 × Mm} (ha0 : sX12 a0) (hf : fX12_fewest N a0 a1 a2 mm = some res) : Met l yX12_fewest (WS yX12_fewest cX12_fewest 4 (some .int)) (rmX12_fewest) (va_Pc [.ref (ad a0), .int a1, .int a2] (WB D ca ad mm)) (QI D ca ad res) 0 0 (AA ad) := by
  refine x_start hi (by decide) rfl (Nat.le_of_ble_eq_true rfl) (fun p e s m args below meth c ls C hW hl => ?_)
  exact wX12_fewest_0 C ha0 hW (lv_sub hl [0, 1, 2] rfl) hf
set_option maxRecDepth 100000 in
set_option maxHeartbeats 4000000 in
theorem wX12_firstStep_2 (C : Cx p s m meth c args cX12_firstStep 2 none RX12 D ca ad) {res : Unit × Mm} {N : Nat}  : ∀ (n : Nat) {a0 : Nat} {a1 : Int32} {mm : Mm} {H : Heap} {locs : List Loc} {ls : Array Slot}, (sX12 a0) → Wd D ca ad s.heap mm H locs → lv_has ls 2 [(0, .ref (ad a0)), (1, .int a1)] → fX12_firstStep_2 N n a0 a1 mm = some res → W p l e (rmX12_firstStep) s m args below meth c H locs 0 0 (MQ below (QV D ca ad res) args s 0 0 (AA ad)) (F0 m 2 ls []) := by
  intro n
  induction n with
  | zero => intro a0 a1 mm H locs ls ha0 hW hl hf; cases hf
  | succ n ih =>
    intro a0 a1 mm H locs ls ha0 hW hl hf
    have hk2 : ∀ (a0 : Nat) (a1 : Int32) (mm : Mm) (H : Heap) (locs : List Loc) (ls : Array Slot), (sX12 a0) → Wd D ca ad s.heap mm H locs → lv_has ls 2 [(0, .ref (ad a0)), (1, .int a1)] → (fX12_firstStep_2 N n) a0 a1 mm = some res → W p l e (rmX12_firstStep) s m args below meth c H locs 0 0 (MQ below (QV D ca ad res) args s 0 0 (AA ad)) (F0 m 2 ls []) := fun a0 a1 mm H locs ls ha0 hW hl hf => ih ha0 hW hl hf
    unfold fX12_firstStep_2 at hf
    try dsimp only at hf
    refine lv_iload_n C.1 C.2.1 dX12_firstStep_2 rfl (lv_at hl 1 rfl) ?_
    refine lv_bipush (v := 6) C.1 C.2.1 dX12_firstStep_3 (by decide) ?_
    refine lv_icmp_ge (tgt := 21) C.1 C.2.1 dX12_firstStep_5 (by decide) (fun c1 => ?_) (fun c1 => ?_)
    · have hf := if_t c1 hf
      cases hf
      exact x_vret C hW dX12_firstStep_21
    · have hf := if_f c1 hf
      refine lv_aload_n C.1 C.2.1 dX12_firstStep_8 rfl (lv_at hl 0 rfl) ?_
      refine x_getr C hW (ha0).1 (ha0).2.1 (j := 30) rfl kX12 (by decide) rfl q_1046 dX12_firstStep_9 ?_
      refine lv_iload_n C.1 C.2.1 dX12_firstStep_12 rfl (lv_at hl 1 rfl) ?_
      refine lv_iconst (v := 0) C.1 C.2.1 dX12_firstStep_13 (by decide) ?_
      obtain ⟨g2, hf⟩ := gd_s hf
      refine x_iast C hW ha0.2.2.2.2.2.2.2.2.2.2.2.2.2.2.2.2.1 g2 dX12_firstStep_14 (fun H locs hW => ?_)
      obtain ⟨m3, em3⟩ : ∃ z, z = wr mm (fr a0 30) a1.toNatClampNeg 0 := ⟨_, rfl⟩
      have hf := nm_s hf em3
      rw [← em3] at hW
      refine lv_iinc (v := (a1 + 1)) (lv' := [(1, .int (a1 + 1)), (0, .ref (ad a0))]) C.1 C.2.1 dX12_firstStep_15 hl (k := 1) rfl rfl (by decide) rfl (fun ls hl => ?_)
      refine lv_goto (tgt := 2) C.1 C.2.1 dX12_firstStep_18 (by decide) ?_
      exact hk2 _ _ _ _ _ _ ha0 hW (lv_sub hl [1, 0] rfl) hf
set_option maxRecDepth 100000 in
set_option maxHeartbeats 4000000 in
theorem wX12_firstStep_0 (C : Cx p s m meth c args cX12_firstStep 2 none RX12 D ca ad) {res : Unit × Mm} {N : Nat}  {a0 : Nat} {mm : Mm} {H : Heap} {locs : List Loc} {ls : Array Slot} (ha0 : sX12 a0) (hW : Wd D ca ad s.heap mm H locs) (hl : lv_has ls 2 [(0, .ref (ad a0))]) (hf : fX12_firstStep N a0 mm = some res) : W p l e (rmX12_firstStep) s m args below meth c H locs 0 0 (MQ below (QV D ca ad res) args s 0 0 (AA ad)) (F0 m 0 ls []) := by
  unfold fX12_firstStep at hf
  refine lv_iconst (v := 0) C.1 C.2.1 dX12_firstStep_0 (by decide) ?_
  refine lv_istore_n (lv' := [(1, .int 0), (0, .ref (ad a0))]) C.1 C.2.1 dX12_firstStep_1 rfl hl (by decide) rfl (fun ls hl => ?_)
  exact wX12_firstStep_2 C  N ha0 hW (lv_sub hl [1, 0] rfl) hf
set_option maxRecDepth 100000 in
set_option maxHeartbeats 4000000 in
theorem tX12_firstStep (l : Launch) {D : va_G} {ca ad : Nat → Nat} (hi : Inj ad) {N : Nat} {a0 : Nat} {mm : Mm} {res : Unit × Mm} (ha0 : sX12 a0) (hf : fX12_firstStep N a0 mm = some res) : Met l yX12_firstStep (WS yX12_firstStep cX12_firstStep 2 none) (rmX12_firstStep) (va_Pc [.ref (ad a0)] (WB D ca ad mm)) (QV D ca ad res) 0 0 (AA ad) := by
  refine x_start hi (by decide) rfl (Nat.le_of_ble_eq_true rfl) (fun p e s m args below meth c ls C hW hl => ?_)
  exact wX12_firstStep_0 C ha0 hW (lv_sub hl [0] rfl) hf
set_option maxRecDepth 100000 in
set_option maxHeartbeats 4000000 in
theorem wX12_nextStep_34 (C : Cx p s m meth c args cX12_nextStep 4 (some .boolean) RX12 D ca ad) {res : Int32 × Mm} {N : Nat}  : ∀ (n : Nat) {a0 : Nat} {a1 : Int32} {a2 : Int32} {a3 : Int32} {mm : Mm} {H : Heap} {locs : List Loc} {ls : Array Slot}, (sX12 a0) → Wd D ca ad s.heap mm H locs → lv_has ls 4 [(0, .ref (ad a0)), (1, .int a1), (2, .int a2), (3, .int a3)] → fX12_nextStep_34 N n a0 a1 a2 a3 mm = some res → W p l e (rmX12_nextStep) s m args below meth c H locs 0 0 (MQ below (QI D ca ad res) args s 0 0 (AA ad)) (F0 m 34 ls []) := by
  intro n
  induction n with
  | zero => intro a0 a1 a2 a3 mm H locs ls ha0 hW hl hf; cases hf
  | succ n ih =>
    intro a0 a1 a2 a3 mm H locs ls ha0 hW hl hf
    have hk34 : ∀ (a0 : Nat) (a1 : Int32) (a2 : Int32) (a3 : Int32) (mm : Mm) (H : Heap) (locs : List Loc) (ls : Array Slot), (sX12 a0) → Wd D ca ad s.heap mm H locs → lv_has ls 4 [(0, .ref (ad a0)), (1, .int a1), (2, .int a2), (3, .int a3)] → (fX12_nextStep_34 N n) a0 a1 a2 a3 mm = some res → W p l e (rmX12_nextStep) s m args below meth c H locs 0 0 (MQ below (QI D ca ad res) args s 0 0 (AA ad)) (F0 m 34 ls []) := fun a0 a1 a2 a3 mm H locs ls ha0 hW hl hf => ih ha0 hW hl hf
    unfold fX12_nextStep_34 at hf
    try dsimp only at hf
    refine lv_iload_n C.1 C.2.1 dX12_nextStep_34 rfl (lv_at hl 3 rfl) ?_
    refine lv_if_lt (tgt := 77) C.1 C.2.1 dX12_nextStep_35 (by decide) (fun c1 => ?_) (fun c1 => ?_)
    · have hf := if_t c1 hf
      refine lv_iconst (v := 0) C.1 C.2.1 dX12_nextStep_77 (by decide) ?_
      cases hf
      exact x_zret C hW (by decide) dX12_nextStep_78
    · have hf := if_f c1 hf
      refine lv_iload_n C.1 C.2.1 dX12_nextStep_38 rfl (lv_at hl 2 rfl) ?_
      refine lv_iload_n C.1 C.2.1 dX12_nextStep_39 rfl (lv_at hl 1 rfl) ?_
      refine lv_icmp_ge (tgt := 55) C.1 C.2.1 dX12_nextStep_40 (by decide) (fun c2 => ?_) (fun c2 => ?_)
      · have hf := if_t c2 hf
        refine lv_iload_n C.1 C.2.1 dX12_nextStep_55 rfl (lv_at hl 2 rfl) ?_
        refine lv_aload_n C.1 C.2.1 dX12_nextStep_56 rfl (lv_at hl 0 rfl) ?_
        refine x_getr C hW (ha0).1 (ha0).2.1 (j := 30) rfl kX12 (by decide) rfl q_1046 dX12_nextStep_57 ?_
        refine lv_iload_n C.1 C.2.1 dX12_nextStep_60 rfl (lv_at hl 3 rfl) ?_
        obtain ⟨g3, hf⟩ := gd_s hf
        refine x_iald C hW ha0.2.2.2.2.2.2.2.2.2.2.2.2.2.2.2.2.1 g3 dX12_nextStep_61 ?_
        refine lv_isub C.1 C.2.1 dX12_nextStep_62 ?_
        refine lv_topi (fun x4 ex4 => ?_)
        have hf := nm_s hf ex4
        refine lv_istore_n (lv' := [(2, .int x4), (0, .ref (ad a0)), (1, .int a1), (3, .int a3)]) C.1 C.2.1 dX12_nextStep_63 rfl hl (by decide) rfl (fun ls hl => ?_)
        refine lv_aload_n C.1 C.2.1 dX12_nextStep_64 rfl (lv_at hl 1 rfl) ?_
        refine x_getr C hW (ha0).1 (ha0).2.1 (j := 30) rfl kX12 (by decide) rfl q_1046 dX12_nextStep_65 ?_
        refine lv_iload_n C.1 C.2.1 dX12_nextStep_68 rfl (lv_at hl 3 rfl) ?_
        refine lv_iconst (v := 0) C.1 C.2.1 dX12_nextStep_69 (by decide) ?_
        obtain ⟨g5, hf⟩ := gd_s hf
        refine x_iast C hW ha0.2.2.2.2.2.2.2.2.2.2.2.2.2.2.2.2.1 g5 dX12_nextStep_70 (fun H locs hW => ?_)
        obtain ⟨m6, em6⟩ : ∃ z, z = wr mm (fr a0 30) a3.toNatClampNeg 0 := ⟨_, rfl⟩
        have hf := nm_s hf em6
        rw [← em6] at hW
        refine lv_iinc (v := (a3 + (-1))) (lv' := [(3, .int (a3 + (-1))), (2, .int x4), (0, .ref (ad a0)), (1, .int a1)]) C.1 C.2.1 dX12_nextStep_71 hl (k := 3) rfl rfl (by decide) rfl (fun ls hl => ?_)
        refine lv_goto (tgt := 34) C.1 C.2.1 dX12_nextStep_74 (by decide) ?_
        exact hk34 _ _ _ _ _ _ _ _ ha0 hW (lv_sub hl [2, 3, 1, 0] rfl) hf
      · have hf := if_f c2 hf
        refine lv_aload_n C.1 C.2.1 dX12_nextStep_43 rfl (lv_at hl 0 rfl) ?_
        refine x_getr C hW (ha0).1 (ha0).2.1 (j := 30) rfl kX12 (by decide) rfl q_1046 dX12_nextStep_44 ?_
        refine lv_iload_n C.1 C.2.1 dX12_nextStep_47 rfl (lv_at hl 3 rfl) ?_
        refine lv_dup2_11 C.1 C.2.1 dX12_nextStep_48 rfl rfl ?_
        obtain ⟨g7, hf⟩ := gd_s hf
        refine x_iald C hW ha0.2.2.2.2.2.2.2.2.2.2.2.2.2.2.2.2.1 g7 dX12_nextStep_49 ?_
        refine lv_iconst (v := 1) C.1 C.2.1 dX12_nextStep_50 (by decide) ?_
        refine lv_iadd C.1 C.2.1 dX12_nextStep_51 ?_
        obtain ⟨g8, hf⟩ := gd_s hf
        refine x_iast C hW ha0.2.2.2.2.2.2.2.2.2.2.2.2.2.2.2.2.1 g8 dX12_nextStep_52 (fun H locs hW => ?_)
        obtain ⟨m9, em9⟩ : ∃ z, z = wr mm (fr a0 30) a3.toNatClampNeg ((rd mm (fr a0 30) a3.toNatClampNeg) + 1) := ⟨_, rfl⟩
        have hf := nm_s hf em9
        rw [← em9] at hW
        refine lv_iconst (v := 1) C.1 C.2.1 dX12_nextStep_53 (by decide) ?_
        cases hf
        exact x_zret C hW (by decide) dX12_nextStep_54
set_option maxRecDepth 100000 in
set_option maxHeartbeats 4000000 in
theorem wX12_nextStep_4 (C : Cx p s m meth c args cX12_nextStep 4 (some .boolean) RX12 D ca ad) {res : Int32 × Mm} {N : Nat}  : ∀ (n : Nat) {a0 : Nat} {a1 : Int32} {a2 : Int32} {a3 : Int32} {mm : Mm} {H : Heap} {locs : List Loc} {ls : Array Slot}, (sX12 a0) → Wd D ca ad s.heap mm H locs → lv_has ls 4 [(0, .ref (ad a0)), (1, .int a1), (2, .int a2), (3, .int a3)] → fX12_nextStep_4 N n a0 a1 a2 a3 mm = some res → W p l e (rmX12_nextStep) s m args below meth c H locs 0 0 (MQ below (QI D ca ad res) args s 0 0 (AA ad)) (F0 m 4 ls []) := by
  intro n
  induction n with
  | zero => intro a0 a1 a2 a3 mm H locs ls ha0 hW hl hf; cases hf
  | succ n ih =>
    intro a0 a1 a2 a3 mm H locs ls ha0 hW hl hf
    have hk4 : ∀ (a0 : Nat) (a1 : Int32) (a2 : Int32) (a3 : Int32) (mm : Mm) (H : Heap) (locs : List Loc) (ls : Array Slot), (sX12 a0) → Wd D ca ad s.heap mm H locs → lv_has ls 4 [(0, .ref (ad a0)), (1, .int a1), (2, .int a2), (3, .int a3)] → (fX12_nextStep_4 N n) a0 a1 a2 a3 mm = some res → W p l e (rmX12_nextStep) s m args below meth c H locs 0 0 (MQ below (QI D ca ad res) args s 0 0 (AA ad)) (F0 m 4 ls []) := fun a0 a1 a2 a3 mm H locs ls ha0 hW hl hf => ih ha0 hW hl hf
    unfold fX12_nextStep_4 at hf
    try dsimp only at hf
    refine lv_iload_n C.1 C.2.1 dX12_nextStep_4 rfl (lv_at hl 3 rfl) ?_
    refine lv_aload_n C.1 C.2.1 dX12_nextStep_5 rfl (lv_at hl 0 rfl) ?_
    refine x_geti C hW (ha0).1 (ha0).2.1 (j := 10) rfl kX12 (by decide) rfl q_1026 dX12_nextStep_6 ?_
    refine lv_icmp_ge (tgt := 27) C.1 C.2.1 dX12_nextStep_9 (by decide) (fun c10 => ?_) (fun c10 => ?_)
    · have hf := if_t c10 hf
      refine lv_aload_n C.1 C.2.1 dX12_nextStep_27 rfl (lv_at hl 0 rfl) ?_
      refine x_geti C hW (ha0).1 (ha0).2.1 (j := 10) rfl kX12 (by decide) rfl q_1026 dX12_nextStep_28 ?_
      refine lv_iconst (v := 1) C.1 C.2.1 dX12_nextStep_31 (by decide) ?_
      refine lv_isub C.1 C.2.1 dX12_nextStep_32 ?_
      refine lv_istore_n (lv' := [(3, .int ((rd mm a0 10) - 1)), (0, .ref (ad a0)), (1, .int a1), (2, .int a2)]) C.1 C.2.1 dX12_nextStep_33 rfl hl (by decide) rfl (fun ls hl => ?_)
      exact wX12_nextStep_34 C  N ha0 hW (lv_sub hl [1, 2, 3, 0] rfl) hf
    · have hf := if_f c10 hf
      refine lv_iload_n C.1 C.2.1 dX12_nextStep_12 rfl (lv_at hl 2 rfl) ?_
      refine lv_aload_n C.1 C.2.1 dX12_nextStep_13 rfl (lv_at hl 0 rfl) ?_
      refine x_getr C hW (ha0).1 (ha0).2.1 (j := 30) rfl kX12 (by decide) rfl q_1046 dX12_nextStep_14 ?_
      refine lv_iload_n C.1 C.2.1 dX12_nextStep_17 rfl (lv_at hl 3 rfl) ?_
      obtain ⟨g11, hf⟩ := gd_s hf
      refine x_iald C hW ha0.2.2.2.2.2.2.2.2.2.2.2.2.2.2.2.2.1 g11 dX12_nextStep_18 ?_
      refine lv_iadd C.1 C.2.1 dX12_nextStep_19 ?_
      refine lv_topi (fun x12 ex12 => ?_)
      have hf := nm_s hf ex12
      refine lv_istore_n (lv' := [(2, .int x12), (0, .ref (ad a0)), (1, .int a1), (3, .int a3)]) C.1 C.2.1 dX12_nextStep_20 rfl hl (by decide) rfl (fun ls hl => ?_)
      refine lv_iinc (v := (a3 + 1)) (lv' := [(3, .int (a3 + 1)), (2, .int x12), (0, .ref (ad a0)), (1, .int a1)]) C.1 C.2.1 dX12_nextStep_21 hl (k := 3) rfl rfl (by decide) rfl (fun ls hl => ?_)
      refine lv_goto (tgt := 4) C.1 C.2.1 dX12_nextStep_24 (by decide) ?_
      exact hk4 _ _ _ _ _ _ _ _ ha0 hW (lv_sub hl [2, 3, 1, 0] rfl) hf
set_option maxRecDepth 100000 in
set_option maxHeartbeats 4000000 in
theorem wX12_nextStep_0 (C : Cx p s m meth c args cX12_nextStep 4 (some .boolean) RX12 D ca ad) {res : Int32 × Mm} {N : Nat}  {a0 : Nat} {a1 : Int32} {mm : Mm} {H : Heap} {locs : List Loc} {ls : Array Slot} (ha0 : sX12 a0) (hW : Wd D ca ad s.heap mm H locs) (hl : lv_has ls 4 [(0, .ref (ad a0)), (1, .int a1)]) (hf : fX12_nextStep N a0 a1 mm = some res) : W p l e (rmX12_nextStep) s m args below meth c H locs 0 0 (MQ below (QI D ca ad res) args s 0 0 (AA ad)) (F0 m 0 ls []) := by
  unfold fX12_nextStep at hf
  refine lv_iconst (v := 0) C.1 C.2.1 dX12_nextStep_0 (by decide) ?_
  refine lv_istore_n (lv' := [(2, .int 0), (0, .ref (ad a0)), (1, .int a1)]) C.1 C.2.1 dX12_nextStep_1 rfl hl (by decide) rfl (fun ls hl => ?_)
  refine lv_iconst (v := 0) C.1 C.2.1 dX12_nextStep_2 (by decide) ?_
  refine lv_istore_n (lv' := [(3, .int 0), (2, .int 0), (0, .ref (ad a0)), (1, .int a1)]) C.1 C.2.1 dX12_nextStep_3 rfl hl (by decide) rfl (fun ls hl => ?_)
  exact wX12_nextStep_4 C  N ha0 hW (lv_sub hl [2, 3, 1, 0] rfl) hf
set_option maxRecDepth 100000 in
set_option maxHeartbeats 4000000 in
theorem tX12_nextStep (l : Launch) {D : va_G} {ca ad : Nat → Nat} (hi : Inj ad) {N : Nat} {a0 : Nat} {a1 : Int32} {mm : Mm} {res : Int32 × Mm} (ha0 : sX12 a0) (hf : fX12_nextStep N a0 a1 mm = some res) : Met l yX12_nextStep (WS yX12_nextStep cX12_nextStep 4 (some .boolean)) (rmX12_nextStep) (va_Pc [.ref (ad a0), .int a1] (WB D ca ad mm)) (QI D ca ad res) 0 0 (AA ad) := by
  refine x_start hi (by decide) rfl (Nat.le_of_ble_eq_true rfl) (fun p e s m args below meth c ls C hW hl => ?_)
  exact wX12_nextStep_0 C ha0 hW (lv_sub hl [0, 1] rfl) hf
set_option maxRecDepth 100000 in
set_option maxHeartbeats 4000000 in
theorem wX12_stepFor_41 (C : Cx p s m meth c args cX12_stepFor 3 none RX12 D ca ad) {res : Unit × Mm} {N : Nat} {k2 : Nat → Int32 → Int32 → Mm → Option (Unit × Mm)} (hk2 : ∀ (a0 : Nat) (a1 : Int32) (a2 : Int32) (mm : Mm) (H : Heap) (locs : List Loc) (ls : Array Slot), (sX12 a0) → Wd D ca ad s.heap mm H locs → lv_has ls 3 [(0, .ref (ad a0)), (1, .int a1), (2, .int a2)] → k2 a0 a1 a2 mm = some res → W p l e (rmX12_stepFor) s m args below meth c H locs 0 0 (MQ below (QV D ca ad res) args s 0 0 (AA ad)) (F0 m 2 ls [])) {a0 : Nat} {a1 : Int32} {a2 : Int32} {mm : Mm} {H : Heap} {locs : List Loc} {ls : Array Slot} (ha0 : sX12 a0) (hW : Wd D ca ad s.heap mm H locs) (hl : lv_has ls 3 [(0, .ref (ad a0)), (1, .int a1), (2, .int a2)]) (hf : fX12_stepFor_41 N k2 a0 a1 a2 mm = some res) : W p l e (rmX12_stepFor) s m args below meth c H locs 0 0 (MQ below (QV D ca ad res) args s 0 0 (AA ad)) (F0 m 41 ls []) := by
  unfold fX12_stepFor_41 at hf
  refine lv_iinc (v := (a2 + 1)) (lv' := [(2, .int (a2 + 1)), (0, .ref (ad a0)), (1, .int a1)]) C.1 C.2.1 dX12_stepFor_41 hl (k := 2) rfl rfl (by decide) rfl (fun ls hl => ?_)
  refine lv_goto (tgt := 2) C.1 C.2.1 dX12_stepFor_44 (by decide) ?_
  exact hk2 _ _ _ _ _ _ _ ha0 hW (lv_sub hl [1, 2, 0] rfl) hf
set_option maxRecDepth 100000 in
set_option maxHeartbeats 4000000 in
theorem wX12_stepFor_2 (C : Cx p s m meth c args cX12_stepFor 3 none RX12 D ca ad) {res : Unit × Mm} {N : Nat}  : ∀ (n : Nat) {a0 : Nat} {a1 : Int32} {a2 : Int32} {mm : Mm} {H : Heap} {locs : List Loc} {ls : Array Slot}, (sX12 a0) → Wd D ca ad s.heap mm H locs → lv_has ls 3 [(0, .ref (ad a0)), (1, .int a1), (2, .int a2)] → fX12_stepFor_2 N n a0 a1 a2 mm = some res → W p l e (rmX12_stepFor) s m args below meth c H locs 0 0 (MQ below (QV D ca ad res) args s 0 0 (AA ad)) (F0 m 2 ls []) := by
  intro n
  induction n with
  | zero => intro a0 a1 a2 mm H locs ls ha0 hW hl hf; cases hf
  | succ n ih =>
    intro a0 a1 a2 mm H locs ls ha0 hW hl hf
    have hk2 : ∀ (a0 : Nat) (a1 : Int32) (a2 : Int32) (mm : Mm) (H : Heap) (locs : List Loc) (ls : Array Slot), (sX12 a0) → Wd D ca ad s.heap mm H locs → lv_has ls 3 [(0, .ref (ad a0)), (1, .int a1), (2, .int a2)] → (fX12_stepFor_2 N n) a0 a1 a2 mm = some res → W p l e (rmX12_stepFor) s m args below meth c H locs 0 0 (MQ below (QV D ca ad res) args s 0 0 (AA ad)) (F0 m 2 ls []) := fun a0 a1 a2 mm H locs ls ha0 hW hl hf => ih ha0 hW hl hf
    unfold fX12_stepFor_2 at hf
    try dsimp only at hf
    refine lv_iload_n C.1 C.2.1 dX12_stepFor_2 rfl (lv_at hl 2 rfl) ?_
    refine lv_aload_n C.1 C.2.1 dX12_stepFor_3 rfl (lv_at hl 0 rfl) ?_
    refine x_geti C hW (ha0).1 (ha0).2.1 (j := 10) rfl kX12 (by decide) rfl q_1026 dX12_stepFor_4 ?_
    refine lv_icmp_ge (tgt := 47) C.1 C.2.1 dX12_stepFor_7 (by decide) (fun c1 => ?_) (fun c1 => ?_)
    · have hf := if_t c1 hf
      cases hf
      exact x_vret C hW dX12_stepFor_47
    · have hf := if_f c1 hf
      refine lv_iload_n C.1 C.2.1 dX12_stepFor_10 rfl (lv_at hl 1 rfl) ?_
      refine lv_if_ne (tgt := 29) C.1 C.2.1 dX12_stepFor_11 (by decide) (fun c2 => ?_) (fun c2 => ?_)
      · have hf := if_f c2 hf
        refine lv_aload_n C.1 C.2.1 dX12_stepFor_29 rfl (lv_at hl 0 rfl) ?_
        refine x_getr C hW (ha0).1 (ha0).2.1 (j := 20) rfl kX12 (by decide) rfl q_1036 dX12_stepFor_30 ?_
        refine lv_iload_n C.1 C.2.1 dX12_stepFor_33 rfl (lv_at hl 2 rfl) ?_
        refine lv_aload_n C.1 C.2.1 dX12_stepFor_34 rfl (lv_at hl 0 rfl) ?_
        refine x_getr C hW (ha0).1 (ha0).2.1 (j := 30) rfl kX12 (by decide) rfl q_1046 dX12_stepFor_35 ?_
        refine lv_iload_n C.1 C.2.1 dX12_stepFor_38 rfl (lv_at hl 2 rfl) ?_
        obtain ⟨g3, hf⟩ := gd_s hf
        refine x_iald C hW ha0.2.2.2.2.2.2.2.2.2.2.2.2.2.2.2.2.1 g3 dX12_stepFor_39 ?_
        obtain ⟨g4, hf⟩ := gd_s hf
        refine x_iast C hW ha0.2.2.2.2.2.2.2.2.2.2.2.2.1 g4 dX12_stepFor_40 (fun H locs hW => ?_)
        obtain ⟨m5, em5⟩ : ∃ z, z = wr mm (fr a0 20) a2.toNatClampNeg (rd mm (fr a0 30) a2.toNatClampNeg) := ⟨_, rfl⟩
        have hf := nm_s hf em5
        rw [← em5] at hW
        exact wX12_stepFor_41 C hk2 ha0 hW (lv_sub hl [0, 1, 2] rfl) hf
      · have hf := if_t c2 hf
        refine lv_aload_n C.1 C.2.1 dX12_stepFor_14 rfl (lv_at hl 0 rfl) ?_
        refine x_getr C hW (ha0).1 (ha0).2.1 (j := 19) rfl kX12 (by decide) rfl q_1035 dX12_stepFor_15 ?_
        refine lv_iload_n C.1 C.2.1 dX12_stepFor_18 rfl (lv_at hl 2 rfl) ?_
        refine lv_aload_n C.1 C.2.1 dX12_stepFor_19 rfl (lv_at hl 0 rfl) ?_
        refine x_getr C hW (ha0).1 (ha0).2.1 (j := 30) rfl kX12 (by decide) rfl q_1046 dX12_stepFor_20 ?_
        refine lv_iload_n C.1 C.2.1 dX12_stepFor_23 rfl (lv_at hl 2 rfl) ?_
        obtain ⟨g6, hf⟩ := gd_s hf
        refine x_iald C hW ha0.2.2.2.2.2.2.2.2.2.2.2.2.2.2.2.2.1 g6 dX12_stepFor_24 ?_
        obtain ⟨g7, hf⟩ := gd_s hf
        refine x_iast C hW ha0.2.2.2.2.2.2.2.2.2.2.2.1 g7 dX12_stepFor_25 (fun H locs hW => ?_)
        obtain ⟨m8, em8⟩ : ∃ z, z = wr mm (fr a0 19) a2.toNatClampNeg (rd mm (fr a0 30) a2.toNatClampNeg) := ⟨_, rfl⟩
        have hf := nm_s hf em8
        rw [← em8] at hW
        refine lv_goto (tgt := 41) C.1 C.2.1 dX12_stepFor_26 (by decide) ?_
        exact wX12_stepFor_41 C hk2 ha0 hW (lv_sub hl [0, 1, 2] rfl) hf
set_option maxRecDepth 100000 in
set_option maxHeartbeats 4000000 in
theorem wX12_stepFor_0 (C : Cx p s m meth c args cX12_stepFor 3 none RX12 D ca ad) {res : Unit × Mm} {N : Nat}  {a0 : Nat} {a1 : Int32} {mm : Mm} {H : Heap} {locs : List Loc} {ls : Array Slot} (ha0 : sX12 a0) (hW : Wd D ca ad s.heap mm H locs) (hl : lv_has ls 3 [(0, .ref (ad a0)), (1, .int a1)]) (hf : fX12_stepFor N a0 a1 mm = some res) : W p l e (rmX12_stepFor) s m args below meth c H locs 0 0 (MQ below (QV D ca ad res) args s 0 0 (AA ad)) (F0 m 0 ls []) := by
  unfold fX12_stepFor at hf
  refine lv_iconst (v := 0) C.1 C.2.1 dX12_stepFor_0 (by decide) ?_
  refine lv_istore_n (lv' := [(2, .int 0), (0, .ref (ad a0)), (1, .int a1)]) C.1 C.2.1 dX12_stepFor_1 rfl hl (by decide) rfl (fun ls hl => ?_)
  exact wX12_stepFor_2 C  N ha0 hW (lv_sub hl [1, 2, 0] rfl) hf
set_option maxRecDepth 100000 in
set_option maxHeartbeats 4000000 in
theorem tX12_stepFor (l : Launch) {D : va_G} {ca ad : Nat → Nat} (hi : Inj ad) {N : Nat} {a0 : Nat} {a1 : Int32} {mm : Mm} {res : Unit × Mm} (ha0 : sX12 a0) (hf : fX12_stepFor N a0 a1 mm = some res) : Met l yX12_stepFor (WS yX12_stepFor cX12_stepFor 3 none) (rmX12_stepFor) (va_Pc [.ref (ad a0), .int a1] (WB D ca ad mm)) (QV D ca ad res) 0 0 (AA ad) := by
  refine x_start hi (by decide) rfl (Nat.le_of_ble_eq_true rfl) (fun p e s m args below meth c ls C hW hl => ?_)
  exact wX12_stepFor_0 C ha0 hW (lv_sub hl [0, 1] rfl) hf
set_option maxRecDepth 100000 in
set_option maxHeartbeats 4000000 in
theorem wX12_ways_90 (C : Cx p s m meth c args cX12_ways 6 (some .int) RX12 D ca ad) {res : Int32 × Mm} {N : Nat} {k62 : Nat → Int32 → Int32 → Int32 → Mm → Option (Int32 × Mm)} (hk62 : ∀ (a0 : Nat) (a2 : Int32) (a4 : Int32) (a5 : Int32) (mm : Mm) (H : Heap) (locs : List Loc) (ls : Array Slot), (sX12 a0) → Wd D ca ad s.heap mm H locs → lv_has ls 6 [(0, .ref (ad a0)), (2, .int a2), (4, .int a4), (5, .int a5)] → k62 a0 a2 a4 a5 mm = some res → W p l e (rmX12_ways) s m args below meth c H locs 0 0 (MQ below (QI D ca ad res) args s 0 0 (AA ad)) (F0 m 62 ls [])) {a0 : Nat} {a2 : Int32} {a4 : Int32} {s0 : Int32} {s1 : Int32} {mm : Mm} {H : Heap} {locs : List Loc} {ls : Array Slot} (ha0 : sX12 a0) (hW : Wd D ca ad s.heap mm H locs) (hl : lv_has ls 6 [(0, .ref (ad a0)), (2, .int a2), (4, .int a4)]) (hf : fX12_ways_90 N k62 a0 a2 a4 s0 s1 mm = some res) : W p l e (rmX12_ways) s m args below meth c H locs 0 0 (MQ below (QI D ca ad res) args s 0 0 (AA ad)) (F0 m 90 ls [.int s1, .int s0]) := by
  unfold fX12_ways_90 at hf
  refine lv_iadd C.1 C.2.1 dX12_ways_90 ?_
  refine lv_istore (lv' := [(5, .int (s0 + s1)), (0, .ref (ad a0)), (2, .int a2), (4, .int a4)]) C.1 C.2.1 dX12_ways_91 hl (by decide) rfl (fun ls hl => ?_)
  refine lv_aload_n C.1 C.2.1 dX12_ways_93 rfl (lv_at hl 1 rfl) ?_
  refine lv_aload_n C.1 C.2.1 dX12_ways_94 rfl (lv_at hl 1 rfl) ?_
  refine x_getr C hW (ha0).1 (ha0).2.1 (j := 12) rfl kX12 (by decide) rfl q_1028 dX12_ways_95 ?_
  refine lv_iconst (v := 0) C.1 C.2.1 dX12_ways_98 (by decide) ?_
  obtain ⟨g1, hf⟩ := gd_s hf
  refine x_iald C hW ha0.2.2.2.2.2.2.2.2.2.1 g1 dX12_ways_99 ?_
  obtain ⟨x2, m3, r4, hf⟩ := bd2_s hf
  refine x_ci hW (x_runV C hW [.int (rd mm (fr a0 12) ((0 : Int32).toNatClampNeg))] [] (ha0).1 (ha0).2.1 kX12.1 kvX12_nextStep q_1369 (tX12_nextStep l C.2.2.2.2.2.2.1 ha0 r4) rfl rfl ⟨by decide, by decide⟩ rfl hl.1 rfl (Nat.le_of_ble_eq_true rfl) dX12_ways_100) (fun H locs hW => ?_)
  refine lv_if_ne (tgt := 62) C.1 C.2.1 dX12_ways_103 (by decide) (fun c5 => ?_) (fun c5 => ?_)
  · have hf := if_f c5 hf
    exact hk62 _ _ _ _ _ _ _ _ ha0 hW (lv_sub hl [1, 2, 3, 0] rfl) hf
  · have hf := if_t c5 hf
    refine lv_aload_n C.1 C.2.1 dX12_ways_106 rfl (lv_at hl 1 rfl) ?_
    refine lv_iload C.1 C.2.1 dX12_ways_107 (lv_at hl 0 rfl) ?_
    refine lv_i2l C.1 C.2.1 dX12_ways_109 rfl ?_
    refine lv_iload C.1 C.2.1 dX12_ways_110 (lv_at hl 3 rfl) ?_
    refine lv_i2l C.1 C.2.1 dX12_ways_112 rfl ?_
    refine lv_iload C.1 C.2.1 dX12_ways_113 (lv_at hl 0 rfl) ?_
    obtain ⟨x6, m7, r8, hf⟩ := bd2_s hf
    refine x_ci hW (x_runV C hW [.long ((s0 + s1).toInt64), .long a4.toInt64, .int (s0 + s1)] [] (ha0).1 (ha0).2.1 kX12.1 kvX12_part q_1373 (tX12_part l C.2.2.2.2.2.2.1 ha0 r8) rfl rfl ⟨by decide, by decide⟩ rfl hl.1 rfl (Nat.le_of_ble_eq_true rfl) dX12_ways_115) (fun H locs hW => ?_)
    cases hf
    exact x_iret C hW dX12_ways_118
set_option maxRecDepth 100000 in
set_option maxHeartbeats 4000000 in
theorem wX12_ways_62 (C : Cx p s m meth c args cX12_ways 6 (some .int) RX12 D ca ad) {res : Int32 × Mm} {N : Nat}  : ∀ (n : Nat) {a0 : Nat} {a2 : Int32} {a4 : Int32} {a5 : Int32} {mm : Mm} {H : Heap} {locs : List Loc} {ls : Array Slot}, (sX12 a0) → Wd D ca ad s.heap mm H locs → lv_has ls 6 [(0, .ref (ad a0)), (2, .int a2), (4, .int a4), (5, .int a5)] → fX12_ways_62 N n a0 a2 a4 a5 mm = some res → W p l e (rmX12_ways) s m args below meth c H locs 0 0 (MQ below (QI D ca ad res) args s 0 0 (AA ad)) (F0 m 62 ls []) := by
  intro n
  induction n with
  | zero => intro a0 a2 a4 a5 mm H locs ls ha0 hW hl hf; cases hf
  | succ n ih =>
    intro a0 a2 a4 a5 mm H locs ls ha0 hW hl hf
    have hk62 : ∀ (a0 : Nat) (a2 : Int32) (a4 : Int32) (a5 : Int32) (mm : Mm) (H : Heap) (locs : List Loc) (ls : Array Slot), (sX12 a0) → Wd D ca ad s.heap mm H locs → lv_has ls 6 [(0, .ref (ad a0)), (2, .int a2), (4, .int a4), (5, .int a5)] → (fX12_ways_62 N n) a0 a2 a4 a5 mm = some res → W p l e (rmX12_ways) s m args below meth c H locs 0 0 (MQ below (QI D ca ad res) args s 0 0 (AA ad)) (F0 m 62 ls []) := fun a0 a2 a4 a5 mm H locs ls ha0 hW hl hf => ih ha0 hW hl hf
    unfold fX12_ways_62 at hf
    try dsimp only at hf
    refine lv_aload_n C.1 C.2.1 dX12_ways_62 rfl (lv_at hl 0 rfl) ?_
    refine lv_iconst (v := 0) C.1 C.2.1 dX12_ways_63 (by decide) ?_
    obtain ⟨x9, m10, r11, hf⟩ := bd2_s hf
    refine x_cv hW (x_runV C hW [.int 0] [] (ha0).1 (ha0).2.1 kX12.1 kvX12_stepFor q_1365 (tX12_stepFor l C.2.2.2.2.2.2.1 ha0 r11) rfl rfl ⟨by decide, by decide⟩ rfl hl.1 rfl (Nat.le_of_ble_eq_true rfl) dX12_ways_64) (fun H locs hW => ?_)
    refine lv_aload_n C.1 C.2.1 dX12_ways_67 rfl (lv_at hl 0 rfl) ?_
    obtain ⟨x12, m13, r14, hf⟩ := bd2_s hf
    refine x_cv hW (x_runV C hW [] [] (ha0).1 (ha0).2.1 kX12.1 kvX12_setWinners q_1292 (tX12_setWinners l C.2.2.2.2.2.2.1 ha0 r14) rfl rfl ⟨by decide, by decide⟩ rfl hl.1 rfl (Nat.le_of_ble_eq_true rfl) dX12_ways_68) (fun H locs hW => ?_)
    refine lv_iinc (v := (a4 + 1)) (lv' := [(4, .int (a4 + 1)), (0, .ref (ad a0)), (2, .int a2), (5, .int a5)]) C.1 C.2.1 dX12_ways_71 hl (k := 2) rfl rfl (by decide) rfl (fun ls hl => ?_)
    refine lv_iload C.1 C.2.1 dX12_ways_74 (lv_at hl 3 rfl) ?_
    refine lv_aload_n C.1 C.2.1 dX12_ways_76 rfl (lv_at hl 1 rfl) ?_
    refine lv_iconst (v := 0) C.1 C.2.1 dX12_ways_77 (by decide) ?_
    obtain ⟨x15, m16, r17, hf⟩ := bd2_s hf
    refine x_ci hW (x_runV C hW [.int 0] [.int a5] (ha0).1 (ha0).2.1 kX12.1 kvX12_scoreOf q_1304 (tX12_scoreOf l C.2.2.2.2.2.2.1 ha0 r17) rfl rfl ⟨by decide, by decide⟩ rfl hl.1 rfl (Nat.le_of_ble_eq_true rfl) dX12_ways_78) (fun H locs hW => ?_)
    refine lv_iload_n C.1 C.2.1 dX12_ways_81 rfl (lv_at hl 2 rfl) ?_
    refine lv_icmp_lt (tgt := 89) C.1 C.2.1 dX12_ways_82 (by decide) (fun c18 => ?_) (fun c18 => ?_)
    · have hf := if_t c18 hf
      refine lv_iconst (v := 0) C.1 C.2.1 dX12_ways_89 (by decide) ?_
      exact wX12_ways_90 C hk62 ha0 hW (lv_sub hl [1, 2, 0] rfl) hf
    · have hf := if_f c18 hf
      refine lv_iconst (v := 1) C.1 C.2.1 dX12_ways_85 (by decide) ?_
      refine lv_goto (tgt := 90) C.1 C.2.1 dX12_ways_86 (by decide) ?_
      exact wX12_ways_90 C hk62 ha0 hW (lv_sub hl [1, 2, 0] rfl) hf
set_option maxRecDepth 100000 in
set_option maxHeartbeats 4000000 in
theorem wX12_ways_0 (C : Cx p s m meth c args cX12_ways 6 (some .int) RX12 D ca ad) {res : Int32 × Mm} {N : Nat}  {a0 : Nat} {a1 : Int32} {a2 : Int32} {mm : Mm} {H : Heap} {locs : List Loc} {ls : Array Slot} (ha0 : sX12 a0) (hW : Wd D ca ad s.heap mm H locs) (hl : lv_has ls 6 [(0, .ref (ad a0)), (1, .int a1), (2, .int a2)]) (hf : fX12_ways N a0 a1 a2 mm = some res) : W p l e (rmX12_ways) s m args below meth c H locs 0 0 (MQ below (QI D ca ad res) args s 0 0 (AA ad)) (F0 m 0 ls []) := by
  unfold fX12_ways at hf
  refine lv_iload_n C.1 C.2.1 dX12_ways_0 rfl (lv_at hl 1 rfl) ?_
  obtain ⟨x19, m20, r21, hf⟩ := bd2_s hf
  refine x_ci hW (x_runS C hW [.int a1] [] kvX12_isRow q_1147 (tX12_isRow l C.2.2.2.2.2.2.1  r21) rfl rfl ⟨by decide, by decide⟩ rfl hl.1 rfl (Nat.le_of_ble_eq_true rfl) dX12_ways_1) (fun H locs hW => ?_)
  refine lv_if_eq (tgt := 17) C.1 C.2.1 dX12_ways_4 (by decide) (fun c22 => ?_) (fun c22 => ?_)
  · have hf := if_t c22 hf
    refine lv_iconst (v := (-1)) C.1 C.2.1 dX12_ways_17 (by decide) ?_
    cases hf
    exact x_iret C hW dX12_ways_18
  · have hf := if_f c22 hf
    refine lv_iload_n C.1 C.2.1 dX12_ways_7 rfl (lv_at hl 2 rfl) ?_
    refine lv_iconst (v := 0) C.1 C.2.1 dX12_ways_8 (by decide) ?_
    refine lv_bipush (v := 108) C.1 C.2.1 dX12_ways_9 (by decide) ?_
    obtain ⟨x23, m24, r25, hf⟩ := bd2_s hf
    refine x_ci hW (x_runS C hW [.int a2, .int 0, .int 108] [] kvX12_in q_1150 (tX12_in l C.2.2.2.2.2.2.1  r25) rfl rfl ⟨by decide, by decide⟩ rfl hl.1 rfl (Nat.le_of_ble_eq_true rfl) dX12_ways_11) (fun H locs hW => ?_)
    refine lv_if_ne (tgt := 19) C.1 C.2.1 dX12_ways_14 (by decide) (fun c26 => ?_) (fun c26 => ?_)
    · have hf := if_f c26 hf
      refine lv_aload_n C.1 C.2.1 dX12_ways_19 rfl (lv_at hl 0 rfl) ?_
      refine x_getr C hW (ha0).1 (ha0).2.1 (j := 12) rfl kX12 (by decide) rfl q_1028 dX12_ways_20 ?_
      refine lv_iconst (v := 0) C.1 C.2.1 dX12_ways_23 (by decide) ?_
      obtain ⟨g27, hf⟩ := gd_s hf
      refine x_iald C hW ha0.2.2.2.2.2.2.2.2.2.1 g27 dX12_ways_24 ?_
      refine lv_bipush (v := 12) C.1 C.2.1 dX12_ways_25 (by decide) ?_
      refine lv_icmp_le (tgt := 33) C.1 C.2.1 dX12_ways_27 (by decide) (fun c28 => ?_) (fun c28 => ?_)
      · have hf := if_t c28 hf
        refine lv_aload_n C.1 C.2.1 dX12_ways_33 rfl (lv_at hl 0 rfl) ?_
        refine lv_iload_n C.1 C.2.1 dX12_ways_34 rfl (lv_at hl 1 rfl) ?_
        refine lv_iconst (v := 1) C.1 C.2.1 dX12_ways_35 (by decide) ?_
        obtain ⟨x29, m30, r31, hf⟩ := bd2_s hf
        refine x_ci hW (x_runV C hW [.int a1, .int 1] [] (ha0).1 (ha0).2.1 kX12.1 kvX12_askedLaying q_1320 (tX12_askedLaying l C.2.2.2.2.2.2.1 ha0 r31) rfl rfl ⟨by decide, by decide⟩ rfl hl.1 rfl (Nat.le_of_ble_eq_true rfl) dX12_ways_36) (fun H locs hW => ?_)
        refine lv_istore_n (lv' := [(3, .int x29), (0, .ref (ad a0)), (1, .int a1), (2, .int a2)]) C.1 C.2.1 dX12_ways_39 rfl hl (by decide) rfl (fun ls hl => ?_)
        refine lv_iload_n C.1 C.2.1 dX12_ways_40 rfl (lv_at hl 0 rfl) ?_
        refine lv_if_ge (tgt := 46) C.1 C.2.1 dX12_ways_41 (by decide) (fun c32 => ?_) (fun c32 => ?_)
        · have hf := if_t c32 hf
          refine lv_aload_n C.1 C.2.1 dX12_ways_46 rfl (lv_at hl 1 rfl) ?_
          refine lv_iload_n C.1 C.2.1 dX12_ways_47 rfl (lv_at hl 2 rfl) ?_
          refine lv_iconst (v := 1) C.1 C.2.1 dX12_ways_48 (by decide) ?_
          obtain ⟨x33, m34, r35, hf⟩ := bd2_s hf
          refine x_cv hW (x_runV C hW [.int a1, .int 1] [] (ha0).1 (ha0).2.1 kX12.1 kvX12_takes q_1288 (tX12_takes l C.2.2.2.2.2.2.1 ha0 r35) rfl rfl ⟨by decide, by decide⟩ rfl hl.1 rfl (Nat.le_of_ble_eq_true rfl) dX12_ways_49) (fun H locs hW => ?_)
          refine lv_iconst (v := 0) C.1 C.2.1 dX12_ways_52 (by decide) ?_
          refine lv_istore (lv' := [(4, .int 0), (3, .int x29), (0, .ref (ad a0)), (1, .int a1), (2, .int a2)]) C.1 C.2.1 dX12_ways_53 hl (by decide) rfl (fun ls hl => ?_)
          refine lv_iconst (v := 0) C.1 C.2.1 dX12_ways_55 (by decide) ?_
          refine lv_istore (lv' := [(5, .int 0), (4, .int 0), (3, .int x29), (0, .ref (ad a0)), (1, .int a1), (2, .int a2)]) C.1 C.2.1 dX12_ways_56 hl (by decide) rfl (fun ls hl => ?_)
          refine lv_aload_n C.1 C.2.1 dX12_ways_58 rfl (lv_at hl 3 rfl) ?_
          obtain ⟨x36, m37, r38, hf⟩ := bd2_s hf
          refine x_cv hW (x_runV C hW [] [] (ha0).1 (ha0).2.1 kX12.1 kvX12_firstStep q_1361 (tX12_firstStep l C.2.2.2.2.2.2.1 ha0 r38) rfl rfl ⟨by decide, by decide⟩ rfl hl.1 rfl (Nat.le_of_ble_eq_true rfl) dX12_ways_59) (fun H locs hW => ?_)
          exact wX12_ways_62 C  N ha0 hW (lv_sub hl [3, 5, 1, 0] rfl) hf
        · have hf := if_f c32 hf
          refine lv_iload_n C.1 C.2.1 dX12_ways_44 rfl (lv_at hl 0 rfl) ?_
          cases hf
          exact x_iret C hW dX12_ways_45
      · have hf := if_f c28 hf
        refine lv_bipush (v := (-6)) C.1 C.2.1 dX12_ways_30 (by decide) ?_
        cases hf
        exact x_iret C hW dX12_ways_32
    · have hf := if_t c26 hf
      refine lv_iconst (v := (-1)) C.1 C.2.1 dX12_ways_17 (by decide) ?_
      cases hf
      exact x_iret C hW dX12_ways_18
set_option maxRecDepth 100000 in
set_option maxHeartbeats 4000000 in
theorem tX12_ways (l : Launch) {D : va_G} {ca ad : Nat → Nat} (hi : Inj ad) {N : Nat} {a0 : Nat} {a1 : Int32} {a2 : Int32} {mm : Mm} {res : Int32 × Mm} (ha0 : sX12 a0) (hf : fX12_ways N a0 a1 a2 mm = some res) : Met l yX12_ways (WS yX12_ways cX12_ways 6 (some .int)) (rmX12_ways) (va_Pc [.ref (ad a0), .int a1, .int a2] (WB D ca ad mm)) (QI D ca ad res) 0 0 (AA ad) := by
  refine x_start hi (by decide) rfl (Nat.le_of_ble_eq_true rfl) (fun p e s m args below meth c ls C hW hl => ?_)
  exact wX12_ways_0 C ha0 hW (lv_sub hl [0, 1, 2] rfl) hf
set_option maxRecDepth 100000 in
set_option maxHeartbeats 4000000 in
theorem wX12_worstOn_97 (C : Cx p s m meth c args cX12_worstOn 6 none RX12 D ca ad) {res : Unit × Mm} {d0 : Nat} {N : Nat} {rec : Nat → Int32 → Int32 → Int32 → Mm → Option (Unit × Mm)} {k32 : Nat → Int32 → Int32 → Int32 → Int32 → Mm → Option (Unit × Mm)} (hrec : ∀ (a0 : Nat) (a1 : Int32) (a2 : Int32) (a3 : Int32) (mm : Mm) (res : Unit × Mm), (sX12 a0) → rec a0 a1 a2 a3 mm = some res → Met l yX12_worstOn (WS yX12_worstOn cX12_worstOn 6 none) (rmX12_worstOn d0) (va_Pc [.ref (ad a0), .int a1, .int a2, .int a3] (WB D ca ad mm)) (QV D ca ad res) 0 0 (AA ad)) (hk32 : ∀ (a0 : Nat) (a1 : Int32) (a2 : Int32) (a3 : Int32) (a4 : Int32) (mm : Mm) (H : Heap) (locs : List Loc) (ls : Array Slot), (sX12 a0) → Wd D ca ad s.heap mm H locs → lv_has ls 6 [(0, .ref (ad a0)), (1, .int a1), (2, .int a2), (3, .int a3), (4, .int a4)] → k32 a0 a1 a2 a3 a4 mm = some res → W p l e (rmX12_worstOn (d0 + 1)) s m args below meth c H locs 0 0 (MQ below (QV D ca ad res) args s 0 0 (AA ad)) (F0 m 32 ls [])) {a0 : Nat} {a1 : Int32} {a2 : Int32} {a3 : Int32} {a4 : Int32} {mm : Mm} {H : Heap} {locs : List Loc} {ls : Array Slot} (ha0 : sX12 a0) (hW : Wd D ca ad s.heap mm H locs) (hl : lv_has ls 6 [(0, .ref (ad a0)), (1, .int a1), (2, .int a2), (3, .int a3), (4, .int a4)]) (hf : fX12_worstOn_97 N rec k32 a0 a1 a2 a3 a4 mm = some res) : W p l e (rmX12_worstOn (d0 + 1)) s m args below meth c H locs 0 0 (MQ below (QV D ca ad res) args s 0 0 (AA ad)) (F0 m 97 ls []) := by
  unfold fX12_worstOn_97 at hf
  refine lv_iinc (v := (a4 + 1)) (lv' := [(4, .int (a4 + 1)), (0, .ref (ad a0)), (1, .int a1), (2, .int a2), (3, .int a3)]) C.1 C.2.1 dX12_worstOn_97 hl (k := 4) rfl rfl (by decide) rfl (fun ls hl => ?_)
  refine lv_goto (tgt := 32) C.1 C.2.1 dX12_worstOn_100 (by decide) ?_
  exact hk32 _ _ _ _ _ _ _ _ _ ha0 hW (lv_sub hl [1, 2, 3, 4, 0] rfl) hf
set_option maxRecDepth 100000 in
set_option maxHeartbeats 4000000 in
theorem wX12_worstOn_32 (C : Cx p s m meth c args cX12_worstOn 6 none RX12 D ca ad) {res : Unit × Mm} {d0 : Nat} {N : Nat} {rec : Nat → Int32 → Int32 → Int32 → Mm → Option (Unit × Mm)} (hrec : ∀ (a0 : Nat) (a1 : Int32) (a2 : Int32) (a3 : Int32) (mm : Mm) (res : Unit × Mm), (sX12 a0) → rec a0 a1 a2 a3 mm = some res → Met l yX12_worstOn (WS yX12_worstOn cX12_worstOn 6 none) (rmX12_worstOn d0) (va_Pc [.ref (ad a0), .int a1, .int a2, .int a3] (WB D ca ad mm)) (QV D ca ad res) 0 0 (AA ad)) : ∀ (n : Nat) {a0 : Nat} {a1 : Int32} {a2 : Int32} {a3 : Int32} {a4 : Int32} {mm : Mm} {H : Heap} {locs : List Loc} {ls : Array Slot}, (sX12 a0) → Wd D ca ad s.heap mm H locs → lv_has ls 6 [(0, .ref (ad a0)), (1, .int a1), (2, .int a2), (3, .int a3), (4, .int a4)] → fX12_worstOn_32 N rec n a0 a1 a2 a3 a4 mm = some res → W p l e (rmX12_worstOn (d0 + 1)) s m args below meth c H locs 0 0 (MQ below (QV D ca ad res) args s 0 0 (AA ad)) (F0 m 32 ls []) := by
  intro n
  induction n with
  | zero => intro a0 a1 a2 a3 a4 mm H locs ls ha0 hW hl hf; cases hf
  | succ n ih =>
    intro a0 a1 a2 a3 a4 mm H locs ls ha0 hW hl hf
    have hk32 : ∀ (a0 : Nat) (a1 : Int32) (a2 : Int32) (a3 : Int32) (a4 : Int32) (mm : Mm) (H : Heap) (locs : List Loc) (ls : Array Slot), (sX12 a0) → Wd D ca ad s.heap mm H locs → lv_has ls 6 [(0, .ref (ad a0)), (1, .int a1), (2, .int a2), (3, .int a3), (4, .int a4)] → (fX12_worstOn_32 N rec n) a0 a1 a2 a3 a4 mm = some res → W p l e (rmX12_worstOn (d0 + 1)) s m args below meth c H locs 0 0 (MQ below (QV D ca ad res) args s 0 0 (AA ad)) (F0 m 32 ls []) := fun a0 a1 a2 a3 a4 mm H locs ls ha0 hW hl hf => ih ha0 hW hl hf
    unfold fX12_worstOn_32 at hf
    try dsimp only at hf
    refine lv_iload C.1 C.2.1 dX12_worstOn_32 (lv_at hl 4 rfl) ?_
    refine lv_iconst (v := 3) C.1 C.2.1 dX12_worstOn_34 (by decide) ?_
    refine lv_icmp_ge (tgt := 103) C.1 C.2.1 dX12_worstOn_35 (by decide) (fun c1 => ?_) (fun c1 => ?_)
    · have hf := if_t c1 hf
      cases hf
      exact x_vret C hW dX12_worstOn_103
    · have hf := if_f c1 hf
      refine lv_aload_n C.1 C.2.1 dX12_worstOn_38 rfl (lv_at hl 0 rfl) ?_
      refine lv_iload_n C.1 C.2.1 dX12_worstOn_39 rfl (lv_at hl 1 rfl) ?_
      refine lv_iconst (v := 1) C.1 C.2.1 dX12_worstOn_40 (by decide) ?_
      refine lv_iload C.1 C.2.1 dX12_worstOn_41 (lv_at hl 4 rfl) ?_
      obtain ⟨x2, m3, r4, hf⟩ := bd2_s hf
      refine x_ci hW (x_runV C hW [.int a1, .int 1, .int a4] [] (ha0).1 (ha0).2.1 kX12.1 kvX12_fewestFor q_1340 (tX12_fewestFor l C.2.2.2.2.2.2.1 ha0 r4) rfl rfl ⟨by first | decide | (simp only [rmX12_fewestFor, rmX12_worstOn]; omega), by first | decide | (simp only [rmX12_fewestFor, rmX12_worstOn]; omega)⟩ rfl hl.1 rfl (Nat.le_of_ble_eq_true rfl) dX12_worstOn_43) (fun H locs hW => ?_)
      refine lv_istore (lv' := [(5, .int x2), (0, .ref (ad a0)), (1, .int a1), (2, .int a2), (3, .int a3), (4, .int a4)]) C.1 C.2.1 dX12_worstOn_46 hl (by decide) rfl (fun ls hl => ?_)
      refine lv_iload C.1 C.2.1 dX12_worstOn_48 (lv_at hl 0 rfl) ?_
      refine lv_bipush (v := (-9)) C.1 C.2.1 dX12_worstOn_50 (by decide) ?_
      refine lv_icmp_eq (tgt := 97) C.1 C.2.1 dX12_worstOn_52 (by decide) (fun c5 => ?_) (fun c5 => ?_)
      · have hf := if_t c5 hf
        exact wX12_worstOn_97 C hrec hk32 ha0 hW (lv_sub hl [1, 2, 3, 4, 5] rfl) hf
      · have hf := if_f c5 hf
        refine lv_iload_n C.1 C.2.1 dX12_worstOn_55 rfl (lv_at hl 4 rfl) ?_
        refine lv_iload C.1 C.2.1 dX12_worstOn_56 (lv_at hl 0 rfl) ?_
        refine lv_iadd C.1 C.2.1 dX12_worstOn_58 ?_
        refine lv_aload_n C.1 C.2.1 dX12_worstOn_59 rfl (lv_at hl 1 rfl) ?_
        refine x_getr C hW (ha0).1 (ha0).2.1 (j := 12) rfl kX12 (by decide) rfl q_1028 dX12_worstOn_60 ?_
        refine lv_iconst (v := 1) C.1 C.2.1 dX12_worstOn_63 (by decide) ?_
        obtain ⟨g6, hf⟩ := gd_s hf
        refine x_iald C hW ha0.2.2.2.2.2.2.2.2.2.1 g6 dX12_worstOn_64 ?_
        refine lv_icmp_gt (tgt := 97) C.1 C.2.1 dX12_worstOn_65 (by decide) (fun c7 => ?_) (fun c7 => ?_)
        · have hf := if_t c7 hf
          exact wX12_worstOn_97 C hrec hk32 ha0 hW (lv_sub hl [1, 2, 3, 4, 5] rfl) hf
        · have hf := if_f c7 hf
          refine lv_aload_n C.1 C.2.1 dX12_worstOn_68 rfl (lv_at hl 1 rfl) ?_
          refine x_getr C hW (ha0).1 (ha0).2.1 (j := 21) rfl kX12 (by decide) rfl q_1037 dX12_worstOn_69 ?_
          refine lv_iload_n C.1 C.2.1 dX12_worstOn_72 rfl (lv_at hl 2 rfl) ?_
          refine lv_iload C.1 C.2.1 dX12_worstOn_73 (lv_at hl 5 rfl) ?_
          obtain ⟨g8, hf⟩ := gd_s hf
          refine x_iast C hW ha0.2.2.2.2.2.2.2.2.2.2.2.2.2.1 g8 dX12_worstOn_75 (fun H locs hW => ?_)
          obtain ⟨m9, em9⟩ : ∃ z, z = wr m3 (fr a0 21) a1.toNatClampNeg a4 := ⟨_, rfl⟩
          have hf := nm_s hf em9
          rw [← em9] at hW
          refine lv_aload_n C.1 C.2.1 dX12_worstOn_76 rfl (lv_at hl 1 rfl) ?_
          refine lv_iload_n C.1 C.2.1 dX12_worstOn_77 rfl (lv_at hl 2 rfl) ?_
          refine lv_iconst (v := 1) C.1 C.2.1 dX12_worstOn_78 (by decide) ?_
          refine lv_iadd C.1 C.2.1 dX12_worstOn_79 ?_
          refine lv_iload_n C.1 C.2.1 dX12_worstOn_80 rfl (lv_at hl 3 rfl) ?_
          refine lv_aload_n C.1 C.2.1 dX12_worstOn_81 rfl (lv_at hl 1 rfl) ?_
          refine lv_iload_n C.1 C.2.1 dX12_worstOn_82 rfl (lv_at hl 2 rfl) ?_
          refine lv_iload C.1 C.2.1 dX12_worstOn_83 (lv_at hl 5 rfl) ?_
          refine lv_iconst (v := 0) C.1 C.2.1 dX12_worstOn_85 (by decide) ?_
          obtain ⟨x10, m11, r12, hf⟩ := bd2_s hf
          refine x_ci hW (x_runV C hW [.int a1, .int a4, .int 0] [.int a2, .int (a1 + 1), .ref (ad a0)] (ha0).1 (ha0).2.1 kX12.1 kvX12_worthOf q_1308 (tX12_worthOf l C.2.2.2.2.2.2.1 ha0 r12) rfl rfl ⟨by first | decide | (simp only [rmX12_worstOn, rmX12_worthOf]; omega), by first | decide | (simp only [rmX12_worstOn, rmX12_worthOf]; omega)⟩ rfl hl.1 rfl (Nat.le_of_ble_eq_true rfl) dX12_worstOn_86) (fun H locs hW => ?_)
          refine lv_iadd C.1 C.2.1 dX12_worstOn_89 ?_
          refine lv_iload_n C.1 C.2.1 dX12_worstOn_90 rfl (lv_at hl 4 rfl) ?_
          refine lv_iload C.1 C.2.1 dX12_worstOn_91 (lv_at hl 0 rfl) ?_
          refine lv_iadd C.1 C.2.1 dX12_worstOn_93 ?_
          obtain ⟨x13, m14, r15, hf⟩ := bd2_s hf
          refine x_cv hW (x_runV C hW [.int (a1 + 1), .int (a2 + x10), .int (a3 + x2)] [] (ha0).1 (ha0).2.1 kX12.1 kvX12_worstOn q_1385 (hrec _ _ _ _ _ _ ha0 r15) rfl rfl ⟨by first | decide | (simp only [rmX12_worstOn]; omega), by first | decide | (simp only [rmX12_worstOn]; omega)⟩ rfl hl.1 rfl (Nat.le_of_ble_eq_true rfl) dX12_worstOn_94) (fun H locs hW => ?_)
          exact wX12_worstOn_97 C hrec hk32 ha0 hW (lv_sub hl [1, 2, 3, 4, 5] rfl) hf
set_option maxRecDepth 100000 in
set_option maxHeartbeats 4000000 in
theorem wX12_worstOn_25 (C : Cx p s m meth c args cX12_worstOn 6 none RX12 D ca ad) {res : Unit × Mm} {d0 : Nat} {N : Nat} {rec : Nat → Int32 → Int32 → Int32 → Mm → Option (Unit × Mm)} (hrec : ∀ (a0 : Nat) (a1 : Int32) (a2 : Int32) (a3 : Int32) (mm : Mm) (res : Unit × Mm), (sX12 a0) → rec a0 a1 a2 a3 mm = some res → Met l yX12_worstOn (WS yX12_worstOn cX12_worstOn 6 none) (rmX12_worstOn d0) (va_Pc [.ref (ad a0), .int a1, .int a2, .int a3] (WB D ca ad mm)) (QV D ca ad res) 0 0 (AA ad)) {s0 : Nat} {s1 : Int32} {mm : Mm} {H : Heap} {locs : List Loc} {ls : Array Slot} (hs0 : sX12 s0) (hW : Wd D ca ad s.heap mm H locs) (hl : lv_has ls 6 []) (hf : fX12_worstOn_25 N rec s0 s1 mm = some res) : W p l e (rmX12_worstOn (d0 + 1)) s m args below meth c H locs 0 0 (MQ below (QV D ca ad res) args s 0 0 (AA ad)) (F0 m 25 ls [.int s1, .ref (ad s0)]) := by
  unfold fX12_worstOn_25 at hf
  refine x_put C hW (hs0).1 (hs0).2.1 (j := 31) (t1 := .int) rfl kX12 (by decide) rfl rfl q_1047 (by decide +kernel) rfl rfl dX12_worstOn_25 (fun H locs hW => ?_)
  obtain ⟨m16, em16⟩ : ∃ z, z = wr mm s0 31 s1 := ⟨_, rfl⟩
  have hf := nm_s hf em16
  rw [← em16] at hW
  cases hf
  exact x_vret C hW dX12_worstOn_28
set_option maxRecDepth 100000 in
set_option maxHeartbeats 4000000 in
theorem wX12_worstOn_0 (C : Cx p s m meth c args cX12_worstOn 6 none RX12 D ca ad) {res : Unit × Mm} {d0 : Nat} {N : Nat} {rec : Nat → Int32 → Int32 → Int32 → Mm → Option (Unit × Mm)} (hrec : ∀ (a0 : Nat) (a1 : Int32) (a2 : Int32) (a3 : Int32) (mm : Mm) (res : Unit × Mm), (sX12 a0) → rec a0 a1 a2 a3 mm = some res → Met l yX12_worstOn (WS yX12_worstOn cX12_worstOn 6 none) (rmX12_worstOn d0) (va_Pc [.ref (ad a0), .int a1, .int a2, .int a3] (WB D ca ad mm)) (QV D ca ad res) 0 0 (AA ad)) {a0 : Nat} {a1 : Int32} {a2 : Int32} {a3 : Int32} {mm : Mm} {H : Heap} {locs : List Loc} {ls : Array Slot} (ha0 : sX12 a0) (hW : Wd D ca ad s.heap mm H locs) (hl : lv_has ls 6 [(0, .ref (ad a0)), (1, .int a1), (2, .int a2), (3, .int a3)]) (hf : fX12_worstOn_0 N rec a0 a1 a2 a3 mm = some res) : W p l e (rmX12_worstOn (d0 + 1)) s m args below meth c H locs 0 0 (MQ below (QV D ca ad res) args s 0 0 (AA ad)) (F0 m 0 ls []) := by
  unfold fX12_worstOn_0 at hf
  refine lv_iload_n C.1 C.2.1 dX12_worstOn_0 rfl (lv_at hl 1 rfl) ?_
  refine lv_aload_n C.1 C.2.1 dX12_worstOn_1 rfl (lv_at hl 0 rfl) ?_
  refine x_geti C hW (ha0).1 (ha0).2.1 (j := 10) rfl kX12 (by decide) rfl q_1026 dX12_worstOn_2 ?_
  refine lv_icmp_ne (tgt := 29) C.1 C.2.1 dX12_worstOn_5 (by decide) (fun c17 => ?_) (fun c17 => ?_)
  · have hf := if_f c17 hf
    refine lv_iconst (v := 0) C.1 C.2.1 dX12_worstOn_29 (by decide) ?_
    refine lv_istore (lv' := [(4, .int 0), (0, .ref (ad a0)), (1, .int a1), (2, .int a2), (3, .int a3)]) C.1 C.2.1 dX12_worstOn_30 hl (by decide) rfl (fun ls hl => ?_)
    exact wX12_worstOn_32 C hrec N ha0 hW (lv_sub hl [1, 2, 3, 4, 0] rfl) hf
  · have hf := if_t c17 hf
    refine lv_aload_n C.1 C.2.1 dX12_worstOn_8 rfl (lv_at hl 0 rfl) ?_
    refine lv_iload_n C.1 C.2.1 dX12_worstOn_9 rfl (lv_at hl 2 rfl) ?_
    refine lv_aload_n C.1 C.2.1 dX12_worstOn_10 rfl (lv_at hl 0 rfl) ?_
    refine x_geti C hW (ha0).1 (ha0).2.1 (j := 31) rfl kX12 (by decide) rfl q_1047 dX12_worstOn_11 ?_
    refine lv_icmp_ge (tgt := 21) C.1 C.2.1 dX12_worstOn_14 (by decide) (fun c18 => ?_) (fun c18 => ?_)
    · have hf := if_t c18 hf
      refine lv_aload_n C.1 C.2.1 dX12_worstOn_21 rfl (lv_at hl 0 rfl) ?_
      refine x_geti C hW (ha0).1 (ha0).2.1 (j := 31) rfl kX12 (by decide) rfl q_1047 dX12_worstOn_22 ?_
      exact wX12_worstOn_25 C hrec ha0 hW (lv_sub hl [] rfl) hf
    · have hf := if_f c18 hf
      refine lv_iload_n C.1 C.2.1 dX12_worstOn_17 rfl (lv_at hl 2 rfl) ?_
      refine lv_goto (tgt := 25) C.1 C.2.1 dX12_worstOn_18 (by decide) ?_
      exact wX12_worstOn_25 C hrec ha0 hW (lv_sub hl [] rfl) hf
set_option maxRecDepth 100000 in
set_option maxHeartbeats 4000000 in
theorem tX12_worstOn (l : Launch) {D : va_G} {ca ad : Nat → Nat} (hi : Inj ad) {N : Nat} : ∀ {d : Nat} {a0 : Nat} {a1 : Int32} {a2 : Int32} {a3 : Int32} {mm : Mm} {res : Unit × Mm}, (sX12 a0) → fX12_worstOn N d a0 a1 a2 a3 mm = some res → Met l yX12_worstOn (WS yX12_worstOn cX12_worstOn 6 none) (rmX12_worstOn d) (va_Pc [.ref (ad a0), .int a1, .int a2, .int a3] (WB D ca ad mm)) (QV D ca ad res) 0 0 (AA ad) := by
  intro d
  induction d with
  | zero => intro a0 a1 a2 a3 mm res ha0 hf; cases hf
  | succ d ih =>
    intro a0 a1 a2 a3 mm res ha0 hf
    refine x_start hi (by decide) rfl (Nat.le_of_ble_eq_true rfl) (fun p e s m args below meth c ls C hW hl => ?_)
    exact wX12_worstOn_0 C (d0 := d) (fun a0 a1 a2 a3 mm res ha0 hf => by exact (ih ha0 hf)) ha0 hW (lv_sub hl [0, 1, 2, 3] rfl) hf
set_option maxRecDepth 100000 in
set_option maxHeartbeats 4000000 in
theorem wX12_sureOf_0 (C : Cx p s m meth c args cX12_sureOf 1 (some .int) RX12 D ca ad) {res : Int32 × Mm} {N : Nat}  {a0 : Nat} {mm : Mm} {H : Heap} {locs : List Loc} {ls : Array Slot} (ha0 : sX12 a0) (hW : Wd D ca ad s.heap mm H locs) (hl : lv_has ls 1 [(0, .ref (ad a0))]) (hf : fX12_sureOf N a0 mm = some res) : W p l e (rmX12_sureOf) s m args below meth c H locs 0 0 (MQ below (QI D ca ad res) args s 0 0 (AA ad)) (F0 m 0 ls []) := by
  unfold fX12_sureOf at hf
  refine lv_aload_n C.1 C.2.1 dX12_sureOf_0 rfl (lv_at hl 0 rfl) ?_
  refine lv_sipush (v := 1000) C.1 C.2.1 dX12_sureOf_1 (by decide) ?_
  refine x_put C hW (ha0).1 (ha0).2.1 (j := 31) (t1 := .int) rfl kX12 (by decide) rfl rfl q_1047 (by decide +kernel) rfl rfl dX12_sureOf_4 (fun H locs hW => ?_)
  obtain ⟨m1, em1⟩ : ∃ z, z = wr mm a0 31 1000 := ⟨_, rfl⟩
  have hf := nm_s hf em1
  rw [← em1] at hW
  refine lv_aload_n C.1 C.2.1 dX12_sureOf_7 rfl (lv_at hl 0 rfl) ?_
  refine lv_iconst (v := 0) C.1 C.2.1 dX12_sureOf_8 (by decide) ?_
  refine lv_iconst (v := 0) C.1 C.2.1 dX12_sureOf_9 (by decide) ?_
  refine lv_iconst (v := 0) C.1 C.2.1 dX12_sureOf_10 (by decide) ?_
  obtain ⟨x2, m3, r4, hf⟩ := bd2_s hf
  refine x_cv hW (x_runV C hW [.int 0, .int 0, .int 0] [] (ha0).1 (ha0).2.1 kX12.1 kvX12_worstOn q_1385 (tX12_worstOn l C.2.2.2.2.2.2.1 (d := 9) ha0 r4) rfl rfl ⟨by first | decide | (simp only [rmX12_sureOf, rmX12_worstOn]; omega), by first | decide | (simp only [rmX12_sureOf, rmX12_worstOn]; omega)⟩ rfl hl.1 rfl (Nat.le_of_ble_eq_true rfl) dX12_sureOf_11) (fun H locs hW => ?_)
  refine lv_aload_n C.1 C.2.1 dX12_sureOf_14 rfl (lv_at hl 0 rfl) ?_
  refine x_geti C hW (ha0).1 (ha0).2.1 (j := 31) rfl kX12 (by decide) rfl q_1047 dX12_sureOf_15 ?_
  cases hf
  exact x_iret C hW dX12_sureOf_18
set_option maxRecDepth 100000 in
set_option maxHeartbeats 4000000 in
theorem tX12_sureOf (l : Launch) {D : va_G} {ca ad : Nat → Nat} (hi : Inj ad) {N : Nat} {a0 : Nat} {mm : Mm} {res : Int32 × Mm} (ha0 : sX12 a0) (hf : fX12_sureOf N a0 mm = some res) : Met l yX12_sureOf (WS yX12_sureOf cX12_sureOf 1 (some .int)) (rmX12_sureOf) (va_Pc [.ref (ad a0)] (WB D ca ad mm)) (QI D ca ad res) 0 0 (AA ad) := by
  refine x_start hi (by decide) rfl (Nat.le_of_ble_eq_true rfl) (fun p e s m args below meth c ls C hW hl => ?_)
  exact wX12_sureOf_0 C ha0 hW (lv_sub hl [0] rfl) hf
set_option maxRecDepth 100000 in
set_option maxHeartbeats 4000000 in
theorem wX12_sure_0 (C : Cx p s m meth c args cX12_sure 3 (some .int) RX12 D ca ad) {res : Int32 × Mm} {N : Nat}  {a0 : Nat} {a1 : Int32} {mm : Mm} {H : Heap} {locs : List Loc} {ls : Array Slot} (ha0 : sX12 a0) (hW : Wd D ca ad s.heap mm H locs) (hl : lv_has ls 3 [(0, .ref (ad a0)), (1, .int a1)]) (hf : fX12_sure N a0 a1 mm = some res) : W p l e (rmX12_sure) s m args below meth c H locs 0 0 (MQ below (QI D ca ad res) args s 0 0 (AA ad)) (F0 m 0 ls []) := by
  unfold fX12_sure at hf
  refine lv_iload_n C.1 C.2.1 dX12_sure_0 rfl (lv_at hl 1 rfl) ?_
  obtain ⟨x1, m2, r3, hf⟩ := bd2_s hf
  refine x_ci hW (x_runS C hW [.int a1] [] kvX12_isRow q_1147 (tX12_isRow l C.2.2.2.2.2.2.1  r3) rfl rfl ⟨by decide, by decide⟩ rfl hl.1 rfl (Nat.le_of_ble_eq_true rfl) dX12_sure_1) (fun H locs hW => ?_)
  refine lv_if_ne (tgt := 9) C.1 C.2.1 dX12_sure_4 (by decide) (fun c4 => ?_) (fun c4 => ?_)
  · have hf := if_f c4 hf
    refine lv_aload_n C.1 C.2.1 dX12_sure_9 rfl (lv_at hl 0 rfl) ?_
    refine lv_iload_n C.1 C.2.1 dX12_sure_10 rfl (lv_at hl 1 rfl) ?_
    refine lv_iconst (v := 0) C.1 C.2.1 dX12_sure_11 (by decide) ?_
    obtain ⟨x5, m6, r7, hf⟩ := bd2_s hf
    refine x_ci hW (x_runV C hW [.int a1, .int 0] [] (ha0).1 (ha0).2.1 kX12.1 kvX12_askedLaying q_1320 (tX12_askedLaying l C.2.2.2.2.2.2.1 ha0 r7) rfl rfl ⟨by decide, by decide⟩ rfl hl.1 rfl (Nat.le_of_ble_eq_true rfl) dX12_sure_12) (fun H locs hW => ?_)
    refine lv_istore_n (lv' := [(2, .int x5), (0, .ref (ad a0)), (1, .int a1)]) C.1 C.2.1 dX12_sure_15 rfl hl (by decide) rfl (fun ls hl => ?_)
    refine lv_iload_n C.1 C.2.1 dX12_sure_16 rfl (lv_at hl 0 rfl) ?_
    refine lv_if_ge (tgt := 22) C.1 C.2.1 dX12_sure_17 (by decide) (fun c8 => ?_) (fun c8 => ?_)
    · have hf := if_t c8 hf
      refine lv_aload_n C.1 C.2.1 dX12_sure_22 rfl (lv_at hl 1 rfl) ?_
      refine lv_iload_n C.1 C.2.1 dX12_sure_23 rfl (lv_at hl 2 rfl) ?_
      refine lv_iconst (v := 0) C.1 C.2.1 dX12_sure_24 (by decide) ?_
      obtain ⟨x9, m10, r11, hf⟩ := bd2_s hf
      refine x_cv hW (x_runV C hW [.int a1, .int 0] [] (ha0).1 (ha0).2.1 kX12.1 kvX12_takes q_1288 (tX12_takes l C.2.2.2.2.2.2.1 ha0 r11) rfl rfl ⟨by decide, by decide⟩ rfl hl.1 rfl (Nat.le_of_ble_eq_true rfl) dX12_sure_25) (fun H locs hW => ?_)
      refine lv_aload_n C.1 C.2.1 dX12_sure_28 rfl (lv_at hl 1 rfl) ?_
      obtain ⟨x12, m13, r14, hf⟩ := bd2_s hf
      refine x_ci hW (x_runV C hW [] [] (ha0).1 (ha0).2.1 kX12.1 kvX12_sureOf q_1381 (tX12_sureOf l C.2.2.2.2.2.2.1 ha0 r14) rfl rfl ⟨by decide, by decide⟩ rfl hl.1 rfl (Nat.le_of_ble_eq_true rfl) dX12_sure_29) (fun H locs hW => ?_)
      cases hf
      exact x_iret C hW dX12_sure_32
    · have hf := if_f c8 hf
      refine lv_iload_n C.1 C.2.1 dX12_sure_20 rfl (lv_at hl 0 rfl) ?_
      cases hf
      exact x_iret C hW dX12_sure_21
  · have hf := if_t c4 hf
    refine lv_iconst (v := (-1)) C.1 C.2.1 dX12_sure_7 (by decide) ?_
    cases hf
    exact x_iret C hW dX12_sure_8
set_option maxRecDepth 100000 in
set_option maxHeartbeats 4000000 in
theorem tX12_sure (l : Launch) {D : va_G} {ca ad : Nat → Nat} (hi : Inj ad) {N : Nat} {a0 : Nat} {a1 : Int32} {mm : Mm} {res : Int32 × Mm} (ha0 : sX12 a0) (hf : fX12_sure N a0 a1 mm = some res) : Met l yX12_sure (WS yX12_sure cX12_sure 3 (some .int)) (rmX12_sure) (va_Pc [.ref (ad a0), .int a1] (WB D ca ad mm)) (QI D ca ad res) 0 0 (AA ad) := by
  refine x_start hi (by decide) rfl (Nat.le_of_ble_eq_true rfl) (fun p e s m args below meth c ls C hW hl => ?_)
  exact wX12_sure_0 C ha0 hW (lv_sub hl [0, 1] rfl) hf
set_option maxRecDepth 100000 in
set_option maxHeartbeats 4000000 in
theorem wX12_safe_86 (C : Cx p s m meth c args cX12_safe 5 (some .int) RX12 D ca ad) {res : Int32 × Mm} {N : Nat} {k37 : Nat → Int32 → Int32 → Mm → Option (Int32 × Mm)} (hk37 : ∀ (a0 : Nat) (a1 : Int32) (a2 : Int32) (mm : Mm) (H : Heap) (locs : List Loc) (ls : Array Slot), (sX12 a0) → Wd D ca ad s.heap mm H locs → lv_has ls 5 [(0, .ref (ad a0)), (1, .int a1), (2, .int a2)] → k37 a0 a1 a2 mm = some res → W p l e (rmX12_safe) s m args below meth c H locs 0 0 (MQ below (QI D ca ad res) args s 0 0 (AA ad)) (F0 m 37 ls [])) {a0 : Nat} {a1 : Int32} {a2 : Int32} {mm : Mm} {H : Heap} {locs : List Loc} {ls : Array Slot} (ha0 : sX12 a0) (hW : Wd D ca ad s.heap mm H locs) (hl : lv_has ls 5 [(0, .ref (ad a0)), (1, .int a1), (2, .int a2)]) (hf : fX12_safe_86 N k37 a0 a1 a2 mm = some res) : W p l e (rmX12_safe) s m args below meth c H locs 0 0 (MQ below (QI D ca ad res) args s 0 0 (AA ad)) (F0 m 86 ls []) := by
  unfold fX12_safe_86 at hf
  refine lv_aload_n C.1 C.2.1 dX12_safe_86 rfl (lv_at hl 0 rfl) ?_
  refine lv_aload_n C.1 C.2.1 dX12_safe_87 rfl (lv_at hl 0 rfl) ?_
  refine x_getr C hW (ha0).1 (ha0).2.1 (j := 12) rfl kX12 (by decide) rfl q_1028 dX12_safe_88 ?_
  refine lv_iconst (v := 0) C.1 C.2.1 dX12_safe_91 (by decide) ?_
  obtain ⟨g1, hf⟩ := gd_s hf
  refine x_iald C hW ha0.2.2.2.2.2.2.2.2.2.1 g1 dX12_safe_92 ?_
  obtain ⟨x2, m3, r4, hf⟩ := bd2_s hf
  refine x_ci hW (x_runV C hW [.int (rd mm (fr a0 12) ((0 : Int32).toNatClampNeg))] [] (ha0).1 (ha0).2.1 kX12.1 kvX12_nextStep q_1369 (tX12_nextStep l C.2.2.2.2.2.2.1 ha0 r4) rfl rfl ⟨by decide, by decide⟩ rfl hl.1 rfl (Nat.le_of_ble_eq_true rfl) dX12_safe_93) (fun H locs hW => ?_)
  refine lv_if_ne (tgt := 37) C.1 C.2.1 dX12_safe_96 (by decide) (fun c5 => ?_) (fun c5 => ?_)
  · have hf := if_f c5 hf
    exact hk37 _ _ _ _ _ _ _ ha0 hW (lv_sub hl [0, 1, 2] rfl) hf
  · have hf := if_t c5 hf
    refine lv_aload_n C.1 C.2.1 dX12_safe_99 rfl (lv_at hl 0 rfl) ?_
    refine lv_iload_n C.1 C.2.1 dX12_safe_100 rfl (lv_at hl 1 rfl) ?_
    obtain ⟨x6, m7, r8, hf⟩ := bd2_s hf
    refine x_cv hW (x_runV C hW [.int a1] [] (ha0).1 (ha0).2.1 kX12.1 kvX12_layBest q_1344 (tX12_layBest l C.2.2.2.2.2.2.1 ha0 r8) rfl rfl ⟨by decide, by decide⟩ rfl hl.1 rfl (Nat.le_of_ble_eq_true rfl) dX12_safe_101) (fun H locs hW => ?_)
    refine lv_iload_n C.1 C.2.1 dX12_safe_104 rfl (lv_at hl 2 rfl) ?_
    cases hf
    exact x_iret C hW dX12_safe_105
set_option maxRecDepth 100000 in
set_option maxHeartbeats 4000000 in
theorem wX12_safe_57 (C : Cx p s m meth c args cX12_safe 5 (some .int) RX12 D ca ad) {res : Int32 × Mm} {N : Nat} {k37 : Nat → Int32 → Int32 → Mm → Option (Int32 × Mm)} (hk37 : ∀ (a0 : Nat) (a1 : Int32) (a2 : Int32) (mm : Mm) (H : Heap) (locs : List Loc) (ls : Array Slot), (sX12 a0) → Wd D ca ad s.heap mm H locs → lv_has ls 5 [(0, .ref (ad a0)), (1, .int a1), (2, .int a2)] → k37 a0 a1 a2 mm = some res → W p l e (rmX12_safe) s m args below meth c H locs 0 0 (MQ below (QI D ca ad res) args s 0 0 (AA ad)) (F0 m 37 ls [])) : ∀ (n : Nat) {a0 : Nat} {a1 : Int32} {a2 : Int32} {a4 : Int32} {mm : Mm} {H : Heap} {locs : List Loc} {ls : Array Slot}, (sX12 a0) → Wd D ca ad s.heap mm H locs → lv_has ls 5 [(0, .ref (ad a0)), (1, .int a1), (2, .int a2), (4, .int a4)] → fX12_safe_57 N k37 n a0 a1 a2 a4 mm = some res → W p l e (rmX12_safe) s m args below meth c H locs 0 0 (MQ below (QI D ca ad res) args s 0 0 (AA ad)) (F0 m 57 ls []) := by
  intro n
  induction n with
  | zero => intro a0 a1 a2 a4 mm H locs ls ha0 hW hl hf; cases hf
  | succ n ih =>
    intro a0 a1 a2 a4 mm H locs ls ha0 hW hl hf
    have hk57 : ∀ (a0 : Nat) (a1 : Int32) (a2 : Int32) (a4 : Int32) (mm : Mm) (H : Heap) (locs : List Loc) (ls : Array Slot), (sX12 a0) → Wd D ca ad s.heap mm H locs → lv_has ls 5 [(0, .ref (ad a0)), (1, .int a1), (2, .int a2), (4, .int a4)] → (fX12_safe_57 N k37 n) a0 a1 a2 a4 mm = some res → W p l e (rmX12_safe) s m args below meth c H locs 0 0 (MQ below (QI D ca ad res) args s 0 0 (AA ad)) (F0 m 57 ls []) := fun a0 a1 a2 a4 mm H locs ls ha0 hW hl hf => ih ha0 hW hl hf
    unfold fX12_safe_57 at hf
    try dsimp only at hf
    refine lv_iload C.1 C.2.1 dX12_safe_57 (lv_at hl 3 rfl) ?_
    refine lv_aload_n C.1 C.2.1 dX12_safe_59 rfl (lv_at hl 0 rfl) ?_
    refine x_geti C hW (ha0).1 (ha0).2.1 (j := 10) rfl kX12 (by decide) rfl q_1026 dX12_safe_60 ?_
    refine lv_icmp_ge (tgt := 86) C.1 C.2.1 dX12_safe_63 (by decide) (fun c9 => ?_) (fun c9 => ?_)
    · have hf := if_t c9 hf
      exact wX12_safe_86 C hk37 ha0 hW (lv_sub hl [0, 1, 2] rfl) hf
    · have hf := if_f c9 hf
      refine lv_aload_n C.1 C.2.1 dX12_safe_66 rfl (lv_at hl 0 rfl) ?_
      refine x_getr C hW (ha0).1 (ha0).2.1 (j := 27) rfl kX12 (by decide) rfl q_1043 dX12_safe_67 ?_
      refine lv_iload C.1 C.2.1 dX12_safe_70 (lv_at hl 3 rfl) ?_
      refine lv_aload_n C.1 C.2.1 dX12_safe_72 rfl (lv_at hl 0 rfl) ?_
      refine x_getr C hW (ha0).1 (ha0).2.1 (j := 30) rfl kX12 (by decide) rfl q_1046 dX12_safe_73 ?_
      refine lv_iload C.1 C.2.1 dX12_safe_76 (lv_at hl 3 rfl) ?_
      obtain ⟨g10, hf⟩ := gd_s hf
      refine x_iald C hW ha0.2.2.2.2.2.2.2.2.2.2.2.2.2.2.2.2.1 g10 dX12_safe_78 ?_
      obtain ⟨g11, hf⟩ := gd_s hf
      refine x_iast C hW ha0.2.2.2.2.2.2.2.2.2.2.2.2.2.2.2.1 g11 dX12_safe_79 (fun H locs hW => ?_)
      obtain ⟨m12, em12⟩ : ∃ z, z = wr mm (fr a0 27) a4.toNatClampNeg (rd mm (fr a0 30) a4.toNatClampNeg) := ⟨_, rfl⟩
      have hf := nm_s hf em12
      rw [← em12] at hW
      refine lv_iinc (v := (a4 + 1)) (lv' := [(4, .int (a4 + 1)), (0, .ref (ad a0)), (1, .int a1), (2, .int a2)]) C.1 C.2.1 dX12_safe_80 hl (k := 3) rfl rfl (by decide) rfl (fun ls hl => ?_)
      refine lv_goto (tgt := 57) C.1 C.2.1 dX12_safe_83 (by decide) ?_
      exact hk57 _ _ _ _ _ _ _ _ ha0 hW (lv_sub hl [1, 2, 3, 0] rfl) hf
set_option maxRecDepth 100000 in
set_option maxHeartbeats 4000000 in
theorem wX12_safe_37 (C : Cx p s m meth c args cX12_safe 5 (some .int) RX12 D ca ad) {res : Int32 × Mm} {N : Nat}  : ∀ (n : Nat) {a0 : Nat} {a1 : Int32} {a2 : Int32} {mm : Mm} {H : Heap} {locs : List Loc} {ls : Array Slot}, (sX12 a0) → Wd D ca ad s.heap mm H locs → lv_has ls 5 [(0, .ref (ad a0)), (1, .int a1), (2, .int a2)] → fX12_safe_37 N n a0 a1 a2 mm = some res → W p l e (rmX12_safe) s m args below meth c H locs 0 0 (MQ below (QI D ca ad res) args s 0 0 (AA ad)) (F0 m 37 ls []) := by
  intro n
  induction n with
  | zero => intro a0 a1 a2 mm H locs ls ha0 hW hl hf; cases hf
  | succ n ih =>
    intro a0 a1 a2 mm H locs ls ha0 hW hl hf
    have hk37 : ∀ (a0 : Nat) (a1 : Int32) (a2 : Int32) (mm : Mm) (H : Heap) (locs : List Loc) (ls : Array Slot), (sX12 a0) → Wd D ca ad s.heap mm H locs → lv_has ls 5 [(0, .ref (ad a0)), (1, .int a1), (2, .int a2)] → (fX12_safe_37 N n) a0 a1 a2 mm = some res → W p l e (rmX12_safe) s m args below meth c H locs 0 0 (MQ below (QI D ca ad res) args s 0 0 (AA ad)) (F0 m 37 ls []) := fun a0 a1 a2 mm H locs ls ha0 hW hl hf => ih ha0 hW hl hf
    unfold fX12_safe_37 at hf
    try dsimp only at hf
    refine lv_aload_n C.1 C.2.1 dX12_safe_37 rfl (lv_at hl 0 rfl) ?_
    refine lv_iconst (v := 0) C.1 C.2.1 dX12_safe_38 (by decide) ?_
    obtain ⟨x13, m14, r15, hf⟩ := bd2_s hf
    refine x_cv hW (x_runV C hW [.int 0] [] (ha0).1 (ha0).2.1 kX12.1 kvX12_stepFor q_1365 (tX12_stepFor l C.2.2.2.2.2.2.1 ha0 r15) rfl rfl ⟨by decide, by decide⟩ rfl hl.1 rfl (Nat.le_of_ble_eq_true rfl) dX12_safe_39) (fun H locs hW => ?_)
    refine lv_aload_n C.1 C.2.1 dX12_safe_42 rfl (lv_at hl 0 rfl) ?_
    obtain ⟨x16, m17, r18, hf⟩ := bd2_s hf
    refine x_ci hW (x_runV C hW [] [] (ha0).1 (ha0).2.1 kX12.1 kvX12_sureOf q_1381 (tX12_sureOf l C.2.2.2.2.2.2.1 ha0 r18) rfl rfl ⟨by decide, by decide⟩ rfl hl.1 rfl (Nat.le_of_ble_eq_true rfl) dX12_safe_43) (fun H locs hW => ?_)
    refine lv_istore_n (lv' := [(3, .int x16), (0, .ref (ad a0)), (1, .int a1), (2, .int a2)]) C.1 C.2.1 dX12_safe_46 rfl hl (by decide) rfl (fun ls hl => ?_)
    refine lv_iload_n C.1 C.2.1 dX12_safe_47 rfl (lv_at hl 0 rfl) ?_
    refine lv_iload_n C.1 C.2.1 dX12_safe_48 rfl (lv_at hl 3 rfl) ?_
    refine lv_icmp_le (tgt := 86) C.1 C.2.1 dX12_safe_49 (by decide) (fun c19 => ?_) (fun c19 => ?_)
    · have hf := if_t c19 hf
      exact wX12_safe_86 C hk37 ha0 hW (lv_sub hl [1, 2, 3] rfl) hf
    · have hf := if_f c19 hf
      refine lv_iload_n C.1 C.2.1 dX12_safe_52 rfl (lv_at hl 0 rfl) ?_
      refine lv_istore_n (lv' := [(2, .int x16), (3, .int x16), (0, .ref (ad a0)), (1, .int a1)]) C.1 C.2.1 dX12_safe_53 rfl hl (by decide) rfl (fun ls hl => ?_)
      refine lv_iconst (v := 0) C.1 C.2.1 dX12_safe_54 (by decide) ?_
      refine lv_istore (lv' := [(4, .int 0), (2, .int x16), (3, .int x16), (0, .ref (ad a0)), (1, .int a1)]) C.1 C.2.1 dX12_safe_55 hl (by decide) rfl (fun ls hl => ?_)
      exact wX12_safe_57 C hk37 N ha0 hW (lv_sub hl [3, 4, 1, 0] rfl) hf
set_option maxRecDepth 100000 in
set_option maxHeartbeats 4000000 in
theorem wX12_safe_0 (C : Cx p s m meth c args cX12_safe 5 (some .int) RX12 D ca ad) {res : Int32 × Mm} {N : Nat}  {a0 : Nat} {a1 : Int32} {mm : Mm} {H : Heap} {locs : List Loc} {ls : Array Slot} (ha0 : sX12 a0) (hW : Wd D ca ad s.heap mm H locs) (hl : lv_has ls 5 [(0, .ref (ad a0)), (1, .int a1)]) (hf : fX12_safe N a0 a1 mm = some res) : W p l e (rmX12_safe) s m args below meth c H locs 0 0 (MQ below (QI D ca ad res) args s 0 0 (AA ad)) (F0 m 0 ls []) := by
  unfold fX12_safe at hf
  refine lv_iload_n C.1 C.2.1 dX12_safe_0 rfl (lv_at hl 1 rfl) ?_
  obtain ⟨x20, m21, r22, hf⟩ := bd2_s hf
  refine x_ci hW (x_runS C hW [.int a1] [] kvX12_isRow q_1147 (tX12_isRow l C.2.2.2.2.2.2.1  r22) rfl rfl ⟨by decide, by decide⟩ rfl hl.1 rfl (Nat.le_of_ble_eq_true rfl) dX12_safe_1) (fun H locs hW => ?_)
  refine lv_if_ne (tgt := 9) C.1 C.2.1 dX12_safe_4 (by decide) (fun c23 => ?_) (fun c23 => ?_)
  · have hf := if_f c23 hf
    refine lv_aload_n C.1 C.2.1 dX12_safe_9 rfl (lv_at hl 0 rfl) ?_
    refine x_getr C hW (ha0).1 (ha0).2.1 (j := 12) rfl kX12 (by decide) rfl q_1028 dX12_safe_10 ?_
    refine lv_iconst (v := 0) C.1 C.2.1 dX12_safe_13 (by decide) ?_
    obtain ⟨g24, hf⟩ := gd_s hf
    refine x_iald C hW ha0.2.2.2.2.2.2.2.2.2.1 g24 dX12_safe_14 ?_
    refine lv_bipush (v := 10) C.1 C.2.1 dX12_safe_15 (by decide) ?_
    refine lv_icmp_gt (tgt := 28) C.1 C.2.1 dX12_safe_17 (by decide) (fun c25 => ?_) (fun c25 => ?_)
    · have hf := if_t c25 hf
      refine lv_bipush (v := (-6)) C.1 C.2.1 dX12_safe_28 (by decide) ?_
      cases hf
      exact x_iret C hW dX12_safe_30
    · have hf := if_f c25 hf
      refine lv_aload_n C.1 C.2.1 dX12_safe_20 rfl (lv_at hl 0 rfl) ?_
      refine x_geti C hW (ha0).1 (ha0).2.1 (j := 10) rfl kX12 (by decide) rfl q_1026 dX12_safe_21 ?_
      refine lv_iconst (v := 4) C.1 C.2.1 dX12_safe_24 (by decide) ?_
      refine lv_icmp_le (tgt := 31) C.1 C.2.1 dX12_safe_25 (by decide) (fun c26 => ?_) (fun c26 => ?_)
      · have hf := if_t c26 hf
        refine lv_iconst (v := (-1)) C.1 C.2.1 dX12_safe_31 (by decide) ?_
        refine lv_istore_n (lv' := [(2, .int (-1)), (0, .ref (ad a0)), (1, .int a1)]) C.1 C.2.1 dX12_safe_32 rfl hl (by decide) rfl (fun ls hl => ?_)
        refine lv_aload_n C.1 C.2.1 dX12_safe_33 rfl (lv_at hl 1 rfl) ?_
        obtain ⟨x27, m28, r29, hf⟩ := bd2_s hf
        refine x_cv hW (x_runV C hW [] [] (ha0).1 (ha0).2.1 kX12.1 kvX12_firstStep q_1361 (tX12_firstStep l C.2.2.2.2.2.2.1 ha0 r29) rfl rfl ⟨by decide, by decide⟩ rfl hl.1 rfl (Nat.le_of_ble_eq_true rfl) dX12_safe_34) (fun H locs hW => ?_)
        exact wX12_safe_37 C  N ha0 hW (lv_sub hl [1, 2, 0] rfl) hf
      · have hf := if_f c26 hf
        refine lv_bipush (v := (-6)) C.1 C.2.1 dX12_safe_28 (by decide) ?_
        cases hf
        exact x_iret C hW dX12_safe_30
  · have hf := if_t c23 hf
    refine lv_iconst (v := (-1)) C.1 C.2.1 dX12_safe_7 (by decide) ?_
    cases hf
    exact x_iret C hW dX12_safe_8
set_option maxRecDepth 100000 in
set_option maxHeartbeats 4000000 in
theorem tX12_safe (l : Launch) {D : va_G} {ca ad : Nat → Nat} (hi : Inj ad) {N : Nat} {a0 : Nat} {a1 : Int32} {mm : Mm} {res : Int32 × Mm} (ha0 : sX12 a0) (hf : fX12_safe N a0 a1 mm = some res) : Met l yX12_safe (WS yX12_safe cX12_safe 5 (some .int)) (rmX12_safe) (va_Pc [.ref (ad a0), .int a1] (WB D ca ad mm)) (QI D ca ad res) 0 0 (AA ad) := by
  refine x_start hi (by decide) rfl (Nat.le_of_ble_eq_true rfl) (fun p e s m args below meth c ls C hW hl => ?_)
  exact wX12_safe_0 C ha0 hW (lv_sub hl [0, 1] rfl) hf
set_option maxRecDepth 100000 in
set_option maxHeartbeats 4000000 in
theorem wX12_askedMixed_0 (C : Cx p s m meth c args cX12_askedMixed 3 (some .int) RX12 D ca ad) {res : Int32 × Mm} {N : Nat}  {a0 : Nat} {a1 : Int32} {a2 : Int32} {mm : Mm} {H : Heap} {locs : List Loc} {ls : Array Slot} (ha0 : sX12 a0) (hW : Wd D ca ad s.heap mm H locs) (hl : lv_has ls 3 [(0, .ref (ad a0)), (1, .int a1), (2, .int a2)]) (hf : fX12_askedMixed N a0 a1 a2 mm = some res) : W p l e (rmX12_askedMixed) s m args below meth c H locs 0 0 (MQ below (QI D ca ad res) args s 0 0 (AA ad)) (F0 m 0 ls []) := by
  unfold fX12_askedMixed at hf
  refine lv_aload_n C.1 C.2.1 dX12_askedMixed_0 rfl (lv_at hl 0 rfl) ?_
  refine x_getr C hW (ha0).1 (ha0).2.1 (j := 12) rfl kX12 (by decide) rfl q_1028 dX12_askedMixed_1 ?_
  refine lv_iconst (v := 1) C.1 C.2.1 dX12_askedMixed_4 (by decide) ?_
  obtain ⟨g1, hf⟩ := gd_s hf
  refine x_iald C hW ha0.2.2.2.2.2.2.2.2.2.1 g1 dX12_askedMixed_5 ?_
  refine lv_bipush (v := 10) C.1 C.2.1 dX12_askedMixed_6 (by decide) ?_
  refine lv_icmp_gt (tgt := 19) C.1 C.2.1 dX12_askedMixed_8 (by decide) (fun c2 => ?_) (fun c2 => ?_)
  · have hf := if_t c2 hf
    refine lv_bipush (v := (-6)) C.1 C.2.1 dX12_askedMixed_19 (by decide) ?_
    refine lv_goto (tgt := 32) C.1 C.2.1 dX12_askedMixed_21 (by decide) ?_
    cases hf
    exact x_iret C hW dX12_askedMixed_32
  · have hf := if_f c2 hf
    refine lv_aload_n C.1 C.2.1 dX12_askedMixed_11 rfl (lv_at hl 0 rfl) ?_
    refine x_geti C hW (ha0).1 (ha0).2.1 (j := 10) rfl kX12 (by decide) rfl q_1026 dX12_askedMixed_12 ?_
    refine lv_iconst (v := 4) C.1 C.2.1 dX12_askedMixed_15 (by decide) ?_
    refine lv_icmp_le (tgt := 24) C.1 C.2.1 dX12_askedMixed_16 (by decide) (fun c3 => ?_) (fun c3 => ?_)
    · have hf := if_t c3 hf
      refine lv_aload_n C.1 C.2.1 dX12_askedMixed_24 rfl (lv_at hl 0 rfl) ?_
      refine lv_iload_n C.1 C.2.1 dX12_askedMixed_25 rfl (lv_at hl 1 rfl) ?_
      refine lv_iconst (v := 0) C.1 C.2.1 dX12_askedMixed_26 (by decide) ?_
      refine lv_iload_n C.1 C.2.1 dX12_askedMixed_27 rfl (lv_at hl 2 rfl) ?_
      refine lv_iconst (v := 0) C.1 C.2.1 dX12_askedMixed_28 (by decide) ?_
      obtain ⟨x4, m5, r6, hf⟩ := bd2_s hf
      refine x_ci hW (x_runV C hW [.int a1, .int 0, .int a2, .int 0] [] (ha0).1 (ha0).2.1 kX12.1 kvX12_askedTwo q_1280 (tX12_askedTwo l C.2.2.2.2.2.2.1 ha0 r6) rfl rfl ⟨by decide, by decide⟩ rfl hl.1 rfl (Nat.le_of_ble_eq_true rfl) dX12_askedMixed_29) (fun H locs hW => ?_)
      cases hf
      exact x_iret C hW dX12_askedMixed_32
    · have hf := if_f c3 hf
      refine lv_bipush (v := (-6)) C.1 C.2.1 dX12_askedMixed_19 (by decide) ?_
      refine lv_goto (tgt := 32) C.1 C.2.1 dX12_askedMixed_21 (by decide) ?_
      cases hf
      exact x_iret C hW dX12_askedMixed_32
set_option maxRecDepth 100000 in
set_option maxHeartbeats 4000000 in
theorem tX12_askedMixed (l : Launch) {D : va_G} {ca ad : Nat → Nat} (hi : Inj ad) {N : Nat} {a0 : Nat} {a1 : Int32} {a2 : Int32} {mm : Mm} {res : Int32 × Mm} (ha0 : sX12 a0) (hf : fX12_askedMixed N a0 a1 a2 mm = some res) : Met l yX12_askedMixed (WS yX12_askedMixed cX12_askedMixed 3 (some .int)) (rmX12_askedMixed) (va_Pc [.ref (ad a0), .int a1, .int a2] (WB D ca ad mm)) (QI D ca ad res) 0 0 (AA ad) := by
  refine x_start hi (by decide) rfl (Nat.le_of_ble_eq_true rfl) (fun p e s m args below meth c ls C hW hl => ?_)
  exact wX12_askedMixed_0 C ha0 hW (lv_sub hl [0, 1, 2] rfl) hf
end W_model24
