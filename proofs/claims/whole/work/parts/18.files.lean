theorem dX11_worthOf_0 : decode cX11_worthOf 0 = .ok (.aload_n 0, 1) := by decide +kernel
theorem dX11_worthOf_1 : decode cX11_worthOf 1 = .ok (.getfield 53, 3) := by decide +kernel
theorem dX11_worthOf_4 : decode cX11_worthOf 4 = .ok (.aload_n 0, 1) := by decide +kernel
theorem dX11_worthOf_5 : decode cX11_worthOf 5 = .ok (.getfield 21, 3) := by decide +kernel
theorem dX11_worthOf_8 : decode cX11_worthOf 8 = .ok (.iload_n 1, 1) := by decide +kernel
theorem dX11_worthOf_9 : decode cX11_worthOf 9 = .ok (.invokevirtual 301, 3) := by decide +kernel
theorem dX11_worthOf_12 : decode cX11_worthOf 12 = .ok (.invokevirtual 247, 3) := by decide +kernel
theorem dX11_worthOf_15 : decode cX11_worthOf 15 = .ok (.aload_n 0, 1) := by decide +kernel
theorem dX11_worthOf_16 : decode cX11_worthOf 16 = .ok (.getfield 53, 3) := by decide +kernel
theorem dX11_worthOf_19 : decode cX11_worthOf 19 = .ok (.aload_n 0, 1) := by decide +kernel
theorem dX11_worthOf_20 : decode cX11_worthOf 20 = .ok (.getfield 21, 3) := by decide +kernel
theorem dX11_worthOf_23 : decode cX11_worthOf 23 = .ok (.getfield 188, 3) := by decide +kernel
theorem dX11_worthOf_26 : decode cX11_worthOf 26 = .ok (.iconst 0, 1) := by decide +kernel
theorem dX11_worthOf_27 : decode cX11_worthOf 27 = .ok (.iaload, 1) := by decide +kernel
theorem dX11_worthOf_28 : decode cX11_worthOf 28 = .ok (.invokevirtual 247, 3) := by decide +kernel
theorem dX11_worthOf_31 : decode cX11_worthOf 31 = .ok (.isub, 1) := by decide +kernel
theorem dX11_worthOf_32 : decode cX11_worthOf 32 = .ok (.ireturn, 1) := by decide +kernel
theorem dX11_lend_0 : decode cX11_lend 0 = .ok (.aload_n 0, 1) := by decide +kernel
theorem dX11_lend_1 : decode cX11_lend 1 = .ok (.iload_n 2, 1) := by decide +kernel
theorem dX11_lend_2 : decode cX11_lend 2 = .ok (.invokevirtual 96, 3) := by decide +kernel
theorem dX11_lend_5 : decode cX11_lend 5 = .ok (.astore_n 3, 1) := by decide +kernel
theorem dX11_lend_6 : decode cX11_lend 6 = .ok (.iload_n 1, 1) := by decide +kernel
theorem dX11_lend_7 : decode cX11_lend 7 = .ok (.ifCond .lt 13, 3) := by decide +kernel
theorem dX11_lend_10 : decode cX11_lend 10 = .ok (.iload_n 1, 1) := by decide +kernel
theorem dX11_lend_11 : decode cX11_lend 11 = .ok (.bipush 15, 2) := by decide +kernel
theorem dX11_lend_13 : decode cX11_lend 13 = .ok (.if_icmp .gt 7, 3) := by decide +kernel
theorem dX11_lend_16 : decode cX11_lend 16 = .ok (.aload_n 3, 1) := by decide +kernel
theorem dX11_lend_17 : decode cX11_lend 17 = .ok (.ifnonnull 5, 3) := by decide +kernel
theorem dX11_lend_20 : decode cX11_lend 20 = .ok (.iconst (-1), 1) := by decide +kernel
theorem dX11_lend_21 : decode cX11_lend 21 = .ok (.ireturn, 1) := by decide +kernel
theorem dX11_lend_22 : decode cX11_lend 22 = .ok (.aload_n 0, 1) := by decide +kernel
theorem dX11_lend_23 : decode cX11_lend 23 = .ok (.aload_n 3, 1) := by decide +kernel
theorem dX11_lend_24 : decode cX11_lend 24 = .ok (.iconst 1, 1) := by decide +kernel
theorem dX11_lend_25 : decode cX11_lend 25 = .ok (.invokevirtual 226, 3) := by decide +kernel
theorem dX11_lend_28 : decode cX11_lend 28 = .ok (.ifCond .eq 6, 3) := by decide +kernel
theorem dX11_lend_31 : decode cX11_lend 31 = .ok (.bipush (-3), 2) := by decide +kernel
theorem dX11_lend_33 : decode cX11_lend 33 = .ok (.ireturn, 1) := by decide +kernel
theorem dX11_lend_34 : decode cX11_lend 34 = .ok (.aload_n 0, 1) := by decide +kernel
theorem dX11_lend_35 : decode cX11_lend 35 = .ok (.getfield 21, 3) := by decide +kernel
theorem dX11_lend_38 : decode cX11_lend 38 = .ok (.iload_n 1, 1) := by decide +kernel
theorem dX11_lend_39 : decode cX11_lend 39 = .ok (.invokevirtual 301, 3) := by decide +kernel
theorem dX11_lend_42 : decode cX11_lend 42 = .ok (.bipush 40, 2) := by decide +kernel
theorem dX11_lend_44 : decode cX11_lend 44 = .ok (.if_icmp .le 6, 3) := by decide +kernel
theorem dX11_lend_47 : decode cX11_lend 47 = .ok (.bipush (-6), 2) := by decide +kernel
theorem dX11_lend_49 : decode cX11_lend 49 = .ok (.ireturn, 1) := by decide +kernel
theorem dX11_lend_50 : decode cX11_lend 50 = .ok (.aload_n 0, 1) := by decide +kernel
theorem dX11_lend_51 : decode cX11_lend 51 = .ok (.getfield 53, 3) := by decide +kernel
theorem dX11_lend_54 : decode cX11_lend 54 = .ok (.aload_n 0, 1) := by decide +kernel
theorem dX11_lend_55 : decode cX11_lend 55 = .ok (.getfield 21, 3) := by decide +kernel
theorem dX11_lend_58 : decode cX11_lend 58 = .ok (.aload_n 0, 1) := by decide +kernel
theorem dX11_lend_59 : decode cX11_lend 59 = .ok (.getfield 21, 3) := by decide +kernel
theorem dX11_lend_62 : decode cX11_lend 62 = .ok (.getfield 181, 3) := by decide +kernel
theorem dX11_lend_65 : decode cX11_lend 65 = .ok (.aload_n 3, 1) := by decide +kernel
theorem dX11_lend_66 : decode cX11_lend 66 = .ok (.getfield 116, 3) := by decide +kernel
theorem dX11_lend_69 : decode cX11_lend 69 = .ok (.bipush 40, 2) := by decide +kernel
theorem dX11_lend_71 : decode cX11_lend 71 = .ok (.invokevirtual 229, 3) := by decide +kernel
theorem dX11_lend_74 : decode cX11_lend 74 = .ok (.aload_n 0, 1) := by decide +kernel
theorem dX11_lend_75 : decode cX11_lend 75 = .ok (.iload_n 1, 1) := by decide +kernel
theorem dX11_lend_76 : decode cX11_lend 76 = .ok (.invokevirtual 304, 3) := by decide +kernel
theorem dX11_lend_79 : decode cX11_lend 79 = .ok (.ireturn, 1) := by decide +kernel
theorem dX11_areWrong_0 : decode cX11_areWrong 0 = .ok (.aload_n 1, 1) := by decide +kernel
theorem dX11_areWrong_1 : decode cX11_areWrong 1 = .ok (.invokevirtual 108, 3) := by decide +kernel
theorem dX11_areWrong_4 : decode cX11_areWrong 4 = .ok (.ifCond .ne 14, 3) := by decide +kernel
theorem dX11_areWrong_7 : decode cX11_areWrong 7 = .ok (.aload_n 2, 1) := by decide +kernel
theorem dX11_areWrong_8 : decode cX11_areWrong 8 = .ok (.invokevirtual 108, 3) := by decide +kernel
theorem dX11_areWrong_11 : decode cX11_areWrong 11 = .ok (.ifCond .ne 7, 3) := by decide +kernel
theorem dX11_areWrong_14 : decode cX11_areWrong 14 = .ok (.iconst 1, 1) := by decide +kernel
theorem dX11_areWrong_15 : decode cX11_areWrong 15 = .ok (.goto 4, 3) := by decide +kernel
theorem dX11_areWrong_18 : decode cX11_areWrong 18 = .ok (.iconst 0, 1) := by decide +kernel
theorem dX11_areWrong_19 : decode cX11_areWrong 19 = .ok (.istore_n 3, 1) := by decide +kernel
theorem dX11_areWrong_20 : decode cX11_areWrong 20 = .ok (.aload_n 1, 1) := by decide +kernel
theorem dX11_areWrong_21 : decode cX11_areWrong 21 = .ok (.getfield 122, 3) := by decide +kernel
theorem dX11_areWrong_24 : decode cX11_areWrong 24 = .ok (.aload_n 0, 1) := by decide +kernel
theorem dX11_areWrong_25 : decode cX11_areWrong 25 = .ok (.getfield 21, 3) := by decide +kernel
theorem dX11_areWrong_28 : decode cX11_areWrong 28 = .ok (.getfield 158, 3) := by decide +kernel
theorem dX11_areWrong_31 : decode cX11_areWrong 31 = .ok (.if_icmp .ne 15, 3) := by decide +kernel
theorem dX11_areWrong_34 : decode cX11_areWrong 34 = .ok (.aload_n 2, 1) := by decide +kernel
theorem dX11_areWrong_35 : decode cX11_areWrong 35 = .ok (.getfield 122, 3) := by decide +kernel
theorem dX11_areWrong_38 : decode cX11_areWrong 38 = .ok (.iconst 4, 1) := by decide +kernel
theorem dX11_areWrong_39 : decode cX11_areWrong 39 = .ok (.if_icmp .ne 7, 3) := by decide +kernel
theorem dX11_areWrong_42 : decode cX11_areWrong 42 = .ok (.iconst 1, 1) := by decide +kernel
theorem dX11_areWrong_43 : decode cX11_areWrong 43 = .ok (.goto 4, 3) := by decide +kernel
theorem dX11_areWrong_46 : decode cX11_areWrong 46 = .ok (.iconst 0, 1) := by decide +kernel
theorem dX11_areWrong_47 : decode cX11_areWrong 47 = .ok (.istore 4, 2) := by decide +kernel
theorem dX11_areWrong_49 : decode cX11_areWrong 49 = .ok (.aload_n 0, 1) := by decide +kernel
theorem dX11_areWrong_50 : decode cX11_areWrong 50 = .ok (.iload_n 3, 1) := by decide +kernel
theorem dX11_areWrong_51 : decode cX11_areWrong 51 = .ok (.iload 4, 2) := by decide +kernel
theorem dX11_areWrong_53 : decode cX11_areWrong 53 = .ok (.aload_n 0, 1) := by decide +kernel
theorem dX11_areWrong_54 : decode cX11_areWrong 54 = .ok (.getfield 21, 3) := by decide +kernel
theorem dX11_areWrong_57 : decode cX11_areWrong 57 = .ok (.aload_n 1, 1) := by decide +kernel
theorem dX11_areWrong_58 : decode cX11_areWrong 58 = .ok (.iconst 1, 1) := by decide +kernel
theorem dX11_areWrong_59 : decode cX11_areWrong 59 = .ok (.invokevirtual 395, 3) := by decide +kernel
theorem dX11_areWrong_62 : decode cX11_areWrong 62 = .ok (.ifCond .eq 17, 3) := by decide +kernel
theorem dX11_areWrong_65 : decode cX11_areWrong 65 = .ok (.aload_n 2, 1) := by decide +kernel
theorem dX11_areWrong_66 : decode cX11_areWrong 66 = .ok (.sipush 999, 3) := by decide +kernel
theorem dX11_areWrong_69 : decode cX11_areWrong 69 = .ok (.invokevirtual 402, 3) := by decide +kernel
theorem dX11_areWrong_72 : decode cX11_areWrong 72 = .ok (.ifCond .eq 7, 3) := by decide +kernel
theorem dX11_areWrong_75 : decode cX11_areWrong 75 = .ok (.iconst 1, 1) := by decide +kernel
theorem dX11_areWrong_76 : decode cX11_areWrong 76 = .ok (.goto 4, 3) := by decide +kernel
theorem dX11_areWrong_79 : decode cX11_areWrong 79 = .ok (.iconst 0, 1) := by decide +kernel
theorem dX11_areWrong_80 : decode cX11_areWrong 80 = .ok (.invokevirtual 398, 3) := by decide +kernel
theorem dX11_areWrong_83 : decode cX11_areWrong 83 = .ok (.ireturn, 1) := by decide +kernel
theorem dX11_shareOf_0 : decode cX11_shareOf 0 = .ok (.iconst 0, 1) := by decide +kernel
theorem dX11_shareOf_1 : decode cX11_shareOf 1 = .ok (.istore_n 2, 1) := by decide +kernel
theorem dX11_shareOf_2 : decode cX11_shareOf 2 = .ok (.iconst 0, 1) := by decide +kernel
theorem dX11_shareOf_3 : decode cX11_shareOf 3 = .ok (.istore_n 3, 1) := by decide +kernel
theorem dX11_shareOf_4 : decode cX11_shareOf 4 = .ok (.iload_n 3, 1) := by decide +kernel
theorem dX11_shareOf_5 : decode cX11_shareOf 5 = .ok (.iconst 4, 1) := by decide +kernel
theorem dX11_shareOf_6 : decode cX11_shareOf 6 = .ok (.if_icmp .ge 26, 3) := by decide +kernel
theorem dX11_shareOf_9 : decode cX11_shareOf 9 = .ok (.iload_n 1, 1) := by decide +kernel
theorem dX11_shareOf_10 : decode cX11_shareOf 10 = .ok (.iload_n 3, 1) := by decide +kernel
theorem dX11_shareOf_11 : decode cX11_shareOf 11 = .ok (.ishr, 1) := by decide +kernel
theorem dX11_shareOf_12 : decode cX11_shareOf 12 = .ok (.iconst 1, 1) := by decide +kernel
theorem dX11_shareOf_13 : decode cX11_shareOf 13 = .ok (.iand, 1) := by decide +kernel
theorem dX11_shareOf_14 : decode cX11_shareOf 14 = .ok (.ifCond .eq 12, 3) := by decide +kernel
theorem dX11_shareOf_17 : decode cX11_shareOf 17 = .ok (.iload_n 2, 1) := by decide +kernel
theorem dX11_shareOf_18 : decode cX11_shareOf 18 = .ok (.aload_n 0, 1) := by decide +kernel
theorem dX11_shareOf_19 : decode cX11_shareOf 19 = .ok (.getfield 116, 3) := by decide +kernel
theorem dX11_shareOf_22 : decode cX11_shareOf 22 = .ok (.iload_n 3, 1) := by decide +kernel
theorem dX11_shareOf_23 : decode cX11_shareOf 23 = .ok (.iaload, 1) := by decide +kernel
theorem dX11_shareOf_24 : decode cX11_shareOf 24 = .ok (.iadd, 1) := by decide +kernel
theorem dX11_shareOf_25 : decode cX11_shareOf 25 = .ok (.istore_n 2, 1) := by decide +kernel
theorem dX11_shareOf_26 : decode cX11_shareOf 26 = .ok (.iinc 3 1, 3) := by decide +kernel
theorem dX11_shareOf_29 : decode cX11_shareOf 29 = .ok (.goto (-25), 3) := by decide +kernel
theorem dX11_shareOf_32 : decode cX11_shareOf 32 = .ok (.iload_n 2, 1) := by decide +kernel
theorem dX11_shareOf_33 : decode cX11_shareOf 33 = .ok (.ireturn, 1) := by decide +kernel
theorem dX11_leaves_0 : decode cX11_leaves 0 = .ok (.aload_n 0, 1) := by decide +kernel
theorem dX11_leaves_1 : decode cX11_leaves 1 = .ok (.iload_n 1, 1) := by decide +kernel
theorem dX11_leaves_2 : decode cX11_leaves 2 = .ok (.invokevirtual 96, 3) := by decide +kernel
theorem dX11_leaves_5 : decode cX11_leaves 5 = .ok (.astore_n 3, 1) := by decide +kernel
theorem dX11_leaves_6 : decode cX11_leaves 6 = .ok (.aload_n 0, 1) := by decide +kernel
theorem dX11_leaves_7 : decode cX11_leaves 7 = .ok (.iload_n 2, 1) := by decide +kernel
theorem dX11_leaves_8 : decode cX11_leaves 8 = .ok (.invokevirtual 96, 3) := by decide +kernel
theorem dX11_leaves_11 : decode cX11_leaves 11 = .ok (.astore 4, 2) := by decide +kernel
theorem dX11_leaves_13 : decode cX11_leaves 13 = .ok (.aload_n 3, 1) := by decide +kernel
theorem dX11_leaves_14 : decode cX11_leaves 14 = .ok (.ifnull 8, 3) := by decide +kernel
theorem dX11_leaves_17 : decode cX11_leaves 17 = .ok (.aload 4, 2) := by decide +kernel
theorem dX11_leaves_19 : decode cX11_leaves 19 = .ok (.ifnonnull 5, 3) := by decide +kernel
theorem dX11_leaves_22 : decode cX11_leaves 22 = .ok (.iconst (-1), 1) := by decide +kernel
theorem dX11_leaves_23 : decode cX11_leaves 23 = .ok (.ireturn, 1) := by decide +kernel
theorem dX11_leaves_24 : decode cX11_leaves 24 = .ok (.aload_n 0, 1) := by decide +kernel
theorem dX11_leaves_25 : decode cX11_leaves 25 = .ok (.aload_n 3, 1) := by decide +kernel
theorem dX11_leaves_26 : decode cX11_leaves 26 = .ok (.aload 4, 2) := by decide +kernel
theorem dX11_leaves_28 : decode cX11_leaves 28 = .ok (.invokevirtual 307, 3) := by decide +kernel
theorem dX11_leaves_31 : decode cX11_leaves 31 = .ok (.ifCond .eq 6, 3) := by decide +kernel
theorem dX11_leaves_34 : decode cX11_leaves 34 = .ok (.bipush (-3), 2) := by decide +kernel
theorem dX11_leaves_36 : decode cX11_leaves 36 = .ok (.ireturn, 1) := by decide +kernel
theorem dX11_leaves_37 : decode cX11_leaves 37 = .ok (.aload_n 0, 1) := by decide +kernel
theorem dX11_leaves_38 : decode cX11_leaves 38 = .ok (.getfield 21, 3) := by decide +kernel
theorem dX11_leaves_41 : decode cX11_leaves 41 = .ok (.bipush 15, 2) := by decide +kernel
theorem dX11_leaves_43 : decode cX11_leaves 43 = .ok (.invokevirtual 301, 3) := by decide +kernel
theorem dX11_leaves_46 : decode cX11_leaves 46 = .ok (.bipush 40, 2) := by decide +kernel
theorem dX11_leaves_48 : decode cX11_leaves 48 = .ok (.if_icmp .le 6, 3) := by decide +kernel
theorem dX11_leaves_51 : decode cX11_leaves 51 = .ok (.bipush (-6), 2) := by decide +kernel
theorem dX11_leaves_53 : decode cX11_leaves 53 = .ok (.ireturn, 1) := by decide +kernel
theorem dX11_leaves_54 : decode cX11_leaves 54 = .ok (.aload_n 0, 1) := by decide +kernel
theorem dX11_leaves_55 : decode cX11_leaves 55 = .ok (.getfield 53, 3) := by decide +kernel
theorem dX11_leaves_58 : decode cX11_leaves 58 = .ok (.aload_n 0, 1) := by decide +kernel
theorem dX11_leaves_59 : decode cX11_leaves 59 = .ok (.getfield 21, 3) := by decide +kernel
theorem dX11_leaves_62 : decode cX11_leaves 62 = .ok (.aload_n 0, 1) := by decide +kernel
theorem dX11_leaves_63 : decode cX11_leaves 63 = .ok (.getfield 21, 3) := by decide +kernel
theorem dX11_leaves_66 : decode cX11_leaves 66 = .ok (.getfield 181, 3) := by decide +kernel
theorem dX11_leaves_69 : decode cX11_leaves 69 = .ok (.aload_n 3, 1) := by decide +kernel
theorem dX11_leaves_70 : decode cX11_leaves 70 = .ok (.getfield 116, 3) := by decide +kernel
theorem dX11_leaves_73 : decode cX11_leaves 73 = .ok (.bipush 40, 2) := by decide +kernel
theorem dX11_leaves_75 : decode cX11_leaves 75 = .ok (.invokevirtual 229, 3) := by decide +kernel
theorem dX11_leaves_78 : decode cX11_leaves 78 = .ok (.iconst 1, 1) := by decide +kernel
theorem dX11_leaves_79 : decode cX11_leaves 79 = .ok (.istore 5, 2) := by decide +kernel
theorem dX11_leaves_81 : decode cX11_leaves 81 = .ok (.iload 5, 2) := by decide +kernel
theorem dX11_leaves_83 : decode cX11_leaves 83 = .ok (.bipush 15, 2) := by decide +kernel
theorem dX11_leaves_85 : decode cX11_leaves 85 = .ok (.if_icmp .ge 28, 3) := by decide +kernel
theorem dX11_leaves_88 : decode cX11_leaves 88 = .ok (.aload_n 0, 1) := by decide +kernel
theorem dX11_leaves_89 : decode cX11_leaves 89 = .ok (.iload 5, 2) := by decide +kernel
theorem dX11_leaves_91 : decode cX11_leaves 91 = .ok (.invokevirtual 304, 3) := by decide +kernel
theorem dX11_leaves_94 : decode cX11_leaves 94 = .ok (.aload 4, 2) := by decide +kernel
theorem dX11_leaves_96 : decode cX11_leaves 96 = .ok (.iload 5, 2) := by decide +kernel
theorem dX11_leaves_98 : decode cX11_leaves 98 = .ok (.invokestatic 311, 3) := by decide +kernel
theorem dX11_leaves_101 : decode cX11_leaves 101 = .ok (.if_icmp .le 6, 3) := by decide +kernel
theorem dX11_leaves_104 : decode cX11_leaves 104 = .ok (.iload 5, 2) := by decide +kernel
theorem dX11_leaves_106 : decode cX11_leaves 106 = .ok (.ireturn, 1) := by decide +kernel
theorem dX11_leaves_107 : decode cX11_leaves 107 = .ok (.iinc 5 1, 3) := by decide +kernel
theorem dX11_leaves_110 : decode cX11_leaves 110 = .ok (.goto (-29), 3) := by decide +kernel
theorem dX11_leaves_113 : decode cX11_leaves 113 = .ok (.aload_n 0, 1) := by decide +kernel
theorem dX11_leaves_114 : decode cX11_leaves 114 = .ok (.bipush 15, 2) := by decide +kernel
theorem dX11_leaves_116 : decode cX11_leaves 116 = .ok (.invokevirtual 304, 3) := by decide +kernel
theorem dX11_leaves_119 : decode cX11_leaves 119 = .ok (.aload 4, 2) := by decide +kernel
theorem dX11_leaves_121 : decode cX11_leaves 121 = .ok (.bipush 15, 2) := by decide +kernel
theorem dX11_leaves_123 : decode cX11_leaves 123 = .ok (.invokestatic 311, 3) := by decide +kernel
theorem dX11_leaves_126 : decode cX11_leaves 126 = .ok (.if_icmp .ne 7, 3) := by decide +kernel
theorem dX11_leaves_129 : decode cX11_leaves 129 = .ok (.iconst 0, 1) := by decide +kernel
theorem dX11_leaves_130 : decode cX11_leaves 130 = .ok (.goto 5, 3) := by decide +kernel
theorem dX11_leaves_133 : decode cX11_leaves 133 = .ok (.bipush 15, 2) := by decide +kernel
theorem dX11_leaves_135 : decode cX11_leaves 135 = .ok (.ireturn, 1) := by decide +kernel
theorem dX11_ordersAround_0 : decode cX11_ordersAround 0 = .ok (.iload_n 0, 1) := by decide +kernel
theorem dX11_ordersAround_1 : decode cX11_ordersAround 1 = .ok (.ifCond .eq 8, 3) := by decide +kernel
theorem dX11_ordersAround_4 : decode cX11_ordersAround 4 = .ok (.iload_n 0, 1) := by decide +kernel
theorem dX11_ordersAround_5 : decode cX11_ordersAround 5 = .ok (.iconst 3, 1) := by decide +kernel
theorem dX11_ordersAround_6 : decode cX11_ordersAround 6 = .ok (.if_icmp .ne 8, 3) := by decide +kernel
theorem dX11_ordersAround_9 : decode cX11_ordersAround 9 = .ok (.bipush 6, 2) := by decide +kernel
theorem dX11_ordersAround_11 : decode cX11_ordersAround 11 = .ok (.goto 4, 3) := by decide +kernel
theorem dX11_ordersAround_14 : decode cX11_ordersAround 14 = .ok (.iconst 2, 1) := by decide +kernel
theorem dX11_ordersAround_15 : decode cX11_ordersAround 15 = .ok (.ireturn, 1) := by decide +kernel
theorem dX11_adds_0 : decode cX11_adds 0 = .ok (.aload_n 0, 1) := by decide +kernel
theorem dX11_adds_1 : decode cX11_adds 1 = .ok (.iload_n 2, 1) := by decide +kernel
theorem dX11_adds_2 : decode cX11_adds 2 = .ok (.invokevirtual 96, 3) := by decide +kernel
theorem dX11_adds_5 : decode cX11_adds 5 = .ok (.astore_n 3, 1) := by decide +kernel
theorem dX11_adds_6 : decode cX11_adds 6 = .ok (.iload_n 1, 1) := by decide +kernel
theorem dX11_adds_7 : decode cX11_adds 7 = .ok (.ifCond .lt 12, 3) := by decide +kernel
theorem dX11_adds_10 : decode cX11_adds 10 = .ok (.iload_n 1, 1) := by decide +kernel
theorem dX11_adds_11 : decode cX11_adds 11 = .ok (.iconst 4, 1) := by decide +kernel
theorem dX11_adds_12 : decode cX11_adds 12 = .ok (.if_icmp .ge 7, 3) := by decide +kernel
theorem dX11_adds_15 : decode cX11_adds 15 = .ok (.aload_n 3, 1) := by decide +kernel
theorem dX11_adds_16 : decode cX11_adds 16 = .ok (.ifnonnull 5, 3) := by decide +kernel
theorem dX11_adds_19 : decode cX11_adds 19 = .ok (.iconst (-1), 1) := by decide +kernel
theorem dX11_adds_20 : decode cX11_adds 20 = .ok (.ireturn, 1) := by decide +kernel
theorem dX11_adds_21 : decode cX11_adds 21 = .ok (.aload_n 0, 1) := by decide +kernel
theorem dX11_adds_22 : decode cX11_adds 22 = .ok (.aload_n 3, 1) := by decide +kernel
theorem dX11_adds_23 : decode cX11_adds 23 = .ok (.iconst 1, 1) := by decide +kernel
theorem dX11_adds_24 : decode cX11_adds 24 = .ok (.invokevirtual 226, 3) := by decide +kernel
theorem dX11_adds_27 : decode cX11_adds 27 = .ok (.ifCond .eq 6, 3) := by decide +kernel
theorem dX11_adds_30 : decode cX11_adds 30 = .ok (.bipush (-3), 2) := by decide +kernel
theorem dX11_adds_32 : decode cX11_adds 32 = .ok (.ireturn, 1) := by decide +kernel
theorem dX11_adds_33 : decode cX11_adds 33 = .ok (.aload_n 0, 1) := by decide +kernel
theorem dX11_adds_34 : decode cX11_adds 34 = .ok (.getfield 21, 3) := by decide +kernel
theorem dX11_adds_37 : decode cX11_adds 37 = .ok (.bipush 15, 2) := by decide +kernel
theorem dX11_adds_39 : decode cX11_adds 39 = .ok (.invokevirtual 301, 3) := by decide +kernel
theorem dX11_adds_42 : decode cX11_adds 42 = .ok (.bipush 40, 2) := by decide +kernel
theorem dX11_adds_44 : decode cX11_adds 44 = .ok (.if_icmp .le 6, 3) := by decide +kernel
theorem dX11_adds_47 : decode cX11_adds 47 = .ok (.bipush (-6), 2) := by decide +kernel
theorem dX11_adds_49 : decode cX11_adds 49 = .ok (.ireturn, 1) := by decide +kernel
theorem dX11_adds_50 : decode cX11_adds 50 = .ok (.aload_n 0, 1) := by decide +kernel
theorem dX11_adds_51 : decode cX11_adds 51 = .ok (.getfield 53, 3) := by decide +kernel
theorem dX11_adds_54 : decode cX11_adds 54 = .ok (.aload_n 0, 1) := by decide +kernel
theorem dX11_adds_55 : decode cX11_adds 55 = .ok (.getfield 21, 3) := by decide +kernel
theorem dX11_adds_58 : decode cX11_adds 58 = .ok (.aload_n 0, 1) := by decide +kernel
theorem dX11_adds_59 : decode cX11_adds 59 = .ok (.getfield 21, 3) := by decide +kernel
theorem dX11_adds_62 : decode cX11_adds 62 = .ok (.getfield 181, 3) := by decide +kernel
theorem dX11_adds_65 : decode cX11_adds 65 = .ok (.aload_n 3, 1) := by decide +kernel
theorem dX11_adds_66 : decode cX11_adds 66 = .ok (.getfield 116, 3) := by decide +kernel
theorem dX11_adds_69 : decode cX11_adds 69 = .ok (.bipush 40, 2) := by decide +kernel
theorem dX11_adds_71 : decode cX11_adds 71 = .ok (.invokevirtual 229, 3) := by decide +kernel
theorem dX11_adds_74 : decode cX11_adds 74 = .ok (.iconst 0, 1) := by decide +kernel
theorem dX11_adds_75 : decode cX11_adds 75 = .ok (.istore 4, 2) := by decide +kernel
theorem dX11_adds_77 : decode cX11_adds 77 = .ok (.iconst 0, 1) := by decide +kernel
theorem dX11_adds_78 : decode cX11_adds 78 = .ok (.istore 5, 2) := by decide +kernel
theorem dX11_adds_80 : decode cX11_adds 80 = .ok (.iload 5, 2) := by decide +kernel
theorem dX11_adds_82 : decode cX11_adds 82 = .ok (.bipush 15, 2) := by decide +kernel
theorem dX11_adds_84 : decode cX11_adds 84 = .ok (.if_icmp .gt 49, 3) := by decide +kernel
theorem dX11_adds_87 : decode cX11_adds 87 = .ok (.iload 5, 2) := by decide +kernel
theorem dX11_adds_89 : decode cX11_adds 89 = .ok (.iload_n 1, 1) := by decide +kernel
theorem dX11_adds_90 : decode cX11_adds 90 = .ok (.ishr, 1) := by decide +kernel
theorem dX11_adds_91 : decode cX11_adds 91 = .ok (.iconst 1, 1) := by decide +kernel
theorem dX11_adds_92 : decode cX11_adds 92 = .ok (.iand, 1) := by decide +kernel
theorem dX11_adds_93 : decode cX11_adds 93 = .ok (.ifCond .ne 34, 3) := by decide +kernel
theorem dX11_adds_96 : decode cX11_adds 96 = .ok (.iload 4, 2) := by decide +kernel
theorem dX11_adds_98 : decode cX11_adds 98 = .ok (.iload 5, 2) := by decide +kernel
theorem dX11_adds_100 : decode cX11_adds 100 = .ok (.invokestatic 315, 3) := by decide +kernel
theorem dX11_adds_103 : decode cX11_adds 103 = .ok (.invokestatic 320, 3) := by decide +kernel
theorem dX11_adds_106 : decode cX11_adds 106 = .ok (.aload_n 0, 1) := by decide +kernel
theorem dX11_adds_107 : decode cX11_adds 107 = .ok (.iload 5, 2) := by decide +kernel
theorem dX11_adds_109 : decode cX11_adds 109 = .ok (.iconst 1, 1) := by decide +kernel
theorem dX11_adds_110 : decode cX11_adds 110 = .ok (.iload_n 1, 1) := by decide +kernel
theorem dX11_adds_111 : decode cX11_adds 111 = .ok (.ishl, 1) := by decide +kernel
theorem dX11_adds_112 : decode cX11_adds 112 = .ok (.ior, 1) := by decide +kernel
theorem dX11_adds_113 : decode cX11_adds 113 = .ok (.invokevirtual 304, 3) := by decide +kernel
theorem dX11_adds_116 : decode cX11_adds 116 = .ok (.aload_n 0, 1) := by decide +kernel
theorem dX11_adds_117 : decode cX11_adds 117 = .ok (.iload 5, 2) := by decide +kernel
theorem dX11_adds_119 : decode cX11_adds 119 = .ok (.invokevirtual 304, 3) := by decide +kernel
theorem dX11_adds_122 : decode cX11_adds 122 = .ok (.isub, 1) := by decide +kernel
theorem dX11_adds_123 : decode cX11_adds 123 = .ok (.imul, 1) := by decide +kernel
theorem dX11_adds_124 : decode cX11_adds 124 = .ok (.iadd, 1) := by decide +kernel
theorem dX11_adds_125 : decode cX11_adds 125 = .ok (.istore 4, 2) := by decide +kernel
theorem dX11_adds_127 : decode cX11_adds 127 = .ok (.iinc 5 1, 3) := by decide +kernel
theorem dX11_adds_130 : decode cX11_adds 130 = .ok (.goto (-50), 3) := by decide +kernel
theorem dX11_adds_133 : decode cX11_adds 133 = .ok (.aload_n 0, 1) := by decide +kernel
theorem dX11_adds_134 : decode cX11_adds 134 = .ok (.iload 4, 2) := by decide +kernel
theorem dX11_adds_136 : decode cX11_adds 136 = .ok (.i2l, 1) := by decide +kernel
theorem dX11_adds_137 : decode cX11_adds 137 = .ok (.ldc2_w 323, 3) := by decide +kernel
theorem dX11_adds_140 : decode cX11_adds 140 = .ok (.invokevirtual 260, 3) := by decide +kernel
theorem dX11_adds_143 : decode cX11_adds 143 = .ok (.iconst 1, 1) := by decide +kernel
theorem dX11_adds_144 : decode cX11_adds 144 = .ok (.ireturn, 1) := by decide +kernel
theorem dX11_when_0 : decode cX11_when 0 = .ok (.aload_n 0, 1) := by decide +kernel
theorem dX11_when_1 : decode cX11_when 1 = .ok (.iload_n 1, 1) := by decide +kernel
theorem dX11_when_2 : decode cX11_when 2 = .ok (.invokevirtual 96, 3) := by decide +kernel
theorem dX11_when_5 : decode cX11_when 5 = .ok (.astore_n 2, 1) := by decide +kernel
theorem dX11_when_6 : decode cX11_when 6 = .ok (.aload_n 2, 1) := by decide +kernel
theorem dX11_when_7 : decode cX11_when 7 = .ok (.ifnonnull 5, 3) := by decide +kernel
theorem dX11_when_10 : decode cX11_when 10 = .ok (.iconst (-1), 1) := by decide +kernel
theorem dX11_when_11 : decode cX11_when 11 = .ok (.ireturn, 1) := by decide +kernel
theorem dX11_when_12 : decode cX11_when 12 = .ok (.aload_n 0, 1) := by decide +kernel
theorem dX11_when_13 : decode cX11_when 13 = .ok (.aload_n 2, 1) := by decide +kernel
theorem dX11_when_14 : decode cX11_when 14 = .ok (.iconst 1, 1) := by decide +kernel
theorem dX11_when_15 : decode cX11_when 15 = .ok (.invokevirtual 226, 3) := by decide +kernel
theorem dX11_when_18 : decode cX11_when 18 = .ok (.ifCond .eq 6, 3) := by decide +kernel
theorem dX11_when_21 : decode cX11_when 21 = .ok (.bipush (-3), 2) := by decide +kernel
theorem dX11_when_23 : decode cX11_when 23 = .ok (.ireturn, 1) := by decide +kernel
theorem dX11_when_24 : decode cX11_when 24 = .ok (.iconst 0, 1) := by decide +kernel
theorem dX11_when_25 : decode cX11_when 25 = .ok (.istore_n 3, 1) := by decide +kernel
theorem dX11_when_26 : decode cX11_when 26 = .ok (.iconst (-1), 1) := by decide +kernel
theorem dX11_when_27 : decode cX11_when 27 = .ok (.istore 4, 2) := by decide +kernel
theorem dX11_when_29 : decode cX11_when 29 = .ok (.iconst 0, 1) := by decide +kernel
theorem dX11_when_30 : decode cX11_when 30 = .ok (.istore 5, 2) := by decide +kernel
theorem dX11_when_32 : decode cX11_when 32 = .ok (.iload 5, 2) := by decide +kernel
theorem dX11_when_34 : decode cX11_when 34 = .ok (.bipush 9, 2) := by decide +kernel
theorem dX11_when_36 : decode cX11_when 36 = .ok (.if_icmp .gt 59, 3) := by decide +kernel
theorem dX11_when_39 : decode cX11_when 39 = .ok (.aload_n 0, 1) := by decide +kernel
theorem dX11_when_40 : decode cX11_when 40 = .ok (.getfield 53, 3) := by decide +kernel
theorem dX11_when_43 : decode cX11_when 43 = .ok (.aload_n 0, 1) := by decide +kernel
theorem dX11_when_44 : decode cX11_when 44 = .ok (.getfield 21, 3) := by decide +kernel
theorem dX11_when_47 : decode cX11_when 47 = .ok (.iload 5, 2) := by decide +kernel
theorem dX11_when_49 : decode cX11_when 49 = .ok (.aload_n 2, 1) := by decide +kernel
theorem dX11_when_50 : decode cX11_when 50 = .ok (.getfield 116, 3) := by decide +kernel
theorem dX11_when_53 : decode cX11_when 53 = .ok (.aload_n 0, 1) := by decide +kernel
theorem dX11_when_54 : decode cX11_when 54 = .ok (.getfield 21, 3) := by decide +kernel
theorem dX11_when_57 : decode cX11_when 57 = .ok (.getfield 188, 3) := by decide +kernel
theorem dX11_when_60 : decode cX11_when 60 = .ok (.iconst 0, 1) := by decide +kernel
theorem dX11_when_61 : decode cX11_when 61 = .ok (.iaload, 1) := by decide +kernel
theorem dX11_when_62 : decode cX11_when 62 = .ok (.invokevirtual 229, 3) := by decide +kernel
theorem dX11_when_65 : decode cX11_when 65 = .ok (.aload_n 0, 1) := by decide +kernel
theorem dX11_when_66 : decode cX11_when 66 = .ok (.getfield 53, 3) := by decide +kernel
theorem dX11_when_69 : decode cX11_when 69 = .ok (.getfield 243, 3) := by decide +kernel
theorem dX11_when_72 : decode cX11_when 72 = .ok (.iload 4, 2) := by decide +kernel
theorem dX11_when_74 : decode cX11_when 74 = .ok (.if_icmp .le 15, 3) := by decide +kernel
theorem dX11_when_77 : decode cX11_when 77 = .ok (.aload_n 0, 1) := by decide +kernel
theorem dX11_when_78 : decode cX11_when 78 = .ok (.getfield 53, 3) := by decide +kernel
theorem dX11_when_81 : decode cX11_when 81 = .ok (.getfield 243, 3) := by decide +kernel
theorem dX11_when_84 : decode cX11_when 84 = .ok (.istore 4, 2) := by decide +kernel
theorem dX11_when_86 : decode cX11_when 86 = .ok (.iload 5, 2) := by decide +kernel
theorem dX11_when_88 : decode cX11_when 88 = .ok (.istore_n 3, 1) := by decide +kernel
theorem dX11_when_89 : decode cX11_when 89 = .ok (.iinc 5 1, 3) := by decide +kernel
theorem dX11_when_92 : decode cX11_when 92 = .ok (.goto (-60), 3) := by decide +kernel
theorem dX11_when_95 : decode cX11_when 95 = .ok (.aload_n 0, 1) := by decide +kernel
theorem dX11_when_96 : decode cX11_when 96 = .ok (.iload 4, 2) := by decide +kernel
theorem dX11_when_98 : decode cX11_when 98 = .ok (.putfield 217, 3) := by decide +kernel
theorem dX11_when_101 : decode cX11_when 101 = .ok (.iload_n 3, 1) := by decide +kernel
theorem dX11_when_102 : decode cX11_when 102 = .ok (.ireturn, 1) := by decide +kernel
theorem dX11_rule_0 : decode cX11_rule 0 = .ok (.aload_n 0, 1) := by decide +kernel
theorem dX11_rule_1 : decode cX11_rule 1 = .ok (.iload_n 2, 1) := by decide +kernel
theorem dX11_rule_2 : decode cX11_rule 2 = .ok (.invokevirtual 96, 3) := by decide +kernel
theorem dX11_rule_5 : decode cX11_rule 5 = .ok (.astore_n 3, 1) := by decide +kernel
theorem dX11_rule_6 : decode cX11_rule 6 = .ok (.iload_n 1, 1) := by decide +kernel
theorem dX11_rule_7 : decode cX11_rule 7 = .ok (.ifCond .lt 13, 3) := by decide +kernel
theorem dX11_rule_10 : decode cX11_rule 10 = .ok (.iload_n 1, 1) := by decide +kernel
theorem dX11_rule_11 : decode cX11_rule 11 = .ok (.bipush 6, 2) := by decide +kernel
theorem dX11_rule_13 : decode cX11_rule 13 = .ok (.if_icmp .ge 7, 3) := by decide +kernel
theorem dX11_rule_16 : decode cX11_rule 16 = .ok (.aload_n 3, 1) := by decide +kernel
theorem dX11_rule_17 : decode cX11_rule 17 = .ok (.ifnonnull 5, 3) := by decide +kernel
theorem dX11_rule_20 : decode cX11_rule 20 = .ok (.iconst (-1), 1) := by decide +kernel
theorem dX11_rule_21 : decode cX11_rule 21 = .ok (.ireturn, 1) := by decide +kernel
theorem dX11_rule_22 : decode cX11_rule 22 = .ok (.aload_n 0, 1) := by decide +kernel
theorem dX11_rule_23 : decode cX11_rule 23 = .ok (.getfield 21, 3) := by decide +kernel
theorem dX11_rule_26 : decode cX11_rule 26 = .ok (.getfield 158, 3) := by decide +kernel
theorem dX11_rule_29 : decode cX11_rule 29 = .ok (.ifCond .ne 9, 3) := by decide +kernel
theorem dX11_rule_32 : decode cX11_rule 32 = .ok (.aload_n 0, 1) := by decide +kernel
theorem dX11_rule_33 : decode cX11_rule 33 = .ok (.iconst 4, 1) := by decide +kernel
theorem dX11_rule_34 : decode cX11_rule 34 = .ok (.invokevirtual 100, 3) := by decide +kernel
theorem dX11_rule_37 : decode cX11_rule 37 = .ok (.ireturn, 1) := by decide +kernel
theorem dX11_rule_38 : decode cX11_rule 38 = .ok (.aload_n 0, 1) := by decide +kernel
theorem dX11_rule_39 : decode cX11_rule 39 = .ok (.getfield 81, 3) := by decide +kernel
theorem dX11_rule_42 : decode cX11_rule 42 = .ok (.aload_n 0, 1) := by decide +kernel
theorem dX11_rule_43 : decode cX11_rule 43 = .ok (.getfield 21, 3) := by decide +kernel
theorem dX11_rule_46 : decode cX11_rule 46 = .ok (.iload_n 1, 1) := by decide +kernel
theorem dX11_rule_47 : decode cX11_rule 47 = .ok (.aload_n 0, 1) := by decide +kernel
theorem dX11_rule_48 : decode cX11_rule 48 = .ok (.getfield 21, 3) := by decide +kernel
theorem dX11_rule_51 : decode cX11_rule 51 = .ok (.getfield 325, 3) := by decide +kernel
theorem dX11_rule_54 : decode cX11_rule 54 = .ok (.invokevirtual 328, 3) := by decide +kernel
theorem dX11_rule_57 : decode cX11_rule 57 = .ok (.aload_n 3, 1) := by decide +kernel
theorem dX11_rule_58 : decode cX11_rule 58 = .ok (.aload_n 0, 1) := by decide +kernel
theorem dX11_rule_59 : decode cX11_rule 59 = .ok (.getfield 81, 3) := by decide +kernel
theorem dX11_rule_62 : decode cX11_rule 62 = .ok (.getfield 332, 3) := by decide +kernel
theorem dX11_rule_65 : decode cX11_rule 65 = .ok (.aload_n 0, 1) := by decide +kernel
theorem dX11_rule_66 : decode cX11_rule 66 = .ok (.getfield 21, 3) := by decide +kernel
theorem dX11_rule_69 : decode cX11_rule 69 = .ok (.getfield 158, 3) := by decide +kernel
theorem dX11_rule_72 : decode cX11_rule 72 = .ok (.invokevirtual 236, 3) := by decide +kernel
theorem dX11_rule_75 : decode cX11_rule 75 = .ok (.aload_n 3, 1) := by decide +kernel
theorem dX11_rule_76 : decode cX11_rule 76 = .ok (.invokevirtual 136, 3) := by decide +kernel
theorem dX11_rule_79 : decode cX11_rule 79 = .ok (.l2i, 1) := by decide +kernel
theorem dX11_rule_80 : decode cX11_rule 80 = .ok (.ireturn, 1) := by decide +kernel
theorem dX11_note_0 : decode cX11_note 0 = .ok (.aload_n 0, 1) := by decide +kernel
theorem dX11_note_1 : decode cX11_note 1 = .ok (.iload_n 1, 1) := by decide +kernel
theorem dX11_note_2 : decode cX11_note 2 = .ok (.invokevirtual 96, 3) := by decide +kernel
theorem dX11_note_5 : decode cX11_note 5 = .ok (.astore_n 3, 1) := by decide +kernel
theorem dX11_note_6 : decode cX11_note 6 = .ok (.aload_n 3, 1) := by decide +kernel
theorem dX11_note_7 : decode cX11_note 7 = .ok (.ifnull 20, 3) := by decide +kernel
theorem dX11_note_10 : decode cX11_note 10 = .ok (.iload_n 2, 1) := by decide +kernel
theorem dX11_note_11 : decode cX11_note 11 = .ok (.ifCond .lt 16, 3) := by decide +kernel
theorem dX11_note_14 : decode cX11_note 14 = .ok (.iload_n 2, 1) := by decide +kernel
theorem dX11_note_15 : decode cX11_note 15 = .ok (.iconst 1, 1) := by decide +kernel
theorem dX11_note_16 : decode cX11_note 16 = .ok (.aload_n 0, 1) := by decide +kernel
theorem dX11_note_17 : decode cX11_note 17 = .ok (.getfield 21, 3) := by decide +kernel
theorem dX11_note_20 : decode cX11_note 20 = .ok (.getfield 158, 3) := by decide +kernel
theorem dX11_note_23 : decode cX11_note 23 = .ok (.ishl, 1) := by decide +kernel
theorem dX11_note_24 : decode cX11_note 24 = .ok (.if_icmp .lt 5, 3) := by decide +kernel
theorem dX11_note_27 : decode cX11_note 27 = .ok (.iconst (-1), 1) := by decide +kernel
theorem dX11_note_28 : decode cX11_note 28 = .ok (.ireturn, 1) := by decide +kernel
theorem dX11_note_29 : decode cX11_note 29 = .ok (.aload_n 0, 1) := by decide +kernel
theorem dX11_note_30 : decode cX11_note 30 = .ok (.aload_n 3, 1) := by decide +kernel
theorem dX11_note_31 : decode cX11_note 31 = .ok (.iconst 0, 1) := by decide +kernel
theorem dX11_note_32 : decode cX11_note 32 = .ok (.invokevirtual 226, 3) := by decide +kernel
theorem dX11_note_35 : decode cX11_note 35 = .ok (.ifCond .eq 6, 3) := by decide +kernel
theorem dX11_note_38 : decode cX11_note 38 = .ok (.bipush (-3), 2) := by decide +kernel
theorem dX11_note_40 : decode cX11_note 40 = .ok (.ireturn, 1) := by decide +kernel
theorem dX11_note_41 : decode cX11_note 41 = .ok (.aload_n 0, 1) := by decide +kernel
theorem dX11_note_42 : decode cX11_note 42 = .ok (.getfield 21, 3) := by decide +kernel
theorem dX11_note_45 : decode cX11_note 45 = .ok (.getfield 325, 3) := by decide +kernel
theorem dX11_note_48 : decode cX11_note 48 = .ok (.bipush 8, 2) := by decide +kernel
theorem dX11_note_50 : decode cX11_note 50 = .ok (.if_icmp .lt 6, 3) := by decide +kernel
theorem dX11_note_53 : decode cX11_note 53 = .ok (.bipush (-2), 2) := by decide +kernel
theorem dX11_note_55 : decode cX11_note 55 = .ok (.ireturn, 1) := by decide +kernel
theorem dX11_note_56 : decode cX11_note 56 = .ok (.aload_n 0, 1) := by decide +kernel
theorem dX11_note_57 : decode cX11_note 57 = .ok (.getfield 21, 3) := by decide +kernel
theorem dX11_note_60 : decode cX11_note 60 = .ok (.aload_n 3, 1) := by decide +kernel
theorem dX11_note_61 : decode cX11_note 61 = .ok (.getfield 116, 3) := by decide +kernel
theorem dX11_note_64 : decode cX11_note 64 = .ok (.iload_n 2, 1) := by decide +kernel
theorem dX11_note_65 : decode cX11_note 65 = .ok (.invokevirtual 333, 3) := by decide +kernel
theorem dX11_note_68 : decode cX11_note 68 = .ok (.aload_n 0, 1) := by decide +kernel
theorem dX11_note_69 : decode cX11_note 69 = .ok (.getfield 21, 3) := by decide +kernel
theorem dX11_note_72 : decode cX11_note 72 = .ok (.getfield 325, 3) := by decide +kernel
theorem dX11_note_75 : decode cX11_note 75 = .ok (.iconst 1, 1) := by decide +kernel
theorem dX11_note_76 : decode cX11_note 76 = .ok (.isub, 1) := by decide +kernel
theorem dX11_note_77 : decode cX11_note 77 = .ok (.ireturn, 1) := by decide +kernel
theorem dX11_back_0 : decode cX11_back 0 = .ok (.iload_n 1, 1) := by decide +kernel
theorem dX11_back_1 : decode cX11_back 1 = .ok (.ifCond .lt 14, 3) := by decide +kernel
theorem dX11_back_4 : decode cX11_back 4 = .ok (.iload_n 1, 1) := by decide +kernel
theorem dX11_back_5 : decode cX11_back 5 = .ok (.aload_n 0, 1) := by decide +kernel
theorem dX11_back_6 : decode cX11_back 6 = .ok (.getfield 21, 3) := by decide +kernel
theorem dX11_back_9 : decode cX11_back 9 = .ok (.getfield 325, 3) := by decide +kernel
theorem dX11_back_12 : decode cX11_back 12 = .ok (.if_icmp .le 5, 3) := by decide +kernel
theorem dX11_back_15 : decode cX11_back 15 = .ok (.iconst (-1), 1) := by decide +kernel
theorem dX11_back_16 : decode cX11_back 16 = .ok (.ireturn, 1) := by decide +kernel
theorem dX11_back_17 : decode cX11_back 17 = .ok (.aload_n 0, 1) := by decide +kernel
theorem dX11_back_18 : decode cX11_back 18 = .ok (.getfield 21, 3) := by decide +kernel
theorem dX11_back_21 : decode cX11_back 21 = .ok (.getfield 325, 3) := by decide +kernel
theorem dX11_back_24 : decode cX11_back 24 = .ok (.iload_n 1, 1) := by decide +kernel
theorem dX11_back_25 : decode cX11_back 25 = .ok (.isub, 1) := by decide +kernel
theorem dX11_back_26 : decode cX11_back 26 = .ok (.istore_n 2, 1) := by decide +kernel
theorem dX11_back_27 : decode cX11_back 27 = .ok (.aload_n 0, 1) := by decide +kernel
theorem dX11_back_28 : decode cX11_back 28 = .ok (.getfield 21, 3) := by decide +kernel
theorem dX11_back_31 : decode cX11_back 31 = .ok (.iload_n 1, 1) := by decide +kernel
theorem dX11_back_32 : decode cX11_back 32 = .ok (.putfield 325, 3) := by decide +kernel
theorem dX11_back_35 : decode cX11_back 35 = .ok (.iload_n 2, 1) := by decide +kernel
theorem dX11_back_36 : decode cX11_back 36 = .ok (.ireturn, 1) := by decide +kernel
theorem q_804 : Cond.methodLink RX11 301 yX0_stockWith ∈ wT := wi_t 804 (by decide +kernel) (by decide +kernel)
theorem q_807 : Cond.code yX0_stockWith cX0_stockWith 4 (some .int) ∈ wT := wi_t 807 (by decide +kernel) (by decide +kernel)
theorem q_805 : Cond.instanceMethod yX0_stockWith ∈ wT := wi_t 805 (by decide +kernel) (by decide +kernel)
theorem q_806 : Cond.selects RX0 yX0_stockWith yX0_stockWith ∈ wT := wi_t 806 (by decide +kernel) (by decide +kernel)
theorem q_808 : Cond.methodLink RX11 304 yX11_worthOf ∈ wT := wi_t 808 (by decide +kernel) (by decide +kernel)
theorem q_811 : Cond.code yX11_worthOf cX11_worthOf 2 (some .int) ∈ wT := wi_t 811 (by decide +kernel) (by decide +kernel)
theorem q_810 : Cond.instanceMethod yX11_worthOf ∈ wT := wi_t 810 (by decide +kernel) (by decide +kernel)
theorem qs_23 : Cond.selects RX11 yX11_worthOf yX11_worthOf ∈ wT := wi_s (q := (yX11_worthOf, 17)) 23 (by decide +kernel) (by decide +kernel)
theorem q_820 : Cond.methodLink RX11 402 yX6_isWithin ∈ wT := wi_t 820 (by decide +kernel) (by decide +kernel)
theorem q_821 : Cond.methodLink RX11 311 yX11_shareOf ∈ wT := wi_t 821 (by decide +kernel) (by decide +kernel)
theorem q_823 : Cond.code yX11_shareOf cX11_shareOf 4 (some .int) ∈ wT := wi_t 823 (by decide +kernel) (by decide +kernel)
theorem q_822 : Cond.static yX11_shareOf ∈ wT := wi_t 822 (by decide +kernel) (by decide +kernel)
theorem q_816 : Cond.methodLink RX11 307 yX11_areWrong ∈ wT := wi_t 816 (by decide +kernel) (by decide +kernel)
theorem q_819 : Cond.code yX11_areWrong cX11_areWrong 5 (some .boolean) ∈ wT := wi_t 819 (by decide +kernel) (by decide +kernel)
theorem q_818 : Cond.instanceMethod yX11_areWrong ∈ wT := wi_t 818 (by decide +kernel) (by decide +kernel)
theorem qs_24 : Cond.selects RX11 yX11_areWrong yX11_areWrong ∈ wT := wi_s (q := (yX11_areWrong, 17)) 24 (by decide +kernel) (by decide +kernel)
theorem q_837 : Cond.constantLong RX11 323 24 ∈ wT := wi_t 837 (by decide +kernel) (by decide +kernel)
theorem q_828 : Cond.methodLink RX11 315 yJ6_bitCount_0f7a4 ∈ wT := wi_t 828 (by decide +kernel) (by decide +kernel)
theorem q_830 : Cond.code yJ6_bitCount_0f7a4 cJ6_bitCount_0f7a4 1 (some .int) ∈ wT := wi_t 830 (by decide +kernel) (by decide +kernel)
theorem q_829 : Cond.static yJ6_bitCount_0f7a4 ∈ wT := wi_t 829 (by decide +kernel) (by decide +kernel)
theorem q_17 : Cond.initialized RJ6 ∈ wT := wi_t 17 (by decide +kernel) (by decide +kernel)
theorem q_834 : Cond.methodLink RX11 320 yX11_ordersAround ∈ wT := wi_t 834 (by decide +kernel) (by decide +kernel)
theorem q_836 : Cond.code yX11_ordersAround cX11_ordersAround 1 (some .int) ∈ wT := wi_t 836 (by decide +kernel) (by decide +kernel)
theorem q_835 : Cond.static yX11_ordersAround ∈ wT := wi_t 835 (by decide +kernel) (by decide +kernel)
theorem q_320 : Cond.fieldLink RX11 81 "HeavyFiles" "guess" "LHeavyFiles$Guess;" ∈ wT := wi_t 320 (by decide +kernel) (by decide +kernel)
theorem q_81 : Cond.fieldLink RX11 325 "HeavyFiles$Court" "notes" "I" ∈ wT := wi_t 81 (by decide +kernel) (by decide +kernel)
theorem q_846 : Cond.methodLink RX11 328 yX2_layBy ∈ wT := wi_t 846 (by decide +kernel) (by decide +kernel)
theorem q_274 : Cond.fieldLink RX11 332 "HeavyFiles$Guess" "laid" "[I" ∈ wT := wi_t 274 (by decide +kernel) (by decide +kernel)
theorem q_877 : Cond.methodLink RX11 333 yX0_write ∈ wT := wi_t 877 (by decide +kernel) (by decide +kernel)
theorem q_880 : Cond.code yX0_write cX0_write 3 none ∈ wT := wi_t 880 (by decide +kernel) (by decide +kernel)
theorem q_878 : Cond.instanceMethod yX0_write ∈ wT := wi_t 878 (by decide +kernel) (by decide +kernel)
theorem q_879 : Cond.selects RX0 yX0_write yX0_write ∈ wT := wi_t 879 (by decide +kernel) (by decide +kernel)
theorem kvX0_stockWith : KV yX0_stockWith RX0 cX0_stockWith 4 (some .int) 1 := ⟨q_805, q_806, q_2, q_807, rfl, by decide +kernel, by decide +kernel, by decide +kernel⟩
theorem kvX11_worthOf : KV yX11_worthOf RX11 cX11_worthOf 2 (some .int) 1 := ⟨q_810, qs_23, q_1, q_811, rfl, by decide +kernel, by decide +kernel, by decide +kernel⟩
theorem kvX11_shareOf : KS yX11_shareOf cX11_shareOf 4 (some .int) 2 := ⟨q_822, q_1, q_823, by decide +kernel, by decide +kernel, by decide +kernel⟩
theorem kvX11_areWrong : KV yX11_areWrong RX11 cX11_areWrong 5 (some .boolean) 2 := ⟨q_818, qs_24, q_1, q_819, rfl, by decide +kernel, by decide +kernel, by decide +kernel⟩
theorem kvJ6_bitCount_0f7a4 : KS yJ6_bitCount_0f7a4 cJ6_bitCount_0f7a4 1 (some .int) 1 := ⟨q_829, q_17, q_830, by decide +kernel, by decide +kernel, by decide +kernel⟩
theorem kvX11_ordersAround : KS yX11_ordersAround cX11_ordersAround 1 (some .int) 1 := ⟨q_835, q_1, q_836, by decide +kernel, by decide +kernel, by decide +kernel⟩
theorem kvX0_write : KV yX0_write RX0 cX0_write 3 none 2 := ⟨q_878, q_879, q_2, q_880, rfl, by decide +kernel, by decide +kernel, by decide +kernel⟩
/-! HeavyFiles.worthOf(I)I -/
def fX11_worthOf (N : Nat)  (a0 : Nat) (a1 : Int32) (mm : Mm) : Option (Int32 × Mm) :=
  bd2 (fX0_stockWith N (fr a0 2) a1 mm) fun x1 m2 => bd2 (fX8_mostBy N (fr a0 7) x1 m2) fun x4 m5 => gd (inb 0 (ln (fr (fr a0 2) 1))) <| bd2 (fX8_mostBy N (fr a0 7) (rd m5 (fr (fr a0 2) 1) ((0 : Int32).toNatClampNeg)) m5) fun x8 m9 => some (x4 - x8, m9)
abbrev rmX11_worthOf : Room := { frames := 3, cells := 0, slots := 0, locals := 100 }
/-! HeavyFiles.lend(II)I -/
def fX11_lend (N : Nat)  (a0 : Nat) (a1 : Int32) (a2 : Int32) (mm : Mm) : Option (Int32 × Mm) :=
  bd2 (fX11_rowOf N a0 a2 mm) fun x1 m2 => if a1 < 0 then (some ((-1), m2)) else (if (15 : Int32) < a1 then (some ((-1), m2)) else (cs x1 (some ((-1), m2)) (fun z6 => bd2 (fX11_isWrong N a0 z6 1 m2) fun x8 m9 => if x8 = 0 then (bd2 (fX0_stockWith N (fr a0 2) a1 m9) fun x12 m13 => if x12 ≤ 40 then (bd2 (fX8_run N (fr a0 7) (fr a0 2) (rd m13 (fr a0 2) 6) (fr z6 0) 40 m13) fun x16 m17 => bd2 (fX11_worthOf N a0 a1 m17) fun x19 m20 => some (x19, m20)) else (some ((-6), m13))) else (some ((-3), m9)))))
abbrev rmX11_lend : Room := { frames := 16, cells := 0, slots := 0, locals := 861 }
/-! HeavyFiles.areWrong(LHeavyFiles$Row;LHeavyFiles$Row;)Z -/
def fX11_areWrong_80 (N : Nat)  (s0 : Nat) (s1 : Int32) (s2 : Int32) (s3 : Int32) (mm : Mm) : Option (Int32 × Mm) :=
  bd2 (fX11_isRefused N s0 s1 s2 s3 mm) fun x1 m2 => gd (zb x1) <| some (x1, m2)
def fX11_areWrong_79 (N : Nat)  (s0 : Nat) (s1 : Int32) (s2 : Int32) (mm : Mm) : Option (Int32 × Mm) :=
  fX11_areWrong_80 N s0 s1 s2 0 mm
def fX11_areWrong_47 (N : Nat)  (a0 : Nat) (a1 : Nat) (a2 : Nat) (a3 : Int32) (s0 : Int32) (mm : Mm) : Option (Int32 × Mm) :=
  bd2 (fX0_allows N (fr a0 2) a1 1 mm) fun x5 m6 => if x5 = 0 then (fX11_areWrong_79 N a0 a3 s0 m6) else (bd2 (fX6_isWithin N a2 999 m6) fun x9 m10 => if x9 = 0 then (fX11_areWrong_79 N a0 a3 s0 m10) else (fX11_areWrong_80 N a0 a3 s0 1 m10))
def fX11_areWrong_46 (N : Nat)  (a0 : Nat) (a1 : Nat) (a2 : Nat) (a3 : Int32) (mm : Mm) : Option (Int32 × Mm) :=
  fX11_areWrong_47 N a0 a1 a2 a3 0 mm
def fX11_areWrong_19 (N : Nat)  (a0 : Nat) (a1 : Nat) (a2 : Nat) (s0 : Int32) (mm : Mm) : Option (Int32 × Mm) :=
  if (rd mm a1 1) = (rd mm (fr a0 2) 5) then (if (rd mm a2 1) = 4 then (fX11_areWrong_47 N a0 a1 a2 s0 1 mm) else (fX11_areWrong_46 N a0 a1 a2 s0 mm)) else (fX11_areWrong_46 N a0 a1 a2 s0 mm)
def fX11_areWrong_18 (N : Nat)  (a0 : Nat) (a1 : Nat) (a2 : Nat) (mm : Mm) : Option (Int32 × Mm) :=
  fX11_areWrong_19 N a0 a1 a2 0 mm
def fX11_areWrong (N : Nat)  (a0 : Nat) (a1 : Nat) (a2 : Nat) (mm : Mm) : Option (Int32 × Mm) :=
  bd2 (fX6_isMissing N a1 mm) fun x15 m16 => if x15 = 0 then (bd2 (fX6_isMissing N a2 m16) fun x19 m20 => if x19 = 0 then (fX11_areWrong_19 N a0 a1 a2 1 m20) else (fX11_areWrong_18 N a0 a1 a2 m20)) else (fX11_areWrong_18 N a0 a1 a2 m16)
abbrev rmX11_areWrong : Room := { frames := 3, cells := 0, slots := 0, locals := 101 }
/-! HeavyFiles.shareOf(LHeavyFiles$Row;I)I -/
def fX11_shareOf_26 (N : Nat) (k4 : Nat → Int32 → Int32 → Int32 → Mm → Option (Int32 × Mm)) (a0 : Nat) (a1 : Int32) (a2 : Int32) (a3 : Int32) (mm : Mm) : Option (Int32 × Mm) :=
  k4 a0 a1 a2 (a3 + 1) mm
def fX11_shareOf_4 (N : Nat)  : Nat → Nat → Int32 → Int32 → Int32 → Mm → Option (Int32 × Mm)
  | 0 => fun _ _ _ _ _ => none
  | n + 1 => fun a0 a1 a2 a3 mm =>
    let k4 := fX11_shareOf_4 N  n
    if (4 : Int32) ≤ a3 then (some (a2, mm)) else (if ((a1 >>> (a3 &&& 31)) &&& 1) = 0 then (fX11_shareOf_26 N k4 a0 a1 a2 a3 mm) else (gd (inb a3 (ln (fr a0 0))) <| nm (a2 + (rd mm (fr a0 0) a3.toNatClampNeg)) fun x4 => fX11_shareOf_26 N k4 a0 a1 x4 a3 mm))
def fX11_shareOf (N : Nat)  (a0 : Nat) (a1 : Int32) (mm : Mm) : Option (Int32 × Mm) :=
  fX11_shareOf_4 N N a0 a1 0 0 mm
abbrev rmX11_shareOf : Room := { frames := 1, cells := 0, slots := 0, locals := 40 }
/-! HeavyFiles.leaves(II)I -/
def fX11_leaves_81 (N : Nat)  : Nat → Nat → Nat → Int32 → Mm → Option (Int32 × Mm)
  | 0 => fun _ _ _ _ => none
  | n + 1 => fun a0 a4 a5 mm =>
    let k81 := fX11_leaves_81 N  n
    if (15 : Int32) ≤ a5 then (bd2 (fX11_worthOf N a0 15 mm) fun x2 m3 => bd2 (fX11_shareOf N a4 15 m3) fun x5 m6 => if x2 = x5 then (some (0, m6)) else (some (15, m6))) else (bd2 (fX11_worthOf N a0 a5 mm) fun x9 m10 => bd2 (fX11_shareOf N a4 a5 m10) fun x12 m13 => if x9 ≤ x12 then (k81 a0 a4 (a5 + 1) m13) else (some (a5, m13)))
def fX11_leaves (N : Nat)  (a0 : Nat) (a1 : Int32) (a2 : Int32) (mm : Mm) : Option (Int32 × Mm) :=
  bd2 (fX11_rowOf N a0 a1 mm) fun x16 m17 => bd2 (fX11_rowOf N a0 a2 m17) fun x19 m20 => cs x16 (some ((-1), m20)) (fun z22 => cs x19 (some ((-1), m20)) (fun z24 => bd2 (fX11_areWrong N a0 z22 z24 m20) fun x26 m27 => if x26 = 0 then (bd2 (fX0_stockWith N (fr a0 2) 15 m27) fun x30 m31 => if x30 ≤ 40 then (bd2 (fX8_run N (fr a0 7) (fr a0 2) (rd m31 (fr a0 2) 6) (fr z22 0) 40 m31) fun x34 m35 => fX11_leaves_81 N N a0 z24 1 m35) else (some ((-6), m31))) else (some ((-3), m27))))
abbrev rmX11_leaves : Room := { frames := 16, cells := 0, slots := 0, locals := 861 }
/-! HeavyFiles.ordersAround(I)I -/
def fX11_ordersAround (N : Nat)  (a0 : Int32) (mm : Mm) : Option (Int32 × Mm) :=
  if a0 = 0 then (some (6, mm)) else (if a0 = 3 then (some (6, mm)) else (some (2, mm)))
abbrev rmX11_ordersAround : Room := { frames := 1, cells := 0, slots := 0, locals := 40 }
/-! HeavyFiles.adds(II)I -/
def fX11_adds_127 (N : Nat) (k80 : Nat → Int32 → Int32 → Int32 → Mm → Option (Int32 × Mm)) (a0 : Nat) (a1 : Int32) (a4 : Int32) (a5 : Int32) (mm : Mm) : Option (Int32 × Mm) :=
  k80 a0 a1 a4 (a5 + 1) mm
def fX11_adds_80 (N : Nat)  : Nat → Nat → Int32 → Int32 → Int32 → Mm → Option (Int32 × Mm)
  | 0 => fun _ _ _ _ _ => none
  | n + 1 => fun a0 a1 a4 a5 mm =>
    let k80 := fX11_adds_80 N  n
    if (15 : Int32) < a5 then (bd2 (fX11_fraction N a0 a4.toInt64 24 mm) fun x2 m3 => some (1, m3)) else (if ((a5 >>> (a1 &&& 31)) &&& 1) = 0 then (bd2 (fJ6_bitCount_0f7a4 N a5 mm) fun x6 m7 => bd2 (fX11_ordersAround N x6 m7) fun x9 m10 => bd2 (fX11_worthOf N a0 (a5 ||| (1 <<< (a1 &&& 31))) m10) fun x12 m13 => bd2 (fX11_worthOf N a0 a5 m13) fun x15 m16 => fX11_adds_127 N k80 a0 a1 (a4 + (x9 * (x12 - x15))) a5 m16) else (fX11_adds_127 N k80 a0 a1 a4 a5 mm))
def fX11_adds (N : Nat)  (a0 : Nat) (a1 : Int32) (a2 : Int32) (mm : Mm) : Option (Int32 × Mm) :=
  bd2 (fX11_rowOf N a0 a2 mm) fun x18 m19 => if a1 < 0 then (some ((-1), m19)) else (if (4 : Int32) ≤ a1 then (some ((-1), m19)) else (cs x18 (some ((-1), m19)) (fun z23 => bd2 (fX11_isWrong N a0 z23 1 m19) fun x25 m26 => if x25 = 0 then (bd2 (fX0_stockWith N (fr a0 2) 15 m26) fun x29 m30 => if x29 ≤ 40 then (bd2 (fX8_run N (fr a0 7) (fr a0 2) (rd m30 (fr a0 2) 6) (fr z23 0) 40 m30) fun x33 m34 => fX11_adds_80 N N a0 a1 0 0 m34) else (some ((-6), m30))) else (some ((-3), m26)))))
abbrev rmX11_adds : Room := { frames := 16, cells := 0, slots := 0, locals := 861 }
/-! HeavyFiles.when(I)I -/
def fX11_when_89 (N : Nat) (k32 : Nat → Nat → Int32 → Int32 → Int32 → Mm → Option (Int32 × Mm)) (a0 : Nat) (a2 : Nat) (a3 : Int32) (a4 : Int32) (a5 : Int32) (mm : Mm) : Option (Int32 × Mm) :=
  k32 a0 a2 a3 a4 (a5 + 1) mm
def fX11_when_32 (N : Nat)  : Nat → Nat → Nat → Int32 → Int32 → Int32 → Mm → Option (Int32 × Mm)
  | 0 => fun _ _ _ _ _ _ => none
  | n + 1 => fun a0 a2 a3 a4 a5 mm =>
    let k32 := fX11_when_32 N  n
    if (9 : Int32) < a5 then (nm (wr mm a0 14 a4) fun m2 => some (a3, m2)) else (gd (inb 0 (ln (fr (fr a0 2) 1))) <| bd2 (fX8_run N (fr a0 7) (fr a0 2) a5 (fr a2 0) (rd mm (fr (fr a0 2) 1) ((0 : Int32).toNatClampNeg)) mm) fun x4 m5 => if (rd m5 (fr a0 7) 1) ≤ a4 then (fX11_when_89 N k32 a0 a2 a3 a4 a5 m5) else (fX11_when_89 N k32 a0 a2 a5 (rd m5 (fr a0 7) 1) a5 m5))
def fX11_when (N : Nat)  (a0 : Nat) (a1 : Int32) (mm : Mm) : Option (Int32 × Mm) :=
  bd2 (fX11_rowOf N a0 a1 mm) fun x8 m9 => cs x8 (some ((-1), m9)) (fun z11 => bd2 (fX11_isWrong N a0 z11 1 m9) fun x13 m14 => if x13 = 0 then (fX11_when_32 N N a0 z11 0 (-1) 0 m14) else (some ((-3), m14)))
abbrev rmX11_when : Room := { frames := 16, cells := 0, slots := 0, locals := 861 }
/-! HeavyFiles.rule(II)I -/
def fX11_rule (N : Nat)  (a0 : Nat) (a1 : Int32) (a2 : Int32) (mm : Mm) : Option (Int32 × Mm) :=
  bd2 (fX11_rowOf N a0 a2 mm) fun x1 m2 => if a1 < 0 then (some ((-1), m2)) else (if (6 : Int32) ≤ a1 then (some ((-1), m2)) else (cs x1 (some ((-1), m2)) (fun z6 => if (rd m2 (fr a0 2) 5) = 0 then (bd2 (fX11_refused N a0 4 m2) fun x18 m19 => some (x18, m19)) else (bd2 (fX2_layBy N (fr a0 11) (fr a0 2) a1 (rd m2 (fr a0 2) 7) m2) fun x9 m10 => bd2 (fX6_take N z6 (fr (fr a0 11) 0) (rd m10 (fr a0 2) 5) m10) fun x12 m13 => bd2 (fX6_total N z6 m13) fun x15 m16 => some (x15.toInt32, m16)))))
abbrev rmX11_rule : Room := { frames := 4, cells := 0, slots := 0, locals := 138 }
/-! HeavyFiles.note(II)I -/
def fX11_note (N : Nat)  (a0 : Nat) (a1 : Int32) (a2 : Int32) (mm : Mm) : Option (Int32 × Mm) :=
  bd2 (fX11_rowOf N a0 a1 mm) fun x1 m2 => cs x1 (some ((-1), m2)) (fun z4 => if a2 < 0 then (some ((-1), m2)) else (if a2 < (1 <<< ((rd m2 (fr a0 2) 5) &&& 31)) then (bd2 (fX11_isWrong N a0 z4 0 m2) fun x8 m9 => if x8 = 0 then (if (rd m9 (fr a0 2) 7) < 8 then (bd2 (fX0_write N (fr a0 2) (fr z4 0) a2 m9) fun x13 m14 => some ((rd m14 (fr a0 2) 7) - 1, m14)) else (some ((-2), m9))) else (some ((-3), m9))) else (some ((-1), m2))))
abbrev rmX11_note : Room := { frames := 5, cells := 0, slots := 0, locals := 165 }
/-! HeavyFiles.back(I)I -/
def fX11_back (N : Nat)  (a0 : Nat) (a1 : Int32) (mm : Mm) : Option (Int32 × Mm) :=
  if a1 < 0 then (some ((-1), mm)) else (if a1 ≤ (rd mm (fr a0 2) 7) then (nm (wr mm (fr a0 2) 7 a1) fun m3 => some ((rd mm (fr a0 2) 7) - a1, m3)) else (some ((-1), mm)))
abbrev rmX11_back : Room := { frames := 1, cells := 0, slots := 0, locals := 40 }
section W_files18
variable {p : Program} {l : Launch} {e : Env} {s : State} {m : MethodId} {args : Array Value} {below : List Frame} {meth : Method} {c : Code} {D : va_G} {ca ad : Nat → Nat}
set_option maxRecDepth 100000 in
set_option maxHeartbeats 4000000 in
theorem wX11_worthOf_0 (C : Cx p s m meth c args cX11_worthOf 2 (some .int) RX11 D ca ad) {res : Int32 × Mm} {N : Nat}  {a0 : Nat} {a1 : Int32} {mm : Mm} {H : Heap} {locs : List Loc} {ls : Array Slot} (ha0 : sX11 a0) (hW : Wd D ca ad s.heap mm H locs) (hl : lv_has ls 2 [(0, .ref (ad a0)), (1, .int a1)]) (hf : fX11_worthOf N a0 a1 mm = some res) : W p l e (rmX11_worthOf) s m args below meth c H locs 0 0 (MQ below (QI D ca ad res) args s 0 0 (AA ad)) (F0 m 0 ls []) := by
  unfold fX11_worthOf at hf
  refine lv_aload_n C.1 C.2.1 dX11_worthOf_0 rfl (lv_at hl 0 rfl) ?_
  refine x_getr C hW (ha0).1 (ha0).2.1 (j := 7) rfl kX11 (by decide) rfl q_316 dX11_worthOf_1 ?_
  refine lv_aload_n C.1 C.2.1 dX11_worthOf_4 rfl (lv_at hl 0 rfl) ?_
  refine x_getr C hW (ha0).1 (ha0).2.1 (j := 2) rfl kX11 (by decide) rfl q_311 dX11_worthOf_5 ?_
  refine lv_iload_n C.1 C.2.1 dX11_worthOf_8 rfl (lv_at hl 1 rfl) ?_
  obtain ⟨x1, m2, r3, hf⟩ := bd2_s hf
  refine x_ci hW (x_runV C hW [.int a1] [.ref (ad (fr a0 7))] (ha0.2.2.2.2.1).1 (ha0.2.2.2.2.1).2.1 kX0.1 kvX0_stockWith q_804 (tX0_stockWith l C.2.2.2.2.2.2.1 ha0.2.2.2.2.1 r3) rfl rfl ⟨by decide, by decide⟩ rfl hl.1 rfl (Nat.le_of_ble_eq_true rfl) dX11_worthOf_9) (fun H locs hW => ?_)
  obtain ⟨x4, m5, r6, hf⟩ := bd2_s hf
  refine x_ci hW (x_runV C hW [.int x1] [] (ha0.2.2.2.2.2.2.2.2.2.1).1 (ha0.2.2.2.2.2.2.2.2.2.1).2.1 kX8.1 kvX8_mostBy q_659 (tX8_mostBy l C.2.2.2.2.2.2.1 ha0.2.2.2.2.2.2.2.2.2.1 r6) rfl rfl ⟨by decide, by decide⟩ rfl hl.1 rfl (Nat.le_of_ble_eq_true rfl) dX11_worthOf_12) (fun H locs hW => ?_)
  refine lv_aload_n C.1 C.2.1 dX11_worthOf_15 rfl (lv_at hl 0 rfl) ?_
  refine x_getr C hW (ha0).1 (ha0).2.1 (j := 7) rfl kX11 (by decide) rfl q_316 dX11_worthOf_16 ?_
  refine lv_aload_n C.1 C.2.1 dX11_worthOf_19 rfl (lv_at hl 0 rfl) ?_
  refine x_getr C hW (ha0).1 (ha0).2.1 (j := 2) rfl kX11 (by decide) rfl q_311 dX11_worthOf_20 ?_
  refine x_getr C hW (ha0.2.2.2.2.1).1 (ha0.2.2.2.2.1).2.1 (j := 1) rfl kX0 (by decide) rfl q_63 dX11_worthOf_23 ?_
  refine lv_iconst (v := 0) C.1 C.2.1 dX11_worthOf_26 (by decide) ?_
  obtain ⟨g7, hf⟩ := gd_s hf
  refine x_iald C hW ha0.2.2.2.2.1.2.2.2.1 g7 dX11_worthOf_27 ?_
  obtain ⟨x8, m9, r10, hf⟩ := bd2_s hf
  refine x_ci hW (x_runV C hW [.int (rd m5 (fr (fr a0 2) 1) ((0 : Int32).toNatClampNeg))] [.int x4] (ha0.2.2.2.2.2.2.2.2.2.1).1 (ha0.2.2.2.2.2.2.2.2.2.1).2.1 kX8.1 kvX8_mostBy q_659 (tX8_mostBy l C.2.2.2.2.2.2.1 ha0.2.2.2.2.2.2.2.2.2.1 r10) rfl rfl ⟨by decide, by decide⟩ rfl hl.1 rfl (Nat.le_of_ble_eq_true rfl) dX11_worthOf_28) (fun H locs hW => ?_)
  refine lv_isub C.1 C.2.1 dX11_worthOf_31 ?_
  cases hf
  exact x_iret C hW dX11_worthOf_32
set_option maxRecDepth 100000 in
set_option maxHeartbeats 4000000 in
theorem tX11_worthOf (l : Launch) {D : va_G} {ca ad : Nat → Nat} (hi : Inj ad) {N : Nat} {a0 : Nat} {a1 : Int32} {mm : Mm} {res : Int32 × Mm} (ha0 : sX11 a0) (hf : fX11_worthOf N a0 a1 mm = some res) : Met l yX11_worthOf (WS yX11_worthOf cX11_worthOf 2 (some .int)) (rmX11_worthOf) (va_Pc [.ref (ad a0), .int a1] (WB D ca ad mm)) (QI D ca ad res) 0 0 (AA ad) := by
  refine x_start hi (by decide) rfl (Nat.le_of_ble_eq_true rfl) (fun p e s m args below meth c ls C hW hl => ?_)
  exact wX11_worthOf_0 C ha0 hW (lv_sub hl [0, 1] rfl) hf
set_option maxRecDepth 100000 in
set_option maxHeartbeats 4000000 in
theorem wX11_lend_0 (C : Cx p s m meth c args cX11_lend 4 (some .int) RX11 D ca ad) {res : Int32 × Mm} {N : Nat}  {a0 : Nat} {a1 : Int32} {a2 : Int32} {mm : Mm} {H : Heap} {locs : List Loc} {ls : Array Slot} (ha0 : sX11 a0) (hW : Wd D ca ad s.heap mm H locs) (hl : lv_has ls 4 [(0, .ref (ad a0)), (1, .int a1), (2, .int a2)]) (hf : fX11_lend N a0 a1 a2 mm = some res) : W p l e (rmX11_lend) s m args below meth c H locs 0 0 (MQ below (QI D ca ad res) args s 0 0 (AA ad)) (F0 m 0 ls []) := by
  unfold fX11_lend at hf
  refine lv_aload_n C.1 C.2.1 dX11_lend_0 rfl (lv_at hl 0 rfl) ?_
  refine lv_iload_n C.1 C.2.1 dX11_lend_1 rfl (lv_at hl 2 rfl) ?_
  obtain ⟨x1, m2, r3, hf⟩ := bd2_s hf
  refine x_cr hW (x_runV C hW [.int a2] [] (ha0).1 (ha0).2.1 kX11.1 kvX11_rowOf q_365 (tX11_rowOf l C.2.2.2.2.2.2.1 ha0 r3) rfl rfl ⟨by decide, by decide⟩ rfl hl.1 rfl (Nat.le_of_ble_eq_true rfl) dX11_lend_2) (fun H locs hW => ?_)
  refine x_astore_n (lv' := [(3, va_re ad x1), (0, .ref (ad a0)), (1, .int a1), (2, .int a2)]) C dX11_lend_5 rfl hl (by decide) rfl (fun ls hl => ?_)
  refine lv_iload_n C.1 C.2.1 dX11_lend_6 rfl (lv_at hl 2 rfl) ?_
  refine lv_if_lt (tgt := 20) C.1 C.2.1 dX11_lend_7 (by decide) (fun c4 => ?_) (fun c4 => ?_)
  · have hf := if_t c4 hf
    refine lv_iconst (v := (-1)) C.1 C.2.1 dX11_lend_20 (by decide) ?_
    cases hf
    exact x_iret C hW dX11_lend_21
  · have hf := if_f c4 hf
    refine lv_iload_n C.1 C.2.1 dX11_lend_10 rfl (lv_at hl 2 rfl) ?_
    refine lv_bipush (v := 15) C.1 C.2.1 dX11_lend_11 (by decide) ?_
    refine lv_icmp_gt (tgt := 20) C.1 C.2.1 dX11_lend_13 (by decide) (fun c5 => ?_) (fun c5 => ?_)
    · have hf := if_t c5 hf
      refine lv_iconst (v := (-1)) C.1 C.2.1 dX11_lend_20 (by decide) ?_
      cases hf
      exact x_iret C hW dX11_lend_21
    · have hf := if_f c5 hf
      refine x_aload_n C dX11_lend_16 rfl (lv_at hl 0 rfl) ?_
      refine x_ifnonnull C (tgt := 22) dX11_lend_17 (by decide) (fun n7 => ?_) (fun z6 n7 => ?_)
      · subst n7
        have hf := cs_n hf
        refine lv_iconst (v := (-1)) C.1 C.2.1 dX11_lend_20 (by decide) ?_
        cases hf
        exact x_iret C hW dX11_lend_21
      · subst n7
        have hf := cs_q hf
        refine lv_aload_n C.1 C.2.1 dX11_lend_22 rfl (lv_at hl 1 rfl) ?_
        refine lv_aload_n C.1 C.2.1 dX11_lend_23 rfl (lv_at hl 0 rfl) ?_
        refine lv_iconst (v := 1) C.1 C.2.1 dX11_lend_24 (by decide) ?_
        obtain ⟨x8, m9, r10, hf⟩ := bd2_s hf
        refine x_ci hW (x_runV C hW [.ref (ad z6), .int 1] [] (ha0).1 (ha0).2.1 kX11.1 kvX11_isWrong q_605 (tX11_isWrong l C.2.2.2.2.2.2.1 ha0 ((gX11_rowOf ha0 r3) z6 rfl) r10) rfl rfl ⟨by decide, by decide⟩ rfl hl.1 rfl (Nat.le_of_ble_eq_true rfl) dX11_lend_25) (fun H locs hW => ?_)
        refine lv_if_eq (tgt := 34) C.1 C.2.1 dX11_lend_28 (by decide) (fun c11 => ?_) (fun c11 => ?_)
        · have hf := if_t c11 hf
          refine lv_aload_n C.1 C.2.1 dX11_lend_34 rfl (lv_at hl 1 rfl) ?_
          refine x_getr C hW (ha0).1 (ha0).2.1 (j := 2) rfl kX11 (by decide) rfl q_311 dX11_lend_35 ?_
          refine lv_iload_n C.1 C.2.1 dX11_lend_38 rfl (lv_at hl 2 rfl) ?_
          obtain ⟨x12, m13, r14, hf⟩ := bd2_s hf
          refine x_ci hW (x_runV C hW [.int a1] [] (ha0.2.2.2.2.1).1 (ha0.2.2.2.2.1).2.1 kX0.1 kvX0_stockWith q_804 (tX0_stockWith l C.2.2.2.2.2.2.1 ha0.2.2.2.2.1 r14) rfl rfl ⟨by decide, by decide⟩ rfl hl.1 rfl (Nat.le_of_ble_eq_true rfl) dX11_lend_39) (fun H locs hW => ?_)
          refine lv_bipush (v := 40) C.1 C.2.1 dX11_lend_42 (by decide) ?_
          refine lv_icmp_le (tgt := 50) C.1 C.2.1 dX11_lend_44 (by decide) (fun c15 => ?_) (fun c15 => ?_)
          · have hf := if_t c15 hf
            refine lv_aload_n C.1 C.2.1 dX11_lend_50 rfl (lv_at hl 1 rfl) ?_
            refine x_getr C hW (ha0).1 (ha0).2.1 (j := 7) rfl kX11 (by decide) rfl q_316 dX11_lend_51 ?_
            refine lv_aload_n C.1 C.2.1 dX11_lend_54 rfl (lv_at hl 1 rfl) ?_
            refine x_getr C hW (ha0).1 (ha0).2.1 (j := 2) rfl kX11 (by decide) rfl q_311 dX11_lend_55 ?_
            refine lv_aload_n C.1 C.2.1 dX11_lend_58 rfl (lv_at hl 1 rfl) ?_
            refine x_getr C hW (ha0).1 (ha0).2.1 (j := 2) rfl kX11 (by decide) rfl q_311 dX11_lend_59 ?_
            refine x_geti C hW (ha0.2.2.2.2.1).1 (ha0.2.2.2.2.1).2.1 (j := 6) rfl kX0 (by decide) rfl q_78 dX11_lend_62 ?_
            refine lv_aload_n C.1 C.2.1 dX11_lend_65 rfl (lv_at hl 0 rfl) ?_
            refine x_getr C hW (((gX11_rowOf ha0 r3) z6 rfl)).1 (((gX11_rowOf ha0 r3) z6 rfl)).2.1 (j := 0) rfl kX6 (by decide) rfl q_300 dX11_lend_66 ?_
            refine lv_bipush (v := 40) C.1 C.2.1 dX11_lend_69 (by decide) ?_
            obtain ⟨x16, m17, r18, hf⟩ := bd2_s hf
            refine x_cv hW (x_runV C hW [.ref (ad (fr a0 2)), .int (rd m13 (fr a0 2) 6), .ref (ad (fr z6 0)), .int 40] [] (ha0.2.2.2.2.2.2.2.2.2.1).1 (ha0.2.2.2.2.2.2.2.2.2.1).2.1 kX8.1 kvX8_run q_609 (tX8_run l C.2.2.2.2.2.2.1 ha0.2.2.2.2.2.2.2.2.2.1 ha0.2.2.2.2.1 (((gX11_rowOf ha0 r3) z6 rfl).2.2) r18) rfl rfl ⟨by decide, by decide⟩ rfl hl.1 rfl (Nat.le_of_ble_eq_true rfl) dX11_lend_71) (fun H locs hW => ?_)
            refine lv_aload_n C.1 C.2.1 dX11_lend_74 rfl (lv_at hl 1 rfl) ?_
            refine lv_iload_n C.1 C.2.1 dX11_lend_75 rfl (lv_at hl 2 rfl) ?_
            obtain ⟨x19, m20, r21, hf⟩ := bd2_s hf
            refine x_ci hW (x_runV C hW [.int a1] [] (ha0).1 (ha0).2.1 kX11.1 kvX11_worthOf q_808 (tX11_worthOf l C.2.2.2.2.2.2.1 ha0 r21) rfl rfl ⟨by decide, by decide⟩ rfl hl.1 rfl (Nat.le_of_ble_eq_true rfl) dX11_lend_76) (fun H locs hW => ?_)
            cases hf
            exact x_iret C hW dX11_lend_79
          · have hf := if_f c15 hf
            refine lv_bipush (v := (-6)) C.1 C.2.1 dX11_lend_47 (by decide) ?_
            cases hf
            exact x_iret C hW dX11_lend_49
        · have hf := if_f c11 hf
          refine lv_bipush (v := (-3)) C.1 C.2.1 dX11_lend_31 (by decide) ?_
          cases hf
          exact x_iret C hW dX11_lend_33
set_option maxRecDepth 100000 in
set_option maxHeartbeats 4000000 in
theorem tX11_lend (l : Launch) {D : va_G} {ca ad : Nat → Nat} (hi : Inj ad) {N : Nat} {a0 : Nat} {a1 : Int32} {a2 : Int32} {mm : Mm} {res : Int32 × Mm} (ha0 : sX11 a0) (hf : fX11_lend N a0 a1 a2 mm = some res) : Met l yX11_lend (WS yX11_lend cX11_lend 4 (some .int)) (rmX11_lend) (va_Pc [.ref (ad a0), .int a1, .int a2] (WB D ca ad mm)) (QI D ca ad res) 0 0 (AA ad) := by
  refine x_start hi (by decide) rfl (Nat.le_of_ble_eq_true rfl) (fun p e s m args below meth c ls C hW hl => ?_)
  exact wX11_lend_0 C ha0 hW (lv_sub hl [0, 1, 2] rfl) hf
set_option maxRecDepth 100000 in
set_option maxHeartbeats 4000000 in
theorem wX11_areWrong_80 (C : Cx p s m meth c args cX11_areWrong 5 (some .boolean) RX11 D ca ad) {res : Int32 × Mm} {N : Nat}  {s0 : Nat} {s1 : Int32} {s2 : Int32} {s3 : Int32} {mm : Mm} {H : Heap} {locs : List Loc} {ls : Array Slot} (hs0 : sX11 s0) (hW : Wd D ca ad s.heap mm H locs) (hl : lv_has ls 5 []) (hf : fX11_areWrong_80 N s0 s1 s2 s3 mm = some res) : W p l e (rmX11_areWrong) s m args below meth c H locs 0 0 (MQ below (QI D ca ad res) args s 0 0 (AA ad)) (F0 m 80 ls [.int s3, .int s2, .int s1, .ref (ad s0)]) := by
  unfold fX11_areWrong_80 at hf
  obtain ⟨x1, m2, r3, hf⟩ := bd2_s hf
  refine x_ci hW (x_runV C hW [.int s1, .int s2, .int s3] [] (hs0).1 (hs0).2.1 kX11.1 kvX11_isRefused q_562 (tX11_isRefused l C.2.2.2.2.2.2.1 hs0 r3) rfl rfl ⟨by decide, by decide⟩ rfl hl.1 rfl (Nat.le_of_ble_eq_true rfl) dX11_areWrong_80) (fun H locs hW => ?_)
  obtain ⟨g4, hf⟩ := gd_s hf
  cases hf
  exact x_zret C hW (of_decide_eq_true g4) dX11_areWrong_83
set_option maxRecDepth 100000 in
set_option maxHeartbeats 4000000 in
theorem wX11_areWrong_79 (C : Cx p s m meth c args cX11_areWrong 5 (some .boolean) RX11 D ca ad) {res : Int32 × Mm} {N : Nat}  {s0 : Nat} {s1 : Int32} {s2 : Int32} {mm : Mm} {H : Heap} {locs : List Loc} {ls : Array Slot} (hs0 : sX11 s0) (hW : Wd D ca ad s.heap mm H locs) (hl : lv_has ls 5 []) (hf : fX11_areWrong_79 N s0 s1 s2 mm = some res) : W p l e (rmX11_areWrong) s m args below meth c H locs 0 0 (MQ below (QI D ca ad res) args s 0 0 (AA ad)) (F0 m 79 ls [.int s2, .int s1, .ref (ad s0)]) := by
  unfold fX11_areWrong_79 at hf
  refine lv_iconst (v := 0) C.1 C.2.1 dX11_areWrong_79 (by decide) ?_
  exact wX11_areWrong_80 C  hs0 hW (lv_sub hl [] rfl) hf
set_option maxRecDepth 100000 in
set_option maxHeartbeats 4000000 in
theorem wX11_areWrong_47 (C : Cx p s m meth c args cX11_areWrong 5 (some .boolean) RX11 D ca ad) {res : Int32 × Mm} {N : Nat}  {a0 : Nat} {a1 : Nat} {a2 : Nat} {a3 : Int32} {s0 : Int32} {mm : Mm} {H : Heap} {locs : List Loc} {ls : Array Slot} (ha0 : sX11 a0) (ha1 : sX6 a1) (ha2 : sX6 a2) (hW : Wd D ca ad s.heap mm H locs) (hl : lv_has ls 5 [(0, .ref (ad a0)), (1, .ref (ad a1)), (2, .ref (ad a2)), (3, .int a3)]) (hf : fX11_areWrong_47 N a0 a1 a2 a3 s0 mm = some res) : W p l e (rmX11_areWrong) s m args below meth c H locs 0 0 (MQ below (QI D ca ad res) args s 0 0 (AA ad)) (F0 m 47 ls [.int s0]) := by
  unfold fX11_areWrong_47 at hf
  refine lv_istore (lv' := [(4, .int s0), (0, .ref (ad a0)), (1, .ref (ad a1)), (2, .ref (ad a2)), (3, .int a3)]) C.1 C.2.1 dX11_areWrong_47 hl (by decide) rfl (fun ls hl => ?_)
  refine lv_aload_n C.1 C.2.1 dX11_areWrong_49 rfl (lv_at hl 1 rfl) ?_
  refine lv_iload_n C.1 C.2.1 dX11_areWrong_50 rfl (lv_at hl 4 rfl) ?_
  refine lv_iload C.1 C.2.1 dX11_areWrong_51 (lv_at hl 0 rfl) ?_
  refine lv_aload_n C.1 C.2.1 dX11_areWrong_53 rfl (lv_at hl 1 rfl) ?_
  refine x_getr C hW (ha0).1 (ha0).2.1 (j := 2) rfl kX11 (by decide) rfl q_311 dX11_areWrong_54 ?_
  refine lv_aload_n C.1 C.2.1 dX11_areWrong_57 rfl (lv_at hl 2 rfl) ?_
  refine lv_iconst (v := 1) C.1 C.2.1 dX11_areWrong_58 (by decide) ?_
  obtain ⟨x5, m6, r7, hf⟩ := bd2_s hf
  refine x_ci hW (x_runV C hW [.ref (ad a1), .int 1] [.int s0, .int a3, .ref (ad a0)] (ha0.2.2.2.2.1).1 (ha0.2.2.2.2.1).2.1 kX0.1 kvX0_allows q_553 (tX0_allows l C.2.2.2.2.2.2.1 ha0.2.2.2.2.1 ha1 r7) rfl rfl ⟨by decide, by decide⟩ rfl hl.1 rfl (Nat.le_of_ble_eq_true rfl) dX11_areWrong_59) (fun H locs hW => ?_)
  refine lv_if_eq (tgt := 79) C.1 C.2.1 dX11_areWrong_62 (by decide) (fun c8 => ?_) (fun c8 => ?_)
  · have hf := if_t c8 hf
    exact wX11_areWrong_79 C  ha0 hW (lv_sub hl [] rfl) hf
  · have hf := if_f c8 hf
    refine lv_aload_n C.1 C.2.1 dX11_areWrong_65 rfl (lv_at hl 3 rfl) ?_
    refine lv_sipush (v := 999) C.1 C.2.1 dX11_areWrong_66 (by decide) ?_
    obtain ⟨x9, m10, r11, hf⟩ := bd2_s hf
    refine x_ci hW (x_runV C hW [.int 999] [.int s0, .int a3, .ref (ad a0)] (ha2).1 (ha2).2.1 kX6.1 kvX6_isWithin q_820 (tX6_isWithin l C.2.2.2.2.2.2.1 ha2 r11) rfl rfl ⟨by decide, by decide⟩ rfl hl.1 rfl (Nat.le_of_ble_eq_true rfl) dX11_areWrong_69) (fun H locs hW => ?_)
    refine lv_if_eq (tgt := 79) C.1 C.2.1 dX11_areWrong_72 (by decide) (fun c12 => ?_) (fun c12 => ?_)
    · have hf := if_t c12 hf
      exact wX11_areWrong_79 C  ha0 hW (lv_sub hl [] rfl) hf
    · have hf := if_f c12 hf
      refine lv_iconst (v := 1) C.1 C.2.1 dX11_areWrong_75 (by decide) ?_
      refine lv_goto (tgt := 80) C.1 C.2.1 dX11_areWrong_76 (by decide) ?_
      exact wX11_areWrong_80 C  ha0 hW (lv_sub hl [] rfl) hf
set_option maxRecDepth 100000 in
set_option maxHeartbeats 4000000 in
theorem wX11_areWrong_46 (C : Cx p s m meth c args cX11_areWrong 5 (some .boolean) RX11 D ca ad) {res : Int32 × Mm} {N : Nat}  {a0 : Nat} {a1 : Nat} {a2 : Nat} {a3 : Int32} {mm : Mm} {H : Heap} {locs : List Loc} {ls : Array Slot} (ha0 : sX11 a0) (ha1 : sX6 a1) (ha2 : sX6 a2) (hW : Wd D ca ad s.heap mm H locs) (hl : lv_has ls 5 [(0, .ref (ad a0)), (1, .ref (ad a1)), (2, .ref (ad a2)), (3, .int a3)]) (hf : fX11_areWrong_46 N a0 a1 a2 a3 mm = some res) : W p l e (rmX11_areWrong) s m args below meth c H locs 0 0 (MQ below (QI D ca ad res) args s 0 0 (AA ad)) (F0 m 46 ls []) := by
  unfold fX11_areWrong_46 at hf
  refine lv_iconst (v := 0) C.1 C.2.1 dX11_areWrong_46 (by decide) ?_
  exact wX11_areWrong_47 C  ha0 ha1 ha2 hW (lv_sub hl [0, 1, 2, 3] rfl) hf
set_option maxRecDepth 100000 in
set_option maxHeartbeats 4000000 in
theorem wX11_areWrong_19 (C : Cx p s m meth c args cX11_areWrong 5 (some .boolean) RX11 D ca ad) {res : Int32 × Mm} {N : Nat}  {a0 : Nat} {a1 : Nat} {a2 : Nat} {s0 : Int32} {mm : Mm} {H : Heap} {locs : List Loc} {ls : Array Slot} (ha0 : sX11 a0) (ha1 : sX6 a1) (ha2 : sX6 a2) (hW : Wd D ca ad s.heap mm H locs) (hl : lv_has ls 5 [(0, .ref (ad a0)), (1, .ref (ad a1)), (2, .ref (ad a2))]) (hf : fX11_areWrong_19 N a0 a1 a2 s0 mm = some res) : W p l e (rmX11_areWrong) s m args below meth c H locs 0 0 (MQ below (QI D ca ad res) args s 0 0 (AA ad)) (F0 m 19 ls [.int s0]) := by
  unfold fX11_areWrong_19 at hf
  refine lv_istore_n (lv' := [(3, .int s0), (0, .ref (ad a0)), (1, .ref (ad a1)), (2, .ref (ad a2))]) C.1 C.2.1 dX11_areWrong_19 rfl hl (by decide) rfl (fun ls hl => ?_)
  refine lv_aload_n C.1 C.2.1 dX11_areWrong_20 rfl (lv_at hl 2 rfl) ?_
  refine x_geti C hW (ha1).1 (ha1).2.1 (j := 1) rfl kX6 (by decide) rfl q_303 dX11_areWrong_21 ?_
  refine lv_aload_n C.1 C.2.1 dX11_areWrong_24 rfl (lv_at hl 1 rfl) ?_
  refine x_getr C hW (ha0).1 (ha0).2.1 (j := 2) rfl kX11 (by decide) rfl q_311 dX11_areWrong_25 ?_
  refine x_geti C hW (ha0.2.2.2.2.1).1 (ha0.2.2.2.2.1).2.1 (j := 5) rfl kX0 (by decide) rfl q_73 dX11_areWrong_28 ?_
  refine lv_icmp_ne (tgt := 46) C.1 C.2.1 dX11_areWrong_31 (by decide) (fun c13 => ?_) (fun c13 => ?_)
  · have hf := if_f c13 hf
    exact wX11_areWrong_46 C  ha0 ha1 ha2 hW (lv_sub hl [1, 2, 3, 0] rfl) hf
  · have hf := if_t c13 hf
    refine lv_aload_n C.1 C.2.1 dX11_areWrong_34 rfl (lv_at hl 3 rfl) ?_
    refine x_geti C hW (ha2).1 (ha2).2.1 (j := 1) rfl kX6 (by decide) rfl q_303 dX11_areWrong_35 ?_
    refine lv_iconst (v := 4) C.1 C.2.1 dX11_areWrong_38 (by decide) ?_
    refine lv_icmp_ne (tgt := 46) C.1 C.2.1 dX11_areWrong_39 (by decide) (fun c14 => ?_) (fun c14 => ?_)
    · have hf := if_f c14 hf
      exact wX11_areWrong_46 C  ha0 ha1 ha2 hW (lv_sub hl [1, 2, 3, 0] rfl) hf
    · have hf := if_t c14 hf
      refine lv_iconst (v := 1) C.1 C.2.1 dX11_areWrong_42 (by decide) ?_
      refine lv_goto (tgt := 47) C.1 C.2.1 dX11_areWrong_43 (by decide) ?_
      exact wX11_areWrong_47 C  ha0 ha1 ha2 hW (lv_sub hl [1, 2, 3, 0] rfl) hf
set_option maxRecDepth 100000 in
set_option maxHeartbeats 4000000 in
theorem wX11_areWrong_18 (C : Cx p s m meth c args cX11_areWrong 5 (some .boolean) RX11 D ca ad) {res : Int32 × Mm} {N : Nat}  {a0 : Nat} {a1 : Nat} {a2 : Nat} {mm : Mm} {H : Heap} {locs : List Loc} {ls : Array Slot} (ha0 : sX11 a0) (ha1 : sX6 a1) (ha2 : sX6 a2) (hW : Wd D ca ad s.heap mm H locs) (hl : lv_has ls 5 [(0, .ref (ad a0)), (1, .ref (ad a1)), (2, .ref (ad a2))]) (hf : fX11_areWrong_18 N a0 a1 a2 mm = some res) : W p l e (rmX11_areWrong) s m args below meth c H locs 0 0 (MQ below (QI D ca ad res) args s 0 0 (AA ad)) (F0 m 18 ls []) := by
  unfold fX11_areWrong_18 at hf
  refine lv_iconst (v := 0) C.1 C.2.1 dX11_areWrong_18 (by decide) ?_
  exact wX11_areWrong_19 C  ha0 ha1 ha2 hW (lv_sub hl [0, 1, 2] rfl) hf
set_option maxRecDepth 100000 in
set_option maxHeartbeats 4000000 in
theorem wX11_areWrong_0 (C : Cx p s m meth c args cX11_areWrong 5 (some .boolean) RX11 D ca ad) {res : Int32 × Mm} {N : Nat}  {a0 : Nat} {a1 : Nat} {a2 : Nat} {mm : Mm} {H : Heap} {locs : List Loc} {ls : Array Slot} (ha0 : sX11 a0) (ha1 : sX6 a1) (ha2 : sX6 a2) (hW : Wd D ca ad s.heap mm H locs) (hl : lv_has ls 5 [(0, .ref (ad a0)), (1, .ref (ad a1)), (2, .ref (ad a2))]) (hf : fX11_areWrong N a0 a1 a2 mm = some res) : W p l e (rmX11_areWrong) s m args below meth c H locs 0 0 (MQ below (QI D ca ad res) args s 0 0 (AA ad)) (F0 m 0 ls []) := by
  unfold fX11_areWrong at hf
  refine lv_aload_n C.1 C.2.1 dX11_areWrong_0 rfl (lv_at hl 1 rfl) ?_
  obtain ⟨x15, m16, r17, hf⟩ := bd2_s hf
  refine x_ci hW (x_runV C hW [] [] (ha1).1 (ha1).2.1 kX6.1 kvX6_isMissing q_384 (tX6_isMissing l C.2.2.2.2.2.2.1 ha1 r17) rfl rfl ⟨by decide, by decide⟩ rfl hl.1 rfl (Nat.le_of_ble_eq_true rfl) dX11_areWrong_1) (fun H locs hW => ?_)
  refine lv_if_ne (tgt := 18) C.1 C.2.1 dX11_areWrong_4 (by decide) (fun c18 => ?_) (fun c18 => ?_)
  · have hf := if_f c18 hf
    exact wX11_areWrong_18 C  ha0 ha1 ha2 hW (lv_sub hl [0, 1, 2] rfl) hf
  · have hf := if_t c18 hf
    refine lv_aload_n C.1 C.2.1 dX11_areWrong_7 rfl (lv_at hl 2 rfl) ?_
    obtain ⟨x19, m20, r21, hf⟩ := bd2_s hf
    refine x_ci hW (x_runV C hW [] [] (ha2).1 (ha2).2.1 kX6.1 kvX6_isMissing q_384 (tX6_isMissing l C.2.2.2.2.2.2.1 ha2 r21) rfl rfl ⟨by decide, by decide⟩ rfl hl.1 rfl (Nat.le_of_ble_eq_true rfl) dX11_areWrong_8) (fun H locs hW => ?_)
    refine lv_if_ne (tgt := 18) C.1 C.2.1 dX11_areWrong_11 (by decide) (fun c22 => ?_) (fun c22 => ?_)
    · have hf := if_f c22 hf
      exact wX11_areWrong_18 C  ha0 ha1 ha2 hW (lv_sub hl [0, 1, 2] rfl) hf
    · have hf := if_t c22 hf
      refine lv_iconst (v := 1) C.1 C.2.1 dX11_areWrong_14 (by decide) ?_
      refine lv_goto (tgt := 19) C.1 C.2.1 dX11_areWrong_15 (by decide) ?_
      exact wX11_areWrong_19 C  ha0 ha1 ha2 hW (lv_sub hl [0, 1, 2] rfl) hf
set_option maxRecDepth 100000 in
set_option maxHeartbeats 4000000 in
theorem tX11_areWrong (l : Launch) {D : va_G} {ca ad : Nat → Nat} (hi : Inj ad) {N : Nat} {a0 : Nat} {a1 : Nat} {a2 : Nat} {mm : Mm} {res : Int32 × Mm} (ha0 : sX11 a0) (ha1 : sX6 a1) (ha2 : sX6 a2) (hf : fX11_areWrong N a0 a1 a2 mm = some res) : Met l yX11_areWrong (WS yX11_areWrong cX11_areWrong 5 (some .boolean)) (rmX11_areWrong) (va_Pc [.ref (ad a0), .ref (ad a1), .ref (ad a2)] (WB D ca ad mm)) (QI D ca ad res) 0 0 (AA ad) := by
  refine x_start hi (by decide) rfl (Nat.le_of_ble_eq_true rfl) (fun p e s m args below meth c ls C hW hl => ?_)
  exact wX11_areWrong_0 C ha0 ha1 ha2 hW (lv_sub hl [0, 1, 2] rfl) hf
set_option maxRecDepth 100000 in
set_option maxHeartbeats 4000000 in
theorem wX11_shareOf_26 (C : Cx p s m meth c args cX11_shareOf 4 (some .int) RX11 D ca ad) {res : Int32 × Mm} {N : Nat} {k4 : Nat → Int32 → Int32 → Int32 → Mm → Option (Int32 × Mm)} (hk4 : ∀ (a0 : Nat) (a1 : Int32) (a2 : Int32) (a3 : Int32) (mm : Mm) (H : Heap) (locs : List Loc) (ls : Array Slot), (sX6 a0) → Wd D ca ad s.heap mm H locs → lv_has ls 4 [(0, .ref (ad a0)), (1, .int a1), (2, .int a2), (3, .int a3)] → k4 a0 a1 a2 a3 mm = some res → W p l e (rmX11_shareOf) s m args below meth c H locs 0 0 (MQ below (QI D ca ad res) args s 0 0 (AA ad)) (F0 m 4 ls [])) {a0 : Nat} {a1 : Int32} {a2 : Int32} {a3 : Int32} {mm : Mm} {H : Heap} {locs : List Loc} {ls : Array Slot} (ha0 : sX6 a0) (hW : Wd D ca ad s.heap mm H locs) (hl : lv_has ls 4 [(0, .ref (ad a0)), (1, .int a1), (2, .int a2), (3, .int a3)]) (hf : fX11_shareOf_26 N k4 a0 a1 a2 a3 mm = some res) : W p l e (rmX11_shareOf) s m args below meth c H locs 0 0 (MQ below (QI D ca ad res) args s 0 0 (AA ad)) (F0 m 26 ls []) := by
  unfold fX11_shareOf_26 at hf
  refine lv_iinc (v := (a3 + 1)) (lv' := [(3, .int (a3 + 1)), (0, .ref (ad a0)), (1, .int a1), (2, .int a2)]) C.1 C.2.1 dX11_shareOf_26 hl (k := 3) rfl rfl (by decide) rfl (fun ls hl => ?_)
  refine lv_goto (tgt := 4) C.1 C.2.1 dX11_shareOf_29 (by decide) ?_
  exact hk4 _ _ _ _ _ _ _ _ ha0 hW (lv_sub hl [1, 2, 3, 0] rfl) hf
set_option maxRecDepth 100000 in
set_option maxHeartbeats 4000000 in
theorem wX11_shareOf_4 (C : Cx p s m meth c args cX11_shareOf 4 (some .int) RX11 D ca ad) {res : Int32 × Mm} {N : Nat}  : ∀ (n : Nat) {a0 : Nat} {a1 : Int32} {a2 : Int32} {a3 : Int32} {mm : Mm} {H : Heap} {locs : List Loc} {ls : Array Slot}, (sX6 a0) → Wd D ca ad s.heap mm H locs → lv_has ls 4 [(0, .ref (ad a0)), (1, .int a1), (2, .int a2), (3, .int a3)] → fX11_shareOf_4 N n a0 a1 a2 a3 mm = some res → W p l e (rmX11_shareOf) s m args below meth c H locs 0 0 (MQ below (QI D ca ad res) args s 0 0 (AA ad)) (F0 m 4 ls []) := by
  intro n
  induction n with
  | zero => intro a0 a1 a2 a3 mm H locs ls ha0 hW hl hf; cases hf
  | succ n ih =>
    intro a0 a1 a2 a3 mm H locs ls ha0 hW hl hf
    have hk4 : ∀ (a0 : Nat) (a1 : Int32) (a2 : Int32) (a3 : Int32) (mm : Mm) (H : Heap) (locs : List Loc) (ls : Array Slot), (sX6 a0) → Wd D ca ad s.heap mm H locs → lv_has ls 4 [(0, .ref (ad a0)), (1, .int a1), (2, .int a2), (3, .int a3)] → (fX11_shareOf_4 N n) a0 a1 a2 a3 mm = some res → W p l e (rmX11_shareOf) s m args below meth c H locs 0 0 (MQ below (QI D ca ad res) args s 0 0 (AA ad)) (F0 m 4 ls []) := fun a0 a1 a2 a3 mm H locs ls ha0 hW hl hf => ih ha0 hW hl hf
    unfold fX11_shareOf_4 at hf
    try dsimp only at hf
    refine lv_iload_n C.1 C.2.1 dX11_shareOf_4 rfl (lv_at hl 3 rfl) ?_
    refine lv_iconst (v := 4) C.1 C.2.1 dX11_shareOf_5 (by decide) ?_
    refine lv_icmp_ge (tgt := 32) C.1 C.2.1 dX11_shareOf_6 (by decide) (fun c1 => ?_) (fun c1 => ?_)
    · have hf := if_t c1 hf
      refine lv_iload_n C.1 C.2.1 dX11_shareOf_32 rfl (lv_at hl 2 rfl) ?_
      cases hf
      exact x_iret C hW dX11_shareOf_33
    · have hf := if_f c1 hf
      refine lv_iload_n C.1 C.2.1 dX11_shareOf_9 rfl (lv_at hl 1 rfl) ?_
      refine lv_iload_n C.1 C.2.1 dX11_shareOf_10 rfl (lv_at hl 3 rfl) ?_
      refine lv_ishr C.1 C.2.1 dX11_shareOf_11 ?_
      refine lv_iconst (v := 1) C.1 C.2.1 dX11_shareOf_12 (by decide) ?_
      refine lv_iand C.1 C.2.1 dX11_shareOf_13 ?_
      refine lv_if_eq (tgt := 26) C.1 C.2.1 dX11_shareOf_14 (by decide) (fun c2 => ?_) (fun c2 => ?_)
      · have hf := if_t c2 hf
        exact wX11_shareOf_26 C hk4 ha0 hW (lv_sub hl [0, 1, 2, 3] rfl) hf
      · have hf := if_f c2 hf
        refine lv_iload_n C.1 C.2.1 dX11_shareOf_17 rfl (lv_at hl 2 rfl) ?_
        refine lv_aload_n C.1 C.2.1 dX11_shareOf_18 rfl (lv_at hl 0 rfl) ?_
        refine x_getr C hW (ha0).1 (ha0).2.1 (j := 0) rfl kX6 (by decide) rfl q_300 dX11_shareOf_19 ?_
        refine lv_iload_n C.1 C.2.1 dX11_shareOf_22 rfl (lv_at hl 3 rfl) ?_
        obtain ⟨g3, hf⟩ := gd_s hf
        refine x_iald C hW ha0.2.2 g3 dX11_shareOf_23 ?_
        refine lv_iadd C.1 C.2.1 dX11_shareOf_24 ?_
        refine lv_topi (fun x4 ex4 => ?_)
        have hf := nm_s hf ex4
        refine lv_istore_n (lv' := [(2, .int x4), (0, .ref (ad a0)), (1, .int a1), (3, .int a3)]) C.1 C.2.1 dX11_shareOf_25 rfl hl (by decide) rfl (fun ls hl => ?_)
        exact wX11_shareOf_26 C hk4 ha0 hW (lv_sub hl [1, 2, 0, 3] rfl) hf
set_option maxRecDepth 100000 in
set_option maxHeartbeats 4000000 in
theorem wX11_shareOf_0 (C : Cx p s m meth c args cX11_shareOf 4 (some .int) RX11 D ca ad) {res : Int32 × Mm} {N : Nat}  {a0 : Nat} {a1 : Int32} {mm : Mm} {H : Heap} {locs : List Loc} {ls : Array Slot} (ha0 : sX6 a0) (hW : Wd D ca ad s.heap mm H locs) (hl : lv_has ls 4 [(0, .ref (ad a0)), (1, .int a1)]) (hf : fX11_shareOf N a0 a1 mm = some res) : W p l e (rmX11_shareOf) s m args below meth c H locs 0 0 (MQ below (QI D ca ad res) args s 0 0 (AA ad)) (F0 m 0 ls []) := by
  unfold fX11_shareOf at hf
  refine lv_iconst (v := 0) C.1 C.2.1 dX11_shareOf_0 (by decide) ?_
  refine lv_istore_n (lv' := [(2, .int 0), (0, .ref (ad a0)), (1, .int a1)]) C.1 C.2.1 dX11_shareOf_1 rfl hl (by decide) rfl (fun ls hl => ?_)
  refine lv_iconst (v := 0) C.1 C.2.1 dX11_shareOf_2 (by decide) ?_
  refine lv_istore_n (lv' := [(3, .int 0), (2, .int 0), (0, .ref (ad a0)), (1, .int a1)]) C.1 C.2.1 dX11_shareOf_3 rfl hl (by decide) rfl (fun ls hl => ?_)
  exact wX11_shareOf_4 C  N ha0 hW (lv_sub hl [2, 3, 1, 0] rfl) hf
set_option maxRecDepth 100000 in
set_option maxHeartbeats 4000000 in
theorem tX11_shareOf (l : Launch) {D : va_G} {ca ad : Nat → Nat} (hi : Inj ad) {N : Nat} {a0 : Nat} {a1 : Int32} {mm : Mm} {res : Int32 × Mm} (ha0 : sX6 a0) (hf : fX11_shareOf N a0 a1 mm = some res) : Met l yX11_shareOf (WS yX11_shareOf cX11_shareOf 4 (some .int)) (rmX11_shareOf) (va_Pc [.ref (ad a0), .int a1] (WB D ca ad mm)) (QI D ca ad res) 0 0 (AA ad) := by
  refine x_start hi (by decide) rfl (Nat.le_of_ble_eq_true rfl) (fun p e s m args below meth c ls C hW hl => ?_)
  exact wX11_shareOf_0 C ha0 hW (lv_sub hl [0, 1] rfl) hf
set_option maxRecDepth 100000 in
set_option maxHeartbeats 4000000 in
theorem wX11_leaves_81 (C : Cx p s m meth c args cX11_leaves 6 (some .int) RX11 D ca ad) {res : Int32 × Mm} {N : Nat}  : ∀ (n : Nat) {a0 : Nat} {a4 : Nat} {a5 : Int32} {mm : Mm} {H : Heap} {locs : List Loc} {ls : Array Slot}, (sX11 a0) → (sX6 a4) → Wd D ca ad s.heap mm H locs → lv_has ls 6 [(0, .ref (ad a0)), (4, .ref (ad a4)), (5, .int a5)] → fX11_leaves_81 N n a0 a4 a5 mm = some res → W p l e (rmX11_leaves) s m args below meth c H locs 0 0 (MQ below (QI D ca ad res) args s 0 0 (AA ad)) (F0 m 81 ls []) := by
  intro n
  induction n with
  | zero => intro a0 a4 a5 mm H locs ls ha0 ha4 hW hl hf; cases hf
  | succ n ih =>
    intro a0 a4 a5 mm H locs ls ha0 ha4 hW hl hf
    have hk81 : ∀ (a0 : Nat) (a4 : Nat) (a5 : Int32) (mm : Mm) (H : Heap) (locs : List Loc) (ls : Array Slot), (sX11 a0) → (sX6 a4) → Wd D ca ad s.heap mm H locs → lv_has ls 6 [(0, .ref (ad a0)), (4, .ref (ad a4)), (5, .int a5)] → (fX11_leaves_81 N n) a0 a4 a5 mm = some res → W p l e (rmX11_leaves) s m args below meth c H locs 0 0 (MQ below (QI D ca ad res) args s 0 0 (AA ad)) (F0 m 81 ls []) := fun a0 a4 a5 mm H locs ls ha0 ha4 hW hl hf => ih ha0 ha4 hW hl hf
    unfold fX11_leaves_81 at hf
    try dsimp only at hf
    refine lv_iload C.1 C.2.1 dX11_leaves_81 (lv_at hl 2 rfl) ?_
    refine lv_bipush (v := 15) C.1 C.2.1 dX11_leaves_83 (by decide) ?_
    refine lv_icmp_ge (tgt := 113) C.1 C.2.1 dX11_leaves_85 (by decide) (fun c1 => ?_) (fun c1 => ?_)
    · have hf := if_t c1 hf
      refine lv_aload_n C.1 C.2.1 dX11_leaves_113 rfl (lv_at hl 0 rfl) ?_
      refine lv_bipush (v := 15) C.1 C.2.1 dX11_leaves_114 (by decide) ?_
      obtain ⟨x2, m3, r4, hf⟩ := bd2_s hf
      refine x_ci hW (x_runV C hW [.int 15] [] (ha0).1 (ha0).2.1 kX11.1 kvX11_worthOf q_808 (tX11_worthOf l C.2.2.2.2.2.2.1 ha0 r4) rfl rfl ⟨by decide, by decide⟩ rfl hl.1 rfl (Nat.le_of_ble_eq_true rfl) dX11_leaves_116) (fun H locs hW => ?_)
      refine lv_aload C.1 C.2.1 dX11_leaves_119 (lv_at hl 1 rfl) ?_
      refine lv_bipush (v := 15) C.1 C.2.1 dX11_leaves_121 (by decide) ?_
      obtain ⟨x5, m6, r7, hf⟩ := bd2_s hf
      refine x_ci hW (x_runS C hW [.ref (ad a4), .int 15] [.int x2] kvX11_shareOf q_821 (tX11_shareOf l C.2.2.2.2.2.2.1 ha4 r7) rfl rfl ⟨by decide, by decide⟩ rfl hl.1 rfl (Nat.le_of_ble_eq_true rfl) dX11_leaves_123) (fun H locs hW => ?_)
      refine lv_icmp_ne (tgt := 133) C.1 C.2.1 dX11_leaves_126 (by decide) (fun c8 => ?_) (fun c8 => ?_)
      · have hf := if_f c8 hf
        refine lv_bipush (v := 15) C.1 C.2.1 dX11_leaves_133 (by decide) ?_
        cases hf
        exact x_iret C hW dX11_leaves_135
      · have hf := if_t c8 hf
        refine lv_iconst (v := 0) C.1 C.2.1 dX11_leaves_129 (by decide) ?_
        refine lv_goto (tgt := 135) C.1 C.2.1 dX11_leaves_130 (by decide) ?_
        cases hf
        exact x_iret C hW dX11_leaves_135
    · have hf := if_f c1 hf
      refine lv_aload_n C.1 C.2.1 dX11_leaves_88 rfl (lv_at hl 0 rfl) ?_
      refine lv_iload C.1 C.2.1 dX11_leaves_89 (lv_at hl 2 rfl) ?_
      obtain ⟨x9, m10, r11, hf⟩ := bd2_s hf
      refine x_ci hW (x_runV C hW [.int a5] [] (ha0).1 (ha0).2.1 kX11.1 kvX11_worthOf q_808 (tX11_worthOf l C.2.2.2.2.2.2.1 ha0 r11) rfl rfl ⟨by decide, by decide⟩ rfl hl.1 rfl (Nat.le_of_ble_eq_true rfl) dX11_leaves_91) (fun H locs hW => ?_)
      refine lv_aload C.1 C.2.1 dX11_leaves_94 (lv_at hl 1 rfl) ?_
      refine lv_iload C.1 C.2.1 dX11_leaves_96 (lv_at hl 2 rfl) ?_
      obtain ⟨x12, m13, r14, hf⟩ := bd2_s hf
      refine x_ci hW (x_runS C hW [.ref (ad a4), .int a5] [.int x9] kvX11_shareOf q_821 (tX11_shareOf l C.2.2.2.2.2.2.1 ha4 r14) rfl rfl ⟨by decide, by decide⟩ rfl hl.1 rfl (Nat.le_of_ble_eq_true rfl) dX11_leaves_98) (fun H locs hW => ?_)
      refine lv_icmp_le (tgt := 107) C.1 C.2.1 dX11_leaves_101 (by decide) (fun c15 => ?_) (fun c15 => ?_)
      · have hf := if_t c15 hf
        refine lv_iinc (v := (a5 + 1)) (lv' := [(5, .int (a5 + 1)), (0, .ref (ad a0)), (4, .ref (ad a4))]) C.1 C.2.1 dX11_leaves_107 hl (k := 2) rfl rfl (by decide) rfl (fun ls hl => ?_)
        refine lv_goto (tgt := 81) C.1 C.2.1 dX11_leaves_110 (by decide) ?_
        exact hk81 _ _ _ _ _ _ _ ha0 ha4 hW (lv_sub hl [1, 2, 0] rfl) hf
      · have hf := if_f c15 hf
        refine lv_iload C.1 C.2.1 dX11_leaves_104 (lv_at hl 2 rfl) ?_
        cases hf
        exact x_iret C hW dX11_leaves_106
set_option maxRecDepth 100000 in
set_option maxHeartbeats 4000000 in
theorem wX11_leaves_0 (C : Cx p s m meth c args cX11_leaves 6 (some .int) RX11 D ca ad) {res : Int32 × Mm} {N : Nat}  {a0 : Nat} {a1 : Int32} {a2 : Int32} {mm : Mm} {H : Heap} {locs : List Loc} {ls : Array Slot} (ha0 : sX11 a0) (hW : Wd D ca ad s.heap mm H locs) (hl : lv_has ls 6 [(0, .ref (ad a0)), (1, .int a1), (2, .int a2)]) (hf : fX11_leaves N a0 a1 a2 mm = some res) : W p l e (rmX11_leaves) s m args below meth c H locs 0 0 (MQ below (QI D ca ad res) args s 0 0 (AA ad)) (F0 m 0 ls []) := by
  unfold fX11_leaves at hf
  refine lv_aload_n C.1 C.2.1 dX11_leaves_0 rfl (lv_at hl 0 rfl) ?_
  refine lv_iload_n C.1 C.2.1 dX11_leaves_1 rfl (lv_at hl 1 rfl) ?_
  obtain ⟨x16, m17, r18, hf⟩ := bd2_s hf
  refine x_cr hW (x_runV C hW [.int a1] [] (ha0).1 (ha0).2.1 kX11.1 kvX11_rowOf q_365 (tX11_rowOf l C.2.2.2.2.2.2.1 ha0 r18) rfl rfl ⟨by decide, by decide⟩ rfl hl.1 rfl (Nat.le_of_ble_eq_true rfl) dX11_leaves_2) (fun H locs hW => ?_)
  refine x_astore_n (lv' := [(3, va_re ad x16), (0, .ref (ad a0)), (1, .int a1), (2, .int a2)]) C dX11_leaves_5 rfl hl (by decide) rfl (fun ls hl => ?_)
  refine lv_aload_n C.1 C.2.1 dX11_leaves_6 rfl (lv_at hl 1 rfl) ?_
  refine lv_iload_n C.1 C.2.1 dX11_leaves_7 rfl (lv_at hl 3 rfl) ?_
  obtain ⟨x19, m20, r21, hf⟩ := bd2_s hf
  refine x_cr hW (x_runV C hW [.int a2] [] (ha0).1 (ha0).2.1 kX11.1 kvX11_rowOf q_365 (tX11_rowOf l C.2.2.2.2.2.2.1 ha0 r21) rfl rfl ⟨by decide, by decide⟩ rfl hl.1 rfl (Nat.le_of_ble_eq_true rfl) dX11_leaves_8) (fun H locs hW => ?_)
  refine x_astore (lv' := [(4, va_re ad x19), (3, va_re ad x16), (0, .ref (ad a0)), (1, .int a1), (2, .int a2)]) C dX11_leaves_11 hl (by decide) (by cases x16 <;> rfl) (fun ls hl => ?_)
  refine x_aload_n C dX11_leaves_13 rfl (lv_at hl 1 rfl) ?_
  refine x_ifnull C (tgt := 22) dX11_leaves_14 (by decide) (fun n23 => ?_) (fun z22 n23 => ?_)
  · subst n23
    have hf := cs_n hf
    refine lv_iconst (v := (-1)) C.1 C.2.1 dX11_leaves_22 (by decide) ?_
    cases hf
    exact x_iret C hW dX11_leaves_23
  · subst n23
    have hf := cs_q hf
    refine x_aload C dX11_leaves_17 (lv_at hl 0 rfl) ?_
    refine x_ifnonnull C (tgt := 24) dX11_leaves_19 (by decide) (fun n25 => ?_) (fun z24 n25 => ?_)
    · subst n25
      have hf := cs_n hf
      refine lv_iconst (v := (-1)) C.1 C.2.1 dX11_leaves_22 (by decide) ?_
      cases hf
      exact x_iret C hW dX11_leaves_23
    · subst n25
      have hf := cs_q hf
      refine lv_aload_n C.1 C.2.1 dX11_leaves_24 rfl (lv_at hl 2 rfl) ?_
      refine lv_aload_n C.1 C.2.1 dX11_leaves_25 rfl (lv_at hl 1 rfl) ?_
      refine lv_aload C.1 C.2.1 dX11_leaves_26 (lv_at hl 0 rfl) ?_
      obtain ⟨x26, m27, r28, hf⟩ := bd2_s hf
      refine x_ci hW (x_runV C hW [.ref (ad z22), .ref (ad z24)] [] (ha0).1 (ha0).2.1 kX11.1 kvX11_areWrong q_816 (tX11_areWrong l C.2.2.2.2.2.2.1 ha0 ((gX11_rowOf ha0 r18) z22 rfl) ((gX11_rowOf ha0 r21) z24 rfl) r28) rfl rfl ⟨by decide, by decide⟩ rfl hl.1 rfl (Nat.le_of_ble_eq_true rfl) dX11_leaves_28) (fun H locs hW => ?_)
      refine lv_if_eq (tgt := 37) C.1 C.2.1 dX11_leaves_31 (by decide) (fun c29 => ?_) (fun c29 => ?_)
      · have hf := if_t c29 hf
        refine lv_aload_n C.1 C.2.1 dX11_leaves_37 rfl (lv_at hl 2 rfl) ?_
        refine x_getr C hW (ha0).1 (ha0).2.1 (j := 2) rfl kX11 (by decide) rfl q_311 dX11_leaves_38 ?_
        refine lv_bipush (v := 15) C.1 C.2.1 dX11_leaves_41 (by decide) ?_
        obtain ⟨x30, m31, r32, hf⟩ := bd2_s hf
        refine x_ci hW (x_runV C hW [.int 15] [] (ha0.2.2.2.2.1).1 (ha0.2.2.2.2.1).2.1 kX0.1 kvX0_stockWith q_804 (tX0_stockWith l C.2.2.2.2.2.2.1 ha0.2.2.2.2.1 r32) rfl rfl ⟨by decide, by decide⟩ rfl hl.1 rfl (Nat.le_of_ble_eq_true rfl) dX11_leaves_43) (fun H locs hW => ?_)
        refine lv_bipush (v := 40) C.1 C.2.1 dX11_leaves_46 (by decide) ?_
        refine lv_icmp_le (tgt := 54) C.1 C.2.1 dX11_leaves_48 (by decide) (fun c33 => ?_) (fun c33 => ?_)
        · have hf := if_t c33 hf
          refine lv_aload_n C.1 C.2.1 dX11_leaves_54 rfl (lv_at hl 2 rfl) ?_
          refine x_getr C hW (ha0).1 (ha0).2.1 (j := 7) rfl kX11 (by decide) rfl q_316 dX11_leaves_55 ?_
          refine lv_aload_n C.1 C.2.1 dX11_leaves_58 rfl (lv_at hl 2 rfl) ?_
          refine x_getr C hW (ha0).1 (ha0).2.1 (j := 2) rfl kX11 (by decide) rfl q_311 dX11_leaves_59 ?_
          refine lv_aload_n C.1 C.2.1 dX11_leaves_62 rfl (lv_at hl 2 rfl) ?_
          refine x_getr C hW (ha0).1 (ha0).2.1 (j := 2) rfl kX11 (by decide) rfl q_311 dX11_leaves_63 ?_
          refine x_geti C hW (ha0.2.2.2.2.1).1 (ha0.2.2.2.2.1).2.1 (j := 6) rfl kX0 (by decide) rfl q_78 dX11_leaves_66 ?_
          refine lv_aload_n C.1 C.2.1 dX11_leaves_69 rfl (lv_at hl 1 rfl) ?_
          refine x_getr C hW (((gX11_rowOf ha0 r18) z22 rfl)).1 (((gX11_rowOf ha0 r18) z22 rfl)).2.1 (j := 0) rfl kX6 (by decide) rfl q_300 dX11_leaves_70 ?_
          refine lv_bipush (v := 40) C.1 C.2.1 dX11_leaves_73 (by decide) ?_
          obtain ⟨x34, m35, r36, hf⟩ := bd2_s hf
          refine x_cv hW (x_runV C hW [.ref (ad (fr a0 2)), .int (rd m31 (fr a0 2) 6), .ref (ad (fr z22 0)), .int 40] [] (ha0.2.2.2.2.2.2.2.2.2.1).1 (ha0.2.2.2.2.2.2.2.2.2.1).2.1 kX8.1 kvX8_run q_609 (tX8_run l C.2.2.2.2.2.2.1 ha0.2.2.2.2.2.2.2.2.2.1 ha0.2.2.2.2.1 (((gX11_rowOf ha0 r18) z22 rfl).2.2) r36) rfl rfl ⟨by decide, by decide⟩ rfl hl.1 rfl (Nat.le_of_ble_eq_true rfl) dX11_leaves_75) (fun H locs hW => ?_)
          refine lv_iconst (v := 1) C.1 C.2.1 dX11_leaves_78 (by decide) ?_
          refine lv_istore (lv' := [(5, .int 1), (4, .ref (ad z24)), (3, .ref (ad z22)), (0, .ref (ad a0)), (1, .int a1), (2, .int a2)]) C.1 C.2.1 dX11_leaves_79 hl (by decide) rfl (fun ls hl => ?_)
          exact wX11_leaves_81 C  N ha0 ((gX11_rowOf ha0 r21) z24 rfl) hW (lv_sub hl [3, 1, 0] rfl) hf
        · have hf := if_f c33 hf
          refine lv_bipush (v := (-6)) C.1 C.2.1 dX11_leaves_51 (by decide) ?_
          cases hf
          exact x_iret C hW dX11_leaves_53
      · have hf := if_f c29 hf
        refine lv_bipush (v := (-3)) C.1 C.2.1 dX11_leaves_34 (by decide) ?_
        cases hf
        exact x_iret C hW dX11_leaves_36
set_option maxRecDepth 100000 in
set_option maxHeartbeats 4000000 in
theorem tX11_leaves (l : Launch) {D : va_G} {ca ad : Nat → Nat} (hi : Inj ad) {N : Nat} {a0 : Nat} {a1 : Int32} {a2 : Int32} {mm : Mm} {res : Int32 × Mm} (ha0 : sX11 a0) (hf : fX11_leaves N a0 a1 a2 mm = some res) : Met l yX11_leaves (WS yX11_leaves cX11_leaves 6 (some .int)) (rmX11_leaves) (va_Pc [.ref (ad a0), .int a1, .int a2] (WB D ca ad mm)) (QI D ca ad res) 0 0 (AA ad) := by
  refine x_start hi (by decide) rfl (Nat.le_of_ble_eq_true rfl) (fun p e s m args below meth c ls C hW hl => ?_)
  exact wX11_leaves_0 C ha0 hW (lv_sub hl [0, 1, 2] rfl) hf
set_option maxRecDepth 100000 in
set_option maxHeartbeats 4000000 in
theorem wX11_ordersAround_0 (C : Cx p s m meth c args cX11_ordersAround 1 (some .int) RX11 D ca ad) {res : Int32 × Mm} {N : Nat}  {a0 : Int32} {mm : Mm} {H : Heap} {locs : List Loc} {ls : Array Slot}  (hW : Wd D ca ad s.heap mm H locs) (hl : lv_has ls 1 [(0, .int a0)]) (hf : fX11_ordersAround N a0 mm = some res) : W p l e (rmX11_ordersAround) s m args below meth c H locs 0 0 (MQ below (QI D ca ad res) args s 0 0 (AA ad)) (F0 m 0 ls []) := by
  unfold fX11_ordersAround at hf
  refine lv_iload_n C.1 C.2.1 dX11_ordersAround_0 rfl (lv_at hl 0 rfl) ?_
  refine lv_if_eq (tgt := 9) C.1 C.2.1 dX11_ordersAround_1 (by decide) (fun c1 => ?_) (fun c1 => ?_)
  · have hf := if_t c1 hf
    refine lv_bipush (v := 6) C.1 C.2.1 dX11_ordersAround_9 (by decide) ?_
    refine lv_goto (tgt := 15) C.1 C.2.1 dX11_ordersAround_11 (by decide) ?_
    cases hf
    exact x_iret C hW dX11_ordersAround_15
  · have hf := if_f c1 hf
    refine lv_iload_n C.1 C.2.1 dX11_ordersAround_4 rfl (lv_at hl 0 rfl) ?_
    refine lv_iconst (v := 3) C.1 C.2.1 dX11_ordersAround_5 (by decide) ?_
    refine lv_icmp_ne (tgt := 14) C.1 C.2.1 dX11_ordersAround_6 (by decide) (fun c2 => ?_) (fun c2 => ?_)
    · have hf := if_f c2 hf
      refine lv_iconst (v := 2) C.1 C.2.1 dX11_ordersAround_14 (by decide) ?_
      cases hf
      exact x_iret C hW dX11_ordersAround_15
    · have hf := if_t c2 hf
      refine lv_bipush (v := 6) C.1 C.2.1 dX11_ordersAround_9 (by decide) ?_
      refine lv_goto (tgt := 15) C.1 C.2.1 dX11_ordersAround_11 (by decide) ?_
      cases hf
      exact x_iret C hW dX11_ordersAround_15
set_option maxRecDepth 100000 in
set_option maxHeartbeats 4000000 in
theorem tX11_ordersAround (l : Launch) {D : va_G} {ca ad : Nat → Nat} (hi : Inj ad) {N : Nat} {a0 : Int32} {mm : Mm} {res : Int32 × Mm}  (hf : fX11_ordersAround N a0 mm = some res) : Met l yX11_ordersAround (WS yX11_ordersAround cX11_ordersAround 1 (some .int)) (rmX11_ordersAround) (va_Pc [.int a0] (WB D ca ad mm)) (QI D ca ad res) 0 0 (AA ad) := by
  refine x_start hi (by decide) rfl (Nat.le_of_ble_eq_true rfl) (fun p e s m args below meth c ls C hW hl => ?_)
  exact wX11_ordersAround_0 C  hW (lv_sub hl [0] rfl) hf
set_option maxRecDepth 100000 in
set_option maxHeartbeats 4000000 in
theorem wX11_adds_127 (C : Cx p s m meth c args cX11_adds 6 (some .int) RX11 D ca ad) {res : Int32 × Mm} {N : Nat} {k80 : Nat → Int32 → Int32 → Int32 → Mm → Option (Int32 × Mm)} (hk80 : ∀ (a0 : Nat) (a1 : Int32) (a4 : Int32) (a5 : Int32) (mm : Mm) (H : Heap) (locs : List Loc) (ls : Array Slot), (sX11 a0) → Wd D ca ad s.heap mm H locs → lv_has ls 6 [(0, .ref (ad a0)), (1, .int a1), (4, .int a4), (5, .int a5)] → k80 a0 a1 a4 a5 mm = some res → W p l e (rmX11_adds) s m args below meth c H locs 0 0 (MQ below (QI D ca ad res) args s 0 0 (AA ad)) (F0 m 80 ls [])) {a0 : Nat} {a1 : Int32} {a4 : Int32} {a5 : Int32} {mm : Mm} {H : Heap} {locs : List Loc} {ls : Array Slot} (ha0 : sX11 a0) (hW : Wd D ca ad s.heap mm H locs) (hl : lv_has ls 6 [(0, .ref (ad a0)), (1, .int a1), (4, .int a4), (5, .int a5)]) (hf : fX11_adds_127 N k80 a0 a1 a4 a5 mm = some res) : W p l e (rmX11_adds) s m args below meth c H locs 0 0 (MQ below (QI D ca ad res) args s 0 0 (AA ad)) (F0 m 127 ls []) := by
  unfold fX11_adds_127 at hf
  refine lv_iinc (v := (a5 + 1)) (lv' := [(5, .int (a5 + 1)), (0, .ref (ad a0)), (1, .int a1), (4, .int a4)]) C.1 C.2.1 dX11_adds_127 hl (k := 3) rfl rfl (by decide) rfl (fun ls hl => ?_)
  refine lv_goto (tgt := 80) C.1 C.2.1 dX11_adds_130 (by decide) ?_
  exact hk80 _ _ _ _ _ _ _ _ ha0 hW (lv_sub hl [1, 2, 3, 0] rfl) hf
set_option maxRecDepth 100000 in
set_option maxHeartbeats 4000000 in
theorem wX11_adds_80 (C : Cx p s m meth c args cX11_adds 6 (some .int) RX11 D ca ad) {res : Int32 × Mm} {N : Nat}  : ∀ (n : Nat) {a0 : Nat} {a1 : Int32} {a4 : Int32} {a5 : Int32} {mm : Mm} {H : Heap} {locs : List Loc} {ls : Array Slot}, (sX11 a0) → Wd D ca ad s.heap mm H locs → lv_has ls 6 [(0, .ref (ad a0)), (1, .int a1), (4, .int a4), (5, .int a5)] → fX11_adds_80 N n a0 a1 a4 a5 mm = some res → W p l e (rmX11_adds) s m args below meth c H locs 0 0 (MQ below (QI D ca ad res) args s 0 0 (AA ad)) (F0 m 80 ls []) := by
  intro n
  induction n with
  | zero => intro a0 a1 a4 a5 mm H locs ls ha0 hW hl hf; cases hf
  | succ n ih =>
    intro a0 a1 a4 a5 mm H locs ls ha0 hW hl hf
    have hk80 : ∀ (a0 : Nat) (a1 : Int32) (a4 : Int32) (a5 : Int32) (mm : Mm) (H : Heap) (locs : List Loc) (ls : Array Slot), (sX11 a0) → Wd D ca ad s.heap mm H locs → lv_has ls 6 [(0, .ref (ad a0)), (1, .int a1), (4, .int a4), (5, .int a5)] → (fX11_adds_80 N n) a0 a1 a4 a5 mm = some res → W p l e (rmX11_adds) s m args below meth c H locs 0 0 (MQ below (QI D ca ad res) args s 0 0 (AA ad)) (F0 m 80 ls []) := fun a0 a1 a4 a5 mm H locs ls ha0 hW hl hf => ih ha0 hW hl hf
    unfold fX11_adds_80 at hf
    try dsimp only at hf
    refine lv_iload C.1 C.2.1 dX11_adds_80 (lv_at hl 3 rfl) ?_
    refine lv_bipush (v := 15) C.1 C.2.1 dX11_adds_82 (by decide) ?_
    refine lv_icmp_gt (tgt := 133) C.1 C.2.1 dX11_adds_84 (by decide) (fun c1 => ?_) (fun c1 => ?_)
    · have hf := if_t c1 hf
      refine lv_aload_n C.1 C.2.1 dX11_adds_133 rfl (lv_at hl 0 rfl) ?_
      refine lv_iload C.1 C.2.1 dX11_adds_134 (lv_at hl 2 rfl) ?_
      refine lv_i2l C.1 C.2.1 dX11_adds_136 rfl ?_
      refine lv_ldc2 C.1 C.2.1 C.2.2.2.1 (C.2.2.2.2.1 _ q_837) dX11_adds_137 ?_
      obtain ⟨x2, m3, r4, hf⟩ := bd2_s hf
      refine x_cv hW (x_runV C hW [.long a4.toInt64, .long 24] [] (ha0).1 (ha0).2.1 kX11.1 kvX11_fraction q_679 (tX11_fraction l C.2.2.2.2.2.2.1 ha0 r4) rfl rfl ⟨by decide, by decide⟩ rfl hl.1 rfl (Nat.le_of_ble_eq_true rfl) dX11_adds_140) (fun H locs hW => ?_)
      refine lv_iconst (v := 1) C.1 C.2.1 dX11_adds_143 (by decide) ?_
      cases hf
      exact x_iret C hW dX11_adds_144
    · have hf := if_f c1 hf
      refine lv_iload C.1 C.2.1 dX11_adds_87 (lv_at hl 3 rfl) ?_
      refine lv_iload_n C.1 C.2.1 dX11_adds_89 rfl (lv_at hl 1 rfl) ?_
      refine lv_ishr C.1 C.2.1 dX11_adds_90 ?_
      refine lv_iconst (v := 1) C.1 C.2.1 dX11_adds_91 (by decide) ?_
      refine lv_iand C.1 C.2.1 dX11_adds_92 ?_
      refine lv_if_ne (tgt := 127) C.1 C.2.1 dX11_adds_93 (by decide) (fun c5 => ?_) (fun c5 => ?_)
      · have hf := if_f c5 hf
        exact wX11_adds_127 C hk80 ha0 hW (lv_sub hl [0, 1, 2, 3] rfl) hf
      · have hf := if_t c5 hf
        refine lv_iload C.1 C.2.1 dX11_adds_96 (lv_at hl 2 rfl) ?_
        refine lv_iload C.1 C.2.1 dX11_adds_98 (lv_at hl 3 rfl) ?_
        obtain ⟨x6, m7, r8, hf⟩ := bd2_s hf
        refine x_ci hW (x_runS C hW [.int a5] [.int a4] kvJ6_bitCount_0f7a4 q_828 (tJ6_bitCount_0f7a4 l C.2.2.2.2.2.2.1  r8) rfl rfl ⟨by decide, by decide⟩ rfl hl.1 rfl (Nat.le_of_ble_eq_true rfl) dX11_adds_100) (fun H locs hW => ?_)
        obtain ⟨x9, m10, r11, hf⟩ := bd2_s hf
        refine x_ci hW (x_runS C hW [.int x6] [.int a4] kvX11_ordersAround q_834 (tX11_ordersAround l C.2.2.2.2.2.2.1  r11) rfl rfl ⟨by decide, by decide⟩ rfl hl.1 rfl (Nat.le_of_ble_eq_true rfl) dX11_adds_103) (fun H locs hW => ?_)
        refine lv_aload_n C.1 C.2.1 dX11_adds_106 rfl (lv_at hl 0 rfl) ?_
        refine lv_iload C.1 C.2.1 dX11_adds_107 (lv_at hl 3 rfl) ?_
        refine lv_iconst (v := 1) C.1 C.2.1 dX11_adds_109 (by decide) ?_
        refine lv_iload_n C.1 C.2.1 dX11_adds_110 rfl (lv_at hl 1 rfl) ?_
        refine lv_ishl C.1 C.2.1 dX11_adds_111 ?_
        refine lv_ior C.1 C.2.1 dX11_adds_112 ?_
        obtain ⟨x12, m13, r14, hf⟩ := bd2_s hf
        refine x_ci hW (x_runV C hW [.int (a5 ||| (1 <<< (a1 &&& 31)))] [.int x9, .int a4] (ha0).1 (ha0).2.1 kX11.1 kvX11_worthOf q_808 (tX11_worthOf l C.2.2.2.2.2.2.1 ha0 r14) rfl rfl ⟨by decide, by decide⟩ rfl hl.1 rfl (Nat.le_of_ble_eq_true rfl) dX11_adds_113) (fun H locs hW => ?_)
        refine lv_aload_n C.1 C.2.1 dX11_adds_116 rfl (lv_at hl 0 rfl) ?_
        refine lv_iload C.1 C.2.1 dX11_adds_117 (lv_at hl 3 rfl) ?_
        obtain ⟨x15, m16, r17, hf⟩ := bd2_s hf
        refine x_ci hW (x_runV C hW [.int a5] [.int x12, .int x9, .int a4] (ha0).1 (ha0).2.1 kX11.1 kvX11_worthOf q_808 (tX11_worthOf l C.2.2.2.2.2.2.1 ha0 r17) rfl rfl ⟨by decide, by decide⟩ rfl hl.1 rfl (Nat.le_of_ble_eq_true rfl) dX11_adds_119) (fun H locs hW => ?_)
        refine lv_isub C.1 C.2.1 dX11_adds_122 ?_
        refine lv_imul C.1 C.2.1 dX11_adds_123 ?_
        refine lv_iadd C.1 C.2.1 dX11_adds_124 ?_
        refine lv_istore (lv' := [(4, .int (a4 + (x9 * (x12 - x15)))), (0, .ref (ad a0)), (1, .int a1), (5, .int a5)]) C.1 C.2.1 dX11_adds_125 hl (by decide) rfl (fun ls hl => ?_)
        exact wX11_adds_127 C hk80 ha0 hW (lv_sub hl [1, 2, 0, 3] rfl) hf
set_option maxRecDepth 100000 in
set_option maxHeartbeats 4000000 in
theorem wX11_adds_0 (C : Cx p s m meth c args cX11_adds 6 (some .int) RX11 D ca ad) {res : Int32 × Mm} {N : Nat}  {a0 : Nat} {a1 : Int32} {a2 : Int32} {mm : Mm} {H : Heap} {locs : List Loc} {ls : Array Slot} (ha0 : sX11 a0) (hW : Wd D ca ad s.heap mm H locs) (hl : lv_has ls 6 [(0, .ref (ad a0)), (1, .int a1), (2, .int a2)]) (hf : fX11_adds N a0 a1 a2 mm = some res) : W p l e (rmX11_adds) s m args below meth c H locs 0 0 (MQ below (QI D ca ad res) args s 0 0 (AA ad)) (F0 m 0 ls []) := by
  unfold fX11_adds at hf
  refine lv_aload_n C.1 C.2.1 dX11_adds_0 rfl (lv_at hl 0 rfl) ?_
  refine lv_iload_n C.1 C.2.1 dX11_adds_1 rfl (lv_at hl 2 rfl) ?_
  obtain ⟨x18, m19, r20, hf⟩ := bd2_s hf
  refine x_cr hW (x_runV C hW [.int a2] [] (ha0).1 (ha0).2.1 kX11.1 kvX11_rowOf q_365 (tX11_rowOf l C.2.2.2.2.2.2.1 ha0 r20) rfl rfl ⟨by decide, by decide⟩ rfl hl.1 rfl (Nat.le_of_ble_eq_true rfl) dX11_adds_2) (fun H locs hW => ?_)
  refine x_astore_n (lv' := [(3, va_re ad x18), (0, .ref (ad a0)), (1, .int a1), (2, .int a2)]) C dX11_adds_5 rfl hl (by decide) rfl (fun ls hl => ?_)
  refine lv_iload_n C.1 C.2.1 dX11_adds_6 rfl (lv_at hl 2 rfl) ?_
  refine lv_if_lt (tgt := 19) C.1 C.2.1 dX11_adds_7 (by decide) (fun c21 => ?_) (fun c21 => ?_)
  · have hf := if_t c21 hf
    refine lv_iconst (v := (-1)) C.1 C.2.1 dX11_adds_19 (by decide) ?_
    cases hf
    exact x_iret C hW dX11_adds_20
  · have hf := if_f c21 hf
    refine lv_iload_n C.1 C.2.1 dX11_adds_10 rfl (lv_at hl 2 rfl) ?_
    refine lv_iconst (v := 4) C.1 C.2.1 dX11_adds_11 (by decide) ?_
    refine lv_icmp_ge (tgt := 19) C.1 C.2.1 dX11_adds_12 (by decide) (fun c22 => ?_) (fun c22 => ?_)
    · have hf := if_t c22 hf
      refine lv_iconst (v := (-1)) C.1 C.2.1 dX11_adds_19 (by decide) ?_
      cases hf
      exact x_iret C hW dX11_adds_20
    · have hf := if_f c22 hf
      refine x_aload_n C dX11_adds_15 rfl (lv_at hl 0 rfl) ?_
      refine x_ifnonnull C (tgt := 21) dX11_adds_16 (by decide) (fun n24 => ?_) (fun z23 n24 => ?_)
      · subst n24
        have hf := cs_n hf
        refine lv_iconst (v := (-1)) C.1 C.2.1 dX11_adds_19 (by decide) ?_
        cases hf
        exact x_iret C hW dX11_adds_20
      · subst n24
        have hf := cs_q hf
        refine lv_aload_n C.1 C.2.1 dX11_adds_21 rfl (lv_at hl 1 rfl) ?_
        refine lv_aload_n C.1 C.2.1 dX11_adds_22 rfl (lv_at hl 0 rfl) ?_
        refine lv_iconst (v := 1) C.1 C.2.1 dX11_adds_23 (by decide) ?_
        obtain ⟨x25, m26, r27, hf⟩ := bd2_s hf
        refine x_ci hW (x_runV C hW [.ref (ad z23), .int 1] [] (ha0).1 (ha0).2.1 kX11.1 kvX11_isWrong q_605 (tX11_isWrong l C.2.2.2.2.2.2.1 ha0 ((gX11_rowOf ha0 r20) z23 rfl) r27) rfl rfl ⟨by decide, by decide⟩ rfl hl.1 rfl (Nat.le_of_ble_eq_true rfl) dX11_adds_24) (fun H locs hW => ?_)
        refine lv_if_eq (tgt := 33) C.1 C.2.1 dX11_adds_27 (by decide) (fun c28 => ?_) (fun c28 => ?_)
        · have hf := if_t c28 hf
          refine lv_aload_n C.1 C.2.1 dX11_adds_33 rfl (lv_at hl 1 rfl) ?_
          refine x_getr C hW (ha0).1 (ha0).2.1 (j := 2) rfl kX11 (by decide) rfl q_311 dX11_adds_34 ?_
          refine lv_bipush (v := 15) C.1 C.2.1 dX11_adds_37 (by decide) ?_
          obtain ⟨x29, m30, r31, hf⟩ := bd2_s hf
          refine x_ci hW (x_runV C hW [.int 15] [] (ha0.2.2.2.2.1).1 (ha0.2.2.2.2.1).2.1 kX0.1 kvX0_stockWith q_804 (tX0_stockWith l C.2.2.2.2.2.2.1 ha0.2.2.2.2.1 r31) rfl rfl ⟨by decide, by decide⟩ rfl hl.1 rfl (Nat.le_of_ble_eq_true rfl) dX11_adds_39) (fun H locs hW => ?_)
          refine lv_bipush (v := 40) C.1 C.2.1 dX11_adds_42 (by decide) ?_
          refine lv_icmp_le (tgt := 50) C.1 C.2.1 dX11_adds_44 (by decide) (fun c32 => ?_) (fun c32 => ?_)
          · have hf := if_t c32 hf
            refine lv_aload_n C.1 C.2.1 dX11_adds_50 rfl (lv_at hl 1 rfl) ?_
            refine x_getr C hW (ha0).1 (ha0).2.1 (j := 7) rfl kX11 (by decide) rfl q_316 dX11_adds_51 ?_
            refine lv_aload_n C.1 C.2.1 dX11_adds_54 rfl (lv_at hl 1 rfl) ?_
            refine x_getr C hW (ha0).1 (ha0).2.1 (j := 2) rfl kX11 (by decide) rfl q_311 dX11_adds_55 ?_
            refine lv_aload_n C.1 C.2.1 dX11_adds_58 rfl (lv_at hl 1 rfl) ?_
            refine x_getr C hW (ha0).1 (ha0).2.1 (j := 2) rfl kX11 (by decide) rfl q_311 dX11_adds_59 ?_
            refine x_geti C hW (ha0.2.2.2.2.1).1 (ha0.2.2.2.2.1).2.1 (j := 6) rfl kX0 (by decide) rfl q_78 dX11_adds_62 ?_
            refine lv_aload_n C.1 C.2.1 dX11_adds_65 rfl (lv_at hl 0 rfl) ?_
            refine x_getr C hW (((gX11_rowOf ha0 r20) z23 rfl)).1 (((gX11_rowOf ha0 r20) z23 rfl)).2.1 (j := 0) rfl kX6 (by decide) rfl q_300 dX11_adds_66 ?_
            refine lv_bipush (v := 40) C.1 C.2.1 dX11_adds_69 (by decide) ?_
            obtain ⟨x33, m34, r35, hf⟩ := bd2_s hf
            refine x_cv hW (x_runV C hW [.ref (ad (fr a0 2)), .int (rd m30 (fr a0 2) 6), .ref (ad (fr z23 0)), .int 40] [] (ha0.2.2.2.2.2.2.2.2.2.1).1 (ha0.2.2.2.2.2.2.2.2.2.1).2.1 kX8.1 kvX8_run q_609 (tX8_run l C.2.2.2.2.2.2.1 ha0.2.2.2.2.2.2.2.2.2.1 ha0.2.2.2.2.1 (((gX11_rowOf ha0 r20) z23 rfl).2.2) r35) rfl rfl ⟨by decide, by decide⟩ rfl hl.1 rfl (Nat.le_of_ble_eq_true rfl) dX11_adds_71) (fun H locs hW => ?_)
            refine lv_iconst (v := 0) C.1 C.2.1 dX11_adds_74 (by decide) ?_
            refine lv_istore (lv' := [(4, .int 0), (3, .ref (ad z23)), (0, .ref (ad a0)), (1, .int a1), (2, .int a2)]) C.1 C.2.1 dX11_adds_75 hl (by decide) rfl (fun ls hl => ?_)
            refine lv_iconst (v := 0) C.1 C.2.1 dX11_adds_77 (by decide) ?_
            refine lv_istore (lv' := [(5, .int 0), (4, .int 0), (3, .ref (ad z23)), (0, .ref (ad a0)), (1, .int a1), (2, .int a2)]) C.1 C.2.1 dX11_adds_78 hl (by decide) rfl (fun ls hl => ?_)
            exact wX11_adds_80 C  N ha0 hW (lv_sub hl [3, 4, 1, 0] rfl) hf
          · have hf := if_f c32 hf
            refine lv_bipush (v := (-6)) C.1 C.2.1 dX11_adds_47 (by decide) ?_
            cases hf
            exact x_iret C hW dX11_adds_49
        · have hf := if_f c28 hf
          refine lv_bipush (v := (-3)) C.1 C.2.1 dX11_adds_30 (by decide) ?_
          cases hf
          exact x_iret C hW dX11_adds_32
set_option maxRecDepth 100000 in
set_option maxHeartbeats 4000000 in
theorem tX11_adds (l : Launch) {D : va_G} {ca ad : Nat → Nat} (hi : Inj ad) {N : Nat} {a0 : Nat} {a1 : Int32} {a2 : Int32} {mm : Mm} {res : Int32 × Mm} (ha0 : sX11 a0) (hf : fX11_adds N a0 a1 a2 mm = some res) : Met l yX11_adds (WS yX11_adds cX11_adds 6 (some .int)) (rmX11_adds) (va_Pc [.ref (ad a0), .int a1, .int a2] (WB D ca ad mm)) (QI D ca ad res) 0 0 (AA ad) := by
  refine x_start hi (by decide) rfl (Nat.le_of_ble_eq_true rfl) (fun p e s m args below meth c ls C hW hl => ?_)
  exact wX11_adds_0 C ha0 hW (lv_sub hl [0, 1, 2] rfl) hf
set_option maxRecDepth 100000 in
set_option maxHeartbeats 4000000 in
theorem wX11_when_89 (C : Cx p s m meth c args cX11_when 6 (some .int) RX11 D ca ad) {res : Int32 × Mm} {N : Nat} {k32 : Nat → Nat → Int32 → Int32 → Int32 → Mm → Option (Int32 × Mm)} (hk32 : ∀ (a0 : Nat) (a2 : Nat) (a3 : Int32) (a4 : Int32) (a5 : Int32) (mm : Mm) (H : Heap) (locs : List Loc) (ls : Array Slot), (sX11 a0) → (sX6 a2) → Wd D ca ad s.heap mm H locs → lv_has ls 6 [(0, .ref (ad a0)), (2, .ref (ad a2)), (3, .int a3), (4, .int a4), (5, .int a5)] → k32 a0 a2 a3 a4 a5 mm = some res → W p l e (rmX11_when) s m args below meth c H locs 0 0 (MQ below (QI D ca ad res) args s 0 0 (AA ad)) (F0 m 32 ls [])) {a0 : Nat} {a2 : Nat} {a3 : Int32} {a4 : Int32} {a5 : Int32} {mm : Mm} {H : Heap} {locs : List Loc} {ls : Array Slot} (ha0 : sX11 a0) (ha2 : sX6 a2) (hW : Wd D ca ad s.heap mm H locs) (hl : lv_has ls 6 [(0, .ref (ad a0)), (2, .ref (ad a2)), (3, .int a3), (4, .int a4), (5, .int a5)]) (hf : fX11_when_89 N k32 a0 a2 a3 a4 a5 mm = some res) : W p l e (rmX11_when) s m args below meth c H locs 0 0 (MQ below (QI D ca ad res) args s 0 0 (AA ad)) (F0 m 89 ls []) := by
  unfold fX11_when_89 at hf
  refine lv_iinc (v := (a5 + 1)) (lv' := [(5, .int (a5 + 1)), (0, .ref (ad a0)), (2, .ref (ad a2)), (3, .int a3), (4, .int a4)]) C.1 C.2.1 dX11_when_89 hl (k := 4) rfl rfl (by decide) rfl (fun ls hl => ?_)
  refine lv_goto (tgt := 32) C.1 C.2.1 dX11_when_92 (by decide) ?_
  exact hk32 _ _ _ _ _ _ _ _ _ ha0 ha2 hW (lv_sub hl [1, 2, 3, 4, 0] rfl) hf
set_option maxRecDepth 100000 in
set_option maxHeartbeats 4000000 in
theorem wX11_when_32 (C : Cx p s m meth c args cX11_when 6 (some .int) RX11 D ca ad) {res : Int32 × Mm} {N : Nat}  : ∀ (n : Nat) {a0 : Nat} {a2 : Nat} {a3 : Int32} {a4 : Int32} {a5 : Int32} {mm : Mm} {H : Heap} {locs : List Loc} {ls : Array Slot}, (sX11 a0) → (sX6 a2) → Wd D ca ad s.heap mm H locs → lv_has ls 6 [(0, .ref (ad a0)), (2, .ref (ad a2)), (3, .int a3), (4, .int a4), (5, .int a5)] → fX11_when_32 N n a0 a2 a3 a4 a5 mm = some res → W p l e (rmX11_when) s m args below meth c H locs 0 0 (MQ below (QI D ca ad res) args s 0 0 (AA ad)) (F0 m 32 ls []) := by
  intro n
  induction n with
  | zero => intro a0 a2 a3 a4 a5 mm H locs ls ha0 ha2 hW hl hf; cases hf
  | succ n ih =>
    intro a0 a2 a3 a4 a5 mm H locs ls ha0 ha2 hW hl hf
    have hk32 : ∀ (a0 : Nat) (a2 : Nat) (a3 : Int32) (a4 : Int32) (a5 : Int32) (mm : Mm) (H : Heap) (locs : List Loc) (ls : Array Slot), (sX11 a0) → (sX6 a2) → Wd D ca ad s.heap mm H locs → lv_has ls 6 [(0, .ref (ad a0)), (2, .ref (ad a2)), (3, .int a3), (4, .int a4), (5, .int a5)] → (fX11_when_32 N n) a0 a2 a3 a4 a5 mm = some res → W p l e (rmX11_when) s m args below meth c H locs 0 0 (MQ below (QI D ca ad res) args s 0 0 (AA ad)) (F0 m 32 ls []) := fun a0 a2 a3 a4 a5 mm H locs ls ha0 ha2 hW hl hf => ih ha0 ha2 hW hl hf
    unfold fX11_when_32 at hf
    try dsimp only at hf
    refine lv_iload C.1 C.2.1 dX11_when_32 (lv_at hl 4 rfl) ?_
    refine lv_bipush (v := 9) C.1 C.2.1 dX11_when_34 (by decide) ?_
    refine lv_icmp_gt (tgt := 95) C.1 C.2.1 dX11_when_36 (by decide) (fun c1 => ?_) (fun c1 => ?_)
    · have hf := if_t c1 hf
      refine lv_aload_n C.1 C.2.1 dX11_when_95 rfl (lv_at hl 0 rfl) ?_
      refine lv_iload C.1 C.2.1 dX11_when_96 (lv_at hl 3 rfl) ?_
      refine x_put C hW (ha0).1 (ha0).2.1 (j := 14) (t1 := .int) rfl kX11 (by decide) rfl rfl q_323 (by decide +kernel) rfl rfl dX11_when_98 (fun H locs hW => ?_)
      obtain ⟨m2, em2⟩ : ∃ z, z = wr mm a0 14 a4 := ⟨_, rfl⟩
      have hf := nm_s hf em2
      rw [← em2] at hW
      refine lv_iload_n C.1 C.2.1 dX11_when_101 rfl (lv_at hl 2 rfl) ?_
      cases hf
      exact x_iret C hW dX11_when_102
    · have hf := if_f c1 hf
      refine lv_aload_n C.1 C.2.1 dX11_when_39 rfl (lv_at hl 0 rfl) ?_
      refine x_getr C hW (ha0).1 (ha0).2.1 (j := 7) rfl kX11 (by decide) rfl q_316 dX11_when_40 ?_
      refine lv_aload_n C.1 C.2.1 dX11_when_43 rfl (lv_at hl 0 rfl) ?_
      refine x_getr C hW (ha0).1 (ha0).2.1 (j := 2) rfl kX11 (by decide) rfl q_311 dX11_when_44 ?_
      refine lv_iload C.1 C.2.1 dX11_when_47 (lv_at hl 4 rfl) ?_
      refine lv_aload_n C.1 C.2.1 dX11_when_49 rfl (lv_at hl 1 rfl) ?_
      refine x_getr C hW (ha2).1 (ha2).2.1 (j := 0) rfl kX6 (by decide) rfl q_300 dX11_when_50 ?_
      refine lv_aload_n C.1 C.2.1 dX11_when_53 rfl (lv_at hl 0 rfl) ?_
      refine x_getr C hW (ha0).1 (ha0).2.1 (j := 2) rfl kX11 (by decide) rfl q_311 dX11_when_54 ?_
      refine x_getr C hW (ha0.2.2.2.2.1).1 (ha0.2.2.2.2.1).2.1 (j := 1) rfl kX0 (by decide) rfl q_63 dX11_when_57 ?_
      refine lv_iconst (v := 0) C.1 C.2.1 dX11_when_60 (by decide) ?_
      obtain ⟨g3, hf⟩ := gd_s hf
      refine x_iald C hW ha0.2.2.2.2.1.2.2.2.1 g3 dX11_when_61 ?_
      obtain ⟨x4, m5, r6, hf⟩ := bd2_s hf
      refine x_cv hW (x_runV C hW [.ref (ad (fr a0 2)), .int a5, .ref (ad (fr a2 0)), .int (rd mm (fr (fr a0 2) 1) ((0 : Int32).toNatClampNeg))] [] (ha0.2.2.2.2.2.2.2.2.2.1).1 (ha0.2.2.2.2.2.2.2.2.2.1).2.1 kX8.1 kvX8_run q_609 (tX8_run l C.2.2.2.2.2.2.1 ha0.2.2.2.2.2.2.2.2.2.1 ha0.2.2.2.2.1 ha2.2.2 r6) rfl rfl ⟨by decide, by decide⟩ rfl hl.1 rfl (Nat.le_of_ble_eq_true rfl) dX11_when_62) (fun H locs hW => ?_)
      refine lv_aload_n C.1 C.2.1 dX11_when_65 rfl (lv_at hl 0 rfl) ?_
      refine x_getr C hW (ha0).1 (ha0).2.1 (j := 7) rfl kX11 (by decide) rfl q_316 dX11_when_66 ?_
      refine x_geti C hW (ha0.2.2.2.2.2.2.2.2.2.1).1 (ha0.2.2.2.2.2.2.2.2.2.1).2.1 (j := 1) rfl kX8 (by decide) rfl q_185 dX11_when_69 ?_
      refine lv_iload C.1 C.2.1 dX11_when_72 (lv_at hl 3 rfl) ?_
      refine lv_icmp_le (tgt := 89) C.1 C.2.1 dX11_when_74 (by decide) (fun c7 => ?_) (fun c7 => ?_)
      · have hf := if_t c7 hf
        exact wX11_when_89 C hk32 ha0 ha2 hW (lv_sub hl [0, 1, 2, 3, 4] rfl) hf
      · have hf := if_f c7 hf
        refine lv_aload_n C.1 C.2.1 dX11_when_77 rfl (lv_at hl 0 rfl) ?_
        refine x_getr C hW (ha0).1 (ha0).2.1 (j := 7) rfl kX11 (by decide) rfl q_316 dX11_when_78 ?_
        refine x_geti C hW (ha0.2.2.2.2.2.2.2.2.2.1).1 (ha0.2.2.2.2.2.2.2.2.2.1).2.1 (j := 1) rfl kX8 (by decide) rfl q_185 dX11_when_81 ?_
        refine lv_istore (lv' := [(4, .int (rd m5 (fr a0 7) 1)), (0, .ref (ad a0)), (2, .ref (ad a2)), (3, .int a3), (5, .int a5)]) C.1 C.2.1 dX11_when_84 hl (by decide) rfl (fun ls hl => ?_)
        refine lv_iload C.1 C.2.1 dX11_when_86 (lv_at hl 4 rfl) ?_
        refine lv_istore_n (lv' := [(3, .int a5), (4, .int (rd m5 (fr a0 7) 1)), (0, .ref (ad a0)), (2, .ref (ad a2)), (5, .int a5)]) C.1 C.2.1 dX11_when_88 rfl hl (by decide) rfl (fun ls hl => ?_)
        exact wX11_when_89 C hk32 ha0 ha2 hW (lv_sub hl [2, 3, 0, 1, 4] rfl) hf
set_option maxRecDepth 100000 in
set_option maxHeartbeats 4000000 in
theorem wX11_when_0 (C : Cx p s m meth c args cX11_when 6 (some .int) RX11 D ca ad) {res : Int32 × Mm} {N : Nat}  {a0 : Nat} {a1 : Int32} {mm : Mm} {H : Heap} {locs : List Loc} {ls : Array Slot} (ha0 : sX11 a0) (hW : Wd D ca ad s.heap mm H locs) (hl : lv_has ls 6 [(0, .ref (ad a0)), (1, .int a1)]) (hf : fX11_when N a0 a1 mm = some res) : W p l e (rmX11_when) s m args below meth c H locs 0 0 (MQ below (QI D ca ad res) args s 0 0 (AA ad)) (F0 m 0 ls []) := by
  unfold fX11_when at hf
  refine lv_aload_n C.1 C.2.1 dX11_when_0 rfl (lv_at hl 0 rfl) ?_
  refine lv_iload_n C.1 C.2.1 dX11_when_1 rfl (lv_at hl 1 rfl) ?_
  obtain ⟨x8, m9, r10, hf⟩ := bd2_s hf
  refine x_cr hW (x_runV C hW [.int a1] [] (ha0).1 (ha0).2.1 kX11.1 kvX11_rowOf q_365 (tX11_rowOf l C.2.2.2.2.2.2.1 ha0 r10) rfl rfl ⟨by decide, by decide⟩ rfl hl.1 rfl (Nat.le_of_ble_eq_true rfl) dX11_when_2) (fun H locs hW => ?_)
  refine x_astore_n (lv' := [(2, va_re ad x8), (0, .ref (ad a0)), (1, .int a1)]) C dX11_when_5 rfl hl (by decide) rfl (fun ls hl => ?_)
  refine x_aload_n C dX11_when_6 rfl (lv_at hl 0 rfl) ?_
  refine x_ifnonnull C (tgt := 12) dX11_when_7 (by decide) (fun n12 => ?_) (fun z11 n12 => ?_)
  · subst n12
    have hf := cs_n hf
    refine lv_iconst (v := (-1)) C.1 C.2.1 dX11_when_10 (by decide) ?_
    cases hf
    exact x_iret C hW dX11_when_11
  · subst n12
    have hf := cs_q hf
    refine lv_aload_n C.1 C.2.1 dX11_when_12 rfl (lv_at hl 1 rfl) ?_
    refine lv_aload_n C.1 C.2.1 dX11_when_13 rfl (lv_at hl 0 rfl) ?_
    refine lv_iconst (v := 1) C.1 C.2.1 dX11_when_14 (by decide) ?_
    obtain ⟨x13, m14, r15, hf⟩ := bd2_s hf
    refine x_ci hW (x_runV C hW [.ref (ad z11), .int 1] [] (ha0).1 (ha0).2.1 kX11.1 kvX11_isWrong q_605 (tX11_isWrong l C.2.2.2.2.2.2.1 ha0 ((gX11_rowOf ha0 r10) z11 rfl) r15) rfl rfl ⟨by decide, by decide⟩ rfl hl.1 rfl (Nat.le_of_ble_eq_true rfl) dX11_when_15) (fun H locs hW => ?_)
    refine lv_if_eq (tgt := 24) C.1 C.2.1 dX11_when_18 (by decide) (fun c16 => ?_) (fun c16 => ?_)
    · have hf := if_t c16 hf
      refine lv_iconst (v := 0) C.1 C.2.1 dX11_when_24 (by decide) ?_
      refine lv_istore_n (lv' := [(3, .int 0), (2, .ref (ad z11)), (0, .ref (ad a0)), (1, .int a1)]) C.1 C.2.1 dX11_when_25 rfl hl (by decide) rfl (fun ls hl => ?_)
      refine lv_iconst (v := (-1)) C.1 C.2.1 dX11_when_26 (by decide) ?_
      refine lv_istore (lv' := [(4, .int (-1)), (3, .int 0), (2, .ref (ad z11)), (0, .ref (ad a0)), (1, .int a1)]) C.1 C.2.1 dX11_when_27 hl (by decide) rfl (fun ls hl => ?_)
      refine lv_iconst (v := 0) C.1 C.2.1 dX11_when_29 (by decide) ?_
      refine lv_istore (lv' := [(5, .int 0), (4, .int (-1)), (3, .int 0), (2, .ref (ad z11)), (0, .ref (ad a0)), (1, .int a1)]) C.1 C.2.1 dX11_when_30 hl (by decide) rfl (fun ls hl => ?_)
      exact wX11_when_32 C  N ha0 ((gX11_rowOf ha0 r10) z11 rfl) hW (lv_sub hl [4, 3, 2, 1, 0] rfl) hf
    · have hf := if_f c16 hf
      refine lv_bipush (v := (-3)) C.1 C.2.1 dX11_when_21 (by decide) ?_
      cases hf
      exact x_iret C hW dX11_when_23
set_option maxRecDepth 100000 in
set_option maxHeartbeats 4000000 in
theorem tX11_when (l : Launch) {D : va_G} {ca ad : Nat → Nat} (hi : Inj ad) {N : Nat} {a0 : Nat} {a1 : Int32} {mm : Mm} {res : Int32 × Mm} (ha0 : sX11 a0) (hf : fX11_when N a0 a1 mm = some res) : Met l yX11_when (WS yX11_when cX11_when 6 (some .int)) (rmX11_when) (va_Pc [.ref (ad a0), .int a1] (WB D ca ad mm)) (QI D ca ad res) 0 0 (AA ad) := by
  refine x_start hi (by decide) rfl (Nat.le_of_ble_eq_true rfl) (fun p e s m args below meth c ls C hW hl => ?_)
  exact wX11_when_0 C ha0 hW (lv_sub hl [0, 1] rfl) hf
set_option maxRecDepth 100000 in
set_option maxHeartbeats 4000000 in
theorem wX11_rule_0 (C : Cx p s m meth c args cX11_rule 4 (some .int) RX11 D ca ad) {res : Int32 × Mm} {N : Nat}  {a0 : Nat} {a1 : Int32} {a2 : Int32} {mm : Mm} {H : Heap} {locs : List Loc} {ls : Array Slot} (ha0 : sX11 a0) (hW : Wd D ca ad s.heap mm H locs) (hl : lv_has ls 4 [(0, .ref (ad a0)), (1, .int a1), (2, .int a2)]) (hf : fX11_rule N a0 a1 a2 mm = some res) : W p l e (rmX11_rule) s m args below meth c H locs 0 0 (MQ below (QI D ca ad res) args s 0 0 (AA ad)) (F0 m 0 ls []) := by
  unfold fX11_rule at hf
  refine lv_aload_n C.1 C.2.1 dX11_rule_0 rfl (lv_at hl 0 rfl) ?_
  refine lv_iload_n C.1 C.2.1 dX11_rule_1 rfl (lv_at hl 2 rfl) ?_
  obtain ⟨x1, m2, r3, hf⟩ := bd2_s hf
  refine x_cr hW (x_runV C hW [.int a2] [] (ha0).1 (ha0).2.1 kX11.1 kvX11_rowOf q_365 (tX11_rowOf l C.2.2.2.2.2.2.1 ha0 r3) rfl rfl ⟨by decide, by decide⟩ rfl hl.1 rfl (Nat.le_of_ble_eq_true rfl) dX11_rule_2) (fun H locs hW => ?_)
  refine x_astore_n (lv' := [(3, va_re ad x1), (0, .ref (ad a0)), (1, .int a1), (2, .int a2)]) C dX11_rule_5 rfl hl (by decide) rfl (fun ls hl => ?_)
  refine lv_iload_n C.1 C.2.1 dX11_rule_6 rfl (lv_at hl 2 rfl) ?_
  refine lv_if_lt (tgt := 20) C.1 C.2.1 dX11_rule_7 (by decide) (fun c4 => ?_) (fun c4 => ?_)
  · have hf := if_t c4 hf
    refine lv_iconst (v := (-1)) C.1 C.2.1 dX11_rule_20 (by decide) ?_
    cases hf
    exact x_iret C hW dX11_rule_21
  · have hf := if_f c4 hf
    refine lv_iload_n C.1 C.2.1 dX11_rule_10 rfl (lv_at hl 2 rfl) ?_
    refine lv_bipush (v := 6) C.1 C.2.1 dX11_rule_11 (by decide) ?_
    refine lv_icmp_ge (tgt := 20) C.1 C.2.1 dX11_rule_13 (by decide) (fun c5 => ?_) (fun c5 => ?_)
    · have hf := if_t c5 hf
      refine lv_iconst (v := (-1)) C.1 C.2.1 dX11_rule_20 (by decide) ?_
      cases hf
      exact x_iret C hW dX11_rule_21
    · have hf := if_f c5 hf
      refine x_aload_n C dX11_rule_16 rfl (lv_at hl 0 rfl) ?_
      refine x_ifnonnull C (tgt := 22) dX11_rule_17 (by decide) (fun n7 => ?_) (fun z6 n7 => ?_)
      · subst n7
        have hf := cs_n hf
        refine lv_iconst (v := (-1)) C.1 C.2.1 dX11_rule_20 (by decide) ?_
        cases hf
        exact x_iret C hW dX11_rule_21
      · subst n7
        have hf := cs_q hf
        refine lv_aload_n C.1 C.2.1 dX11_rule_22 rfl (lv_at hl 1 rfl) ?_
        refine x_getr C hW (ha0).1 (ha0).2.1 (j := 2) rfl kX11 (by decide) rfl q_311 dX11_rule_23 ?_
        refine x_geti C hW (ha0.2.2.2.2.1).1 (ha0.2.2.2.2.1).2.1 (j := 5) rfl kX0 (by decide) rfl q_73 dX11_rule_26 ?_
        refine lv_if_ne (tgt := 38) C.1 C.2.1 dX11_rule_29 (by decide) (fun c8 => ?_) (fun c8 => ?_)
        · have hf := if_f c8 hf
          refine lv_aload_n C.1 C.2.1 dX11_rule_38 rfl (lv_at hl 1 rfl) ?_
          refine x_getr C hW (ha0).1 (ha0).2.1 (j := 11) rfl kX11 (by decide) rfl q_320 dX11_rule_39 ?_
          refine lv_aload_n C.1 C.2.1 dX11_rule_42 rfl (lv_at hl 1 rfl) ?_
          refine x_getr C hW (ha0).1 (ha0).2.1 (j := 2) rfl kX11 (by decide) rfl q_311 dX11_rule_43 ?_
          refine lv_iload_n C.1 C.2.1 dX11_rule_46 rfl (lv_at hl 2 rfl) ?_
          refine lv_aload_n C.1 C.2.1 dX11_rule_47 rfl (lv_at hl 1 rfl) ?_
          refine x_getr C hW (ha0).1 (ha0).2.1 (j := 2) rfl kX11 (by decide) rfl q_311 dX11_rule_48 ?_
          refine x_geti C hW (ha0.2.2.2.2.1).1 (ha0.2.2.2.2.1).2.1 (j := 7) rfl kX0 (by decide) rfl q_81 dX11_rule_51 ?_
          obtain ⟨x9, m10, r11, hf⟩ := bd2_s hf
          refine x_cv hW (x_runV C hW [.ref (ad (fr a0 2)), .int a1, .int (rd m2 (fr a0 2) 7)] [] (ha0.2.2.2.2.2.2.2.2.2.2.2.2.2.1).1 (ha0.2.2.2.2.2.2.2.2.2.2.2.2.2.1).2.1 kX2.1 kvX2_layBy q_846 (tX2_layBy l C.2.2.2.2.2.2.1 ha0.2.2.2.2.2.2.2.2.2.2.2.2.2.1 ha0.2.2.2.2.1 r11) rfl rfl ⟨by decide, by decide⟩ rfl hl.1 rfl (Nat.le_of_ble_eq_true rfl) dX11_rule_54) (fun H locs hW => ?_)
          refine lv_aload_n C.1 C.2.1 dX11_rule_57 rfl (lv_at hl 0 rfl) ?_
          refine lv_aload_n C.1 C.2.1 dX11_rule_58 rfl (lv_at hl 1 rfl) ?_
          refine x_getr C hW (ha0).1 (ha0).2.1 (j := 11) rfl kX11 (by decide) rfl q_320 dX11_rule_59 ?_
          refine x_getr C hW (ha0.2.2.2.2.2.2.2.2.2.2.2.2.2.1).1 (ha0.2.2.2.2.2.2.2.2.2.2.2.2.2.1).2.1 (j := 0) rfl kX2 (by decide) rfl q_274 dX11_rule_62 ?_
          refine lv_aload_n C.1 C.2.1 dX11_rule_65 rfl (lv_at hl 1 rfl) ?_
          refine x_getr C hW (ha0).1 (ha0).2.1 (j := 2) rfl kX11 (by decide) rfl q_311 dX11_rule_66 ?_
          refine x_geti C hW (ha0.2.2.2.2.1).1 (ha0.2.2.2.2.1).2.1 (j := 5) rfl kX0 (by decide) rfl q_73 dX11_rule_69 ?_
          obtain ⟨x12, m13, r14, hf⟩ := bd2_s hf
          refine x_cv hW (x_runV C hW [.ref (ad (fr (fr a0 11) 0)), .int (rd m10 (fr a0 2) 5)] [] (((gX11_rowOf ha0 r3) z6 rfl)).1 (((gX11_rowOf ha0 r3) z6 rfl)).2.1 kX6.1 kvX6_take q_644 (tX6_take l C.2.2.2.2.2.2.1 ((gX11_rowOf ha0 r3) z6 rfl) ha0.2.2.2.2.2.2.2.2.2.2.2.2.2.1.2.2.1 r14) rfl rfl ⟨by decide, by decide⟩ rfl hl.1 rfl (Nat.le_of_ble_eq_true rfl) dX11_rule_72) (fun H locs hW => ?_)
          refine lv_aload_n C.1 C.2.1 dX11_rule_75 rfl (lv_at hl 0 rfl) ?_
          obtain ⟨x15, m16, r17, hf⟩ := bd2_s hf
          refine x_cl hW (x_runV C hW [] [] (((gX11_rowOf ha0 r3) z6 rfl)).1 (((gX11_rowOf ha0 r3) z6 rfl)).2.1 kX6.1 kvX6_total q_419 (tX6_total l C.2.2.2.2.2.2.1 ((gX11_rowOf ha0 r3) z6 rfl) r17) rfl rfl ⟨by decide, by decide⟩ rfl hl.1 rfl (Nat.le_of_ble_eq_true rfl) dX11_rule_76) (fun H locs hW => ?_)
          refine lv_l2i C.1 C.2.1 dX11_rule_79 rfl ?_
          cases hf
          exact x_iret C hW dX11_rule_80
        · have hf := if_t c8 hf
          refine lv_aload_n C.1 C.2.1 dX11_rule_32 rfl (lv_at hl 1 rfl) ?_
          refine lv_iconst (v := 4) C.1 C.2.1 dX11_rule_33 (by decide) ?_
          obtain ⟨x18, m19, r20, hf⟩ := bd2_s hf
          refine x_ci hW (x_runV C hW [.int 4] [] (ha0).1 (ha0).2.1 kX11.1 kvX11_refused q_369 (tX11_refused l C.2.2.2.2.2.2.1 ha0 r20) rfl rfl ⟨by decide, by decide⟩ rfl hl.1 rfl (Nat.le_of_ble_eq_true rfl) dX11_rule_34) (fun H locs hW => ?_)
          cases hf
          exact x_iret C hW dX11_rule_37
set_option maxRecDepth 100000 in
set_option maxHeartbeats 4000000 in
theorem tX11_rule (l : Launch) {D : va_G} {ca ad : Nat → Nat} (hi : Inj ad) {N : Nat} {a0 : Nat} {a1 : Int32} {a2 : Int32} {mm : Mm} {res : Int32 × Mm} (ha0 : sX11 a0) (hf : fX11_rule N a0 a1 a2 mm = some res) : Met l yX11_rule (WS yX11_rule cX11_rule 4 (some .int)) (rmX11_rule) (va_Pc [.ref (ad a0), .int a1, .int a2] (WB D ca ad mm)) (QI D ca ad res) 0 0 (AA ad) := by
  refine x_start hi (by decide) rfl (Nat.le_of_ble_eq_true rfl) (fun p e s m args below meth c ls C hW hl => ?_)
  exact wX11_rule_0 C ha0 hW (lv_sub hl [0, 1, 2] rfl) hf
set_option maxRecDepth 100000 in
set_option maxHeartbeats 4000000 in
theorem wX11_note_0 (C : Cx p s m meth c args cX11_note 4 (some .int) RX11 D ca ad) {res : Int32 × Mm} {N : Nat}  {a0 : Nat} {a1 : Int32} {a2 : Int32} {mm : Mm} {H : Heap} {locs : List Loc} {ls : Array Slot} (ha0 : sX11 a0) (hW : Wd D ca ad s.heap mm H locs) (hl : lv_has ls 4 [(0, .ref (ad a0)), (1, .int a1), (2, .int a2)]) (hf : fX11_note N a0 a1 a2 mm = some res) : W p l e (rmX11_note) s m args below meth c H locs 0 0 (MQ below (QI D ca ad res) args s 0 0 (AA ad)) (F0 m 0 ls []) := by
  unfold fX11_note at hf
  refine lv_aload_n C.1 C.2.1 dX11_note_0 rfl (lv_at hl 0 rfl) ?_
  refine lv_iload_n C.1 C.2.1 dX11_note_1 rfl (lv_at hl 1 rfl) ?_
  obtain ⟨x1, m2, r3, hf⟩ := bd2_s hf
  refine x_cr hW (x_runV C hW [.int a1] [] (ha0).1 (ha0).2.1 kX11.1 kvX11_rowOf q_365 (tX11_rowOf l C.2.2.2.2.2.2.1 ha0 r3) rfl rfl ⟨by decide, by decide⟩ rfl hl.1 rfl (Nat.le_of_ble_eq_true rfl) dX11_note_2) (fun H locs hW => ?_)
  refine x_astore_n (lv' := [(3, va_re ad x1), (0, .ref (ad a0)), (1, .int a1), (2, .int a2)]) C dX11_note_5 rfl hl (by decide) rfl (fun ls hl => ?_)
  refine x_aload_n C dX11_note_6 rfl (lv_at hl 0 rfl) ?_
  refine x_ifnull C (tgt := 27) dX11_note_7 (by decide) (fun n5 => ?_) (fun z4 n5 => ?_)
  · subst n5
    have hf := cs_n hf
    refine lv_iconst (v := (-1)) C.1 C.2.1 dX11_note_27 (by decide) ?_
    cases hf
    exact x_iret C hW dX11_note_28
  · subst n5
    have hf := cs_q hf
    refine lv_iload_n C.1 C.2.1 dX11_note_10 rfl (lv_at hl 3 rfl) ?_
    refine lv_if_lt (tgt := 27) C.1 C.2.1 dX11_note_11 (by decide) (fun c6 => ?_) (fun c6 => ?_)
    · have hf := if_t c6 hf
      refine lv_iconst (v := (-1)) C.1 C.2.1 dX11_note_27 (by decide) ?_
      cases hf
      exact x_iret C hW dX11_note_28
    · have hf := if_f c6 hf
      refine lv_iload_n C.1 C.2.1 dX11_note_14 rfl (lv_at hl 3 rfl) ?_
      refine lv_iconst (v := 1) C.1 C.2.1 dX11_note_15 (by decide) ?_
      refine lv_aload_n C.1 C.2.1 dX11_note_16 rfl (lv_at hl 1 rfl) ?_
      refine x_getr C hW (ha0).1 (ha0).2.1 (j := 2) rfl kX11 (by decide) rfl q_311 dX11_note_17 ?_
      refine x_geti C hW (ha0.2.2.2.2.1).1 (ha0.2.2.2.2.1).2.1 (j := 5) rfl kX0 (by decide) rfl q_73 dX11_note_20 ?_
      refine lv_ishl C.1 C.2.1 dX11_note_23 ?_
      refine lv_icmp_lt (tgt := 29) C.1 C.2.1 dX11_note_24 (by decide) (fun c7 => ?_) (fun c7 => ?_)
      · have hf := if_t c7 hf
        refine lv_aload_n C.1 C.2.1 dX11_note_29 rfl (lv_at hl 1 rfl) ?_
        refine lv_aload_n C.1 C.2.1 dX11_note_30 rfl (lv_at hl 0 rfl) ?_
        refine lv_iconst (v := 0) C.1 C.2.1 dX11_note_31 (by decide) ?_
        obtain ⟨x8, m9, r10, hf⟩ := bd2_s hf
        refine x_ci hW (x_runV C hW [.ref (ad z4), .int 0] [] (ha0).1 (ha0).2.1 kX11.1 kvX11_isWrong q_605 (tX11_isWrong l C.2.2.2.2.2.2.1 ha0 ((gX11_rowOf ha0 r3) z4 rfl) r10) rfl rfl ⟨by decide, by decide⟩ rfl hl.1 rfl (Nat.le_of_ble_eq_true rfl) dX11_note_32) (fun H locs hW => ?_)
        refine lv_if_eq (tgt := 41) C.1 C.2.1 dX11_note_35 (by decide) (fun c11 => ?_) (fun c11 => ?_)
        · have hf := if_t c11 hf
          refine lv_aload_n C.1 C.2.1 dX11_note_41 rfl (lv_at hl 1 rfl) ?_
          refine x_getr C hW (ha0).1 (ha0).2.1 (j := 2) rfl kX11 (by decide) rfl q_311 dX11_note_42 ?_
          refine x_geti C hW (ha0.2.2.2.2.1).1 (ha0.2.2.2.2.1).2.1 (j := 7) rfl kX0 (by decide) rfl q_81 dX11_note_45 ?_
          refine lv_bipush (v := 8) C.1 C.2.1 dX11_note_48 (by decide) ?_
          refine lv_icmp_lt (tgt := 56) C.1 C.2.1 dX11_note_50 (by decide) (fun c12 => ?_) (fun c12 => ?_)
          · have hf := if_t c12 hf
            refine lv_aload_n C.1 C.2.1 dX11_note_56 rfl (lv_at hl 1 rfl) ?_
            refine x_getr C hW (ha0).1 (ha0).2.1 (j := 2) rfl kX11 (by decide) rfl q_311 dX11_note_57 ?_
            refine lv_aload_n C.1 C.2.1 dX11_note_60 rfl (lv_at hl 0 rfl) ?_
            refine x_getr C hW (((gX11_rowOf ha0 r3) z4 rfl)).1 (((gX11_rowOf ha0 r3) z4 rfl)).2.1 (j := 0) rfl kX6 (by decide) rfl q_300 dX11_note_61 ?_
            refine lv_iload_n C.1 C.2.1 dX11_note_64 rfl (lv_at hl 3 rfl) ?_
            obtain ⟨x13, m14, r15, hf⟩ := bd2_s hf
            refine x_cv hW (x_runV C hW [.ref (ad (fr z4 0)), .int a2] [] (ha0.2.2.2.2.1).1 (ha0.2.2.2.2.1).2.1 kX0.1 kvX0_write q_877 (tX0_write l C.2.2.2.2.2.2.1 ha0.2.2.2.2.1 (((gX11_rowOf ha0 r3) z4 rfl).2.2) r15) rfl rfl ⟨by decide, by decide⟩ rfl hl.1 rfl (Nat.le_of_ble_eq_true rfl) dX11_note_65) (fun H locs hW => ?_)
            refine lv_aload_n C.1 C.2.1 dX11_note_68 rfl (lv_at hl 1 rfl) ?_
            refine x_getr C hW (ha0).1 (ha0).2.1 (j := 2) rfl kX11 (by decide) rfl q_311 dX11_note_69 ?_
            refine x_geti C hW (ha0.2.2.2.2.1).1 (ha0.2.2.2.2.1).2.1 (j := 7) rfl kX0 (by decide) rfl q_81 dX11_note_72 ?_
            refine lv_iconst (v := 1) C.1 C.2.1 dX11_note_75 (by decide) ?_
            refine lv_isub C.1 C.2.1 dX11_note_76 ?_
            cases hf
            exact x_iret C hW dX11_note_77
          · have hf := if_f c12 hf
            refine lv_bipush (v := (-2)) C.1 C.2.1 dX11_note_53 (by decide) ?_
            cases hf
            exact x_iret C hW dX11_note_55
        · have hf := if_f c11 hf
          refine lv_bipush (v := (-3)) C.1 C.2.1 dX11_note_38 (by decide) ?_
          cases hf
          exact x_iret C hW dX11_note_40
      · have hf := if_f c7 hf
        refine lv_iconst (v := (-1)) C.1 C.2.1 dX11_note_27 (by decide) ?_
        cases hf
        exact x_iret C hW dX11_note_28
set_option maxRecDepth 100000 in
set_option maxHeartbeats 4000000 in
theorem tX11_note (l : Launch) {D : va_G} {ca ad : Nat → Nat} (hi : Inj ad) {N : Nat} {a0 : Nat} {a1 : Int32} {a2 : Int32} {mm : Mm} {res : Int32 × Mm} (ha0 : sX11 a0) (hf : fX11_note N a0 a1 a2 mm = some res) : Met l yX11_note (WS yX11_note cX11_note 4 (some .int)) (rmX11_note) (va_Pc [.ref (ad a0), .int a1, .int a2] (WB D ca ad mm)) (QI D ca ad res) 0 0 (AA ad) := by
  refine x_start hi (by decide) rfl (Nat.le_of_ble_eq_true rfl) (fun p e s m args below meth c ls C hW hl => ?_)
  exact wX11_note_0 C ha0 hW (lv_sub hl [0, 1, 2] rfl) hf
set_option maxRecDepth 100000 in
set_option maxHeartbeats 4000000 in
theorem wX11_back_0 (C : Cx p s m meth c args cX11_back 3 (some .int) RX11 D ca ad) {res : Int32 × Mm} {N : Nat}  {a0 : Nat} {a1 : Int32} {mm : Mm} {H : Heap} {locs : List Loc} {ls : Array Slot} (ha0 : sX11 a0) (hW : Wd D ca ad s.heap mm H locs) (hl : lv_has ls 3 [(0, .ref (ad a0)), (1, .int a1)]) (hf : fX11_back N a0 a1 mm = some res) : W p l e (rmX11_back) s m args below meth c H locs 0 0 (MQ below (QI D ca ad res) args s 0 0 (AA ad)) (F0 m 0 ls []) := by
  unfold fX11_back at hf
  refine lv_iload_n C.1 C.2.1 dX11_back_0 rfl (lv_at hl 1 rfl) ?_
  refine lv_if_lt (tgt := 15) C.1 C.2.1 dX11_back_1 (by decide) (fun c1 => ?_) (fun c1 => ?_)
  · have hf := if_t c1 hf
    refine lv_iconst (v := (-1)) C.1 C.2.1 dX11_back_15 (by decide) ?_
    cases hf
    exact x_iret C hW dX11_back_16
  · have hf := if_f c1 hf
    refine lv_iload_n C.1 C.2.1 dX11_back_4 rfl (lv_at hl 1 rfl) ?_
    refine lv_aload_n C.1 C.2.1 dX11_back_5 rfl (lv_at hl 0 rfl) ?_
    refine x_getr C hW (ha0).1 (ha0).2.1 (j := 2) rfl kX11 (by decide) rfl q_311 dX11_back_6 ?_
    refine x_geti C hW (ha0.2.2.2.2.1).1 (ha0.2.2.2.2.1).2.1 (j := 7) rfl kX0 (by decide) rfl q_81 dX11_back_9 ?_
    refine lv_icmp_le (tgt := 17) C.1 C.2.1 dX11_back_12 (by decide) (fun c2 => ?_) (fun c2 => ?_)
    · have hf := if_t c2 hf
      refine lv_aload_n C.1 C.2.1 dX11_back_17 rfl (lv_at hl 0 rfl) ?_
      refine x_getr C hW (ha0).1 (ha0).2.1 (j := 2) rfl kX11 (by decide) rfl q_311 dX11_back_18 ?_
      refine x_geti C hW (ha0.2.2.2.2.1).1 (ha0.2.2.2.2.1).2.1 (j := 7) rfl kX0 (by decide) rfl q_81 dX11_back_21 ?_
      refine lv_iload_n C.1 C.2.1 dX11_back_24 rfl (lv_at hl 1 rfl) ?_
      refine lv_isub C.1 C.2.1 dX11_back_25 ?_
      refine lv_istore_n (lv' := [(2, .int ((rd mm (fr a0 2) 7) - a1)), (0, .ref (ad a0)), (1, .int a1)]) C.1 C.2.1 dX11_back_26 rfl hl (by decide) rfl (fun ls hl => ?_)
      refine lv_aload_n C.1 C.2.1 dX11_back_27 rfl (lv_at hl 1 rfl) ?_
      refine x_getr C hW (ha0).1 (ha0).2.1 (j := 2) rfl kX11 (by decide) rfl q_311 dX11_back_28 ?_
      refine lv_iload_n C.1 C.2.1 dX11_back_31 rfl (lv_at hl 2 rfl) ?_
      refine x_put C hW (ha0.2.2.2.2.1).1 (ha0.2.2.2.2.1).2.1 (j := 7) (t1 := .int) rfl kX0 (by decide) rfl rfl q_81 (by decide +kernel) rfl rfl dX11_back_32 (fun H locs hW => ?_)
      obtain ⟨m3, em3⟩ : ∃ z, z = wr mm (fr a0 2) 7 a1 := ⟨_, rfl⟩
      have hf := nm_s hf em3
      rw [← em3] at hW
      refine lv_iload_n C.1 C.2.1 dX11_back_35 rfl (lv_at hl 0 rfl) ?_
      cases hf
      exact x_iret C hW dX11_back_36
    · have hf := if_f c2 hf
      refine lv_iconst (v := (-1)) C.1 C.2.1 dX11_back_15 (by decide) ?_
      cases hf
      exact x_iret C hW dX11_back_16
set_option maxRecDepth 100000 in
set_option maxHeartbeats 4000000 in
theorem tX11_back (l : Launch) {D : va_G} {ca ad : Nat → Nat} (hi : Inj ad) {N : Nat} {a0 : Nat} {a1 : Int32} {mm : Mm} {res : Int32 × Mm} (ha0 : sX11 a0) (hf : fX11_back N a0 a1 mm = some res) : Met l yX11_back (WS yX11_back cX11_back 3 (some .int)) (rmX11_back) (va_Pc [.ref (ad a0), .int a1] (WB D ca ad mm)) (QI D ca ad res) 0 0 (AA ad) := by
  refine x_start hi (by decide) rfl (Nat.le_of_ble_eq_true rfl) (fun p e s m args below meth c ls C hW hl => ?_)
  exact wX11_back_0 C ha0 hW (lv_sub hl [0, 1] rfl) hf
end W_files18
