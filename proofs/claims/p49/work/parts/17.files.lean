theorem dX11_mixed_0 : decode cX11_mixed 0 = .ok (.aload_n 0, 1) := by decide +kernel
theorem dX11_mixed_1 : decode cX11_mixed 1 = .ok (.iload_n 1, 1) := by decide +kernel
theorem dX11_mixed_2 : decode cX11_mixed 2 = .ok (.invokevirtual 96, 3) := by decide +kernel
theorem dX11_mixed_5 : decode cX11_mixed 5 = .ok (.astore 5, 2) := by decide +kernel
theorem dX11_mixed_7 : decode cX11_mixed 7 = .ok (.aload_n 0, 1) := by decide +kernel
theorem dX11_mixed_8 : decode cX11_mixed 8 = .ok (.iload_n 2, 1) := by decide +kernel
theorem dX11_mixed_9 : decode cX11_mixed 9 = .ok (.invokevirtual 96, 3) := by decide +kernel
theorem dX11_mixed_12 : decode cX11_mixed 12 = .ok (.astore 6, 2) := by decide +kernel
theorem dX11_mixed_14 : decode cX11_mixed 14 = .ok (.aload 5, 2) := by decide +kernel
theorem dX11_mixed_16 : decode cX11_mixed 16 = .ok (.ifnull 31, 3) := by decide +kernel
theorem dX11_mixed_19 : decode cX11_mixed 19 = .ok (.aload 6, 2) := by decide +kernel
theorem dX11_mixed_21 : decode cX11_mixed 21 = .ok (.ifnull 26, 3) := by decide +kernel
theorem dX11_mixed_24 : decode cX11_mixed 24 = .ok (.iload 4, 2) := by decide +kernel
theorem dX11_mixed_26 : decode cX11_mixed 26 = .ok (.iconst 1, 1) := by decide +kernel
theorem dX11_mixed_27 : decode cX11_mixed 27 = .ok (.if_icmp .lt 20, 3) := by decide +kernel
theorem dX11_mixed_30 : decode cX11_mixed 30 = .ok (.iload 4, 2) := by decide +kernel
theorem dX11_mixed_32 : decode cX11_mixed 32 = .ok (.bipush 99, 2) := by decide +kernel
theorem dX11_mixed_34 : decode cX11_mixed 34 = .ok (.if_icmp .gt 13, 3) := by decide +kernel
theorem dX11_mixed_37 : decode cX11_mixed 37 = .ok (.iload_n 3, 1) := by decide +kernel
theorem dX11_mixed_38 : decode cX11_mixed 38 = .ok (.ifCond .lt 9, 3) := by decide +kernel
theorem dX11_mixed_41 : decode cX11_mixed 41 = .ok (.iload_n 3, 1) := by decide +kernel
theorem dX11_mixed_42 : decode cX11_mixed 42 = .ok (.iload 4, 2) := by decide +kernel
theorem dX11_mixed_44 : decode cX11_mixed 44 = .ok (.if_icmp .le 5, 3) := by decide +kernel
theorem dX11_mixed_47 : decode cX11_mixed 47 = .ok (.iconst (-1), 1) := by decide +kernel
theorem dX11_mixed_48 : decode cX11_mixed 48 = .ok (.ireturn, 1) := by decide +kernel
theorem dX11_mixed_49 : decode cX11_mixed 49 = .ok (.aload_n 0, 1) := by decide +kernel
theorem dX11_mixed_50 : decode cX11_mixed 50 = .ok (.iconst 1, 1) := by decide +kernel
theorem dX11_mixed_51 : decode cX11_mixed 51 = .ok (.invokevirtual 268, 3) := by decide +kernel
theorem dX11_mixed_54 : decode cX11_mixed 54 = .ok (.ifCond .eq 6, 3) := by decide +kernel
theorem dX11_mixed_57 : decode cX11_mixed 57 = .ok (.bipush (-6), 2) := by decide +kernel
theorem dX11_mixed_59 : decode cX11_mixed 59 = .ok (.ireturn, 1) := by decide +kernel
theorem dX11_mixed_60 : decode cX11_mixed 60 = .ok (.aload_n 0, 1) := by decide +kernel
theorem dX11_mixed_61 : decode cX11_mixed 61 = .ok (.aload 5, 2) := by decide +kernel
theorem dX11_mixed_63 : decode cX11_mixed 63 = .ok (.iconst 0, 1) := by decide +kernel
theorem dX11_mixed_64 : decode cX11_mixed 64 = .ok (.aload 6, 2) := by decide +kernel
theorem dX11_mixed_66 : decode cX11_mixed 66 = .ok (.iconst 0, 1) := by decide +kernel
theorem dX11_mixed_67 : decode cX11_mixed 67 = .ok (.invokevirtual 202, 3) := by decide +kernel
theorem dX11_mixed_70 : decode cX11_mixed 70 = .ok (.ifCond .eq 6, 3) := by decide +kernel
theorem dX11_mixed_73 : decode cX11_mixed 73 = .ok (.bipush (-3), 2) := by decide +kernel
theorem dX11_mixed_75 : decode cX11_mixed 75 = .ok (.ireturn, 1) := by decide +kernel
theorem dX11_mixed_76 : decode cX11_mixed 76 = .ok (.aload_n 0, 1) := by decide +kernel
theorem dX11_mixed_77 : decode cX11_mixed 77 = .ok (.getfield 67, 3) := by decide +kernel
theorem dX11_mixed_80 : decode cX11_mixed 80 = .ok (.aload_n 0, 1) := by decide +kernel
theorem dX11_mixed_81 : decode cX11_mixed 81 = .ok (.getfield 21, 3) := by decide +kernel
theorem dX11_mixed_84 : decode cX11_mixed 84 = .ok (.aload_n 0, 1) := by decide +kernel
theorem dX11_mixed_85 : decode cX11_mixed 85 = .ok (.getfield 46, 3) := by decide +kernel
theorem dX11_mixed_88 : decode cX11_mixed 88 = .ok (.aload 5, 2) := by decide +kernel
theorem dX11_mixed_90 : decode cX11_mixed 90 = .ok (.getfield 116, 3) := by decide +kernel
theorem dX11_mixed_93 : decode cX11_mixed 93 = .ok (.aload 6, 2) := by decide +kernel
theorem dX11_mixed_95 : decode cX11_mixed 95 = .ok (.getfield 116, 3) := by decide +kernel
theorem dX11_mixed_98 : decode cX11_mixed 98 = .ok (.invokevirtual 271, 3) := by decide +kernel
theorem dX11_mixed_101 : decode cX11_mixed 101 = .ok (.aload_n 0, 1) := by decide +kernel
theorem dX11_mixed_102 : decode cX11_mixed 102 = .ok (.aload_n 0, 1) := by decide +kernel
theorem dX11_mixed_103 : decode cX11_mixed 103 = .ok (.getfield 67, 3) := by decide +kernel
theorem dX11_mixed_106 : decode cX11_mixed 106 = .ok (.iload_n 3, 1) := by decide +kernel
theorem dX11_mixed_107 : decode cX11_mixed 107 = .ok (.iload 4, 2) := by decide +kernel
theorem dX11_mixed_109 : decode cX11_mixed 109 = .ok (.invokevirtual 275, 3) := by decide +kernel
theorem dX11_mixed_112 : decode cX11_mixed 112 = .ok (.i2l, 1) := by decide +kernel
theorem dX11_mixed_113 : decode cX11_mixed 113 = .ok (.iload 4, 2) := by decide +kernel
theorem dX11_mixed_115 : decode cX11_mixed 115 = .ok (.i2l, 1) := by decide +kernel
theorem dX11_mixed_116 : decode cX11_mixed 116 = .ok (.invokevirtual 260, 3) := by decide +kernel
theorem dX11_mixed_119 : decode cX11_mixed 119 = .ok (.iconst 1, 1) := by decide +kernel
theorem dX11_mixed_120 : decode cX11_mixed 120 = .ok (.ireturn, 1) := by decide +kernel
theorem dX11_mix_0 : decode cX11_mix 0 = .ok (.aload_n 0, 1) := by decide +kernel
theorem dX11_mix_1 : decode cX11_mix 1 = .ok (.iload_n 1, 1) := by decide +kernel
theorem dX11_mix_2 : decode cX11_mix 2 = .ok (.invokevirtual 96, 3) := by decide +kernel
theorem dX11_mix_5 : decode cX11_mix 5 = .ok (.astore_n 3, 1) := by decide +kernel
theorem dX11_mix_6 : decode cX11_mix 6 = .ok (.aload_n 0, 1) := by decide +kernel
theorem dX11_mix_7 : decode cX11_mix 7 = .ok (.iload_n 2, 1) := by decide +kernel
theorem dX11_mix_8 : decode cX11_mix 8 = .ok (.invokevirtual 96, 3) := by decide +kernel
theorem dX11_mix_11 : decode cX11_mix 11 = .ok (.astore 4, 2) := by decide +kernel
theorem dX11_mix_13 : decode cX11_mix 13 = .ok (.aload_n 3, 1) := by decide +kernel
theorem dX11_mix_14 : decode cX11_mix 14 = .ok (.ifnull 8, 3) := by decide +kernel
theorem dX11_mix_17 : decode cX11_mix 17 = .ok (.aload 4, 2) := by decide +kernel
theorem dX11_mix_19 : decode cX11_mix 19 = .ok (.ifnonnull 5, 3) := by decide +kernel
theorem dX11_mix_22 : decode cX11_mix 22 = .ok (.iconst (-1), 1) := by decide +kernel
theorem dX11_mix_23 : decode cX11_mix 23 = .ok (.ireturn, 1) := by decide +kernel
theorem dX11_mix_24 : decode cX11_mix 24 = .ok (.aload_n 0, 1) := by decide +kernel
theorem dX11_mix_25 : decode cX11_mix 25 = .ok (.iconst 1, 1) := by decide +kernel
theorem dX11_mix_26 : decode cX11_mix 26 = .ok (.invokevirtual 268, 3) := by decide +kernel
theorem dX11_mix_29 : decode cX11_mix 29 = .ok (.ifCond .eq 6, 3) := by decide +kernel
theorem dX11_mix_32 : decode cX11_mix 32 = .ok (.bipush (-6), 2) := by decide +kernel
theorem dX11_mix_34 : decode cX11_mix 34 = .ok (.ireturn, 1) := by decide +kernel
theorem dX11_mix_35 : decode cX11_mix 35 = .ok (.aload_n 0, 1) := by decide +kernel
theorem dX11_mix_36 : decode cX11_mix 36 = .ok (.aload_n 3, 1) := by decide +kernel
theorem dX11_mix_37 : decode cX11_mix 37 = .ok (.iconst 0, 1) := by decide +kernel
theorem dX11_mix_38 : decode cX11_mix 38 = .ok (.aload 4, 2) := by decide +kernel
theorem dX11_mix_40 : decode cX11_mix 40 = .ok (.iconst 0, 1) := by decide +kernel
theorem dX11_mix_41 : decode cX11_mix 41 = .ok (.invokevirtual 202, 3) := by decide +kernel
theorem dX11_mix_44 : decode cX11_mix 44 = .ok (.ifCond .eq 6, 3) := by decide +kernel
theorem dX11_mix_47 : decode cX11_mix 47 = .ok (.bipush (-3), 2) := by decide +kernel
theorem dX11_mix_49 : decode cX11_mix 49 = .ok (.ireturn, 1) := by decide +kernel
theorem dX11_mix_50 : decode cX11_mix 50 = .ok (.aload_n 0, 1) := by decide +kernel
theorem dX11_mix_51 : decode cX11_mix 51 = .ok (.getfield 67, 3) := by decide +kernel
theorem dX11_mix_54 : decode cX11_mix 54 = .ok (.aload_n 0, 1) := by decide +kernel
theorem dX11_mix_55 : decode cX11_mix 55 = .ok (.getfield 21, 3) := by decide +kernel
theorem dX11_mix_58 : decode cX11_mix 58 = .ok (.aload_n 0, 1) := by decide +kernel
theorem dX11_mix_59 : decode cX11_mix 59 = .ok (.getfield 46, 3) := by decide +kernel
theorem dX11_mix_62 : decode cX11_mix 62 = .ok (.aload_n 3, 1) := by decide +kernel
theorem dX11_mix_63 : decode cX11_mix 63 = .ok (.getfield 116, 3) := by decide +kernel
theorem dX11_mix_66 : decode cX11_mix 66 = .ok (.aload 4, 2) := by decide +kernel
theorem dX11_mix_68 : decode cX11_mix 68 = .ok (.getfield 116, 3) := by decide +kernel
theorem dX11_mix_71 : decode cX11_mix 71 = .ok (.invokevirtual 271, 3) := by decide +kernel
theorem dX11_mix_74 : decode cX11_mix 74 = .ok (.aload_n 0, 1) := by decide +kernel
theorem dX11_mix_75 : decode cX11_mix 75 = .ok (.getfield 67, 3) := by decide +kernel
theorem dX11_mix_78 : decode cX11_mix 78 = .ok (.invokevirtual 278, 3) := by decide +kernel
theorem dX11_mix_81 : decode cX11_mix 81 = .ok (.istore 5, 2) := by decide +kernel
theorem dX11_mix_83 : decode cX11_mix 83 = .ok (.aload_n 0, 1) := by decide +kernel
theorem dX11_mix_84 : decode cX11_mix 84 = .ok (.aload_n 0, 1) := by decide +kernel
theorem dX11_mix_85 : decode cX11_mix 85 = .ok (.getfield 67, 3) := by decide +kernel
theorem dX11_mix_88 : decode cX11_mix 88 = .ok (.iload 5, 2) := by decide +kernel
theorem dX11_mix_90 : decode cX11_mix 90 = .ok (.bipush 12, 2) := by decide +kernel
theorem dX11_mix_92 : decode cX11_mix 92 = .ok (.invokevirtual 275, 3) := by decide +kernel
theorem dX11_mix_95 : decode cX11_mix 95 = .ok (.i2l, 1) := by decide +kernel
theorem dX11_mix_96 : decode cX11_mix 96 = .ok (.ldc2_w 281, 3) := by decide +kernel
theorem dX11_mix_99 : decode cX11_mix 99 = .ok (.invokevirtual 260, 3) := by decide +kernel
theorem dX11_mix_102 : decode cX11_mix 102 = .ok (.iload 5, 2) := by decide +kernel
theorem dX11_mix_104 : decode cX11_mix 104 = .ok (.ireturn, 1) := by decide +kernel
theorem dX11_isInTurn_0 : decode cX11_isInTurn 0 = .ok (.iload_n 0, 1) := by decide +kernel
theorem dX11_isInTurn_1 : decode cX11_isInTurn 1 = .ok (.ifCond .lt 13, 3) := by decide +kernel
theorem dX11_isInTurn_4 : decode cX11_isInTurn 4 = .ok (.iload_n 0, 1) := by decide +kernel
theorem dX11_isInTurn_5 : decode cX11_isInTurn 5 = .ok (.bipush 15, 2) := by decide +kernel
theorem dX11_isInTurn_7 : decode cX11_isInTurn 7 = .ok (.if_icmp .gt 7, 3) := by decide +kernel
theorem dX11_isInTurn_10 : decode cX11_isInTurn 10 = .ok (.iconst 1, 1) := by decide +kernel
theorem dX11_isInTurn_11 : decode cX11_isInTurn 11 = .ok (.goto 4, 3) := by decide +kernel
theorem dX11_isInTurn_14 : decode cX11_isInTurn 14 = .ok (.iconst 0, 1) := by decide +kernel
theorem dX11_isInTurn_15 : decode cX11_isInTurn 15 = .ok (.ireturn, 1) := by decide +kernel
theorem dX11_from_0 : decode cX11_from 0 = .ok (.iload_n 1, 1) := by decide +kernel
theorem dX11_from_1 : decode cX11_from 1 = .ok (.ifCond .lt 28, 3) := by decide +kernel
theorem dX11_from_4 : decode cX11_from 4 = .ok (.iload_n 1, 1) := by decide +kernel
theorem dX11_from_5 : decode cX11_from 5 = .ok (.aload_n 0, 1) := by decide +kernel
theorem dX11_from_6 : decode cX11_from 6 = .ok (.getfield 21, 3) := by decide +kernel
theorem dX11_from_9 : decode cX11_from 9 = .ok (.getfield 158, 3) := by decide +kernel
theorem dX11_from_12 : decode cX11_from 12 = .ok (.if_icmp .gt 17, 3) := by decide +kernel
theorem dX11_from_15 : decode cX11_from 15 = .ok (.iload_n 2, 1) := by decide +kernel
theorem dX11_from_16 : decode cX11_from 16 = .ok (.invokestatic 291, 3) := by decide +kernel
theorem dX11_from_19 : decode cX11_from 19 = .ok (.ifCond .eq 10, 3) := by decide +kernel
theorem dX11_from_22 : decode cX11_from 22 = .ok (.iload_n 3, 1) := by decide +kernel
theorem dX11_from_23 : decode cX11_from 23 = .ok (.invokestatic 291, 3) := by decide +kernel
theorem dX11_from_26 : decode cX11_from 26 = .ok (.ifCond .ne 5, 3) := by decide +kernel
theorem dX11_from_29 : decode cX11_from 29 = .ok (.iconst (-1), 1) := by decide +kernel
theorem dX11_from_30 : decode cX11_from 30 = .ok (.ireturn, 1) := by decide +kernel
theorem dX11_from_31 : decode cX11_from 31 = .ok (.aload_n 0, 1) := by decide +kernel
theorem dX11_from_32 : decode cX11_from 32 = .ok (.aload_n 0, 1) := by decide +kernel
theorem dX11_from_33 : decode cX11_from 33 = .ok (.getfield 74, 3) := by decide +kernel
theorem dX11_from_36 : decode cX11_from 36 = .ok (.aload_n 0, 1) := by decide +kernel
theorem dX11_from_37 : decode cX11_from 37 = .ok (.getfield 21, 3) := by decide +kernel
theorem dX11_from_40 : decode cX11_from 40 = .ok (.iload_n 1, 1) := by decide +kernel
theorem dX11_from_41 : decode cX11_from 41 = .ok (.iload_n 2, 1) := by decide +kernel
theorem dX11_from_42 : decode cX11_from 42 = .ok (.iload_n 3, 1) := by decide +kernel
theorem dX11_from_43 : decode cX11_from 43 = .ok (.invokevirtual 283, 3) := by decide +kernel
theorem dX11_from_46 : decode cX11_from 46 = .ok (.invokevirtual 119, 3) := by decide +kernel
theorem dX11_from_49 : decode cX11_from 49 = .ok (.ireturn, 1) := by decide +kernel
theorem dX11_lender_0 : decode cX11_lender 0 = .ok (.iload_n 1, 1) := by decide +kernel
theorem dX11_lender_1 : decode cX11_lender 1 = .ok (.ifCond .lt 18, 3) := by decide +kernel
theorem dX11_lender_4 : decode cX11_lender 4 = .ok (.iload_n 1, 1) := by decide +kernel
theorem dX11_lender_5 : decode cX11_lender 5 = .ok (.iconst 4, 1) := by decide +kernel
theorem dX11_lender_6 : decode cX11_lender 6 = .ok (.if_icmp .ge 13, 3) := by decide +kernel
theorem dX11_lender_9 : decode cX11_lender 9 = .ok (.iload_n 2, 1) := by decide +kernel
theorem dX11_lender_10 : decode cX11_lender 10 = .ok (.ifCond .lt 9, 3) := by decide +kernel
theorem dX11_lender_13 : decode cX11_lender 13 = .ok (.iload_n 2, 1) := by decide +kernel
theorem dX11_lender_14 : decode cX11_lender 14 = .ok (.bipush 20, 2) := by decide +kernel
theorem dX11_lender_16 : decode cX11_lender 16 = .ok (.if_icmp .le 5, 3) := by decide +kernel
theorem dX11_lender_19 : decode cX11_lender 19 = .ok (.iconst (-1), 1) := by decide +kernel
theorem dX11_lender_20 : decode cX11_lender 20 = .ok (.ireturn, 1) := by decide +kernel
theorem dX11_lender_21 : decode cX11_lender 21 = .ok (.aload_n 0, 1) := by decide +kernel
theorem dX11_lender_22 : decode cX11_lender 22 = .ok (.getfield 21, 3) := by decide +kernel
theorem dX11_lender_25 : decode cX11_lender 25 = .ok (.getfield 298, 3) := by decide +kernel
theorem dX11_lender_28 : decode cX11_lender 28 = .ok (.iload_n 1, 1) := by decide +kernel
theorem dX11_lender_29 : decode cX11_lender 29 = .ok (.iaload, 1) := by decide +kernel
theorem dX11_lender_30 : decode cX11_lender 30 = .ok (.istore_n 3, 1) := by decide +kernel
theorem dX11_lender_31 : decode cX11_lender 31 = .ok (.aload_n 0, 1) := by decide +kernel
theorem dX11_lender_32 : decode cX11_lender 32 = .ok (.getfield 21, 3) := by decide +kernel
theorem dX11_lender_35 : decode cX11_lender 35 = .ok (.getfield 298, 3) := by decide +kernel
theorem dX11_lender_38 : decode cX11_lender 38 = .ok (.iload_n 1, 1) := by decide +kernel
theorem dX11_lender_39 : decode cX11_lender 39 = .ok (.iload_n 2, 1) := by decide +kernel
theorem dX11_lender_40 : decode cX11_lender 40 = .ok (.iastore, 1) := by decide +kernel
theorem dX11_lender_41 : decode cX11_lender 41 = .ok (.iload_n 3, 1) := by decide +kernel
theorem dX11_lender_42 : decode cX11_lender 42 = .ok (.ireturn, 1) := by decide +kernel
theorem dX11_worthOf_0 : decode cX11_worthOf 0 = .ok (.aload_n 0, 1) := by decide +kernel
theorem dX11_worthOf_1 : decode cX11_worthOf 1 = .ok (.getfield 53, 3) := by decide +kernel
theorem dX11_worthOf_4 : decode cX11_worthOf 4 = .ok (.aload_n 0, 1) := by decide +kernel
theorem dX11_worthOf_5 : decode cX11_worthOf 5 = .ok (.getfield 21, 3) := by decide +kernel
theorem dX11_worthOf_8 : decode cX11_worthOf 8 = .ok (.iload_n 1, 1) := by decide +kernel
theorem dX11_worthOf_9 : decode cX11_worthOf 9 = .ok (.invokevirtual 301, 3) := by decide +kernel
theorem dX11_worthOf_12 : decode cX11_worthOf 12 = .ok (.invokevirtual 247, 3) := by decide +kernel
theorem dX11_worthOf_15 : decode cX11_worthOf 15 = .ok (.aload_n 0, 1) := by decide +kernel
theorem dX11_worthOf_16 : decode cX11_worthOf 16 = .ok (.getfield 53, 3) := by decide +kernel
theorem dX11_worthOf_19 : decode cX11_worthOf 19 = .ok (.aload_n 0, 1) := by decide +kernel
theorem dX11_worthOf_20 : decode cX11_worthOf 20 = .ok (.getfield 21, 3) := by decide +kernel
theorem dX11_worthOf_23 : decode cX11_worthOf 23 = .ok (.getfield 188, 3) := by decide +kernel
theorem dX11_worthOf_26 : decode cX11_worthOf 26 = .ok (.iconst 0, 1) := by decide +kernel
theorem dX11_worthOf_27 : decode cX11_worthOf 27 = .ok (.iaload, 1) := by decide +kernel
theorem dX11_worthOf_28 : decode cX11_worthOf 28 = .ok (.invokevirtual 247, 3) := by decide +kernel
theorem dX11_worthOf_31 : decode cX11_worthOf 31 = .ok (.isub, 1) := by decide +kernel
theorem dX11_worthOf_32 : decode cX11_worthOf 32 = .ok (.ireturn, 1) := by decide +kernel
theorem dX11_lend_0 : decode cX11_lend 0 = .ok (.aload_n 0, 1) := by decide +kernel
theorem dX11_lend_1 : decode cX11_lend 1 = .ok (.iload_n 2, 1) := by decide +kernel
theorem dX11_lend_2 : decode cX11_lend 2 = .ok (.invokevirtual 96, 3) := by decide +kernel
theorem dX11_lend_5 : decode cX11_lend 5 = .ok (.astore_n 3, 1) := by decide +kernel
theorem dX11_lend_6 : decode cX11_lend 6 = .ok (.iload_n 1, 1) := by decide +kernel
theorem dX11_lend_7 : decode cX11_lend 7 = .ok (.ifCond .lt 13, 3) := by decide +kernel
theorem dX11_lend_10 : decode cX11_lend 10 = .ok (.iload_n 1, 1) := by decide +kernel
theorem dX11_lend_11 : decode cX11_lend 11 = .ok (.bipush 15, 2) := by decide +kernel
theorem dX11_lend_13 : decode cX11_lend 13 = .ok (.if_icmp .gt 7, 3) := by decide +kernel
theorem dX11_lend_16 : decode cX11_lend 16 = .ok (.aload_n 3, 1) := by decide +kernel
theorem dX11_lend_17 : decode cX11_lend 17 = .ok (.ifnonnull 5, 3) := by decide +kernel
theorem dX11_lend_20 : decode cX11_lend 20 = .ok (.iconst (-1), 1) := by decide +kernel
theorem dX11_lend_21 : decode cX11_lend 21 = .ok (.ireturn, 1) := by decide +kernel
theorem dX11_lend_22 : decode cX11_lend 22 = .ok (.aload_n 0, 1) := by decide +kernel
theorem dX11_lend_23 : decode cX11_lend 23 = .ok (.aload_n 3, 1) := by decide +kernel
theorem dX11_lend_24 : decode cX11_lend 24 = .ok (.iconst 1, 1) := by decide +kernel
theorem dX11_lend_25 : decode cX11_lend 25 = .ok (.invokevirtual 226, 3) := by decide +kernel
theorem dX11_lend_28 : decode cX11_lend 28 = .ok (.ifCond .eq 6, 3) := by decide +kernel
theorem dX11_lend_31 : decode cX11_lend 31 = .ok (.bipush (-3), 2) := by decide +kernel
theorem dX11_lend_33 : decode cX11_lend 33 = .ok (.ireturn, 1) := by decide +kernel
theorem dX11_lend_34 : decode cX11_lend 34 = .ok (.aload_n 0, 1) := by decide +kernel
theorem dX11_lend_35 : decode cX11_lend 35 = .ok (.getfield 21, 3) := by decide +kernel
theorem dX11_lend_38 : decode cX11_lend 38 = .ok (.iload_n 1, 1) := by decide +kernel
theorem dX11_lend_39 : decode cX11_lend 39 = .ok (.invokevirtual 301, 3) := by decide +kernel
theorem dX11_lend_42 : decode cX11_lend 42 = .ok (.bipush 40, 2) := by decide +kernel
theorem dX11_lend_44 : decode cX11_lend 44 = .ok (.if_icmp .le 6, 3) := by decide +kernel
theorem dX11_lend_47 : decode cX11_lend 47 = .ok (.bipush (-6), 2) := by decide +kernel
theorem dX11_lend_49 : decode cX11_lend 49 = .ok (.ireturn, 1) := by decide +kernel
theorem dX11_lend_50 : decode cX11_lend 50 = .ok (.aload_n 0, 1) := by decide +kernel
theorem dX11_lend_51 : decode cX11_lend 51 = .ok (.getfield 53, 3) := by decide +kernel
theorem dX11_lend_54 : decode cX11_lend 54 = .ok (.aload_n 0, 1) := by decide +kernel
theorem dX11_lend_55 : decode cX11_lend 55 = .ok (.getfield 21, 3) := by decide +kernel
theorem dX11_lend_58 : decode cX11_lend 58 = .ok (.aload_n 0, 1) := by decide +kernel
theorem dX11_lend_59 : decode cX11_lend 59 = .ok (.getfield 21, 3) := by decide +kernel
theorem dX11_lend_62 : decode cX11_lend 62 = .ok (.getfield 181, 3) := by decide +kernel
theorem dX11_lend_65 : decode cX11_lend 65 = .ok (.aload_n 3, 1) := by decide +kernel
theorem dX11_lend_66 : decode cX11_lend 66 = .ok (.getfield 116, 3) := by decide +kernel
theorem dX11_lend_69 : decode cX11_lend 69 = .ok (.bipush 40, 2) := by decide +kernel
theorem dX11_lend_71 : decode cX11_lend 71 = .ok (.invokevirtual 229, 3) := by decide +kernel
theorem dX11_lend_74 : decode cX11_lend 74 = .ok (.aload_n 0, 1) := by decide +kernel
theorem dX11_lend_75 : decode cX11_lend 75 = .ok (.iload_n 1, 1) := by decide +kernel
theorem dX11_lend_76 : decode cX11_lend 76 = .ok (.invokevirtual 304, 3) := by decide +kernel
theorem dX11_lend_79 : decode cX11_lend 79 = .ok (.ireturn, 1) := by decide +kernel
theorem dX11_ordersAround_0 : decode cX11_ordersAround 0 = .ok (.iload_n 0, 1) := by decide +kernel
theorem dX11_ordersAround_1 : decode cX11_ordersAround 1 = .ok (.ifCond .eq 8, 3) := by decide +kernel
theorem dX11_ordersAround_4 : decode cX11_ordersAround 4 = .ok (.iload_n 0, 1) := by decide +kernel
theorem dX11_ordersAround_5 : decode cX11_ordersAround 5 = .ok (.iconst 3, 1) := by decide +kernel
theorem dX11_ordersAround_6 : decode cX11_ordersAround 6 = .ok (.if_icmp .ne 8, 3) := by decide +kernel
theorem dX11_ordersAround_9 : decode cX11_ordersAround 9 = .ok (.bipush 6, 2) := by decide +kernel
theorem dX11_ordersAround_11 : decode cX11_ordersAround 11 = .ok (.goto 4, 3) := by decide +kernel
theorem dX11_ordersAround_14 : decode cX11_ordersAround 14 = .ok (.iconst 2, 1) := by decide +kernel
theorem dX11_ordersAround_15 : decode cX11_ordersAround 15 = .ok (.ireturn, 1) := by decide +kernel
theorem dX11_adds_0 : decode cX11_adds 0 = .ok (.aload_n 0, 1) := by decide +kernel
theorem dX11_adds_1 : decode cX11_adds 1 = .ok (.iload_n 2, 1) := by decide +kernel
theorem dX11_adds_2 : decode cX11_adds 2 = .ok (.invokevirtual 96, 3) := by decide +kernel
theorem dX11_adds_5 : decode cX11_adds 5 = .ok (.astore_n 3, 1) := by decide +kernel
theorem dX11_adds_6 : decode cX11_adds 6 = .ok (.iload_n 1, 1) := by decide +kernel
theorem dX11_adds_7 : decode cX11_adds 7 = .ok (.ifCond .lt 12, 3) := by decide +kernel
theorem dX11_adds_10 : decode cX11_adds 10 = .ok (.iload_n 1, 1) := by decide +kernel
theorem dX11_adds_11 : decode cX11_adds 11 = .ok (.iconst 4, 1) := by decide +kernel
theorem dX11_adds_12 : decode cX11_adds 12 = .ok (.if_icmp .ge 7, 3) := by decide +kernel
theorem dX11_adds_15 : decode cX11_adds 15 = .ok (.aload_n 3, 1) := by decide +kernel
theorem dX11_adds_16 : decode cX11_adds 16 = .ok (.ifnonnull 5, 3) := by decide +kernel
theorem dX11_adds_19 : decode cX11_adds 19 = .ok (.iconst (-1), 1) := by decide +kernel
theorem dX11_adds_20 : decode cX11_adds 20 = .ok (.ireturn, 1) := by decide +kernel
theorem dX11_adds_21 : decode cX11_adds 21 = .ok (.aload_n 0, 1) := by decide +kernel
theorem dX11_adds_22 : decode cX11_adds 22 = .ok (.aload_n 3, 1) := by decide +kernel
theorem dX11_adds_23 : decode cX11_adds 23 = .ok (.iconst 1, 1) := by decide +kernel
theorem dX11_adds_24 : decode cX11_adds 24 = .ok (.invokevirtual 226, 3) := by decide +kernel
theorem dX11_adds_27 : decode cX11_adds 27 = .ok (.ifCond .eq 6, 3) := by decide +kernel
theorem dX11_adds_30 : decode cX11_adds 30 = .ok (.bipush (-3), 2) := by decide +kernel
theorem dX11_adds_32 : decode cX11_adds 32 = .ok (.ireturn, 1) := by decide +kernel
theorem dX11_adds_33 : decode cX11_adds 33 = .ok (.aload_n 0, 1) := by decide +kernel
theorem dX11_adds_34 : decode cX11_adds 34 = .ok (.getfield 21, 3) := by decide +kernel
theorem dX11_adds_37 : decode cX11_adds 37 = .ok (.bipush 15, 2) := by decide +kernel
theorem dX11_adds_39 : decode cX11_adds 39 = .ok (.invokevirtual 301, 3) := by decide +kernel
theorem dX11_adds_42 : decode cX11_adds 42 = .ok (.bipush 40, 2) := by decide +kernel
theorem dX11_adds_44 : decode cX11_adds 44 = .ok (.if_icmp .le 6, 3) := by decide +kernel
theorem dX11_adds_47 : decode cX11_adds 47 = .ok (.bipush (-6), 2) := by decide +kernel
theorem dX11_adds_49 : decode cX11_adds 49 = .ok (.ireturn, 1) := by decide +kernel
theorem dX11_adds_50 : decode cX11_adds 50 = .ok (.aload_n 0, 1) := by decide +kernel
theorem dX11_adds_51 : decode cX11_adds 51 = .ok (.getfield 53, 3) := by decide +kernel
theorem dX11_adds_54 : decode cX11_adds 54 = .ok (.aload_n 0, 1) := by decide +kernel
theorem dX11_adds_55 : decode cX11_adds 55 = .ok (.getfield 21, 3) := by decide +kernel
theorem dX11_adds_58 : decode cX11_adds 58 = .ok (.aload_n 0, 1) := by decide +kernel
theorem dX11_adds_59 : decode cX11_adds 59 = .ok (.getfield 21, 3) := by decide +kernel
theorem dX11_adds_62 : decode cX11_adds 62 = .ok (.getfield 181, 3) := by decide +kernel
theorem dX11_adds_65 : decode cX11_adds 65 = .ok (.aload_n 3, 1) := by decide +kernel
theorem dX11_adds_66 : decode cX11_adds 66 = .ok (.getfield 116, 3) := by decide +kernel
theorem dX11_adds_69 : decode cX11_adds 69 = .ok (.bipush 40, 2) := by decide +kernel
theorem dX11_adds_71 : decode cX11_adds 71 = .ok (.invokevirtual 229, 3) := by decide +kernel
theorem dX11_adds_74 : decode cX11_adds 74 = .ok (.iconst 0, 1) := by decide +kernel
theorem dX11_adds_75 : decode cX11_adds 75 = .ok (.istore 4, 2) := by decide +kernel
theorem dX11_adds_77 : decode cX11_adds 77 = .ok (.iconst 0, 1) := by decide +kernel
theorem dX11_adds_78 : decode cX11_adds 78 = .ok (.istore 5, 2) := by decide +kernel
theorem dX11_adds_80 : decode cX11_adds 80 = .ok (.iload 5, 2) := by decide +kernel
theorem dX11_adds_82 : decode cX11_adds 82 = .ok (.bipush 15, 2) := by decide +kernel
theorem dX11_adds_84 : decode cX11_adds 84 = .ok (.if_icmp .gt 49, 3) := by decide +kernel
theorem dX11_adds_87 : decode cX11_adds 87 = .ok (.iload 5, 2) := by decide +kernel
theorem dX11_adds_89 : decode cX11_adds 89 = .ok (.iload_n 1, 1) := by decide +kernel
theorem dX11_adds_90 : decode cX11_adds 90 = .ok (.ishr, 1) := by decide +kernel
theorem dX11_adds_91 : decode cX11_adds 91 = .ok (.iconst 1, 1) := by decide +kernel
theorem dX11_adds_92 : decode cX11_adds 92 = .ok (.iand, 1) := by decide +kernel
theorem dX11_adds_93 : decode cX11_adds 93 = .ok (.ifCond .ne 34, 3) := by decide +kernel
theorem dX11_adds_96 : decode cX11_adds 96 = .ok (.iload 4, 2) := by decide +kernel
theorem dX11_adds_98 : decode cX11_adds 98 = .ok (.iload 5, 2) := by decide +kernel
theorem dX11_adds_100 : decode cX11_adds 100 = .ok (.invokestatic 315, 3) := by decide +kernel
theorem dX11_adds_103 : decode cX11_adds 103 = .ok (.invokestatic 320, 3) := by decide +kernel
theorem dX11_adds_106 : decode cX11_adds 106 = .ok (.aload_n 0, 1) := by decide +kernel
theorem dX11_adds_107 : decode cX11_adds 107 = .ok (.iload 5, 2) := by decide +kernel
theorem dX11_adds_109 : decode cX11_adds 109 = .ok (.iconst 1, 1) := by decide +kernel
theorem dX11_adds_110 : decode cX11_adds 110 = .ok (.iload_n 1, 1) := by decide +kernel
theorem dX11_adds_111 : decode cX11_adds 111 = .ok (.ishl, 1) := by decide +kernel
theorem dX11_adds_112 : decode cX11_adds 112 = .ok (.ior, 1) := by decide +kernel
theorem dX11_adds_113 : decode cX11_adds 113 = .ok (.invokevirtual 304, 3) := by decide +kernel
theorem dX11_adds_116 : decode cX11_adds 116 = .ok (.aload_n 0, 1) := by decide +kernel
theorem dX11_adds_117 : decode cX11_adds 117 = .ok (.iload 5, 2) := by decide +kernel
theorem dX11_adds_119 : decode cX11_adds 119 = .ok (.invokevirtual 304, 3) := by decide +kernel
theorem dX11_adds_122 : decode cX11_adds 122 = .ok (.isub, 1) := by decide +kernel
theorem dX11_adds_123 : decode cX11_adds 123 = .ok (.imul, 1) := by decide +kernel
theorem dX11_adds_124 : decode cX11_adds 124 = .ok (.iadd, 1) := by decide +kernel
theorem dX11_adds_125 : decode cX11_adds 125 = .ok (.istore 4, 2) := by decide +kernel
theorem dX11_adds_127 : decode cX11_adds 127 = .ok (.iinc 5 1, 3) := by decide +kernel
theorem dX11_adds_130 : decode cX11_adds 130 = .ok (.goto (-50), 3) := by decide +kernel
theorem dX11_adds_133 : decode cX11_adds 133 = .ok (.aload_n 0, 1) := by decide +kernel
theorem dX11_adds_134 : decode cX11_adds 134 = .ok (.iload 4, 2) := by decide +kernel
theorem dX11_adds_136 : decode cX11_adds 136 = .ok (.i2l, 1) := by decide +kernel
theorem dX11_adds_137 : decode cX11_adds 137 = .ok (.ldc2_w 323, 3) := by decide +kernel
theorem dX11_adds_140 : decode cX11_adds 140 = .ok (.invokevirtual 260, 3) := by decide +kernel
theorem dX11_adds_143 : decode cX11_adds 143 = .ok (.iconst 1, 1) := by decide +kernel
theorem dX11_adds_144 : decode cX11_adds 144 = .ok (.ireturn, 1) := by decide +kernel
theorem dX11_when_0 : decode cX11_when 0 = .ok (.aload_n 0, 1) := by decide +kernel
theorem dX11_when_1 : decode cX11_when 1 = .ok (.iload_n 1, 1) := by decide +kernel
theorem dX11_when_2 : decode cX11_when 2 = .ok (.invokevirtual 96, 3) := by decide +kernel
theorem dX11_when_5 : decode cX11_when 5 = .ok (.astore_n 2, 1) := by decide +kernel
theorem dX11_when_6 : decode cX11_when 6 = .ok (.aload_n 2, 1) := by decide +kernel
theorem dX11_when_7 : decode cX11_when 7 = .ok (.ifnonnull 5, 3) := by decide +kernel
theorem dX11_when_10 : decode cX11_when 10 = .ok (.iconst (-1), 1) := by decide +kernel
theorem dX11_when_11 : decode cX11_when 11 = .ok (.ireturn, 1) := by decide +kernel
theorem dX11_when_12 : decode cX11_when 12 = .ok (.aload_n 0, 1) := by decide +kernel
theorem dX11_when_13 : decode cX11_when 13 = .ok (.aload_n 2, 1) := by decide +kernel
theorem dX11_when_14 : decode cX11_when 14 = .ok (.iconst 1, 1) := by decide +kernel
theorem dX11_when_15 : decode cX11_when 15 = .ok (.invokevirtual 226, 3) := by decide +kernel
theorem dX11_when_18 : decode cX11_when 18 = .ok (.ifCond .eq 6, 3) := by decide +kernel
theorem dX11_when_21 : decode cX11_when 21 = .ok (.bipush (-3), 2) := by decide +kernel
theorem dX11_when_23 : decode cX11_when 23 = .ok (.ireturn, 1) := by decide +kernel
theorem dX11_when_24 : decode cX11_when 24 = .ok (.iconst 0, 1) := by decide +kernel
theorem dX11_when_25 : decode cX11_when 25 = .ok (.istore_n 3, 1) := by decide +kernel
theorem dX11_when_26 : decode cX11_when 26 = .ok (.iconst (-1), 1) := by decide +kernel
theorem dX11_when_27 : decode cX11_when 27 = .ok (.istore 4, 2) := by decide +kernel
theorem dX11_when_29 : decode cX11_when 29 = .ok (.iconst 0, 1) := by decide +kernel
theorem dX11_when_30 : decode cX11_when 30 = .ok (.istore 5, 2) := by decide +kernel
theorem dX11_when_32 : decode cX11_when 32 = .ok (.iload 5, 2) := by decide +kernel
theorem dX11_when_34 : decode cX11_when 34 = .ok (.bipush 9, 2) := by decide +kernel
theorem dX11_when_36 : decode cX11_when 36 = .ok (.if_icmp .gt 59, 3) := by decide +kernel
theorem dX11_when_39 : decode cX11_when 39 = .ok (.aload_n 0, 1) := by decide +kernel
theorem dX11_when_40 : decode cX11_when 40 = .ok (.getfield 53, 3) := by decide +kernel
theorem dX11_when_43 : decode cX11_when 43 = .ok (.aload_n 0, 1) := by decide +kernel
theorem dX11_when_44 : decode cX11_when 44 = .ok (.getfield 21, 3) := by decide +kernel
theorem dX11_when_47 : decode cX11_when 47 = .ok (.iload 5, 2) := by decide +kernel
theorem dX11_when_49 : decode cX11_when 49 = .ok (.aload_n 2, 1) := by decide +kernel
theorem dX11_when_50 : decode cX11_when 50 = .ok (.getfield 116, 3) := by decide +kernel
theorem dX11_when_53 : decode cX11_when 53 = .ok (.aload_n 0, 1) := by decide +kernel
theorem dX11_when_54 : decode cX11_when 54 = .ok (.getfield 21, 3) := by decide +kernel
theorem dX11_when_57 : decode cX11_when 57 = .ok (.getfield 188, 3) := by decide +kernel
theorem dX11_when_60 : decode cX11_when 60 = .ok (.iconst 0, 1) := by decide +kernel
theorem dX11_when_61 : decode cX11_when 61 = .ok (.iaload, 1) := by decide +kernel
theorem dX11_when_62 : decode cX11_when 62 = .ok (.invokevirtual 229, 3) := by decide +kernel
theorem dX11_when_65 : decode cX11_when 65 = .ok (.aload_n 0, 1) := by decide +kernel
theorem dX11_when_66 : decode cX11_when 66 = .ok (.getfield 53, 3) := by decide +kernel
theorem dX11_when_69 : decode cX11_when 69 = .ok (.getfield 243, 3) := by decide +kernel
theorem dX11_when_72 : decode cX11_when 72 = .ok (.iload 4, 2) := by decide +kernel
theorem dX11_when_74 : decode cX11_when 74 = .ok (.if_icmp .le 15, 3) := by decide +kernel
theorem dX11_when_77 : decode cX11_when 77 = .ok (.aload_n 0, 1) := by decide +kernel
theorem dX11_when_78 : decode cX11_when 78 = .ok (.getfield 53, 3) := by decide +kernel
theorem dX11_when_81 : decode cX11_when 81 = .ok (.getfield 243, 3) := by decide +kernel
theorem dX11_when_84 : decode cX11_when 84 = .ok (.istore 4, 2) := by decide +kernel
theorem dX11_when_86 : decode cX11_when 86 = .ok (.iload 5, 2) := by decide +kernel
theorem dX11_when_88 : decode cX11_when 88 = .ok (.istore_n 3, 1) := by decide +kernel
theorem dX11_when_89 : decode cX11_when 89 = .ok (.iinc 5 1, 3) := by decide +kernel
theorem dX11_when_92 : decode cX11_when 92 = .ok (.goto (-60), 3) := by decide +kernel
theorem dX11_when_95 : decode cX11_when 95 = .ok (.aload_n 0, 1) := by decide +kernel
theorem dX11_when_96 : decode cX11_when 96 = .ok (.iload 4, 2) := by decide +kernel
theorem dX11_when_98 : decode cX11_when 98 = .ok (.putfield 217, 3) := by decide +kernel
theorem dX11_when_101 : decode cX11_when 101 = .ok (.iload_n 3, 1) := by decide +kernel
theorem dX11_when_102 : decode cX11_when 102 = .ok (.ireturn, 1) := by decide +kernel
theorem dX11_rule_0 : decode cX11_rule 0 = .ok (.aload_n 0, 1) := by decide +kernel
theorem dX11_rule_1 : decode cX11_rule 1 = .ok (.iload_n 2, 1) := by decide +kernel
theorem dX11_rule_2 : decode cX11_rule 2 = .ok (.invokevirtual 96, 3) := by decide +kernel
theorem dX11_rule_5 : decode cX11_rule 5 = .ok (.astore_n 3, 1) := by decide +kernel
theorem dX11_rule_6 : decode cX11_rule 6 = .ok (.iload_n 1, 1) := by decide +kernel
theorem dX11_rule_7 : decode cX11_rule 7 = .ok (.ifCond .lt 13, 3) := by decide +kernel
theorem dX11_rule_10 : decode cX11_rule 10 = .ok (.iload_n 1, 1) := by decide +kernel
theorem dX11_rule_11 : decode cX11_rule 11 = .ok (.bipush 6, 2) := by decide +kernel
theorem dX11_rule_13 : decode cX11_rule 13 = .ok (.if_icmp .ge 7, 3) := by decide +kernel
theorem dX11_rule_16 : decode cX11_rule 16 = .ok (.aload_n 3, 1) := by decide +kernel
theorem dX11_rule_17 : decode cX11_rule 17 = .ok (.ifnonnull 5, 3) := by decide +kernel
theorem dX11_rule_20 : decode cX11_rule 20 = .ok (.iconst (-1), 1) := by decide +kernel
theorem dX11_rule_21 : decode cX11_rule 21 = .ok (.ireturn, 1) := by decide +kernel
theorem dX11_rule_22 : decode cX11_rule 22 = .ok (.aload_n 0, 1) := by decide +kernel
theorem dX11_rule_23 : decode cX11_rule 23 = .ok (.getfield 21, 3) := by decide +kernel
theorem dX11_rule_26 : decode cX11_rule 26 = .ok (.getfield 158, 3) := by decide +kernel
theorem dX11_rule_29 : decode cX11_rule 29 = .ok (.ifCond .ne 9, 3) := by decide +kernel
theorem dX11_rule_32 : decode cX11_rule 32 = .ok (.aload_n 0, 1) := by decide +kernel
theorem dX11_rule_33 : decode cX11_rule 33 = .ok (.iconst 4, 1) := by decide +kernel
theorem dX11_rule_34 : decode cX11_rule 34 = .ok (.invokevirtual 100, 3) := by decide +kernel
theorem dX11_rule_37 : decode cX11_rule 37 = .ok (.ireturn, 1) := by decide +kernel
theorem dX11_rule_38 : decode cX11_rule 38 = .ok (.aload_n 0, 1) := by decide +kernel
theorem dX11_rule_39 : decode cX11_rule 39 = .ok (.getfield 81, 3) := by decide +kernel
theorem dX11_rule_42 : decode cX11_rule 42 = .ok (.aload_n 0, 1) := by decide +kernel
theorem dX11_rule_43 : decode cX11_rule 43 = .ok (.getfield 21, 3) := by decide +kernel
theorem dX11_rule_46 : decode cX11_rule 46 = .ok (.iload_n 1, 1) := by decide +kernel
theorem dX11_rule_47 : decode cX11_rule 47 = .ok (.aload_n 0, 1) := by decide +kernel
theorem dX11_rule_48 : decode cX11_rule 48 = .ok (.getfield 21, 3) := by decide +kernel
theorem dX11_rule_51 : decode cX11_rule 51 = .ok (.getfield 325, 3) := by decide +kernel
theorem dX11_rule_54 : decode cX11_rule 54 = .ok (.invokevirtual 328, 3) := by decide +kernel
theorem dX11_rule_57 : decode cX11_rule 57 = .ok (.aload_n 3, 1) := by decide +kernel
theorem dX11_rule_58 : decode cX11_rule 58 = .ok (.aload_n 0, 1) := by decide +kernel
theorem dX11_rule_59 : decode cX11_rule 59 = .ok (.getfield 81, 3) := by decide +kernel
theorem dX11_rule_62 : decode cX11_rule 62 = .ok (.getfield 332, 3) := by decide +kernel
theorem dX11_rule_65 : decode cX11_rule 65 = .ok (.aload_n 0, 1) := by decide +kernel
theorem dX11_rule_66 : decode cX11_rule 66 = .ok (.getfield 21, 3) := by decide +kernel
theorem dX11_rule_69 : decode cX11_rule 69 = .ok (.getfield 158, 3) := by decide +kernel
theorem dX11_rule_72 : decode cX11_rule 72 = .ok (.invokevirtual 236, 3) := by decide +kernel
theorem dX11_rule_75 : decode cX11_rule 75 = .ok (.aload_n 3, 1) := by decide +kernel
theorem dX11_rule_76 : decode cX11_rule 76 = .ok (.invokevirtual 136, 3) := by decide +kernel
theorem dX11_rule_79 : decode cX11_rule 79 = .ok (.l2i, 1) := by decide +kernel
theorem dX11_rule_80 : decode cX11_rule 80 = .ok (.ireturn, 1) := by decide +kernel
theorem q_317 : Cond.fieldLink RX11 67 "HeavyFiles" "mixing" "LHeavyFiles$Mixing;" ∈ wT := wi_t 317 (by decide +kernel) (by decide +kernel)
theorem q_582 : Cond.methodLink RX11 271 yX4_weighAll ∈ wT := wi_t 582 (by decide +kernel) (by decide +kernel)
theorem q_585 : Cond.code yX4_weighAll cX4_weighAll 7 none ∈ wT := wi_t 585 (by decide +kernel) (by decide +kernel)
theorem q_583 : Cond.instanceMethod yX4_weighAll ∈ wT := wi_t 583 (by decide +kernel) (by decide +kernel)
theorem q_584 : Cond.selects RX4 yX4_weighAll yX4_weighAll ∈ wT := wi_t 584 (by decide +kernel) (by decide +kernel)
theorem q_592 : Cond.methodLink RX11 275 yX4_leastBy ∈ wT := wi_t 592 (by decide +kernel) (by decide +kernel)
theorem q_600 : Cond.methodLink RX11 278 yX4_bestParts ∈ wT := wi_t 600 (by decide +kernel) (by decide +kernel)
theorem q_603 : Cond.code yX4_bestParts cX4_bestParts 3 (some .int) ∈ wT := wi_t 603 (by decide +kernel) (by decide +kernel)
theorem q_601 : Cond.instanceMethod yX4_bestParts ∈ wT := wi_t 601 (by decide +kernel) (by decide +kernel)
theorem q_602 : Cond.selects RX4 yX4_bestParts yX4_bestParts ∈ wT := wi_t 602 (by decide +kernel) (by decide +kernel)
theorem q_605 : Cond.constantLong RX11 281 12 ∈ wT := wi_t 605 (by decide +kernel) (by decide +kernel)
theorem q_610 : Cond.methodLink RX11 291 yX11_isInTurn ∈ wT := wi_t 610 (by decide +kernel) (by decide +kernel)
theorem q_612 : Cond.code yX11_isInTurn cX11_isInTurn 1 (some .boolean) ∈ wT := wi_t 612 (by decide +kernel) (by decide +kernel)
theorem q_611 : Cond.static yX11_isInTurn ∈ wT := wi_t 611 (by decide +kernel) (by decide +kernel)
theorem q_613 : Cond.methodLink RX11 283 yX10_valueOf ∈ wT := wi_t 613 (by decide +kernel) (by decide +kernel)
theorem q_616 : Cond.code yX10_valueOf cX10_valueOf 5 (some .int) ∈ wT := wi_t 616 (by decide +kernel) (by decide +kernel)
theorem q_614 : Cond.instanceMethod yX10_valueOf ∈ wT := wi_t 614 (by decide +kernel) (by decide +kernel)
theorem q_615 : Cond.selects RX10 yX10_valueOf yX10_valueOf ∈ wT := wi_t 615 (by decide +kernel) (by decide +kernel)
theorem q_64 : Cond.fieldLink RX11 298 "HeavyFiles$Court" "lent" "[I" ∈ wT := wi_t 64 (by decide +kernel) (by decide +kernel)
theorem q_657 : Cond.methodLink RX11 301 yX0_stockWith ∈ wT := wi_t 657 (by decide +kernel) (by decide +kernel)
theorem q_660 : Cond.code yX0_stockWith cX0_stockWith 4 (some .int) ∈ wT := wi_t 660 (by decide +kernel) (by decide +kernel)
theorem q_658 : Cond.instanceMethod yX0_stockWith ∈ wT := wi_t 658 (by decide +kernel) (by decide +kernel)
theorem q_659 : Cond.selects RX0 yX0_stockWith yX0_stockWith ∈ wT := wi_t 659 (by decide +kernel) (by decide +kernel)
theorem q_661 : Cond.methodLink RX11 304 yX11_worthOf ∈ wT := wi_t 661 (by decide +kernel) (by decide +kernel)
theorem q_664 : Cond.code yX11_worthOf cX11_worthOf 2 (some .int) ∈ wT := wi_t 664 (by decide +kernel) (by decide +kernel)
theorem q_663 : Cond.instanceMethod yX11_worthOf ∈ wT := wi_t 663 (by decide +kernel) (by decide +kernel)
theorem qs_16 : Cond.selects RX11 yX11_worthOf yX11_worthOf ∈ wT := wi_s (q := (yX11_worthOf, 17)) 16 (by decide +kernel) (by decide +kernel)
theorem q_678 : Cond.constantLong RX11 323 24 ∈ wT := wi_t 678 (by decide +kernel) (by decide +kernel)
theorem q_669 : Cond.methodLink RX11 315 yJ6_bitCount_0f7a4 ∈ wT := wi_t 669 (by decide +kernel) (by decide +kernel)
theorem q_671 : Cond.code yJ6_bitCount_0f7a4 cJ6_bitCount_0f7a4 1 (some .int) ∈ wT := wi_t 671 (by decide +kernel) (by decide +kernel)
theorem q_670 : Cond.static yJ6_bitCount_0f7a4 ∈ wT := wi_t 670 (by decide +kernel) (by decide +kernel)
theorem q_16 : Cond.initialized RJ6 ∈ wT := wi_t 16 (by decide +kernel) (by decide +kernel)
theorem q_675 : Cond.methodLink RX11 320 yX11_ordersAround ∈ wT := wi_t 675 (by decide +kernel) (by decide +kernel)
theorem q_677 : Cond.code yX11_ordersAround cX11_ordersAround 1 (some .int) ∈ wT := wi_t 677 (by decide +kernel) (by decide +kernel)
theorem q_676 : Cond.static yX11_ordersAround ∈ wT := wi_t 676 (by decide +kernel) (by decide +kernel)
theorem q_319 : Cond.fieldLink RX11 81 "HeavyFiles" "guess" "LHeavyFiles$Guess;" ∈ wT := wi_t 319 (by decide +kernel) (by decide +kernel)
theorem q_80 : Cond.fieldLink RX11 325 "HeavyFiles$Court" "notes" "I" ∈ wT := wi_t 80 (by decide +kernel) (by decide +kernel)
theorem q_687 : Cond.methodLink RX11 328 yX2_layBy ∈ wT := wi_t 687 (by decide +kernel) (by decide +kernel)
theorem q_273 : Cond.fieldLink RX11 332 "HeavyFiles$Guess" "laid" "[I" ∈ wT := wi_t 273 (by decide +kernel) (by decide +kernel)
theorem q_714 : Cond.methodLink RX11 136 yX6_total ∈ wT := wi_t 714 (by decide +kernel) (by decide +kernel)
theorem kvX4_weighAll : KV yX4_weighAll RX4 cX4_weighAll 7 none 4 := ⟨q_583, q_584, q_9, q_585, rfl, by decide +kernel, by decide +kernel, by decide +kernel⟩
theorem kvX4_bestParts : KV yX4_bestParts RX4 cX4_bestParts 3 (some .int) 0 := ⟨q_601, q_602, q_9, q_603, rfl, by decide +kernel, by decide +kernel, by decide +kernel⟩
theorem kvX11_isInTurn : KS yX11_isInTurn cX11_isInTurn 1 (some .boolean) 1 := ⟨q_611, q_1, q_612, by decide +kernel, by decide +kernel, by decide +kernel⟩
theorem kvX10_valueOf : KV yX10_valueOf RX10 cX10_valueOf 5 (some .int) 4 := ⟨q_614, q_615, q_10, q_616, rfl, by decide +kernel, by decide +kernel, by decide +kernel⟩
theorem kvX0_stockWith : KV yX0_stockWith RX0 cX0_stockWith 4 (some .int) 1 := ⟨q_658, q_659, q_2, q_660, rfl, by decide +kernel, by decide +kernel, by decide +kernel⟩
theorem kvX11_worthOf : KV yX11_worthOf RX11 cX11_worthOf 2 (some .int) 1 := ⟨q_663, qs_16, q_1, q_664, rfl, by decide +kernel, by decide +kernel, by decide +kernel⟩
theorem kvJ6_bitCount_0f7a4 : KS yJ6_bitCount_0f7a4 cJ6_bitCount_0f7a4 1 (some .int) 1 := ⟨q_670, q_16, q_671, by decide +kernel, by decide +kernel, by decide +kernel⟩
theorem kvX11_ordersAround : KS yX11_ordersAround cX11_ordersAround 1 (some .int) 1 := ⟨q_676, q_1, q_677, by decide +kernel, by decide +kernel, by decide +kernel⟩
/-! HeavyFiles.mixed(IIII)I -/
def fX11_mixed (N : Nat)  (a0 : Nat) (a1 : Int32) (a2 : Int32) (a3 : Int32) (a4 : Int32) (mm : Mm) : Option (Int32 × Mm) :=
  bd2 (fX11_rowOf N a0 a1 mm) fun x1 m2 => bd2 (fX11_rowOf N a0 a2 m2) fun x4 m5 => cs x1 (some ((-1), m5)) (fun z7 => cs x4 (some ((-1), m5)) (fun z9 => if a4 < 1 then (some ((-1), m5)) else (if (99 : Int32) < a4 then (some ((-1), m5)) else (if a3 < 0 then (some ((-1), m5)) else (if a3 ≤ a4 then (bd2 (fX11_isTooMuch N a0 1 m5) fun x15 m16 => if x15 = 0 then (bd2 (fX11_isWrong_ N a0 z7 0 z9 0 m16) fun x19 m20 => if x19 = 0 then (bd2 (fX4_weighAll N (fr a0 9) (fr a0 2) (fr a0 6) (fr z7 0) (fr z9 0) m20) fun x23 m24 => bd2 (fX4_leastBy N (fr a0 9) a3 a4 m24) fun x26 m27 => bd2 (fX11_fraction N a0 x26.toInt64 a4.toInt64 m27) fun x29 m30 => some (1, m30)) else (some ((-3), m20))) else (some ((-6), m16))) else (some ((-1), m5)))))))
abbrev rmX11_mixed : Room := { frames := 5, cells := 0, slots := 0, locals := 170 }
/-! HeavyFiles.mix(II)I -/
def fX11_mix (N : Nat)  (a0 : Nat) (a1 : Int32) (a2 : Int32) (mm : Mm) : Option (Int32 × Mm) :=
  bd2 (fX11_rowOf N a0 a1 mm) fun x1 m2 => bd2 (fX11_rowOf N a0 a2 m2) fun x4 m5 => cs x1 (some ((-1), m5)) (fun z7 => cs x4 (some ((-1), m5)) (fun z9 => bd2 (fX11_isTooMuch N a0 1 m5) fun x11 m12 => if x11 = 0 then (bd2 (fX11_isWrong_ N a0 z7 0 z9 0 m12) fun x15 m16 => if x15 = 0 then (bd2 (fX4_weighAll N (fr a0 9) (fr a0 2) (fr a0 6) (fr z7 0) (fr z9 0) m16) fun x19 m20 => bd2 (fX4_bestParts N (fr a0 9) m20) fun x22 m23 => bd2 (fX4_leastBy N (fr a0 9) x22 12 m23) fun x25 m26 => bd2 (fX11_fraction N a0 x25.toInt64 12 m26) fun x28 m29 => some (x22, m29)) else (some ((-3), m16))) else (some ((-6), m12))))
abbrev rmX11_mix : Room := { frames := 5, cells := 0, slots := 0, locals := 170 }
/-! HeavyFiles.isInTurn(I)Z -/
def fX11_isInTurn (N : Nat)  (a0 : Int32) (mm : Mm) : Option (Int32 × Mm) :=
  if a0 < 0 then (some (0, mm)) else (if (15 : Int32) < a0 then (some (0, mm)) else (some (1, mm)))
abbrev rmX11_isInTurn : Room := { frames := 1, cells := 0, slots := 0, locals := 40 }
/-! HeavyFiles.from(III)I -/
def fX11_from (N : Nat)  (a0 : Nat) (a1 : Int32) (a2 : Int32) (a3 : Int32) (mm : Mm) : Option (Int32 × Mm) :=
  if a1 < 0 then (some ((-1), mm)) else (if (rd mm (fr a0 2) 5) < a1 then (some ((-1), mm)) else (bd2 (fX11_isInTurn N a2 mm) fun x3 m4 => if x3 = 0 then (some ((-1), m4)) else (bd2 (fX11_isInTurn N a3 m4) fun x7 m8 => if x7 = 0 then (some ((-1), m8)) else (bd2 (fX10_valueOf N (fr a0 10) (fr a0 2) a1 a2 a3 m8) fun x11 m12 => bd2 (fX11_told N a0 x11 m12) fun x14 m15 => some (x14, m15)))))
abbrev rmX11_from : Room := { frames := 7, cells := 0, slots := 0, locals := 238 }
/-! HeavyFiles.lender(II)I -/
def fX11_lender (N : Nat)  (a0 : Nat) (a1 : Int32) (a2 : Int32) (mm : Mm) : Option (Int32 × Mm) :=
  if a1 < 0 then (some ((-1), mm)) else (if (4 : Int32) ≤ a1 then (some ((-1), mm)) else (if a2 < 0 then (some ((-1), mm)) else (if a2 ≤ 20 then (gd (inb a1 (ln (fr (fr a0 2) 2))) <| nm (rd mm (fr (fr a0 2) 2) a1.toNatClampNeg) fun x6 => gd (inb a1 (ln (fr (fr a0 2) 2))) <| nm (wr mm (fr (fr a0 2) 2) a1.toNatClampNeg a2) fun m8 => some (x6, m8)) else (some ((-1), mm)))))
abbrev rmX11_lender : Room := { frames := 1, cells := 0, slots := 0, locals := 40 }
/-! HeavyFiles.worthOf(I)I -/
def fX11_worthOf (N : Nat)  (a0 : Nat) (a1 : Int32) (mm : Mm) : Option (Int32 × Mm) :=
  bd2 (fX0_stockWith N (fr a0 2) a1 mm) fun x1 m2 => bd2 (fX8_mostBy N (fr a0 7) x1 m2) fun x4 m5 => gd (inb 0 (ln (fr (fr a0 2) 1))) <| bd2 (fX8_mostBy N (fr a0 7) (rd m5 (fr (fr a0 2) 1) ((0 : Int32).toNatClampNeg)) m5) fun x8 m9 => some (x4 - x8, m9)
abbrev rmX11_worthOf : Room := { frames := 3, cells := 0, slots := 0, locals := 100 }
/-! HeavyFiles.lend(II)I -/
def fX11_lend (N : Nat)  (a0 : Nat) (a1 : Int32) (a2 : Int32) (mm : Mm) : Option (Int32 × Mm) :=
  bd2 (fX11_rowOf N a0 a2 mm) fun x1 m2 => if a1 < 0 then (some ((-1), m2)) else (if (15 : Int32) < a1 then (some ((-1), m2)) else (cs x1 (some ((-1), m2)) (fun z6 => bd2 (fX11_isWrong N a0 z6 1 m2) fun x8 m9 => if x8 = 0 then (bd2 (fX0_stockWith N (fr a0 2) a1 m9) fun x12 m13 => if x12 ≤ 40 then (bd2 (fX8_run N (fr a0 7) (fr a0 2) (rd m13 (fr a0 2) 6) (fr z6 0) 40 m13) fun x16 m17 => bd2 (fX11_worthOf N a0 a1 m17) fun x19 m20 => some (x19, m20)) else (some ((-6), m13))) else (some ((-3), m9)))))
abbrev rmX11_lend : Room := { frames := 16, cells := 0, slots := 0, locals := 861 }
/-! HeavyFiles.ordersAround(I)I -/
def fX11_ordersAround (N : Nat)  (a0 : Int32) (mm : Mm) : Option (Int32 × Mm) :=
  if a0 = 0 then (some (6, mm)) else (if a0 = 3 then (some (6, mm)) else (some (2, mm)))
abbrev rmX11_ordersAround : Room := { frames := 1, cells := 0, slots := 0, locals := 40 }
/-! HeavyFiles.adds(II)I -/
def fX11_adds_127 (N : Nat) (k80 : Nat → Int32 → Int32 → Int32 → Mm → Option (Int32 × Mm)) (a0 : Nat) (a1 : Int32) (a4 : Int32) (a5 : Int32) (mm : Mm) : Option (Int32 × Mm) :=
  k80 a0 a1 a4 (a5 + 1) mm
def fX11_adds_80 (N : Nat)  : Nat → Nat → Int32 → Int32 → Int32 → Mm → Option (Int32 × Mm)
  | 0 => fun _ _ _ _ _ => none
  | n + 1 => fun a0 a1 a4 a5 mm =>
    let k80 := fX11_adds_80 N  n
    if (15 : Int32) < a5 then (bd2 (fX11_fraction N a0 a4.toInt64 24 mm) fun x2 m3 => some (1, m3)) else (if ((a5 >>> (a1 &&& 31)) &&& 1) = 0 then (bd2 (fJ6_bitCount_0f7a4 N a5 mm) fun x6 m7 => bd2 (fX11_ordersAround N x6 m7) fun x9 m10 => bd2 (fX11_worthOf N a0 (a5 ||| (1 <<< (a1 &&& 31))) m10) fun x12 m13 => bd2 (fX11_worthOf N a0 a5 m13) fun x15 m16 => fX11_adds_127 N k80 a0 a1 (a4 + (x9 * (x12 - x15))) a5 m16) else (fX11_adds_127 N k80 a0 a1 a4 a5 mm))
def fX11_adds (N : Nat)  (a0 : Nat) (a1 : Int32) (a2 : Int32) (mm : Mm) : Option (Int32 × Mm) :=
  bd2 (fX11_rowOf N a0 a2 mm) fun x18 m19 => if a1 < 0 then (some ((-1), m19)) else (if (4 : Int32) ≤ a1 then (some ((-1), m19)) else (cs x18 (some ((-1), m19)) (fun z23 => bd2 (fX11_isWrong N a0 z23 1 m19) fun x25 m26 => if x25 = 0 then (bd2 (fX0_stockWith N (fr a0 2) 15 m26) fun x29 m30 => if x29 ≤ 40 then (bd2 (fX8_run N (fr a0 7) (fr a0 2) (rd m30 (fr a0 2) 6) (fr z23 0) 40 m30) fun x33 m34 => fX11_adds_80 N N a0 a1 0 0 m34) else (some ((-6), m30))) else (some ((-3), m26)))))
abbrev rmX11_adds : Room := { frames := 16, cells := 0, slots := 0, locals := 861 }
/-! HeavyFiles.when(I)I -/
def fX11_when_89 (N : Nat) (k32 : Nat → Nat → Int32 → Int32 → Int32 → Mm → Option (Int32 × Mm)) (a0 : Nat) (a2 : Nat) (a3 : Int32) (a4 : Int32) (a5 : Int32) (mm : Mm) : Option (Int32 × Mm) :=
  k32 a0 a2 a3 a4 (a5 + 1) mm
def fX11_when_32 (N : Nat)  : Nat → Nat → Nat → Int32 → Int32 → Int32 → Mm → Option (Int32 × Mm)
  | 0 => fun _ _ _ _ _ _ => none
  | n + 1 => fun a0 a2 a3 a4 a5 mm =>
    let k32 := fX11_when_32 N  n
    if (9 : Int32) < a5 then (nm (wr mm a0 14 a4) fun m2 => some (a3, m2)) else (gd (inb 0 (ln (fr (fr a0 2) 1))) <| bd2 (fX8_run N (fr a0 7) (fr a0 2) a5 (fr a2 0) (rd mm (fr (fr a0 2) 1) ((0 : Int32).toNatClampNeg)) mm) fun x4 m5 => if (rd m5 (fr a0 7) 1) ≤ a4 then (fX11_when_89 N k32 a0 a2 a3 a4 a5 m5) else (fX11_when_89 N k32 a0 a2 a5 (rd m5 (fr a0 7) 1) a5 m5))
def fX11_when (N : Nat)  (a0 : Nat) (a1 : Int32) (mm : Mm) : Option (Int32 × Mm) :=
  bd2 (fX11_rowOf N a0 a1 mm) fun x8 m9 => cs x8 (some ((-1), m9)) (fun z11 => bd2 (fX11_isWrong N a0 z11 1 m9) fun x13 m14 => if x13 = 0 then (fX11_when_32 N N a0 z11 0 (-1) 0 m14) else (some ((-3), m14)))
abbrev rmX11_when : Room := { frames := 16, cells := 0, slots := 0, locals := 861 }
/-! HeavyFiles.rule(II)I -/
def fX11_rule (N : Nat)  (a0 : Nat) (a1 : Int32) (a2 : Int32) (mm : Mm) : Option (Int32 × Mm) :=
  bd2 (fX11_rowOf N a0 a2 mm) fun x1 m2 => if a1 < 0 then (some ((-1), m2)) else (if (6 : Int32) ≤ a1 then (some ((-1), m2)) else (cs x1 (some ((-1), m2)) (fun z6 => if (rd m2 (fr a0 2) 5) = 0 then (bd2 (fX11_refused N a0 4 m2) fun x18 m19 => some (x18, m19)) else (bd2 (fX2_layBy N (fr a0 11) (fr a0 2) a1 (rd m2 (fr a0 2) 7) m2) fun x9 m10 => bd2 (fX6_take N z6 (fr (fr a0 11) 0) (rd m10 (fr a0 2) 5) m10) fun x12 m13 => bd2 (fX6_total N z6 m13) fun x15 m16 => some (x15.toInt32, m16)))))
abbrev rmX11_rule : Room := { frames := 4, cells := 0, slots := 0, locals := 138 }
section W_files17
variable {p : Program} {l : Launch} {e : Env} {s : State} {m : MethodId} {args : Array Value} {below : List Frame} {meth : Method} {c : Code} {D : va_G} {ca ad : Nat → Nat}
set_option maxRecDepth 100000 in
set_option maxHeartbeats 4000000 in
theorem wX11_mixed_0 (C : Cx p s m meth c args cX11_mixed 7 (some .int) RX11 D ca ad) {res : Int32 × Mm} {N : Nat}  {a0 : Nat} {a1 : Int32} {a2 : Int32} {a3 : Int32} {a4 : Int32} {mm : Mm} {H : Heap} {locs : List Loc} {ls : Array Slot} (ha0 : sX11 a0) (hW : Wd D ca ad s.heap mm H locs) (hl : lv_has ls 7 [(0, .ref (ad a0)), (1, .int a1), (2, .int a2), (3, .int a3), (4, .int a4)]) (hf : fX11_mixed N a0 a1 a2 a3 a4 mm = some res) : W p l e (rmX11_mixed) s m args below meth c H locs 0 0 (MQ below (QI D ca ad res) args s 0 0 (AA ad)) (F0 m 0 ls []) := by
  unfold fX11_mixed at hf
  refine lv_aload_n C.1 C.2.1 dX11_mixed_0 rfl (lv_at hl 0 rfl) ?_
  refine lv_iload_n C.1 C.2.1 dX11_mixed_1 rfl (lv_at hl 1 rfl) ?_
  obtain ⟨x1, m2, r3, hf⟩ := bd2_s hf
  refine x_cr hW (x_runV C hW [.int a1] [] (ha0).1 (ha0).2.1 kX11.1 kvX11_rowOf q_364 (tX11_rowOf l C.2.2.2.2.2.2.1 ha0 r3) rfl rfl ⟨by decide, by decide⟩ rfl hl.1 rfl (Nat.le_of_ble_eq_true rfl) dX11_mixed_2) (fun H locs hW => ?_)
  refine x_astore (lv' := [(5, va_re ad x1), (0, .ref (ad a0)), (1, .int a1), (2, .int a2), (3, .int a3), (4, .int a4)]) C dX11_mixed_5 hl (by decide) rfl (fun ls hl => ?_)
  refine lv_aload_n C.1 C.2.1 dX11_mixed_7 rfl (lv_at hl 1 rfl) ?_
  refine lv_iload_n C.1 C.2.1 dX11_mixed_8 rfl (lv_at hl 3 rfl) ?_
  obtain ⟨x4, m5, r6, hf⟩ := bd2_s hf
  refine x_cr hW (x_runV C hW [.int a2] [] (ha0).1 (ha0).2.1 kX11.1 kvX11_rowOf q_364 (tX11_rowOf l C.2.2.2.2.2.2.1 ha0 r6) rfl rfl ⟨by decide, by decide⟩ rfl hl.1 rfl (Nat.le_of_ble_eq_true rfl) dX11_mixed_9) (fun H locs hW => ?_)
  refine x_astore (lv' := [(6, va_re ad x4), (5, va_re ad x1), (0, .ref (ad a0)), (1, .int a1), (2, .int a2), (3, .int a3), (4, .int a4)]) C dX11_mixed_12 hl (by decide) (by cases x1 <;> rfl) (fun ls hl => ?_)
  refine x_aload C dX11_mixed_14 (lv_at hl 1 rfl) ?_
  refine x_ifnull C (tgt := 47) dX11_mixed_16 (by decide) (fun n8 => ?_) (fun z7 n8 => ?_)
  · subst n8
    have hf := cs_n hf
    refine lv_iconst (v := (-1)) C.1 C.2.1 dX11_mixed_47 (by decide) ?_
    cases hf
    exact x_iret C hW dX11_mixed_48
  · subst n8
    have hf := cs_q hf
    refine x_aload C dX11_mixed_19 (lv_at hl 0 rfl) ?_
    refine x_ifnull C (tgt := 47) dX11_mixed_21 (by decide) (fun n10 => ?_) (fun z9 n10 => ?_)
    · subst n10
      have hf := cs_n hf
      refine lv_iconst (v := (-1)) C.1 C.2.1 dX11_mixed_47 (by decide) ?_
      cases hf
      exact x_iret C hW dX11_mixed_48
    · subst n10
      have hf := cs_q hf
      refine lv_iload C.1 C.2.1 dX11_mixed_24 (lv_at hl 6 rfl) ?_
      refine lv_iconst (v := 1) C.1 C.2.1 dX11_mixed_26 (by decide) ?_
      refine lv_icmp_lt (tgt := 47) C.1 C.2.1 dX11_mixed_27 (by decide) (fun c11 => ?_) (fun c11 => ?_)
      · have hf := if_t c11 hf
        refine lv_iconst (v := (-1)) C.1 C.2.1 dX11_mixed_47 (by decide) ?_
        cases hf
        exact x_iret C hW dX11_mixed_48
      · have hf := if_f c11 hf
        refine lv_iload C.1 C.2.1 dX11_mixed_30 (lv_at hl 6 rfl) ?_
        refine lv_bipush (v := 99) C.1 C.2.1 dX11_mixed_32 (by decide) ?_
        refine lv_icmp_gt (tgt := 47) C.1 C.2.1 dX11_mixed_34 (by decide) (fun c12 => ?_) (fun c12 => ?_)
        · have hf := if_t c12 hf
          refine lv_iconst (v := (-1)) C.1 C.2.1 dX11_mixed_47 (by decide) ?_
          cases hf
          exact x_iret C hW dX11_mixed_48
        · have hf := if_f c12 hf
          refine lv_iload_n C.1 C.2.1 dX11_mixed_37 rfl (lv_at hl 5 rfl) ?_
          refine lv_if_lt (tgt := 47) C.1 C.2.1 dX11_mixed_38 (by decide) (fun c13 => ?_) (fun c13 => ?_)
          · have hf := if_t c13 hf
            refine lv_iconst (v := (-1)) C.1 C.2.1 dX11_mixed_47 (by decide) ?_
            cases hf
            exact x_iret C hW dX11_mixed_48
          · have hf := if_f c13 hf
            refine lv_iload_n C.1 C.2.1 dX11_mixed_41 rfl (lv_at hl 5 rfl) ?_
            refine lv_iload C.1 C.2.1 dX11_mixed_42 (lv_at hl 6 rfl) ?_
            refine lv_icmp_le (tgt := 49) C.1 C.2.1 dX11_mixed_44 (by decide) (fun c14 => ?_) (fun c14 => ?_)
            · have hf := if_t c14 hf
              refine lv_aload_n C.1 C.2.1 dX11_mixed_49 rfl (lv_at hl 2 rfl) ?_
              refine lv_iconst (v := 1) C.1 C.2.1 dX11_mixed_50 (by decide) ?_
              obtain ⟨x15, m16, r17, hf⟩ := bd2_s hf
              refine x_ci hW (x_runV C hW [.int 1] [] (ha0).1 (ha0).2.1 kX11.1 kvX11_isTooMuch q_574 (tX11_isTooMuch l C.2.2.2.2.2.2.1 ha0 r17) rfl rfl ⟨by decide, by decide⟩ rfl hl.1 rfl (Nat.le_of_ble_eq_true rfl) dX11_mixed_51) (fun H locs hW => ?_)
              refine lv_if_eq (tgt := 60) C.1 C.2.1 dX11_mixed_54 (by decide) (fun c18 => ?_) (fun c18 => ?_)
              · have hf := if_t c18 hf
                refine lv_aload_n C.1 C.2.1 dX11_mixed_60 rfl (lv_at hl 2 rfl) ?_
                refine lv_aload C.1 C.2.1 dX11_mixed_61 (lv_at hl 1 rfl) ?_
                refine lv_iconst (v := 0) C.1 C.2.1 dX11_mixed_63 (by decide) ?_
                refine lv_aload C.1 C.2.1 dX11_mixed_64 (lv_at hl 0 rfl) ?_
                refine lv_iconst (v := 0) C.1 C.2.1 dX11_mixed_66 (by decide) ?_
                obtain ⟨x19, m20, r21, hf⟩ := bd2_s hf
                refine x_ci hW (x_runV C hW [.ref (ad z7), .int 0, .ref (ad z9), .int 0] [] (ha0).1 (ha0).2.1 kX11.1 kvX11_isWrong_ q_396 (tX11_isWrong_ l C.2.2.2.2.2.2.1 ha0 ((gX11_rowOf ha0 r3) z7 rfl) ((gX11_rowOf ha0 r6) z9 rfl) r21) rfl rfl ⟨by decide, by decide⟩ rfl hl.1 rfl (Nat.le_of_ble_eq_true rfl) dX11_mixed_67) (fun H locs hW => ?_)
                refine lv_if_eq (tgt := 76) C.1 C.2.1 dX11_mixed_70 (by decide) (fun c22 => ?_) (fun c22 => ?_)
                · have hf := if_t c22 hf
                  refine lv_aload_n C.1 C.2.1 dX11_mixed_76 rfl (lv_at hl 2 rfl) ?_
                  refine x_getr C hW (ha0).1 (ha0).2.1 (j := 9) rfl kX11 (by decide) rfl q_317 dX11_mixed_77 ?_
                  refine lv_aload_n C.1 C.2.1 dX11_mixed_80 rfl (lv_at hl 2 rfl) ?_
                  refine x_getr C hW (ha0).1 (ha0).2.1 (j := 2) rfl kX11 (by decide) rfl q_310 dX11_mixed_81 ?_
                  refine lv_aload_n C.1 C.2.1 dX11_mixed_84 rfl (lv_at hl 2 rfl) ?_
                  refine x_getr C hW (ha0).1 (ha0).2.1 (j := 6) rfl kX11 (by decide) rfl q_314 dX11_mixed_85 ?_
                  refine lv_aload C.1 C.2.1 dX11_mixed_88 (lv_at hl 1 rfl) ?_
                  refine x_getr C hW (((gX11_rowOf ha0 r3) z7 rfl)).1 (((gX11_rowOf ha0 r3) z7 rfl)).2.1 (j := 0) rfl kX6 (by decide) rfl q_299 dX11_mixed_90 ?_
                  refine lv_aload C.1 C.2.1 dX11_mixed_93 (lv_at hl 0 rfl) ?_
                  refine x_getr C hW (((gX11_rowOf ha0 r6) z9 rfl)).1 (((gX11_rowOf ha0 r6) z9 rfl)).2.1 (j := 0) rfl kX6 (by decide) rfl q_299 dX11_mixed_95 ?_
                  obtain ⟨x23, m24, r25, hf⟩ := bd2_s hf
                  refine x_cv hW (x_runV C hW [.ref (ad (fr a0 2)), .ref (ad (fr a0 6)), .ref (ad (fr z7 0)), .ref (ad (fr z9 0))] [] (ha0.2.2.2.2.2.2.2.2.2.2.2.1).1 (ha0.2.2.2.2.2.2.2.2.2.2.2.1).2.1 kX4.1 kvX4_weighAll q_582 (tX4_weighAll l C.2.2.2.2.2.2.1 ha0.2.2.2.2.2.2.2.2.2.2.2.1 ha0.2.2.2.2.1 ha0.2.2.2.2.2.2.2.2.1 (((gX11_rowOf ha0 r3) z7 rfl).2.2) (((gX11_rowOf ha0 r6) z9 rfl).2.2) r25) rfl rfl ⟨by decide, by decide⟩ rfl hl.1 rfl (Nat.le_of_ble_eq_true rfl) dX11_mixed_98) (fun H locs hW => ?_)
                  refine lv_aload_n C.1 C.2.1 dX11_mixed_101 rfl (lv_at hl 2 rfl) ?_
                  refine lv_aload_n C.1 C.2.1 dX11_mixed_102 rfl (lv_at hl 2 rfl) ?_
                  refine x_getr C hW (ha0).1 (ha0).2.1 (j := 9) rfl kX11 (by decide) rfl q_317 dX11_mixed_103 ?_
                  refine lv_iload_n C.1 C.2.1 dX11_mixed_106 rfl (lv_at hl 5 rfl) ?_
                  refine lv_iload C.1 C.2.1 dX11_mixed_107 (lv_at hl 6 rfl) ?_
                  obtain ⟨x26, m27, r28, hf⟩ := bd2_s hf
                  refine x_ci hW (x_runV C hW [.int a3, .int a4] [.ref (ad a0)] (ha0.2.2.2.2.2.2.2.2.2.2.2.1).1 (ha0.2.2.2.2.2.2.2.2.2.2.2.1).2.1 kX4.1 kvX4_leastBy q_592 (tX4_leastBy l C.2.2.2.2.2.2.1 ha0.2.2.2.2.2.2.2.2.2.2.2.1 r28) rfl rfl ⟨by decide, by decide⟩ rfl hl.1 rfl (Nat.le_of_ble_eq_true rfl) dX11_mixed_109) (fun H locs hW => ?_)
                  refine lv_i2l C.1 C.2.1 dX11_mixed_112 rfl ?_
                  refine lv_iload C.1 C.2.1 dX11_mixed_113 (lv_at hl 6 rfl) ?_
                  refine lv_i2l C.1 C.2.1 dX11_mixed_115 rfl ?_
                  obtain ⟨x29, m30, r31, hf⟩ := bd2_s hf
                  refine x_cv hW (x_runV C hW [.long x26.toInt64, .long a4.toInt64] [] (ha0).1 (ha0).2.1 kX11.1 kvX11_fraction q_548 (tX11_fraction l C.2.2.2.2.2.2.1 ha0 r31) rfl rfl ⟨by decide, by decide⟩ rfl hl.1 rfl (Nat.le_of_ble_eq_true rfl) dX11_mixed_116) (fun H locs hW => ?_)
                  refine lv_iconst (v := 1) C.1 C.2.1 dX11_mixed_119 (by decide) ?_
                  cases hf
                  exact x_iret C hW dX11_mixed_120
                · have hf := if_f c22 hf
                  refine lv_bipush (v := (-3)) C.1 C.2.1 dX11_mixed_73 (by decide) ?_
                  cases hf
                  exact x_iret C hW dX11_mixed_75
              · have hf := if_f c18 hf
                refine lv_bipush (v := (-6)) C.1 C.2.1 dX11_mixed_57 (by decide) ?_
                cases hf
                exact x_iret C hW dX11_mixed_59
            · have hf := if_f c14 hf
              refine lv_iconst (v := (-1)) C.1 C.2.1 dX11_mixed_47 (by decide) ?_
              cases hf
              exact x_iret C hW dX11_mixed_48
set_option maxRecDepth 100000 in
set_option maxHeartbeats 4000000 in
theorem tX11_mixed (l : Launch) {D : va_G} {ca ad : Nat → Nat} (hi : Inj ad) {N : Nat} {a0 : Nat} {a1 : Int32} {a2 : Int32} {a3 : Int32} {a4 : Int32} {mm : Mm} {res : Int32 × Mm} (ha0 : sX11 a0) (hf : fX11_mixed N a0 a1 a2 a3 a4 mm = some res) : Met l yX11_mixed (WS yX11_mixed cX11_mixed 7 (some .int)) (rmX11_mixed) (va_Pc [.ref (ad a0), .int a1, .int a2, .int a3, .int a4] (WB D ca ad mm)) (QI D ca ad res) 0 0 (AA ad) := by
  refine x_start hi (by decide) rfl (Nat.le_of_ble_eq_true rfl) (fun p e s m args below meth c ls C hW hl => ?_)
  exact wX11_mixed_0 C ha0 hW (lv_sub hl [0, 1, 2, 3, 4] rfl) hf
set_option maxRecDepth 100000 in
set_option maxHeartbeats 4000000 in
theorem wX11_mix_0 (C : Cx p s m meth c args cX11_mix 6 (some .int) RX11 D ca ad) {res : Int32 × Mm} {N : Nat}  {a0 : Nat} {a1 : Int32} {a2 : Int32} {mm : Mm} {H : Heap} {locs : List Loc} {ls : Array Slot} (ha0 : sX11 a0) (hW : Wd D ca ad s.heap mm H locs) (hl : lv_has ls 6 [(0, .ref (ad a0)), (1, .int a1), (2, .int a2)]) (hf : fX11_mix N a0 a1 a2 mm = some res) : W p l e (rmX11_mix) s m args below meth c H locs 0 0 (MQ below (QI D ca ad res) args s 0 0 (AA ad)) (F0 m 0 ls []) := by
  unfold fX11_mix at hf
  refine lv_aload_n C.1 C.2.1 dX11_mix_0 rfl (lv_at hl 0 rfl) ?_
  refine lv_iload_n C.1 C.2.1 dX11_mix_1 rfl (lv_at hl 1 rfl) ?_
  obtain ⟨x1, m2, r3, hf⟩ := bd2_s hf
  refine x_cr hW (x_runV C hW [.int a1] [] (ha0).1 (ha0).2.1 kX11.1 kvX11_rowOf q_364 (tX11_rowOf l C.2.2.2.2.2.2.1 ha0 r3) rfl rfl ⟨by decide, by decide⟩ rfl hl.1 rfl (Nat.le_of_ble_eq_true rfl) dX11_mix_2) (fun H locs hW => ?_)
  refine x_astore_n (lv' := [(3, va_re ad x1), (0, .ref (ad a0)), (1, .int a1), (2, .int a2)]) C dX11_mix_5 rfl hl (by decide) rfl (fun ls hl => ?_)
  refine lv_aload_n C.1 C.2.1 dX11_mix_6 rfl (lv_at hl 1 rfl) ?_
  refine lv_iload_n C.1 C.2.1 dX11_mix_7 rfl (lv_at hl 3 rfl) ?_
  obtain ⟨x4, m5, r6, hf⟩ := bd2_s hf
  refine x_cr hW (x_runV C hW [.int a2] [] (ha0).1 (ha0).2.1 kX11.1 kvX11_rowOf q_364 (tX11_rowOf l C.2.2.2.2.2.2.1 ha0 r6) rfl rfl ⟨by decide, by decide⟩ rfl hl.1 rfl (Nat.le_of_ble_eq_true rfl) dX11_mix_8) (fun H locs hW => ?_)
  refine x_astore (lv' := [(4, va_re ad x4), (3, va_re ad x1), (0, .ref (ad a0)), (1, .int a1), (2, .int a2)]) C dX11_mix_11 hl (by decide) (by cases x1 <;> rfl) (fun ls hl => ?_)
  refine x_aload_n C dX11_mix_13 rfl (lv_at hl 1 rfl) ?_
  refine x_ifnull C (tgt := 22) dX11_mix_14 (by decide) (fun n8 => ?_) (fun z7 n8 => ?_)
  · subst n8
    have hf := cs_n hf
    refine lv_iconst (v := (-1)) C.1 C.2.1 dX11_mix_22 (by decide) ?_
    cases hf
    exact x_iret C hW dX11_mix_23
  · subst n8
    have hf := cs_q hf
    refine x_aload C dX11_mix_17 (lv_at hl 0 rfl) ?_
    refine x_ifnonnull C (tgt := 24) dX11_mix_19 (by decide) (fun n10 => ?_) (fun z9 n10 => ?_)
    · subst n10
      have hf := cs_n hf
      refine lv_iconst (v := (-1)) C.1 C.2.1 dX11_mix_22 (by decide) ?_
      cases hf
      exact x_iret C hW dX11_mix_23
    · subst n10
      have hf := cs_q hf
      refine lv_aload_n C.1 C.2.1 dX11_mix_24 rfl (lv_at hl 2 rfl) ?_
      refine lv_iconst (v := 1) C.1 C.2.1 dX11_mix_25 (by decide) ?_
      obtain ⟨x11, m12, r13, hf⟩ := bd2_s hf
      refine x_ci hW (x_runV C hW [.int 1] [] (ha0).1 (ha0).2.1 kX11.1 kvX11_isTooMuch q_574 (tX11_isTooMuch l C.2.2.2.2.2.2.1 ha0 r13) rfl rfl ⟨by decide, by decide⟩ rfl hl.1 rfl (Nat.le_of_ble_eq_true rfl) dX11_mix_26) (fun H locs hW => ?_)
      refine lv_if_eq (tgt := 35) C.1 C.2.1 dX11_mix_29 (by decide) (fun c14 => ?_) (fun c14 => ?_)
      · have hf := if_t c14 hf
        refine lv_aload_n C.1 C.2.1 dX11_mix_35 rfl (lv_at hl 2 rfl) ?_
        refine lv_aload_n C.1 C.2.1 dX11_mix_36 rfl (lv_at hl 1 rfl) ?_
        refine lv_iconst (v := 0) C.1 C.2.1 dX11_mix_37 (by decide) ?_
        refine lv_aload C.1 C.2.1 dX11_mix_38 (lv_at hl 0 rfl) ?_
        refine lv_iconst (v := 0) C.1 C.2.1 dX11_mix_40 (by decide) ?_
        obtain ⟨x15, m16, r17, hf⟩ := bd2_s hf
        refine x_ci hW (x_runV C hW [.ref (ad z7), .int 0, .ref (ad z9), .int 0] [] (ha0).1 (ha0).2.1 kX11.1 kvX11_isWrong_ q_396 (tX11_isWrong_ l C.2.2.2.2.2.2.1 ha0 ((gX11_rowOf ha0 r3) z7 rfl) ((gX11_rowOf ha0 r6) z9 rfl) r17) rfl rfl ⟨by decide, by decide⟩ rfl hl.1 rfl (Nat.le_of_ble_eq_true rfl) dX11_mix_41) (fun H locs hW => ?_)
        refine lv_if_eq (tgt := 50) C.1 C.2.1 dX11_mix_44 (by decide) (fun c18 => ?_) (fun c18 => ?_)
        · have hf := if_t c18 hf
          refine lv_aload_n C.1 C.2.1 dX11_mix_50 rfl (lv_at hl 2 rfl) ?_
          refine x_getr C hW (ha0).1 (ha0).2.1 (j := 9) rfl kX11 (by decide) rfl q_317 dX11_mix_51 ?_
          refine lv_aload_n C.1 C.2.1 dX11_mix_54 rfl (lv_at hl 2 rfl) ?_
          refine x_getr C hW (ha0).1 (ha0).2.1 (j := 2) rfl kX11 (by decide) rfl q_310 dX11_mix_55 ?_
          refine lv_aload_n C.1 C.2.1 dX11_mix_58 rfl (lv_at hl 2 rfl) ?_
          refine x_getr C hW (ha0).1 (ha0).2.1 (j := 6) rfl kX11 (by decide) rfl q_314 dX11_mix_59 ?_
          refine lv_aload_n C.1 C.2.1 dX11_mix_62 rfl (lv_at hl 1 rfl) ?_
          refine x_getr C hW (((gX11_rowOf ha0 r3) z7 rfl)).1 (((gX11_rowOf ha0 r3) z7 rfl)).2.1 (j := 0) rfl kX6 (by decide) rfl q_299 dX11_mix_63 ?_
          refine lv_aload C.1 C.2.1 dX11_mix_66 (lv_at hl 0 rfl) ?_
          refine x_getr C hW (((gX11_rowOf ha0 r6) z9 rfl)).1 (((gX11_rowOf ha0 r6) z9 rfl)).2.1 (j := 0) rfl kX6 (by decide) rfl q_299 dX11_mix_68 ?_
          obtain ⟨x19, m20, r21, hf⟩ := bd2_s hf
          refine x_cv hW (x_runV C hW [.ref (ad (fr a0 2)), .ref (ad (fr a0 6)), .ref (ad (fr z7 0)), .ref (ad (fr z9 0))] [] (ha0.2.2.2.2.2.2.2.2.2.2.2.1).1 (ha0.2.2.2.2.2.2.2.2.2.2.2.1).2.1 kX4.1 kvX4_weighAll q_582 (tX4_weighAll l C.2.2.2.2.2.2.1 ha0.2.2.2.2.2.2.2.2.2.2.2.1 ha0.2.2.2.2.1 ha0.2.2.2.2.2.2.2.2.1 (((gX11_rowOf ha0 r3) z7 rfl).2.2) (((gX11_rowOf ha0 r6) z9 rfl).2.2) r21) rfl rfl ⟨by decide, by decide⟩ rfl hl.1 rfl (Nat.le_of_ble_eq_true rfl) dX11_mix_71) (fun H locs hW => ?_)
          refine lv_aload_n C.1 C.2.1 dX11_mix_74 rfl (lv_at hl 2 rfl) ?_
          refine x_getr C hW (ha0).1 (ha0).2.1 (j := 9) rfl kX11 (by decide) rfl q_317 dX11_mix_75 ?_
          obtain ⟨x22, m23, r24, hf⟩ := bd2_s hf
          refine x_ci hW (x_runV C hW [] [] (ha0.2.2.2.2.2.2.2.2.2.2.2.1).1 (ha0.2.2.2.2.2.2.2.2.2.2.2.1).2.1 kX4.1 kvX4_bestParts q_600 (tX4_bestParts l C.2.2.2.2.2.2.1 ha0.2.2.2.2.2.2.2.2.2.2.2.1 r24) rfl rfl ⟨by decide, by decide⟩ rfl hl.1 rfl (Nat.le_of_ble_eq_true rfl) dX11_mix_78) (fun H locs hW => ?_)
          refine lv_istore (lv' := [(5, .int x22), (4, .ref (ad z9)), (3, .ref (ad z7)), (0, .ref (ad a0)), (1, .int a1), (2, .int a2)]) C.1 C.2.1 dX11_mix_81 hl (by decide) rfl (fun ls hl => ?_)
          refine lv_aload_n C.1 C.2.1 dX11_mix_83 rfl (lv_at hl 3 rfl) ?_
          refine lv_aload_n C.1 C.2.1 dX11_mix_84 rfl (lv_at hl 3 rfl) ?_
          refine x_getr C hW (ha0).1 (ha0).2.1 (j := 9) rfl kX11 (by decide) rfl q_317 dX11_mix_85 ?_
          refine lv_iload C.1 C.2.1 dX11_mix_88 (lv_at hl 0 rfl) ?_
          refine lv_bipush (v := 12) C.1 C.2.1 dX11_mix_90 (by decide) ?_
          obtain ⟨x25, m26, r27, hf⟩ := bd2_s hf
          refine x_ci hW (x_runV C hW [.int x22, .int 12] [.ref (ad a0)] (ha0.2.2.2.2.2.2.2.2.2.2.2.1).1 (ha0.2.2.2.2.2.2.2.2.2.2.2.1).2.1 kX4.1 kvX4_leastBy q_592 (tX4_leastBy l C.2.2.2.2.2.2.1 ha0.2.2.2.2.2.2.2.2.2.2.2.1 r27) rfl rfl ⟨by decide, by decide⟩ rfl hl.1 rfl (Nat.le_of_ble_eq_true rfl) dX11_mix_92) (fun H locs hW => ?_)
          refine lv_i2l C.1 C.2.1 dX11_mix_95 rfl ?_
          refine lv_ldc2 C.1 C.2.1 C.2.2.2.1 (C.2.2.2.2.1 _ q_605) dX11_mix_96 ?_
          obtain ⟨x28, m29, r30, hf⟩ := bd2_s hf
          refine x_cv hW (x_runV C hW [.long x25.toInt64, .long 12] [] (ha0).1 (ha0).2.1 kX11.1 kvX11_fraction q_548 (tX11_fraction l C.2.2.2.2.2.2.1 ha0 r30) rfl rfl ⟨by decide, by decide⟩ rfl hl.1 rfl (Nat.le_of_ble_eq_true rfl) dX11_mix_99) (fun H locs hW => ?_)
          refine lv_iload C.1 C.2.1 dX11_mix_102 (lv_at hl 0 rfl) ?_
          cases hf
          exact x_iret C hW dX11_mix_104
        · have hf := if_f c18 hf
          refine lv_bipush (v := (-3)) C.1 C.2.1 dX11_mix_47 (by decide) ?_
          cases hf
          exact x_iret C hW dX11_mix_49
      · have hf := if_f c14 hf
        refine lv_bipush (v := (-6)) C.1 C.2.1 dX11_mix_32 (by decide) ?_
        cases hf
        exact x_iret C hW dX11_mix_34
set_option maxRecDepth 100000 in
set_option maxHeartbeats 4000000 in
theorem tX11_mix (l : Launch) {D : va_G} {ca ad : Nat → Nat} (hi : Inj ad) {N : Nat} {a0 : Nat} {a1 : Int32} {a2 : Int32} {mm : Mm} {res : Int32 × Mm} (ha0 : sX11 a0) (hf : fX11_mix N a0 a1 a2 mm = some res) : Met l yX11_mix (WS yX11_mix cX11_mix 6 (some .int)) (rmX11_mix) (va_Pc [.ref (ad a0), .int a1, .int a2] (WB D ca ad mm)) (QI D ca ad res) 0 0 (AA ad) := by
  refine x_start hi (by decide) rfl (Nat.le_of_ble_eq_true rfl) (fun p e s m args below meth c ls C hW hl => ?_)
  exact wX11_mix_0 C ha0 hW (lv_sub hl [0, 1, 2] rfl) hf
set_option maxRecDepth 100000 in
set_option maxHeartbeats 4000000 in
theorem wX11_isInTurn_0 (C : Cx p s m meth c args cX11_isInTurn 1 (some .boolean) RX11 D ca ad) {res : Int32 × Mm} {N : Nat}  {a0 : Int32} {mm : Mm} {H : Heap} {locs : List Loc} {ls : Array Slot}  (hW : Wd D ca ad s.heap mm H locs) (hl : lv_has ls 1 [(0, .int a0)]) (hf : fX11_isInTurn N a0 mm = some res) : W p l e (rmX11_isInTurn) s m args below meth c H locs 0 0 (MQ below (QI D ca ad res) args s 0 0 (AA ad)) (F0 m 0 ls []) := by
  unfold fX11_isInTurn at hf
  refine lv_iload_n C.1 C.2.1 dX11_isInTurn_0 rfl (lv_at hl 0 rfl) ?_
  refine lv_if_lt (tgt := 14) C.1 C.2.1 dX11_isInTurn_1 (by decide) (fun c1 => ?_) (fun c1 => ?_)
  · have hf := if_t c1 hf
    refine lv_iconst (v := 0) C.1 C.2.1 dX11_isInTurn_14 (by decide) ?_
    cases hf
    exact x_zret C hW (by decide) dX11_isInTurn_15
  · have hf := if_f c1 hf
    refine lv_iload_n C.1 C.2.1 dX11_isInTurn_4 rfl (lv_at hl 0 rfl) ?_
    refine lv_bipush (v := 15) C.1 C.2.1 dX11_isInTurn_5 (by decide) ?_
    refine lv_icmp_gt (tgt := 14) C.1 C.2.1 dX11_isInTurn_7 (by decide) (fun c2 => ?_) (fun c2 => ?_)
    · have hf := if_t c2 hf
      refine lv_iconst (v := 0) C.1 C.2.1 dX11_isInTurn_14 (by decide) ?_
      cases hf
      exact x_zret C hW (by decide) dX11_isInTurn_15
    · have hf := if_f c2 hf
      refine lv_iconst (v := 1) C.1 C.2.1 dX11_isInTurn_10 (by decide) ?_
      refine lv_goto (tgt := 15) C.1 C.2.1 dX11_isInTurn_11 (by decide) ?_
      cases hf
      exact x_zret C hW (by decide) dX11_isInTurn_15
set_option maxRecDepth 100000 in
set_option maxHeartbeats 4000000 in
theorem tX11_isInTurn (l : Launch) {D : va_G} {ca ad : Nat → Nat} (hi : Inj ad) {N : Nat} {a0 : Int32} {mm : Mm} {res : Int32 × Mm}  (hf : fX11_isInTurn N a0 mm = some res) : Met l yX11_isInTurn (WS yX11_isInTurn cX11_isInTurn 1 (some .boolean)) (rmX11_isInTurn) (va_Pc [.int a0] (WB D ca ad mm)) (QI D ca ad res) 0 0 (AA ad) := by
  refine x_start hi (by decide) rfl (Nat.le_of_ble_eq_true rfl) (fun p e s m args below meth c ls C hW hl => ?_)
  exact wX11_isInTurn_0 C  hW (lv_sub hl [0] rfl) hf
set_option maxRecDepth 100000 in
set_option maxHeartbeats 4000000 in
theorem wX11_from_0 (C : Cx p s m meth c args cX11_from 4 (some .int) RX11 D ca ad) {res : Int32 × Mm} {N : Nat}  {a0 : Nat} {a1 : Int32} {a2 : Int32} {a3 : Int32} {mm : Mm} {H : Heap} {locs : List Loc} {ls : Array Slot} (ha0 : sX11 a0) (hW : Wd D ca ad s.heap mm H locs) (hl : lv_has ls 4 [(0, .ref (ad a0)), (1, .int a1), (2, .int a2), (3, .int a3)]) (hf : fX11_from N a0 a1 a2 a3 mm = some res) : W p l e (rmX11_from) s m args below meth c H locs 0 0 (MQ below (QI D ca ad res) args s 0 0 (AA ad)) (F0 m 0 ls []) := by
  unfold fX11_from at hf
  refine lv_iload_n C.1 C.2.1 dX11_from_0 rfl (lv_at hl 1 rfl) ?_
  refine lv_if_lt (tgt := 29) C.1 C.2.1 dX11_from_1 (by decide) (fun c1 => ?_) (fun c1 => ?_)
  · have hf := if_t c1 hf
    refine lv_iconst (v := (-1)) C.1 C.2.1 dX11_from_29 (by decide) ?_
    cases hf
    exact x_iret C hW dX11_from_30
  · have hf := if_f c1 hf
    refine lv_iload_n C.1 C.2.1 dX11_from_4 rfl (lv_at hl 1 rfl) ?_
    refine lv_aload_n C.1 C.2.1 dX11_from_5 rfl (lv_at hl 0 rfl) ?_
    refine x_getr C hW (ha0).1 (ha0).2.1 (j := 2) rfl kX11 (by decide) rfl q_310 dX11_from_6 ?_
    refine x_geti C hW (ha0.2.2.2.2.1).1 (ha0.2.2.2.2.1).2.1 (j := 5) rfl kX0 (by decide) rfl q_72 dX11_from_9 ?_
    refine lv_icmp_gt (tgt := 29) C.1 C.2.1 dX11_from_12 (by decide) (fun c2 => ?_) (fun c2 => ?_)
    · have hf := if_t c2 hf
      refine lv_iconst (v := (-1)) C.1 C.2.1 dX11_from_29 (by decide) ?_
      cases hf
      exact x_iret C hW dX11_from_30
    · have hf := if_f c2 hf
      refine lv_iload_n C.1 C.2.1 dX11_from_15 rfl (lv_at hl 2 rfl) ?_
      obtain ⟨x3, m4, r5, hf⟩ := bd2_s hf
      refine x_ci hW (x_runS C hW [.int a2] [] kvX11_isInTurn q_610 (tX11_isInTurn l C.2.2.2.2.2.2.1  r5) rfl rfl ⟨by decide, by decide⟩ rfl hl.1 rfl (Nat.le_of_ble_eq_true rfl) dX11_from_16) (fun H locs hW => ?_)
      refine lv_if_eq (tgt := 29) C.1 C.2.1 dX11_from_19 (by decide) (fun c6 => ?_) (fun c6 => ?_)
      · have hf := if_t c6 hf
        refine lv_iconst (v := (-1)) C.1 C.2.1 dX11_from_29 (by decide) ?_
        cases hf
        exact x_iret C hW dX11_from_30
      · have hf := if_f c6 hf
        refine lv_iload_n C.1 C.2.1 dX11_from_22 rfl (lv_at hl 3 rfl) ?_
        obtain ⟨x7, m8, r9, hf⟩ := bd2_s hf
        refine x_ci hW (x_runS C hW [.int a3] [] kvX11_isInTurn q_610 (tX11_isInTurn l C.2.2.2.2.2.2.1  r9) rfl rfl ⟨by decide, by decide⟩ rfl hl.1 rfl (Nat.le_of_ble_eq_true rfl) dX11_from_23) (fun H locs hW => ?_)
        refine lv_if_ne (tgt := 31) C.1 C.2.1 dX11_from_26 (by decide) (fun c10 => ?_) (fun c10 => ?_)
        · have hf := if_f c10 hf
          refine lv_aload_n C.1 C.2.1 dX11_from_31 rfl (lv_at hl 0 rfl) ?_
          refine lv_aload_n C.1 C.2.1 dX11_from_32 rfl (lv_at hl 0 rfl) ?_
          refine x_getr C hW (ha0).1 (ha0).2.1 (j := 10) rfl kX11 (by decide) rfl q_318 dX11_from_33 ?_
          refine lv_aload_n C.1 C.2.1 dX11_from_36 rfl (lv_at hl 0 rfl) ?_
          refine x_getr C hW (ha0).1 (ha0).2.1 (j := 2) rfl kX11 (by decide) rfl q_310 dX11_from_37 ?_
          refine lv_iload_n C.1 C.2.1 dX11_from_40 rfl (lv_at hl 1 rfl) ?_
          refine lv_iload_n C.1 C.2.1 dX11_from_41 rfl (lv_at hl 2 rfl) ?_
          refine lv_iload_n C.1 C.2.1 dX11_from_42 rfl (lv_at hl 3 rfl) ?_
          obtain ⟨x11, m12, r13, hf⟩ := bd2_s hf
          refine x_ci hW (x_runV C hW [.ref (ad (fr a0 2)), .int a1, .int a2, .int a3] [.ref (ad a0)] (ha0.2.2.2.2.2.2.2.2.2.2.2.2.1).1 (ha0.2.2.2.2.2.2.2.2.2.2.2.2.1).2.1 kX10.1 kvX10_valueOf q_613 (tX10_valueOf l C.2.2.2.2.2.2.1 ha0.2.2.2.2.2.2.2.2.2.2.2.2.1 ha0.2.2.2.2.1 r13) rfl rfl ⟨by decide, by decide⟩ rfl hl.1 rfl (Nat.le_of_ble_eq_true rfl) dX11_from_43) (fun H locs hW => ?_)
          obtain ⟨x14, m15, r16, hf⟩ := bd2_s hf
          refine x_ci hW (x_runV C hW [.int x11] [] (ha0).1 (ha0).2.1 kX11.1 kvX11_told q_380 (tX11_told l C.2.2.2.2.2.2.1 ha0 r16) rfl rfl ⟨by decide, by decide⟩ rfl hl.1 rfl (Nat.le_of_ble_eq_true rfl) dX11_from_46) (fun H locs hW => ?_)
          cases hf
          exact x_iret C hW dX11_from_49
        · have hf := if_t c10 hf
          refine lv_iconst (v := (-1)) C.1 C.2.1 dX11_from_29 (by decide) ?_
          cases hf
          exact x_iret C hW dX11_from_30
set_option maxRecDepth 100000 in
set_option maxHeartbeats 4000000 in
theorem tX11_from (l : Launch) {D : va_G} {ca ad : Nat → Nat} (hi : Inj ad) {N : Nat} {a0 : Nat} {a1 : Int32} {a2 : Int32} {a3 : Int32} {mm : Mm} {res : Int32 × Mm} (ha0 : sX11 a0) (hf : fX11_from N a0 a1 a2 a3 mm = some res) : Met l yX11_from (WS yX11_from cX11_from 4 (some .int)) (rmX11_from) (va_Pc [.ref (ad a0), .int a1, .int a2, .int a3] (WB D ca ad mm)) (QI D ca ad res) 0 0 (AA ad) := by
  refine x_start hi (by decide) rfl (Nat.le_of_ble_eq_true rfl) (fun p e s m args below meth c ls C hW hl => ?_)
  exact wX11_from_0 C ha0 hW (lv_sub hl [0, 1, 2, 3] rfl) hf
set_option maxRecDepth 100000 in
set_option maxHeartbeats 4000000 in
theorem wX11_lender_0 (C : Cx p s m meth c args cX11_lender 4 (some .int) RX11 D ca ad) {res : Int32 × Mm} {N : Nat}  {a0 : Nat} {a1 : Int32} {a2 : Int32} {mm : Mm} {H : Heap} {locs : List Loc} {ls : Array Slot} (ha0 : sX11 a0) (hW : Wd D ca ad s.heap mm H locs) (hl : lv_has ls 4 [(0, .ref (ad a0)), (1, .int a1), (2, .int a2)]) (hf : fX11_lender N a0 a1 a2 mm = some res) : W p l e (rmX11_lender) s m args below meth c H locs 0 0 (MQ below (QI D ca ad res) args s 0 0 (AA ad)) (F0 m 0 ls []) := by
  unfold fX11_lender at hf
  refine lv_iload_n C.1 C.2.1 dX11_lender_0 rfl (lv_at hl 1 rfl) ?_
  refine lv_if_lt (tgt := 19) C.1 C.2.1 dX11_lender_1 (by decide) (fun c1 => ?_) (fun c1 => ?_)
  · have hf := if_t c1 hf
    refine lv_iconst (v := (-1)) C.1 C.2.1 dX11_lender_19 (by decide) ?_
    cases hf
    exact x_iret C hW dX11_lender_20
  · have hf := if_f c1 hf
    refine lv_iload_n C.1 C.2.1 dX11_lender_4 rfl (lv_at hl 1 rfl) ?_
    refine lv_iconst (v := 4) C.1 C.2.1 dX11_lender_5 (by decide) ?_
    refine lv_icmp_ge (tgt := 19) C.1 C.2.1 dX11_lender_6 (by decide) (fun c2 => ?_) (fun c2 => ?_)
    · have hf := if_t c2 hf
      refine lv_iconst (v := (-1)) C.1 C.2.1 dX11_lender_19 (by decide) ?_
      cases hf
      exact x_iret C hW dX11_lender_20
    · have hf := if_f c2 hf
      refine lv_iload_n C.1 C.2.1 dX11_lender_9 rfl (lv_at hl 2 rfl) ?_
      refine lv_if_lt (tgt := 19) C.1 C.2.1 dX11_lender_10 (by decide) (fun c3 => ?_) (fun c3 => ?_)
      · have hf := if_t c3 hf
        refine lv_iconst (v := (-1)) C.1 C.2.1 dX11_lender_19 (by decide) ?_
        cases hf
        exact x_iret C hW dX11_lender_20
      · have hf := if_f c3 hf
        refine lv_iload_n C.1 C.2.1 dX11_lender_13 rfl (lv_at hl 2 rfl) ?_
        refine lv_bipush (v := 20) C.1 C.2.1 dX11_lender_14 (by decide) ?_
        refine lv_icmp_le (tgt := 21) C.1 C.2.1 dX11_lender_16 (by decide) (fun c4 => ?_) (fun c4 => ?_)
        · have hf := if_t c4 hf
          refine lv_aload_n C.1 C.2.1 dX11_lender_21 rfl (lv_at hl 0 rfl) ?_
          refine x_getr C hW (ha0).1 (ha0).2.1 (j := 2) rfl kX11 (by decide) rfl q_310 dX11_lender_22 ?_
          refine x_getr C hW (ha0.2.2.2.2.1).1 (ha0.2.2.2.2.1).2.1 (j := 2) rfl kX0 (by decide) rfl q_64 dX11_lender_25 ?_
          refine lv_iload_n C.1 C.2.1 dX11_lender_28 rfl (lv_at hl 1 rfl) ?_
          obtain ⟨g5, hf⟩ := gd_s hf
          refine x_iald C hW ha0.2.2.2.2.1.2.2.2.2.1 g5 dX11_lender_29 ?_
          refine lv_topi (fun x6 ex6 => ?_)
          have hf := nm_s hf ex6
          refine lv_istore_n (lv' := [(3, .int x6), (0, .ref (ad a0)), (1, .int a1), (2, .int a2)]) C.1 C.2.1 dX11_lender_30 rfl hl (by decide) rfl (fun ls hl => ?_)
          refine lv_aload_n C.1 C.2.1 dX11_lender_31 rfl (lv_at hl 1 rfl) ?_
          refine x_getr C hW (ha0).1 (ha0).2.1 (j := 2) rfl kX11 (by decide) rfl q_310 dX11_lender_32 ?_
          refine x_getr C hW (ha0.2.2.2.2.1).1 (ha0.2.2.2.2.1).2.1 (j := 2) rfl kX0 (by decide) rfl q_64 dX11_lender_35 ?_
          refine lv_iload_n C.1 C.2.1 dX11_lender_38 rfl (lv_at hl 2 rfl) ?_
          refine lv_iload_n C.1 C.2.1 dX11_lender_39 rfl (lv_at hl 3 rfl) ?_
          obtain ⟨g7, hf⟩ := gd_s hf
          refine x_iast C hW ha0.2.2.2.2.1.2.2.2.2.1 g7 dX11_lender_40 (fun H locs hW => ?_)
          obtain ⟨m8, em8⟩ : ∃ z, z = wr mm (fr (fr a0 2) 2) a1.toNatClampNeg a2 := ⟨_, rfl⟩
          have hf := nm_s hf em8
          rw [← em8] at hW
          refine lv_iload_n C.1 C.2.1 dX11_lender_41 rfl (lv_at hl 0 rfl) ?_
          cases hf
          exact x_iret C hW dX11_lender_42
        · have hf := if_f c4 hf
          refine lv_iconst (v := (-1)) C.1 C.2.1 dX11_lender_19 (by decide) ?_
          cases hf
          exact x_iret C hW dX11_lender_20
set_option maxRecDepth 100000 in
set_option maxHeartbeats 4000000 in
theorem tX11_lender (l : Launch) {D : va_G} {ca ad : Nat → Nat} (hi : Inj ad) {N : Nat} {a0 : Nat} {a1 : Int32} {a2 : Int32} {mm : Mm} {res : Int32 × Mm} (ha0 : sX11 a0) (hf : fX11_lender N a0 a1 a2 mm = some res) : Met l yX11_lender (WS yX11_lender cX11_lender 4 (some .int)) (rmX11_lender) (va_Pc [.ref (ad a0), .int a1, .int a2] (WB D ca ad mm)) (QI D ca ad res) 0 0 (AA ad) := by
  refine x_start hi (by decide) rfl (Nat.le_of_ble_eq_true rfl) (fun p e s m args below meth c ls C hW hl => ?_)
  exact wX11_lender_0 C ha0 hW (lv_sub hl [0, 1, 2] rfl) hf
set_option maxRecDepth 100000 in
set_option maxHeartbeats 4000000 in
theorem wX11_worthOf_0 (C : Cx p s m meth c args cX11_worthOf 2 (some .int) RX11 D ca ad) {res : Int32 × Mm} {N : Nat}  {a0 : Nat} {a1 : Int32} {mm : Mm} {H : Heap} {locs : List Loc} {ls : Array Slot} (ha0 : sX11 a0) (hW : Wd D ca ad s.heap mm H locs) (hl : lv_has ls 2 [(0, .ref (ad a0)), (1, .int a1)]) (hf : fX11_worthOf N a0 a1 mm = some res) : W p l e (rmX11_worthOf) s m args below meth c H locs 0 0 (MQ below (QI D ca ad res) args s 0 0 (AA ad)) (F0 m 0 ls []) := by
  unfold fX11_worthOf at hf
  refine lv_aload_n C.1 C.2.1 dX11_worthOf_0 rfl (lv_at hl 0 rfl) ?_
  refine x_getr C hW (ha0).1 (ha0).2.1 (j := 7) rfl kX11 (by decide) rfl q_315 dX11_worthOf_1 ?_
  refine lv_aload_n C.1 C.2.1 dX11_worthOf_4 rfl (lv_at hl 0 rfl) ?_
  refine x_getr C hW (ha0).1 (ha0).2.1 (j := 2) rfl kX11 (by decide) rfl q_310 dX11_worthOf_5 ?_
  refine lv_iload_n C.1 C.2.1 dX11_worthOf_8 rfl (lv_at hl 1 rfl) ?_
  obtain ⟨x1, m2, r3, hf⟩ := bd2_s hf
  refine x_ci hW (x_runV C hW [.int a1] [.ref (ad (fr a0 7))] (ha0.2.2.2.2.1).1 (ha0.2.2.2.2.1).2.1 kX0.1 kvX0_stockWith q_657 (tX0_stockWith l C.2.2.2.2.2.2.1 ha0.2.2.2.2.1 r3) rfl rfl ⟨by decide, by decide⟩ rfl hl.1 rfl (Nat.le_of_ble_eq_true rfl) dX11_worthOf_9) (fun H locs hW => ?_)
  obtain ⟨x4, m5, r6, hf⟩ := bd2_s hf
  refine x_ci hW (x_runV C hW [.int x1] [] (ha0.2.2.2.2.2.2.2.2.2.1).1 (ha0.2.2.2.2.2.2.2.2.2.1).2.1 kX8.1 kvX8_mostBy q_528 (tX8_mostBy l C.2.2.2.2.2.2.1 ha0.2.2.2.2.2.2.2.2.2.1 r6) rfl rfl ⟨by decide, by decide⟩ rfl hl.1 rfl (Nat.le_of_ble_eq_true rfl) dX11_worthOf_12) (fun H locs hW => ?_)
  refine lv_aload_n C.1 C.2.1 dX11_worthOf_15 rfl (lv_at hl 0 rfl) ?_
  refine x_getr C hW (ha0).1 (ha0).2.1 (j := 7) rfl kX11 (by decide) rfl q_315 dX11_worthOf_16 ?_
  refine lv_aload_n C.1 C.2.1 dX11_worthOf_19 rfl (lv_at hl 0 rfl) ?_
  refine x_getr C hW (ha0).1 (ha0).2.1 (j := 2) rfl kX11 (by decide) rfl q_310 dX11_worthOf_20 ?_
  refine x_getr C hW (ha0.2.2.2.2.1).1 (ha0.2.2.2.2.1).2.1 (j := 1) rfl kX0 (by decide) rfl q_62 dX11_worthOf_23 ?_
  refine lv_iconst (v := 0) C.1 C.2.1 dX11_worthOf_26 (by decide) ?_
  obtain ⟨g7, hf⟩ := gd_s hf
  refine x_iald C hW ha0.2.2.2.2.1.2.2.2.1 g7 dX11_worthOf_27 ?_
  obtain ⟨x8, m9, r10, hf⟩ := bd2_s hf
  refine x_ci hW (x_runV C hW [.int (rd m5 (fr (fr a0 2) 1) ((0 : Int32).toNatClampNeg))] [.int x4] (ha0.2.2.2.2.2.2.2.2.2.1).1 (ha0.2.2.2.2.2.2.2.2.2.1).2.1 kX8.1 kvX8_mostBy q_528 (tX8_mostBy l C.2.2.2.2.2.2.1 ha0.2.2.2.2.2.2.2.2.2.1 r10) rfl rfl ⟨by decide, by decide⟩ rfl hl.1 rfl (Nat.le_of_ble_eq_true rfl) dX11_worthOf_28) (fun H locs hW => ?_)
  refine lv_isub C.1 C.2.1 dX11_worthOf_31 ?_
  cases hf
  exact x_iret C hW dX11_worthOf_32
set_option maxRecDepth 100000 in
set_option maxHeartbeats 4000000 in
theorem tX11_worthOf (l : Launch) {D : va_G} {ca ad : Nat → Nat} (hi : Inj ad) {N : Nat} {a0 : Nat} {a1 : Int32} {mm : Mm} {res : Int32 × Mm} (ha0 : sX11 a0) (hf : fX11_worthOf N a0 a1 mm = some res) : Met l yX11_worthOf (WS yX11_worthOf cX11_worthOf 2 (some .int)) (rmX11_worthOf) (va_Pc [.ref (ad a0), .int a1] (WB D ca ad mm)) (QI D ca ad res) 0 0 (AA ad) := by
  refine x_start hi (by decide) rfl (Nat.le_of_ble_eq_true rfl) (fun p e s m args below meth c ls C hW hl => ?_)
  exact wX11_worthOf_0 C ha0 hW (lv_sub hl [0, 1] rfl) hf
set_option maxRecDepth 100000 in
set_option maxHeartbeats 4000000 in
theorem wX11_lend_0 (C : Cx p s m meth c args cX11_lend 4 (some .int) RX11 D ca ad) {res : Int32 × Mm} {N : Nat}  {a0 : Nat} {a1 : Int32} {a2 : Int32} {mm : Mm} {H : Heap} {locs : List Loc} {ls : Array Slot} (ha0 : sX11 a0) (hW : Wd D ca ad s.heap mm H locs) (hl : lv_has ls 4 [(0, .ref (ad a0)), (1, .int a1), (2, .int a2)]) (hf : fX11_lend N a0 a1 a2 mm = some res) : W p l e (rmX11_lend) s m args below meth c H locs 0 0 (MQ below (QI D ca ad res) args s 0 0 (AA ad)) (F0 m 0 ls []) := by
  unfold fX11_lend at hf
  refine lv_aload_n C.1 C.2.1 dX11_lend_0 rfl (lv_at hl 0 rfl) ?_
  refine lv_iload_n C.1 C.2.1 dX11_lend_1 rfl (lv_at hl 2 rfl) ?_
  obtain ⟨x1, m2, r3, hf⟩ := bd2_s hf
  refine x_cr hW (x_runV C hW [.int a2] [] (ha0).1 (ha0).2.1 kX11.1 kvX11_rowOf q_364 (tX11_rowOf l C.2.2.2.2.2.2.1 ha0 r3) rfl rfl ⟨by decide, by decide⟩ rfl hl.1 rfl (Nat.le_of_ble_eq_true rfl) dX11_lend_2) (fun H locs hW => ?_)
  refine x_astore_n (lv' := [(3, va_re ad x1), (0, .ref (ad a0)), (1, .int a1), (2, .int a2)]) C dX11_lend_5 rfl hl (by decide) rfl (fun ls hl => ?_)
  refine lv_iload_n C.1 C.2.1 dX11_lend_6 rfl (lv_at hl 2 rfl) ?_
  refine lv_if_lt (tgt := 20) C.1 C.2.1 dX11_lend_7 (by decide) (fun c4 => ?_) (fun c4 => ?_)
  · have hf := if_t c4 hf
    refine lv_iconst (v := (-1)) C.1 C.2.1 dX11_lend_20 (by decide) ?_
    cases hf
    exact x_iret C hW dX11_lend_21
  · have hf := if_f c4 hf
    refine lv_iload_n C.1 C.2.1 dX11_lend_10 rfl (lv_at hl 2 rfl) ?_
    refine lv_bipush (v := 15) C.1 C.2.1 dX11_lend_11 (by decide) ?_
    refine lv_icmp_gt (tgt := 20) C.1 C.2.1 dX11_lend_13 (by decide) (fun c5 => ?_) (fun c5 => ?_)
    · have hf := if_t c5 hf
      refine lv_iconst (v := (-1)) C.1 C.2.1 dX11_lend_20 (by decide) ?_
      cases hf
      exact x_iret C hW dX11_lend_21
    · have hf := if_f c5 hf
      refine x_aload_n C dX11_lend_16 rfl (lv_at hl 0 rfl) ?_
      refine x_ifnonnull C (tgt := 22) dX11_lend_17 (by decide) (fun n7 => ?_) (fun z6 n7 => ?_)
      · subst n7
        have hf := cs_n hf
        refine lv_iconst (v := (-1)) C.1 C.2.1 dX11_lend_20 (by decide) ?_
        cases hf
        exact x_iret C hW dX11_lend_21
      · subst n7
        have hf := cs_q hf
        refine lv_aload_n C.1 C.2.1 dX11_lend_22 rfl (lv_at hl 1 rfl) ?_
        refine lv_aload_n C.1 C.2.1 dX11_lend_23 rfl (lv_at hl 0 rfl) ?_
        refine lv_iconst (v := 1) C.1 C.2.1 dX11_lend_24 (by decide) ?_
        obtain ⟨x8, m9, r10, hf⟩ := bd2_s hf
        refine x_ci hW (x_runV C hW [.ref (ad z6), .int 1] [] (ha0).1 (ha0).2.1 kX11.1 kvX11_isWrong q_470 (tX11_isWrong l C.2.2.2.2.2.2.1 ha0 ((gX11_rowOf ha0 r3) z6 rfl) r10) rfl rfl ⟨by decide, by decide⟩ rfl hl.1 rfl (Nat.le_of_ble_eq_true rfl) dX11_lend_25) (fun H locs hW => ?_)
        refine lv_if_eq (tgt := 34) C.1 C.2.1 dX11_lend_28 (by decide) (fun c11 => ?_) (fun c11 => ?_)
        · have hf := if_t c11 hf
          refine lv_aload_n C.1 C.2.1 dX11_lend_34 rfl (lv_at hl 1 rfl) ?_
          refine x_getr C hW (ha0).1 (ha0).2.1 (j := 2) rfl kX11 (by decide) rfl q_310 dX11_lend_35 ?_
          refine lv_iload_n C.1 C.2.1 dX11_lend_38 rfl (lv_at hl 2 rfl) ?_
          obtain ⟨x12, m13, r14, hf⟩ := bd2_s hf
          refine x_ci hW (x_runV C hW [.int a1] [] (ha0.2.2.2.2.1).1 (ha0.2.2.2.2.1).2.1 kX0.1 kvX0_stockWith q_657 (tX0_stockWith l C.2.2.2.2.2.2.1 ha0.2.2.2.2.1 r14) rfl rfl ⟨by decide, by decide⟩ rfl hl.1 rfl (Nat.le_of_ble_eq_true rfl) dX11_lend_39) (fun H locs hW => ?_)
          refine lv_bipush (v := 40) C.1 C.2.1 dX11_lend_42 (by decide) ?_
          refine lv_icmp_le (tgt := 50) C.1 C.2.1 dX11_lend_44 (by decide) (fun c15 => ?_) (fun c15 => ?_)
          · have hf := if_t c15 hf
            refine lv_aload_n C.1 C.2.1 dX11_lend_50 rfl (lv_at hl 1 rfl) ?_
            refine x_getr C hW (ha0).1 (ha0).2.1 (j := 7) rfl kX11 (by decide) rfl q_315 dX11_lend_51 ?_
            refine lv_aload_n C.1 C.2.1 dX11_lend_54 rfl (lv_at hl 1 rfl) ?_
            refine x_getr C hW (ha0).1 (ha0).2.1 (j := 2) rfl kX11 (by decide) rfl q_310 dX11_lend_55 ?_
            refine lv_aload_n C.1 C.2.1 dX11_lend_58 rfl (lv_at hl 1 rfl) ?_
            refine x_getr C hW (ha0).1 (ha0).2.1 (j := 2) rfl kX11 (by decide) rfl q_310 dX11_lend_59 ?_
            refine x_geti C hW (ha0.2.2.2.2.1).1 (ha0.2.2.2.2.1).2.1 (j := 6) rfl kX0 (by decide) rfl q_77 dX11_lend_62 ?_
            refine lv_aload_n C.1 C.2.1 dX11_lend_65 rfl (lv_at hl 0 rfl) ?_
            refine x_getr C hW (((gX11_rowOf ha0 r3) z6 rfl)).1 (((gX11_rowOf ha0 r3) z6 rfl)).2.1 (j := 0) rfl kX6 (by decide) rfl q_299 dX11_lend_66 ?_
            refine lv_bipush (v := 40) C.1 C.2.1 dX11_lend_69 (by decide) ?_
            obtain ⟨x16, m17, r18, hf⟩ := bd2_s hf
            refine x_cv hW (x_runV C hW [.ref (ad (fr a0 2)), .int (rd m13 (fr a0 2) 6), .ref (ad (fr z6 0)), .int 40] [] (ha0.2.2.2.2.2.2.2.2.2.1).1 (ha0.2.2.2.2.2.2.2.2.2.1).2.1 kX8.1 kvX8_run q_474 (tX8_run l C.2.2.2.2.2.2.1 ha0.2.2.2.2.2.2.2.2.2.1 ha0.2.2.2.2.1 (((gX11_rowOf ha0 r3) z6 rfl).2.2) r18) rfl rfl ⟨by decide, by decide⟩ rfl hl.1 rfl (Nat.le_of_ble_eq_true rfl) dX11_lend_71) (fun H locs hW => ?_)
            refine lv_aload_n C.1 C.2.1 dX11_lend_74 rfl (lv_at hl 1 rfl) ?_
            refine lv_iload_n C.1 C.2.1 dX11_lend_75 rfl (lv_at hl 2 rfl) ?_
            obtain ⟨x19, m20, r21, hf⟩ := bd2_s hf
            refine x_ci hW (x_runV C hW [.int a1] [] (ha0).1 (ha0).2.1 kX11.1 kvX11_worthOf q_661 (tX11_worthOf l C.2.2.2.2.2.2.1 ha0 r21) rfl rfl ⟨by decide, by decide⟩ rfl hl.1 rfl (Nat.le_of_ble_eq_true rfl) dX11_lend_76) (fun H locs hW => ?_)
            cases hf
            exact x_iret C hW dX11_lend_79
          · have hf := if_f c15 hf
            refine lv_bipush (v := (-6)) C.1 C.2.1 dX11_lend_47 (by decide) ?_
            cases hf
            exact x_iret C hW dX11_lend_49
        · have hf := if_f c11 hf
          refine lv_bipush (v := (-3)) C.1 C.2.1 dX11_lend_31 (by decide) ?_
          cases hf
          exact x_iret C hW dX11_lend_33
set_option maxRecDepth 100000 in
set_option maxHeartbeats 4000000 in
theorem tX11_lend (l : Launch) {D : va_G} {ca ad : Nat → Nat} (hi : Inj ad) {N : Nat} {a0 : Nat} {a1 : Int32} {a2 : Int32} {mm : Mm} {res : Int32 × Mm} (ha0 : sX11 a0) (hf : fX11_lend N a0 a1 a2 mm = some res) : Met l yX11_lend (WS yX11_lend cX11_lend 4 (some .int)) (rmX11_lend) (va_Pc [.ref (ad a0), .int a1, .int a2] (WB D ca ad mm)) (QI D ca ad res) 0 0 (AA ad) := by
  refine x_start hi (by decide) rfl (Nat.le_of_ble_eq_true rfl) (fun p e s m args below meth c ls C hW hl => ?_)
  exact wX11_lend_0 C ha0 hW (lv_sub hl [0, 1, 2] rfl) hf
set_option maxRecDepth 100000 in
set_option maxHeartbeats 4000000 in
theorem wX11_ordersAround_0 (C : Cx p s m meth c args cX11_ordersAround 1 (some .int) RX11 D ca ad) {res : Int32 × Mm} {N : Nat}  {a0 : Int32} {mm : Mm} {H : Heap} {locs : List Loc} {ls : Array Slot}  (hW : Wd D ca ad s.heap mm H locs) (hl : lv_has ls 1 [(0, .int a0)]) (hf : fX11_ordersAround N a0 mm = some res) : W p l e (rmX11_ordersAround) s m args below meth c H locs 0 0 (MQ below (QI D ca ad res) args s 0 0 (AA ad)) (F0 m 0 ls []) := by
  unfold fX11_ordersAround at hf
  refine lv_iload_n C.1 C.2.1 dX11_ordersAround_0 rfl (lv_at hl 0 rfl) ?_
  refine lv_if_eq (tgt := 9) C.1 C.2.1 dX11_ordersAround_1 (by decide) (fun c1 => ?_) (fun c1 => ?_)
  · have hf := if_t c1 hf
    refine lv_bipush (v := 6) C.1 C.2.1 dX11_ordersAround_9 (by decide) ?_
    refine lv_goto (tgt := 15) C.1 C.2.1 dX11_ordersAround_11 (by decide) ?_
    cases hf
    exact x_iret C hW dX11_ordersAround_15
  · have hf := if_f c1 hf
    refine lv_iload_n C.1 C.2.1 dX11_ordersAround_4 rfl (lv_at hl 0 rfl) ?_
    refine lv_iconst (v := 3) C.1 C.2.1 dX11_ordersAround_5 (by decide) ?_
    refine lv_icmp_ne (tgt := 14) C.1 C.2.1 dX11_ordersAround_6 (by decide) (fun c2 => ?_) (fun c2 => ?_)
    · have hf := if_f c2 hf
      refine lv_iconst (v := 2) C.1 C.2.1 dX11_ordersAround_14 (by decide) ?_
      cases hf
      exact x_iret C hW dX11_ordersAround_15
    · have hf := if_t c2 hf
      refine lv_bipush (v := 6) C.1 C.2.1 dX11_ordersAround_9 (by decide) ?_
      refine lv_goto (tgt := 15) C.1 C.2.1 dX11_ordersAround_11 (by decide) ?_
      cases hf
      exact x_iret C hW dX11_ordersAround_15
set_option maxRecDepth 100000 in
set_option maxHeartbeats 4000000 in
theorem tX11_ordersAround (l : Launch) {D : va_G} {ca ad : Nat → Nat} (hi : Inj ad) {N : Nat} {a0 : Int32} {mm : Mm} {res : Int32 × Mm}  (hf : fX11_ordersAround N a0 mm = some res) : Met l yX11_ordersAround (WS yX11_ordersAround cX11_ordersAround 1 (some .int)) (rmX11_ordersAround) (va_Pc [.int a0] (WB D ca ad mm)) (QI D ca ad res) 0 0 (AA ad) := by
  refine x_start hi (by decide) rfl (Nat.le_of_ble_eq_true rfl) (fun p e s m args below meth c ls C hW hl => ?_)
  exact wX11_ordersAround_0 C  hW (lv_sub hl [0] rfl) hf
set_option maxRecDepth 100000 in
set_option maxHeartbeats 4000000 in
theorem wX11_adds_127 (C : Cx p s m meth c args cX11_adds 6 (some .int) RX11 D ca ad) {res : Int32 × Mm} {N : Nat} {k80 : Nat → Int32 → Int32 → Int32 → Mm → Option (Int32 × Mm)} (hk80 : ∀ (a0 : Nat) (a1 : Int32) (a4 : Int32) (a5 : Int32) (mm : Mm) (H : Heap) (locs : List Loc) (ls : Array Slot), (sX11 a0) → Wd D ca ad s.heap mm H locs → lv_has ls 6 [(0, .ref (ad a0)), (1, .int a1), (4, .int a4), (5, .int a5)] → k80 a0 a1 a4 a5 mm = some res → W p l e (rmX11_adds) s m args below meth c H locs 0 0 (MQ below (QI D ca ad res) args s 0 0 (AA ad)) (F0 m 80 ls [])) {a0 : Nat} {a1 : Int32} {a4 : Int32} {a5 : Int32} {mm : Mm} {H : Heap} {locs : List Loc} {ls : Array Slot} (ha0 : sX11 a0) (hW : Wd D ca ad s.heap mm H locs) (hl : lv_has ls 6 [(0, .ref (ad a0)), (1, .int a1), (4, .int a4), (5, .int a5)]) (hf : fX11_adds_127 N k80 a0 a1 a4 a5 mm = some res) : W p l e (rmX11_adds) s m args below meth c H locs 0 0 (MQ below (QI D ca ad res) args s 0 0 (AA ad)) (F0 m 127 ls []) := by
  unfold fX11_adds_127 at hf
  refine lv_iinc (v := (a5 + 1)) (lv' := [(5, .int (a5 + 1)), (0, .ref (ad a0)), (1, .int a1), (4, .int a4)]) C.1 C.2.1 dX11_adds_127 hl (k := 3) rfl rfl (by decide) rfl (fun ls hl => ?_)
  refine lv_goto (tgt := 80) C.1 C.2.1 dX11_adds_130 (by decide) ?_
  exact hk80 _ _ _ _ _ _ _ _ ha0 hW (lv_sub hl [1, 2, 3, 0] rfl) hf
set_option maxRecDepth 100000 in
set_option maxHeartbeats 4000000 in
theorem wX11_adds_80 (C : Cx p s m meth c args cX11_adds 6 (some .int) RX11 D ca ad) {res : Int32 × Mm} {N : Nat}  : ∀ (n : Nat) {a0 : Nat} {a1 : Int32} {a4 : Int32} {a5 : Int32} {mm : Mm} {H : Heap} {locs : List Loc} {ls : Array Slot}, (sX11 a0) → Wd D ca ad s.heap mm H locs → lv_has ls 6 [(0, .ref (ad a0)), (1, .int a1), (4, .int a4), (5, .int a5)] → fX11_adds_80 N n a0 a1 a4 a5 mm = some res → W p l e (rmX11_adds) s m args below meth c H locs 0 0 (MQ below (QI D ca ad res) args s 0 0 (AA ad)) (F0 m 80 ls []) := by
  intro n
  induction n with
  | zero => intro a0 a1 a4 a5 mm H locs ls ha0 hW hl hf; cases hf
  | succ n ih =>
    intro a0 a1 a4 a5 mm H locs ls ha0 hW hl hf
    have hk80 : ∀ (a0 : Nat) (a1 : Int32) (a4 : Int32) (a5 : Int32) (mm : Mm) (H : Heap) (locs : List Loc) (ls : Array Slot), (sX11 a0) → Wd D ca ad s.heap mm H locs → lv_has ls 6 [(0, .ref (ad a0)), (1, .int a1), (4, .int a4), (5, .int a5)] → (fX11_adds_80 N n) a0 a1 a4 a5 mm = some res → W p l e (rmX11_adds) s m args below meth c H locs 0 0 (MQ below (QI D ca ad res) args s 0 0 (AA ad)) (F0 m 80 ls []) := fun a0 a1 a4 a5 mm H locs ls ha0 hW hl hf => ih ha0 hW hl hf
    unfold fX11_adds_80 at hf
    try dsimp only at hf
    refine lv_iload C.1 C.2.1 dX11_adds_80 (lv_at hl 3 rfl) ?_
    refine lv_bipush (v := 15) C.1 C.2.1 dX11_adds_82 (by decide) ?_
    refine lv_icmp_gt (tgt := 133) C.1 C.2.1 dX11_adds_84 (by decide) (fun c1 => ?_) (fun c1 => ?_)
    · have hf := if_t c1 hf
      refine lv_aload_n C.1 C.2.1 dX11_adds_133 rfl (lv_at hl 0 rfl) ?_
      refine lv_iload C.1 C.2.1 dX11_adds_134 (lv_at hl 2 rfl) ?_
      refine lv_i2l C.1 C.2.1 dX11_adds_136 rfl ?_
      refine lv_ldc2 C.1 C.2.1 C.2.2.2.1 (C.2.2.2.2.1 _ q_678) dX11_adds_137 ?_
      obtain ⟨x2, m3, r4, hf⟩ := bd2_s hf
      refine x_cv hW (x_runV C hW [.long a4.toInt64, .long 24] [] (ha0).1 (ha0).2.1 kX11.1 kvX11_fraction q_548 (tX11_fraction l C.2.2.2.2.2.2.1 ha0 r4) rfl rfl ⟨by decide, by decide⟩ rfl hl.1 rfl (Nat.le_of_ble_eq_true rfl) dX11_adds_140) (fun H locs hW => ?_)
      refine lv_iconst (v := 1) C.1 C.2.1 dX11_adds_143 (by decide) ?_
      cases hf
      exact x_iret C hW dX11_adds_144
    · have hf := if_f c1 hf
      refine lv_iload C.1 C.2.1 dX11_adds_87 (lv_at hl 3 rfl) ?_
      refine lv_iload_n C.1 C.2.1 dX11_adds_89 rfl (lv_at hl 1 rfl) ?_
      refine lv_ishr C.1 C.2.1 dX11_adds_90 ?_
      refine lv_iconst (v := 1) C.1 C.2.1 dX11_adds_91 (by decide) ?_
      refine lv_iand C.1 C.2.1 dX11_adds_92 ?_
      refine lv_if_ne (tgt := 127) C.1 C.2.1 dX11_adds_93 (by decide) (fun c5 => ?_) (fun c5 => ?_)
      · have hf := if_f c5 hf
        exact wX11_adds_127 C hk80 ha0 hW (lv_sub hl [0, 1, 2, 3] rfl) hf
      · have hf := if_t c5 hf
        refine lv_iload C.1 C.2.1 dX11_adds_96 (lv_at hl 2 rfl) ?_
        refine lv_iload C.1 C.2.1 dX11_adds_98 (lv_at hl 3 rfl) ?_
        obtain ⟨x6, m7, r8, hf⟩ := bd2_s hf
        refine x_ci hW (x_runS C hW [.int a5] [.int a4] kvJ6_bitCount_0f7a4 q_669 (tJ6_bitCount_0f7a4 l C.2.2.2.2.2.2.1  r8) rfl rfl ⟨by decide, by decide⟩ rfl hl.1 rfl (Nat.le_of_ble_eq_true rfl) dX11_adds_100) (fun H locs hW => ?_)
        obtain ⟨x9, m10, r11, hf⟩ := bd2_s hf
        refine x_ci hW (x_runS C hW [.int x6] [.int a4] kvX11_ordersAround q_675 (tX11_ordersAround l C.2.2.2.2.2.2.1  r11) rfl rfl ⟨by decide, by decide⟩ rfl hl.1 rfl (Nat.le_of_ble_eq_true rfl) dX11_adds_103) (fun H locs hW => ?_)
        refine lv_aload_n C.1 C.2.1 dX11_adds_106 rfl (lv_at hl 0 rfl) ?_
        refine lv_iload C.1 C.2.1 dX11_adds_107 (lv_at hl 3 rfl) ?_
        refine lv_iconst (v := 1) C.1 C.2.1 dX11_adds_109 (by decide) ?_
        refine lv_iload_n C.1 C.2.1 dX11_adds_110 rfl (lv_at hl 1 rfl) ?_
        refine lv_ishl C.1 C.2.1 dX11_adds_111 ?_
        refine lv_ior C.1 C.2.1 dX11_adds_112 ?_
        obtain ⟨x12, m13, r14, hf⟩ := bd2_s hf
        refine x_ci hW (x_runV C hW [.int (a5 ||| (1 <<< (a1 &&& 31)))] [.int x9, .int a4] (ha0).1 (ha0).2.1 kX11.1 kvX11_worthOf q_661 (tX11_worthOf l C.2.2.2.2.2.2.1 ha0 r14) rfl rfl ⟨by decide, by decide⟩ rfl hl.1 rfl (Nat.le_of_ble_eq_true rfl) dX11_adds_113) (fun H locs hW => ?_)
        refine lv_aload_n C.1 C.2.1 dX11_adds_116 rfl (lv_at hl 0 rfl) ?_
        refine lv_iload C.1 C.2.1 dX11_adds_117 (lv_at hl 3 rfl) ?_
        obtain ⟨x15, m16, r17, hf⟩ := bd2_s hf
        refine x_ci hW (x_runV C hW [.int a5] [.int x12, .int x9, .int a4] (ha0).1 (ha0).2.1 kX11.1 kvX11_worthOf q_661 (tX11_worthOf l C.2.2.2.2.2.2.1 ha0 r17) rfl rfl ⟨by decide, by decide⟩ rfl hl.1 rfl (Nat.le_of_ble_eq_true rfl) dX11_adds_119) (fun H locs hW => ?_)
        refine lv_isub C.1 C.2.1 dX11_adds_122 ?_
        refine lv_imul C.1 C.2.1 dX11_adds_123 ?_
        refine lv_iadd C.1 C.2.1 dX11_adds_124 ?_
        refine lv_istore (lv' := [(4, .int (a4 + (x9 * (x12 - x15)))), (0, .ref (ad a0)), (1, .int a1), (5, .int a5)]) C.1 C.2.1 dX11_adds_125 hl (by decide) rfl (fun ls hl => ?_)
        exact wX11_adds_127 C hk80 ha0 hW (lv_sub hl [1, 2, 0, 3] rfl) hf
set_option maxRecDepth 100000 in
set_option maxHeartbeats 4000000 in
theorem wX11_adds_0 (C : Cx p s m meth c args cX11_adds 6 (some .int) RX11 D ca ad) {res : Int32 × Mm} {N : Nat}  {a0 : Nat} {a1 : Int32} {a2 : Int32} {mm : Mm} {H : Heap} {locs : List Loc} {ls : Array Slot} (ha0 : sX11 a0) (hW : Wd D ca ad s.heap mm H locs) (hl : lv_has ls 6 [(0, .ref (ad a0)), (1, .int a1), (2, .int a2)]) (hf : fX11_adds N a0 a1 a2 mm = some res) : W p l e (rmX11_adds) s m args below meth c H locs 0 0 (MQ below (QI D ca ad res) args s 0 0 (AA ad)) (F0 m 0 ls []) := by
  unfold fX11_adds at hf
  refine lv_aload_n C.1 C.2.1 dX11_adds_0 rfl (lv_at hl 0 rfl) ?_
  refine lv_iload_n C.1 C.2.1 dX11_adds_1 rfl (lv_at hl 2 rfl) ?_
  obtain ⟨x18, m19, r20, hf⟩ := bd2_s hf
  refine x_cr hW (x_runV C hW [.int a2] [] (ha0).1 (ha0).2.1 kX11.1 kvX11_rowOf q_364 (tX11_rowOf l C.2.2.2.2.2.2.1 ha0 r20) rfl rfl ⟨by decide, by decide⟩ rfl hl.1 rfl (Nat.le_of_ble_eq_true rfl) dX11_adds_2) (fun H locs hW => ?_)
  refine x_astore_n (lv' := [(3, va_re ad x18), (0, .ref (ad a0)), (1, .int a1), (2, .int a2)]) C dX11_adds_5 rfl hl (by decide) rfl (fun ls hl => ?_)
  refine lv_iload_n C.1 C.2.1 dX11_adds_6 rfl (lv_at hl 2 rfl) ?_
  refine lv_if_lt (tgt := 19) C.1 C.2.1 dX11_adds_7 (by decide) (fun c21 => ?_) (fun c21 => ?_)
  · have hf := if_t c21 hf
    refine lv_iconst (v := (-1)) C.1 C.2.1 dX11_adds_19 (by decide) ?_
    cases hf
    exact x_iret C hW dX11_adds_20
  · have hf := if_f c21 hf
    refine lv_iload_n C.1 C.2.1 dX11_adds_10 rfl (lv_at hl 2 rfl) ?_
    refine lv_iconst (v := 4) C.1 C.2.1 dX11_adds_11 (by decide) ?_
    refine lv_icmp_ge (tgt := 19) C.1 C.2.1 dX11_adds_12 (by decide) (fun c22 => ?_) (fun c22 => ?_)
    · have hf := if_t c22 hf
      refine lv_iconst (v := (-1)) C.1 C.2.1 dX11_adds_19 (by decide) ?_
      cases hf
      exact x_iret C hW dX11_adds_20
    · have hf := if_f c22 hf
      refine x_aload_n C dX11_adds_15 rfl (lv_at hl 0 rfl) ?_
      refine x_ifnonnull C (tgt := 21) dX11_adds_16 (by decide) (fun n24 => ?_) (fun z23 n24 => ?_)
      · subst n24
        have hf := cs_n hf
        refine lv_iconst (v := (-1)) C.1 C.2.1 dX11_adds_19 (by decide) ?_
        cases hf
        exact x_iret C hW dX11_adds_20
      · subst n24
        have hf := cs_q hf
        refine lv_aload_n C.1 C.2.1 dX11_adds_21 rfl (lv_at hl 1 rfl) ?_
        refine lv_aload_n C.1 C.2.1 dX11_adds_22 rfl (lv_at hl 0 rfl) ?_
        refine lv_iconst (v := 1) C.1 C.2.1 dX11_adds_23 (by decide) ?_
        obtain ⟨x25, m26, r27, hf⟩ := bd2_s hf
        refine x_ci hW (x_runV C hW [.ref (ad z23), .int 1] [] (ha0).1 (ha0).2.1 kX11.1 kvX11_isWrong q_470 (tX11_isWrong l C.2.2.2.2.2.2.1 ha0 ((gX11_rowOf ha0 r20) z23 rfl) r27) rfl rfl ⟨by decide, by decide⟩ rfl hl.1 rfl (Nat.le_of_ble_eq_true rfl) dX11_adds_24) (fun H locs hW => ?_)
        refine lv_if_eq (tgt := 33) C.1 C.2.1 dX11_adds_27 (by decide) (fun c28 => ?_) (fun c28 => ?_)
        · have hf := if_t c28 hf
          refine lv_aload_n C.1 C.2.1 dX11_adds_33 rfl (lv_at hl 1 rfl) ?_
          refine x_getr C hW (ha0).1 (ha0).2.1 (j := 2) rfl kX11 (by decide) rfl q_310 dX11_adds_34 ?_
          refine lv_bipush (v := 15) C.1 C.2.1 dX11_adds_37 (by decide) ?_
          obtain ⟨x29, m30, r31, hf⟩ := bd2_s hf
          refine x_ci hW (x_runV C hW [.int 15] [] (ha0.2.2.2.2.1).1 (ha0.2.2.2.2.1).2.1 kX0.1 kvX0_stockWith q_657 (tX0_stockWith l C.2.2.2.2.2.2.1 ha0.2.2.2.2.1 r31) rfl rfl ⟨by decide, by decide⟩ rfl hl.1 rfl (Nat.le_of_ble_eq_true rfl) dX11_adds_39) (fun H locs hW => ?_)
          refine lv_bipush (v := 40) C.1 C.2.1 dX11_adds_42 (by decide) ?_
          refine lv_icmp_le (tgt := 50) C.1 C.2.1 dX11_adds_44 (by decide) (fun c32 => ?_) (fun c32 => ?_)
          · have hf := if_t c32 hf
            refine lv_aload_n C.1 C.2.1 dX11_adds_50 rfl (lv_at hl 1 rfl) ?_
            refine x_getr C hW (ha0).1 (ha0).2.1 (j := 7) rfl kX11 (by decide) rfl q_315 dX11_adds_51 ?_
            refine lv_aload_n C.1 C.2.1 dX11_adds_54 rfl (lv_at hl 1 rfl) ?_
            refine x_getr C hW (ha0).1 (ha0).2.1 (j := 2) rfl kX11 (by decide) rfl q_310 dX11_adds_55 ?_
            refine lv_aload_n C.1 C.2.1 dX11_adds_58 rfl (lv_at hl 1 rfl) ?_
            refine x_getr C hW (ha0).1 (ha0).2.1 (j := 2) rfl kX11 (by decide) rfl q_310 dX11_adds_59 ?_
            refine x_geti C hW (ha0.2.2.2.2.1).1 (ha0.2.2.2.2.1).2.1 (j := 6) rfl kX0 (by decide) rfl q_77 dX11_adds_62 ?_
            refine lv_aload_n C.1 C.2.1 dX11_adds_65 rfl (lv_at hl 0 rfl) ?_
            refine x_getr C hW (((gX11_rowOf ha0 r20) z23 rfl)).1 (((gX11_rowOf ha0 r20) z23 rfl)).2.1 (j := 0) rfl kX6 (by decide) rfl q_299 dX11_adds_66 ?_
            refine lv_bipush (v := 40) C.1 C.2.1 dX11_adds_69 (by decide) ?_
            obtain ⟨x33, m34, r35, hf⟩ := bd2_s hf
            refine x_cv hW (x_runV C hW [.ref (ad (fr a0 2)), .int (rd m30 (fr a0 2) 6), .ref (ad (fr z23 0)), .int 40] [] (ha0.2.2.2.2.2.2.2.2.2.1).1 (ha0.2.2.2.2.2.2.2.2.2.1).2.1 kX8.1 kvX8_run q_474 (tX8_run l C.2.2.2.2.2.2.1 ha0.2.2.2.2.2.2.2.2.2.1 ha0.2.2.2.2.1 (((gX11_rowOf ha0 r20) z23 rfl).2.2) r35) rfl rfl ⟨by decide, by decide⟩ rfl hl.1 rfl (Nat.le_of_ble_eq_true rfl) dX11_adds_71) (fun H locs hW => ?_)
            refine lv_iconst (v := 0) C.1 C.2.1 dX11_adds_74 (by decide) ?_
            refine lv_istore (lv' := [(4, .int 0), (3, .ref (ad z23)), (0, .ref (ad a0)), (1, .int a1), (2, .int a2)]) C.1 C.2.1 dX11_adds_75 hl (by decide) rfl (fun ls hl => ?_)
            refine lv_iconst (v := 0) C.1 C.2.1 dX11_adds_77 (by decide) ?_
            refine lv_istore (lv' := [(5, .int 0), (4, .int 0), (3, .ref (ad z23)), (0, .ref (ad a0)), (1, .int a1), (2, .int a2)]) C.1 C.2.1 dX11_adds_78 hl (by decide) rfl (fun ls hl => ?_)
            exact wX11_adds_80 C  N ha0 hW (lv_sub hl [3, 4, 1, 0] rfl) hf
          · have hf := if_f c32 hf
            refine lv_bipush (v := (-6)) C.1 C.2.1 dX11_adds_47 (by decide) ?_
            cases hf
            exact x_iret C hW dX11_adds_49
        · have hf := if_f c28 hf
          refine lv_bipush (v := (-3)) C.1 C.2.1 dX11_adds_30 (by decide) ?_
          cases hf
          exact x_iret C hW dX11_adds_32
set_option maxRecDepth 100000 in
set_option maxHeartbeats 4000000 in
theorem tX11_adds (l : Launch) {D : va_G} {ca ad : Nat → Nat} (hi : Inj ad) {N : Nat} {a0 : Nat} {a1 : Int32} {a2 : Int32} {mm : Mm} {res : Int32 × Mm} (ha0 : sX11 a0) (hf : fX11_adds N a0 a1 a2 mm = some res) : Met l yX11_adds (WS yX11_adds cX11_adds 6 (some .int)) (rmX11_adds) (va_Pc [.ref (ad a0), .int a1, .int a2] (WB D ca ad mm)) (QI D ca ad res) 0 0 (AA ad) := by
  refine x_start hi (by decide) rfl (Nat.le_of_ble_eq_true rfl) (fun p e s m args below meth c ls C hW hl => ?_)
  exact wX11_adds_0 C ha0 hW (lv_sub hl [0, 1, 2] rfl) hf
set_option maxRecDepth 100000 in
set_option maxHeartbeats 4000000 in
theorem wX11_when_89 (C : Cx p s m meth c args cX11_when 6 (some .int) RX11 D ca ad) {res : Int32 × Mm} {N : Nat} {k32 : Nat → Nat → Int32 → Int32 → Int32 → Mm → Option (Int32 × Mm)} (hk32 : ∀ (a0 : Nat) (a2 : Nat) (a3 : Int32) (a4 : Int32) (a5 : Int32) (mm : Mm) (H : Heap) (locs : List Loc) (ls : Array Slot), (sX11 a0) → (sX6 a2) → Wd D ca ad s.heap mm H locs → lv_has ls 6 [(0, .ref (ad a0)), (2, .ref (ad a2)), (3, .int a3), (4, .int a4), (5, .int a5)] → k32 a0 a2 a3 a4 a5 mm = some res → W p l e (rmX11_when) s m args below meth c H locs 0 0 (MQ below (QI D ca ad res) args s 0 0 (AA ad)) (F0 m 32 ls [])) {a0 : Nat} {a2 : Nat} {a3 : Int32} {a4 : Int32} {a5 : Int32} {mm : Mm} {H : Heap} {locs : List Loc} {ls : Array Slot} (ha0 : sX11 a0) (ha2 : sX6 a2) (hW : Wd D ca ad s.heap mm H locs) (hl : lv_has ls 6 [(0, .ref (ad a0)), (2, .ref (ad a2)), (3, .int a3), (4, .int a4), (5, .int a5)]) (hf : fX11_when_89 N k32 a0 a2 a3 a4 a5 mm = some res) : W p l e (rmX11_when) s m args below meth c H locs 0 0 (MQ below (QI D ca ad res) args s 0 0 (AA ad)) (F0 m 89 ls []) := by
  unfold fX11_when_89 at hf
  refine lv_iinc (v := (a5 + 1)) (lv' := [(5, .int (a5 + 1)), (0, .ref (ad a0)), (2, .ref (ad a2)), (3, .int a3), (4, .int a4)]) C.1 C.2.1 dX11_when_89 hl (k := 4) rfl rfl (by decide) rfl (fun ls hl => ?_)
  refine lv_goto (tgt := 32) C.1 C.2.1 dX11_when_92 (by decide) ?_
  exact hk32 _ _ _ _ _ _ _ _ _ ha0 ha2 hW (lv_sub hl [1, 2, 3, 4, 0] rfl) hf
set_option maxRecDepth 100000 in
set_option maxHeartbeats 4000000 in
theorem wX11_when_32 (C : Cx p s m meth c args cX11_when 6 (some .int) RX11 D ca ad) {res : Int32 × Mm} {N : Nat}  : ∀ (n : Nat) {a0 : Nat} {a2 : Nat} {a3 : Int32} {a4 : Int32} {a5 : Int32} {mm : Mm} {H : Heap} {locs : List Loc} {ls : Array Slot}, (sX11 a0) → (sX6 a2) → Wd D ca ad s.heap mm H locs → lv_has ls 6 [(0, .ref (ad a0)), (2, .ref (ad a2)), (3, .int a3), (4, .int a4), (5, .int a5)] → fX11_when_32 N n a0 a2 a3 a4 a5 mm = some res → W p l e (rmX11_when) s m args below meth c H locs 0 0 (MQ below (QI D ca ad res) args s 0 0 (AA ad)) (F0 m 32 ls []) := by
  intro n
  induction n with
  | zero => intro a0 a2 a3 a4 a5 mm H locs ls ha0 ha2 hW hl hf; cases hf
  | succ n ih =>
    intro a0 a2 a3 a4 a5 mm H locs ls ha0 ha2 hW hl hf
    have hk32 : ∀ (a0 : Nat) (a2 : Nat) (a3 : Int32) (a4 : Int32) (a5 : Int32) (mm : Mm) (H : Heap) (locs : List Loc) (ls : Array Slot), (sX11 a0) → (sX6 a2) → Wd D ca ad s.heap mm H locs → lv_has ls 6 [(0, .ref (ad a0)), (2, .ref (ad a2)), (3, .int a3), (4, .int a4), (5, .int a5)] → (fX11_when_32 N n) a0 a2 a3 a4 a5 mm = some res → W p l e (rmX11_when) s m args below meth c H locs 0 0 (MQ below (QI D ca ad res) args s 0 0 (AA ad)) (F0 m 32 ls []) := fun a0 a2 a3 a4 a5 mm H locs ls ha0 ha2 hW hl hf => ih ha0 ha2 hW hl hf
    unfold fX11_when_32 at hf
    try dsimp only at hf
    refine lv_iload C.1 C.2.1 dX11_when_32 (lv_at hl 4 rfl) ?_
    refine lv_bipush (v := 9) C.1 C.2.1 dX11_when_34 (by decide) ?_
    refine lv_icmp_gt (tgt := 95) C.1 C.2.1 dX11_when_36 (by decide) (fun c1 => ?_) (fun c1 => ?_)
    · have hf := if_t c1 hf
      refine lv_aload_n C.1 C.2.1 dX11_when_95 rfl (lv_at hl 0 rfl) ?_
      refine lv_iload C.1 C.2.1 dX11_when_96 (lv_at hl 3 rfl) ?_
      refine x_put C hW (ha0).1 (ha0).2.1 (j := 14) (t1 := .int) rfl kX11 (by decide) rfl rfl q_322 (by decide +kernel) rfl rfl dX11_when_98 (fun H locs hW => ?_)
      obtain ⟨m2, em2⟩ : ∃ z, z = wr mm a0 14 a4 := ⟨_, rfl⟩
      have hf := nm_s hf em2
      rw [← em2] at hW
      refine lv_iload_n C.1 C.2.1 dX11_when_101 rfl (lv_at hl 2 rfl) ?_
      cases hf
      exact x_iret C hW dX11_when_102
    · have hf := if_f c1 hf
      refine lv_aload_n C.1 C.2.1 dX11_when_39 rfl (lv_at hl 0 rfl) ?_
      refine x_getr C hW (ha0).1 (ha0).2.1 (j := 7) rfl kX11 (by decide) rfl q_315 dX11_when_40 ?_
      refine lv_aload_n C.1 C.2.1 dX11_when_43 rfl (lv_at hl 0 rfl) ?_
      refine x_getr C hW (ha0).1 (ha0).2.1 (j := 2) rfl kX11 (by decide) rfl q_310 dX11_when_44 ?_
      refine lv_iload C.1 C.2.1 dX11_when_47 (lv_at hl 4 rfl) ?_
      refine lv_aload_n C.1 C.2.1 dX11_when_49 rfl (lv_at hl 1 rfl) ?_
      refine x_getr C hW (ha2).1 (ha2).2.1 (j := 0) rfl kX6 (by decide) rfl q_299 dX11_when_50 ?_
      refine lv_aload_n C.1 C.2.1 dX11_when_53 rfl (lv_at hl 0 rfl) ?_
      refine x_getr C hW (ha0).1 (ha0).2.1 (j := 2) rfl kX11 (by decide) rfl q_310 dX11_when_54 ?_
      refine x_getr C hW (ha0.2.2.2.2.1).1 (ha0.2.2.2.2.1).2.1 (j := 1) rfl kX0 (by decide) rfl q_62 dX11_when_57 ?_
      refine lv_iconst (v := 0) C.1 C.2.1 dX11_when_60 (by decide) ?_
      obtain ⟨g3, hf⟩ := gd_s hf
      refine x_iald C hW ha0.2.2.2.2.1.2.2.2.1 g3 dX11_when_61 ?_
      obtain ⟨x4, m5, r6, hf⟩ := bd2_s hf
      refine x_cv hW (x_runV C hW [.ref (ad (fr a0 2)), .int a5, .ref (ad (fr a2 0)), .int (rd mm (fr (fr a0 2) 1) ((0 : Int32).toNatClampNeg))] [] (ha0.2.2.2.2.2.2.2.2.2.1).1 (ha0.2.2.2.2.2.2.2.2.2.1).2.1 kX8.1 kvX8_run q_474 (tX8_run l C.2.2.2.2.2.2.1 ha0.2.2.2.2.2.2.2.2.2.1 ha0.2.2.2.2.1 ha2.2.2 r6) rfl rfl ⟨by decide, by decide⟩ rfl hl.1 rfl (Nat.le_of_ble_eq_true rfl) dX11_when_62) (fun H locs hW => ?_)
      refine lv_aload_n C.1 C.2.1 dX11_when_65 rfl (lv_at hl 0 rfl) ?_
      refine x_getr C hW (ha0).1 (ha0).2.1 (j := 7) rfl kX11 (by decide) rfl q_315 dX11_when_66 ?_
      refine x_geti C hW (ha0.2.2.2.2.2.2.2.2.2.1).1 (ha0.2.2.2.2.2.2.2.2.2.1).2.1 (j := 1) rfl kX8 (by decide) rfl q_184 dX11_when_69 ?_
      refine lv_iload C.1 C.2.1 dX11_when_72 (lv_at hl 3 rfl) ?_
      refine lv_icmp_le (tgt := 89) C.1 C.2.1 dX11_when_74 (by decide) (fun c7 => ?_) (fun c7 => ?_)
      · have hf := if_t c7 hf
        exact wX11_when_89 C hk32 ha0 ha2 hW (lv_sub hl [0, 1, 2, 3, 4] rfl) hf
      · have hf := if_f c7 hf
        refine lv_aload_n C.1 C.2.1 dX11_when_77 rfl (lv_at hl 0 rfl) ?_
        refine x_getr C hW (ha0).1 (ha0).2.1 (j := 7) rfl kX11 (by decide) rfl q_315 dX11_when_78 ?_
        refine x_geti C hW (ha0.2.2.2.2.2.2.2.2.2.1).1 (ha0.2.2.2.2.2.2.2.2.2.1).2.1 (j := 1) rfl kX8 (by decide) rfl q_184 dX11_when_81 ?_
        refine lv_istore (lv' := [(4, .int (rd m5 (fr a0 7) 1)), (0, .ref (ad a0)), (2, .ref (ad a2)), (3, .int a3), (5, .int a5)]) C.1 C.2.1 dX11_when_84 hl (by decide) rfl (fun ls hl => ?_)
        refine lv_iload C.1 C.2.1 dX11_when_86 (lv_at hl 4 rfl) ?_
        refine lv_istore_n (lv' := [(3, .int a5), (4, .int (rd m5 (fr a0 7) 1)), (0, .ref (ad a0)), (2, .ref (ad a2)), (5, .int a5)]) C.1 C.2.1 dX11_when_88 rfl hl (by decide) rfl (fun ls hl => ?_)
        exact wX11_when_89 C hk32 ha0 ha2 hW (lv_sub hl [2, 3, 0, 1, 4] rfl) hf
set_option maxRecDepth 100000 in
set_option maxHeartbeats 4000000 in
theorem wX11_when_0 (C : Cx p s m meth c args cX11_when 6 (some .int) RX11 D ca ad) {res : Int32 × Mm} {N : Nat}  {a0 : Nat} {a1 : Int32} {mm : Mm} {H : Heap} {locs : List Loc} {ls : Array Slot} (ha0 : sX11 a0) (hW : Wd D ca ad s.heap mm H locs) (hl : lv_has ls 6 [(0, .ref (ad a0)), (1, .int a1)]) (hf : fX11_when N a0 a1 mm = some res) : W p l e (rmX11_when) s m args below meth c H locs 0 0 (MQ below (QI D ca ad res) args s 0 0 (AA ad)) (F0 m 0 ls []) := by
  unfold fX11_when at hf
  refine lv_aload_n C.1 C.2.1 dX11_when_0 rfl (lv_at hl 0 rfl) ?_
  refine lv_iload_n C.1 C.2.1 dX11_when_1 rfl (lv_at hl 1 rfl) ?_
  obtain ⟨x8, m9, r10, hf⟩ := bd2_s hf
  refine x_cr hW (x_runV C hW [.int a1] [] (ha0).1 (ha0).2.1 kX11.1 kvX11_rowOf q_364 (tX11_rowOf l C.2.2.2.2.2.2.1 ha0 r10) rfl rfl ⟨by decide, by decide⟩ rfl hl.1 rfl (Nat.le_of_ble_eq_true rfl) dX11_when_2) (fun H locs hW => ?_)
  refine x_astore_n (lv' := [(2, va_re ad x8), (0, .ref (ad a0)), (1, .int a1)]) C dX11_when_5 rfl hl (by decide) rfl (fun ls hl => ?_)
  refine x_aload_n C dX11_when_6 rfl (lv_at hl 0 rfl) ?_
  refine x_ifnonnull C (tgt := 12) dX11_when_7 (by decide) (fun n12 => ?_) (fun z11 n12 => ?_)
  · subst n12
    have hf := cs_n hf
    refine lv_iconst (v := (-1)) C.1 C.2.1 dX11_when_10 (by decide) ?_
    cases hf
    exact x_iret C hW dX11_when_11
  · subst n12
    have hf := cs_q hf
    refine lv_aload_n C.1 C.2.1 dX11_when_12 rfl (lv_at hl 1 rfl) ?_
    refine lv_aload_n C.1 C.2.1 dX11_when_13 rfl (lv_at hl 0 rfl) ?_
    refine lv_iconst (v := 1) C.1 C.2.1 dX11_when_14 (by decide) ?_
    obtain ⟨x13, m14, r15, hf⟩ := bd2_s hf
    refine x_ci hW (x_runV C hW [.ref (ad z11), .int 1] [] (ha0).1 (ha0).2.1 kX11.1 kvX11_isWrong q_470 (tX11_isWrong l C.2.2.2.2.2.2.1 ha0 ((gX11_rowOf ha0 r10) z11 rfl) r15) rfl rfl ⟨by decide, by decide⟩ rfl hl.1 rfl (Nat.le_of_ble_eq_true rfl) dX11_when_15) (fun H locs hW => ?_)
    refine lv_if_eq (tgt := 24) C.1 C.2.1 dX11_when_18 (by decide) (fun c16 => ?_) (fun c16 => ?_)
    · have hf := if_t c16 hf
      refine lv_iconst (v := 0) C.1 C.2.1 dX11_when_24 (by decide) ?_
      refine lv_istore_n (lv' := [(3, .int 0), (2, .ref (ad z11)), (0, .ref (ad a0)), (1, .int a1)]) C.1 C.2.1 dX11_when_25 rfl hl (by decide) rfl (fun ls hl => ?_)
      refine lv_iconst (v := (-1)) C.1 C.2.1 dX11_when_26 (by decide) ?_
      refine lv_istore (lv' := [(4, .int (-1)), (3, .int 0), (2, .ref (ad z11)), (0, .ref (ad a0)), (1, .int a1)]) C.1 C.2.1 dX11_when_27 hl (by decide) rfl (fun ls hl => ?_)
      refine lv_iconst (v := 0) C.1 C.2.1 dX11_when_29 (by decide) ?_
      refine lv_istore (lv' := [(5, .int 0), (4, .int (-1)), (3, .int 0), (2, .ref (ad z11)), (0, .ref (ad a0)), (1, .int a1)]) C.1 C.2.1 dX11_when_30 hl (by decide) rfl (fun ls hl => ?_)
      exact wX11_when_32 C  N ha0 ((gX11_rowOf ha0 r10) z11 rfl) hW (lv_sub hl [4, 3, 2, 1, 0] rfl) hf
    · have hf := if_f c16 hf
      refine lv_bipush (v := (-3)) C.1 C.2.1 dX11_when_21 (by decide) ?_
      cases hf
      exact x_iret C hW dX11_when_23
set_option maxRecDepth 100000 in
set_option maxHeartbeats 4000000 in
theorem tX11_when (l : Launch) {D : va_G} {ca ad : Nat → Nat} (hi : Inj ad) {N : Nat} {a0 : Nat} {a1 : Int32} {mm : Mm} {res : Int32 × Mm} (ha0 : sX11 a0) (hf : fX11_when N a0 a1 mm = some res) : Met l yX11_when (WS yX11_when cX11_when 6 (some .int)) (rmX11_when) (va_Pc [.ref (ad a0), .int a1] (WB D ca ad mm)) (QI D ca ad res) 0 0 (AA ad) := by
  refine x_start hi (by decide) rfl (Nat.le_of_ble_eq_true rfl) (fun p e s m args below meth c ls C hW hl => ?_)
  exact wX11_when_0 C ha0 hW (lv_sub hl [0, 1] rfl) hf
set_option maxRecDepth 100000 in
set_option maxHeartbeats 4000000 in
theorem wX11_rule_0 (C : Cx p s m meth c args cX11_rule 4 (some .int) RX11 D ca ad) {res : Int32 × Mm} {N : Nat}  {a0 : Nat} {a1 : Int32} {a2 : Int32} {mm : Mm} {H : Heap} {locs : List Loc} {ls : Array Slot} (ha0 : sX11 a0) (hW : Wd D ca ad s.heap mm H locs) (hl : lv_has ls 4 [(0, .ref (ad a0)), (1, .int a1), (2, .int a2)]) (hf : fX11_rule N a0 a1 a2 mm = some res) : W p l e (rmX11_rule) s m args below meth c H locs 0 0 (MQ below (QI D ca ad res) args s 0 0 (AA ad)) (F0 m 0 ls []) := by
  unfold fX11_rule at hf
  refine lv_aload_n C.1 C.2.1 dX11_rule_0 rfl (lv_at hl 0 rfl) ?_
  refine lv_iload_n C.1 C.2.1 dX11_rule_1 rfl (lv_at hl 2 rfl) ?_
  obtain ⟨x1, m2, r3, hf⟩ := bd2_s hf
  refine x_cr hW (x_runV C hW [.int a2] [] (ha0).1 (ha0).2.1 kX11.1 kvX11_rowOf q_364 (tX11_rowOf l C.2.2.2.2.2.2.1 ha0 r3) rfl rfl ⟨by decide, by decide⟩ rfl hl.1 rfl (Nat.le_of_ble_eq_true rfl) dX11_rule_2) (fun H locs hW => ?_)
  refine x_astore_n (lv' := [(3, va_re ad x1), (0, .ref (ad a0)), (1, .int a1), (2, .int a2)]) C dX11_rule_5 rfl hl (by decide) rfl (fun ls hl => ?_)
  refine lv_iload_n C.1 C.2.1 dX11_rule_6 rfl (lv_at hl 2 rfl) ?_
  refine lv_if_lt (tgt := 20) C.1 C.2.1 dX11_rule_7 (by decide) (fun c4 => ?_) (fun c4 => ?_)
  · have hf := if_t c4 hf
    refine lv_iconst (v := (-1)) C.1 C.2.1 dX11_rule_20 (by decide) ?_
    cases hf
    exact x_iret C hW dX11_rule_21
  · have hf := if_f c4 hf
    refine lv_iload_n C.1 C.2.1 dX11_rule_10 rfl (lv_at hl 2 rfl) ?_
    refine lv_bipush (v := 6) C.1 C.2.1 dX11_rule_11 (by decide) ?_
    refine lv_icmp_ge (tgt := 20) C.1 C.2.1 dX11_rule_13 (by decide) (fun c5 => ?_) (fun c5 => ?_)
    · have hf := if_t c5 hf
      refine lv_iconst (v := (-1)) C.1 C.2.1 dX11_rule_20 (by decide) ?_
      cases hf
      exact x_iret C hW dX11_rule_21
    · have hf := if_f c5 hf
      refine x_aload_n C dX11_rule_16 rfl (lv_at hl 0 rfl) ?_
      refine x_ifnonnull C (tgt := 22) dX11_rule_17 (by decide) (fun n7 => ?_) (fun z6 n7 => ?_)
      · subst n7
        have hf := cs_n hf
        refine lv_iconst (v := (-1)) C.1 C.2.1 dX11_rule_20 (by decide) ?_
        cases hf
        exact x_iret C hW dX11_rule_21
      · subst n7
        have hf := cs_q hf
        refine lv_aload_n C.1 C.2.1 dX11_rule_22 rfl (lv_at hl 1 rfl) ?_
        refine x_getr C hW (ha0).1 (ha0).2.1 (j := 2) rfl kX11 (by decide) rfl q_310 dX11_rule_23 ?_
        refine x_geti C hW (ha0.2.2.2.2.1).1 (ha0.2.2.2.2.1).2.1 (j := 5) rfl kX0 (by decide) rfl q_72 dX11_rule_26 ?_
        refine lv_if_ne (tgt := 38) C.1 C.2.1 dX11_rule_29 (by decide) (fun c8 => ?_) (fun c8 => ?_)
        · have hf := if_f c8 hf
          refine lv_aload_n C.1 C.2.1 dX11_rule_38 rfl (lv_at hl 1 rfl) ?_
          refine x_getr C hW (ha0).1 (ha0).2.1 (j := 11) rfl kX11 (by decide) rfl q_319 dX11_rule_39 ?_
          refine lv_aload_n C.1 C.2.1 dX11_rule_42 rfl (lv_at hl 1 rfl) ?_
          refine x_getr C hW (ha0).1 (ha0).2.1 (j := 2) rfl kX11 (by decide) rfl q_310 dX11_rule_43 ?_
          refine lv_iload_n C.1 C.2.1 dX11_rule_46 rfl (lv_at hl 2 rfl) ?_
          refine lv_aload_n C.1 C.2.1 dX11_rule_47 rfl (lv_at hl 1 rfl) ?_
          refine x_getr C hW (ha0).1 (ha0).2.1 (j := 2) rfl kX11 (by decide) rfl q_310 dX11_rule_48 ?_
          refine x_geti C hW (ha0.2.2.2.2.1).1 (ha0.2.2.2.2.1).2.1 (j := 7) rfl kX0 (by decide) rfl q_80 dX11_rule_51 ?_
          obtain ⟨x9, m10, r11, hf⟩ := bd2_s hf
          refine x_cv hW (x_runV C hW [.ref (ad (fr a0 2)), .int a1, .int (rd m2 (fr a0 2) 7)] [] (ha0.2.2.2.2.2.2.2.2.2.2.2.2.2.1).1 (ha0.2.2.2.2.2.2.2.2.2.2.2.2.2.1).2.1 kX2.1 kvX2_layBy q_687 (tX2_layBy l C.2.2.2.2.2.2.1 ha0.2.2.2.2.2.2.2.2.2.2.2.2.2.1 ha0.2.2.2.2.1 r11) rfl rfl ⟨by decide, by decide⟩ rfl hl.1 rfl (Nat.le_of_ble_eq_true rfl) dX11_rule_54) (fun H locs hW => ?_)
          refine lv_aload_n C.1 C.2.1 dX11_rule_57 rfl (lv_at hl 0 rfl) ?_
          refine lv_aload_n C.1 C.2.1 dX11_rule_58 rfl (lv_at hl 1 rfl) ?_
          refine x_getr C hW (ha0).1 (ha0).2.1 (j := 11) rfl kX11 (by decide) rfl q_319 dX11_rule_59 ?_
          refine x_getr C hW (ha0.2.2.2.2.2.2.2.2.2.2.2.2.2.1).1 (ha0.2.2.2.2.2.2.2.2.2.2.2.2.2.1).2.1 (j := 0) rfl kX2 (by decide) rfl q_273 dX11_rule_62 ?_
          refine lv_aload_n C.1 C.2.1 dX11_rule_65 rfl (lv_at hl 1 rfl) ?_
          refine x_getr C hW (ha0).1 (ha0).2.1 (j := 2) rfl kX11 (by decide) rfl q_310 dX11_rule_66 ?_
          refine x_geti C hW (ha0.2.2.2.2.1).1 (ha0.2.2.2.2.1).2.1 (j := 5) rfl kX0 (by decide) rfl q_72 dX11_rule_69 ?_
          obtain ⟨x12, m13, r14, hf⟩ := bd2_s hf
          refine x_cv hW (x_runV C hW [.ref (ad (fr (fr a0 11) 0)), .int (rd m10 (fr a0 2) 5)] [] (((gX11_rowOf ha0 r3) z6 rfl)).1 (((gX11_rowOf ha0 r3) z6 rfl)).2.1 kX6.1 kvX6_take q_513 (tX6_take l C.2.2.2.2.2.2.1 ((gX11_rowOf ha0 r3) z6 rfl) ha0.2.2.2.2.2.2.2.2.2.2.2.2.2.1.2.2.1 r14) rfl rfl ⟨by decide, by decide⟩ rfl hl.1 rfl (Nat.le_of_ble_eq_true rfl) dX11_rule_72) (fun H locs hW => ?_)
          refine lv_aload_n C.1 C.2.1 dX11_rule_75 rfl (lv_at hl 0 rfl) ?_
          obtain ⟨x15, m16, r17, hf⟩ := bd2_s hf
          refine x_cl hW (x_runV C hW [] [] (((gX11_rowOf ha0 r3) z6 rfl)).1 (((gX11_rowOf ha0 r3) z6 rfl)).2.1 kX6.1 kvX6_total q_714 (tX6_total l C.2.2.2.2.2.2.1 ((gX11_rowOf ha0 r3) z6 rfl) r17) rfl rfl ⟨by decide, by decide⟩ rfl hl.1 rfl (Nat.le_of_ble_eq_true rfl) dX11_rule_76) (fun H locs hW => ?_)
          refine lv_l2i C.1 C.2.1 dX11_rule_79 rfl ?_
          cases hf
          exact x_iret C hW dX11_rule_80
        · have hf := if_t c8 hf
          refine lv_aload_n C.1 C.2.1 dX11_rule_32 rfl (lv_at hl 1 rfl) ?_
          refine lv_iconst (v := 4) C.1 C.2.1 dX11_rule_33 (by decide) ?_
          obtain ⟨x18, m19, r20, hf⟩ := bd2_s hf
          refine x_ci hW (x_runV C hW [.int 4] [] (ha0).1 (ha0).2.1 kX11.1 kvX11_refused q_372 (tX11_refused l C.2.2.2.2.2.2.1 ha0 r20) rfl rfl ⟨by decide, by decide⟩ rfl hl.1 rfl (Nat.le_of_ble_eq_true rfl) dX11_rule_34) (fun H locs hW => ?_)
          cases hf
          exact x_iret C hW dX11_rule_37
set_option maxRecDepth 100000 in
set_option maxHeartbeats 4000000 in
theorem tX11_rule (l : Launch) {D : va_G} {ca ad : Nat → Nat} (hi : Inj ad) {N : Nat} {a0 : Nat} {a1 : Int32} {a2 : Int32} {mm : Mm} {res : Int32 × Mm} (ha0 : sX11 a0) (hf : fX11_rule N a0 a1 a2 mm = some res) : Met l yX11_rule (WS yX11_rule cX11_rule 4 (some .int)) (rmX11_rule) (va_Pc [.ref (ad a0), .int a1, .int a2] (WB D ca ad mm)) (QI D ca ad res) 0 0 (AA ad) := by
  refine x_start hi (by decide) rfl (Nat.le_of_ble_eq_true rfl) (fun p e s m args below meth c ls C hW hl => ?_)
  exact wX11_rule_0 C ha0 hW (lv_sub hl [0, 1, 2] rfl) hf
end W_files17
