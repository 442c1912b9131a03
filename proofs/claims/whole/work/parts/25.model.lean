theorem dX12_mixedOf_0 : decode cX12_mixedOf 0 = .ok (.ldc_w 274, 3) := by decide +kernel
theorem dX12_mixedOf_3 : decode cX12_mixedOf 3 = .ok (.istore 5, 2) := by decide +kernel
theorem dX12_mixedOf_5 : decode cX12_mixedOf 5 = .ok (.aload_n 0, 1) := by decide +kernel
theorem dX12_mixedOf_6 : decode cX12_mixedOf 6 = .ok (.invokevirtual 251, 3) := by decide +kernel
theorem dX12_mixedOf_9 : decode cX12_mixedOf 9 = .ok (.aload_n 0, 1) := by decide +kernel
theorem dX12_mixedOf_10 : decode cX12_mixedOf 10 = .ok (.iconst 1, 1) := by decide +kernel
theorem dX12_mixedOf_11 : decode cX12_mixedOf 11 = .ok (.invokevirtual 254, 3) := by decide +kernel
theorem dX12_mixedOf_14 : decode cX12_mixedOf 14 = .ok (.aload_n 0, 1) := by decide +kernel
theorem dX12_mixedOf_15 : decode cX12_mixedOf 15 = .ok (.iload_n 1, 1) := by decide +kernel
theorem dX12_mixedOf_16 : decode cX12_mixedOf 16 = .ok (.iconst 0, 1) := by decide +kernel
theorem dX12_mixedOf_17 : decode cX12_mixedOf 17 = .ok (.invokevirtual 198, 3) := by decide +kernel
theorem dX12_mixedOf_20 : decode cX12_mixedOf 20 = .ok (.aload_n 0, 1) := by decide +kernel
theorem dX12_mixedOf_21 : decode cX12_mixedOf 21 = .ok (.invokevirtual 202, 3) := by decide +kernel
theorem dX12_mixedOf_24 : decode cX12_mixedOf 24 = .ok (.iload_n 3, 1) := by decide +kernel
theorem dX12_mixedOf_25 : decode cX12_mixedOf 25 = .ok (.aload_n 0, 1) := by decide +kernel
theorem dX12_mixedOf_26 : decode cX12_mixedOf 26 = .ok (.iconst 0, 1) := by decide +kernel
theorem dX12_mixedOf_27 : decode cX12_mixedOf 27 = .ok (.invokevirtual 205, 3) := by decide +kernel
theorem dX12_mixedOf_30 : decode cX12_mixedOf 30 = .ok (.imul, 1) := by decide +kernel
theorem dX12_mixedOf_31 : decode cX12_mixedOf 31 = .ok (.istore 6, 2) := by decide +kernel
theorem dX12_mixedOf_33 : decode cX12_mixedOf 33 = .ok (.aload_n 0, 1) := by decide +kernel
theorem dX12_mixedOf_34 : decode cX12_mixedOf 34 = .ok (.iload_n 2, 1) := by decide +kernel
theorem dX12_mixedOf_35 : decode cX12_mixedOf 35 = .ok (.iconst 0, 1) := by decide +kernel
theorem dX12_mixedOf_36 : decode cX12_mixedOf 36 = .ok (.invokevirtual 198, 3) := by decide +kernel
theorem dX12_mixedOf_39 : decode cX12_mixedOf 39 = .ok (.aload_n 0, 1) := by decide +kernel
theorem dX12_mixedOf_40 : decode cX12_mixedOf 40 = .ok (.invokevirtual 202, 3) := by decide +kernel
theorem dX12_mixedOf_43 : decode cX12_mixedOf 43 = .ok (.iload 6, 2) := by decide +kernel
theorem dX12_mixedOf_45 : decode cX12_mixedOf 45 = .ok (.iload 4, 2) := by decide +kernel
theorem dX12_mixedOf_47 : decode cX12_mixedOf 47 = .ok (.iload_n 3, 1) := by decide +kernel
theorem dX12_mixedOf_48 : decode cX12_mixedOf 48 = .ok (.isub, 1) := by decide +kernel
theorem dX12_mixedOf_49 : decode cX12_mixedOf 49 = .ok (.aload_n 0, 1) := by decide +kernel
theorem dX12_mixedOf_50 : decode cX12_mixedOf 50 = .ok (.iconst 0, 1) := by decide +kernel
theorem dX12_mixedOf_51 : decode cX12_mixedOf 51 = .ok (.invokevirtual 205, 3) := by decide +kernel
theorem dX12_mixedOf_54 : decode cX12_mixedOf 54 = .ok (.imul, 1) := by decide +kernel
theorem dX12_mixedOf_55 : decode cX12_mixedOf 55 = .ok (.iadd, 1) := by decide +kernel
theorem dX12_mixedOf_56 : decode cX12_mixedOf 56 = .ok (.istore 6, 2) := by decide +kernel
theorem dX12_mixedOf_58 : decode cX12_mixedOf 58 = .ok (.iload 6, 2) := by decide +kernel
theorem dX12_mixedOf_60 : decode cX12_mixedOf 60 = .ok (.iload 5, 2) := by decide +kernel
theorem dX12_mixedOf_62 : decode cX12_mixedOf 62 = .ok (.if_icmp .ge 8, 3) := by decide +kernel
theorem dX12_mixedOf_65 : decode cX12_mixedOf 65 = .ok (.iload 6, 2) := by decide +kernel
theorem dX12_mixedOf_67 : decode cX12_mixedOf 67 = .ok (.goto 5, 3) := by decide +kernel
theorem dX12_mixedOf_70 : decode cX12_mixedOf 70 = .ok (.iload 5, 2) := by decide +kernel
theorem dX12_mixedOf_72 : decode cX12_mixedOf 72 = .ok (.istore 5, 2) := by decide +kernel
theorem dX12_mixedOf_74 : decode cX12_mixedOf 74 = .ok (.aload_n 0, 1) := by decide +kernel
theorem dX12_mixedOf_75 : decode cX12_mixedOf 75 = .ok (.aload_n 0, 1) := by decide +kernel
theorem dX12_mixedOf_76 : decode cX12_mixedOf 76 = .ok (.getfield 35, 3) := by decide +kernel
theorem dX12_mixedOf_79 : decode cX12_mixedOf 79 = .ok (.iconst 1, 1) := by decide +kernel
theorem dX12_mixedOf_80 : decode cX12_mixedOf 80 = .ok (.iaload, 1) := by decide +kernel
theorem dX12_mixedOf_81 : decode cX12_mixedOf 81 = .ok (.invokevirtual 257, 3) := by decide +kernel
theorem dX12_mixedOf_84 : decode cX12_mixedOf 84 = .ok (.ifCond .ne (-75), 3) := by decide +kernel
theorem dX12_mixedOf_87 : decode cX12_mixedOf 87 = .ok (.iload 5, 2) := by decide +kernel
theorem dX12_mixedOf_89 : decode cX12_mixedOf 89 = .ok (.ireturn, 1) := by decide +kernel
theorem dX12_mixed_0 : decode cX12_mixed 0 = .ok (.iload_n 1, 1) := by decide +kernel
theorem dX12_mixed_1 : decode cX12_mixed 1 = .ok (.invokestatic 91, 3) := by decide +kernel
theorem dX12_mixed_4 : decode cX12_mixed 4 = .ok (.ifCond .eq 31, 3) := by decide +kernel
theorem dX12_mixed_7 : decode cX12_mixed 7 = .ok (.iload_n 2, 1) := by decide +kernel
theorem dX12_mixed_8 : decode cX12_mixed 8 = .ok (.invokestatic 91, 3) := by decide +kernel
theorem dX12_mixed_11 : decode cX12_mixed 11 = .ok (.ifCond .eq 24, 3) := by decide +kernel
theorem dX12_mixed_14 : decode cX12_mixed 14 = .ok (.iload 4, 2) := by decide +kernel
theorem dX12_mixed_16 : decode cX12_mixed 16 = .ok (.iconst 1, 1) := by decide +kernel
theorem dX12_mixed_17 : decode cX12_mixed 17 = .ok (.bipush 99, 2) := by decide +kernel
theorem dX12_mixed_19 : decode cX12_mixed 19 = .ok (.invokestatic 87, 3) := by decide +kernel
theorem dX12_mixed_22 : decode cX12_mixed 22 = .ok (.ifCond .eq 13, 3) := by decide +kernel
theorem dX12_mixed_25 : decode cX12_mixed 25 = .ok (.iload_n 3, 1) := by decide +kernel
theorem dX12_mixed_26 : decode cX12_mixed 26 = .ok (.iconst 0, 1) := by decide +kernel
theorem dX12_mixed_27 : decode cX12_mixed 27 = .ok (.iload 4, 2) := by decide +kernel
theorem dX12_mixed_29 : decode cX12_mixed 29 = .ok (.invokestatic 87, 3) := by decide +kernel
theorem dX12_mixed_32 : decode cX12_mixed 32 = .ok (.ifCond .ne 5, 3) := by decide +kernel
theorem dX12_mixed_35 : decode cX12_mixed 35 = .ok (.iconst (-1), 1) := by decide +kernel
theorem dX12_mixed_36 : decode cX12_mixed 36 = .ok (.ireturn, 1) := by decide +kernel
theorem dX12_mixed_37 : decode cX12_mixed 37 = .ok (.aload_n 0, 1) := by decide +kernel
theorem dX12_mixed_38 : decode cX12_mixed 38 = .ok (.iload_n 1, 1) := by decide +kernel
theorem dX12_mixed_39 : decode cX12_mixed 39 = .ok (.iload_n 2, 1) := by decide +kernel
theorem dX12_mixed_40 : decode cX12_mixed 40 = .ok (.invokevirtual 275, 3) := by decide +kernel
theorem dX12_mixed_43 : decode cX12_mixed 43 = .ok (.istore 5, 2) := by decide +kernel
theorem dX12_mixed_45 : decode cX12_mixed 45 = .ok (.iload 5, 2) := by decide +kernel
theorem dX12_mixed_47 : decode cX12_mixed 47 = .ok (.ifCond .ge 8, 3) := by decide +kernel
theorem dX12_mixed_50 : decode cX12_mixed 50 = .ok (.iload 5, 2) := by decide +kernel
theorem dX12_mixed_52 : decode cX12_mixed 52 = .ok (.goto 21, 3) := by decide +kernel
theorem dX12_mixed_55 : decode cX12_mixed 55 = .ok (.aload_n 0, 1) := by decide +kernel
theorem dX12_mixed_56 : decode cX12_mixed 56 = .ok (.aload_n 0, 1) := by decide +kernel
theorem dX12_mixed_57 : decode cX12_mixed 57 = .ok (.iload_n 1, 1) := by decide +kernel
theorem dX12_mixed_58 : decode cX12_mixed 58 = .ok (.iload_n 2, 1) := by decide +kernel
theorem dX12_mixed_59 : decode cX12_mixed 59 = .ok (.iload_n 3, 1) := by decide +kernel
theorem dX12_mixed_60 : decode cX12_mixed 60 = .ok (.iload 4, 2) := by decide +kernel
theorem dX12_mixed_62 : decode cX12_mixed 62 = .ok (.invokevirtual 278, 3) := by decide +kernel
theorem dX12_mixed_65 : decode cX12_mixed 65 = .ok (.i2l, 1) := by decide +kernel
theorem dX12_mixed_66 : decode cX12_mixed 66 = .ok (.iload 4, 2) := by decide +kernel
theorem dX12_mixed_68 : decode cX12_mixed 68 = .ok (.i2l, 1) := by decide +kernel
theorem dX12_mixed_69 : decode cX12_mixed 69 = .ok (.iconst 1, 1) := by decide +kernel
theorem dX12_mixed_70 : decode cX12_mixed 70 = .ok (.invokevirtual 260, 3) := by decide +kernel
theorem dX12_mixed_73 : decode cX12_mixed 73 = .ok (.ireturn, 1) := by decide +kernel
theorem dX12_mix_0 : decode cX12_mix 0 = .ok (.iload_n 1, 1) := by decide +kernel
theorem dX12_mix_1 : decode cX12_mix 1 = .ok (.invokestatic 91, 3) := by decide +kernel
theorem dX12_mix_4 : decode cX12_mix 4 = .ok (.ifCond .eq 10, 3) := by decide +kernel
theorem dX12_mix_7 : decode cX12_mix 7 = .ok (.iload_n 2, 1) := by decide +kernel
theorem dX12_mix_8 : decode cX12_mix 8 = .ok (.invokestatic 91, 3) := by decide +kernel
theorem dX12_mix_11 : decode cX12_mix 11 = .ok (.ifCond .ne 5, 3) := by decide +kernel
theorem dX12_mix_14 : decode cX12_mix 14 = .ok (.iconst (-1), 1) := by decide +kernel
theorem dX12_mix_15 : decode cX12_mix 15 = .ok (.ireturn, 1) := by decide +kernel
theorem dX12_mix_16 : decode cX12_mix 16 = .ok (.aload_n 0, 1) := by decide +kernel
theorem dX12_mix_17 : decode cX12_mix 17 = .ok (.iload_n 1, 1) := by decide +kernel
theorem dX12_mix_18 : decode cX12_mix 18 = .ok (.iload_n 2, 1) := by decide +kernel
theorem dX12_mix_19 : decode cX12_mix 19 = .ok (.invokevirtual 275, 3) := by decide +kernel
theorem dX12_mix_22 : decode cX12_mix 22 = .ok (.istore_n 3, 1) := by decide +kernel
theorem dX12_mix_23 : decode cX12_mix 23 = .ok (.iload_n 3, 1) := by decide +kernel
theorem dX12_mix_24 : decode cX12_mix 24 = .ok (.ifCond .ge 5, 3) := by decide +kernel
theorem dX12_mix_27 : decode cX12_mix 27 = .ok (.iload_n 3, 1) := by decide +kernel
theorem dX12_mix_28 : decode cX12_mix 28 = .ok (.ireturn, 1) := by decide +kernel
theorem dX12_mix_29 : decode cX12_mix 29 = .ok (.iconst 0, 1) := by decide +kernel
theorem dX12_mix_30 : decode cX12_mix 30 = .ok (.istore 4, 2) := by decide +kernel
theorem dX12_mix_32 : decode cX12_mix 32 = .ok (.iconst (-1), 1) := by decide +kernel
theorem dX12_mix_33 : decode cX12_mix 33 = .ok (.istore 5, 2) := by decide +kernel
theorem dX12_mix_35 : decode cX12_mix 35 = .ok (.iconst 0, 1) := by decide +kernel
theorem dX12_mix_36 : decode cX12_mix 36 = .ok (.istore 6, 2) := by decide +kernel
theorem dX12_mix_38 : decode cX12_mix 38 = .ok (.iload 6, 2) := by decide +kernel
theorem dX12_mix_40 : decode cX12_mix 40 = .ok (.bipush 12, 2) := by decide +kernel
theorem dX12_mix_42 : decode cX12_mix 42 = .ok (.if_icmp .gt 53, 3) := by decide +kernel
theorem dX12_mix_45 : decode cX12_mix 45 = .ok (.aload_n 0, 1) := by decide +kernel
theorem dX12_mix_46 : decode cX12_mix 46 = .ok (.iload_n 1, 1) := by decide +kernel
theorem dX12_mix_47 : decode cX12_mix 47 = .ok (.iload_n 2, 1) := by decide +kernel
theorem dX12_mix_48 : decode cX12_mix 48 = .ok (.iload 6, 2) := by decide +kernel
theorem dX12_mix_50 : decode cX12_mix 50 = .ok (.bipush 12, 2) := by decide +kernel
theorem dX12_mix_52 : decode cX12_mix 52 = .ok (.invokevirtual 278, 3) := by decide +kernel
theorem dX12_mix_55 : decode cX12_mix 55 = .ok (.istore 7, 2) := by decide +kernel
theorem dX12_mix_57 : decode cX12_mix 57 = .ok (.iload 7, 2) := by decide +kernel
theorem dX12_mix_59 : decode cX12_mix 59 = .ok (.iload 5, 2) := by decide +kernel
theorem dX12_mix_61 : decode cX12_mix 61 = .ok (.if_icmp .le 8, 3) := by decide +kernel
theorem dX12_mix_64 : decode cX12_mix 64 = .ok (.iload 6, 2) := by decide +kernel
theorem dX12_mix_66 : decode cX12_mix 66 = .ok (.goto 5, 3) := by decide +kernel
theorem dX12_mix_69 : decode cX12_mix 69 = .ok (.iload 4, 2) := by decide +kernel
theorem dX12_mix_71 : decode cX12_mix 71 = .ok (.istore 4, 2) := by decide +kernel
theorem dX12_mix_73 : decode cX12_mix 73 = .ok (.iload 7, 2) := by decide +kernel
theorem dX12_mix_75 : decode cX12_mix 75 = .ok (.iload 5, 2) := by decide +kernel
theorem dX12_mix_77 : decode cX12_mix 77 = .ok (.if_icmp .le 8, 3) := by decide +kernel
theorem dX12_mix_80 : decode cX12_mix 80 = .ok (.iload 7, 2) := by decide +kernel
theorem dX12_mix_82 : decode cX12_mix 82 = .ok (.goto 5, 3) := by decide +kernel
theorem dX12_mix_85 : decode cX12_mix 85 = .ok (.iload 5, 2) := by decide +kernel
theorem dX12_mix_87 : decode cX12_mix 87 = .ok (.istore 5, 2) := by decide +kernel
theorem dX12_mix_89 : decode cX12_mix 89 = .ok (.iinc 6 1, 3) := by decide +kernel
theorem dX12_mix_92 : decode cX12_mix 92 = .ok (.goto (-54), 3) := by decide +kernel
theorem dX12_mix_95 : decode cX12_mix 95 = .ok (.aload_n 0, 1) := by decide +kernel
theorem dX12_mix_96 : decode cX12_mix 96 = .ok (.iload 5, 2) := by decide +kernel
theorem dX12_mix_98 : decode cX12_mix 98 = .ok (.i2l, 1) := by decide +kernel
theorem dX12_mix_99 : decode cX12_mix 99 = .ok (.ldc2_w 281, 3) := by decide +kernel
theorem dX12_mix_102 : decode cX12_mix 102 = .ok (.iload 4, 2) := by decide +kernel
theorem dX12_mix_104 : decode cX12_mix 104 = .ok (.invokevirtual 260, 3) := by decide +kernel
theorem dX12_mix_107 : decode cX12_mix 107 = .ok (.ireturn, 1) := by decide +kernel
theorem dX12_turnAt_0 : decode cX12_turnAt 0 = .ok (.aload_n 0, 1) := by decide +kernel
theorem dX12_turnAt_1 : decode cX12_turnAt 1 = .ok (.getfield 59, 3) := by decide +kernel
theorem dX12_turnAt_4 : decode cX12_turnAt 4 = .ok (.sipush 256, 3) := by decide +kernel
theorem dX12_turnAt_7 : decode cX12_turnAt 7 = .ok (.iload_n 1, 1) := by decide +kernel
theorem dX12_turnAt_8 : decode cX12_turnAt 8 = .ok (.imul, 1) := by decide +kernel
theorem dX12_turnAt_9 : decode cX12_turnAt 9 = .ok (.bipush 16, 2) := by decide +kernel
theorem dX12_turnAt_11 : decode cX12_turnAt 11 = .ok (.iload_n 2, 1) := by decide +kernel
theorem dX12_turnAt_12 : decode cX12_turnAt 12 = .ok (.imul, 1) := by decide +kernel
theorem dX12_turnAt_13 : decode cX12_turnAt 13 = .ok (.iadd, 1) := by decide +kernel
theorem dX12_turnAt_14 : decode cX12_turnAt 14 = .ok (.iload_n 3, 1) := by decide +kernel
theorem dX12_turnAt_15 : decode cX12_turnAt 15 = .ok (.iadd, 1) := by decide +kernel
theorem dX12_turnAt_16 : decode cX12_turnAt 16 = .ok (.iaload, 1) := by decide +kernel
theorem dX12_turnAt_17 : decode cX12_turnAt 17 = .ok (.ireturn, 1) := by decide +kernel
theorem dX12_gives_0 : decode cX12_gives 0 = .ok (.aload_n 0, 1) := by decide +kernel
theorem dX12_gives_1 : decode cX12_gives 1 = .ok (.iload_n 1, 1) := by decide +kernel
theorem dX12_gives_2 : decode cX12_gives 2 = .ok (.iconst 0, 1) := by decide +kernel
theorem dX12_gives_3 : decode cX12_gives 3 = .ok (.invokevirtual 168, 3) := by decide +kernel
theorem dX12_gives_6 : decode cX12_gives 6 = .ok (.iconst 5, 1) := by decide +kernel
theorem dX12_gives_7 : decode cX12_gives 7 = .ok (.if_icmp .ne 7, 3) := by decide +kernel
theorem dX12_gives_10 : decode cX12_gives 10 = .ok (.iload_n 2, 1) := by decide +kernel
theorem dX12_gives_11 : decode cX12_gives 11 = .ok (.goto 10, 3) := by decide +kernel
theorem dX12_gives_14 : decode cX12_gives 14 = .ok (.aload_n 0, 1) := by decide +kernel
theorem dX12_gives_15 : decode cX12_gives 15 = .ok (.iload_n 1, 1) := by decide +kernel
theorem dX12_gives_16 : decode cX12_gives 16 = .ok (.iconst 0, 1) := by decide +kernel
theorem dX12_gives_17 : decode cX12_gives 17 = .ok (.iload_n 2, 1) := by decide +kernel
theorem dX12_gives_18 : decode cX12_gives 18 = .ok (.invokevirtual 178, 3) := by decide +kernel
theorem dX12_gives_21 : decode cX12_gives 21 = .ok (.istore 4, 2) := by decide +kernel
theorem dX12_gives_23 : decode cX12_gives 23 = .ok (.aload_n 0, 1) := by decide +kernel
theorem dX12_gives_24 : decode cX12_gives 24 = .ok (.iload_n 1, 1) := by decide +kernel
theorem dX12_gives_25 : decode cX12_gives 25 = .ok (.iconst 0, 1) := by decide +kernel
theorem dX12_gives_26 : decode cX12_gives 26 = .ok (.invokevirtual 168, 3) := by decide +kernel
theorem dX12_gives_29 : decode cX12_gives 29 = .ok (.iconst 5, 1) := by decide +kernel
theorem dX12_gives_30 : decode cX12_gives 30 = .ok (.if_icmp .ne 7, 3) := by decide +kernel
theorem dX12_gives_33 : decode cX12_gives 33 = .ok (.iload_n 3, 1) := by decide +kernel
theorem dX12_gives_34 : decode cX12_gives 34 = .ok (.goto 10, 3) := by decide +kernel
theorem dX12_gives_37 : decode cX12_gives 37 = .ok (.aload_n 0, 1) := by decide +kernel
theorem dX12_gives_38 : decode cX12_gives 38 = .ok (.iload_n 1, 1) := by decide +kernel
theorem dX12_gives_39 : decode cX12_gives 39 = .ok (.iconst 1, 1) := by decide +kernel
theorem dX12_gives_40 : decode cX12_gives 40 = .ok (.iload_n 3, 1) := by decide +kernel
theorem dX12_gives_41 : decode cX12_gives 41 = .ok (.invokevirtual 178, 3) := by decide +kernel
theorem dX12_gives_44 : decode cX12_gives 44 = .ok (.istore 5, 2) := by decide +kernel
theorem dX12_gives_46 : decode cX12_gives 46 = .ok (.iconst 2, 1) := by decide +kernel
theorem dX12_gives_47 : decode cX12_gives 47 = .ok (.aload_n 0, 1) := by decide +kernel
theorem dX12_gives_48 : decode cX12_gives 48 = .ok (.iload_n 1, 1) := by decide +kernel
theorem dX12_gives_49 : decode cX12_gives 49 = .ok (.iconst 1, 1) := by decide +kernel
theorem dX12_gives_50 : decode cX12_gives 50 = .ok (.invokevirtual 168, 3) := by decide +kernel
theorem dX12_gives_53 : decode cX12_gives 53 = .ok (.imul, 1) := by decide +kernel
theorem dX12_gives_54 : decode cX12_gives 54 = .ok (.istore 6, 2) := by decide +kernel
theorem dX12_gives_56 : decode cX12_gives 56 = .ok (.iload 4, 2) := by decide +kernel
theorem dX12_gives_58 : decode cX12_gives 58 = .ok (.iload 5, 2) := by decide +kernel
theorem dX12_gives_60 : decode cX12_gives 60 = .ok (.if_icmp .ne 19, 3) := by decide +kernel
theorem dX12_gives_63 : decode cX12_gives 63 = .ok (.aload_n 0, 1) := by decide +kernel
theorem dX12_gives_64 : decode cX12_gives 64 = .ok (.iload_n 1, 1) := by decide +kernel
theorem dX12_gives_65 : decode cX12_gives 65 = .ok (.iconst 1, 1) := by decide +kernel
theorem dX12_gives_66 : decode cX12_gives 66 = .ok (.invokevirtual 171, 3) := by decide +kernel
theorem dX12_gives_69 : decode cX12_gives 69 = .ok (.ifCond .eq 8, 3) := by decide +kernel
theorem dX12_gives_72 : decode cX12_gives 72 = .ok (.iload 6, 2) := by decide +kernel
theorem dX12_gives_74 : decode cX12_gives 74 = .ok (.goto 4, 3) := by decide +kernel
theorem dX12_gives_77 : decode cX12_gives 77 = .ok (.iconst 0, 1) := by decide +kernel
theorem dX12_gives_78 : decode cX12_gives 78 = .ok (.ireturn, 1) := by decide +kernel
theorem dX12_gives_79 : decode cX12_gives 79 = .ok (.iload 4, 2) := by decide +kernel
theorem dX12_gives_81 : decode cX12_gives 81 = .ok (.iload 5, 2) := by decide +kernel
theorem dX12_gives_83 : decode cX12_gives 83 = .ok (.if_icmp .le 7, 3) := by decide +kernel
theorem dX12_gives_86 : decode cX12_gives 86 = .ok (.iconst 1, 1) := by decide +kernel
theorem dX12_gives_87 : decode cX12_gives 87 = .ok (.goto 4, 3) := by decide +kernel
theorem dX12_gives_90 : decode cX12_gives 90 = .ok (.iconst 0, 1) := by decide +kernel
theorem dX12_gives_91 : decode cX12_gives 91 = .ok (.aload_n 0, 1) := by decide +kernel
theorem dX12_gives_92 : decode cX12_gives 92 = .ok (.iload_n 1, 1) := by decide +kernel
theorem dX12_gives_93 : decode cX12_gives 93 = .ok (.iconst 0, 1) := by decide +kernel
theorem dX12_gives_94 : decode cX12_gives 94 = .ok (.invokevirtual 168, 3) := by decide +kernel
theorem dX12_gives_97 : decode cX12_gives 97 = .ok (.iconst 2, 1) := by decide +kernel
theorem dX12_gives_98 : decode cX12_gives 98 = .ok (.if_icmp .eq 7, 3) := by decide +kernel
theorem dX12_gives_101 : decode cX12_gives 101 = .ok (.iconst 1, 1) := by decide +kernel
theorem dX12_gives_102 : decode cX12_gives 102 = .ok (.goto 4, 3) := by decide +kernel
theorem dX12_gives_105 : decode cX12_gives 105 = .ok (.iconst 0, 1) := by decide +kernel
theorem dX12_gives_106 : decode cX12_gives 106 = .ok (.if_icmp .ne 8, 3) := by decide +kernel
theorem dX12_gives_109 : decode cX12_gives 109 = .ok (.iload 6, 2) := by decide +kernel
theorem dX12_gives_111 : decode cX12_gives 111 = .ok (.goto 6, 3) := by decide +kernel
theorem dX12_gives_114 : decode cX12_gives 114 = .ok (.iload 6, 2) := by decide +kernel
theorem dX12_gives_116 : decode cX12_gives 116 = .ok (.ineg, 1) := by decide +kernel
theorem dX12_gives_117 : decode cX12_gives 117 = .ok (.ireturn, 1) := by decide +kernel
theorem dX12_answered_0 : decode cX12_answered 0 = .ok (.sipush 1000, 3) := by decide +kernel
theorem dX12_answered_3 : decode cX12_answered 3 = .ok (.istore 5, 2) := by decide +kernel
theorem dX12_answered_5 : decode cX12_answered 5 = .ok (.iconst 0, 1) := by decide +kernel
theorem dX12_answered_6 : decode cX12_answered 6 = .ok (.istore 6, 2) := by decide +kernel
theorem dX12_answered_8 : decode cX12_answered 8 = .ok (.iload 6, 2) := by decide +kernel
theorem dX12_answered_10 : decode cX12_answered 10 = .ok (.iload_n 3, 1) := by decide +kernel
theorem dX12_answered_11 : decode cX12_answered 11 = .ok (.if_icmp .gt 72, 3) := by decide +kernel
theorem dX12_answered_14 : decode cX12_answered 14 = .ok (.aload_n 0, 1) := by decide +kernel
theorem dX12_answered_15 : decode cX12_answered 15 = .ok (.iload_n 1, 1) := by decide +kernel
theorem dX12_answered_16 : decode cX12_answered 16 = .ok (.iload 4, 2) := by decide +kernel
theorem dX12_answered_18 : decode cX12_answered 18 = .ok (.iload 6, 2) := by decide +kernel
theorem dX12_answered_20 : decode cX12_answered 20 = .ok (.invokevirtual 283, 3) := by decide +kernel
theorem dX12_answered_23 : decode cX12_answered 23 = .ok (.aload_n 0, 1) := by decide +kernel
theorem dX12_answered_24 : decode cX12_answered 24 = .ok (.iload_n 1, 1) := by decide +kernel
theorem dX12_answered_25 : decode cX12_answered 25 = .ok (.iconst 1, 1) := by decide +kernel
theorem dX12_answered_26 : decode cX12_answered 26 = .ok (.iadd, 1) := by decide +kernel
theorem dX12_answered_27 : decode cX12_answered 27 = .ok (.iload_n 2, 1) := by decide +kernel
theorem dX12_answered_28 : decode cX12_answered 28 = .ok (.iload 4, 2) := by decide +kernel
theorem dX12_answered_30 : decode cX12_answered 30 = .ok (.isub, 1) := by decide +kernel
theorem dX12_answered_31 : decode cX12_answered 31 = .ok (.iload_n 3, 1) := by decide +kernel
theorem dX12_answered_32 : decode cX12_answered 32 = .ok (.iload 6, 2) := by decide +kernel
theorem dX12_answered_34 : decode cX12_answered 34 = .ok (.isub, 1) := by decide +kernel
theorem dX12_answered_35 : decode cX12_answered 35 = .ok (.invokevirtual 286, 3) := by decide +kernel
theorem dX12_answered_38 : decode cX12_answered 38 = .ok (.iadd, 1) := by decide +kernel
theorem dX12_answered_39 : decode cX12_answered 39 = .ok (.istore 7, 2) := by decide +kernel
theorem dX12_answered_41 : decode cX12_answered 41 = .ok (.aload_n 0, 1) := by decide +kernel
theorem dX12_answered_42 : decode cX12_answered 42 = .ok (.iload 7, 2) := by decide +kernel
theorem dX12_answered_44 : decode cX12_answered 44 = .ok (.iload 5, 2) := by decide +kernel
theorem dX12_answered_46 : decode cX12_answered 46 = .ok (.if_icmp .ge 8, 3) := by decide +kernel
theorem dX12_answered_49 : decode cX12_answered 49 = .ok (.iload 6, 2) := by decide +kernel
theorem dX12_answered_51 : decode cX12_answered 51 = .ok (.goto 7, 3) := by decide +kernel
theorem dX12_answered_54 : decode cX12_answered 54 = .ok (.aload_n 0, 1) := by decide +kernel
theorem dX12_answered_55 : decode cX12_answered 55 = .ok (.getfield 289, 3) := by decide +kernel
theorem dX12_answered_58 : decode cX12_answered 58 = .ok (.putfield 289, 3) := by decide +kernel
theorem dX12_answered_61 : decode cX12_answered 61 = .ok (.iload 7, 2) := by decide +kernel
theorem dX12_answered_63 : decode cX12_answered 63 = .ok (.iload 5, 2) := by decide +kernel
theorem dX12_answered_65 : decode cX12_answered 65 = .ok (.if_icmp .ge 8, 3) := by decide +kernel
theorem dX12_answered_68 : decode cX12_answered 68 = .ok (.iload 7, 2) := by decide +kernel
theorem dX12_answered_70 : decode cX12_answered 70 = .ok (.goto 5, 3) := by decide +kernel
theorem dX12_answered_73 : decode cX12_answered 73 = .ok (.iload 5, 2) := by decide +kernel
theorem dX12_answered_75 : decode cX12_answered 75 = .ok (.istore 5, 2) := by decide +kernel
theorem dX12_answered_77 : decode cX12_answered 77 = .ok (.iinc 6 1, 3) := by decide +kernel
theorem dX12_answered_80 : decode cX12_answered 80 = .ok (.goto (-72), 3) := by decide +kernel
theorem dX12_answered_83 : decode cX12_answered 83 = .ok (.iload 5, 2) := by decide +kernel
theorem dX12_answered_85 : decode cX12_answered 85 = .ok (.ireturn, 1) := by decide +kernel
theorem dX12_laidIn_0 : decode cX12_laidIn 0 = .ok (.sipush (-1000), 3) := by decide +kernel
theorem dX12_laidIn_3 : decode cX12_laidIn 3 = .ok (.istore 4, 2) := by decide +kernel
theorem dX12_laidIn_5 : decode cX12_laidIn 5 = .ok (.iconst 0, 1) := by decide +kernel
theorem dX12_laidIn_6 : decode cX12_laidIn 6 = .ok (.istore 5, 2) := by decide +kernel
theorem dX12_laidIn_8 : decode cX12_laidIn 8 = .ok (.iload 5, 2) := by decide +kernel
theorem dX12_laidIn_10 : decode cX12_laidIn 10 = .ok (.iload_n 2, 1) := by decide +kernel
theorem dX12_laidIn_11 : decode cX12_laidIn 11 = .ok (.if_icmp .gt 56, 3) := by decide +kernel
theorem dX12_laidIn_14 : decode cX12_laidIn 14 = .ok (.aload_n 0, 1) := by decide +kernel
theorem dX12_laidIn_15 : decode cX12_laidIn 15 = .ok (.iload_n 1, 1) := by decide +kernel
theorem dX12_laidIn_16 : decode cX12_laidIn 16 = .ok (.iload_n 2, 1) := by decide +kernel
theorem dX12_laidIn_17 : decode cX12_laidIn 17 = .ok (.iload_n 3, 1) := by decide +kernel
theorem dX12_laidIn_18 : decode cX12_laidIn 18 = .ok (.iload 5, 2) := by decide +kernel
theorem dX12_laidIn_20 : decode cX12_laidIn 20 = .ok (.invokevirtual 292, 3) := by decide +kernel
theorem dX12_laidIn_23 : decode cX12_laidIn 23 = .ok (.istore 6, 2) := by decide +kernel
theorem dX12_laidIn_25 : decode cX12_laidIn 25 = .ok (.aload_n 0, 1) := by decide +kernel
theorem dX12_laidIn_26 : decode cX12_laidIn 26 = .ok (.iload 6, 2) := by decide +kernel
theorem dX12_laidIn_28 : decode cX12_laidIn 28 = .ok (.iload 4, 2) := by decide +kernel
theorem dX12_laidIn_30 : decode cX12_laidIn 30 = .ok (.if_icmp .le 8, 3) := by decide +kernel
theorem dX12_laidIn_33 : decode cX12_laidIn 33 = .ok (.iload 5, 2) := by decide +kernel
theorem dX12_laidIn_35 : decode cX12_laidIn 35 = .ok (.goto 7, 3) := by decide +kernel
theorem dX12_laidIn_38 : decode cX12_laidIn 38 = .ok (.aload_n 0, 1) := by decide +kernel
theorem dX12_laidIn_39 : decode cX12_laidIn 39 = .ok (.getfield 295, 3) := by decide +kernel
theorem dX12_laidIn_42 : decode cX12_laidIn 42 = .ok (.putfield 295, 3) := by decide +kernel
theorem dX12_laidIn_45 : decode cX12_laidIn 45 = .ok (.iload 6, 2) := by decide +kernel
theorem dX12_laidIn_47 : decode cX12_laidIn 47 = .ok (.iload 4, 2) := by decide +kernel
theorem dX12_laidIn_49 : decode cX12_laidIn 49 = .ok (.if_icmp .le 8, 3) := by decide +kernel
theorem dX12_laidIn_52 : decode cX12_laidIn 52 = .ok (.iload 6, 2) := by decide +kernel
theorem dX12_laidIn_54 : decode cX12_laidIn 54 = .ok (.goto 5, 3) := by decide +kernel
theorem dX12_laidIn_57 : decode cX12_laidIn 57 = .ok (.iload 4, 2) := by decide +kernel
theorem dX12_laidIn_59 : decode cX12_laidIn 59 = .ok (.istore 4, 2) := by decide +kernel
theorem dX12_laidIn_61 : decode cX12_laidIn 61 = .ok (.iinc 5 1, 3) := by decide +kernel
theorem dX12_laidIn_64 : decode cX12_laidIn 64 = .ok (.goto (-56), 3) := by decide +kernel
theorem dX12_laidIn_67 : decode cX12_laidIn 67 = .ok (.iload 4, 2) := by decide +kernel
theorem dX12_laidIn_69 : decode cX12_laidIn 69 = .ok (.ireturn, 1) := by decide +kernel
theorem dX12_setTurns_0 : decode cX12_setTurns 0 = .ok (.iconst 0, 1) := by decide +kernel
theorem dX12_setTurns_1 : decode cX12_setTurns 1 = .ok (.istore_n 1, 1) := by decide +kernel
theorem dX12_setTurns_2 : decode cX12_setTurns 2 = .ok (.iload_n 1, 1) := by decide +kernel
theorem dX12_setTurns_3 : decode cX12_setTurns 3 = .ok (.sipush 256, 3) := by decide +kernel
theorem dX12_setTurns_6 : decode cX12_setTurns 6 = .ok (.if_icmp .ge 25, 3) := by decide +kernel
theorem dX12_setTurns_9 : decode cX12_setTurns 9 = .ok (.aload_n 0, 1) := by decide +kernel
theorem dX12_setTurns_10 : decode cX12_setTurns 10 = .ok (.getfield 59, 3) := by decide +kernel
theorem dX12_setTurns_13 : decode cX12_setTurns 13 = .ok (.sipush 256, 3) := by decide +kernel
theorem dX12_setTurns_16 : decode cX12_setTurns 16 = .ok (.aload_n 0, 1) := by decide +kernel
theorem dX12_setTurns_17 : decode cX12_setTurns 17 = .ok (.getfield 156, 3) := by decide +kernel
theorem dX12_setTurns_20 : decode cX12_setTurns 20 = .ok (.imul, 1) := by decide +kernel
theorem dX12_setTurns_21 : decode cX12_setTurns 21 = .ok (.iload_n 1, 1) := by decide +kernel
theorem dX12_setTurns_22 : decode cX12_setTurns 22 = .ok (.iadd, 1) := by decide +kernel
theorem dX12_setTurns_23 : decode cX12_setTurns 23 = .ok (.iconst 0, 1) := by decide +kernel
theorem dX12_setTurns_24 : decode cX12_setTurns 24 = .ok (.iastore, 1) := by decide +kernel
theorem dX12_setTurns_25 : decode cX12_setTurns 25 = .ok (.iinc 1 1, 3) := by decide +kernel
theorem dX12_setTurns_28 : decode cX12_setTurns 28 = .ok (.goto (-26), 3) := by decide +kernel
theorem dX12_setTurns_31 : decode cX12_setTurns 31 = .ok (.aload_n 0, 1) := by decide +kernel
theorem dX12_setTurns_32 : decode cX12_setTurns 32 = .ok (.getfield 156, 3) := by decide +kernel
theorem dX12_setTurns_35 : decode cX12_setTurns 35 = .ok (.iconst 1, 1) := by decide +kernel
theorem dX12_setTurns_36 : decode cX12_setTurns 36 = .ok (.isub, 1) := by decide +kernel
theorem dX12_setTurns_37 : decode cX12_setTurns 37 = .ok (.istore_n 1, 1) := by decide +kernel
theorem dX12_setTurns_38 : decode cX12_setTurns 38 = .ok (.iload_n 1, 1) := by decide +kernel
theorem dX12_setTurns_39 : decode cX12_setTurns 39 = .ok (.ifCond .lt 61, 3) := by decide +kernel
theorem dX12_setTurns_42 : decode cX12_setTurns 42 = .ok (.iconst 0, 1) := by decide +kernel
theorem dX12_setTurns_43 : decode cX12_setTurns 43 = .ok (.istore_n 2, 1) := by decide +kernel
theorem dX12_setTurns_44 : decode cX12_setTurns 44 = .ok (.iload_n 2, 1) := by decide +kernel
theorem dX12_setTurns_45 : decode cX12_setTurns 45 = .ok (.bipush 15, 2) := by decide +kernel
theorem dX12_setTurns_47 : decode cX12_setTurns 47 = .ok (.if_icmp .gt 47, 3) := by decide +kernel
theorem dX12_setTurns_50 : decode cX12_setTurns 50 = .ok (.iconst 0, 1) := by decide +kernel
theorem dX12_setTurns_51 : decode cX12_setTurns 51 = .ok (.istore_n 3, 1) := by decide +kernel
theorem dX12_setTurns_52 : decode cX12_setTurns 52 = .ok (.iload_n 3, 1) := by decide +kernel
theorem dX12_setTurns_53 : decode cX12_setTurns 53 = .ok (.bipush 15, 2) := by decide +kernel
theorem dX12_setTurns_55 : decode cX12_setTurns 55 = .ok (.if_icmp .gt 33, 3) := by decide +kernel
theorem dX12_setTurns_58 : decode cX12_setTurns 58 = .ok (.aload_n 0, 1) := by decide +kernel
theorem dX12_setTurns_59 : decode cX12_setTurns 59 = .ok (.getfield 59, 3) := by decide +kernel
theorem dX12_setTurns_62 : decode cX12_setTurns 62 = .ok (.sipush 256, 3) := by decide +kernel
theorem dX12_setTurns_65 : decode cX12_setTurns 65 = .ok (.iload_n 1, 1) := by decide +kernel
theorem dX12_setTurns_66 : decode cX12_setTurns 66 = .ok (.imul, 1) := by decide +kernel
theorem dX12_setTurns_67 : decode cX12_setTurns 67 = .ok (.bipush 16, 2) := by decide +kernel
theorem dX12_setTurns_69 : decode cX12_setTurns 69 = .ok (.iload_n 2, 1) := by decide +kernel
theorem dX12_setTurns_70 : decode cX12_setTurns 70 = .ok (.imul, 1) := by decide +kernel
theorem dX12_setTurns_71 : decode cX12_setTurns 71 = .ok (.iadd, 1) := by decide +kernel
theorem dX12_setTurns_72 : decode cX12_setTurns 72 = .ok (.iload_n 3, 1) := by decide +kernel
theorem dX12_setTurns_73 : decode cX12_setTurns 73 = .ok (.iadd, 1) := by decide +kernel
theorem dX12_setTurns_74 : decode cX12_setTurns 74 = .ok (.aload_n 0, 1) := by decide +kernel
theorem dX12_setTurns_75 : decode cX12_setTurns 75 = .ok (.iload_n 1, 1) := by decide +kernel
theorem dX12_setTurns_76 : decode cX12_setTurns 76 = .ok (.iload_n 2, 1) := by decide +kernel
theorem dX12_setTurns_77 : decode cX12_setTurns 77 = .ok (.iload_n 3, 1) := by decide +kernel
theorem dX12_setTurns_78 : decode cX12_setTurns 78 = .ok (.invokevirtual 298, 3) := by decide +kernel
theorem dX12_setTurns_81 : decode cX12_setTurns 81 = .ok (.iastore, 1) := by decide +kernel
theorem dX12_setTurns_82 : decode cX12_setTurns 82 = .ok (.iinc 3 1, 3) := by decide +kernel
theorem dX12_setTurns_85 : decode cX12_setTurns 85 = .ok (.goto (-33), 3) := by decide +kernel
theorem dX12_setTurns_88 : decode cX12_setTurns 88 = .ok (.iinc 2 1, 3) := by decide +kernel
theorem dX12_setTurns_91 : decode cX12_setTurns 91 = .ok (.goto (-47), 3) := by decide +kernel
theorem dX12_setTurns_94 : decode cX12_setTurns 94 = .ok (.iinc 1 (-1), 3) := by decide +kernel
theorem dX12_setTurns_97 : decode cX12_setTurns 97 = .ok (.goto (-59), 3) := by decide +kernel
theorem dX12_setTurns_100 : decode cX12_setTurns 100 = .ok (.return_, 1) := by decide +kernel
theorem dX12_turns_0 : decode cX12_turns 0 = .ok (.aload_n 0, 1) := by decide +kernel
theorem dX12_turns_1 : decode cX12_turns 1 = .ok (.getfield 35, 3) := by decide +kernel
theorem dX12_turns_4 : decode cX12_turns 4 = .ok (.iconst 0, 1) := by decide +kernel
theorem dX12_turns_5 : decode cX12_turns 5 = .ok (.iaload, 1) := by decide +kernel
theorem dX12_turns_6 : decode cX12_turns 6 = .ok (.bipush 15, 2) := by decide +kernel
theorem dX12_turns_8 : decode cX12_turns 8 = .ok (.if_icmp .gt 14, 3) := by decide +kernel
theorem dX12_turns_11 : decode cX12_turns 11 = .ok (.aload_n 0, 1) := by decide +kernel
theorem dX12_turns_12 : decode cX12_turns 12 = .ok (.getfield 35, 3) := by decide +kernel
theorem dX12_turns_15 : decode cX12_turns 15 = .ok (.iconst 1, 1) := by decide +kernel
theorem dX12_turns_16 : decode cX12_turns 16 = .ok (.iaload, 1) := by decide +kernel
theorem dX12_turns_17 : decode cX12_turns 17 = .ok (.bipush 15, 2) := by decide +kernel
theorem dX12_turns_19 : decode cX12_turns 19 = .ok (.if_icmp .le 6, 3) := by decide +kernel
theorem dX12_turns_22 : decode cX12_turns 22 = .ok (.bipush (-6), 2) := by decide +kernel
theorem dX12_turns_24 : decode cX12_turns 24 = .ok (.ireturn, 1) := by decide +kernel
theorem dX12_turns_25 : decode cX12_turns 25 = .ok (.aload_n 0, 1) := by decide +kernel
theorem dX12_turns_26 : decode cX12_turns 26 = .ok (.getfield 156, 3) := by decide +kernel
theorem dX12_turns_29 : decode cX12_turns 29 = .ok (.ifCond .ne 6, 3) := by decide +kernel
theorem dX12_turns_32 : decode cX12_turns 32 = .ok (.bipush (-9), 2) := by decide +kernel
theorem dX12_turns_34 : decode cX12_turns 34 = .ok (.ireturn, 1) := by decide +kernel
theorem dX12_turns_35 : decode cX12_turns 35 = .ok (.aload_n 0, 1) := by decide +kernel
theorem dX12_turns_36 : decode cX12_turns 36 = .ok (.invokevirtual 301, 3) := by decide +kernel
theorem dX12_turns_39 : decode cX12_turns 39 = .ok (.aload_n 0, 1) := by decide +kernel
theorem dX12_turns_40 : decode cX12_turns 40 = .ok (.iconst 0, 1) := by decide +kernel
theorem dX12_turns_41 : decode cX12_turns 41 = .ok (.aload_n 0, 1) := by decide +kernel
theorem dX12_turns_42 : decode cX12_turns 42 = .ok (.getfield 35, 3) := by decide +kernel
theorem dX12_turns_45 : decode cX12_turns 45 = .ok (.iconst 0, 1) := by decide +kernel
theorem dX12_turns_46 : decode cX12_turns 46 = .ok (.iaload, 1) := by decide +kernel
theorem dX12_turns_47 : decode cX12_turns 47 = .ok (.aload_n 0, 1) := by decide +kernel
theorem dX12_turns_48 : decode cX12_turns 48 = .ok (.getfield 35, 3) := by decide +kernel
theorem dX12_turns_51 : decode cX12_turns 51 = .ok (.iconst 1, 1) := by decide +kernel
theorem dX12_turns_52 : decode cX12_turns 52 = .ok (.iaload, 1) := by decide +kernel
theorem dX12_turns_53 : decode cX12_turns 53 = .ok (.invokevirtual 298, 3) := by decide +kernel
theorem dX12_turns_56 : decode cX12_turns 56 = .ok (.istore_n 1, 1) := by decide +kernel
theorem dX12_turns_57 : decode cX12_turns 57 = .ok (.aload_n 0, 1) := by decide +kernel
theorem dX12_turns_58 : decode cX12_turns 58 = .ok (.iload_n 1, 1) := by decide +kernel
theorem dX12_turns_59 : decode cX12_turns 59 = .ok (.aload_n 0, 1) := by decide +kernel
theorem dX12_turns_60 : decode cX12_turns 60 = .ok (.getfield 295, 3) := by decide +kernel
theorem dX12_turns_63 : decode cX12_turns 63 = .ok (.invokevirtual 113, 3) := by decide +kernel
theorem dX12_turns_66 : decode cX12_turns 66 = .ok (.ireturn, 1) := by decide +kernel
theorem dX12_areYet_0 : decode cX12_areYet 0 = .ok (.iload_n 0, 1) := by decide +kernel
theorem dX12_areYet_1 : decode cX12_areYet 1 = .ok (.iconst 0, 1) := by decide +kernel
theorem dX12_areYet_2 : decode cX12_areYet 2 = .ok (.bipush 15, 2) := by decide +kernel
theorem dX12_areYet_4 : decode cX12_areYet 4 = .ok (.invokestatic 87, 3) := by decide +kernel
theorem dX12_areYet_7 : decode cX12_areYet 7 = .ok (.ifCond .eq 17, 3) := by decide +kernel
theorem dX12_areYet_10 : decode cX12_areYet 10 = .ok (.iload_n 1, 1) := by decide +kernel
theorem dX12_areYet_11 : decode cX12_areYet 11 = .ok (.iconst 0, 1) := by decide +kernel
theorem dX12_areYet_12 : decode cX12_areYet 12 = .ok (.bipush 15, 2) := by decide +kernel
theorem dX12_areYet_14 : decode cX12_areYet 14 = .ok (.invokestatic 87, 3) := by decide +kernel
theorem dX12_areYet_17 : decode cX12_areYet 17 = .ok (.ifCond .eq 7, 3) := by decide +kernel
theorem dX12_areYet_20 : decode cX12_areYet 20 = .ok (.iconst 1, 1) := by decide +kernel
theorem dX12_areYet_21 : decode cX12_areYet 21 = .ok (.goto 4, 3) := by decide +kernel
theorem dX12_areYet_24 : decode cX12_areYet 24 = .ok (.iconst 0, 1) := by decide +kernel
theorem dX12_areYet_25 : decode cX12_areYet 25 = .ok (.ireturn, 1) := by decide +kernel
theorem dX12_from_0 : decode cX12_from 0 = .ok (.iload_n 1, 1) := by decide +kernel
theorem dX12_from_1 : decode cX12_from 1 = .ok (.iconst 0, 1) := by decide +kernel
theorem dX12_from_2 : decode cX12_from 2 = .ok (.aload_n 0, 1) := by decide +kernel
theorem dX12_from_3 : decode cX12_from 3 = .ok (.getfield 156, 3) := by decide +kernel
theorem dX12_from_6 : decode cX12_from 6 = .ok (.invokestatic 87, 3) := by decide +kernel
theorem dX12_from_9 : decode cX12_from 9 = .ok (.ifCond .eq 11, 3) := by decide +kernel
theorem dX12_from_12 : decode cX12_from 12 = .ok (.iload_n 2, 1) := by decide +kernel
theorem dX12_from_13 : decode cX12_from 13 = .ok (.iload_n 3, 1) := by decide +kernel
theorem dX12_from_14 : decode cX12_from 14 = .ok (.invokestatic 304, 3) := by decide +kernel
theorem dX12_from_17 : decode cX12_from 17 = .ok (.ifCond .ne 5, 3) := by decide +kernel
theorem dX12_from_20 : decode cX12_from 20 = .ok (.iconst (-1), 1) := by decide +kernel
theorem dX12_from_21 : decode cX12_from 21 = .ok (.ireturn, 1) := by decide +kernel
theorem dX12_from_22 : decode cX12_from 22 = .ok (.aload_n 0, 1) := by decide +kernel
theorem dX12_from_23 : decode cX12_from 23 = .ok (.invokevirtual 301, 3) := by decide +kernel
theorem dX12_from_26 : decode cX12_from 26 = .ok (.aload_n 0, 1) := by decide +kernel
theorem dX12_from_27 : decode cX12_from 27 = .ok (.aload_n 0, 1) := by decide +kernel
theorem dX12_from_28 : decode cX12_from 28 = .ok (.iload_n 1, 1) := by decide +kernel
theorem dX12_from_29 : decode cX12_from 29 = .ok (.iload_n 2, 1) := by decide +kernel
theorem dX12_from_30 : decode cX12_from 30 = .ok (.iload_n 3, 1) := by decide +kernel
theorem dX12_from_31 : decode cX12_from 31 = .ok (.invokevirtual 286, 3) := by decide +kernel
theorem dX12_from_34 : decode cX12_from 34 = .ok (.iconst 1, 1) := by decide +kernel
theorem dX12_from_35 : decode cX12_from 35 = .ok (.invokevirtual 113, 3) := by decide +kernel
theorem dX12_from_38 : decode cX12_from 38 = .ok (.ireturn, 1) := by decide +kernel
theorem q_1405 : Cond.constant RX12 274 1000000 ∈ wT := wi_t 1405 (by decide +kernel) (by decide +kernel)
theorem q_1397 : Cond.methodLink RX12 275 yX12_askedMixed ∈ wT := wi_t 1397 (by decide +kernel) (by decide +kernel)
theorem q_1400 : Cond.code yX12_askedMixed cX12_askedMixed 3 (some .int) ∈ wT := wi_t 1400 (by decide +kernel) (by decide +kernel)
theorem q_1399 : Cond.instanceMethod yX12_askedMixed ∈ wT := wi_t 1399 (by decide +kernel) (by decide +kernel)
theorem qs_71 : Cond.selects RX12 yX12_askedMixed yX12_askedMixed ∈ wT := wi_s (q := (yX12_askedMixed, 42)) 71 (by decide +kernel) (by decide +kernel)
theorem q_1401 : Cond.methodLink RX12 278 yX12_mixedOf ∈ wT := wi_t 1401 (by decide +kernel) (by decide +kernel)
theorem q_1404 : Cond.code yX12_mixedOf cX12_mixedOf 7 (some .int) ∈ wT := wi_t 1404 (by decide +kernel) (by decide +kernel)
theorem q_1403 : Cond.instanceMethod yX12_mixedOf ∈ wT := wi_t 1403 (by decide +kernel) (by decide +kernel)
theorem qs_72 : Cond.selects RX12 yX12_mixedOf yX12_mixedOf ∈ wT := wi_s (q := (yX12_mixedOf, 42)) 72 (by decide +kernel) (by decide +kernel)
theorem q_1410 : Cond.constantLong RX12 281 12 ∈ wT := wi_t 1410 (by decide +kernel) (by decide +kernel)
theorem q_1048 : Cond.fieldLink RX12 59 "HeavyFilesModel" "turn" "[I" ∈ wT := wi_t 1048 (by decide +kernel) (by decide +kernel)
theorem q_1049 : Cond.fieldLink RX12 289 "HeavyFilesModel" "bestAnswer" "I" ∈ wT := wi_t 1049 (by decide +kernel) (by decide +kernel)
theorem q_1427 : Cond.methodLink RX12 283 yX12_gives ∈ wT := wi_t 1427 (by decide +kernel) (by decide +kernel)
theorem q_1430 : Cond.code yX12_gives cX12_gives 7 (some .int) ∈ wT := wi_t 1430 (by decide +kernel) (by decide +kernel)
theorem q_1429 : Cond.instanceMethod yX12_gives ∈ wT := wi_t 1429 (by decide +kernel) (by decide +kernel)
theorem qs_76 : Cond.selects RX12 yX12_gives yX12_gives ∈ wT := wi_s (q := (yX12_gives, 42)) 76 (by decide +kernel) (by decide +kernel)
theorem q_1431 : Cond.methodLink RX12 286 yX12_turnAt ∈ wT := wi_t 1431 (by decide +kernel) (by decide +kernel)
theorem q_1434 : Cond.code yX12_turnAt cX12_turnAt 4 (some .int) ∈ wT := wi_t 1434 (by decide +kernel) (by decide +kernel)
theorem q_1433 : Cond.instanceMethod yX12_turnAt ∈ wT := wi_t 1433 (by decide +kernel) (by decide +kernel)
theorem qs_77 : Cond.selects RX12 yX12_turnAt yX12_turnAt ∈ wT := wi_s (q := (yX12_turnAt, 42)) 77 (by decide +kernel) (by decide +kernel)
theorem q_1050 : Cond.fieldLink RX12 295 "HeavyFilesModel" "bestTurn" "I" ∈ wT := wi_t 1050 (by decide +kernel) (by decide +kernel)
theorem q_1423 : Cond.methodLink RX12 292 yX12_answered ∈ wT := wi_t 1423 (by decide +kernel) (by decide +kernel)
theorem q_1426 : Cond.code yX12_answered cX12_answered 8 (some .int) ∈ wT := wi_t 1426 (by decide +kernel) (by decide +kernel)
theorem q_1425 : Cond.instanceMethod yX12_answered ∈ wT := wi_t 1425 (by decide +kernel) (by decide +kernel)
theorem qs_75 : Cond.selects RX12 yX12_answered yX12_answered ∈ wT := wi_s (q := (yX12_answered, 42)) 75 (by decide +kernel) (by decide +kernel)
theorem q_1419 : Cond.methodLink RX12 298 yX12_laidIn ∈ wT := wi_t 1419 (by decide +kernel) (by decide +kernel)
theorem q_1422 : Cond.code yX12_laidIn cX12_laidIn 7 (some .int) ∈ wT := wi_t 1422 (by decide +kernel) (by decide +kernel)
theorem q_1421 : Cond.instanceMethod yX12_laidIn ∈ wT := wi_t 1421 (by decide +kernel) (by decide +kernel)
theorem qs_74 : Cond.selects RX12 yX12_laidIn yX12_laidIn ∈ wT := wi_s (q := (yX12_laidIn, 42)) 74 (by decide +kernel) (by decide +kernel)
theorem q_1415 : Cond.methodLink RX12 301 yX12_setTurns ∈ wT := wi_t 1415 (by decide +kernel) (by decide +kernel)
theorem q_1418 : Cond.code yX12_setTurns cX12_setTurns 4 none ∈ wT := wi_t 1418 (by decide +kernel) (by decide +kernel)
theorem q_1417 : Cond.instanceMethod yX12_setTurns ∈ wT := wi_t 1417 (by decide +kernel) (by decide +kernel)
theorem qs_73 : Cond.selects RX12 yX12_setTurns yX12_setTurns ∈ wT := wi_s (q := (yX12_setTurns, 42)) 73 (by decide +kernel) (by decide +kernel)
theorem q_1439 : Cond.methodLink RX12 304 yX12_areYet ∈ wT := wi_t 1439 (by decide +kernel) (by decide +kernel)
theorem q_1441 : Cond.code yX12_areYet cX12_areYet 2 (some .boolean) ∈ wT := wi_t 1441 (by decide +kernel) (by decide +kernel)
theorem q_1440 : Cond.static yX12_areYet ∈ wT := wi_t 1440 (by decide +kernel) (by decide +kernel)
theorem kvX12_askedMixed : KV yX12_askedMixed RX12 cX12_askedMixed 3 (some .int) 2 := ⟨q_1399, qs_71, q_13, q_1400, rfl, by decide +kernel, by decide +kernel, by decide +kernel⟩
theorem kvX12_mixedOf : KV yX12_mixedOf RX12 cX12_mixedOf 7 (some .int) 4 := ⟨q_1403, qs_72, q_13, q_1404, rfl, by decide +kernel, by decide +kernel, by decide +kernel⟩
theorem kvX12_gives : KV yX12_gives RX12 cX12_gives 7 (some .int) 3 := ⟨q_1429, qs_76, q_13, q_1430, rfl, by decide +kernel, by decide +kernel, by decide +kernel⟩
theorem kvX12_turnAt : KV yX12_turnAt RX12 cX12_turnAt 4 (some .int) 3 := ⟨q_1433, qs_77, q_13, q_1434, rfl, by decide +kernel, by decide +kernel, by decide +kernel⟩
theorem kvX12_answered : KV yX12_answered RX12 cX12_answered 8 (some .int) 4 := ⟨q_1425, qs_75, q_13, q_1426, rfl, by decide +kernel, by decide +kernel, by decide +kernel⟩
theorem kvX12_laidIn : KV yX12_laidIn RX12 cX12_laidIn 7 (some .int) 3 := ⟨q_1421, qs_74, q_13, q_1422, rfl, by decide +kernel, by decide +kernel, by decide +kernel⟩
theorem kvX12_setTurns : KV yX12_setTurns RX12 cX12_setTurns 4 none 0 := ⟨q_1417, qs_73, q_13, q_1418, rfl, by decide +kernel, by decide +kernel, by decide +kernel⟩
theorem kvX12_areYet : KS yX12_areYet cX12_areYet 2 (some .boolean) 2 := ⟨q_1440, q_13, q_1441, by decide +kernel, by decide +kernel, by decide +kernel⟩
/-! HeavyFilesModel.mixedOf(IIII)I -/
def fX12_mixedOf_72 (N : Nat) (k9 : Nat → Int32 → Int32 → Int32 → Int32 → Int32 → Mm → Option (Int32 × Mm)) (a0 : Nat) (a1 : Int32) (a2 : Int32) (a3 : Int32) (a4 : Int32) (s0 : Int32) (mm : Mm) : Option (Int32 × Mm) :=
  gd (inb 1 (ln (fr a0 12))) <| bd2 (fX12_nextStep N a0 (rd mm (fr a0 12) ((1 : Int32).toNatClampNeg)) mm) fun x2 m3 => if x2 = 0 then (some (s0, m3)) else (k9 a0 a1 a2 a3 a4 s0 m3)
def fX12_mixedOf_9 (N : Nat)  : Nat → Nat → Int32 → Int32 → Int32 → Int32 → Int32 → Mm → Option (Int32 × Mm)
  | 0 => fun _ _ _ _ _ _ _ => none
  | n + 1 => fun a0 a1 a2 a3 a4 a5 mm =>
    let k9 := fX12_mixedOf_9 N  n
    bd2 (fX12_stepFor N a0 1 mm) fun x6 m7 => bd2 (fX12_takes N a0 a1 0 m7) fun x9 m10 => bd2 (fX12_setWinners N a0 m10) fun x12 m13 => bd2 (fX12_scoreOf N a0 0 m13) fun x15 m16 => bd2 (fX12_takes N a0 a2 0 m16) fun x18 m19 => bd2 (fX12_setWinners N a0 m19) fun x21 m22 => bd2 (fX12_scoreOf N a0 0 m22) fun x24 m25 => nm ((a3 * x15) + ((a4 - a3) * x24)) fun x27 => if a5 ≤ x27 then (fX12_mixedOf_72 N k9 a0 a1 a2 a3 a4 a5 m25) else (fX12_mixedOf_72 N k9 a0 a1 a2 a3 a4 x27 m25)
def fX12_mixedOf (N : Nat)  (a0 : Nat) (a1 : Int32) (a2 : Int32) (a3 : Int32) (a4 : Int32) (mm : Mm) : Option (Int32 × Mm) :=
  bd2 (fX12_firstStep N a0 mm) fun x29 m30 => fX12_mixedOf_9 N N a0 a1 a2 a3 a4 1000000 m30
abbrev rmX12_mixedOf : Room := { frames := 5, cells := 0, slots := 0, locals := 165 }
/-! HeavyFilesModel.mixed(IIII)I -/
def fX12_mixed (N : Nat)  (a0 : Nat) (a1 : Int32) (a2 : Int32) (a3 : Int32) (a4 : Int32) (mm : Mm) : Option (Int32 × Mm) :=
  bd2 (fX12_isRow N a1 mm) fun x1 m2 => if x1 = 0 then (some ((-1), m2)) else (bd2 (fX12_isRow N a2 m2) fun x5 m6 => if x5 = 0 then (some ((-1), m6)) else (bd2 (fX12_in N a4 1 99 m6) fun x9 m10 => if x9 = 0 then (some ((-1), m10)) else (bd2 (fX12_in N a3 0 a4 m10) fun x13 m14 => if x13 = 0 then (some ((-1), m14)) else (bd2 (fX12_askedMixed N a0 a1 a2 m14) fun x17 m18 => if (0 : Int32) ≤ x17 then (bd2 (fX12_mixedOf N a0 a1 a2 a3 a4 m18) fun x21 m22 => bd2 (fX12_part N a0 x21.toInt64 a4.toInt64 1 m22) fun x24 m25 => some (x24, m25)) else (some (x17, m18))))))
abbrev rmX12_mixed : Room := { frames := 6, cells := 0, slots := 0, locals := 199 }
/-! HeavyFilesModel.mix(II)I -/
def fX12_mix_87 (N : Nat) (k38 : Nat → Int32 → Int32 → Int32 → Int32 → Int32 → Mm → Option (Int32 × Mm)) (a0 : Nat) (a1 : Int32) (a2 : Int32) (a4 : Int32) (a6 : Int32) (s0 : Int32) (mm : Mm) : Option (Int32 × Mm) :=
  k38 a0 a1 a2 a4 s0 (a6 + 1) mm
def fX12_mix_71 (N : Nat) (k38 : Nat → Int32 → Int32 → Int32 → Int32 → Int32 → Mm → Option (Int32 × Mm)) (a0 : Nat) (a1 : Int32) (a2 : Int32) (a5 : Int32) (a6 : Int32) (a7 : Int32) (s0 : Int32) (mm : Mm) : Option (Int32 × Mm) :=
  if a7 ≤ a5 then (fX12_mix_87 N k38 a0 a1 a2 s0 a6 a5 mm) else (fX12_mix_87 N k38 a0 a1 a2 s0 a6 a7 mm)
def fX12_mix_38 (N : Nat)  : Nat → Nat → Int32 → Int32 → Int32 → Int32 → Int32 → Mm → Option (Int32 × Mm)
  | 0 => fun _ _ _ _ _ _ _ => none
  | n + 1 => fun a0 a1 a2 a4 a5 a6 mm =>
    let k38 := fX12_mix_38 N  n
    if (12 : Int32) < a6 then (bd2 (fX12_part N a0 a5.toInt64 12 a4 mm) fun x3 m4 => some (x3, m4)) else (bd2 (fX12_mixedOf N a0 a1 a2 a6 12 mm) fun x6 m7 => if x6 ≤ a5 then (fX12_mix_71 N k38 a0 a1 a2 a5 a6 x6 a4 m7) else (fX12_mix_71 N k38 a0 a1 a2 a5 a6 x6 a6 m7))
def fX12_mix (N : Nat)  (a0 : Nat) (a1 : Int32) (a2 : Int32) (mm : Mm) : Option (Int32 × Mm) :=
  bd2 (fX12_isRow N a1 mm) fun x10 m11 => if x10 = 0 then (some ((-1), m11)) else (bd2 (fX12_isRow N a2 m11) fun x14 m15 => if x14 = 0 then (some ((-1), m15)) else (bd2 (fX12_askedMixed N a0 a1 a2 m15) fun x18 m19 => if (0 : Int32) ≤ x18 then (fX12_mix_38 N N a0 a1 a2 0 (-1) 0 m19) else (some (x18, m19))))
abbrev rmX12_mix : Room := { frames := 6, cells := 0, slots := 0, locals := 199 }
/-! HeavyFilesModel.turnAt(III)I -/
def fX12_turnAt (N : Nat)  (a0 : Nat) (a1 : Int32) (a2 : Int32) (a3 : Int32) (mm : Mm) : Option (Int32 × Mm) :=
  gd (inb (((256 * a1) + (16 * a2)) + a3) (ln (fr a0 32))) <| some (rd mm (fr a0 32) ((((256 * a1) + (16 * a2)) + a3).toNatClampNeg), mm)
abbrev rmX12_turnAt : Room := { frames := 1, cells := 0, slots := 0, locals := 40 }
/-! HeavyFilesModel.gives(III)I -/
def fX12_gives_106 (N : Nat)  (a6 : Int32) (s0 : Int32) (s1 : Int32) (mm : Mm) : Option (Int32 × Mm) :=
  if s0 = s1 then (some (a6, mm)) else (some (-a6, mm))
def fX12_gives_91 (N : Nat)  (a0 : Nat) (a1 : Int32) (a6 : Int32) (s0 : Int32) (mm : Mm) : Option (Int32 × Mm) :=
  bd2 (fX12_of N a0 a1 0 mm) fun x2 m3 => if x2 = 2 then (fX12_gives_106 N a6 s0 0 m3) else (fX12_gives_106 N a6 s0 1 m3)
def fX12_gives_44 (N : Nat)  (a0 : Nat) (a1 : Int32) (a4 : Int32) (s0 : Int32) (mm : Mm) : Option (Int32 × Mm) :=
  bd2 (fX12_of N a0 a1 1 mm) fun x6 m7 => if a4 = s0 then (bd2 (fX12_isA N a0 a1 1 m7) fun x11 m12 => if x11 = 0 then (some (0, m12)) else (some (2 * x6, m12))) else (if a4 ≤ s0 then (fX12_gives_91 N a0 a1 (2 * x6) 0 m7) else (fX12_gives_91 N a0 a1 (2 * x6) 1 m7))
def fX12_gives_21 (N : Nat)  (a0 : Nat) (a1 : Int32) (a3 : Int32) (s0 : Int32) (mm : Mm) : Option (Int32 × Mm) :=
  bd2 (fX12_of N a0 a1 0 mm) fun x15 m16 => if x15 = 5 then (fX12_gives_44 N a0 a1 s0 a3 m16) else (bd2 (fX12_weight N a0 a1 1 a3 m16) fun x19 m20 => fX12_gives_44 N a0 a1 s0 x19 m20)
def fX12_gives (N : Nat)  (a0 : Nat) (a1 : Int32) (a2 : Int32) (a3 : Int32) (mm : Mm) : Option (Int32 × Mm) :=
  bd2 (fX12_of N a0 a1 0 mm) fun x22 m23 => if x22 = 5 then (fX12_gives_21 N a0 a1 a3 a2 m23) else (bd2 (fX12_weight N a0 a1 0 a2 m23) fun x26 m27 => fX12_gives_21 N a0 a1 a3 x26 m27)
abbrev rmX12_gives : Room := { frames := 3, cells := 0, slots := 0, locals := 103 }
/-! HeavyFilesModel.answered(IIII)I -/
def fX12_answered_75 (N : Nat) (k8 : Nat → Int32 → Int32 → Int32 → Int32 → Int32 → Int32 → Mm → Option (Int32 × Mm)) (a0 : Nat) (a1 : Int32) (a2 : Int32) (a3 : Int32) (a4 : Int32) (a6 : Int32) (s0 : Int32) (mm : Mm) : Option (Int32 × Mm) :=
  k8 a0 a1 a2 a3 a4 s0 (a6 + 1) mm
def fX12_answered_58 (N : Nat) (k8 : Nat → Int32 → Int32 → Int32 → Int32 → Int32 → Int32 → Mm → Option (Int32 × Mm)) (a0 : Nat) (a1 : Int32) (a2 : Int32) (a3 : Int32) (a4 : Int32) (a5 : Int32) (a6 : Int32) (a7 : Int32) (s0 : Nat) (s1 : Int32) (mm : Mm) : Option (Int32 × Mm) :=
  nm (wr mm s0 33 s1) fun m1 => if a5 ≤ a7 then (fX12_answered_75 N k8 a0 a1 a2 a3 a4 a6 a5 m1) else (fX12_answered_75 N k8 a0 a1 a2 a3 a4 a6 a7 m1)
def fX12_answered_8 (N : Nat)  : Nat → Nat → Int32 → Int32 → Int32 → Int32 → Int32 → Int32 → Mm → Option (Int32 × Mm)
  | 0 => fun _ _ _ _ _ _ _ _ => none
  | n + 1 => fun a0 a1 a2 a3 a4 a5 a6 mm =>
    let k8 := fX12_answered_8 N  n
    if a3 < a6 then (some (a5, mm)) else (bd2 (fX12_gives N a0 a1 a4 a6 mm) fun x4 m5 => bd2 (fX12_turnAt N a0 (a1 + 1) (a2 - a4) (a3 - a6) m5) fun x7 m8 => if a5 ≤ (x4 + x7) then (fX12_answered_58 N k8 a0 a1 a2 a3 a4 a5 a6 (x4 + x7) a0 (rd m8 a0 33) m8) else (fX12_answered_58 N k8 a0 a1 a2 a3 a4 a5 a6 (x4 + x7) a0 a6 m8))
def fX12_answered (N : Nat)  (a0 : Nat) (a1 : Int32) (a2 : Int32) (a3 : Int32) (a4 : Int32) (mm : Mm) : Option (Int32 × Mm) :=
  fX12_answered_8 N N a0 a1 a2 a3 a4 1000 0 mm
abbrev rmX12_answered : Room := { frames := 4, cells := 0, slots := 0, locals := 137 }
/-! HeavyFilesModel.laidIn(III)I -/
def fX12_laidIn_59 (N : Nat) (k8 : Nat → Int32 → Int32 → Int32 → Int32 → Int32 → Mm → Option (Int32 × Mm)) (a0 : Nat) (a1 : Int32) (a2 : Int32) (a3 : Int32) (a5 : Int32) (s0 : Int32) (mm : Mm) : Option (Int32 × Mm) :=
  k8 a0 a1 a2 a3 s0 (a5 + 1) mm
def fX12_laidIn_42 (N : Nat) (k8 : Nat → Int32 → Int32 → Int32 → Int32 → Int32 → Mm → Option (Int32 × Mm)) (a0 : Nat) (a1 : Int32) (a2 : Int32) (a3 : Int32) (a4 : Int32) (a5 : Int32) (a6 : Int32) (s0 : Nat) (s1 : Int32) (mm : Mm) : Option (Int32 × Mm) :=
  nm (wr mm s0 34 s1) fun m1 => if a6 ≤ a4 then (fX12_laidIn_59 N k8 a0 a1 a2 a3 a5 a4 m1) else (fX12_laidIn_59 N k8 a0 a1 a2 a3 a5 a6 m1)
def fX12_laidIn_8 (N : Nat)  : Nat → Nat → Int32 → Int32 → Int32 → Int32 → Int32 → Mm → Option (Int32 × Mm)
  | 0 => fun _ _ _ _ _ _ _ => none
  | n + 1 => fun a0 a1 a2 a3 a4 a5 mm =>
    let k8 := fX12_laidIn_8 N  n
    if a2 < a5 then (some (a4, mm)) else (bd2 (fX12_answered N a0 a1 a2 a3 a5 mm) fun x4 m5 => if x4 ≤ a4 then (fX12_laidIn_42 N k8 a0 a1 a2 a3 a4 a5 x4 a0 (rd m5 a0 34) m5) else (fX12_laidIn_42 N k8 a0 a1 a2 a3 a4 a5 x4 a0 a5 m5))
def fX12_laidIn (N : Nat)  (a0 : Nat) (a1 : Int32) (a2 : Int32) (a3 : Int32) (mm : Mm) : Option (Int32 × Mm) :=
  fX12_laidIn_8 N N a0 a1 a2 a3 (-1000) 0 mm
abbrev rmX12_laidIn : Room := { frames := 5, cells := 0, slots := 0, locals := 172 }
/-! HeavyFilesModel.setTurns()V -/
def fX12_setTurns_52 (N : Nat) (k38 : Nat → Int32 → Mm → Option (Unit × Mm)) (k44 : Nat → Int32 → Int32 → Mm → Option (Unit × Mm)) : Nat → Nat → Int32 → Int32 → Int32 → Mm → Option (Unit × Mm)
  | 0 => fun _ _ _ _ _ => none
  | n + 1 => fun a0 a1 a2 a3 mm =>
    let k52 := fX12_setTurns_52 N k38 k44 n
    if (15 : Int32) < a3 then (k44 a0 a1 (a2 + 1) mm) else (bd2 (fX12_laidIn N a0 a1 a2 a3 mm) fun x2 m3 => gd (inb (((256 * a1) + (16 * a2)) + a3) (ln (fr a0 32))) <| nm (wr m3 (fr a0 32) (((256 * a1) + (16 * a2)) + a3).toNatClampNeg x2) fun m6 => k52 a0 a1 a2 (a3 + 1) m6)
def fX12_setTurns_44 (N : Nat) (k38 : Nat → Int32 → Mm → Option (Unit × Mm)) : Nat → Nat → Int32 → Int32 → Mm → Option (Unit × Mm)
  | 0 => fun _ _ _ _ => none
  | n + 1 => fun a0 a1 a2 mm =>
    let k44 := fX12_setTurns_44 N k38 n
    if (15 : Int32) < a2 then (k38 a0 (a1 + (-1)) mm) else (fX12_setTurns_52 N k38 k44 N a0 a1 a2 0 mm)
def fX12_setTurns_38 (N : Nat)  : Nat → Nat → Int32 → Mm → Option (Unit × Mm)
  | 0 => fun _ _ _ => none
  | n + 1 => fun a0 a1 mm =>
    let k38 := fX12_setTurns_38 N  n
    if a1 < 0 then (some ((), mm)) else (fX12_setTurns_44 N k38 N a0 a1 0 mm)
def fX12_setTurns_2 (N : Nat)  : Nat → Nat → Int32 → Mm → Option (Unit × Mm)
  | 0 => fun _ _ _ => none
  | n + 1 => fun a0 a1 mm =>
    let k2 := fX12_setTurns_2 N  n
    if (256 : Int32) ≤ a1 then (fX12_setTurns_38 N N a0 ((rd mm a0 10) - 1) mm) else (gd (inb ((256 * (rd mm a0 10)) + a1) (ln (fr a0 32))) <| nm (wr mm (fr a0 32) ((256 * (rd mm a0 10)) + a1).toNatClampNeg 0) fun m11 => k2 a0 (a1 + 1) m11)
def fX12_setTurns (N : Nat)  (a0 : Nat) (mm : Mm) : Option (Unit × Mm) :=
  fX12_setTurns_2 N N a0 0 mm
abbrev rmX12_setTurns : Room := { frames := 6, cells := 0, slots := 0, locals := 206 }
/-! HeavyFilesModel.turns()I -/
def fX12_turns (N : Nat)  (a0 : Nat) (mm : Mm) : Option (Int32 × Mm) :=
  gd (inb 0 (ln (fr a0 12))) <| if (15 : Int32) < (rd mm (fr a0 12) ((0 : Int32).toNatClampNeg)) then (some ((-6), mm)) else (gd (inb 1 (ln (fr a0 12))) <| if (rd mm (fr a0 12) ((1 : Int32).toNatClampNeg)) ≤ 15 then (if (rd mm a0 10) = 0 then (some ((-9), mm)) else (bd2 (fX12_setTurns N a0 mm) fun x6 m7 => gd (inb 0 (ln (fr a0 12))) <| gd (inb 1 (ln (fr a0 12))) <| bd2 (fX12_laidIn N a0 0 (rd m7 (fr a0 12) ((0 : Int32).toNatClampNeg)) (rd m7 (fr a0 12) ((1 : Int32).toNatClampNeg)) m7) fun x11 m12 => bd2 (fX12_ask N a0 x11 (rd m12 a0 34) m12) fun x14 m15 => some (x14, m15))) else (some ((-6), mm)))
abbrev rmX12_turns : Room := { frames := 7, cells := 0, slots := 0, locals := 237 }
/-! HeavyFilesModel.areYet(II)Z -/
def fX12_areYet (N : Nat)  (a0 : Int32) (a1 : Int32) (mm : Mm) : Option (Int32 × Mm) :=
  bd2 (fX12_in N a0 0 15 mm) fun x1 m2 => if x1 = 0 then (some (0, m2)) else (bd2 (fX12_in N a1 0 15 m2) fun x5 m6 => if x5 = 0 then (some (0, m6)) else (some (1, m6)))
abbrev rmX12_areYet : Room := { frames := 2, cells := 0, slots := 0, locals := 70 }
/-! HeavyFilesModel.from(III)I -/
def fX12_from (N : Nat)  (a0 : Nat) (a1 : Int32) (a2 : Int32) (a3 : Int32) (mm : Mm) : Option (Int32 × Mm) :=
  bd2 (fX12_in N a1 0 (rd mm a0 10) mm) fun x1 m2 => if x1 = 0 then (some ((-1), m2)) else (bd2 (fX12_areYet N a2 a3 m2) fun x5 m6 => if x5 = 0 then (some ((-1), m6)) else (bd2 (fX12_setTurns N a0 m6) fun x9 m10 => bd2 (fX12_turnAt N a0 a1 a2 a3 m10) fun x12 m13 => bd2 (fX12_ask N a0 x12 1 m13) fun x15 m16 => some (x15, m16)))
abbrev rmX12_from : Room := { frames := 7, cells := 0, slots := 0, locals := 237 }
section W_model25
variable {p : Program} {l : Launch} {e : Env} {s : State} {m : MethodId} {args : Array Value} {below : List Frame} {meth : Method} {c : Code} {D : va_G} {ca ad : Nat → Nat}
set_option maxRecDepth 100000 in
set_option maxHeartbeats 4000000 in
theorem wX12_mixedOf_72 (C : Cx p s m meth c args cX12_mixedOf 7 (some .int) RX12 D ca ad) {res : Int32 × Mm} {N : Nat} {k9 : Nat → Int32 → Int32 → Int32 → Int32 → Int32 → Mm → Option (Int32 × Mm)} (hk9 : ∀ (a0 : Nat) (a1 : Int32) (a2 : Int32) (a3 : Int32) (a4 : Int32) (a5 : Int32) (mm : Mm) (H : Heap) (locs : List Loc) (ls : Array Slot), (sX12 a0) → Wd D ca ad s.heap mm H locs → lv_has ls 7 [(0, .ref (ad a0)), (1, .int a1), (2, .int a2), (3, .int a3), (4, .int a4), (5, .int a5)] → k9 a0 a1 a2 a3 a4 a5 mm = some res → W p l e (rmX12_mixedOf) s m args below meth c H locs 0 0 (MQ below (QI D ca ad res) args s 0 0 (AA ad)) (F0 m 9 ls [])) {a0 : Nat} {a1 : Int32} {a2 : Int32} {a3 : Int32} {a4 : Int32} {s0 : Int32} {mm : Mm} {H : Heap} {locs : List Loc} {ls : Array Slot} (ha0 : sX12 a0) (hW : Wd D ca ad s.heap mm H locs) (hl : lv_has ls 7 [(0, .ref (ad a0)), (1, .int a1), (2, .int a2), (3, .int a3), (4, .int a4)]) (hf : fX12_mixedOf_72 N k9 a0 a1 a2 a3 a4 s0 mm = some res) : W p l e (rmX12_mixedOf) s m args below meth c H locs 0 0 (MQ below (QI D ca ad res) args s 0 0 (AA ad)) (F0 m 72 ls [.int s0]) := by
  unfold fX12_mixedOf_72 at hf
  refine lv_istore (lv' := [(5, .int s0), (0, .ref (ad a0)), (1, .int a1), (2, .int a2), (3, .int a3), (4, .int a4)]) C.1 C.2.1 dX12_mixedOf_72 hl (by decide) rfl (fun ls hl => ?_)
  refine lv_aload_n C.1 C.2.1 dX12_mixedOf_74 rfl (lv_at hl 1 rfl) ?_
  refine lv_aload_n C.1 C.2.1 dX12_mixedOf_75 rfl (lv_at hl 1 rfl) ?_
  refine x_getr C hW (ha0).1 (ha0).2.1 (j := 12) rfl kX12 (by decide) rfl q_1028 dX12_mixedOf_76 ?_
  refine lv_iconst (v := 1) C.1 C.2.1 dX12_mixedOf_79 (by decide) ?_
  obtain ⟨g1, hf⟩ := gd_s hf
  refine x_iald C hW ha0.2.2.2.2.2.2.2.2.2.1 g1 dX12_mixedOf_80 ?_
  obtain ⟨x2, m3, r4, hf⟩ := bd2_s hf
  refine x_ci hW (x_runV C hW [.int (rd mm (fr a0 12) ((1 : Int32).toNatClampNeg))] [] (ha0).1 (ha0).2.1 kX12.1 kvX12_nextStep q_1369 (tX12_nextStep l C.2.2.2.2.2.2.1 ha0 r4) rfl rfl ⟨by decide, by decide⟩ rfl hl.1 rfl (Nat.le_of_ble_eq_true rfl) dX12_mixedOf_81) (fun H locs hW => ?_)
  refine lv_if_ne (tgt := 9) C.1 C.2.1 dX12_mixedOf_84 (by decide) (fun c5 => ?_) (fun c5 => ?_)
  · have hf := if_f c5 hf
    exact hk9 _ _ _ _ _ _ _ _ _ _ ha0 hW (lv_sub hl [1, 2, 3, 4, 5, 0] rfl) hf
  · have hf := if_t c5 hf
    refine lv_iload C.1 C.2.1 dX12_mixedOf_87 (lv_at hl 0 rfl) ?_
    cases hf
    exact x_iret C hW dX12_mixedOf_89
set_option maxRecDepth 100000 in
set_option maxHeartbeats 4000000 in
theorem wX12_mixedOf_9 (C : Cx p s m meth c args cX12_mixedOf 7 (some .int) RX12 D ca ad) {res : Int32 × Mm} {N : Nat}  : ∀ (n : Nat) {a0 : Nat} {a1 : Int32} {a2 : Int32} {a3 : Int32} {a4 : Int32} {a5 : Int32} {mm : Mm} {H : Heap} {locs : List Loc} {ls : Array Slot}, (sX12 a0) → Wd D ca ad s.heap mm H locs → lv_has ls 7 [(0, .ref (ad a0)), (1, .int a1), (2, .int a2), (3, .int a3), (4, .int a4), (5, .int a5)] → fX12_mixedOf_9 N n a0 a1 a2 a3 a4 a5 mm = some res → W p l e (rmX12_mixedOf) s m args below meth c H locs 0 0 (MQ below (QI D ca ad res) args s 0 0 (AA ad)) (F0 m 9 ls []) := by
  intro n
  induction n with
  | zero => intro a0 a1 a2 a3 a4 a5 mm H locs ls ha0 hW hl hf; cases hf
  | succ n ih =>
    intro a0 a1 a2 a3 a4 a5 mm H locs ls ha0 hW hl hf
    have hk9 : ∀ (a0 : Nat) (a1 : Int32) (a2 : Int32) (a3 : Int32) (a4 : Int32) (a5 : Int32) (mm : Mm) (H : Heap) (locs : List Loc) (ls : Array Slot), (sX12 a0) → Wd D ca ad s.heap mm H locs → lv_has ls 7 [(0, .ref (ad a0)), (1, .int a1), (2, .int a2), (3, .int a3), (4, .int a4), (5, .int a5)] → (fX12_mixedOf_9 N n) a0 a1 a2 a3 a4 a5 mm = some res → W p l e (rmX12_mixedOf) s m args below meth c H locs 0 0 (MQ below (QI D ca ad res) args s 0 0 (AA ad)) (F0 m 9 ls []) := fun a0 a1 a2 a3 a4 a5 mm H locs ls ha0 hW hl hf => ih ha0 hW hl hf
    unfold fX12_mixedOf_9 at hf
    try dsimp only at hf
    refine lv_aload_n C.1 C.2.1 dX12_mixedOf_9 rfl (lv_at hl 0 rfl) ?_
    refine lv_iconst (v := 1) C.1 C.2.1 dX12_mixedOf_10 (by decide) ?_
    obtain ⟨x6, m7, r8, hf⟩ := bd2_s hf
    refine x_cv hW (x_runV C hW [.int 1] [] (ha0).1 (ha0).2.1 kX12.1 kvX12_stepFor q_1365 (tX12_stepFor l C.2.2.2.2.2.2.1 ha0 r8) rfl rfl ⟨by decide, by decide⟩ rfl hl.1 rfl (Nat.le_of_ble_eq_true rfl) dX12_mixedOf_11) (fun H locs hW => ?_)
    refine lv_aload_n C.1 C.2.1 dX12_mixedOf_14 rfl (lv_at hl 0 rfl) ?_
    refine lv_iload_n C.1 C.2.1 dX12_mixedOf_15 rfl (lv_at hl 1 rfl) ?_
    refine lv_iconst (v := 0) C.1 C.2.1 dX12_mixedOf_16 (by decide) ?_
    obtain ⟨x9, m10, r11, hf⟩ := bd2_s hf
    refine x_cv hW (x_runV C hW [.int a1, .int 0] [] (ha0).1 (ha0).2.1 kX12.1 kvX12_takes q_1288 (tX12_takes l C.2.2.2.2.2.2.1 ha0 r11) rfl rfl ⟨by decide, by decide⟩ rfl hl.1 rfl (Nat.le_of_ble_eq_true rfl) dX12_mixedOf_17) (fun H locs hW => ?_)
    refine lv_aload_n C.1 C.2.1 dX12_mixedOf_20 rfl (lv_at hl 0 rfl) ?_
    obtain ⟨x12, m13, r14, hf⟩ := bd2_s hf
    refine x_cv hW (x_runV C hW [] [] (ha0).1 (ha0).2.1 kX12.1 kvX12_setWinners q_1292 (tX12_setWinners l C.2.2.2.2.2.2.1 ha0 r14) rfl rfl ⟨by decide, by decide⟩ rfl hl.1 rfl (Nat.le_of_ble_eq_true rfl) dX12_mixedOf_21) (fun H locs hW => ?_)
    refine lv_iload_n C.1 C.2.1 dX12_mixedOf_24 rfl (lv_at hl 3 rfl) ?_
    refine lv_aload_n C.1 C.2.1 dX12_mixedOf_25 rfl (lv_at hl 0 rfl) ?_
    refine lv_iconst (v := 0) C.1 C.2.1 dX12_mixedOf_26 (by decide) ?_
    obtain ⟨x15, m16, r17, hf⟩ := bd2_s hf
    refine x_ci hW (x_runV C hW [.int 0] [.int a3] (ha0).1 (ha0).2.1 kX12.1 kvX12_scoreOf q_1304 (tX12_scoreOf l C.2.2.2.2.2.2.1 ha0 r17) rfl rfl ⟨by decide, by decide⟩ rfl hl.1 rfl (Nat.le_of_ble_eq_true rfl) dX12_mixedOf_27) (fun H locs hW => ?_)
    refine lv_imul C.1 C.2.1 dX12_mixedOf_30 ?_
    refine lv_istore (lv' := [(6, .int (a3 * x15)), (0, .ref (ad a0)), (1, .int a1), (2, .int a2), (3, .int a3), (4, .int a4), (5, .int a5)]) C.1 C.2.1 dX12_mixedOf_31 hl (by decide) rfl (fun ls hl => ?_)
    refine lv_aload_n C.1 C.2.1 dX12_mixedOf_33 rfl (lv_at hl 1 rfl) ?_
    refine lv_iload_n C.1 C.2.1 dX12_mixedOf_34 rfl (lv_at hl 3 rfl) ?_
    refine lv_iconst (v := 0) C.1 C.2.1 dX12_mixedOf_35 (by decide) ?_
    obtain ⟨x18, m19, r20, hf⟩ := bd2_s hf
    refine x_cv hW (x_runV C hW [.int a2, .int 0] [] (ha0).1 (ha0).2.1 kX12.1 kvX12_takes q_1288 (tX12_takes l C.2.2.2.2.2.2.1 ha0 r20) rfl rfl ⟨by decide, by decide⟩ rfl hl.1 rfl (Nat.le_of_ble_eq_true rfl) dX12_mixedOf_36) (fun H locs hW => ?_)
    refine lv_aload_n C.1 C.2.1 dX12_mixedOf_39 rfl (lv_at hl 1 rfl) ?_
    obtain ⟨x21, m22, r23, hf⟩ := bd2_s hf
    refine x_cv hW (x_runV C hW [] [] (ha0).1 (ha0).2.1 kX12.1 kvX12_setWinners q_1292 (tX12_setWinners l C.2.2.2.2.2.2.1 ha0 r23) rfl rfl ⟨by decide, by decide⟩ rfl hl.1 rfl (Nat.le_of_ble_eq_true rfl) dX12_mixedOf_40) (fun H locs hW => ?_)
    refine lv_iload C.1 C.2.1 dX12_mixedOf_43 (lv_at hl 0 rfl) ?_
    refine lv_iload C.1 C.2.1 dX12_mixedOf_45 (lv_at hl 5 rfl) ?_
    refine lv_iload_n C.1 C.2.1 dX12_mixedOf_47 rfl (lv_at hl 4 rfl) ?_
    refine lv_isub C.1 C.2.1 dX12_mixedOf_48 ?_
    refine lv_aload_n C.1 C.2.1 dX12_mixedOf_49 rfl (lv_at hl 1 rfl) ?_
    refine lv_iconst (v := 0) C.1 C.2.1 dX12_mixedOf_50 (by decide) ?_
    obtain ⟨x24, m25, r26, hf⟩ := bd2_s hf
    refine x_ci hW (x_runV C hW [.int 0] [.int (a4 - a3), .int (a3 * x15)] (ha0).1 (ha0).2.1 kX12.1 kvX12_scoreOf q_1304 (tX12_scoreOf l C.2.2.2.2.2.2.1 ha0 r26) rfl rfl ⟨by decide, by decide⟩ rfl hl.1 rfl (Nat.le_of_ble_eq_true rfl) dX12_mixedOf_51) (fun H locs hW => ?_)
    refine lv_imul C.1 C.2.1 dX12_mixedOf_54 ?_
    refine lv_iadd C.1 C.2.1 dX12_mixedOf_55 ?_
    refine lv_topi (fun x27 ex27 => ?_)
    have hf := nm_s hf ex27
    refine lv_istore (lv' := [(6, .int x27), (0, .ref (ad a0)), (1, .int a1), (2, .int a2), (3, .int a3), (4, .int a4), (5, .int a5)]) C.1 C.2.1 dX12_mixedOf_56 hl (by decide) rfl (fun ls hl => ?_)
    refine lv_iload C.1 C.2.1 dX12_mixedOf_58 (lv_at hl 0 rfl) ?_
    refine lv_iload C.1 C.2.1 dX12_mixedOf_60 (lv_at hl 6 rfl) ?_
    refine lv_icmp_ge (tgt := 70) C.1 C.2.1 dX12_mixedOf_62 (by decide) (fun c28 => ?_) (fun c28 => ?_)
    · have hf := if_t c28 hf
      refine lv_iload C.1 C.2.1 dX12_mixedOf_70 (lv_at hl 6 rfl) ?_
      exact wX12_mixedOf_72 C hk9 ha0 hW (lv_sub hl [1, 2, 3, 4, 5] rfl) hf
    · have hf := if_f c28 hf
      refine lv_iload C.1 C.2.1 dX12_mixedOf_65 (lv_at hl 0 rfl) ?_
      refine lv_goto (tgt := 72) C.1 C.2.1 dX12_mixedOf_67 (by decide) ?_
      exact wX12_mixedOf_72 C hk9 ha0 hW (lv_sub hl [1, 2, 3, 4, 5] rfl) hf
set_option maxRecDepth 100000 in
set_option maxHeartbeats 4000000 in
theorem wX12_mixedOf_0 (C : Cx p s m meth c args cX12_mixedOf 7 (some .int) RX12 D ca ad) {res : Int32 × Mm} {N : Nat}  {a0 : Nat} {a1 : Int32} {a2 : Int32} {a3 : Int32} {a4 : Int32} {mm : Mm} {H : Heap} {locs : List Loc} {ls : Array Slot} (ha0 : sX12 a0) (hW : Wd D ca ad s.heap mm H locs) (hl : lv_has ls 7 [(0, .ref (ad a0)), (1, .int a1), (2, .int a2), (3, .int a3), (4, .int a4)]) (hf : fX12_mixedOf N a0 a1 a2 a3 a4 mm = some res) : W p l e (rmX12_mixedOf) s m args below meth c H locs 0 0 (MQ below (QI D ca ad res) args s 0 0 (AA ad)) (F0 m 0 ls []) := by
  unfold fX12_mixedOf at hf
  refine lv_ldcw C.1 C.2.1 C.2.2.2.1 (C.2.2.2.2.1 _ q_1405) dX12_mixedOf_0 ?_
  refine lv_istore (lv' := [(5, .int 1000000), (0, .ref (ad a0)), (1, .int a1), (2, .int a2), (3, .int a3), (4, .int a4)]) C.1 C.2.1 dX12_mixedOf_3 hl (by decide) rfl (fun ls hl => ?_)
  refine lv_aload_n C.1 C.2.1 dX12_mixedOf_5 rfl (lv_at hl 1 rfl) ?_
  obtain ⟨x29, m30, r31, hf⟩ := bd2_s hf
  refine x_cv hW (x_runV C hW [] [] (ha0).1 (ha0).2.1 kX12.1 kvX12_firstStep q_1361 (tX12_firstStep l C.2.2.2.2.2.2.1 ha0 r31) rfl rfl ⟨by decide, by decide⟩ rfl hl.1 rfl (Nat.le_of_ble_eq_true rfl) dX12_mixedOf_6) (fun H locs hW => ?_)
  exact wX12_mixedOf_9 C  N ha0 hW (lv_sub hl [1, 2, 3, 4, 5, 0] rfl) hf
set_option maxRecDepth 100000 in
set_option maxHeartbeats 4000000 in
theorem tX12_mixedOf (l : Launch) {D : va_G} {ca ad : Nat → Nat} (hi : Inj ad) {N : Nat} {a0 : Nat} {a1 : Int32} {a2 : Int32} {a3 : Int32} {a4 : Int32} {mm : Mm} {res : Int32 × Mm} (ha0 : sX12 a0) (hf : fX12_mixedOf N a0 a1 a2 a3 a4 mm = some res) : Met l yX12_mixedOf (WS yX12_mixedOf cX12_mixedOf 7 (some .int)) (rmX12_mixedOf) (va_Pc [.ref (ad a0), .int a1, .int a2, .int a3, .int a4] (WB D ca ad mm)) (QI D ca ad res) 0 0 (AA ad) := by
  refine x_start hi (by decide) rfl (Nat.le_of_ble_eq_true rfl) (fun p e s m args below meth c ls C hW hl => ?_)
  exact wX12_mixedOf_0 C ha0 hW (lv_sub hl [0, 1, 2, 3, 4] rfl) hf
set_option maxRecDepth 100000 in
set_option maxHeartbeats 4000000 in
theorem wX12_mixed_0 (C : Cx p s m meth c args cX12_mixed 6 (some .int) RX12 D ca ad) {res : Int32 × Mm} {N : Nat}  {a0 : Nat} {a1 : Int32} {a2 : Int32} {a3 : Int32} {a4 : Int32} {mm : Mm} {H : Heap} {locs : List Loc} {ls : Array Slot} (ha0 : sX12 a0) (hW : Wd D ca ad s.heap mm H locs) (hl : lv_has ls 6 [(0, .ref (ad a0)), (1, .int a1), (2, .int a2), (3, .int a3), (4, .int a4)]) (hf : fX12_mixed N a0 a1 a2 a3 a4 mm = some res) : W p l e (rmX12_mixed) s m args below meth c H locs 0 0 (MQ below (QI D ca ad res) args s 0 0 (AA ad)) (F0 m 0 ls []) := by
  unfold fX12_mixed at hf
  refine lv_iload_n C.1 C.2.1 dX12_mixed_0 rfl (lv_at hl 1 rfl) ?_
  obtain ⟨x1, m2, r3, hf⟩ := bd2_s hf
  refine x_ci hW (x_runS C hW [.int a1] [] kvX12_isRow q_1147 (tX12_isRow l C.2.2.2.2.2.2.1  r3) rfl rfl ⟨by decide, by decide⟩ rfl hl.1 rfl (Nat.le_of_ble_eq_true rfl) dX12_mixed_1) (fun H locs hW => ?_)
  refine lv_if_eq (tgt := 35) C.1 C.2.1 dX12_mixed_4 (by decide) (fun c4 => ?_) (fun c4 => ?_)
  · have hf := if_t c4 hf
    refine lv_iconst (v := (-1)) C.1 C.2.1 dX12_mixed_35 (by decide) ?_
    cases hf
    exact x_iret C hW dX12_mixed_36
  · have hf := if_f c4 hf
    refine lv_iload_n C.1 C.2.1 dX12_mixed_7 rfl (lv_at hl 2 rfl) ?_
    obtain ⟨x5, m6, r7, hf⟩ := bd2_s hf
    refine x_ci hW (x_runS C hW [.int a2] [] kvX12_isRow q_1147 (tX12_isRow l C.2.2.2.2.2.2.1  r7) rfl rfl ⟨by decide, by decide⟩ rfl hl.1 rfl (Nat.le_of_ble_eq_true rfl) dX12_mixed_8) (fun H locs hW => ?_)
    refine lv_if_eq (tgt := 35) C.1 C.2.1 dX12_mixed_11 (by decide) (fun c8 => ?_) (fun c8 => ?_)
    · have hf := if_t c8 hf
      refine lv_iconst (v := (-1)) C.1 C.2.1 dX12_mixed_35 (by decide) ?_
      cases hf
      exact x_iret C hW dX12_mixed_36
    · have hf := if_f c8 hf
      refine lv_iload C.1 C.2.1 dX12_mixed_14 (lv_at hl 4 rfl) ?_
      refine lv_iconst (v := 1) C.1 C.2.1 dX12_mixed_16 (by decide) ?_
      refine lv_bipush (v := 99) C.1 C.2.1 dX12_mixed_17 (by decide) ?_
      obtain ⟨x9, m10, r11, hf⟩ := bd2_s hf
      refine x_ci hW (x_runS C hW [.int a4, .int 1, .int 99] [] kvX12_in q_1150 (tX12_in l C.2.2.2.2.2.2.1  r11) rfl rfl ⟨by decide, by decide⟩ rfl hl.1 rfl (Nat.le_of_ble_eq_true rfl) dX12_mixed_19) (fun H locs hW => ?_)
      refine lv_if_eq (tgt := 35) C.1 C.2.1 dX12_mixed_22 (by decide) (fun c12 => ?_) (fun c12 => ?_)
      · have hf := if_t c12 hf
        refine lv_iconst (v := (-1)) C.1 C.2.1 dX12_mixed_35 (by decide) ?_
        cases hf
        exact x_iret C hW dX12_mixed_36
      · have hf := if_f c12 hf
        refine lv_iload_n C.1 C.2.1 dX12_mixed_25 rfl (lv_at hl 3 rfl) ?_
        refine lv_iconst (v := 0) C.1 C.2.1 dX12_mixed_26 (by decide) ?_
        refine lv_iload C.1 C.2.1 dX12_mixed_27 (lv_at hl 4 rfl) ?_
        obtain ⟨x13, m14, r15, hf⟩ := bd2_s hf
        refine x_ci hW (x_runS C hW [.int a3, .int 0, .int a4] [] kvX12_in q_1150 (tX12_in l C.2.2.2.2.2.2.1  r15) rfl rfl ⟨by decide, by decide⟩ rfl hl.1 rfl (Nat.le_of_ble_eq_true rfl) dX12_mixed_29) (fun H locs hW => ?_)
        refine lv_if_ne (tgt := 37) C.1 C.2.1 dX12_mixed_32 (by decide) (fun c16 => ?_) (fun c16 => ?_)
        · have hf := if_f c16 hf
          refine lv_aload_n C.1 C.2.1 dX12_mixed_37 rfl (lv_at hl 0 rfl) ?_
          refine lv_iload_n C.1 C.2.1 dX12_mixed_38 rfl (lv_at hl 1 rfl) ?_
          refine lv_iload_n C.1 C.2.1 dX12_mixed_39 rfl (lv_at hl 2 rfl) ?_
          obtain ⟨x17, m18, r19, hf⟩ := bd2_s hf
          refine x_ci hW (x_runV C hW [.int a1, .int a2] [] (ha0).1 (ha0).2.1 kX12.1 kvX12_askedMixed q_1397 (tX12_askedMixed l C.2.2.2.2.2.2.1 ha0 r19) rfl rfl ⟨by decide, by decide⟩ rfl hl.1 rfl (Nat.le_of_ble_eq_true rfl) dX12_mixed_40) (fun H locs hW => ?_)
          refine lv_istore (lv' := [(5, .int x17), (0, .ref (ad a0)), (1, .int a1), (2, .int a2), (3, .int a3), (4, .int a4)]) C.1 C.2.1 dX12_mixed_43 hl (by decide) rfl (fun ls hl => ?_)
          refine lv_iload C.1 C.2.1 dX12_mixed_45 (lv_at hl 0 rfl) ?_
          refine lv_if_ge (tgt := 55) C.1 C.2.1 dX12_mixed_47 (by decide) (fun c20 => ?_) (fun c20 => ?_)
          · have hf := if_t c20 hf
            refine lv_aload_n C.1 C.2.1 dX12_mixed_55 rfl (lv_at hl 1 rfl) ?_
            refine lv_aload_n C.1 C.2.1 dX12_mixed_56 rfl (lv_at hl 1 rfl) ?_
            refine lv_iload_n C.1 C.2.1 dX12_mixed_57 rfl (lv_at hl 2 rfl) ?_
            refine lv_iload_n C.1 C.2.1 dX12_mixed_58 rfl (lv_at hl 3 rfl) ?_
            refine lv_iload_n C.1 C.2.1 dX12_mixed_59 rfl (lv_at hl 4 rfl) ?_
            refine lv_iload C.1 C.2.1 dX12_mixed_60 (lv_at hl 5 rfl) ?_
            obtain ⟨x21, m22, r23, hf⟩ := bd2_s hf
            refine x_ci hW (x_runV C hW [.int a1, .int a2, .int a3, .int a4] [.ref (ad a0)] (ha0).1 (ha0).2.1 kX12.1 kvX12_mixedOf q_1401 (tX12_mixedOf l C.2.2.2.2.2.2.1 ha0 r23) rfl rfl ⟨by decide, by decide⟩ rfl hl.1 rfl (Nat.le_of_ble_eq_true rfl) dX12_mixed_62) (fun H locs hW => ?_)
            refine lv_i2l C.1 C.2.1 dX12_mixed_65 rfl ?_
            refine lv_iload C.1 C.2.1 dX12_mixed_66 (lv_at hl 5 rfl) ?_
            refine lv_i2l C.1 C.2.1 dX12_mixed_68 rfl ?_
            refine lv_iconst (v := 1) C.1 C.2.1 dX12_mixed_69 (by decide) ?_
            obtain ⟨x24, m25, r26, hf⟩ := bd2_s hf
            refine x_ci hW (x_runV C hW [.long x21.toInt64, .long a4.toInt64, .int 1] [] (ha0).1 (ha0).2.1 kX12.1 kvX12_part q_1373 (tX12_part l C.2.2.2.2.2.2.1 ha0 r26) rfl rfl ⟨by decide, by decide⟩ rfl hl.1 rfl (Nat.le_of_ble_eq_true rfl) dX12_mixed_70) (fun H locs hW => ?_)
            cases hf
            exact x_iret C hW dX12_mixed_73
          · have hf := if_f c20 hf
            refine lv_iload C.1 C.2.1 dX12_mixed_50 (lv_at hl 0 rfl) ?_
            refine lv_goto (tgt := 73) C.1 C.2.1 dX12_mixed_52 (by decide) ?_
            cases hf
            exact x_iret C hW dX12_mixed_73
        · have hf := if_t c16 hf
          refine lv_iconst (v := (-1)) C.1 C.2.1 dX12_mixed_35 (by decide) ?_
          cases hf
          exact x_iret C hW dX12_mixed_36
set_option maxRecDepth 100000 in
set_option maxHeartbeats 4000000 in
theorem tX12_mixed (l : Launch) {D : va_G} {ca ad : Nat → Nat} (hi : Inj ad) {N : Nat} {a0 : Nat} {a1 : Int32} {a2 : Int32} {a3 : Int32} {a4 : Int32} {mm : Mm} {res : Int32 × Mm} (ha0 : sX12 a0) (hf : fX12_mixed N a0 a1 a2 a3 a4 mm = some res) : Met l yX12_mixed (WS yX12_mixed cX12_mixed 6 (some .int)) (rmX12_mixed) (va_Pc [.ref (ad a0), .int a1, .int a2, .int a3, .int a4] (WB D ca ad mm)) (QI D ca ad res) 0 0 (AA ad) := by
  refine x_start hi (by decide) rfl (Nat.le_of_ble_eq_true rfl) (fun p e s m args below meth c ls C hW hl => ?_)
  exact wX12_mixed_0 C ha0 hW (lv_sub hl [0, 1, 2, 3, 4] rfl) hf
set_option maxRecDepth 100000 in
set_option maxHeartbeats 4000000 in
theorem wX12_mix_87 (C : Cx p s m meth c args cX12_mix 8 (some .int) RX12 D ca ad) {res : Int32 × Mm} {N : Nat} {k38 : Nat → Int32 → Int32 → Int32 → Int32 → Int32 → Mm → Option (Int32 × Mm)} (hk38 : ∀ (a0 : Nat) (a1 : Int32) (a2 : Int32) (a4 : Int32) (a5 : Int32) (a6 : Int32) (mm : Mm) (H : Heap) (locs : List Loc) (ls : Array Slot), (sX12 a0) → Wd D ca ad s.heap mm H locs → lv_has ls 8 [(0, .ref (ad a0)), (1, .int a1), (2, .int a2), (4, .int a4), (5, .int a5), (6, .int a6)] → k38 a0 a1 a2 a4 a5 a6 mm = some res → W p l e (rmX12_mix) s m args below meth c H locs 0 0 (MQ below (QI D ca ad res) args s 0 0 (AA ad)) (F0 m 38 ls [])) {a0 : Nat} {a1 : Int32} {a2 : Int32} {a4 : Int32} {a6 : Int32} {s0 : Int32} {mm : Mm} {H : Heap} {locs : List Loc} {ls : Array Slot} (ha0 : sX12 a0) (hW : Wd D ca ad s.heap mm H locs) (hl : lv_has ls 8 [(0, .ref (ad a0)), (1, .int a1), (2, .int a2), (4, .int a4), (6, .int a6)]) (hf : fX12_mix_87 N k38 a0 a1 a2 a4 a6 s0 mm = some res) : W p l e (rmX12_mix) s m args below meth c H locs 0 0 (MQ below (QI D ca ad res) args s 0 0 (AA ad)) (F0 m 87 ls [.int s0]) := by
  unfold fX12_mix_87 at hf
  refine lv_istore (lv' := [(5, .int s0), (0, .ref (ad a0)), (1, .int a1), (2, .int a2), (4, .int a4), (6, .int a6)]) C.1 C.2.1 dX12_mix_87 hl (by decide) rfl (fun ls hl => ?_)
  refine lv_iinc (v := (a6 + 1)) (lv' := [(6, .int (a6 + 1)), (5, .int s0), (0, .ref (ad a0)), (1, .int a1), (2, .int a2), (4, .int a4)]) C.1 C.2.1 dX12_mix_89 hl (k := 5) rfl rfl (by decide) rfl (fun ls hl => ?_)
  refine lv_goto (tgt := 38) C.1 C.2.1 dX12_mix_92 (by decide) ?_
  exact hk38 _ _ _ _ _ _ _ _ _ _ ha0 hW (lv_sub hl [2, 3, 4, 5, 1, 0] rfl) hf
set_option maxRecDepth 100000 in
set_option maxHeartbeats 4000000 in
theorem wX12_mix_71 (C : Cx p s m meth c args cX12_mix 8 (some .int) RX12 D ca ad) {res : Int32 × Mm} {N : Nat} {k38 : Nat → Int32 → Int32 → Int32 → Int32 → Int32 → Mm → Option (Int32 × Mm)} (hk38 : ∀ (a0 : Nat) (a1 : Int32) (a2 : Int32) (a4 : Int32) (a5 : Int32) (a6 : Int32) (mm : Mm) (H : Heap) (locs : List Loc) (ls : Array Slot), (sX12 a0) → Wd D ca ad s.heap mm H locs → lv_has ls 8 [(0, .ref (ad a0)), (1, .int a1), (2, .int a2), (4, .int a4), (5, .int a5), (6, .int a6)] → k38 a0 a1 a2 a4 a5 a6 mm = some res → W p l e (rmX12_mix) s m args below meth c H locs 0 0 (MQ below (QI D ca ad res) args s 0 0 (AA ad)) (F0 m 38 ls [])) {a0 : Nat} {a1 : Int32} {a2 : Int32} {a5 : Int32} {a6 : Int32} {a7 : Int32} {s0 : Int32} {mm : Mm} {H : Heap} {locs : List Loc} {ls : Array Slot} (ha0 : sX12 a0) (hW : Wd D ca ad s.heap mm H locs) (hl : lv_has ls 8 [(0, .ref (ad a0)), (1, .int a1), (2, .int a2), (5, .int a5), (6, .int a6), (7, .int a7)]) (hf : fX12_mix_71 N k38 a0 a1 a2 a5 a6 a7 s0 mm = some res) : W p l e (rmX12_mix) s m args below meth c H locs 0 0 (MQ below (QI D ca ad res) args s 0 0 (AA ad)) (F0 m 71 ls [.int s0]) := by
  unfold fX12_mix_71 at hf
  refine lv_istore (lv' := [(4, .int s0), (0, .ref (ad a0)), (1, .int a1), (2, .int a2), (5, .int a5), (6, .int a6), (7, .int a7)]) C.1 C.2.1 dX12_mix_71 hl (by decide) rfl (fun ls hl => ?_)
  refine lv_iload C.1 C.2.1 dX12_mix_73 (lv_at hl 6 rfl) ?_
  refine lv_iload C.1 C.2.1 dX12_mix_75 (lv_at hl 4 rfl) ?_
  refine lv_icmp_le (tgt := 85) C.1 C.2.1 dX12_mix_77 (by decide) (fun c1 => ?_) (fun c1 => ?_)
  · have hf := if_t c1 hf
    refine lv_iload C.1 C.2.1 dX12_mix_85 (lv_at hl 4 rfl) ?_
    exact wX12_mix_87 C hk38 ha0 hW (lv_sub hl [1, 2, 3, 0, 5] rfl) hf
  · have hf := if_f c1 hf
    refine lv_iload C.1 C.2.1 dX12_mix_80 (lv_at hl 6 rfl) ?_
    refine lv_goto (tgt := 87) C.1 C.2.1 dX12_mix_82 (by decide) ?_
    exact wX12_mix_87 C hk38 ha0 hW (lv_sub hl [1, 2, 3, 0, 5] rfl) hf
set_option maxRecDepth 100000 in
set_option maxHeartbeats 4000000 in
theorem wX12_mix_38 (C : Cx p s m meth c args cX12_mix 8 (some .int) RX12 D ca ad) {res : Int32 × Mm} {N : Nat}  : ∀ (n : Nat) {a0 : Nat} {a1 : Int32} {a2 : Int32} {a4 : Int32} {a5 : Int32} {a6 : Int32} {mm : Mm} {H : Heap} {locs : List Loc} {ls : Array Slot}, (sX12 a0) → Wd D ca ad s.heap mm H locs → lv_has ls 8 [(0, .ref (ad a0)), (1, .int a1), (2, .int a2), (4, .int a4), (5, .int a5), (6, .int a6)] → fX12_mix_38 N n a0 a1 a2 a4 a5 a6 mm = some res → W p l e (rmX12_mix) s m args below meth c H locs 0 0 (MQ below (QI D ca ad res) args s 0 0 (AA ad)) (F0 m 38 ls []) := by
  intro n
  induction n with
  | zero => intro a0 a1 a2 a4 a5 a6 mm H locs ls ha0 hW hl hf; cases hf
  | succ n ih =>
    intro a0 a1 a2 a4 a5 a6 mm H locs ls ha0 hW hl hf
    have hk38 : ∀ (a0 : Nat) (a1 : Int32) (a2 : Int32) (a4 : Int32) (a5 : Int32) (a6 : Int32) (mm : Mm) (H : Heap) (locs : List Loc) (ls : Array Slot), (sX12 a0) → Wd D ca ad s.heap mm H locs → lv_has ls 8 [(0, .ref (ad a0)), (1, .int a1), (2, .int a2), (4, .int a4), (5, .int a5), (6, .int a6)] → (fX12_mix_38 N n) a0 a1 a2 a4 a5 a6 mm = some res → W p l e (rmX12_mix) s m args below meth c H locs 0 0 (MQ below (QI D ca ad res) args s 0 0 (AA ad)) (F0 m 38 ls []) := fun a0 a1 a2 a4 a5 a6 mm H locs ls ha0 hW hl hf => ih ha0 hW hl hf
    unfold fX12_mix_38 at hf
    try dsimp only at hf
    refine lv_iload C.1 C.2.1 dX12_mix_38 (lv_at hl 5 rfl) ?_
    refine lv_bipush (v := 12) C.1 C.2.1 dX12_mix_40 (by decide) ?_
    refine lv_icmp_gt (tgt := 95) C.1 C.2.1 dX12_mix_42 (by decide) (fun c2 => ?_) (fun c2 => ?_)
    · have hf := if_t c2 hf
      refine lv_aload_n C.1 C.2.1 dX12_mix_95 rfl (lv_at hl 0 rfl) ?_
      refine lv_iload C.1 C.2.1 dX12_mix_96 (lv_at hl 4 rfl) ?_
      refine lv_i2l C.1 C.2.1 dX12_mix_98 rfl ?_
      refine lv_ldc2 C.1 C.2.1 C.2.2.2.1 (C.2.2.2.2.1 _ q_1410) dX12_mix_99 ?_
      refine lv_iload C.1 C.2.1 dX12_mix_102 (lv_at hl 3 rfl) ?_
      obtain ⟨x3, m4, r5, hf⟩ := bd2_s hf
      refine x_ci hW (x_runV C hW [.long a5.toInt64, .long 12, .int a4] [] (ha0).1 (ha0).2.1 kX12.1 kvX12_part q_1373 (tX12_part l C.2.2.2.2.2.2.1 ha0 r5) rfl rfl ⟨by decide, by decide⟩ rfl hl.1 rfl (Nat.le_of_ble_eq_true rfl) dX12_mix_104) (fun H locs hW => ?_)
      cases hf
      exact x_iret C hW dX12_mix_107
    · have hf := if_f c2 hf
      refine lv_aload_n C.1 C.2.1 dX12_mix_45 rfl (lv_at hl 0 rfl) ?_
      refine lv_iload_n C.1 C.2.1 dX12_mix_46 rfl (lv_at hl 1 rfl) ?_
      refine lv_iload_n C.1 C.2.1 dX12_mix_47 rfl (lv_at hl 2 rfl) ?_
      refine lv_iload C.1 C.2.1 dX12_mix_48 (lv_at hl 5 rfl) ?_
      refine lv_bipush (v := 12) C.1 C.2.1 dX12_mix_50 (by decide) ?_
      obtain ⟨x6, m7, r8, hf⟩ := bd2_s hf
      refine x_ci hW (x_runV C hW [.int a1, .int a2, .int a6, .int 12] [] (ha0).1 (ha0).2.1 kX12.1 kvX12_mixedOf q_1401 (tX12_mixedOf l C.2.2.2.2.2.2.1 ha0 r8) rfl rfl ⟨by decide, by decide⟩ rfl hl.1 rfl (Nat.le_of_ble_eq_true rfl) dX12_mix_52) (fun H locs hW => ?_)
      refine lv_istore (lv' := [(7, .int x6), (0, .ref (ad a0)), (1, .int a1), (2, .int a2), (4, .int a4), (5, .int a5), (6, .int a6)]) C.1 C.2.1 dX12_mix_55 hl (by decide) rfl (fun ls hl => ?_)
      refine lv_iload C.1 C.2.1 dX12_mix_57 (lv_at hl 0 rfl) ?_
      refine lv_iload C.1 C.2.1 dX12_mix_59 (lv_at hl 5 rfl) ?_
      refine lv_icmp_le (tgt := 69) C.1 C.2.1 dX12_mix_61 (by decide) (fun c9 => ?_) (fun c9 => ?_)
      · have hf := if_t c9 hf
        refine lv_iload C.1 C.2.1 dX12_mix_69 (lv_at hl 4 rfl) ?_
        exact wX12_mix_71 C hk38 ha0 hW (lv_sub hl [1, 2, 3, 5, 6, 0] rfl) hf
      · have hf := if_f c9 hf
        refine lv_iload C.1 C.2.1 dX12_mix_64 (lv_at hl 6 rfl) ?_
        refine lv_goto (tgt := 71) C.1 C.2.1 dX12_mix_66 (by decide) ?_
        exact wX12_mix_71 C hk38 ha0 hW (lv_sub hl [1, 2, 3, 5, 6, 0] rfl) hf
set_option maxRecDepth 100000 in
set_option maxHeartbeats 4000000 in
theorem wX12_mix_0 (C : Cx p s m meth c args cX12_mix 8 (some .int) RX12 D ca ad) {res : Int32 × Mm} {N : Nat}  {a0 : Nat} {a1 : Int32} {a2 : Int32} {mm : Mm} {H : Heap} {locs : List Loc} {ls : Array Slot} (ha0 : sX12 a0) (hW : Wd D ca ad s.heap mm H locs) (hl : lv_has ls 8 [(0, .ref (ad a0)), (1, .int a1), (2, .int a2)]) (hf : fX12_mix N a0 a1 a2 mm = some res) : W p l e (rmX12_mix) s m args below meth c H locs 0 0 (MQ below (QI D ca ad res) args s 0 0 (AA ad)) (F0 m 0 ls []) := by
  unfold fX12_mix at hf
  refine lv_iload_n C.1 C.2.1 dX12_mix_0 rfl (lv_at hl 1 rfl) ?_
  obtain ⟨x10, m11, r12, hf⟩ := bd2_s hf
  refine x_ci hW (x_runS C hW [.int a1] [] kvX12_isRow q_1147 (tX12_isRow l C.2.2.2.2.2.2.1  r12) rfl rfl ⟨by decide, by decide⟩ rfl hl.1 rfl (Nat.le_of_ble_eq_true rfl) dX12_mix_1) (fun H locs hW => ?_)
  refine lv_if_eq (tgt := 14) C.1 C.2.1 dX12_mix_4 (by decide) (fun c13 => ?_) (fun c13 => ?_)
  · have hf := if_t c13 hf
    refine lv_iconst (v := (-1)) C.1 C.2.1 dX12_mix_14 (by decide) ?_
    cases hf
    exact x_iret C hW dX12_mix_15
  · have hf := if_f c13 hf
    refine lv_iload_n C.1 C.2.1 dX12_mix_7 rfl (lv_at hl 2 rfl) ?_
    obtain ⟨x14, m15, r16, hf⟩ := bd2_s hf
    refine x_ci hW (x_runS C hW [.int a2] [] kvX12_isRow q_1147 (tX12_isRow l C.2.2.2.2.2.2.1  r16) rfl rfl ⟨by decide, by decide⟩ rfl hl.1 rfl (Nat.le_of_ble_eq_true rfl) dX12_mix_8) (fun H locs hW => ?_)
    refine lv_if_ne (tgt := 16) C.1 C.2.1 dX12_mix_11 (by decide) (fun c17 => ?_) (fun c17 => ?_)
    · have hf := if_f c17 hf
      refine lv_aload_n C.1 C.2.1 dX12_mix_16 rfl (lv_at hl 0 rfl) ?_
      refine lv_iload_n C.1 C.2.1 dX12_mix_17 rfl (lv_at hl 1 rfl) ?_
      refine lv_iload_n C.1 C.2.1 dX12_mix_18 rfl (lv_at hl 2 rfl) ?_
      obtain ⟨x18, m19, r20, hf⟩ := bd2_s hf
      refine x_ci hW (x_runV C hW [.int a1, .int a2] [] (ha0).1 (ha0).2.1 kX12.1 kvX12_askedMixed q_1397 (tX12_askedMixed l C.2.2.2.2.2.2.1 ha0 r20) rfl rfl ⟨by decide, by decide⟩ rfl hl.1 rfl (Nat.le_of_ble_eq_true rfl) dX12_mix_19) (fun H locs hW => ?_)
      refine lv_istore_n (lv' := [(3, .int x18), (0, .ref (ad a0)), (1, .int a1), (2, .int a2)]) C.1 C.2.1 dX12_mix_22 rfl hl (by decide) rfl (fun ls hl => ?_)
      refine lv_iload_n C.1 C.2.1 dX12_mix_23 rfl (lv_at hl 0 rfl) ?_
      refine lv_if_ge (tgt := 29) C.1 C.2.1 dX12_mix_24 (by decide) (fun c21 => ?_) (fun c21 => ?_)
      · have hf := if_t c21 hf
        refine lv_iconst (v := 0) C.1 C.2.1 dX12_mix_29 (by decide) ?_
        refine lv_istore (lv' := [(4, .int 0), (3, .int x18), (0, .ref (ad a0)), (1, .int a1), (2, .int a2)]) C.1 C.2.1 dX12_mix_30 hl (by decide) rfl (fun ls hl => ?_)
        refine lv_iconst (v := (-1)) C.1 C.2.1 dX12_mix_32 (by decide) ?_
        refine lv_istore (lv' := [(5, .int (-1)), (4, .int 0), (3, .int x18), (0, .ref (ad a0)), (1, .int a1), (2, .int a2)]) C.1 C.2.1 dX12_mix_33 hl (by decide) rfl (fun ls hl => ?_)
        refine lv_iconst (v := 0) C.1 C.2.1 dX12_mix_35 (by decide) ?_
        refine lv_istore (lv' := [(6, .int 0), (5, .int (-1)), (4, .int 0), (3, .int x18), (0, .ref (ad a0)), (1, .int a1), (2, .int a2)]) C.1 C.2.1 dX12_mix_36 hl (by decide) rfl (fun ls hl => ?_)
        exact wX12_mix_38 C  N ha0 hW (lv_sub hl [4, 5, 6, 2, 1, 0] rfl) hf
      · have hf := if_f c21 hf
        refine lv_iload_n C.1 C.2.1 dX12_mix_27 rfl (lv_at hl 0 rfl) ?_
        cases hf
        exact x_iret C hW dX12_mix_28
    · have hf := if_t c17 hf
      refine lv_iconst (v := (-1)) C.1 C.2.1 dX12_mix_14 (by decide) ?_
      cases hf
      exact x_iret C hW dX12_mix_15
set_option maxRecDepth 100000 in
set_option maxHeartbeats 4000000 in
theorem tX12_mix (l : Launch) {D : va_G} {ca ad : Nat → Nat} (hi : Inj ad) {N : Nat} {a0 : Nat} {a1 : Int32} {a2 : Int32} {mm : Mm} {res : Int32 × Mm} (ha0 : sX12 a0) (hf : fX12_mix N a0 a1 a2 mm = some res) : Met l yX12_mix (WS yX12_mix cX12_mix 8 (some .int)) (rmX12_mix) (va_Pc [.ref (ad a0), .int a1, .int a2] (WB D ca ad mm)) (QI D ca ad res) 0 0 (AA ad) := by
  refine x_start hi (by decide) rfl (Nat.le_of_ble_eq_true rfl) (fun p e s m args below meth c ls C hW hl => ?_)
  exact wX12_mix_0 C ha0 hW (lv_sub hl [0, 1, 2] rfl) hf
set_option maxRecDepth 100000 in
set_option maxHeartbeats 4000000 in
theorem wX12_turnAt_0 (C : Cx p s m meth c args cX12_turnAt 4 (some .int) RX12 D ca ad) {res : Int32 × Mm} {N : Nat}  {a0 : Nat} {a1 : Int32} {a2 : Int32} {a3 : Int32} {mm : Mm} {H : Heap} {locs : List Loc} {ls : Array Slot} (ha0 : sX12 a0) (hW : Wd D ca ad s.heap mm H locs) (hl : lv_has ls 4 [(0, .ref (ad a0)), (1, .int a1), (2, .int a2), (3, .int a3)]) (hf : fX12_turnAt N a0 a1 a2 a3 mm = some res) : W p l e (rmX12_turnAt) s m args below meth c H locs 0 0 (MQ below (QI D ca ad res) args s 0 0 (AA ad)) (F0 m 0 ls []) := by
  unfold fX12_turnAt at hf
  refine lv_aload_n C.1 C.2.1 dX12_turnAt_0 rfl (lv_at hl 0 rfl) ?_
  refine x_getr C hW (ha0).1 (ha0).2.1 (j := 32) rfl kX12 (by decide) rfl q_1048 dX12_turnAt_1 ?_
  refine lv_sipush (v := 256) C.1 C.2.1 dX12_turnAt_4 (by decide) ?_
  refine lv_iload_n C.1 C.2.1 dX12_turnAt_7 rfl (lv_at hl 1 rfl) ?_
  refine lv_imul C.1 C.2.1 dX12_turnAt_8 ?_
  refine lv_bipush (v := 16) C.1 C.2.1 dX12_turnAt_9 (by decide) ?_
  refine lv_iload_n C.1 C.2.1 dX12_turnAt_11 rfl (lv_at hl 2 rfl) ?_
  refine lv_imul C.1 C.2.1 dX12_turnAt_12 ?_
  refine lv_iadd C.1 C.2.1 dX12_turnAt_13 ?_
  refine lv_iload_n C.1 C.2.1 dX12_turnAt_14 rfl (lv_at hl 3 rfl) ?_
  refine lv_iadd C.1 C.2.1 dX12_turnAt_15 ?_
  obtain ⟨g1, hf⟩ := gd_s hf
  refine x_iald C hW ha0.2.2.2.2.2.2.2.2.2.2.2.2.2.2.2.2.2.1 g1 dX12_turnAt_16 ?_
  cases hf
  exact x_iret C hW dX12_turnAt_17
set_option maxRecDepth 100000 in
set_option maxHeartbeats 4000000 in
theorem tX12_turnAt (l : Launch) {D : va_G} {ca ad : Nat → Nat} (hi : Inj ad) {N : Nat} {a0 : Nat} {a1 : Int32} {a2 : Int32} {a3 : Int32} {mm : Mm} {res : Int32 × Mm} (ha0 : sX12 a0) (hf : fX12_turnAt N a0 a1 a2 a3 mm = some res) : Met l yX12_turnAt (WS yX12_turnAt cX12_turnAt 4 (some .int)) (rmX12_turnAt) (va_Pc [.ref (ad a0), .int a1, .int a2, .int a3] (WB D ca ad mm)) (QI D ca ad res) 0 0 (AA ad) := by
  refine x_start hi (by decide) rfl (Nat.le_of_ble_eq_true rfl) (fun p e s m args below meth c ls C hW hl => ?_)
  exact wX12_turnAt_0 C ha0 hW (lv_sub hl [0, 1, 2, 3] rfl) hf
set_option maxRecDepth 100000 in
set_option maxHeartbeats 4000000 in
theorem wX12_gives_106 (C : Cx p s m meth c args cX12_gives 7 (some .int) RX12 D ca ad) {res : Int32 × Mm} {N : Nat}  {a6 : Int32} {s0 : Int32} {s1 : Int32} {mm : Mm} {H : Heap} {locs : List Loc} {ls : Array Slot}  (hW : Wd D ca ad s.heap mm H locs) (hl : lv_has ls 7 [(6, .int a6)]) (hf : fX12_gives_106 N a6 s0 s1 mm = some res) : W p l e (rmX12_gives) s m args below meth c H locs 0 0 (MQ below (QI D ca ad res) args s 0 0 (AA ad)) (F0 m 106 ls [.int s1, .int s0]) := by
  unfold fX12_gives_106 at hf
  refine lv_icmp_ne (tgt := 114) C.1 C.2.1 dX12_gives_106 (by decide) (fun c1 => ?_) (fun c1 => ?_)
  · have hf := if_f c1 hf
    refine lv_iload C.1 C.2.1 dX12_gives_114 (lv_at hl 0 rfl) ?_
    refine lv_ineg C.1 C.2.1 dX12_gives_116 ?_
    cases hf
    exact x_iret C hW dX12_gives_117
  · have hf := if_t c1 hf
    refine lv_iload C.1 C.2.1 dX12_gives_109 (lv_at hl 0 rfl) ?_
    refine lv_goto (tgt := 117) C.1 C.2.1 dX12_gives_111 (by decide) ?_
    cases hf
    exact x_iret C hW dX12_gives_117
set_option maxRecDepth 100000 in
set_option maxHeartbeats 4000000 in
theorem wX12_gives_91 (C : Cx p s m meth c args cX12_gives 7 (some .int) RX12 D ca ad) {res : Int32 × Mm} {N : Nat}  {a0 : Nat} {a1 : Int32} {a6 : Int32} {s0 : Int32} {mm : Mm} {H : Heap} {locs : List Loc} {ls : Array Slot} (ha0 : sX12 a0) (hW : Wd D ca ad s.heap mm H locs) (hl : lv_has ls 7 [(0, .ref (ad a0)), (1, .int a1), (6, .int a6)]) (hf : fX12_gives_91 N a0 a1 a6 s0 mm = some res) : W p l e (rmX12_gives) s m args below meth c H locs 0 0 (MQ below (QI D ca ad res) args s 0 0 (AA ad)) (F0 m 91 ls [.int s0]) := by
  unfold fX12_gives_91 at hf
  refine lv_aload_n C.1 C.2.1 dX12_gives_91 rfl (lv_at hl 0 rfl) ?_
  refine lv_iload_n C.1 C.2.1 dX12_gives_92 rfl (lv_at hl 1 rfl) ?_
  refine lv_iconst (v := 0) C.1 C.2.1 dX12_gives_93 (by decide) ?_
  obtain ⟨x2, m3, r4, hf⟩ := bd2_s hf
  refine x_ci hW (x_runV C hW [.int a1, .int 0] [.int s0] (ha0).1 (ha0).2.1 kX12.1 kvX12_of q_1252 (tX12_of l C.2.2.2.2.2.2.1 ha0 r4) rfl rfl ⟨by decide, by decide⟩ rfl hl.1 rfl (Nat.le_of_ble_eq_true rfl) dX12_gives_94) (fun H locs hW => ?_)
  refine lv_iconst (v := 2) C.1 C.2.1 dX12_gives_97 (by decide) ?_
  refine lv_icmp_eq (tgt := 105) C.1 C.2.1 dX12_gives_98 (by decide) (fun c5 => ?_) (fun c5 => ?_)
  · have hf := if_t c5 hf
    refine lv_iconst (v := 0) C.1 C.2.1 dX12_gives_105 (by decide) ?_
    exact wX12_gives_106 C   hW (lv_sub hl [2] rfl) hf
  · have hf := if_f c5 hf
    refine lv_iconst (v := 1) C.1 C.2.1 dX12_gives_101 (by decide) ?_
    refine lv_goto (tgt := 106) C.1 C.2.1 dX12_gives_102 (by decide) ?_
    exact wX12_gives_106 C   hW (lv_sub hl [2] rfl) hf
set_option maxRecDepth 100000 in
set_option maxHeartbeats 4000000 in
theorem wX12_gives_44 (C : Cx p s m meth c args cX12_gives 7 (some .int) RX12 D ca ad) {res : Int32 × Mm} {N : Nat}  {a0 : Nat} {a1 : Int32} {a4 : Int32} {s0 : Int32} {mm : Mm} {H : Heap} {locs : List Loc} {ls : Array Slot} (ha0 : sX12 a0) (hW : Wd D ca ad s.heap mm H locs) (hl : lv_has ls 7 [(0, .ref (ad a0)), (1, .int a1), (4, .int a4)]) (hf : fX12_gives_44 N a0 a1 a4 s0 mm = some res) : W p l e (rmX12_gives) s m args below meth c H locs 0 0 (MQ below (QI D ca ad res) args s 0 0 (AA ad)) (F0 m 44 ls [.int s0]) := by
  unfold fX12_gives_44 at hf
  refine lv_istore (lv' := [(5, .int s0), (0, .ref (ad a0)), (1, .int a1), (4, .int a4)]) C.1 C.2.1 dX12_gives_44 hl (by decide) rfl (fun ls hl => ?_)
  refine lv_iconst (v := 2) C.1 C.2.1 dX12_gives_46 (by decide) ?_
  refine lv_aload_n C.1 C.2.1 dX12_gives_47 rfl (lv_at hl 1 rfl) ?_
  refine lv_iload_n C.1 C.2.1 dX12_gives_48 rfl (lv_at hl 2 rfl) ?_
  refine lv_iconst (v := 1) C.1 C.2.1 dX12_gives_49 (by decide) ?_
  obtain ⟨x6, m7, r8, hf⟩ := bd2_s hf
  refine x_ci hW (x_runV C hW [.int a1, .int 1] [.int 2] (ha0).1 (ha0).2.1 kX12.1 kvX12_of q_1252 (tX12_of l C.2.2.2.2.2.2.1 ha0 r8) rfl rfl ⟨by decide, by decide⟩ rfl hl.1 rfl (Nat.le_of_ble_eq_true rfl) dX12_gives_50) (fun H locs hW => ?_)
  refine lv_imul C.1 C.2.1 dX12_gives_53 ?_
  refine lv_istore (lv' := [(6, .int (2 * x6)), (5, .int s0), (0, .ref (ad a0)), (1, .int a1), (4, .int a4)]) C.1 C.2.1 dX12_gives_54 hl (by decide) rfl (fun ls hl => ?_)
  refine lv_iload C.1 C.2.1 dX12_gives_56 (lv_at hl 4 rfl) ?_
  refine lv_iload C.1 C.2.1 dX12_gives_58 (lv_at hl 1 rfl) ?_
  refine lv_icmp_ne (tgt := 79) C.1 C.2.1 dX12_gives_60 (by decide) (fun c9 => ?_) (fun c9 => ?_)
  · have hf := if_f c9 hf
    refine lv_iload C.1 C.2.1 dX12_gives_79 (lv_at hl 4 rfl) ?_
    refine lv_iload C.1 C.2.1 dX12_gives_81 (lv_at hl 1 rfl) ?_
    refine lv_icmp_le (tgt := 90) C.1 C.2.1 dX12_gives_83 (by decide) (fun c10 => ?_) (fun c10 => ?_)
    · have hf := if_t c10 hf
      refine lv_iconst (v := 0) C.1 C.2.1 dX12_gives_90 (by decide) ?_
      exact wX12_gives_91 C  ha0 hW (lv_sub hl [2, 3, 0] rfl) hf
    · have hf := if_f c10 hf
      refine lv_iconst (v := 1) C.1 C.2.1 dX12_gives_86 (by decide) ?_
      refine lv_goto (tgt := 91) C.1 C.2.1 dX12_gives_87 (by decide) ?_
      exact wX12_gives_91 C  ha0 hW (lv_sub hl [2, 3, 0] rfl) hf
  · have hf := if_t c9 hf
    refine lv_aload_n C.1 C.2.1 dX12_gives_63 rfl (lv_at hl 2 rfl) ?_
    refine lv_iload_n C.1 C.2.1 dX12_gives_64 rfl (lv_at hl 3 rfl) ?_
    refine lv_iconst (v := 1) C.1 C.2.1 dX12_gives_65 (by decide) ?_
    obtain ⟨x11, m12, r13, hf⟩ := bd2_s hf
    refine x_ci hW (x_runV C hW [.int a1, .int 1] [] (ha0).1 (ha0).2.1 kX12.1 kvX12_isA q_1260 (tX12_isA l C.2.2.2.2.2.2.1 ha0 r13) rfl rfl ⟨by decide, by decide⟩ rfl hl.1 rfl (Nat.le_of_ble_eq_true rfl) dX12_gives_66) (fun H locs hW => ?_)
    refine lv_if_eq (tgt := 77) C.1 C.2.1 dX12_gives_69 (by decide) (fun c14 => ?_) (fun c14 => ?_)
    · have hf := if_t c14 hf
      refine lv_iconst (v := 0) C.1 C.2.1 dX12_gives_77 (by decide) ?_
      cases hf
      exact x_iret C hW dX12_gives_78
    · have hf := if_f c14 hf
      refine lv_iload C.1 C.2.1 dX12_gives_72 (lv_at hl 0 rfl) ?_
      refine lv_goto (tgt := 78) C.1 C.2.1 dX12_gives_74 (by decide) ?_
      cases hf
      exact x_iret C hW dX12_gives_78
set_option maxRecDepth 100000 in
set_option maxHeartbeats 4000000 in
theorem wX12_gives_21 (C : Cx p s m meth c args cX12_gives 7 (some .int) RX12 D ca ad) {res : Int32 × Mm} {N : Nat}  {a0 : Nat} {a1 : Int32} {a3 : Int32} {s0 : Int32} {mm : Mm} {H : Heap} {locs : List Loc} {ls : Array Slot} (ha0 : sX12 a0) (hW : Wd D ca ad s.heap mm H locs) (hl : lv_has ls 7 [(0, .ref (ad a0)), (1, .int a1), (3, .int a3)]) (hf : fX12_gives_21 N a0 a1 a3 s0 mm = some res) : W p l e (rmX12_gives) s m args below meth c H locs 0 0 (MQ below (QI D ca ad res) args s 0 0 (AA ad)) (F0 m 21 ls [.int s0]) := by
  unfold fX12_gives_21 at hf
  refine lv_istore (lv' := [(4, .int s0), (0, .ref (ad a0)), (1, .int a1), (3, .int a3)]) C.1 C.2.1 dX12_gives_21 hl (by decide) rfl (fun ls hl => ?_)
  refine lv_aload_n C.1 C.2.1 dX12_gives_23 rfl (lv_at hl 1 rfl) ?_
  refine lv_iload_n C.1 C.2.1 dX12_gives_24 rfl (lv_at hl 2 rfl) ?_
  refine lv_iconst (v := 0) C.1 C.2.1 dX12_gives_25 (by decide) ?_
  obtain ⟨x15, m16, r17, hf⟩ := bd2_s hf
  refine x_ci hW (x_runV C hW [.int a1, .int 0] [] (ha0).1 (ha0).2.1 kX12.1 kvX12_of q_1252 (tX12_of l C.2.2.2.2.2.2.1 ha0 r17) rfl rfl ⟨by decide, by decide⟩ rfl hl.1 rfl (Nat.le_of_ble_eq_true rfl) dX12_gives_26) (fun H locs hW => ?_)
  refine lv_iconst (v := 5) C.1 C.2.1 dX12_gives_29 (by decide) ?_
  refine lv_icmp_ne (tgt := 37) C.1 C.2.1 dX12_gives_30 (by decide) (fun c18 => ?_) (fun c18 => ?_)
  · have hf := if_f c18 hf
    refine lv_aload_n C.1 C.2.1 dX12_gives_37 rfl (lv_at hl 1 rfl) ?_
    refine lv_iload_n C.1 C.2.1 dX12_gives_38 rfl (lv_at hl 2 rfl) ?_
    refine lv_iconst (v := 1) C.1 C.2.1 dX12_gives_39 (by decide) ?_
    refine lv_iload_n C.1 C.2.1 dX12_gives_40 rfl (lv_at hl 3 rfl) ?_
    obtain ⟨x19, m20, r21, hf⟩ := bd2_s hf
    refine x_ci hW (x_runV C hW [.int a1, .int 1, .int a3] [] (ha0).1 (ha0).2.1 kX12.1 kvX12_weight q_1300 (tX12_weight l C.2.2.2.2.2.2.1 ha0 r21) rfl rfl ⟨by decide, by decide⟩ rfl hl.1 rfl (Nat.le_of_ble_eq_true rfl) dX12_gives_41) (fun H locs hW => ?_)
    exact wX12_gives_44 C  ha0 hW (lv_sub hl [1, 2, 0] rfl) hf
  · have hf := if_t c18 hf
    refine lv_iload_n C.1 C.2.1 dX12_gives_33 rfl (lv_at hl 3 rfl) ?_
    refine lv_goto (tgt := 44) C.1 C.2.1 dX12_gives_34 (by decide) ?_
    exact wX12_gives_44 C  ha0 hW (lv_sub hl [1, 2, 0] rfl) hf
set_option maxRecDepth 100000 in
set_option maxHeartbeats 4000000 in
theorem wX12_gives_0 (C : Cx p s m meth c args cX12_gives 7 (some .int) RX12 D ca ad) {res : Int32 × Mm} {N : Nat}  {a0 : Nat} {a1 : Int32} {a2 : Int32} {a3 : Int32} {mm : Mm} {H : Heap} {locs : List Loc} {ls : Array Slot} (ha0 : sX12 a0) (hW : Wd D ca ad s.heap mm H locs) (hl : lv_has ls 7 [(0, .ref (ad a0)), (1, .int a1), (2, .int a2), (3, .int a3)]) (hf : fX12_gives N a0 a1 a2 a3 mm = some res) : W p l e (rmX12_gives) s m args below meth c H locs 0 0 (MQ below (QI D ca ad res) args s 0 0 (AA ad)) (F0 m 0 ls []) := by
  unfold fX12_gives at hf
  refine lv_aload_n C.1 C.2.1 dX12_gives_0 rfl (lv_at hl 0 rfl) ?_
  refine lv_iload_n C.1 C.2.1 dX12_gives_1 rfl (lv_at hl 1 rfl) ?_
  refine lv_iconst (v := 0) C.1 C.2.1 dX12_gives_2 (by decide) ?_
  obtain ⟨x22, m23, r24, hf⟩ := bd2_s hf
  refine x_ci hW (x_runV C hW [.int a1, .int 0] [] (ha0).1 (ha0).2.1 kX12.1 kvX12_of q_1252 (tX12_of l C.2.2.2.2.2.2.1 ha0 r24) rfl rfl ⟨by decide, by decide⟩ rfl hl.1 rfl (Nat.le_of_ble_eq_true rfl) dX12_gives_3) (fun H locs hW => ?_)
  refine lv_iconst (v := 5) C.1 C.2.1 dX12_gives_6 (by decide) ?_
  refine lv_icmp_ne (tgt := 14) C.1 C.2.1 dX12_gives_7 (by decide) (fun c25 => ?_) (fun c25 => ?_)
  · have hf := if_f c25 hf
    refine lv_aload_n C.1 C.2.1 dX12_gives_14 rfl (lv_at hl 0 rfl) ?_
    refine lv_iload_n C.1 C.2.1 dX12_gives_15 rfl (lv_at hl 1 rfl) ?_
    refine lv_iconst (v := 0) C.1 C.2.1 dX12_gives_16 (by decide) ?_
    refine lv_iload_n C.1 C.2.1 dX12_gives_17 rfl (lv_at hl 2 rfl) ?_
    obtain ⟨x26, m27, r28, hf⟩ := bd2_s hf
    refine x_ci hW (x_runV C hW [.int a1, .int 0, .int a2] [] (ha0).1 (ha0).2.1 kX12.1 kvX12_weight q_1300 (tX12_weight l C.2.2.2.2.2.2.1 ha0 r28) rfl rfl ⟨by decide, by decide⟩ rfl hl.1 rfl (Nat.le_of_ble_eq_true rfl) dX12_gives_18) (fun H locs hW => ?_)
    exact wX12_gives_21 C  ha0 hW (lv_sub hl [0, 1, 3] rfl) hf
  · have hf := if_t c25 hf
    refine lv_iload_n C.1 C.2.1 dX12_gives_10 rfl (lv_at hl 2 rfl) ?_
    refine lv_goto (tgt := 21) C.1 C.2.1 dX12_gives_11 (by decide) ?_
    exact wX12_gives_21 C  ha0 hW (lv_sub hl [0, 1, 3] rfl) hf
set_option maxRecDepth 100000 in
set_option maxHeartbeats 4000000 in
theorem tX12_gives (l : Launch) {D : va_G} {ca ad : Nat → Nat} (hi : Inj ad) {N : Nat} {a0 : Nat} {a1 : Int32} {a2 : Int32} {a3 : Int32} {mm : Mm} {res : Int32 × Mm} (ha0 : sX12 a0) (hf : fX12_gives N a0 a1 a2 a3 mm = some res) : Met l yX12_gives (WS yX12_gives cX12_gives 7 (some .int)) (rmX12_gives) (va_Pc [.ref (ad a0), .int a1, .int a2, .int a3] (WB D ca ad mm)) (QI D ca ad res) 0 0 (AA ad) := by
  refine x_start hi (by decide) rfl (Nat.le_of_ble_eq_true rfl) (fun p e s m args below meth c ls C hW hl => ?_)
  exact wX12_gives_0 C ha0 hW (lv_sub hl [0, 1, 2, 3] rfl) hf
set_option maxRecDepth 100000 in
set_option maxHeartbeats 4000000 in
theorem wX12_answered_75 (C : Cx p s m meth c args cX12_answered 8 (some .int) RX12 D ca ad) {res : Int32 × Mm} {N : Nat} {k8 : Nat → Int32 → Int32 → Int32 → Int32 → Int32 → Int32 → Mm → Option (Int32 × Mm)} (hk8 : ∀ (a0 : Nat) (a1 : Int32) (a2 : Int32) (a3 : Int32) (a4 : Int32) (a5 : Int32) (a6 : Int32) (mm : Mm) (H : Heap) (locs : List Loc) (ls : Array Slot), (sX12 a0) → Wd D ca ad s.heap mm H locs → lv_has ls 8 [(0, .ref (ad a0)), (1, .int a1), (2, .int a2), (3, .int a3), (4, .int a4), (5, .int a5), (6, .int a6)] → k8 a0 a1 a2 a3 a4 a5 a6 mm = some res → W p l e (rmX12_answered) s m args below meth c H locs 0 0 (MQ below (QI D ca ad res) args s 0 0 (AA ad)) (F0 m 8 ls [])) {a0 : Nat} {a1 : Int32} {a2 : Int32} {a3 : Int32} {a4 : Int32} {a6 : Int32} {s0 : Int32} {mm : Mm} {H : Heap} {locs : List Loc} {ls : Array Slot} (ha0 : sX12 a0) (hW : Wd D ca ad s.heap mm H locs) (hl : lv_has ls 8 [(0, .ref (ad a0)), (1, .int a1), (2, .int a2), (3, .int a3), (4, .int a4), (6, .int a6)]) (hf : fX12_answered_75 N k8 a0 a1 a2 a3 a4 a6 s0 mm = some res) : W p l e (rmX12_answered) s m args below meth c H locs 0 0 (MQ below (QI D ca ad res) args s 0 0 (AA ad)) (F0 m 75 ls [.int s0]) := by
  unfold fX12_answered_75 at hf
  refine lv_istore (lv' := [(5, .int s0), (0, .ref (ad a0)), (1, .int a1), (2, .int a2), (3, .int a3), (4, .int a4), (6, .int a6)]) C.1 C.2.1 dX12_answered_75 hl (by decide) rfl (fun ls hl => ?_)
  refine lv_iinc (v := (a6 + 1)) (lv' := [(6, .int (a6 + 1)), (5, .int s0), (0, .ref (ad a0)), (1, .int a1), (2, .int a2), (3, .int a3), (4, .int a4)]) C.1 C.2.1 dX12_answered_77 hl (k := 6) rfl rfl (by decide) rfl (fun ls hl => ?_)
  refine lv_goto (tgt := 8) C.1 C.2.1 dX12_answered_80 (by decide) ?_
  exact hk8 _ _ _ _ _ _ _ _ _ _ _ ha0 hW (lv_sub hl [2, 3, 4, 5, 6, 1, 0] rfl) hf
set_option maxRecDepth 100000 in
set_option maxHeartbeats 4000000 in
theorem wX12_answered_58 (C : Cx p s m meth c args cX12_answered 8 (some .int) RX12 D ca ad) {res : Int32 × Mm} {N : Nat} {k8 : Nat → Int32 → Int32 → Int32 → Int32 → Int32 → Int32 → Mm → Option (Int32 × Mm)} (hk8 : ∀ (a0 : Nat) (a1 : Int32) (a2 : Int32) (a3 : Int32) (a4 : Int32) (a5 : Int32) (a6 : Int32) (mm : Mm) (H : Heap) (locs : List Loc) (ls : Array Slot), (sX12 a0) → Wd D ca ad s.heap mm H locs → lv_has ls 8 [(0, .ref (ad a0)), (1, .int a1), (2, .int a2), (3, .int a3), (4, .int a4), (5, .int a5), (6, .int a6)] → k8 a0 a1 a2 a3 a4 a5 a6 mm = some res → W p l e (rmX12_answered) s m args below meth c H locs 0 0 (MQ below (QI D ca ad res) args s 0 0 (AA ad)) (F0 m 8 ls [])) {a0 : Nat} {a1 : Int32} {a2 : Int32} {a3 : Int32} {a4 : Int32} {a5 : Int32} {a6 : Int32} {a7 : Int32} {s0 : Nat} {s1 : Int32} {mm : Mm} {H : Heap} {locs : List Loc} {ls : Array Slot} (ha0 : sX12 a0) (hs0 : sX12 s0) (hW : Wd D ca ad s.heap mm H locs) (hl : lv_has ls 8 [(0, .ref (ad a0)), (1, .int a1), (2, .int a2), (3, .int a3), (4, .int a4), (5, .int a5), (6, .int a6), (7, .int a7)]) (hf : fX12_answered_58 N k8 a0 a1 a2 a3 a4 a5 a6 a7 s0 s1 mm = some res) : W p l e (rmX12_answered) s m args below meth c H locs 0 0 (MQ below (QI D ca ad res) args s 0 0 (AA ad)) (F0 m 58 ls [.int s1, .ref (ad s0)]) := by
  unfold fX12_answered_58 at hf
  refine x_put C hW (hs0).1 (hs0).2.1 (j := 33) (t1 := .int) rfl kX12 (by decide) rfl rfl q_1049 (by decide +kernel) rfl rfl dX12_answered_58 (fun H locs hW => ?_)
  obtain ⟨m1, em1⟩ : ∃ z, z = wr mm s0 33 s1 := ⟨_, rfl⟩
  have hf := nm_s hf em1
  rw [← em1] at hW
  refine lv_iload C.1 C.2.1 dX12_answered_61 (lv_at hl 7 rfl) ?_
  refine lv_iload C.1 C.2.1 dX12_answered_63 (lv_at hl 5 rfl) ?_
  refine lv_icmp_ge (tgt := 73) C.1 C.2.1 dX12_answered_65 (by decide) (fun c2 => ?_) (fun c2 => ?_)
  · have hf := if_t c2 hf
    refine lv_iload C.1 C.2.1 dX12_answered_73 (lv_at hl 5 rfl) ?_
    exact wX12_answered_75 C hk8 ha0 hW (lv_sub hl [0, 1, 2, 3, 4, 6] rfl) hf
  · have hf := if_f c2 hf
    refine lv_iload C.1 C.2.1 dX12_answered_68 (lv_at hl 7 rfl) ?_
    refine lv_goto (tgt := 75) C.1 C.2.1 dX12_answered_70 (by decide) ?_
    exact wX12_answered_75 C hk8 ha0 hW (lv_sub hl [0, 1, 2, 3, 4, 6] rfl) hf
set_option maxRecDepth 100000 in
set_option maxHeartbeats 4000000 in
theorem wX12_answered_8 (C : Cx p s m meth c args cX12_answered 8 (some .int) RX12 D ca ad) {res : Int32 × Mm} {N : Nat}  : ∀ (n : Nat) {a0 : Nat} {a1 : Int32} {a2 : Int32} {a3 : Int32} {a4 : Int32} {a5 : Int32} {a6 : Int32} {mm : Mm} {H : Heap} {locs : List Loc} {ls : Array Slot}, (sX12 a0) → Wd D ca ad s.heap mm H locs → lv_has ls 8 [(0, .ref (ad a0)), (1, .int a1), (2, .int a2), (3, .int a3), (4, .int a4), (5, .int a5), (6, .int a6)] → fX12_answered_8 N n a0 a1 a2 a3 a4 a5 a6 mm = some res → W p l e (rmX12_answered) s m args below meth c H locs 0 0 (MQ below (QI D ca ad res) args s 0 0 (AA ad)) (F0 m 8 ls []) := by
  intro n
  induction n with
  | zero => intro a0 a1 a2 a3 a4 a5 a6 mm H locs ls ha0 hW hl hf; cases hf
  | succ n ih =>
    intro a0 a1 a2 a3 a4 a5 a6 mm H locs ls ha0 hW hl hf
    have hk8 : ∀ (a0 : Nat) (a1 : Int32) (a2 : Int32) (a3 : Int32) (a4 : Int32) (a5 : Int32) (a6 : Int32) (mm : Mm) (H : Heap) (locs : List Loc) (ls : Array Slot), (sX12 a0) → Wd D ca ad s.heap mm H locs → lv_has ls 8 [(0, .ref (ad a0)), (1, .int a1), (2, .int a2), (3, .int a3), (4, .int a4), (5, .int a5), (6, .int a6)] → (fX12_answered_8 N n) a0 a1 a2 a3 a4 a5 a6 mm = some res → W p l e (rmX12_answered) s m args below meth c H locs 0 0 (MQ below (QI D ca ad res) args s 0 0 (AA ad)) (F0 m 8 ls []) := fun a0 a1 a2 a3 a4 a5 a6 mm H locs ls ha0 hW hl hf => ih ha0 hW hl hf
    unfold fX12_answered_8 at hf
    try dsimp only at hf
    refine lv_iload C.1 C.2.1 dX12_answered_8 (lv_at hl 6 rfl) ?_
    refine lv_iload_n C.1 C.2.1 dX12_answered_10 rfl (lv_at hl 3 rfl) ?_
    refine lv_icmp_gt (tgt := 83) C.1 C.2.1 dX12_answered_11 (by decide) (fun c3 => ?_) (fun c3 => ?_)
    · have hf := if_t c3 hf
      refine lv_iload C.1 C.2.1 dX12_answered_83 (lv_at hl 5 rfl) ?_
      cases hf
      exact x_iret C hW dX12_answered_85
    · have hf := if_f c3 hf
      refine lv_aload_n C.1 C.2.1 dX12_answered_14 rfl (lv_at hl 0 rfl) ?_
      refine lv_iload_n C.1 C.2.1 dX12_answered_15 rfl (lv_at hl 1 rfl) ?_
      refine lv_iload C.1 C.2.1 dX12_answered_16 (lv_at hl 4 rfl) ?_
      refine lv_iload C.1 C.2.1 dX12_answered_18 (lv_at hl 6 rfl) ?_
      obtain ⟨x4, m5, r6, hf⟩ := bd2_s hf
      refine x_ci hW (x_runV C hW [.int a1, .int a4, .int a6] [] (ha0).1 (ha0).2.1 kX12.1 kvX12_gives q_1427 (tX12_gives l C.2.2.2.2.2.2.1 ha0 r6) rfl rfl ⟨by decide, by decide⟩ rfl hl.1 rfl (Nat.le_of_ble_eq_true rfl) dX12_answered_20) (fun H locs hW => ?_)
      refine lv_aload_n C.1 C.2.1 dX12_answered_23 rfl (lv_at hl 0 rfl) ?_
      refine lv_iload_n C.1 C.2.1 dX12_answered_24 rfl (lv_at hl 1 rfl) ?_
      refine lv_iconst (v := 1) C.1 C.2.1 dX12_answered_25 (by decide) ?_
      refine lv_iadd C.1 C.2.1 dX12_answered_26 ?_
      refine lv_iload_n C.1 C.2.1 dX12_answered_27 rfl (lv_at hl 2 rfl) ?_
      refine lv_iload C.1 C.2.1 dX12_answered_28 (lv_at hl 4 rfl) ?_
      refine lv_isub C.1 C.2.1 dX12_answered_30 ?_
      refine lv_iload_n C.1 C.2.1 dX12_answered_31 rfl (lv_at hl 3 rfl) ?_
      refine lv_iload C.1 C.2.1 dX12_answered_32 (lv_at hl 6 rfl) ?_
      refine lv_isub C.1 C.2.1 dX12_answered_34 ?_
      obtain ⟨x7, m8, r9, hf⟩ := bd2_s hf
      refine x_ci hW (x_runV C hW [.int (a1 + 1), .int (a2 - a4), .int (a3 - a6)] [.int x4] (ha0).1 (ha0).2.1 kX12.1 kvX12_turnAt q_1431 (tX12_turnAt l C.2.2.2.2.2.2.1 ha0 r9) rfl rfl ⟨by decide, by decide⟩ rfl hl.1 rfl (Nat.le_of_ble_eq_true rfl) dX12_answered_35) (fun H locs hW => ?_)
      refine lv_iadd C.1 C.2.1 dX12_answered_38 ?_
      refine lv_istore (lv' := [(7, .int (x4 + x7)), (0, .ref (ad a0)), (1, .int a1), (2, .int a2), (3, .int a3), (4, .int a4), (5, .int a5), (6, .int a6)]) C.1 C.2.1 dX12_answered_39 hl (by decide) rfl (fun ls hl => ?_)
      refine lv_aload_n C.1 C.2.1 dX12_answered_41 rfl (lv_at hl 1 rfl) ?_
      refine lv_iload C.1 C.2.1 dX12_answered_42 (lv_at hl 0 rfl) ?_
      refine lv_iload C.1 C.2.1 dX12_answered_44 (lv_at hl 6 rfl) ?_
      refine lv_icmp_ge (tgt := 54) C.1 C.2.1 dX12_answered_46 (by decide) (fun c10 => ?_) (fun c10 => ?_)
      · have hf := if_t c10 hf
        refine lv_aload_n C.1 C.2.1 dX12_answered_54 rfl (lv_at hl 1 rfl) ?_
        refine x_geti C hW (ha0).1 (ha0).2.1 (j := 33) rfl kX12 (by decide) rfl q_1049 dX12_answered_55 ?_
        exact wX12_answered_58 C hk8 ha0 ha0 hW (lv_sub hl [1, 2, 3, 4, 5, 6, 7, 0] rfl) hf
      · have hf := if_f c10 hf
        refine lv_iload C.1 C.2.1 dX12_answered_49 (lv_at hl 7 rfl) ?_
        refine lv_goto (tgt := 58) C.1 C.2.1 dX12_answered_51 (by decide) ?_
        exact wX12_answered_58 C hk8 ha0 ha0 hW (lv_sub hl [1, 2, 3, 4, 5, 6, 7, 0] rfl) hf
set_option maxRecDepth 100000 in
set_option maxHeartbeats 4000000 in
theorem wX12_answered_0 (C : Cx p s m meth c args cX12_answered 8 (some .int) RX12 D ca ad) {res : Int32 × Mm} {N : Nat}  {a0 : Nat} {a1 : Int32} {a2 : Int32} {a3 : Int32} {a4 : Int32} {mm : Mm} {H : Heap} {locs : List Loc} {ls : Array Slot} (ha0 : sX12 a0) (hW : Wd D ca ad s.heap mm H locs) (hl : lv_has ls 8 [(0, .ref (ad a0)), (1, .int a1), (2, .int a2), (3, .int a3), (4, .int a4)]) (hf : fX12_answered N a0 a1 a2 a3 a4 mm = some res) : W p l e (rmX12_answered) s m args below meth c H locs 0 0 (MQ below (QI D ca ad res) args s 0 0 (AA ad)) (F0 m 0 ls []) := by
  unfold fX12_answered at hf
  refine lv_sipush (v := 1000) C.1 C.2.1 dX12_answered_0 (by decide) ?_
  refine lv_istore (lv' := [(5, .int 1000), (0, .ref (ad a0)), (1, .int a1), (2, .int a2), (3, .int a3), (4, .int a4)]) C.1 C.2.1 dX12_answered_3 hl (by decide) rfl (fun ls hl => ?_)
  refine lv_iconst (v := 0) C.1 C.2.1 dX12_answered_5 (by decide) ?_
  refine lv_istore (lv' := [(6, .int 0), (5, .int 1000), (0, .ref (ad a0)), (1, .int a1), (2, .int a2), (3, .int a3), (4, .int a4)]) C.1 C.2.1 dX12_answered_6 hl (by decide) rfl (fun ls hl => ?_)
  exact wX12_answered_8 C  N ha0 hW (lv_sub hl [2, 3, 4, 5, 6, 1, 0] rfl) hf
set_option maxRecDepth 100000 in
set_option maxHeartbeats 4000000 in
theorem tX12_answered (l : Launch) {D : va_G} {ca ad : Nat → Nat} (hi : Inj ad) {N : Nat} {a0 : Nat} {a1 : Int32} {a2 : Int32} {a3 : Int32} {a4 : Int32} {mm : Mm} {res : Int32 × Mm} (ha0 : sX12 a0) (hf : fX12_answered N a0 a1 a2 a3 a4 mm = some res) : Met l yX12_answered (WS yX12_answered cX12_answered 8 (some .int)) (rmX12_answered) (va_Pc [.ref (ad a0), .int a1, .int a2, .int a3, .int a4] (WB D ca ad mm)) (QI D ca ad res) 0 0 (AA ad) := by
  refine x_start hi (by decide) rfl (Nat.le_of_ble_eq_true rfl) (fun p e s m args below meth c ls C hW hl => ?_)
  exact wX12_answered_0 C ha0 hW (lv_sub hl [0, 1, 2, 3, 4] rfl) hf
set_option maxRecDepth 100000 in
set_option maxHeartbeats 4000000 in
theorem wX12_laidIn_59 (C : Cx p s m meth c args cX12_laidIn 7 (some .int) RX12 D ca ad) {res : Int32 × Mm} {N : Nat} {k8 : Nat → Int32 → Int32 → Int32 → Int32 → Int32 → Mm → Option (Int32 × Mm)} (hk8 : ∀ (a0 : Nat) (a1 : Int32) (a2 : Int32) (a3 : Int32) (a4 : Int32) (a5 : Int32) (mm : Mm) (H : Heap) (locs : List Loc) (ls : Array Slot), (sX12 a0) → Wd D ca ad s.heap mm H locs → lv_has ls 7 [(0, .ref (ad a0)), (1, .int a1), (2, .int a2), (3, .int a3), (4, .int a4), (5, .int a5)] → k8 a0 a1 a2 a3 a4 a5 mm = some res → W p l e (rmX12_laidIn) s m args below meth c H locs 0 0 (MQ below (QI D ca ad res) args s 0 0 (AA ad)) (F0 m 8 ls [])) {a0 : Nat} {a1 : Int32} {a2 : Int32} {a3 : Int32} {a5 : Int32} {s0 : Int32} {mm : Mm} {H : Heap} {locs : List Loc} {ls : Array Slot} (ha0 : sX12 a0) (hW : Wd D ca ad s.heap mm H locs) (hl : lv_has ls 7 [(0, .ref (ad a0)), (1, .int a1), (2, .int a2), (3, .int a3), (5, .int a5)]) (hf : fX12_laidIn_59 N k8 a0 a1 a2 a3 a5 s0 mm = some res) : W p l e (rmX12_laidIn) s m args below meth c H locs 0 0 (MQ below (QI D ca ad res) args s 0 0 (AA ad)) (F0 m 59 ls [.int s0]) := by
  unfold fX12_laidIn_59 at hf
  refine lv_istore (lv' := [(4, .int s0), (0, .ref (ad a0)), (1, .int a1), (2, .int a2), (3, .int a3), (5, .int a5)]) C.1 C.2.1 dX12_laidIn_59 hl (by decide) rfl (fun ls hl => ?_)
  refine lv_iinc (v := (a5 + 1)) (lv' := [(5, .int (a5 + 1)), (4, .int s0), (0, .ref (ad a0)), (1, .int a1), (2, .int a2), (3, .int a3)]) C.1 C.2.1 dX12_laidIn_61 hl (k := 5) rfl rfl (by decide) rfl (fun ls hl => ?_)
  refine lv_goto (tgt := 8) C.1 C.2.1 dX12_laidIn_64 (by decide) ?_
  exact hk8 _ _ _ _ _ _ _ _ _ _ ha0 hW (lv_sub hl [2, 3, 4, 5, 1, 0] rfl) hf
set_option maxRecDepth 100000 in
set_option maxHeartbeats 4000000 in
theorem wX12_laidIn_42 (C : Cx p s m meth c args cX12_laidIn 7 (some .int) RX12 D ca ad) {res : Int32 × Mm} {N : Nat} {k8 : Nat → Int32 → Int32 → Int32 → Int32 → Int32 → Mm → Option (Int32 × Mm)} (hk8 : ∀ (a0 : Nat) (a1 : Int32) (a2 : Int32) (a3 : Int32) (a4 : Int32) (a5 : Int32) (mm : Mm) (H : Heap) (locs : List Loc) (ls : Array Slot), (sX12 a0) → Wd D ca ad s.heap mm H locs → lv_has ls 7 [(0, .ref (ad a0)), (1, .int a1), (2, .int a2), (3, .int a3), (4, .int a4), (5, .int a5)] → k8 a0 a1 a2 a3 a4 a5 mm = some res → W p l e (rmX12_laidIn) s m args below meth c H locs 0 0 (MQ below (QI D ca ad res) args s 0 0 (AA ad)) (F0 m 8 ls [])) {a0 : Nat} {a1 : Int32} {a2 : Int32} {a3 : Int32} {a4 : Int32} {a5 : Int32} {a6 : Int32} {s0 : Nat} {s1 : Int32} {mm : Mm} {H : Heap} {locs : List Loc} {ls : Array Slot} (ha0 : sX12 a0) (hs0 : sX12 s0) (hW : Wd D ca ad s.heap mm H locs) (hl : lv_has ls 7 [(0, .ref (ad a0)), (1, .int a1), (2, .int a2), (3, .int a3), (4, .int a4), (5, .int a5), (6, .int a6)]) (hf : fX12_laidIn_42 N k8 a0 a1 a2 a3 a4 a5 a6 s0 s1 mm = some res) : W p l e (rmX12_laidIn) s m args below meth c H locs 0 0 (MQ below (QI D ca ad res) args s 0 0 (AA ad)) (F0 m 42 ls [.int s1, .ref (ad s0)]) := by
  unfold fX12_laidIn_42 at hf
  refine x_put C hW (hs0).1 (hs0).2.1 (j := 34) (t1 := .int) rfl kX12 (by decide) rfl rfl q_1050 (by decide +kernel) rfl rfl dX12_laidIn_42 (fun H locs hW => ?_)
  obtain ⟨m1, em1⟩ : ∃ z, z = wr mm s0 34 s1 := ⟨_, rfl⟩
  have hf := nm_s hf em1
  rw [← em1] at hW
  refine lv_iload C.1 C.2.1 dX12_laidIn_45 (lv_at hl 6 rfl) ?_
  refine lv_iload C.1 C.2.1 dX12_laidIn_47 (lv_at hl 4 rfl) ?_
  refine lv_icmp_le (tgt := 57) C.1 C.2.1 dX12_laidIn_49 (by decide) (fun c2 => ?_) (fun c2 => ?_)
  · have hf := if_t c2 hf
    refine lv_iload C.1 C.2.1 dX12_laidIn_57 (lv_at hl 4 rfl) ?_
    exact wX12_laidIn_59 C hk8 ha0 hW (lv_sub hl [0, 1, 2, 3, 5] rfl) hf
  · have hf := if_f c2 hf
    refine lv_iload C.1 C.2.1 dX12_laidIn_52 (lv_at hl 6 rfl) ?_
    refine lv_goto (tgt := 59) C.1 C.2.1 dX12_laidIn_54 (by decide) ?_
    exact wX12_laidIn_59 C hk8 ha0 hW (lv_sub hl [0, 1, 2, 3, 5] rfl) hf
set_option maxRecDepth 100000 in
set_option maxHeartbeats 4000000 in
theorem wX12_laidIn_8 (C : Cx p s m meth c args cX12_laidIn 7 (some .int) RX12 D ca ad) {res : Int32 × Mm} {N : Nat}  : ∀ (n : Nat) {a0 : Nat} {a1 : Int32} {a2 : Int32} {a3 : Int32} {a4 : Int32} {a5 : Int32} {mm : Mm} {H : Heap} {locs : List Loc} {ls : Array Slot}, (sX12 a0) → Wd D ca ad s.heap mm H locs → lv_has ls 7 [(0, .ref (ad a0)), (1, .int a1), (2, .int a2), (3, .int a3), (4, .int a4), (5, .int a5)] → fX12_laidIn_8 N n a0 a1 a2 a3 a4 a5 mm = some res → W p l e (rmX12_laidIn) s m args below meth c H locs 0 0 (MQ below (QI D ca ad res) args s 0 0 (AA ad)) (F0 m 8 ls []) := by
  intro n
  induction n with
  | zero => intro a0 a1 a2 a3 a4 a5 mm H locs ls ha0 hW hl hf; cases hf
  | succ n ih =>
    intro a0 a1 a2 a3 a4 a5 mm H locs ls ha0 hW hl hf
    have hk8 : ∀ (a0 : Nat) (a1 : Int32) (a2 : Int32) (a3 : Int32) (a4 : Int32) (a5 : Int32) (mm : Mm) (H : Heap) (locs : List Loc) (ls : Array Slot), (sX12 a0) → Wd D ca ad s.heap mm H locs → lv_has ls 7 [(0, .ref (ad a0)), (1, .int a1), (2, .int a2), (3, .int a3), (4, .int a4), (5, .int a5)] → (fX12_laidIn_8 N n) a0 a1 a2 a3 a4 a5 mm = some res → W p l e (rmX12_laidIn) s m args below meth c H locs 0 0 (MQ below (QI D ca ad res) args s 0 0 (AA ad)) (F0 m 8 ls []) := fun a0 a1 a2 a3 a4 a5 mm H locs ls ha0 hW hl hf => ih ha0 hW hl hf
    unfold fX12_laidIn_8 at hf
    try dsimp only at hf
    refine lv_iload C.1 C.2.1 dX12_laidIn_8 (lv_at hl 5 rfl) ?_
    refine lv_iload_n C.1 C.2.1 dX12_laidIn_10 rfl (lv_at hl 2 rfl) ?_
    refine lv_icmp_gt (tgt := 67) C.1 C.2.1 dX12_laidIn_11 (by decide) (fun c3 => ?_) (fun c3 => ?_)
    · have hf := if_t c3 hf
      refine lv_iload C.1 C.2.1 dX12_laidIn_67 (lv_at hl 4 rfl) ?_
      cases hf
      exact x_iret C hW dX12_laidIn_69
    · have hf := if_f c3 hf
      refine lv_aload_n C.1 C.2.1 dX12_laidIn_14 rfl (lv_at hl 0 rfl) ?_
      refine lv_iload_n C.1 C.2.1 dX12_laidIn_15 rfl (lv_at hl 1 rfl) ?_
      refine lv_iload_n C.1 C.2.1 dX12_laidIn_16 rfl (lv_at hl 2 rfl) ?_
      refine lv_iload_n C.1 C.2.1 dX12_laidIn_17 rfl (lv_at hl 3 rfl) ?_
      refine lv_iload C.1 C.2.1 dX12_laidIn_18 (lv_at hl 5 rfl) ?_
      obtain ⟨x4, m5, r6, hf⟩ := bd2_s hf
      refine x_ci hW (x_runV C hW [.int a1, .int a2, .int a3, .int a5] [] (ha0).1 (ha0).2.1 kX12.1 kvX12_answered q_1423 (tX12_answered l C.2.2.2.2.2.2.1 ha0 r6) rfl rfl ⟨by decide, by decide⟩ rfl hl.1 rfl (Nat.le_of_ble_eq_true rfl) dX12_laidIn_20) (fun H locs hW => ?_)
      refine lv_istore (lv' := [(6, .int x4), (0, .ref (ad a0)), (1, .int a1), (2, .int a2), (3, .int a3), (4, .int a4), (5, .int a5)]) C.1 C.2.1 dX12_laidIn_23 hl (by decide) rfl (fun ls hl => ?_)
      refine lv_aload_n C.1 C.2.1 dX12_laidIn_25 rfl (lv_at hl 1 rfl) ?_
      refine lv_iload C.1 C.2.1 dX12_laidIn_26 (lv_at hl 0 rfl) ?_
      refine lv_iload C.1 C.2.1 dX12_laidIn_28 (lv_at hl 5 rfl) ?_
      refine lv_icmp_le (tgt := 38) C.1 C.2.1 dX12_laidIn_30 (by decide) (fun c7 => ?_) (fun c7 => ?_)
      · have hf := if_t c7 hf
        refine lv_aload_n C.1 C.2.1 dX12_laidIn_38 rfl (lv_at hl 1 rfl) ?_
        refine x_geti C hW (ha0).1 (ha0).2.1 (j := 34) rfl kX12 (by decide) rfl q_1050 dX12_laidIn_39 ?_
        exact wX12_laidIn_42 C hk8 ha0 ha0 hW (lv_sub hl [1, 2, 3, 4, 5, 6, 0] rfl) hf
      · have hf := if_f c7 hf
        refine lv_iload C.1 C.2.1 dX12_laidIn_33 (lv_at hl 6 rfl) ?_
        refine lv_goto (tgt := 42) C.1 C.2.1 dX12_laidIn_35 (by decide) ?_
        exact wX12_laidIn_42 C hk8 ha0 ha0 hW (lv_sub hl [1, 2, 3, 4, 5, 6, 0] rfl) hf
set_option maxRecDepth 100000 in
set_option maxHeartbeats 4000000 in
theorem wX12_laidIn_0 (C : Cx p s m meth c args cX12_laidIn 7 (some .int) RX12 D ca ad) {res : Int32 × Mm} {N : Nat}  {a0 : Nat} {a1 : Int32} {a2 : Int32} {a3 : Int32} {mm : Mm} {H : Heap} {locs : List Loc} {ls : Array Slot} (ha0 : sX12 a0) (hW : Wd D ca ad s.heap mm H locs) (hl : lv_has ls 7 [(0, .ref (ad a0)), (1, .int a1), (2, .int a2), (3, .int a3)]) (hf : fX12_laidIn N a0 a1 a2 a3 mm = some res) : W p l e (rmX12_laidIn) s m args below meth c H locs 0 0 (MQ below (QI D ca ad res) args s 0 0 (AA ad)) (F0 m 0 ls []) := by
  unfold fX12_laidIn at hf
  refine lv_sipush (v := (-1000)) C.1 C.2.1 dX12_laidIn_0 (by decide) ?_
  refine lv_istore (lv' := [(4, .int (-1000)), (0, .ref (ad a0)), (1, .int a1), (2, .int a2), (3, .int a3)]) C.1 C.2.1 dX12_laidIn_3 hl (by decide) rfl (fun ls hl => ?_)
  refine lv_iconst (v := 0) C.1 C.2.1 dX12_laidIn_5 (by decide) ?_
  refine lv_istore (lv' := [(5, .int 0), (4, .int (-1000)), (0, .ref (ad a0)), (1, .int a1), (2, .int a2), (3, .int a3)]) C.1 C.2.1 dX12_laidIn_6 hl (by decide) rfl (fun ls hl => ?_)
  exact wX12_laidIn_8 C  N ha0 hW (lv_sub hl [2, 3, 4, 5, 1, 0] rfl) hf
set_option maxRecDepth 100000 in
set_option maxHeartbeats 4000000 in
theorem tX12_laidIn (l : Launch) {D : va_G} {ca ad : Nat → Nat} (hi : Inj ad) {N : Nat} {a0 : Nat} {a1 : Int32} {a2 : Int32} {a3 : Int32} {mm : Mm} {res : Int32 × Mm} (ha0 : sX12 a0) (hf : fX12_laidIn N a0 a1 a2 a3 mm = some res) : Met l yX12_laidIn (WS yX12_laidIn cX12_laidIn 7 (some .int)) (rmX12_laidIn) (va_Pc [.ref (ad a0), .int a1, .int a2, .int a3] (WB D ca ad mm)) (QI D ca ad res) 0 0 (AA ad) := by
  refine x_start hi (by decide) rfl (Nat.le_of_ble_eq_true rfl) (fun p e s m args below meth c ls C hW hl => ?_)
  exact wX12_laidIn_0 C ha0 hW (lv_sub hl [0, 1, 2, 3] rfl) hf
set_option maxRecDepth 100000 in
set_option maxHeartbeats 4000000 in
theorem wX12_setTurns_52 (C : Cx p s m meth c args cX12_setTurns 4 none RX12 D ca ad) {res : Unit × Mm} {N : Nat} {k38 : Nat → Int32 → Mm → Option (Unit × Mm)} {k44 : Nat → Int32 → Int32 → Mm → Option (Unit × Mm)} (hk38 : ∀ (a0 : Nat) (a1 : Int32) (mm : Mm) (H : Heap) (locs : List Loc) (ls : Array Slot), (sX12 a0) → Wd D ca ad s.heap mm H locs → lv_has ls 4 [(0, .ref (ad a0)), (1, .int a1)] → k38 a0 a1 mm = some res → W p l e (rmX12_setTurns) s m args below meth c H locs 0 0 (MQ below (QV D ca ad res) args s 0 0 (AA ad)) (F0 m 38 ls [])) (hk44 : ∀ (a0 : Nat) (a1 : Int32) (a2 : Int32) (mm : Mm) (H : Heap) (locs : List Loc) (ls : Array Slot), (sX12 a0) → Wd D ca ad s.heap mm H locs → lv_has ls 4 [(0, .ref (ad a0)), (1, .int a1), (2, .int a2)] → k44 a0 a1 a2 mm = some res → W p l e (rmX12_setTurns) s m args below meth c H locs 0 0 (MQ below (QV D ca ad res) args s 0 0 (AA ad)) (F0 m 44 ls [])) : ∀ (n : Nat) {a0 : Nat} {a1 : Int32} {a2 : Int32} {a3 : Int32} {mm : Mm} {H : Heap} {locs : List Loc} {ls : Array Slot}, (sX12 a0) → Wd D ca ad s.heap mm H locs → lv_has ls 4 [(0, .ref (ad a0)), (1, .int a1), (2, .int a2), (3, .int a3)] → fX12_setTurns_52 N k38 k44 n a0 a1 a2 a3 mm = some res → W p l e (rmX12_setTurns) s m args below meth c H locs 0 0 (MQ below (QV D ca ad res) args s 0 0 (AA ad)) (F0 m 52 ls []) := by
  intro n
  induction n with
  | zero => intro a0 a1 a2 a3 mm H locs ls ha0 hW hl hf; cases hf
  | succ n ih =>
    intro a0 a1 a2 a3 mm H locs ls ha0 hW hl hf
    have hk52 : ∀ (a0 : Nat) (a1 : Int32) (a2 : Int32) (a3 : Int32) (mm : Mm) (H : Heap) (locs : List Loc) (ls : Array Slot), (sX12 a0) → Wd D ca ad s.heap mm H locs → lv_has ls 4 [(0, .ref (ad a0)), (1, .int a1), (2, .int a2), (3, .int a3)] → (fX12_setTurns_52 N k38 k44 n) a0 a1 a2 a3 mm = some res → W p l e (rmX12_setTurns) s m args below meth c H locs 0 0 (MQ below (QV D ca ad res) args s 0 0 (AA ad)) (F0 m 52 ls []) := fun a0 a1 a2 a3 mm H locs ls ha0 hW hl hf => ih ha0 hW hl hf
    unfold fX12_setTurns_52 at hf
    try dsimp only at hf
    refine lv_iload_n C.1 C.2.1 dX12_setTurns_52 rfl (lv_at hl 3 rfl) ?_
    refine lv_bipush (v := 15) C.1 C.2.1 dX12_setTurns_53 (by decide) ?_
    refine lv_icmp_gt (tgt := 88) C.1 C.2.1 dX12_setTurns_55 (by decide) (fun c1 => ?_) (fun c1 => ?_)
    · have hf := if_t c1 hf
      refine lv_iinc (v := (a2 + 1)) (lv' := [(2, .int (a2 + 1)), (0, .ref (ad a0)), (1, .int a1), (3, .int a3)]) C.1 C.2.1 dX12_setTurns_88 hl (k := 2) rfl rfl (by decide) rfl (fun ls hl => ?_)
      refine lv_goto (tgt := 44) C.1 C.2.1 dX12_setTurns_91 (by decide) ?_
      exact hk44 _ _ _ _ _ _ _ ha0 hW (lv_sub hl [1, 2, 0] rfl) hf
    · have hf := if_f c1 hf
      refine lv_aload_n C.1 C.2.1 dX12_setTurns_58 rfl (lv_at hl 0 rfl) ?_
      refine x_getr C hW (ha0).1 (ha0).2.1 (j := 32) rfl kX12 (by decide) rfl q_1048 dX12_setTurns_59 ?_
      refine lv_sipush (v := 256) C.1 C.2.1 dX12_setTurns_62 (by decide) ?_
      refine lv_iload_n C.1 C.2.1 dX12_setTurns_65 rfl (lv_at hl 1 rfl) ?_
      refine lv_imul C.1 C.2.1 dX12_setTurns_66 ?_
      refine lv_bipush (v := 16) C.1 C.2.1 dX12_setTurns_67 (by decide) ?_
      refine lv_iload_n C.1 C.2.1 dX12_setTurns_69 rfl (lv_at hl 2 rfl) ?_
      refine lv_imul C.1 C.2.1 dX12_setTurns_70 ?_
      refine lv_iadd C.1 C.2.1 dX12_setTurns_71 ?_
      refine lv_iload_n C.1 C.2.1 dX12_setTurns_72 rfl (lv_at hl 3 rfl) ?_
      refine lv_iadd C.1 C.2.1 dX12_setTurns_73 ?_
      refine lv_aload_n C.1 C.2.1 dX12_setTurns_74 rfl (lv_at hl 0 rfl) ?_
      refine lv_iload_n C.1 C.2.1 dX12_setTurns_75 rfl (lv_at hl 1 rfl) ?_
      refine lv_iload_n C.1 C.2.1 dX12_setTurns_76 rfl (lv_at hl 2 rfl) ?_
      refine lv_iload_n C.1 C.2.1 dX12_setTurns_77 rfl (lv_at hl 3 rfl) ?_
      obtain ⟨x2, m3, r4, hf⟩ := bd2_s hf
      refine x_ci hW (x_runV C hW [.int a1, .int a2, .int a3] [.int (((256 * a1) + (16 * a2)) + a3), .ref (ad (fr a0 32))] (ha0).1 (ha0).2.1 kX12.1 kvX12_laidIn q_1419 (tX12_laidIn l C.2.2.2.2.2.2.1 ha0 r4) rfl rfl ⟨by decide, by decide⟩ rfl hl.1 rfl (Nat.le_of_ble_eq_true rfl) dX12_setTurns_78) (fun H locs hW => ?_)
      obtain ⟨g5, hf⟩ := gd_s hf
      refine x_iast C hW ha0.2.2.2.2.2.2.2.2.2.2.2.2.2.2.2.2.2.1 g5 dX12_setTurns_81 (fun H locs hW => ?_)
      obtain ⟨m6, em6⟩ : ∃ z, z = wr m3 (fr a0 32) (((256 * a1) + (16 * a2)) + a3).toNatClampNeg x2 := ⟨_, rfl⟩
      have hf := nm_s hf em6
      rw [← em6] at hW
      refine lv_iinc (v := (a3 + 1)) (lv' := [(3, .int (a3 + 1)), (0, .ref (ad a0)), (1, .int a1), (2, .int a2)]) C.1 C.2.1 dX12_setTurns_82 hl (k := 3) rfl rfl (by decide) rfl (fun ls hl => ?_)
      refine lv_goto (tgt := 52) C.1 C.2.1 dX12_setTurns_85 (by decide) ?_
      exact hk52 _ _ _ _ _ _ _ _ ha0 hW (lv_sub hl [1, 2, 3, 0] rfl) hf
set_option maxRecDepth 100000 in
set_option maxHeartbeats 4000000 in
theorem wX12_setTurns_44 (C : Cx p s m meth c args cX12_setTurns 4 none RX12 D ca ad) {res : Unit × Mm} {N : Nat} {k38 : Nat → Int32 → Mm → Option (Unit × Mm)} (hk38 : ∀ (a0 : Nat) (a1 : Int32) (mm : Mm) (H : Heap) (locs : List Loc) (ls : Array Slot), (sX12 a0) → Wd D ca ad s.heap mm H locs → lv_has ls 4 [(0, .ref (ad a0)), (1, .int a1)] → k38 a0 a1 mm = some res → W p l e (rmX12_setTurns) s m args below meth c H locs 0 0 (MQ below (QV D ca ad res) args s 0 0 (AA ad)) (F0 m 38 ls [])) : ∀ (n : Nat) {a0 : Nat} {a1 : Int32} {a2 : Int32} {mm : Mm} {H : Heap} {locs : List Loc} {ls : Array Slot}, (sX12 a0) → Wd D ca ad s.heap mm H locs → lv_has ls 4 [(0, .ref (ad a0)), (1, .int a1), (2, .int a2)] → fX12_setTurns_44 N k38 n a0 a1 a2 mm = some res → W p l e (rmX12_setTurns) s m args below meth c H locs 0 0 (MQ below (QV D ca ad res) args s 0 0 (AA ad)) (F0 m 44 ls []) := by
  intro n
  induction n with
  | zero => intro a0 a1 a2 mm H locs ls ha0 hW hl hf; cases hf
  | succ n ih =>
    intro a0 a1 a2 mm H locs ls ha0 hW hl hf
    have hk44 : ∀ (a0 : Nat) (a1 : Int32) (a2 : Int32) (mm : Mm) (H : Heap) (locs : List Loc) (ls : Array Slot), (sX12 a0) → Wd D ca ad s.heap mm H locs → lv_has ls 4 [(0, .ref (ad a0)), (1, .int a1), (2, .int a2)] → (fX12_setTurns_44 N k38 n) a0 a1 a2 mm = some res → W p l e (rmX12_setTurns) s m args below meth c H locs 0 0 (MQ below (QV D ca ad res) args s 0 0 (AA ad)) (F0 m 44 ls []) := fun a0 a1 a2 mm H locs ls ha0 hW hl hf => ih ha0 hW hl hf
    unfold fX12_setTurns_44 at hf
    try dsimp only at hf
    refine lv_iload_n C.1 C.2.1 dX12_setTurns_44 rfl (lv_at hl 2 rfl) ?_
    refine lv_bipush (v := 15) C.1 C.2.1 dX12_setTurns_45 (by decide) ?_
    refine lv_icmp_gt (tgt := 94) C.1 C.2.1 dX12_setTurns_47 (by decide) (fun c7 => ?_) (fun c7 => ?_)
    · have hf := if_t c7 hf
      refine lv_iinc (v := (a1 + (-1))) (lv' := [(1, .int (a1 + (-1))), (0, .ref (ad a0)), (2, .int a2)]) C.1 C.2.1 dX12_setTurns_94 hl (k := 1) rfl rfl (by decide) rfl (fun ls hl => ?_)
      refine lv_goto (tgt := 38) C.1 C.2.1 dX12_setTurns_97 (by decide) ?_
      exact hk38 _ _ _ _ _ _ ha0 hW (lv_sub hl [1, 0] rfl) hf
    · have hf := if_f c7 hf
      refine lv_iconst (v := 0) C.1 C.2.1 dX12_setTurns_50 (by decide) ?_
      refine lv_istore_n (lv' := [(3, .int 0), (0, .ref (ad a0)), (1, .int a1), (2, .int a2)]) C.1 C.2.1 dX12_setTurns_51 rfl hl (by decide) rfl (fun ls hl => ?_)
      exact wX12_setTurns_52 C hk38 hk44 N ha0 hW (lv_sub hl [1, 2, 3, 0] rfl) hf
set_option maxRecDepth 100000 in
set_option maxHeartbeats 4000000 in
theorem wX12_setTurns_38 (C : Cx p s m meth c args cX12_setTurns 4 none RX12 D ca ad) {res : Unit × Mm} {N : Nat}  : ∀ (n : Nat) {a0 : Nat} {a1 : Int32} {mm : Mm} {H : Heap} {locs : List Loc} {ls : Array Slot}, (sX12 a0) → Wd D ca ad s.heap mm H locs → lv_has ls 4 [(0, .ref (ad a0)), (1, .int a1)] → fX12_setTurns_38 N n a0 a1 mm = some res → W p l e (rmX12_setTurns) s m args below meth c H locs 0 0 (MQ below (QV D ca ad res) args s 0 0 (AA ad)) (F0 m 38 ls []) := by
  intro n
  induction n with
  | zero => intro a0 a1 mm H locs ls ha0 hW hl hf; cases hf
  | succ n ih =>
    intro a0 a1 mm H locs ls ha0 hW hl hf
    have hk38 : ∀ (a0 : Nat) (a1 : Int32) (mm : Mm) (H : Heap) (locs : List Loc) (ls : Array Slot), (sX12 a0) → Wd D ca ad s.heap mm H locs → lv_has ls 4 [(0, .ref (ad a0)), (1, .int a1)] → (fX12_setTurns_38 N n) a0 a1 mm = some res → W p l e (rmX12_setTurns) s m args below meth c H locs 0 0 (MQ below (QV D ca ad res) args s 0 0 (AA ad)) (F0 m 38 ls []) := fun a0 a1 mm H locs ls ha0 hW hl hf => ih ha0 hW hl hf
    unfold fX12_setTurns_38 at hf
    try dsimp only at hf
    refine lv_iload_n C.1 C.2.1 dX12_setTurns_38 rfl (lv_at hl 1 rfl) ?_
    refine lv_if_lt (tgt := 100) C.1 C.2.1 dX12_setTurns_39 (by decide) (fun c8 => ?_) (fun c8 => ?_)
    · have hf := if_t c8 hf
      cases hf
      exact x_vret C hW dX12_setTurns_100
    · have hf := if_f c8 hf
      refine lv_iconst (v := 0) C.1 C.2.1 dX12_setTurns_42 (by decide) ?_
      refine lv_istore_n (lv' := [(2, .int 0), (0, .ref (ad a0)), (1, .int a1)]) C.1 C.2.1 dX12_setTurns_43 rfl hl (by decide) rfl (fun ls hl => ?_)
      exact wX12_setTurns_44 C hk38 N ha0 hW (lv_sub hl [1, 2, 0] rfl) hf
set_option maxRecDepth 100000 in
set_option maxHeartbeats 4000000 in
theorem wX12_setTurns_2 (C : Cx p s m meth c args cX12_setTurns 4 none RX12 D ca ad) {res : Unit × Mm} {N : Nat}  : ∀ (n : Nat) {a0 : Nat} {a1 : Int32} {mm : Mm} {H : Heap} {locs : List Loc} {ls : Array Slot}, (sX12 a0) → Wd D ca ad s.heap mm H locs → lv_has ls 4 [(0, .ref (ad a0)), (1, .int a1)] → fX12_setTurns_2 N n a0 a1 mm = some res → W p l e (rmX12_setTurns) s m args below meth c H locs 0 0 (MQ below (QV D ca ad res) args s 0 0 (AA ad)) (F0 m 2 ls []) := by
  intro n
  induction n with
  | zero => intro a0 a1 mm H locs ls ha0 hW hl hf; cases hf
  | succ n ih =>
    intro a0 a1 mm H locs ls ha0 hW hl hf
    have hk2 : ∀ (a0 : Nat) (a1 : Int32) (mm : Mm) (H : Heap) (locs : List Loc) (ls : Array Slot), (sX12 a0) → Wd D ca ad s.heap mm H locs → lv_has ls 4 [(0, .ref (ad a0)), (1, .int a1)] → (fX12_setTurns_2 N n) a0 a1 mm = some res → W p l e (rmX12_setTurns) s m args below meth c H locs 0 0 (MQ below (QV D ca ad res) args s 0 0 (AA ad)) (F0 m 2 ls []) := fun a0 a1 mm H locs ls ha0 hW hl hf => ih ha0 hW hl hf
    unfold fX12_setTurns_2 at hf
    try dsimp only at hf
    refine lv_iload_n C.1 C.2.1 dX12_setTurns_2 rfl (lv_at hl 1 rfl) ?_
    refine lv_sipush (v := 256) C.1 C.2.1 dX12_setTurns_3 (by decide) ?_
    refine lv_icmp_ge (tgt := 31) C.1 C.2.1 dX12_setTurns_6 (by decide) (fun c9 => ?_) (fun c9 => ?_)
    · have hf := if_t c9 hf
      refine lv_aload_n C.1 C.2.1 dX12_setTurns_31 rfl (lv_at hl 0 rfl) ?_
      refine x_geti C hW (ha0).1 (ha0).2.1 (j := 10) rfl kX12 (by decide) rfl q_1026 dX12_setTurns_32 ?_
      refine lv_iconst (v := 1) C.1 C.2.1 dX12_setTurns_35 (by decide) ?_
      refine lv_isub C.1 C.2.1 dX12_setTurns_36 ?_
      refine lv_istore_n (lv' := [(1, .int ((rd mm a0 10) - 1)), (0, .ref (ad a0))]) C.1 C.2.1 dX12_setTurns_37 rfl hl (by decide) rfl (fun ls hl => ?_)
      exact wX12_setTurns_38 C  N ha0 hW (lv_sub hl [1, 0] rfl) hf
    · have hf := if_f c9 hf
      refine lv_aload_n C.1 C.2.1 dX12_setTurns_9 rfl (lv_at hl 0 rfl) ?_
      refine x_getr C hW (ha0).1 (ha0).2.1 (j := 32) rfl kX12 (by decide) rfl q_1048 dX12_setTurns_10 ?_
      refine lv_sipush (v := 256) C.1 C.2.1 dX12_setTurns_13 (by decide) ?_
      refine lv_aload_n C.1 C.2.1 dX12_setTurns_16 rfl (lv_at hl 0 rfl) ?_
      refine x_geti C hW (ha0).1 (ha0).2.1 (j := 10) rfl kX12 (by decide) rfl q_1026 dX12_setTurns_17 ?_
      refine lv_imul C.1 C.2.1 dX12_setTurns_20 ?_
      refine lv_iload_n C.1 C.2.1 dX12_setTurns_21 rfl (lv_at hl 1 rfl) ?_
      refine lv_iadd C.1 C.2.1 dX12_setTurns_22 ?_
      refine lv_iconst (v := 0) C.1 C.2.1 dX12_setTurns_23 (by decide) ?_
      obtain ⟨g10, hf⟩ := gd_s hf
      refine x_iast C hW ha0.2.2.2.2.2.2.2.2.2.2.2.2.2.2.2.2.2.1 g10 dX12_setTurns_24 (fun H locs hW => ?_)
      obtain ⟨m11, em11⟩ : ∃ z, z = wr mm (fr a0 32) ((256 * (rd mm a0 10)) + a1).toNatClampNeg 0 := ⟨_, rfl⟩
      have hf := nm_s hf em11
      rw [← em11] at hW
      refine lv_iinc (v := (a1 + 1)) (lv' := [(1, .int (a1 + 1)), (0, .ref (ad a0))]) C.1 C.2.1 dX12_setTurns_25 hl (k := 1) rfl rfl (by decide) rfl (fun ls hl => ?_)
      refine lv_goto (tgt := 2) C.1 C.2.1 dX12_setTurns_28 (by decide) ?_
      exact hk2 _ _ _ _ _ _ ha0 hW (lv_sub hl [1, 0] rfl) hf
set_option maxRecDepth 100000 in
set_option maxHeartbeats 4000000 in
theorem wX12_setTurns_0 (C : Cx p s m meth c args cX12_setTurns 4 none RX12 D ca ad) {res : Unit × Mm} {N : Nat}  {a0 : Nat} {mm : Mm} {H : Heap} {locs : List Loc} {ls : Array Slot} (ha0 : sX12 a0) (hW : Wd D ca ad s.heap mm H locs) (hl : lv_has ls 4 [(0, .ref (ad a0))]) (hf : fX12_setTurns N a0 mm = some res) : W p l e (rmX12_setTurns) s m args below meth c H locs 0 0 (MQ below (QV D ca ad res) args s 0 0 (AA ad)) (F0 m 0 ls []) := by
  unfold fX12_setTurns at hf
  refine lv_iconst (v := 0) C.1 C.2.1 dX12_setTurns_0 (by decide) ?_
  refine lv_istore_n (lv' := [(1, .int 0), (0, .ref (ad a0))]) C.1 C.2.1 dX12_setTurns_1 rfl hl (by decide) rfl (fun ls hl => ?_)
  exact wX12_setTurns_2 C  N ha0 hW (lv_sub hl [1, 0] rfl) hf
set_option maxRecDepth 100000 in
set_option maxHeartbeats 4000000 in
theorem tX12_setTurns (l : Launch) {D : va_G} {ca ad : Nat → Nat} (hi : Inj ad) {N : Nat} {a0 : Nat} {mm : Mm} {res : Unit × Mm} (ha0 : sX12 a0) (hf : fX12_setTurns N a0 mm = some res) : Met l yX12_setTurns (WS yX12_setTurns cX12_setTurns 4 none) (rmX12_setTurns) (va_Pc [.ref (ad a0)] (WB D ca ad mm)) (QV D ca ad res) 0 0 (AA ad) := by
  refine x_start hi (by decide) rfl (Nat.le_of_ble_eq_true rfl) (fun p e s m args below meth c ls C hW hl => ?_)
  exact wX12_setTurns_0 C ha0 hW (lv_sub hl [0] rfl) hf
set_option maxRecDepth 100000 in
set_option maxHeartbeats 4000000 in
theorem wX12_turns_0 (C : Cx p s m meth c args cX12_turns 2 (some .int) RX12 D ca ad) {res : Int32 × Mm} {N : Nat}  {a0 : Nat} {mm : Mm} {H : Heap} {locs : List Loc} {ls : Array Slot} (ha0 : sX12 a0) (hW : Wd D ca ad s.heap mm H locs) (hl : lv_has ls 2 [(0, .ref (ad a0))]) (hf : fX12_turns N a0 mm = some res) : W p l e (rmX12_turns) s m args below meth c H locs 0 0 (MQ below (QI D ca ad res) args s 0 0 (AA ad)) (F0 m 0 ls []) := by
  unfold fX12_turns at hf
  refine lv_aload_n C.1 C.2.1 dX12_turns_0 rfl (lv_at hl 0 rfl) ?_
  refine x_getr C hW (ha0).1 (ha0).2.1 (j := 12) rfl kX12 (by decide) rfl q_1028 dX12_turns_1 ?_
  refine lv_iconst (v := 0) C.1 C.2.1 dX12_turns_4 (by decide) ?_
  obtain ⟨g1, hf⟩ := gd_s hf
  refine x_iald C hW ha0.2.2.2.2.2.2.2.2.2.1 g1 dX12_turns_5 ?_
  refine lv_bipush (v := 15) C.1 C.2.1 dX12_turns_6 (by decide) ?_
  refine lv_icmp_gt (tgt := 22) C.1 C.2.1 dX12_turns_8 (by decide) (fun c2 => ?_) (fun c2 => ?_)
  · have hf := if_t c2 hf
    refine lv_bipush (v := (-6)) C.1 C.2.1 dX12_turns_22 (by decide) ?_
    cases hf
    exact x_iret C hW dX12_turns_24
  · have hf := if_f c2 hf
    refine lv_aload_n C.1 C.2.1 dX12_turns_11 rfl (lv_at hl 0 rfl) ?_
    refine x_getr C hW (ha0).1 (ha0).2.1 (j := 12) rfl kX12 (by decide) rfl q_1028 dX12_turns_12 ?_
    refine lv_iconst (v := 1) C.1 C.2.1 dX12_turns_15 (by decide) ?_
    obtain ⟨g3, hf⟩ := gd_s hf
    refine x_iald C hW ha0.2.2.2.2.2.2.2.2.2.1 g3 dX12_turns_16 ?_
    refine lv_bipush (v := 15) C.1 C.2.1 dX12_turns_17 (by decide) ?_
    refine lv_icmp_le (tgt := 25) C.1 C.2.1 dX12_turns_19 (by decide) (fun c4 => ?_) (fun c4 => ?_)
    · have hf := if_t c4 hf
      refine lv_aload_n C.1 C.2.1 dX12_turns_25 rfl (lv_at hl 0 rfl) ?_
      refine x_geti C hW (ha0).1 (ha0).2.1 (j := 10) rfl kX12 (by decide) rfl q_1026 dX12_turns_26 ?_
      refine lv_if_ne (tgt := 35) C.1 C.2.1 dX12_turns_29 (by decide) (fun c5 => ?_) (fun c5 => ?_)
      · have hf := if_f c5 hf
        refine lv_aload_n C.1 C.2.1 dX12_turns_35 rfl (lv_at hl 0 rfl) ?_
        obtain ⟨x6, m7, r8, hf⟩ := bd2_s hf
        refine x_cv hW (x_runV C hW [] [] (ha0).1 (ha0).2.1 kX12.1 kvX12_setTurns q_1415 (tX12_setTurns l C.2.2.2.2.2.2.1 ha0 r8) rfl rfl ⟨by decide, by decide⟩ rfl hl.1 rfl (Nat.le_of_ble_eq_true rfl) dX12_turns_36) (fun H locs hW => ?_)
        refine lv_aload_n C.1 C.2.1 dX12_turns_39 rfl (lv_at hl 0 rfl) ?_
        refine lv_iconst (v := 0) C.1 C.2.1 dX12_turns_40 (by decide) ?_
        refine lv_aload_n C.1 C.2.1 dX12_turns_41 rfl (lv_at hl 0 rfl) ?_
        refine x_getr C hW (ha0).1 (ha0).2.1 (j := 12) rfl kX12 (by decide) rfl q_1028 dX12_turns_42 ?_
        refine lv_iconst (v := 0) C.1 C.2.1 dX12_turns_45 (by decide) ?_
        obtain ⟨g9, hf⟩ := gd_s hf
        refine x_iald C hW ha0.2.2.2.2.2.2.2.2.2.1 g9 dX12_turns_46 ?_
        refine lv_aload_n C.1 C.2.1 dX12_turns_47 rfl (lv_at hl 0 rfl) ?_
        refine x_getr C hW (ha0).1 (ha0).2.1 (j := 12) rfl kX12 (by decide) rfl q_1028 dX12_turns_48 ?_
        refine lv_iconst (v := 1) C.1 C.2.1 dX12_turns_51 (by decide) ?_
        obtain ⟨g10, hf⟩ := gd_s hf
        refine x_iald C hW ha0.2.2.2.2.2.2.2.2.2.1 g10 dX12_turns_52 ?_
        obtain ⟨x11, m12, r13, hf⟩ := bd2_s hf
        refine x_ci hW (x_runV C hW [.int 0, .int (rd m7 (fr a0 12) ((0 : Int32).toNatClampNeg)), .int (rd m7 (fr a0 12) ((1 : Int32).toNatClampNeg))] [] (ha0).1 (ha0).2.1 kX12.1 kvX12_laidIn q_1419 (tX12_laidIn l C.2.2.2.2.2.2.1 ha0 r13) rfl rfl ⟨by decide, by decide⟩ rfl hl.1 rfl (Nat.le_of_ble_eq_true rfl) dX12_turns_53) (fun H locs hW => ?_)
        refine lv_istore_n (lv' := [(1, .int x11), (0, .ref (ad a0))]) C.1 C.2.1 dX12_turns_56 rfl hl (by decide) rfl (fun ls hl => ?_)
        refine lv_aload_n C.1 C.2.1 dX12_turns_57 rfl (lv_at hl 1 rfl) ?_
        refine lv_iload_n C.1 C.2.1 dX12_turns_58 rfl (lv_at hl 0 rfl) ?_
        refine lv_aload_n C.1 C.2.1 dX12_turns_59 rfl (lv_at hl 1 rfl) ?_
        refine x_geti C hW (ha0).1 (ha0).2.1 (j := 34) rfl kX12 (by decide) rfl q_1050 dX12_turns_60 ?_
        obtain ⟨x14, m15, r16, hf⟩ := bd2_s hf
        refine x_ci hW (x_runV C hW [.int x11, .int (rd m12 a0 34)] [] (ha0).1 (ha0).2.1 kX12.1 kvX12_ask q_1173 (tX12_ask l C.2.2.2.2.2.2.1 ha0 r16) rfl rfl ⟨by decide, by decide⟩ rfl hl.1 rfl (Nat.le_of_ble_eq_true rfl) dX12_turns_63) (fun H locs hW => ?_)
        cases hf
        exact x_iret C hW dX12_turns_66
      · have hf := if_t c5 hf
        refine lv_bipush (v := (-9)) C.1 C.2.1 dX12_turns_32 (by decide) ?_
        cases hf
        exact x_iret C hW dX12_turns_34
    · have hf := if_f c4 hf
      refine lv_bipush (v := (-6)) C.1 C.2.1 dX12_turns_22 (by decide) ?_
      cases hf
      exact x_iret C hW dX12_turns_24
set_option maxRecDepth 100000 in
set_option maxHeartbeats 4000000 in
theorem tX12_turns (l : Launch) {D : va_G} {ca ad : Nat → Nat} (hi : Inj ad) {N : Nat} {a0 : Nat} {mm : Mm} {res : Int32 × Mm} (ha0 : sX12 a0) (hf : fX12_turns N a0 mm = some res) : Met l yX12_turns (WS yX12_turns cX12_turns 2 (some .int)) (rmX12_turns) (va_Pc [.ref (ad a0)] (WB D ca ad mm)) (QI D ca ad res) 0 0 (AA ad) := by
  refine x_start hi (by decide) rfl (Nat.le_of_ble_eq_true rfl) (fun p e s m args below meth c ls C hW hl => ?_)
  exact wX12_turns_0 C ha0 hW (lv_sub hl [0] rfl) hf
set_option maxRecDepth 100000 in
set_option maxHeartbeats 4000000 in
theorem wX12_areYet_0 (C : Cx p s m meth c args cX12_areYet 2 (some .boolean) RX12 D ca ad) {res : Int32 × Mm} {N : Nat}  {a0 : Int32} {a1 : Int32} {mm : Mm} {H : Heap} {locs : List Loc} {ls : Array Slot}  (hW : Wd D ca ad s.heap mm H locs) (hl : lv_has ls 2 [(0, .int a0), (1, .int a1)]) (hf : fX12_areYet N a0 a1 mm = some res) : W p l e (rmX12_areYet) s m args below meth c H locs 0 0 (MQ below (QI D ca ad res) args s 0 0 (AA ad)) (F0 m 0 ls []) := by
  unfold fX12_areYet at hf
  refine lv_iload_n C.1 C.2.1 dX12_areYet_0 rfl (lv_at hl 0 rfl) ?_
  refine lv_iconst (v := 0) C.1 C.2.1 dX12_areYet_1 (by decide) ?_
  refine lv_bipush (v := 15) C.1 C.2.1 dX12_areYet_2 (by decide) ?_
  obtain ⟨x1, m2, r3, hf⟩ := bd2_s hf
  refine x_ci hW (x_runS C hW [.int a0, .int 0, .int 15] [] kvX12_in q_1150 (tX12_in l C.2.2.2.2.2.2.1  r3) rfl rfl ⟨by decide, by decide⟩ rfl hl.1 rfl (Nat.le_of_ble_eq_true rfl) dX12_areYet_4) (fun H locs hW => ?_)
  refine lv_if_eq (tgt := 24) C.1 C.2.1 dX12_areYet_7 (by decide) (fun c4 => ?_) (fun c4 => ?_)
  · have hf := if_t c4 hf
    refine lv_iconst (v := 0) C.1 C.2.1 dX12_areYet_24 (by decide) ?_
    cases hf
    exact x_zret C hW (by decide) dX12_areYet_25
  · have hf := if_f c4 hf
    refine lv_iload_n C.1 C.2.1 dX12_areYet_10 rfl (lv_at hl 1 rfl) ?_
    refine lv_iconst (v := 0) C.1 C.2.1 dX12_areYet_11 (by decide) ?_
    refine lv_bipush (v := 15) C.1 C.2.1 dX12_areYet_12 (by decide) ?_
    obtain ⟨x5, m6, r7, hf⟩ := bd2_s hf
    refine x_ci hW (x_runS C hW [.int a1, .int 0, .int 15] [] kvX12_in q_1150 (tX12_in l C.2.2.2.2.2.2.1  r7) rfl rfl ⟨by decide, by decide⟩ rfl hl.1 rfl (Nat.le_of_ble_eq_true rfl) dX12_areYet_14) (fun H locs hW => ?_)
    refine lv_if_eq (tgt := 24) C.1 C.2.1 dX12_areYet_17 (by decide) (fun c8 => ?_) (fun c8 => ?_)
    · have hf := if_t c8 hf
      refine lv_iconst (v := 0) C.1 C.2.1 dX12_areYet_24 (by decide) ?_
      cases hf
      exact x_zret C hW (by decide) dX12_areYet_25
    · have hf := if_f c8 hf
      refine lv_iconst (v := 1) C.1 C.2.1 dX12_areYet_20 (by decide) ?_
      refine lv_goto (tgt := 25) C.1 C.2.1 dX12_areYet_21 (by decide) ?_
      cases hf
      exact x_zret C hW (by decide) dX12_areYet_25
set_option maxRecDepth 100000 in
set_option maxHeartbeats 4000000 in
theorem tX12_areYet (l : Launch) {D : va_G} {ca ad : Nat → Nat} (hi : Inj ad) {N : Nat} {a0 : Int32} {a1 : Int32} {mm : Mm} {res : Int32 × Mm}  (hf : fX12_areYet N a0 a1 mm = some res) : Met l yX12_areYet (WS yX12_areYet cX12_areYet 2 (some .boolean)) (rmX12_areYet) (va_Pc [.int a0, .int a1] (WB D ca ad mm)) (QI D ca ad res) 0 0 (AA ad) := by
  refine x_start hi (by decide) rfl (Nat.le_of_ble_eq_true rfl) (fun p e s m args below meth c ls C hW hl => ?_)
  exact wX12_areYet_0 C  hW (lv_sub hl [0, 1] rfl) hf
set_option maxRecDepth 100000 in
set_option maxHeartbeats 4000000 in
theorem wX12_from_0 (C : Cx p s m meth c args cX12_from 4 (some .int) RX12 D ca ad) {res : Int32 × Mm} {N : Nat}  {a0 : Nat} {a1 : Int32} {a2 : Int32} {a3 : Int32} {mm : Mm} {H : Heap} {locs : List Loc} {ls : Array Slot} (ha0 : sX12 a0) (hW : Wd D ca ad s.heap mm H locs) (hl : lv_has ls 4 [(0, .ref (ad a0)), (1, .int a1), (2, .int a2), (3, .int a3)]) (hf : fX12_from N a0 a1 a2 a3 mm = some res) : W p l e (rmX12_from) s m args below meth c H locs 0 0 (MQ below (QI D ca ad res) args s 0 0 (AA ad)) (F0 m 0 ls []) := by
  unfold fX12_from at hf
  refine lv_iload_n C.1 C.2.1 dX12_from_0 rfl (lv_at hl 1 rfl) ?_
  refine lv_iconst (v := 0) C.1 C.2.1 dX12_from_1 (by decide) ?_
  refine lv_aload_n C.1 C.2.1 dX12_from_2 rfl (lv_at hl 0 rfl) ?_
  refine x_geti C hW (ha0).1 (ha0).2.1 (j := 10) rfl kX12 (by decide) rfl q_1026 dX12_from_3 ?_
  obtain ⟨x1, m2, r3, hf⟩ := bd2_s hf
  refine x_ci hW (x_runS C hW [.int a1, .int 0, .int (rd mm a0 10)] [] kvX12_in q_1150 (tX12_in l C.2.2.2.2.2.2.1  r3) rfl rfl ⟨by decide, by decide⟩ rfl hl.1 rfl (Nat.le_of_ble_eq_true rfl) dX12_from_6) (fun H locs hW => ?_)
  refine lv_if_eq (tgt := 20) C.1 C.2.1 dX12_from_9 (by decide) (fun c4 => ?_) (fun c4 => ?_)
  · have hf := if_t c4 hf
    refine lv_iconst (v := (-1)) C.1 C.2.1 dX12_from_20 (by decide) ?_
    cases hf
    exact x_iret C hW dX12_from_21
  · have hf := if_f c4 hf
    refine lv_iload_n C.1 C.2.1 dX12_from_12 rfl (lv_at hl 2 rfl) ?_
    refine lv_iload_n C.1 C.2.1 dX12_from_13 rfl (lv_at hl 3 rfl) ?_
    obtain ⟨x5, m6, r7, hf⟩ := bd2_s hf
    refine x_ci hW (x_runS C hW [.int a2, .int a3] [] kvX12_areYet q_1439 (tX12_areYet l C.2.2.2.2.2.2.1  r7) rfl rfl ⟨by decide, by decide⟩ rfl hl.1 rfl (Nat.le_of_ble_eq_true rfl) dX12_from_14) (fun H locs hW => ?_)
    refine lv_if_ne (tgt := 22) C.1 C.2.1 dX12_from_17 (by decide) (fun c8 => ?_) (fun c8 => ?_)
    · have hf := if_f c8 hf
      refine lv_aload_n C.1 C.2.1 dX12_from_22 rfl (lv_at hl 0 rfl) ?_
      obtain ⟨x9, m10, r11, hf⟩ := bd2_s hf
      refine x_cv hW (x_runV C hW [] [] (ha0).1 (ha0).2.1 kX12.1 kvX12_setTurns q_1415 (tX12_setTurns l C.2.2.2.2.2.2.1 ha0 r11) rfl rfl ⟨by decide, by decide⟩ rfl hl.1 rfl (Nat.le_of_ble_eq_true rfl) dX12_from_23) (fun H locs hW => ?_)
      refine lv_aload_n C.1 C.2.1 dX12_from_26 rfl (lv_at hl 0 rfl) ?_
      refine lv_aload_n C.1 C.2.1 dX12_from_27 rfl (lv_at hl 0 rfl) ?_
      refine lv_iload_n C.1 C.2.1 dX12_from_28 rfl (lv_at hl 1 rfl) ?_
      refine lv_iload_n C.1 C.2.1 dX12_from_29 rfl (lv_at hl 2 rfl) ?_
      refine lv_iload_n C.1 C.2.1 dX12_from_30 rfl (lv_at hl 3 rfl) ?_
      obtain ⟨x12, m13, r14, hf⟩ := bd2_s hf
      refine x_ci hW (x_runV C hW [.int a1, .int a2, .int a3] [.ref (ad a0)] (ha0).1 (ha0).2.1 kX12.1 kvX12_turnAt q_1431 (tX12_turnAt l C.2.2.2.2.2.2.1 ha0 r14) rfl rfl ⟨by decide, by decide⟩ rfl hl.1 rfl (Nat.le_of_ble_eq_true rfl) dX12_from_31) (fun H locs hW => ?_)
      refine lv_iconst (v := 1) C.1 C.2.1 dX12_from_34 (by decide) ?_
      obtain ⟨x15, m16, r17, hf⟩ := bd2_s hf
      refine x_ci hW (x_runV C hW [.int x12, .int 1] [] (ha0).1 (ha0).2.1 kX12.1 kvX12_ask q_1173 (tX12_ask l C.2.2.2.2.2.2.1 ha0 r17) rfl rfl ⟨by decide, by decide⟩ rfl hl.1 rfl (Nat.le_of_ble_eq_true rfl) dX12_from_35) (fun H locs hW => ?_)
      cases hf
      exact x_iret C hW dX12_from_38
    · have hf := if_t c8 hf
      refine lv_iconst (v := (-1)) C.1 C.2.1 dX12_from_20 (by decide) ?_
      cases hf
      exact x_iret C hW dX12_from_21
set_option maxRecDepth 100000 in
set_option maxHeartbeats 4000000 in
theorem tX12_from (l : Launch) {D : va_G} {ca ad : Nat → Nat} (hi : Inj ad) {N : Nat} {a0 : Nat} {a1 : Int32} {a2 : Int32} {a3 : Int32} {mm : Mm} {res : Int32 × Mm} (ha0 : sX12 a0) (hf : fX12_from N a0 a1 a2 a3 mm = some res) : Met l yX12_from (WS yX12_from cX12_from 4 (some .int)) (rmX12_from) (va_Pc [.ref (ad a0), .int a1, .int a2, .int a3] (WB D ca ad mm)) (QI D ca ad res) 0 0 (AA ad) := by
  refine x_start hi (by decide) rfl (Nat.le_of_ble_eq_true rfl) (fun p e s m args below meth c ls C hW hl => ?_)
  exact wX12_from_0 C ha0 hW (lv_sub hl [0, 1, 2, 3] rfl) hf
end W_model25
