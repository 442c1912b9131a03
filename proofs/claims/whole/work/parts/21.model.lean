theorem dX12_here_0 : decode cX12_here 0 = .ok (.aload_n 0, 1) := by decide +kernel
theorem dX12_here_1 : decode cX12_here 1 = .ok (.getfield 122, 3) := by decide +kernel
theorem dX12_here_4 : decode cX12_here 4 = .ok (.aload_n 0, 1) := by decide +kernel
theorem dX12_here_5 : decode cX12_here 5 = .ok (.getfield 26, 3) := by decide +kernel
theorem dX12_here_8 : decode cX12_here 8 = .ok (.iload_n 1, 1) := by decide +kernel
theorem dX12_here_9 : decode cX12_here 9 = .ok (.iaload, 1) := by decide +kernel
theorem dX12_here_10 : decode cX12_here 10 = .ok (.if_icmp .ge 20, 3) := by decide +kernel
theorem dX12_here_13 : decode cX12_here 13 = .ok (.aload_n 0, 1) := by decide +kernel
theorem dX12_here_14 : decode cX12_here 14 = .ok (.getfield 29, 3) := by decide +kernel
theorem dX12_here_17 : decode cX12_here 17 = .ok (.bipush 80, 2) := by decide +kernel
theorem dX12_here_19 : decode cX12_here 19 = .ok (.iload_n 1, 1) := by decide +kernel
theorem dX12_here_20 : decode cX12_here 20 = .ok (.imul, 1) := by decide +kernel
theorem dX12_here_21 : decode cX12_here 21 = .ok (.aload_n 0, 1) := by decide +kernel
theorem dX12_here_22 : decode cX12_here 22 = .ok (.getfield 122, 3) := by decide +kernel
theorem dX12_here_25 : decode cX12_here 25 = .ok (.iadd, 1) := by decide +kernel
theorem dX12_here_26 : decode cX12_here 26 = .ok (.iaload, 1) := by decide +kernel
theorem dX12_here_27 : decode cX12_here 27 = .ok (.goto 5, 3) := by decide +kernel
theorem dX12_here_30 : decode cX12_here 30 = .ok (.bipush (-9), 2) := by decide +kernel
theorem dX12_here_32 : decode cX12_here 32 = .ok (.ireturn, 1) := by decide +kernel
theorem dX12_readsNumber_0 : decode cX12_readsNumber 0 = .ok (.aload_n 0, 1) := by decide +kernel
theorem dX12_readsNumber_1 : decode cX12_readsNumber 1 = .ok (.getfield 122, 3) := by decide +kernel
theorem dX12_readsNumber_4 : decode cX12_readsNumber 4 = .ok (.istore_n 2, 1) := by decide +kernel
theorem dX12_readsNumber_5 : decode cX12_readsNumber 5 = .ok (.aload_n 0, 1) := by decide +kernel
theorem dX12_readsNumber_6 : decode cX12_readsNumber 6 = .ok (.iconst 0, 1) := by decide +kernel
theorem dX12_readsNumber_7 : decode cX12_readsNumber 7 = .ok (.putfield 125, 3) := by decide +kernel
theorem dX12_readsNumber_10 : decode cX12_readsNumber 10 = .ok (.aload_n 0, 1) := by decide +kernel
theorem dX12_readsNumber_11 : decode cX12_readsNumber 11 = .ok (.getfield 122, 3) := by decide +kernel
theorem dX12_readsNumber_14 : decode cX12_readsNumber 14 = .ok (.iload_n 2, 1) := by decide +kernel
theorem dX12_readsNumber_15 : decode cX12_readsNumber 15 = .ok (.isub, 1) := by decide +kernel
theorem dX12_readsNumber_16 : decode cX12_readsNumber 16 = .ok (.iconst 2, 1) := by decide +kernel
theorem dX12_readsNumber_17 : decode cX12_readsNumber 17 = .ok (.if_icmp .ge 51, 3) := by decide +kernel
theorem dX12_readsNumber_20 : decode cX12_readsNumber 20 = .ok (.aload_n 0, 1) := by decide +kernel
theorem dX12_readsNumber_21 : decode cX12_readsNumber 21 = .ok (.iload_n 1, 1) := by decide +kernel
theorem dX12_readsNumber_22 : decode cX12_readsNumber 22 = .ok (.invokevirtual 128, 3) := by decide +kernel
theorem dX12_readsNumber_25 : decode cX12_readsNumber 25 = .ok (.bipush 48, 2) := by decide +kernel
theorem dX12_readsNumber_27 : decode cX12_readsNumber 27 = .ok (.bipush 57, 2) := by decide +kernel
theorem dX12_readsNumber_29 : decode cX12_readsNumber 29 = .ok (.invokestatic 87, 3) := by decide +kernel
theorem dX12_readsNumber_32 : decode cX12_readsNumber 32 = .ok (.ifCond .eq 36, 3) := by decide +kernel
theorem dX12_readsNumber_35 : decode cX12_readsNumber 35 = .ok (.aload_n 0, 1) := by decide +kernel
theorem dX12_readsNumber_36 : decode cX12_readsNumber 36 = .ok (.bipush 10, 2) := by decide +kernel
theorem dX12_readsNumber_38 : decode cX12_readsNumber 38 = .ok (.aload_n 0, 1) := by decide +kernel
theorem dX12_readsNumber_39 : decode cX12_readsNumber 39 = .ok (.getfield 125, 3) := by decide +kernel
theorem dX12_readsNumber_42 : decode cX12_readsNumber 42 = .ok (.imul, 1) := by decide +kernel
theorem dX12_readsNumber_43 : decode cX12_readsNumber 43 = .ok (.aload_n 0, 1) := by decide +kernel
theorem dX12_readsNumber_44 : decode cX12_readsNumber 44 = .ok (.iload_n 1, 1) := by decide +kernel
theorem dX12_readsNumber_45 : decode cX12_readsNumber 45 = .ok (.invokevirtual 128, 3) := by decide +kernel
theorem dX12_readsNumber_48 : decode cX12_readsNumber 48 = .ok (.iadd, 1) := by decide +kernel
theorem dX12_readsNumber_49 : decode cX12_readsNumber 49 = .ok (.bipush 48, 2) := by decide +kernel
theorem dX12_readsNumber_51 : decode cX12_readsNumber 51 = .ok (.isub, 1) := by decide +kernel
theorem dX12_readsNumber_52 : decode cX12_readsNumber 52 = .ok (.putfield 125, 3) := by decide +kernel
theorem dX12_readsNumber_55 : decode cX12_readsNumber 55 = .ok (.aload_n 0, 1) := by decide +kernel
theorem dX12_readsNumber_56 : decode cX12_readsNumber 56 = .ok (.dup, 1) := by decide +kernel
theorem dX12_readsNumber_57 : decode cX12_readsNumber 57 = .ok (.getfield 122, 3) := by decide +kernel
theorem dX12_readsNumber_60 : decode cX12_readsNumber 60 = .ok (.iconst 1, 1) := by decide +kernel
theorem dX12_readsNumber_61 : decode cX12_readsNumber 61 = .ok (.iadd, 1) := by decide +kernel
theorem dX12_readsNumber_62 : decode cX12_readsNumber 62 = .ok (.putfield 122, 3) := by decide +kernel
theorem dX12_readsNumber_65 : decode cX12_readsNumber 65 = .ok (.goto (-55), 3) := by decide +kernel
theorem dX12_readsNumber_68 : decode cX12_readsNumber 68 = .ok (.aload_n 0, 1) := by decide +kernel
theorem dX12_readsNumber_69 : decode cX12_readsNumber 69 = .ok (.getfield 122, 3) := by decide +kernel
theorem dX12_readsNumber_72 : decode cX12_readsNumber 72 = .ok (.iload_n 2, 1) := by decide +kernel
theorem dX12_readsNumber_73 : decode cX12_readsNumber 73 = .ok (.if_icmp .le 16, 3) := by decide +kernel
theorem dX12_readsNumber_76 : decode cX12_readsNumber 76 = .ok (.aload_n 0, 1) := by decide +kernel
theorem dX12_readsNumber_77 : decode cX12_readsNumber 77 = .ok (.getfield 125, 3) := by decide +kernel
theorem dX12_readsNumber_80 : decode cX12_readsNumber 80 = .ok (.bipush 40, 2) := by decide +kernel
theorem dX12_readsNumber_82 : decode cX12_readsNumber 82 = .ok (.if_icmp .gt 7, 3) := by decide +kernel
theorem dX12_readsNumber_85 : decode cX12_readsNumber 85 = .ok (.iconst 1, 1) := by decide +kernel
theorem dX12_readsNumber_86 : decode cX12_readsNumber 86 = .ok (.goto 4, 3) := by decide +kernel
theorem dX12_readsNumber_89 : decode cX12_readsNumber 89 = .ok (.iconst 0, 1) := by decide +kernel
theorem dX12_readsNumber_90 : decode cX12_readsNumber 90 = .ok (.ireturn, 1) := by decide +kernel
theorem dX12_readsFigure_0 : decode cX12_readsFigure 0 = .ok (.aload_n 0, 1) := by decide +kernel
theorem dX12_readsFigure_1 : decode cX12_readsFigure 1 = .ok (.aload_n 0, 1) := by decide +kernel
theorem dX12_readsFigure_2 : decode cX12_readsFigure 2 = .ok (.iload_n 1, 1) := by decide +kernel
theorem dX12_readsFigure_3 : decode cX12_readsFigure 3 = .ok (.invokevirtual 128, 3) := by decide +kernel
theorem dX12_readsFigure_6 : decode cX12_readsFigure 6 = .ok (.bipush 48, 2) := by decide +kernel
theorem dX12_readsFigure_8 : decode cX12_readsFigure 8 = .ok (.isub, 1) := by decide +kernel
theorem dX12_readsFigure_9 : decode cX12_readsFigure 9 = .ok (.putfield 125, 3) := by decide +kernel
theorem dX12_readsFigure_12 : decode cX12_readsFigure 12 = .ok (.aload_n 0, 1) := by decide +kernel
theorem dX12_readsFigure_13 : decode cX12_readsFigure 13 = .ok (.getfield 125, 3) := by decide +kernel
theorem dX12_readsFigure_16 : decode cX12_readsFigure 16 = .ok (.iload_n 2, 1) := by decide +kernel
theorem dX12_readsFigure_17 : decode cX12_readsFigure 17 = .ok (.iload_n 3, 1) := by decide +kernel
theorem dX12_readsFigure_18 : decode cX12_readsFigure 18 = .ok (.invokestatic 87, 3) := by decide +kernel
theorem dX12_readsFigure_21 : decode cX12_readsFigure 21 = .ok (.istore 4, 2) := by decide +kernel
theorem dX12_readsFigure_23 : decode cX12_readsFigure 23 = .ok (.aload_n 0, 1) := by decide +kernel
theorem dX12_readsFigure_24 : decode cX12_readsFigure 24 = .ok (.dup, 1) := by decide +kernel
theorem dX12_readsFigure_25 : decode cX12_readsFigure 25 = .ok (.getfield 122, 3) := by decide +kernel
theorem dX12_readsFigure_28 : decode cX12_readsFigure 28 = .ok (.iload 4, 2) := by decide +kernel
theorem dX12_readsFigure_30 : decode cX12_readsFigure 30 = .ok (.ifCond .eq 7, 3) := by decide +kernel
theorem dX12_readsFigure_33 : decode cX12_readsFigure 33 = .ok (.iconst 1, 1) := by decide +kernel
theorem dX12_readsFigure_34 : decode cX12_readsFigure 34 = .ok (.goto 4, 3) := by decide +kernel
theorem dX12_readsFigure_37 : decode cX12_readsFigure 37 = .ok (.iconst 0, 1) := by decide +kernel
theorem dX12_readsFigure_38 : decode cX12_readsFigure 38 = .ok (.iadd, 1) := by decide +kernel
theorem dX12_readsFigure_39 : decode cX12_readsFigure 39 = .ok (.putfield 122, 3) := by decide +kernel
theorem dX12_readsFigure_42 : decode cX12_readsFigure 42 = .ok (.iload 4, 2) := by decide +kernel
theorem dX12_readsFigure_44 : decode cX12_readsFigure 44 = .ok (.ireturn, 1) := by decide +kernel
theorem dX12_kindOf_0 : decode cX12_kindOf 0 = .ok (.iload_n 0, 1) := by decide +kernel
theorem dX12_kindOf_1 : decode cX12_kindOf 1 = .ok (.bipush 115, 2) := by decide +kernel
theorem dX12_kindOf_3 : decode cX12_kindOf 3 = .ok (.if_icmp .ne 7, 3) := by decide +kernel
theorem dX12_kindOf_6 : decode cX12_kindOf 6 = .ok (.iconst 0, 1) := by decide +kernel
theorem dX12_kindOf_7 : decode cX12_kindOf 7 = .ok (.goto 55, 3) := by decide +kernel
theorem dX12_kindOf_10 : decode cX12_kindOf 10 = .ok (.iload_n 0, 1) := by decide +kernel
theorem dX12_kindOf_11 : decode cX12_kindOf 11 = .ok (.bipush 111, 2) := by decide +kernel
theorem dX12_kindOf_13 : decode cX12_kindOf 13 = .ok (.if_icmp .ne 7, 3) := by decide +kernel
theorem dX12_kindOf_16 : decode cX12_kindOf 16 = .ok (.iconst 1, 1) := by decide +kernel
theorem dX12_kindOf_17 : decode cX12_kindOf 17 = .ok (.goto 45, 3) := by decide +kernel
theorem dX12_kindOf_20 : decode cX12_kindOf 20 = .ok (.iload_n 0, 1) := by decide +kernel
theorem dX12_kindOf_21 : decode cX12_kindOf 21 = .ok (.bipush 102, 2) := by decide +kernel
theorem dX12_kindOf_23 : decode cX12_kindOf 23 = .ok (.if_icmp .ne 7, 3) := by decide +kernel
theorem dX12_kindOf_26 : decode cX12_kindOf 26 = .ok (.iconst 2, 1) := by decide +kernel
theorem dX12_kindOf_27 : decode cX12_kindOf 27 = .ok (.goto 35, 3) := by decide +kernel
theorem dX12_kindOf_30 : decode cX12_kindOf 30 = .ok (.iload_n 0, 1) := by decide +kernel
theorem dX12_kindOf_31 : decode cX12_kindOf 31 = .ok (.bipush 100, 2) := by decide +kernel
theorem dX12_kindOf_33 : decode cX12_kindOf 33 = .ok (.if_icmp .ne 7, 3) := by decide +kernel
theorem dX12_kindOf_36 : decode cX12_kindOf 36 = .ok (.iconst 3, 1) := by decide +kernel
theorem dX12_kindOf_37 : decode cX12_kindOf 37 = .ok (.goto 25, 3) := by decide +kernel
theorem dX12_kindOf_40 : decode cX12_kindOf 40 = .ok (.iload_n 0, 1) := by decide +kernel
theorem dX12_kindOf_41 : decode cX12_kindOf 41 = .ok (.bipush 112, 2) := by decide +kernel
theorem dX12_kindOf_43 : decode cX12_kindOf 43 = .ok (.if_icmp .ne 7, 3) := by decide +kernel
theorem dX12_kindOf_46 : decode cX12_kindOf 46 = .ok (.iconst 4, 1) := by decide +kernel
theorem dX12_kindOf_47 : decode cX12_kindOf 47 = .ok (.goto 15, 3) := by decide +kernel
theorem dX12_kindOf_50 : decode cX12_kindOf 50 = .ok (.iload_n 0, 1) := by decide +kernel
theorem dX12_kindOf_51 : decode cX12_kindOf 51 = .ok (.bipush 104, 2) := by decide +kernel
theorem dX12_kindOf_53 : decode cX12_kindOf 53 = .ok (.if_icmp .ne 7, 3) := by decide +kernel
theorem dX12_kindOf_56 : decode cX12_kindOf 56 = .ok (.iconst 5, 1) := by decide +kernel
theorem dX12_kindOf_57 : decode cX12_kindOf 57 = .ok (.goto 5, 3) := by decide +kernel
theorem dX12_kindOf_60 : decode cX12_kindOf 60 = .ok (.bipush (-9), 2) := by decide +kernel
theorem dX12_kindOf_62 : decode cX12_kindOf 62 = .ok (.ireturn, 1) := by decide +kernel
theorem dX12_readsHead_0 : decode cX12_readsHead 0 = .ok (.aload_n 0, 1) := by decide +kernel
theorem dX12_readsHead_1 : decode cX12_readsHead 1 = .ok (.iload_n 1, 1) := by decide +kernel
theorem dX12_readsHead_2 : decode cX12_readsHead 2 = .ok (.invokevirtual 128, 3) := by decide +kernel
theorem dX12_readsHead_5 : decode cX12_readsHead 5 = .ok (.bipush 110, 2) := by decide +kernel
theorem dX12_readsHead_7 : decode cX12_readsHead 7 = .ok (.if_icmp .eq 5, 3) := by decide +kernel
theorem dX12_readsHead_10 : decode cX12_readsHead 10 = .ok (.iconst 0, 1) := by decide +kernel
theorem dX12_readsHead_11 : decode cX12_readsHead 11 = .ok (.ireturn, 1) := by decide +kernel
theorem dX12_readsHead_12 : decode cX12_readsHead 12 = .ok (.aload_n 0, 1) := by decide +kernel
theorem dX12_readsHead_13 : decode cX12_readsHead 13 = .ok (.dup, 1) := by decide +kernel
theorem dX12_readsHead_14 : decode cX12_readsHead 14 = .ok (.getfield 122, 3) := by decide +kernel
theorem dX12_readsHead_17 : decode cX12_readsHead 17 = .ok (.iconst 1, 1) := by decide +kernel
theorem dX12_readsHead_18 : decode cX12_readsHead 18 = .ok (.iadd, 1) := by decide +kernel
theorem dX12_readsHead_19 : decode cX12_readsHead 19 = .ok (.putfield 122, 3) := by decide +kernel
theorem dX12_readsHead_22 : decode cX12_readsHead 22 = .ok (.aload_n 0, 1) := by decide +kernel
theorem dX12_readsHead_23 : decode cX12_readsHead 23 = .ok (.iload_n 1, 1) := by decide +kernel
theorem dX12_readsHead_24 : decode cX12_readsHead 24 = .ok (.invokevirtual 131, 3) := by decide +kernel
theorem dX12_readsHead_27 : decode cX12_readsHead 27 = .ok (.ifCond .ne 5, 3) := by decide +kernel
theorem dX12_readsHead_30 : decode cX12_readsHead 30 = .ok (.iconst 0, 1) := by decide +kernel
theorem dX12_readsHead_31 : decode cX12_readsHead 31 = .ok (.ireturn, 1) := by decide +kernel
theorem dX12_readsHead_32 : decode cX12_readsHead 32 = .ok (.aload_n 0, 1) := by decide +kernel
theorem dX12_readsHead_33 : decode cX12_readsHead 33 = .ok (.getfield 38, 3) := by decide +kernel
theorem dX12_readsHead_36 : decode cX12_readsHead 36 = .ok (.iconst 0, 1) := by decide +kernel
theorem dX12_readsHead_37 : decode cX12_readsHead 37 = .ok (.aload_n 0, 1) := by decide +kernel
theorem dX12_readsHead_38 : decode cX12_readsHead 38 = .ok (.getfield 125, 3) := by decide +kernel
theorem dX12_readsHead_41 : decode cX12_readsHead 41 = .ok (.iastore, 1) := by decide +kernel
theorem dX12_readsHead_42 : decode cX12_readsHead 42 = .ok (.aload_n 0, 1) := by decide +kernel
theorem dX12_readsHead_43 : decode cX12_readsHead 43 = .ok (.iload_n 1, 1) := by decide +kernel
theorem dX12_readsHead_44 : decode cX12_readsHead 44 = .ok (.invokevirtual 128, 3) := by decide +kernel
theorem dX12_readsHead_47 : decode cX12_readsHead 47 = .ok (.bipush 58, 2) := by decide +kernel
theorem dX12_readsHead_49 : decode cX12_readsHead 49 = .ok (.if_icmp .eq 5, 3) := by decide +kernel
theorem dX12_readsHead_52 : decode cX12_readsHead 52 = .ok (.iconst 0, 1) := by decide +kernel
theorem dX12_readsHead_53 : decode cX12_readsHead 53 = .ok (.ireturn, 1) := by decide +kernel
theorem dX12_readsHead_54 : decode cX12_readsHead 54 = .ok (.aload_n 0, 1) := by decide +kernel
theorem dX12_readsHead_55 : decode cX12_readsHead 55 = .ok (.dup, 1) := by decide +kernel
theorem dX12_readsHead_56 : decode cX12_readsHead 56 = .ok (.getfield 122, 3) := by decide +kernel
theorem dX12_readsHead_59 : decode cX12_readsHead 59 = .ok (.iconst 1, 1) := by decide +kernel
theorem dX12_readsHead_60 : decode cX12_readsHead 60 = .ok (.iadd, 1) := by decide +kernel
theorem dX12_readsHead_61 : decode cX12_readsHead 61 = .ok (.putfield 122, 3) := by decide +kernel
theorem dX12_readsHead_64 : decode cX12_readsHead 64 = .ok (.aload_n 0, 1) := by decide +kernel
theorem dX12_readsHead_65 : decode cX12_readsHead 65 = .ok (.iload_n 1, 1) := by decide +kernel
theorem dX12_readsHead_66 : decode cX12_readsHead 66 = .ok (.invokevirtual 131, 3) := by decide +kernel
theorem dX12_readsHead_69 : decode cX12_readsHead 69 = .ok (.ifCond .ne 5, 3) := by decide +kernel
theorem dX12_readsHead_72 : decode cX12_readsHead 72 = .ok (.iconst 0, 1) := by decide +kernel
theorem dX12_readsHead_73 : decode cX12_readsHead 73 = .ok (.ireturn, 1) := by decide +kernel
theorem dX12_readsHead_74 : decode cX12_readsHead 74 = .ok (.aload_n 0, 1) := by decide +kernel
theorem dX12_readsHead_75 : decode cX12_readsHead 75 = .ok (.getfield 38, 3) := by decide +kernel
theorem dX12_readsHead_78 : decode cX12_readsHead 78 = .ok (.iconst 1, 1) := by decide +kernel
theorem dX12_readsHead_79 : decode cX12_readsHead 79 = .ok (.aload_n 0, 1) := by decide +kernel
theorem dX12_readsHead_80 : decode cX12_readsHead 80 = .ok (.getfield 125, 3) := by decide +kernel
theorem dX12_readsHead_83 : decode cX12_readsHead 83 = .ok (.iastore, 1) := by decide +kernel
theorem dX12_readsHead_84 : decode cX12_readsHead 84 = .ok (.aload_n 0, 1) := by decide +kernel
theorem dX12_readsHead_85 : decode cX12_readsHead 85 = .ok (.iconst 1, 1) := by decide +kernel
theorem dX12_readsHead_86 : decode cX12_readsHead 86 = .ok (.putfield 134, 3) := by decide +kernel
theorem dX12_readsHead_89 : decode cX12_readsHead 89 = .ok (.iconst 1, 1) := by decide +kernel
theorem dX12_readsHead_90 : decode cX12_readsHead 90 = .ok (.ireturn, 1) := by decide +kernel
theorem dX12_readsSuit_0 : decode cX12_readsSuit 0 = .ok (.aload_n 0, 1) := by decide +kernel
theorem dX12_readsSuit_1 : decode cX12_readsSuit 1 = .ok (.iload_n 1, 1) := by decide +kernel
theorem dX12_readsSuit_2 : decode cX12_readsSuit 2 = .ok (.invokevirtual 128, 3) := by decide +kernel
theorem dX12_readsSuit_5 : decode cX12_readsSuit 5 = .ok (.invokestatic 138, 3) := by decide +kernel
theorem dX12_readsSuit_8 : decode cX12_readsSuit 8 = .ok (.istore_n 2, 1) := by decide +kernel
theorem dX12_readsSuit_9 : decode cX12_readsSuit 9 = .ok (.iload_n 2, 1) := by decide +kernel
theorem dX12_readsSuit_10 : decode cX12_readsSuit 10 = .ok (.bipush (-9), 2) := by decide +kernel
theorem dX12_readsSuit_12 : decode cX12_readsSuit 12 = .ok (.if_icmp .eq 12, 3) := by decide +kernel
theorem dX12_readsSuit_15 : decode cX12_readsSuit 15 = .ok (.aload_n 0, 1) := by decide +kernel
theorem dX12_readsSuit_16 : decode cX12_readsSuit 16 = .ok (.getfield 141, 3) := by decide +kernel
theorem dX12_readsSuit_19 : decode cX12_readsSuit 19 = .ok (.bipush 6, 2) := by decide +kernel
theorem dX12_readsSuit_21 : decode cX12_readsSuit 21 = .ok (.if_icmp .ne 5, 3) := by decide +kernel
theorem dX12_readsSuit_24 : decode cX12_readsSuit 24 = .ok (.iconst 0, 1) := by decide +kernel
theorem dX12_readsSuit_25 : decode cX12_readsSuit 25 = .ok (.ireturn, 1) := by decide +kernel
theorem dX12_readsSuit_26 : decode cX12_readsSuit 26 = .ok (.aload_n 0, 1) := by decide +kernel
theorem dX12_readsSuit_27 : decode cX12_readsSuit 27 = .ok (.dup, 1) := by decide +kernel
theorem dX12_readsSuit_28 : decode cX12_readsSuit 28 = .ok (.getfield 122, 3) := by decide +kernel
theorem dX12_readsSuit_31 : decode cX12_readsSuit 31 = .ok (.iconst 1, 1) := by decide +kernel
theorem dX12_readsSuit_32 : decode cX12_readsSuit 32 = .ok (.iadd, 1) := by decide +kernel
theorem dX12_readsSuit_33 : decode cX12_readsSuit 33 = .ok (.putfield 122, 3) := by decide +kernel
theorem dX12_readsSuit_36 : decode cX12_readsSuit 36 = .ok (.bipush 18, 2) := by decide +kernel
theorem dX12_readsSuit_38 : decode cX12_readsSuit 38 = .ok (.iconst 3, 1) := by decide +kernel
theorem dX12_readsSuit_39 : decode cX12_readsSuit 39 = .ok (.aload_n 0, 1) := by decide +kernel
theorem dX12_readsSuit_40 : decode cX12_readsSuit 40 = .ok (.getfield 141, 3) := by decide +kernel
theorem dX12_readsSuit_43 : decode cX12_readsSuit 43 = .ok (.imul, 1) := by decide +kernel
theorem dX12_readsSuit_44 : decode cX12_readsSuit 44 = .ok (.iadd, 1) := by decide +kernel
theorem dX12_readsSuit_45 : decode cX12_readsSuit 45 = .ok (.istore_n 3, 1) := by decide +kernel
theorem dX12_readsSuit_46 : decode cX12_readsSuit 46 = .ok (.aload_n 0, 1) := by decide +kernel
theorem dX12_readsSuit_47 : decode cX12_readsSuit 47 = .ok (.getfield 32, 3) := by decide +kernel
theorem dX12_readsSuit_50 : decode cX12_readsSuit 50 = .ok (.iload_n 3, 1) := by decide +kernel
theorem dX12_readsSuit_51 : decode cX12_readsSuit 51 = .ok (.iload_n 2, 1) := by decide +kernel
theorem dX12_readsSuit_52 : decode cX12_readsSuit 52 = .ok (.iastore, 1) := by decide +kernel
theorem dX12_readsSuit_53 : decode cX12_readsSuit 53 = .ok (.aload_n 0, 1) := by decide +kernel
theorem dX12_readsSuit_54 : decode cX12_readsSuit 54 = .ok (.iload_n 1, 1) := by decide +kernel
theorem dX12_readsSuit_55 : decode cX12_readsSuit 55 = .ok (.iconst 1, 1) := by decide +kernel
theorem dX12_readsSuit_56 : decode cX12_readsSuit 56 = .ok (.bipush 9, 2) := by decide +kernel
theorem dX12_readsSuit_58 : decode cX12_readsSuit 58 = .ok (.invokevirtual 144, 3) := by decide +kernel
theorem dX12_readsSuit_61 : decode cX12_readsSuit 61 = .ok (.ifCond .ne 5, 3) := by decide +kernel
theorem dX12_readsSuit_64 : decode cX12_readsSuit 64 = .ok (.iconst 0, 1) := by decide +kernel
theorem dX12_readsSuit_65 : decode cX12_readsSuit 65 = .ok (.ireturn, 1) := by decide +kernel
theorem dX12_readsSuit_66 : decode cX12_readsSuit 66 = .ok (.aload_n 0, 1) := by decide +kernel
theorem dX12_readsSuit_67 : decode cX12_readsSuit 67 = .ok (.getfield 32, 3) := by decide +kernel
theorem dX12_readsSuit_70 : decode cX12_readsSuit 70 = .ok (.iload_n 3, 1) := by decide +kernel
theorem dX12_readsSuit_71 : decode cX12_readsSuit 71 = .ok (.iconst 1, 1) := by decide +kernel
theorem dX12_readsSuit_72 : decode cX12_readsSuit 72 = .ok (.iadd, 1) := by decide +kernel
theorem dX12_readsSuit_73 : decode cX12_readsSuit 73 = .ok (.aload_n 0, 1) := by decide +kernel
theorem dX12_readsSuit_74 : decode cX12_readsSuit 74 = .ok (.getfield 125, 3) := by decide +kernel
theorem dX12_readsSuit_77 : decode cX12_readsSuit 77 = .ok (.iastore, 1) := by decide +kernel
theorem dX12_readsSuit_78 : decode cX12_readsSuit 78 = .ok (.aload_n 0, 1) := by decide +kernel
theorem dX12_readsSuit_79 : decode cX12_readsSuit 79 = .ok (.getfield 32, 3) := by decide +kernel
theorem dX12_readsSuit_82 : decode cX12_readsSuit 82 = .ok (.iload_n 3, 1) := by decide +kernel
theorem dX12_readsSuit_83 : decode cX12_readsSuit 83 = .ok (.iconst 2, 1) := by decide +kernel
theorem dX12_readsSuit_84 : decode cX12_readsSuit 84 = .ok (.iadd, 1) := by decide +kernel
theorem dX12_readsSuit_85 : decode cX12_readsSuit 85 = .ok (.bipush (-9), 2) := by decide +kernel
theorem dX12_readsSuit_87 : decode cX12_readsSuit 87 = .ok (.iastore, 1) := by decide +kernel
theorem dX12_readsSuit_88 : decode cX12_readsSuit 88 = .ok (.iload_n 2, 1) := by decide +kernel
theorem dX12_readsSuit_89 : decode cX12_readsSuit 89 = .ok (.iconst 3, 1) := by decide +kernel
theorem dX12_readsSuit_90 : decode cX12_readsSuit 90 = .ok (.if_icmp .lt 51, 3) := by decide +kernel
theorem dX12_readsSuit_93 : decode cX12_readsSuit 93 = .ok (.aload_n 0, 1) := by decide +kernel
theorem dX12_readsSuit_94 : decode cX12_readsSuit 94 = .ok (.iload_n 1, 1) := by decide +kernel
theorem dX12_readsSuit_95 : decode cX12_readsSuit 95 = .ok (.iload_n 2, 1) := by decide +kernel
theorem dX12_readsSuit_96 : decode cX12_readsSuit 96 = .ok (.iconst 5, 1) := by decide +kernel
theorem dX12_readsSuit_97 : decode cX12_readsSuit 97 = .ok (.if_icmp .ne 7, 3) := by decide +kernel
theorem dX12_readsSuit_100 : decode cX12_readsSuit 100 = .ok (.iconst 0, 1) := by decide +kernel
theorem dX12_readsSuit_101 : decode cX12_readsSuit 101 = .ok (.goto 4, 3) := by decide +kernel
theorem dX12_readsSuit_104 : decode cX12_readsSuit 104 = .ok (.iconst 1, 1) := by decide +kernel
theorem dX12_readsSuit_105 : decode cX12_readsSuit 105 = .ok (.iload_n 2, 1) := by decide +kernel
theorem dX12_readsSuit_106 : decode cX12_readsSuit 106 = .ok (.iconst 5, 1) := by decide +kernel
theorem dX12_readsSuit_107 : decode cX12_readsSuit 107 = .ok (.if_icmp .ne 12, 3) := by decide +kernel
theorem dX12_readsSuit_110 : decode cX12_readsSuit 110 = .ok (.aload_n 0, 1) := by decide +kernel
theorem dX12_readsSuit_111 : decode cX12_readsSuit 111 = .ok (.getfield 141, 3) := by decide +kernel
theorem dX12_readsSuit_114 : decode cX12_readsSuit 114 = .ok (.iconst 1, 1) := by decide +kernel
theorem dX12_readsSuit_115 : decode cX12_readsSuit 115 = .ok (.isub, 1) := by decide +kernel
theorem dX12_readsSuit_116 : decode cX12_readsSuit 116 = .ok (.goto 5, 3) := by decide +kernel
theorem dX12_readsSuit_119 : decode cX12_readsSuit 119 = .ok (.bipush 9, 2) := by decide +kernel
theorem dX12_readsSuit_121 : decode cX12_readsSuit 121 = .ok (.invokevirtual 144, 3) := by decide +kernel
theorem dX12_readsSuit_124 : decode cX12_readsSuit 124 = .ok (.ifCond .ne 5, 3) := by decide +kernel
theorem dX12_readsSuit_127 : decode cX12_readsSuit 127 = .ok (.iconst 0, 1) := by decide +kernel
theorem dX12_readsSuit_128 : decode cX12_readsSuit 128 = .ok (.ireturn, 1) := by decide +kernel
theorem dX12_readsSuit_129 : decode cX12_readsSuit 129 = .ok (.aload_n 0, 1) := by decide +kernel
theorem dX12_readsSuit_130 : decode cX12_readsSuit 130 = .ok (.getfield 32, 3) := by decide +kernel
theorem dX12_readsSuit_133 : decode cX12_readsSuit 133 = .ok (.iload_n 3, 1) := by decide +kernel
theorem dX12_readsSuit_134 : decode cX12_readsSuit 134 = .ok (.iconst 2, 1) := by decide +kernel
theorem dX12_readsSuit_135 : decode cX12_readsSuit 135 = .ok (.iadd, 1) := by decide +kernel
theorem dX12_readsSuit_136 : decode cX12_readsSuit 136 = .ok (.aload_n 0, 1) := by decide +kernel
theorem dX12_readsSuit_137 : decode cX12_readsSuit 137 = .ok (.getfield 125, 3) := by decide +kernel
theorem dX12_readsSuit_140 : decode cX12_readsSuit 140 = .ok (.iastore, 1) := by decide +kernel
theorem dX12_readsSuit_141 : decode cX12_readsSuit 141 = .ok (.aload_n 0, 1) := by decide +kernel
theorem dX12_readsSuit_142 : decode cX12_readsSuit 142 = .ok (.dup, 1) := by decide +kernel
theorem dX12_readsSuit_143 : decode cX12_readsSuit 143 = .ok (.getfield 141, 3) := by decide +kernel
theorem dX12_readsSuit_146 : decode cX12_readsSuit 146 = .ok (.iconst 1, 1) := by decide +kernel
theorem dX12_readsSuit_147 : decode cX12_readsSuit 147 = .ok (.iadd, 1) := by decide +kernel
theorem dX12_readsSuit_148 : decode cX12_readsSuit 148 = .ok (.putfield 141, 3) := by decide +kernel
theorem dX12_readsSuit_151 : decode cX12_readsSuit 151 = .ok (.iconst 1, 1) := by decide +kernel
theorem dX12_readsSuit_152 : decode cX12_readsSuit 152 = .ok (.ireturn, 1) := by decide +kernel
theorem dX12_goesOn_0 : decode cX12_goesOn 0 = .ok (.aload_n 0, 1) := by decide +kernel
theorem dX12_goesOn_1 : decode cX12_goesOn 1 = .ok (.iconst 0, 1) := by decide +kernel
theorem dX12_goesOn_2 : decode cX12_goesOn 2 = .ok (.putfield 122, 3) := by decide +kernel
theorem dX12_goesOn_5 : decode cX12_goesOn 5 = .ok (.aload_n 0, 1) := by decide +kernel
theorem dX12_goesOn_6 : decode cX12_goesOn 6 = .ok (.iconst 0, 1) := by decide +kernel
theorem dX12_goesOn_7 : decode cX12_goesOn 7 = .ok (.putfield 141, 3) := by decide +kernel
theorem dX12_goesOn_10 : decode cX12_goesOn 10 = .ok (.aload_n 0, 1) := by decide +kernel
theorem dX12_goesOn_11 : decode cX12_goesOn 11 = .ok (.iconst 0, 1) := by decide +kernel
theorem dX12_goesOn_12 : decode cX12_goesOn 12 = .ok (.putfield 134, 3) := by decide +kernel
theorem dX12_goesOn_15 : decode cX12_goesOn 15 = .ok (.aload_n 0, 1) := by decide +kernel
theorem dX12_goesOn_16 : decode cX12_goesOn 16 = .ok (.getfield 122, 3) := by decide +kernel
theorem dX12_goesOn_19 : decode cX12_goesOn 19 = .ok (.aload_n 0, 1) := by decide +kernel
theorem dX12_goesOn_20 : decode cX12_goesOn 20 = .ok (.getfield 26, 3) := by decide +kernel
theorem dX12_goesOn_23 : decode cX12_goesOn 23 = .ok (.iload_n 1, 1) := by decide +kernel
theorem dX12_goesOn_24 : decode cX12_goesOn 24 = .ok (.iaload, 1) := by decide +kernel
theorem dX12_goesOn_25 : decode cX12_goesOn 25 = .ok (.if_icmp .ge 57, 3) := by decide +kernel
theorem dX12_goesOn_28 : decode cX12_goesOn 28 = .ok (.aload_n 0, 1) := by decide +kernel
theorem dX12_goesOn_29 : decode cX12_goesOn 29 = .ok (.iload_n 1, 1) := by decide +kernel
theorem dX12_goesOn_30 : decode cX12_goesOn 30 = .ok (.invokevirtual 128, 3) := by decide +kernel
theorem dX12_goesOn_33 : decode cX12_goesOn 33 = .ok (.bipush 32, 2) := by decide +kernel
theorem dX12_goesOn_35 : decode cX12_goesOn 35 = .ok (.if_icmp .ne 16, 3) := by decide +kernel
theorem dX12_goesOn_38 : decode cX12_goesOn 38 = .ok (.aload_n 0, 1) := by decide +kernel
theorem dX12_goesOn_39 : decode cX12_goesOn 39 = .ok (.dup, 1) := by decide +kernel
theorem dX12_goesOn_40 : decode cX12_goesOn 40 = .ok (.getfield 122, 3) := by decide +kernel
theorem dX12_goesOn_43 : decode cX12_goesOn 43 = .ok (.iconst 1, 1) := by decide +kernel
theorem dX12_goesOn_44 : decode cX12_goesOn 44 = .ok (.iadd, 1) := by decide +kernel
theorem dX12_goesOn_45 : decode cX12_goesOn 45 = .ok (.putfield 122, 3) := by decide +kernel
theorem dX12_goesOn_48 : decode cX12_goesOn 48 = .ok (.goto (-33), 3) := by decide +kernel
theorem dX12_goesOn_51 : decode cX12_goesOn 51 = .ok (.aload_n 0, 1) := by decide +kernel
theorem dX12_goesOn_52 : decode cX12_goesOn 52 = .ok (.getfield 134, 3) := by decide +kernel
theorem dX12_goesOn_55 : decode cX12_goesOn 55 = .ok (.ifCond .eq 14, 3) := by decide +kernel
theorem dX12_goesOn_58 : decode cX12_goesOn 58 = .ok (.aload_n 0, 1) := by decide +kernel
theorem dX12_goesOn_59 : decode cX12_goesOn 59 = .ok (.iload_n 1, 1) := by decide +kernel
theorem dX12_goesOn_60 : decode cX12_goesOn 60 = .ok (.invokevirtual 147, 3) := by decide +kernel
theorem dX12_goesOn_63 : decode cX12_goesOn 63 = .ok (.ifCond .ne (-48), 3) := by decide +kernel
theorem dX12_goesOn_66 : decode cX12_goesOn 66 = .ok (.goto 11, 3) := by decide +kernel
theorem dX12_goesOn_69 : decode cX12_goesOn 69 = .ok (.aload_n 0, 1) := by decide +kernel
theorem dX12_goesOn_70 : decode cX12_goesOn 70 = .ok (.iload_n 1, 1) := by decide +kernel
theorem dX12_goesOn_71 : decode cX12_goesOn 71 = .ok (.invokevirtual 150, 3) := by decide +kernel
theorem dX12_goesOn_74 : decode cX12_goesOn 74 = .ok (.ifCond .ne (-59), 3) := by decide +kernel
theorem dX12_goesOn_77 : decode cX12_goesOn 77 = .ok (.aload_n 0, 1) := by decide +kernel
theorem dX12_goesOn_78 : decode cX12_goesOn 78 = .ok (.getfield 122, 3) := by decide +kernel
theorem dX12_goesOn_81 : decode cX12_goesOn 81 = .ok (.ireturn, 1) := by decide +kernel
theorem dX12_goesOn_82 : decode cX12_goesOn 82 = .ok (.aload_n 0, 1) := by decide +kernel
theorem dX12_goesOn_83 : decode cX12_goesOn 83 = .ok (.getfield 134, 3) := by decide +kernel
theorem dX12_goesOn_86 : decode cX12_goesOn 86 = .ok (.ifCond .eq 8, 3) := by decide +kernel
theorem dX12_goesOn_89 : decode cX12_goesOn 89 = .ok (.bipush (-9), 2) := by decide +kernel
theorem dX12_goesOn_91 : decode cX12_goesOn 91 = .ok (.goto 9, 3) := by decide +kernel
theorem dX12_goesOn_94 : decode cX12_goesOn 94 = .ok (.aload_n 0, 1) := by decide +kernel
theorem dX12_goesOn_95 : decode cX12_goesOn 95 = .ok (.getfield 26, 3) := by decide +kernel
theorem dX12_goesOn_98 : decode cX12_goesOn 98 = .ok (.iload_n 1, 1) := by decide +kernel
theorem dX12_goesOn_99 : decode cX12_goesOn 99 = .ok (.iaload, 1) := by decide +kernel
theorem dX12_goesOn_100 : decode cX12_goesOn 100 = .ok (.ireturn, 1) := by decide +kernel
theorem dX12_fault_0 : decode cX12_fault 0 = .ok (.aload_n 0, 1) := by decide +kernel
theorem dX12_fault_1 : decode cX12_fault 1 = .ok (.iload_n 1, 1) := by decide +kernel
theorem dX12_fault_2 : decode cX12_fault 2 = .ok (.invokevirtual 119, 3) := by decide +kernel
theorem dX12_fault_5 : decode cX12_fault 5 = .ok (.istore_n 2, 1) := by decide +kernel
theorem dX12_fault_6 : decode cX12_fault 6 = .ok (.iload_n 2, 1) := by decide +kernel
theorem dX12_fault_7 : decode cX12_fault 7 = .ok (.ifCond .ge 7, 3) := by decide +kernel
theorem dX12_fault_10 : decode cX12_fault 10 = .ok (.iload_n 2, 1) := by decide +kernel
theorem dX12_fault_11 : decode cX12_fault 11 = .ok (.goto 8, 3) := by decide +kernel
theorem dX12_fault_14 : decode cX12_fault 14 = .ok (.aload_n 0, 1) := by decide +kernel
theorem dX12_fault_15 : decode cX12_fault 15 = .ok (.iload_n 1, 1) := by decide +kernel
theorem dX12_fault_16 : decode cX12_fault 16 = .ok (.invokevirtual 153, 3) := by decide +kernel
theorem dX12_fault_19 : decode cX12_fault 19 = .ok (.ireturn, 1) := by decide +kernel
theorem dX12_court_0 : decode cX12_court 0 = .ok (.aload_n 0, 1) := by decide +kernel
theorem dX12_court_1 : decode cX12_court 1 = .ok (.iload_n 1, 1) := by decide +kernel
theorem dX12_court_2 : decode cX12_court 2 = .ok (.invokevirtual 119, 3) := by decide +kernel
theorem dX12_court_5 : decode cX12_court 5 = .ok (.istore_n 2, 1) := by decide +kernel
theorem dX12_court_6 : decode cX12_court 6 = .ok (.iload_n 2, 1) := by decide +kernel
theorem dX12_court_7 : decode cX12_court 7 = .ok (.ifCond .ge 5, 3) := by decide +kernel
theorem dX12_court_10 : decode cX12_court 10 = .ok (.iload_n 2, 1) := by decide +kernel
theorem dX12_court_11 : decode cX12_court 11 = .ok (.ireturn, 1) := by decide +kernel
theorem dX12_court_12 : decode cX12_court 12 = .ok (.aload_n 0, 1) := by decide +kernel
theorem dX12_court_13 : decode cX12_court 13 = .ok (.iload_n 1, 1) := by decide +kernel
theorem dX12_court_14 : decode cX12_court 14 = .ok (.invokevirtual 153, 3) := by decide +kernel
theorem dX12_court_17 : decode cX12_court 17 = .ok (.bipush (-9), 2) := by decide +kernel
theorem dX12_court_19 : decode cX12_court 19 = .ok (.if_icmp .eq 6, 3) := by decide +kernel
theorem dX12_court_22 : decode cX12_court 22 = .ok (.bipush (-4), 2) := by decide +kernel
theorem dX12_court_24 : decode cX12_court 24 = .ok (.ireturn, 1) := by decide +kernel
theorem dX12_court_25 : decode cX12_court 25 = .ok (.aload_n 0, 1) := by decide +kernel
theorem dX12_court_26 : decode cX12_court 26 = .ok (.aload_n 0, 1) := by decide +kernel
theorem dX12_court_27 : decode cX12_court 27 = .ok (.getfield 141, 3) := by decide +kernel
theorem dX12_court_30 : decode cX12_court 30 = .ok (.putfield 156, 3) := by decide +kernel
theorem dX12_court_33 : decode cX12_court 33 = .ok (.iconst 0, 1) := by decide +kernel
theorem dX12_court_34 : decode cX12_court 34 = .ok (.istore_n 3, 1) := by decide +kernel
theorem dX12_court_35 : decode cX12_court 35 = .ok (.iload_n 3, 1) := by decide +kernel
theorem dX12_court_36 : decode cX12_court 36 = .ok (.bipush 18, 2) := by decide +kernel
theorem dX12_court_38 : decode cX12_court 38 = .ok (.if_icmp .ge 24, 3) := by decide +kernel
theorem dX12_court_41 : decode cX12_court 41 = .ok (.aload_n 0, 1) := by decide +kernel
theorem dX12_court_42 : decode cX12_court 42 = .ok (.getfield 32, 3) := by decide +kernel
theorem dX12_court_45 : decode cX12_court 45 = .ok (.iload_n 3, 1) := by decide +kernel
theorem dX12_court_46 : decode cX12_court 46 = .ok (.aload_n 0, 1) := by decide +kernel
theorem dX12_court_47 : decode cX12_court 47 = .ok (.getfield 32, 3) := by decide +kernel
theorem dX12_court_50 : decode cX12_court 50 = .ok (.bipush 18, 2) := by decide +kernel
theorem dX12_court_52 : decode cX12_court 52 = .ok (.iload_n 3, 1) := by decide +kernel
theorem dX12_court_53 : decode cX12_court 53 = .ok (.iadd, 1) := by decide +kernel
theorem dX12_court_54 : decode cX12_court 54 = .ok (.iaload, 1) := by decide +kernel
theorem dX12_court_55 : decode cX12_court 55 = .ok (.iastore, 1) := by decide +kernel
theorem dX12_court_56 : decode cX12_court 56 = .ok (.iinc 3 1, 3) := by decide +kernel
theorem dX12_court_59 : decode cX12_court 59 = .ok (.goto (-24), 3) := by decide +kernel
theorem dX12_court_62 : decode cX12_court 62 = .ok (.aload_n 0, 1) := by decide +kernel
theorem dX12_court_63 : decode cX12_court 63 = .ok (.getfield 35, 3) := by decide +kernel
theorem dX12_court_66 : decode cX12_court 66 = .ok (.iconst 0, 1) := by decide +kernel
theorem dX12_court_67 : decode cX12_court 67 = .ok (.aload_n 0, 1) := by decide +kernel
theorem dX12_court_68 : decode cX12_court 68 = .ok (.getfield 38, 3) := by decide +kernel
theorem dX12_court_71 : decode cX12_court 71 = .ok (.iconst 0, 1) := by decide +kernel
theorem dX12_court_72 : decode cX12_court 72 = .ok (.iaload, 1) := by decide +kernel
theorem dX12_court_73 : decode cX12_court 73 = .ok (.iastore, 1) := by decide +kernel
theorem dX12_court_74 : decode cX12_court 74 = .ok (.aload_n 0, 1) := by decide +kernel
theorem dX12_court_75 : decode cX12_court 75 = .ok (.getfield 35, 3) := by decide +kernel
theorem dX12_court_78 : decode cX12_court 78 = .ok (.iconst 1, 1) := by decide +kernel
theorem dX12_court_79 : decode cX12_court 79 = .ok (.aload_n 0, 1) := by decide +kernel
theorem dX12_court_80 : decode cX12_court 80 = .ok (.getfield 38, 3) := by decide +kernel
theorem dX12_court_83 : decode cX12_court 83 = .ok (.iconst 1, 1) := by decide +kernel
theorem dX12_court_84 : decode cX12_court 84 = .ok (.iaload, 1) := by decide +kernel
theorem dX12_court_85 : decode cX12_court 85 = .ok (.iastore, 1) := by decide +kernel
theorem dX12_court_86 : decode cX12_court 86 = .ok (.aload_n 0, 1) := by decide +kernel
theorem dX12_court_87 : decode cX12_court 87 = .ok (.iconst 0, 1) := by decide +kernel
theorem dX12_court_88 : decode cX12_court 88 = .ok (.putfield 159, 3) := by decide +kernel
theorem dX12_court_91 : decode cX12_court 91 = .ok (.iconst 0, 1) := by decide +kernel
theorem dX12_court_92 : decode cX12_court 92 = .ok (.istore_n 3, 1) := by decide +kernel
theorem dX12_court_93 : decode cX12_court 93 = .ok (.iload_n 3, 1) := by decide +kernel
theorem dX12_court_94 : decode cX12_court 94 = .ok (.iconst 4, 1) := by decide +kernel
theorem dX12_court_95 : decode cX12_court 95 = .ok (.if_icmp .ge 16, 3) := by decide +kernel
theorem dX12_court_98 : decode cX12_court 98 = .ok (.aload_n 0, 1) := by decide +kernel
theorem dX12_court_99 : decode cX12_court 99 = .ok (.getfield 62, 3) := by decide +kernel
theorem dX12_court_102 : decode cX12_court 102 = .ok (.iload_n 3, 1) := by decide +kernel
theorem dX12_court_103 : decode cX12_court 103 = .ok (.iconst 0, 1) := by decide +kernel
theorem dX12_court_104 : decode cX12_court 104 = .ok (.iastore, 1) := by decide +kernel
theorem dX12_court_105 : decode cX12_court 105 = .ok (.iinc 3 1, 3) := by decide +kernel
theorem dX12_court_108 : decode cX12_court 108 = .ok (.goto (-15), 3) := by decide +kernel
theorem dX12_court_111 : decode cX12_court 111 = .ok (.aload_n 0, 1) := by decide +kernel
theorem dX12_court_112 : decode cX12_court 112 = .ok (.iconst 0, 1) := by decide +kernel
theorem dX12_court_113 : decode cX12_court 113 = .ok (.putfield 162, 3) := by decide +kernel
theorem dX12_court_116 : decode cX12_court 116 = .ok (.iconst 0, 1) := by decide +kernel
theorem dX12_court_117 : decode cX12_court 117 = .ok (.istore_n 3, 1) := by decide +kernel
theorem dX12_court_118 : decode cX12_court 118 = .ok (.iload_n 3, 1) := by decide +kernel
theorem dX12_court_119 : decode cX12_court 119 = .ok (.iconst 3, 1) := by decide +kernel
theorem dX12_court_120 : decode cX12_court 120 = .ok (.if_icmp .ge 20, 3) := by decide +kernel
theorem dX12_court_123 : decode cX12_court 123 = .ok (.aload_n 0, 1) := by decide +kernel
theorem dX12_court_124 : decode cX12_court 124 = .ok (.getfield 74, 3) := by decide +kernel
theorem dX12_court_127 : decode cX12_court 127 = .ok (.bipush 72, 2) := by decide +kernel
theorem dX12_court_129 : decode cX12_court 129 = .ok (.iload_n 3, 1) := by decide +kernel
theorem dX12_court_130 : decode cX12_court 130 = .ok (.imul, 1) := by decide +kernel
theorem dX12_court_131 : decode cX12_court 131 = .ok (.bipush (-9), 2) := by decide +kernel
theorem dX12_court_133 : decode cX12_court 133 = .ok (.iastore, 1) := by decide +kernel
theorem dX12_court_134 : decode cX12_court 134 = .ok (.iinc 3 1, 3) := by decide +kernel
theorem dX12_court_137 : decode cX12_court 137 = .ok (.goto (-19), 3) := by decide +kernel
theorem dX12_court_140 : decode cX12_court 140 = .ok (.aload_n 0, 1) := by decide +kernel
theorem dX12_court_141 : decode cX12_court 141 = .ok (.getfield 156, 3) := by decide +kernel
theorem dX12_court_144 : decode cX12_court 144 = .ok (.ireturn, 1) := by decide +kernel
theorem dX12_isSuit_0 : decode cX12_isSuit 0 = .ok (.iload_n 1, 1) := by decide +kernel
theorem dX12_isSuit_1 : decode cX12_isSuit 1 = .ok (.iconst 0, 1) := by decide +kernel
theorem dX12_isSuit_2 : decode cX12_isSuit 2 = .ok (.aload_n 0, 1) := by decide +kernel
theorem dX12_isSuit_3 : decode cX12_isSuit 3 = .ok (.getfield 156, 3) := by decide +kernel
theorem dX12_isSuit_6 : decode cX12_isSuit 6 = .ok (.iconst 1, 1) := by decide +kernel
theorem dX12_isSuit_7 : decode cX12_isSuit 7 = .ok (.isub, 1) := by decide +kernel
theorem dX12_isSuit_8 : decode cX12_isSuit 8 = .ok (.invokestatic 87, 3) := by decide +kernel
theorem dX12_isSuit_11 : decode cX12_isSuit 11 = .ok (.ireturn, 1) := by decide +kernel
theorem dX12_of_0 : decode cX12_of 0 = .ok (.aload_n 0, 1) := by decide +kernel
theorem dX12_of_1 : decode cX12_of 1 = .ok (.getfield 32, 3) := by decide +kernel
theorem dX12_of_4 : decode cX12_of 4 = .ok (.iconst 3, 1) := by decide +kernel
theorem dX12_of_5 : decode cX12_of 5 = .ok (.iload_n 1, 1) := by decide +kernel
theorem dX12_of_6 : decode cX12_of 6 = .ok (.imul, 1) := by decide +kernel
theorem dX12_of_7 : decode cX12_of 7 = .ok (.iload_n 2, 1) := by decide +kernel
theorem dX12_of_8 : decode cX12_of 8 = .ok (.iadd, 1) := by decide +kernel
theorem dX12_of_9 : decode cX12_of 9 = .ok (.iaload, 1) := by decide +kernel
theorem dX12_of_10 : decode cX12_of 10 = .ok (.ireturn, 1) := by decide +kernel
theorem q_1030 : Cond.fieldLink RX12 122 "HeavyFilesModel" "readAt" "I" ∈ wT := wi_t 1030 (by decide +kernel) (by decide +kernel)
theorem q_1031 : Cond.fieldLink RX12 125 "HeavyFilesModel" "readNumber" "I" ∈ wT := wi_t 1031 (by decide +kernel) (by decide +kernel)
theorem q_1217 : Cond.methodLink RX12 128 yX12_here ∈ wT := wi_t 1217 (by decide +kernel) (by decide +kernel)
theorem q_1220 : Cond.code yX12_here cX12_here 2 (some .int) ∈ wT := wi_t 1220 (by decide +kernel) (by decide +kernel)
theorem q_1219 : Cond.instanceMethod yX12_here ∈ wT := wi_t 1219 (by decide +kernel) (by decide +kernel)
theorem qs_40 : Cond.selects RX12 yX12_here yX12_here ∈ wT := wi_s (q := (yX12_here, 42)) 40 (by decide +kernel) (by decide +kernel)
theorem q_1236 : Cond.methodLink RX12 131 yX12_readsNumber ∈ wT := wi_t 1236 (by decide +kernel) (by decide +kernel)
theorem q_1239 : Cond.code yX12_readsNumber cX12_readsNumber 3 (some .boolean) ∈ wT := wi_t 1239 (by decide +kernel) (by decide +kernel)
theorem q_1238 : Cond.instanceMethod yX12_readsNumber ∈ wT := wi_t 1238 (by decide +kernel) (by decide +kernel)
theorem qs_44 : Cond.selects RX12 yX12_readsNumber yX12_readsNumber ∈ wT := wi_s (q := (yX12_readsNumber, 42)) 44 (by decide +kernel) (by decide +kernel)
theorem q_1034 : Cond.fieldLink RX12 38 "HeavyFilesModel" "readStocks" "[I" ∈ wT := wi_t 1034 (by decide +kernel) (by decide +kernel)
theorem q_1033 : Cond.fieldLink RX12 134 "HeavyFilesModel" "readHead" "Z" ∈ wT := wi_t 1033 (by decide +kernel) (by decide +kernel)
theorem q_1032 : Cond.fieldLink RX12 141 "HeavyFilesModel" "readMany" "I" ∈ wT := wi_t 1032 (by decide +kernel) (by decide +kernel)
theorem q_1228 : Cond.methodLink RX12 144 yX12_readsFigure ∈ wT := wi_t 1228 (by decide +kernel) (by decide +kernel)
theorem q_1231 : Cond.code yX12_readsFigure cX12_readsFigure 5 (some .boolean) ∈ wT := wi_t 1231 (by decide +kernel) (by decide +kernel)
theorem q_1230 : Cond.instanceMethod yX12_readsFigure ∈ wT := wi_t 1230 (by decide +kernel) (by decide +kernel)
theorem qs_42 : Cond.selects RX12 yX12_readsFigure yX12_readsFigure ∈ wT := wi_s (q := (yX12_readsFigure, 42)) 42 (by decide +kernel) (by decide +kernel)
theorem q_1027 : Cond.fieldLink RX12 32 "HeavyFilesModel" "suits" "[I" ∈ wT := wi_t 1027 (by decide +kernel) (by decide +kernel)
theorem q_1225 : Cond.methodLink RX12 138 yX12_kindOf ∈ wT := wi_t 1225 (by decide +kernel) (by decide +kernel)
theorem q_1227 : Cond.code yX12_kindOf cX12_kindOf 1 (some .int) ∈ wT := wi_t 1227 (by decide +kernel) (by decide +kernel)
theorem q_1226 : Cond.static yX12_kindOf ∈ wT := wi_t 1226 (by decide +kernel) (by decide +kernel)
theorem q_1232 : Cond.methodLink RX12 150 yX12_readsHead ∈ wT := wi_t 1232 (by decide +kernel) (by decide +kernel)
theorem q_1235 : Cond.code yX12_readsHead cX12_readsHead 2 (some .boolean) ∈ wT := wi_t 1235 (by decide +kernel) (by decide +kernel)
theorem q_1234 : Cond.instanceMethod yX12_readsHead ∈ wT := wi_t 1234 (by decide +kernel) (by decide +kernel)
theorem qs_43 : Cond.selects RX12 yX12_readsHead yX12_readsHead ∈ wT := wi_s (q := (yX12_readsHead, 42)) 43 (by decide +kernel) (by decide +kernel)
theorem q_1221 : Cond.methodLink RX12 147 yX12_readsSuit ∈ wT := wi_t 1221 (by decide +kernel) (by decide +kernel)
theorem q_1224 : Cond.code yX12_readsSuit cX12_readsSuit 4 (some .boolean) ∈ wT := wi_t 1224 (by decide +kernel) (by decide +kernel)
theorem q_1223 : Cond.instanceMethod yX12_readsSuit ∈ wT := wi_t 1223 (by decide +kernel) (by decide +kernel)
theorem qs_41 : Cond.selects RX12 yX12_readsSuit yX12_readsSuit ∈ wT := wi_s (q := (yX12_readsSuit, 42)) 41 (by decide +kernel) (by decide +kernel)
theorem q_1213 : Cond.methodLink RX12 153 yX12_goesOn ∈ wT := wi_t 1213 (by decide +kernel) (by decide +kernel)
theorem q_1216 : Cond.code yX12_goesOn cX12_goesOn 2 (some .int) ∈ wT := wi_t 1216 (by decide +kernel) (by decide +kernel)
theorem q_1215 : Cond.instanceMethod yX12_goesOn ∈ wT := wi_t 1215 (by decide +kernel) (by decide +kernel)
theorem qs_39 : Cond.selects RX12 yX12_goesOn yX12_goesOn ∈ wT := wi_s (q := (yX12_goesOn, 42)) 39 (by decide +kernel) (by decide +kernel)
theorem q_1026 : Cond.fieldLink RX12 156 "HeavyFilesModel" "many" "I" ∈ wT := wi_t 1026 (by decide +kernel) (by decide +kernel)
theorem q_1056 : Cond.fieldLink RX12 74 "HeavyFilesModel" "kept" "[I" ∈ wT := wi_t 1056 (by decide +kernel) (by decide +kernel)
theorem q_1053 : Cond.fieldLink RX12 162 "HeavyFilesModel" "noteMany" "I" ∈ wT := wi_t 1053 (by decide +kernel) (by decide +kernel)
theorem q_1051 : Cond.fieldLink RX12 62 "HeavyFilesModel" "lenders" "[I" ∈ wT := wi_t 1051 (by decide +kernel) (by decide +kernel)
theorem q_1028 : Cond.fieldLink RX12 35 "HeavyFilesModel" "stocks" "[I" ∈ wT := wi_t 1028 (by decide +kernel) (by decide +kernel)
theorem q_1029 : Cond.fieldLink RX12 159 "HeavyFilesModel" "damp" "I" ∈ wT := wi_t 1029 (by decide +kernel) (by decide +kernel)
theorem kvX12_here : KV yX12_here RX12 cX12_here 2 (some .int) 1 := ⟨q_1219, qs_40, q_13, q_1220, rfl, by decide +kernel, by decide +kernel, by decide +kernel⟩
theorem kvX12_readsNumber : KV yX12_readsNumber RX12 cX12_readsNumber 3 (some .boolean) 1 := ⟨q_1238, qs_44, q_13, q_1239, rfl, by decide +kernel, by decide +kernel, by decide +kernel⟩
theorem kvX12_readsFigure : KV yX12_readsFigure RX12 cX12_readsFigure 5 (some .boolean) 3 := ⟨q_1230, qs_42, q_13, q_1231, rfl, by decide +kernel, by decide +kernel, by decide +kernel⟩
theorem kvX12_kindOf : KS yX12_kindOf cX12_kindOf 1 (some .int) 1 := ⟨q_1226, q_13, q_1227, by decide +kernel, by decide +kernel, by decide +kernel⟩
theorem kvX12_readsHead : KV yX12_readsHead RX12 cX12_readsHead 2 (some .boolean) 1 := ⟨q_1234, qs_43, q_13, q_1235, rfl, by decide +kernel, by decide +kernel, by decide +kernel⟩
theorem kvX12_readsSuit : KV yX12_readsSuit RX12 cX12_readsSuit 4 (some .boolean) 1 := ⟨q_1223, qs_41, q_13, q_1224, rfl, by decide +kernel, by decide +kernel, by decide +kernel⟩
theorem kvX12_goesOn : KV yX12_goesOn RX12 cX12_goesOn 2 (some .int) 1 := ⟨q_1215, qs_39, q_13, q_1216, rfl, by decide +kernel, by decide +kernel, by decide +kernel⟩
/-! HeavyFilesModel.here(I)I -/
def fX12_here (N : Nat)  (a0 : Nat) (a1 : Int32) (mm : Mm) : Option (Int32 × Mm) :=
  gd (inb a1 (ln (fr a0 8))) <| if (rd mm (fr a0 8) a1.toNatClampNeg) ≤ (rd mm a0 14) then (some ((-9), mm)) else (gd (inb ((80 * a1) + (rd mm a0 14)) (ln (fr a0 9))) <| some (rd mm (fr a0 9) (((80 * a1) + (rd mm a0 14)).toNatClampNeg), mm))
abbrev rmX12_here : Room := { frames := 1, cells := 0, slots := 0, locals := 40 }
/-! HeavyFilesModel.readsNumber(I)Z -/
def fX12_readsNumber_68 (N : Nat)  (a0 : Nat) (a2 : Int32) (mm : Mm) : Option (Int32 × Mm) :=
  if (rd mm a0 14) ≤ a2 then (some (0, mm)) else (if (40 : Int32) < (rd mm a0 15) then (some (0, mm)) else (some (1, mm)))
def fX12_readsNumber_10 (N : Nat)  : Nat → Nat → Int32 → Int32 → Mm → Option (Int32 × Mm)
  | 0 => fun _ _ _ _ => none
  | n + 1 => fun a0 a1 a2 mm =>
    let k10 := fX12_readsNumber_10 N  n
    if (2 : Int32) ≤ ((rd mm a0 14) - a2) then (fX12_readsNumber_68 N a0 a2 mm) else (bd2 (fX12_here N a0 a1 mm) fun x4 m5 => bd2 (fX12_in N x4 48 57 m5) fun x7 m8 => if x7 = 0 then (fX12_readsNumber_68 N a0 a2 m8) else (bd2 (fX12_here N a0 a1 m8) fun x11 m12 => nm (wr m12 a0 15 (((10 * (rd m8 a0 15)) + x11) - 48)) fun m14 => nm (wr m14 a0 14 ((rd m14 a0 14) + 1)) fun m15 => k10 a0 a1 a2 m15))
def fX12_readsNumber (N : Nat)  (a0 : Nat) (a1 : Int32) (mm : Mm) : Option (Int32 × Mm) :=
  nm (wr mm a0 15 0) fun m16 => fX12_readsNumber_10 N N a0 a1 (rd mm a0 14) m16
abbrev rmX12_readsNumber : Room := { frames := 2, cells := 0, slots := 0, locals := 70 }
/-! HeavyFilesModel.readsFigure(III)Z -/
def fX12_readsFigure_38 (N : Nat)  (a4 : Int32) (s0 : Nat) (s1 : Int32) (s2 : Int32) (mm : Mm) : Option (Int32 × Mm) :=
  nm (wr mm s0 14 (s1 + s2)) fun m1 => gd (zb a4) <| some (a4, m1)
def fX12_readsFigure (N : Nat)  (a0 : Nat) (a1 : Int32) (a2 : Int32) (a3 : Int32) (mm : Mm) : Option (Int32 × Mm) :=
  bd2 (fX12_here N a0 a1 mm) fun x3 m4 => nm (wr m4 a0 15 (x3 - 48)) fun m6 => bd2 (fX12_in N (rd m6 a0 15) a2 a3 m6) fun x7 m8 => if x7 = 0 then (fX12_readsFigure_38 N x7 a0 (rd m8 a0 14) 0 m8) else (fX12_readsFigure_38 N x7 a0 (rd m8 a0 14) 1 m8)
abbrev rmX12_readsFigure : Room := { frames := 2, cells := 0, slots := 0, locals := 70 }
/-! HeavyFilesModel.kindOf(I)I -/
def fX12_kindOf (N : Nat)  (a0 : Int32) (mm : Mm) : Option (Int32 × Mm) :=
  if a0 = 115 then (some (0, mm)) else (if a0 = 111 then (some (1, mm)) else (if a0 = 102 then (some (2, mm)) else (if a0 = 100 then (some (3, mm)) else (if a0 = 112 then (some (4, mm)) else (if a0 = 104 then (some (5, mm)) else (some ((-9), mm)))))))
abbrev rmX12_kindOf : Room := { frames := 1, cells := 0, slots := 0, locals := 40 }
/-! HeavyFilesModel.readsHead(I)Z -/
def fX12_readsHead (N : Nat)  (a0 : Nat) (a1 : Int32) (mm : Mm) : Option (Int32 × Mm) :=
  bd2 (fX12_here N a0 a1 mm) fun x1 m2 => if x1 = 110 then (nm (wr m2 a0 14 ((rd m2 a0 14) + 1)) fun m5 => bd2 (fX12_readsNumber N a0 a1 m5) fun x6 m7 => if x6 = 0 then (some (0, m7)) else (gd (inb 0 (ln (fr a0 18))) <| nm (wr m7 (fr a0 18) (0 : Int32).toNatClampNeg (rd m7 a0 15)) fun m11 => bd2 (fX12_here N a0 a1 m11) fun x12 m13 => if x12 = 58 then (nm (wr m13 a0 14 ((rd m13 a0 14) + 1)) fun m16 => bd2 (fX12_readsNumber N a0 a1 m16) fun x17 m18 => if x17 = 0 then (some (0, m18)) else (gd (inb 1 (ln (fr a0 18))) <| nm (wr m18 (fr a0 18) (1 : Int32).toNatClampNeg (rd m18 a0 15)) fun m22 => nm (wr m22 a0 17 1) fun m23 => some (1, m23))) else (some (0, m13)))) else (some (0, m2))
abbrev rmX12_readsHead : Room := { frames := 3, cells := 0, slots := 0, locals := 100 }
/-! HeavyFilesModel.readsSuit(I)Z -/
def fX12_readsSuit_141 (N : Nat)  (a0 : Nat) (mm : Mm) : Option (Int32 × Mm) :=
  nm (wr mm a0 16 ((rd mm a0 16) + 1)) fun m1 => some (1, m1)
def fX12_readsSuit_121 (N : Nat)  (a0 : Nat) (a3 : Int32) (s0 : Nat) (s1 : Int32) (s2 : Int32) (s3 : Int32) (mm : Mm) : Option (Int32 × Mm) :=
  bd2 (fX12_readsFigure N s0 s1 s2 s3 mm) fun x2 m3 => if x2 = 0 then (some (0, m3)) else (gd (inb (a3 + 2) (ln (fr a0 11))) <| nm (wr m3 (fr a0 11) (a3 + 2).toNatClampNeg (rd m3 a0 15)) fun m7 => fX12_readsSuit_141 N a0 m7)
def fX12_readsSuit_105 (N : Nat)  (a0 : Nat) (a2 : Int32) (a3 : Int32) (s0 : Nat) (s1 : Int32) (s2 : Int32) (mm : Mm) : Option (Int32 × Mm) :=
  if a2 = 5 then (fX12_readsSuit_121 N a0 a3 s0 s1 s2 ((rd mm a0 16) - 1) mm) else (fX12_readsSuit_121 N a0 a3 s0 s1 s2 9 mm)
def fX12_readsSuit (N : Nat)  (a0 : Nat) (a1 : Int32) (mm : Mm) : Option (Int32 × Mm) :=
  bd2 (fX12_here N a0 a1 mm) fun x9 m10 => bd2 (fX12_kindOf N x9 m10) fun x12 m13 => if x12 = (-9) then (some (0, m13)) else (if (rd m13 a0 16) = 6 then (some (0, m13)) else (nm (wr m13 a0 14 ((rd m13 a0 14) + 1)) fun m17 => gd (inb (18 + (3 * (rd m17 a0 16))) (ln (fr a0 11))) <| nm (wr m17 (fr a0 11) (18 + (3 * (rd m17 a0 16))).toNatClampNeg x12) fun m19 => bd2 (fX12_readsFigure N a0 a1 1 9 m19) fun x20 m21 => if x20 = 0 then (some (0, m21)) else (gd (inb ((18 + (3 * (rd m17 a0 16))) + 1) (ln (fr a0 11))) <| nm (wr m21 (fr a0 11) ((18 + (3 * (rd m17 a0 16))) + 1).toNatClampNeg (rd m21 a0 15)) fun m25 => gd (inb ((18 + (3 * (rd m17 a0 16))) + 2) (ln (fr a0 11))) <| nm (wr m25 (fr a0 11) ((18 + (3 * (rd m17 a0 16))) + 2).toNatClampNeg (-9)) fun m27 => if x12 < 3 then (fX12_readsSuit_141 N a0 m27) else (if x12 = 5 then (fX12_readsSuit_105 N a0 x12 (18 + (3 * (rd m17 a0 16))) a0 a1 0 m27) else (fX12_readsSuit_105 N a0 x12 (18 + (3 * (rd m17 a0 16))) a0 a1 1 m27)))))
abbrev rmX12_readsSuit : Room := { frames := 3, cells := 0, slots := 0, locals := 102 }
/-! HeavyFilesModel.goesOn(I)I -/
def fX12_goesOn_15 (N : Nat)  : Nat → Nat → Int32 → Mm → Option (Int32 × Mm)
  | 0 => fun _ _ _ => none
  | n + 1 => fun a0 a1 mm =>
    let k15 := fX12_goesOn_15 N  n
    gd (inb a1 (ln (fr a0 8))) <| if (rd mm (fr a0 8) a1.toNatClampNeg) ≤ (rd mm a0 14) then (if (rd mm a0 17) = 0 then (gd (inb a1 (ln (fr a0 8))) <| some (rd mm (fr a0 8) a1.toNatClampNeg, mm)) else (some ((-9), mm))) else (bd2 (fX12_here N a0 a1 mm) fun x5 m6 => if x5 = 32 then (nm (wr m6 a0 14 ((rd m6 a0 14) + 1)) fun m18 => k15 a0 a1 m18) else (if (rd m6 a0 17) = 0 then (bd2 (fX12_readsHead N a0 a1 m6) fun x10 m11 => if x10 = 0 then (some (rd m11 a0 14, m11)) else (k15 a0 a1 m11)) else (bd2 (fX12_readsSuit N a0 a1 m6) fun x14 m15 => if x14 = 0 then (some (rd m15 a0 14, m15)) else (k15 a0 a1 m15))))
def fX12_goesOn (N : Nat)  (a0 : Nat) (a1 : Int32) (mm : Mm) : Option (Int32 × Mm) :=
  nm (wr mm a0 14 0) fun m19 => nm (wr m19 a0 16 0) fun m20 => nm (wr m20 a0 17 0) fun m21 => fX12_goesOn_15 N N a0 a1 m21
abbrev rmX12_goesOn : Room := { frames := 4, cells := 0, slots := 0, locals := 133 }
/-! HeavyFilesModel.fault(I)I -/
def fX12_fault (N : Nat)  (a0 : Nat) (a1 : Int32) (mm : Mm) : Option (Int32 × Mm) :=
  bd2 (fX12_askedText N a0 a1 mm) fun x1 m2 => if (0 : Int32) ≤ x1 then (bd2 (fX12_goesOn N a0 a1 m2) fun x5 m6 => some (x5, m6)) else (some (x1, m2))
abbrev rmX12_fault : Room := { frames := 5, cells := 0, slots := 0, locals := 162 }
/-! HeavyFilesModel.court(I)I -/
def fX12_court_118 (N : Nat)  : Nat → Nat → Int32 → Mm → Option (Int32 × Mm)
  | 0 => fun _ _ _ => none
  | n + 1 => fun a0 a3 mm =>
    let k118 := fX12_court_118 N  n
    if (3 : Int32) ≤ a3 then (some (rd mm a0 10, mm)) else (gd (inb (72 * a3) (ln (fr a0 40))) <| nm (wr mm (fr a0 40) (72 * a3).toNatClampNeg (-9)) fun m3 => k118 a0 (a3 + 1) m3)
def fX12_court_93 (N : Nat)  : Nat → Nat → Int32 → Mm → Option (Int32 × Mm)
  | 0 => fun _ _ _ => none
  | n + 1 => fun a0 a3 mm =>
    let k93 := fX12_court_93 N  n
    if (4 : Int32) ≤ a3 then (nm (wr mm a0 37 0) fun m5 => fX12_court_118 N N a0 0 m5) else (gd (inb a3 (ln (fr a0 35))) <| nm (wr mm (fr a0 35) a3.toNatClampNeg 0) fun m7 => k93 a0 (a3 + 1) m7)
def fX12_court_35 (N : Nat)  : Nat → Nat → Int32 → Mm → Option (Int32 × Mm)
  | 0 => fun _ _ _ => none
  | n + 1 => fun a0 a3 mm =>
    let k35 := fX12_court_35 N  n
    if (18 : Int32) ≤ a3 then (gd (inb 0 (ln (fr a0 18))) <| gd (inb 0 (ln (fr a0 12))) <| nm (wr mm (fr a0 12) (0 : Int32).toNatClampNeg (rd mm (fr a0 18) ((0 : Int32).toNatClampNeg))) fun m11 => gd (inb 1 (ln (fr a0 18))) <| gd (inb 1 (ln (fr a0 12))) <| nm (wr m11 (fr a0 12) (1 : Int32).toNatClampNeg (rd m11 (fr a0 18) ((1 : Int32).toNatClampNeg))) fun m14 => nm (wr m14 a0 13 0) fun m15 => fX12_court_93 N N a0 0 m15) else (gd (inb (18 + a3) (ln (fr a0 11))) <| gd (inb a3 (ln (fr a0 11))) <| nm (wr mm (fr a0 11) a3.toNatClampNeg (rd mm (fr a0 11) ((18 + a3).toNatClampNeg))) fun m18 => k35 a0 (a3 + 1) m18)
def fX12_court (N : Nat)  (a0 : Nat) (a1 : Int32) (mm : Mm) : Option (Int32 × Mm) :=
  bd2 (fX12_askedText N a0 a1 mm) fun x19 m20 => if (0 : Int32) ≤ x19 then (bd2 (fX12_goesOn N a0 a1 m20) fun x23 m24 => if x23 = (-9) then (nm (wr m24 a0 10 (rd m24 a0 16)) fun m27 => fX12_court_35 N N a0 0 m27) else (some ((-4), m24))) else (some (x19, m20))
abbrev rmX12_court : Room := { frames := 5, cells := 0, slots := 0, locals := 162 }
/-! HeavyFilesModel.isSuit(I)Z -/
def fX12_isSuit (N : Nat)  (a0 : Nat) (a1 : Int32) (mm : Mm) : Option (Int32 × Mm) :=
  bd2 (fX12_in N a1 0 ((rd mm a0 10) - 1) mm) fun x1 m2 => gd (zb x1) <| some (x1, m2)
abbrev rmX12_isSuit : Room := { frames := 2, cells := 0, slots := 0, locals := 70 }
/-! HeavyFilesModel.of(II)I -/
def fX12_of (N : Nat)  (a0 : Nat) (a1 : Int32) (a2 : Int32) (mm : Mm) : Option (Int32 × Mm) :=
  gd (inb ((3 * a1) + a2) (ln (fr a0 11))) <| some (rd mm (fr a0 11) (((3 * a1) + a2).toNatClampNeg), mm)
abbrev rmX12_of : Room := { frames := 1, cells := 0, slots := 0, locals := 40 }
section W_model21
variable {p : Program} {l : Launch} {e : Env} {s : State} {m : MethodId} {args : Array Value} {below : List Frame} {meth : Method} {c : Code} {D : va_G} {ca ad : Nat → Nat}
set_option maxRecDepth 100000 in
set_option maxHeartbeats 4000000 in
theorem wX12_here_0 (C : Cx p s m meth c args cX12_here 2 (some .int) RX12 D ca ad) {res : Int32 × Mm} {N : Nat}  {a0 : Nat} {a1 : Int32} {mm : Mm} {H : Heap} {locs : List Loc} {ls : Array Slot} (ha0 : sX12 a0) (hW : Wd D ca ad s.heap mm H locs) (hl : lv_has ls 2 [(0, .ref (ad a0)), (1, .int a1)]) (hf : fX12_here N a0 a1 mm = some res) : W p l e (rmX12_here) s m args below meth c H locs 0 0 (MQ below (QI D ca ad res) args s 0 0 (AA ad)) (F0 m 0 ls []) := by
  unfold fX12_here at hf
  refine lv_aload_n C.1 C.2.1 dX12_here_0 rfl (lv_at hl 0 rfl) ?_
  refine x_geti C hW (ha0).1 (ha0).2.1 (j := 14) rfl kX12 (by decide) rfl q_1030 dX12_here_1 ?_
  refine lv_aload_n C.1 C.2.1 dX12_here_4 rfl (lv_at hl 0 rfl) ?_
  refine x_getr C hW (ha0).1 (ha0).2.1 (j := 8) rfl kX12 (by decide) rfl q_1024 dX12_here_5 ?_
  refine lv_iload_n C.1 C.2.1 dX12_here_8 rfl (lv_at hl 1 rfl) ?_
  obtain ⟨g1, hf⟩ := gd_s hf
  refine x_iald C hW ha0.2.2.2.2.2.2.1 g1 dX12_here_9 ?_
  refine lv_icmp_ge (tgt := 30) C.1 C.2.1 dX12_here_10 (by decide) (fun c2 => ?_) (fun c2 => ?_)
  · have hf := if_t c2 hf
    refine lv_bipush (v := (-9)) C.1 C.2.1 dX12_here_30 (by decide) ?_
    cases hf
    exact x_iret C hW dX12_here_32
  · have hf := if_f c2 hf
    refine lv_aload_n C.1 C.2.1 dX12_here_13 rfl (lv_at hl 0 rfl) ?_
    refine x_getr C hW (ha0).1 (ha0).2.1 (j := 9) rfl kX12 (by decide) rfl q_1025 dX12_here_14 ?_
    refine lv_bipush (v := 80) C.1 C.2.1 dX12_here_17 (by decide) ?_
    refine lv_iload_n C.1 C.2.1 dX12_here_19 rfl (lv_at hl 1 rfl) ?_
    refine lv_imul C.1 C.2.1 dX12_here_20 ?_
    refine lv_aload_n C.1 C.2.1 dX12_here_21 rfl (lv_at hl 0 rfl) ?_
    refine x_geti C hW (ha0).1 (ha0).2.1 (j := 14) rfl kX12 (by decide) rfl q_1030 dX12_here_22 ?_
    refine lv_iadd C.1 C.2.1 dX12_here_25 ?_
    obtain ⟨g3, hf⟩ := gd_s hf
    refine x_iald C hW ha0.2.2.2.2.2.2.2.1 g3 dX12_here_26 ?_
    refine lv_goto (tgt := 32) C.1 C.2.1 dX12_here_27 (by decide) ?_
    cases hf
    exact x_iret C hW dX12_here_32
set_option maxRecDepth 100000 in
set_option maxHeartbeats 4000000 in
theorem tX12_here (l : Launch) {D : va_G} {ca ad : Nat → Nat} (hi : Inj ad) {N : Nat} {a0 : Nat} {a1 : Int32} {mm : Mm} {res : Int32 × Mm} (ha0 : sX12 a0) (hf : fX12_here N a0 a1 mm = some res) : Met l yX12_here (WS yX12_here cX12_here 2 (some .int)) (rmX12_here) (va_Pc [.ref (ad a0), .int a1] (WB D ca ad mm)) (QI D ca ad res) 0 0 (AA ad) := by
  refine x_start hi (by decide) rfl (Nat.le_of_ble_eq_true rfl) (fun p e s m args below meth c ls C hW hl => ?_)
  exact wX12_here_0 C ha0 hW (lv_sub hl [0, 1] rfl) hf
set_option maxRecDepth 100000 in
set_option maxHeartbeats 4000000 in
theorem wX12_readsNumber_68 (C : Cx p s m meth c args cX12_readsNumber 3 (some .boolean) RX12 D ca ad) {res : Int32 × Mm} {N : Nat}  {a0 : Nat} {a2 : Int32} {mm : Mm} {H : Heap} {locs : List Loc} {ls : Array Slot} (ha0 : sX12 a0) (hW : Wd D ca ad s.heap mm H locs) (hl : lv_has ls 3 [(0, .ref (ad a0)), (2, .int a2)]) (hf : fX12_readsNumber_68 N a0 a2 mm = some res) : W p l e (rmX12_readsNumber) s m args below meth c H locs 0 0 (MQ below (QI D ca ad res) args s 0 0 (AA ad)) (F0 m 68 ls []) := by
  unfold fX12_readsNumber_68 at hf
  refine lv_aload_n C.1 C.2.1 dX12_readsNumber_68 rfl (lv_at hl 0 rfl) ?_
  refine x_geti C hW (ha0).1 (ha0).2.1 (j := 14) rfl kX12 (by decide) rfl q_1030 dX12_readsNumber_69 ?_
  refine lv_iload_n C.1 C.2.1 dX12_readsNumber_72 rfl (lv_at hl 1 rfl) ?_
  refine lv_icmp_le (tgt := 89) C.1 C.2.1 dX12_readsNumber_73 (by decide) (fun c1 => ?_) (fun c1 => ?_)
  · have hf := if_t c1 hf
    refine lv_iconst (v := 0) C.1 C.2.1 dX12_readsNumber_89 (by decide) ?_
    cases hf
    exact x_zret C hW (by decide) dX12_readsNumber_90
  · have hf := if_f c1 hf
    refine lv_aload_n C.1 C.2.1 dX12_readsNumber_76 rfl (lv_at hl 0 rfl) ?_
    refine x_geti C hW (ha0).1 (ha0).2.1 (j := 15) rfl kX12 (by decide) rfl q_1031 dX12_readsNumber_77 ?_
    refine lv_bipush (v := 40) C.1 C.2.1 dX12_readsNumber_80 (by decide) ?_
    refine lv_icmp_gt (tgt := 89) C.1 C.2.1 dX12_readsNumber_82 (by decide) (fun c2 => ?_) (fun c2 => ?_)
    · have hf := if_t c2 hf
      refine lv_iconst (v := 0) C.1 C.2.1 dX12_readsNumber_89 (by decide) ?_
      cases hf
      exact x_zret C hW (by decide) dX12_readsNumber_90
    · have hf := if_f c2 hf
      refine lv_iconst (v := 1) C.1 C.2.1 dX12_readsNumber_85 (by decide) ?_
      refine lv_goto (tgt := 90) C.1 C.2.1 dX12_readsNumber_86 (by decide) ?_
      cases hf
      exact x_zret C hW (by decide) dX12_readsNumber_90
set_option maxRecDepth 100000 in
set_option maxHeartbeats 4000000 in
theorem wX12_readsNumber_10 (C : Cx p s m meth c args cX12_readsNumber 3 (some .boolean) RX12 D ca ad) {res : Int32 × Mm} {N : Nat}  : ∀ (n : Nat) {a0 : Nat} {a1 : Int32} {a2 : Int32} {mm : Mm} {H : Heap} {locs : List Loc} {ls : Array Slot}, (sX12 a0) → Wd D ca ad s.heap mm H locs → lv_has ls 3 [(0, .ref (ad a0)), (1, .int a1), (2, .int a2)] → fX12_readsNumber_10 N n a0 a1 a2 mm = some res → W p l e (rmX12_readsNumber) s m args below meth c H locs 0 0 (MQ below (QI D ca ad res) args s 0 0 (AA ad)) (F0 m 10 ls []) := by
  intro n
  induction n with
  | zero => intro a0 a1 a2 mm H locs ls ha0 hW hl hf; cases hf
  | succ n ih =>
    intro a0 a1 a2 mm H locs ls ha0 hW hl hf
    have hk10 : ∀ (a0 : Nat) (a1 : Int32) (a2 : Int32) (mm : Mm) (H : Heap) (locs : List Loc) (ls : Array Slot), (sX12 a0) → Wd D ca ad s.heap mm H locs → lv_has ls 3 [(0, .ref (ad a0)), (1, .int a1), (2, .int a2)] → (fX12_readsNumber_10 N n) a0 a1 a2 mm = some res → W p l e (rmX12_readsNumber) s m args below meth c H locs 0 0 (MQ below (QI D ca ad res) args s 0 0 (AA ad)) (F0 m 10 ls []) := fun a0 a1 a2 mm H locs ls ha0 hW hl hf => ih ha0 hW hl hf
    unfold fX12_readsNumber_10 at hf
    try dsimp only at hf
    refine lv_aload_n C.1 C.2.1 dX12_readsNumber_10 rfl (lv_at hl 0 rfl) ?_
    refine x_geti C hW (ha0).1 (ha0).2.1 (j := 14) rfl kX12 (by decide) rfl q_1030 dX12_readsNumber_11 ?_
    refine lv_iload_n C.1 C.2.1 dX12_readsNumber_14 rfl (lv_at hl 2 rfl) ?_
    refine lv_isub C.1 C.2.1 dX12_readsNumber_15 ?_
    refine lv_iconst (v := 2) C.1 C.2.1 dX12_readsNumber_16 (by decide) ?_
    refine lv_icmp_ge (tgt := 68) C.1 C.2.1 dX12_readsNumber_17 (by decide) (fun c3 => ?_) (fun c3 => ?_)
    · have hf := if_t c3 hf
      exact wX12_readsNumber_68 C  ha0 hW (lv_sub hl [0, 2] rfl) hf
    · have hf := if_f c3 hf
      refine lv_aload_n C.1 C.2.1 dX12_readsNumber_20 rfl (lv_at hl 0 rfl) ?_
      refine lv_iload_n C.1 C.2.1 dX12_readsNumber_21 rfl (lv_at hl 1 rfl) ?_
      obtain ⟨x4, m5, r6, hf⟩ := bd2_s hf
      refine x_ci hW (x_runV C hW [.int a1] [] (ha0).1 (ha0).2.1 kX12.1 kvX12_here q_1217 (tX12_here l C.2.2.2.2.2.2.1 ha0 r6) rfl rfl ⟨by decide, by decide⟩ rfl hl.1 rfl (Nat.le_of_ble_eq_true rfl) dX12_readsNumber_22) (fun H locs hW => ?_)
      refine lv_bipush (v := 48) C.1 C.2.1 dX12_readsNumber_25 (by decide) ?_
      refine lv_bipush (v := 57) C.1 C.2.1 dX12_readsNumber_27 (by decide) ?_
      obtain ⟨x7, m8, r9, hf⟩ := bd2_s hf
      refine x_ci hW (x_runS C hW [.int x4, .int 48, .int 57] [] kvX12_in q_1150 (tX12_in l C.2.2.2.2.2.2.1  r9) rfl rfl ⟨by decide, by decide⟩ rfl hl.1 rfl (Nat.le_of_ble_eq_true rfl) dX12_readsNumber_29) (fun H locs hW => ?_)
      refine lv_if_eq (tgt := 68) C.1 C.2.1 dX12_readsNumber_32 (by decide) (fun c10 => ?_) (fun c10 => ?_)
      · have hf := if_t c10 hf
        exact wX12_readsNumber_68 C  ha0 hW (lv_sub hl [0, 2] rfl) hf
      · have hf := if_f c10 hf
        refine lv_aload_n C.1 C.2.1 dX12_readsNumber_35 rfl (lv_at hl 0 rfl) ?_
        refine lv_bipush (v := 10) C.1 C.2.1 dX12_readsNumber_36 (by decide) ?_
        refine lv_aload_n C.1 C.2.1 dX12_readsNumber_38 rfl (lv_at hl 0 rfl) ?_
        refine x_geti C hW (ha0).1 (ha0).2.1 (j := 15) rfl kX12 (by decide) rfl q_1031 dX12_readsNumber_39 ?_
        refine lv_imul C.1 C.2.1 dX12_readsNumber_42 ?_
        refine lv_aload_n C.1 C.2.1 dX12_readsNumber_43 rfl (lv_at hl 0 rfl) ?_
        refine lv_iload_n C.1 C.2.1 dX12_readsNumber_44 rfl (lv_at hl 1 rfl) ?_
        obtain ⟨x11, m12, r13, hf⟩ := bd2_s hf
        refine x_ci hW (x_runV C hW [.int a1] [.int (10 * (rd m8 a0 15)), .ref (ad a0)] (ha0).1 (ha0).2.1 kX12.1 kvX12_here q_1217 (tX12_here l C.2.2.2.2.2.2.1 ha0 r13) rfl rfl ⟨by decide, by decide⟩ rfl hl.1 rfl (Nat.le_of_ble_eq_true rfl) dX12_readsNumber_45) (fun H locs hW => ?_)
        refine lv_iadd C.1 C.2.1 dX12_readsNumber_48 ?_
        refine lv_bipush (v := 48) C.1 C.2.1 dX12_readsNumber_49 (by decide) ?_
        refine lv_isub C.1 C.2.1 dX12_readsNumber_51 ?_
        refine x_put C hW (ha0).1 (ha0).2.1 (j := 15) (t1 := .int) rfl kX12 (by decide) rfl rfl q_1031 (by decide +kernel) rfl rfl dX12_readsNumber_52 (fun H locs hW => ?_)
        obtain ⟨m14, em14⟩ : ∃ z, z = wr m12 a0 15 (((10 * (rd m8 a0 15)) + x11) - 48) := ⟨_, rfl⟩
        have hf := nm_s hf em14
        rw [← em14] at hW
        refine lv_aload_n C.1 C.2.1 dX12_readsNumber_55 rfl (lv_at hl 0 rfl) ?_
        refine lv_dup C.1 C.2.1 dX12_readsNumber_56 rfl ?_
        refine x_geti C hW (ha0).1 (ha0).2.1 (j := 14) rfl kX12 (by decide) rfl q_1030 dX12_readsNumber_57 ?_
        refine lv_iconst (v := 1) C.1 C.2.1 dX12_readsNumber_60 (by decide) ?_
        refine lv_iadd C.1 C.2.1 dX12_readsNumber_61 ?_
        refine x_put C hW (ha0).1 (ha0).2.1 (j := 14) (t1 := .int) rfl kX12 (by decide) rfl rfl q_1030 (by decide +kernel) rfl rfl dX12_readsNumber_62 (fun H locs hW => ?_)
        obtain ⟨m15, em15⟩ : ∃ z, z = wr m14 a0 14 ((rd m14 a0 14) + 1) := ⟨_, rfl⟩
        have hf := nm_s hf em15
        rw [← em15] at hW
        refine lv_goto (tgt := 10) C.1 C.2.1 dX12_readsNumber_65 (by decide) ?_
        exact hk10 _ _ _ _ _ _ _ ha0 hW (lv_sub hl [0, 1, 2] rfl) hf
set_option maxRecDepth 100000 in
set_option maxHeartbeats 4000000 in
theorem wX12_readsNumber_0 (C : Cx p s m meth c args cX12_readsNumber 3 (some .boolean) RX12 D ca ad) {res : Int32 × Mm} {N : Nat}  {a0 : Nat} {a1 : Int32} {mm : Mm} {H : Heap} {locs : List Loc} {ls : Array Slot} (ha0 : sX12 a0) (hW : Wd D ca ad s.heap mm H locs) (hl : lv_has ls 3 [(0, .ref (ad a0)), (1, .int a1)]) (hf : fX12_readsNumber N a0 a1 mm = some res) : W p l e (rmX12_readsNumber) s m args below meth c H locs 0 0 (MQ below (QI D ca ad res) args s 0 0 (AA ad)) (F0 m 0 ls []) := by
  unfold fX12_readsNumber at hf
  refine lv_aload_n C.1 C.2.1 dX12_readsNumber_0 rfl (lv_at hl 0 rfl) ?_
  refine x_geti C hW (ha0).1 (ha0).2.1 (j := 14) rfl kX12 (by decide) rfl q_1030 dX12_readsNumber_1 ?_
  refine lv_istore_n (lv' := [(2, .int (rd mm a0 14)), (0, .ref (ad a0)), (1, .int a1)]) C.1 C.2.1 dX12_readsNumber_4 rfl hl (by decide) rfl (fun ls hl => ?_)
  refine lv_aload_n C.1 C.2.1 dX12_readsNumber_5 rfl (lv_at hl 1 rfl) ?_
  refine lv_iconst (v := 0) C.1 C.2.1 dX12_readsNumber_6 (by decide) ?_
  refine x_put C hW (ha0).1 (ha0).2.1 (j := 15) (t1 := .int) rfl kX12 (by decide) rfl rfl q_1031 (by decide +kernel) rfl rfl dX12_readsNumber_7 (fun H locs hW => ?_)
  obtain ⟨m16, em16⟩ : ∃ z, z = wr mm a0 15 0 := ⟨_, rfl⟩
  have hf := nm_s hf em16
  rw [← em16] at hW
  exact wX12_readsNumber_10 C  N ha0 hW (lv_sub hl [1, 2, 0] rfl) hf
set_option maxRecDepth 100000 in
set_option maxHeartbeats 4000000 in
theorem tX12_readsNumber (l : Launch) {D : va_G} {ca ad : Nat → Nat} (hi : Inj ad) {N : Nat} {a0 : Nat} {a1 : Int32} {mm : Mm} {res : Int32 × Mm} (ha0 : sX12 a0) (hf : fX12_readsNumber N a0 a1 mm = some res) : Met l yX12_readsNumber (WS yX12_readsNumber cX12_readsNumber 3 (some .boolean)) (rmX12_readsNumber) (va_Pc [.ref (ad a0), .int a1] (WB D ca ad mm)) (QI D ca ad res) 0 0 (AA ad) := by
  refine x_start hi (by decide) rfl (Nat.le_of_ble_eq_true rfl) (fun p e s m args below meth c ls C hW hl => ?_)
  exact wX12_readsNumber_0 C ha0 hW (lv_sub hl [0, 1] rfl) hf
set_option maxRecDepth 100000 in
set_option maxHeartbeats 4000000 in
theorem wX12_readsFigure_38 (C : Cx p s m meth c args cX12_readsFigure 5 (some .boolean) RX12 D ca ad) {res : Int32 × Mm} {N : Nat}  {a4 : Int32} {s0 : Nat} {s1 : Int32} {s2 : Int32} {mm : Mm} {H : Heap} {locs : List Loc} {ls : Array Slot} (hs0 : sX12 s0) (hW : Wd D ca ad s.heap mm H locs) (hl : lv_has ls 5 [(4, .int a4)]) (hf : fX12_readsFigure_38 N a4 s0 s1 s2 mm = some res) : W p l e (rmX12_readsFigure) s m args below meth c H locs 0 0 (MQ below (QI D ca ad res) args s 0 0 (AA ad)) (F0 m 38 ls [.int s2, .int s1, .ref (ad s0)]) := by
  unfold fX12_readsFigure_38 at hf
  refine lv_iadd C.1 C.2.1 dX12_readsFigure_38 ?_
  refine x_put C hW (hs0).1 (hs0).2.1 (j := 14) (t1 := .int) rfl kX12 (by decide) rfl rfl q_1030 (by decide +kernel) rfl rfl dX12_readsFigure_39 (fun H locs hW => ?_)
  obtain ⟨m1, em1⟩ : ∃ z, z = wr mm s0 14 (s1 + s2) := ⟨_, rfl⟩
  have hf := nm_s hf em1
  rw [← em1] at hW
  refine lv_iload C.1 C.2.1 dX12_readsFigure_42 (lv_at hl 0 rfl) ?_
  obtain ⟨g2, hf⟩ := gd_s hf
  cases hf
  exact x_zret C hW (of_decide_eq_true g2) dX12_readsFigure_44
set_option maxRecDepth 100000 in
set_option maxHeartbeats 4000000 in
theorem wX12_readsFigure_0 (C : Cx p s m meth c args cX12_readsFigure 5 (some .boolean) RX12 D ca ad) {res : Int32 × Mm} {N : Nat}  {a0 : Nat} {a1 : Int32} {a2 : Int32} {a3 : Int32} {mm : Mm} {H : Heap} {locs : List Loc} {ls : Array Slot} (ha0 : sX12 a0) (hW : Wd D ca ad s.heap mm H locs) (hl : lv_has ls 5 [(0, .ref (ad a0)), (1, .int a1), (2, .int a2), (3, .int a3)]) (hf : fX12_readsFigure N a0 a1 a2 a3 mm = some res) : W p l e (rmX12_readsFigure) s m args below meth c H locs 0 0 (MQ below (QI D ca ad res) args s 0 0 (AA ad)) (F0 m 0 ls []) := by
  unfold fX12_readsFigure at hf
  refine lv_aload_n C.1 C.2.1 dX12_readsFigure_0 rfl (lv_at hl 0 rfl) ?_
  refine lv_aload_n C.1 C.2.1 dX12_readsFigure_1 rfl (lv_at hl 0 rfl) ?_
  refine lv_iload_n C.1 C.2.1 dX12_readsFigure_2 rfl (lv_at hl 1 rfl) ?_
  obtain ⟨x3, m4, r5, hf⟩ := bd2_s hf
  refine x_ci hW (x_runV C hW [.int a1] [.ref (ad a0)] (ha0).1 (ha0).2.1 kX12.1 kvX12_here q_1217 (tX12_here l C.2.2.2.2.2.2.1 ha0 r5) rfl rfl ⟨by decide, by decide⟩ rfl hl.1 rfl (Nat.le_of_ble_eq_true rfl) dX12_readsFigure_3) (fun H locs hW => ?_)
  refine lv_bipush (v := 48) C.1 C.2.1 dX12_readsFigure_6 (by decide) ?_
  refine lv_isub C.1 C.2.1 dX12_readsFigure_8 ?_
  refine x_put C hW (ha0).1 (ha0).2.1 (j := 15) (t1 := .int) rfl kX12 (by decide) rfl rfl q_1031 (by decide +kernel) rfl rfl dX12_readsFigure_9 (fun H locs hW => ?_)
  obtain ⟨m6, em6⟩ : ∃ z, z = wr m4 a0 15 (x3 - 48) := ⟨_, rfl⟩
  have hf := nm_s hf em6
  rw [← em6] at hW
  refine lv_aload_n C.1 C.2.1 dX12_readsFigure_12 rfl (lv_at hl 0 rfl) ?_
  refine x_geti C hW (ha0).1 (ha0).2.1 (j := 15) rfl kX12 (by decide) rfl q_1031 dX12_readsFigure_13 ?_
  refine lv_iload_n C.1 C.2.1 dX12_readsFigure_16 rfl (lv_at hl 2 rfl) ?_
  refine lv_iload_n C.1 C.2.1 dX12_readsFigure_17 rfl (lv_at hl 3 rfl) ?_
  obtain ⟨x7, m8, r9, hf⟩ := bd2_s hf
  refine x_ci hW (x_runS C hW [.int (rd m6 a0 15), .int a2, .int a3] [] kvX12_in q_1150 (tX12_in l C.2.2.2.2.2.2.1  r9) rfl rfl ⟨by decide, by decide⟩ rfl hl.1 rfl (Nat.le_of_ble_eq_true rfl) dX12_readsFigure_18) (fun H locs hW => ?_)
  refine lv_istore (lv' := [(4, .int x7), (0, .ref (ad a0)), (1, .int a1), (2, .int a2), (3, .int a3)]) C.1 C.2.1 dX12_readsFigure_21 hl (by decide) rfl (fun ls hl => ?_)
  refine lv_aload_n C.1 C.2.1 dX12_readsFigure_23 rfl (lv_at hl 1 rfl) ?_
  refine lv_dup C.1 C.2.1 dX12_readsFigure_24 rfl ?_
  refine x_geti C hW (ha0).1 (ha0).2.1 (j := 14) rfl kX12 (by decide) rfl q_1030 dX12_readsFigure_25 ?_
  refine lv_iload C.1 C.2.1 dX12_readsFigure_28 (lv_at hl 0 rfl) ?_
  refine lv_if_eq (tgt := 37) C.1 C.2.1 dX12_readsFigure_30 (by decide) (fun c10 => ?_) (fun c10 => ?_)
  · have hf := if_t c10 hf
    refine lv_iconst (v := 0) C.1 C.2.1 dX12_readsFigure_37 (by decide) ?_
    exact wX12_readsFigure_38 C  ha0 hW (lv_sub hl [0] rfl) hf
  · have hf := if_f c10 hf
    refine lv_iconst (v := 1) C.1 C.2.1 dX12_readsFigure_33 (by decide) ?_
    refine lv_goto (tgt := 38) C.1 C.2.1 dX12_readsFigure_34 (by decide) ?_
    exact wX12_readsFigure_38 C  ha0 hW (lv_sub hl [0] rfl) hf
set_option maxRecDepth 100000 in
set_option maxHeartbeats 4000000 in
theorem tX12_readsFigure (l : Launch) {D : va_G} {ca ad : Nat → Nat} (hi : Inj ad) {N : Nat} {a0 : Nat} {a1 : Int32} {a2 : Int32} {a3 : Int32} {mm : Mm} {res : Int32 × Mm} (ha0 : sX12 a0) (hf : fX12_readsFigure N a0 a1 a2 a3 mm = some res) : Met l yX12_readsFigure (WS yX12_readsFigure cX12_readsFigure 5 (some .boolean)) (rmX12_readsFigure) (va_Pc [.ref (ad a0), .int a1, .int a2, .int a3] (WB D ca ad mm)) (QI D ca ad res) 0 0 (AA ad) := by
  refine x_start hi (by decide) rfl (Nat.le_of_ble_eq_true rfl) (fun p e s m args below meth c ls C hW hl => ?_)
  exact wX12_readsFigure_0 C ha0 hW (lv_sub hl [0, 1, 2, 3] rfl) hf
set_option maxRecDepth 100000 in
set_option maxHeartbeats 4000000 in
theorem wX12_kindOf_0 (C : Cx p s m meth c args cX12_kindOf 1 (some .int) RX12 D ca ad) {res : Int32 × Mm} {N : Nat}  {a0 : Int32} {mm : Mm} {H : Heap} {locs : List Loc} {ls : Array Slot}  (hW : Wd D ca ad s.heap mm H locs) (hl : lv_has ls 1 [(0, .int a0)]) (hf : fX12_kindOf N a0 mm = some res) : W p l e (rmX12_kindOf) s m args below meth c H locs 0 0 (MQ below (QI D ca ad res) args s 0 0 (AA ad)) (F0 m 0 ls []) := by
  unfold fX12_kindOf at hf
  refine lv_iload_n C.1 C.2.1 dX12_kindOf_0 rfl (lv_at hl 0 rfl) ?_
  refine lv_bipush (v := 115) C.1 C.2.1 dX12_kindOf_1 (by decide) ?_
  refine lv_icmp_ne (tgt := 10) C.1 C.2.1 dX12_kindOf_3 (by decide) (fun c1 => ?_) (fun c1 => ?_)
  · have hf := if_f c1 hf
    refine lv_iload_n C.1 C.2.1 dX12_kindOf_10 rfl (lv_at hl 0 rfl) ?_
    refine lv_bipush (v := 111) C.1 C.2.1 dX12_kindOf_11 (by decide) ?_
    refine lv_icmp_ne (tgt := 20) C.1 C.2.1 dX12_kindOf_13 (by decide) (fun c2 => ?_) (fun c2 => ?_)
    · have hf := if_f c2 hf
      refine lv_iload_n C.1 C.2.1 dX12_kindOf_20 rfl (lv_at hl 0 rfl) ?_
      refine lv_bipush (v := 102) C.1 C.2.1 dX12_kindOf_21 (by decide) ?_
      refine lv_icmp_ne (tgt := 30) C.1 C.2.1 dX12_kindOf_23 (by decide) (fun c3 => ?_) (fun c3 => ?_)
      · have hf := if_f c3 hf
        refine lv_iload_n C.1 C.2.1 dX12_kindOf_30 rfl (lv_at hl 0 rfl) ?_
        refine lv_bipush (v := 100) C.1 C.2.1 dX12_kindOf_31 (by decide) ?_
        refine lv_icmp_ne (tgt := 40) C.1 C.2.1 dX12_kindOf_33 (by decide) (fun c4 => ?_) (fun c4 => ?_)
        · have hf := if_f c4 hf
          refine lv_iload_n C.1 C.2.1 dX12_kindOf_40 rfl (lv_at hl 0 rfl) ?_
          refine lv_bipush (v := 112) C.1 C.2.1 dX12_kindOf_41 (by decide) ?_
          refine lv_icmp_ne (tgt := 50) C.1 C.2.1 dX12_kindOf_43 (by decide) (fun c5 => ?_) (fun c5 => ?_)
          · have hf := if_f c5 hf
            refine lv_iload_n C.1 C.2.1 dX12_kindOf_50 rfl (lv_at hl 0 rfl) ?_
            refine lv_bipush (v := 104) C.1 C.2.1 dX12_kindOf_51 (by decide) ?_
            refine lv_icmp_ne (tgt := 60) C.1 C.2.1 dX12_kindOf_53 (by decide) (fun c6 => ?_) (fun c6 => ?_)
            · have hf := if_f c6 hf
              refine lv_bipush (v := (-9)) C.1 C.2.1 dX12_kindOf_60 (by decide) ?_
              cases hf
              exact x_iret C hW dX12_kindOf_62
            · have hf := if_t c6 hf
              refine lv_iconst (v := 5) C.1 C.2.1 dX12_kindOf_56 (by decide) ?_
              refine lv_goto (tgt := 62) C.1 C.2.1 dX12_kindOf_57 (by decide) ?_
              cases hf
              exact x_iret C hW dX12_kindOf_62
          · have hf := if_t c5 hf
            refine lv_iconst (v := 4) C.1 C.2.1 dX12_kindOf_46 (by decide) ?_
            refine lv_goto (tgt := 62) C.1 C.2.1 dX12_kindOf_47 (by decide) ?_
            cases hf
            exact x_iret C hW dX12_kindOf_62
        · have hf := if_t c4 hf
          refine lv_iconst (v := 3) C.1 C.2.1 dX12_kindOf_36 (by decide) ?_
          refine lv_goto (tgt := 62) C.1 C.2.1 dX12_kindOf_37 (by decide) ?_
          cases hf
          exact x_iret C hW dX12_kindOf_62
      · have hf := if_t c3 hf
        refine lv_iconst (v := 2) C.1 C.2.1 dX12_kindOf_26 (by decide) ?_
        refine lv_goto (tgt := 62) C.1 C.2.1 dX12_kindOf_27 (by decide) ?_
        cases hf
        exact x_iret C hW dX12_kindOf_62
    · have hf := if_t c2 hf
      refine lv_iconst (v := 1) C.1 C.2.1 dX12_kindOf_16 (by decide) ?_
      refine lv_goto (tgt := 62) C.1 C.2.1 dX12_kindOf_17 (by decide) ?_
      cases hf
      exact x_iret C hW dX12_kindOf_62
  · have hf := if_t c1 hf
    refine lv_iconst (v := 0) C.1 C.2.1 dX12_kindOf_6 (by decide) ?_
    refine lv_goto (tgt := 62) C.1 C.2.1 dX12_kindOf_7 (by decide) ?_
    cases hf
    exact x_iret C hW dX12_kindOf_62
set_option maxRecDepth 100000 in
set_option maxHeartbeats 4000000 in
theorem tX12_kindOf (l : Launch) {D : va_G} {ca ad : Nat → Nat} (hi : Inj ad) {N : Nat} {a0 : Int32} {mm : Mm} {res : Int32 × Mm}  (hf : fX12_kindOf N a0 mm = some res) : Met l yX12_kindOf (WS yX12_kindOf cX12_kindOf 1 (some .int)) (rmX12_kindOf) (va_Pc [.int a0] (WB D ca ad mm)) (QI D ca ad res) 0 0 (AA ad) := by
  refine x_start hi (by decide) rfl (Nat.le_of_ble_eq_true rfl) (fun p e s m args below meth c ls C hW hl => ?_)
  exact wX12_kindOf_0 C  hW (lv_sub hl [0] rfl) hf
set_option maxRecDepth 100000 in
set_option maxHeartbeats 4000000 in
theorem wX12_readsHead_0 (C : Cx p s m meth c args cX12_readsHead 2 (some .boolean) RX12 D ca ad) {res : Int32 × Mm} {N : Nat}  {a0 : Nat} {a1 : Int32} {mm : Mm} {H : Heap} {locs : List Loc} {ls : Array Slot} (ha0 : sX12 a0) (hW : Wd D ca ad s.heap mm H locs) (hl : lv_has ls 2 [(0, .ref (ad a0)), (1, .int a1)]) (hf : fX12_readsHead N a0 a1 mm = some res) : W p l e (rmX12_readsHead) s m args below meth c H locs 0 0 (MQ below (QI D ca ad res) args s 0 0 (AA ad)) (F0 m 0 ls []) := by
  unfold fX12_readsHead at hf
  refine lv_aload_n C.1 C.2.1 dX12_readsHead_0 rfl (lv_at hl 0 rfl) ?_
  refine lv_iload_n C.1 C.2.1 dX12_readsHead_1 rfl (lv_at hl 1 rfl) ?_
  obtain ⟨x1, m2, r3, hf⟩ := bd2_s hf
  refine x_ci hW (x_runV C hW [.int a1] [] (ha0).1 (ha0).2.1 kX12.1 kvX12_here q_1217 (tX12_here l C.2.2.2.2.2.2.1 ha0 r3) rfl rfl ⟨by decide, by decide⟩ rfl hl.1 rfl (Nat.le_of_ble_eq_true rfl) dX12_readsHead_2) (fun H locs hW => ?_)
  refine lv_bipush (v := 110) C.1 C.2.1 dX12_readsHead_5 (by decide) ?_
  refine lv_icmp_eq (tgt := 12) C.1 C.2.1 dX12_readsHead_7 (by decide) (fun c4 => ?_) (fun c4 => ?_)
  · have hf := if_t c4 hf
    refine lv_aload_n C.1 C.2.1 dX12_readsHead_12 rfl (lv_at hl 0 rfl) ?_
    refine lv_dup C.1 C.2.1 dX12_readsHead_13 rfl ?_
    refine x_geti C hW (ha0).1 (ha0).2.1 (j := 14) rfl kX12 (by decide) rfl q_1030 dX12_readsHead_14 ?_
    refine lv_iconst (v := 1) C.1 C.2.1 dX12_readsHead_17 (by decide) ?_
    refine lv_iadd C.1 C.2.1 dX12_readsHead_18 ?_
    refine x_put C hW (ha0).1 (ha0).2.1 (j := 14) (t1 := .int) rfl kX12 (by decide) rfl rfl q_1030 (by decide +kernel) rfl rfl dX12_readsHead_19 (fun H locs hW => ?_)
    obtain ⟨m5, em5⟩ : ∃ z, z = wr m2 a0 14 ((rd m2 a0 14) + 1) := ⟨_, rfl⟩
    have hf := nm_s hf em5
    rw [← em5] at hW
    refine lv_aload_n C.1 C.2.1 dX12_readsHead_22 rfl (lv_at hl 0 rfl) ?_
    refine lv_iload_n C.1 C.2.1 dX12_readsHead_23 rfl (lv_at hl 1 rfl) ?_
    obtain ⟨x6, m7, r8, hf⟩ := bd2_s hf
    refine x_ci hW (x_runV C hW [.int a1] [] (ha0).1 (ha0).2.1 kX12.1 kvX12_readsNumber q_1236 (tX12_readsNumber l C.2.2.2.2.2.2.1 ha0 r8) rfl rfl ⟨by decide, by decide⟩ rfl hl.1 rfl (Nat.le_of_ble_eq_true rfl) dX12_readsHead_24) (fun H locs hW => ?_)
    refine lv_if_ne (tgt := 32) C.1 C.2.1 dX12_readsHead_27 (by decide) (fun c9 => ?_) (fun c9 => ?_)
    · have hf := if_f c9 hf
      refine lv_aload_n C.1 C.2.1 dX12_readsHead_32 rfl (lv_at hl 0 rfl) ?_
      refine x_getr C hW (ha0).1 (ha0).2.1 (j := 18) rfl kX12 (by decide) rfl q_1034 dX12_readsHead_33 ?_
      refine lv_iconst (v := 0) C.1 C.2.1 dX12_readsHead_36 (by decide) ?_
      refine lv_aload_n C.1 C.2.1 dX12_readsHead_37 rfl (lv_at hl 0 rfl) ?_
      refine x_geti C hW (ha0).1 (ha0).2.1 (j := 15) rfl kX12 (by decide) rfl q_1031 dX12_readsHead_38 ?_
      obtain ⟨g10, hf⟩ := gd_s hf
      refine x_iast C hW ha0.2.2.2.2.2.2.2.2.2.2.1 g10 dX12_readsHead_41 (fun H locs hW => ?_)
      obtain ⟨m11, em11⟩ : ∃ z, z = wr m7 (fr a0 18) (0 : Int32).toNatClampNeg (rd m7 a0 15) := ⟨_, rfl⟩
      have hf := nm_s hf em11
      rw [← em11] at hW
      refine lv_aload_n C.1 C.2.1 dX12_readsHead_42 rfl (lv_at hl 0 rfl) ?_
      refine lv_iload_n C.1 C.2.1 dX12_readsHead_43 rfl (lv_at hl 1 rfl) ?_
      obtain ⟨x12, m13, r14, hf⟩ := bd2_s hf
      refine x_ci hW (x_runV C hW [.int a1] [] (ha0).1 (ha0).2.1 kX12.1 kvX12_here q_1217 (tX12_here l C.2.2.2.2.2.2.1 ha0 r14) rfl rfl ⟨by decide, by decide⟩ rfl hl.1 rfl (Nat.le_of_ble_eq_true rfl) dX12_readsHead_44) (fun H locs hW => ?_)
      refine lv_bipush (v := 58) C.1 C.2.1 dX12_readsHead_47 (by decide) ?_
      refine lv_icmp_eq (tgt := 54) C.1 C.2.1 dX12_readsHead_49 (by decide) (fun c15 => ?_) (fun c15 => ?_)
      · have hf := if_t c15 hf
        refine lv_aload_n C.1 C.2.1 dX12_readsHead_54 rfl (lv_at hl 0 rfl) ?_
        refine lv_dup C.1 C.2.1 dX12_readsHead_55 rfl ?_
        refine x_geti C hW (ha0).1 (ha0).2.1 (j := 14) rfl kX12 (by decide) rfl q_1030 dX12_readsHead_56 ?_
        refine lv_iconst (v := 1) C.1 C.2.1 dX12_readsHead_59 (by decide) ?_
        refine lv_iadd C.1 C.2.1 dX12_readsHead_60 ?_
        refine x_put C hW (ha0).1 (ha0).2.1 (j := 14) (t1 := .int) rfl kX12 (by decide) rfl rfl q_1030 (by decide +kernel) rfl rfl dX12_readsHead_61 (fun H locs hW => ?_)
        obtain ⟨m16, em16⟩ : ∃ z, z = wr m13 a0 14 ((rd m13 a0 14) + 1) := ⟨_, rfl⟩
        have hf := nm_s hf em16
        rw [← em16] at hW
        refine lv_aload_n C.1 C.2.1 dX12_readsHead_64 rfl (lv_at hl 0 rfl) ?_
        refine lv_iload_n C.1 C.2.1 dX12_readsHead_65 rfl (lv_at hl 1 rfl) ?_
        obtain ⟨x17, m18, r19, hf⟩ := bd2_s hf
        refine x_ci hW (x_runV C hW [.int a1] [] (ha0).1 (ha0).2.1 kX12.1 kvX12_readsNumber q_1236 (tX12_readsNumber l C.2.2.2.2.2.2.1 ha0 r19) rfl rfl ⟨by decide, by decide⟩ rfl hl.1 rfl (Nat.le_of_ble_eq_true rfl) dX12_readsHead_66) (fun H locs hW => ?_)
        refine lv_if_ne (tgt := 74) C.1 C.2.1 dX12_readsHead_69 (by decide) (fun c20 => ?_) (fun c20 => ?_)
        · have hf := if_f c20 hf
          refine lv_aload_n C.1 C.2.1 dX12_readsHead_74 rfl (lv_at hl 0 rfl) ?_
          refine x_getr C hW (ha0).1 (ha0).2.1 (j := 18) rfl kX12 (by decide) rfl q_1034 dX12_readsHead_75 ?_
          refine lv_iconst (v := 1) C.1 C.2.1 dX12_readsHead_78 (by decide) ?_
          refine lv_aload_n C.1 C.2.1 dX12_readsHead_79 rfl (lv_at hl 0 rfl) ?_
          refine x_geti C hW (ha0).1 (ha0).2.1 (j := 15) rfl kX12 (by decide) rfl q_1031 dX12_readsHead_80 ?_
          obtain ⟨g21, hf⟩ := gd_s hf
          refine x_iast C hW ha0.2.2.2.2.2.2.2.2.2.2.1 g21 dX12_readsHead_83 (fun H locs hW => ?_)
          obtain ⟨m22, em22⟩ : ∃ z, z = wr m18 (fr a0 18) (1 : Int32).toNatClampNeg (rd m18 a0 15) := ⟨_, rfl⟩
          have hf := nm_s hf em22
          rw [← em22] at hW
          refine lv_aload_n C.1 C.2.1 dX12_readsHead_84 rfl (lv_at hl 0 rfl) ?_
          refine lv_iconst (v := 1) C.1 C.2.1 dX12_readsHead_85 (by decide) ?_
          refine x_put C hW (ha0).1 (ha0).2.1 (j := 17) (t1 := .boolean) rfl kX12 (by decide) rfl rfl q_1033 (by decide +kernel) rfl rfl dX12_readsHead_86 (fun H locs hW => ?_)
          obtain ⟨m23, em23⟩ : ∃ z, z = wr m22 a0 17 1 := ⟨_, rfl⟩
          have hf := nm_s hf em23
          rw [← em23] at hW
          refine lv_iconst (v := 1) C.1 C.2.1 dX12_readsHead_89 (by decide) ?_
          cases hf
          exact x_zret C hW (by decide) dX12_readsHead_90
        · have hf := if_t c20 hf
          refine lv_iconst (v := 0) C.1 C.2.1 dX12_readsHead_72 (by decide) ?_
          cases hf
          exact x_zret C hW (by decide) dX12_readsHead_73
      · have hf := if_f c15 hf
        refine lv_iconst (v := 0) C.1 C.2.1 dX12_readsHead_52 (by decide) ?_
        cases hf
        exact x_zret C hW (by decide) dX12_readsHead_53
    · have hf := if_t c9 hf
      refine lv_iconst (v := 0) C.1 C.2.1 dX12_readsHead_30 (by decide) ?_
      cases hf
      exact x_zret C hW (by decide) dX12_readsHead_31
  · have hf := if_f c4 hf
    refine lv_iconst (v := 0) C.1 C.2.1 dX12_readsHead_10 (by decide) ?_
    cases hf
    exact x_zret C hW (by decide) dX12_readsHead_11
set_option maxRecDepth 100000 in
set_option maxHeartbeats 4000000 in
theorem tX12_readsHead (l : Launch) {D : va_G} {ca ad : Nat → Nat} (hi : Inj ad) {N : Nat} {a0 : Nat} {a1 : Int32} {mm : Mm} {res : Int32 × Mm} (ha0 : sX12 a0) (hf : fX12_readsHead N a0 a1 mm = some res) : Met l yX12_readsHead (WS yX12_readsHead cX12_readsHead 2 (some .boolean)) (rmX12_readsHead) (va_Pc [.ref (ad a0), .int a1] (WB D ca ad mm)) (QI D ca ad res) 0 0 (AA ad) := by
  refine x_start hi (by decide) rfl (Nat.le_of_ble_eq_true rfl) (fun p e s m args below meth c ls C hW hl => ?_)
  exact wX12_readsHead_0 C ha0 hW (lv_sub hl [0, 1] rfl) hf
set_option maxRecDepth 100000 in
set_option maxHeartbeats 4000000 in
theorem wX12_readsSuit_141 (C : Cx p s m meth c args cX12_readsSuit 4 (some .boolean) RX12 D ca ad) {res : Int32 × Mm} {N : Nat}  {a0 : Nat} {mm : Mm} {H : Heap} {locs : List Loc} {ls : Array Slot} (ha0 : sX12 a0) (hW : Wd D ca ad s.heap mm H locs) (hl : lv_has ls 4 [(0, .ref (ad a0))]) (hf : fX12_readsSuit_141 N a0 mm = some res) : W p l e (rmX12_readsSuit) s m args below meth c H locs 0 0 (MQ below (QI D ca ad res) args s 0 0 (AA ad)) (F0 m 141 ls []) := by
  unfold fX12_readsSuit_141 at hf
  refine lv_aload_n C.1 C.2.1 dX12_readsSuit_141 rfl (lv_at hl 0 rfl) ?_
  refine lv_dup C.1 C.2.1 dX12_readsSuit_142 rfl ?_
  refine x_geti C hW (ha0).1 (ha0).2.1 (j := 16) rfl kX12 (by decide) rfl q_1032 dX12_readsSuit_143 ?_
  refine lv_iconst (v := 1) C.1 C.2.1 dX12_readsSuit_146 (by decide) ?_
  refine lv_iadd C.1 C.2.1 dX12_readsSuit_147 ?_
  refine x_put C hW (ha0).1 (ha0).2.1 (j := 16) (t1 := .int) rfl kX12 (by decide) rfl rfl q_1032 (by decide +kernel) rfl rfl dX12_readsSuit_148 (fun H locs hW => ?_)
  obtain ⟨m1, em1⟩ : ∃ z, z = wr mm a0 16 ((rd mm a0 16) + 1) := ⟨_, rfl⟩
  have hf := nm_s hf em1
  rw [← em1] at hW
  refine lv_iconst (v := 1) C.1 C.2.1 dX12_readsSuit_151 (by decide) ?_
  cases hf
  exact x_zret C hW (by decide) dX12_readsSuit_152
set_option maxRecDepth 100000 in
set_option maxHeartbeats 4000000 in
theorem wX12_readsSuit_121 (C : Cx p s m meth c args cX12_readsSuit 4 (some .boolean) RX12 D ca ad) {res : Int32 × Mm} {N : Nat}  {a0 : Nat} {a3 : Int32} {s0 : Nat} {s1 : Int32} {s2 : Int32} {s3 : Int32} {mm : Mm} {H : Heap} {locs : List Loc} {ls : Array Slot} (ha0 : sX12 a0) (hs0 : sX12 s0) (hW : Wd D ca ad s.heap mm H locs) (hl : lv_has ls 4 [(0, .ref (ad a0)), (3, .int a3)]) (hf : fX12_readsSuit_121 N a0 a3 s0 s1 s2 s3 mm = some res) : W p l e (rmX12_readsSuit) s m args below meth c H locs 0 0 (MQ below (QI D ca ad res) args s 0 0 (AA ad)) (F0 m 121 ls [.int s3, .int s2, .int s1, .ref (ad s0)]) := by
  unfold fX12_readsSuit_121 at hf
  obtain ⟨x2, m3, r4, hf⟩ := bd2_s hf
  refine x_ci hW (x_runV C hW [.int s1, .int s2, .int s3] [] (hs0).1 (hs0).2.1 kX12.1 kvX12_readsFigure q_1228 (tX12_readsFigure l C.2.2.2.2.2.2.1 hs0 r4) rfl rfl ⟨by decide, by decide⟩ rfl hl.1 rfl (Nat.le_of_ble_eq_true rfl) dX12_readsSuit_121) (fun H locs hW => ?_)
  refine lv_if_ne (tgt := 129) C.1 C.2.1 dX12_readsSuit_124 (by decide) (fun c5 => ?_) (fun c5 => ?_)
  · have hf := if_f c5 hf
    refine lv_aload_n C.1 C.2.1 dX12_readsSuit_129 rfl (lv_at hl 0 rfl) ?_
    refine x_getr C hW (ha0).1 (ha0).2.1 (j := 11) rfl kX12 (by decide) rfl q_1027 dX12_readsSuit_130 ?_
    refine lv_iload_n C.1 C.2.1 dX12_readsSuit_133 rfl (lv_at hl 1 rfl) ?_
    refine lv_iconst (v := 2) C.1 C.2.1 dX12_readsSuit_134 (by decide) ?_
    refine lv_iadd C.1 C.2.1 dX12_readsSuit_135 ?_
    refine lv_aload_n C.1 C.2.1 dX12_readsSuit_136 rfl (lv_at hl 0 rfl) ?_
    refine x_geti C hW (ha0).1 (ha0).2.1 (j := 15) rfl kX12 (by decide) rfl q_1031 dX12_readsSuit_137 ?_
    obtain ⟨g6, hf⟩ := gd_s hf
    refine x_iast C hW ha0.2.2.2.2.2.2.2.2.1 g6 dX12_readsSuit_140 (fun H locs hW => ?_)
    obtain ⟨m7, em7⟩ : ∃ z, z = wr m3 (fr a0 11) (a3 + 2).toNatClampNeg (rd m3 a0 15) := ⟨_, rfl⟩
    have hf := nm_s hf em7
    rw [← em7] at hW
    exact wX12_readsSuit_141 C  ha0 hW (lv_sub hl [0] rfl) hf
  · have hf := if_t c5 hf
    refine lv_iconst (v := 0) C.1 C.2.1 dX12_readsSuit_127 (by decide) ?_
    cases hf
    exact x_zret C hW (by decide) dX12_readsSuit_128
set_option maxRecDepth 100000 in
set_option maxHeartbeats 4000000 in
theorem wX12_readsSuit_105 (C : Cx p s m meth c args cX12_readsSuit 4 (some .boolean) RX12 D ca ad) {res : Int32 × Mm} {N : Nat}  {a0 : Nat} {a2 : Int32} {a3 : Int32} {s0 : Nat} {s1 : Int32} {s2 : Int32} {mm : Mm} {H : Heap} {locs : List Loc} {ls : Array Slot} (ha0 : sX12 a0) (hs0 : sX12 s0) (hW : Wd D ca ad s.heap mm H locs) (hl : lv_has ls 4 [(0, .ref (ad a0)), (2, .int a2), (3, .int a3)]) (hf : fX12_readsSuit_105 N a0 a2 a3 s0 s1 s2 mm = some res) : W p l e (rmX12_readsSuit) s m args below meth c H locs 0 0 (MQ below (QI D ca ad res) args s 0 0 (AA ad)) (F0 m 105 ls [.int s2, .int s1, .ref (ad s0)]) := by
  unfold fX12_readsSuit_105 at hf
  refine lv_iload_n C.1 C.2.1 dX12_readsSuit_105 rfl (lv_at hl 1 rfl) ?_
  refine lv_iconst (v := 5) C.1 C.2.1 dX12_readsSuit_106 (by decide) ?_
  refine lv_icmp_ne (tgt := 119) C.1 C.2.1 dX12_readsSuit_107 (by decide) (fun c8 => ?_) (fun c8 => ?_)
  · have hf := if_f c8 hf
    refine lv_bipush (v := 9) C.1 C.2.1 dX12_readsSuit_119 (by decide) ?_
    exact wX12_readsSuit_121 C  ha0 hs0 hW (lv_sub hl [0, 2] rfl) hf
  · have hf := if_t c8 hf
    refine lv_aload_n C.1 C.2.1 dX12_readsSuit_110 rfl (lv_at hl 0 rfl) ?_
    refine x_geti C hW (ha0).1 (ha0).2.1 (j := 16) rfl kX12 (by decide) rfl q_1032 dX12_readsSuit_111 ?_
    refine lv_iconst (v := 1) C.1 C.2.1 dX12_readsSuit_114 (by decide) ?_
    refine lv_isub C.1 C.2.1 dX12_readsSuit_115 ?_
    refine lv_goto (tgt := 121) C.1 C.2.1 dX12_readsSuit_116 (by decide) ?_
    exact wX12_readsSuit_121 C  ha0 hs0 hW (lv_sub hl [0, 2] rfl) hf
set_option maxRecDepth 100000 in
set_option maxHeartbeats 4000000 in
theorem wX12_readsSuit_0 (C : Cx p s m meth c args cX12_readsSuit 4 (some .boolean) RX12 D ca ad) {res : Int32 × Mm} {N : Nat}  {a0 : Nat} {a1 : Int32} {mm : Mm} {H : Heap} {locs : List Loc} {ls : Array Slot} (ha0 : sX12 a0) (hW : Wd D ca ad s.heap mm H locs) (hl : lv_has ls 4 [(0, .ref (ad a0)), (1, .int a1)]) (hf : fX12_readsSuit N a0 a1 mm = some res) : W p l e (rmX12_readsSuit) s m args below meth c H locs 0 0 (MQ below (QI D ca ad res) args s 0 0 (AA ad)) (F0 m 0 ls []) := by
  unfold fX12_readsSuit at hf
  refine lv_aload_n C.1 C.2.1 dX12_readsSuit_0 rfl (lv_at hl 0 rfl) ?_
  refine lv_iload_n C.1 C.2.1 dX12_readsSuit_1 rfl (lv_at hl 1 rfl) ?_
  obtain ⟨x9, m10, r11, hf⟩ := bd2_s hf
  refine x_ci hW (x_runV C hW [.int a1] [] (ha0).1 (ha0).2.1 kX12.1 kvX12_here q_1217 (tX12_here l C.2.2.2.2.2.2.1 ha0 r11) rfl rfl ⟨by decide, by decide⟩ rfl hl.1 rfl (Nat.le_of_ble_eq_true rfl) dX12_readsSuit_2) (fun H locs hW => ?_)
  obtain ⟨x12, m13, r14, hf⟩ := bd2_s hf
  refine x_ci hW (x_runS C hW [.int x9] [] kvX12_kindOf q_1225 (tX12_kindOf l C.2.2.2.2.2.2.1  r14) rfl rfl ⟨by decide, by decide⟩ rfl hl.1 rfl (Nat.le_of_ble_eq_true rfl) dX12_readsSuit_5) (fun H locs hW => ?_)
  refine lv_istore_n (lv' := [(2, .int x12), (0, .ref (ad a0)), (1, .int a1)]) C.1 C.2.1 dX12_readsSuit_8 rfl hl (by decide) rfl (fun ls hl => ?_)
  refine lv_iload_n C.1 C.2.1 dX12_readsSuit_9 rfl (lv_at hl 0 rfl) ?_
  refine lv_bipush (v := (-9)) C.1 C.2.1 dX12_readsSuit_10 (by decide) ?_
  refine lv_icmp_eq (tgt := 24) C.1 C.2.1 dX12_readsSuit_12 (by decide) (fun c15 => ?_) (fun c15 => ?_)
  · have hf := if_t c15 hf
    refine lv_iconst (v := 0) C.1 C.2.1 dX12_readsSuit_24 (by decide) ?_
    cases hf
    exact x_zret C hW (by decide) dX12_readsSuit_25
  · have hf := if_f c15 hf
    refine lv_aload_n C.1 C.2.1 dX12_readsSuit_15 rfl (lv_at hl 1 rfl) ?_
    refine x_geti C hW (ha0).1 (ha0).2.1 (j := 16) rfl kX12 (by decide) rfl q_1032 dX12_readsSuit_16 ?_
    refine lv_bipush (v := 6) C.1 C.2.1 dX12_readsSuit_19 (by decide) ?_
    refine lv_icmp_ne (tgt := 26) C.1 C.2.1 dX12_readsSuit_21 (by decide) (fun c16 => ?_) (fun c16 => ?_)
    · have hf := if_f c16 hf
      refine lv_aload_n C.1 C.2.1 dX12_readsSuit_26 rfl (lv_at hl 1 rfl) ?_
      refine lv_dup C.1 C.2.1 dX12_readsSuit_27 rfl ?_
      refine x_geti C hW (ha0).1 (ha0).2.1 (j := 14) rfl kX12 (by decide) rfl q_1030 dX12_readsSuit_28 ?_
      refine lv_iconst (v := 1) C.1 C.2.1 dX12_readsSuit_31 (by decide) ?_
      refine lv_iadd C.1 C.2.1 dX12_readsSuit_32 ?_
      refine x_put C hW (ha0).1 (ha0).2.1 (j := 14) (t1 := .int) rfl kX12 (by decide) rfl rfl q_1030 (by decide +kernel) rfl rfl dX12_readsSuit_33 (fun H locs hW => ?_)
      obtain ⟨m17, em17⟩ : ∃ z, z = wr m13 a0 14 ((rd m13 a0 14) + 1) := ⟨_, rfl⟩
      have hf := nm_s hf em17
      rw [← em17] at hW
      refine lv_bipush (v := 18) C.1 C.2.1 dX12_readsSuit_36 (by decide) ?_
      refine lv_iconst (v := 3) C.1 C.2.1 dX12_readsSuit_38 (by decide) ?_
      refine lv_aload_n C.1 C.2.1 dX12_readsSuit_39 rfl (lv_at hl 1 rfl) ?_
      refine x_geti C hW (ha0).1 (ha0).2.1 (j := 16) rfl kX12 (by decide) rfl q_1032 dX12_readsSuit_40 ?_
      refine lv_imul C.1 C.2.1 dX12_readsSuit_43 ?_
      refine lv_iadd C.1 C.2.1 dX12_readsSuit_44 ?_
      refine lv_istore_n (lv' := [(3, .int (18 + (3 * (rd m17 a0 16)))), (2, .int x12), (0, .ref (ad a0)), (1, .int a1)]) C.1 C.2.1 dX12_readsSuit_45 rfl hl (by decide) rfl (fun ls hl => ?_)
      refine lv_aload_n C.1 C.2.1 dX12_readsSuit_46 rfl (lv_at hl 2 rfl) ?_
      refine x_getr C hW (ha0).1 (ha0).2.1 (j := 11) rfl kX12 (by decide) rfl q_1027 dX12_readsSuit_47 ?_
      refine lv_iload_n C.1 C.2.1 dX12_readsSuit_50 rfl (lv_at hl 0 rfl) ?_
      refine lv_iload_n C.1 C.2.1 dX12_readsSuit_51 rfl (lv_at hl 1 rfl) ?_
      obtain ⟨g18, hf⟩ := gd_s hf
      refine x_iast C hW ha0.2.2.2.2.2.2.2.2.1 g18 dX12_readsSuit_52 (fun H locs hW => ?_)
      obtain ⟨m19, em19⟩ : ∃ z, z = wr m17 (fr a0 11) (18 + (3 * (rd m17 a0 16))).toNatClampNeg x12 := ⟨_, rfl⟩
      have hf := nm_s hf em19
      rw [← em19] at hW
      refine lv_aload_n C.1 C.2.1 dX12_readsSuit_53 rfl (lv_at hl 2 rfl) ?_
      refine lv_iload_n C.1 C.2.1 dX12_readsSuit_54 rfl (lv_at hl 3 rfl) ?_
      refine lv_iconst (v := 1) C.1 C.2.1 dX12_readsSuit_55 (by decide) ?_
      refine lv_bipush (v := 9) C.1 C.2.1 dX12_readsSuit_56 (by decide) ?_
      obtain ⟨x20, m21, r22, hf⟩ := bd2_s hf
      refine x_ci hW (x_runV C hW [.int a1, .int 1, .int 9] [] (ha0).1 (ha0).2.1 kX12.1 kvX12_readsFigure q_1228 (tX12_readsFigure l C.2.2.2.2.2.2.1 ha0 r22) rfl rfl ⟨by decide, by decide⟩ rfl hl.1 rfl (Nat.le_of_ble_eq_true rfl) dX12_readsSuit_58) (fun H locs hW => ?_)
      refine lv_if_ne (tgt := 66) C.1 C.2.1 dX12_readsSuit_61 (by decide) (fun c23 => ?_) (fun c23 => ?_)
      · have hf := if_f c23 hf
        refine lv_aload_n C.1 C.2.1 dX12_readsSuit_66 rfl (lv_at hl 2 rfl) ?_
        refine x_getr C hW (ha0).1 (ha0).2.1 (j := 11) rfl kX12 (by decide) rfl q_1027 dX12_readsSuit_67 ?_
        refine lv_iload_n C.1 C.2.1 dX12_readsSuit_70 rfl (lv_at hl 0 rfl) ?_
        refine lv_iconst (v := 1) C.1 C.2.1 dX12_readsSuit_71 (by decide) ?_
        refine lv_iadd C.1 C.2.1 dX12_readsSuit_72 ?_
        refine lv_aload_n C.1 C.2.1 dX12_readsSuit_73 rfl (lv_at hl 2 rfl) ?_
        refine x_geti C hW (ha0).1 (ha0).2.1 (j := 15) rfl kX12 (by decide) rfl q_1031 dX12_readsSuit_74 ?_
        obtain ⟨g24, hf⟩ := gd_s hf
        refine x_iast C hW ha0.2.2.2.2.2.2.2.2.1 g24 dX12_readsSuit_77 (fun H locs hW => ?_)
        obtain ⟨m25, em25⟩ : ∃ z, z = wr m21 (fr a0 11) ((18 + (3 * (rd m17 a0 16))) + 1).toNatClampNeg (rd m21 a0 15) := ⟨_, rfl⟩
        have hf := nm_s hf em25
        rw [← em25] at hW
        refine lv_aload_n C.1 C.2.1 dX12_readsSuit_78 rfl (lv_at hl 2 rfl) ?_
        refine x_getr C hW (ha0).1 (ha0).2.1 (j := 11) rfl kX12 (by decide) rfl q_1027 dX12_readsSuit_79 ?_
        refine lv_iload_n C.1 C.2.1 dX12_readsSuit_82 rfl (lv_at hl 0 rfl) ?_
        refine lv_iconst (v := 2) C.1 C.2.1 dX12_readsSuit_83 (by decide) ?_
        refine lv_iadd C.1 C.2.1 dX12_readsSuit_84 ?_
        refine lv_bipush (v := (-9)) C.1 C.2.1 dX12_readsSuit_85 (by decide) ?_
        obtain ⟨g26, hf⟩ := gd_s hf
        refine x_iast C hW ha0.2.2.2.2.2.2.2.2.1 g26 dX12_readsSuit_87 (fun H locs hW => ?_)
        obtain ⟨m27, em27⟩ : ∃ z, z = wr m25 (fr a0 11) ((18 + (3 * (rd m17 a0 16))) + 2).toNatClampNeg (-9) := ⟨_, rfl⟩
        have hf := nm_s hf em27
        rw [← em27] at hW
        refine lv_iload_n C.1 C.2.1 dX12_readsSuit_88 rfl (lv_at hl 1 rfl) ?_
        refine lv_iconst (v := 3) C.1 C.2.1 dX12_readsSuit_89 (by decide) ?_
        refine lv_icmp_lt (tgt := 141) C.1 C.2.1 dX12_readsSuit_90 (by decide) (fun c28 => ?_) (fun c28 => ?_)
        · have hf := if_t c28 hf
          exact wX12_readsSuit_141 C  ha0 hW (lv_sub hl [2] rfl) hf
        · have hf := if_f c28 hf
          refine lv_aload_n C.1 C.2.1 dX12_readsSuit_93 rfl (lv_at hl 2 rfl) ?_
          refine lv_iload_n C.1 C.2.1 dX12_readsSuit_94 rfl (lv_at hl 3 rfl) ?_
          refine lv_iload_n C.1 C.2.1 dX12_readsSuit_95 rfl (lv_at hl 1 rfl) ?_
          refine lv_iconst (v := 5) C.1 C.2.1 dX12_readsSuit_96 (by decide) ?_
          refine lv_icmp_ne (tgt := 104) C.1 C.2.1 dX12_readsSuit_97 (by decide) (fun c29 => ?_) (fun c29 => ?_)
          · have hf := if_f c29 hf
            refine lv_iconst (v := 1) C.1 C.2.1 dX12_readsSuit_104 (by decide) ?_
            exact wX12_readsSuit_105 C  ha0 ha0 hW (lv_sub hl [2, 1, 0] rfl) hf
          · have hf := if_t c29 hf
            refine lv_iconst (v := 0) C.1 C.2.1 dX12_readsSuit_100 (by decide) ?_
            refine lv_goto (tgt := 105) C.1 C.2.1 dX12_readsSuit_101 (by decide) ?_
            exact wX12_readsSuit_105 C  ha0 ha0 hW (lv_sub hl [2, 1, 0] rfl) hf
      · have hf := if_t c23 hf
        refine lv_iconst (v := 0) C.1 C.2.1 dX12_readsSuit_64 (by decide) ?_
        cases hf
        exact x_zret C hW (by decide) dX12_readsSuit_65
    · have hf := if_t c16 hf
      refine lv_iconst (v := 0) C.1 C.2.1 dX12_readsSuit_24 (by decide) ?_
      cases hf
      exact x_zret C hW (by decide) dX12_readsSuit_25
set_option maxRecDepth 100000 in
set_option maxHeartbeats 4000000 in
theorem tX12_readsSuit (l : Launch) {D : va_G} {ca ad : Nat → Nat} (hi : Inj ad) {N : Nat} {a0 : Nat} {a1 : Int32} {mm : Mm} {res : Int32 × Mm} (ha0 : sX12 a0) (hf : fX12_readsSuit N a0 a1 mm = some res) : Met l yX12_readsSuit (WS yX12_readsSuit cX12_readsSuit 4 (some .boolean)) (rmX12_readsSuit) (va_Pc [.ref (ad a0), .int a1] (WB D ca ad mm)) (QI D ca ad res) 0 0 (AA ad) := by
  refine x_start hi (by decide) rfl (Nat.le_of_ble_eq_true rfl) (fun p e s m args below meth c ls C hW hl => ?_)
  exact wX12_readsSuit_0 C ha0 hW (lv_sub hl [0, 1] rfl) hf
set_option maxRecDepth 100000 in
set_option maxHeartbeats 4000000 in
theorem wX12_goesOn_15 (C : Cx p s m meth c args cX12_goesOn 2 (some .int) RX12 D ca ad) {res : Int32 × Mm} {N : Nat}  : ∀ (n : Nat) {a0 : Nat} {a1 : Int32} {mm : Mm} {H : Heap} {locs : List Loc} {ls : Array Slot}, (sX12 a0) → Wd D ca ad s.heap mm H locs → lv_has ls 2 [(0, .ref (ad a0)), (1, .int a1)] → fX12_goesOn_15 N n a0 a1 mm = some res → W p l e (rmX12_goesOn) s m args below meth c H locs 0 0 (MQ below (QI D ca ad res) args s 0 0 (AA ad)) (F0 m 15 ls []) := by
  intro n
  induction n with
  | zero => intro a0 a1 mm H locs ls ha0 hW hl hf; cases hf
  | succ n ih =>
    intro a0 a1 mm H locs ls ha0 hW hl hf
    have hk15 : ∀ (a0 : Nat) (a1 : Int32) (mm : Mm) (H : Heap) (locs : List Loc) (ls : Array Slot), (sX12 a0) → Wd D ca ad s.heap mm H locs → lv_has ls 2 [(0, .ref (ad a0)), (1, .int a1)] → (fX12_goesOn_15 N n) a0 a1 mm = some res → W p l e (rmX12_goesOn) s m args below meth c H locs 0 0 (MQ below (QI D ca ad res) args s 0 0 (AA ad)) (F0 m 15 ls []) := fun a0 a1 mm H locs ls ha0 hW hl hf => ih ha0 hW hl hf
    unfold fX12_goesOn_15 at hf
    try dsimp only at hf
    refine lv_aload_n C.1 C.2.1 dX12_goesOn_15 rfl (lv_at hl 0 rfl) ?_
    refine x_geti C hW (ha0).1 (ha0).2.1 (j := 14) rfl kX12 (by decide) rfl q_1030 dX12_goesOn_16 ?_
    refine lv_aload_n C.1 C.2.1 dX12_goesOn_19 rfl (lv_at hl 0 rfl) ?_
    refine x_getr C hW (ha0).1 (ha0).2.1 (j := 8) rfl kX12 (by decide) rfl q_1024 dX12_goesOn_20 ?_
    refine lv_iload_n C.1 C.2.1 dX12_goesOn_23 rfl (lv_at hl 1 rfl) ?_
    obtain ⟨g1, hf⟩ := gd_s hf
    refine x_iald C hW ha0.2.2.2.2.2.2.1 g1 dX12_goesOn_24 ?_
    refine lv_icmp_ge (tgt := 82) C.1 C.2.1 dX12_goesOn_25 (by decide) (fun c2 => ?_) (fun c2 => ?_)
    · have hf := if_t c2 hf
      refine lv_aload_n C.1 C.2.1 dX12_goesOn_82 rfl (lv_at hl 0 rfl) ?_
      refine x_geti C hW (ha0).1 (ha0).2.1 (j := 17) rfl kX12 (by decide) rfl q_1033 dX12_goesOn_83 ?_
      refine lv_if_eq (tgt := 94) C.1 C.2.1 dX12_goesOn_86 (by decide) (fun c3 => ?_) (fun c3 => ?_)
      · have hf := if_t c3 hf
        refine lv_aload_n C.1 C.2.1 dX12_goesOn_94 rfl (lv_at hl 0 rfl) ?_
        refine x_getr C hW (ha0).1 (ha0).2.1 (j := 8) rfl kX12 (by decide) rfl q_1024 dX12_goesOn_95 ?_
        refine lv_iload_n C.1 C.2.1 dX12_goesOn_98 rfl (lv_at hl 1 rfl) ?_
        obtain ⟨g4, hf⟩ := gd_s hf
        refine x_iald C hW ha0.2.2.2.2.2.2.1 g4 dX12_goesOn_99 ?_
        cases hf
        exact x_iret C hW dX12_goesOn_100
      · have hf := if_f c3 hf
        refine lv_bipush (v := (-9)) C.1 C.2.1 dX12_goesOn_89 (by decide) ?_
        refine lv_goto (tgt := 100) C.1 C.2.1 dX12_goesOn_91 (by decide) ?_
        cases hf
        exact x_iret C hW dX12_goesOn_100
    · have hf := if_f c2 hf
      refine lv_aload_n C.1 C.2.1 dX12_goesOn_28 rfl (lv_at hl 0 rfl) ?_
      refine lv_iload_n C.1 C.2.1 dX12_goesOn_29 rfl (lv_at hl 1 rfl) ?_
      obtain ⟨x5, m6, r7, hf⟩ := bd2_s hf
      refine x_ci hW (x_runV C hW [.int a1] [] (ha0).1 (ha0).2.1 kX12.1 kvX12_here q_1217 (tX12_here l C.2.2.2.2.2.2.1 ha0 r7) rfl rfl ⟨by decide, by decide⟩ rfl hl.1 rfl (Nat.le_of_ble_eq_true rfl) dX12_goesOn_30) (fun H locs hW => ?_)
      refine lv_bipush (v := 32) C.1 C.2.1 dX12_goesOn_33 (by decide) ?_
      refine lv_icmp_ne (tgt := 51) C.1 C.2.1 dX12_goesOn_35 (by decide) (fun c8 => ?_) (fun c8 => ?_)
      · have hf := if_f c8 hf
        refine lv_aload_n C.1 C.2.1 dX12_goesOn_51 rfl (lv_at hl 0 rfl) ?_
        refine x_geti C hW (ha0).1 (ha0).2.1 (j := 17) rfl kX12 (by decide) rfl q_1033 dX12_goesOn_52 ?_
        refine lv_if_eq (tgt := 69) C.1 C.2.1 dX12_goesOn_55 (by decide) (fun c9 => ?_) (fun c9 => ?_)
        · have hf := if_t c9 hf
          refine lv_aload_n C.1 C.2.1 dX12_goesOn_69 rfl (lv_at hl 0 rfl) ?_
          refine lv_iload_n C.1 C.2.1 dX12_goesOn_70 rfl (lv_at hl 1 rfl) ?_
          obtain ⟨x10, m11, r12, hf⟩ := bd2_s hf
          refine x_ci hW (x_runV C hW [.int a1] [] (ha0).1 (ha0).2.1 kX12.1 kvX12_readsHead q_1232 (tX12_readsHead l C.2.2.2.2.2.2.1 ha0 r12) rfl rfl ⟨by decide, by decide⟩ rfl hl.1 rfl (Nat.le_of_ble_eq_true rfl) dX12_goesOn_71) (fun H locs hW => ?_)
          refine lv_if_ne (tgt := 15) C.1 C.2.1 dX12_goesOn_74 (by decide) (fun c13 => ?_) (fun c13 => ?_)
          · have hf := if_f c13 hf
            exact hk15 _ _ _ _ _ _ ha0 hW (lv_sub hl [0, 1] rfl) hf
          · have hf := if_t c13 hf
            refine lv_aload_n C.1 C.2.1 dX12_goesOn_77 rfl (lv_at hl 0 rfl) ?_
            refine x_geti C hW (ha0).1 (ha0).2.1 (j := 14) rfl kX12 (by decide) rfl q_1030 dX12_goesOn_78 ?_
            cases hf
            exact x_iret C hW dX12_goesOn_81
        · have hf := if_f c9 hf
          refine lv_aload_n C.1 C.2.1 dX12_goesOn_58 rfl (lv_at hl 0 rfl) ?_
          refine lv_iload_n C.1 C.2.1 dX12_goesOn_59 rfl (lv_at hl 1 rfl) ?_
          obtain ⟨x14, m15, r16, hf⟩ := bd2_s hf
          refine x_ci hW (x_runV C hW [.int a1] [] (ha0).1 (ha0).2.1 kX12.1 kvX12_readsSuit q_1221 (tX12_readsSuit l C.2.2.2.2.2.2.1 ha0 r16) rfl rfl ⟨by decide, by decide⟩ rfl hl.1 rfl (Nat.le_of_ble_eq_true rfl) dX12_goesOn_60) (fun H locs hW => ?_)
          refine lv_if_ne (tgt := 15) C.1 C.2.1 dX12_goesOn_63 (by decide) (fun c17 => ?_) (fun c17 => ?_)
          · have hf := if_f c17 hf
            exact hk15 _ _ _ _ _ _ ha0 hW (lv_sub hl [0, 1] rfl) hf
          · have hf := if_t c17 hf
            refine lv_goto (tgt := 77) C.1 C.2.1 dX12_goesOn_66 (by decide) ?_
            refine lv_aload_n C.1 C.2.1 dX12_goesOn_77 rfl (lv_at hl 0 rfl) ?_
            refine x_geti C hW (ha0).1 (ha0).2.1 (j := 14) rfl kX12 (by decide) rfl q_1030 dX12_goesOn_78 ?_
            cases hf
            exact x_iret C hW dX12_goesOn_81
      · have hf := if_t c8 hf
        refine lv_aload_n C.1 C.2.1 dX12_goesOn_38 rfl (lv_at hl 0 rfl) ?_
        refine lv_dup C.1 C.2.1 dX12_goesOn_39 rfl ?_
        refine x_geti C hW (ha0).1 (ha0).2.1 (j := 14) rfl kX12 (by decide) rfl q_1030 dX12_goesOn_40 ?_
        refine lv_iconst (v := 1) C.1 C.2.1 dX12_goesOn_43 (by decide) ?_
        refine lv_iadd C.1 C.2.1 dX12_goesOn_44 ?_
        refine x_put C hW (ha0).1 (ha0).2.1 (j := 14) (t1 := .int) rfl kX12 (by decide) rfl rfl q_1030 (by decide +kernel) rfl rfl dX12_goesOn_45 (fun H locs hW => ?_)
        obtain ⟨m18, em18⟩ : ∃ z, z = wr m6 a0 14 ((rd m6 a0 14) + 1) := ⟨_, rfl⟩
        have hf := nm_s hf em18
        rw [← em18] at hW
        refine lv_goto (tgt := 15) C.1 C.2.1 dX12_goesOn_48 (by decide) ?_
        exact hk15 _ _ _ _ _ _ ha0 hW (lv_sub hl [0, 1] rfl) hf
set_option maxRecDepth 100000 in
set_option maxHeartbeats 4000000 in
theorem wX12_goesOn_0 (C : Cx p s m meth c args cX12_goesOn 2 (some .int) RX12 D ca ad) {res : Int32 × Mm} {N : Nat}  {a0 : Nat} {a1 : Int32} {mm : Mm} {H : Heap} {locs : List Loc} {ls : Array Slot} (ha0 : sX12 a0) (hW : Wd D ca ad s.heap mm H locs) (hl : lv_has ls 2 [(0, .ref (ad a0)), (1, .int a1)]) (hf : fX12_goesOn N a0 a1 mm = some res) : W p l e (rmX12_goesOn) s m args below meth c H locs 0 0 (MQ below (QI D ca ad res) args s 0 0 (AA ad)) (F0 m 0 ls []) := by
  unfold fX12_goesOn at hf
  refine lv_aload_n C.1 C.2.1 dX12_goesOn_0 rfl (lv_at hl 0 rfl) ?_
  refine lv_iconst (v := 0) C.1 C.2.1 dX12_goesOn_1 (by decide) ?_
  refine x_put C hW (ha0).1 (ha0).2.1 (j := 14) (t1 := .int) rfl kX12 (by decide) rfl rfl q_1030 (by decide +kernel) rfl rfl dX12_goesOn_2 (fun H locs hW => ?_)
  obtain ⟨m19, em19⟩ : ∃ z, z = wr mm a0 14 0 := ⟨_, rfl⟩
  have hf := nm_s hf em19
  rw [← em19] at hW
  refine lv_aload_n C.1 C.2.1 dX12_goesOn_5 rfl (lv_at hl 0 rfl) ?_
  refine lv_iconst (v := 0) C.1 C.2.1 dX12_goesOn_6 (by decide) ?_
  refine x_put C hW (ha0).1 (ha0).2.1 (j := 16) (t1 := .int) rfl kX12 (by decide) rfl rfl q_1032 (by decide +kernel) rfl rfl dX12_goesOn_7 (fun H locs hW => ?_)
  obtain ⟨m20, em20⟩ : ∃ z, z = wr m19 a0 16 0 := ⟨_, rfl⟩
  have hf := nm_s hf em20
  rw [← em20] at hW
  refine lv_aload_n C.1 C.2.1 dX12_goesOn_10 rfl (lv_at hl 0 rfl) ?_
  refine lv_iconst (v := 0) C.1 C.2.1 dX12_goesOn_11 (by decide) ?_
  refine x_put C hW (ha0).1 (ha0).2.1 (j := 17) (t1 := .boolean) rfl kX12 (by decide) rfl rfl q_1033 (by decide +kernel) rfl rfl dX12_goesOn_12 (fun H locs hW => ?_)
  obtain ⟨m21, em21⟩ : ∃ z, z = wr m20 a0 17 0 := ⟨_, rfl⟩
  have hf := nm_s hf em21
  rw [← em21] at hW
  exact wX12_goesOn_15 C  N ha0 hW (lv_sub hl [0, 1] rfl) hf
set_option maxRecDepth 100000 in
set_option maxHeartbeats 4000000 in
theorem tX12_goesOn (l : Launch) {D : va_G} {ca ad : Nat → Nat} (hi : Inj ad) {N : Nat} {a0 : Nat} {a1 : Int32} {mm : Mm} {res : Int32 × Mm} (ha0 : sX12 a0) (hf : fX12_goesOn N a0 a1 mm = some res) : Met l yX12_goesOn (WS yX12_goesOn cX12_goesOn 2 (some .int)) (rmX12_goesOn) (va_Pc [.ref (ad a0), .int a1] (WB D ca ad mm)) (QI D ca ad res) 0 0 (AA ad) := by
  refine x_start hi (by decide) rfl (Nat.le_of_ble_eq_true rfl) (fun p e s m args below meth c ls C hW hl => ?_)
  exact wX12_goesOn_0 C ha0 hW (lv_sub hl [0, 1] rfl) hf
set_option maxRecDepth 100000 in
set_option maxHeartbeats 4000000 in
theorem wX12_fault_0 (C : Cx p s m meth c args cX12_fault 3 (some .int) RX12 D ca ad) {res : Int32 × Mm} {N : Nat}  {a0 : Nat} {a1 : Int32} {mm : Mm} {H : Heap} {locs : List Loc} {ls : Array Slot} (ha0 : sX12 a0) (hW : Wd D ca ad s.heap mm H locs) (hl : lv_has ls 3 [(0, .ref (ad a0)), (1, .int a1)]) (hf : fX12_fault N a0 a1 mm = some res) : W p l e (rmX12_fault) s m args below meth c H locs 0 0 (MQ below (QI D ca ad res) args s 0 0 (AA ad)) (F0 m 0 ls []) := by
  unfold fX12_fault at hf
  refine lv_aload_n C.1 C.2.1 dX12_fault_0 rfl (lv_at hl 0 rfl) ?_
  refine lv_iload_n C.1 C.2.1 dX12_fault_1 rfl (lv_at hl 1 rfl) ?_
  obtain ⟨x1, m2, r3, hf⟩ := bd2_s hf
  refine x_ci hW (x_runV C hW [.int a1] [] (ha0).1 (ha0).2.1 kX12.1 kvX12_askedText q_1205 (tX12_askedText l C.2.2.2.2.2.2.1 ha0 r3) rfl rfl ⟨by decide, by decide⟩ rfl hl.1 rfl (Nat.le_of_ble_eq_true rfl) dX12_fault_2) (fun H locs hW => ?_)
  refine lv_istore_n (lv' := [(2, .int x1), (0, .ref (ad a0)), (1, .int a1)]) C.1 C.2.1 dX12_fault_5 rfl hl (by decide) rfl (fun ls hl => ?_)
  refine lv_iload_n C.1 C.2.1 dX12_fault_6 rfl (lv_at hl 0 rfl) ?_
  refine lv_if_ge (tgt := 14) C.1 C.2.1 dX12_fault_7 (by decide) (fun c4 => ?_) (fun c4 => ?_)
  · have hf := if_t c4 hf
    refine lv_aload_n C.1 C.2.1 dX12_fault_14 rfl (lv_at hl 1 rfl) ?_
    refine lv_iload_n C.1 C.2.1 dX12_fault_15 rfl (lv_at hl 2 rfl) ?_
    obtain ⟨x5, m6, r7, hf⟩ := bd2_s hf
    refine x_ci hW (x_runV C hW [.int a1] [] (ha0).1 (ha0).2.1 kX12.1 kvX12_goesOn q_1213 (tX12_goesOn l C.2.2.2.2.2.2.1 ha0 r7) rfl rfl ⟨by decide, by decide⟩ rfl hl.1 rfl (Nat.le_of_ble_eq_true rfl) dX12_fault_16) (fun H locs hW => ?_)
    cases hf
    exact x_iret C hW dX12_fault_19
  · have hf := if_f c4 hf
    refine lv_iload_n C.1 C.2.1 dX12_fault_10 rfl (lv_at hl 0 rfl) ?_
    refine lv_goto (tgt := 19) C.1 C.2.1 dX12_fault_11 (by decide) ?_
    cases hf
    exact x_iret C hW dX12_fault_19
set_option maxRecDepth 100000 in
set_option maxHeartbeats 4000000 in
theorem tX12_fault (l : Launch) {D : va_G} {ca ad : Nat → Nat} (hi : Inj ad) {N : Nat} {a0 : Nat} {a1 : Int32} {mm : Mm} {res : Int32 × Mm} (ha0 : sX12 a0) (hf : fX12_fault N a0 a1 mm = some res) : Met l yX12_fault (WS yX12_fault cX12_fault 3 (some .int)) (rmX12_fault) (va_Pc [.ref (ad a0), .int a1] (WB D ca ad mm)) (QI D ca ad res) 0 0 (AA ad) := by
  refine x_start hi (by decide) rfl (Nat.le_of_ble_eq_true rfl) (fun p e s m args below meth c ls C hW hl => ?_)
  exact wX12_fault_0 C ha0 hW (lv_sub hl [0, 1] rfl) hf
set_option maxRecDepth 100000 in
set_option maxHeartbeats 4000000 in
theorem wX12_court_118 (C : Cx p s m meth c args cX12_court 4 (some .int) RX12 D ca ad) {res : Int32 × Mm} {N : Nat}  : ∀ (n : Nat) {a0 : Nat} {a3 : Int32} {mm : Mm} {H : Heap} {locs : List Loc} {ls : Array Slot}, (sX12 a0) → Wd D ca ad s.heap mm H locs → lv_has ls 4 [(0, .ref (ad a0)), (3, .int a3)] → fX12_court_118 N n a0 a3 mm = some res → W p l e (rmX12_court) s m args below meth c H locs 0 0 (MQ below (QI D ca ad res) args s 0 0 (AA ad)) (F0 m 118 ls []) := by
  intro n
  induction n with
  | zero => intro a0 a3 mm H locs ls ha0 hW hl hf; cases hf
  | succ n ih =>
    intro a0 a3 mm H locs ls ha0 hW hl hf
    have hk118 : ∀ (a0 : Nat) (a3 : Int32) (mm : Mm) (H : Heap) (locs : List Loc) (ls : Array Slot), (sX12 a0) → Wd D ca ad s.heap mm H locs → lv_has ls 4 [(0, .ref (ad a0)), (3, .int a3)] → (fX12_court_118 N n) a0 a3 mm = some res → W p l e (rmX12_court) s m args below meth c H locs 0 0 (MQ below (QI D ca ad res) args s 0 0 (AA ad)) (F0 m 118 ls []) := fun a0 a3 mm H locs ls ha0 hW hl hf => ih ha0 hW hl hf
    unfold fX12_court_118 at hf
    try dsimp only at hf
    refine lv_iload_n C.1 C.2.1 dX12_court_118 rfl (lv_at hl 1 rfl) ?_
    refine lv_iconst (v := 3) C.1 C.2.1 dX12_court_119 (by decide) ?_
    refine lv_icmp_ge (tgt := 140) C.1 C.2.1 dX12_court_120 (by decide) (fun c1 => ?_) (fun c1 => ?_)
    · have hf := if_t c1 hf
      refine lv_aload_n C.1 C.2.1 dX12_court_140 rfl (lv_at hl 0 rfl) ?_
      refine x_geti C hW (ha0).1 (ha0).2.1 (j := 10) rfl kX12 (by decide) rfl q_1026 dX12_court_141 ?_
      cases hf
      exact x_iret C hW dX12_court_144
    · have hf := if_f c1 hf
      refine lv_aload_n C.1 C.2.1 dX12_court_123 rfl (lv_at hl 0 rfl) ?_
      refine x_getr C hW (ha0).1 (ha0).2.1 (j := 40) rfl kX12 (by decide) rfl q_1056 dX12_court_124 ?_
      refine lv_bipush (v := 72) C.1 C.2.1 dX12_court_127 (by decide) ?_
      refine lv_iload_n C.1 C.2.1 dX12_court_129 rfl (lv_at hl 1 rfl) ?_
      refine lv_imul C.1 C.2.1 dX12_court_130 ?_
      refine lv_bipush (v := (-9)) C.1 C.2.1 dX12_court_131 (by decide) ?_
      obtain ⟨g2, hf⟩ := gd_s hf
      refine x_iast C hW ha0.2.2.2.2.2.2.2.2.2.2.2.2.2.2.2.2.2.2.2.2.2.2 g2 dX12_court_133 (fun H locs hW => ?_)
      obtain ⟨m3, em3⟩ : ∃ z, z = wr mm (fr a0 40) (72 * a3).toNatClampNeg (-9) := ⟨_, rfl⟩
      have hf := nm_s hf em3
      rw [← em3] at hW
      refine lv_iinc (v := (a3 + 1)) (lv' := [(3, .int (a3 + 1)), (0, .ref (ad a0))]) C.1 C.2.1 dX12_court_134 hl (k := 1) rfl rfl (by decide) rfl (fun ls hl => ?_)
      refine lv_goto (tgt := 118) C.1 C.2.1 dX12_court_137 (by decide) ?_
      exact hk118 _ _ _ _ _ _ ha0 hW (lv_sub hl [1, 0] rfl) hf
set_option maxRecDepth 100000 in
set_option maxHeartbeats 4000000 in
theorem wX12_court_93 (C : Cx p s m meth c args cX12_court 4 (some .int) RX12 D ca ad) {res : Int32 × Mm} {N : Nat}  : ∀ (n : Nat) {a0 : Nat} {a3 : Int32} {mm : Mm} {H : Heap} {locs : List Loc} {ls : Array Slot}, (sX12 a0) → Wd D ca ad s.heap mm H locs → lv_has ls 4 [(0, .ref (ad a0)), (3, .int a3)] → fX12_court_93 N n a0 a3 mm = some res → W p l e (rmX12_court) s m args below meth c H locs 0 0 (MQ below (QI D ca ad res) args s 0 0 (AA ad)) (F0 m 93 ls []) := by
  intro n
  induction n with
  | zero => intro a0 a3 mm H locs ls ha0 hW hl hf; cases hf
  | succ n ih =>
    intro a0 a3 mm H locs ls ha0 hW hl hf
    have hk93 : ∀ (a0 : Nat) (a3 : Int32) (mm : Mm) (H : Heap) (locs : List Loc) (ls : Array Slot), (sX12 a0) → Wd D ca ad s.heap mm H locs → lv_has ls 4 [(0, .ref (ad a0)), (3, .int a3)] → (fX12_court_93 N n) a0 a3 mm = some res → W p l e (rmX12_court) s m args below meth c H locs 0 0 (MQ below (QI D ca ad res) args s 0 0 (AA ad)) (F0 m 93 ls []) := fun a0 a3 mm H locs ls ha0 hW hl hf => ih ha0 hW hl hf
    unfold fX12_court_93 at hf
    try dsimp only at hf
    refine lv_iload_n C.1 C.2.1 dX12_court_93 rfl (lv_at hl 1 rfl) ?_
    refine lv_iconst (v := 4) C.1 C.2.1 dX12_court_94 (by decide) ?_
    refine lv_icmp_ge (tgt := 111) C.1 C.2.1 dX12_court_95 (by decide) (fun c4 => ?_) (fun c4 => ?_)
    · have hf := if_t c4 hf
      refine lv_aload_n C.1 C.2.1 dX12_court_111 rfl (lv_at hl 0 rfl) ?_
      refine lv_iconst (v := 0) C.1 C.2.1 dX12_court_112 (by decide) ?_
      refine x_put C hW (ha0).1 (ha0).2.1 (j := 37) (t1 := .int) rfl kX12 (by decide) rfl rfl q_1053 (by decide +kernel) rfl rfl dX12_court_113 (fun H locs hW => ?_)
      obtain ⟨m5, em5⟩ : ∃ z, z = wr mm a0 37 0 := ⟨_, rfl⟩
      have hf := nm_s hf em5
      rw [← em5] at hW
      refine lv_iconst (v := 0) C.1 C.2.1 dX12_court_116 (by decide) ?_
      refine lv_istore_n (lv' := [(3, .int 0), (0, .ref (ad a0))]) C.1 C.2.1 dX12_court_117 rfl hl (by decide) rfl (fun ls hl => ?_)
      exact wX12_court_118 C  N ha0 hW (lv_sub hl [1, 0] rfl) hf
    · have hf := if_f c4 hf
      refine lv_aload_n C.1 C.2.1 dX12_court_98 rfl (lv_at hl 0 rfl) ?_
      refine x_getr C hW (ha0).1 (ha0).2.1 (j := 35) rfl kX12 (by decide) rfl q_1051 dX12_court_99 ?_
      refine lv_iload_n C.1 C.2.1 dX12_court_102 rfl (lv_at hl 1 rfl) ?_
      refine lv_iconst (v := 0) C.1 C.2.1 dX12_court_103 (by decide) ?_
      obtain ⟨g6, hf⟩ := gd_s hf
      refine x_iast C hW ha0.2.2.2.2.2.2.2.2.2.2.2.2.2.2.2.2.2.2.1 g6 dX12_court_104 (fun H locs hW => ?_)
      obtain ⟨m7, em7⟩ : ∃ z, z = wr mm (fr a0 35) a3.toNatClampNeg 0 := ⟨_, rfl⟩
      have hf := nm_s hf em7
      rw [← em7] at hW
      refine lv_iinc (v := (a3 + 1)) (lv' := [(3, .int (a3 + 1)), (0, .ref (ad a0))]) C.1 C.2.1 dX12_court_105 hl (k := 1) rfl rfl (by decide) rfl (fun ls hl => ?_)
      refine lv_goto (tgt := 93) C.1 C.2.1 dX12_court_108 (by decide) ?_
      exact hk93 _ _ _ _ _ _ ha0 hW (lv_sub hl [1, 0] rfl) hf
set_option maxRecDepth 100000 in
set_option maxHeartbeats 4000000 in
theorem wX12_court_35 (C : Cx p s m meth c args cX12_court 4 (some .int) RX12 D ca ad) {res : Int32 × Mm} {N : Nat}  : ∀ (n : Nat) {a0 : Nat} {a3 : Int32} {mm : Mm} {H : Heap} {locs : List Loc} {ls : Array Slot}, (sX12 a0) → Wd D ca ad s.heap mm H locs → lv_has ls 4 [(0, .ref (ad a0)), (3, .int a3)] → fX12_court_35 N n a0 a3 mm = some res → W p l e (rmX12_court) s m args below meth c H locs 0 0 (MQ below (QI D ca ad res) args s 0 0 (AA ad)) (F0 m 35 ls []) := by
  intro n
  induction n with
  | zero => intro a0 a3 mm H locs ls ha0 hW hl hf; cases hf
  | succ n ih =>
    intro a0 a3 mm H locs ls ha0 hW hl hf
    have hk35 : ∀ (a0 : Nat) (a3 : Int32) (mm : Mm) (H : Heap) (locs : List Loc) (ls : Array Slot), (sX12 a0) → Wd D ca ad s.heap mm H locs → lv_has ls 4 [(0, .ref (ad a0)), (3, .int a3)] → (fX12_court_35 N n) a0 a3 mm = some res → W p l e (rmX12_court) s m args below meth c H locs 0 0 (MQ below (QI D ca ad res) args s 0 0 (AA ad)) (F0 m 35 ls []) := fun a0 a3 mm H locs ls ha0 hW hl hf => ih ha0 hW hl hf
    unfold fX12_court_35 at hf
    try dsimp only at hf
    refine lv_iload_n C.1 C.2.1 dX12_court_35 rfl (lv_at hl 1 rfl) ?_
    refine lv_bipush (v := 18) C.1 C.2.1 dX12_court_36 (by decide) ?_
    refine lv_icmp_ge (tgt := 62) C.1 C.2.1 dX12_court_38 (by decide) (fun c8 => ?_) (fun c8 => ?_)
    · have hf := if_t c8 hf
      refine lv_aload_n C.1 C.2.1 dX12_court_62 rfl (lv_at hl 0 rfl) ?_
      refine x_getr C hW (ha0).1 (ha0).2.1 (j := 12) rfl kX12 (by decide) rfl q_1028 dX12_court_63 ?_
      refine lv_iconst (v := 0) C.1 C.2.1 dX12_court_66 (by decide) ?_
      refine lv_aload_n C.1 C.2.1 dX12_court_67 rfl (lv_at hl 0 rfl) ?_
      refine x_getr C hW (ha0).1 (ha0).2.1 (j := 18) rfl kX12 (by decide) rfl q_1034 dX12_court_68 ?_
      refine lv_iconst (v := 0) C.1 C.2.1 dX12_court_71 (by decide) ?_
      obtain ⟨g9, hf⟩ := gd_s hf
      refine x_iald C hW ha0.2.2.2.2.2.2.2.2.2.2.1 g9 dX12_court_72 ?_
      obtain ⟨g10, hf⟩ := gd_s hf
      refine x_iast C hW ha0.2.2.2.2.2.2.2.2.2.1 g10 dX12_court_73 (fun H locs hW => ?_)
      obtain ⟨m11, em11⟩ : ∃ z, z = wr mm (fr a0 12) (0 : Int32).toNatClampNeg (rd mm (fr a0 18) ((0 : Int32).toNatClampNeg)) := ⟨_, rfl⟩
      have hf := nm_s hf em11
      rw [← em11] at hW
      refine lv_aload_n C.1 C.2.1 dX12_court_74 rfl (lv_at hl 0 rfl) ?_
      refine x_getr C hW (ha0).1 (ha0).2.1 (j := 12) rfl kX12 (by decide) rfl q_1028 dX12_court_75 ?_
      refine lv_iconst (v := 1) C.1 C.2.1 dX12_court_78 (by decide) ?_
      refine lv_aload_n C.1 C.2.1 dX12_court_79 rfl (lv_at hl 0 rfl) ?_
      refine x_getr C hW (ha0).1 (ha0).2.1 (j := 18) rfl kX12 (by decide) rfl q_1034 dX12_court_80 ?_
      refine lv_iconst (v := 1) C.1 C.2.1 dX12_court_83 (by decide) ?_
      obtain ⟨g12, hf⟩ := gd_s hf
      refine x_iald C hW ha0.2.2.2.2.2.2.2.2.2.2.1 g12 dX12_court_84 ?_
      obtain ⟨g13, hf⟩ := gd_s hf
      refine x_iast C hW ha0.2.2.2.2.2.2.2.2.2.1 g13 dX12_court_85 (fun H locs hW => ?_)
      obtain ⟨m14, em14⟩ : ∃ z, z = wr m11 (fr a0 12) (1 : Int32).toNatClampNeg (rd m11 (fr a0 18) ((1 : Int32).toNatClampNeg)) := ⟨_, rfl⟩
      have hf := nm_s hf em14
      rw [← em14] at hW
      refine lv_aload_n C.1 C.2.1 dX12_court_86 rfl (lv_at hl 0 rfl) ?_
      refine lv_iconst (v := 0) C.1 C.2.1 dX12_court_87 (by decide) ?_
      refine x_put C hW (ha0).1 (ha0).2.1 (j := 13) (t1 := .int) rfl kX12 (by decide) rfl rfl q_1029 (by decide +kernel) rfl rfl dX12_court_88 (fun H locs hW => ?_)
      obtain ⟨m15, em15⟩ : ∃ z, z = wr m14 a0 13 0 := ⟨_, rfl⟩
      have hf := nm_s hf em15
      rw [← em15] at hW
      refine lv_iconst (v := 0) C.1 C.2.1 dX12_court_91 (by decide) ?_
      refine lv_istore_n (lv' := [(3, .int 0), (0, .ref (ad a0))]) C.1 C.2.1 dX12_court_92 rfl hl (by decide) rfl (fun ls hl => ?_)
      exact wX12_court_93 C  N ha0 hW (lv_sub hl [1, 0] rfl) hf
    · have hf := if_f c8 hf
      refine lv_aload_n C.1 C.2.1 dX12_court_41 rfl (lv_at hl 0 rfl) ?_
      refine x_getr C hW (ha0).1 (ha0).2.1 (j := 11) rfl kX12 (by decide) rfl q_1027 dX12_court_42 ?_
      refine lv_iload_n C.1 C.2.1 dX12_court_45 rfl (lv_at hl 1 rfl) ?_
      refine lv_aload_n C.1 C.2.1 dX12_court_46 rfl (lv_at hl 0 rfl) ?_
      refine x_getr C hW (ha0).1 (ha0).2.1 (j := 11) rfl kX12 (by decide) rfl q_1027 dX12_court_47 ?_
      refine lv_bipush (v := 18) C.1 C.2.1 dX12_court_50 (by decide) ?_
      refine lv_iload_n C.1 C.2.1 dX12_court_52 rfl (lv_at hl 1 rfl) ?_
      refine lv_iadd C.1 C.2.1 dX12_court_53 ?_
      obtain ⟨g16, hf⟩ := gd_s hf
      refine x_iald C hW ha0.2.2.2.2.2.2.2.2.1 g16 dX12_court_54 ?_
      obtain ⟨g17, hf⟩ := gd_s hf
      refine x_iast C hW ha0.2.2.2.2.2.2.2.2.1 g17 dX12_court_55 (fun H locs hW => ?_)
      obtain ⟨m18, em18⟩ : ∃ z, z = wr mm (fr a0 11) a3.toNatClampNeg (rd mm (fr a0 11) ((18 + a3).toNatClampNeg)) := ⟨_, rfl⟩
      have hf := nm_s hf em18
      rw [← em18] at hW
      refine lv_iinc (v := (a3 + 1)) (lv' := [(3, .int (a3 + 1)), (0, .ref (ad a0))]) C.1 C.2.1 dX12_court_56 hl (k := 1) rfl rfl (by decide) rfl (fun ls hl => ?_)
      refine lv_goto (tgt := 35) C.1 C.2.1 dX12_court_59 (by decide) ?_
      exact hk35 _ _ _ _ _ _ ha0 hW (lv_sub hl [1, 0] rfl) hf
set_option maxRecDepth 100000 in
set_option maxHeartbeats 4000000 in
theorem wX12_court_0 (C : Cx p s m meth c args cX12_court 4 (some .int) RX12 D ca ad) {res : Int32 × Mm} {N : Nat}  {a0 : Nat} {a1 : Int32} {mm : Mm} {H : Heap} {locs : List Loc} {ls : Array Slot} (ha0 : sX12 a0) (hW : Wd D ca ad s.heap mm H locs) (hl : lv_has ls 4 [(0, .ref (ad a0)), (1, .int a1)]) (hf : fX12_court N a0 a1 mm = some res) : W p l e (rmX12_court) s m args below meth c H locs 0 0 (MQ below (QI D ca ad res) args s 0 0 (AA ad)) (F0 m 0 ls []) := by
  unfold fX12_court at hf
  refine lv_aload_n C.1 C.2.1 dX12_court_0 rfl (lv_at hl 0 rfl) ?_
  refine lv_iload_n C.1 C.2.1 dX12_court_1 rfl (lv_at hl 1 rfl) ?_
  obtain ⟨x19, m20, r21, hf⟩ := bd2_s hf
  refine x_ci hW (x_runV C hW [.int a1] [] (ha0).1 (ha0).2.1 kX12.1 kvX12_askedText q_1205 (tX12_askedText l C.2.2.2.2.2.2.1 ha0 r21) rfl rfl ⟨by decide, by decide⟩ rfl hl.1 rfl (Nat.le_of_ble_eq_true rfl) dX12_court_2) (fun H locs hW => ?_)
  refine lv_istore_n (lv' := [(2, .int x19), (0, .ref (ad a0)), (1, .int a1)]) C.1 C.2.1 dX12_court_5 rfl hl (by decide) rfl (fun ls hl => ?_)
  refine lv_iload_n C.1 C.2.1 dX12_court_6 rfl (lv_at hl 0 rfl) ?_
  refine lv_if_ge (tgt := 12) C.1 C.2.1 dX12_court_7 (by decide) (fun c22 => ?_) (fun c22 => ?_)
  · have hf := if_t c22 hf
    refine lv_aload_n C.1 C.2.1 dX12_court_12 rfl (lv_at hl 1 rfl) ?_
    refine lv_iload_n C.1 C.2.1 dX12_court_13 rfl (lv_at hl 2 rfl) ?_
    obtain ⟨x23, m24, r25, hf⟩ := bd2_s hf
    refine x_ci hW (x_runV C hW [.int a1] [] (ha0).1 (ha0).2.1 kX12.1 kvX12_goesOn q_1213 (tX12_goesOn l C.2.2.2.2.2.2.1 ha0 r25) rfl rfl ⟨by decide, by decide⟩ rfl hl.1 rfl (Nat.le_of_ble_eq_true rfl) dX12_court_14) (fun H locs hW => ?_)
    refine lv_bipush (v := (-9)) C.1 C.2.1 dX12_court_17 (by decide) ?_
    refine lv_icmp_eq (tgt := 25) C.1 C.2.1 dX12_court_19 (by decide) (fun c26 => ?_) (fun c26 => ?_)
    · have hf := if_t c26 hf
      refine lv_aload_n C.1 C.2.1 dX12_court_25 rfl (lv_at hl 1 rfl) ?_
      refine lv_aload_n C.1 C.2.1 dX12_court_26 rfl (lv_at hl 1 rfl) ?_
      refine x_geti C hW (ha0).1 (ha0).2.1 (j := 16) rfl kX12 (by decide) rfl q_1032 dX12_court_27 ?_
      refine x_put C hW (ha0).1 (ha0).2.1 (j := 10) (t1 := .int) rfl kX12 (by decide) rfl rfl q_1026 (by decide +kernel) rfl rfl dX12_court_30 (fun H locs hW => ?_)
      obtain ⟨m27, em27⟩ : ∃ z, z = wr m24 a0 10 (rd m24 a0 16) := ⟨_, rfl⟩
      have hf := nm_s hf em27
      rw [← em27] at hW
      refine lv_iconst (v := 0) C.1 C.2.1 dX12_court_33 (by decide) ?_
      refine lv_istore_n (lv' := [(3, .int 0), (2, .int x19), (0, .ref (ad a0)), (1, .int a1)]) C.1 C.2.1 dX12_court_34 rfl hl (by decide) rfl (fun ls hl => ?_)
      exact wX12_court_35 C  N ha0 hW (lv_sub hl [2, 0] rfl) hf
    · have hf := if_f c26 hf
      refine lv_bipush (v := (-4)) C.1 C.2.1 dX12_court_22 (by decide) ?_
      cases hf
      exact x_iret C hW dX12_court_24
  · have hf := if_f c22 hf
    refine lv_iload_n C.1 C.2.1 dX12_court_10 rfl (lv_at hl 0 rfl) ?_
    cases hf
    exact x_iret C hW dX12_court_11
set_option maxRecDepth 100000 in
set_option maxHeartbeats 4000000 in
theorem tX12_court (l : Launch) {D : va_G} {ca ad : Nat → Nat} (hi : Inj ad) {N : Nat} {a0 : Nat} {a1 : Int32} {mm : Mm} {res : Int32 × Mm} (ha0 : sX12 a0) (hf : fX12_court N a0 a1 mm = some res) : Met l yX12_court (WS yX12_court cX12_court 4 (some .int)) (rmX12_court) (va_Pc [.ref (ad a0), .int a1] (WB D ca ad mm)) (QI D ca ad res) 0 0 (AA ad) := by
  refine x_start hi (by decide) rfl (Nat.le_of_ble_eq_true rfl) (fun p e s m args below meth c ls C hW hl => ?_)
  exact wX12_court_0 C ha0 hW (lv_sub hl [0, 1] rfl) hf
set_option maxRecDepth 100000 in
set_option maxHeartbeats 4000000 in
theorem wX12_isSuit_0 (C : Cx p s m meth c args cX12_isSuit 2 (some .boolean) RX12 D ca ad) {res : Int32 × Mm} {N : Nat}  {a0 : Nat} {a1 : Int32} {mm : Mm} {H : Heap} {locs : List Loc} {ls : Array Slot} (ha0 : sX12 a0) (hW : Wd D ca ad s.heap mm H locs) (hl : lv_has ls 2 [(0, .ref (ad a0)), (1, .int a1)]) (hf : fX12_isSuit N a0 a1 mm = some res) : W p l e (rmX12_isSuit) s m args below meth c H locs 0 0 (MQ below (QI D ca ad res) args s 0 0 (AA ad)) (F0 m 0 ls []) := by
  unfold fX12_isSuit at hf
  refine lv_iload_n C.1 C.2.1 dX12_isSuit_0 rfl (lv_at hl 1 rfl) ?_
  refine lv_iconst (v := 0) C.1 C.2.1 dX12_isSuit_1 (by decide) ?_
  refine lv_aload_n C.1 C.2.1 dX12_isSuit_2 rfl (lv_at hl 0 rfl) ?_
  refine x_geti C hW (ha0).1 (ha0).2.1 (j := 10) rfl kX12 (by decide) rfl q_1026 dX12_isSuit_3 ?_
  refine lv_iconst (v := 1) C.1 C.2.1 dX12_isSuit_6 (by decide) ?_
  refine lv_isub C.1 C.2.1 dX12_isSuit_7 ?_
  obtain ⟨x1, m2, r3, hf⟩ := bd2_s hf
  refine x_ci hW (x_runS C hW [.int a1, .int 0, .int ((rd mm a0 10) - 1)] [] kvX12_in q_1150 (tX12_in l C.2.2.2.2.2.2.1  r3) rfl rfl ⟨by decide, by decide⟩ rfl hl.1 rfl (Nat.le_of_ble_eq_true rfl) dX12_isSuit_8) (fun H locs hW => ?_)
  obtain ⟨g4, hf⟩ := gd_s hf
  cases hf
  exact x_zret C hW (of_decide_eq_true g4) dX12_isSuit_11
set_option maxRecDepth 100000 in
set_option maxHeartbeats 4000000 in
theorem tX12_isSuit (l : Launch) {D : va_G} {ca ad : Nat → Nat} (hi : Inj ad) {N : Nat} {a0 : Nat} {a1 : Int32} {mm : Mm} {res : Int32 × Mm} (ha0 : sX12 a0) (hf : fX12_isSuit N a0 a1 mm = some res) : Met l yX12_isSuit (WS yX12_isSuit cX12_isSuit 2 (some .boolean)) (rmX12_isSuit) (va_Pc [.ref (ad a0), .int a1] (WB D ca ad mm)) (QI D ca ad res) 0 0 (AA ad) := by
  refine x_start hi (by decide) rfl (Nat.le_of_ble_eq_true rfl) (fun p e s m args below meth c ls C hW hl => ?_)
  exact wX12_isSuit_0 C ha0 hW (lv_sub hl [0, 1] rfl) hf
set_option maxRecDepth 100000 in
set_option maxHeartbeats 4000000 in
theorem wX12_of_0 (C : Cx p s m meth c args cX12_of 3 (some .int) RX12 D ca ad) {res : Int32 × Mm} {N : Nat}  {a0 : Nat} {a1 : Int32} {a2 : Int32} {mm : Mm} {H : Heap} {locs : List Loc} {ls : Array Slot} (ha0 : sX12 a0) (hW : Wd D ca ad s.heap mm H locs) (hl : lv_has ls 3 [(0, .ref (ad a0)), (1, .int a1), (2, .int a2)]) (hf : fX12_of N a0 a1 a2 mm = some res) : W p l e (rmX12_of) s m args below meth c H locs 0 0 (MQ below (QI D ca ad res) args s 0 0 (AA ad)) (F0 m 0 ls []) := by
  unfold fX12_of at hf
  refine lv_aload_n C.1 C.2.1 dX12_of_0 rfl (lv_at hl 0 rfl) ?_
  refine x_getr C hW (ha0).1 (ha0).2.1 (j := 11) rfl kX12 (by decide) rfl q_1027 dX12_of_1 ?_
  refine lv_iconst (v := 3) C.1 C.2.1 dX12_of_4 (by decide) ?_
  refine lv_iload_n C.1 C.2.1 dX12_of_5 rfl (lv_at hl 1 rfl) ?_
  refine lv_imul C.1 C.2.1 dX12_of_6 ?_
  refine lv_iload_n C.1 C.2.1 dX12_of_7 rfl (lv_at hl 2 rfl) ?_
  refine lv_iadd C.1 C.2.1 dX12_of_8 ?_
  obtain ⟨g1, hf⟩ := gd_s hf
  refine x_iald C hW ha0.2.2.2.2.2.2.2.2.1 g1 dX12_of_9 ?_
  cases hf
  exact x_iret C hW dX12_of_10
set_option maxRecDepth 100000 in
set_option maxHeartbeats 4000000 in
theorem tX12_of (l : Launch) {D : va_G} {ca ad : Nat → Nat} (hi : Inj ad) {N : Nat} {a0 : Nat} {a1 : Int32} {a2 : Int32} {mm : Mm} {res : Int32 × Mm} (ha0 : sX12 a0) (hf : fX12_of N a0 a1 a2 mm = some res) : Met l yX12_of (WS yX12_of cX12_of 3 (some .int)) (rmX12_of) (va_Pc [.ref (ad a0), .int a1, .int a2] (WB D ca ad mm)) (QI D ca ad res) 0 0 (AA ad) := by
  refine x_start hi (by decide) rfl (Nat.le_of_ble_eq_true rfl) (fun p e s m args below meth c ls C hW hl => ?_)
  exact wX12_of_0 C ha0 hW (lv_sub hl [0, 1, 2] rfl) hf
end W_model21
