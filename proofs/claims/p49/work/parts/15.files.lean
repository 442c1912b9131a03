theorem dX11_refused_0 : decode cX11_refused 0 = .ok (.aload_n 0, 1) := by decide +kernel
theorem dX11_refused_1 : decode cX11_refused 1 = .ok (.iload_n 1, 1) := by decide +kernel
theorem dX11_refused_2 : decode cX11_refused 2 = .ok (.putfield 371, 3) := by decide +kernel
theorem dX11_refused_5 : decode cX11_refused 5 = .ok (.aload_n 0, 1) := by decide +kernel
theorem dX11_refused_6 : decode cX11_refused 6 = .ok (.getfield 85, 3) := by decide +kernel
theorem dX11_refused_9 : decode cX11_refused 9 = .ok (.iload_n 1, 1) := by decide +kernel
theorem dX11_refused_10 : decode cX11_refused 10 = .ok (.dup2, 1) := by decide +kernel
theorem dX11_refused_11 : decode cX11_refused 11 = .ok (.iaload, 1) := by decide +kernel
theorem dX11_refused_12 : decode cX11_refused 12 = .ok (.iconst 1, 1) := by decide +kernel
theorem dX11_refused_13 : decode cX11_refused 13 = .ok (.iadd, 1) := by decide +kernel
theorem dX11_refused_14 : decode cX11_refused 14 = .ok (.iastore, 1) := by decide +kernel
theorem dX11_refused_15 : decode cX11_refused 15 = .ok (.bipush (-3), 2) := by decide +kernel
theorem dX11_refused_17 : decode cX11_refused 17 = .ok (.ireturn, 1) := by decide +kernel
theorem dX11_rowOf_0 : decode cX11_rowOf 0 = .ok (.iload_n 1, 1) := by decide +kernel
theorem dX11_rowOf_1 : decode cX11_rowOf 1 = .ok (.ifCond .lt 9, 3) := by decide +kernel
theorem dX11_rowOf_4 : decode cX11_rowOf 4 = .ok (.iload_n 1, 1) := by decide +kernel
theorem dX11_rowOf_5 : decode cX11_rowOf 5 = .ok (.bipush 6, 2) := by decide +kernel
theorem dX11_rowOf_7 : decode cX11_rowOf 7 = .ok (.if_icmp .lt 7, 3) := by decide +kernel
theorem dX11_rowOf_10 : decode cX11_rowOf 10 = .ok (.aconst_null, 1) := by decide +kernel
theorem dX11_rowOf_11 : decode cX11_rowOf 11 = .ok (.goto 9, 3) := by decide +kernel
theorem dX11_rowOf_14 : decode cX11_rowOf 14 = .ok (.aload_n 0, 1) := by decide +kernel
theorem dX11_rowOf_15 : decode cX11_rowOf 15 = .ok (.getfield 11, 3) := by decide +kernel
theorem dX11_rowOf_18 : decode cX11_rowOf 18 = .ok (.iload_n 1, 1) := by decide +kernel
theorem dX11_rowOf_19 : decode cX11_rowOf 19 = .ok (.aaload, 1) := by decide +kernel
theorem dX11_rowOf_20 : decode cX11_rowOf 20 = .ok (.areturn, 1) := by decide +kernel
theorem dX11_row_0 : decode cX11_row 0 = .ok (.aload_n 0, 1) := by decide +kernel
theorem dX11_row_1 : decode cX11_row 1 = .ok (.iload_n 1, 1) := by decide +kernel
theorem dX11_row_2 : decode cX11_row 2 = .ok (.invokevirtual 96, 3) := by decide +kernel
theorem dX11_row_5 : decode cX11_row 5 = .ok (.astore_n 3, 1) := by decide +kernel
theorem dX11_row_6 : decode cX11_row 6 = .ok (.aload_n 3, 1) := by decide +kernel
theorem dX11_row_7 : decode cX11_row 7 = .ok (.ifnull 9, 3) := by decide +kernel
theorem dX11_row_10 : decode cX11_row 10 = .ok (.iload_n 2, 1) := by decide +kernel
theorem dX11_row_11 : decode cX11_row 11 = .ok (.bipush 40, 2) := by decide +kernel
theorem dX11_row_13 : decode cX11_row 13 = .ok (.if_icmp .le 5, 3) := by decide +kernel
theorem dX11_row_16 : decode cX11_row 16 = .ok (.iconst (-1), 1) := by decide +kernel
theorem dX11_row_17 : decode cX11_row 17 = .ok (.ireturn, 1) := by decide +kernel
theorem dX11_row_18 : decode cX11_row 18 = .ok (.iload_n 2, 1) := by decide +kernel
theorem dX11_row_19 : decode cX11_row 19 = .ok (.ifCond .ge 9, 3) := by decide +kernel
theorem dX11_row_22 : decode cX11_row 22 = .ok (.aload_n 0, 1) := by decide +kernel
theorem dX11_row_23 : decode cX11_row 23 = .ok (.iconst 5, 1) := by decide +kernel
theorem dX11_row_24 : decode cX11_row 24 = .ok (.invokevirtual 100, 3) := by decide +kernel
theorem dX11_row_27 : decode cX11_row 27 = .ok (.ireturn, 1) := by decide +kernel
theorem dX11_row_28 : decode cX11_row 28 = .ok (.aload_n 3, 1) := by decide +kernel
theorem dX11_row_29 : decode cX11_row 29 = .ok (.iload_n 2, 1) := by decide +kernel
theorem dX11_row_30 : decode cX11_row 30 = .ok (.iconst 0, 1) := by decide +kernel
theorem dX11_row_31 : decode cX11_row 31 = .ok (.invokevirtual 104, 3) := by decide +kernel
theorem dX11_row_34 : decode cX11_row 34 = .ok (.iload_n 2, 1) := by decide +kernel
theorem dX11_row_35 : decode cX11_row 35 = .ok (.ireturn, 1) := by decide +kernel
theorem dX11_told_0 : decode cX11_told 0 = .ok (.aload_n 0, 1) := by decide +kernel
theorem dX11_told_1 : decode cX11_told 1 = .ok (.iload_n 1, 1) := by decide +kernel
theorem dX11_told_2 : decode cX11_told 2 = .ok (.putfield 217, 3) := by decide +kernel
theorem dX11_told_5 : decode cX11_told 5 = .ok (.iconst 1, 1) := by decide +kernel
theorem dX11_told_6 : decode cX11_told 6 = .ok (.ireturn, 1) := by decide +kernel
theorem dX11_lay_0 : decode cX11_lay 0 = .ok (.aload_n 0, 1) := by decide +kernel
theorem dX11_lay_1 : decode cX11_lay 1 = .ok (.iload_n 1, 1) := by decide +kernel
theorem dX11_lay_2 : decode cX11_lay 2 = .ok (.invokevirtual 96, 3) := by decide +kernel
theorem dX11_lay_5 : decode cX11_lay 5 = .ok (.astore 4, 2) := by decide +kernel
theorem dX11_lay_7 : decode cX11_lay 7 = .ok (.aload 4, 2) := by decide +kernel
theorem dX11_lay_9 : decode cX11_lay 9 = .ok (.ifnonnull 5, 3) := by decide +kernel
theorem dX11_lay_12 : decode cX11_lay 12 = .ok (.iconst (-1), 1) := by decide +kernel
theorem dX11_lay_13 : decode cX11_lay 13 = .ok (.ireturn, 1) := by decide +kernel
theorem dX11_lay_14 : decode cX11_lay 14 = .ok (.aload 4, 2) := by decide +kernel
theorem dX11_lay_16 : decode cX11_lay 16 = .ok (.invokevirtual 108, 3) := by decide +kernel
theorem dX11_lay_19 : decode cX11_lay 19 = .ok (.ifCond .eq 9, 3) := by decide +kernel
theorem dX11_lay_22 : decode cX11_lay 22 = .ok (.aload_n 0, 1) := by decide +kernel
theorem dX11_lay_23 : decode cX11_lay 23 = .ok (.iconst 1, 1) := by decide +kernel
theorem dX11_lay_24 : decode cX11_lay 24 = .ok (.invokevirtual 100, 3) := by decide +kernel
theorem dX11_lay_27 : decode cX11_lay 27 = .ok (.ireturn, 1) := by decide +kernel
theorem dX11_lay_28 : decode cX11_lay 28 = .ok (.aload 4, 2) := by decide +kernel
theorem dX11_lay_30 : decode cX11_lay 30 = .ok (.iload_n 2, 1) := by decide +kernel
theorem dX11_lay_31 : decode cX11_lay 31 = .ok (.invokevirtual 112, 3) := by decide +kernel
theorem dX11_lay_34 : decode cX11_lay 34 = .ok (.ifCond .ne 9, 3) := by decide +kernel
theorem dX11_lay_37 : decode cX11_lay 37 = .ok (.aload_n 0, 1) := by decide +kernel
theorem dX11_lay_38 : decode cX11_lay 38 = .ok (.iconst 2, 1) := by decide +kernel
theorem dX11_lay_39 : decode cX11_lay 39 = .ok (.invokevirtual 100, 3) := by decide +kernel
theorem dX11_lay_42 : decode cX11_lay 42 = .ok (.ireturn, 1) := by decide +kernel
theorem dX11_lay_43 : decode cX11_lay 43 = .ok (.aload 4, 2) := by decide +kernel
theorem dX11_lay_45 : decode cX11_lay 45 = .ok (.getfield 116, 3) := by decide +kernel
theorem dX11_lay_48 : decode cX11_lay 48 = .ok (.iload_n 2, 1) := by decide +kernel
theorem dX11_lay_49 : decode cX11_lay 49 = .ok (.iaload, 1) := by decide +kernel
theorem dX11_lay_50 : decode cX11_lay 50 = .ok (.istore 5, 2) := by decide +kernel
theorem dX11_lay_52 : decode cX11_lay 52 = .ok (.aload 4, 2) := by decide +kernel
theorem dX11_lay_54 : decode cX11_lay 54 = .ok (.getfield 116, 3) := by decide +kernel
theorem dX11_lay_57 : decode cX11_lay 57 = .ok (.iload_n 2, 1) := by decide +kernel
theorem dX11_lay_58 : decode cX11_lay 58 = .ok (.iload_n 3, 1) := by decide +kernel
theorem dX11_lay_59 : decode cX11_lay 59 = .ok (.iastore, 1) := by decide +kernel
theorem dX11_lay_60 : decode cX11_lay 60 = .ok (.aload_n 0, 1) := by decide +kernel
theorem dX11_lay_61 : decode cX11_lay 61 = .ok (.iload 5, 2) := by decide +kernel
theorem dX11_lay_63 : decode cX11_lay 63 = .ok (.invokevirtual 119, 3) := by decide +kernel
theorem dX11_lay_66 : decode cX11_lay 66 = .ok (.ireturn, 1) := by decide +kernel
theorem dX11_at_0 : decode cX11_at 0 = .ok (.aload_n 0, 1) := by decide +kernel
theorem dX11_at_1 : decode cX11_at 1 = .ok (.iload_n 1, 1) := by decide +kernel
theorem dX11_at_2 : decode cX11_at 2 = .ok (.invokevirtual 96, 3) := by decide +kernel
theorem dX11_at_5 : decode cX11_at 5 = .ok (.astore_n 3, 1) := by decide +kernel
theorem dX11_at_6 : decode cX11_at 6 = .ok (.aload_n 3, 1) := by decide +kernel
theorem dX11_at_7 : decode cX11_at 7 = .ok (.ifnonnull 5, 3) := by decide +kernel
theorem dX11_at_10 : decode cX11_at 10 = .ok (.iconst (-1), 1) := by decide +kernel
theorem dX11_at_11 : decode cX11_at 11 = .ok (.ireturn, 1) := by decide +kernel
theorem dX11_at_12 : decode cX11_at 12 = .ok (.aload_n 3, 1) := by decide +kernel
theorem dX11_at_13 : decode cX11_at 13 = .ok (.invokevirtual 108, 3) := by decide +kernel
theorem dX11_at_16 : decode cX11_at 16 = .ok (.ifCond .eq 9, 3) := by decide +kernel
theorem dX11_at_19 : decode cX11_at 19 = .ok (.aload_n 0, 1) := by decide +kernel
theorem dX11_at_20 : decode cX11_at 20 = .ok (.iconst 1, 1) := by decide +kernel
theorem dX11_at_21 : decode cX11_at 21 = .ok (.invokevirtual 100, 3) := by decide +kernel
theorem dX11_at_24 : decode cX11_at 24 = .ok (.ireturn, 1) := by decide +kernel
theorem dX11_at_25 : decode cX11_at 25 = .ok (.aload_n 3, 1) := by decide +kernel
theorem dX11_at_26 : decode cX11_at 26 = .ok (.iload_n 2, 1) := by decide +kernel
theorem dX11_at_27 : decode cX11_at 27 = .ok (.invokevirtual 112, 3) := by decide +kernel
theorem dX11_at_30 : decode cX11_at 30 = .ok (.ifCond .ne 9, 3) := by decide +kernel
theorem dX11_at_33 : decode cX11_at 33 = .ok (.aload_n 0, 1) := by decide +kernel
theorem dX11_at_34 : decode cX11_at 34 = .ok (.iconst 2, 1) := by decide +kernel
theorem dX11_at_35 : decode cX11_at 35 = .ok (.invokevirtual 100, 3) := by decide +kernel
theorem dX11_at_38 : decode cX11_at 38 = .ok (.ireturn, 1) := by decide +kernel
theorem dX11_at_39 : decode cX11_at 39 = .ok (.aload_n 0, 1) := by decide +kernel
theorem dX11_at_40 : decode cX11_at 40 = .ok (.aload_n 3, 1) := by decide +kernel
theorem dX11_at_41 : decode cX11_at 41 = .ok (.getfield 116, 3) := by decide +kernel
theorem dX11_at_44 : decode cX11_at 44 = .ok (.iload_n 2, 1) := by decide +kernel
theorem dX11_at_45 : decode cX11_at 45 = .ok (.iaload, 1) := by decide +kernel
theorem dX11_at_46 : decode cX11_at 46 = .ok (.invokevirtual 119, 3) := by decide +kernel
theorem dX11_at_49 : decode cX11_at 49 = .ok (.ireturn, 1) := by decide +kernel
theorem dX11_textOf_0 : decode cX11_textOf 0 = .ok (.iload_n 1, 1) := by decide +kernel
theorem dX11_textOf_1 : decode cX11_textOf 1 = .ok (.ifCond .lt 8, 3) := by decide +kernel
theorem dX11_textOf_4 : decode cX11_textOf 4 = .ok (.iload_n 1, 1) := by decide +kernel
theorem dX11_textOf_5 : decode cX11_textOf 5 = .ok (.iconst 4, 1) := by decide +kernel
theorem dX11_textOf_6 : decode cX11_textOf 6 = .ok (.if_icmp .lt 7, 3) := by decide +kernel
theorem dX11_textOf_9 : decode cX11_textOf 9 = .ok (.aconst_null, 1) := by decide +kernel
theorem dX11_textOf_10 : decode cX11_textOf 10 = .ok (.goto 9, 3) := by decide +kernel
theorem dX11_textOf_13 : decode cX11_textOf 13 = .ok (.aload_n 0, 1) := by decide +kernel
theorem dX11_textOf_14 : decode cX11_textOf 14 = .ok (.getfield 15, 3) := by decide +kernel
theorem dX11_textOf_17 : decode cX11_textOf 17 = .ok (.iload_n 1, 1) := by decide +kernel
theorem dX11_textOf_18 : decode cX11_textOf 18 = .ok (.aaload, 1) := by decide +kernel
theorem dX11_textOf_19 : decode cX11_textOf 19 = .ok (.areturn, 1) := by decide +kernel
theorem dX11_text_0 : decode cX11_text 0 = .ok (.aload_n 0, 1) := by decide +kernel
theorem dX11_text_1 : decode cX11_text 1 = .ok (.iload_n 1, 1) := by decide +kernel
theorem dX11_text_2 : decode cX11_text 2 = .ok (.invokevirtual 140, 3) := by decide +kernel
theorem dX11_text_5 : decode cX11_text 5 = .ok (.astore_n 3, 1) := by decide +kernel
theorem dX11_text_6 : decode cX11_text 6 = .ok (.aload_n 3, 1) := by decide +kernel
theorem dX11_text_7 : decode cX11_text 7 = .ok (.ifnull 9, 3) := by decide +kernel
theorem dX11_text_10 : decode cX11_text 10 = .ok (.iload_n 2, 1) := by decide +kernel
theorem dX11_text_11 : decode cX11_text 11 = .ok (.bipush 80, 2) := by decide +kernel
theorem dX11_text_13 : decode cX11_text 13 = .ok (.if_icmp .le 5, 3) := by decide +kernel
theorem dX11_text_16 : decode cX11_text 16 = .ok (.iconst (-1), 1) := by decide +kernel
theorem dX11_text_17 : decode cX11_text 17 = .ok (.ireturn, 1) := by decide +kernel
theorem dX11_text_18 : decode cX11_text 18 = .ok (.iload_n 2, 1) := by decide +kernel
theorem dX11_text_19 : decode cX11_text 19 = .ok (.ifCond .ge 9, 3) := by decide +kernel
theorem dX11_text_22 : decode cX11_text 22 = .ok (.aload_n 0, 1) := by decide +kernel
theorem dX11_text_23 : decode cX11_text 23 = .ok (.iconst 5, 1) := by decide +kernel
theorem dX11_text_24 : decode cX11_text 24 = .ok (.invokevirtual 100, 3) := by decide +kernel
theorem dX11_text_27 : decode cX11_text 27 = .ok (.ireturn, 1) := by decide +kernel
theorem dX11_text_28 : decode cX11_text 28 = .ok (.aload_n 3, 1) := by decide +kernel
theorem dX11_text_29 : decode cX11_text 29 = .ok (.iload_n 2, 1) := by decide +kernel
theorem dX11_text_30 : decode cX11_text 30 = .ok (.bipush 32, 2) := by decide +kernel
theorem dX11_text_32 : decode cX11_text 32 = .ok (.invokevirtual 104, 3) := by decide +kernel
theorem dX11_text_35 : decode cX11_text 35 = .ok (.iload_n 2, 1) := by decide +kernel
theorem dX11_text_36 : decode cX11_text 36 = .ok (.ireturn, 1) := by decide +kernel
theorem dX11_put_0 : decode cX11_put 0 = .ok (.aload_n 0, 1) := by decide +kernel
theorem dX11_put_1 : decode cX11_put 1 = .ok (.iload_n 1, 1) := by decide +kernel
theorem dX11_put_2 : decode cX11_put 2 = .ok (.invokevirtual 140, 3) := by decide +kernel
theorem dX11_put_5 : decode cX11_put 5 = .ok (.astore 4, 2) := by decide +kernel
theorem dX11_put_7 : decode cX11_put 7 = .ok (.aload 4, 2) := by decide +kernel
theorem dX11_put_9 : decode cX11_put 9 = .ok (.ifnonnull 5, 3) := by decide +kernel
theorem dX11_put_12 : decode cX11_put 12 = .ok (.iconst (-1), 1) := by decide +kernel
theorem dX11_put_13 : decode cX11_put 13 = .ok (.ireturn, 1) := by decide +kernel
theorem dX11_put_14 : decode cX11_put 14 = .ok (.aload 4, 2) := by decide +kernel
theorem dX11_put_16 : decode cX11_put 16 = .ok (.invokevirtual 108, 3) := by decide +kernel
theorem dX11_put_19 : decode cX11_put 19 = .ok (.ifCond .eq 9, 3) := by decide +kernel
theorem dX11_put_22 : decode cX11_put 22 = .ok (.aload_n 0, 1) := by decide +kernel
theorem dX11_put_23 : decode cX11_put 23 = .ok (.iconst 1, 1) := by decide +kernel
theorem dX11_put_24 : decode cX11_put 24 = .ok (.invokevirtual 100, 3) := by decide +kernel
theorem dX11_put_27 : decode cX11_put 27 = .ok (.ireturn, 1) := by decide +kernel
theorem dX11_put_28 : decode cX11_put 28 = .ok (.aload 4, 2) := by decide +kernel
theorem dX11_put_30 : decode cX11_put 30 = .ok (.iload_n 2, 1) := by decide +kernel
theorem dX11_put_31 : decode cX11_put 31 = .ok (.invokevirtual 112, 3) := by decide +kernel
theorem dX11_put_34 : decode cX11_put 34 = .ok (.ifCond .ne 9, 3) := by decide +kernel
theorem dX11_put_37 : decode cX11_put 37 = .ok (.aload_n 0, 1) := by decide +kernel
theorem dX11_put_38 : decode cX11_put 38 = .ok (.iconst 2, 1) := by decide +kernel
theorem dX11_put_39 : decode cX11_put 39 = .ok (.invokevirtual 100, 3) := by decide +kernel
theorem dX11_put_42 : decode cX11_put 42 = .ok (.ireturn, 1) := by decide +kernel
theorem dX11_put_43 : decode cX11_put 43 = .ok (.aload 4, 2) := by decide +kernel
theorem dX11_put_45 : decode cX11_put 45 = .ok (.getfield 116, 3) := by decide +kernel
theorem dX11_put_48 : decode cX11_put 48 = .ok (.iload_n 2, 1) := by decide +kernel
theorem dX11_put_49 : decode cX11_put 49 = .ok (.iaload, 1) := by decide +kernel
theorem dX11_put_50 : decode cX11_put 50 = .ok (.istore 5, 2) := by decide +kernel
theorem dX11_put_52 : decode cX11_put 52 = .ok (.aload 4, 2) := by decide +kernel
theorem dX11_put_54 : decode cX11_put 54 = .ok (.getfield 116, 3) := by decide +kernel
theorem dX11_put_57 : decode cX11_put 57 = .ok (.iload_n 2, 1) := by decide +kernel
theorem dX11_put_58 : decode cX11_put 58 = .ok (.iload_n 3, 1) := by decide +kernel
theorem dX11_put_59 : decode cX11_put 59 = .ok (.i2b, 1) := by decide +kernel
theorem dX11_put_60 : decode cX11_put 60 = .ok (.iastore, 1) := by decide +kernel
theorem dX11_put_61 : decode cX11_put 61 = .ok (.iload 5, 2) := by decide +kernel
theorem dX11_put_63 : decode cX11_put 63 = .ok (.sipush 1000, 3) := by decide +kernel
theorem dX11_put_66 : decode cX11_put 66 = .ok (.iadd, 1) := by decide +kernel
theorem dX11_put_67 : decode cX11_put 67 = .ok (.ireturn, 1) := by decide +kernel
theorem dX11_fault_0 : decode cX11_fault 0 = .ok (.aload_n 0, 1) := by decide +kernel
theorem dX11_fault_1 : decode cX11_fault 1 = .ok (.iload_n 1, 1) := by decide +kernel
theorem dX11_fault_2 : decode cX11_fault 2 = .ok (.invokevirtual 140, 3) := by decide +kernel
theorem dX11_fault_5 : decode cX11_fault 5 = .ok (.astore_n 2, 1) := by decide +kernel
theorem dX11_fault_6 : decode cX11_fault 6 = .ok (.aload_n 2, 1) := by decide +kernel
theorem dX11_fault_7 : decode cX11_fault 7 = .ok (.ifnonnull 5, 3) := by decide +kernel
theorem dX11_fault_10 : decode cX11_fault 10 = .ok (.iconst (-1), 1) := by decide +kernel
theorem dX11_fault_11 : decode cX11_fault 11 = .ok (.ireturn, 1) := by decide +kernel
theorem dX11_fault_12 : decode cX11_fault 12 = .ok (.aload_n 2, 1) := by decide +kernel
theorem dX11_fault_13 : decode cX11_fault 13 = .ok (.invokevirtual 108, 3) := by decide +kernel
theorem dX11_fault_16 : decode cX11_fault 16 = .ok (.ifCond .eq 9, 3) := by decide +kernel
theorem dX11_fault_19 : decode cX11_fault 19 = .ok (.aload_n 0, 1) := by decide +kernel
theorem dX11_fault_20 : decode cX11_fault 20 = .ok (.iconst 1, 1) := by decide +kernel
theorem dX11_fault_21 : decode cX11_fault 21 = .ok (.invokevirtual 100, 3) := by decide +kernel
theorem dX11_fault_24 : decode cX11_fault 24 = .ok (.ireturn, 1) := by decide +kernel
theorem dX11_fault_25 : decode cX11_fault 25 = .ok (.aload_n 0, 1) := by decide +kernel
theorem dX11_fault_26 : decode cX11_fault 26 = .ok (.getfield 32, 3) := by decide +kernel
theorem dX11_fault_29 : decode cX11_fault 29 = .ok (.aload_n 2, 1) := by decide +kernel
theorem dX11_fault_30 : decode cX11_fault 30 = .ok (.invokevirtual 143, 3) := by decide +kernel
theorem dX11_fault_33 : decode cX11_fault 33 = .ok (.ireturn, 1) := by decide +kernel
theorem dX11_court_0 : decode cX11_court 0 = .ok (.aload_n 0, 1) := by decide +kernel
theorem dX11_court_1 : decode cX11_court 1 = .ok (.iload_n 1, 1) := by decide +kernel
theorem dX11_court_2 : decode cX11_court 2 = .ok (.invokevirtual 140, 3) := by decide +kernel
theorem dX11_court_5 : decode cX11_court 5 = .ok (.astore_n 2, 1) := by decide +kernel
theorem dX11_court_6 : decode cX11_court 6 = .ok (.aload_n 2, 1) := by decide +kernel
theorem dX11_court_7 : decode cX11_court 7 = .ok (.ifnonnull 5, 3) := by decide +kernel
theorem dX11_court_10 : decode cX11_court 10 = .ok (.iconst (-1), 1) := by decide +kernel
theorem dX11_court_11 : decode cX11_court 11 = .ok (.ireturn, 1) := by decide +kernel
theorem dX11_court_12 : decode cX11_court 12 = .ok (.aload_n 2, 1) := by decide +kernel
theorem dX11_court_13 : decode cX11_court 13 = .ok (.invokevirtual 108, 3) := by decide +kernel
theorem dX11_court_16 : decode cX11_court 16 = .ok (.ifCond .eq 9, 3) := by decide +kernel
theorem dX11_court_19 : decode cX11_court 19 = .ok (.aload_n 0, 1) := by decide +kernel
theorem dX11_court_20 : decode cX11_court 20 = .ok (.iconst 1, 1) := by decide +kernel
theorem dX11_court_21 : decode cX11_court 21 = .ok (.invokevirtual 100, 3) := by decide +kernel
theorem dX11_court_24 : decode cX11_court 24 = .ok (.ireturn, 1) := by decide +kernel
theorem dX11_court_25 : decode cX11_court 25 = .ok (.aload_n 0, 1) := by decide +kernel
theorem dX11_court_26 : decode cX11_court 26 = .ok (.getfield 32, 3) := by decide +kernel
theorem dX11_court_29 : decode cX11_court 29 = .ok (.aload_n 2, 1) := by decide +kernel
theorem dX11_court_30 : decode cX11_court 30 = .ok (.invokevirtual 143, 3) := by decide +kernel
theorem dX11_court_33 : decode cX11_court 33 = .ok (.bipush (-9), 2) := by decide +kernel
theorem dX11_court_35 : decode cX11_court 35 = .ok (.if_icmp .eq 6, 3) := by decide +kernel
theorem dX11_court_38 : decode cX11_court 38 = .ok (.bipush (-4), 2) := by decide +kernel
theorem dX11_court_40 : decode cX11_court 40 = .ok (.ireturn, 1) := by decide +kernel
theorem dX11_court_41 : decode cX11_court 41 = .ok (.aload_n 0, 1) := by decide +kernel
theorem dX11_court_42 : decode cX11_court 42 = .ok (.getfield 21, 3) := by decide +kernel
theorem dX11_court_45 : decode cX11_court 45 = .ok (.aload_n 0, 1) := by decide +kernel
theorem dX11_court_46 : decode cX11_court 46 = .ok (.getfield 32, 3) := by decide +kernel
theorem dX11_court_49 : decode cX11_court 49 = .ok (.invokevirtual 147, 3) := by decide +kernel
theorem dX11_court_52 : decode cX11_court 52 = .ok (.iconst 0, 1) := by decide +kernel
theorem dX11_court_53 : decode cX11_court 53 = .ok (.istore_n 3, 1) := by decide +kernel
theorem dX11_court_54 : decode cX11_court 54 = .ok (.iload_n 3, 1) := by decide +kernel
theorem dX11_court_55 : decode cX11_court 55 = .ok (.iconst 3, 1) := by decide +kernel
theorem dX11_court_56 : decode cX11_court 56 = .ok (.if_icmp .ge 19, 3) := by decide +kernel
theorem dX11_court_59 : decode cX11_court 59 = .ok (.aload_n 0, 1) := by decide +kernel
theorem dX11_court_60 : decode cX11_court 60 = .ok (.getfield 25, 3) := by decide +kernel
theorem dX11_court_63 : decode cX11_court 63 = .ok (.iload_n 3, 1) := by decide +kernel
theorem dX11_court_64 : decode cX11_court 64 = .ok (.aaload, 1) := by decide +kernel
theorem dX11_court_65 : decode cX11_court 65 = .ok (.iconst 0, 1) := by decide +kernel
theorem dX11_court_66 : decode cX11_court 66 = .ok (.putfield 151, 3) := by decide +kernel
theorem dX11_court_69 : decode cX11_court 69 = .ok (.iinc 3 1, 3) := by decide +kernel
theorem dX11_court_72 : decode cX11_court 72 = .ok (.goto (-18), 3) := by decide +kernel
theorem dX11_court_75 : decode cX11_court 75 = .ok (.aload_n 0, 1) := by decide +kernel
theorem dX11_court_76 : decode cX11_court 76 = .ok (.getfield 74, 3) := by decide +kernel
theorem dX11_court_79 : decode cX11_court 79 = .ok (.invokevirtual 155, 3) := by decide +kernel
theorem dX11_court_82 : decode cX11_court 82 = .ok (.aload_n 0, 1) := by decide +kernel
theorem dX11_court_83 : decode cX11_court 83 = .ok (.getfield 21, 3) := by decide +kernel
theorem dX11_court_86 : decode cX11_court 86 = .ok (.getfield 158, 3) := by decide +kernel
theorem dX11_court_89 : decode cX11_court 89 = .ok (.ireturn, 1) := by decide +kernel
theorem dX11_damp_0 : decode cX11_damp 0 = .ok (.iload_n 1, 1) := by decide +kernel
theorem dX11_damp_1 : decode cX11_damp 1 = .ok (.ifCond .lt 9, 3) := by decide +kernel
theorem dX11_damp_4 : decode cX11_damp 4 = .ok (.iload_n 1, 1) := by decide +kernel
theorem dX11_damp_5 : decode cX11_damp 5 = .ok (.bipush 9, 2) := by decide +kernel
theorem dX11_damp_7 : decode cX11_damp 7 = .ok (.if_icmp .le 5, 3) := by decide +kernel
theorem dX11_damp_10 : decode cX11_damp 10 = .ok (.iconst (-1), 1) := by decide +kernel
theorem dX11_damp_11 : decode cX11_damp 11 = .ok (.ireturn, 1) := by decide +kernel
theorem dX11_damp_12 : decode cX11_damp 12 = .ok (.aload_n 0, 1) := by decide +kernel
theorem dX11_damp_13 : decode cX11_damp 13 = .ok (.getfield 21, 3) := by decide +kernel
theorem dX11_damp_16 : decode cX11_damp 16 = .ok (.getfield 181, 3) := by decide +kernel
theorem dX11_damp_19 : decode cX11_damp 19 = .ok (.istore_n 2, 1) := by decide +kernel
theorem dX11_damp_20 : decode cX11_damp 20 = .ok (.aload_n 0, 1) := by decide +kernel
theorem dX11_damp_21 : decode cX11_damp 21 = .ok (.getfield 21, 3) := by decide +kernel
theorem dX11_damp_24 : decode cX11_damp 24 = .ok (.iload_n 1, 1) := by decide +kernel
theorem dX11_damp_25 : decode cX11_damp 25 = .ok (.putfield 181, 3) := by decide +kernel
theorem dX11_damp_28 : decode cX11_damp 28 = .ok (.aload_n 0, 1) := by decide +kernel
theorem dX11_damp_29 : decode cX11_damp 29 = .ok (.getfield 74, 3) := by decide +kernel
theorem dX11_damp_32 : decode cX11_damp 32 = .ok (.invokevirtual 155, 3) := by decide +kernel
theorem dX11_damp_35 : decode cX11_damp 35 = .ok (.iload_n 2, 1) := by decide +kernel
theorem dX11_damp_36 : decode cX11_damp 36 = .ok (.ireturn, 1) := by decide +kernel
theorem dX11_isRefused_0 : decode cX11_isRefused 0 = .ok (.iload_n 1, 1) := by decide +kernel
theorem dX11_isRefused_1 : decode cX11_isRefused 1 = .ok (.ifCond .ne 7, 3) := by decide +kernel
theorem dX11_isRefused_4 : decode cX11_isRefused 4 = .ok (.iconst 1, 1) := by decide +kernel
theorem dX11_isRefused_5 : decode cX11_isRefused 5 = .ok (.goto 20, 3) := by decide +kernel
theorem dX11_isRefused_8 : decode cX11_isRefused 8 = .ok (.iload_n 2, 1) := by decide +kernel
theorem dX11_isRefused_9 : decode cX11_isRefused 9 = .ok (.ifCond .ne 7, 3) := by decide +kernel
theorem dX11_isRefused_12 : decode cX11_isRefused 12 = .ok (.iconst 5, 1) := by decide +kernel
theorem dX11_isRefused_13 : decode cX11_isRefused 13 = .ok (.goto 12, 3) := by decide +kernel
theorem dX11_isRefused_16 : decode cX11_isRefused 16 = .ok (.iload_n 3, 1) := by decide +kernel
theorem dX11_isRefused_17 : decode cX11_isRefused 17 = .ok (.ifCond .ne 7, 3) := by decide +kernel
theorem dX11_isRefused_20 : decode cX11_isRefused 20 = .ok (.iconst 3, 1) := by decide +kernel
theorem dX11_isRefused_21 : decode cX11_isRefused 21 = .ok (.goto 4, 3) := by decide +kernel
theorem dX11_isRefused_24 : decode cX11_isRefused 24 = .ok (.iconst 0, 1) := by decide +kernel
theorem dX11_isRefused_25 : decode cX11_isRefused 25 = .ok (.istore 4, 2) := by decide +kernel
theorem dX11_isRefused_27 : decode cX11_isRefused 27 = .ok (.iload 4, 2) := by decide +kernel
theorem dX11_isRefused_29 : decode cX11_isRefused 29 = .ok (.ifCond .eq 10, 3) := by decide +kernel
theorem dX11_isRefused_32 : decode cX11_isRefused 32 = .ok (.aload_n 0, 1) := by decide +kernel
theorem dX11_isRefused_33 : decode cX11_isRefused 33 = .ok (.iload 4, 2) := by decide +kernel
theorem dX11_isRefused_35 : decode cX11_isRefused 35 = .ok (.invokevirtual 100, 3) := by decide +kernel
theorem dX11_isRefused_38 : decode cX11_isRefused 38 = .ok (.pop, 1) := by decide +kernel
theorem dX11_isRefused_39 : decode cX11_isRefused 39 = .ok (.iload 4, 2) := by decide +kernel
theorem dX11_isRefused_41 : decode cX11_isRefused 41 = .ok (.ifCond .eq 7, 3) := by decide +kernel
theorem dX11_isRefused_44 : decode cX11_isRefused 44 = .ok (.iconst 1, 1) := by decide +kernel
theorem dX11_isRefused_45 : decode cX11_isRefused 45 = .ok (.goto 4, 3) := by decide +kernel
theorem dX11_isRefused_48 : decode cX11_isRefused 48 = .ok (.iconst 0, 1) := by decide +kernel
theorem dX11_isRefused_49 : decode cX11_isRefused 49 = .ok (.ireturn, 1) := by decide +kernel
theorem dX11_isWrong__0 : decode cX11_isWrong_ 0 = .ok (.aload_n 1, 1) := by decide +kernel
theorem dX11_isWrong__1 : decode cX11_isWrong_ 1 = .ok (.invokevirtual 108, 3) := by decide +kernel
theorem dX11_isWrong__4 : decode cX11_isWrong_ 4 = .ok (.ifCond .ne 14, 3) := by decide +kernel
theorem dX11_isWrong__7 : decode cX11_isWrong_ 7 = .ok (.aload_n 3, 1) := by decide +kernel
theorem dX11_isWrong__8 : decode cX11_isWrong_ 8 = .ok (.invokevirtual 108, 3) := by decide +kernel
theorem dX11_isWrong__11 : decode cX11_isWrong_ 11 = .ok (.ifCond .ne 7, 3) := by decide +kernel
theorem dX11_isWrong__14 : decode cX11_isWrong_ 14 = .ok (.iconst 1, 1) := by decide +kernel
theorem dX11_isWrong__15 : decode cX11_isWrong_ 15 = .ok (.goto 4, 3) := by decide +kernel
theorem dX11_isWrong__18 : decode cX11_isWrong_ 18 = .ok (.iconst 0, 1) := by decide +kernel
theorem dX11_isWrong__19 : decode cX11_isWrong_ 19 = .ok (.istore 5, 2) := by decide +kernel
theorem dX11_isWrong__21 : decode cX11_isWrong_ 21 = .ok (.aload_n 1, 1) := by decide +kernel
theorem dX11_isWrong__22 : decode cX11_isWrong_ 22 = .ok (.getfield 122, 3) := by decide +kernel
theorem dX11_isWrong__25 : decode cX11_isWrong_ 25 = .ok (.aload_n 0, 1) := by decide +kernel
theorem dX11_isWrong__26 : decode cX11_isWrong_ 26 = .ok (.getfield 21, 3) := by decide +kernel
theorem dX11_isWrong__29 : decode cX11_isWrong_ 29 = .ok (.getfield 158, 3) := by decide +kernel
theorem dX11_isWrong__32 : decode cX11_isWrong_ 32 = .ok (.if_icmp .ne 21, 3) := by decide +kernel
theorem dX11_isWrong__35 : decode cX11_isWrong_ 35 = .ok (.aload_n 3, 1) := by decide +kernel
theorem dX11_isWrong__36 : decode cX11_isWrong_ 36 = .ok (.getfield 122, 3) := by decide +kernel
theorem dX11_isWrong__39 : decode cX11_isWrong_ 39 = .ok (.aload_n 0, 1) := by decide +kernel
theorem dX11_isWrong__40 : decode cX11_isWrong_ 40 = .ok (.getfield 21, 3) := by decide +kernel
theorem dX11_isWrong__43 : decode cX11_isWrong_ 43 = .ok (.getfield 158, 3) := by decide +kernel
theorem dX11_isWrong__46 : decode cX11_isWrong_ 46 = .ok (.if_icmp .ne 7, 3) := by decide +kernel
theorem dX11_isWrong__49 : decode cX11_isWrong_ 49 = .ok (.iconst 1, 1) := by decide +kernel
theorem dX11_isWrong__50 : decode cX11_isWrong_ 50 = .ok (.goto 4, 3) := by decide +kernel
theorem dX11_isWrong__53 : decode cX11_isWrong_ 53 = .ok (.iconst 0, 1) := by decide +kernel
theorem dX11_isWrong__54 : decode cX11_isWrong_ 54 = .ok (.istore 6, 2) := by decide +kernel
theorem dX11_isWrong__56 : decode cX11_isWrong_ 56 = .ok (.aload_n 0, 1) := by decide +kernel
theorem dX11_isWrong__57 : decode cX11_isWrong_ 57 = .ok (.iload 5, 2) := by decide +kernel
theorem dX11_isWrong__59 : decode cX11_isWrong_ 59 = .ok (.iload 6, 2) := by decide +kernel
theorem dX11_isWrong__61 : decode cX11_isWrong_ 61 = .ok (.aload_n 0, 1) := by decide +kernel
theorem dX11_isWrong__62 : decode cX11_isWrong_ 62 = .ok (.getfield 21, 3) := by decide +kernel
theorem dX11_isWrong__65 : decode cX11_isWrong_ 65 = .ok (.aload_n 1, 1) := by decide +kernel
theorem dX11_isWrong__66 : decode cX11_isWrong_ 66 = .ok (.iload_n 2, 1) := by decide +kernel
theorem dX11_isWrong__67 : decode cX11_isWrong_ 67 = .ok (.invokevirtual 395, 3) := by decide +kernel
theorem dX11_isWrong__70 : decode cX11_isWrong_ 70 = .ok (.ifCond .eq 20, 3) := by decide +kernel
theorem dX11_isWrong__73 : decode cX11_isWrong_ 73 = .ok (.aload_n 0, 1) := by decide +kernel
theorem dX11_isWrong__74 : decode cX11_isWrong_ 74 = .ok (.getfield 21, 3) := by decide +kernel
theorem dX11_isWrong__77 : decode cX11_isWrong_ 77 = .ok (.aload_n 3, 1) := by decide +kernel
theorem dX11_isWrong__78 : decode cX11_isWrong_ 78 = .ok (.iload 4, 2) := by decide +kernel
theorem dX11_isWrong__80 : decode cX11_isWrong_ 80 = .ok (.invokevirtual 395, 3) := by decide +kernel
theorem dX11_isWrong__83 : decode cX11_isWrong_ 83 = .ok (.ifCond .eq 7, 3) := by decide +kernel
theorem dX11_isWrong__86 : decode cX11_isWrong_ 86 = .ok (.iconst 1, 1) := by decide +kernel
theorem dX11_isWrong__87 : decode cX11_isWrong_ 87 = .ok (.goto 4, 3) := by decide +kernel
theorem dX11_isWrong__90 : decode cX11_isWrong_ 90 = .ok (.iconst 0, 1) := by decide +kernel
theorem dX11_isWrong__91 : decode cX11_isWrong_ 91 = .ok (.invokevirtual 398, 3) := by decide +kernel
theorem dX11_isWrong__94 : decode cX11_isWrong_ 94 = .ok (.ireturn, 1) := by decide +kernel
theorem dX11_judge_0 : decode cX11_judge 0 = .ok (.aload_n 0, 1) := by decide +kernel
theorem dX11_judge_1 : decode cX11_judge 1 = .ok (.iload_n 1, 1) := by decide +kernel
theorem dX11_judge_2 : decode cX11_judge 2 = .ok (.invokevirtual 96, 3) := by decide +kernel
theorem dX11_judge_5 : decode cX11_judge 5 = .ok (.astore_n 3, 1) := by decide +kernel
theorem dX11_judge_6 : decode cX11_judge 6 = .ok (.aload_n 0, 1) := by decide +kernel
theorem dX11_judge_7 : decode cX11_judge 7 = .ok (.iload_n 2, 1) := by decide +kernel
theorem dX11_judge_8 : decode cX11_judge 8 = .ok (.invokevirtual 96, 3) := by decide +kernel
theorem dX11_judge_11 : decode cX11_judge 11 = .ok (.astore 4, 2) := by decide +kernel
theorem dX11_judge_13 : decode cX11_judge 13 = .ok (.aload_n 3, 1) := by decide +kernel
theorem dX11_judge_14 : decode cX11_judge 14 = .ok (.ifnull 8, 3) := by decide +kernel
theorem dX11_judge_17 : decode cX11_judge 17 = .ok (.aload 4, 2) := by decide +kernel
theorem dX11_judge_19 : decode cX11_judge 19 = .ok (.ifnonnull 5, 3) := by decide +kernel
theorem dX11_judge_22 : decode cX11_judge 22 = .ok (.iconst (-1), 1) := by decide +kernel
theorem dX11_judge_23 : decode cX11_judge 23 = .ok (.ireturn, 1) := by decide +kernel
theorem dX11_judge_24 : decode cX11_judge 24 = .ok (.aload_n 0, 1) := by decide +kernel
theorem dX11_judge_25 : decode cX11_judge 25 = .ok (.aload_n 3, 1) := by decide +kernel
theorem dX11_judge_26 : decode cX11_judge 26 = .ok (.iconst 0, 1) := by decide +kernel
theorem dX11_judge_27 : decode cX11_judge 27 = .ok (.aload 4, 2) := by decide +kernel
theorem dX11_judge_29 : decode cX11_judge 29 = .ok (.iconst 1, 1) := by decide +kernel
theorem dX11_judge_30 : decode cX11_judge 30 = .ok (.invokevirtual 202, 3) := by decide +kernel
theorem dX11_judge_33 : decode cX11_judge 33 = .ok (.ifCond .eq 6, 3) := by decide +kernel
theorem dX11_judge_36 : decode cX11_judge 36 = .ok (.bipush (-3), 2) := by decide +kernel
theorem dX11_judge_38 : decode cX11_judge 38 = .ok (.ireturn, 1) := by decide +kernel
theorem dX11_judge_39 : decode cX11_judge 39 = .ok (.aload_n 0, 1) := by decide +kernel
theorem dX11_judge_40 : decode cX11_judge 40 = .ok (.getfield 39, 3) := by decide +kernel
theorem dX11_judge_43 : decode cX11_judge 43 = .ok (.aload_n 0, 1) := by decide +kernel
theorem dX11_judge_44 : decode cX11_judge 44 = .ok (.getfield 21, 3) := by decide +kernel
theorem dX11_judge_47 : decode cX11_judge 47 = .ok (.aload_n 3, 1) := by decide +kernel
theorem dX11_judge_48 : decode cX11_judge 48 = .ok (.getfield 116, 3) := by decide +kernel
theorem dX11_judge_51 : decode cX11_judge 51 = .ok (.aload 4, 2) := by decide +kernel
theorem dX11_judge_53 : decode cX11_judge 53 = .ok (.getfield 116, 3) := by decide +kernel
theorem dX11_judge_56 : decode cX11_judge 56 = .ok (.iconst 0, 1) := by decide +kernel
theorem dX11_judge_57 : decode cX11_judge 57 = .ok (.invokevirtual 206, 3) := by decide +kernel
theorem dX11_judge_60 : decode cX11_judge 60 = .ok (.aload_n 0, 1) := by decide +kernel
theorem dX11_judge_61 : decode cX11_judge 61 = .ok (.iconst 2, 1) := by decide +kernel
theorem dX11_judge_62 : decode cX11_judge 62 = .ok (.aload_n 0, 1) := by decide +kernel
theorem dX11_judge_63 : decode cX11_judge 63 = .ok (.getfield 21, 3) := by decide +kernel
theorem dX11_judge_66 : decode cX11_judge 66 = .ok (.invokevirtual 210, 3) := by decide +kernel
theorem dX11_judge_69 : decode cX11_judge 69 = .ok (.imul, 1) := by decide +kernel
theorem dX11_judge_70 : decode cX11_judge 70 = .ok (.aload_n 0, 1) := by decide +kernel
theorem dX11_judge_71 : decode cX11_judge 71 = .ok (.getfield 39, 3) := by decide +kernel
theorem dX11_judge_74 : decode cX11_judge 74 = .ok (.getfield 214, 3) := by decide +kernel
theorem dX11_judge_77 : decode cX11_judge 77 = .ok (.isub, 1) := by decide +kernel
theorem dX11_judge_78 : decode cX11_judge 78 = .ok (.putfield 217, 3) := by decide +kernel
theorem dX11_judge_81 : decode cX11_judge 81 = .ok (.aload_n 0, 1) := by decide +kernel
theorem dX11_judge_82 : decode cX11_judge 82 = .ok (.getfield 39, 3) := by decide +kernel
theorem dX11_judge_85 : decode cX11_judge 85 = .ok (.getfield 214, 3) := by decide +kernel
theorem dX11_judge_88 : decode cX11_judge 88 = .ok (.ireturn, 1) := by decide +kernel
theorem q_321 : Cond.fieldLink RX11 371 "HeavyFiles" "latest" "I" ∈ wT := wi_t 321 (by decide +kernel) (by decide +kernel)
theorem q_320 : Cond.fieldLink RX11 85 "HeavyFiles" "found" "[I" ∈ wT := wi_t 320 (by decide +kernel) (by decide +kernel)
theorem q_308 : Cond.fieldLink RX11 11 "HeavyFiles" "rows" "[LHeavyFiles$Row;" ∈ wT := wi_t 308 (by decide +kernel) (by decide +kernel)
theorem q_364 : Cond.methodLink RX11 96 yX11_rowOf ∈ wT := wi_t 364 (by decide +kernel) (by decide +kernel)
theorem q_367 : Cond.code yX11_rowOf cX11_rowOf 2 (some (.object "HeavyFiles$Row")) ∈ wT := wi_t 367 (by decide +kernel) (by decide +kernel)
theorem q_366 : Cond.instanceMethod yX11_rowOf ∈ wT := wi_t 366 (by decide +kernel) (by decide +kernel)
theorem q_1 : Cond.initialized RX11 ∈ wT := wi_t 1 (by decide +kernel) (by decide +kernel)
theorem qs_0 : Cond.selects RX11 yX11_rowOf yX11_rowOf ∈ wT := wi_s (q := (yX11_rowOf, 17)) 0 (by decide +kernel) (by decide +kernel)
theorem q_856 : Cond.methodLink RX11 104 yX6_renew ∈ wT := wi_t 856 (by decide +kernel) (by decide +kernel)
theorem q_859 : Cond.code yX6_renew cX6_renew 3 none ∈ wT := wi_t 859 (by decide +kernel) (by decide +kernel)
theorem q_857 : Cond.instanceMethod yX6_renew ∈ wT := wi_t 857 (by decide +kernel) (by decide +kernel)
theorem q_858 : Cond.selects RX6 yX6_renew yX6_renew ∈ wT := wi_t 858 (by decide +kernel) (by decide +kernel)
theorem q_372 : Cond.methodLink RX11 100 yX11_refused ∈ wT := wi_t 372 (by decide +kernel) (by decide +kernel)
theorem q_375 : Cond.code yX11_refused cX11_refused 2 (some .int) ∈ wT := wi_t 375 (by decide +kernel) (by decide +kernel)
theorem q_374 : Cond.instanceMethod yX11_refused ∈ wT := wi_t 374 (by decide +kernel) (by decide +kernel)
theorem qs_1 : Cond.selects RX11 yX11_refused yX11_refused ∈ wT := wi_s (q := (yX11_refused, 17)) 1 (by decide +kernel) (by decide +kernel)
theorem q_322 : Cond.fieldLink RX11 217 "HeavyFiles" "asked" "I" ∈ wT := wi_t 322 (by decide +kernel) (by decide +kernel)
theorem q_368 : Cond.methodLink RX11 108 yX6_isMissing ∈ wT := wi_t 368 (by decide +kernel) (by decide +kernel)
theorem q_371 : Cond.code yX6_isMissing cX6_isMissing 1 (some .boolean) ∈ wT := wi_t 371 (by decide +kernel) (by decide +kernel)
theorem q_369 : Cond.instanceMethod yX6_isMissing ∈ wT := wi_t 369 (by decide +kernel) (by decide +kernel)
theorem q_370 : Cond.selects RX6 yX6_isMissing yX6_isMissing ∈ wT := wi_t 370 (by decide +kernel) (by decide +kernel)
theorem q_376 : Cond.methodLink RX11 112 yX6_has ∈ wT := wi_t 376 (by decide +kernel) (by decide +kernel)
theorem q_299 : Cond.fieldLink RX11 116 "HeavyFiles$Row" "places" "[I" ∈ wT := wi_t 299 (by decide +kernel) (by decide +kernel)
theorem q_380 : Cond.methodLink RX11 119 yX11_told ∈ wT := wi_t 380 (by decide +kernel) (by decide +kernel)
theorem q_383 : Cond.code yX11_told cX11_told 2 (some .int) ∈ wT := wi_t 383 (by decide +kernel) (by decide +kernel)
theorem q_382 : Cond.instanceMethod yX11_told ∈ wT := wi_t 382 (by decide +kernel) (by decide +kernel)
theorem qs_2 : Cond.selects RX11 yX11_told yX11_told ∈ wT := wi_s (q := (yX11_told, 17)) 2 (by decide +kernel) (by decide +kernel)
theorem q_309 : Cond.fieldLink RX11 15 "HeavyFiles" "texts" "[LHeavyFiles$Row;" ∈ wT := wi_t 309 (by decide +kernel) (by decide +kernel)
theorem q_852 : Cond.methodLink RX11 140 yX11_textOf ∈ wT := wi_t 852 (by decide +kernel) (by decide +kernel)
theorem q_855 : Cond.code yX11_textOf cX11_textOf 2 (some (.object "HeavyFiles$Row")) ∈ wT := wi_t 855 (by decide +kernel) (by decide +kernel)
theorem q_854 : Cond.instanceMethod yX11_textOf ∈ wT := wi_t 854 (by decide +kernel) (by decide +kernel)
theorem qs_25 : Cond.selects RX11 yX11_textOf yX11_textOf ∈ wT := wi_s (q := (yX11_textOf, 17)) 25 (by decide +kernel) (by decide +kernel)
theorem q_312 : Cond.fieldLink RX11 32 "HeavyFiles" "reader" "LHeavyFiles$Reader;" ∈ wT := wi_t 312 (by decide +kernel) (by decide +kernel)
theorem q_869 : Cond.methodLink RX11 143 yX5_read ∈ wT := wi_t 869 (by decide +kernel) (by decide +kernel)
theorem q_872 : Cond.code yX5_read cX5_read 3 (some .int) ∈ wT := wi_t 872 (by decide +kernel) (by decide +kernel)
theorem q_870 : Cond.instanceMethod yX5_read ∈ wT := wi_t 870 (by decide +kernel) (by decide +kernel)
theorem q_871 : Cond.selects RX5 yX5_read yX5_read ∈ wT := wi_t 871 (by decide +kernel) (by decide +kernel)
theorem q_318 : Cond.fieldLink RX11 74 "HeavyFiles" "turnTable" "LHeavyFiles$TurnTable;" ∈ wT := wi_t 318 (by decide +kernel) (by decide +kernel)
theorem q_388 : Cond.methodLink RX11 155 yX10_forget ∈ wT := wi_t 388 (by decide +kernel) (by decide +kernel)
theorem q_391 : Cond.code yX10_forget cX10_forget 1 none ∈ wT := wi_t 391 (by decide +kernel) (by decide +kernel)
theorem q_389 : Cond.instanceMethod yX10_forget ∈ wT := wi_t 389 (by decide +kernel) (by decide +kernel)
theorem q_390 : Cond.selects RX10 yX10_forget yX10_forget ∈ wT := wi_t 390 (by decide +kernel) (by decide +kernel)
theorem q_310 : Cond.fieldLink RX11 21 "HeavyFiles" "court" "LHeavyFiles$Court;" ∈ wT := wi_t 310 (by decide +kernel) (by decide +kernel)
theorem q_72 : Cond.fieldLink RX11 158 "HeavyFiles$Court" "size" "I" ∈ wT := wi_t 72 (by decide +kernel) (by decide +kernel)
theorem q_311 : Cond.fieldLink RX11 25 "HeavyFiles" "kept" "[LHeavyFiles$Court;" ∈ wT := wi_t 311 (by decide +kernel) (by decide +kernel)
theorem q_81 : Cond.fieldLink RX11 151 "HeavyFiles$Court" "isThere" "Z" ∈ wT := wi_t 81 (by decide +kernel) (by decide +kernel)
theorem q_905 : Cond.methodLink RX11 147 yX0_open ∈ wT := wi_t 905 (by decide +kernel) (by decide +kernel)
theorem q_908 : Cond.code yX0_open cX0_open 3 none ∈ wT := wi_t 908 (by decide +kernel) (by decide +kernel)
theorem q_906 : Cond.instanceMethod yX0_open ∈ wT := wi_t 906 (by decide +kernel) (by decide +kernel)
theorem q_907 : Cond.selects RX0 yX0_open yX0_open ∈ wT := wi_t 907 (by decide +kernel) (by decide +kernel)
theorem q_77 : Cond.fieldLink RX11 181 "HeavyFiles$Court" "damp" "I" ∈ wT := wi_t 77 (by decide +kernel) (by decide +kernel)
theorem q_412 : Cond.methodLink RX11 398 yX11_isRefused ∈ wT := wi_t 412 (by decide +kernel) (by decide +kernel)
theorem q_415 : Cond.code yX11_isRefused cX11_isRefused 5 (some .boolean) ∈ wT := wi_t 415 (by decide +kernel) (by decide +kernel)
theorem q_414 : Cond.instanceMethod yX11_isRefused ∈ wT := wi_t 414 (by decide +kernel) (by decide +kernel)
theorem qs_4 : Cond.selects RX11 yX11_isRefused yX11_isRefused ∈ wT := wi_s (q := (yX11_isRefused, 17)) 4 (by decide +kernel) (by decide +kernel)
theorem q_400 : Cond.methodLink RX11 395 yX0_allows ∈ wT := wi_t 400 (by decide +kernel) (by decide +kernel)
theorem q_403 : Cond.code yX0_allows cX0_allows 3 (some .boolean) ∈ wT := wi_t 403 (by decide +kernel) (by decide +kernel)
theorem q_401 : Cond.instanceMethod yX0_allows ∈ wT := wi_t 401 (by decide +kernel) (by decide +kernel)
theorem q_402 : Cond.selects RX0 yX0_allows yX0_allows ∈ wT := wi_t 402 (by decide +kernel) (by decide +kernel)
theorem q_302 : Cond.fieldLink RX11 122 "HeavyFiles$Row" "size" "I" ∈ wT := wi_t 302 (by decide +kernel) (by decide +kernel)
theorem q_396 : Cond.methodLink RX11 202 yX11_isWrong_ ∈ wT := wi_t 396 (by decide +kernel) (by decide +kernel)
theorem q_399 : Cond.code yX11_isWrong_ cX11_isWrong_ 7 (some .boolean) ∈ wT := wi_t 399 (by decide +kernel) (by decide +kernel)
theorem q_398 : Cond.instanceMethod yX11_isWrong_ ∈ wT := wi_t 398 (by decide +kernel) (by decide +kernel)
theorem qs_3 : Cond.selects RX11 yX11_isWrong_ yX11_isWrong_ ∈ wT := wi_s (q := (yX11_isWrong_, 17)) 3 (by decide +kernel) (by decide +kernel)
theorem q_313 : Cond.fieldLink RX11 39 "HeavyFiles" "scale" "LHeavyFiles$Scale;" ∈ wT := wi_t 313 (by decide +kernel) (by decide +kernel)
theorem q_416 : Cond.methodLink RX11 206 yX7_weigh ∈ wT := wi_t 416 (by decide +kernel) (by decide +kernel)
theorem q_457 : Cond.methodLink RX11 210 yX0_worths ∈ wT := wi_t 457 (by decide +kernel) (by decide +kernel)
theorem q_145 : Cond.fieldLink RX11 214 "HeavyFiles$Scale" "score" "I" ∈ wT := wi_t 145 (by decide +kernel) (by decide +kernel)
theorem kvX11_rowOf : KV yX11_rowOf RX11 cX11_rowOf 2 (some (.object "HeavyFiles$Row")) 1 := ⟨q_366, qs_0, q_1, q_367, rfl, by decide +kernel, by decide +kernel, by decide +kernel⟩
theorem kvX6_renew : KV yX6_renew RX6 cX6_renew 3 none 2 := ⟨q_857, q_858, q_12, q_859, rfl, by decide +kernel, by decide +kernel, by decide +kernel⟩
theorem kvX11_refused : KV yX11_refused RX11 cX11_refused 2 (some .int) 1 := ⟨q_374, qs_1, q_1, q_375, rfl, by decide +kernel, by decide +kernel, by decide +kernel⟩
theorem kvX6_isMissing : KV yX6_isMissing RX6 cX6_isMissing 1 (some .boolean) 0 := ⟨q_369, q_370, q_12, q_371, rfl, by decide +kernel, by decide +kernel, by decide +kernel⟩
theorem kvX11_told : KV yX11_told RX11 cX11_told 2 (some .int) 1 := ⟨q_382, qs_2, q_1, q_383, rfl, by decide +kernel, by decide +kernel, by decide +kernel⟩
theorem kvX11_textOf : KV yX11_textOf RX11 cX11_textOf 2 (some (.object "HeavyFiles$Row")) 1 := ⟨q_854, qs_25, q_1, q_855, rfl, by decide +kernel, by decide +kernel, by decide +kernel⟩
theorem kvX5_read : KV yX5_read RX5 cX5_read 3 (some .int) 1 := ⟨q_870, q_871, q_4, q_872, rfl, by decide +kernel, by decide +kernel, by decide +kernel⟩
theorem kvX10_forget : KV yX10_forget RX10 cX10_forget 1 none 0 := ⟨q_389, q_390, q_10, q_391, rfl, by decide +kernel, by decide +kernel, by decide +kernel⟩
theorem kvX0_open : KV yX0_open RX0 cX0_open 3 none 1 := ⟨q_906, q_907, q_2, q_908, rfl, by decide +kernel, by decide +kernel, by decide +kernel⟩
theorem kvX11_isRefused : KV yX11_isRefused RX11 cX11_isRefused 5 (some .boolean) 3 := ⟨q_414, qs_4, q_1, q_415, rfl, by decide +kernel, by decide +kernel, by decide +kernel⟩
theorem kvX0_allows : KV yX0_allows RX0 cX0_allows 3 (some .boolean) 2 := ⟨q_401, q_402, q_2, q_403, rfl, by decide +kernel, by decide +kernel, by decide +kernel⟩
theorem kvX11_isWrong_ : KV yX11_isWrong_ RX11 cX11_isWrong_ 7 (some .boolean) 4 := ⟨q_398, qs_3, q_1, q_399, rfl, by decide +kernel, by decide +kernel, by decide +kernel⟩
/-! HeavyFiles.refused(I)I -/
def fX11_refused (N : Nat)  (a0 : Nat) (a1 : Int32) (mm : Mm) : Option (Int32 × Mm) :=
  nm (wr mm a0 13 a1) fun m1 => gd (inb a1 (ln (fr a0 12))) <| gd (inb a1 (ln (fr a0 12))) <| nm (wr m1 (fr a0 12) a1.toNatClampNeg ((rd m1 (fr a0 12) a1.toNatClampNeg) + 1)) fun m4 => some ((-3), m4)
abbrev rmX11_refused : Room := { frames := 1, cells := 0, slots := 0, locals := 40 }
/-! HeavyFiles.rowOf(I)LHeavyFiles$Row; -/
def fX11_rowOf (N : Nat)  (a0 : Nat) (a1 : Int32) (mm : Mm) : Option (Option Nat × Mm) :=
  if a1 < 0 then (some (none, mm)) else (if a1 < 6 then (gd (inb a1 (ln (fr a0 0))) <| some (some (el (fr a0 0) a1.toNatClampNeg), mm)) else (some (none, mm)))
abbrev rmX11_rowOf : Room := { frames := 1, cells := 0, slots := 0, locals := 40 }
/-! HeavyFiles.row(II)I -/
def fX11_row (N : Nat)  (a0 : Nat) (a1 : Int32) (a2 : Int32) (mm : Mm) : Option (Int32 × Mm) :=
  bd2 (fX11_rowOf N a0 a1 mm) fun x1 m2 => cs x1 (some ((-1), m2)) (fun z4 => if a2 ≤ 40 then (if (0 : Int32) ≤ a2 then (bd2 (fX6_renew N z4 a2 0 m2) fun x8 m9 => some (a2, m9)) else (bd2 (fX11_refused N a0 5 m2) fun x11 m12 => some (x11, m12))) else (some ((-1), m2)))
abbrev rmX11_row : Room := { frames := 3, cells := 0, slots := 0, locals := 101 }
/-! HeavyFiles.told(I)I -/
def fX11_told (N : Nat)  (a0 : Nat) (a1 : Int32) (mm : Mm) : Option (Int32 × Mm) :=
  nm (wr mm a0 14 a1) fun m1 => some (1, m1)
abbrev rmX11_told : Room := { frames := 1, cells := 0, slots := 0, locals := 40 }
/-! HeavyFiles.lay(III)I -/
def fX11_lay (N : Nat)  (a0 : Nat) (a1 : Int32) (a2 : Int32) (a3 : Int32) (mm : Mm) : Option (Int32 × Mm) :=
  bd2 (fX11_rowOf N a0 a1 mm) fun x1 m2 => cs x1 (some ((-1), m2)) (fun z4 => bd2 (fX6_isMissing N z4 m2) fun x6 m7 => if x6 = 0 then (bd2 (fX6_has N z4 a2 m7) fun x10 m11 => if x10 = 0 then (bd2 (fX11_refused N a0 2 m11) fun x21 m22 => some (x21, m22)) else (gd (inb a2 (ln (fr z4 0))) <| nm (rd m11 (fr z4 0) a2.toNatClampNeg) fun x15 => gd (inb a2 (ln (fr z4 0))) <| nm (wr m11 (fr z4 0) a2.toNatClampNeg a3) fun m17 => bd2 (fX11_told N a0 x15 m17) fun x18 m19 => some (x18, m19))) else (bd2 (fX11_refused N a0 1 m7) fun x24 m25 => some (x24, m25)))
abbrev rmX11_lay : Room := { frames := 2, cells := 0, slots := 0, locals := 69 }
/-! HeavyFiles.at(II)I -/
def fX11_at (N : Nat)  (a0 : Nat) (a1 : Int32) (a2 : Int32) (mm : Mm) : Option (Int32 × Mm) :=
  bd2 (fX11_rowOf N a0 a1 mm) fun x1 m2 => cs x1 (some ((-1), m2)) (fun z4 => bd2 (fX6_isMissing N z4 m2) fun x6 m7 => if x6 = 0 then (bd2 (fX6_has N z4 a2 m7) fun x10 m11 => if x10 = 0 then (bd2 (fX11_refused N a0 2 m11) fun x18 m19 => some (x18, m19)) else (gd (inb a2 (ln (fr z4 0))) <| bd2 (fX11_told N a0 (rd m11 (fr z4 0) a2.toNatClampNeg) m11) fun x15 m16 => some (x15, m16))) else (bd2 (fX11_refused N a0 1 m7) fun x21 m22 => some (x21, m22)))
abbrev rmX11_at : Room := { frames := 2, cells := 0, slots := 0, locals := 69 }
/-! HeavyFiles.textOf(I)LHeavyFiles$Row; -/
def fX11_textOf (N : Nat)  (a0 : Nat) (a1 : Int32) (mm : Mm) : Option (Option Nat × Mm) :=
  if a1 < 0 then (some (none, mm)) else (if a1 < 4 then (gd (inb a1 (ln (fr a0 1))) <| some (some (el (fr a0 1) a1.toNatClampNeg), mm)) else (some (none, mm)))
abbrev rmX11_textOf : Room := { frames := 1, cells := 0, slots := 0, locals := 40 }
/-! HeavyFiles.text(II)I -/
def fX11_text (N : Nat)  (a0 : Nat) (a1 : Int32) (a2 : Int32) (mm : Mm) : Option (Int32 × Mm) :=
  bd2 (fX11_textOf N a0 a1 mm) fun x1 m2 => cs x1 (some ((-1), m2)) (fun z4 => if a2 ≤ 80 then (if (0 : Int32) ≤ a2 then (bd2 (fX6_renew N z4 a2 32 m2) fun x8 m9 => some (a2, m9)) else (bd2 (fX11_refused N a0 5 m2) fun x11 m12 => some (x11, m12))) else (some ((-1), m2)))
abbrev rmX11_text : Room := { frames := 3, cells := 0, slots := 0, locals := 101 }
/-! HeavyFiles.put(III)I -/
def fX11_put (N : Nat)  (a0 : Nat) (a1 : Int32) (a2 : Int32) (a3 : Int32) (mm : Mm) : Option (Int32 × Mm) :=
  bd2 (fX11_textOf N a0 a1 mm) fun x1 m2 => cs x1 (some ((-1), m2)) (fun z4 => bd2 (fX6_isMissing N z4 m2) fun x6 m7 => if x6 = 0 then (bd2 (fX6_has N z4 a2 m7) fun x10 m11 => if x10 = 0 then (bd2 (fX11_refused N a0 2 m11) fun x18 m19 => some (x18, m19)) else (gd (inb a2 (ln (fr z4 0))) <| nm (rd m11 (fr z4 0) a2.toNatClampNeg) fun x15 => gd (inb a2 (ln (fr z4 0))) <| nm (wr m11 (fr z4 0) a2.toNatClampNeg a3.toInt8.toInt32) fun m17 => some (x15 + 1000, m17))) else (bd2 (fX11_refused N a0 1 m7) fun x21 m22 => some (x21, m22)))
abbrev rmX11_put : Room := { frames := 2, cells := 0, slots := 0, locals := 69 }
/-! HeavyFiles.fault(I)I -/
def fX11_fault (N : Nat)  (a0 : Nat) (a1 : Int32) (mm : Mm) : Option (Int32 × Mm) :=
  bd2 (fX11_textOf N a0 a1 mm) fun x1 m2 => cs x1 (some ((-1), m2)) (fun z4 => bd2 (fX6_isMissing N z4 m2) fun x6 m7 => if x6 = 0 then (bd2 (fX5_read N (fr a0 4) z4 m7) fun x10 m11 => some (x10, m11)) else (bd2 (fX11_refused N a0 1 m7) fun x13 m14 => some (x13, m14)))
abbrev rmX11_fault : Room := { frames := 6, cells := 0, slots := 0, locals := 190 }
/-! HeavyFiles.court(I)I -/
def fX11_court_54 (N : Nat)  : Nat → Nat → Int32 → Mm → Option (Int32 × Mm)
  | 0 => fun _ _ _ => none
  | n + 1 => fun a0 a3 mm =>
    let k54 := fX11_court_54 N  n
    if (3 : Int32) ≤ a3 then (bd2 (fX10_forget N (fr a0 10) mm) fun x2 m3 => some (rd m3 (fr a0 2) 5, m3)) else (gd (inb a3 (ln (fr a0 3))) <| nm (wr mm (el (fr a0 3) a3.toNatClampNeg) 8 0) fun m6 => k54 a0 (a3 + 1) m6)
def fX11_court (N : Nat)  (a0 : Nat) (a1 : Int32) (mm : Mm) : Option (Int32 × Mm) :=
  bd2 (fX11_textOf N a0 a1 mm) fun x7 m8 => cs x7 (some ((-1), m8)) (fun z10 => bd2 (fX6_isMissing N z10 m8) fun x12 m13 => if x12 = 0 then (bd2 (fX5_read N (fr a0 4) z10 m13) fun x16 m17 => if x16 = (-9) then (bd2 (fX0_open N (fr a0 2) (fr a0 4) m17) fun x20 m21 => fX11_court_54 N N a0 0 m21) else (some ((-4), m17))) else (bd2 (fX11_refused N a0 1 m13) fun x23 m24 => some (x23, m24)))
abbrev rmX11_court : Room := { frames := 6, cells := 0, slots := 0, locals := 190 }
/-! HeavyFiles.damp(I)I -/
def fX11_damp (N : Nat)  (a0 : Nat) (a1 : Int32) (mm : Mm) : Option (Int32 × Mm) :=
  if a1 < 0 then (some ((-1), mm)) else (if a1 ≤ 9 then (nm (wr mm (fr a0 2) 6 a1) fun m3 => bd2 (fX10_forget N (fr a0 10) m3) fun x4 m5 => some (rd mm (fr a0 2) 6, m5)) else (some ((-1), mm)))
abbrev rmX11_damp : Room := { frames := 2, cells := 0, slots := 0, locals := 68 }
/-! HeavyFiles.isRefused(ZZZ)Z -/
def fX11_isRefused_39 (N : Nat)  (a4 : Int32) (mm : Mm) : Option (Int32 × Mm) :=
  if a4 = 0 then (some (0, mm)) else (some (1, mm))
def fX11_isRefused_25 (N : Nat)  (a0 : Nat) (s0 : Int32) (mm : Mm) : Option (Int32 × Mm) :=
  if s0 = 0 then (fX11_isRefused_39 N s0 mm) else (bd2 (fX11_refused N a0 s0 mm) fun x3 m4 => fX11_isRefused_39 N s0 m4)
def fX11_isRefused (N : Nat)  (a0 : Nat) (a1 : Int32) (a2 : Int32) (a3 : Int32) (mm : Mm) : Option (Int32 × Mm) :=
  if a1 = 0 then (fX11_isRefused_25 N a0 1 mm) else (if a2 = 0 then (fX11_isRefused_25 N a0 5 mm) else (if a3 = 0 then (fX11_isRefused_25 N a0 3 mm) else (fX11_isRefused_25 N a0 0 mm)))
abbrev rmX11_isRefused : Room := { frames := 2, cells := 0, slots := 0, locals := 69 }
/-! HeavyFiles.isWrong(LHeavyFiles$Row;ILHeavyFiles$Row;I)Z -/
def fX11_isWrong__91 (N : Nat)  (s0 : Nat) (s1 : Int32) (s2 : Int32) (s3 : Int32) (mm : Mm) : Option (Int32 × Mm) :=
  bd2 (fX11_isRefused N s0 s1 s2 s3 mm) fun x1 m2 => gd (zb x1) <| some (x1, m2)
def fX11_isWrong__90 (N : Nat)  (s0 : Nat) (s1 : Int32) (s2 : Int32) (mm : Mm) : Option (Int32 × Mm) :=
  fX11_isWrong__91 N s0 s1 s2 0 mm
def fX11_isWrong__54 (N : Nat)  (a0 : Nat) (a1 : Nat) (a2 : Int32) (a3 : Nat) (a4 : Int32) (a5 : Int32) (s0 : Int32) (mm : Mm) : Option (Int32 × Mm) :=
  bd2 (fX0_allows N (fr a0 2) a1 a2 mm) fun x5 m6 => if x5 = 0 then (fX11_isWrong__90 N a0 a5 s0 m6) else (bd2 (fX0_allows N (fr a0 2) a3 a4 m6) fun x9 m10 => if x9 = 0 then (fX11_isWrong__90 N a0 a5 s0 m10) else (fX11_isWrong__91 N a0 a5 s0 1 m10))
def fX11_isWrong__53 (N : Nat)  (a0 : Nat) (a1 : Nat) (a2 : Int32) (a3 : Nat) (a4 : Int32) (a5 : Int32) (mm : Mm) : Option (Int32 × Mm) :=
  fX11_isWrong__54 N a0 a1 a2 a3 a4 a5 0 mm
def fX11_isWrong__19 (N : Nat)  (a0 : Nat) (a1 : Nat) (a2 : Int32) (a3 : Nat) (a4 : Int32) (s0 : Int32) (mm : Mm) : Option (Int32 × Mm) :=
  if (rd mm a1 1) = (rd mm (fr a0 2) 5) then (if (rd mm a3 1) = (rd mm (fr a0 2) 5) then (fX11_isWrong__54 N a0 a1 a2 a3 a4 s0 1 mm) else (fX11_isWrong__53 N a0 a1 a2 a3 a4 s0 mm)) else (fX11_isWrong__53 N a0 a1 a2 a3 a4 s0 mm)
def fX11_isWrong__18 (N : Nat)  (a0 : Nat) (a1 : Nat) (a2 : Int32) (a3 : Nat) (a4 : Int32) (mm : Mm) : Option (Int32 × Mm) :=
  fX11_isWrong__19 N a0 a1 a2 a3 a4 0 mm
def fX11_isWrong_ (N : Nat)  (a0 : Nat) (a1 : Nat) (a2 : Int32) (a3 : Nat) (a4 : Int32) (mm : Mm) : Option (Int32 × Mm) :=
  bd2 (fX6_isMissing N a1 mm) fun x15 m16 => if x15 = 0 then (bd2 (fX6_isMissing N a3 m16) fun x19 m20 => if x19 = 0 then (fX11_isWrong__19 N a0 a1 a2 a3 a4 1 m20) else (fX11_isWrong__18 N a0 a1 a2 a3 a4 m20)) else (fX11_isWrong__18 N a0 a1 a2 a3 a4 m16)
abbrev rmX11_isWrong_ : Room := { frames := 3, cells := 0, slots := 0, locals := 101 }
/-! HeavyFiles.judge(II)I -/
def fX11_judge (N : Nat)  (a0 : Nat) (a1 : Int32) (a2 : Int32) (mm : Mm) : Option (Int32 × Mm) :=
  bd2 (fX11_rowOf N a0 a1 mm) fun x1 m2 => bd2 (fX11_rowOf N a0 a2 m2) fun x4 m5 => cs x1 (some ((-1), m5)) (fun z7 => cs x4 (some ((-1), m5)) (fun z9 => bd2 (fX11_isWrong_ N a0 z7 0 z9 1 m5) fun x11 m12 => if x11 = 0 then (bd2 (fX7_weigh N (fr a0 5) (fr a0 2) (fr z7 0) (fr z9 0) 0 m12) fun x15 m16 => bd2 (fX0_worths N (fr a0 2) m16) fun x18 m19 => nm (wr m19 a0 14 ((2 * x18) - (rd m19 (fr a0 5) 3))) fun m21 => some (rd m21 (fr a0 5) 3, m21)) else (some ((-3), m12))))
abbrev rmX11_judge : Room := { frames := 4, cells := 0, slots := 0, locals := 136 }
section W_files15
variable {p : Program} {l : Launch} {e : Env} {s : State} {m : MethodId} {args : Array Value} {below : List Frame} {meth : Method} {c : Code} {D : va_G} {ca ad : Nat → Nat}
set_option maxRecDepth 100000 in
set_option maxHeartbeats 4000000 in
theorem wX11_refused_0 (C : Cx p s m meth c args cX11_refused 2 (some .int) RX11 D ca ad) {res : Int32 × Mm} {N : Nat}  {a0 : Nat} {a1 : Int32} {mm : Mm} {H : Heap} {locs : List Loc} {ls : Array Slot} (ha0 : sX11 a0) (hW : Wd D ca ad s.heap mm H locs) (hl : lv_has ls 2 [(0, .ref (ad a0)), (1, .int a1)]) (hf : fX11_refused N a0 a1 mm = some res) : W p l e (rmX11_refused) s m args below meth c H locs 0 0 (MQ below (QI D ca ad res) args s 0 0 (AA ad)) (F0 m 0 ls []) := by
  unfold fX11_refused at hf
  refine lv_aload_n C.1 C.2.1 dX11_refused_0 rfl (lv_at hl 0 rfl) ?_
  refine lv_iload_n C.1 C.2.1 dX11_refused_1 rfl (lv_at hl 1 rfl) ?_
  refine x_put C hW (ha0).1 (ha0).2.1 (j := 13) (t1 := .int) rfl kX11 (by decide) rfl rfl q_321 (by decide +kernel) rfl rfl dX11_refused_2 (fun H locs hW => ?_)
  obtain ⟨m1, em1⟩ : ∃ z, z = wr mm a0 13 a1 := ⟨_, rfl⟩
  have hf := nm_s hf em1
  rw [← em1] at hW
  refine lv_aload_n C.1 C.2.1 dX11_refused_5 rfl (lv_at hl 0 rfl) ?_
  refine x_getr C hW (ha0).1 (ha0).2.1 (j := 12) rfl kX11 (by decide) rfl q_320 dX11_refused_6 ?_
  refine lv_iload_n C.1 C.2.1 dX11_refused_9 rfl (lv_at hl 1 rfl) ?_
  refine lv_dup2_11 C.1 C.2.1 dX11_refused_10 rfl rfl ?_
  obtain ⟨g2, hf⟩ := gd_s hf
  refine x_iald C hW ha0.2.2.2.2.2.2.2.2.2.2.2.2.2.2 g2 dX11_refused_11 ?_
  refine lv_iconst (v := 1) C.1 C.2.1 dX11_refused_12 (by decide) ?_
  refine lv_iadd C.1 C.2.1 dX11_refused_13 ?_
  obtain ⟨g3, hf⟩ := gd_s hf
  refine x_iast C hW ha0.2.2.2.2.2.2.2.2.2.2.2.2.2.2 g3 dX11_refused_14 (fun H locs hW => ?_)
  obtain ⟨m4, em4⟩ : ∃ z, z = wr m1 (fr a0 12) a1.toNatClampNeg ((rd m1 (fr a0 12) a1.toNatClampNeg) + 1) := ⟨_, rfl⟩
  have hf := nm_s hf em4
  rw [← em4] at hW
  refine lv_bipush (v := (-3)) C.1 C.2.1 dX11_refused_15 (by decide) ?_
  cases hf
  exact x_iret C hW dX11_refused_17
set_option maxRecDepth 100000 in
set_option maxHeartbeats 4000000 in
theorem tX11_refused (l : Launch) {D : va_G} {ca ad : Nat → Nat} (hi : Inj ad) {N : Nat} {a0 : Nat} {a1 : Int32} {mm : Mm} {res : Int32 × Mm} (ha0 : sX11 a0) (hf : fX11_refused N a0 a1 mm = some res) : Met l yX11_refused (WS yX11_refused cX11_refused 2 (some .int)) (rmX11_refused) (va_Pc [.ref (ad a0), .int a1] (WB D ca ad mm)) (QI D ca ad res) 0 0 (AA ad) := by
  refine x_start hi (by decide) rfl (Nat.le_of_ble_eq_true rfl) (fun p e s m args below meth c ls C hW hl => ?_)
  exact wX11_refused_0 C ha0 hW (lv_sub hl [0, 1] rfl) hf
set_option maxRecDepth 100000 in
set_option maxHeartbeats 4000000 in
theorem wX11_rowOf_0 (C : Cx p s m meth c args cX11_rowOf 2 (some (.object "HeavyFiles$Row")) RX11 D ca ad) {res : Option Nat × Mm} {N : Nat}  {a0 : Nat} {a1 : Int32} {mm : Mm} {H : Heap} {locs : List Loc} {ls : Array Slot} (ha0 : sX11 a0) (hW : Wd D ca ad s.heap mm H locs) (hl : lv_has ls 2 [(0, .ref (ad a0)), (1, .int a1)]) (hf : fX11_rowOf N a0 a1 mm = some res) : W p l e (rmX11_rowOf) s m args below meth c H locs 0 0 (MQ below (QR D ca ad res) args s 0 0 (AA ad)) (F0 m 0 ls []) := by
  unfold fX11_rowOf at hf
  refine lv_iload_n C.1 C.2.1 dX11_rowOf_0 rfl (lv_at hl 1 rfl) ?_
  refine lv_if_lt (tgt := 10) C.1 C.2.1 dX11_rowOf_1 (by decide) (fun c1 => ?_) (fun c1 => ?_)
  · have hf := if_t c1 hf
    refine lv_null C.1 C.2.1 dX11_rowOf_10 ?_
    refine lv_goto (tgt := 20) C.1 C.2.1 dX11_rowOf_11 (by decide) ?_
    cases hf
    exact x_aret C (Or.inl ⟨_, rfl⟩) hW dX11_rowOf_20
  · have hf := if_f c1 hf
    refine lv_iload_n C.1 C.2.1 dX11_rowOf_4 rfl (lv_at hl 1 rfl) ?_
    refine lv_bipush (v := 6) C.1 C.2.1 dX11_rowOf_5 (by decide) ?_
    refine lv_icmp_lt (tgt := 14) C.1 C.2.1 dX11_rowOf_7 (by decide) (fun c2 => ?_) (fun c2 => ?_)
    · have hf := if_t c2 hf
      refine lv_aload_n C.1 C.2.1 dX11_rowOf_14 rfl (lv_at hl 0 rfl) ?_
      refine x_getr C hW (ha0).1 (ha0).2.1 (j := 0) rfl kX11 (by decide) rfl q_308 dX11_rowOf_15 ?_
      refine lv_iload_n C.1 C.2.1 dX11_rowOf_18 rfl (lv_at hl 1 rfl) ?_
      obtain ⟨g3, hf⟩ := gd_s hf
      refine x_aald C hW (ha0.2.2.1).1 (fun _ => rfl) rfl g3 dX11_rowOf_19 ?_
      cases hf
      exact x_aret C (Or.inl ⟨_, rfl⟩) hW dX11_rowOf_20
    · have hf := if_f c2 hf
      refine lv_null C.1 C.2.1 dX11_rowOf_10 ?_
      refine lv_goto (tgt := 20) C.1 C.2.1 dX11_rowOf_11 (by decide) ?_
      cases hf
      exact x_aret C (Or.inl ⟨_, rfl⟩) hW dX11_rowOf_20
set_option maxRecDepth 100000 in
set_option maxHeartbeats 4000000 in
theorem tX11_rowOf (l : Launch) {D : va_G} {ca ad : Nat → Nat} (hi : Inj ad) {N : Nat} {a0 : Nat} {a1 : Int32} {mm : Mm} {res : Option Nat × Mm} (ha0 : sX11 a0) (hf : fX11_rowOf N a0 a1 mm = some res) : Met l yX11_rowOf (WS yX11_rowOf cX11_rowOf 2 (some (.object "HeavyFiles$Row"))) (rmX11_rowOf) (va_Pc [.ref (ad a0), .int a1] (WB D ca ad mm)) (QR D ca ad res) 0 0 (AA ad) := by
  refine x_start hi (by decide) rfl (Nat.le_of_ble_eq_true rfl) (fun p e s m args below meth c ls C hW hl => ?_)
  exact wX11_rowOf_0 C ha0 hW (lv_sub hl [0, 1] rfl) hf
theorem gX11_rowOf {N a0 : Nat} {a1 : Int32} {mm m1 : Mm} {x : Option Nat} (ha0 : sX11 a0) (hf : fX11_rowOf N a0 a1 mm = some (x, m1)) : ∀ q, x = some q → sX6 q := by
  intro q hq
  subst hq
  unfold fX11_rowOf at hf
  repeat' (split at hf)
  all_goals first
    | (cases hf; done)
    | (obtain ⟨g, hf⟩ := gd_s hf; cases hf; exact ha0.2.2.1.2 _ (inb_lt g))
set_option maxRecDepth 100000 in
set_option maxHeartbeats 4000000 in
theorem wX11_row_0 (C : Cx p s m meth c args cX11_row 4 (some .int) RX11 D ca ad) {res : Int32 × Mm} {N : Nat}  {a0 : Nat} {a1 : Int32} {a2 : Int32} {mm : Mm} {H : Heap} {locs : List Loc} {ls : Array Slot} (ha0 : sX11 a0) (hW : Wd D ca ad s.heap mm H locs) (hl : lv_has ls 4 [(0, .ref (ad a0)), (1, .int a1), (2, .int a2)]) (hf : fX11_row N a0 a1 a2 mm = some res) : W p l e (rmX11_row) s m args below meth c H locs 0 0 (MQ below (QI D ca ad res) args s 0 0 (AA ad)) (F0 m 0 ls []) := by
  unfold fX11_row at hf
  refine lv_aload_n C.1 C.2.1 dX11_row_0 rfl (lv_at hl 0 rfl) ?_
  refine lv_iload_n C.1 C.2.1 dX11_row_1 rfl (lv_at hl 1 rfl) ?_
  obtain ⟨x1, m2, r3, hf⟩ := bd2_s hf
  refine x_cr hW (x_runV C hW [.int a1] [] (ha0).1 (ha0).2.1 kX11.1 kvX11_rowOf q_364 (tX11_rowOf l C.2.2.2.2.2.2.1 ha0 r3) rfl rfl ⟨by decide, by decide⟩ rfl hl.1 rfl (Nat.le_of_ble_eq_true rfl) dX11_row_2) (fun H locs hW => ?_)
  refine x_astore_n (lv' := [(3, va_re ad x1), (0, .ref (ad a0)), (1, .int a1), (2, .int a2)]) C dX11_row_5 rfl hl (by decide) rfl (fun ls hl => ?_)
  refine x_aload_n C dX11_row_6 rfl (lv_at hl 0 rfl) ?_
  refine x_ifnull C (tgt := 16) dX11_row_7 (by decide) (fun n5 => ?_) (fun z4 n5 => ?_)
  · subst n5
    have hf := cs_n hf
    refine lv_iconst (v := (-1)) C.1 C.2.1 dX11_row_16 (by decide) ?_
    cases hf
    exact x_iret C hW dX11_row_17
  · subst n5
    have hf := cs_q hf
    refine lv_iload_n C.1 C.2.1 dX11_row_10 rfl (lv_at hl 3 rfl) ?_
    refine lv_bipush (v := 40) C.1 C.2.1 dX11_row_11 (by decide) ?_
    refine lv_icmp_le (tgt := 18) C.1 C.2.1 dX11_row_13 (by decide) (fun c6 => ?_) (fun c6 => ?_)
    · have hf := if_t c6 hf
      refine lv_iload_n C.1 C.2.1 dX11_row_18 rfl (lv_at hl 3 rfl) ?_
      refine lv_if_ge (tgt := 28) C.1 C.2.1 dX11_row_19 (by decide) (fun c7 => ?_) (fun c7 => ?_)
      · have hf := if_t c7 hf
        refine lv_aload_n C.1 C.2.1 dX11_row_28 rfl (lv_at hl 0 rfl) ?_
        refine lv_iload_n C.1 C.2.1 dX11_row_29 rfl (lv_at hl 3 rfl) ?_
        refine lv_iconst (v := 0) C.1 C.2.1 dX11_row_30 (by decide) ?_
        obtain ⟨x8, m9, r10, hf⟩ := bd2_s hf
        refine x_cv hW (x_runV C hW [.int a2, .int 0] [] (((gX11_rowOf ha0 r3) z4 rfl)).1 (((gX11_rowOf ha0 r3) z4 rfl)).2.1 kX6.1 kvX6_renew q_856 (tX6_renew l C.2.2.2.2.2.2.1 ((gX11_rowOf ha0 r3) z4 rfl) r10) rfl rfl ⟨by decide, by decide⟩ rfl hl.1 rfl (Nat.le_of_ble_eq_true rfl) dX11_row_31) (fun H locs hW => ?_)
        refine lv_iload_n C.1 C.2.1 dX11_row_34 rfl (lv_at hl 3 rfl) ?_
        cases hf
        exact x_iret C hW dX11_row_35
      · have hf := if_f c7 hf
        refine lv_aload_n C.1 C.2.1 dX11_row_22 rfl (lv_at hl 1 rfl) ?_
        refine lv_iconst (v := 5) C.1 C.2.1 dX11_row_23 (by decide) ?_
        obtain ⟨x11, m12, r13, hf⟩ := bd2_s hf
        refine x_ci hW (x_runV C hW [.int 5] [] (ha0).1 (ha0).2.1 kX11.1 kvX11_refused q_372 (tX11_refused l C.2.2.2.2.2.2.1 ha0 r13) rfl rfl ⟨by decide, by decide⟩ rfl hl.1 rfl (Nat.le_of_ble_eq_true rfl) dX11_row_24) (fun H locs hW => ?_)
        cases hf
        exact x_iret C hW dX11_row_27
    · have hf := if_f c6 hf
      refine lv_iconst (v := (-1)) C.1 C.2.1 dX11_row_16 (by decide) ?_
      cases hf
      exact x_iret C hW dX11_row_17
set_option maxRecDepth 100000 in
set_option maxHeartbeats 4000000 in
theorem tX11_row (l : Launch) {D : va_G} {ca ad : Nat → Nat} (hi : Inj ad) {N : Nat} {a0 : Nat} {a1 : Int32} {a2 : Int32} {mm : Mm} {res : Int32 × Mm} (ha0 : sX11 a0) (hf : fX11_row N a0 a1 a2 mm = some res) : Met l yX11_row (WS yX11_row cX11_row 4 (some .int)) (rmX11_row) (va_Pc [.ref (ad a0), .int a1, .int a2] (WB D ca ad mm)) (QI D ca ad res) 0 0 (AA ad) := by
  refine x_start hi (by decide) rfl (Nat.le_of_ble_eq_true rfl) (fun p e s m args below meth c ls C hW hl => ?_)
  exact wX11_row_0 C ha0 hW (lv_sub hl [0, 1, 2] rfl) hf
set_option maxRecDepth 100000 in
set_option maxHeartbeats 4000000 in
theorem wX11_told_0 (C : Cx p s m meth c args cX11_told 2 (some .int) RX11 D ca ad) {res : Int32 × Mm} {N : Nat}  {a0 : Nat} {a1 : Int32} {mm : Mm} {H : Heap} {locs : List Loc} {ls : Array Slot} (ha0 : sX11 a0) (hW : Wd D ca ad s.heap mm H locs) (hl : lv_has ls 2 [(0, .ref (ad a0)), (1, .int a1)]) (hf : fX11_told N a0 a1 mm = some res) : W p l e (rmX11_told) s m args below meth c H locs 0 0 (MQ below (QI D ca ad res) args s 0 0 (AA ad)) (F0 m 0 ls []) := by
  unfold fX11_told at hf
  refine lv_aload_n C.1 C.2.1 dX11_told_0 rfl (lv_at hl 0 rfl) ?_
  refine lv_iload_n C.1 C.2.1 dX11_told_1 rfl (lv_at hl 1 rfl) ?_
  refine x_put C hW (ha0).1 (ha0).2.1 (j := 14) (t1 := .int) rfl kX11 (by decide) rfl rfl q_322 (by decide +kernel) rfl rfl dX11_told_2 (fun H locs hW => ?_)
  obtain ⟨m1, em1⟩ : ∃ z, z = wr mm a0 14 a1 := ⟨_, rfl⟩
  have hf := nm_s hf em1
  rw [← em1] at hW
  refine lv_iconst (v := 1) C.1 C.2.1 dX11_told_5 (by decide) ?_
  cases hf
  exact x_iret C hW dX11_told_6
set_option maxRecDepth 100000 in
set_option maxHeartbeats 4000000 in
theorem tX11_told (l : Launch) {D : va_G} {ca ad : Nat → Nat} (hi : Inj ad) {N : Nat} {a0 : Nat} {a1 : Int32} {mm : Mm} {res : Int32 × Mm} (ha0 : sX11 a0) (hf : fX11_told N a0 a1 mm = some res) : Met l yX11_told (WS yX11_told cX11_told 2 (some .int)) (rmX11_told) (va_Pc [.ref (ad a0), .int a1] (WB D ca ad mm)) (QI D ca ad res) 0 0 (AA ad) := by
  refine x_start hi (by decide) rfl (Nat.le_of_ble_eq_true rfl) (fun p e s m args below meth c ls C hW hl => ?_)
  exact wX11_told_0 C ha0 hW (lv_sub hl [0, 1] rfl) hf
set_option maxRecDepth 100000 in
set_option maxHeartbeats 4000000 in
theorem wX11_lay_0 (C : Cx p s m meth c args cX11_lay 6 (some .int) RX11 D ca ad) {res : Int32 × Mm} {N : Nat}  {a0 : Nat} {a1 : Int32} {a2 : Int32} {a3 : Int32} {mm : Mm} {H : Heap} {locs : List Loc} {ls : Array Slot} (ha0 : sX11 a0) (hW : Wd D ca ad s.heap mm H locs) (hl : lv_has ls 6 [(0, .ref (ad a0)), (1, .int a1), (2, .int a2), (3, .int a3)]) (hf : fX11_lay N a0 a1 a2 a3 mm = some res) : W p l e (rmX11_lay) s m args below meth c H locs 0 0 (MQ below (QI D ca ad res) args s 0 0 (AA ad)) (F0 m 0 ls []) := by
  unfold fX11_lay at hf
  refine lv_aload_n C.1 C.2.1 dX11_lay_0 rfl (lv_at hl 0 rfl) ?_
  refine lv_iload_n C.1 C.2.1 dX11_lay_1 rfl (lv_at hl 1 rfl) ?_
  obtain ⟨x1, m2, r3, hf⟩ := bd2_s hf
  refine x_cr hW (x_runV C hW [.int a1] [] (ha0).1 (ha0).2.1 kX11.1 kvX11_rowOf q_364 (tX11_rowOf l C.2.2.2.2.2.2.1 ha0 r3) rfl rfl ⟨by decide, by decide⟩ rfl hl.1 rfl (Nat.le_of_ble_eq_true rfl) dX11_lay_2) (fun H locs hW => ?_)
  refine x_astore (lv' := [(4, va_re ad x1), (0, .ref (ad a0)), (1, .int a1), (2, .int a2), (3, .int a3)]) C dX11_lay_5 hl (by decide) rfl (fun ls hl => ?_)
  refine x_aload C dX11_lay_7 (lv_at hl 0 rfl) ?_
  refine x_ifnonnull C (tgt := 14) dX11_lay_9 (by decide) (fun n5 => ?_) (fun z4 n5 => ?_)
  · subst n5
    have hf := cs_n hf
    refine lv_iconst (v := (-1)) C.1 C.2.1 dX11_lay_12 (by decide) ?_
    cases hf
    exact x_iret C hW dX11_lay_13
  · subst n5
    have hf := cs_q hf
    refine lv_aload C.1 C.2.1 dX11_lay_14 (lv_at hl 0 rfl) ?_
    obtain ⟨x6, m7, r8, hf⟩ := bd2_s hf
    refine x_ci hW (x_runV C hW [] [] (((gX11_rowOf ha0 r3) z4 rfl)).1 (((gX11_rowOf ha0 r3) z4 rfl)).2.1 kX6.1 kvX6_isMissing q_368 (tX6_isMissing l C.2.2.2.2.2.2.1 ((gX11_rowOf ha0 r3) z4 rfl) r8) rfl rfl ⟨by decide, by decide⟩ rfl hl.1 rfl (Nat.le_of_ble_eq_true rfl) dX11_lay_16) (fun H locs hW => ?_)
    refine lv_if_eq (tgt := 28) C.1 C.2.1 dX11_lay_19 (by decide) (fun c9 => ?_) (fun c9 => ?_)
    · have hf := if_t c9 hf
      refine lv_aload C.1 C.2.1 dX11_lay_28 (lv_at hl 0 rfl) ?_
      refine lv_iload_n C.1 C.2.1 dX11_lay_30 rfl (lv_at hl 3 rfl) ?_
      obtain ⟨x10, m11, r12, hf⟩ := bd2_s hf
      refine x_ci hW (x_runV C hW [.int a2] [] (((gX11_rowOf ha0 r3) z4 rfl)).1 (((gX11_rowOf ha0 r3) z4 rfl)).2.1 kX6.1 kvX6_has q_376 (tX6_has l C.2.2.2.2.2.2.1 ((gX11_rowOf ha0 r3) z4 rfl) r12) rfl rfl ⟨by decide, by decide⟩ rfl hl.1 rfl (Nat.le_of_ble_eq_true rfl) dX11_lay_31) (fun H locs hW => ?_)
      refine lv_if_ne (tgt := 43) C.1 C.2.1 dX11_lay_34 (by decide) (fun c13 => ?_) (fun c13 => ?_)
      · have hf := if_f c13 hf
        refine lv_aload C.1 C.2.1 dX11_lay_43 (lv_at hl 0 rfl) ?_
        refine x_getr C hW (((gX11_rowOf ha0 r3) z4 rfl)).1 (((gX11_rowOf ha0 r3) z4 rfl)).2.1 (j := 0) rfl kX6 (by decide) rfl q_299 dX11_lay_45 ?_
        refine lv_iload_n C.1 C.2.1 dX11_lay_48 rfl (lv_at hl 3 rfl) ?_
        obtain ⟨g14, hf⟩ := gd_s hf
        refine x_iald C hW (((gX11_rowOf ha0 r3) z4 rfl).2.2) g14 dX11_lay_49 ?_
        refine lv_topi (fun x15 ex15 => ?_)
        have hf := nm_s hf ex15
        refine lv_istore (lv' := [(5, .int x15), (4, .ref (ad z4)), (0, .ref (ad a0)), (1, .int a1), (2, .int a2), (3, .int a3)]) C.1 C.2.1 dX11_lay_50 hl (by decide) rfl (fun ls hl => ?_)
        refine lv_aload C.1 C.2.1 dX11_lay_52 (lv_at hl 1 rfl) ?_
        refine x_getr C hW (((gX11_rowOf ha0 r3) z4 rfl)).1 (((gX11_rowOf ha0 r3) z4 rfl)).2.1 (j := 0) rfl kX6 (by decide) rfl q_299 dX11_lay_54 ?_
        refine lv_iload_n C.1 C.2.1 dX11_lay_57 rfl (lv_at hl 4 rfl) ?_
        refine lv_iload_n C.1 C.2.1 dX11_lay_58 rfl (lv_at hl 5 rfl) ?_
        obtain ⟨g16, hf⟩ := gd_s hf
        refine x_iast C hW (((gX11_rowOf ha0 r3) z4 rfl).2.2) g16 dX11_lay_59 (fun H locs hW => ?_)
        obtain ⟨m17, em17⟩ : ∃ z, z = wr m11 (fr z4 0) a2.toNatClampNeg a3 := ⟨_, rfl⟩
        have hf := nm_s hf em17
        rw [← em17] at hW
        refine lv_aload_n C.1 C.2.1 dX11_lay_60 rfl (lv_at hl 2 rfl) ?_
        refine lv_iload C.1 C.2.1 dX11_lay_61 (lv_at hl 0 rfl) ?_
        obtain ⟨x18, m19, r20, hf⟩ := bd2_s hf
        refine x_ci hW (x_runV C hW [.int x15] [] (ha0).1 (ha0).2.1 kX11.1 kvX11_told q_380 (tX11_told l C.2.2.2.2.2.2.1 ha0 r20) rfl rfl ⟨by decide, by decide⟩ rfl hl.1 rfl (Nat.le_of_ble_eq_true rfl) dX11_lay_63) (fun H locs hW => ?_)
        cases hf
        exact x_iret C hW dX11_lay_66
      · have hf := if_t c13 hf
        refine lv_aload_n C.1 C.2.1 dX11_lay_37 rfl (lv_at hl 1 rfl) ?_
        refine lv_iconst (v := 2) C.1 C.2.1 dX11_lay_38 (by decide) ?_
        obtain ⟨x21, m22, r23, hf⟩ := bd2_s hf
        refine x_ci hW (x_runV C hW [.int 2] [] (ha0).1 (ha0).2.1 kX11.1 kvX11_refused q_372 (tX11_refused l C.2.2.2.2.2.2.1 ha0 r23) rfl rfl ⟨by decide, by decide⟩ rfl hl.1 rfl (Nat.le_of_ble_eq_true rfl) dX11_lay_39) (fun H locs hW => ?_)
        cases hf
        exact x_iret C hW dX11_lay_42
    · have hf := if_f c9 hf
      refine lv_aload_n C.1 C.2.1 dX11_lay_22 rfl (lv_at hl 1 rfl) ?_
      refine lv_iconst (v := 1) C.1 C.2.1 dX11_lay_23 (by decide) ?_
      obtain ⟨x24, m25, r26, hf⟩ := bd2_s hf
      refine x_ci hW (x_runV C hW [.int 1] [] (ha0).1 (ha0).2.1 kX11.1 kvX11_refused q_372 (tX11_refused l C.2.2.2.2.2.2.1 ha0 r26) rfl rfl ⟨by decide, by decide⟩ rfl hl.1 rfl (Nat.le_of_ble_eq_true rfl) dX11_lay_24) (fun H locs hW => ?_)
      cases hf
      exact x_iret C hW dX11_lay_27
set_option maxRecDepth 100000 in
set_option maxHeartbeats 4000000 in
theorem tX11_lay (l : Launch) {D : va_G} {ca ad : Nat → Nat} (hi : Inj ad) {N : Nat} {a0 : Nat} {a1 : Int32} {a2 : Int32} {a3 : Int32} {mm : Mm} {res : Int32 × Mm} (ha0 : sX11 a0) (hf : fX11_lay N a0 a1 a2 a3 mm = some res) : Met l yX11_lay (WS yX11_lay cX11_lay 6 (some .int)) (rmX11_lay) (va_Pc [.ref (ad a0), .int a1, .int a2, .int a3] (WB D ca ad mm)) (QI D ca ad res) 0 0 (AA ad) := by
  refine x_start hi (by decide) rfl (Nat.le_of_ble_eq_true rfl) (fun p e s m args below meth c ls C hW hl => ?_)
  exact wX11_lay_0 C ha0 hW (lv_sub hl [0, 1, 2, 3] rfl) hf
set_option maxRecDepth 100000 in
set_option maxHeartbeats 4000000 in
theorem wX11_at_0 (C : Cx p s m meth c args cX11_at 4 (some .int) RX11 D ca ad) {res : Int32 × Mm} {N : Nat}  {a0 : Nat} {a1 : Int32} {a2 : Int32} {mm : Mm} {H : Heap} {locs : List Loc} {ls : Array Slot} (ha0 : sX11 a0) (hW : Wd D ca ad s.heap mm H locs) (hl : lv_has ls 4 [(0, .ref (ad a0)), (1, .int a1), (2, .int a2)]) (hf : fX11_at N a0 a1 a2 mm = some res) : W p l e (rmX11_at) s m args below meth c H locs 0 0 (MQ below (QI D ca ad res) args s 0 0 (AA ad)) (F0 m 0 ls []) := by
  unfold fX11_at at hf
  refine lv_aload_n C.1 C.2.1 dX11_at_0 rfl (lv_at hl 0 rfl) ?_
  refine lv_iload_n C.1 C.2.1 dX11_at_1 rfl (lv_at hl 1 rfl) ?_
  obtain ⟨x1, m2, r3, hf⟩ := bd2_s hf
  refine x_cr hW (x_runV C hW [.int a1] [] (ha0).1 (ha0).2.1 kX11.1 kvX11_rowOf q_364 (tX11_rowOf l C.2.2.2.2.2.2.1 ha0 r3) rfl rfl ⟨by decide, by decide⟩ rfl hl.1 rfl (Nat.le_of_ble_eq_true rfl) dX11_at_2) (fun H locs hW => ?_)
  refine x_astore_n (lv' := [(3, va_re ad x1), (0, .ref (ad a0)), (1, .int a1), (2, .int a2)]) C dX11_at_5 rfl hl (by decide) rfl (fun ls hl => ?_)
  refine x_aload_n C dX11_at_6 rfl (lv_at hl 0 rfl) ?_
  refine x_ifnonnull C (tgt := 12) dX11_at_7 (by decide) (fun n5 => ?_) (fun z4 n5 => ?_)
  · subst n5
    have hf := cs_n hf
    refine lv_iconst (v := (-1)) C.1 C.2.1 dX11_at_10 (by decide) ?_
    cases hf
    exact x_iret C hW dX11_at_11
  · subst n5
    have hf := cs_q hf
    refine lv_aload_n C.1 C.2.1 dX11_at_12 rfl (lv_at hl 0 rfl) ?_
    obtain ⟨x6, m7, r8, hf⟩ := bd2_s hf
    refine x_ci hW (x_runV C hW [] [] (((gX11_rowOf ha0 r3) z4 rfl)).1 (((gX11_rowOf ha0 r3) z4 rfl)).2.1 kX6.1 kvX6_isMissing q_368 (tX6_isMissing l C.2.2.2.2.2.2.1 ((gX11_rowOf ha0 r3) z4 rfl) r8) rfl rfl ⟨by decide, by decide⟩ rfl hl.1 rfl (Nat.le_of_ble_eq_true rfl) dX11_at_13) (fun H locs hW => ?_)
    refine lv_if_eq (tgt := 25) C.1 C.2.1 dX11_at_16 (by decide) (fun c9 => ?_) (fun c9 => ?_)
    · have hf := if_t c9 hf
      refine lv_aload_n C.1 C.2.1 dX11_at_25 rfl (lv_at hl 0 rfl) ?_
      refine lv_iload_n C.1 C.2.1 dX11_at_26 rfl (lv_at hl 3 rfl) ?_
      obtain ⟨x10, m11, r12, hf⟩ := bd2_s hf
      refine x_ci hW (x_runV C hW [.int a2] [] (((gX11_rowOf ha0 r3) z4 rfl)).1 (((gX11_rowOf ha0 r3) z4 rfl)).2.1 kX6.1 kvX6_has q_376 (tX6_has l C.2.2.2.2.2.2.1 ((gX11_rowOf ha0 r3) z4 rfl) r12) rfl rfl ⟨by decide, by decide⟩ rfl hl.1 rfl (Nat.le_of_ble_eq_true rfl) dX11_at_27) (fun H locs hW => ?_)
      refine lv_if_ne (tgt := 39) C.1 C.2.1 dX11_at_30 (by decide) (fun c13 => ?_) (fun c13 => ?_)
      · have hf := if_f c13 hf
        refine lv_aload_n C.1 C.2.1 dX11_at_39 rfl (lv_at hl 1 rfl) ?_
        refine lv_aload_n C.1 C.2.1 dX11_at_40 rfl (lv_at hl 0 rfl) ?_
        refine x_getr C hW (((gX11_rowOf ha0 r3) z4 rfl)).1 (((gX11_rowOf ha0 r3) z4 rfl)).2.1 (j := 0) rfl kX6 (by decide) rfl q_299 dX11_at_41 ?_
        refine lv_iload_n C.1 C.2.1 dX11_at_44 rfl (lv_at hl 3 rfl) ?_
        obtain ⟨g14, hf⟩ := gd_s hf
        refine x_iald C hW (((gX11_rowOf ha0 r3) z4 rfl).2.2) g14 dX11_at_45 ?_
        obtain ⟨x15, m16, r17, hf⟩ := bd2_s hf
        refine x_ci hW (x_runV C hW [.int (rd m11 (fr z4 0) a2.toNatClampNeg)] [] (ha0).1 (ha0).2.1 kX11.1 kvX11_told q_380 (tX11_told l C.2.2.2.2.2.2.1 ha0 r17) rfl rfl ⟨by decide, by decide⟩ rfl hl.1 rfl (Nat.le_of_ble_eq_true rfl) dX11_at_46) (fun H locs hW => ?_)
        cases hf
        exact x_iret C hW dX11_at_49
      · have hf := if_t c13 hf
        refine lv_aload_n C.1 C.2.1 dX11_at_33 rfl (lv_at hl 1 rfl) ?_
        refine lv_iconst (v := 2) C.1 C.2.1 dX11_at_34 (by decide) ?_
        obtain ⟨x18, m19, r20, hf⟩ := bd2_s hf
        refine x_ci hW (x_runV C hW [.int 2] [] (ha0).1 (ha0).2.1 kX11.1 kvX11_refused q_372 (tX11_refused l C.2.2.2.2.2.2.1 ha0 r20) rfl rfl ⟨by decide, by decide⟩ rfl hl.1 rfl (Nat.le_of_ble_eq_true rfl) dX11_at_35) (fun H locs hW => ?_)
        cases hf
        exact x_iret C hW dX11_at_38
    · have hf := if_f c9 hf
      refine lv_aload_n C.1 C.2.1 dX11_at_19 rfl (lv_at hl 1 rfl) ?_
      refine lv_iconst (v := 1) C.1 C.2.1 dX11_at_20 (by decide) ?_
      obtain ⟨x21, m22, r23, hf⟩ := bd2_s hf
      refine x_ci hW (x_runV C hW [.int 1] [] (ha0).1 (ha0).2.1 kX11.1 kvX11_refused q_372 (tX11_refused l C.2.2.2.2.2.2.1 ha0 r23) rfl rfl ⟨by decide, by decide⟩ rfl hl.1 rfl (Nat.le_of_ble_eq_true rfl) dX11_at_21) (fun H locs hW => ?_)
      cases hf
      exact x_iret C hW dX11_at_24
set_option maxRecDepth 100000 in
set_option maxHeartbeats 4000000 in
theorem tX11_at (l : Launch) {D : va_G} {ca ad : Nat → Nat} (hi : Inj ad) {N : Nat} {a0 : Nat} {a1 : Int32} {a2 : Int32} {mm : Mm} {res : Int32 × Mm} (ha0 : sX11 a0) (hf : fX11_at N a0 a1 a2 mm = some res) : Met l yX11_at (WS yX11_at cX11_at 4 (some .int)) (rmX11_at) (va_Pc [.ref (ad a0), .int a1, .int a2] (WB D ca ad mm)) (QI D ca ad res) 0 0 (AA ad) := by
  refine x_start hi (by decide) rfl (Nat.le_of_ble_eq_true rfl) (fun p e s m args below meth c ls C hW hl => ?_)
  exact wX11_at_0 C ha0 hW (lv_sub hl [0, 1, 2] rfl) hf
set_option maxRecDepth 100000 in
set_option maxHeartbeats 4000000 in
theorem wX11_textOf_0 (C : Cx p s m meth c args cX11_textOf 2 (some (.object "HeavyFiles$Row")) RX11 D ca ad) {res : Option Nat × Mm} {N : Nat}  {a0 : Nat} {a1 : Int32} {mm : Mm} {H : Heap} {locs : List Loc} {ls : Array Slot} (ha0 : sX11 a0) (hW : Wd D ca ad s.heap mm H locs) (hl : lv_has ls 2 [(0, .ref (ad a0)), (1, .int a1)]) (hf : fX11_textOf N a0 a1 mm = some res) : W p l e (rmX11_textOf) s m args below meth c H locs 0 0 (MQ below (QR D ca ad res) args s 0 0 (AA ad)) (F0 m 0 ls []) := by
  unfold fX11_textOf at hf
  refine lv_iload_n C.1 C.2.1 dX11_textOf_0 rfl (lv_at hl 1 rfl) ?_
  refine lv_if_lt (tgt := 9) C.1 C.2.1 dX11_textOf_1 (by decide) (fun c1 => ?_) (fun c1 => ?_)
  · have hf := if_t c1 hf
    refine lv_null C.1 C.2.1 dX11_textOf_9 ?_
    refine lv_goto (tgt := 19) C.1 C.2.1 dX11_textOf_10 (by decide) ?_
    cases hf
    exact x_aret C (Or.inl ⟨_, rfl⟩) hW dX11_textOf_19
  · have hf := if_f c1 hf
    refine lv_iload_n C.1 C.2.1 dX11_textOf_4 rfl (lv_at hl 1 rfl) ?_
    refine lv_iconst (v := 4) C.1 C.2.1 dX11_textOf_5 (by decide) ?_
    refine lv_icmp_lt (tgt := 13) C.1 C.2.1 dX11_textOf_6 (by decide) (fun c2 => ?_) (fun c2 => ?_)
    · have hf := if_t c2 hf
      refine lv_aload_n C.1 C.2.1 dX11_textOf_13 rfl (lv_at hl 0 rfl) ?_
      refine x_getr C hW (ha0).1 (ha0).2.1 (j := 1) rfl kX11 (by decide) rfl q_309 dX11_textOf_14 ?_
      refine lv_iload_n C.1 C.2.1 dX11_textOf_17 rfl (lv_at hl 1 rfl) ?_
      obtain ⟨g3, hf⟩ := gd_s hf
      refine x_aald C hW (ha0.2.2.2.1).1 (fun _ => rfl) rfl g3 dX11_textOf_18 ?_
      cases hf
      exact x_aret C (Or.inl ⟨_, rfl⟩) hW dX11_textOf_19
    · have hf := if_f c2 hf
      refine lv_null C.1 C.2.1 dX11_textOf_9 ?_
      refine lv_goto (tgt := 19) C.1 C.2.1 dX11_textOf_10 (by decide) ?_
      cases hf
      exact x_aret C (Or.inl ⟨_, rfl⟩) hW dX11_textOf_19
set_option maxRecDepth 100000 in
set_option maxHeartbeats 4000000 in
theorem tX11_textOf (l : Launch) {D : va_G} {ca ad : Nat → Nat} (hi : Inj ad) {N : Nat} {a0 : Nat} {a1 : Int32} {mm : Mm} {res : Option Nat × Mm} (ha0 : sX11 a0) (hf : fX11_textOf N a0 a1 mm = some res) : Met l yX11_textOf (WS yX11_textOf cX11_textOf 2 (some (.object "HeavyFiles$Row"))) (rmX11_textOf) (va_Pc [.ref (ad a0), .int a1] (WB D ca ad mm)) (QR D ca ad res) 0 0 (AA ad) := by
  refine x_start hi (by decide) rfl (Nat.le_of_ble_eq_true rfl) (fun p e s m args below meth c ls C hW hl => ?_)
  exact wX11_textOf_0 C ha0 hW (lv_sub hl [0, 1] rfl) hf
theorem gX11_textOf {N a0 : Nat} {a1 : Int32} {mm m1 : Mm} {x : Option Nat} (ha0 : sX11 a0) (hf : fX11_textOf N a0 a1 mm = some (x, m1)) : ∀ q, x = some q → sX6 q := by
  intro q hq
  subst hq
  unfold fX11_textOf at hf
  repeat' (split at hf)
  all_goals first
    | (cases hf; done)
    | (obtain ⟨g, hf⟩ := gd_s hf; cases hf; exact ha0.2.2.2.1.2 _ (inb_lt g))
set_option maxRecDepth 100000 in
set_option maxHeartbeats 4000000 in
theorem wX11_text_0 (C : Cx p s m meth c args cX11_text 4 (some .int) RX11 D ca ad) {res : Int32 × Mm} {N : Nat}  {a0 : Nat} {a1 : Int32} {a2 : Int32} {mm : Mm} {H : Heap} {locs : List Loc} {ls : Array Slot} (ha0 : sX11 a0) (hW : Wd D ca ad s.heap mm H locs) (hl : lv_has ls 4 [(0, .ref (ad a0)), (1, .int a1), (2, .int a2)]) (hf : fX11_text N a0 a1 a2 mm = some res) : W p l e (rmX11_text) s m args below meth c H locs 0 0 (MQ below (QI D ca ad res) args s 0 0 (AA ad)) (F0 m 0 ls []) := by
  unfold fX11_text at hf
  refine lv_aload_n C.1 C.2.1 dX11_text_0 rfl (lv_at hl 0 rfl) ?_
  refine lv_iload_n C.1 C.2.1 dX11_text_1 rfl (lv_at hl 1 rfl) ?_
  obtain ⟨x1, m2, r3, hf⟩ := bd2_s hf
  refine x_cr hW (x_runV C hW [.int a1] [] (ha0).1 (ha0).2.1 kX11.1 kvX11_textOf q_852 (tX11_textOf l C.2.2.2.2.2.2.1 ha0 r3) rfl rfl ⟨by decide, by decide⟩ rfl hl.1 rfl (Nat.le_of_ble_eq_true rfl) dX11_text_2) (fun H locs hW => ?_)
  refine x_astore_n (lv' := [(3, va_re ad x1), (0, .ref (ad a0)), (1, .int a1), (2, .int a2)]) C dX11_text_5 rfl hl (by decide) rfl (fun ls hl => ?_)
  refine x_aload_n C dX11_text_6 rfl (lv_at hl 0 rfl) ?_
  refine x_ifnull C (tgt := 16) dX11_text_7 (by decide) (fun n5 => ?_) (fun z4 n5 => ?_)
  · subst n5
    have hf := cs_n hf
    refine lv_iconst (v := (-1)) C.1 C.2.1 dX11_text_16 (by decide) ?_
    cases hf
    exact x_iret C hW dX11_text_17
  · subst n5
    have hf := cs_q hf
    refine lv_iload_n C.1 C.2.1 dX11_text_10 rfl (lv_at hl 3 rfl) ?_
    refine lv_bipush (v := 80) C.1 C.2.1 dX11_text_11 (by decide) ?_
    refine lv_icmp_le (tgt := 18) C.1 C.2.1 dX11_text_13 (by decide) (fun c6 => ?_) (fun c6 => ?_)
    · have hf := if_t c6 hf
      refine lv_iload_n C.1 C.2.1 dX11_text_18 rfl (lv_at hl 3 rfl) ?_
      refine lv_if_ge (tgt := 28) C.1 C.2.1 dX11_text_19 (by decide) (fun c7 => ?_) (fun c7 => ?_)
      · have hf := if_t c7 hf
        refine lv_aload_n C.1 C.2.1 dX11_text_28 rfl (lv_at hl 0 rfl) ?_
        refine lv_iload_n C.1 C.2.1 dX11_text_29 rfl (lv_at hl 3 rfl) ?_
        refine lv_bipush (v := 32) C.1 C.2.1 dX11_text_30 (by decide) ?_
        obtain ⟨x8, m9, r10, hf⟩ := bd2_s hf
        refine x_cv hW (x_runV C hW [.int a2, .int 32] [] (((gX11_textOf ha0 r3) z4 rfl)).1 (((gX11_textOf ha0 r3) z4 rfl)).2.1 kX6.1 kvX6_renew q_856 (tX6_renew l C.2.2.2.2.2.2.1 ((gX11_textOf ha0 r3) z4 rfl) r10) rfl rfl ⟨by decide, by decide⟩ rfl hl.1 rfl (Nat.le_of_ble_eq_true rfl) dX11_text_32) (fun H locs hW => ?_)
        refine lv_iload_n C.1 C.2.1 dX11_text_35 rfl (lv_at hl 3 rfl) ?_
        cases hf
        exact x_iret C hW dX11_text_36
      · have hf := if_f c7 hf
        refine lv_aload_n C.1 C.2.1 dX11_text_22 rfl (lv_at hl 1 rfl) ?_
        refine lv_iconst (v := 5) C.1 C.2.1 dX11_text_23 (by decide) ?_
        obtain ⟨x11, m12, r13, hf⟩ := bd2_s hf
        refine x_ci hW (x_runV C hW [.int 5] [] (ha0).1 (ha0).2.1 kX11.1 kvX11_refused q_372 (tX11_refused l C.2.2.2.2.2.2.1 ha0 r13) rfl rfl ⟨by decide, by decide⟩ rfl hl.1 rfl (Nat.le_of_ble_eq_true rfl) dX11_text_24) (fun H locs hW => ?_)
        cases hf
        exact x_iret C hW dX11_text_27
    · have hf := if_f c6 hf
      refine lv_iconst (v := (-1)) C.1 C.2.1 dX11_text_16 (by decide) ?_
      cases hf
      exact x_iret C hW dX11_text_17
set_option maxRecDepth 100000 in
set_option maxHeartbeats 4000000 in
theorem tX11_text (l : Launch) {D : va_G} {ca ad : Nat → Nat} (hi : Inj ad) {N : Nat} {a0 : Nat} {a1 : Int32} {a2 : Int32} {mm : Mm} {res : Int32 × Mm} (ha0 : sX11 a0) (hf : fX11_text N a0 a1 a2 mm = some res) : Met l yX11_text (WS yX11_text cX11_text 4 (some .int)) (rmX11_text) (va_Pc [.ref (ad a0), .int a1, .int a2] (WB D ca ad mm)) (QI D ca ad res) 0 0 (AA ad) := by
  refine x_start hi (by decide) rfl (Nat.le_of_ble_eq_true rfl) (fun p e s m args below meth c ls C hW hl => ?_)
  exact wX11_text_0 C ha0 hW (lv_sub hl [0, 1, 2] rfl) hf
set_option maxRecDepth 100000 in
set_option maxHeartbeats 4000000 in
theorem wX11_put_0 (C : Cx p s m meth c args cX11_put 6 (some .int) RX11 D ca ad) {res : Int32 × Mm} {N : Nat}  {a0 : Nat} {a1 : Int32} {a2 : Int32} {a3 : Int32} {mm : Mm} {H : Heap} {locs : List Loc} {ls : Array Slot} (ha0 : sX11 a0) (hW : Wd D ca ad s.heap mm H locs) (hl : lv_has ls 6 [(0, .ref (ad a0)), (1, .int a1), (2, .int a2), (3, .int a3)]) (hf : fX11_put N a0 a1 a2 a3 mm = some res) : W p l e (rmX11_put) s m args below meth c H locs 0 0 (MQ below (QI D ca ad res) args s 0 0 (AA ad)) (F0 m 0 ls []) := by
  unfold fX11_put at hf
  refine lv_aload_n C.1 C.2.1 dX11_put_0 rfl (lv_at hl 0 rfl) ?_
  refine lv_iload_n C.1 C.2.1 dX11_put_1 rfl (lv_at hl 1 rfl) ?_
  obtain ⟨x1, m2, r3, hf⟩ := bd2_s hf
  refine x_cr hW (x_runV C hW [.int a1] [] (ha0).1 (ha0).2.1 kX11.1 kvX11_textOf q_852 (tX11_textOf l C.2.2.2.2.2.2.1 ha0 r3) rfl rfl ⟨by decide, by decide⟩ rfl hl.1 rfl (Nat.le_of_ble_eq_true rfl) dX11_put_2) (fun H locs hW => ?_)
  refine x_astore (lv' := [(4, va_re ad x1), (0, .ref (ad a0)), (1, .int a1), (2, .int a2), (3, .int a3)]) C dX11_put_5 hl (by decide) rfl (fun ls hl => ?_)
  refine x_aload C dX11_put_7 (lv_at hl 0 rfl) ?_
  refine x_ifnonnull C (tgt := 14) dX11_put_9 (by decide) (fun n5 => ?_) (fun z4 n5 => ?_)
  · subst n5
    have hf := cs_n hf
    refine lv_iconst (v := (-1)) C.1 C.2.1 dX11_put_12 (by decide) ?_
    cases hf
    exact x_iret C hW dX11_put_13
  · subst n5
    have hf := cs_q hf
    refine lv_aload C.1 C.2.1 dX11_put_14 (lv_at hl 0 rfl) ?_
    obtain ⟨x6, m7, r8, hf⟩ := bd2_s hf
    refine x_ci hW (x_runV C hW [] [] (((gX11_textOf ha0 r3) z4 rfl)).1 (((gX11_textOf ha0 r3) z4 rfl)).2.1 kX6.1 kvX6_isMissing q_368 (tX6_isMissing l C.2.2.2.2.2.2.1 ((gX11_textOf ha0 r3) z4 rfl) r8) rfl rfl ⟨by decide, by decide⟩ rfl hl.1 rfl (Nat.le_of_ble_eq_true rfl) dX11_put_16) (fun H locs hW => ?_)
    refine lv_if_eq (tgt := 28) C.1 C.2.1 dX11_put_19 (by decide) (fun c9 => ?_) (fun c9 => ?_)
    · have hf := if_t c9 hf
      refine lv_aload C.1 C.2.1 dX11_put_28 (lv_at hl 0 rfl) ?_
      refine lv_iload_n C.1 C.2.1 dX11_put_30 rfl (lv_at hl 3 rfl) ?_
      obtain ⟨x10, m11, r12, hf⟩ := bd2_s hf
      refine x_ci hW (x_runV C hW [.int a2] [] (((gX11_textOf ha0 r3) z4 rfl)).1 (((gX11_textOf ha0 r3) z4 rfl)).2.1 kX6.1 kvX6_has q_376 (tX6_has l C.2.2.2.2.2.2.1 ((gX11_textOf ha0 r3) z4 rfl) r12) rfl rfl ⟨by decide, by decide⟩ rfl hl.1 rfl (Nat.le_of_ble_eq_true rfl) dX11_put_31) (fun H locs hW => ?_)
      refine lv_if_ne (tgt := 43) C.1 C.2.1 dX11_put_34 (by decide) (fun c13 => ?_) (fun c13 => ?_)
      · have hf := if_f c13 hf
        refine lv_aload C.1 C.2.1 dX11_put_43 (lv_at hl 0 rfl) ?_
        refine x_getr C hW (((gX11_textOf ha0 r3) z4 rfl)).1 (((gX11_textOf ha0 r3) z4 rfl)).2.1 (j := 0) rfl kX6 (by decide) rfl q_299 dX11_put_45 ?_
        refine lv_iload_n C.1 C.2.1 dX11_put_48 rfl (lv_at hl 3 rfl) ?_
        obtain ⟨g14, hf⟩ := gd_s hf
        refine x_iald C hW (((gX11_textOf ha0 r3) z4 rfl).2.2) g14 dX11_put_49 ?_
        refine lv_topi (fun x15 ex15 => ?_)
        have hf := nm_s hf ex15
        refine lv_istore (lv' := [(5, .int x15), (4, .ref (ad z4)), (0, .ref (ad a0)), (1, .int a1), (2, .int a2), (3, .int a3)]) C.1 C.2.1 dX11_put_50 hl (by decide) rfl (fun ls hl => ?_)
        refine lv_aload C.1 C.2.1 dX11_put_52 (lv_at hl 1 rfl) ?_
        refine x_getr C hW (((gX11_textOf ha0 r3) z4 rfl)).1 (((gX11_textOf ha0 r3) z4 rfl)).2.1 (j := 0) rfl kX6 (by decide) rfl q_299 dX11_put_54 ?_
        refine lv_iload_n C.1 C.2.1 dX11_put_57 rfl (lv_at hl 4 rfl) ?_
        refine lv_iload_n C.1 C.2.1 dX11_put_58 rfl (lv_at hl 5 rfl) ?_
        refine lv_i2b C.1 C.2.1 dX11_put_59 rfl ?_
        obtain ⟨g16, hf⟩ := gd_s hf
        refine x_iast C hW (((gX11_textOf ha0 r3) z4 rfl).2.2) g16 dX11_put_60 (fun H locs hW => ?_)
        obtain ⟨m17, em17⟩ : ∃ z, z = wr m11 (fr z4 0) a2.toNatClampNeg a3.toInt8.toInt32 := ⟨_, rfl⟩
        have hf := nm_s hf em17
        rw [← em17] at hW
        refine lv_iload C.1 C.2.1 dX11_put_61 (lv_at hl 0 rfl) ?_
        refine lv_sipush (v := 1000) C.1 C.2.1 dX11_put_63 (by decide) ?_
        refine lv_iadd C.1 C.2.1 dX11_put_66 ?_
        cases hf
        exact x_iret C hW dX11_put_67
      · have hf := if_t c13 hf
        refine lv_aload_n C.1 C.2.1 dX11_put_37 rfl (lv_at hl 1 rfl) ?_
        refine lv_iconst (v := 2) C.1 C.2.1 dX11_put_38 (by decide) ?_
        obtain ⟨x18, m19, r20, hf⟩ := bd2_s hf
        refine x_ci hW (x_runV C hW [.int 2] [] (ha0).1 (ha0).2.1 kX11.1 kvX11_refused q_372 (tX11_refused l C.2.2.2.2.2.2.1 ha0 r20) rfl rfl ⟨by decide, by decide⟩ rfl hl.1 rfl (Nat.le_of_ble_eq_true rfl) dX11_put_39) (fun H locs hW => ?_)
        cases hf
        exact x_iret C hW dX11_put_42
    · have hf := if_f c9 hf
      refine lv_aload_n C.1 C.2.1 dX11_put_22 rfl (lv_at hl 1 rfl) ?_
      refine lv_iconst (v := 1) C.1 C.2.1 dX11_put_23 (by decide) ?_
      obtain ⟨x21, m22, r23, hf⟩ := bd2_s hf
      refine x_ci hW (x_runV C hW [.int 1] [] (ha0).1 (ha0).2.1 kX11.1 kvX11_refused q_372 (tX11_refused l C.2.2.2.2.2.2.1 ha0 r23) rfl rfl ⟨by decide, by decide⟩ rfl hl.1 rfl (Nat.le_of_ble_eq_true rfl) dX11_put_24) (fun H locs hW => ?_)
      cases hf
      exact x_iret C hW dX11_put_27
set_option maxRecDepth 100000 in
set_option maxHeartbeats 4000000 in
theorem tX11_put (l : Launch) {D : va_G} {ca ad : Nat → Nat} (hi : Inj ad) {N : Nat} {a0 : Nat} {a1 : Int32} {a2 : Int32} {a3 : Int32} {mm : Mm} {res : Int32 × Mm} (ha0 : sX11 a0) (hf : fX11_put N a0 a1 a2 a3 mm = some res) : Met l yX11_put (WS yX11_put cX11_put 6 (some .int)) (rmX11_put) (va_Pc [.ref (ad a0), .int a1, .int a2, .int a3] (WB D ca ad mm)) (QI D ca ad res) 0 0 (AA ad) := by
  refine x_start hi (by decide) rfl (Nat.le_of_ble_eq_true rfl) (fun p e s m args below meth c ls C hW hl => ?_)
  exact wX11_put_0 C ha0 hW (lv_sub hl [0, 1, 2, 3] rfl) hf
set_option maxRecDepth 100000 in
set_option maxHeartbeats 4000000 in
theorem wX11_fault_0 (C : Cx p s m meth c args cX11_fault 3 (some .int) RX11 D ca ad) {res : Int32 × Mm} {N : Nat}  {a0 : Nat} {a1 : Int32} {mm : Mm} {H : Heap} {locs : List Loc} {ls : Array Slot} (ha0 : sX11 a0) (hW : Wd D ca ad s.heap mm H locs) (hl : lv_has ls 3 [(0, .ref (ad a0)), (1, .int a1)]) (hf : fX11_fault N a0 a1 mm = some res) : W p l e (rmX11_fault) s m args below meth c H locs 0 0 (MQ below (QI D ca ad res) args s 0 0 (AA ad)) (F0 m 0 ls []) := by
  unfold fX11_fault at hf
  refine lv_aload_n C.1 C.2.1 dX11_fault_0 rfl (lv_at hl 0 rfl) ?_
  refine lv_iload_n C.1 C.2.1 dX11_fault_1 rfl (lv_at hl 1 rfl) ?_
  obtain ⟨x1, m2, r3, hf⟩ := bd2_s hf
  refine x_cr hW (x_runV C hW [.int a1] [] (ha0).1 (ha0).2.1 kX11.1 kvX11_textOf q_852 (tX11_textOf l C.2.2.2.2.2.2.1 ha0 r3) rfl rfl ⟨by decide, by decide⟩ rfl hl.1 rfl (Nat.le_of_ble_eq_true rfl) dX11_fault_2) (fun H locs hW => ?_)
  refine x_astore_n (lv' := [(2, va_re ad x1), (0, .ref (ad a0)), (1, .int a1)]) C dX11_fault_5 rfl hl (by decide) rfl (fun ls hl => ?_)
  refine x_aload_n C dX11_fault_6 rfl (lv_at hl 0 rfl) ?_
  refine x_ifnonnull C (tgt := 12) dX11_fault_7 (by decide) (fun n5 => ?_) (fun z4 n5 => ?_)
  · subst n5
    have hf := cs_n hf
    refine lv_iconst (v := (-1)) C.1 C.2.1 dX11_fault_10 (by decide) ?_
    cases hf
    exact x_iret C hW dX11_fault_11
  · subst n5
    have hf := cs_q hf
    refine lv_aload_n C.1 C.2.1 dX11_fault_12 rfl (lv_at hl 0 rfl) ?_
    obtain ⟨x6, m7, r8, hf⟩ := bd2_s hf
    refine x_ci hW (x_runV C hW [] [] (((gX11_textOf ha0 r3) z4 rfl)).1 (((gX11_textOf ha0 r3) z4 rfl)).2.1 kX6.1 kvX6_isMissing q_368 (tX6_isMissing l C.2.2.2.2.2.2.1 ((gX11_textOf ha0 r3) z4 rfl) r8) rfl rfl ⟨by decide, by decide⟩ rfl hl.1 rfl (Nat.le_of_ble_eq_true rfl) dX11_fault_13) (fun H locs hW => ?_)
    refine lv_if_eq (tgt := 25) C.1 C.2.1 dX11_fault_16 (by decide) (fun c9 => ?_) (fun c9 => ?_)
    · have hf := if_t c9 hf
      refine lv_aload_n C.1 C.2.1 dX11_fault_25 rfl (lv_at hl 1 rfl) ?_
      refine x_getr C hW (ha0).1 (ha0).2.1 (j := 4) rfl kX11 (by decide) rfl q_312 dX11_fault_26 ?_
      refine lv_aload_n C.1 C.2.1 dX11_fault_29 rfl (lv_at hl 0 rfl) ?_
      obtain ⟨x10, m11, r12, hf⟩ := bd2_s hf
      refine x_ci hW (x_runV C hW [.ref (ad z4)] [] (ha0.2.2.2.2.2.2.1).1 (ha0.2.2.2.2.2.2.1).2.1 kX5.1 kvX5_read q_869 (tX5_read l C.2.2.2.2.2.2.1 ha0.2.2.2.2.2.2.1 ((gX11_textOf ha0 r3) z4 rfl) r12) rfl rfl ⟨by decide, by decide⟩ rfl hl.1 rfl (Nat.le_of_ble_eq_true rfl) dX11_fault_30) (fun H locs hW => ?_)
      cases hf
      exact x_iret C hW dX11_fault_33
    · have hf := if_f c9 hf
      refine lv_aload_n C.1 C.2.1 dX11_fault_19 rfl (lv_at hl 1 rfl) ?_
      refine lv_iconst (v := 1) C.1 C.2.1 dX11_fault_20 (by decide) ?_
      obtain ⟨x13, m14, r15, hf⟩ := bd2_s hf
      refine x_ci hW (x_runV C hW [.int 1] [] (ha0).1 (ha0).2.1 kX11.1 kvX11_refused q_372 (tX11_refused l C.2.2.2.2.2.2.1 ha0 r15) rfl rfl ⟨by decide, by decide⟩ rfl hl.1 rfl (Nat.le_of_ble_eq_true rfl) dX11_fault_21) (fun H locs hW => ?_)
      cases hf
      exact x_iret C hW dX11_fault_24
set_option maxRecDepth 100000 in
set_option maxHeartbeats 4000000 in
theorem tX11_fault (l : Launch) {D : va_G} {ca ad : Nat → Nat} (hi : Inj ad) {N : Nat} {a0 : Nat} {a1 : Int32} {mm : Mm} {res : Int32 × Mm} (ha0 : sX11 a0) (hf : fX11_fault N a0 a1 mm = some res) : Met l yX11_fault (WS yX11_fault cX11_fault 3 (some .int)) (rmX11_fault) (va_Pc [.ref (ad a0), .int a1] (WB D ca ad mm)) (QI D ca ad res) 0 0 (AA ad) := by
  refine x_start hi (by decide) rfl (Nat.le_of_ble_eq_true rfl) (fun p e s m args below meth c ls C hW hl => ?_)
  exact wX11_fault_0 C ha0 hW (lv_sub hl [0, 1] rfl) hf
set_option maxRecDepth 100000 in
set_option maxHeartbeats 4000000 in
theorem wX11_court_54 (C : Cx p s m meth c args cX11_court 4 (some .int) RX11 D ca ad) {res : Int32 × Mm} {N : Nat}  : ∀ (n : Nat) {a0 : Nat} {a3 : Int32} {mm : Mm} {H : Heap} {locs : List Loc} {ls : Array Slot}, (sX11 a0) → Wd D ca ad s.heap mm H locs → lv_has ls 4 [(0, .ref (ad a0)), (3, .int a3)] → fX11_court_54 N n a0 a3 mm = some res → W p l e (rmX11_court) s m args below meth c H locs 0 0 (MQ below (QI D ca ad res) args s 0 0 (AA ad)) (F0 m 54 ls []) := by
  intro n
  induction n with
  | zero => intro a0 a3 mm H locs ls ha0 hW hl hf; cases hf
  | succ n ih =>
    intro a0 a3 mm H locs ls ha0 hW hl hf
    have hk54 : ∀ (a0 : Nat) (a3 : Int32) (mm : Mm) (H : Heap) (locs : List Loc) (ls : Array Slot), (sX11 a0) → Wd D ca ad s.heap mm H locs → lv_has ls 4 [(0, .ref (ad a0)), (3, .int a3)] → (fX11_court_54 N n) a0 a3 mm = some res → W p l e (rmX11_court) s m args below meth c H locs 0 0 (MQ below (QI D ca ad res) args s 0 0 (AA ad)) (F0 m 54 ls []) := fun a0 a3 mm H locs ls ha0 hW hl hf => ih ha0 hW hl hf
    unfold fX11_court_54 at hf
    try dsimp only at hf
    refine lv_iload_n C.1 C.2.1 dX11_court_54 rfl (lv_at hl 1 rfl) ?_
    refine lv_iconst (v := 3) C.1 C.2.1 dX11_court_55 (by decide) ?_
    refine lv_icmp_ge (tgt := 75) C.1 C.2.1 dX11_court_56 (by decide) (fun c1 => ?_) (fun c1 => ?_)
    · have hf := if_t c1 hf
      refine lv_aload_n C.1 C.2.1 dX11_court_75 rfl (lv_at hl 0 rfl) ?_
      refine x_getr C hW (ha0).1 (ha0).2.1 (j := 10) rfl kX11 (by decide) rfl q_318 dX11_court_76 ?_
      obtain ⟨x2, m3, r4, hf⟩ := bd2_s hf
      refine x_cv hW (x_runV C hW [] [] (ha0.2.2.2.2.2.2.2.2.2.2.2.2.1).1 (ha0.2.2.2.2.2.2.2.2.2.2.2.2.1).2.1 kX10.1 kvX10_forget q_388 (tX10_forget l C.2.2.2.2.2.2.1 ha0.2.2.2.2.2.2.2.2.2.2.2.2.1 r4) rfl rfl ⟨by decide, by decide⟩ rfl hl.1 rfl (Nat.le_of_ble_eq_true rfl) dX11_court_79) (fun H locs hW => ?_)
      refine lv_aload_n C.1 C.2.1 dX11_court_82 rfl (lv_at hl 0 rfl) ?_
      refine x_getr C hW (ha0).1 (ha0).2.1 (j := 2) rfl kX11 (by decide) rfl q_310 dX11_court_83 ?_
      refine x_geti C hW (ha0.2.2.2.2.1).1 (ha0.2.2.2.2.1).2.1 (j := 5) rfl kX0 (by decide) rfl q_72 dX11_court_86 ?_
      cases hf
      exact x_iret C hW dX11_court_89
    · have hf := if_f c1 hf
      refine lv_aload_n C.1 C.2.1 dX11_court_59 rfl (lv_at hl 0 rfl) ?_
      refine x_getr C hW (ha0).1 (ha0).2.1 (j := 3) rfl kX11 (by decide) rfl q_311 dX11_court_60 ?_
      refine lv_iload_n C.1 C.2.1 dX11_court_63 rfl (lv_at hl 1 rfl) ?_
      obtain ⟨g5, hf⟩ := gd_s hf
      refine x_aald C hW (ha0.2.2.2.2.2.1).1 (fun _ => rfl) rfl g5 dX11_court_64 ?_
      refine lv_iconst (v := 0) C.1 C.2.1 dX11_court_65 (by decide) ?_
      refine x_put C hW ((ha0.2.2.2.2.2.1).2 _ (inb_lt g5)).1 ((ha0.2.2.2.2.2.1).2 _ (inb_lt g5)).2.1 (j := 8) (t1 := .boolean) rfl kX0 (by decide) rfl rfl q_81 (by decide +kernel) rfl rfl dX11_court_66 (fun H locs hW => ?_)
      obtain ⟨m6, em6⟩ : ∃ z, z = wr mm (el (fr a0 3) a3.toNatClampNeg) 8 0 := ⟨_, rfl⟩
      have hf := nm_s hf em6
      rw [← em6] at hW
      refine lv_iinc (v := (a3 + 1)) (lv' := [(3, .int (a3 + 1)), (0, .ref (ad a0))]) C.1 C.2.1 dX11_court_69 hl (k := 1) rfl rfl (by decide) rfl (fun ls hl => ?_)
      refine lv_goto (tgt := 54) C.1 C.2.1 dX11_court_72 (by decide) ?_
      exact hk54 _ _ _ _ _ _ ha0 hW (lv_sub hl [1, 0] rfl) hf
set_option maxRecDepth 100000 in
set_option maxHeartbeats 4000000 in
theorem wX11_court_0 (C : Cx p s m meth c args cX11_court 4 (some .int) RX11 D ca ad) {res : Int32 × Mm} {N : Nat}  {a0 : Nat} {a1 : Int32} {mm : Mm} {H : Heap} {locs : List Loc} {ls : Array Slot} (ha0 : sX11 a0) (hW : Wd D ca ad s.heap mm H locs) (hl : lv_has ls 4 [(0, .ref (ad a0)), (1, .int a1)]) (hf : fX11_court N a0 a1 mm = some res) : W p l e (rmX11_court) s m args below meth c H locs 0 0 (MQ below (QI D ca ad res) args s 0 0 (AA ad)) (F0 m 0 ls []) := by
  unfold fX11_court at hf
  refine lv_aload_n C.1 C.2.1 dX11_court_0 rfl (lv_at hl 0 rfl) ?_
  refine lv_iload_n C.1 C.2.1 dX11_court_1 rfl (lv_at hl 1 rfl) ?_
  obtain ⟨x7, m8, r9, hf⟩ := bd2_s hf
  refine x_cr hW (x_runV C hW [.int a1] [] (ha0).1 (ha0).2.1 kX11.1 kvX11_textOf q_852 (tX11_textOf l C.2.2.2.2.2.2.1 ha0 r9) rfl rfl ⟨by decide, by decide⟩ rfl hl.1 rfl (Nat.le_of_ble_eq_true rfl) dX11_court_2) (fun H locs hW => ?_)
  refine x_astore_n (lv' := [(2, va_re ad x7), (0, .ref (ad a0)), (1, .int a1)]) C dX11_court_5 rfl hl (by decide) rfl (fun ls hl => ?_)
  refine x_aload_n C dX11_court_6 rfl (lv_at hl 0 rfl) ?_
  refine x_ifnonnull C (tgt := 12) dX11_court_7 (by decide) (fun n11 => ?_) (fun z10 n11 => ?_)
  · subst n11
    have hf := cs_n hf
    refine lv_iconst (v := (-1)) C.1 C.2.1 dX11_court_10 (by decide) ?_
    cases hf
    exact x_iret C hW dX11_court_11
  · subst n11
    have hf := cs_q hf
    refine lv_aload_n C.1 C.2.1 dX11_court_12 rfl (lv_at hl 0 rfl) ?_
    obtain ⟨x12, m13, r14, hf⟩ := bd2_s hf
    refine x_ci hW (x_runV C hW [] [] (((gX11_textOf ha0 r9) z10 rfl)).1 (((gX11_textOf ha0 r9) z10 rfl)).2.1 kX6.1 kvX6_isMissing q_368 (tX6_isMissing l C.2.2.2.2.2.2.1 ((gX11_textOf ha0 r9) z10 rfl) r14) rfl rfl ⟨by decide, by decide⟩ rfl hl.1 rfl (Nat.le_of_ble_eq_true rfl) dX11_court_13) (fun H locs hW => ?_)
    refine lv_if_eq (tgt := 25) C.1 C.2.1 dX11_court_16 (by decide) (fun c15 => ?_) (fun c15 => ?_)
    · have hf := if_t c15 hf
      refine lv_aload_n C.1 C.2.1 dX11_court_25 rfl (lv_at hl 1 rfl) ?_
      refine x_getr C hW (ha0).1 (ha0).2.1 (j := 4) rfl kX11 (by decide) rfl q_312 dX11_court_26 ?_
      refine lv_aload_n C.1 C.2.1 dX11_court_29 rfl (lv_at hl 0 rfl) ?_
      obtain ⟨x16, m17, r18, hf⟩ := bd2_s hf
      refine x_ci hW (x_runV C hW [.ref (ad z10)] [] (ha0.2.2.2.2.2.2.1).1 (ha0.2.2.2.2.2.2.1).2.1 kX5.1 kvX5_read q_869 (tX5_read l C.2.2.2.2.2.2.1 ha0.2.2.2.2.2.2.1 ((gX11_textOf ha0 r9) z10 rfl) r18) rfl rfl ⟨by decide, by decide⟩ rfl hl.1 rfl (Nat.le_of_ble_eq_true rfl) dX11_court_30) (fun H locs hW => ?_)
      refine lv_bipush (v := (-9)) C.1 C.2.1 dX11_court_33 (by decide) ?_
      refine lv_icmp_eq (tgt := 41) C.1 C.2.1 dX11_court_35 (by decide) (fun c19 => ?_) (fun c19 => ?_)
      · have hf := if_t c19 hf
        refine lv_aload_n C.1 C.2.1 dX11_court_41 rfl (lv_at hl 1 rfl) ?_
        refine x_getr C hW (ha0).1 (ha0).2.1 (j := 2) rfl kX11 (by decide) rfl q_310 dX11_court_42 ?_
        refine lv_aload_n C.1 C.2.1 dX11_court_45 rfl (lv_at hl 1 rfl) ?_
        refine x_getr C hW (ha0).1 (ha0).2.1 (j := 4) rfl kX11 (by decide) rfl q_312 dX11_court_46 ?_
        obtain ⟨x20, m21, r22, hf⟩ := bd2_s hf
        refine x_cv hW (x_runV C hW [.ref (ad (fr a0 4))] [] (ha0.2.2.2.2.1).1 (ha0.2.2.2.2.1).2.1 kX0.1 kvX0_open q_905 (tX0_open l C.2.2.2.2.2.2.1 ha0.2.2.2.2.1 ha0.2.2.2.2.2.2.1 r22) rfl rfl ⟨by decide, by decide⟩ rfl hl.1 rfl (Nat.le_of_ble_eq_true rfl) dX11_court_49) (fun H locs hW => ?_)
        refine lv_iconst (v := 0) C.1 C.2.1 dX11_court_52 (by decide) ?_
        refine lv_istore_n (lv' := [(3, .int 0), (2, .ref (ad z10)), (0, .ref (ad a0)), (1, .int a1)]) C.1 C.2.1 dX11_court_53 rfl hl (by decide) rfl (fun ls hl => ?_)
        exact wX11_court_54 C  N ha0 hW (lv_sub hl [2, 0] rfl) hf
      · have hf := if_f c19 hf
        refine lv_bipush (v := (-4)) C.1 C.2.1 dX11_court_38 (by decide) ?_
        cases hf
        exact x_iret C hW dX11_court_40
    · have hf := if_f c15 hf
      refine lv_aload_n C.1 C.2.1 dX11_court_19 rfl (lv_at hl 1 rfl) ?_
      refine lv_iconst (v := 1) C.1 C.2.1 dX11_court_20 (by decide) ?_
      obtain ⟨x23, m24, r25, hf⟩ := bd2_s hf
      refine x_ci hW (x_runV C hW [.int 1] [] (ha0).1 (ha0).2.1 kX11.1 kvX11_refused q_372 (tX11_refused l C.2.2.2.2.2.2.1 ha0 r25) rfl rfl ⟨by decide, by decide⟩ rfl hl.1 rfl (Nat.le_of_ble_eq_true rfl) dX11_court_21) (fun H locs hW => ?_)
      cases hf
      exact x_iret C hW dX11_court_24
set_option maxRecDepth 100000 in
set_option maxHeartbeats 4000000 in
theorem tX11_court (l : Launch) {D : va_G} {ca ad : Nat → Nat} (hi : Inj ad) {N : Nat} {a0 : Nat} {a1 : Int32} {mm : Mm} {res : Int32 × Mm} (ha0 : sX11 a0) (hf : fX11_court N a0 a1 mm = some res) : Met l yX11_court (WS yX11_court cX11_court 4 (some .int)) (rmX11_court) (va_Pc [.ref (ad a0), .int a1] (WB D ca ad mm)) (QI D ca ad res) 0 0 (AA ad) := by
  refine x_start hi (by decide) rfl (Nat.le_of_ble_eq_true rfl) (fun p e s m args below meth c ls C hW hl => ?_)
  exact wX11_court_0 C ha0 hW (lv_sub hl [0, 1] rfl) hf
set_option maxRecDepth 100000 in
set_option maxHeartbeats 4000000 in
theorem wX11_damp_0 (C : Cx p s m meth c args cX11_damp 3 (some .int) RX11 D ca ad) {res : Int32 × Mm} {N : Nat}  {a0 : Nat} {a1 : Int32} {mm : Mm} {H : Heap} {locs : List Loc} {ls : Array Slot} (ha0 : sX11 a0) (hW : Wd D ca ad s.heap mm H locs) (hl : lv_has ls 3 [(0, .ref (ad a0)), (1, .int a1)]) (hf : fX11_damp N a0 a1 mm = some res) : W p l e (rmX11_damp) s m args below meth c H locs 0 0 (MQ below (QI D ca ad res) args s 0 0 (AA ad)) (F0 m 0 ls []) := by
  unfold fX11_damp at hf
  refine lv_iload_n C.1 C.2.1 dX11_damp_0 rfl (lv_at hl 1 rfl) ?_
  refine lv_if_lt (tgt := 10) C.1 C.2.1 dX11_damp_1 (by decide) (fun c1 => ?_) (fun c1 => ?_)
  · have hf := if_t c1 hf
    refine lv_iconst (v := (-1)) C.1 C.2.1 dX11_damp_10 (by decide) ?_
    cases hf
    exact x_iret C hW dX11_damp_11
  · have hf := if_f c1 hf
    refine lv_iload_n C.1 C.2.1 dX11_damp_4 rfl (lv_at hl 1 rfl) ?_
    refine lv_bipush (v := 9) C.1 C.2.1 dX11_damp_5 (by decide) ?_
    refine lv_icmp_le (tgt := 12) C.1 C.2.1 dX11_damp_7 (by decide) (fun c2 => ?_) (fun c2 => ?_)
    · have hf := if_t c2 hf
      refine lv_aload_n C.1 C.2.1 dX11_damp_12 rfl (lv_at hl 0 rfl) ?_
      refine x_getr C hW (ha0).1 (ha0).2.1 (j := 2) rfl kX11 (by decide) rfl q_310 dX11_damp_13 ?_
      refine x_geti C hW (ha0.2.2.2.2.1).1 (ha0.2.2.2.2.1).2.1 (j := 6) rfl kX0 (by decide) rfl q_77 dX11_damp_16 ?_
      refine lv_istore_n (lv' := [(2, .int (rd mm (fr a0 2) 6)), (0, .ref (ad a0)), (1, .int a1)]) C.1 C.2.1 dX11_damp_19 rfl hl (by decide) rfl (fun ls hl => ?_)
      refine lv_aload_n C.1 C.2.1 dX11_damp_20 rfl (lv_at hl 1 rfl) ?_
      refine x_getr C hW (ha0).1 (ha0).2.1 (j := 2) rfl kX11 (by decide) rfl q_310 dX11_damp_21 ?_
      refine lv_iload_n C.1 C.2.1 dX11_damp_24 rfl (lv_at hl 2 rfl) ?_
      refine x_put C hW (ha0.2.2.2.2.1).1 (ha0.2.2.2.2.1).2.1 (j := 6) (t1 := .int) rfl kX0 (by decide) rfl rfl q_77 (by decide +kernel) rfl rfl dX11_damp_25 (fun H locs hW => ?_)
      obtain ⟨m3, em3⟩ : ∃ z, z = wr mm (fr a0 2) 6 a1 := ⟨_, rfl⟩
      have hf := nm_s hf em3
      rw [← em3] at hW
      refine lv_aload_n C.1 C.2.1 dX11_damp_28 rfl (lv_at hl 1 rfl) ?_
      refine x_getr C hW (ha0).1 (ha0).2.1 (j := 10) rfl kX11 (by decide) rfl q_318 dX11_damp_29 ?_
      obtain ⟨x4, m5, r6, hf⟩ := bd2_s hf
      refine x_cv hW (x_runV C hW [] [] (ha0.2.2.2.2.2.2.2.2.2.2.2.2.1).1 (ha0.2.2.2.2.2.2.2.2.2.2.2.2.1).2.1 kX10.1 kvX10_forget q_388 (tX10_forget l C.2.2.2.2.2.2.1 ha0.2.2.2.2.2.2.2.2.2.2.2.2.1 r6) rfl rfl ⟨by decide, by decide⟩ rfl hl.1 rfl (Nat.le_of_ble_eq_true rfl) dX11_damp_32) (fun H locs hW => ?_)
      refine lv_iload_n C.1 C.2.1 dX11_damp_35 rfl (lv_at hl 0 rfl) ?_
      cases hf
      exact x_iret C hW dX11_damp_36
    · have hf := if_f c2 hf
      refine lv_iconst (v := (-1)) C.1 C.2.1 dX11_damp_10 (by decide) ?_
      cases hf
      exact x_iret C hW dX11_damp_11
set_option maxRecDepth 100000 in
set_option maxHeartbeats 4000000 in
theorem tX11_damp (l : Launch) {D : va_G} {ca ad : Nat → Nat} (hi : Inj ad) {N : Nat} {a0 : Nat} {a1 : Int32} {mm : Mm} {res : Int32 × Mm} (ha0 : sX11 a0) (hf : fX11_damp N a0 a1 mm = some res) : Met l yX11_damp (WS yX11_damp cX11_damp 3 (some .int)) (rmX11_damp) (va_Pc [.ref (ad a0), .int a1] (WB D ca ad mm)) (QI D ca ad res) 0 0 (AA ad) := by
  refine x_start hi (by decide) rfl (Nat.le_of_ble_eq_true rfl) (fun p e s m args below meth c ls C hW hl => ?_)
  exact wX11_damp_0 C ha0 hW (lv_sub hl [0, 1] rfl) hf
set_option maxRecDepth 100000 in
set_option maxHeartbeats 4000000 in
theorem wX11_isRefused_39 (C : Cx p s m meth c args cX11_isRefused 5 (some .boolean) RX11 D ca ad) {res : Int32 × Mm} {N : Nat}  {a4 : Int32} {mm : Mm} {H : Heap} {locs : List Loc} {ls : Array Slot}  (hW : Wd D ca ad s.heap mm H locs) (hl : lv_has ls 5 [(4, .int a4)]) (hf : fX11_isRefused_39 N a4 mm = some res) : W p l e (rmX11_isRefused) s m args below meth c H locs 0 0 (MQ below (QI D ca ad res) args s 0 0 (AA ad)) (F0 m 39 ls []) := by
  unfold fX11_isRefused_39 at hf
  refine lv_iload C.1 C.2.1 dX11_isRefused_39 (lv_at hl 0 rfl) ?_
  refine lv_if_eq (tgt := 48) C.1 C.2.1 dX11_isRefused_41 (by decide) (fun c1 => ?_) (fun c1 => ?_)
  · have hf := if_t c1 hf
    refine lv_iconst (v := 0) C.1 C.2.1 dX11_isRefused_48 (by decide) ?_
    cases hf
    exact x_zret C hW (by decide) dX11_isRefused_49
  · have hf := if_f c1 hf
    refine lv_iconst (v := 1) C.1 C.2.1 dX11_isRefused_44 (by decide) ?_
    refine lv_goto (tgt := 49) C.1 C.2.1 dX11_isRefused_45 (by decide) ?_
    cases hf
    exact x_zret C hW (by decide) dX11_isRefused_49
set_option maxRecDepth 100000 in
set_option maxHeartbeats 4000000 in
theorem wX11_isRefused_25 (C : Cx p s m meth c args cX11_isRefused 5 (some .boolean) RX11 D ca ad) {res : Int32 × Mm} {N : Nat}  {a0 : Nat} {s0 : Int32} {mm : Mm} {H : Heap} {locs : List Loc} {ls : Array Slot} (ha0 : sX11 a0) (hW : Wd D ca ad s.heap mm H locs) (hl : lv_has ls 5 [(0, .ref (ad a0))]) (hf : fX11_isRefused_25 N a0 s0 mm = some res) : W p l e (rmX11_isRefused) s m args below meth c H locs 0 0 (MQ below (QI D ca ad res) args s 0 0 (AA ad)) (F0 m 25 ls [.int s0]) := by
  unfold fX11_isRefused_25 at hf
  refine lv_istore (lv' := [(4, .int s0), (0, .ref (ad a0))]) C.1 C.2.1 dX11_isRefused_25 hl (by decide) rfl (fun ls hl => ?_)
  refine lv_iload C.1 C.2.1 dX11_isRefused_27 (lv_at hl 0 rfl) ?_
  refine lv_if_eq (tgt := 39) C.1 C.2.1 dX11_isRefused_29 (by decide) (fun c2 => ?_) (fun c2 => ?_)
  · have hf := if_t c2 hf
    exact wX11_isRefused_39 C   hW (lv_sub hl [0] rfl) hf
  · have hf := if_f c2 hf
    refine lv_aload_n C.1 C.2.1 dX11_isRefused_32 rfl (lv_at hl 1 rfl) ?_
    refine lv_iload C.1 C.2.1 dX11_isRefused_33 (lv_at hl 0 rfl) ?_
    obtain ⟨x3, m4, r5, hf⟩ := bd2_s hf
    refine x_ci hW (x_runV C hW [.int s0] [] (ha0).1 (ha0).2.1 kX11.1 kvX11_refused q_372 (tX11_refused l C.2.2.2.2.2.2.1 ha0 r5) rfl rfl ⟨by decide, by decide⟩ rfl hl.1 rfl (Nat.le_of_ble_eq_true rfl) dX11_isRefused_35) (fun H locs hW => ?_)
    refine lv_pop C.1 C.2.1 dX11_isRefused_38 rfl ?_
    exact wX11_isRefused_39 C   hW (lv_sub hl [0] rfl) hf
set_option maxRecDepth 100000 in
set_option maxHeartbeats 4000000 in
theorem wX11_isRefused_0 (C : Cx p s m meth c args cX11_isRefused 5 (some .boolean) RX11 D ca ad) {res : Int32 × Mm} {N : Nat}  {a0 : Nat} {a1 : Int32} {a2 : Int32} {a3 : Int32} {mm : Mm} {H : Heap} {locs : List Loc} {ls : Array Slot} (ha0 : sX11 a0) (hW : Wd D ca ad s.heap mm H locs) (hl : lv_has ls 5 [(0, .ref (ad a0)), (1, .int a1), (2, .int a2), (3, .int a3)]) (hf : fX11_isRefused N a0 a1 a2 a3 mm = some res) : W p l e (rmX11_isRefused) s m args below meth c H locs 0 0 (MQ below (QI D ca ad res) args s 0 0 (AA ad)) (F0 m 0 ls []) := by
  unfold fX11_isRefused at hf
  refine lv_iload_n C.1 C.2.1 dX11_isRefused_0 rfl (lv_at hl 1 rfl) ?_
  refine lv_if_ne (tgt := 8) C.1 C.2.1 dX11_isRefused_1 (by decide) (fun c6 => ?_) (fun c6 => ?_)
  · have hf := if_f c6 hf
    refine lv_iload_n C.1 C.2.1 dX11_isRefused_8 rfl (lv_at hl 2 rfl) ?_
    refine lv_if_ne (tgt := 16) C.1 C.2.1 dX11_isRefused_9 (by decide) (fun c7 => ?_) (fun c7 => ?_)
    · have hf := if_f c7 hf
      refine lv_iload_n C.1 C.2.1 dX11_isRefused_16 rfl (lv_at hl 3 rfl) ?_
      refine lv_if_ne (tgt := 24) C.1 C.2.1 dX11_isRefused_17 (by decide) (fun c8 => ?_) (fun c8 => ?_)
      · have hf := if_f c8 hf
        refine lv_iconst (v := 0) C.1 C.2.1 dX11_isRefused_24 (by decide) ?_
        exact wX11_isRefused_25 C  ha0 hW (lv_sub hl [0] rfl) hf
      · have hf := if_t c8 hf
        refine lv_iconst (v := 3) C.1 C.2.1 dX11_isRefused_20 (by decide) ?_
        refine lv_goto (tgt := 25) C.1 C.2.1 dX11_isRefused_21 (by decide) ?_
        exact wX11_isRefused_25 C  ha0 hW (lv_sub hl [0] rfl) hf
    · have hf := if_t c7 hf
      refine lv_iconst (v := 5) C.1 C.2.1 dX11_isRefused_12 (by decide) ?_
      refine lv_goto (tgt := 25) C.1 C.2.1 dX11_isRefused_13 (by decide) ?_
      exact wX11_isRefused_25 C  ha0 hW (lv_sub hl [0] rfl) hf
  · have hf := if_t c6 hf
    refine lv_iconst (v := 1) C.1 C.2.1 dX11_isRefused_4 (by decide) ?_
    refine lv_goto (tgt := 25) C.1 C.2.1 dX11_isRefused_5 (by decide) ?_
    exact wX11_isRefused_25 C  ha0 hW (lv_sub hl [0] rfl) hf
set_option maxRecDepth 100000 in
set_option maxHeartbeats 4000000 in
theorem tX11_isRefused (l : Launch) {D : va_G} {ca ad : Nat → Nat} (hi : Inj ad) {N : Nat} {a0 : Nat} {a1 : Int32} {a2 : Int32} {a3 : Int32} {mm : Mm} {res : Int32 × Mm} (ha0 : sX11 a0) (hf : fX11_isRefused N a0 a1 a2 a3 mm = some res) : Met l yX11_isRefused (WS yX11_isRefused cX11_isRefused 5 (some .boolean)) (rmX11_isRefused) (va_Pc [.ref (ad a0), .int a1, .int a2, .int a3] (WB D ca ad mm)) (QI D ca ad res) 0 0 (AA ad) := by
  refine x_start hi (by decide) rfl (Nat.le_of_ble_eq_true rfl) (fun p e s m args below meth c ls C hW hl => ?_)
  exact wX11_isRefused_0 C ha0 hW (lv_sub hl [0, 1, 2, 3] rfl) hf
set_option maxRecDepth 100000 in
set_option maxHeartbeats 4000000 in
theorem wX11_isWrong__91 (C : Cx p s m meth c args cX11_isWrong_ 7 (some .boolean) RX11 D ca ad) {res : Int32 × Mm} {N : Nat}  {s0 : Nat} {s1 : Int32} {s2 : Int32} {s3 : Int32} {mm : Mm} {H : Heap} {locs : List Loc} {ls : Array Slot} (hs0 : sX11 s0) (hW : Wd D ca ad s.heap mm H locs) (hl : lv_has ls 7 []) (hf : fX11_isWrong__91 N s0 s1 s2 s3 mm = some res) : W p l e (rmX11_isWrong_) s m args below meth c H locs 0 0 (MQ below (QI D ca ad res) args s 0 0 (AA ad)) (F0 m 91 ls [.int s3, .int s2, .int s1, .ref (ad s0)]) := by
  unfold fX11_isWrong__91 at hf
  obtain ⟨x1, m2, r3, hf⟩ := bd2_s hf
  refine x_ci hW (x_runV C hW [.int s1, .int s2, .int s3] [] (hs0).1 (hs0).2.1 kX11.1 kvX11_isRefused q_412 (tX11_isRefused l C.2.2.2.2.2.2.1 hs0 r3) rfl rfl ⟨by decide, by decide⟩ rfl hl.1 rfl (Nat.le_of_ble_eq_true rfl) dX11_isWrong__91) (fun H locs hW => ?_)
  obtain ⟨g4, hf⟩ := gd_s hf
  cases hf
  exact x_zret C hW (of_decide_eq_true g4) dX11_isWrong__94
set_option maxRecDepth 100000 in
set_option maxHeartbeats 4000000 in
theorem wX11_isWrong__90 (C : Cx p s m meth c args cX11_isWrong_ 7 (some .boolean) RX11 D ca ad) {res : Int32 × Mm} {N : Nat}  {s0 : Nat} {s1 : Int32} {s2 : Int32} {mm : Mm} {H : Heap} {locs : List Loc} {ls : Array Slot} (hs0 : sX11 s0) (hW : Wd D ca ad s.heap mm H locs) (hl : lv_has ls 7 []) (hf : fX11_isWrong__90 N s0 s1 s2 mm = some res) : W p l e (rmX11_isWrong_) s m args below meth c H locs 0 0 (MQ below (QI D ca ad res) args s 0 0 (AA ad)) (F0 m 90 ls [.int s2, .int s1, .ref (ad s0)]) := by
  unfold fX11_isWrong__90 at hf
  refine lv_iconst (v := 0) C.1 C.2.1 dX11_isWrong__90 (by decide) ?_
  exact wX11_isWrong__91 C  hs0 hW (lv_sub hl [] rfl) hf
set_option maxRecDepth 100000 in
set_option maxHeartbeats 4000000 in
theorem wX11_isWrong__54 (C : Cx p s m meth c args cX11_isWrong_ 7 (some .boolean) RX11 D ca ad) {res : Int32 × Mm} {N : Nat}  {a0 : Nat} {a1 : Nat} {a2 : Int32} {a3 : Nat} {a4 : Int32} {a5 : Int32} {s0 : Int32} {mm : Mm} {H : Heap} {locs : List Loc} {ls : Array Slot} (ha0 : sX11 a0) (ha1 : sX6 a1) (ha3 : sX6 a3) (hW : Wd D ca ad s.heap mm H locs) (hl : lv_has ls 7 [(0, .ref (ad a0)), (1, .ref (ad a1)), (2, .int a2), (3, .ref (ad a3)), (4, .int a4), (5, .int a5)]) (hf : fX11_isWrong__54 N a0 a1 a2 a3 a4 a5 s0 mm = some res) : W p l e (rmX11_isWrong_) s m args below meth c H locs 0 0 (MQ below (QI D ca ad res) args s 0 0 (AA ad)) (F0 m 54 ls [.int s0]) := by
  unfold fX11_isWrong__54 at hf
  refine lv_istore (lv' := [(6, .int s0), (0, .ref (ad a0)), (1, .ref (ad a1)), (2, .int a2), (3, .ref (ad a3)), (4, .int a4), (5, .int a5)]) C.1 C.2.1 dX11_isWrong__54 hl (by decide) rfl (fun ls hl => ?_)
  refine lv_aload_n C.1 C.2.1 dX11_isWrong__56 rfl (lv_at hl 1 rfl) ?_
  refine lv_iload C.1 C.2.1 dX11_isWrong__57 (lv_at hl 6 rfl) ?_
  refine lv_iload C.1 C.2.1 dX11_isWrong__59 (lv_at hl 0 rfl) ?_
  refine lv_aload_n C.1 C.2.1 dX11_isWrong__61 rfl (lv_at hl 1 rfl) ?_
  refine x_getr C hW (ha0).1 (ha0).2.1 (j := 2) rfl kX11 (by decide) rfl q_310 dX11_isWrong__62 ?_
  refine lv_aload_n C.1 C.2.1 dX11_isWrong__65 rfl (lv_at hl 2 rfl) ?_
  refine lv_iload_n C.1 C.2.1 dX11_isWrong__66 rfl (lv_at hl 3 rfl) ?_
  obtain ⟨x5, m6, r7, hf⟩ := bd2_s hf
  refine x_ci hW (x_runV C hW [.ref (ad a1), .int a2] [.int s0, .int a5, .ref (ad a0)] (ha0.2.2.2.2.1).1 (ha0.2.2.2.2.1).2.1 kX0.1 kvX0_allows q_400 (tX0_allows l C.2.2.2.2.2.2.1 ha0.2.2.2.2.1 ha1 r7) rfl rfl ⟨by decide, by decide⟩ rfl hl.1 rfl (Nat.le_of_ble_eq_true rfl) dX11_isWrong__67) (fun H locs hW => ?_)
  refine lv_if_eq (tgt := 90) C.1 C.2.1 dX11_isWrong__70 (by decide) (fun c8 => ?_) (fun c8 => ?_)
  · have hf := if_t c8 hf
    exact wX11_isWrong__90 C  ha0 hW (lv_sub hl [] rfl) hf
  · have hf := if_f c8 hf
    refine lv_aload_n C.1 C.2.1 dX11_isWrong__73 rfl (lv_at hl 1 rfl) ?_
    refine x_getr C hW (ha0).1 (ha0).2.1 (j := 2) rfl kX11 (by decide) rfl q_310 dX11_isWrong__74 ?_
    refine lv_aload_n C.1 C.2.1 dX11_isWrong__77 rfl (lv_at hl 4 rfl) ?_
    refine lv_iload C.1 C.2.1 dX11_isWrong__78 (lv_at hl 5 rfl) ?_
    obtain ⟨x9, m10, r11, hf⟩ := bd2_s hf
    refine x_ci hW (x_runV C hW [.ref (ad a3), .int a4] [.int s0, .int a5, .ref (ad a0)] (ha0.2.2.2.2.1).1 (ha0.2.2.2.2.1).2.1 kX0.1 kvX0_allows q_400 (tX0_allows l C.2.2.2.2.2.2.1 ha0.2.2.2.2.1 ha3 r11) rfl rfl ⟨by decide, by decide⟩ rfl hl.1 rfl (Nat.le_of_ble_eq_true rfl) dX11_isWrong__80) (fun H locs hW => ?_)
    refine lv_if_eq (tgt := 90) C.1 C.2.1 dX11_isWrong__83 (by decide) (fun c12 => ?_) (fun c12 => ?_)
    · have hf := if_t c12 hf
      exact wX11_isWrong__90 C  ha0 hW (lv_sub hl [] rfl) hf
    · have hf := if_f c12 hf
      refine lv_iconst (v := 1) C.1 C.2.1 dX11_isWrong__86 (by decide) ?_
      refine lv_goto (tgt := 91) C.1 C.2.1 dX11_isWrong__87 (by decide) ?_
      exact wX11_isWrong__91 C  ha0 hW (lv_sub hl [] rfl) hf
set_option maxRecDepth 100000 in
set_option maxHeartbeats 4000000 in
theorem wX11_isWrong__53 (C : Cx p s m meth c args cX11_isWrong_ 7 (some .boolean) RX11 D ca ad) {res : Int32 × Mm} {N : Nat}  {a0 : Nat} {a1 : Nat} {a2 : Int32} {a3 : Nat} {a4 : Int32} {a5 : Int32} {mm : Mm} {H : Heap} {locs : List Loc} {ls : Array Slot} (ha0 : sX11 a0) (ha1 : sX6 a1) (ha3 : sX6 a3) (hW : Wd D ca ad s.heap mm H locs) (hl : lv_has ls 7 [(0, .ref (ad a0)), (1, .ref (ad a1)), (2, .int a2), (3, .ref (ad a3)), (4, .int a4), (5, .int a5)]) (hf : fX11_isWrong__53 N a0 a1 a2 a3 a4 a5 mm = some res) : W p l e (rmX11_isWrong_) s m args below meth c H locs 0 0 (MQ below (QI D ca ad res) args s 0 0 (AA ad)) (F0 m 53 ls []) := by
  unfold fX11_isWrong__53 at hf
  refine lv_iconst (v := 0) C.1 C.2.1 dX11_isWrong__53 (by decide) ?_
  exact wX11_isWrong__54 C  ha0 ha1 ha3 hW (lv_sub hl [0, 1, 2, 3, 4, 5] rfl) hf
set_option maxRecDepth 100000 in
set_option maxHeartbeats 4000000 in
theorem wX11_isWrong__19 (C : Cx p s m meth c args cX11_isWrong_ 7 (some .boolean) RX11 D ca ad) {res : Int32 × Mm} {N : Nat}  {a0 : Nat} {a1 : Nat} {a2 : Int32} {a3 : Nat} {a4 : Int32} {s0 : Int32} {mm : Mm} {H : Heap} {locs : List Loc} {ls : Array Slot} (ha0 : sX11 a0) (ha1 : sX6 a1) (ha3 : sX6 a3) (hW : Wd D ca ad s.heap mm H locs) (hl : lv_has ls 7 [(0, .ref (ad a0)), (1, .ref (ad a1)), (2, .int a2), (3, .ref (ad a3)), (4, .int a4)]) (hf : fX11_isWrong__19 N a0 a1 a2 a3 a4 s0 mm = some res) : W p l e (rmX11_isWrong_) s m args below meth c H locs 0 0 (MQ below (QI D ca ad res) args s 0 0 (AA ad)) (F0 m 19 ls [.int s0]) := by
  unfold fX11_isWrong__19 at hf
  refine lv_istore (lv' := [(5, .int s0), (0, .ref (ad a0)), (1, .ref (ad a1)), (2, .int a2), (3, .ref (ad a3)), (4, .int a4)]) C.1 C.2.1 dX11_isWrong__19 hl (by decide) rfl (fun ls hl => ?_)
  refine lv_aload_n C.1 C.2.1 dX11_isWrong__21 rfl (lv_at hl 2 rfl) ?_
  refine x_geti C hW (ha1).1 (ha1).2.1 (j := 1) rfl kX6 (by decide) rfl q_302 dX11_isWrong__22 ?_
  refine lv_aload_n C.1 C.2.1 dX11_isWrong__25 rfl (lv_at hl 1 rfl) ?_
  refine x_getr C hW (ha0).1 (ha0).2.1 (j := 2) rfl kX11 (by decide) rfl q_310 dX11_isWrong__26 ?_
  refine x_geti C hW (ha0.2.2.2.2.1).1 (ha0.2.2.2.2.1).2.1 (j := 5) rfl kX0 (by decide) rfl q_72 dX11_isWrong__29 ?_
  refine lv_icmp_ne (tgt := 53) C.1 C.2.1 dX11_isWrong__32 (by decide) (fun c13 => ?_) (fun c13 => ?_)
  · have hf := if_f c13 hf
    exact wX11_isWrong__53 C  ha0 ha1 ha3 hW (lv_sub hl [1, 2, 3, 4, 5, 0] rfl) hf
  · have hf := if_t c13 hf
    refine lv_aload_n C.1 C.2.1 dX11_isWrong__35 rfl (lv_at hl 4 rfl) ?_
    refine x_geti C hW (ha3).1 (ha3).2.1 (j := 1) rfl kX6 (by decide) rfl q_302 dX11_isWrong__36 ?_
    refine lv_aload_n C.1 C.2.1 dX11_isWrong__39 rfl (lv_at hl 1 rfl) ?_
    refine x_getr C hW (ha0).1 (ha0).2.1 (j := 2) rfl kX11 (by decide) rfl q_310 dX11_isWrong__40 ?_
    refine x_geti C hW (ha0.2.2.2.2.1).1 (ha0.2.2.2.2.1).2.1 (j := 5) rfl kX0 (by decide) rfl q_72 dX11_isWrong__43 ?_
    refine lv_icmp_ne (tgt := 53) C.1 C.2.1 dX11_isWrong__46 (by decide) (fun c14 => ?_) (fun c14 => ?_)
    · have hf := if_f c14 hf
      exact wX11_isWrong__53 C  ha0 ha1 ha3 hW (lv_sub hl [1, 2, 3, 4, 5, 0] rfl) hf
    · have hf := if_t c14 hf
      refine lv_iconst (v := 1) C.1 C.2.1 dX11_isWrong__49 (by decide) ?_
      refine lv_goto (tgt := 54) C.1 C.2.1 dX11_isWrong__50 (by decide) ?_
      exact wX11_isWrong__54 C  ha0 ha1 ha3 hW (lv_sub hl [1, 2, 3, 4, 5, 0] rfl) hf
set_option maxRecDepth 100000 in
set_option maxHeartbeats 4000000 in
theorem wX11_isWrong__18 (C : Cx p s m meth c args cX11_isWrong_ 7 (some .boolean) RX11 D ca ad) {res : Int32 × Mm} {N : Nat}  {a0 : Nat} {a1 : Nat} {a2 : Int32} {a3 : Nat} {a4 : Int32} {mm : Mm} {H : Heap} {locs : List Loc} {ls : Array Slot} (ha0 : sX11 a0) (ha1 : sX6 a1) (ha3 : sX6 a3) (hW : Wd D ca ad s.heap mm H locs) (hl : lv_has ls 7 [(0, .ref (ad a0)), (1, .ref (ad a1)), (2, .int a2), (3, .ref (ad a3)), (4, .int a4)]) (hf : fX11_isWrong__18 N a0 a1 a2 a3 a4 mm = some res) : W p l e (rmX11_isWrong_) s m args below meth c H locs 0 0 (MQ below (QI D ca ad res) args s 0 0 (AA ad)) (F0 m 18 ls []) := by
  unfold fX11_isWrong__18 at hf
  refine lv_iconst (v := 0) C.1 C.2.1 dX11_isWrong__18 (by decide) ?_
  exact wX11_isWrong__19 C  ha0 ha1 ha3 hW (lv_sub hl [0, 1, 2, 3, 4] rfl) hf
set_option maxRecDepth 100000 in
set_option maxHeartbeats 4000000 in
theorem wX11_isWrong__0 (C : Cx p s m meth c args cX11_isWrong_ 7 (some .boolean) RX11 D ca ad) {res : Int32 × Mm} {N : Nat}  {a0 : Nat} {a1 : Nat} {a2 : Int32} {a3 : Nat} {a4 : Int32} {mm : Mm} {H : Heap} {locs : List Loc} {ls : Array Slot} (ha0 : sX11 a0) (ha1 : sX6 a1) (ha3 : sX6 a3) (hW : Wd D ca ad s.heap mm H locs) (hl : lv_has ls 7 [(0, .ref (ad a0)), (1, .ref (ad a1)), (2, .int a2), (3, .ref (ad a3)), (4, .int a4)]) (hf : fX11_isWrong_ N a0 a1 a2 a3 a4 mm = some res) : W p l e (rmX11_isWrong_) s m args below meth c H locs 0 0 (MQ below (QI D ca ad res) args s 0 0 (AA ad)) (F0 m 0 ls []) := by
  unfold fX11_isWrong_ at hf
  refine lv_aload_n C.1 C.2.1 dX11_isWrong__0 rfl (lv_at hl 1 rfl) ?_
  obtain ⟨x15, m16, r17, hf⟩ := bd2_s hf
  refine x_ci hW (x_runV C hW [] [] (ha1).1 (ha1).2.1 kX6.1 kvX6_isMissing q_368 (tX6_isMissing l C.2.2.2.2.2.2.1 ha1 r17) rfl rfl ⟨by decide, by decide⟩ rfl hl.1 rfl (Nat.le_of_ble_eq_true rfl) dX11_isWrong__1) (fun H locs hW => ?_)
  refine lv_if_ne (tgt := 18) C.1 C.2.1 dX11_isWrong__4 (by decide) (fun c18 => ?_) (fun c18 => ?_)
  · have hf := if_f c18 hf
    exact wX11_isWrong__18 C  ha0 ha1 ha3 hW (lv_sub hl [0, 1, 2, 3, 4] rfl) hf
  · have hf := if_t c18 hf
    refine lv_aload_n C.1 C.2.1 dX11_isWrong__7 rfl (lv_at hl 3 rfl) ?_
    obtain ⟨x19, m20, r21, hf⟩ := bd2_s hf
    refine x_ci hW (x_runV C hW [] [] (ha3).1 (ha3).2.1 kX6.1 kvX6_isMissing q_368 (tX6_isMissing l C.2.2.2.2.2.2.1 ha3 r21) rfl rfl ⟨by decide, by decide⟩ rfl hl.1 rfl (Nat.le_of_ble_eq_true rfl) dX11_isWrong__8) (fun H locs hW => ?_)
    refine lv_if_ne (tgt := 18) C.1 C.2.1 dX11_isWrong__11 (by decide) (fun c22 => ?_) (fun c22 => ?_)
    · have hf := if_f c22 hf
      exact wX11_isWrong__18 C  ha0 ha1 ha3 hW (lv_sub hl [0, 1, 2, 3, 4] rfl) hf
    · have hf := if_t c22 hf
      refine lv_iconst (v := 1) C.1 C.2.1 dX11_isWrong__14 (by decide) ?_
      refine lv_goto (tgt := 19) C.1 C.2.1 dX11_isWrong__15 (by decide) ?_
      exact wX11_isWrong__19 C  ha0 ha1 ha3 hW (lv_sub hl [0, 1, 2, 3, 4] rfl) hf
set_option maxRecDepth 100000 in
set_option maxHeartbeats 4000000 in
theorem tX11_isWrong_ (l : Launch) {D : va_G} {ca ad : Nat → Nat} (hi : Inj ad) {N : Nat} {a0 : Nat} {a1 : Nat} {a2 : Int32} {a3 : Nat} {a4 : Int32} {mm : Mm} {res : Int32 × Mm} (ha0 : sX11 a0) (ha1 : sX6 a1) (ha3 : sX6 a3) (hf : fX11_isWrong_ N a0 a1 a2 a3 a4 mm = some res) : Met l yX11_isWrong_ (WS yX11_isWrong_ cX11_isWrong_ 7 (some .boolean)) (rmX11_isWrong_) (va_Pc [.ref (ad a0), .ref (ad a1), .int a2, .ref (ad a3), .int a4] (WB D ca ad mm)) (QI D ca ad res) 0 0 (AA ad) := by
  refine x_start hi (by decide) rfl (Nat.le_of_ble_eq_true rfl) (fun p e s m args below meth c ls C hW hl => ?_)
  exact wX11_isWrong__0 C ha0 ha1 ha3 hW (lv_sub hl [0, 1, 2, 3, 4] rfl) hf
set_option maxRecDepth 100000 in
set_option maxHeartbeats 4000000 in
theorem wX11_judge_0 (C : Cx p s m meth c args cX11_judge 5 (some .int) RX11 D ca ad) {res : Int32 × Mm} {N : Nat}  {a0 : Nat} {a1 : Int32} {a2 : Int32} {mm : Mm} {H : Heap} {locs : List Loc} {ls : Array Slot} (ha0 : sX11 a0) (hW : Wd D ca ad s.heap mm H locs) (hl : lv_has ls 5 [(0, .ref (ad a0)), (1, .int a1), (2, .int a2)]) (hf : fX11_judge N a0 a1 a2 mm = some res) : W p l e (rmX11_judge) s m args below meth c H locs 0 0 (MQ below (QI D ca ad res) args s 0 0 (AA ad)) (F0 m 0 ls []) := by
  unfold fX11_judge at hf
  refine lv_aload_n C.1 C.2.1 dX11_judge_0 rfl (lv_at hl 0 rfl) ?_
  refine lv_iload_n C.1 C.2.1 dX11_judge_1 rfl (lv_at hl 1 rfl) ?_
  obtain ⟨x1, m2, r3, hf⟩ := bd2_s hf
  refine x_cr hW (x_runV C hW [.int a1] [] (ha0).1 (ha0).2.1 kX11.1 kvX11_rowOf q_364 (tX11_rowOf l C.2.2.2.2.2.2.1 ha0 r3) rfl rfl ⟨by decide, by decide⟩ rfl hl.1 rfl (Nat.le_of_ble_eq_true rfl) dX11_judge_2) (fun H locs hW => ?_)
  refine x_astore_n (lv' := [(3, va_re ad x1), (0, .ref (ad a0)), (1, .int a1), (2, .int a2)]) C dX11_judge_5 rfl hl (by decide) rfl (fun ls hl => ?_)
  refine lv_aload_n C.1 C.2.1 dX11_judge_6 rfl (lv_at hl 1 rfl) ?_
  refine lv_iload_n C.1 C.2.1 dX11_judge_7 rfl (lv_at hl 3 rfl) ?_
  obtain ⟨x4, m5, r6, hf⟩ := bd2_s hf
  refine x_cr hW (x_runV C hW [.int a2] [] (ha0).1 (ha0).2.1 kX11.1 kvX11_rowOf q_364 (tX11_rowOf l C.2.2.2.2.2.2.1 ha0 r6) rfl rfl ⟨by decide, by decide⟩ rfl hl.1 rfl (Nat.le_of_ble_eq_true rfl) dX11_judge_8) (fun H locs hW => ?_)
  refine x_astore (lv' := [(4, va_re ad x4), (3, va_re ad x1), (0, .ref (ad a0)), (1, .int a1), (2, .int a2)]) C dX11_judge_11 hl (by decide) (by cases x1 <;> rfl) (fun ls hl => ?_)
  refine x_aload_n C dX11_judge_13 rfl (lv_at hl 1 rfl) ?_
  refine x_ifnull C (tgt := 22) dX11_judge_14 (by decide) (fun n8 => ?_) (fun z7 n8 => ?_)
  · subst n8
    have hf := cs_n hf
    refine lv_iconst (v := (-1)) C.1 C.2.1 dX11_judge_22 (by decide) ?_
    cases hf
    exact x_iret C hW dX11_judge_23
  · subst n8
    have hf := cs_q hf
    refine x_aload C dX11_judge_17 (lv_at hl 0 rfl) ?_
    refine x_ifnonnull C (tgt := 24) dX11_judge_19 (by decide) (fun n10 => ?_) (fun z9 n10 => ?_)
    · subst n10
      have hf := cs_n hf
      refine lv_iconst (v := (-1)) C.1 C.2.1 dX11_judge_22 (by decide) ?_
      cases hf
      exact x_iret C hW dX11_judge_23
    · subst n10
      have hf := cs_q hf
      refine lv_aload_n C.1 C.2.1 dX11_judge_24 rfl (lv_at hl 2 rfl) ?_
      refine lv_aload_n C.1 C.2.1 dX11_judge_25 rfl (lv_at hl 1 rfl) ?_
      refine lv_iconst (v := 0) C.1 C.2.1 dX11_judge_26 (by decide) ?_
      refine lv_aload C.1 C.2.1 dX11_judge_27 (lv_at hl 0 rfl) ?_
      refine lv_iconst (v := 1) C.1 C.2.1 dX11_judge_29 (by decide) ?_
      obtain ⟨x11, m12, r13, hf⟩ := bd2_s hf
      refine x_ci hW (x_runV C hW [.ref (ad z7), .int 0, .ref (ad z9), .int 1] [] (ha0).1 (ha0).2.1 kX11.1 kvX11_isWrong_ q_396 (tX11_isWrong_ l C.2.2.2.2.2.2.1 ha0 ((gX11_rowOf ha0 r3) z7 rfl) ((gX11_rowOf ha0 r6) z9 rfl) r13) rfl rfl ⟨by decide, by decide⟩ rfl hl.1 rfl (Nat.le_of_ble_eq_true rfl) dX11_judge_30) (fun H locs hW => ?_)
      refine lv_if_eq (tgt := 39) C.1 C.2.1 dX11_judge_33 (by decide) (fun c14 => ?_) (fun c14 => ?_)
      · have hf := if_t c14 hf
        refine lv_aload_n C.1 C.2.1 dX11_judge_39 rfl (lv_at hl 2 rfl) ?_
        refine x_getr C hW (ha0).1 (ha0).2.1 (j := 5) rfl kX11 (by decide) rfl q_313 dX11_judge_40 ?_
        refine lv_aload_n C.1 C.2.1 dX11_judge_43 rfl (lv_at hl 2 rfl) ?_
        refine x_getr C hW (ha0).1 (ha0).2.1 (j := 2) rfl kX11 (by decide) rfl q_310 dX11_judge_44 ?_
        refine lv_aload_n C.1 C.2.1 dX11_judge_47 rfl (lv_at hl 1 rfl) ?_
        refine x_getr C hW (((gX11_rowOf ha0 r3) z7 rfl)).1 (((gX11_rowOf ha0 r3) z7 rfl)).2.1 (j := 0) rfl kX6 (by decide) rfl q_299 dX11_judge_48 ?_
        refine lv_aload C.1 C.2.1 dX11_judge_51 (lv_at hl 0 rfl) ?_
        refine x_getr C hW (((gX11_rowOf ha0 r6) z9 rfl)).1 (((gX11_rowOf ha0 r6) z9 rfl)).2.1 (j := 0) rfl kX6 (by decide) rfl q_299 dX11_judge_53 ?_
        refine lv_iconst (v := 0) C.1 C.2.1 dX11_judge_56 (by decide) ?_
        obtain ⟨x15, m16, r17, hf⟩ := bd2_s hf
        refine x_cv hW (x_runV C hW [.ref (ad (fr a0 2)), .ref (ad (fr z7 0)), .ref (ad (fr z9 0)), .int 0] [] (ha0.2.2.2.2.2.2.2.1).1 (ha0.2.2.2.2.2.2.2.1).2.1 kX7.1 kvX7_weigh q_416 (tX7_weigh l C.2.2.2.2.2.2.1 ha0.2.2.2.2.2.2.2.1 ha0.2.2.2.2.1 (((gX11_rowOf ha0 r3) z7 rfl).2.2) (((gX11_rowOf ha0 r6) z9 rfl).2.2) r17) rfl rfl ⟨by decide, by decide⟩ rfl hl.1 rfl (Nat.le_of_ble_eq_true rfl) dX11_judge_57) (fun H locs hW => ?_)
        refine lv_aload_n C.1 C.2.1 dX11_judge_60 rfl (lv_at hl 2 rfl) ?_
        refine lv_iconst (v := 2) C.1 C.2.1 dX11_judge_61 (by decide) ?_
        refine lv_aload_n C.1 C.2.1 dX11_judge_62 rfl (lv_at hl 2 rfl) ?_
        refine x_getr C hW (ha0).1 (ha0).2.1 (j := 2) rfl kX11 (by decide) rfl q_310 dX11_judge_63 ?_
        obtain ⟨x18, m19, r20, hf⟩ := bd2_s hf
        refine x_ci hW (x_runV C hW [] [.int 2, .ref (ad a0)] (ha0.2.2.2.2.1).1 (ha0.2.2.2.2.1).2.1 kX0.1 kvX0_worths q_457 (tX0_worths l C.2.2.2.2.2.2.1 ha0.2.2.2.2.1 r20) rfl rfl ⟨by decide, by decide⟩ rfl hl.1 rfl (Nat.le_of_ble_eq_true rfl) dX11_judge_66) (fun H locs hW => ?_)
        refine lv_imul C.1 C.2.1 dX11_judge_69 ?_
        refine lv_aload_n C.1 C.2.1 dX11_judge_70 rfl (lv_at hl 2 rfl) ?_
        refine x_getr C hW (ha0).1 (ha0).2.1 (j := 5) rfl kX11 (by decide) rfl q_313 dX11_judge_71 ?_
        refine x_geti C hW (ha0.2.2.2.2.2.2.2.1).1 (ha0.2.2.2.2.2.2.2.1).2.1 (j := 3) rfl kX7 (by decide) rfl q_145 dX11_judge_74 ?_
        refine lv_isub C.1 C.2.1 dX11_judge_77 ?_
        refine x_put C hW (ha0).1 (ha0).2.1 (j := 14) (t1 := .int) rfl kX11 (by decide) rfl rfl q_322 (by decide +kernel) rfl rfl dX11_judge_78 (fun H locs hW => ?_)
        obtain ⟨m21, em21⟩ : ∃ z, z = wr m19 a0 14 ((2 * x18) - (rd m19 (fr a0 5) 3)) := ⟨_, rfl⟩
        have hf := nm_s hf em21
        rw [← em21] at hW
        refine lv_aload_n C.1 C.2.1 dX11_judge_81 rfl (lv_at hl 2 rfl) ?_
        refine x_getr C hW (ha0).1 (ha0).2.1 (j := 5) rfl kX11 (by decide) rfl q_313 dX11_judge_82 ?_
        refine x_geti C hW (ha0.2.2.2.2.2.2.2.1).1 (ha0.2.2.2.2.2.2.2.1).2.1 (j := 3) rfl kX7 (by decide) rfl q_145 dX11_judge_85 ?_
        cases hf
        exact x_iret C hW dX11_judge_88
      · have hf := if_f c14 hf
        refine lv_bipush (v := (-3)) C.1 C.2.1 dX11_judge_36 (by decide) ?_
        cases hf
        exact x_iret C hW dX11_judge_38
set_option maxRecDepth 100000 in
set_option maxHeartbeats 4000000 in
theorem tX11_judge (l : Launch) {D : va_G} {ca ad : Nat → Nat} (hi : Inj ad) {N : Nat} {a0 : Nat} {a1 : Int32} {a2 : Int32} {mm : Mm} {res : Int32 × Mm} (ha0 : sX11 a0) (hf : fX11_judge N a0 a1 a2 mm = some res) : Met l yX11_judge (WS yX11_judge cX11_judge 5 (some .int)) (rmX11_judge) (va_Pc [.ref (ad a0), .int a1, .int a2] (WB D ca ad mm)) (QI D ca ad res) 0 0 (AA ad) := by
  refine x_start hi (by decide) rfl (Nat.le_of_ble_eq_true rfl) (fun p e s m args below meth c ls C hW hl => ?_)
  exact wX11_judge_0 C ha0 hW (lv_sub hl [0, 1, 2] rfl) hf
end W_files15
