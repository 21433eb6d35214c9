theorem dX7_rowsOfAll_13 : decode cX7_rowsOfAll 13 = .ok (.aload_n 0, 1) := by decide +kernel
theorem dX7_rowsOfAll_14 : decode cX7_rowsOfAll 14 = .ok (.getfield 18, 3) := by decide +kernel
theorem dX7_rowsOfAll_17 : decode cX7_rowsOfAll 17 = .ok (.iload_n 2, 1) := by decide +kernel
theorem dX7_rowsOfAll_18 : decode cX7_rowsOfAll 18 = .ok (.iaload, 1) := by decide +kernel
theorem dX7_rowsOfAll_19 : decode cX7_rowsOfAll 19 = .ok (.iadd, 1) := by decide +kernel
theorem dX7_rowsOfAll_20 : decode cX7_rowsOfAll 20 = .ok (.istore_n 1, 1) := by decide +kernel
theorem dX7_rowsOfAll_21 : decode cX7_rowsOfAll 21 = .ok (.iinc 2 1, 3) := by decide +kernel
theorem dX7_rowsOfAll_24 : decode cX7_rowsOfAll 24 = .ok (.goto (-20), 3) := by decide +kernel
theorem dX7_rowsOfAll_27 : decode cX7_rowsOfAll 27 = .ok (.iload_n 1, 1) := by decide +kernel
theorem dX7_rowsOfAll_28 : decode cX7_rowsOfAll 28 = .ok (.ireturn, 1) := by decide +kernel
theorem dX7_lettersOfSet_0 : decode cX7_lettersOfSet 0 = .ok (.iconst 0, 1) := by decide +kernel
theorem dX7_lettersOfSet_1 : decode cX7_lettersOfSet 1 = .ok (.istore_n 2, 1) := by decide +kernel
theorem dX7_lettersOfSet_2 : decode cX7_lettersOfSet 2 = .ok (.iconst 0, 1) := by decide +kernel
theorem dX7_lettersOfSet_3 : decode cX7_lettersOfSet 3 = .ok (.istore_n 3, 1) := by decide +kernel
theorem dX7_lettersOfSet_4 : decode cX7_lettersOfSet 4 = .ok (.iload_n 3, 1) := by decide +kernel
theorem dX7_lettersOfSet_5 : decode cX7_lettersOfSet 5 = .ok (.aload_n 0, 1) := by decide +kernel
theorem dX7_lettersOfSet_6 : decode cX7_lettersOfSet 6 = .ok (.getfield 27, 3) := by decide +kernel
theorem dX7_lettersOfSet_9 : decode cX7_lettersOfSet 9 = .ok (.if_icmp .ge 27, 3) := by decide +kernel
theorem dX7_lettersOfSet_12 : decode cX7_lettersOfSet 12 = .ok (.iload_n 1, 1) := by decide +kernel
theorem dX7_lettersOfSet_13 : decode cX7_lettersOfSet 13 = .ok (.iload_n 3, 1) := by decide +kernel
theorem dX7_lettersOfSet_14 : decode cX7_lettersOfSet 14 = .ok (.ishr, 1) := by decide +kernel
theorem dX7_lettersOfSet_15 : decode cX7_lettersOfSet 15 = .ok (.iconst 1, 1) := by decide +kernel
theorem dX7_lettersOfSet_16 : decode cX7_lettersOfSet 16 = .ok (.iand, 1) := by decide +kernel
theorem dX7_lettersOfSet_17 : decode cX7_lettersOfSet 17 = .ok (.iconst 1, 1) := by decide +kernel
theorem dX7_lettersOfSet_18 : decode cX7_lettersOfSet 18 = .ok (.if_icmp .ne 12, 3) := by decide +kernel
theorem dX7_lettersOfSet_21 : decode cX7_lettersOfSet 21 = .ok (.iload_n 2, 1) := by decide +kernel
theorem dX7_lettersOfSet_22 : decode cX7_lettersOfSet 22 = .ok (.aload_n 0, 1) := by decide +kernel
theorem dX7_lettersOfSet_23 : decode cX7_lettersOfSet 23 = .ok (.getfield 9, 3) := by decide +kernel
theorem dX7_lettersOfSet_26 : decode cX7_lettersOfSet 26 = .ok (.iload_n 3, 1) := by decide +kernel
theorem dX7_lettersOfSet_27 : decode cX7_lettersOfSet 27 = .ok (.iaload, 1) := by decide +kernel
theorem dX7_lettersOfSet_28 : decode cX7_lettersOfSet 28 = .ok (.ior, 1) := by decide +kernel
theorem dX7_lettersOfSet_29 : decode cX7_lettersOfSet 29 = .ok (.istore_n 2, 1) := by decide +kernel
theorem dX7_lettersOfSet_30 : decode cX7_lettersOfSet 30 = .ok (.iinc 3 1, 3) := by decide +kernel
theorem dX7_lettersOfSet_33 : decode cX7_lettersOfSet 33 = .ok (.goto (-29), 3) := by decide +kernel
theorem dX7_lettersOfSet_36 : decode cX7_lettersOfSet 36 = .ok (.iload_n 2, 1) := by decide +kernel
theorem dX7_lettersOfSet_37 : decode cX7_lettersOfSet 37 = .ok (.ireturn, 1) := by decide +kernel
theorem dX7_fewestThatCover_0 : decode cX7_fewestThatCover 0 = .ok (.aload_n 0, 1) := by decide +kernel
theorem dX7_fewestThatCover_1 : decode cX7_fewestThatCover 1 = .ok (.iload_n 1, 1) := by decide +kernel
theorem dX7_fewestThatCover_2 : decode cX7_fewestThatCover 2 = .ok (.invokevirtual 97, 3) := by decide +kernel
theorem dX7_fewestThatCover_5 : decode cX7_fewestThatCover 5 = .ok (.istore_n 2, 1) := by decide +kernel
theorem dX7_fewestThatCover_6 : decode cX7_fewestThatCover 6 = .ok (.iload_n 1, 1) := by decide +kernel
theorem dX7_fewestThatCover_7 : decode cX7_fewestThatCover 7 = .ok (.istore_n 3, 1) := by decide +kernel
theorem dX7_fewestThatCover_8 : decode cX7_fewestThatCover 8 = .ok (.iconst 1, 1) := by decide +kernel
theorem dX7_fewestThatCover_9 : decode cX7_fewestThatCover 9 = .ok (.istore 4, 2) := by decide +kernel
theorem dX7_fewestThatCover_11 : decode cX7_fewestThatCover 11 = .ok (.iload 4, 2) := by decide +kernel
theorem dX7_fewestThatCover_13 : decode cX7_fewestThatCover 13 = .ok (.bipush 64, 2) := by decide +kernel
theorem dX7_fewestThatCover_15 : decode cX7_fewestThatCover 15 = .ok (.if_icmp .ge 61, 3) := by decide +kernel
theorem dX7_fewestThatCover_18 : decode cX7_fewestThatCover 18 = .ok (.iload 4, 2) := by decide +kernel
theorem dX7_fewestThatCover_20 : decode cX7_fewestThatCover 20 = .ok (.iload_n 1, 1) := by decide +kernel
theorem dX7_fewestThatCover_21 : decode cX7_fewestThatCover 21 = .ok (.if_icmp .ge 55, 3) := by decide +kernel
theorem dX7_fewestThatCover_24 : decode cX7_fewestThatCover 24 = .ok (.iload 4, 2) := by decide +kernel
theorem dX7_fewestThatCover_26 : decode cX7_fewestThatCover 26 = .ok (.iload_n 1, 1) := by decide +kernel
theorem dX7_fewestThatCover_27 : decode cX7_fewestThatCover 27 = .ok (.iconst (-1), 1) := by decide +kernel
theorem dX7_fewestThatCover_28 : decode cX7_fewestThatCover 28 = .ok (.ixor, 1) := by decide +kernel
theorem dX7_fewestThatCover_29 : decode cX7_fewestThatCover 29 = .ok (.iand, 1) := by decide +kernel
theorem dX7_fewestThatCover_30 : decode cX7_fewestThatCover 30 = .ok (.ifCond .ne 17, 3) := by decide +kernel
theorem dX7_fewestThatCover_33 : decode cX7_fewestThatCover 33 = .ok (.aload_n 0, 1) := by decide +kernel
theorem dX7_fewestThatCover_34 : decode cX7_fewestThatCover 34 = .ok (.iload 4, 2) := by decide +kernel
theorem dX7_fewestThatCover_36 : decode cX7_fewestThatCover 36 = .ok (.invokevirtual 97, 3) := by decide +kernel
theorem dX7_fewestThatCover_39 : decode cX7_fewestThatCover 39 = .ok (.iload_n 2, 1) := by decide +kernel
theorem dX7_fewestThatCover_40 : decode cX7_fewestThatCover 40 = .ok (.if_icmp .ne 7, 3) := by decide +kernel
theorem dX7_fewestThatCover_43 : decode cX7_fewestThatCover 43 = .ok (.iconst 1, 1) := by decide +kernel
theorem dX7_fewestThatCover_44 : decode cX7_fewestThatCover 44 = .ok (.goto 4, 3) := by decide +kernel
theorem dX7_fewestThatCover_47 : decode cX7_fewestThatCover 47 = .ok (.iconst 0, 1) := by decide +kernel
theorem dX7_fewestThatCover_48 : decode cX7_fewestThatCover 48 = .ok (.istore 5, 2) := by decide +kernel
theorem dX7_fewestThatCover_50 : decode cX7_fewestThatCover 50 = .ok (.iload 5, 2) := by decide +kernel
theorem dX7_fewestThatCover_52 : decode cX7_fewestThatCover 52 = .ok (.ifCond .eq 18, 3) := by decide +kernel
theorem dX7_fewestThatCover_55 : decode cX7_fewestThatCover 55 = .ok (.iload 4, 2) := by decide +kernel
theorem dX7_fewestThatCover_57 : decode cX7_fewestThatCover 57 = .ok (.invokestatic 92, 3) := by decide +kernel
theorem dX7_fewestThatCover_60 : decode cX7_fewestThatCover 60 = .ok (.iload_n 3, 1) := by decide +kernel
theorem dX7_fewestThatCover_61 : decode cX7_fewestThatCover 61 = .ok (.invokestatic 92, 3) := by decide +kernel
theorem dX7_fewestThatCover_64 : decode cX7_fewestThatCover 64 = .ok (.if_icmp .ge 6, 3) := by decide +kernel
theorem dX7_fewestThatCover_67 : decode cX7_fewestThatCover 67 = .ok (.iload 4, 2) := by decide +kernel
theorem dX7_fewestThatCover_69 : decode cX7_fewestThatCover 69 = .ok (.istore_n 3, 1) := by decide +kernel
theorem dX7_fewestThatCover_70 : decode cX7_fewestThatCover 70 = .ok (.iinc 4 1, 3) := by decide +kernel
theorem dX7_fewestThatCover_73 : decode cX7_fewestThatCover 73 = .ok (.goto (-62), 3) := by decide +kernel
theorem dX7_fewestThatCover_76 : decode cX7_fewestThatCover 76 = .ok (.iload_n 3, 1) := by decide +kernel
theorem dX7_fewestThatCover_77 : decode cX7_fewestThatCover 77 = .ok (.ireturn, 1) := by decide +kernel
theorem dX8_init_0 : decode cX8_init 0 = .ok (.aload_n 0, 1) := by decide +kernel
theorem dX8_init_1 : decode cX8_init 1 = .ok (.invokespecial 1, 3) := by decide +kernel
theorem dX8_init_4 : decode cX8_init 4 = .ok (.aload_n 0, 1) := by decide +kernel
theorem dX8_init_5 : decode cX8_init 5 = .ok (.new 7, 3) := by decide +kernel
theorem dX8_init_8 : decode cX8_init 8 = .ok (.dup, 1) := by decide +kernel
theorem dX8_init_9 : decode cX8_init 9 = .ok (.invokespecial 9, 3) := by decide +kernel
theorem dX8_init_12 : decode cX8_init 12 = .ok (.putfield 10, 3) := by decide +kernel
theorem dX8_init_15 : decode cX8_init 15 = .ok (.aload_n 0, 1) := by decide +kernel
theorem dX8_init_16 : decode cX8_init 16 = .ok (.new 16, 3) := by decide +kernel
theorem dX8_init_19 : decode cX8_init 19 = .ok (.dup, 1) := by decide +kernel
theorem dX8_init_20 : decode cX8_init 20 = .ok (.aload_n 0, 1) := by decide +kernel
theorem dX8_init_21 : decode cX8_init 21 = .ok (.getfield 10, 3) := by decide +kernel
theorem dX8_init_24 : decode cX8_init 24 = .ok (.invokespecial 18, 3) := by decide +kernel
theorem dX8_init_27 : decode cX8_init 27 = .ok (.putfield 21, 3) := by decide +kernel
theorem dX8_init_30 : decode cX8_init 30 = .ok (.aload_n 0, 1) := by decide +kernel
theorem dX8_init_31 : decode cX8_init 31 = .ok (.new 25, 3) := by decide +kernel
theorem dX8_init_34 : decode cX8_init 34 = .ok (.dup, 1) := by decide +kernel
theorem dX8_init_35 : decode cX8_init 35 = .ok (.invokespecial 27, 3) := by decide +kernel
theorem dX8_init_38 : decode cX8_init 38 = .ok (.putfield 28, 3) := by decide +kernel
theorem dX8_init_41 : decode cX8_init 41 = .ok (.aload_n 0, 1) := by decide +kernel
theorem dX8_init_42 : decode cX8_init 42 = .ok (.new 32, 3) := by decide +kernel
theorem dX8_init_45 : decode cX8_init 45 = .ok (.dup, 1) := by decide +kernel
theorem dX8_init_46 : decode cX8_init 46 = .ok (.aload_n 0, 1) := by decide +kernel
theorem dX8_init_47 : decode cX8_init 47 = .ok (.getfield 10, 3) := by decide +kernel
theorem dX8_init_50 : decode cX8_init 50 = .ok (.aload_n 0, 1) := by decide +kernel
theorem dX8_init_51 : decode cX8_init 51 = .ok (.getfield 21, 3) := by decide +kernel
theorem dX8_init_54 : decode cX8_init 54 = .ok (.invokespecial 34, 3) := by decide +kernel
theorem dX8_init_57 : decode cX8_init 57 = .ok (.putfield 37, 3) := by decide +kernel
theorem dX8_init_60 : decode cX8_init 60 = .ok (.aload_n 0, 1) := by decide +kernel
theorem dX8_init_61 : decode cX8_init 61 = .ok (.new 41, 3) := by decide +kernel
theorem dX8_init_64 : decode cX8_init 64 = .ok (.dup, 1) := by decide +kernel
theorem dX8_init_65 : decode cX8_init 65 = .ok (.aload_n 0, 1) := by decide +kernel
theorem dX8_init_66 : decode cX8_init 66 = .ok (.getfield 10, 3) := by decide +kernel
theorem dX8_init_69 : decode cX8_init 69 = .ok (.aload_n 0, 1) := by decide +kernel
theorem dX8_init_70 : decode cX8_init 70 = .ok (.getfield 21, 3) := by decide +kernel
theorem dX8_init_73 : decode cX8_init 73 = .ok (.invokespecial 43, 3) := by decide +kernel
theorem dX8_init_76 : decode cX8_init 76 = .ok (.putfield 44, 3) := by decide +kernel
theorem dX8_init_79 : decode cX8_init 79 = .ok (.aload_n 0, 1) := by decide +kernel
theorem dX8_init_80 : decode cX8_init 80 = .ok (.new 48, 3) := by decide +kernel
theorem dX8_init_83 : decode cX8_init 83 = .ok (.dup, 1) := by decide +kernel
theorem dX8_init_84 : decode cX8_init 84 = .ok (.aload_n 0, 1) := by decide +kernel
theorem dX8_init_85 : decode cX8_init 85 = .ok (.getfield 10, 3) := by decide +kernel
theorem dX8_init_88 : decode cX8_init 88 = .ok (.invokespecial 50, 3) := by decide +kernel
theorem dX8_init_91 : decode cX8_init 91 = .ok (.putfield 51, 3) := by decide +kernel
theorem dX8_init_94 : decode cX8_init 94 = .ok (.aload_n 0, 1) := by decide +kernel
theorem dX8_init_95 : decode cX8_init 95 = .ok (.iconst 0, 1) := by decide +kernel
theorem dX8_init_96 : decode cX8_init 96 = .ok (.putfield 55, 3) := by decide +kernel
theorem dX8_init_99 : decode cX8_init 99 = .ok (.return_, 1) := by decide +kernel
theorem dX8_table_0 : decode cX8_table 0 = .ok (.iload_n 1, 1) := by decide +kernel
theorem dX8_table_1 : decode cX8_table 1 = .ok (.iconst 1, 1) := by decide +kernel
theorem dX8_table_2 : decode cX8_table 2 = .ok (.if_icmp .lt 22, 3) := by decide +kernel
theorem dX8_table_5 : decode cX8_table 5 = .ok (.iload_n 1, 1) := by decide +kernel
theorem dX8_table_6 : decode cX8_table 6 = .ok (.sipush 256, 3) := by decide +kernel
theorem dX8_table_9 : decode cX8_table 9 = .ok (.if_icmp .ge 15, 3) := by decide +kernel
theorem dX8_table_12 : decode cX8_table 12 = .ok (.iload_n 1, 1) := by decide +kernel
theorem dX8_table_13 : decode cX8_table 13 = .ok (.invokestatic 59, 3) := by decide +kernel
theorem dX8_table_16 : decode cX8_table 16 = .ok (.iconst 3, 1) := by decide +kernel
theorem dX8_table_17 : decode cX8_table 17 = .ok (.if_icmp .gt 7, 3) := by decide +kernel
theorem dX8_table_20 : decode cX8_table 20 = .ok (.iconst 1, 1) := by decide +kernel
theorem dX8_table_21 : decode cX8_table 21 = .ok (.goto 4, 3) := by decide +kernel
theorem dX8_table_24 : decode cX8_table 24 = .ok (.iconst 0, 1) := by decide +kernel
theorem dX8_table_25 : decode cX8_table 25 = .ok (.istore_n 3, 1) := by decide +kernel
theorem dX8_table_26 : decode cX8_table 26 = .ok (.iload_n 3, 1) := by decide +kernel
theorem dX8_table_27 : decode cX8_table 27 = .ok (.ifCond .eq 13, 3) := by decide +kernel
theorem dX8_table_30 : decode cX8_table 30 = .ok (.iload_n 2, 1) := by decide +kernel
theorem dX8_table_31 : decode cX8_table 31 = .ok (.iconst 1, 1) := by decide +kernel
theorem dX8_table_32 : decode cX8_table 32 = .ok (.if_icmp .lt 8, 3) := by decide +kernel
theorem dX8_table_35 : decode cX8_table 35 = .ok (.iload_n 2, 1) := by decide +kernel
theorem dX8_table_36 : decode cX8_table 36 = .ok (.iconst 4, 1) := by decide +kernel
theorem dX8_table_37 : decode cX8_table 37 = .ok (.if_icmp .le 6, 3) := by decide +kernel
theorem dX8_table_40 : decode cX8_table 40 = .ok (.bipush (-102), 2) := by decide +kernel
theorem dX8_table_42 : decode cX8_table 42 = .ok (.ireturn, 1) := by decide +kernel
theorem dX8_table_43 : decode cX8_table 43 = .ok (.aload_n 0, 1) := by decide +kernel
theorem dX8_table_44 : decode cX8_table 44 = .ok (.getfield 10, 3) := by decide +kernel
theorem dX8_table_47 : decode cX8_table 47 = .ok (.iload_n 1, 1) := by decide +kernel
theorem dX8_table_48 : decode cX8_table 48 = .ok (.iload_n 2, 1) := by decide +kernel
theorem dX8_table_49 : decode cX8_table 49 = .ok (.invokevirtual 65, 3) := by decide +kernel
theorem dX8_table_52 : decode cX8_table 52 = .ok (.ireturn, 1) := by decide +kernel
theorem dX8_row_0 : decode cX8_row 0 = .ok (.aload_n 0, 1) := by decide +kernel
theorem dX8_row_1 : decode cX8_row 1 = .ok (.getfield 10, 3) := by decide +kernel
theorem dX8_row_4 : decode cX8_row 4 = .ok (.iload_n 1, 1) := by decide +kernel
theorem dX8_row_5 : decode cX8_row 5 = .ok (.invokevirtual 69, 3) := by decide +kernel
theorem dX8_row_8 : decode cX8_row 8 = .ok (.ifCond .ne 6, 3) := by decide +kernel
theorem dX8_row_11 : decode cX8_row 11 = .ok (.bipush (-101), 2) := by decide +kernel
theorem dX8_row_13 : decode cX8_row 13 = .ok (.ireturn, 1) := by decide +kernel
theorem dX8_row_14 : decode cX8_row 14 = .ok (.aload_n 0, 1) := by decide +kernel
theorem dX8_row_15 : decode cX8_row 15 = .ok (.getfield 10, 3) := by decide +kernel
theorem dX8_row_18 : decode cX8_row 18 = .ok (.iload_n 1, 1) := by decide +kernel
theorem dX8_row_19 : decode cX8_row 19 = .ok (.invokevirtual 73, 3) := by decide +kernel
theorem dX8_row_22 : decode cX8_row 22 = .ok (.istore 5, 2) := by decide +kernel
theorem dX8_row_24 : decode cX8_row 24 = .ok (.iload 5, 2) := by decide +kernel
theorem dX8_row_26 : decode cX8_row 26 = .ok (.invokestatic 59, 3) := by decide +kernel
theorem dX8_row_29 : decode cX8_row 29 = .ok (.istore 6, 2) := by decide +kernel
theorem dX8_row_31 : decode cX8_row 31 = .ok (.iload_n 2, 1) := by decide +kernel
theorem dX8_row_32 : decode cX8_row 32 = .ok (.iconst 1, 1) := by decide +kernel
theorem dX8_row_33 : decode cX8_row 33 = .ok (.invokestatic 76, 3) := by decide +kernel
theorem dX8_row_36 : decode cX8_row 36 = .ok (.ifCond .eq 40, 3) := by decide +kernel
theorem dX8_row_39 : decode cX8_row 39 = .ok (.iload_n 3, 1) := by decide +kernel
theorem dX8_row_40 : decode cX8_row 40 = .ok (.iload 6, 2) := by decide +kernel
theorem dX8_row_42 : decode cX8_row 42 = .ok (.iconst 1, 1) := by decide +kernel
theorem dX8_row_43 : decode cX8_row 43 = .ok (.if_icmp .le 7, 3) := by decide +kernel
theorem dX8_row_46 : decode cX8_row 46 = .ok (.iconst 1, 1) := by decide +kernel
theorem dX8_row_47 : decode cX8_row 47 = .ok (.goto 4, 3) := by decide +kernel
theorem dX8_row_50 : decode cX8_row 50 = .ok (.iconst 0, 1) := by decide +kernel
theorem dX8_row_51 : decode cX8_row 51 = .ok (.invokestatic 76, 3) := by decide +kernel
theorem dX8_row_54 : decode cX8_row 54 = .ok (.ifCond .eq 22, 3) := by decide +kernel
theorem dX8_row_57 : decode cX8_row 57 = .ok (.iload 4, 2) := by decide +kernel
theorem dX8_row_59 : decode cX8_row 59 = .ok (.iload 6, 2) := by decide +kernel
theorem dX8_row_61 : decode cX8_row 61 = .ok (.iconst 2, 1) := by decide +kernel
theorem dX8_row_62 : decode cX8_row 62 = .ok (.if_icmp .le 7, 3) := by decide +kernel
theorem dX8_row_65 : decode cX8_row 65 = .ok (.iconst 1, 1) := by decide +kernel
theorem dX8_row_66 : decode cX8_row 66 = .ok (.goto 4, 3) := by decide +kernel
theorem dX8_row_69 : decode cX8_row 69 = .ok (.iconst 0, 1) := by decide +kernel
theorem dX8_row_70 : decode cX8_row 70 = .ok (.invokestatic 76, 3) := by decide +kernel
theorem dX8_row_73 : decode cX8_row 73 = .ok (.ifCond .ne 6, 3) := by decide +kernel
theorem dX8_row_76 : decode cX8_row 76 = .ok (.bipush (-102), 2) := by decide +kernel
theorem dX8_row_78 : decode cX8_row 78 = .ok (.ireturn, 1) := by decide +kernel
theorem dX8_row_79 : decode cX8_row 79 = .ok (.aload_n 0, 1) := by decide +kernel
theorem dX8_row_80 : decode cX8_row 80 = .ok (.getfield 10, 3) := by decide +kernel
theorem dX8_row_83 : decode cX8_row 83 = .ok (.iload_n 1, 1) := by decide +kernel
theorem dX8_row_84 : decode cX8_row 84 = .ok (.invokevirtual 80, 3) := by decide +kernel
theorem dX8_row_87 : decode cX8_row 87 = .ok (.bipush 8, 2) := by decide +kernel
theorem dX8_row_89 : decode cX8_row 89 = .ok (.if_icmp .lt 6, 3) := by decide +kernel
theorem dX8_row_92 : decode cX8_row 92 = .ok (.bipush (-104), 2) := by decide +kernel
theorem dX8_row_94 : decode cX8_row 94 = .ok (.ireturn, 1) := by decide +kernel
theorem dX8_row_95 : decode cX8_row 95 = .ok (.aload_n 0, 1) := by decide +kernel
theorem dX8_row_96 : decode cX8_row 96 = .ok (.getfield 10, 3) := by decide +kernel
theorem dX8_row_99 : decode cX8_row 99 = .ok (.iload_n 1, 1) := by decide +kernel
theorem dX8_row_100 : decode cX8_row 100 = .ok (.iload 5, 2) := by decide +kernel
theorem dX8_row_102 : decode cX8_row 102 = .ok (.iload_n 2, 1) := by decide +kernel
theorem dX8_row_103 : decode cX8_row 103 = .ok (.iload_n 3, 1) := by decide +kernel
theorem dX8_row_104 : decode cX8_row 104 = .ok (.iload 4, 2) := by decide +kernel
theorem dX8_row_106 : decode cX8_row 106 = .ok (.invokestatic 83, 3) := by decide +kernel
theorem dX8_row_109 : decode cX8_row 109 = .ok (.invokevirtual 89, 3) := by decide +kernel
theorem dX8_row_112 : decode cX8_row 112 = .ok (.ireturn, 1) := by decide +kernel
theorem dX8_fill_0 : decode cX8_fill 0 = .ok (.aload_n 0, 1) := by decide +kernel
theorem dX8_fill_1 : decode cX8_fill 1 = .ok (.getfield 10, 3) := by decide +kernel
theorem dX8_fill_4 : decode cX8_fill 4 = .ok (.iload_n 1, 1) := by decide +kernel
theorem dX8_fill_5 : decode cX8_fill 5 = .ok (.invokevirtual 69, 3) := by decide +kernel
theorem dX8_fill_8 : decode cX8_fill 8 = .ok (.ifCond .ne 6, 3) := by decide +kernel
theorem dX8_fill_11 : decode cX8_fill 11 = .ok (.bipush (-101), 2) := by decide +kernel
theorem dX8_fill_13 : decode cX8_fill 13 = .ok (.ireturn, 1) := by decide +kernel
theorem dX8_fill_14 : decode cX8_fill 14 = .ok (.iload_n 2, 1) := by decide +kernel
theorem dX8_fill_15 : decode cX8_fill 15 = .ok (.ifCond .lt 27, 3) := by decide +kernel
theorem dX8_fill_18 : decode cX8_fill 18 = .ok (.iload_n 3, 1) := by decide +kernel
theorem dX8_fill_19 : decode cX8_fill 19 = .ok (.iconst 1, 1) := by decide +kernel
theorem dX8_fill_20 : decode cX8_fill 20 = .ok (.if_icmp .lt 22, 3) := by decide +kernel
theorem dX8_fill_23 : decode cX8_fill 23 = .ok (.iload_n 3, 1) := by decide +kernel
theorem dX8_fill_24 : decode cX8_fill 24 = .ok (.bipush 8, 2) := by decide +kernel
theorem dX8_fill_26 : decode cX8_fill 26 = .ok (.if_icmp .gt 16, 3) := by decide +kernel
theorem dX8_fill_29 : decode cX8_fill 29 = .ok (.iload 4, 2) := by decide +kernel
theorem dX8_fill_31 : decode cX8_fill 31 = .ok (.iconst 1, 1) := by decide +kernel
theorem dX8_fill_32 : decode cX8_fill 32 = .ok (.if_icmp .lt 10, 3) := by decide +kernel
theorem dX8_fill_35 : decode cX8_fill 35 = .ok (.iload 4, 2) := by decide +kernel
theorem dX8_fill_37 : decode cX8_fill 37 = .ok (.bipush 10, 2) := by decide +kernel
theorem dX8_fill_39 : decode cX8_fill 39 = .ok (.if_icmp .le 6, 3) := by decide +kernel
theorem dX8_fill_42 : decode cX8_fill 42 = .ok (.bipush (-102), 2) := by decide +kernel
theorem dX8_fill_44 : decode cX8_fill 44 = .ok (.ireturn, 1) := by decide +kernel
theorem dX8_fill_45 : decode cX8_fill 45 = .ok (.aload_n 0, 1) := by decide +kernel
theorem dX8_fill_46 : decode cX8_fill 46 = .ok (.getfield 10, 3) := by decide +kernel
theorem dX8_fill_49 : decode cX8_fill 49 = .ok (.iload_n 1, 1) := by decide +kernel
theorem dX8_fill_50 : decode cX8_fill 50 = .ok (.iload_n 2, 1) := by decide +kernel
theorem dX8_fill_51 : decode cX8_fill 51 = .ok (.iload_n 3, 1) := by decide +kernel
theorem dX8_fill_52 : decode cX8_fill 52 = .ok (.iload 4, 2) := by decide +kernel
theorem dX8_fill_54 : decode cX8_fill 54 = .ok (.invokevirtual 92, 3) := by decide +kernel
theorem dX8_fill_57 : decode cX8_fill 57 = .ok (.ireturn, 1) := by decide +kernel
theorem dX8_drop_0 : decode cX8_drop 0 = .ok (.aload_n 0, 1) := by decide +kernel
theorem dX8_drop_1 : decode cX8_drop 1 = .ok (.getfield 10, 3) := by decide +kernel
theorem dX8_drop_4 : decode cX8_drop 4 = .ok (.iload_n 1, 1) := by decide +kernel
theorem dX8_drop_5 : decode cX8_drop 5 = .ok (.iload_n 2, 1) := by decide +kernel
theorem dX8_drop_6 : decode cX8_drop 6 = .ok (.invokevirtual 95, 3) := by decide +kernel
theorem dX8_drop_9 : decode cX8_drop 9 = .ok (.ifCond .ne 6, 3) := by decide +kernel
theorem dX8_drop_12 : decode cX8_drop 12 = .ok (.bipush (-101), 2) := by decide +kernel
theorem dX8_drop_14 : decode cX8_drop 14 = .ok (.ireturn, 1) := by decide +kernel
theorem dX8_drop_15 : decode cX8_drop 15 = .ok (.aload_n 0, 1) := by decide +kernel
theorem dX8_drop_16 : decode cX8_drop 16 = .ok (.getfield 10, 3) := by decide +kernel
theorem dX8_drop_19 : decode cX8_drop 19 = .ok (.iload_n 1, 1) := by decide +kernel
theorem dX8_drop_20 : decode cX8_drop 20 = .ok (.iload_n 2, 1) := by decide +kernel
theorem dX8_drop_21 : decode cX8_drop 21 = .ok (.invokevirtual 99, 3) := by decide +kernel
theorem dX8_drop_24 : decode cX8_drop 24 = .ok (.ireturn, 1) := by decide +kernel
theorem dX8_sort_0 : decode cX8_sort 0 = .ok (.aload_n 0, 1) := by decide +kernel
theorem dX8_sort_1 : decode cX8_sort 1 = .ok (.getfield 10, 3) := by decide +kernel
theorem dX8_sort_4 : decode cX8_sort 4 = .ok (.iload_n 1, 1) := by decide +kernel
theorem dX8_sort_5 : decode cX8_sort 5 = .ok (.invokevirtual 69, 3) := by decide +kernel
theorem dX8_sort_8 : decode cX8_sort 8 = .ok (.ifCond .ne 6, 3) := by decide +kernel
theorem dX8_sort_11 : decode cX8_sort 11 = .ok (.bipush (-101), 2) := by decide +kernel
theorem dX8_sort_13 : decode cX8_sort 13 = .ok (.ireturn, 1) := by decide +kernel
theorem dX8_sort_14 : decode cX8_sort 14 = .ok (.aload_n 0, 1) := by decide +kernel
theorem dX8_sort_15 : decode cX8_sort 15 = .ok (.getfield 10, 3) := by decide +kernel
theorem dX8_sort_18 : decode cX8_sort 18 = .ok (.iload_n 1, 1) := by decide +kernel
theorem dX8_sort_19 : decode cX8_sort 19 = .ok (.iload_n 2, 1) := by decide +kernel
theorem dX8_sort_20 : decode cX8_sort 20 = .ok (.invokevirtual 102, 3) := by decide +kernel
theorem dX8_sort_23 : decode cX8_sort 23 = .ok (.ifCond .ne 6, 3) := by decide +kernel
theorem dX8_sort_26 : decode cX8_sort 26 = .ok (.bipush (-102), 2) := by decide +kernel
theorem dX8_sort_28 : decode cX8_sort 28 = .ok (.ireturn, 1) := by decide +kernel
theorem dX8_sort_29 : decode cX8_sort 29 = .ok (.aload_n 0, 1) := by decide +kernel
theorem dX8_sort_30 : decode cX8_sort 30 = .ok (.getfield 10, 3) := by decide +kernel
theorem dX8_sort_33 : decode cX8_sort 33 = .ok (.iload_n 1, 1) := by decide +kernel
theorem dX8_sort_34 : decode cX8_sort 34 = .ok (.iload_n 2, 1) := by decide +kernel
theorem dX8_sort_35 : decode cX8_sort 35 = .ok (.invokevirtual 105, 3) := by decide +kernel
theorem dX8_sort_38 : decode cX8_sort 38 = .ok (.ireturn, 1) := by decide +kernel
theorem dX8_get_0 : decode cX8_get 0 = .ok (.aload_n 0, 1) := by decide +kernel
theorem dX8_get_1 : decode cX8_get 1 = .ok (.getfield 10, 3) := by decide +kernel
theorem dX8_get_4 : decode cX8_get 4 = .ok (.iload_n 1, 1) := by decide +kernel
theorem dX8_get_5 : decode cX8_get 5 = .ok (.iload_n 2, 1) := by decide +kernel
theorem dX8_get_6 : decode cX8_get 6 = .ok (.invokevirtual 95, 3) := by decide +kernel
theorem dX8_get_9 : decode cX8_get 9 = .ok (.ifCond .eq 10, 3) := by decide +kernel
theorem dX8_get_12 : decode cX8_get 12 = .ok (.iload_n 3, 1) := by decide +kernel
theorem dX8_get_13 : decode cX8_get 13 = .ok (.invokestatic 108, 3) := by decide +kernel
theorem dX8_get_16 : decode cX8_get 16 = .ok (.ifCond .ne 6, 3) := by decide +kernel
theorem dX8_get_19 : decode cX8_get 19 = .ok (.bipush (-101), 2) := by decide +kernel
theorem dX8_get_21 : decode cX8_get 21 = .ok (.ireturn, 1) := by decide +kernel
theorem dX8_get_22 : decode cX8_get 22 = .ok (.aload_n 0, 1) := by decide +kernel
theorem dX8_get_23 : decode cX8_get 23 = .ok (.getfield 10, 3) := by decide +kernel
theorem dX8_get_26 : decode cX8_get 26 = .ok (.iload_n 1, 1) := by decide +kernel
theorem dX8_get_27 : decode cX8_get 27 = .ok (.iload_n 3, 1) := by decide +kernel
theorem dX8_get_28 : decode cX8_get 28 = .ok (.invokevirtual 102, 3) := by decide +kernel
theorem dX8_get_31 : decode cX8_get 31 = .ok (.ifCond .ne 5, 3) := by decide +kernel
theorem dX8_get_34 : decode cX8_get 34 = .ok (.iconst (-1), 1) := by decide +kernel
theorem dX8_get_35 : decode cX8_get 35 = .ok (.ireturn, 1) := by decide +kernel
theorem dX8_get_36 : decode cX8_get 36 = .ok (.aload_n 0, 1) := by decide +kernel
theorem dX8_get_37 : decode cX8_get 37 = .ok (.getfield 10, 3) := by decide +kernel
theorem dX8_get_40 : decode cX8_get 40 = .ok (.iload_n 1, 1) := by decide +kernel
theorem dX8_get_41 : decode cX8_get 41 = .ok (.iload_n 2, 1) := by decide +kernel
theorem dX8_get_42 : decode cX8_get 42 = .ok (.invokevirtual 111, 3) := by decide +kernel
theorem dX8_get_45 : decode cX8_get 45 = .ok (.iload_n 3, 1) := by decide +kernel
theorem dX8_get_46 : decode cX8_get 46 = .ok (.invokestatic 114, 3) := by decide +kernel
theorem dX8_get_49 : decode cX8_get 49 = .ok (.ireturn, 1) := by decide +kernel
theorem dX8_about_0 : decode cX8_about 0 = .ok (.aload_n 0, 1) := by decide +kernel
theorem dX8_about_1 : decode cX8_about 1 = .ok (.getfield 10, 3) := by decide +kernel
theorem dX8_about_4 : decode cX8_about 4 = .ok (.iload_n 1, 1) := by decide +kernel
theorem dX8_about_5 : decode cX8_about 5 = .ok (.invokevirtual 69, 3) := by decide +kernel
theorem dX8_about_8 : decode cX8_about 8 = .ok (.ifCond .ne 6, 3) := by decide +kernel
theorem dX8_about_11 : decode cX8_about 11 = .ok (.bipush (-101), 2) := by decide +kernel
theorem dX8_about_13 : decode cX8_about 13 = .ok (.ireturn, 1) := by decide +kernel
theorem dX8_about_14 : decode cX8_about 14 = .ok (.iload_n 2, 1) := by decide +kernel
theorem dX8_about_15 : decode cX8_about 15 = .ok (.tableswitch 78 0 4 #[33, 42, 51, 60, 69], 33) := by decide +kernel
theorem dX8_about_48 : decode cX8_about 48 = .ok (.aload_n 0, 1) := by decide +kernel
theorem dX8_about_49 : decode cX8_about 49 = .ok (.getfield 10, 3) := by decide +kernel
theorem dX8_about_52 : decode cX8_about 52 = .ok (.iload_n 1, 1) := by decide +kernel
theorem dX8_about_53 : decode cX8_about 53 = .ok (.invokevirtual 73, 3) := by decide +kernel
theorem dX8_about_56 : decode cX8_about 56 = .ok (.ireturn, 1) := by decide +kernel
theorem dX8_about_57 : decode cX8_about 57 = .ok (.aload_n 0, 1) := by decide +kernel
theorem dX8_about_58 : decode cX8_about 58 = .ok (.getfield 10, 3) := by decide +kernel
theorem dX8_about_61 : decode cX8_about 61 = .ok (.iload_n 1, 1) := by decide +kernel
theorem dX8_about_62 : decode cX8_about 62 = .ok (.invokevirtual 117, 3) := by decide +kernel
theorem dX8_about_65 : decode cX8_about 65 = .ok (.ireturn, 1) := by decide +kernel
theorem dX8_about_66 : decode cX8_about 66 = .ok (.aload_n 0, 1) := by decide +kernel
theorem dX8_about_67 : decode cX8_about 67 = .ok (.getfield 10, 3) := by decide +kernel
theorem dX8_about_70 : decode cX8_about 70 = .ok (.iload_n 1, 1) := by decide +kernel
theorem dX8_about_71 : decode cX8_about 71 = .ok (.invokevirtual 80, 3) := by decide +kernel
theorem dX8_about_74 : decode cX8_about 74 = .ok (.ireturn, 1) := by decide +kernel
theorem dX8_about_75 : decode cX8_about 75 = .ok (.aload_n 0, 1) := by decide +kernel
theorem dX8_about_76 : decode cX8_about 76 = .ok (.getfield 10, 3) := by decide +kernel
theorem dX8_about_79 : decode cX8_about 79 = .ok (.iload_n 1, 1) := by decide +kernel
theorem dX8_about_80 : decode cX8_about 80 = .ok (.invokevirtual 120, 3) := by decide +kernel
theorem dX8_about_83 : decode cX8_about 83 = .ok (.ireturn, 1) := by decide +kernel
theorem dX8_about_84 : decode cX8_about 84 = .ok (.aload_n 0, 1) := by decide +kernel
theorem dX8_about_85 : decode cX8_about 85 = .ok (.getfield 10, 3) := by decide +kernel
theorem dX8_about_88 : decode cX8_about 88 = .ok (.iload_n 1, 1) := by decide +kernel
theorem dX8_about_89 : decode cX8_about 89 = .ok (.invokevirtual 123, 3) := by decide +kernel
theorem dX8_about_92 : decode cX8_about 92 = .ok (.ireturn, 1) := by decide +kernel
theorem dX8_about_93 : decode cX8_about 93 = .ok (.bipush (-102), 2) := by decide +kernel
theorem dX8_about_95 : decode cX8_about 95 = .ok (.ireturn, 1) := by decide +kernel
theorem dX8_unlike_0 : decode cX8_unlike 0 = .ok (.aload_n 0, 1) := by decide +kernel
theorem dX8_unlike_1 : decode cX8_unlike 1 = .ok (.getfield 10, 3) := by decide +kernel
theorem dX8_unlike_4 : decode cX8_unlike 4 = .ok (.iload_n 1, 1) := by decide +kernel
theorem dX8_unlike_5 : decode cX8_unlike 5 = .ok (.invokevirtual 69, 3) := by decide +kernel
theorem dX8_unlike_8 : decode cX8_unlike 8 = .ok (.ifCond .ne 6, 3) := by decide +kernel
theorem dX8_unlike_11 : decode cX8_unlike 11 = .ok (.bipush (-101), 2) := by decide +kernel
theorem dX8_unlike_13 : decode cX8_unlike 13 = .ok (.ireturn, 1) := by decide +kernel
theorem dX8_unlike_14 : decode cX8_unlike 14 = .ok (.aload_n 0, 1) := by decide +kernel
theorem dX8_unlike_15 : decode cX8_unlike 15 = .ok (.getfield 10, 3) := by decide +kernel
theorem dX8_unlike_18 : decode cX8_unlike 18 = .ok (.iload_n 1, 1) := by decide +kernel
theorem dX8_unlike_19 : decode cX8_unlike 19 = .ok (.iload_n 2, 1) := by decide +kernel
theorem dX8_unlike_20 : decode cX8_unlike 20 = .ok (.invokevirtual 102, 3) := by decide +kernel
theorem dX8_unlike_23 : decode cX8_unlike 23 = .ok (.ifCond .ne 6, 3) := by decide +kernel
theorem dX8_unlike_26 : decode cX8_unlike 26 = .ok (.bipush (-102), 2) := by decide +kernel
theorem dX8_unlike_28 : decode cX8_unlike 28 = .ok (.ireturn, 1) := by decide +kernel
theorem dX8_unlike_29 : decode cX8_unlike 29 = .ok (.aload_n 0, 1) := by decide +kernel
theorem dX8_unlike_30 : decode cX8_unlike 30 = .ok (.getfield 10, 3) := by decide +kernel
theorem dX8_unlike_33 : decode cX8_unlike 33 = .ok (.iload_n 1, 1) := by decide +kernel
theorem dX8_unlike_34 : decode cX8_unlike 34 = .ok (.iload_n 2, 1) := by decide +kernel
theorem dX8_unlike_35 : decode cX8_unlike 35 = .ok (.invokevirtual 126, 3) := by decide +kernel
theorem dX8_unlike_38 : decode cX8_unlike 38 = .ok (.ireturn, 1) := by decide +kernel
theorem dX8_rule_0 : decode cX8_rule 0 = .ok (.iload_n 1, 1) := by decide +kernel
theorem dX8_rule_1 : decode cX8_rule 1 = .ok (.lookupswitch 77 #[(0, 27), (1, 52)], 27) := by decide +kernel
theorem dX8_rule_28 : decode cX8_rule 28 = .ok (.iload_n 2, 1) := by decide +kernel
theorem dX8_rule_29 : decode cX8_rule 29 = .ok (.iconst 1, 1) := by decide +kernel
theorem dX8_rule_30 : decode cX8_rule 30 = .ok (.if_icmp .lt 9, 3) := by decide +kernel
theorem dX8_rule_33 : decode cX8_rule 33 = .ok (.iload_n 2, 1) := by decide +kernel
theorem dX8_rule_34 : decode cX8_rule 34 = .ok (.bipush 8, 2) := by decide +kernel
theorem dX8_rule_36 : decode cX8_rule 36 = .ok (.if_icmp .le 8, 3) := by decide +kernel
theorem dX8_rule_39 : decode cX8_rule 39 = .ok (.bipush (-102), 2) := by decide +kernel
theorem dX8_rule_41 : decode cX8_rule 41 = .ok (.goto 11, 3) := by decide +kernel
theorem dX8_rule_44 : decode cX8_rule 44 = .ok (.aload_n 0, 1) := by decide +kernel
theorem dX8_rule_45 : decode cX8_rule 45 = .ok (.getfield 10, 3) := by decide +kernel
theorem dX8_rule_48 : decode cX8_rule 48 = .ok (.iload_n 2, 1) := by decide +kernel
theorem dX8_rule_49 : decode cX8_rule 49 = .ok (.invokevirtual 129, 3) := by decide +kernel
theorem dX8_rule_52 : decode cX8_rule 52 = .ok (.ireturn, 1) := by decide +kernel
theorem dX8_rule_53 : decode cX8_rule 53 = .ok (.iload_n 2, 1) := by decide +kernel
theorem dX8_rule_54 : decode cX8_rule 54 = .ok (.iconst 3, 1) := by decide +kernel
theorem dX8_rule_55 : decode cX8_rule 55 = .ok (.if_icmp .lt 9, 3) := by decide +kernel
theorem dX8_rule_58 : decode cX8_rule 58 = .ok (.iload_n 2, 1) := by decide +kernel
theorem dX8_rule_59 : decode cX8_rule 59 = .ok (.bipush 9, 2) := by decide +kernel
theorem dX8_rule_61 : decode cX8_rule 61 = .ok (.if_icmp .le 8, 3) := by decide +kernel
theorem dX8_rule_64 : decode cX8_rule 64 = .ok (.bipush (-102), 2) := by decide +kernel
theorem dX8_rule_66 : decode cX8_rule 66 = .ok (.goto 11, 3) := by decide +kernel
theorem dX8_rule_69 : decode cX8_rule 69 = .ok (.aload_n 0, 1) := by decide +kernel
theorem dX8_rule_70 : decode cX8_rule 70 = .ok (.getfield 10, 3) := by decide +kernel
theorem dX8_rule_73 : decode cX8_rule 73 = .ok (.iload_n 2, 1) := by decide +kernel
theorem dX8_rule_74 : decode cX8_rule 74 = .ok (.invokevirtual 132, 3) := by decide +kernel
theorem dX8_rule_77 : decode cX8_rule 77 = .ok (.ireturn, 1) := by decide +kernel
theorem dX8_rule_78 : decode cX8_rule 78 = .ok (.bipush (-101), 2) := by decide +kernel
theorem dX8_rule_80 : decode cX8_rule 80 = .ok (.ireturn, 1) := by decide +kernel
theorem dX8_size_0 : decode cX8_size 0 = .ok (.aload_n 0, 1) := by decide +kernel
theorem dX8_size_1 : decode cX8_size 1 = .ok (.getfield 10, 3) := by decide +kernel
theorem dX8_size_4 : decode cX8_size 4 = .ok (.iload_n 1, 1) := by decide +kernel
theorem dX8_size_5 : decode cX8_size 5 = .ok (.invokevirtual 135, 3) := by decide +kernel
theorem dX8_size_8 : decode cX8_size 8 = .ok (.ifCond .eq 10, 3) := by decide +kernel
theorem dX8_size_11 : decode cX8_size 11 = .ok (.iload_n 2, 1) := by decide +kernel
theorem dX8_size_12 : decode cX8_size 12 = .ok (.invokestatic 138, 3) := by decide +kernel
theorem dX8_size_15 : decode cX8_size 15 = .ok (.ifCond .ne 6, 3) := by decide +kernel
theorem dX8_size_18 : decode cX8_size 18 = .ok (.bipush (-102), 2) := by decide +kernel
theorem dX8_size_20 : decode cX8_size 20 = .ok (.ireturn, 1) := by decide +kernel
theorem dX8_size_21 : decode cX8_size 21 = .ok (.aload_n 0, 1) := by decide +kernel
theorem dX8_size_22 : decode cX8_size 22 = .ok (.getfield 21, 3) := by decide +kernel
theorem dX8_size_25 : decode cX8_size 25 = .ok (.iload_n 1, 1) := by decide +kernel
theorem dX8_size_26 : decode cX8_size 26 = .ok (.iload_n 2, 1) := by decide +kernel
theorem dX8_size_27 : decode cX8_size 27 = .ok (.invokevirtual 141, 3) := by decide +kernel
theorem dX8_size_30 : decode cX8_size 30 = .ok (.ireturn, 1) := by decide +kernel
theorem dX8_pages_0 : decode cX8_pages 0 = .ok (.aload_n 0, 1) := by decide +kernel
theorem dX8_pages_1 : decode cX8_pages 1 = .ok (.getfield 10, 3) := by decide +kernel
theorem dX8_pages_4 : decode cX8_pages 4 = .ok (.iload_n 1, 1) := by decide +kernel
theorem dX8_pages_5 : decode cX8_pages 5 = .ok (.invokevirtual 135, 3) := by decide +kernel
theorem dX8_pages_8 : decode cX8_pages 8 = .ok (.ifCond .eq 10, 3) := by decide +kernel
theorem dX8_pages_11 : decode cX8_pages 11 = .ok (.iload_n 2, 1) := by decide +kernel
theorem dX8_pages_12 : decode cX8_pages 12 = .ok (.invokestatic 138, 3) := by decide +kernel
theorem dX8_pages_15 : decode cX8_pages 15 = .ok (.ifCond .ne 6, 3) := by decide +kernel
theorem dX8_pages_18 : decode cX8_pages 18 = .ok (.bipush (-102), 2) := by decide +kernel
theorem dX8_pages_20 : decode cX8_pages 20 = .ok (.ireturn, 1) := by decide +kernel
theorem dX8_pages_21 : decode cX8_pages 21 = .ok (.aload_n 0, 1) := by decide +kernel
theorem dX8_pages_22 : decode cX8_pages 22 = .ok (.getfield 21, 3) := by decide +kernel
theorem dX8_pages_25 : decode cX8_pages 25 = .ok (.iload_n 1, 1) := by decide +kernel
theorem dX8_pages_26 : decode cX8_pages 26 = .ok (.iload_n 2, 1) := by decide +kernel
theorem dX8_pages_27 : decode cX8_pages 27 = .ok (.invokevirtual 144, 3) := by decide +kernel
theorem dX8_pages_30 : decode cX8_pages 30 = .ok (.ireturn, 1) := by decide +kernel
theorem dX8_joined_0 : decode cX8_joined 0 = .ok (.aload_n 0, 1) := by decide +kernel
theorem dX8_joined_1 : decode cX8_joined 1 = .ok (.iload_n 1, 1) := by decide +kernel
theorem dX8_joined_2 : decode cX8_joined 2 = .ok (.iload_n 3, 1) := by decide +kernel
theorem dX8_joined_3 : decode cX8_joined 3 = .ok (.invokevirtual 147, 3) := by decide +kernel
theorem dX8_joined_6 : decode cX8_joined 6 = .ok (.istore 4, 2) := by decide +kernel
theorem dX8_joined_8 : decode cX8_joined 8 = .ok (.iload 4, 2) := by decide +kernel
theorem dX8_joined_10 : decode cX8_joined 10 = .ok (.ifCond .eq 6, 3) := by decide +kernel
theorem dX8_joined_13 : decode cX8_joined 13 = .ok (.iload 4, 2) := by decide +kernel
theorem dX8_joined_15 : decode cX8_joined 15 = .ok (.ireturn, 1) := by decide +kernel
theorem dX8_joined_16 : decode cX8_joined 16 = .ok (.aload_n 0, 1) := by decide +kernel
theorem dX8_joined_17 : decode cX8_joined 17 = .ok (.getfield 21, 3) := by decide +kernel
theorem dX8_joined_20 : decode cX8_joined 20 = .ok (.iload_n 1, 1) := by decide +kernel
theorem dX8_joined_21 : decode cX8_joined 21 = .ok (.iload_n 2, 1) := by decide +kernel
theorem dX8_joined_22 : decode cX8_joined 22 = .ok (.invokevirtual 150, 3) := by decide +kernel
theorem dX8_joined_25 : decode cX8_joined 25 = .ok (.ifCond .eq 14, 3) := by decide +kernel
theorem dX8_joined_28 : decode cX8_joined 28 = .ok (.aload_n 0, 1) := by decide +kernel
theorem dX8_joined_29 : decode cX8_joined 29 = .ok (.getfield 21, 3) := by decide +kernel
theorem dX8_joined_32 : decode cX8_joined 32 = .ok (.iload_n 3, 1) := by decide +kernel
theorem dX8_joined_33 : decode cX8_joined 33 = .ok (.invokevirtual 153, 3) := by decide +kernel
theorem dX8_joined_36 : decode cX8_joined 36 = .ok (.goto 4, 3) := by decide +kernel
theorem dX8_joined_39 : decode cX8_joined 39 = .ok (.iconst (-1), 1) := by decide +kernel
theorem dX8_joined_40 : decode cX8_joined 40 = .ok (.ireturn, 1) := by decide +kernel
theorem dX8_value_0 : decode cX8_value 0 = .ok (.aload_n 0, 1) := by decide +kernel
theorem dX8_value_1 : decode cX8_value 1 = .ok (.getfield 10, 3) := by decide +kernel
theorem dX8_value_4 : decode cX8_value 4 = .ok (.iload_n 1, 1) := by decide +kernel
theorem dX8_value_5 : decode cX8_value 5 = .ok (.invokevirtual 135, 3) := by decide +kernel
theorem dX8_value_8 : decode cX8_value 8 = .ok (.ifCond .ne 6, 3) := by decide +kernel
theorem dX8_value_11 : decode cX8_value 11 = .ok (.bipush (-102), 2) := by decide +kernel
theorem dX8_value_13 : decode cX8_value 13 = .ok (.ireturn, 1) := by decide +kernel
theorem dX8_value_14 : decode cX8_value 14 = .ok (.iload_n 3, 1) := by decide +kernel
theorem dX8_value_15 : decode cX8_value 15 = .ok (.invokestatic 108, 3) := by decide +kernel
theorem dX8_value_18 : decode cX8_value 18 = .ok (.ifCond .ne 6, 3) := by decide +kernel
theorem dX8_value_21 : decode cX8_value 21 = .ok (.bipush (-101), 2) := by decide +kernel
theorem dX8_value_23 : decode cX8_value 23 = .ok (.ireturn, 1) := by decide +kernel
theorem dX8_value_24 : decode cX8_value 24 = .ok (.aload_n 0, 1) := by decide +kernel
theorem dX8_value_25 : decode cX8_value 25 = .ok (.getfield 10, 3) := by decide +kernel
theorem dX8_value_28 : decode cX8_value 28 = .ok (.iload_n 1, 1) := by decide +kernel
theorem dX8_value_29 : decode cX8_value 29 = .ok (.invokevirtual 156, 3) := by decide +kernel
theorem dX8_value_32 : decode cX8_value 32 = .ok (.iload_n 3, 1) := by decide +kernel
theorem dX8_value_33 : decode cX8_value 33 = .ok (.ishr, 1) := by decide +kernel
theorem dX8_value_34 : decode cX8_value 34 = .ok (.iconst 1, 1) := by decide +kernel
theorem dX8_value_35 : decode cX8_value 35 = .ok (.iand, 1) := by decide +kernel
theorem dX8_value_36 : decode cX8_value 36 = .ok (.iconst 1, 1) := by decide +kernel
theorem dX8_value_37 : decode cX8_value 37 = .ok (.if_icmp .ne 7, 3) := by decide +kernel
theorem dX8_value_40 : decode cX8_value 40 = .ok (.iconst 1, 1) := by decide +kernel
theorem dX8_value_41 : decode cX8_value 41 = .ok (.goto 4, 3) := by decide +kernel
theorem dX8_value_44 : decode cX8_value 44 = .ok (.iconst 0, 1) := by decide +kernel
theorem dX8_value_45 : decode cX8_value 45 = .ok (.istore 4, 2) := by decide +kernel
theorem dX8_value_47 : decode cX8_value 47 = .ok (.iload 4, 2) := by decide +kernel
theorem dX8_value_49 : decode cX8_value 49 = .ok (.ifCond .eq 27, 3) := by decide +kernel
theorem dX8_value_52 : decode cX8_value 52 = .ok (.aload_n 0, 1) := by decide +kernel
theorem dX8_value_53 : decode cX8_value 53 = .ok (.getfield 21, 3) := by decide +kernel
theorem dX8_value_56 : decode cX8_value 56 = .ok (.iload_n 1, 1) := by decide +kernel
theorem dX8_value_57 : decode cX8_value 57 = .ok (.iload_n 2, 1) := by decide +kernel
theorem dX8_value_58 : decode cX8_value 58 = .ok (.invokevirtual 150, 3) := by decide +kernel
theorem dX8_value_61 : decode cX8_value 61 = .ok (.ifCond .eq 15, 3) := by decide +kernel
theorem dX8_value_64 : decode cX8_value 64 = .ok (.aload_n 0, 1) := by decide +kernel
theorem dX8_value_65 : decode cX8_value 65 = .ok (.getfield 21, 3) := by decide +kernel
theorem dX8_value_68 : decode cX8_value 68 = .ok (.iload_n 1, 1) := by decide +kernel
theorem dX8_value_69 : decode cX8_value 69 = .ok (.iload_n 3, 1) := by decide +kernel
theorem dX8_value_70 : decode cX8_value 70 = .ok (.invokevirtual 159, 3) := by decide +kernel
theorem dX8_value_73 : decode cX8_value 73 = .ok (.goto 4, 3) := by decide +kernel
theorem dX8_value_76 : decode cX8_value 76 = .ok (.iconst (-1), 1) := by decide +kernel
theorem dX8_value_77 : decode cX8_value 77 = .ok (.ireturn, 1) := by decide +kernel
theorem dX8_idle_0 : decode cX8_idle 0 = .ok (.aload_n 0, 1) := by decide +kernel
theorem dX8_idle_1 : decode cX8_idle 1 = .ok (.iload_n 1, 1) := by decide +kernel
theorem dX8_idle_2 : decode cX8_idle 2 = .ok (.iload_n 2, 1) := by decide +kernel
theorem dX8_idle_3 : decode cX8_idle 3 = .ok (.invokevirtual 147, 3) := by decide +kernel
theorem dX8_idle_6 : decode cX8_idle 6 = .ok (.istore_n 3, 1) := by decide +kernel
theorem dX8_idle_7 : decode cX8_idle 7 = .ok (.iload_n 3, 1) := by decide +kernel
theorem dX8_idle_8 : decode cX8_idle 8 = .ok (.ifCond .eq 7, 3) := by decide +kernel
theorem dX8_idle_11 : decode cX8_idle 11 = .ok (.iload_n 3, 1) := by decide +kernel
theorem dX8_idle_12 : decode cX8_idle 12 = .ok (.goto 12, 3) := by decide +kernel
theorem dX8_idle_15 : decode cX8_idle 15 = .ok (.aload_n 0, 1) := by decide +kernel
theorem dX8_idle_16 : decode cX8_idle 16 = .ok (.getfield 21, 3) := by decide +kernel
theorem dX8_idle_19 : decode cX8_idle 19 = .ok (.iload_n 1, 1) := by decide +kernel
theorem dX8_idle_20 : decode cX8_idle 20 = .ok (.iload_n 2, 1) := by decide +kernel
theorem dX8_idle_21 : decode cX8_idle 21 = .ok (.invokevirtual 162, 3) := by decide +kernel
theorem dX8_idle_24 : decode cX8_idle 24 = .ok (.ireturn, 1) := by decide +kernel
theorem dX8_letters_0 : decode cX8_letters 0 = .ok (.iconst 0, 1) := by decide +kernel
theorem dX8_letters_1 : decode cX8_letters 1 = .ok (.istore_n 3, 1) := by decide +kernel
theorem dX8_letters_2 : decode cX8_letters 2 = .ok (.iconst 0, 1) := by decide +kernel
theorem dX8_letters_3 : decode cX8_letters 3 = .ok (.istore 4, 2) := by decide +kernel
theorem dX8_letters_5 : decode cX8_letters 5 = .ok (.iload 4, 2) := by decide +kernel
theorem dX8_letters_7 : decode cX8_letters 7 = .ok (.bipush 8, 2) := by decide +kernel
theorem dX8_letters_9 : decode cX8_letters 9 = .ok (.if_icmp .ge 64, 3) := by decide +kernel
theorem dX8_letters_12 : decode cX8_letters 12 = .ok (.lload_n 1, 1) := by decide +kernel
theorem dX8_letters_13 : decode cX8_letters 13 = .ok (.bipush 8, 2) := by decide +kernel
theorem dX8_letters_15 : decode cX8_letters 15 = .ok (.iload 4, 2) := by decide +kernel
theorem dX8_letters_17 : decode cX8_letters 17 = .ok (.imul, 1) := by decide +kernel
theorem dX8_letters_18 : decode cX8_letters 18 = .ok (.lushr, 1) := by decide +kernel
theorem dX8_letters_19 : decode cX8_letters 19 = .ok (.ldc2_w 165, 3) := by decide +kernel
theorem dX8_letters_22 : decode cX8_letters 22 = .ok (.land, 1) := by decide +kernel
theorem dX8_letters_23 : decode cX8_letters 23 = .ok (.l2i, 1) := by decide +kernel
theorem dX8_letters_24 : decode cX8_letters 24 = .ok (.istore 5, 2) := by decide +kernel
theorem dX8_letters_26 : decode cX8_letters 26 = .ok (.iload 5, 2) := by decide +kernel
theorem dX8_letters_28 : decode cX8_letters 28 = .ok (.ifCond .eq 13, 3) := by decide +kernel
theorem dX8_letters_31 : decode cX8_letters 31 = .ok (.iload_n 3, 1) := by decide +kernel
theorem dX8_letters_32 : decode cX8_letters 32 = .ok (.iload 4, 2) := by decide +kernel
theorem dX8_letters_34 : decode cX8_letters 34 = .ok (.if_icmp .ge 7, 3) := by decide +kernel
theorem dX8_letters_37 : decode cX8_letters 37 = .ok (.iconst 1, 1) := by decide +kernel
theorem dX8_letters_38 : decode cX8_letters 38 = .ok (.goto 4, 3) := by decide +kernel
theorem dX8_letters_41 : decode cX8_letters 41 = .ok (.iconst 0, 1) := by decide +kernel
theorem dX8_letters_42 : decode cX8_letters 42 = .ok (.istore 6, 2) := by decide +kernel
theorem dX8_letters_44 : decode cX8_letters 44 = .ok (.iload 5, 2) := by decide +kernel
theorem dX8_letters_46 : decode cX8_letters 46 = .ok (.bipush 126, 2) := by decide +kernel
theorem dX8_letters_48 : decode cX8_letters 48 = .ok (.if_icmp .gt 8, 3) := by decide +kernel
theorem dX8_letters_51 : decode cX8_letters 51 = .ok (.iload 6, 2) := by decide +kernel
theorem dX8_letters_53 : decode cX8_letters 53 = .ok (.ifCond .eq 6, 3) := by decide +kernel
theorem dX8_letters_56 : decode cX8_letters 56 = .ok (.bipush (-102), 2) := by decide +kernel
theorem dX8_letters_58 : decode cX8_letters 58 = .ok (.ireturn, 1) := by decide +kernel
theorem dX8_letters_59 : decode cX8_letters 59 = .ok (.iload 5, 2) := by decide +kernel
theorem dX8_letters_61 : decode cX8_letters 61 = .ok (.ifCond .eq 6, 3) := by decide +kernel
theorem dX8_letters_64 : decode cX8_letters 64 = .ok (.iinc 3 1, 3) := by decide +kernel
theorem dX8_letters_67 : decode cX8_letters 67 = .ok (.iinc 4 1, 3) := by decide +kernel
theorem dX8_letters_70 : decode cX8_letters 70 = .ok (.goto (-65), 3) := by decide +kernel
theorem dX8_letters_73 : decode cX8_letters 73 = .ok (.aload_n 0, 1) := by decide +kernel
theorem dX8_letters_74 : decode cX8_letters 74 = .ok (.getfield 28, 3) := by decide +kernel
theorem dX8_letters_77 : decode cX8_letters 77 = .ok (.lload_n 1, 1) := by decide +kernel
theorem dX8_letters_78 : decode cX8_letters 78 = .ok (.iload_n 3, 1) := by decide +kernel
theorem dX8_letters_79 : decode cX8_letters 79 = .ok (.invokevirtual 167, 3) := by decide +kernel
theorem dX8_letters_82 : decode cX8_letters 82 = .ok (.ireturn, 1) := by decide +kernel
theorem dX8_blank_0 : decode cX8_blank 0 = .ok (.aload_n 0, 1) := by decide +kernel
theorem dX8_blank_1 : decode cX8_blank 1 = .ok (.getfield 28, 3) := by decide +kernel
theorem dX8_blank_4 : decode cX8_blank 4 = .ok (.invokevirtual 171, 3) := by decide +kernel
theorem dX8_blank_7 : decode cX8_blank 7 = .ok (.ireturn, 1) := by decide +kernel
theorem dX8_good_0 : decode cX8_good 0 = .ok (.aload_n 0, 1) := by decide +kernel
theorem dX8_good_1 : decode cX8_good 1 = .ok (.getfield 28, 3) := by decide +kernel
theorem dX8_good_4 : decode cX8_good 4 = .ok (.aload_n 0, 1) := by decide +kernel
theorem dX8_good_5 : decode cX8_good 5 = .ok (.getfield 10, 3) := by decide +kernel
theorem dX8_good_8 : decode cX8_good 8 = .ok (.invokevirtual 175, 3) := by decide +kernel
theorem dX8_good_11 : decode cX8_good 11 = .ok (.invokevirtual 178, 3) := by decide +kernel
theorem dX8_good_14 : decode cX8_good 14 = .ok (.ireturn, 1) := by decide +kernel
theorem dX8_plan_0 : decode cX8_plan 0 = .ok (.iload_n 1, 1) := by decide +kernel
theorem dX8_plan_1 : decode cX8_plan 1 = .ok (.invokestatic 138, 3) := by decide +kernel
theorem dX8_plan_4 : decode cX8_plan 4 = .ok (.ifCond .eq 12, 3) := by decide +kernel
theorem dX8_plan_7 : decode cX8_plan 7 = .ok (.iload_n 2, 1) := by decide +kernel
theorem dX8_plan_8 : decode cX8_plan 8 = .ok (.ifCond .lt 8, 3) := by decide +kernel
theorem dX8_plan_11 : decode cX8_plan 11 = .ok (.iload_n 2, 1) := by decide +kernel
theorem dX8_plan_12 : decode cX8_plan 12 = .ok (.iconst 3, 1) := by decide +kernel
theorem dX8_plan_13 : decode cX8_plan 13 = .ok (.if_icmp .le 6, 3) := by decide +kernel
theorem dX8_plan_16 : decode cX8_plan 16 = .ok (.bipush (-102), 2) := by decide +kernel
theorem dX8_plan_18 : decode cX8_plan 18 = .ok (.ireturn, 1) := by decide +kernel
theorem dX8_plan_19 : decode cX8_plan 19 = .ok (.aload_n 0, 1) := by decide +kernel
theorem dX8_plan_20 : decode cX8_plan 20 = .ok (.getfield 28, 3) := by decide +kernel
theorem dX8_plan_23 : decode cX8_plan 23 = .ok (.aload_n 0, 1) := by decide +kernel
theorem dX8_plan_24 : decode cX8_plan 24 = .ok (.getfield 10, 3) := by decide +kernel
theorem dX8_plan_27 : decode cX8_plan 27 = .ok (.invokevirtual 175, 3) := by decide +kernel
theorem dX8_plan_30 : decode cX8_plan 30 = .ok (.invokevirtual 181, 3) := by decide +kernel
theorem dX8_plan_33 : decode cX8_plan 33 = .ok (.ifCond .ne 6, 3) := by decide +kernel
theorem dX8_plan_36 : decode cX8_plan 36 = .ok (.bipush (-103), 2) := by decide +kernel
theorem dX8_plan_38 : decode cX8_plan 38 = .ok (.ireturn, 1) := by decide +kernel
theorem dX8_plan_39 : decode cX8_plan 39 = .ok (.aload_n 0, 1) := by decide +kernel
theorem dX8_plan_40 : decode cX8_plan 40 = .ok (.getfield 37, 3) := by decide +kernel
theorem dX8_plan_43 : decode cX8_plan 43 = .ok (.aload_n 0, 1) := by decide +kernel
theorem dX8_plan_44 : decode cX8_plan 44 = .ok (.getfield 28, 3) := by decide +kernel
theorem dX8_plan_47 : decode cX8_plan 47 = .ok (.invokevirtual 184, 3) := by decide +kernel
theorem dX8_plan_50 : decode cX8_plan 50 = .ok (.aload_n 0, 1) := by decide +kernel
theorem dX8_plan_51 : decode cX8_plan 51 = .ok (.getfield 28, 3) := by decide +kernel
theorem dX8_plan_54 : decode cX8_plan 54 = .ok (.invokevirtual 188, 3) := by decide +kernel
theorem dX8_plan_57 : decode cX8_plan 57 = .ok (.iload_n 1, 1) := by decide +kernel
theorem dX8_plan_58 : decode cX8_plan 58 = .ok (.invokevirtual 191, 3) := by decide +kernel
theorem dX8_plan_61 : decode cX8_plan 61 = .ok (.iload_n 2, 1) := by decide +kernel
theorem dX8_plan_62 : decode cX8_plan 62 = .ok (.tableswitch 80 0 2 #[26, 34, 57], 26) := by decide +kernel
theorem dX8_plan_88 : decode cX8_plan 88 = .ok (.aload_n 0, 1) := by decide +kernel
theorem dX8_plan_89 : decode cX8_plan 89 = .ok (.getfield 37, 3) := by decide +kernel
theorem dX8_plan_92 : decode cX8_plan 92 = .ok (.invokevirtual 195, 3) := by decide +kernel
theorem dX8_plan_95 : decode cX8_plan 95 = .ok (.ireturn, 1) := by decide +kernel
theorem dX8_plan_96 : decode cX8_plan 96 = .ok (.aload_n 0, 1) := by decide +kernel
theorem dX8_plan_97 : decode cX8_plan 97 = .ok (.getfield 37, 3) := by decide +kernel
theorem dX8_plan_100 : decode cX8_plan 100 = .ok (.invokevirtual 198, 3) := by decide +kernel
theorem dX8_plan_103 : decode cX8_plan 103 = .ok (.ifCond .eq 13, 3) := by decide +kernel
theorem dX8_plan_106 : decode cX8_plan 106 = .ok (.aload_n 0, 1) := by decide +kernel
theorem dX8_plan_107 : decode cX8_plan 107 = .ok (.getfield 37, 3) := by decide +kernel
theorem dX8_plan_110 : decode cX8_plan 110 = .ok (.invokevirtual 202, 3) := by decide +kernel
theorem dX8_plan_113 : decode cX8_plan 113 = .ok (.goto 5, 3) := by decide +kernel
theorem dX8_plan_116 : decode cX8_plan 116 = .ok (.bipush (-2), 2) := by decide +kernel
theorem dX8_plan_118 : decode cX8_plan 118 = .ok (.ireturn, 1) := by decide +kernel
theorem dX8_plan_119 : decode cX8_plan 119 = .ok (.aload_n 0, 1) := by decide +kernel
theorem dX8_plan_120 : decode cX8_plan 120 = .ok (.getfield 37, 3) := by decide +kernel
theorem dX8_plan_123 : decode cX8_plan 123 = .ok (.invokevirtual 198, 3) := by decide +kernel
theorem dX8_plan_126 : decode cX8_plan 126 = .ok (.ifCond .eq 13, 3) := by decide +kernel
theorem dX8_plan_129 : decode cX8_plan 129 = .ok (.aload_n 0, 1) := by decide +kernel
theorem dX8_plan_130 : decode cX8_plan 130 = .ok (.getfield 37, 3) := by decide +kernel
theorem dX8_plan_133 : decode cX8_plan 133 = .ok (.invokevirtual 205, 3) := by decide +kernel
theorem dX8_plan_136 : decode cX8_plan 136 = .ok (.goto 5, 3) := by decide +kernel
theorem dX8_plan_139 : decode cX8_plan 139 = .ok (.bipush (-2), 2) := by decide +kernel
theorem dX8_plan_141 : decode cX8_plan 141 = .ok (.ireturn, 1) := by decide +kernel
theorem dX8_plan_142 : decode cX8_plan 142 = .ok (.aload_n 0, 1) := by decide +kernel
theorem dX8_plan_143 : decode cX8_plan 143 = .ok (.getfield 37, 3) := by decide +kernel
theorem dX8_plan_146 : decode cX8_plan 146 = .ok (.invokevirtual 208, 3) := by decide +kernel
theorem dX8_plan_149 : decode cX8_plan 149 = .ok (.ireturn, 1) := by decide +kernel
theorem dX8_best_0 : decode cX8_best 0 = .ok (.aload_n 0, 1) := by decide +kernel
theorem dX8_best_1 : decode cX8_best 1 = .ok (.iload_n 1, 1) := by decide +kernel
theorem dX8_best_2 : decode cX8_best 2 = .ok (.iload_n 2, 1) := by decide +kernel
theorem dX8_best_3 : decode cX8_best 3 = .ok (.iload_n 3, 1) := by decide +kernel
theorem dX8_best_4 : decode cX8_best 4 = .ok (.iload 4, 2) := by decide +kernel
theorem dX8_best_6 : decode cX8_best 6 = .ok (.invokevirtual 211, 3) := by decide +kernel
theorem dX8_best_9 : decode cX8_best 9 = .ok (.istore 5, 2) := by decide +kernel
theorem dX8_best_11 : decode cX8_best 11 = .ok (.iload 5, 2) := by decide +kernel
theorem dX8_best_13 : decode cX8_best 13 = .ok (.ifCond .eq 6, 3) := by decide +kernel
theorem dX8_best_16 : decode cX8_best 16 = .ok (.iload 5, 2) := by decide +kernel
theorem dX8_best_18 : decode cX8_best 18 = .ok (.ireturn, 1) := by decide +kernel
theorem dX8_best_19 : decode cX8_best 19 = .ok (.aload_n 0, 1) := by decide +kernel
theorem dX8_best_20 : decode cX8_best 20 = .ok (.dup, 1) := by decide +kernel
theorem dX8_best_21 : decode cX8_best 21 = .ok (.getfield 55, 3) := by decide +kernel
theorem dX8_best_24 : decode cX8_best 24 = .ok (.iconst 1, 1) := by decide +kernel
theorem dX8_best_25 : decode cX8_best 25 = .ok (.iadd, 1) := by decide +kernel
theorem dX8_best_26 : decode cX8_best 26 = .ok (.putfield 55, 3) := by decide +kernel
theorem dX8_best_29 : decode cX8_best 29 = .ok (.aload_n 0, 1) := by decide +kernel
theorem dX8_best_30 : decode cX8_best 30 = .ok (.getfield 44, 3) := by decide +kernel
theorem dX8_best_33 : decode cX8_best 33 = .ok (.iload_n 1, 1) := by decide +kernel
theorem dX8_best_34 : decode cX8_best 34 = .ok (.iload_n 2, 1) := by decide +kernel
theorem dX8_best_35 : decode cX8_best 35 = .ok (.iload_n 3, 1) := by decide +kernel
theorem dX8_best_36 : decode cX8_best 36 = .ok (.invokevirtual 214, 3) := by decide +kernel
theorem dX8_best_39 : decode cX8_best 39 = .ok (.aload_n 0, 1) := by decide +kernel
theorem dX8_best_40 : decode cX8_best 40 = .ok (.getfield 44, 3) := by decide +kernel
theorem dX8_best_43 : decode cX8_best 43 = .ok (.iload_n 1, 1) := by decide +kernel
theorem dX8_best_44 : decode cX8_best 44 = .ok (.iload 4, 2) := by decide +kernel
theorem dX8_best_46 : decode cX8_best 46 = .ok (.invokevirtual 218, 3) := by decide +kernel
theorem dX8_best_49 : decode cX8_best 49 = .ok (.ireturn, 1) := by decide +kernel
theorem dX8_sign_0 : decode cX8_sign 0 = .ok (.aload_n 0, 1) := by decide +kernel
theorem dX8_sign_1 : decode cX8_sign 1 = .ok (.iload_n 1, 1) := by decide +kernel
theorem dX8_sign_2 : decode cX8_sign 2 = .ok (.iload_n 2, 1) := by decide +kernel
theorem dX8_sign_3 : decode cX8_sign 3 = .ok (.iload_n 3, 1) := by decide +kernel
theorem dX8_sign_4 : decode cX8_sign 4 = .ok (.iload 4, 2) := by decide +kernel
theorem dX8_sign_6 : decode cX8_sign 6 = .ok (.invokevirtual 211, 3) := by decide +kernel
theorem dX8_sign_9 : decode cX8_sign 9 = .ok (.istore 6, 2) := by decide +kernel
theorem dX8_sign_11 : decode cX8_sign 11 = .ok (.iload 6, 2) := by decide +kernel
theorem dX8_sign_13 : decode cX8_sign 13 = .ok (.ifCond .eq 6, 3) := by decide +kernel
theorem dX8_sign_16 : decode cX8_sign 16 = .ok (.iload 6, 2) := by decide +kernel
theorem dX8_sign_18 : decode cX8_sign 18 = .ok (.ireturn, 1) := by decide +kernel
theorem dX8_sign_19 : decode cX8_sign 19 = .ok (.aload_n 0, 1) := by decide +kernel
theorem dX8_sign_20 : decode cX8_sign 20 = .ok (.dup, 1) := by decide +kernel
theorem dX8_sign_21 : decode cX8_sign 21 = .ok (.getfield 55, 3) := by decide +kernel
theorem dX8_sign_24 : decode cX8_sign 24 = .ok (.iconst 1, 1) := by decide +kernel
theorem dX8_sign_25 : decode cX8_sign 25 = .ok (.iadd, 1) := by decide +kernel
theorem dX8_sign_26 : decode cX8_sign 26 = .ok (.putfield 55, 3) := by decide +kernel
theorem dX8_sign_29 : decode cX8_sign 29 = .ok (.aload_n 0, 1) := by decide +kernel
theorem dX8_sign_30 : decode cX8_sign 30 = .ok (.getfield 44, 3) := by decide +kernel
theorem dX8_sign_33 : decode cX8_sign 33 = .ok (.iload_n 1, 1) := by decide +kernel
theorem dX8_sign_34 : decode cX8_sign 34 = .ok (.iload_n 2, 1) := by decide +kernel
theorem dX8_sign_35 : decode cX8_sign 35 = .ok (.iload_n 3, 1) := by decide +kernel
theorem dX8_sign_36 : decode cX8_sign 36 = .ok (.invokevirtual 214, 3) := by decide +kernel
theorem dX8_sign_39 : decode cX8_sign 39 = .ok (.aload_n 0, 1) := by decide +kernel
theorem dX8_sign_40 : decode cX8_sign 40 = .ok (.getfield 44, 3) := by decide +kernel
theorem dX8_sign_43 : decode cX8_sign 43 = .ok (.iload_n 1, 1) := by decide +kernel
theorem dX8_sign_44 : decode cX8_sign 44 = .ok (.iload 4, 2) := by decide +kernel
theorem dX8_sign_46 : decode cX8_sign 46 = .ok (.invokevirtual 221, 3) := by decide +kernel
theorem dX8_sign_49 : decode cX8_sign 49 = .ok (.pop, 1) := by decide +kernel
theorem dX8_sign_50 : decode cX8_sign 50 = .ok (.aload_n 0, 1) := by decide +kernel
theorem dX8_sign_51 : decode cX8_sign 51 = .ok (.getfield 44, 3) := by decide +kernel
theorem dX8_sign_54 : decode cX8_sign 54 = .ok (.iload 5, 2) := by decide +kernel
theorem dX8_sign_56 : decode cX8_sign 56 = .ok (.invokevirtual 224, 3) := by decide +kernel
theorem dX8_sign_59 : decode cX8_sign 59 = .ok (.ireturn, 1) := by decide +kernel
theorem dX8_regret_0 : decode cX8_regret 0 = .ok (.aload_n 0, 1) := by decide +kernel
theorem dX8_regret_1 : decode cX8_regret 1 = .ok (.iload_n 1, 1) := by decide +kernel
theorem dX8_regret_2 : decode cX8_regret 2 = .ok (.iload_n 2, 1) := by decide +kernel
theorem dX8_regret_3 : decode cX8_regret 3 = .ok (.iconst 0, 1) := by decide +kernel
theorem dX8_regret_4 : decode cX8_regret 4 = .ok (.iconst (-1), 1) := by decide +kernel
theorem dX8_regret_5 : decode cX8_regret 5 = .ok (.invokevirtual 211, 3) := by decide +kernel
theorem dX8_regret_8 : decode cX8_regret 8 = .ok (.istore_n 3, 1) := by decide +kernel
theorem dX8_regret_9 : decode cX8_regret 9 = .ok (.iload_n 3, 1) := by decide +kernel
theorem dX8_regret_10 : decode cX8_regret 10 = .ok (.ifCond .eq 5, 3) := by decide +kernel
theorem dX8_regret_13 : decode cX8_regret 13 = .ok (.iload_n 3, 1) := by decide +kernel
theorem dX8_regret_14 : decode cX8_regret 14 = .ok (.ireturn, 1) := by decide +kernel
theorem dX8_regret_15 : decode cX8_regret 15 = .ok (.aload_n 0, 1) := by decide +kernel
theorem dX8_regret_16 : decode cX8_regret 16 = .ok (.dup, 1) := by decide +kernel
theorem dX8_regret_17 : decode cX8_regret 17 = .ok (.getfield 55, 3) := by decide +kernel
theorem dX8_regret_20 : decode cX8_regret 20 = .ok (.iconst 1, 1) := by decide +kernel
theorem dX8_regret_21 : decode cX8_regret 21 = .ok (.iadd, 1) := by decide +kernel
theorem dX8_regret_22 : decode cX8_regret 22 = .ok (.putfield 55, 3) := by decide +kernel
theorem dX8_regret_25 : decode cX8_regret 25 = .ok (.aload_n 0, 1) := by decide +kernel
theorem dX8_regret_26 : decode cX8_regret 26 = .ok (.getfield 44, 3) := by decide +kernel
theorem dX8_regret_29 : decode cX8_regret 29 = .ok (.iload_n 1, 1) := by decide +kernel
theorem dX8_regret_30 : decode cX8_regret 30 = .ok (.iload_n 2, 1) := by decide +kernel
theorem dX8_regret_31 : decode cX8_regret 31 = .ok (.iconst 1, 1) := by decide +kernel
theorem dX8_regret_32 : decode cX8_regret 32 = .ok (.invokevirtual 214, 3) := by decide +kernel
theorem dX8_regret_35 : decode cX8_regret 35 = .ok (.aload_n 0, 1) := by decide +kernel
theorem dX8_regret_36 : decode cX8_regret 36 = .ok (.getfield 44, 3) := by decide +kernel
theorem dX8_regret_39 : decode cX8_regret 39 = .ok (.iload_n 1, 1) := by decide +kernel
theorem dX8_regret_40 : decode cX8_regret 40 = .ok (.iconst (-1), 1) := by decide +kernel
theorem dX8_regret_41 : decode cX8_regret 41 = .ok (.invokevirtual 221, 3) := by decide +kernel
theorem dX8_regret_44 : decode cX8_regret 44 = .ok (.istore 4, 2) := by decide +kernel
theorem dX8_regret_46 : decode cX8_regret 46 = .ok (.aload_n 0, 1) := by decide +kernel
theorem dX8_regret_47 : decode cX8_regret 47 = .ok (.getfield 37, 3) := by decide +kernel
theorem dX8_regret_50 : decode cX8_regret 50 = .ok (.aload_n 0, 1) := by decide +kernel
theorem dX8_regret_51 : decode cX8_regret 51 = .ok (.getfield 44, 3) := by decide +kernel
theorem dX8_regret_54 : decode cX8_regret 54 = .ok (.invokevirtual 227, 3) := by decide +kernel
theorem dX8_regret_57 : decode cX8_regret 57 = .ok (.iload 4, 2) := by decide +kernel
theorem dX8_regret_59 : decode cX8_regret 59 = .ok (.iconst 0, 1) := by decide +kernel
theorem dX8_regret_60 : decode cX8_regret 60 = .ok (.invokevirtual 191, 3) := by decide +kernel
theorem dX8_regret_63 : decode cX8_regret 63 = .ok (.aload_n 0, 1) := by decide +kernel
theorem dX8_regret_64 : decode cX8_regret 64 = .ok (.getfield 44, 3) := by decide +kernel
theorem dX8_regret_67 : decode cX8_regret 67 = .ok (.iload_n 1, 1) := by decide +kernel
theorem dX8_regret_68 : decode cX8_regret 68 = .ok (.iload_n 2, 1) := by decide +kernel
theorem dX8_regret_69 : decode cX8_regret 69 = .ok (.iconst 0, 1) := by decide +kernel
theorem dX8_regret_70 : decode cX8_regret 70 = .ok (.invokevirtual 214, 3) := by decide +kernel
theorem dX8_regret_73 : decode cX8_regret 73 = .ok (.aload_n 0, 1) := by decide +kernel
theorem dX8_regret_74 : decode cX8_regret 74 = .ok (.getfield 37, 3) := by decide +kernel
theorem dX8_regret_77 : decode cX8_regret 77 = .ok (.invokevirtual 202, 3) := by decide +kernel
theorem dX8_regret_80 : decode cX8_regret 80 = .ok (.aload_n 0, 1) := by decide +kernel
theorem dX8_regret_81 : decode cX8_regret 81 = .ok (.getfield 44, 3) := by decide +kernel
theorem dX8_regret_84 : decode cX8_regret 84 = .ok (.iload_n 1, 1) := by decide +kernel
theorem dX8_regret_85 : decode cX8_regret 85 = .ok (.iconst (-1), 1) := by decide +kernel
theorem dX8_regret_86 : decode cX8_regret 86 = .ok (.invokevirtual 218, 3) := by decide +kernel
theorem dX8_regret_89 : decode cX8_regret 89 = .ok (.isub, 1) := by decide +kernel
theorem dX8_regret_90 : decode cX8_regret 90 = .ok (.ireturn, 1) := by decide +kernel
theorem dX8_hangs_0 : decode cX8_hangs 0 = .ok (.aload_n 0, 1) := by decide +kernel
theorem dX8_hangs_1 : decode cX8_hangs 1 = .ok (.getfield 10, 3) := by decide +kernel
theorem dX8_hangs_4 : decode cX8_hangs 4 = .ok (.iload_n 1, 1) := by decide +kernel
theorem dX8_hangs_5 : decode cX8_hangs 5 = .ok (.invokevirtual 135, 3) := by decide +kernel
theorem dX8_hangs_8 : decode cX8_hangs 8 = .ok (.ifCond .ne 6, 3) := by decide +kernel
theorem dX8_hangs_11 : decode cX8_hangs 11 = .ok (.bipush (-102), 2) := by decide +kernel
theorem dX8_hangs_13 : decode cX8_hangs 13 = .ok (.ireturn, 1) := by decide +kernel
theorem dX8_hangs_14 : decode cX8_hangs 14 = .ok (.aload_n 0, 1) := by decide +kernel
theorem dX8_hangs_15 : decode cX8_hangs 15 = .ok (.getfield 51, 3) := by decide +kernel
theorem dX8_hangs_18 : decode cX8_hangs 18 = .ok (.iload_n 1, 1) := by decide +kernel
theorem dX8_hangs_19 : decode cX8_hangs 19 = .ok (.invokevirtual 228, 3) := by decide +kernel
theorem dX8_hangs_22 : decode cX8_hangs 22 = .ok (.ifCond .eq 7, 3) := by decide +kernel
theorem dX8_hangs_25 : decode cX8_hangs 25 = .ok (.iconst 1, 1) := by decide +kernel
theorem dX8_hangs_26 : decode cX8_hangs 26 = .ok (.goto 4, 3) := by decide +kernel
theorem dX8_hangs_29 : decode cX8_hangs 29 = .ok (.iconst 0, 1) := by decide +kernel
theorem dX8_hangs_30 : decode cX8_hangs 30 = .ok (.ireturn, 1) := by decide +kernel
theorem dX8_goes_0 : decode cX8_goes 0 = .ok (.aload_n 0, 1) := by decide +kernel
theorem dX8_goes_1 : decode cX8_goes 1 = .ok (.getfield 10, 3) := by decide +kernel
theorem dX8_goes_4 : decode cX8_goes 4 = .ok (.iload_n 1, 1) := by decide +kernel
theorem dX8_goes_5 : decode cX8_goes 5 = .ok (.invokevirtual 135, 3) := by decide +kernel
theorem dX8_goes_8 : decode cX8_goes 8 = .ok (.ifCond .ne 6, 3) := by decide +kernel
theorem dX8_goes_11 : decode cX8_goes 11 = .ok (.bipush (-102), 2) := by decide +kernel
theorem dX8_goes_13 : decode cX8_goes 13 = .ok (.ireturn, 1) := by decide +kernel
theorem dX8_goes_14 : decode cX8_goes 14 = .ok (.aload_n 0, 1) := by decide +kernel
theorem dX8_goes_15 : decode cX8_goes 15 = .ok (.getfield 51, 3) := by decide +kernel
theorem dX8_goes_18 : decode cX8_goes 18 = .ok (.iload_n 1, 1) := by decide +kernel
theorem dX8_goes_19 : decode cX8_goes 19 = .ok (.invokevirtual 228, 3) := by decide +kernel
theorem dX8_goes_22 : decode cX8_goes 22 = .ok (.pop, 1) := by decide +kernel
theorem dX8_goes_23 : decode cX8_goes 23 = .ok (.aload_n 0, 1) := by decide +kernel
theorem dX8_goes_24 : decode cX8_goes 24 = .ok (.getfield 51, 3) := by decide +kernel
theorem dX8_goes_27 : decode cX8_goes 27 = .ok (.iload_n 2, 1) := by decide +kernel
theorem dX8_goes_28 : decode cX8_goes 28 = .ok (.invokevirtual 231, 3) := by decide +kernel
theorem dX8_goes_31 : decode cX8_goes 31 = .ok (.ireturn, 1) := by decide +kernel
theorem dX8_on_0 : decode cX8_on 0 = .ok (.aload_n 0, 1) := by decide +kernel
theorem dX8_on_1 : decode cX8_on 1 = .ok (.iload_n 1, 1) := by decide +kernel
theorem dX8_on_2 : decode cX8_on 2 = .ok (.iload_n 2, 1) := by decide +kernel
theorem dX8_on_3 : decode cX8_on 3 = .ok (.invokevirtual 147, 3) := by decide +kernel
theorem dX8_on_6 : decode cX8_on 6 = .ok (.istore_n 3, 1) := by decide +kernel
theorem dX8_on_7 : decode cX8_on 7 = .ok (.iload_n 3, 1) := by decide +kernel
theorem dX8_on_8 : decode cX8_on 8 = .ok (.ifCond .eq 5, 3) := by decide +kernel
theorem dX8_on_11 : decode cX8_on 11 = .ok (.iload_n 3, 1) := by decide +kernel
theorem dX8_on_12 : decode cX8_on 12 = .ok (.ireturn, 1) := by decide +kernel
theorem dX8_on_13 : decode cX8_on 13 = .ok (.aload_n 0, 1) := by decide +kernel
theorem dX8_on_14 : decode cX8_on 14 = .ok (.getfield 51, 3) := by decide +kernel
theorem dX8_on_17 : decode cX8_on 17 = .ok (.iload_n 1, 1) := by decide +kernel
theorem dX8_on_18 : decode cX8_on 18 = .ok (.invokevirtual 228, 3) := by decide +kernel
theorem dX8_on_21 : decode cX8_on 21 = .ok (.pop, 1) := by decide +kernel
theorem dX8_on_22 : decode cX8_on 22 = .ok (.aload_n 0, 1) := by decide +kernel
theorem dX8_on_23 : decode cX8_on 23 = .ok (.getfield 51, 3) := by decide +kernel
theorem dX8_on_26 : decode cX8_on 26 = .ok (.iload_n 2, 1) := by decide +kernel
theorem dX8_on_27 : decode cX8_on 27 = .ok (.invokevirtual 234, 3) := by decide +kernel
theorem dX8_on_30 : decode cX8_on 30 = .ok (.ireturn, 1) := by decide +kernel
theorem dX8_left_0 : decode cX8_left 0 = .ok (.aload_n 0, 1) := by decide +kernel
theorem dX8_left_1 : decode cX8_left 1 = .ok (.iload_n 1, 1) := by decide +kernel
theorem dX8_left_2 : decode cX8_left 2 = .ok (.iload_n 2, 1) := by decide +kernel
theorem dX8_left_3 : decode cX8_left 3 = .ok (.invokevirtual 147, 3) := by decide +kernel
theorem dX8_left_6 : decode cX8_left 6 = .ok (.istore_n 3, 1) := by decide +kernel
theorem dX8_left_7 : decode cX8_left 7 = .ok (.iload_n 3, 1) := by decide +kernel
theorem dX8_left_8 : decode cX8_left 8 = .ok (.ifCond .eq 5, 3) := by decide +kernel
theorem dX8_left_11 : decode cX8_left 11 = .ok (.iload_n 3, 1) := by decide +kernel
theorem dX8_left_12 : decode cX8_left 12 = .ok (.ireturn, 1) := by decide +kernel
theorem dX8_left_13 : decode cX8_left 13 = .ok (.aload_n 0, 1) := by decide +kernel
theorem dX8_left_14 : decode cX8_left 14 = .ok (.getfield 51, 3) := by decide +kernel
theorem dX8_left_17 : decode cX8_left 17 = .ok (.iload_n 1, 1) := by decide +kernel
theorem dX8_left_18 : decode cX8_left 18 = .ok (.invokevirtual 237, 3) := by decide +kernel
theorem dX8_left_21 : decode cX8_left 21 = .ok (.ifCond .eq 14, 3) := by decide +kernel
theorem dX8_left_24 : decode cX8_left 24 = .ok (.aload_n 0, 1) := by decide +kernel
theorem dX8_left_25 : decode cX8_left 25 = .ok (.getfield 51, 3) := by decide +kernel
theorem dX8_left_28 : decode cX8_left 28 = .ok (.iload_n 2, 1) := by decide +kernel
theorem dX8_left_29 : decode cX8_left 29 = .ok (.invokevirtual 240, 3) := by decide +kernel
theorem dX8_left_32 : decode cX8_left 32 = .ok (.goto 5, 3) := by decide +kernel
theorem dX8_left_35 : decode cX8_left 35 = .ok (.bipush (-103), 2) := by decide +kernel
theorem dX8_left_37 : decode cX8_left 37 = .ok (.ireturn, 1) := by decide +kernel
theorem dX8_steps_0 : decode cX8_steps 0 = .ok (.aload_n 0, 1) := by decide +kernel
theorem dX8_steps_1 : decode cX8_steps 1 = .ok (.getfield 10, 3) := by decide +kernel
theorem dX8_steps_4 : decode cX8_steps 4 = .ok (.iload_n 1, 1) := by decide +kernel
theorem dX8_steps_5 : decode cX8_steps 5 = .ok (.invokevirtual 135, 3) := by decide +kernel
theorem dX8_steps_8 : decode cX8_steps 8 = .ok (.ifCond .ne 6, 3) := by decide +kernel
theorem dX8_steps_11 : decode cX8_steps 11 = .ok (.bipush (-102), 2) := by decide +kernel
theorem dX8_steps_13 : decode cX8_steps 13 = .ok (.ireturn, 1) := by decide +kernel
theorem dX8_steps_14 : decode cX8_steps 14 = .ok (.aload_n 0, 1) := by decide +kernel
theorem dX8_steps_15 : decode cX8_steps 15 = .ok (.getfield 51, 3) := by decide +kernel
theorem dX8_steps_18 : decode cX8_steps 18 = .ok (.iload_n 1, 1) := by decide +kernel
theorem dX8_steps_19 : decode cX8_steps 19 = .ok (.invokevirtual 237, 3) := by decide +kernel
theorem dX8_steps_22 : decode cX8_steps 22 = .ok (.ifCond .eq 13, 3) := by decide +kernel
theorem dX8_steps_25 : decode cX8_steps 25 = .ok (.aload_n 0, 1) := by decide +kernel
theorem dX8_steps_26 : decode cX8_steps 26 = .ok (.getfield 51, 3) := by decide +kernel
theorem dX8_steps_29 : decode cX8_steps 29 = .ok (.invokevirtual 243, 3) := by decide +kernel
theorem dX8_steps_32 : decode cX8_steps 32 = .ok (.goto 5, 3) := by decide +kernel
theorem dX8_steps_35 : decode cX8_steps 35 = .ok (.bipush (-103), 2) := by decide +kernel
theorem dX8_steps_37 : decode cX8_steps 37 = .ok (.ireturn, 1) := by decide +kernel
theorem dX8_cover_0 : decode cX8_cover 0 = .ok (.aload_n 0, 1) := by decide +kernel
theorem dX8_cover_1 : decode cX8_cover 1 = .ok (.getfield 10, 3) := by decide +kernel
theorem dX8_cover_4 : decode cX8_cover 4 = .ok (.iload_n 1, 1) := by decide +kernel
theorem dX8_cover_5 : decode cX8_cover 5 = .ok (.invokevirtual 135, 3) := by decide +kernel
theorem dX8_cover_8 : decode cX8_cover 8 = .ok (.ifCond .eq 14, 3) := by decide +kernel
theorem dX8_cover_11 : decode cX8_cover 11 = .ok (.aload_n 0, 1) := by decide +kernel
theorem dX8_cover_12 : decode cX8_cover 12 = .ok (.getfield 10, 3) := by decide +kernel
theorem dX8_cover_15 : decode cX8_cover 15 = .ok (.iload_n 1, 1) := by decide +kernel
theorem dX8_cover_16 : decode cX8_cover 16 = .ok (.invokevirtual 246, 3) := by decide +kernel
theorem dX8_cover_19 : decode cX8_cover 19 = .ok (.goto 5, 3) := by decide +kernel
theorem dX8_cover_22 : decode cX8_cover 22 = .ok (.bipush (-102), 2) := by decide +kernel
theorem dX8_cover_24 : decode cX8_cover 24 = .ok (.ireturn, 1) := by decide +kernel
theorem dX8_count_0 : decode cX8_count 0 = .ok (.iload_n 1, 1) := by decide +kernel
theorem dX8_count_1 : decode cX8_count 1 = .ok (.tableswitch 82 0 4 #[35, 43, 51, 59, 77], 35) := by decide +kernel
theorem dX8_count_36 : decode cX8_count 36 = .ok (.aload_n 0, 1) := by decide +kernel
theorem dX8_count_37 : decode cX8_count 37 = .ok (.getfield 10, 3) := by decide +kernel
theorem dX8_count_40 : decode cX8_count 40 = .ok (.invokevirtual 175, 3) := by decide +kernel
theorem dX8_count_43 : decode cX8_count 43 = .ok (.ireturn, 1) := by decide +kernel
theorem dX8_count_44 : decode cX8_count 44 = .ok (.aload_n 0, 1) := by decide +kernel
theorem dX8_count_45 : decode cX8_count 45 = .ok (.getfield 10, 3) := by decide +kernel
theorem dX8_count_48 : decode cX8_count 48 = .ok (.invokevirtual 249, 3) := by decide +kernel
theorem dX8_count_51 : decode cX8_count 51 = .ok (.ireturn, 1) := by decide +kernel
theorem dX8_count_52 : decode cX8_count 52 = .ok (.aload_n 0, 1) := by decide +kernel
theorem dX8_count_53 : decode cX8_count 53 = .ok (.getfield 28, 3) := by decide +kernel
theorem dX8_count_56 : decode cX8_count 56 = .ok (.invokevirtual 188, 3) := by decide +kernel
theorem dX8_count_59 : decode cX8_count 59 = .ok (.ireturn, 1) := by decide +kernel
theorem dX8_count_60 : decode cX8_count 60 = .ok (.aload_n 0, 1) := by decide +kernel
theorem dX8_count_61 : decode cX8_count 61 = .ok (.getfield 10, 3) := by decide +kernel
theorem dX8_count_64 : decode cX8_count 64 = .ok (.aload_n 0, 1) := by decide +kernel
theorem dX8_count_65 : decode cX8_count 65 = .ok (.getfield 10, 3) := by decide +kernel
theorem dX8_count_68 : decode cX8_count 68 = .ok (.invokevirtual 252, 3) := by decide +kernel
theorem dX8_count_71 : decode cX8_count 71 = .ok (.invokevirtual 156, 3) := by decide +kernel
theorem dX8_count_74 : decode cX8_count 74 = .ok (.invokestatic 59, 3) := by decide +kernel
theorem dX8_count_77 : decode cX8_count 77 = .ok (.ireturn, 1) := by decide +kernel
theorem dX8_count_78 : decode cX8_count 78 = .ok (.aload_n 0, 1) := by decide +kernel
theorem dX8_count_79 : decode cX8_count 79 = .ok (.getfield 55, 3) := by decide +kernel
theorem dX8_count_82 : decode cX8_count 82 = .ok (.ireturn, 1) := by decide +kernel
theorem dX8_count_83 : decode cX8_count 83 = .ok (.bipush (-102), 2) := by decide +kernel
theorem dX8_count_85 : decode cX8_count 85 = .ok (.ireturn, 1) := by decide +kernel
theorem dX8_digest_0 : decode cX8_digest 0 = .ok (.ldc2_w 255, 3) := by decide +kernel
theorem dX8_digest_3 : decode cX8_digest 3 = .ok (.lstore_n 1, 1) := by decide +kernel
theorem dX8_digest_4 : decode cX8_digest 4 = .ok (.iconst 0, 1) := by decide +kernel
theorem dX8_digest_5 : decode cX8_digest 5 = .ok (.istore_n 3, 1) := by decide +kernel
theorem dX8_digest_6 : decode cX8_digest 6 = .ok (.iload_n 3, 1) := by decide +kernel
theorem dX8_digest_7 : decode cX8_digest 7 = .ok (.aload_n 0, 1) := by decide +kernel
theorem dX8_digest_8 : decode cX8_digest 8 = .ok (.getfield 10, 3) := by decide +kernel
theorem dX8_digest_11 : decode cX8_digest 11 = .ok (.invokevirtual 175, 3) := by decide +kernel
theorem dX8_digest_14 : decode cX8_digest 14 = .ok (.if_icmp .ge 16, 3) := by decide +kernel
theorem dX8_digest_17 : decode cX8_digest 17 = .ok (.aload_n 0, 1) := by decide +kernel
theorem dX8_digest_18 : decode cX8_digest 18 = .ok (.lload_n 1, 1) := by decide +kernel
theorem dX8_digest_19 : decode cX8_digest 19 = .ok (.iload_n 3, 1) := by decide +kernel
theorem dX8_digest_20 : decode cX8_digest 20 = .ok (.invokevirtual 257, 3) := by decide +kernel
theorem dX8_digest_23 : decode cX8_digest 23 = .ok (.lstore_n 1, 1) := by decide +kernel
theorem dX8_digest_24 : decode cX8_digest 24 = .ok (.iinc 3 1, 3) := by decide +kernel
theorem dX8_digest_27 : decode cX8_digest 27 = .ok (.goto (-21), 3) := by decide +kernel
theorem dX8_digest_30 : decode cX8_digest 30 = .ok (.ldc2_w 261, 3) := by decide +kernel
theorem dX8_digest_33 : decode cX8_digest 33 = .ok (.lload_n 1, 1) := by decide +kernel
theorem dX8_digest_34 : decode cX8_digest 34 = .ok (.lmul, 1) := by decide +kernel
theorem dX8_digest_35 : decode cX8_digest 35 = .ok (.aload_n 0, 1) := by decide +kernel
theorem dX8_digest_36 : decode cX8_digest 36 = .ok (.getfield 10, 3) := by decide +kernel
theorem dX8_digest_39 : decode cX8_digest 39 = .ok (.invokevirtual 263, 3) := by decide +kernel
theorem dX8_digest_42 : decode cX8_digest 42 = .ok (.i2l, 1) := by decide +kernel
theorem dX8_digest_43 : decode cX8_digest 43 = .ok (.ladd, 1) := by decide +kernel
theorem dX8_digest_44 : decode cX8_digest 44 = .ok (.lstore_n 1, 1) := by decide +kernel
theorem dX8_digest_45 : decode cX8_digest 45 = .ok (.ldc2_w 261, 3) := by decide +kernel
theorem dX8_digest_48 : decode cX8_digest 48 = .ok (.lload_n 1, 1) := by decide +kernel
theorem dX8_digest_49 : decode cX8_digest 49 = .ok (.lmul, 1) := by decide +kernel
theorem dX8_digest_50 : decode cX8_digest 50 = .ok (.aload_n 0, 1) := by decide +kernel
theorem dX8_digest_51 : decode cX8_digest 51 = .ok (.getfield 10, 3) := by decide +kernel
theorem dX8_digest_54 : decode cX8_digest 54 = .ok (.invokevirtual 266, 3) := by decide +kernel
theorem dX8_digest_57 : decode cX8_digest 57 = .ok (.i2l, 1) := by decide +kernel
theorem dX8_digest_58 : decode cX8_digest 58 = .ok (.ladd, 1) := by decide +kernel
theorem dX8_digest_59 : decode cX8_digest 59 = .ok (.lstore_n 1, 1) := by decide +kernel
theorem dX8_digest_60 : decode cX8_digest 60 = .ok (.aload_n 0, 1) := by decide +kernel
theorem dX8_digest_61 : decode cX8_digest 61 = .ok (.getfield 10, 3) := by decide +kernel
theorem dX8_digest_64 : decode cX8_digest 64 = .ok (.invokevirtual 252, 3) := by decide +kernel
theorem dX8_digest_67 : decode cX8_digest 67 = .ok (.istore_n 3, 1) := by decide +kernel
theorem dX8_digest_68 : decode cX8_digest 68 = .ok (.iload_n 3, 1) := by decide +kernel
theorem dX8_digest_69 : decode cX8_digest 69 = .ok (.ifCond .eq 57, 3) := by decide +kernel
theorem dX8_digest_72 : decode cX8_digest 72 = .ok (.ldc2_w 261, 3) := by decide +kernel
theorem dX8_digest_75 : decode cX8_digest 75 = .ok (.lload_n 1, 1) := by decide +kernel
theorem dX8_digest_76 : decode cX8_digest 76 = .ok (.lmul, 1) := by decide +kernel
theorem dX8_digest_77 : decode cX8_digest 77 = .ok (.aload_n 0, 1) := by decide +kernel
theorem dX8_digest_78 : decode cX8_digest 78 = .ok (.iload_n 3, 1) := by decide +kernel
theorem dX8_digest_79 : decode cX8_digest 79 = .ok (.iconst 0, 1) := by decide +kernel
theorem dX8_digest_80 : decode cX8_digest 80 = .ok (.invokevirtual 269, 3) := by decide +kernel
theorem dX8_digest_83 : decode cX8_digest 83 = .ok (.i2l, 1) := by decide +kernel
theorem dX8_digest_84 : decode cX8_digest 84 = .ok (.ladd, 1) := by decide +kernel
theorem dX8_digest_85 : decode cX8_digest 85 = .ok (.lstore_n 1, 1) := by decide +kernel
theorem dX8_digest_86 : decode cX8_digest 86 = .ok (.ldc2_w 261, 3) := by decide +kernel
theorem dX8_digest_89 : decode cX8_digest 89 = .ok (.lload_n 1, 1) := by decide +kernel
theorem dX8_digest_90 : decode cX8_digest 90 = .ok (.lmul, 1) := by decide +kernel
theorem dX8_digest_91 : decode cX8_digest 91 = .ok (.aload_n 0, 1) := by decide +kernel
theorem dX8_digest_92 : decode cX8_digest 92 = .ok (.iload_n 3, 1) := by decide +kernel
theorem dX8_digest_93 : decode cX8_digest 93 = .ok (.iconst 1, 1) := by decide +kernel
theorem dX8_digest_94 : decode cX8_digest 94 = .ok (.invokevirtual 269, 3) := by decide +kernel
theorem dX8_digest_97 : decode cX8_digest 97 = .ok (.i2l, 1) := by decide +kernel
theorem dX8_digest_98 : decode cX8_digest 98 = .ok (.ladd, 1) := by decide +kernel
theorem dX8_digest_99 : decode cX8_digest 99 = .ok (.lstore_n 1, 1) := by decide +kernel
theorem dX8_digest_100 : decode cX8_digest 100 = .ok (.ldc2_w 261, 3) := by decide +kernel
theorem dX8_digest_103 : decode cX8_digest 103 = .ok (.lload_n 1, 1) := by decide +kernel
theorem dX8_digest_104 : decode cX8_digest 104 = .ok (.lmul, 1) := by decide +kernel
theorem dX8_digest_105 : decode cX8_digest 105 = .ok (.aload_n 0, 1) := by decide +kernel
theorem dX8_digest_106 : decode cX8_digest 106 = .ok (.iload_n 3, 1) := by decide +kernel
theorem dX8_digest_107 : decode cX8_digest 107 = .ok (.invokevirtual 272, 3) := by decide +kernel
theorem dX8_digest_110 : decode cX8_digest 110 = .ok (.i2l, 1) := by decide +kernel
theorem dX8_digest_111 : decode cX8_digest 111 = .ok (.ladd, 1) := by decide +kernel
theorem dX8_digest_112 : decode cX8_digest 112 = .ok (.lstore_n 1, 1) := by decide +kernel
theorem dX8_digest_113 : decode cX8_digest 113 = .ok (.ldc2_w 261, 3) := by decide +kernel
theorem dX8_digest_116 : decode cX8_digest 116 = .ok (.lload_n 1, 1) := by decide +kernel
theorem dX8_digest_117 : decode cX8_digest 117 = .ok (.lmul, 1) := by decide +kernel
theorem dX8_digest_118 : decode cX8_digest 118 = .ok (.aload_n 0, 1) := by decide +kernel
theorem dX8_digest_119 : decode cX8_digest 119 = .ok (.iload_n 3, 1) := by decide +kernel
theorem dX8_digest_120 : decode cX8_digest 120 = .ok (.invokevirtual 275, 3) := by decide +kernel
theorem dX8_digest_123 : decode cX8_digest 123 = .ok (.i2l, 1) := by decide +kernel
theorem dX8_digest_124 : decode cX8_digest 124 = .ok (.ladd, 1) := by decide +kernel
theorem dX8_digest_125 : decode cX8_digest 125 = .ok (.lstore_n 1, 1) := by decide +kernel
theorem dX8_digest_126 : decode cX8_digest 126 = .ok (.iconst 0, 1) := by decide +kernel
theorem dX8_digest_127 : decode cX8_digest 127 = .ok (.istore 4, 2) := by decide +kernel
theorem dX8_digest_129 : decode cX8_digest 129 = .ok (.iload 4, 2) := by decide +kernel
theorem dX8_digest_131 : decode cX8_digest 131 = .ok (.aload_n 0, 1) := by decide +kernel
theorem dX8_digest_132 : decode cX8_digest 132 = .ok (.getfield 28, 3) := by decide +kernel
theorem dX8_digest_135 : decode cX8_digest 135 = .ok (.invokevirtual 188, 3) := by decide +kernel
theorem dX8_digest_138 : decode cX8_digest 138 = .ok (.if_icmp .ge 26, 3) := by decide +kernel
theorem dX8_digest_141 : decode cX8_digest 141 = .ok (.ldc2_w 261, 3) := by decide +kernel
theorem dX8_digest_144 : decode cX8_digest 144 = .ok (.lload_n 1, 1) := by decide +kernel
theorem dX8_digest_145 : decode cX8_digest 145 = .ok (.lmul, 1) := by decide +kernel
theorem dX8_digest_146 : decode cX8_digest 146 = .ok (.aload_n 0, 1) := by decide +kernel
theorem dX8_digest_147 : decode cX8_digest 147 = .ok (.getfield 28, 3) := by decide +kernel
theorem dX8_digest_150 : decode cX8_digest 150 = .ok (.iload 4, 2) := by decide +kernel
theorem dX8_digest_152 : decode cX8_digest 152 = .ok (.invokevirtual 278, 3) := by decide +kernel
theorem dX8_digest_155 : decode cX8_digest 155 = .ok (.i2l, 1) := by decide +kernel
theorem dX8_digest_156 : decode cX8_digest 156 = .ok (.ladd, 1) := by decide +kernel
theorem dX8_digest_157 : decode cX8_digest 157 = .ok (.lstore_n 1, 1) := by decide +kernel
theorem dX8_digest_158 : decode cX8_digest 158 = .ok (.iinc 4 1, 3) := by decide +kernel
theorem dX8_digest_161 : decode cX8_digest 161 = .ok (.goto (-32), 3) := by decide +kernel
theorem dX8_digest_164 : decode cX8_digest 164 = .ok (.iconst 0, 1) := by decide +kernel
theorem dX8_digest_165 : decode cX8_digest 165 = .ok (.istore 4, 2) := by decide +kernel
theorem dX8_digest_167 : decode cX8_digest 167 = .ok (.iload 4, 2) := by decide +kernel
theorem dX8_digest_169 : decode cX8_digest 169 = .ok (.iconst 4, 1) := by decide +kernel
theorem dX8_digest_170 : decode cX8_digest 170 = .ok (.if_icmp .gt 23, 3) := by decide +kernel
theorem dX8_digest_173 : decode cX8_digest 173 = .ok (.ldc2_w 261, 3) := by decide +kernel
theorem dX8_digest_176 : decode cX8_digest 176 = .ok (.lload_n 1, 1) := by decide +kernel
theorem dX8_digest_177 : decode cX8_digest 177 = .ok (.lmul, 1) := by decide +kernel
theorem dX8_digest_178 : decode cX8_digest 178 = .ok (.aload_n 0, 1) := by decide +kernel
theorem dX8_digest_179 : decode cX8_digest 179 = .ok (.iload 4, 2) := by decide +kernel
theorem dX8_digest_181 : decode cX8_digest 181 = .ok (.invokevirtual 279, 3) := by decide +kernel
theorem dX8_digest_184 : decode cX8_digest 184 = .ok (.i2l, 1) := by decide +kernel
theorem dX8_digest_185 : decode cX8_digest 185 = .ok (.ladd, 1) := by decide +kernel
theorem dX8_digest_186 : decode cX8_digest 186 = .ok (.lstore_n 1, 1) := by decide +kernel
theorem dX8_digest_187 : decode cX8_digest 187 = .ok (.iinc 4 1, 3) := by decide +kernel
theorem dX8_digest_190 : decode cX8_digest 190 = .ok (.goto (-23), 3) := by decide +kernel
theorem dX8_digest_193 : decode cX8_digest 193 = .ok (.lload_n 1, 1) := by decide +kernel
theorem dX8_digest_194 : decode cX8_digest 194 = .ok (.lreturn, 1) := by decide +kernel
theorem dX8_digestOfTable_0 : decode cX8_digestOfTable 0 = .ok (.lload_n 1, 1) := by decide +kernel
theorem dX8_digestOfTable_1 : decode cX8_digestOfTable 1 = .ok (.lstore 4, 2) := by decide +kernel
theorem dX8_digestOfTable_3 : decode cX8_digestOfTable 3 = .ok (.iconst 0, 1) := by decide +kernel
theorem dX8_digestOfTable_4 : decode cX8_digestOfTable 4 = .ok (.istore 6, 2) := by decide +kernel
theorem dX8_digestOfTable_6 : decode cX8_digestOfTable 6 = .ok (.iload 6, 2) := by decide +kernel
theorem dX8_digestOfTable_8 : decode cX8_digestOfTable 8 = .ok (.iconst 4, 1) := by decide +kernel
theorem dX8_digestOfTable_9 : decode cX8_digestOfTable 9 = .ok (.if_icmp .gt 26, 3) := by decide +kernel
theorem dX8_digestOfTable_12 : decode cX8_digestOfTable 12 = .ok (.ldc2_w 261, 3) := by decide +kernel
theorem dX8_digestOfTable_15 : decode cX8_digestOfTable 15 = .ok (.lload 4, 2) := by decide +kernel
theorem dX8_digestOfTable_17 : decode cX8_digestOfTable 17 = .ok (.lmul, 1) := by decide +kernel
theorem dX8_digestOfTable_18 : decode cX8_digestOfTable 18 = .ok (.aload_n 0, 1) := by decide +kernel
theorem dX8_digestOfTable_19 : decode cX8_digestOfTable 19 = .ok (.iload_n 3, 1) := by decide +kernel
theorem dX8_digestOfTable_20 : decode cX8_digestOfTable 20 = .ok (.iload 6, 2) := by decide +kernel
theorem dX8_digestOfTable_22 : decode cX8_digestOfTable 22 = .ok (.invokevirtual 282, 3) := by decide +kernel
theorem dX8_digestOfTable_25 : decode cX8_digestOfTable 25 = .ok (.i2l, 1) := by decide +kernel
theorem dX8_digestOfTable_26 : decode cX8_digestOfTable 26 = .ok (.ladd, 1) := by decide +kernel
theorem dX8_digestOfTable_27 : decode cX8_digestOfTable 27 = .ok (.lstore 4, 2) := by decide +kernel
theorem dX8_digestOfTable_29 : decode cX8_digestOfTable 29 = .ok (.iinc 6 1, 3) := by decide +kernel
theorem dX8_digestOfTable_32 : decode cX8_digestOfTable 32 = .ok (.goto (-26), 3) := by decide +kernel
theorem dX8_digestOfTable_35 : decode cX8_digestOfTable 35 = .ok (.iconst 0, 1) := by decide +kernel
theorem dX8_digestOfTable_36 : decode cX8_digestOfTable 36 = .ok (.istore 6, 2) := by decide +kernel
theorem dX8_digestOfTable_38 : decode cX8_digestOfTable 38 = .ok (.iload 6, 2) := by decide +kernel
theorem dX8_digestOfTable_40 : decode cX8_digestOfTable 40 = .ok (.aload_n 0, 1) := by decide +kernel
theorem dX8_digestOfTable_41 : decode cX8_digestOfTable 41 = .ok (.getfield 10, 3) := by decide +kernel
theorem dX8_digestOfTable_44 : decode cX8_digestOfTable 44 = .ok (.iload_n 3, 1) := by decide +kernel
theorem dX8_digestOfTable_45 : decode cX8_digestOfTable 45 = .ok (.invokevirtual 80, 3) := by decide +kernel
theorem dX8_digestOfTable_48 : decode cX8_digestOfTable 48 = .ok (.if_icmp .ge 63, 3) := by decide +kernel
theorem dX8_digestOfTable_51 : decode cX8_digestOfTable 51 = .ok (.iconst 0, 1) := by decide +kernel
theorem dX8_digestOfTable_52 : decode cX8_digestOfTable 52 = .ok (.istore 7, 2) := by decide +kernel
theorem dX8_digestOfTable_54 : decode cX8_digestOfTable 54 = .ok (.iload 7, 2) := by decide +kernel
theorem dX8_digestOfTable_56 : decode cX8_digestOfTable 56 = .ok (.bipush 8, 2) := by decide +kernel
theorem dX8_digestOfTable_58 : decode cX8_digestOfTable 58 = .ok (.if_icmp .ge 47, 3) := by decide +kernel
theorem dX8_digestOfTable_61 : decode cX8_digestOfTable 61 = .ok (.aload_n 0, 1) := by decide +kernel
theorem dX8_digestOfTable_62 : decode cX8_digestOfTable 62 = .ok (.getfield 10, 3) := by decide +kernel
theorem dX8_digestOfTable_65 : decode cX8_digestOfTable 65 = .ok (.iload_n 3, 1) := by decide +kernel
theorem dX8_digestOfTable_66 : decode cX8_digestOfTable 66 = .ok (.iload 7, 2) := by decide +kernel
theorem dX8_digestOfTable_68 : decode cX8_digestOfTable 68 = .ok (.invokevirtual 102, 3) := by decide +kernel
theorem dX8_digestOfTable_71 : decode cX8_digestOfTable 71 = .ok (.ifCond .eq 28, 3) := by decide +kernel
theorem dX8_digestOfTable_74 : decode cX8_digestOfTable 74 = .ok (.ldc2_w 261, 3) := by decide +kernel
theorem dX8_digestOfTable_77 : decode cX8_digestOfTable 77 = .ok (.lload 4, 2) := by decide +kernel
theorem dX8_digestOfTable_79 : decode cX8_digestOfTable 79 = .ok (.lmul, 1) := by decide +kernel
theorem dX8_digestOfTable_80 : decode cX8_digestOfTable 80 = .ok (.aload_n 0, 1) := by decide +kernel
theorem dX8_digestOfTable_81 : decode cX8_digestOfTable 81 = .ok (.getfield 10, 3) := by decide +kernel
theorem dX8_digestOfTable_84 : decode cX8_digestOfTable 84 = .ok (.iload_n 3, 1) := by decide +kernel
theorem dX8_digestOfTable_85 : decode cX8_digestOfTable 85 = .ok (.iload 6, 2) := by decide +kernel
theorem dX8_digestOfTable_87 : decode cX8_digestOfTable 87 = .ok (.invokevirtual 111, 3) := by decide +kernel
theorem dX8_digestOfTable_90 : decode cX8_digestOfTable 90 = .ok (.iload 7, 2) := by decide +kernel
theorem dX8_digestOfTable_92 : decode cX8_digestOfTable 92 = .ok (.invokestatic 114, 3) := by decide +kernel
theorem dX8_digestOfTable_95 : decode cX8_digestOfTable 95 = .ok (.i2l, 1) := by decide +kernel
theorem dX8_digestOfTable_96 : decode cX8_digestOfTable 96 = .ok (.ladd, 1) := by decide +kernel
theorem dX8_digestOfTable_97 : decode cX8_digestOfTable 97 = .ok (.lstore 4, 2) := by decide +kernel
theorem dX8_digestOfTable_99 : decode cX8_digestOfTable 99 = .ok (.iinc 7 1, 3) := by decide +kernel
theorem dX8_digestOfTable_102 : decode cX8_digestOfTable 102 = .ok (.goto (-48), 3) := by decide +kernel
theorem dX8_digestOfTable_105 : decode cX8_digestOfTable 105 = .ok (.iinc 6 1, 3) := by decide +kernel
theorem dX8_digestOfTable_108 : decode cX8_digestOfTable 108 = .ok (.goto (-70), 3) := by decide +kernel
theorem dX8_digestOfTable_111 : decode cX8_digestOfTable 111 = .ok (.lload 4, 2) := by decide +kernel
theorem dX8_digestOfTable_113 : decode cX8_digestOfTable 113 = .ok (.lreturn, 1) := by decide +kernel
theorem dX8_mayStand_0 : decode cX8_mayStand 0 = .ok (.iload_n 0, 1) := by decide +kernel
theorem dX8_mayStand_1 : decode cX8_mayStand 1 = .ok (.ifCond .lt 21, 3) := by decide +kernel
theorem dX8_mayStand_4 : decode cX8_mayStand 4 = .ok (.iload_n 0, 1) := by decide +kernel
theorem dX8_mayStand_5 : decode cX8_mayStand 5 = .ok (.iload_n 1, 1) := by decide +kernel
theorem dX8_mayStand_6 : decode cX8_mayStand 6 = .ok (.ifCond .eq 8, 3) := by decide +kernel
theorem dX8_mayStand_9 : decode cX8_mayStand 9 = .ok (.bipush 9, 2) := by decide +kernel
theorem dX8_mayStand_11 : decode cX8_mayStand 11 = .ok (.goto 4, 3) := by decide +kernel
theorem dX8_mayStand_14 : decode cX8_mayStand 14 = .ok (.iconst 0, 1) := by decide +kernel
theorem dX8_mayStand_15 : decode cX8_mayStand 15 = .ok (.if_icmp .gt 7, 3) := by decide +kernel
theorem dX8_mayStand_18 : decode cX8_mayStand 18 = .ok (.iconst 1, 1) := by decide +kernel
theorem dX8_mayStand_19 : decode cX8_mayStand 19 = .ok (.goto 4, 3) := by decide +kernel
theorem dX8_mayStand_22 : decode cX8_mayStand 22 = .ok (.iconst 0, 1) := by decide +kernel
theorem dX8_mayStand_23 : decode cX8_mayStand 23 = .ok (.ireturn, 1) := by decide +kernel
theorem dX8_isLetter_0 : decode cX8_isLetter 0 = .ok (.iload_n 0, 1) := by decide +kernel
theorem dX8_isLetter_1 : decode cX8_isLetter 1 = .ok (.ifCond .lt 13, 3) := by decide +kernel
theorem dX8_isLetter_4 : decode cX8_isLetter 4 = .ok (.iload_n 0, 1) := by decide +kernel
theorem dX8_isLetter_5 : decode cX8_isLetter 5 = .ok (.bipush 8, 2) := by decide +kernel
theorem dX8_isLetter_7 : decode cX8_isLetter 7 = .ok (.if_icmp .ge 7, 3) := by decide +kernel
theorem dX8_isLetter_10 : decode cX8_isLetter 10 = .ok (.iconst 1, 1) := by decide +kernel
theorem dX8_isLetter_11 : decode cX8_isLetter 11 = .ok (.goto 4, 3) := by decide +kernel
theorem dX8_isLetter_14 : decode cX8_isLetter 14 = .ok (.iconst 0, 1) := by decide +kernel
theorem dX8_isLetter_15 : decode cX8_isLetter 15 = .ok (.ireturn, 1) := by decide +kernel
theorem dX8_isBy_0 : decode cX8_isBy 0 = .ok (.iload_n 0, 1) := by decide +kernel
theorem dX8_isBy_1 : decode cX8_isBy 1 = .ok (.ifCond .eq 8, 3) := by decide +kernel
theorem dX8_isBy_4 : decode cX8_isBy 4 = .ok (.iload_n 0, 1) := by decide +kernel
theorem dX8_isBy_5 : decode cX8_isBy 5 = .ok (.iconst 1, 1) := by decide +kernel
theorem dX8_isBy_6 : decode cX8_isBy 6 = .ok (.if_icmp .ne 7, 3) := by decide +kernel
theorem dX8_isBy_9 : decode cX8_isBy 9 = .ok (.iconst 1, 1) := by decide +kernel
theorem dX8_isBy_10 : decode cX8_isBy 10 = .ok (.goto 4, 3) := by decide +kernel
theorem dX8_isBy_13 : decode cX8_isBy 13 = .ok (.iconst 0, 1) := by decide +kernel
theorem dX8_isBy_14 : decode cX8_isBy 14 = .ok (.ireturn, 1) := by decide +kernel
theorem dX8_refusalOfMember_0 : decode cX8_refusalOfMember 0 = .ok (.aload_n 0, 1) := by decide +kernel
theorem dX8_refusalOfMember_1 : decode cX8_refusalOfMember 1 = .ok (.getfield 10, 3) := by decide +kernel
theorem dX8_refusalOfMember_4 : decode cX8_refusalOfMember 4 = .ok (.iload_n 1, 1) := by decide +kernel
theorem dX8_refusalOfMember_5 : decode cX8_refusalOfMember 5 = .ok (.invokevirtual 135, 3) := by decide +kernel
theorem dX8_refusalOfMember_8 : decode cX8_refusalOfMember 8 = .ok (.ifCond .ne 6, 3) := by decide +kernel
theorem dX8_refusalOfMember_11 : decode cX8_refusalOfMember 11 = .ok (.bipush (-102), 2) := by decide +kernel
theorem dX8_refusalOfMember_13 : decode cX8_refusalOfMember 13 = .ok (.ireturn, 1) := by decide +kernel
theorem dX8_refusalOfMember_14 : decode cX8_refusalOfMember 14 = .ok (.aload_n 0, 1) := by decide +kernel
theorem dX8_refusalOfMember_15 : decode cX8_refusalOfMember 15 = .ok (.getfield 10, 3) := by decide +kernel
theorem dX8_refusalOfMember_18 : decode cX8_refusalOfMember 18 = .ok (.iload_n 2, 1) := by decide +kernel
theorem dX8_refusalOfMember_19 : decode cX8_refusalOfMember 19 = .ok (.invokevirtual 69, 3) := by decide +kernel
theorem dX8_refusalOfMember_22 : decode cX8_refusalOfMember 22 = .ok (.ifCond .eq 16, 3) := by decide +kernel
theorem dX8_refusalOfMember_25 : decode cX8_refusalOfMember 25 = .ok (.iload_n 1, 1) := by decide +kernel
theorem dX8_refusalOfMember_26 : decode cX8_refusalOfMember 26 = .ok (.iload_n 2, 1) := by decide +kernel
theorem dX8_refusalOfMember_27 : decode cX8_refusalOfMember 27 = .ok (.ishr, 1) := by decide +kernel
theorem dX8_refusalOfMember_28 : decode cX8_refusalOfMember 28 = .ok (.iconst 1, 1) := by decide +kernel
theorem dX8_refusalOfMember_29 : decode cX8_refusalOfMember 29 = .ok (.iand, 1) := by decide +kernel
theorem dX8_refusalOfMember_30 : decode cX8_refusalOfMember 30 = .ok (.iconst 1, 1) := by decide +kernel
theorem dX8_refusalOfMember_31 : decode cX8_refusalOfMember 31 = .ok (.if_icmp .ne 7, 3) := by decide +kernel
theorem dX8_refusalOfMember_34 : decode cX8_refusalOfMember 34 = .ok (.iconst 1, 1) := by decide +kernel
theorem dX8_refusalOfMember_35 : decode cX8_refusalOfMember 35 = .ok (.goto 4, 3) := by decide +kernel
theorem dX8_refusalOfMember_38 : decode cX8_refusalOfMember 38 = .ok (.iconst 0, 1) := by decide +kernel
theorem dX8_refusalOfMember_39 : decode cX8_refusalOfMember 39 = .ok (.istore_n 3, 1) := by decide +kernel
theorem dX8_refusalOfMember_40 : decode cX8_refusalOfMember 40 = .ok (.iload_n 3, 1) := by decide +kernel
theorem dX8_refusalOfMember_41 : decode cX8_refusalOfMember 41 = .ok (.ifCond .eq 7, 3) := by decide +kernel
theorem dX8_refusalOfMember_44 : decode cX8_refusalOfMember 44 = .ok (.iconst 0, 1) := by decide +kernel
theorem dX8_refusalOfMember_45 : decode cX8_refusalOfMember 45 = .ok (.goto 5, 3) := by decide +kernel
theorem dX8_refusalOfMember_48 : decode cX8_refusalOfMember 48 = .ok (.bipush (-101), 2) := by decide +kernel
theorem dX8_refusalOfMember_50 : decode cX8_refusalOfMember 50 = .ok (.ireturn, 1) := by decide +kernel
theorem dX8_refusalOfChoice_0 : decode cX8_refusalOfChoice 0 = .ok (.iload_n 2, 1) := by decide +kernel
theorem dX8_refusalOfChoice_1 : decode cX8_refusalOfChoice 1 = .ok (.ifCond .eq 8, 3) := by decide +kernel
theorem dX8_refusalOfChoice_4 : decode cX8_refusalOfChoice 4 = .ok (.iload_n 2, 1) := by decide +kernel
theorem dX8_refusalOfChoice_5 : decode cX8_refusalOfChoice 5 = .ok (.iconst 1, 1) := by decide +kernel
theorem dX8_refusalOfChoice_6 : decode cX8_refusalOfChoice 6 = .ok (.if_icmp .ne 7, 3) := by decide +kernel
theorem dX8_refusalOfChoice_9 : decode cX8_refusalOfChoice 9 = .ok (.iconst 1, 1) := by decide +kernel
theorem dX8_refusalOfChoice_10 : decode cX8_refusalOfChoice 10 = .ok (.goto 4, 3) := by decide +kernel
theorem dX8_refusalOfChoice_13 : decode cX8_refusalOfChoice 13 = .ok (.iconst 0, 1) := by decide +kernel
theorem dX8_refusalOfChoice_14 : decode cX8_refusalOfChoice 14 = .ok (.istore 5, 2) := by decide +kernel
theorem dX8_refusalOfChoice_16 : decode cX8_refusalOfChoice 16 = .ok (.iload 4, 2) := by decide +kernel
theorem dX8_refusalOfChoice_18 : decode cX8_refusalOfChoice 18 = .ok (.iconst (-1), 1) := by decide +kernel
theorem dX8_refusalOfChoice_19 : decode cX8_refusalOfChoice 19 = .ok (.if_icmp .eq 11, 3) := by decide +kernel
theorem dX8_refusalOfChoice_22 : decode cX8_refusalOfChoice 22 = .ok (.iload 4, 2) := by decide +kernel
theorem dX8_refusalOfChoice_24 : decode cX8_refusalOfChoice 24 = .ok (.invokestatic 108, 3) := by decide +kernel
theorem dX8_refusalOfChoice_27 : decode cX8_refusalOfChoice 27 = .ok (.ifCond .eq 7, 3) := by decide +kernel
theorem dX8_refusalOfChoice_30 : decode cX8_refusalOfChoice 30 = .ok (.iconst 1, 1) := by decide +kernel
theorem dX8_refusalOfChoice_31 : decode cX8_refusalOfChoice 31 = .ok (.goto 4, 3) := by decide +kernel
theorem dX8_refusalOfChoice_34 : decode cX8_refusalOfChoice 34 = .ok (.iconst 0, 1) := by decide +kernel
theorem dX8_refusalOfChoice_35 : decode cX8_refusalOfChoice 35 = .ok (.istore 6, 2) := by decide +kernel
theorem dX8_refusalOfChoice_37 : decode cX8_refusalOfChoice 37 = .ok (.aload_n 0, 1) := by decide +kernel
theorem dX8_refusalOfChoice_38 : decode cX8_refusalOfChoice 38 = .ok (.getfield 10, 3) := by decide +kernel
theorem dX8_refusalOfChoice_41 : decode cX8_refusalOfChoice 41 = .ok (.iload_n 1, 1) := by decide +kernel
theorem dX8_refusalOfChoice_42 : decode cX8_refusalOfChoice 42 = .ok (.invokevirtual 135, 3) := by decide +kernel
theorem dX8_refusalOfChoice_45 : decode cX8_refusalOfChoice 45 = .ok (.ifCond .eq 20, 3) := by decide +kernel
theorem dX8_refusalOfChoice_48 : decode cX8_refusalOfChoice 48 = .ok (.iload 5, 2) := by decide +kernel
theorem dX8_refusalOfChoice_50 : decode cX8_refusalOfChoice 50 = .ok (.ifCond .eq 15, 3) := by decide +kernel
theorem dX8_refusalOfChoice_53 : decode cX8_refusalOfChoice 53 = .ok (.iload_n 3, 1) := by decide +kernel
theorem dX8_refusalOfChoice_54 : decode cX8_refusalOfChoice 54 = .ok (.invokestatic 138, 3) := by decide +kernel
theorem dX8_refusalOfChoice_57 : decode cX8_refusalOfChoice 57 = .ok (.ifCond .eq 8, 3) := by decide +kernel
theorem dX8_refusalOfChoice_60 : decode cX8_refusalOfChoice 60 = .ok (.iload 6, 2) := by decide +kernel
theorem dX8_refusalOfChoice_62 : decode cX8_refusalOfChoice 62 = .ok (.ifCond .ne 6, 3) := by decide +kernel
theorem dX8_refusalOfChoice_65 : decode cX8_refusalOfChoice 65 = .ok (.bipush (-102), 2) := by decide +kernel
theorem dX8_refusalOfChoice_67 : decode cX8_refusalOfChoice 67 = .ok (.ireturn, 1) := by decide +kernel
theorem dX8_refusalOfChoice_68 : decode cX8_refusalOfChoice 68 = .ok (.aload_n 0, 1) := by decide +kernel
theorem dX8_refusalOfChoice_69 : decode cX8_refusalOfChoice 69 = .ok (.getfield 55, 3) := by decide +kernel
theorem dX8_refusalOfChoice_72 : decode cX8_refusalOfChoice 72 = .ok (.bipush 60, 2) := by decide +kernel
theorem dX8_refusalOfChoice_74 : decode cX8_refusalOfChoice 74 = .ok (.if_icmp .lt 8, 3) := by decide +kernel
theorem dX8_refusalOfChoice_77 : decode cX8_refusalOfChoice 77 = .ok (.bipush (-103), 2) := by decide +kernel
theorem dX8_refusalOfChoice_79 : decode cX8_refusalOfChoice 79 = .ok (.goto 4, 3) := by decide +kernel
theorem dX8_refusalOfChoice_82 : decode cX8_refusalOfChoice 82 = .ok (.iconst 0, 1) := by decide +kernel
theorem dX8_refusalOfChoice_83 : decode cX8_refusalOfChoice 83 = .ok (.ireturn, 1) := by decide +kernel
theorem dX9_init_0 : decode cX9_init 0 = .ok (.aload_n 0, 1) := by decide +kernel
theorem dX9_init_1 : decode cX9_init 1 = .ok (.invokespecial 1, 3) := by decide +kernel
theorem dX9_init_4 : decode cX9_init 4 = .ok (.aload_n 0, 1) := by decide +kernel
theorem dX9_init_5 : decode cX9_init 5 = .ok (.bipush 6, 2) := by decide +kernel
theorem dX9_init_7 : decode cX9_init 7 = .ok (.newarray .int, 2) := by decide +kernel
theorem dX9_init_9 : decode cX9_init 9 = .ok (.putfield 7, 3) := by decide +kernel
theorem dX9_init_12 : decode cX9_init 12 = .ok (.aload_n 0, 1) := by decide +kernel
theorem dX9_init_13 : decode cX9_init 13 = .ok (.bipush 6, 2) := by decide +kernel
theorem dX9_init_15 : decode cX9_init 15 = .ok (.newarray .int, 2) := by decide +kernel
theorem dX9_init_17 : decode cX9_init 17 = .ok (.putfield 13, 3) := by decide +kernel
theorem dX9_init_20 : decode cX9_init 20 = .ok (.aload_n 0, 1) := by decide +kernel
theorem dX9_init_21 : decode cX9_init 21 = .ok (.bipush 6, 2) := by decide +kernel
theorem dX9_init_23 : decode cX9_init 23 = .ok (.newarray .int, 2) := by decide +kernel
theorem dX9_init_25 : decode cX9_init 25 = .ok (.putfield 16, 3) := by decide +kernel
theorem dX9_init_28 : decode cX9_init 28 = .ok (.aload_n 0, 1) := by decide +kernel
theorem dX9_init_29 : decode cX9_init 29 = .ok (.sipush 384, 3) := by decide +kernel
theorem dX9_init_32 : decode cX9_init 32 = .ok (.newarray .int, 2) := by decide +kernel
theorem dX9_init_34 : decode cX9_init 34 = .ok (.putfield 19, 3) := by decide +kernel
theorem dX9_init_37 : decode cX9_init 37 = .ok (.aload_n 0, 1) := by decide +kernel
theorem dX9_init_38 : decode cX9_init 38 = .ok (.iconst 3, 1) := by decide +kernel
theorem dX9_init_39 : decode cX9_init 39 = .ok (.newarray .int, 2) := by decide +kernel
theorem dX9_init_41 : decode cX9_init 41 = .ok (.putfield 22, 3) := by decide +kernel
theorem dX9_init_44 : decode cX9_init 44 = .ok (.aload_n 0, 1) := by decide +kernel
theorem dX9_init_45 : decode cX9_init 45 = .ok (.bipush 8, 2) := by decide +kernel
theorem dX9_init_47 : decode cX9_init 47 = .ok (.newarray .int, 2) := by decide +kernel
theorem dX9_init_49 : decode cX9_init 49 = .ok (.putfield 25, 3) := by decide +kernel
theorem dX9_init_52 : decode cX9_init 52 = .ok (.aload_n 0, 1) := by decide +kernel
theorem dX9_init_53 : decode cX9_init 53 = .ok (.bipush 64, 2) := by decide +kernel
theorem dX9_init_55 : decode cX9_init 55 = .ok (.newarray .int, 2) := by decide +kernel
theorem dX9_init_57 : decode cX9_init 57 = .ok (.putfield 28, 3) := by decide +kernel
theorem dX9_init_60 : decode cX9_init 60 = .ok (.aload_n 0, 1) := by decide +kernel
theorem dX9_init_61 : decode cX9_init 61 = .ok (.bipush 64, 2) := by decide +kernel
theorem dX9_init_63 : decode cX9_init 63 = .ok (.newarray .int, 2) := by decide +kernel
theorem dX9_init_65 : decode cX9_init 65 = .ok (.putfield 31, 3) := by decide +kernel
theorem dX9_init_68 : decode cX9_init 68 = .ok (.aload_n 0, 1) := by decide +kernel
theorem dX9_init_69 : decode cX9_init 69 = .ok (.bipush 6, 2) := by decide +kernel
theorem dX9_init_71 : decode cX9_init 71 = .ok (.newarray .int, 2) := by decide +kernel
theorem dX9_init_73 : decode cX9_init 73 = .ok (.putfield 34, 3) := by decide +kernel
theorem dX9_init_76 : decode cX9_init 76 = .ok (.aload_n 0, 1) := by decide +kernel
theorem dX9_init_77 : decode cX9_init 77 = .ok (.bipush 6, 2) := by decide +kernel
theorem dX9_init_79 : decode cX9_init 79 = .ok (.newarray .int, 2) := by decide +kernel
theorem dX9_init_81 : decode cX9_init 81 = .ok (.putfield 37, 3) := by decide +kernel
theorem dX9_init_84 : decode cX9_init 84 = .ok (.aload_n 0, 1) := by decide +kernel
theorem dX9_init_85 : decode cX9_init 85 = .ok (.bipush 40, 2) := by decide +kernel
theorem dX9_init_87 : decode cX9_init 87 = .ok (.newarray .int, 2) := by decide +kernel
theorem dX9_init_89 : decode cX9_init 89 = .ok (.putfield 40, 3) := by decide +kernel
theorem dX9_init_92 : decode cX9_init 92 = .ok (.aload_n 0, 1) := by decide +kernel
theorem dX9_init_93 : decode cX9_init 93 = .ok (.bipush 41, 2) := by decide +kernel
theorem dX9_init_95 : decode cX9_init 95 = .ok (.newarray .int, 2) := by decide +kernel
theorem dX9_init_97 : decode cX9_init 97 = .ok (.putfield 43, 3) := by decide +kernel
theorem dX9_init_100 : decode cX9_init 100 = .ok (.aload_n 0, 1) := by decide +kernel
theorem dX9_init_101 : decode cX9_init 101 = .ok (.bipush 64, 2) := by decide +kernel
theorem dX9_init_103 : decode cX9_init 103 = .ok (.newarray .int, 2) := by decide +kernel
theorem dX9_init_105 : decode cX9_init 105 = .ok (.putfield 46, 3) := by decide +kernel
theorem dX9_init_108 : decode cX9_init 108 = .ok (.aload_n 0, 1) := by decide +kernel
theorem dX9_init_109 : decode cX9_init 109 = .ok (.bipush 41, 2) := by decide +kernel
theorem dX9_init_111 : decode cX9_init 111 = .ok (.newarray .int, 2) := by decide +kernel
theorem dX9_init_113 : decode cX9_init 113 = .ok (.putfield 49, 3) := by decide +kernel
theorem dX9_init_116 : decode cX9_init 116 = .ok (.aload_n 0, 1) := by decide +kernel
theorem dX9_init_117 : decode cX9_init 117 = .ok (.bipush 41, 2) := by decide +kernel
theorem dX9_init_119 : decode cX9_init 119 = .ok (.newarray .int, 2) := by decide +kernel
theorem dX9_init_121 : decode cX9_init 121 = .ok (.putfield 52, 3) := by decide +kernel
theorem dX9_init_124 : decode cX9_init 124 = .ok (.aload_n 0, 1) := by decide +kernel
theorem dX9_init_125 : decode cX9_init 125 = .ok (.bipush 41, 2) := by decide +kernel
theorem dX9_init_127 : decode cX9_init 127 = .ok (.newarray .int, 2) := by decide +kernel
theorem dX9_init_129 : decode cX9_init 129 = .ok (.putfield 55, 3) := by decide +kernel
theorem dX9_init_132 : decode cX9_init 132 = .ok (.aload_n 0, 1) := by decide +kernel
theorem dX9_init_133 : decode cX9_init 133 = .ok (.bipush 41, 2) := by decide +kernel
theorem dX9_init_135 : decode cX9_init 135 = .ok (.newarray .int, 2) := by decide +kernel
theorem dX9_init_137 : decode cX9_init 137 = .ok (.putfield 58, 3) := by decide +kernel
theorem dX9_init_140 : decode cX9_init 140 = .ok (.aload_n 0, 1) := by decide +kernel
theorem dX9_init_141 : decode cX9_init 141 = .ok (.sipush 576, 3) := by decide +kernel
theorem dX9_init_144 : decode cX9_init 144 = .ok (.newarray .int, 2) := by decide +kernel
theorem dX9_init_146 : decode cX9_init 146 = .ok (.putfield 61, 3) := by decide +kernel
theorem dX9_init_149 : decode cX9_init 149 = .ok (.aload_n 0, 1) := by decide +kernel
theorem dX9_init_150 : decode cX9_init 150 = .ok (.sipush 12096, 3) := by decide +kernel
theorem dX9_init_153 : decode cX9_init 153 = .ok (.newarray .int, 2) := by decide +kernel
theorem dX9_init_155 : decode cX9_init 155 = .ok (.putfield 64, 3) := by decide +kernel
theorem dX9_init_158 : decode cX9_init 158 = .ok (.aload_n 0, 1) := by decide +kernel
theorem dX9_init_159 : decode cX9_init 159 = .ok (.bipush 21, 2) := by decide +kernel
theorem dX9_init_161 : decode cX9_init 161 = .ok (.newarray .int, 2) := by decide +kernel
theorem dX9_init_163 : decode cX9_init 163 = .ok (.putfield 67, 3) := by decide +kernel
theorem dX9_init_166 : decode cX9_init 166 = .ok (.aload_n 0, 1) := by decide +kernel
theorem dX9_init_167 : decode cX9_init 167 = .ok (.bipush 21, 2) := by decide +kernel
theorem dX9_init_169 : decode cX9_init 169 = .ok (.newarray .int, 2) := by decide +kernel
theorem dX9_init_171 : decode cX9_init 171 = .ok (.putfield 70, 3) := by decide +kernel
theorem dX9_init_174 : decode cX9_init 174 = .ok (.aload_n 0, 1) := by decide +kernel
theorem dX9_init_175 : decode cX9_init 175 = .ok (.bipush 6, 2) := by decide +kernel
theorem dX9_init_177 : decode cX9_init 177 = .ok (.newarray .int, 2) := by decide +kernel
theorem dX9_init_179 : decode cX9_init 179 = .ok (.putfield 73, 3) := by decide +kernel
theorem dX9_init_182 : decode cX9_init 182 = .ok (.aload_n 0, 1) := by decide +kernel
theorem dX9_init_183 : decode cX9_init 183 = .ok (.bipush 6, 2) := by decide +kernel
theorem dX9_init_185 : decode cX9_init 185 = .ok (.newarray .int, 2) := by decide +kernel
theorem dX9_init_187 : decode cX9_init 187 = .ok (.putfield 76, 3) := by decide +kernel
theorem dX9_init_190 : decode cX9_init 190 = .ok (.aload_n 0, 1) := by decide +kernel
theorem dX9_init_191 : decode cX9_init 191 = .ok (.bipush 6, 2) := by decide +kernel
theorem dX9_init_193 : decode cX9_init 193 = .ok (.newarray .int, 2) := by decide +kernel
theorem dX9_init_195 : decode cX9_init 195 = .ok (.putfield 79, 3) := by decide +kernel
theorem dX9_init_198 : decode cX9_init 198 = .ok (.aload_n 0, 1) := by decide +kernel
theorem dX9_init_199 : decode cX9_init 199 = .ok (.iconst 2, 1) := by decide +kernel
theorem dX9_init_200 : decode cX9_init 200 = .ok (.putfield 82, 3) := by decide +kernel
theorem dX9_init_203 : decode cX9_init 203 = .ok (.aload_n 0, 1) := by decide +kernel
theorem dX9_init_204 : decode cX9_init 204 = .ok (.iconst 3, 1) := by decide +kernel
theorem dX9_init_205 : decode cX9_init 205 = .ok (.putfield 86, 3) := by decide +kernel
theorem dX9_init_208 : decode cX9_init 208 = .ok (.return_, 1) := by decide +kernel
theorem dX9_in_0 : decode cX9_in 0 = .ok (.lload_n 0, 1) := by decide +kernel
theorem dX9_in_1 : decode cX9_in 1 = .ok (.lload_n 2, 1) := by decide +kernel
theorem dX9_in_2 : decode cX9_in 2 = .ok (.lcmp, 1) := by decide +kernel
theorem dX9_in_3 : decode cX9_in 3 = .ok (.ifCond .lt 14, 3) := by decide +kernel
theorem dX9_in_6 : decode cX9_in 6 = .ok (.lload_n 0, 1) := by decide +kernel
theorem dX9_in_7 : decode cX9_in 7 = .ok (.lload 4, 2) := by decide +kernel
theorem dX9_in_9 : decode cX9_in 9 = .ok (.lcmp, 1) := by decide +kernel
theorem dX9_in_10 : decode cX9_in 10 = .ok (.ifCond .gt 7, 3) := by decide +kernel
theorem dX9_in_13 : decode cX9_in 13 = .ok (.iconst 1, 1) := by decide +kernel
theorem dX9_in_14 : decode cX9_in 14 = .ok (.goto 4, 3) := by decide +kernel
theorem dX9_in_17 : decode cX9_in 17 = .ok (.iconst 0, 1) := by decide +kernel
theorem dX9_in_18 : decode cX9_in 18 = .ok (.ireturn, 1) := by decide +kernel
theorem dX9_up_0 : decode cX9_up 0 = .ok (.iload_n 0, 1) := by decide +kernel
theorem dX9_up_1 : decode cX9_up 1 = .ok (.iload_n 1, 1) := by decide +kernel
theorem dX9_up_2 : decode cX9_up 2 = .ok (.iadd, 1) := by decide +kernel
theorem dX9_up_3 : decode cX9_up 3 = .ok (.iconst 1, 1) := by decide +kernel
theorem dX9_up_4 : decode cX9_up 4 = .ok (.isub, 1) := by decide +kernel
theorem dX9_up_5 : decode cX9_up 5 = .ok (.iload_n 1, 1) := by decide +kernel
theorem dX9_up_6 : decode cX9_up 6 = .ok (.idiv, 1) := by decide +kernel
theorem dX9_up_7 : decode cX9_up 7 = .ok (.ireturn, 1) := by decide +kernel
theorem dX9_bitsOf_0 : decode cX9_bitsOf 0 = .ok (.iconst 0, 1) := by decide +kernel
theorem dX9_bitsOf_1 : decode cX9_bitsOf 1 = .ok (.istore_n 1, 1) := by decide +kernel
theorem dX9_bitsOf_2 : decode cX9_bitsOf 2 = .ok (.iconst 0, 1) := by decide +kernel
theorem dX9_bitsOf_3 : decode cX9_bitsOf 3 = .ok (.istore_n 2, 1) := by decide +kernel
theorem dX9_bitsOf_4 : decode cX9_bitsOf 4 = .ok (.iload_n 2, 1) := by decide +kernel
theorem dX9_bitsOf_5 : decode cX9_bitsOf 5 = .ok (.bipush 8, 2) := by decide +kernel
theorem dX9_bitsOf_7 : decode cX9_bitsOf 7 = .ok (.if_icmp .ge 17, 3) := by decide +kernel
theorem dX9_bitsOf_10 : decode cX9_bitsOf 10 = .ok (.iload_n 1, 1) := by decide +kernel
theorem dX9_bitsOf_11 : decode cX9_bitsOf 11 = .ok (.iload_n 0, 1) := by decide +kernel
theorem dX9_bitsOf_12 : decode cX9_bitsOf 12 = .ok (.iload_n 2, 1) := by decide +kernel
theorem dX9_bitsOf_13 : decode cX9_bitsOf 13 = .ok (.ishr, 1) := by decide +kernel
theorem dX9_bitsOf_14 : decode cX9_bitsOf 14 = .ok (.iconst 1, 1) := by decide +kernel
theorem dX9_bitsOf_15 : decode cX9_bitsOf 15 = .ok (.iand, 1) := by decide +kernel
theorem dX9_bitsOf_16 : decode cX9_bitsOf 16 = .ok (.iadd, 1) := by decide +kernel
theorem dX9_bitsOf_17 : decode cX9_bitsOf 17 = .ok (.istore_n 1, 1) := by decide +kernel
theorem dX9_bitsOf_18 : decode cX9_bitsOf 18 = .ok (.iinc 2 1, 3) := by decide +kernel
theorem dX9_bitsOf_21 : decode cX9_bitsOf 21 = .ok (.goto (-17), 3) := by decide +kernel
theorem dX9_bitsOf_24 : decode cX9_bitsOf 24 = .ok (.iload_n 1, 1) := by decide +kernel
theorem dX9_bitsOf_25 : decode cX9_bitsOf 25 = .ok (.ireturn, 1) := by decide +kernel
theorem dX9_isTable_0 : decode cX9_isTable 0 = .ok (.iload_n 1, 1) := by decide +kernel
theorem dX9_isTable_1 : decode cX9_isTable 1 = .ok (.i2l, 1) := by decide +kernel
theorem dX9_isTable_2 : decode cX9_isTable 2 = .ok (.lconst 0, 1) := by decide +kernel
theorem dX9_isTable_3 : decode cX9_isTable 3 = .ok (.aload_n 0, 1) := by decide +kernel
theorem dX9_isTable_4 : decode cX9_isTable 4 = .ok (.getfield 89, 3) := by decide +kernel
theorem dX9_isTable_7 : decode cX9_isTable 7 = .ok (.iconst 1, 1) := by decide +kernel
theorem dX9_isTable_8 : decode cX9_isTable 8 = .ok (.isub, 1) := by decide +kernel
theorem dX9_isTable_9 : decode cX9_isTable 9 = .ok (.i2l, 1) := by decide +kernel
theorem dX9_isTable_10 : decode cX9_isTable 10 = .ok (.invokestatic 92, 3) := by decide +kernel
theorem dX9_isTable_13 : decode cX9_isTable 13 = .ok (.ireturn, 1) := by decide +kernel
theorem dX9_has_0 : decode cX9_has 0 = .ok (.aload_n 0, 1) := by decide +kernel
theorem dX9_has_1 : decode cX9_has 1 = .ok (.getfield 7, 3) := by decide +kernel
theorem dX9_has_4 : decode cX9_has 4 = .ok (.iload_n 1, 1) := by decide +kernel
theorem dX9_has_5 : decode cX9_has 5 = .ok (.iaload, 1) := by decide +kernel
theorem dX9_has_6 : decode cX9_has 6 = .ok (.iload_n 2, 1) := by decide +kernel
theorem dX9_has_7 : decode cX9_has 7 = .ok (.ishr, 1) := by decide +kernel
theorem dX9_has_8 : decode cX9_has 8 = .ok (.iconst 1, 1) := by decide +kernel
theorem dX9_has_9 : decode cX9_has 9 = .ok (.iand, 1) := by decide +kernel
theorem dX9_has_10 : decode cX9_has 10 = .ok (.iconst 1, 1) := by decide +kernel
theorem dX9_has_11 : decode cX9_has 11 = .ok (.if_icmp .ne 7, 3) := by decide +kernel
theorem dX9_has_14 : decode cX9_has 14 = .ok (.iconst 1, 1) := by decide +kernel
theorem dX9_has_15 : decode cX9_has 15 = .ok (.goto 4, 3) := by decide +kernel
theorem dX9_has_18 : decode cX9_has 18 = .ok (.iconst 0, 1) := by decide +kernel
theorem dX9_has_19 : decode cX9_has 19 = .ok (.ireturn, 1) := by decide +kernel
theorem dX9_table_0 : decode cX9_table 0 = .ok (.iload_n 1, 1) := by decide +kernel
theorem dX9_table_1 : decode cX9_table 1 = .ok (.i2l, 1) := by decide +kernel
theorem dX9_table_2 : decode cX9_table 2 = .ok (.lconst 1, 1) := by decide +kernel
theorem dX9_table_3 : decode cX9_table 3 = .ok (.ldc2_w 96, 3) := by decide +kernel
theorem dX9_table_6 : decode cX9_table 6 = .ok (.invokestatic 92, 3) := by decide +kernel
theorem dX9_table_9 : decode cX9_table 9 = .ok (.ifCond .eq 23, 3) := by decide +kernel
theorem dX9_table_12 : decode cX9_table 12 = .ok (.iload_n 1, 1) := by decide +kernel
theorem dX9_table_13 : decode cX9_table 13 = .ok (.invokestatic 98, 3) := by decide +kernel
theorem dX9_table_16 : decode cX9_table 16 = .ok (.iconst 3, 1) := by decide +kernel
theorem dX9_table_17 : decode cX9_table 17 = .ok (.if_icmp .gt 15, 3) := by decide +kernel
theorem dX9_table_20 : decode cX9_table 20 = .ok (.iload_n 2, 1) := by decide +kernel
theorem dX9_table_21 : decode cX9_table 21 = .ok (.i2l, 1) := by decide +kernel
theorem dX9_table_22 : decode cX9_table 22 = .ok (.lconst 1, 1) := by decide +kernel
theorem dX9_table_23 : decode cX9_table 23 = .ok (.ldc2_w 102, 3) := by decide +kernel
theorem dX9_table_26 : decode cX9_table 26 = .ok (.invokestatic 92, 3) := by decide +kernel
theorem dX9_table_29 : decode cX9_table 29 = .ok (.ifCond .ne 6, 3) := by decide +kernel
theorem dX9_table_32 : decode cX9_table 32 = .ok (.bipush (-102), 2) := by decide +kernel
theorem dX9_table_34 : decode cX9_table 34 = .ok (.ireturn, 1) := by decide +kernel
theorem dX9_table_35 : decode cX9_table 35 = .ok (.aload_n 0, 1) := by decide +kernel
theorem dX9_table_36 : decode cX9_table 36 = .ok (.getfield 89, 3) := by decide +kernel
theorem dX9_table_39 : decode cX9_table 39 = .ok (.bipush 6, 2) := by decide +kernel
theorem dX9_table_41 : decode cX9_table 41 = .ok (.if_icmp .ne 6, 3) := by decide +kernel
theorem dX9_table_44 : decode cX9_table 44 = .ok (.bipush (-104), 2) := by decide +kernel
theorem dX9_table_46 : decode cX9_table 46 = .ok (.ireturn, 1) := by decide +kernel
theorem dX9_table_47 : decode cX9_table 47 = .ok (.aload_n 0, 1) := by decide +kernel
theorem dX9_table_48 : decode cX9_table 48 = .ok (.getfield 7, 3) := by decide +kernel
theorem dX9_table_51 : decode cX9_table 51 = .ok (.aload_n 0, 1) := by decide +kernel
theorem dX9_table_52 : decode cX9_table 52 = .ok (.getfield 89, 3) := by decide +kernel
theorem dX9_table_55 : decode cX9_table 55 = .ok (.iload_n 1, 1) := by decide +kernel
theorem dX9_table_56 : decode cX9_table 56 = .ok (.iastore, 1) := by decide +kernel
theorem dX9_table_57 : decode cX9_table 57 = .ok (.aload_n 0, 1) := by decide +kernel
theorem dX9_table_58 : decode cX9_table 58 = .ok (.getfield 13, 3) := by decide +kernel
theorem dX9_table_61 : decode cX9_table 61 = .ok (.aload_n 0, 1) := by decide +kernel
theorem dX9_table_62 : decode cX9_table 62 = .ok (.getfield 89, 3) := by decide +kernel
theorem dX9_table_65 : decode cX9_table 65 = .ok (.iload_n 2, 1) := by decide +kernel
theorem dX9_table_66 : decode cX9_table 66 = .ok (.iastore, 1) := by decide +kernel
theorem dX9_table_67 : decode cX9_table 67 = .ok (.aload_n 0, 1) := by decide +kernel
theorem dX9_table_68 : decode cX9_table 68 = .ok (.dup, 1) := by decide +kernel
theorem dX9_table_69 : decode cX9_table 69 = .ok (.getfield 89, 3) := by decide +kernel
theorem dX9_table_72 : decode cX9_table 72 = .ok (.iconst 1, 1) := by decide +kernel
theorem dX9_table_73 : decode cX9_table 73 = .ok (.iadd, 1) := by decide +kernel
theorem dX9_table_74 : decode cX9_table 74 = .ok (.putfield 89, 3) := by decide +kernel
theorem dX9_table_77 : decode cX9_table 77 = .ok (.aload_n 0, 1) := by decide +kernel
theorem dX9_table_78 : decode cX9_table 78 = .ok (.iconst 0, 1) := by decide +kernel
theorem dX9_table_79 : decode cX9_table 79 = .ok (.putfield 104, 3) := by decide +kernel
theorem dX9_table_82 : decode cX9_table 82 = .ok (.aload_n 0, 1) := by decide +kernel
theorem dX9_table_83 : decode cX9_table 83 = .ok (.getfield 89, 3) := by decide +kernel
theorem dX9_table_86 : decode cX9_table 86 = .ok (.iconst 1, 1) := by decide +kernel
theorem dX9_table_87 : decode cX9_table 87 = .ok (.isub, 1) := by decide +kernel
theorem dX9_table_88 : decode cX9_table 88 = .ok (.ireturn, 1) := by decide +kernel
theorem dX9_letterAt_0 : decode cX9_letterAt 0 = .ok (.iload_n 2, 1) := by decide +kernel
theorem dX9_letterAt_1 : decode cX9_letterAt 1 = .ok (.istore_n 3, 1) := by decide +kernel
theorem dX9_letterAt_2 : decode cX9_letterAt 2 = .ok (.iconst 0, 1) := by decide +kernel
theorem dX9_letterAt_3 : decode cX9_letterAt 3 = .ok (.istore 4, 2) := by decide +kernel
theorem dX9_letterAt_5 : decode cX9_letterAt 5 = .ok (.aload_n 0, 1) := by decide +kernel
theorem dX9_letterAt_6 : decode cX9_letterAt 6 = .ok (.iload_n 1, 1) := by decide +kernel
theorem dX9_letterAt_7 : decode cX9_letterAt 7 = .ok (.iload 4, 2) := by decide +kernel
theorem dX9_letterAt_9 : decode cX9_letterAt 9 = .ok (.invokevirtual 108, 3) := by decide +kernel
theorem dX9_letterAt_12 : decode cX9_letterAt 12 = .ok (.ifCond .eq 7, 3) := by decide +kernel
theorem dX9_letterAt_15 : decode cX9_letterAt 15 = .ok (.iload_n 3, 1) := by decide +kernel
theorem dX9_letterAt_16 : decode cX9_letterAt 16 = .ok (.ifCond .le 27, 3) := by decide +kernel
theorem dX9_letterAt_19 : decode cX9_letterAt 19 = .ok (.iload_n 3, 1) := by decide +kernel
theorem dX9_letterAt_20 : decode cX9_letterAt 20 = .ok (.aload_n 0, 1) := by decide +kernel
theorem dX9_letterAt_21 : decode cX9_letterAt 21 = .ok (.iload_n 1, 1) := by decide +kernel
theorem dX9_letterAt_22 : decode cX9_letterAt 22 = .ok (.iload 4, 2) := by decide +kernel
theorem dX9_letterAt_24 : decode cX9_letterAt 24 = .ok (.invokevirtual 108, 3) := by decide +kernel
theorem dX9_letterAt_27 : decode cX9_letterAt 27 = .ok (.ifCond .eq 7, 3) := by decide +kernel
theorem dX9_letterAt_30 : decode cX9_letterAt 30 = .ok (.iconst 1, 1) := by decide +kernel
theorem dX9_letterAt_31 : decode cX9_letterAt 31 = .ok (.goto 4, 3) := by decide +kernel
theorem dX9_letterAt_34 : decode cX9_letterAt 34 = .ok (.iconst 0, 1) := by decide +kernel
theorem dX9_letterAt_35 : decode cX9_letterAt 35 = .ok (.isub, 1) := by decide +kernel
theorem dX9_letterAt_36 : decode cX9_letterAt 36 = .ok (.istore_n 3, 1) := by decide +kernel
theorem dX9_letterAt_37 : decode cX9_letterAt 37 = .ok (.iinc 4 1, 3) := by decide +kernel
theorem dX9_letterAt_40 : decode cX9_letterAt 40 = .ok (.goto (-35), 3) := by decide +kernel
theorem dX9_letterAt_43 : decode cX9_letterAt 43 = .ok (.iload 4, 2) := by decide +kernel
theorem dX9_letterAt_45 : decode cX9_letterAt 45 = .ok (.ireturn, 1) := by decide +kernel
theorem dX9_lay_0 : decode cX9_lay 0 = .ok (.aload_n 0, 1) := by decide +kernel
theorem dX9_lay_1 : decode cX9_lay 1 = .ok (.getfield 7, 3) := by decide +kernel
theorem dX9_lay_4 : decode cX9_lay 4 = .ok (.iload_n 1, 1) := by decide +kernel
theorem dX9_lay_5 : decode cX9_lay 5 = .ok (.iaload, 1) := by decide +kernel
theorem dX9_lay_6 : decode cX9_lay 6 = .ok (.invokestatic 98, 3) := by decide +kernel
theorem dX9_lay_9 : decode cX9_lay 9 = .ok (.istore 5, 2) := by decide +kernel
theorem dX9_lay_11 : decode cX9_lay 11 = .ok (.iconst 0, 1) := by decide +kernel
theorem dX9_lay_12 : decode cX9_lay 12 = .ok (.istore 6, 2) := by decide +kernel
theorem dX9_lay_14 : decode cX9_lay 14 = .ok (.iload 6, 2) := by decide +kernel
theorem dX9_lay_16 : decode cX9_lay 16 = .ok (.iload 5, 2) := by decide +kernel
theorem dX9_lay_18 : decode cX9_lay 18 = .ok (.if_icmp .ge 57, 3) := by decide +kernel
theorem dX9_lay_21 : decode cX9_lay 21 = .ok (.aload_n 0, 1) := by decide +kernel
theorem dX9_lay_22 : decode cX9_lay 22 = .ok (.getfield 19, 3) := by decide +kernel
theorem dX9_lay_25 : decode cX9_lay 25 = .ok (.bipush 64, 2) := by decide +kernel
theorem dX9_lay_27 : decode cX9_lay 27 = .ok (.iload_n 1, 1) := by decide +kernel
theorem dX9_lay_28 : decode cX9_lay 28 = .ok (.imul, 1) := by decide +kernel
theorem dX9_lay_29 : decode cX9_lay 29 = .ok (.bipush 8, 2) := by decide +kernel
theorem dX9_lay_31 : decode cX9_lay 31 = .ok (.aload_n 0, 1) := by decide +kernel
theorem dX9_lay_32 : decode cX9_lay 32 = .ok (.getfield 16, 3) := by decide +kernel
theorem dX9_lay_35 : decode cX9_lay 35 = .ok (.iload_n 1, 1) := by decide +kernel
theorem dX9_lay_36 : decode cX9_lay 36 = .ok (.iaload, 1) := by decide +kernel
theorem dX9_lay_37 : decode cX9_lay 37 = .ok (.imul, 1) := by decide +kernel
theorem dX9_lay_38 : decode cX9_lay 38 = .ok (.iadd, 1) := by decide +kernel
theorem dX9_lay_39 : decode cX9_lay 39 = .ok (.aload_n 0, 1) := by decide +kernel
theorem dX9_lay_40 : decode cX9_lay 40 = .ok (.iload_n 1, 1) := by decide +kernel
theorem dX9_lay_41 : decode cX9_lay 41 = .ok (.iload 6, 2) := by decide +kernel
theorem dX9_lay_43 : decode cX9_lay 43 = .ok (.invokevirtual 112, 3) := by decide +kernel
theorem dX9_lay_46 : decode cX9_lay 46 = .ok (.iadd, 1) := by decide +kernel
theorem dX9_lay_47 : decode cX9_lay 47 = .ok (.iload 6, 2) := by decide +kernel
theorem dX9_lay_49 : decode cX9_lay 49 = .ok (.ifCond .ne 7, 3) := by decide +kernel
theorem dX9_lay_52 : decode cX9_lay 52 = .ok (.iload_n 2, 1) := by decide +kernel
theorem dX9_lay_53 : decode cX9_lay 53 = .ok (.goto 15, 3) := by decide +kernel
theorem dX9_lay_56 : decode cX9_lay 56 = .ok (.iload 6, 2) := by decide +kernel
theorem dX9_lay_58 : decode cX9_lay 58 = .ok (.iconst 1, 1) := by decide +kernel
theorem dX9_lay_59 : decode cX9_lay 59 = .ok (.if_icmp .ne 7, 3) := by decide +kernel
theorem dX9_lay_62 : decode cX9_lay 62 = .ok (.iload_n 3, 1) := by decide +kernel
theorem dX9_lay_63 : decode cX9_lay 63 = .ok (.goto 5, 3) := by decide +kernel
theorem dX9_lay_66 : decode cX9_lay 66 = .ok (.iload 4, 2) := by decide +kernel
theorem dX9_lay_68 : decode cX9_lay 68 = .ok (.iastore, 1) := by decide +kernel
theorem dX9_lay_69 : decode cX9_lay 69 = .ok (.iinc 6 1, 3) := by decide +kernel
theorem dX9_lay_72 : decode cX9_lay 72 = .ok (.goto (-58), 3) := by decide +kernel
theorem dX9_lay_75 : decode cX9_lay 75 = .ok (.aload_n 0, 1) := by decide +kernel
theorem dX9_lay_76 : decode cX9_lay 76 = .ok (.getfield 16, 3) := by decide +kernel
theorem dX9_lay_79 : decode cX9_lay 79 = .ok (.iload_n 1, 1) := by decide +kernel
theorem dX9_lay_80 : decode cX9_lay 80 = .ok (.dup2, 1) := by decide +kernel
theorem dX9_lay_81 : decode cX9_lay 81 = .ok (.iaload, 1) := by decide +kernel
theorem dX9_lay_82 : decode cX9_lay 82 = .ok (.iconst 1, 1) := by decide +kernel
theorem dX9_lay_83 : decode cX9_lay 83 = .ok (.iadd, 1) := by decide +kernel
theorem dX9_lay_84 : decode cX9_lay 84 = .ok (.iastore, 1) := by decide +kernel
theorem dX9_lay_85 : decode cX9_lay 85 = .ok (.aload_n 0, 1) := by decide +kernel
theorem dX9_lay_86 : decode cX9_lay 86 = .ok (.iconst 0, 1) := by decide +kernel
theorem dX9_lay_87 : decode cX9_lay 87 = .ok (.putfield 104, 3) := by decide +kernel
theorem dX9_lay_90 : decode cX9_lay 90 = .ok (.return_, 1) := by decide +kernel
theorem dX9_row_0 : decode cX9_row 0 = .ok (.aload_n 0, 1) := by decide +kernel
theorem dX9_row_1 : decode cX9_row 1 = .ok (.iload_n 1, 1) := by decide +kernel
theorem dX9_row_2 : decode cX9_row 2 = .ok (.invokevirtual 116, 3) := by decide +kernel
theorem dX9_row_5 : decode cX9_row 5 = .ok (.ifCond .ne 6, 3) := by decide +kernel
theorem dX9_row_8 : decode cX9_row 8 = .ok (.bipush (-101), 2) := by decide +kernel
theorem dX9_row_10 : decode cX9_row 10 = .ok (.ireturn, 1) := by decide +kernel
theorem dX9_row_11 : decode cX9_row 11 = .ok (.aload_n 0, 1) := by decide +kernel
theorem dX9_row_12 : decode cX9_row 12 = .ok (.getfield 7, 3) := by decide +kernel
theorem dX9_row_15 : decode cX9_row 15 = .ok (.iload_n 1, 1) := by decide +kernel
theorem dX9_row_16 : decode cX9_row 16 = .ok (.iaload, 1) := by decide +kernel
theorem dX9_row_17 : decode cX9_row 17 = .ok (.invokestatic 98, 3) := by decide +kernel
theorem dX9_row_20 : decode cX9_row 20 = .ok (.istore 5, 2) := by decide +kernel
theorem dX9_row_22 : decode cX9_row 22 = .ok (.iload_n 2, 1) := by decide +kernel
theorem dX9_row_23 : decode cX9_row 23 = .ok (.i2l, 1) := by decide +kernel
theorem dX9_row_24 : decode cX9_row 24 = .ok (.lconst 0, 1) := by decide +kernel
theorem dX9_row_25 : decode cX9_row 25 = .ok (.ldc2_w 120, 3) := by decide +kernel
theorem dX9_row_28 : decode cX9_row 28 = .ok (.invokestatic 92, 3) := by decide +kernel
theorem dX9_row_31 : decode cX9_row 31 = .ok (.ifCond .eq 48, 3) := by decide +kernel
theorem dX9_row_34 : decode cX9_row 34 = .ok (.iload_n 3, 1) := by decide +kernel
theorem dX9_row_35 : decode cX9_row 35 = .ok (.i2l, 1) := by decide +kernel
theorem dX9_row_36 : decode cX9_row 36 = .ok (.lconst 0, 1) := by decide +kernel
theorem dX9_row_37 : decode cX9_row 37 = .ok (.iload 5, 2) := by decide +kernel
theorem dX9_row_39 : decode cX9_row 39 = .ok (.iconst 1, 1) := by decide +kernel
theorem dX9_row_40 : decode cX9_row 40 = .ok (.if_icmp .le 9, 3) := by decide +kernel
theorem dX9_row_43 : decode cX9_row 43 = .ok (.ldc2_w 120, 3) := by decide +kernel
theorem dX9_row_46 : decode cX9_row 46 = .ok (.goto 4, 3) := by decide +kernel
theorem dX9_row_49 : decode cX9_row 49 = .ok (.lconst 0, 1) := by decide +kernel
theorem dX9_row_50 : decode cX9_row 50 = .ok (.invokestatic 92, 3) := by decide +kernel
theorem dX9_row_53 : decode cX9_row 53 = .ok (.ifCond .eq 26, 3) := by decide +kernel
theorem dX9_row_56 : decode cX9_row 56 = .ok (.iload 4, 2) := by decide +kernel
theorem dX9_row_58 : decode cX9_row 58 = .ok (.i2l, 1) := by decide +kernel
theorem dX9_row_59 : decode cX9_row 59 = .ok (.lconst 0, 1) := by decide +kernel
theorem dX9_row_60 : decode cX9_row 60 = .ok (.iload 5, 2) := by decide +kernel
theorem dX9_row_62 : decode cX9_row 62 = .ok (.iconst 2, 1) := by decide +kernel
theorem dX9_row_63 : decode cX9_row 63 = .ok (.if_icmp .le 9, 3) := by decide +kernel
theorem dX9_row_66 : decode cX9_row 66 = .ok (.ldc2_w 120, 3) := by decide +kernel
theorem dX9_row_69 : decode cX9_row 69 = .ok (.goto 4, 3) := by decide +kernel
theorem dX9_row_72 : decode cX9_row 72 = .ok (.lconst 0, 1) := by decide +kernel
theorem dX9_row_73 : decode cX9_row 73 = .ok (.invokestatic 92, 3) := by decide +kernel
theorem dX9_row_76 : decode cX9_row 76 = .ok (.ifCond .ne 6, 3) := by decide +kernel
theorem dX9_row_79 : decode cX9_row 79 = .ok (.bipush (-102), 2) := by decide +kernel
theorem dX9_row_81 : decode cX9_row 81 = .ok (.ireturn, 1) := by decide +kernel
theorem dX9_row_82 : decode cX9_row 82 = .ok (.aload_n 0, 1) := by decide +kernel
theorem dX9_row_83 : decode cX9_row 83 = .ok (.getfield 16, 3) := by decide +kernel
theorem dX9_row_86 : decode cX9_row 86 = .ok (.iload_n 1, 1) := by decide +kernel
theorem dX9_row_87 : decode cX9_row 87 = .ok (.iaload, 1) := by decide +kernel
theorem dX9_row_88 : decode cX9_row 88 = .ok (.bipush 8, 2) := by decide +kernel
theorem dX9_row_90 : decode cX9_row 90 = .ok (.if_icmp .ne 6, 3) := by decide +kernel
theorem dX9_row_93 : decode cX9_row 93 = .ok (.bipush (-104), 2) := by decide +kernel
theorem dX9_row_95 : decode cX9_row 95 = .ok (.ireturn, 1) := by decide +kernel
theorem dX9_row_96 : decode cX9_row 96 = .ok (.aload_n 0, 1) := by decide +kernel
theorem dX9_row_97 : decode cX9_row 97 = .ok (.iload_n 1, 1) := by decide +kernel
theorem dX9_row_98 : decode cX9_row 98 = .ok (.iload_n 2, 1) := by decide +kernel
theorem dX9_row_99 : decode cX9_row 99 = .ok (.iload_n 3, 1) := by decide +kernel
theorem dX9_row_100 : decode cX9_row 100 = .ok (.iload 4, 2) := by decide +kernel
theorem dX9_row_102 : decode cX9_row 102 = .ok (.invokevirtual 122, 3) := by decide +kernel
theorem dX9_row_105 : decode cX9_row 105 = .ok (.aload_n 0, 1) := by decide +kernel
theorem dX9_row_106 : decode cX9_row 106 = .ok (.getfield 16, 3) := by decide +kernel
theorem dX9_row_109 : decode cX9_row 109 = .ok (.iload_n 1, 1) := by decide +kernel
theorem dX9_row_110 : decode cX9_row 110 = .ok (.iaload, 1) := by decide +kernel
theorem dX9_row_111 : decode cX9_row 111 = .ok (.ireturn, 1) := by decide +kernel
theorem dX9_fill_0 : decode cX9_fill 0 = .ok (.aload_n 0, 1) := by decide +kernel
theorem dX9_fill_1 : decode cX9_fill 1 = .ok (.iload_n 1, 1) := by decide +kernel
theorem dX9_fill_2 : decode cX9_fill 2 = .ok (.invokevirtual 116, 3) := by decide +kernel
theorem dX9_fill_5 : decode cX9_fill 5 = .ok (.ifCond .ne 6, 3) := by decide +kernel
theorem dX9_fill_8 : decode cX9_fill 8 = .ok (.bipush (-101), 2) := by decide +kernel
theorem dX9_fill_10 : decode cX9_fill 10 = .ok (.ireturn, 1) := by decide +kernel
theorem dX9_fill_11 : decode cX9_fill 11 = .ok (.iload_n 2, 1) := by decide +kernel
theorem dX9_fill_12 : decode cX9_fill 12 = .ok (.ifCond .lt 28, 3) := by decide +kernel
theorem dX9_fill_15 : decode cX9_fill 15 = .ok (.iload_n 3, 1) := by decide +kernel
theorem dX9_fill_16 : decode cX9_fill 16 = .ok (.i2l, 1) := by decide +kernel
theorem dX9_fill_17 : decode cX9_fill 17 = .ok (.lconst 1, 1) := by decide +kernel
theorem dX9_fill_18 : decode cX9_fill 18 = .ok (.ldc2_w 126, 3) := by decide +kernel
theorem dX9_fill_21 : decode cX9_fill 21 = .ok (.invokestatic 92, 3) := by decide +kernel
theorem dX9_fill_24 : decode cX9_fill 24 = .ok (.ifCond .eq 16, 3) := by decide +kernel
theorem dX9_fill_27 : decode cX9_fill 27 = .ok (.iload 4, 2) := by decide +kernel
theorem dX9_fill_29 : decode cX9_fill 29 = .ok (.i2l, 1) := by decide +kernel
theorem dX9_fill_30 : decode cX9_fill 30 = .ok (.lconst 1, 1) := by decide +kernel
theorem dX9_fill_31 : decode cX9_fill 31 = .ok (.ldc2_w 128, 3) := by decide +kernel
theorem dX9_fill_34 : decode cX9_fill 34 = .ok (.invokestatic 92, 3) := by decide +kernel
theorem dX9_fill_37 : decode cX9_fill 37 = .ok (.ifCond .ne 6, 3) := by decide +kernel
theorem dX9_fill_40 : decode cX9_fill 40 = .ok (.bipush (-102), 2) := by decide +kernel
theorem dX9_fill_42 : decode cX9_fill 42 = .ok (.ireturn, 1) := by decide +kernel
theorem dX9_fill_43 : decode cX9_fill 43 = .ok (.iload_n 2, 1) := by decide +kernel
theorem dX9_fill_44 : decode cX9_fill 44 = .ok (.i2l, 1) := by decide +kernel
theorem dX9_fill_45 : decode cX9_fill 45 = .ok (.lstore 5, 2) := by decide +kernel
theorem dX9_fill_47 : decode cX9_fill 47 = .ok (.iconst 0, 1) := by decide +kernel
theorem dX9_fill_48 : decode cX9_fill 48 = .ok (.istore 7, 2) := by decide +kernel
theorem dX9_fill_50 : decode cX9_fill 50 = .ok (.aload_n 0, 1) := by decide +kernel
theorem dX9_fill_51 : decode cX9_fill 51 = .ok (.getfield 7, 3) := by decide +kernel
theorem dX9_fill_54 : decode cX9_fill 54 = .ok (.iload_n 1, 1) := by decide +kernel
theorem dX9_fill_55 : decode cX9_fill 55 = .ok (.iaload, 1) := by decide +kernel
theorem dX9_fill_56 : decode cX9_fill 56 = .ok (.invokestatic 98, 3) := by decide +kernel
theorem dX9_fill_59 : decode cX9_fill 59 = .ok (.istore 8, 2) := by decide +kernel
theorem dX9_fill_61 : decode cX9_fill 61 = .ok (.iload 7, 2) := by decide +kernel
theorem dX9_fill_63 : decode cX9_fill 63 = .ok (.iload_n 3, 1) := by decide +kernel
theorem dX9_fill_64 : decode cX9_fill 64 = .ok (.if_icmp .ge 93, 3) := by decide +kernel
theorem dX9_fill_67 : decode cX9_fill 67 = .ok (.aload_n 0, 1) := by decide +kernel
theorem dX9_fill_68 : decode cX9_fill 68 = .ok (.getfield 16, 3) := by decide +kernel
theorem dX9_fill_71 : decode cX9_fill 71 = .ok (.iload_n 1, 1) := by decide +kernel
theorem dX9_fill_72 : decode cX9_fill 72 = .ok (.iaload, 1) := by decide +kernel
theorem dX9_fill_73 : decode cX9_fill 73 = .ok (.bipush 8, 2) := by decide +kernel
theorem dX9_fill_75 : decode cX9_fill 75 = .ok (.if_icmp .ge 82, 3) := by decide +kernel
theorem dX9_fill_78 : decode cX9_fill 78 = .ok (.iconst 0, 1) := by decide +kernel
theorem dX9_fill_79 : decode cX9_fill 79 = .ok (.istore 9, 2) := by decide +kernel
theorem dX9_fill_81 : decode cX9_fill 81 = .ok (.iload 9, 2) := by decide +kernel
theorem dX9_fill_83 : decode cX9_fill 83 = .ok (.iload 8, 2) := by decide +kernel
theorem dX9_fill_85 : decode cX9_fill 85 = .ok (.if_icmp .ge 43, 3) := by decide +kernel
theorem dX9_fill_88 : decode cX9_fill 88 = .ok (.ldc2_w 130, 3) := by decide +kernel
theorem dX9_fill_91 : decode cX9_fill 91 = .ok (.lload 5, 2) := by decide +kernel
theorem dX9_fill_93 : decode cX9_fill 93 = .ok (.lmul, 1) := by decide +kernel
theorem dX9_fill_94 : decode cX9_fill 94 = .ok (.ldc2_w 132, 3) := by decide +kernel
theorem dX9_fill_97 : decode cX9_fill 97 = .ok (.ladd, 1) := by decide +kernel
theorem dX9_fill_98 : decode cX9_fill 98 = .ok (.ldc2_w 134, 3) := by decide +kernel
theorem dX9_fill_101 : decode cX9_fill 101 = .ok (.land, 1) := by decide +kernel
theorem dX9_fill_102 : decode cX9_fill 102 = .ok (.lstore 5, 2) := by decide +kernel
theorem dX9_fill_104 : decode cX9_fill 104 = .ok (.aload_n 0, 1) := by decide +kernel
theorem dX9_fill_105 : decode cX9_fill 105 = .ok (.getfield 22, 3) := by decide +kernel
theorem dX9_fill_108 : decode cX9_fill 108 = .ok (.iload 9, 2) := by decide +kernel
theorem dX9_fill_110 : decode cX9_fill 110 = .ok (.lload 5, 2) := by decide +kernel
theorem dX9_fill_112 : decode cX9_fill 112 = .ok (.ldc2_w 136, 3) := by decide +kernel
theorem dX9_fill_115 : decode cX9_fill 115 = .ok (.ldiv, 1) := by decide +kernel
theorem dX9_fill_116 : decode cX9_fill 116 = .ok (.iload 4, 2) := by decide +kernel
theorem dX9_fill_118 : decode cX9_fill 118 = .ok (.i2l, 1) := by decide +kernel
theorem dX9_fill_119 : decode cX9_fill 119 = .ok (.lrem, 1) := by decide +kernel
theorem dX9_fill_120 : decode cX9_fill 120 = .ok (.l2i, 1) := by decide +kernel
theorem dX9_fill_121 : decode cX9_fill 121 = .ok (.iastore, 1) := by decide +kernel
theorem dX9_fill_122 : decode cX9_fill 122 = .ok (.iinc 9 1, 3) := by decide +kernel
theorem dX9_fill_125 : decode cX9_fill 125 = .ok (.goto (-44), 3) := by decide +kernel
theorem dX9_fill_128 : decode cX9_fill 128 = .ok (.aload_n 0, 1) := by decide +kernel
theorem dX9_fill_129 : decode cX9_fill 129 = .ok (.iload_n 1, 1) := by decide +kernel
theorem dX9_fill_130 : decode cX9_fill 130 = .ok (.aload_n 0, 1) := by decide +kernel
theorem dX9_fill_131 : decode cX9_fill 131 = .ok (.getfield 22, 3) := by decide +kernel
theorem dX9_fill_134 : decode cX9_fill 134 = .ok (.iconst 0, 1) := by decide +kernel
theorem dX9_fill_135 : decode cX9_fill 135 = .ok (.iaload, 1) := by decide +kernel
theorem dX9_fill_136 : decode cX9_fill 136 = .ok (.aload_n 0, 1) := by decide +kernel
theorem dX9_fill_137 : decode cX9_fill 137 = .ok (.getfield 22, 3) := by decide +kernel
theorem dX9_fill_140 : decode cX9_fill 140 = .ok (.iconst 1, 1) := by decide +kernel
theorem dX9_fill_141 : decode cX9_fill 141 = .ok (.iaload, 1) := by decide +kernel
theorem dX9_fill_142 : decode cX9_fill 142 = .ok (.aload_n 0, 1) := by decide +kernel
theorem dX9_fill_143 : decode cX9_fill 143 = .ok (.getfield 22, 3) := by decide +kernel
theorem dX9_fill_146 : decode cX9_fill 146 = .ok (.iconst 2, 1) := by decide +kernel
theorem dX9_fill_147 : decode cX9_fill 147 = .ok (.iaload, 1) := by decide +kernel
theorem dX9_fill_148 : decode cX9_fill 148 = .ok (.invokevirtual 122, 3) := by decide +kernel
theorem dX9_fill_151 : decode cX9_fill 151 = .ok (.iinc 7 1, 3) := by decide +kernel
theorem dX9_fill_154 : decode cX9_fill 154 = .ok (.goto (-93), 3) := by decide +kernel
theorem dX9_fill_157 : decode cX9_fill 157 = .ok (.iload 7, 2) := by decide +kernel
theorem dX9_fill_159 : decode cX9_fill 159 = .ok (.ireturn, 1) := by decide +kernel
theorem dX9_isRow_0 : decode cX9_isRow 0 = .ok (.aload_n 0, 1) := by decide +kernel
theorem dX9_isRow_1 : decode cX9_isRow 1 = .ok (.iload_n 1, 1) := by decide +kernel
theorem dX9_isRow_2 : decode cX9_isRow 2 = .ok (.invokevirtual 116, 3) := by decide +kernel
theorem dX9_isRow_5 : decode cX9_isRow 5 = .ok (.ifCond .eq 25, 3) := by decide +kernel
theorem dX9_isRow_8 : decode cX9_isRow 8 = .ok (.iload_n 2, 1) := by decide +kernel
theorem dX9_isRow_9 : decode cX9_isRow 9 = .ok (.i2l, 1) := by decide +kernel
theorem dX9_isRow_10 : decode cX9_isRow 10 = .ok (.lconst 0, 1) := by decide +kernel
theorem dX9_isRow_11 : decode cX9_isRow 11 = .ok (.aload_n 0, 1) := by decide +kernel
theorem dX9_isRow_12 : decode cX9_isRow 12 = .ok (.getfield 16, 3) := by decide +kernel
theorem dX9_isRow_15 : decode cX9_isRow 15 = .ok (.iload_n 1, 1) := by decide +kernel
theorem dX9_isRow_16 : decode cX9_isRow 16 = .ok (.iaload, 1) := by decide +kernel
theorem dX9_isRow_17 : decode cX9_isRow 17 = .ok (.iconst 1, 1) := by decide +kernel
theorem dX9_isRow_18 : decode cX9_isRow 18 = .ok (.isub, 1) := by decide +kernel
theorem dX9_isRow_19 : decode cX9_isRow 19 = .ok (.i2l, 1) := by decide +kernel
theorem dX9_isRow_20 : decode cX9_isRow 20 = .ok (.invokestatic 92, 3) := by decide +kernel
theorem dX9_isRow_23 : decode cX9_isRow 23 = .ok (.ifCond .eq 7, 3) := by decide +kernel
theorem dX9_isRow_26 : decode cX9_isRow 26 = .ok (.iconst 1, 1) := by decide +kernel
theorem dX9_isRow_27 : decode cX9_isRow 27 = .ok (.goto 4, 3) := by decide +kernel
theorem dX9_isRow_30 : decode cX9_isRow 30 = .ok (.iconst 0, 1) := by decide +kernel
theorem dX9_isRow_31 : decode cX9_isRow 31 = .ok (.ireturn, 1) := by decide +kernel
theorem dX9_drop_0 : decode cX9_drop 0 = .ok (.aload_n 0, 1) := by decide +kernel
theorem dX9_drop_1 : decode cX9_drop 1 = .ok (.iload_n 1, 1) := by decide +kernel
theorem dX9_drop_2 : decode cX9_drop 2 = .ok (.iload_n 2, 1) := by decide +kernel
theorem dX9_drop_3 : decode cX9_drop 3 = .ok (.invokevirtual 138, 3) := by decide +kernel
theorem dX9_drop_6 : decode cX9_drop 6 = .ok (.ifCond .ne 6, 3) := by decide +kernel
theorem dX9_drop_9 : decode cX9_drop 9 = .ok (.bipush (-101), 2) := by decide +kernel
theorem dX9_drop_11 : decode cX9_drop 11 = .ok (.ireturn, 1) := by decide +kernel
theorem dX9_drop_12 : decode cX9_drop 12 = .ok (.aload_n 0, 1) := by decide +kernel
theorem dX9_drop_13 : decode cX9_drop 13 = .ok (.getfield 16, 3) := by decide +kernel
theorem dX9_drop_16 : decode cX9_drop 16 = .ok (.iload_n 1, 1) := by decide +kernel
theorem dX9_drop_17 : decode cX9_drop 17 = .ok (.dup2, 1) := by decide +kernel
theorem dX9_drop_18 : decode cX9_drop 18 = .ok (.iaload, 1) := by decide +kernel
theorem dX9_drop_19 : decode cX9_drop 19 = .ok (.iconst 1, 1) := by decide +kernel
theorem dX9_drop_20 : decode cX9_drop 20 = .ok (.isub, 1) := by decide +kernel
theorem dX9_drop_21 : decode cX9_drop 21 = .ok (.iastore, 1) := by decide +kernel
theorem dX9_drop_22 : decode cX9_drop 22 = .ok (.iload_n 2, 1) := by decide +kernel
theorem dX9_drop_23 : decode cX9_drop 23 = .ok (.istore_n 3, 1) := by decide +kernel
theorem dX9_drop_24 : decode cX9_drop 24 = .ok (.iload_n 3, 1) := by decide +kernel
theorem dX9_drop_25 : decode cX9_drop 25 = .ok (.aload_n 0, 1) := by decide +kernel
theorem dX9_drop_26 : decode cX9_drop 26 = .ok (.getfield 16, 3) := by decide +kernel
theorem dX9_drop_29 : decode cX9_drop 29 = .ok (.iload_n 1, 1) := by decide +kernel
theorem dX9_drop_30 : decode cX9_drop 30 = .ok (.iaload, 1) := by decide +kernel
theorem dX9_drop_31 : decode cX9_drop 31 = .ok (.if_icmp .ge 62, 3) := by decide +kernel
theorem dX9_drop_34 : decode cX9_drop 34 = .ok (.iconst 0, 1) := by decide +kernel
theorem dX9_drop_35 : decode cX9_drop 35 = .ok (.istore 4, 2) := by decide +kernel
theorem dX9_drop_37 : decode cX9_drop 37 = .ok (.iload 4, 2) := by decide +kernel
theorem dX9_drop_39 : decode cX9_drop 39 = .ok (.bipush 8, 2) := by decide +kernel
theorem dX9_drop_41 : decode cX9_drop 41 = .ok (.if_icmp .ge 46, 3) := by decide +kernel
theorem dX9_drop_44 : decode cX9_drop 44 = .ok (.aload_n 0, 1) := by decide +kernel
theorem dX9_drop_45 : decode cX9_drop 45 = .ok (.getfield 19, 3) := by decide +kernel
theorem dX9_drop_48 : decode cX9_drop 48 = .ok (.bipush 64, 2) := by decide +kernel
theorem dX9_drop_50 : decode cX9_drop 50 = .ok (.iload_n 1, 1) := by decide +kernel
theorem dX9_drop_51 : decode cX9_drop 51 = .ok (.imul, 1) := by decide +kernel
theorem dX9_drop_52 : decode cX9_drop 52 = .ok (.bipush 8, 2) := by decide +kernel
theorem dX9_drop_54 : decode cX9_drop 54 = .ok (.iload_n 3, 1) := by decide +kernel
theorem dX9_drop_55 : decode cX9_drop 55 = .ok (.imul, 1) := by decide +kernel
theorem dX9_drop_56 : decode cX9_drop 56 = .ok (.iadd, 1) := by decide +kernel
theorem dX9_drop_57 : decode cX9_drop 57 = .ok (.iload 4, 2) := by decide +kernel
theorem dX9_drop_59 : decode cX9_drop 59 = .ok (.iadd, 1) := by decide +kernel
theorem dX9_drop_60 : decode cX9_drop 60 = .ok (.aload_n 0, 1) := by decide +kernel
theorem dX9_drop_61 : decode cX9_drop 61 = .ok (.getfield 19, 3) := by decide +kernel
theorem dX9_drop_64 : decode cX9_drop 64 = .ok (.bipush 64, 2) := by decide +kernel
theorem dX9_drop_66 : decode cX9_drop 66 = .ok (.iload_n 1, 1) := by decide +kernel
theorem dX9_drop_67 : decode cX9_drop 67 = .ok (.imul, 1) := by decide +kernel
theorem dX9_drop_68 : decode cX9_drop 68 = .ok (.bipush 8, 2) := by decide +kernel
theorem dX9_drop_70 : decode cX9_drop 70 = .ok (.iload_n 3, 1) := by decide +kernel
theorem dX9_drop_71 : decode cX9_drop 71 = .ok (.imul, 1) := by decide +kernel
theorem dX9_drop_72 : decode cX9_drop 72 = .ok (.iadd, 1) := by decide +kernel
theorem dX9_drop_73 : decode cX9_drop 73 = .ok (.bipush 8, 2) := by decide +kernel
theorem dX9_drop_75 : decode cX9_drop 75 = .ok (.iadd, 1) := by decide +kernel
theorem dX9_drop_76 : decode cX9_drop 76 = .ok (.iload 4, 2) := by decide +kernel
theorem dX9_drop_78 : decode cX9_drop 78 = .ok (.iadd, 1) := by decide +kernel
theorem dX9_drop_79 : decode cX9_drop 79 = .ok (.iaload, 1) := by decide +kernel
theorem dX9_drop_80 : decode cX9_drop 80 = .ok (.iastore, 1) := by decide +kernel
theorem dX9_drop_81 : decode cX9_drop 81 = .ok (.iinc 4 1, 3) := by decide +kernel
theorem dX9_drop_84 : decode cX9_drop 84 = .ok (.goto (-47), 3) := by decide +kernel
theorem dX9_drop_87 : decode cX9_drop 87 = .ok (.iinc 3 1, 3) := by decide +kernel
theorem dX9_drop_90 : decode cX9_drop 90 = .ok (.goto (-66), 3) := by decide +kernel
theorem dX9_drop_93 : decode cX9_drop 93 = .ok (.aload_n 0, 1) := by decide +kernel
theorem dX9_drop_94 : decode cX9_drop 94 = .ok (.iconst 0, 1) := by decide +kernel
theorem dX9_drop_95 : decode cX9_drop 95 = .ok (.putfield 104, 3) := by decide +kernel
theorem dX9_drop_98 : decode cX9_drop 98 = .ok (.aload_n 0, 1) := by decide +kernel
theorem dX9_drop_99 : decode cX9_drop 99 = .ok (.getfield 16, 3) := by decide +kernel
theorem dX9_drop_102 : decode cX9_drop 102 = .ok (.iload_n 1, 1) := by decide +kernel
theorem dX9_drop_103 : decode cX9_drop 103 = .ok (.iaload, 1) := by decide +kernel
theorem dX9_drop_104 : decode cX9_drop 104 = .ok (.ireturn, 1) := by decide +kernel
theorem dX9_sort_0 : decode cX9_sort 0 = .ok (.aload_n 0, 1) := by decide +kernel
theorem dX9_sort_1 : decode cX9_sort 1 = .ok (.iload_n 1, 1) := by decide +kernel
theorem dX9_sort_2 : decode cX9_sort 2 = .ok (.invokevirtual 116, 3) := by decide +kernel
theorem dX9_sort_5 : decode cX9_sort 5 = .ok (.ifCond .ne 6, 3) := by decide +kernel
theorem dX9_sort_8 : decode cX9_sort 8 = .ok (.bipush (-101), 2) := by decide +kernel
theorem dX9_sort_10 : decode cX9_sort 10 = .ok (.ireturn, 1) := by decide +kernel
theorem dX9_sort_11 : decode cX9_sort 11 = .ok (.iload_n 2, 1) := by decide +kernel
theorem dX9_sort_12 : decode cX9_sort 12 = .ok (.i2l, 1) := by decide +kernel
theorem dX9_sort_13 : decode cX9_sort 13 = .ok (.lconst 0, 1) := by decide +kernel
theorem dX9_sort_14 : decode cX9_sort 14 = .ok (.ldc2_w 141, 3) := by decide +kernel
theorem dX9_sort_17 : decode cX9_sort 17 = .ok (.invokestatic 92, 3) := by decide +kernel
theorem dX9_sort_20 : decode cX9_sort 20 = .ok (.ifCond .eq 12, 3) := by decide +kernel
theorem dX9_sort_23 : decode cX9_sort 23 = .ok (.aload_n 0, 1) := by decide +kernel
theorem dX9_sort_24 : decode cX9_sort 24 = .ok (.iload_n 1, 1) := by decide +kernel
theorem dX9_sort_25 : decode cX9_sort 25 = .ok (.iload_n 2, 1) := by decide +kernel
theorem dX9_sort_26 : decode cX9_sort 26 = .ok (.invokevirtual 108, 3) := by decide +kernel
theorem dX9_sort_29 : decode cX9_sort 29 = .ok (.ifCond .ne 6, 3) := by decide +kernel
theorem dX9_sort_32 : decode cX9_sort 32 = .ok (.bipush (-102), 2) := by decide +kernel
theorem dX9_sort_34 : decode cX9_sort 34 = .ok (.ireturn, 1) := by decide +kernel
theorem dX9_sort_35 : decode cX9_sort 35 = .ok (.iconst 0, 1) := by decide +kernel
theorem dX9_sort_36 : decode cX9_sort 36 = .ok (.istore_n 3, 1) := by decide +kernel
theorem dX9_sort_37 : decode cX9_sort 37 = .ok (.iload_n 3, 1) := by decide +kernel
theorem dX9_sort_38 : decode cX9_sort 38 = .ok (.aload_n 0, 1) := by decide +kernel
theorem dX9_sort_39 : decode cX9_sort 39 = .ok (.getfield 16, 3) := by decide +kernel
theorem dX9_sort_42 : decode cX9_sort 42 = .ok (.iload_n 1, 1) := by decide +kernel
theorem dX9_sort_43 : decode cX9_sort 43 = .ok (.iaload, 1) := by decide +kernel
theorem dX9_sort_44 : decode cX9_sort 44 = .ok (.if_icmp .ge 90, 3) := by decide +kernel
theorem dX9_sort_47 : decode cX9_sort 47 = .ok (.iload_n 3, 1) := by decide +kernel
theorem dX9_sort_48 : decode cX9_sort 48 = .ok (.istore 4, 2) := by decide +kernel
theorem dX9_sort_50 : decode cX9_sort 50 = .ok (.iload 4, 2) := by decide +kernel
theorem dX9_sort_52 : decode cX9_sort 52 = .ok (.ifCond .le 68, 3) := by decide +kernel
theorem dX9_sort_55 : decode cX9_sort 55 = .ok (.aload_n 0, 1) := by decide +kernel
theorem dX9_sort_56 : decode cX9_sort 56 = .ok (.getfield 19, 3) := by decide +kernel
theorem dX9_sort_59 : decode cX9_sort 59 = .ok (.bipush 64, 2) := by decide +kernel
theorem dX9_sort_61 : decode cX9_sort 61 = .ok (.iload_n 1, 1) := by decide +kernel
theorem dX9_sort_62 : decode cX9_sort 62 = .ok (.imul, 1) := by decide +kernel
theorem dX9_sort_63 : decode cX9_sort 63 = .ok (.bipush 8, 2) := by decide +kernel
theorem dX9_sort_65 : decode cX9_sort 65 = .ok (.iload_n 3, 1) := by decide +kernel
theorem dX9_sort_66 : decode cX9_sort 66 = .ok (.imul, 1) := by decide +kernel
theorem dX9_sort_67 : decode cX9_sort 67 = .ok (.iadd, 1) := by decide +kernel
theorem dX9_sort_68 : decode cX9_sort 68 = .ok (.iload_n 2, 1) := by decide +kernel
theorem dX9_sort_69 : decode cX9_sort 69 = .ok (.iadd, 1) := by decide +kernel
theorem dX9_sort_70 : decode cX9_sort 70 = .ok (.iaload, 1) := by decide +kernel
theorem dX9_sort_71 : decode cX9_sort 71 = .ok (.aload_n 0, 1) := by decide +kernel
theorem dX9_sort_72 : decode cX9_sort 72 = .ok (.getfield 19, 3) := by decide +kernel
theorem dX9_sort_75 : decode cX9_sort 75 = .ok (.bipush 64, 2) := by decide +kernel
theorem dX9_sort_77 : decode cX9_sort 77 = .ok (.iload_n 1, 1) := by decide +kernel
theorem dX9_sort_78 : decode cX9_sort 78 = .ok (.imul, 1) := by decide +kernel
theorem dX9_sort_79 : decode cX9_sort 79 = .ok (.bipush 8, 2) := by decide +kernel
theorem dX9_sort_81 : decode cX9_sort 81 = .ok (.aload_n 0, 1) := by decide +kernel
theorem dX9_sort_82 : decode cX9_sort 82 = .ok (.getfield 25, 3) := by decide +kernel
theorem dX9_sort_85 : decode cX9_sort 85 = .ok (.iload 4, 2) := by decide +kernel
theorem dX9_sort_87 : decode cX9_sort 87 = .ok (.iconst 1, 1) := by decide +kernel
theorem dX9_sort_88 : decode cX9_sort 88 = .ok (.isub, 1) := by decide +kernel
theorem dX9_sort_89 : decode cX9_sort 89 = .ok (.iaload, 1) := by decide +kernel
theorem dX9_sort_90 : decode cX9_sort 90 = .ok (.imul, 1) := by decide +kernel
theorem dX9_sort_91 : decode cX9_sort 91 = .ok (.iadd, 1) := by decide +kernel
theorem dX9_sort_92 : decode cX9_sort 92 = .ok (.iload_n 2, 1) := by decide +kernel
theorem dX9_sort_93 : decode cX9_sort 93 = .ok (.iadd, 1) := by decide +kernel
theorem dX9_sort_94 : decode cX9_sort 94 = .ok (.iaload, 1) := by decide +kernel
theorem dX9_sort_95 : decode cX9_sort 95 = .ok (.if_icmp .ge 25, 3) := by decide +kernel
theorem dX9_sort_98 : decode cX9_sort 98 = .ok (.aload_n 0, 1) := by decide +kernel
theorem dX9_sort_99 : decode cX9_sort 99 = .ok (.getfield 25, 3) := by decide +kernel
theorem dX9_sort_102 : decode cX9_sort 102 = .ok (.iload 4, 2) := by decide +kernel
theorem dX9_sort_104 : decode cX9_sort 104 = .ok (.aload_n 0, 1) := by decide +kernel
theorem dX9_sort_105 : decode cX9_sort 105 = .ok (.getfield 25, 3) := by decide +kernel
theorem dX9_sort_108 : decode cX9_sort 108 = .ok (.iload 4, 2) := by decide +kernel
theorem dX9_sort_110 : decode cX9_sort 110 = .ok (.iconst 1, 1) := by decide +kernel
theorem dX9_sort_111 : decode cX9_sort 111 = .ok (.isub, 1) := by decide +kernel
theorem dX9_sort_112 : decode cX9_sort 112 = .ok (.iaload, 1) := by decide +kernel
theorem dX9_sort_113 : decode cX9_sort 113 = .ok (.iastore, 1) := by decide +kernel
theorem dX9_sort_114 : decode cX9_sort 114 = .ok (.iinc 4 (-1), 3) := by decide +kernel
theorem dX9_sort_117 : decode cX9_sort 117 = .ok (.goto (-67), 3) := by decide +kernel
theorem dX9_sort_120 : decode cX9_sort 120 = .ok (.aload_n 0, 1) := by decide +kernel
theorem dX9_sort_121 : decode cX9_sort 121 = .ok (.getfield 25, 3) := by decide +kernel
theorem dX9_sort_124 : decode cX9_sort 124 = .ok (.iload 4, 2) := by decide +kernel
theorem dX9_sort_126 : decode cX9_sort 126 = .ok (.iload_n 3, 1) := by decide +kernel
theorem dX9_sort_127 : decode cX9_sort 127 = .ok (.iastore, 1) := by decide +kernel
theorem dX9_sort_128 : decode cX9_sort 128 = .ok (.iinc 3 1, 3) := by decide +kernel
theorem dX9_sort_131 : decode cX9_sort 131 = .ok (.goto (-94), 3) := by decide +kernel
theorem dX9_sort_134 : decode cX9_sort 134 = .ok (.iconst 0, 1) := by decide +kernel
theorem dX9_sort_135 : decode cX9_sort 135 = .ok (.istore_n 3, 1) := by decide +kernel
theorem dX9_sort_136 : decode cX9_sort 136 = .ok (.iconst 0, 1) := by decide +kernel
theorem dX9_sort_137 : decode cX9_sort 137 = .ok (.istore 4, 2) := by decide +kernel
theorem dX9_sort_139 : decode cX9_sort 139 = .ok (.iload 4, 2) := by decide +kernel
theorem dX9_sort_141 : decode cX9_sort 141 = .ok (.bipush 64, 2) := by decide +kernel
theorem dX9_sort_143 : decode cX9_sort 143 = .ok (.if_icmp .ge 28, 3) := by decide +kernel
theorem dX9_sort_146 : decode cX9_sort 146 = .ok (.aload_n 0, 1) := by decide +kernel
theorem dX9_sort_147 : decode cX9_sort 147 = .ok (.getfield 28, 3) := by decide +kernel
theorem dX9_sort_150 : decode cX9_sort 150 = .ok (.iload 4, 2) := by decide +kernel
theorem dX9_sort_152 : decode cX9_sort 152 = .ok (.aload_n 0, 1) := by decide +kernel
theorem dX9_sort_153 : decode cX9_sort 153 = .ok (.getfield 19, 3) := by decide +kernel
theorem dX9_sort_156 : decode cX9_sort 156 = .ok (.bipush 64, 2) := by decide +kernel
theorem dX9_sort_158 : decode cX9_sort 158 = .ok (.iload_n 1, 1) := by decide +kernel
theorem dX9_sort_159 : decode cX9_sort 159 = .ok (.imul, 1) := by decide +kernel
theorem dX9_sort_160 : decode cX9_sort 160 = .ok (.iload 4, 2) := by decide +kernel
theorem dX9_sort_162 : decode cX9_sort 162 = .ok (.iadd, 1) := by decide +kernel
theorem dX9_sort_163 : decode cX9_sort 163 = .ok (.iaload, 1) := by decide +kernel
theorem dX9_sort_164 : decode cX9_sort 164 = .ok (.iastore, 1) := by decide +kernel
theorem dX9_sort_165 : decode cX9_sort 165 = .ok (.iinc 4 1, 3) := by decide +kernel
theorem dX9_sort_168 : decode cX9_sort 168 = .ok (.goto (-29), 3) := by decide +kernel
theorem dX9_sort_171 : decode cX9_sort 171 = .ok (.iconst 0, 1) := by decide +kernel
theorem dX9_sort_172 : decode cX9_sort 172 = .ok (.istore 4, 2) := by decide +kernel
theorem dX9_sort_174 : decode cX9_sort 174 = .ok (.iload 4, 2) := by decide +kernel
theorem dX9_sort_176 : decode cX9_sort 176 = .ok (.aload_n 0, 1) := by decide +kernel
theorem dX9_sort_177 : decode cX9_sort 177 = .ok (.getfield 16, 3) := by decide +kernel
theorem dX9_sort_180 : decode cX9_sort 180 = .ok (.iload_n 1, 1) := by decide +kernel
theorem dX9_sort_181 : decode cX9_sort 181 = .ok (.iaload, 1) := by decide +kernel
theorem dX9_sort_182 : decode cX9_sort 182 = .ok (.if_icmp .ge 81, 3) := by decide +kernel
theorem dX9_sort_185 : decode cX9_sort 185 = .ok (.iload_n 3, 1) := by decide +kernel
theorem dX9_sort_186 : decode cX9_sort 186 = .ok (.aload_n 0, 1) := by decide +kernel
theorem dX9_sort_187 : decode cX9_sort 187 = .ok (.getfield 25, 3) := by decide +kernel
theorem dX9_sort_190 : decode cX9_sort 190 = .ok (.iload 4, 2) := by decide +kernel
theorem dX9_sort_192 : decode cX9_sort 192 = .ok (.iaload, 1) := by decide +kernel
theorem dX9_sort_193 : decode cX9_sort 193 = .ok (.iload 4, 2) := by decide +kernel
theorem dX9_sort_195 : decode cX9_sort 195 = .ok (.if_icmp .ne 7, 3) := by decide +kernel
theorem dX9_sort_198 : decode cX9_sort 198 = .ok (.iconst 0, 1) := by decide +kernel
theorem dX9_sort_199 : decode cX9_sort 199 = .ok (.goto 4, 3) := by decide +kernel
theorem dX9_sort_202 : decode cX9_sort 202 = .ok (.iconst 1, 1) := by decide +kernel
theorem dX9_sort_203 : decode cX9_sort 203 = .ok (.iadd, 1) := by decide +kernel
theorem dX9_sort_204 : decode cX9_sort 204 = .ok (.istore_n 3, 1) := by decide +kernel
theorem dX9_sort_205 : decode cX9_sort 205 = .ok (.iconst 0, 1) := by decide +kernel
theorem dX9_sort_206 : decode cX9_sort 206 = .ok (.istore 5, 2) := by decide +kernel
theorem dX9_sort_208 : decode cX9_sort 208 = .ok (.iload 5, 2) := by decide +kernel
theorem dX9_sort_210 : decode cX9_sort 210 = .ok (.bipush 8, 2) := by decide +kernel
theorem dX9_sort_212 : decode cX9_sort 212 = .ok (.if_icmp .ge 45, 3) := by decide +kernel
theorem dX9_sort_215 : decode cX9_sort 215 = .ok (.aload_n 0, 1) := by decide +kernel
theorem dX9_sort_216 : decode cX9_sort 216 = .ok (.getfield 19, 3) := by decide +kernel
theorem dX9_sort_219 : decode cX9_sort 219 = .ok (.bipush 64, 2) := by decide +kernel
theorem dX9_sort_221 : decode cX9_sort 221 = .ok (.iload_n 1, 1) := by decide +kernel
theorem dX9_sort_222 : decode cX9_sort 222 = .ok (.imul, 1) := by decide +kernel
theorem dX9_sort_223 : decode cX9_sort 223 = .ok (.bipush 8, 2) := by decide +kernel
theorem dX9_sort_225 : decode cX9_sort 225 = .ok (.iload 4, 2) := by decide +kernel
theorem dX9_sort_227 : decode cX9_sort 227 = .ok (.imul, 1) := by decide +kernel
theorem dX9_sort_228 : decode cX9_sort 228 = .ok (.iadd, 1) := by decide +kernel
theorem dX9_sort_229 : decode cX9_sort 229 = .ok (.iload 5, 2) := by decide +kernel
theorem dX9_sort_231 : decode cX9_sort 231 = .ok (.iadd, 1) := by decide +kernel
theorem dX9_sort_232 : decode cX9_sort 232 = .ok (.aload_n 0, 1) := by decide +kernel
theorem dX9_sort_233 : decode cX9_sort 233 = .ok (.getfield 28, 3) := by decide +kernel
theorem dX9_sort_236 : decode cX9_sort 236 = .ok (.bipush 8, 2) := by decide +kernel
theorem dX9_sort_238 : decode cX9_sort 238 = .ok (.aload_n 0, 1) := by decide +kernel
theorem dX9_sort_239 : decode cX9_sort 239 = .ok (.getfield 25, 3) := by decide +kernel
theorem dX9_sort_242 : decode cX9_sort 242 = .ok (.iload 4, 2) := by decide +kernel
theorem dX9_sort_244 : decode cX9_sort 244 = .ok (.iaload, 1) := by decide +kernel
theorem dX9_sort_245 : decode cX9_sort 245 = .ok (.imul, 1) := by decide +kernel
theorem dX9_sort_246 : decode cX9_sort 246 = .ok (.iload 5, 2) := by decide +kernel
theorem dX9_sort_248 : decode cX9_sort 248 = .ok (.iadd, 1) := by decide +kernel
theorem dX9_sort_249 : decode cX9_sort 249 = .ok (.iaload, 1) := by decide +kernel
theorem dX9_sort_250 : decode cX9_sort 250 = .ok (.iastore, 1) := by decide +kernel
theorem dX9_sort_251 : decode cX9_sort 251 = .ok (.iinc 5 1, 3) := by decide +kernel
theorem dX9_sort_254 : decode cX9_sort 254 = .ok (.goto (-46), 3) := by decide +kernel
theorem dX9_sort_257 : decode cX9_sort 257 = .ok (.iinc 4 1, 3) := by decide +kernel
theorem dX9_sort_260 : decode cX9_sort 260 = .ok (.goto (-86), 3) := by decide +kernel
theorem dX9_sort_263 : decode cX9_sort 263 = .ok (.aload_n 0, 1) := by decide +kernel
theorem dX9_sort_264 : decode cX9_sort 264 = .ok (.iconst 0, 1) := by decide +kernel
theorem dX9_sort_265 : decode cX9_sort 265 = .ok (.putfield 104, 3) := by decide +kernel
theorem dX9_sort_268 : decode cX9_sort 268 = .ok (.iload_n 3, 1) := by decide +kernel
theorem dX9_sort_269 : decode cX9_sort 269 = .ok (.ireturn, 1) := by decide +kernel
theorem dX9_get_0 : decode cX9_get 0 = .ok (.aload_n 0, 1) := by decide +kernel
theorem dX9_get_1 : decode cX9_get 1 = .ok (.iload_n 1, 1) := by decide +kernel
theorem dX9_get_2 : decode cX9_get 2 = .ok (.iload_n 2, 1) := by decide +kernel
theorem dX9_get_3 : decode cX9_get 3 = .ok (.invokevirtual 138, 3) := by decide +kernel
theorem dX9_get_6 : decode cX9_get 6 = .ok (.ifCond .eq 15, 3) := by decide +kernel
theorem dX9_get_9 : decode cX9_get 9 = .ok (.iload_n 3, 1) := by decide +kernel
theorem dX9_get_10 : decode cX9_get 10 = .ok (.i2l, 1) := by decide +kernel
theorem dX9_get_11 : decode cX9_get 11 = .ok (.lconst 0, 1) := by decide +kernel
theorem dX9_get_12 : decode cX9_get 12 = .ok (.ldc2_w 141, 3) := by decide +kernel
theorem dX9_get_15 : decode cX9_get 15 = .ok (.invokestatic 92, 3) := by decide +kernel
theorem dX9_get_18 : decode cX9_get 18 = .ok (.ifCond .ne 6, 3) := by decide +kernel
theorem dX9_get_21 : decode cX9_get 21 = .ok (.bipush (-101), 2) := by decide +kernel
theorem dX9_get_23 : decode cX9_get 23 = .ok (.ireturn, 1) := by decide +kernel
theorem dX9_get_24 : decode cX9_get 24 = .ok (.aload_n 0, 1) := by decide +kernel
theorem dX9_get_25 : decode cX9_get 25 = .ok (.iload_n 1, 1) := by decide +kernel
theorem dX9_get_26 : decode cX9_get 26 = .ok (.iload_n 3, 1) := by decide +kernel
theorem dX9_get_27 : decode cX9_get 27 = .ok (.invokevirtual 108, 3) := by decide +kernel
theorem dX9_get_30 : decode cX9_get 30 = .ok (.ifCond .eq 22, 3) := by decide +kernel
theorem dX9_get_33 : decode cX9_get 33 = .ok (.aload_n 0, 1) := by decide +kernel
theorem dX9_get_34 : decode cX9_get 34 = .ok (.getfield 19, 3) := by decide +kernel
theorem dX9_get_37 : decode cX9_get 37 = .ok (.bipush 64, 2) := by decide +kernel
theorem dX9_get_39 : decode cX9_get 39 = .ok (.iload_n 1, 1) := by decide +kernel
theorem dX9_get_40 : decode cX9_get 40 = .ok (.imul, 1) := by decide +kernel
theorem dX9_get_41 : decode cX9_get 41 = .ok (.bipush 8, 2) := by decide +kernel
theorem dX9_get_43 : decode cX9_get 43 = .ok (.iload_n 2, 1) := by decide +kernel
theorem dX9_get_44 : decode cX9_get 44 = .ok (.imul, 1) := by decide +kernel
theorem dX9_get_45 : decode cX9_get 45 = .ok (.iadd, 1) := by decide +kernel
theorem dX9_get_46 : decode cX9_get 46 = .ok (.iload_n 3, 1) := by decide +kernel
theorem dX9_get_47 : decode cX9_get 47 = .ok (.iadd, 1) := by decide +kernel
theorem dX9_get_48 : decode cX9_get 48 = .ok (.iaload, 1) := by decide +kernel
theorem dX9_get_49 : decode cX9_get 49 = .ok (.goto 4, 3) := by decide +kernel
theorem dX9_get_52 : decode cX9_get 52 = .ok (.iconst (-1), 1) := by decide +kernel
theorem dX9_get_53 : decode cX9_get 53 = .ok (.ireturn, 1) := by decide +kernel
theorem dX9_sortedBy_0 : decode cX9_sortedBy 0 = .ok (.iconst 0, 1) := by decide +kernel
theorem dX9_sortedBy_1 : decode cX9_sortedBy 1 = .ok (.istore_n 2, 1) := by decide +kernel
theorem dX9_sortedBy_2 : decode cX9_sortedBy 2 = .ok (.iload_n 2, 1) := by decide +kernel
theorem dX9_sortedBy_3 : decode cX9_sortedBy 3 = .ok (.bipush 8, 2) := by decide +kernel
theorem dX9_sortedBy_5 : decode cX9_sortedBy 5 = .ok (.if_icmp .ge 92, 3) := by decide +kernel
theorem dX9_sortedBy_8 : decode cX9_sortedBy 8 = .ok (.aload_n 0, 1) := by decide +kernel
theorem dX9_sortedBy_9 : decode cX9_sortedBy 9 = .ok (.iload_n 1, 1) := by decide +kernel
theorem dX9_sortedBy_10 : decode cX9_sortedBy 10 = .ok (.iload_n 2, 1) := by decide +kernel
theorem dX9_sortedBy_11 : decode cX9_sortedBy 11 = .ok (.invokevirtual 108, 3) := by decide +kernel
theorem dX9_sortedBy_14 : decode cX9_sortedBy 14 = .ok (.istore_n 3, 1) := by decide +kernel
theorem dX9_sortedBy_15 : decode cX9_sortedBy 15 = .ok (.iconst 1, 1) := by decide +kernel
theorem dX9_sortedBy_16 : decode cX9_sortedBy 16 = .ok (.istore 4, 2) := by decide +kernel
theorem dX9_sortedBy_18 : decode cX9_sortedBy 18 = .ok (.iload 4, 2) := by decide +kernel
theorem dX9_sortedBy_20 : decode cX9_sortedBy 20 = .ok (.aload_n 0, 1) := by decide +kernel
theorem dX9_sortedBy_21 : decode cX9_sortedBy 21 = .ok (.getfield 16, 3) := by decide +kernel
theorem dX9_sortedBy_24 : decode cX9_sortedBy 24 = .ok (.iload_n 1, 1) := by decide +kernel
theorem dX9_sortedBy_25 : decode cX9_sortedBy 25 = .ok (.iaload, 1) := by decide +kernel
theorem dX9_sortedBy_26 : decode cX9_sortedBy 26 = .ok (.if_icmp .ge 59, 3) := by decide +kernel
theorem dX9_sortedBy_29 : decode cX9_sortedBy 29 = .ok (.iload_n 3, 1) := by decide +kernel
theorem dX9_sortedBy_30 : decode cX9_sortedBy 30 = .ok (.ifCond .eq 47, 3) := by decide +kernel
theorem dX9_sortedBy_33 : decode cX9_sortedBy 33 = .ok (.aload_n 0, 1) := by decide +kernel
theorem dX9_sortedBy_34 : decode cX9_sortedBy 34 = .ok (.getfield 19, 3) := by decide +kernel
theorem dX9_sortedBy_37 : decode cX9_sortedBy 37 = .ok (.bipush 64, 2) := by decide +kernel
theorem dX9_sortedBy_39 : decode cX9_sortedBy 39 = .ok (.iload_n 1, 1) := by decide +kernel
theorem dX9_sortedBy_40 : decode cX9_sortedBy 40 = .ok (.imul, 1) := by decide +kernel
theorem dX9_sortedBy_41 : decode cX9_sortedBy 41 = .ok (.bipush 8, 2) := by decide +kernel
theorem dX9_sortedBy_43 : decode cX9_sortedBy 43 = .ok (.iload 4, 2) := by decide +kernel
theorem dX9_sortedBy_45 : decode cX9_sortedBy 45 = .ok (.imul, 1) := by decide +kernel
theorem dX9_sortedBy_46 : decode cX9_sortedBy 46 = .ok (.iadd, 1) := by decide +kernel
theorem dX9_sortedBy_47 : decode cX9_sortedBy 47 = .ok (.iload_n 2, 1) := by decide +kernel
theorem dX9_sortedBy_48 : decode cX9_sortedBy 48 = .ok (.iadd, 1) := by decide +kernel
theorem dX9_sortedBy_49 : decode cX9_sortedBy 49 = .ok (.iaload, 1) := by decide +kernel
theorem dX9_sortedBy_50 : decode cX9_sortedBy 50 = .ok (.aload_n 0, 1) := by decide +kernel
theorem dX9_sortedBy_51 : decode cX9_sortedBy 51 = .ok (.getfield 19, 3) := by decide +kernel
theorem dX9_sortedBy_54 : decode cX9_sortedBy 54 = .ok (.bipush 64, 2) := by decide +kernel
theorem dX9_sortedBy_56 : decode cX9_sortedBy 56 = .ok (.iload_n 1, 1) := by decide +kernel
theorem dX9_sortedBy_57 : decode cX9_sortedBy 57 = .ok (.imul, 1) := by decide +kernel
theorem dX9_sortedBy_58 : decode cX9_sortedBy 58 = .ok (.bipush 8, 2) := by decide +kernel
theorem dX9_sortedBy_60 : decode cX9_sortedBy 60 = .ok (.iload 4, 2) := by decide +kernel
theorem dX9_sortedBy_62 : decode cX9_sortedBy 62 = .ok (.imul, 1) := by decide +kernel
theorem dX9_sortedBy_63 : decode cX9_sortedBy 63 = .ok (.iadd, 1) := by decide +kernel
theorem dX9_sortedBy_64 : decode cX9_sortedBy 64 = .ok (.bipush 8, 2) := by decide +kernel
theorem dX9_sortedBy_66 : decode cX9_sortedBy 66 = .ok (.isub, 1) := by decide +kernel
theorem dX9_sortedBy_67 : decode cX9_sortedBy 67 = .ok (.iload_n 2, 1) := by decide +kernel
theorem dX9_sortedBy_68 : decode cX9_sortedBy 68 = .ok (.iadd, 1) := by decide +kernel
theorem dX9_sortedBy_69 : decode cX9_sortedBy 69 = .ok (.iaload, 1) := by decide +kernel
theorem dX9_sortedBy_70 : decode cX9_sortedBy 70 = .ok (.if_icmp .lt 7, 3) := by decide +kernel
theorem dX9_sortedBy_73 : decode cX9_sortedBy 73 = .ok (.iconst 1, 1) := by decide +kernel
theorem dX9_sortedBy_74 : decode cX9_sortedBy 74 = .ok (.goto 4, 3) := by decide +kernel
theorem dX9_sortedBy_77 : decode cX9_sortedBy 77 = .ok (.iconst 0, 1) := by decide +kernel
theorem dX9_sortedBy_78 : decode cX9_sortedBy 78 = .ok (.istore_n 3, 1) := by decide +kernel
theorem dX9_sortedBy_79 : decode cX9_sortedBy 79 = .ok (.iinc 4 1, 3) := by decide +kernel
theorem dX9_sortedBy_82 : decode cX9_sortedBy 82 = .ok (.goto (-64), 3) := by decide +kernel
theorem dX9_sortedBy_85 : decode cX9_sortedBy 85 = .ok (.iload_n 3, 1) := by decide +kernel
theorem dX9_sortedBy_86 : decode cX9_sortedBy 86 = .ok (.ifCond .eq 5, 3) := by decide +kernel
theorem dX9_sortedBy_89 : decode cX9_sortedBy 89 = .ok (.iload_n 2, 1) := by decide +kernel
theorem dX9_sortedBy_90 : decode cX9_sortedBy 90 = .ok (.ireturn, 1) := by decide +kernel
theorem dX9_sortedBy_91 : decode cX9_sortedBy 91 = .ok (.iinc 2 1, 3) := by decide +kernel
theorem dX9_sortedBy_94 : decode cX9_sortedBy 94 = .ok (.goto (-92), 3) := by decide +kernel
theorem dX9_sortedBy_97 : decode cX9_sortedBy 97 = .ok (.iconst (-1), 1) := by decide +kernel
theorem dX9_sortedBy_98 : decode cX9_sortedBy 98 = .ok (.ireturn, 1) := by decide +kernel
theorem dX9_aboutOf_0 : decode cX9_aboutOf 0 = .ok (.iload_n 2, 1) := by decide +kernel
theorem dX9_aboutOf_1 : decode cX9_aboutOf 1 = .ok (.tableswitch 78 0 4 #[35, 42, 49, 56, 72], 35) := by decide +kernel
theorem dX9_aboutOf_36 : decode cX9_aboutOf 36 = .ok (.aload_n 0, 1) := by decide +kernel
theorem dX9_aboutOf_37 : decode cX9_aboutOf 37 = .ok (.getfield 7, 3) := by decide +kernel
theorem dX9_aboutOf_40 : decode cX9_aboutOf 40 = .ok (.iload_n 1, 1) := by decide +kernel
theorem dX9_aboutOf_41 : decode cX9_aboutOf 41 = .ok (.iaload, 1) := by decide +kernel
theorem dX9_aboutOf_42 : decode cX9_aboutOf 42 = .ok (.ireturn, 1) := by decide +kernel
theorem dX9_aboutOf_43 : decode cX9_aboutOf 43 = .ok (.aload_n 0, 1) := by decide +kernel
theorem dX9_aboutOf_44 : decode cX9_aboutOf 44 = .ok (.getfield 13, 3) := by decide +kernel
theorem dX9_aboutOf_47 : decode cX9_aboutOf 47 = .ok (.iload_n 1, 1) := by decide +kernel
theorem dX9_aboutOf_48 : decode cX9_aboutOf 48 = .ok (.iaload, 1) := by decide +kernel
theorem dX9_aboutOf_49 : decode cX9_aboutOf 49 = .ok (.ireturn, 1) := by decide +kernel
theorem dX9_aboutOf_50 : decode cX9_aboutOf 50 = .ok (.aload_n 0, 1) := by decide +kernel
theorem dX9_aboutOf_51 : decode cX9_aboutOf 51 = .ok (.getfield 16, 3) := by decide +kernel
theorem dX9_aboutOf_54 : decode cX9_aboutOf 54 = .ok (.iload_n 1, 1) := by decide +kernel
theorem dX9_aboutOf_55 : decode cX9_aboutOf 55 = .ok (.iaload, 1) := by decide +kernel
theorem dX9_aboutOf_56 : decode cX9_aboutOf 56 = .ok (.ireturn, 1) := by decide +kernel
theorem dX9_aboutOf_57 : decode cX9_aboutOf 57 = .ok (.aload_n 0, 1) := by decide +kernel
theorem dX9_aboutOf_58 : decode cX9_aboutOf 58 = .ok (.getfield 16, 3) := by decide +kernel
theorem dX9_aboutOf_61 : decode cX9_aboutOf 61 = .ok (.iload_n 1, 1) := by decide +kernel
theorem dX9_aboutOf_62 : decode cX9_aboutOf 62 = .ok (.iaload, 1) := by decide +kernel
theorem dX9_aboutOf_63 : decode cX9_aboutOf 63 = .ok (.aload_n 0, 1) := by decide +kernel
theorem dX9_aboutOf_64 : decode cX9_aboutOf 64 = .ok (.getfield 13, 3) := by decide +kernel
theorem dX9_aboutOf_67 : decode cX9_aboutOf 67 = .ok (.iload_n 1, 1) := by decide +kernel
theorem dX9_aboutOf_68 : decode cX9_aboutOf 68 = .ok (.iaload, 1) := by decide +kernel
theorem dX9_aboutOf_69 : decode cX9_aboutOf 69 = .ok (.invokestatic 143, 3) := by decide +kernel
theorem dX9_aboutOf_72 : decode cX9_aboutOf 72 = .ok (.ireturn, 1) := by decide +kernel
theorem dX9_aboutOf_73 : decode cX9_aboutOf 73 = .ok (.aload_n 0, 1) := by decide +kernel
theorem dX9_aboutOf_74 : decode cX9_aboutOf 74 = .ok (.iload_n 1, 1) := by decide +kernel
theorem dX9_aboutOf_75 : decode cX9_aboutOf 75 = .ok (.invokevirtual 146, 3) := by decide +kernel
theorem dX9_aboutOf_78 : decode cX9_aboutOf 78 = .ok (.ireturn, 1) := by decide +kernel
theorem dX9_aboutOf_79 : decode cX9_aboutOf 79 = .ok (.bipush (-102), 2) := by decide +kernel
theorem dX9_aboutOf_81 : decode cX9_aboutOf 81 = .ok (.ireturn, 1) := by decide +kernel
theorem dX9_about_0 : decode cX9_about 0 = .ok (.aload_n 0, 1) := by decide +kernel
theorem dX9_about_1 : decode cX9_about 1 = .ok (.iload_n 1, 1) := by decide +kernel
theorem dX9_about_2 : decode cX9_about 2 = .ok (.invokevirtual 116, 3) := by decide +kernel
theorem dX9_about_5 : decode cX9_about 5 = .ok (.ifCond .eq 12, 3) := by decide +kernel
theorem dX9_about_8 : decode cX9_about 8 = .ok (.aload_n 0, 1) := by decide +kernel
theorem dX9_about_9 : decode cX9_about 9 = .ok (.iload_n 1, 1) := by decide +kernel
theorem dX9_about_10 : decode cX9_about 10 = .ok (.iload_n 2, 1) := by decide +kernel
theorem dX9_about_11 : decode cX9_about 11 = .ok (.invokevirtual 149, 3) := by decide +kernel
theorem dX9_about_14 : decode cX9_about 14 = .ok (.goto 5, 3) := by decide +kernel
theorem dX9_about_17 : decode cX9_about 17 = .ok (.bipush (-101), 2) := by decide +kernel
theorem dX9_about_19 : decode cX9_about 19 = .ok (.ireturn, 1) := by decide +kernel
theorem dX9_unlikeOf_0 : decode cX9_unlikeOf 0 = .ok (.iconst 0, 1) := by decide +kernel
theorem dX9_unlikeOf_1 : decode cX9_unlikeOf 1 = .ok (.istore_n 3, 1) := by decide +kernel
theorem dX9_unlikeOf_2 : decode cX9_unlikeOf 2 = .ok (.iconst 0, 1) := by decide +kernel
theorem dX9_unlikeOf_3 : decode cX9_unlikeOf 3 = .ok (.istore 4, 2) := by decide +kernel
theorem dX9_unlikeOf_5 : decode cX9_unlikeOf 5 = .ok (.iload 4, 2) := by decide +kernel
theorem dX9_unlikeOf_7 : decode cX9_unlikeOf 7 = .ok (.aload_n 0, 1) := by decide +kernel
theorem dX9_unlikeOf_8 : decode cX9_unlikeOf 8 = .ok (.getfield 16, 3) := by decide +kernel
theorem dX9_unlikeOf_11 : decode cX9_unlikeOf 11 = .ok (.iload_n 1, 1) := by decide +kernel
theorem dX9_unlikeOf_12 : decode cX9_unlikeOf 12 = .ok (.iaload, 1) := by decide +kernel
theorem dX9_unlikeOf_13 : decode cX9_unlikeOf 13 = .ok (.if_icmp .ge 90, 3) := by decide +kernel
theorem dX9_unlikeOf_16 : decode cX9_unlikeOf 16 = .ok (.iconst 1, 1) := by decide +kernel
theorem dX9_unlikeOf_17 : decode cX9_unlikeOf 17 = .ok (.istore 5, 2) := by decide +kernel
theorem dX9_unlikeOf_19 : decode cX9_unlikeOf 19 = .ok (.iconst 0, 1) := by decide +kernel
theorem dX9_unlikeOf_20 : decode cX9_unlikeOf 20 = .ok (.istore 6, 2) := by decide +kernel
theorem dX9_unlikeOf_22 : decode cX9_unlikeOf 22 = .ok (.iload 6, 2) := by decide +kernel
theorem dX9_unlikeOf_24 : decode cX9_unlikeOf 24 = .ok (.iload 4, 2) := by decide +kernel
theorem dX9_unlikeOf_26 : decode cX9_unlikeOf 26 = .ok (.if_icmp .ge 58, 3) := by decide +kernel
theorem dX9_unlikeOf_29 : decode cX9_unlikeOf 29 = .ok (.iload 5, 2) := by decide +kernel
theorem dX9_unlikeOf_31 : decode cX9_unlikeOf 31 = .ok (.ifCond .eq 44, 3) := by decide +kernel
theorem dX9_unlikeOf_34 : decode cX9_unlikeOf 34 = .ok (.aload_n 0, 1) := by decide +kernel
theorem dX9_unlikeOf_35 : decode cX9_unlikeOf 35 = .ok (.getfield 19, 3) := by decide +kernel
theorem dX9_unlikeOf_38 : decode cX9_unlikeOf 38 = .ok (.bipush 64, 2) := by decide +kernel
theorem dX9_unlikeOf_40 : decode cX9_unlikeOf 40 = .ok (.iload_n 1, 1) := by decide +kernel
theorem dX9_unlikeOf_41 : decode cX9_unlikeOf 41 = .ok (.imul, 1) := by decide +kernel
theorem dX9_unlikeOf_42 : decode cX9_unlikeOf 42 = .ok (.bipush 8, 2) := by decide +kernel
theorem dX9_unlikeOf_44 : decode cX9_unlikeOf 44 = .ok (.iload 6, 2) := by decide +kernel
theorem dX9_unlikeOf_46 : decode cX9_unlikeOf 46 = .ok (.imul, 1) := by decide +kernel
theorem dX9_unlikeOf_47 : decode cX9_unlikeOf 47 = .ok (.iadd, 1) := by decide +kernel
theorem dX9_unlikeOf_48 : decode cX9_unlikeOf 48 = .ok (.iload_n 2, 1) := by decide +kernel
theorem dX9_unlikeOf_49 : decode cX9_unlikeOf 49 = .ok (.iadd, 1) := by decide +kernel
theorem dX9_unlikeOf_50 : decode cX9_unlikeOf 50 = .ok (.iaload, 1) := by decide +kernel
theorem dX9_unlikeOf_51 : decode cX9_unlikeOf 51 = .ok (.aload_n 0, 1) := by decide +kernel
theorem dX9_unlikeOf_52 : decode cX9_unlikeOf 52 = .ok (.getfield 19, 3) := by decide +kernel
theorem dX9_unlikeOf_55 : decode cX9_unlikeOf 55 = .ok (.bipush 64, 2) := by decide +kernel
theorem dX9_unlikeOf_57 : decode cX9_unlikeOf 57 = .ok (.iload_n 1, 1) := by decide +kernel
theorem dX9_unlikeOf_58 : decode cX9_unlikeOf 58 = .ok (.imul, 1) := by decide +kernel
theorem dX9_unlikeOf_59 : decode cX9_unlikeOf 59 = .ok (.bipush 8, 2) := by decide +kernel
theorem dX9_unlikeOf_61 : decode cX9_unlikeOf 61 = .ok (.iload 4, 2) := by decide +kernel
theorem dX9_unlikeOf_63 : decode cX9_unlikeOf 63 = .ok (.imul, 1) := by decide +kernel
theorem dX9_unlikeOf_64 : decode cX9_unlikeOf 64 = .ok (.iadd, 1) := by decide +kernel
theorem dX9_unlikeOf_65 : decode cX9_unlikeOf 65 = .ok (.iload_n 2, 1) := by decide +kernel
theorem dX9_unlikeOf_66 : decode cX9_unlikeOf 66 = .ok (.iadd, 1) := by decide +kernel
theorem dX9_unlikeOf_67 : decode cX9_unlikeOf 67 = .ok (.iaload, 1) := by decide +kernel
theorem dX9_unlikeOf_68 : decode cX9_unlikeOf 68 = .ok (.if_icmp .eq 7, 3) := by decide +kernel
theorem dX9_unlikeOf_71 : decode cX9_unlikeOf 71 = .ok (.iconst 1, 1) := by decide +kernel
theorem dX9_unlikeOf_72 : decode cX9_unlikeOf 72 = .ok (.goto 4, 3) := by decide +kernel
theorem dX9_unlikeOf_75 : decode cX9_unlikeOf 75 = .ok (.iconst 0, 1) := by decide +kernel
theorem dX9_unlikeOf_76 : decode cX9_unlikeOf 76 = .ok (.istore 5, 2) := by decide +kernel
theorem dX9_unlikeOf_78 : decode cX9_unlikeOf 78 = .ok (.iinc 6 1, 3) := by decide +kernel
theorem dX9_unlikeOf_81 : decode cX9_unlikeOf 81 = .ok (.goto (-59), 3) := by decide +kernel
theorem dX9_unlikeOf_84 : decode cX9_unlikeOf 84 = .ok (.iload_n 3, 1) := by decide +kernel
theorem dX9_unlikeOf_85 : decode cX9_unlikeOf 85 = .ok (.iload 5, 2) := by decide +kernel
theorem dX9_unlikeOf_87 : decode cX9_unlikeOf 87 = .ok (.ifCond .eq 7, 3) := by decide +kernel
theorem dX9_unlikeOf_90 : decode cX9_unlikeOf 90 = .ok (.iconst 1, 1) := by decide +kernel
theorem dX9_unlikeOf_91 : decode cX9_unlikeOf 91 = .ok (.goto 4, 3) := by decide +kernel
theorem dX9_unlikeOf_94 : decode cX9_unlikeOf 94 = .ok (.iconst 0, 1) := by decide +kernel
theorem dX9_unlikeOf_95 : decode cX9_unlikeOf 95 = .ok (.iadd, 1) := by decide +kernel
theorem dX9_unlikeOf_96 : decode cX9_unlikeOf 96 = .ok (.istore_n 3, 1) := by decide +kernel
theorem dX9_unlikeOf_97 : decode cX9_unlikeOf 97 = .ok (.iinc 4 1, 3) := by decide +kernel
theorem dX9_unlikeOf_100 : decode cX9_unlikeOf 100 = .ok (.goto (-95), 3) := by decide +kernel
theorem dX9_unlikeOf_103 : decode cX9_unlikeOf 103 = .ok (.iload_n 3, 1) := by decide +kernel
theorem dX9_unlikeOf_104 : decode cX9_unlikeOf 104 = .ok (.ireturn, 1) := by decide +kernel
theorem dX9_unlike_0 : decode cX9_unlike 0 = .ok (.aload_n 0, 1) := by decide +kernel
theorem dX9_unlike_1 : decode cX9_unlike 1 = .ok (.iload_n 1, 1) := by decide +kernel
theorem dX9_unlike_2 : decode cX9_unlike 2 = .ok (.invokevirtual 116, 3) := by decide +kernel
theorem dX9_unlike_5 : decode cX9_unlike 5 = .ok (.ifCond .ne 6, 3) := by decide +kernel
theorem dX9_unlike_8 : decode cX9_unlike 8 = .ok (.bipush (-101), 2) := by decide +kernel
theorem dX9_unlike_10 : decode cX9_unlike 10 = .ok (.ireturn, 1) := by decide +kernel
theorem dX9_unlike_11 : decode cX9_unlike 11 = .ok (.iload_n 2, 1) := by decide +kernel
theorem dX9_unlike_12 : decode cX9_unlike 12 = .ok (.i2l, 1) := by decide +kernel
theorem dX9_unlike_13 : decode cX9_unlike 13 = .ok (.lconst 0, 1) := by decide +kernel
theorem dX9_unlike_14 : decode cX9_unlike 14 = .ok (.ldc2_w 141, 3) := by decide +kernel
theorem dX9_unlike_17 : decode cX9_unlike 17 = .ok (.invokestatic 92, 3) := by decide +kernel
theorem dX9_unlike_20 : decode cX9_unlike 20 = .ok (.ifCond .eq 21, 3) := by decide +kernel
theorem dX9_unlike_23 : decode cX9_unlike 23 = .ok (.aload_n 0, 1) := by decide +kernel
theorem dX9_unlike_24 : decode cX9_unlike 24 = .ok (.iload_n 1, 1) := by decide +kernel
theorem dX9_unlike_25 : decode cX9_unlike 25 = .ok (.iload_n 2, 1) := by decide +kernel
theorem dX9_unlike_26 : decode cX9_unlike 26 = .ok (.invokevirtual 108, 3) := by decide +kernel
theorem dX9_unlike_29 : decode cX9_unlike 29 = .ok (.ifCond .eq 12, 3) := by decide +kernel
theorem dX9_unlike_32 : decode cX9_unlike 32 = .ok (.aload_n 0, 1) := by decide +kernel
theorem dX9_unlike_33 : decode cX9_unlike 33 = .ok (.iload_n 1, 1) := by decide +kernel
theorem dX9_unlike_34 : decode cX9_unlike 34 = .ok (.iload_n 2, 1) := by decide +kernel
theorem dX9_unlike_35 : decode cX9_unlike 35 = .ok (.invokevirtual 152, 3) := by decide +kernel
theorem dX9_unlike_38 : decode cX9_unlike 38 = .ok (.goto 5, 3) := by decide +kernel
theorem dX9_unlike_41 : decode cX9_unlike 41 = .ok (.bipush (-102), 2) := by decide +kernel
theorem dX9_unlike_43 : decode cX9_unlike 43 = .ok (.ireturn, 1) := by decide +kernel
theorem dX9_rule_0 : decode cX9_rule 0 = .ok (.iload_n 1, 1) := by decide +kernel
theorem dX9_rule_1 : decode cX9_rule 1 = .ok (.i2l, 1) := by decide +kernel
theorem dX9_rule_2 : decode cX9_rule 2 = .ok (.lconst 0, 1) := by decide +kernel
theorem dX9_rule_3 : decode cX9_rule 3 = .ok (.lconst 1, 1) := by decide +kernel
theorem dX9_rule_4 : decode cX9_rule 4 = .ok (.invokestatic 92, 3) := by decide +kernel
theorem dX9_rule_7 : decode cX9_rule 7 = .ok (.ifCond .ne 6, 3) := by decide +kernel
theorem dX9_rule_10 : decode cX9_rule 10 = .ok (.bipush (-101), 2) := by decide +kernel
theorem dX9_rule_12 : decode cX9_rule 12 = .ok (.ireturn, 1) := by decide +kernel
theorem dX9_rule_13 : decode cX9_rule 13 = .ok (.iload_n 1, 1) := by decide +kernel
theorem dX9_rule_14 : decode cX9_rule 14 = .ok (.ifCond .ne 18, 3) := by decide +kernel
theorem dX9_rule_17 : decode cX9_rule 17 = .ok (.iload_n 2, 1) := by decide +kernel
theorem dX9_rule_18 : decode cX9_rule 18 = .ok (.i2l, 1) := by decide +kernel
theorem dX9_rule_19 : decode cX9_rule 19 = .ok (.lconst 1, 1) := by decide +kernel
theorem dX9_rule_20 : decode cX9_rule 20 = .ok (.ldc2_w 126, 3) := by decide +kernel
theorem dX9_rule_23 : decode cX9_rule 23 = .ok (.invokestatic 92, 3) := by decide +kernel
theorem dX9_rule_26 : decode cX9_rule 26 = .ok (.ifCond .ne 23, 3) := by decide +kernel
theorem dX9_rule_29 : decode cX9_rule 29 = .ok (.goto 17, 3) := by decide +kernel
theorem dX9_rule_32 : decode cX9_rule 32 = .ok (.iload_n 2, 1) := by decide +kernel
theorem dX9_rule_33 : decode cX9_rule 33 = .ok (.i2l, 1) := by decide +kernel
theorem dX9_rule_34 : decode cX9_rule 34 = .ok (.ldc2_w 155, 3) := by decide +kernel
theorem dX9_rule_37 : decode cX9_rule 37 = .ok (.ldc2_w 120, 3) := by decide +kernel
theorem dX9_rule_40 : decode cX9_rule 40 = .ok (.invokestatic 92, 3) := by decide +kernel
theorem dX9_rule_43 : decode cX9_rule 43 = .ok (.ifCond .ne 6, 3) := by decide +kernel
theorem dX9_rule_46 : decode cX9_rule 46 = .ok (.bipush (-102), 2) := by decide +kernel
theorem dX9_rule_48 : decode cX9_rule 48 = .ok (.ireturn, 1) := by decide +kernel
theorem dX9_rule_49 : decode cX9_rule 49 = .ok (.iload_n 1, 1) := by decide +kernel
theorem dX9_rule_50 : decode cX9_rule 50 = .ok (.ifCond .ne 10, 3) := by decide +kernel
theorem dX9_rule_53 : decode cX9_rule 53 = .ok (.aload_n 0, 1) := by decide +kernel
theorem dX9_rule_54 : decode cX9_rule 54 = .ok (.getfield 82, 3) := by decide +kernel
theorem dX9_rule_57 : decode cX9_rule 57 = .ok (.goto 7, 3) := by decide +kernel
theorem dX9_rule_60 : decode cX9_rule 60 = .ok (.aload_n 0, 1) := by decide +kernel
theorem dX9_rule_61 : decode cX9_rule 61 = .ok (.getfield 86, 3) := by decide +kernel
theorem dX9_rule_64 : decode cX9_rule 64 = .ok (.istore_n 3, 1) := by decide +kernel
theorem dX9_rule_65 : decode cX9_rule 65 = .ok (.aload_n 0, 1) := by decide +kernel
theorem dX9_rule_66 : decode cX9_rule 66 = .ok (.iload_n 1, 1) := by decide +kernel
theorem dX9_rule_67 : decode cX9_rule 67 = .ok (.ifCond .ne 7, 3) := by decide +kernel
theorem dX9_rule_70 : decode cX9_rule 70 = .ok (.iload_n 2, 1) := by decide +kernel
theorem dX9_rule_71 : decode cX9_rule 71 = .ok (.goto 7, 3) := by decide +kernel
theorem dX9_rule_74 : decode cX9_rule 74 = .ok (.aload_n 0, 1) := by decide +kernel
theorem dX9_rule_75 : decode cX9_rule 75 = .ok (.getfield 82, 3) := by decide +kernel
theorem dX9_rule_78 : decode cX9_rule 78 = .ok (.putfield 82, 3) := by decide +kernel
theorem dX9_rule_81 : decode cX9_rule 81 = .ok (.aload_n 0, 1) := by decide +kernel
theorem dX9_rule_82 : decode cX9_rule 82 = .ok (.iload_n 1, 1) := by decide +kernel
theorem dX9_rule_83 : decode cX9_rule 83 = .ok (.iconst 1, 1) := by decide +kernel
theorem dX9_rule_84 : decode cX9_rule 84 = .ok (.if_icmp .ne 7, 3) := by decide +kernel
theorem dX9_rule_87 : decode cX9_rule 87 = .ok (.iload_n 2, 1) := by decide +kernel
theorem dX9_rule_88 : decode cX9_rule 88 = .ok (.goto 7, 3) := by decide +kernel
theorem dX9_rule_91 : decode cX9_rule 91 = .ok (.aload_n 0, 1) := by decide +kernel
theorem dX9_rule_92 : decode cX9_rule 92 = .ok (.getfield 86, 3) := by decide +kernel
theorem dX9_rule_95 : decode cX9_rule 95 = .ok (.putfield 86, 3) := by decide +kernel
theorem dX9_rule_98 : decode cX9_rule 98 = .ok (.iload_n 3, 1) := by decide +kernel
theorem dX9_rule_99 : decode cX9_rule 99 = .ok (.ireturn, 1) := by decide +kernel
theorem dX9_takeMembers_0 : decode cX9_takeMembers 0 = .ok (.aload_n 0, 1) := by decide +kernel
theorem dX9_takeMembers_1 : decode cX9_takeMembers 1 = .ok (.iconst 0, 1) := by decide +kernel
theorem dX9_takeMembers_2 : decode cX9_takeMembers 2 = .ok (.putfield 157, 3) := by decide +kernel
theorem dX9_takeMembers_5 : decode cX9_takeMembers 5 = .ok (.iconst 0, 1) := by decide +kernel
theorem dX9_takeMembers_6 : decode cX9_takeMembers 6 = .ok (.istore_n 2, 1) := by decide +kernel
theorem dX9_takeMembers_7 : decode cX9_takeMembers 7 = .ok (.iload_n 2, 1) := by decide +kernel
theorem dX9_takeMembers_8 : decode cX9_takeMembers 8 = .ok (.aload_n 0, 1) := by decide +kernel
theorem dX9_takeMembers_9 : decode cX9_takeMembers 9 = .ok (.getfield 89, 3) := by decide +kernel
theorem dX9_takeMembers_12 : decode cX9_takeMembers 12 = .ok (.if_icmp .ge 38, 3) := by decide +kernel
theorem dX9_takeMembers_15 : decode cX9_takeMembers 15 = .ok (.iload_n 1, 1) := by decide +kernel
theorem dX9_takeMembers_16 : decode cX9_takeMembers 16 = .ok (.iload_n 2, 1) := by decide +kernel
theorem dX9_takeMembers_17 : decode cX9_takeMembers 17 = .ok (.ishr, 1) := by decide +kernel
theorem dX9_takeMembers_18 : decode cX9_takeMembers 18 = .ok (.iconst 1, 1) := by decide +kernel
theorem dX9_takeMembers_19 : decode cX9_takeMembers 19 = .ok (.iand, 1) := by decide +kernel
theorem dX9_takeMembers_20 : decode cX9_takeMembers 20 = .ok (.iconst 1, 1) := by decide +kernel
theorem dX9_takeMembers_21 : decode cX9_takeMembers 21 = .ok (.if_icmp .ne 23, 3) := by decide +kernel
theorem dX9_takeMembers_24 : decode cX9_takeMembers 24 = .ok (.aload_n 0, 1) := by decide +kernel
theorem dX9_takeMembers_25 : decode cX9_takeMembers 25 = .ok (.getfield 34, 3) := by decide +kernel
theorem dX9_takeMembers_28 : decode cX9_takeMembers 28 = .ok (.aload_n 0, 1) := by decide +kernel
theorem dX9_takeMembers_29 : decode cX9_takeMembers 29 = .ok (.getfield 157, 3) := by decide +kernel
theorem dX9_takeMembers_32 : decode cX9_takeMembers 32 = .ok (.iload_n 2, 1) := by decide +kernel
theorem dX9_takeMembers_33 : decode cX9_takeMembers 33 = .ok (.iastore, 1) := by decide +kernel
theorem dX9_takeMembers_34 : decode cX9_takeMembers 34 = .ok (.aload_n 0, 1) := by decide +kernel
theorem dX9_takeMembers_35 : decode cX9_takeMembers 35 = .ok (.dup, 1) := by decide +kernel
theorem dX9_takeMembers_36 : decode cX9_takeMembers 36 = .ok (.getfield 157, 3) := by decide +kernel
theorem dX9_takeMembers_39 : decode cX9_takeMembers 39 = .ok (.iconst 1, 1) := by decide +kernel
theorem dX9_takeMembers_40 : decode cX9_takeMembers 40 = .ok (.iadd, 1) := by decide +kernel
theorem dX9_takeMembers_41 : decode cX9_takeMembers 41 = .ok (.putfield 157, 3) := by decide +kernel
theorem dX9_takeMembers_44 : decode cX9_takeMembers 44 = .ok (.iinc 2 1, 3) := by decide +kernel
theorem dX9_takeMembers_47 : decode cX9_takeMembers 47 = .ok (.goto (-40), 3) := by decide +kernel
theorem dX9_takeMembers_50 : decode cX9_takeMembers 50 = .ok (.return_, 1) := by decide +kernel
theorem dX9_fit_0 : decode cX9_fit 0 = .ok (.aload_n 0, 1) := by decide +kernel
theorem dX9_fit_1 : decode cX9_fit 1 = .ok (.getfield 7, 3) := by decide +kernel
theorem dX9_fit_4 : decode cX9_fit 4 = .ok (.iload_n 1, 1) := by decide +kernel
theorem dX9_fit_5 : decode cX9_fit 5 = .ok (.iaload, 1) := by decide +kernel
theorem dX9_fit_6 : decode cX9_fit 6 = .ok (.aload_n 0, 1) := by decide +kernel
theorem dX9_fit_7 : decode cX9_fit 7 = .ok (.getfield 7, 3) := by decide +kernel
theorem dX9_fit_10 : decode cX9_fit 10 = .ok (.iload_n 3, 1) := by decide +kernel
theorem dX9_fit_11 : decode cX9_fit 11 = .ok (.iaload, 1) := by decide +kernel
theorem dX9_fit_12 : decode cX9_fit 12 = .ok (.iand, 1) := by decide +kernel
theorem dX9_fit_13 : decode cX9_fit 13 = .ok (.istore 5, 2) := by decide +kernel
theorem dX9_fit_15 : decode cX9_fit 15 = .ok (.iconst 1, 1) := by decide +kernel
theorem dX9_fit_16 : decode cX9_fit 16 = .ok (.istore 6, 2) := by decide +kernel
theorem dX9_fit_18 : decode cX9_fit 18 = .ok (.iconst 0, 1) := by decide +kernel
theorem dX9_fit_19 : decode cX9_fit 19 = .ok (.istore 7, 2) := by decide +kernel
theorem dX9_fit_21 : decode cX9_fit 21 = .ok (.iload 7, 2) := by decide +kernel
theorem dX9_fit_23 : decode cX9_fit 23 = .ok (.bipush 8, 2) := by decide +kernel
theorem dX9_fit_25 : decode cX9_fit 25 = .ok (.if_icmp .ge 69, 3) := by decide +kernel
theorem dX9_fit_28 : decode cX9_fit 28 = .ok (.iload 6, 2) := by decide +kernel
theorem dX9_fit_30 : decode cX9_fit 30 = .ok (.ifCond .eq 55, 3) := by decide +kernel
theorem dX9_fit_33 : decode cX9_fit 33 = .ok (.iload 5, 2) := by decide +kernel
theorem dX9_fit_35 : decode cX9_fit 35 = .ok (.iload 7, 2) := by decide +kernel
theorem dX9_fit_37 : decode cX9_fit 37 = .ok (.ishr, 1) := by decide +kernel
theorem dX9_fit_38 : decode cX9_fit 38 = .ok (.iconst 1, 1) := by decide +kernel
theorem dX9_fit_39 : decode cX9_fit 39 = .ok (.iand, 1) := by decide +kernel
theorem dX9_fit_40 : decode cX9_fit 40 = .ok (.ifCond .eq 41, 3) := by decide +kernel
theorem dX9_fit_43 : decode cX9_fit 43 = .ok (.aload_n 0, 1) := by decide +kernel
theorem dX9_fit_44 : decode cX9_fit 44 = .ok (.getfield 19, 3) := by decide +kernel
theorem dX9_fit_47 : decode cX9_fit 47 = .ok (.bipush 64, 2) := by decide +kernel
theorem dX9_fit_49 : decode cX9_fit 49 = .ok (.iload_n 1, 1) := by decide +kernel
theorem dX9_fit_50 : decode cX9_fit 50 = .ok (.imul, 1) := by decide +kernel
theorem dX9_fit_51 : decode cX9_fit 51 = .ok (.bipush 8, 2) := by decide +kernel
theorem dX9_fit_53 : decode cX9_fit 53 = .ok (.iload_n 2, 1) := by decide +kernel
theorem dX9_fit_54 : decode cX9_fit 54 = .ok (.imul, 1) := by decide +kernel
theorem dX9_fit_55 : decode cX9_fit 55 = .ok (.iadd, 1) := by decide +kernel
theorem dX9_fit_56 : decode cX9_fit 56 = .ok (.iload 7, 2) := by decide +kernel
theorem dX9_fit_58 : decode cX9_fit 58 = .ok (.iadd, 1) := by decide +kernel
theorem dX9_fit_59 : decode cX9_fit 59 = .ok (.iaload, 1) := by decide +kernel
theorem dX9_fit_60 : decode cX9_fit 60 = .ok (.aload_n 0, 1) := by decide +kernel
theorem dX9_fit_61 : decode cX9_fit 61 = .ok (.getfield 19, 3) := by decide +kernel
theorem dX9_fit_64 : decode cX9_fit 64 = .ok (.bipush 64, 2) := by decide +kernel
theorem dX9_fit_66 : decode cX9_fit 66 = .ok (.iload_n 3, 1) := by decide +kernel
theorem dX9_fit_67 : decode cX9_fit 67 = .ok (.imul, 1) := by decide +kernel
theorem dX9_fit_68 : decode cX9_fit 68 = .ok (.bipush 8, 2) := by decide +kernel
theorem dX9_fit_70 : decode cX9_fit 70 = .ok (.iload 4, 2) := by decide +kernel
theorem dX9_fit_72 : decode cX9_fit 72 = .ok (.imul, 1) := by decide +kernel
theorem dX9_fit_73 : decode cX9_fit 73 = .ok (.iadd, 1) := by decide +kernel
theorem dX9_fit_74 : decode cX9_fit 74 = .ok (.iload 7, 2) := by decide +kernel
theorem dX9_fit_76 : decode cX9_fit 76 = .ok (.iadd, 1) := by decide +kernel
theorem dX9_fit_77 : decode cX9_fit 77 = .ok (.iaload, 1) := by decide +kernel
theorem dX9_fit_78 : decode cX9_fit 78 = .ok (.if_icmp .ne 7, 3) := by decide +kernel
theorem dX9_fit_81 : decode cX9_fit 81 = .ok (.iconst 1, 1) := by decide +kernel
theorem dX9_fit_82 : decode cX9_fit 82 = .ok (.goto 4, 3) := by decide +kernel
theorem dX9_fit_85 : decode cX9_fit 85 = .ok (.iconst 0, 1) := by decide +kernel
theorem dX9_fit_86 : decode cX9_fit 86 = .ok (.istore 6, 2) := by decide +kernel
theorem dX9_fit_88 : decode cX9_fit 88 = .ok (.iinc 7 1, 3) := by decide +kernel
theorem dX9_fit_91 : decode cX9_fit 91 = .ok (.goto (-70), 3) := by decide +kernel
theorem dX9_fit_94 : decode cX9_fit 94 = .ok (.iload 6, 2) := by decide +kernel
theorem dX9_fit_96 : decode cX9_fit 96 = .ok (.ireturn, 1) := by decide +kernel
theorem dX9_fitsAhead_0 : decode cX9_fitsAhead 0 = .ok (.iconst 1, 1) := by decide +kernel
theorem dX9_fitsAhead_1 : decode cX9_fitsAhead 1 = .ok (.istore_n 2, 1) := by decide +kernel
theorem dX9_fitsAhead_2 : decode cX9_fitsAhead 2 = .ok (.iconst 0, 1) := by decide +kernel
theorem dX9_fitsAhead_3 : decode cX9_fitsAhead 3 = .ok (.istore_n 3, 1) := by decide +kernel
theorem dX9_fitsAhead_4 : decode cX9_fitsAhead 4 = .ok (.iload_n 3, 1) := by decide +kernel
theorem dX9_fitsAhead_5 : decode cX9_fitsAhead 5 = .ok (.iload_n 1, 1) := by decide +kernel
theorem dX9_fitsAhead_6 : decode cX9_fitsAhead 6 = .ok (.if_icmp .ge 50, 3) := by decide +kernel
theorem dX9_fitsAhead_9 : decode cX9_fitsAhead 9 = .ok (.iload_n 2, 1) := by decide +kernel
theorem dX9_fitsAhead_10 : decode cX9_fitsAhead 10 = .ok (.ifCond .eq 38, 3) := by decide +kernel
theorem dX9_fitsAhead_13 : decode cX9_fitsAhead 13 = .ok (.aload_n 0, 1) := by decide +kernel
theorem dX9_fitsAhead_14 : decode cX9_fitsAhead 14 = .ok (.aload_n 0, 1) := by decide +kernel
theorem dX9_fitsAhead_15 : decode cX9_fitsAhead 15 = .ok (.getfield 34, 3) := by decide +kernel
theorem dX9_fitsAhead_18 : decode cX9_fitsAhead 18 = .ok (.iload_n 3, 1) := by decide +kernel
theorem dX9_fitsAhead_19 : decode cX9_fitsAhead 19 = .ok (.iaload, 1) := by decide +kernel
theorem dX9_fitsAhead_20 : decode cX9_fitsAhead 20 = .ok (.aload_n 0, 1) := by decide +kernel
theorem dX9_fitsAhead_21 : decode cX9_fitsAhead 21 = .ok (.getfield 37, 3) := by decide +kernel
theorem dX9_fitsAhead_24 : decode cX9_fitsAhead 24 = .ok (.iload_n 3, 1) := by decide +kernel
theorem dX9_fitsAhead_25 : decode cX9_fitsAhead 25 = .ok (.iaload, 1) := by decide +kernel
theorem dX9_fitsAhead_26 : decode cX9_fitsAhead 26 = .ok (.aload_n 0, 1) := by decide +kernel
theorem dX9_fitsAhead_27 : decode cX9_fitsAhead 27 = .ok (.getfield 34, 3) := by decide +kernel
theorem dX9_fitsAhead_30 : decode cX9_fitsAhead 30 = .ok (.iload_n 1, 1) := by decide +kernel
theorem dX9_fitsAhead_31 : decode cX9_fitsAhead 31 = .ok (.iaload, 1) := by decide +kernel
theorem dX9_fitsAhead_32 : decode cX9_fitsAhead 32 = .ok (.aload_n 0, 1) := by decide +kernel
theorem dX9_fitsAhead_33 : decode cX9_fitsAhead 33 = .ok (.getfield 37, 3) := by decide +kernel
theorem dX9_fitsAhead_36 : decode cX9_fitsAhead 36 = .ok (.iload_n 1, 1) := by decide +kernel
theorem dX9_fitsAhead_37 : decode cX9_fitsAhead 37 = .ok (.iaload, 1) := by decide +kernel
theorem dX9_fitsAhead_38 : decode cX9_fitsAhead 38 = .ok (.invokevirtual 160, 3) := by decide +kernel
theorem dX9_fitsAhead_41 : decode cX9_fitsAhead 41 = .ok (.ifCond .eq 7, 3) := by decide +kernel
theorem dX9_fitsAhead_44 : decode cX9_fitsAhead 44 = .ok (.iconst 1, 1) := by decide +kernel
theorem dX9_fitsAhead_45 : decode cX9_fitsAhead 45 = .ok (.goto 4, 3) := by decide +kernel
theorem dX9_fitsAhead_48 : decode cX9_fitsAhead 48 = .ok (.iconst 0, 1) := by decide +kernel
theorem dX9_fitsAhead_49 : decode cX9_fitsAhead 49 = .ok (.istore_n 2, 1) := by decide +kernel
theorem dX9_fitsAhead_50 : decode cX9_fitsAhead 50 = .ok (.iinc 3 1, 3) := by decide +kernel
theorem dX9_fitsAhead_53 : decode cX9_fitsAhead 53 = .ok (.goto (-49), 3) := by decide +kernel
theorem dX9_fitsAhead_56 : decode cX9_fitsAhead 56 = .ok (.iload_n 2, 1) := by decide +kernel
theorem dX9_fitsAhead_57 : decode cX9_fitsAhead 57 = .ok (.ireturn, 1) := by decide +kernel
theorem dX9_nextJoined_0 : decode cX9_nextJoined 0 = .ok (.iload_n 1, 1) := by decide +kernel
theorem dX9_nextJoined_1 : decode cX9_nextJoined 1 = .ok (.istore_n 2, 1) := by decide +kernel
theorem dX9_nextJoined_2 : decode cX9_nextJoined 2 = .ok (.iload_n 2, 1) := by decide +kernel
theorem dX9_nextJoined_3 : decode cX9_nextJoined 3 = .ok (.ifCond .lt 72, 3) := by decide +kernel
theorem dX9_nextJoined_6 : decode cX9_nextJoined 6 = .ok (.aload_n 0, 1) := by decide +kernel
theorem dX9_nextJoined_7 : decode cX9_nextJoined 7 = .ok (.getfield 37, 3) := by decide +kernel
theorem dX9_nextJoined_10 : decode cX9_nextJoined 10 = .ok (.iload_n 2, 1) := by decide +kernel
theorem dX9_nextJoined_11 : decode cX9_nextJoined 11 = .ok (.dup2, 1) := by decide +kernel
theorem dX9_nextJoined_12 : decode cX9_nextJoined 12 = .ok (.iaload, 1) := by decide +kernel
theorem dX9_nextJoined_13 : decode cX9_nextJoined 13 = .ok (.iconst 1, 1) := by decide +kernel
theorem dX9_nextJoined_14 : decode cX9_nextJoined 14 = .ok (.iadd, 1) := by decide +kernel
theorem dX9_nextJoined_15 : decode cX9_nextJoined 15 = .ok (.iastore, 1) := by decide +kernel
theorem dX9_nextJoined_16 : decode cX9_nextJoined 16 = .ok (.aload_n 0, 1) := by decide +kernel
theorem dX9_nextJoined_17 : decode cX9_nextJoined 17 = .ok (.getfield 37, 3) := by decide +kernel
theorem dX9_nextJoined_20 : decode cX9_nextJoined 20 = .ok (.iload_n 2, 1) := by decide +kernel
theorem dX9_nextJoined_21 : decode cX9_nextJoined 21 = .ok (.iaload, 1) := by decide +kernel
theorem dX9_nextJoined_22 : decode cX9_nextJoined 22 = .ok (.aload_n 0, 1) := by decide +kernel
theorem dX9_nextJoined_23 : decode cX9_nextJoined 23 = .ok (.getfield 16, 3) := by decide +kernel
theorem dX9_nextJoined_26 : decode cX9_nextJoined 26 = .ok (.aload_n 0, 1) := by decide +kernel
theorem dX9_nextJoined_27 : decode cX9_nextJoined 27 = .ok (.getfield 34, 3) := by decide +kernel
theorem dX9_nextJoined_30 : decode cX9_nextJoined 30 = .ok (.iload_n 2, 1) := by decide +kernel
theorem dX9_nextJoined_31 : decode cX9_nextJoined 31 = .ok (.iaload, 1) := by decide +kernel
theorem dX9_nextJoined_32 : decode cX9_nextJoined 32 = .ok (.iaload, 1) := by decide +kernel
theorem dX9_nextJoined_33 : decode cX9_nextJoined 33 = .ok (.if_icmp .ne 9, 3) := by decide +kernel
theorem dX9_nextJoined_36 : decode cX9_nextJoined 36 = .ok (.iinc 2 (-1), 3) := by decide +kernel
theorem dX9_nextJoined_39 : decode cX9_nextJoined 39 = .ok (.goto (-37), 3) := by decide +kernel
theorem dX9_nextJoined_42 : decode cX9_nextJoined 42 = .ok (.aload_n 0, 1) := by decide +kernel
theorem dX9_nextJoined_43 : decode cX9_nextJoined 43 = .ok (.iload_n 2, 1) := by decide +kernel
theorem dX9_nextJoined_44 : decode cX9_nextJoined 44 = .ok (.invokevirtual 164, 3) := by decide +kernel
theorem dX9_nextJoined_47 : decode cX9_nextJoined 47 = .ok (.ifCond .eq (-45), 3) := by decide +kernel
theorem dX9_nextJoined_50 : decode cX9_nextJoined 50 = .ok (.iload_n 2, 1) := by decide +kernel
theorem dX9_nextJoined_51 : decode cX9_nextJoined 51 = .ok (.aload_n 0, 1) := by decide +kernel
theorem dX9_nextJoined_52 : decode cX9_nextJoined 52 = .ok (.getfield 157, 3) := by decide +kernel
theorem dX9_nextJoined_55 : decode cX9_nextJoined 55 = .ok (.iconst 1, 1) := by decide +kernel
theorem dX9_nextJoined_56 : decode cX9_nextJoined 56 = .ok (.isub, 1) := by decide +kernel
theorem dX9_nextJoined_57 : decode cX9_nextJoined 57 = .ok (.if_icmp .ne 5, 3) := by decide +kernel
theorem dX9_nextJoined_60 : decode cX9_nextJoined 60 = .ok (.iconst 1, 1) := by decide +kernel
theorem dX9_nextJoined_61 : decode cX9_nextJoined 61 = .ok (.ireturn, 1) := by decide +kernel
theorem dX9_nextJoined_62 : decode cX9_nextJoined 62 = .ok (.iinc 2 1, 3) := by decide +kernel
theorem dX9_nextJoined_65 : decode cX9_nextJoined 65 = .ok (.aload_n 0, 1) := by decide +kernel
theorem dX9_nextJoined_66 : decode cX9_nextJoined 66 = .ok (.getfield 37, 3) := by decide +kernel
theorem dX9_nextJoined_69 : decode cX9_nextJoined 69 = .ok (.iload_n 2, 1) := by decide +kernel
theorem dX9_nextJoined_70 : decode cX9_nextJoined 70 = .ok (.iconst (-1), 1) := by decide +kernel
theorem dX9_nextJoined_71 : decode cX9_nextJoined 71 = .ok (.iastore, 1) := by decide +kernel
theorem dX9_nextJoined_72 : decode cX9_nextJoined 72 = .ok (.goto (-70), 3) := by decide +kernel
theorem dX9_nextJoined_75 : decode cX9_nextJoined 75 = .ok (.iconst 0, 1) := by decide +kernel
theorem dX9_nextJoined_76 : decode cX9_nextJoined 76 = .ok (.ireturn, 1) := by decide +kernel
theorem dX9_firstJoined_0 : decode cX9_firstJoined 0 = .ok (.aload_n 0, 1) := by decide +kernel
theorem dX9_firstJoined_1 : decode cX9_firstJoined 1 = .ok (.iload_n 1, 1) := by decide +kernel
theorem dX9_firstJoined_2 : decode cX9_firstJoined 2 = .ok (.invokevirtual 167, 3) := by decide +kernel
theorem dX9_firstJoined_5 : decode cX9_firstJoined 5 = .ok (.aload_n 0, 1) := by decide +kernel
theorem dX9_firstJoined_6 : decode cX9_firstJoined 6 = .ok (.getfield 37, 3) := by decide +kernel
theorem dX9_firstJoined_9 : decode cX9_firstJoined 9 = .ok (.iconst 0, 1) := by decide +kernel
theorem dX9_firstJoined_10 : decode cX9_firstJoined 10 = .ok (.iconst (-1), 1) := by decide +kernel
theorem dX9_firstJoined_11 : decode cX9_firstJoined 11 = .ok (.iastore, 1) := by decide +kernel
theorem dX9_firstJoined_12 : decode cX9_firstJoined 12 = .ok (.aload_n 0, 1) := by decide +kernel
theorem dX9_firstJoined_13 : decode cX9_firstJoined 13 = .ok (.iconst 0, 1) := by decide +kernel
theorem dX9_firstJoined_14 : decode cX9_firstJoined 14 = .ok (.invokevirtual 171, 3) := by decide +kernel
theorem dX9_firstJoined_17 : decode cX9_firstJoined 17 = .ok (.ireturn, 1) := by decide +kernel
theorem dX9_countAll_0 : decode cX9_countAll 0 = .ok (.iconst 1, 1) := by decide +kernel
theorem dX9_countAll_1 : decode cX9_countAll 1 = .ok (.istore_n 1, 1) := by decide +kernel
theorem dX9_countAll_2 : decode cX9_countAll 2 = .ok (.iload_n 1, 1) := by decide +kernel
theorem dX9_countAll_3 : decode cX9_countAll 3 = .ok (.iconst 1, 1) := by decide +kernel
theorem dX9_countAll_4 : decode cX9_countAll 4 = .ok (.aload_n 0, 1) := by decide +kernel
theorem dX9_countAll_5 : decode cX9_countAll 5 = .ok (.getfield 89, 3) := by decide +kernel
theorem dX9_countAll_8 : decode cX9_countAll 8 = .ok (.ishl, 1) := by decide +kernel
theorem dX9_countAll_9 : decode cX9_countAll 9 = .ok (.if_icmp .ge 52, 3) := by decide +kernel
theorem dX9_countAll_12 : decode cX9_countAll 12 = .ok (.aload_n 0, 1) := by decide +kernel
theorem dX9_countAll_13 : decode cX9_countAll 13 = .ok (.getfield 104, 3) := by decide +kernel
theorem dX9_countAll_16 : decode cX9_countAll 16 = .ok (.ifCond .ne 45, 3) := by decide +kernel
theorem dX9_countAll_19 : decode cX9_countAll 19 = .ok (.iconst 0, 1) := by decide +kernel
theorem dX9_countAll_20 : decode cX9_countAll 20 = .ok (.istore_n 2, 1) := by decide +kernel
theorem dX9_countAll_21 : decode cX9_countAll 21 = .ok (.aload_n 0, 1) := by decide +kernel
theorem dX9_countAll_22 : decode cX9_countAll 22 = .ok (.iload_n 1, 1) := by decide +kernel
theorem dX9_countAll_23 : decode cX9_countAll 23 = .ok (.invokevirtual 174, 3) := by decide +kernel
theorem dX9_countAll_26 : decode cX9_countAll 26 = .ok (.istore_n 3, 1) := by decide +kernel
theorem dX9_countAll_27 : decode cX9_countAll 27 = .ok (.iload_n 3, 1) := by decide +kernel
theorem dX9_countAll_28 : decode cX9_countAll 28 = .ok (.ifCond .eq 20, 3) := by decide +kernel
theorem dX9_countAll_31 : decode cX9_countAll 31 = .ok (.iinc 2 1, 3) := by decide +kernel
theorem dX9_countAll_34 : decode cX9_countAll 34 = .ok (.aload_n 0, 1) := by decide +kernel
theorem dX9_countAll_35 : decode cX9_countAll 35 = .ok (.aload_n 0, 1) := by decide +kernel
theorem dX9_countAll_36 : decode cX9_countAll 36 = .ok (.getfield 157, 3) := by decide +kernel
theorem dX9_countAll_39 : decode cX9_countAll 39 = .ok (.iconst 1, 1) := by decide +kernel
theorem dX9_countAll_40 : decode cX9_countAll 40 = .ok (.isub, 1) := by decide +kernel
theorem dX9_countAll_41 : decode cX9_countAll 41 = .ok (.invokevirtual 171, 3) := by decide +kernel
theorem dX9_countAll_44 : decode cX9_countAll 44 = .ok (.istore_n 3, 1) := by decide +kernel
theorem dX9_countAll_45 : decode cX9_countAll 45 = .ok (.goto (-18), 3) := by decide +kernel
theorem dX9_countAll_48 : decode cX9_countAll 48 = .ok (.aload_n 0, 1) := by decide +kernel
theorem dX9_countAll_49 : decode cX9_countAll 49 = .ok (.getfield 31, 3) := by decide +kernel
theorem dX9_countAll_52 : decode cX9_countAll 52 = .ok (.iload_n 1, 1) := by decide +kernel
theorem dX9_countAll_53 : decode cX9_countAll 53 = .ok (.iload_n 2, 1) := by decide +kernel
theorem dX9_countAll_54 : decode cX9_countAll 54 = .ok (.iastore, 1) := by decide +kernel
theorem dX9_countAll_55 : decode cX9_countAll 55 = .ok (.iinc 1 1, 3) := by decide +kernel
theorem dX9_countAll_58 : decode cX9_countAll 58 = .ok (.goto (-56), 3) := by decide +kernel
theorem dX9_countAll_61 : decode cX9_countAll 61 = .ok (.aload_n 0, 1) := by decide +kernel
theorem dX9_countAll_62 : decode cX9_countAll 62 = .ok (.iconst 1, 1) := by decide +kernel
theorem dX9_countAll_63 : decode cX9_countAll 63 = .ok (.putfield 104, 3) := by decide +kernel
theorem dX9_countAll_66 : decode cX9_countAll 66 = .ok (.return_, 1) := by decide +kernel
theorem dX9_trueSize_0 : decode cX9_trueSize 0 = .ok (.aload_n 0, 1) := by decide +kernel
theorem dX9_trueSize_1 : decode cX9_trueSize 1 = .ok (.invokevirtual 177, 3) := by decide +kernel
theorem dX9_trueSize_4 : decode cX9_trueSize 4 = .ok (.aload_n 0, 1) := by decide +kernel
theorem dX9_trueSize_5 : decode cX9_trueSize 5 = .ok (.getfield 31, 3) := by decide +kernel
theorem dX9_trueSize_8 : decode cX9_trueSize 8 = .ok (.iload_n 1, 1) := by decide +kernel
theorem dX9_trueSize_9 : decode cX9_trueSize 9 = .ok (.iaload, 1) := by decide +kernel
theorem dX9_trueSize_10 : decode cX9_trueSize 10 = .ok (.ireturn, 1) := by decide +kernel
theorem dX9_foretoldSize_0 : decode cX9_foretoldSize 0 = .ok (.lconst 1, 1) := by decide +kernel
theorem dX9_foretoldSize_1 : decode cX9_foretoldSize 1 = .ok (.lstore_n 2, 1) := by decide +kernel
theorem dX9_foretoldSize_2 : decode cX9_foretoldSize 2 = .ok (.iconst 0, 1) := by decide +kernel
theorem dX9_foretoldSize_3 : decode cX9_foretoldSize 3 = .ok (.istore 4, 2) := by decide +kernel
theorem dX9_foretoldSize_5 : decode cX9_foretoldSize 5 = .ok (.iload 4, 2) := by decide +kernel
theorem dX9_foretoldSize_7 : decode cX9_foretoldSize 7 = .ok (.aload_n 0, 1) := by decide +kernel
theorem dX9_foretoldSize_8 : decode cX9_foretoldSize 8 = .ok (.getfield 89, 3) := by decide +kernel
theorem dX9_foretoldSize_11 : decode cX9_foretoldSize 11 = .ok (.if_icmp .ge 34, 3) := by decide +kernel
theorem dX9_foretoldSize_14 : decode cX9_foretoldSize 14 = .ok (.lload_n 2, 1) := by decide +kernel
theorem dX9_foretoldSize_15 : decode cX9_foretoldSize 15 = .ok (.iload_n 1, 1) := by decide +kernel
theorem dX9_foretoldSize_16 : decode cX9_foretoldSize 16 = .ok (.iload 4, 2) := by decide +kernel
theorem dX9_foretoldSize_18 : decode cX9_foretoldSize 18 = .ok (.ishr, 1) := by decide +kernel
theorem dX9_foretoldSize_19 : decode cX9_foretoldSize 19 = .ok (.iconst 1, 1) := by decide +kernel
theorem dX9_foretoldSize_20 : decode cX9_foretoldSize 20 = .ok (.iand, 1) := by decide +kernel
theorem dX9_foretoldSize_21 : decode cX9_foretoldSize 21 = .ok (.iconst 1, 1) := by decide +kernel
theorem dX9_foretoldSize_22 : decode cX9_foretoldSize 22 = .ok (.if_icmp .ne 14, 3) := by decide +kernel
theorem dX9_foretoldSize_25 : decode cX9_foretoldSize 25 = .ok (.aload_n 0, 1) := by decide +kernel
theorem dX9_foretoldSize_26 : decode cX9_foretoldSize 26 = .ok (.getfield 16, 3) := by decide +kernel
theorem dX9_foretoldSize_29 : decode cX9_foretoldSize 29 = .ok (.iload 4, 2) := by decide +kernel
theorem dX9_foretoldSize_31 : decode cX9_foretoldSize 31 = .ok (.iaload, 1) := by decide +kernel
theorem dX9_foretoldSize_32 : decode cX9_foretoldSize 32 = .ok (.i2l, 1) := by decide +kernel
theorem dX9_foretoldSize_33 : decode cX9_foretoldSize 33 = .ok (.goto 4, 3) := by decide +kernel
theorem dX9_foretoldSize_36 : decode cX9_foretoldSize 36 = .ok (.lconst 1, 1) := by decide +kernel
theorem dX9_foretoldSize_37 : decode cX9_foretoldSize 37 = .ok (.lmul, 1) := by decide +kernel
theorem dX9_foretoldSize_38 : decode cX9_foretoldSize 38 = .ok (.lstore_n 2, 1) := by decide +kernel
theorem dX9_foretoldSize_39 : decode cX9_foretoldSize 39 = .ok (.iinc 4 1, 3) := by decide +kernel
theorem dX9_foretoldSize_42 : decode cX9_foretoldSize 42 = .ok (.goto (-37), 3) := by decide +kernel
theorem dX9_foretoldSize_45 : decode cX9_foretoldSize 45 = .ok (.lload_n 2, 1) := by decide +kernel
theorem dX9_foretoldSize_46 : decode cX9_foretoldSize 46 = .ok (.lconst 0, 1) := by decide +kernel
theorem dX9_foretoldSize_47 : decode cX9_foretoldSize 47 = .ok (.lcmp, 1) := by decide +kernel
theorem dX9_foretoldSize_48 : decode cX9_foretoldSize 48 = .ok (.ifCond .ne 5, 3) := by decide +kernel
theorem dX9_foretoldSize_51 : decode cX9_foretoldSize 51 = .ok (.iconst 0, 1) := by decide +kernel
theorem dX9_foretoldSize_52 : decode cX9_foretoldSize 52 = .ok (.ireturn, 1) := by decide +kernel
theorem dX9_foretoldSize_53 : decode cX9_foretoldSize 53 = .ok (.lconst 1, 1) := by decide +kernel
theorem dX9_foretoldSize_54 : decode cX9_foretoldSize 54 = .ok (.lstore 4, 2) := by decide +kernel
theorem dX9_foretoldSize_56 : decode cX9_foretoldSize 56 = .ok (.iconst 0, 1) := by decide +kernel
theorem dX9_foretoldSize_57 : decode cX9_foretoldSize 57 = .ok (.istore 6, 2) := by decide +kernel
theorem dX9_foretoldSize_59 : decode cX9_foretoldSize 59 = .ok (.iload 6, 2) := by decide +kernel
theorem dX9_foretoldSize_61 : decode cX9_foretoldSize 61 = .ok (.bipush 8, 2) := by decide +kernel
theorem dX9_foretoldSize_63 : decode cX9_foretoldSize 63 = .ok (.if_icmp .ge 113, 3) := by decide +kernel
theorem dX9_foretoldSize_66 : decode cX9_foretoldSize 66 = .ok (.iconst 0, 1) := by decide +kernel
theorem dX9_foretoldSize_67 : decode cX9_foretoldSize 67 = .ok (.istore 7, 2) := by decide +kernel
theorem dX9_foretoldSize_69 : decode cX9_foretoldSize 69 = .ok (.iconst 0, 1) := by decide +kernel
theorem dX9_foretoldSize_70 : decode cX9_foretoldSize 70 = .ok (.istore 8, 2) := by decide +kernel
theorem dX9_foretoldSize_72 : decode cX9_foretoldSize 72 = .ok (.iconst 0, 1) := by decide +kernel
theorem dX9_foretoldSize_73 : decode cX9_foretoldSize 73 = .ok (.istore 9, 2) := by decide +kernel
theorem dX9_foretoldSize_75 : decode cX9_foretoldSize 75 = .ok (.iload 9, 2) := by decide +kernel
theorem dX9_foretoldSize_77 : decode cX9_foretoldSize 77 = .ok (.aload_n 0, 1) := by decide +kernel
theorem dX9_foretoldSize_78 : decode cX9_foretoldSize 78 = .ok (.getfield 89, 3) := by decide +kernel
theorem dX9_foretoldSize_81 : decode cX9_foretoldSize 81 = .ok (.if_icmp .ge 72, 3) := by decide +kernel
theorem dX9_foretoldSize_84 : decode cX9_foretoldSize 84 = .ok (.iload_n 1, 1) := by decide +kernel
theorem dX9_foretoldSize_85 : decode cX9_foretoldSize 85 = .ok (.iload 9, 2) := by decide +kernel
theorem dX9_foretoldSize_87 : decode cX9_foretoldSize 87 = .ok (.ishr, 1) := by decide +kernel
theorem dX9_foretoldSize_88 : decode cX9_foretoldSize 88 = .ok (.iconst 1, 1) := by decide +kernel
theorem dX9_foretoldSize_89 : decode cX9_foretoldSize 89 = .ok (.iand, 1) := by decide +kernel
theorem dX9_foretoldSize_90 : decode cX9_foretoldSize 90 = .ok (.iconst 1, 1) := by decide +kernel
theorem dX9_foretoldSize_91 : decode cX9_foretoldSize 91 = .ok (.if_icmp .ne 56, 3) := by decide +kernel
theorem dX9_foretoldSize_94 : decode cX9_foretoldSize 94 = .ok (.aload_n 0, 1) := by decide +kernel
theorem dX9_foretoldSize_95 : decode cX9_foretoldSize 95 = .ok (.iload 9, 2) := by decide +kernel
theorem dX9_foretoldSize_97 : decode cX9_foretoldSize 97 = .ok (.iload 6, 2) := by decide +kernel
theorem dX9_foretoldSize_99 : decode cX9_foretoldSize 99 = .ok (.invokevirtual 108, 3) := by decide +kernel
theorem dX9_foretoldSize_102 : decode cX9_foretoldSize 102 = .ok (.ifCond .eq 45, 3) := by decide +kernel
theorem dX9_foretoldSize_105 : decode cX9_foretoldSize 105 = .ok (.aload_n 0, 1) := by decide +kernel
theorem dX9_foretoldSize_106 : decode cX9_foretoldSize 106 = .ok (.iload 9, 2) := by decide +kernel
theorem dX9_foretoldSize_108 : decode cX9_foretoldSize 108 = .ok (.iload 6, 2) := by decide +kernel
theorem dX9_foretoldSize_110 : decode cX9_foretoldSize 110 = .ok (.invokevirtual 152, 3) := by decide +kernel
theorem dX9_foretoldSize_113 : decode cX9_foretoldSize 113 = .ok (.istore 10, 2) := by decide +kernel
theorem dX9_foretoldSize_115 : decode cX9_foretoldSize 115 = .ok (.iload 7, 2) := by decide +kernel
theorem dX9_foretoldSize_117 : decode cX9_foretoldSize 117 = .ok (.ifCond .eq 10, 3) := by decide +kernel
theorem dX9_foretoldSize_120 : decode cX9_foretoldSize 120 = .ok (.iload 10, 2) := by decide +kernel
theorem dX9_foretoldSize_122 : decode cX9_foretoldSize 122 = .ok (.iload 8, 2) := by decide +kernel
theorem dX9_foretoldSize_124 : decode cX9_foretoldSize 124 = .ok (.if_icmp .ge 8, 3) := by decide +kernel
theorem dX9_foretoldSize_127 : decode cX9_foretoldSize 127 = .ok (.iload 10, 2) := by decide +kernel
theorem dX9_foretoldSize_129 : decode cX9_foretoldSize 129 = .ok (.goto 5, 3) := by decide +kernel
theorem dX9_foretoldSize_132 : decode cX9_foretoldSize 132 = .ok (.iload 8, 2) := by decide +kernel
theorem dX9_foretoldSize_134 : decode cX9_foretoldSize 134 = .ok (.istore 8, 2) := by decide +kernel
theorem dX9_foretoldSize_136 : decode cX9_foretoldSize 136 = .ok (.lload 4, 2) := by decide +kernel
theorem dX9_foretoldSize_138 : decode cX9_foretoldSize 138 = .ok (.iload 10, 2) := by decide +kernel
theorem dX9_foretoldSize_140 : decode cX9_foretoldSize 140 = .ok (.i2l, 1) := by decide +kernel
theorem dX9_foretoldSize_141 : decode cX9_foretoldSize 141 = .ok (.lmul, 1) := by decide +kernel
theorem dX9_foretoldSize_142 : decode cX9_foretoldSize 142 = .ok (.lstore 4, 2) := by decide +kernel
theorem dX9_foretoldSize_144 : decode cX9_foretoldSize 144 = .ok (.iinc 7 1, 3) := by decide +kernel
theorem dX9_foretoldSize_147 : decode cX9_foretoldSize 147 = .ok (.iinc 9 1, 3) := by decide +kernel
theorem dX9_foretoldSize_150 : decode cX9_foretoldSize 150 = .ok (.goto (-75), 3) := by decide +kernel
theorem dX9_foretoldSize_153 : decode cX9_foretoldSize 153 = .ok (.lload 4, 2) := by decide +kernel
theorem dX9_foretoldSize_155 : decode cX9_foretoldSize 155 = .ok (.iload 7, 2) := by decide +kernel
theorem dX9_foretoldSize_157 : decode cX9_foretoldSize 157 = .ok (.ifCond .le 9, 3) := by decide +kernel
theorem dX9_foretoldSize_160 : decode cX9_foretoldSize 160 = .ok (.iload 8, 2) := by decide +kernel
theorem dX9_foretoldSize_162 : decode cX9_foretoldSize 162 = .ok (.i2l, 1) := by decide +kernel
theorem dX9_foretoldSize_163 : decode cX9_foretoldSize 163 = .ok (.goto 4, 3) := by decide +kernel
theorem dX9_foretoldSize_166 : decode cX9_foretoldSize 166 = .ok (.lconst 1, 1) := by decide +kernel
theorem dX9_foretoldSize_167 : decode cX9_foretoldSize 167 = .ok (.ldiv, 1) := by decide +kernel
theorem dX9_foretoldSize_168 : decode cX9_foretoldSize 168 = .ok (.lstore 4, 2) := by decide +kernel
theorem dX9_foretoldSize_170 : decode cX9_foretoldSize 170 = .ok (.iinc 6 1, 3) := by decide +kernel
theorem dX9_foretoldSize_173 : decode cX9_foretoldSize 173 = .ok (.goto (-114), 3) := by decide +kernel
theorem dX9_foretoldSize_176 : decode cX9_foretoldSize 176 = .ok (.lload_n 2, 1) := by decide +kernel
theorem dX9_foretoldSize_177 : decode cX9_foretoldSize 177 = .ok (.lload 4, 2) := by decide +kernel
theorem dX9_foretoldSize_179 : decode cX9_foretoldSize 179 = .ok (.ldiv, 1) := by decide +kernel
theorem dX9_foretoldSize_180 : decode cX9_foretoldSize 180 = .ok (.l2i, 1) := by decide +kernel
theorem dX9_foretoldSize_181 : decode cX9_foretoldSize 181 = .ok (.ireturn, 1) := by decide +kernel
theorem dX9_isSet_0 : decode cX9_isSet 0 = .ok (.iload_n 1, 1) := by decide +kernel
theorem dX9_isSet_1 : decode cX9_isSet 1 = .ok (.i2l, 1) := by decide +kernel
theorem dX9_isSet_2 : decode cX9_isSet 2 = .ok (.lconst 1, 1) := by decide +kernel
theorem dX9_isSet_3 : decode cX9_isSet 3 = .ok (.iconst 1, 1) := by decide +kernel
theorem dX9_isSet_4 : decode cX9_isSet 4 = .ok (.aload_n 0, 1) := by decide +kernel
theorem dX9_isSet_5 : decode cX9_isSet 5 = .ok (.getfield 89, 3) := by decide +kernel
theorem dX9_isSet_8 : decode cX9_isSet 8 = .ok (.ishl, 1) := by decide +kernel
theorem dX9_isSet_9 : decode cX9_isSet 9 = .ok (.iconst 1, 1) := by decide +kernel
theorem dX9_isSet_10 : decode cX9_isSet 10 = .ok (.isub, 1) := by decide +kernel
theorem dX9_isSet_11 : decode cX9_isSet 11 = .ok (.i2l, 1) := by decide +kernel
theorem dX9_isSet_12 : decode cX9_isSet 12 = .ok (.invokestatic 92, 3) := by decide +kernel
theorem dX9_isSet_15 : decode cX9_isSet 15 = .ok (.ireturn, 1) := by decide +kernel
theorem dX9_sizeOf_0 : decode cX9_sizeOf 0 = .ok (.iload_n 2, 1) := by decide +kernel
theorem dX9_sizeOf_1 : decode cX9_sizeOf 1 = .ok (.ifCond .ne 11, 3) := by decide +kernel
theorem dX9_sizeOf_4 : decode cX9_sizeOf 4 = .ok (.aload_n 0, 1) := by decide +kernel
theorem dX9_sizeOf_5 : decode cX9_sizeOf 5 = .ok (.iload_n 1, 1) := by decide +kernel
theorem dX9_sizeOf_6 : decode cX9_sizeOf 6 = .ok (.invokevirtual 180, 3) := by decide +kernel
theorem dX9_sizeOf_9 : decode cX9_sizeOf 9 = .ok (.goto 8, 3) := by decide +kernel
theorem dX9_sizeOf_12 : decode cX9_sizeOf 12 = .ok (.aload_n 0, 1) := by decide +kernel
theorem dX9_sizeOf_13 : decode cX9_sizeOf 13 = .ok (.iload_n 1, 1) := by decide +kernel
theorem dX9_sizeOf_14 : decode cX9_sizeOf 14 = .ok (.invokevirtual 183, 3) := by decide +kernel
theorem dX9_sizeOf_17 : decode cX9_sizeOf 17 = .ok (.ireturn, 1) := by decide +kernel
theorem dX9_size_0 : decode cX9_size 0 = .ok (.aload_n 0, 1) := by decide +kernel
theorem dX9_size_1 : decode cX9_size 1 = .ok (.iload_n 1, 1) := by decide +kernel
theorem dX9_size_2 : decode cX9_size 2 = .ok (.invokevirtual 186, 3) := by decide +kernel
theorem dX9_size_5 : decode cX9_size 5 = .ok (.ifCond .eq 22, 3) := by decide +kernel
theorem dX9_size_8 : decode cX9_size 8 = .ok (.iload_n 2, 1) := by decide +kernel
theorem dX9_size_9 : decode cX9_size 9 = .ok (.i2l, 1) := by decide +kernel
theorem dX9_size_10 : decode cX9_size 10 = .ok (.lconst 0, 1) := by decide +kernel
theorem dX9_size_11 : decode cX9_size 11 = .ok (.lconst 1, 1) := by decide +kernel
theorem dX9_size_12 : decode cX9_size 12 = .ok (.invokestatic 92, 3) := by decide +kernel
theorem dX9_size_15 : decode cX9_size 15 = .ok (.ifCond .eq 12, 3) := by decide +kernel
theorem dX9_size_18 : decode cX9_size 18 = .ok (.aload_n 0, 1) := by decide +kernel
theorem dX9_size_19 : decode cX9_size 19 = .ok (.iload_n 1, 1) := by decide +kernel
theorem dX9_size_20 : decode cX9_size 20 = .ok (.iload_n 2, 1) := by decide +kernel
theorem dX9_size_21 : decode cX9_size 21 = .ok (.invokevirtual 189, 3) := by decide +kernel
theorem dX9_size_24 : decode cX9_size 24 = .ok (.goto 5, 3) := by decide +kernel
theorem dX9_size_27 : decode cX9_size 27 = .ok (.bipush (-102), 2) := by decide +kernel
theorem dX9_size_29 : decode cX9_size 29 = .ok (.ireturn, 1) := by decide +kernel
theorem dX9_pagesOf_0 : decode cX9_pagesOf 0 = .ok (.iconst 0, 1) := by decide +kernel
theorem dX9_pagesOf_1 : decode cX9_pagesOf 1 = .ok (.istore_n 3, 1) := by decide +kernel
theorem dX9_pagesOf_2 : decode cX9_pagesOf 2 = .ok (.iload_n 3, 1) := by decide +kernel
theorem dX9_pagesOf_3 : decode cX9_pagesOf 3 = .ok (.aload_n 0, 1) := by decide +kernel
theorem dX9_pagesOf_4 : decode cX9_pagesOf 4 = .ok (.getfield 89, 3) := by decide +kernel
theorem dX9_pagesOf_7 : decode cX9_pagesOf 7 = .ok (.if_icmp .ge 32, 3) := by decide +kernel
theorem dX9_pagesOf_10 : decode cX9_pagesOf 10 = .ok (.iload_n 1, 1) := by decide +kernel
theorem dX9_pagesOf_11 : decode cX9_pagesOf 11 = .ok (.iconst 1, 1) := by decide +kernel
theorem dX9_pagesOf_12 : decode cX9_pagesOf 12 = .ok (.iload_n 3, 1) := by decide +kernel
theorem dX9_pagesOf_13 : decode cX9_pagesOf 13 = .ok (.ishl, 1) := by decide +kernel
theorem dX9_pagesOf_14 : decode cX9_pagesOf 14 = .ok (.if_icmp .ne 19, 3) := by decide +kernel
theorem dX9_pagesOf_17 : decode cX9_pagesOf 17 = .ok (.aload_n 0, 1) := by decide +kernel
theorem dX9_pagesOf_18 : decode cX9_pagesOf 18 = .ok (.getfield 16, 3) := by decide +kernel
theorem dX9_pagesOf_21 : decode cX9_pagesOf 21 = .ok (.iload_n 3, 1) := by decide +kernel
theorem dX9_pagesOf_22 : decode cX9_pagesOf 22 = .ok (.iaload, 1) := by decide +kernel
theorem dX9_pagesOf_23 : decode cX9_pagesOf 23 = .ok (.aload_n 0, 1) := by decide +kernel
theorem dX9_pagesOf_24 : decode cX9_pagesOf 24 = .ok (.getfield 13, 3) := by decide +kernel
theorem dX9_pagesOf_27 : decode cX9_pagesOf 27 = .ok (.iload_n 3, 1) := by decide +kernel
theorem dX9_pagesOf_28 : decode cX9_pagesOf 28 = .ok (.iaload, 1) := by decide +kernel
theorem dX9_pagesOf_29 : decode cX9_pagesOf 29 = .ok (.invokestatic 143, 3) := by decide +kernel
theorem dX9_pagesOf_32 : decode cX9_pagesOf 32 = .ok (.ireturn, 1) := by decide +kernel
theorem dX9_pagesOf_33 : decode cX9_pagesOf 33 = .ok (.iinc 3 1, 3) := by decide +kernel
theorem dX9_pagesOf_36 : decode cX9_pagesOf 36 = .ok (.goto (-34), 3) := by decide +kernel
theorem dX9_pagesOf_39 : decode cX9_pagesOf 39 = .ok (.aload_n 0, 1) := by decide +kernel
theorem dX9_pagesOf_40 : decode cX9_pagesOf 40 = .ok (.iload_n 1, 1) := by decide +kernel
theorem dX9_pagesOf_41 : decode cX9_pagesOf 41 = .ok (.iload_n 2, 1) := by decide +kernel
theorem dX9_pagesOf_42 : decode cX9_pagesOf 42 = .ok (.invokevirtual 189, 3) := by decide +kernel
theorem dX9_pagesOf_45 : decode cX9_pagesOf 45 = .ok (.aload_n 0, 1) := by decide +kernel
theorem dX9_pagesOf_46 : decode cX9_pagesOf 46 = .ok (.getfield 82, 3) := by decide +kernel
theorem dX9_pagesOf_49 : decode cX9_pagesOf 49 = .ok (.invokestatic 143, 3) := by decide +kernel
theorem dX9_pagesOf_52 : decode cX9_pagesOf 52 = .ok (.ireturn, 1) := by decide +kernel
theorem dX9_pages_0 : decode cX9_pages 0 = .ok (.aload_n 0, 1) := by decide +kernel
theorem dX9_pages_1 : decode cX9_pages 1 = .ok (.iload_n 1, 1) := by decide +kernel
theorem dX9_pages_2 : decode cX9_pages 2 = .ok (.invokevirtual 186, 3) := by decide +kernel
theorem dX9_pages_5 : decode cX9_pages 5 = .ok (.ifCond .eq 22, 3) := by decide +kernel
theorem dX9_pages_8 : decode cX9_pages 8 = .ok (.iload_n 2, 1) := by decide +kernel
theorem dX9_pages_9 : decode cX9_pages 9 = .ok (.i2l, 1) := by decide +kernel
theorem dX9_pages_10 : decode cX9_pages 10 = .ok (.lconst 0, 1) := by decide +kernel
theorem dX9_pages_11 : decode cX9_pages 11 = .ok (.lconst 1, 1) := by decide +kernel
theorem dX9_pages_12 : decode cX9_pages 12 = .ok (.invokestatic 92, 3) := by decide +kernel
theorem dX9_pages_15 : decode cX9_pages 15 = .ok (.ifCond .eq 12, 3) := by decide +kernel
theorem dX9_pages_18 : decode cX9_pages 18 = .ok (.aload_n 0, 1) := by decide +kernel
theorem dX9_pages_19 : decode cX9_pages 19 = .ok (.iload_n 1, 1) := by decide +kernel
theorem dX9_pages_20 : decode cX9_pages 20 = .ok (.iload_n 2, 1) := by decide +kernel
theorem dX9_pages_21 : decode cX9_pages 21 = .ok (.invokevirtual 192, 3) := by decide +kernel
theorem dX9_pages_24 : decode cX9_pages 24 = .ok (.goto 5, 3) := by decide +kernel
theorem dX9_pages_27 : decode cX9_pages 27 = .ok (.bipush (-102), 2) := by decide +kernel
theorem dX9_pages_29 : decode cX9_pages 29 = .ok (.ireturn, 1) := by decide +kernel
theorem dX9_goTo_0 : decode cX9_goTo 0 = .ok (.iload_n 2, 1) := by decide +kernel
theorem dX9_goTo_1 : decode cX9_goTo 1 = .ok (.ifCond .ge 5, 3) := by decide +kernel
theorem dX9_goTo_4 : decode cX9_goTo 4 = .ok (.iconst 0, 1) := by decide +kernel
theorem dX9_goTo_5 : decode cX9_goTo 5 = .ok (.ireturn, 1) := by decide +kernel
theorem dX9_goTo_6 : decode cX9_goTo 6 = .ok (.aload_n 0, 1) := by decide +kernel
theorem dX9_goTo_7 : decode cX9_goTo 7 = .ok (.iload_n 1, 1) := by decide +kernel
theorem dX9_goTo_8 : decode cX9_goTo 8 = .ok (.invokevirtual 174, 3) := by decide +kernel
theorem dX9_goTo_11 : decode cX9_goTo 11 = .ok (.istore_n 3, 1) := by decide +kernel
theorem dX9_goTo_12 : decode cX9_goTo 12 = .ok (.iconst 0, 1) := by decide +kernel
theorem dX9_goTo_13 : decode cX9_goTo 13 = .ok (.istore 4, 2) := by decide +kernel
theorem dX9_goTo_15 : decode cX9_goTo 15 = .ok (.iload 4, 2) := by decide +kernel
theorem dX9_goTo_17 : decode cX9_goTo 17 = .ok (.iload_n 2, 1) := by decide +kernel
theorem dX9_goTo_18 : decode cX9_goTo 18 = .ok (.if_icmp .ge 24, 3) := by decide +kernel
theorem dX9_goTo_21 : decode cX9_goTo 21 = .ok (.iload_n 3, 1) := by decide +kernel
theorem dX9_goTo_22 : decode cX9_goTo 22 = .ok (.ifCond .eq 20, 3) := by decide +kernel
theorem dX9_goTo_25 : decode cX9_goTo 25 = .ok (.aload_n 0, 1) := by decide +kernel
theorem dX9_goTo_26 : decode cX9_goTo 26 = .ok (.aload_n 0, 1) := by decide +kernel
theorem dX9_goTo_27 : decode cX9_goTo 27 = .ok (.getfield 157, 3) := by decide +kernel
theorem dX9_goTo_30 : decode cX9_goTo 30 = .ok (.iconst 1, 1) := by decide +kernel
theorem dX9_goTo_31 : decode cX9_goTo 31 = .ok (.isub, 1) := by decide +kernel
theorem dX9_goTo_32 : decode cX9_goTo 32 = .ok (.invokevirtual 171, 3) := by decide +kernel
theorem dX9_goTo_35 : decode cX9_goTo 35 = .ok (.istore_n 3, 1) := by decide +kernel
theorem dX9_goTo_36 : decode cX9_goTo 36 = .ok (.iinc 4 1, 3) := by decide +kernel
theorem dX9_goTo_39 : decode cX9_goTo 39 = .ok (.goto (-24), 3) := by decide +kernel
theorem dX9_goTo_42 : decode cX9_goTo 42 = .ok (.iload_n 3, 1) := by decide +kernel
theorem dX9_goTo_43 : decode cX9_goTo 43 = .ok (.ireturn, 1) := by decide +kernel
theorem dX9_isIn_0 : decode cX9_isIn 0 = .ok (.aload_n 0, 1) := by decide +kernel
theorem dX9_isIn_1 : decode cX9_isIn 1 = .ok (.iload_n 2, 1) := by decide +kernel
theorem dX9_isIn_2 : decode cX9_isIn 2 = .ok (.invokevirtual 116, 3) := by decide +kernel
theorem dX9_isIn_5 : decode cX9_isIn 5 = .ok (.ifCond .eq 16, 3) := by decide +kernel
theorem dX9_isIn_8 : decode cX9_isIn 8 = .ok (.iload_n 1, 1) := by decide +kernel
theorem dX9_isIn_9 : decode cX9_isIn 9 = .ok (.iload_n 2, 1) := by decide +kernel
theorem dX9_isIn_10 : decode cX9_isIn 10 = .ok (.ishr, 1) := by decide +kernel
theorem dX9_isIn_11 : decode cX9_isIn 11 = .ok (.iconst 1, 1) := by decide +kernel
theorem dX9_isIn_12 : decode cX9_isIn 12 = .ok (.iand, 1) := by decide +kernel
theorem dX9_isIn_13 : decode cX9_isIn 13 = .ok (.iconst 1, 1) := by decide +kernel
theorem dX9_isIn_14 : decode cX9_isIn 14 = .ok (.if_icmp .ne 7, 3) := by decide +kernel
theorem dX9_isIn_17 : decode cX9_isIn 17 = .ok (.iconst 1, 1) := by decide +kernel
theorem dX9_isIn_18 : decode cX9_isIn 18 = .ok (.goto 4, 3) := by decide +kernel
theorem dX9_isIn_21 : decode cX9_isIn 21 = .ok (.iconst 0, 1) := by decide +kernel
theorem dX9_isIn_22 : decode cX9_isIn 22 = .ok (.ireturn, 1) := by decide +kernel
theorem dX9_joined_0 : decode cX9_joined 0 = .ok (.aload_n 0, 1) := by decide +kernel
theorem dX9_joined_1 : decode cX9_joined 1 = .ok (.iload_n 1, 1) := by decide +kernel
theorem dX9_joined_2 : decode cX9_joined 2 = .ok (.invokevirtual 186, 3) := by decide +kernel
theorem dX9_joined_5 : decode cX9_joined 5 = .ok (.ifCond .ne 6, 3) := by decide +kernel
theorem dX9_joined_8 : decode cX9_joined 8 = .ok (.bipush (-102), 2) := by decide +kernel
theorem dX9_joined_10 : decode cX9_joined 10 = .ok (.ireturn, 1) := by decide +kernel
theorem dX9_joined_11 : decode cX9_joined 11 = .ok (.aload_n 0, 1) := by decide +kernel
theorem dX9_joined_12 : decode cX9_joined 12 = .ok (.iload_n 1, 1) := by decide +kernel
theorem dX9_joined_13 : decode cX9_joined 13 = .ok (.iload_n 3, 1) := by decide +kernel
theorem dX9_joined_14 : decode cX9_joined 14 = .ok (.invokevirtual 195, 3) := by decide +kernel
theorem dX9_joined_17 : decode cX9_joined 17 = .ok (.ifCond .ne 6, 3) := by decide +kernel
theorem dX9_joined_20 : decode cX9_joined 20 = .ok (.bipush (-101), 2) := by decide +kernel
theorem dX9_joined_22 : decode cX9_joined 22 = .ok (.ireturn, 1) := by decide +kernel
theorem dX9_joined_23 : decode cX9_joined 23 = .ok (.aload_n 0, 1) := by decide +kernel
theorem dX9_joined_24 : decode cX9_joined 24 = .ok (.iload_n 1, 1) := by decide +kernel
theorem dX9_joined_25 : decode cX9_joined 25 = .ok (.iload_n 2, 1) := by decide +kernel
theorem dX9_joined_26 : decode cX9_joined 26 = .ok (.invokevirtual 198, 3) := by decide +kernel
theorem dX9_joined_29 : decode cX9_joined 29 = .ok (.ifCond .ne 5, 3) := by decide +kernel
theorem dX9_joined_32 : decode cX9_joined 32 = .ok (.iconst (-1), 1) := by decide +kernel
theorem dX9_joined_33 : decode cX9_joined 33 = .ok (.ireturn, 1) := by decide +kernel
theorem dX9_joined_34 : decode cX9_joined 34 = .ok (.iconst 0, 1) := by decide +kernel
theorem dX9_joined_35 : decode cX9_joined 35 = .ok (.istore 4, 2) := by decide +kernel
theorem dX9_joined_37 : decode cX9_joined 37 = .ok (.aload_n 0, 1) := by decide +kernel
theorem dX9_joined_38 : decode cX9_joined 38 = .ok (.getfield 34, 3) := by decide +kernel
theorem dX9_joined_41 : decode cX9_joined 41 = .ok (.iload 4, 2) := by decide +kernel
theorem dX9_joined_43 : decode cX9_joined 43 = .ok (.iaload, 1) := by decide +kernel
theorem dX9_joined_44 : decode cX9_joined 44 = .ok (.iload_n 3, 1) := by decide +kernel
theorem dX9_joined_45 : decode cX9_joined 45 = .ok (.if_icmp .eq 9, 3) := by decide +kernel
theorem dX9_joined_48 : decode cX9_joined 48 = .ok (.iinc 4 1, 3) := by decide +kernel
theorem dX9_joined_51 : decode cX9_joined 51 = .ok (.goto (-14), 3) := by decide +kernel
theorem dX9_joined_54 : decode cX9_joined 54 = .ok (.aload_n 0, 1) := by decide +kernel
theorem dX9_joined_55 : decode cX9_joined 55 = .ok (.getfield 37, 3) := by decide +kernel
theorem dX9_joined_58 : decode cX9_joined 58 = .ok (.iload 4, 2) := by decide +kernel
theorem dX9_joined_60 : decode cX9_joined 60 = .ok (.iaload, 1) := by decide +kernel
theorem dX9_joined_61 : decode cX9_joined 61 = .ok (.ireturn, 1) := by decide +kernel
theorem dX9_value_0 : decode cX9_value 0 = .ok (.aload_n 0, 1) := by decide +kernel
theorem dX9_value_1 : decode cX9_value 1 = .ok (.iload_n 1, 1) := by decide +kernel
theorem dX9_value_2 : decode cX9_value 2 = .ok (.invokevirtual 186, 3) := by decide +kernel
theorem dX9_value_5 : decode cX9_value 5 = .ok (.ifCond .ne 6, 3) := by decide +kernel
theorem dX9_value_8 : decode cX9_value 8 = .ok (.bipush (-102), 2) := by decide +kernel
theorem dX9_value_10 : decode cX9_value 10 = .ok (.ireturn, 1) := by decide +kernel
theorem dX9_value_11 : decode cX9_value 11 = .ok (.iload_n 3, 1) := by decide +kernel
theorem dX9_value_12 : decode cX9_value 12 = .ok (.i2l, 1) := by decide +kernel
theorem dX9_value_13 : decode cX9_value 13 = .ok (.lconst 0, 1) := by decide +kernel
theorem dX9_value_14 : decode cX9_value 14 = .ok (.ldc2_w 141, 3) := by decide +kernel
theorem dX9_value_17 : decode cX9_value 17 = .ok (.invokestatic 92, 3) := by decide +kernel
theorem dX9_value_20 : decode cX9_value 20 = .ok (.ifCond .ne 6, 3) := by decide +kernel
theorem dX9_value_23 : decode cX9_value 23 = .ok (.bipush (-101), 2) := by decide +kernel
theorem dX9_value_25 : decode cX9_value 25 = .ok (.ireturn, 1) := by decide +kernel
theorem dX9_value_26 : decode cX9_value 26 = .ok (.aload_n 0, 1) := by decide +kernel
theorem dX9_value_27 : decode cX9_value 27 = .ok (.iload_n 1, 1) := by decide +kernel
theorem dX9_value_28 : decode cX9_value 28 = .ok (.iload_n 2, 1) := by decide +kernel
theorem dX9_value_29 : decode cX9_value 29 = .ok (.invokevirtual 198, 3) := by decide +kernel
theorem dX9_value_32 : decode cX9_value 32 = .ok (.ifCond .ne 5, 3) := by decide +kernel
theorem dX9_value_35 : decode cX9_value 35 = .ok (.iconst (-1), 1) := by decide +kernel
theorem dX9_value_36 : decode cX9_value 36 = .ok (.ireturn, 1) := by decide +kernel
theorem dX9_value_37 : decode cX9_value 37 = .ok (.iconst 0, 1) := by decide +kernel
theorem dX9_value_38 : decode cX9_value 38 = .ok (.istore 4, 2) := by decide +kernel
theorem dX9_value_40 : decode cX9_value 40 = .ok (.iload 4, 2) := by decide +kernel
theorem dX9_value_42 : decode cX9_value 42 = .ok (.aload_n 0, 1) := by decide +kernel
theorem dX9_value_43 : decode cX9_value 43 = .ok (.getfield 157, 3) := by decide +kernel
theorem dX9_value_46 : decode cX9_value 46 = .ok (.if_icmp .ge 53, 3) := by decide +kernel
theorem dX9_value_49 : decode cX9_value 49 = .ok (.aload_n 0, 1) := by decide +kernel
theorem dX9_value_50 : decode cX9_value 50 = .ok (.aload_n 0, 1) := by decide +kernel
theorem dX9_value_51 : decode cX9_value 51 = .ok (.getfield 34, 3) := by decide +kernel
theorem dX9_value_54 : decode cX9_value 54 = .ok (.iload 4, 2) := by decide +kernel
theorem dX9_value_56 : decode cX9_value 56 = .ok (.iaload, 1) := by decide +kernel
theorem dX9_value_57 : decode cX9_value 57 = .ok (.iload_n 3, 1) := by decide +kernel
theorem dX9_value_58 : decode cX9_value 58 = .ok (.invokevirtual 108, 3) := by decide +kernel
theorem dX9_value_61 : decode cX9_value 61 = .ok (.ifCond .eq 32, 3) := by decide +kernel
theorem dX9_value_64 : decode cX9_value 64 = .ok (.aload_n 0, 1) := by decide +kernel
theorem dX9_value_65 : decode cX9_value 65 = .ok (.getfield 19, 3) := by decide +kernel
theorem dX9_value_68 : decode cX9_value 68 = .ok (.bipush 64, 2) := by decide +kernel
theorem dX9_value_70 : decode cX9_value 70 = .ok (.aload_n 0, 1) := by decide +kernel
theorem dX9_value_71 : decode cX9_value 71 = .ok (.getfield 34, 3) := by decide +kernel
theorem dX9_value_74 : decode cX9_value 74 = .ok (.iload 4, 2) := by decide +kernel
theorem dX9_value_76 : decode cX9_value 76 = .ok (.iaload, 1) := by decide +kernel
theorem dX9_value_77 : decode cX9_value 77 = .ok (.imul, 1) := by decide +kernel
theorem dX9_value_78 : decode cX9_value 78 = .ok (.bipush 8, 2) := by decide +kernel
theorem dX9_value_80 : decode cX9_value 80 = .ok (.aload_n 0, 1) := by decide +kernel
theorem dX9_value_81 : decode cX9_value 81 = .ok (.getfield 37, 3) := by decide +kernel
theorem dX9_value_84 : decode cX9_value 84 = .ok (.iload 4, 2) := by decide +kernel
theorem dX9_value_86 : decode cX9_value 86 = .ok (.iaload, 1) := by decide +kernel
theorem dX9_value_87 : decode cX9_value 87 = .ok (.imul, 1) := by decide +kernel
theorem dX9_value_88 : decode cX9_value 88 = .ok (.iadd, 1) := by decide +kernel
theorem dX9_value_89 : decode cX9_value 89 = .ok (.iload_n 3, 1) := by decide +kernel
theorem dX9_value_90 : decode cX9_value 90 = .ok (.iadd, 1) := by decide +kernel
theorem dX9_value_91 : decode cX9_value 91 = .ok (.iaload, 1) := by decide +kernel
theorem dX9_value_92 : decode cX9_value 92 = .ok (.ireturn, 1) := by decide +kernel
theorem dX9_value_93 : decode cX9_value 93 = .ok (.iinc 4 1, 3) := by decide +kernel
theorem dX9_value_96 : decode cX9_value 96 = .ok (.goto (-56), 3) := by decide +kernel
theorem dX9_value_99 : decode cX9_value 99 = .ok (.iconst (-1), 1) := by decide +kernel
theorem dX9_value_100 : decode cX9_value 100 = .ok (.ireturn, 1) := by decide +kernel
theorem dX9_idle_0 : decode cX9_idle 0 = .ok (.aload_n 0, 1) := by decide +kernel
theorem dX9_idle_1 : decode cX9_idle 1 = .ok (.iload_n 1, 1) := by decide +kernel
theorem dX9_idle_2 : decode cX9_idle 2 = .ok (.invokevirtual 186, 3) := by decide +kernel
theorem dX9_idle_5 : decode cX9_idle 5 = .ok (.ifCond .ne 6, 3) := by decide +kernel
theorem dX9_idle_8 : decode cX9_idle 8 = .ok (.bipush (-102), 2) := by decide +kernel
theorem dX9_idle_10 : decode cX9_idle 10 = .ok (.ireturn, 1) := by decide +kernel
theorem dX9_idle_11 : decode cX9_idle 11 = .ok (.aload_n 0, 1) := by decide +kernel
theorem dX9_idle_12 : decode cX9_idle 12 = .ok (.iload_n 1, 1) := by decide +kernel
theorem dX9_idle_13 : decode cX9_idle 13 = .ok (.iload_n 2, 1) := by decide +kernel
theorem dX9_idle_14 : decode cX9_idle 14 = .ok (.invokevirtual 195, 3) := by decide +kernel
theorem dX9_idle_17 : decode cX9_idle 17 = .ok (.ifCond .ne 6, 3) := by decide +kernel
theorem dX9_idle_20 : decode cX9_idle 20 = .ok (.bipush (-101), 2) := by decide +kernel
theorem dX9_idle_22 : decode cX9_idle 22 = .ok (.ireturn, 1) := by decide +kernel
theorem dX9_idle_23 : decode cX9_idle 23 = .ok (.iconst 0, 1) := by decide +kernel
theorem dX9_idle_24 : decode cX9_idle 24 = .ok (.istore_n 3, 1) := by decide +kernel
theorem dX9_idle_25 : decode cX9_idle 25 = .ok (.aload_n 0, 1) := by decide +kernel
theorem dX9_idle_26 : decode cX9_idle 26 = .ok (.iload_n 1, 1) := by decide +kernel
theorem dX9_idle_27 : decode cX9_idle 27 = .ok (.invokevirtual 174, 3) := by decide +kernel
theorem dX9_idle_30 : decode cX9_idle 30 = .ok (.istore 4, 2) := by decide +kernel
theorem dX9_idle_32 : decode cX9_idle 32 = .ok (.iconst 0, 1) := by decide +kernel
theorem dX9_idle_33 : decode cX9_idle 33 = .ok (.istore 5, 2) := by decide +kernel
theorem dX9_idle_35 : decode cX9_idle 35 = .ok (.aload_n 0, 1) := by decide +kernel
theorem dX9_idle_36 : decode cX9_idle 36 = .ok (.getfield 34, 3) := by decide +kernel
theorem dX9_idle_39 : decode cX9_idle 39 = .ok (.iload 5, 2) := by decide +kernel
theorem dX9_idle_41 : decode cX9_idle 41 = .ok (.iaload, 1) := by decide +kernel
theorem dX9_idle_42 : decode cX9_idle 42 = .ok (.iload_n 2, 1) := by decide +kernel
theorem dX9_idle_43 : decode cX9_idle 43 = .ok (.if_icmp .eq 9, 3) := by decide +kernel
theorem dX9_idle_46 : decode cX9_idle 46 = .ok (.iinc 5 1, 3) := by decide +kernel
theorem dX9_idle_49 : decode cX9_idle 49 = .ok (.goto (-14), 3) := by decide +kernel
theorem dX9_idle_52 : decode cX9_idle 52 = .ok (.iload 4, 2) := by decide +kernel
theorem dX9_idle_54 : decode cX9_idle 54 = .ok (.ifCond .eq 44, 3) := by decide +kernel
theorem dX9_idle_57 : decode cX9_idle 57 = .ok (.iload_n 3, 1) := by decide +kernel
theorem dX9_idle_58 : decode cX9_idle 58 = .ok (.iconst 1, 1) := by decide +kernel
theorem dX9_idle_59 : decode cX9_idle 59 = .ok (.aload_n 0, 1) := by decide +kernel
theorem dX9_idle_60 : decode cX9_idle 60 = .ok (.getfield 16, 3) := by decide +kernel
theorem dX9_idle_63 : decode cX9_idle 63 = .ok (.iload_n 2, 1) := by decide +kernel
theorem dX9_idle_64 : decode cX9_idle 64 = .ok (.iaload, 1) := by decide +kernel
theorem dX9_idle_65 : decode cX9_idle 65 = .ok (.ishl, 1) := by decide +kernel
theorem dX9_idle_66 : decode cX9_idle 66 = .ok (.iconst 1, 1) := by decide +kernel
theorem dX9_idle_67 : decode cX9_idle 67 = .ok (.isub, 1) := by decide +kernel
theorem dX9_idle_68 : decode cX9_idle 68 = .ok (.if_icmp .ge 30, 3) := by decide +kernel
theorem dX9_idle_71 : decode cX9_idle 71 = .ok (.iload_n 3, 1) := by decide +kernel
theorem dX9_idle_72 : decode cX9_idle 72 = .ok (.iconst 1, 1) := by decide +kernel
theorem dX9_idle_73 : decode cX9_idle 73 = .ok (.aload_n 0, 1) := by decide +kernel
theorem dX9_idle_74 : decode cX9_idle 74 = .ok (.getfield 37, 3) := by decide +kernel
theorem dX9_idle_77 : decode cX9_idle 77 = .ok (.iload 5, 2) := by decide +kernel
theorem dX9_idle_79 : decode cX9_idle 79 = .ok (.iaload, 1) := by decide +kernel
theorem dX9_idle_80 : decode cX9_idle 80 = .ok (.ishl, 1) := by decide +kernel
theorem dX9_idle_81 : decode cX9_idle 81 = .ok (.ior, 1) := by decide +kernel
theorem dX9_idle_82 : decode cX9_idle 82 = .ok (.istore_n 3, 1) := by decide +kernel
theorem dX9_idle_83 : decode cX9_idle 83 = .ok (.aload_n 0, 1) := by decide +kernel
theorem dX9_idle_84 : decode cX9_idle 84 = .ok (.aload_n 0, 1) := by decide +kernel
theorem dX9_idle_85 : decode cX9_idle 85 = .ok (.getfield 157, 3) := by decide +kernel
theorem dX9_idle_88 : decode cX9_idle 88 = .ok (.iconst 1, 1) := by decide +kernel
theorem dX9_idle_89 : decode cX9_idle 89 = .ok (.isub, 1) := by decide +kernel
theorem dX9_idle_90 : decode cX9_idle 90 = .ok (.invokevirtual 171, 3) := by decide +kernel
theorem dX9_idle_93 : decode cX9_idle 93 = .ok (.istore 4, 2) := by decide +kernel
theorem dX9_idle_95 : decode cX9_idle 95 = .ok (.goto (-43), 3) := by decide +kernel
theorem dX9_idle_98 : decode cX9_idle 98 = .ok (.aload_n 0, 1) := by decide +kernel
theorem dX9_idle_99 : decode cX9_idle 99 = .ok (.getfield 16, 3) := by decide +kernel
theorem dX9_idle_102 : decode cX9_idle 102 = .ok (.iload_n 2, 1) := by decide +kernel
theorem dX9_idle_103 : decode cX9_idle 103 = .ok (.iaload, 1) := by decide +kernel
theorem dX9_idle_104 : decode cX9_idle 104 = .ok (.iload_n 3, 1) := by decide +kernel
theorem dX9_idle_105 : decode cX9_idle 105 = .ok (.invokestatic 98, 3) := by decide +kernel
theorem dX9_idle_108 : decode cX9_idle 108 = .ok (.isub, 1) := by decide +kernel
theorem dX9_idle_109 : decode cX9_idle 109 = .ok (.ireturn, 1) := by decide +kernel
theorem dX9_letters_0 : decode cX9_letters 0 = .ok (.iconst 0, 1) := by decide +kernel
theorem dX9_letters_1 : decode cX9_letters 1 = .ok (.istore_n 3, 1) := by decide +kernel
theorem dX9_letters_2 : decode cX9_letters 2 = .ok (.iconst 1, 1) := by decide +kernel
theorem dX9_letters_3 : decode cX9_letters 3 = .ok (.istore 4, 2) := by decide +kernel
theorem dX9_letters_5 : decode cX9_letters 5 = .ok (.lload_n 1, 1) := by decide +kernel
theorem dX9_letters_6 : decode cX9_letters 6 = .ok (.lstore 5, 2) := by decide +kernel
theorem dX9_letters_8 : decode cX9_letters 8 = .ok (.iconst 0, 1) := by decide +kernel
theorem dX9_letters_9 : decode cX9_letters 9 = .ok (.istore 7, 2) := by decide +kernel
theorem dX9_letters_11 : decode cX9_letters 11 = .ok (.iload 7, 2) := by decide +kernel
theorem dX9_letters_13 : decode cX9_letters 13 = .ok (.bipush 8, 2) := by decide +kernel
theorem dX9_letters_15 : decode cX9_letters 15 = .ok (.if_icmp .ge 68, 3) := by decide +kernel
theorem dX9_letters_18 : decode cX9_letters 18 = .ok (.lload 5, 2) := by decide +kernel
theorem dX9_letters_20 : decode cX9_letters 20 = .ok (.ldc2_w 96, 3) := by decide +kernel
theorem dX9_letters_23 : decode cX9_letters 23 = .ok (.land, 1) := by decide +kernel
theorem dX9_letters_24 : decode cX9_letters 24 = .ok (.l2i, 1) := by decide +kernel
theorem dX9_letters_25 : decode cX9_letters 25 = .ok (.istore 8, 2) := by decide +kernel
theorem dX9_letters_27 : decode cX9_letters 27 = .ok (.lload 5, 2) := by decide +kernel
theorem dX9_letters_29 : decode cX9_letters 29 = .ok (.bipush 8, 2) := by decide +kernel
theorem dX9_letters_31 : decode cX9_letters 31 = .ok (.lushr, 1) := by decide +kernel
theorem dX9_letters_32 : decode cX9_letters 32 = .ok (.lstore 5, 2) := by decide +kernel
theorem dX9_letters_34 : decode cX9_letters 34 = .ok (.iload 4, 2) := by decide +kernel
theorem dX9_letters_36 : decode cX9_letters 36 = .ok (.ifCond .eq 25, 3) := by decide +kernel
theorem dX9_letters_39 : decode cX9_letters 39 = .ok (.iload 8, 2) := by decide +kernel
theorem dX9_letters_41 : decode cX9_letters 41 = .ok (.bipush 126, 2) := by decide +kernel
theorem dX9_letters_43 : decode cX9_letters 43 = .ok (.if_icmp .gt 18, 3) := by decide +kernel
theorem dX9_letters_46 : decode cX9_letters 46 = .ok (.iload 8, 2) := by decide +kernel
theorem dX9_letters_48 : decode cX9_letters 48 = .ok (.ifCond .eq 9, 3) := by decide +kernel
theorem dX9_letters_51 : decode cX9_letters 51 = .ok (.iload_n 3, 1) := by decide +kernel
theorem dX9_letters_52 : decode cX9_letters 52 = .ok (.iload 7, 2) := by decide +kernel
theorem dX9_letters_54 : decode cX9_letters 54 = .ok (.if_icmp .ne 7, 3) := by decide +kernel
theorem dX9_letters_57 : decode cX9_letters 57 = .ok (.iconst 1, 1) := by decide +kernel
theorem dX9_letters_58 : decode cX9_letters 58 = .ok (.goto 4, 3) := by decide +kernel
theorem dX9_letters_61 : decode cX9_letters 61 = .ok (.iconst 0, 1) := by decide +kernel
theorem dX9_letters_62 : decode cX9_letters 62 = .ok (.istore 4, 2) := by decide +kernel
theorem dX9_letters_64 : decode cX9_letters 64 = .ok (.iload_n 3, 1) := by decide +kernel
theorem dX9_letters_65 : decode cX9_letters 65 = .ok (.iload 8, 2) := by decide +kernel
theorem dX9_letters_67 : decode cX9_letters 67 = .ok (.ifCond .le 7, 3) := by decide +kernel
theorem dX9_letters_70 : decode cX9_letters 70 = .ok (.iconst 1, 1) := by decide +kernel
theorem dX9_letters_71 : decode cX9_letters 71 = .ok (.goto 4, 3) := by decide +kernel
theorem dX9_letters_74 : decode cX9_letters 74 = .ok (.iconst 0, 1) := by decide +kernel
theorem dX9_letters_75 : decode cX9_letters 75 = .ok (.iadd, 1) := by decide +kernel
theorem dX9_letters_76 : decode cX9_letters 76 = .ok (.istore_n 3, 1) := by decide +kernel
theorem dX9_letters_77 : decode cX9_letters 77 = .ok (.iinc 7 1, 3) := by decide +kernel
theorem dX9_letters_80 : decode cX9_letters 80 = .ok (.goto (-69), 3) := by decide +kernel
theorem dX9_letters_83 : decode cX9_letters 83 = .ok (.iload 4, 2) := by decide +kernel
theorem dX9_letters_85 : decode cX9_letters 85 = .ok (.ifCond .ne 6, 3) := by decide +kernel
theorem dX9_letters_88 : decode cX9_letters 88 = .ok (.bipush (-102), 2) := by decide +kernel
theorem dX9_letters_90 : decode cX9_letters 90 = .ok (.ireturn, 1) := by decide +kernel
theorem dX9_letters_91 : decode cX9_letters 91 = .ok (.aload_n 0, 1) := by decide +kernel
theorem dX9_letters_92 : decode cX9_letters 92 = .ok (.getfield 201, 3) := by decide +kernel
theorem dX9_letters_95 : decode cX9_letters 95 = .ok (.iload_n 3, 1) := by decide +kernel
theorem dX9_letters_96 : decode cX9_letters 96 = .ok (.iadd, 1) := by decide +kernel
theorem dX9_letters_97 : decode cX9_letters 97 = .ok (.bipush 40, 2) := by decide +kernel
theorem dX9_letters_99 : decode cX9_letters 99 = .ok (.if_icmp .le 6, 3) := by decide +kernel
theorem dX9_letters_102 : decode cX9_letters 102 = .ok (.bipush (-104), 2) := by decide +kernel
theorem dX9_letters_104 : decode cX9_letters 104 = .ok (.ireturn, 1) := by decide +kernel
theorem dX9_letters_105 : decode cX9_letters 105 = .ok (.iconst 0, 1) := by decide +kernel
theorem dX9_letters_106 : decode cX9_letters 106 = .ok (.istore 7, 2) := by decide +kernel
theorem dX9_letters_108 : decode cX9_letters 108 = .ok (.iload 7, 2) := by decide +kernel
theorem dX9_letters_110 : decode cX9_letters 110 = .ok (.iload_n 3, 1) := by decide +kernel
theorem dX9_letters_111 : decode cX9_letters 111 = .ok (.if_icmp .ge 40, 3) := by decide +kernel
theorem dX9_letters_114 : decode cX9_letters 114 = .ok (.aload_n 0, 1) := by decide +kernel
theorem dX9_letters_115 : decode cX9_letters 115 = .ok (.getfield 40, 3) := by decide +kernel
theorem dX9_letters_118 : decode cX9_letters 118 = .ok (.aload_n 0, 1) := by decide +kernel
theorem dX9_letters_119 : decode cX9_letters 119 = .ok (.getfield 201, 3) := by decide +kernel
theorem dX9_letters_122 : decode cX9_letters 122 = .ok (.lload_n 1, 1) := by decide +kernel
theorem dX9_letters_123 : decode cX9_letters 123 = .ok (.bipush 8, 2) := by decide +kernel
theorem dX9_letters_125 : decode cX9_letters 125 = .ok (.iload 7, 2) := by decide +kernel
theorem dX9_letters_127 : decode cX9_letters 127 = .ok (.imul, 1) := by decide +kernel
theorem dX9_letters_128 : decode cX9_letters 128 = .ok (.lushr, 1) := by decide +kernel
theorem dX9_letters_129 : decode cX9_letters 129 = .ok (.ldc2_w 96, 3) := by decide +kernel
theorem dX9_letters_132 : decode cX9_letters 132 = .ok (.land, 1) := by decide +kernel
theorem dX9_letters_133 : decode cX9_letters 133 = .ok (.l2i, 1) := by decide +kernel
theorem dX9_letters_134 : decode cX9_letters 134 = .ok (.iastore, 1) := by decide +kernel
theorem dX9_letters_135 : decode cX9_letters 135 = .ok (.aload_n 0, 1) := by decide +kernel
theorem dX9_letters_136 : decode cX9_letters 136 = .ok (.dup, 1) := by decide +kernel
theorem dX9_letters_137 : decode cX9_letters 137 = .ok (.getfield 201, 3) := by decide +kernel
theorem dX9_letters_140 : decode cX9_letters 140 = .ok (.iconst 1, 1) := by decide +kernel
theorem dX9_letters_141 : decode cX9_letters 141 = .ok (.iadd, 1) := by decide +kernel
theorem dX9_letters_142 : decode cX9_letters 142 = .ok (.putfield 201, 3) := by decide +kernel
theorem dX9_letters_145 : decode cX9_letters 145 = .ok (.iinc 7 1, 3) := by decide +kernel
theorem dX9_letters_148 : decode cX9_letters 148 = .ok (.goto (-40), 3) := by decide +kernel
theorem dX9_letters_151 : decode cX9_letters 151 = .ok (.aload_n 0, 1) := by decide +kernel
theorem dX9_letters_152 : decode cX9_letters 152 = .ok (.getfield 201, 3) := by decide +kernel
theorem dX9_letters_155 : decode cX9_letters 155 = .ok (.ireturn, 1) := by decide +kernel
theorem dX9_blank_0 : decode cX9_blank 0 = .ok (.aload_n 0, 1) := by decide +kernel
theorem dX9_blank_1 : decode cX9_blank 1 = .ok (.getfield 201, 3) := by decide +kernel
theorem dX9_blank_4 : decode cX9_blank 4 = .ok (.istore_n 1, 1) := by decide +kernel
theorem dX9_blank_5 : decode cX9_blank 5 = .ok (.aload_n 0, 1) := by decide +kernel
theorem dX9_blank_6 : decode cX9_blank 6 = .ok (.iconst 0, 1) := by decide +kernel
theorem dX9_blank_7 : decode cX9_blank 7 = .ok (.putfield 201, 3) := by decide +kernel
theorem dX9_blank_10 : decode cX9_blank 10 = .ok (.iload_n 1, 1) := by decide +kernel
theorem dX9_blank_11 : decode cX9_blank 11 = .ok (.ireturn, 1) := by decide +kernel
theorem dX9_endPlan_0 : decode cX9_endPlan 0 = .ok (.aload_n 0, 1) := by decide +kernel
theorem dX9_endPlan_1 : decode cX9_endPlan 1 = .ok (.getfield 204, 3) := by decide +kernel
theorem dX9_endPlan_4 : decode cX9_endPlan 4 = .ok (.ifCond .ne 11, 3) := by decide +kernel
theorem dX9_endPlan_7 : decode cX9_endPlan 7 = .ok (.aload_n 0, 1) := by decide +kernel
theorem dX9_endPlan_8 : decode cX9_endPlan 8 = .ok (.iconst 1, 1) := by decide +kernel
theorem dX9_endPlan_9 : decode cX9_endPlan 9 = .ok (.putfield 207, 3) := by decide +kernel
theorem dX9_endPlan_12 : decode cX9_endPlan 12 = .ok (.goto 18, 3) := by decide +kernel
theorem dX9_endPlan_15 : decode cX9_endPlan 15 = .ok (.aload_n 0, 1) := by decide +kernel
theorem dX9_endPlan_16 : decode cX9_endPlan 16 = .ok (.getfield 43, 3) := by decide +kernel
theorem dX9_endPlan_19 : decode cX9_endPlan 19 = .ok (.aload_n 0, 1) := by decide +kernel
theorem dX9_endPlan_20 : decode cX9_endPlan 20 = .ok (.getfield 204, 3) := by decide +kernel
theorem dX9_endPlan_23 : decode cX9_endPlan 23 = .ok (.iconst 1, 1) := by decide +kernel
theorem dX9_endPlan_24 : decode cX9_endPlan 24 = .ok (.isub, 1) := by decide +kernel
theorem dX9_endPlan_25 : decode cX9_endPlan 25 = .ok (.dup2, 1) := by decide +kernel
theorem dX9_endPlan_26 : decode cX9_endPlan 26 = .ok (.iaload, 1) := by decide +kernel
theorem dX9_endPlan_27 : decode cX9_endPlan 27 = .ok (.iconst 1, 1) := by decide +kernel
theorem dX9_endPlan_28 : decode cX9_endPlan 28 = .ok (.iadd, 1) := by decide +kernel
theorem dX9_endPlan_29 : decode cX9_endPlan 29 = .ok (.iastore, 1) := by decide +kernel
theorem dX9_endPlan_30 : decode cX9_endPlan 30 = .ok (.return_, 1) := by decide +kernel
theorem dX9_go_0 : decode cX9_go 0 = .ok (.aload_n 0, 1) := by decide +kernel
theorem dX9_go_1 : decode cX9_go 1 = .ok (.getfield 207, 3) := by decide +kernel
theorem dX9_go_4 : decode cX9_go 4 = .ok (.ifCond .ne 43, 3) := by decide +kernel
theorem dX9_go_7 : decode cX9_go 7 = .ok (.aload_n 0, 1) := by decide +kernel
theorem dX9_go_8 : decode cX9_go 8 = .ok (.getfield 204, 3) := by decide +kernel
theorem dX9_go_11 : decode cX9_go 11 = .ok (.ifCond .eq 32, 3) := by decide +kernel
theorem dX9_go_14 : decode cX9_go 14 = .ok (.aload_n 0, 1) := by decide +kernel
theorem dX9_go_15 : decode cX9_go 15 = .ok (.getfield 43, 3) := by decide +kernel
theorem dX9_go_18 : decode cX9_go 18 = .ok (.aload_n 0, 1) := by decide +kernel
theorem dX9_go_19 : decode cX9_go 19 = .ok (.getfield 204, 3) := by decide +kernel
theorem dX9_go_22 : decode cX9_go 22 = .ok (.iconst 1, 1) := by decide +kernel
theorem dX9_go_23 : decode cX9_go 23 = .ok (.isub, 1) := by decide +kernel
theorem dX9_go_24 : decode cX9_go 24 = .ok (.iaload, 1) := by decide +kernel
theorem dX9_go_25 : decode cX9_go 25 = .ok (.ifCond .eq 18, 3) := by decide +kernel
theorem dX9_go_28 : decode cX9_go 28 = .ok (.aload_n 0, 1) := by decide +kernel
theorem dX9_go_29 : decode cX9_go 29 = .ok (.getfield 43, 3) := by decide +kernel
theorem dX9_go_32 : decode cX9_go 32 = .ok (.aload_n 0, 1) := by decide +kernel
theorem dX9_go_33 : decode cX9_go 33 = .ok (.getfield 204, 3) := by decide +kernel
theorem dX9_go_36 : decode cX9_go 36 = .ok (.iconst 1, 1) := by decide +kernel
theorem dX9_go_37 : decode cX9_go 37 = .ok (.isub, 1) := by decide +kernel
theorem dX9_go_38 : decode cX9_go 38 = .ok (.iaload, 1) := by decide +kernel
theorem dX9_go_39 : decode cX9_go 39 = .ok (.iconst 2, 1) := by decide +kernel
theorem dX9_go_40 : decode cX9_go 40 = .ok (.if_icmp .ne 7, 3) := by decide +kernel
theorem dX9_go_43 : decode cX9_go 43 = .ok (.iconst 1, 1) := by decide +kernel
theorem dX9_go_44 : decode cX9_go 44 = .ok (.goto 4, 3) := by decide +kernel
theorem dX9_go_47 : decode cX9_go 47 = .ok (.iconst 0, 1) := by decide +kernel
theorem dX9_go_48 : decode cX9_go 48 = .ok (.istore_n 2, 1) := by decide +kernel
theorem dX9_go_49 : decode cX9_go 49 = .ok (.iload_n 2, 1) := by decide +kernel
theorem dX9_go_50 : decode cX9_go 50 = .ok (.ifCond .eq 72, 3) := by decide +kernel
theorem dX9_go_53 : decode cX9_go 53 = .ok (.iload_n 1, 1) := by decide +kernel
theorem dX9_go_54 : decode cX9_go 54 = .ok (.i2l, 1) := by decide +kernel
theorem dX9_go_55 : decode cX9_go 55 = .ok (.ldc2_w 210, 3) := by decide +kernel
theorem dX9_go_58 : decode cX9_go 58 = .ok (.ldc2_w 212, 3) := by decide +kernel
theorem dX9_go_61 : decode cX9_go 61 = .ok (.invokestatic 92, 3) := by decide +kernel
theorem dX9_go_64 : decode cX9_go 64 = .ok (.ifCond .eq 58, 3) := by decide +kernel
theorem dX9_go_67 : decode cX9_go 67 = .ok (.iload_n 1, 1) := by decide +kernel
theorem dX9_go_68 : decode cX9_go 68 = .ok (.bipush 48, 2) := by decide +kernel
theorem dX9_go_70 : decode cX9_go 70 = .ok (.isub, 1) := by decide +kernel
theorem dX9_go_71 : decode cX9_go 71 = .ok (.istore_n 3, 1) := by decide +kernel
theorem dX9_go_72 : decode cX9_go 72 = .ok (.aload_n 0, 1) := by decide +kernel
theorem dX9_go_73 : decode cX9_go 73 = .ok (.iload_n 3, 1) := by decide +kernel
theorem dX9_go_74 : decode cX9_go 74 = .ok (.invokevirtual 116, 3) := by decide +kernel
theorem dX9_go_77 : decode cX9_go 77 = .ok (.ifCond .eq 15, 3) := by decide +kernel
theorem dX9_go_80 : decode cX9_go 80 = .ok (.aload_n 0, 1) := by decide +kernel
theorem dX9_go_81 : decode cX9_go 81 = .ok (.getfield 214, 3) := by decide +kernel
theorem dX9_go_84 : decode cX9_go 84 = .ok (.iload_n 3, 1) := by decide +kernel
theorem dX9_go_85 : decode cX9_go 85 = .ok (.ishr, 1) := by decide +kernel
theorem dX9_go_86 : decode cX9_go 86 = .ok (.iconst 1, 1) := by decide +kernel
theorem dX9_go_87 : decode cX9_go 87 = .ok (.iand, 1) := by decide +kernel
theorem dX9_go_88 : decode cX9_go 88 = .ok (.iconst 1, 1) := by decide +kernel
theorem dX9_go_89 : decode cX9_go 89 = .ok (.if_icmp .ne 5, 3) := by decide +kernel
theorem dX9_go_92 : decode cX9_go 92 = .ok (.iconst 0, 1) := by decide +kernel
theorem dX9_go_93 : decode cX9_go 93 = .ok (.ireturn, 1) := by decide +kernel
theorem dX9_go_94 : decode cX9_go 94 = .ok (.aload_n 0, 1) := by decide +kernel
theorem dX9_go_95 : decode cX9_go 95 = .ok (.dup, 1) := by decide +kernel
theorem dX9_go_96 : decode cX9_go 96 = .ok (.getfield 214, 3) := by decide +kernel
theorem dX9_go_99 : decode cX9_go 99 = .ok (.iconst 1, 1) := by decide +kernel
theorem dX9_go_100 : decode cX9_go 100 = .ok (.iload_n 3, 1) := by decide +kernel
theorem dX9_go_101 : decode cX9_go 101 = .ok (.ishl, 1) := by decide +kernel
theorem dX9_go_102 : decode cX9_go 102 = .ok (.ior, 1) := by decide +kernel
theorem dX9_go_103 : decode cX9_go 103 = .ok (.putfield 214, 3) := by decide +kernel
theorem dX9_go_106 : decode cX9_go 106 = .ok (.aload_n 0, 1) := by decide +kernel
theorem dX9_go_107 : decode cX9_go 107 = .ok (.dup, 1) := by decide +kernel
theorem dX9_go_108 : decode cX9_go 108 = .ok (.getfield 217, 3) := by decide +kernel
theorem dX9_go_111 : decode cX9_go 111 = .ok (.iconst 1, 1) := by decide +kernel
theorem dX9_go_112 : decode cX9_go 112 = .ok (.isub, 1) := by decide +kernel
theorem dX9_go_113 : decode cX9_go 113 = .ok (.putfield 217, 3) := by decide +kernel
theorem dX9_go_116 : decode cX9_go 116 = .ok (.aload_n 0, 1) := by decide +kernel
theorem dX9_go_117 : decode cX9_go 117 = .ok (.invokevirtual 220, 3) := by decide +kernel
theorem dX9_go_120 : decode cX9_go 120 = .ok (.iconst 1, 1) := by decide +kernel
theorem dX9_go_121 : decode cX9_go 121 = .ok (.ireturn, 1) := by decide +kernel
theorem dX9_go_122 : decode cX9_go 122 = .ok (.iload_n 2, 1) := by decide +kernel
theorem dX9_go_123 : decode cX9_go 123 = .ok (.ifCond .eq 64, 3) := by decide +kernel
theorem dX9_go_126 : decode cX9_go 126 = .ok (.iload_n 1, 1) := by decide +kernel
theorem dX9_go_127 : decode cX9_go 127 = .ok (.bipush 40, 2) := by decide +kernel
theorem dX9_go_129 : decode cX9_go 129 = .ok (.if_icmp .ne 58, 3) := by decide +kernel
theorem dX9_go_132 : decode cX9_go 132 = .ok (.aload_n 0, 1) := by decide +kernel
theorem dX9_go_133 : decode cX9_go 133 = .ok (.dup, 1) := by decide +kernel
theorem dX9_go_134 : decode cX9_go 134 = .ok (.getfield 217, 3) := by decide +kernel
theorem dX9_go_137 : decode cX9_go 137 = .ok (.iconst 1, 1) := by decide +kernel
theorem dX9_go_138 : decode cX9_go 138 = .ok (.iadd, 1) := by decide +kernel
theorem dX9_go_139 : decode cX9_go 139 = .ok (.putfield 217, 3) := by decide +kernel
theorem dX9_go_142 : decode cX9_go 142 = .ok (.aload_n 0, 1) := by decide +kernel
theorem dX9_go_143 : decode cX9_go 143 = .ok (.getfield 43, 3) := by decide +kernel
theorem dX9_go_146 : decode cX9_go 146 = .ok (.aload_n 0, 1) := by decide +kernel
theorem dX9_go_147 : decode cX9_go 147 = .ok (.getfield 204, 3) := by decide +kernel
theorem dX9_go_150 : decode cX9_go 150 = .ok (.iconst 0, 1) := by decide +kernel
theorem dX9_go_151 : decode cX9_go 151 = .ok (.iastore, 1) := by decide +kernel
theorem dX9_go_152 : decode cX9_go 152 = .ok (.aload_n 0, 1) := by decide +kernel
theorem dX9_go_153 : decode cX9_go 153 = .ok (.dup, 1) := by decide +kernel
theorem dX9_go_154 : decode cX9_go 154 = .ok (.getfield 204, 3) := by decide +kernel
theorem dX9_go_157 : decode cX9_go 157 = .ok (.iconst 1, 1) := by decide +kernel
theorem dX9_go_158 : decode cX9_go 158 = .ok (.iadd, 1) := by decide +kernel
theorem dX9_go_159 : decode cX9_go 159 = .ok (.putfield 204, 3) := by decide +kernel
theorem dX9_go_162 : decode cX9_go 162 = .ok (.aload_n 0, 1) := by decide +kernel
theorem dX9_go_163 : decode cX9_go 163 = .ok (.getfield 214, 3) := by decide +kernel
theorem dX9_go_166 : decode cX9_go 166 = .ok (.invokestatic 98, 3) := by decide +kernel
theorem dX9_go_169 : decode cX9_go 169 = .ok (.aload_n 0, 1) := by decide +kernel
theorem dX9_go_170 : decode cX9_go 170 = .ok (.getfield 217, 3) := by decide +kernel
theorem dX9_go_173 : decode cX9_go 173 = .ok (.iadd, 1) := by decide +kernel
theorem dX9_go_174 : decode cX9_go 174 = .ok (.aload_n 0, 1) := by decide +kernel
theorem dX9_go_175 : decode cX9_go 175 = .ok (.getfield 89, 3) := by decide +kernel
theorem dX9_go_178 : decode cX9_go 178 = .ok (.if_icmp .gt 7, 3) := by decide +kernel
theorem dX9_go_181 : decode cX9_go 181 = .ok (.iconst 1, 1) := by decide +kernel
theorem dX9_go_182 : decode cX9_go 182 = .ok (.goto 4, 3) := by decide +kernel
theorem dX9_go_185 : decode cX9_go 185 = .ok (.iconst 0, 1) := by decide +kernel
theorem dX9_go_186 : decode cX9_go 186 = .ok (.ireturn, 1) := by decide +kernel
theorem dX9_go_187 : decode cX9_go 187 = .ok (.aload_n 0, 1) := by decide +kernel
theorem dX9_go_188 : decode cX9_go 188 = .ok (.getfield 207, 3) := by decide +kernel
theorem dX9_go_191 : decode cX9_go 191 = .ok (.ifCond .ne 7, 3) := by decide +kernel
theorem dX9_go_194 : decode cX9_go 194 = .ok (.iload_n 2, 1) := by decide +kernel
theorem dX9_go_195 : decode cX9_go 195 = .ok (.ifCond .eq 5, 3) := by decide +kernel
theorem dX9_go_198 : decode cX9_go 198 = .ok (.iconst 0, 1) := by decide +kernel
theorem dX9_go_199 : decode cX9_go 199 = .ok (.ireturn, 1) := by decide +kernel
theorem dX9_go_200 : decode cX9_go 200 = .ok (.aload_n 0, 1) := by decide +kernel
theorem dX9_go_201 : decode cX9_go 201 = .ok (.getfield 43, 3) := by decide +kernel
theorem dX9_go_204 : decode cX9_go 204 = .ok (.aload_n 0, 1) := by decide +kernel
theorem dX9_go_205 : decode cX9_go 205 = .ok (.getfield 204, 3) := by decide +kernel
theorem dX9_go_208 : decode cX9_go 208 = .ok (.iconst 1, 1) := by decide +kernel
theorem dX9_go_209 : decode cX9_go 209 = .ok (.isub, 1) := by decide +kernel
theorem dX9_go_210 : decode cX9_go 210 = .ok (.iaload, 1) := by decide +kernel
theorem dX9_go_211 : decode cX9_go 211 = .ok (.iconst 1, 1) := by decide +kernel
theorem dX9_go_212 : decode cX9_go 212 = .ok (.if_icmp .ne 39, 3) := by decide +kernel
theorem dX9_go_215 : decode cX9_go 215 = .ok (.aload_n 0, 1) := by decide +kernel
theorem dX9_go_216 : decode cX9_go 216 = .ok (.getfield 43, 3) := by decide +kernel
theorem dX9_go_219 : decode cX9_go 219 = .ok (.aload_n 0, 1) := by decide +kernel
theorem dX9_go_220 : decode cX9_go 220 = .ok (.getfield 204, 3) := by decide +kernel
theorem dX9_go_223 : decode cX9_go 223 = .ok (.iconst 1, 1) := by decide +kernel
theorem dX9_go_224 : decode cX9_go 224 = .ok (.isub, 1) := by decide +kernel
theorem dX9_go_225 : decode cX9_go 225 = .ok (.iconst 2, 1) := by decide +kernel
theorem dX9_go_226 : decode cX9_go 226 = .ok (.iastore, 1) := by decide +kernel
theorem dX9_go_227 : decode cX9_go 227 = .ok (.iload_n 1, 1) := by decide +kernel
theorem dX9_go_228 : decode cX9_go 228 = .ok (.bipush 108, 2) := by decide +kernel
theorem dX9_go_230 : decode cX9_go 230 = .ok (.if_icmp .eq 15, 3) := by decide +kernel
theorem dX9_go_233 : decode cX9_go 233 = .ok (.iload_n 1, 1) := by decide +kernel
theorem dX9_go_234 : decode cX9_go 234 = .ok (.bipush 112, 2) := by decide +kernel
theorem dX9_go_236 : decode cX9_go 236 = .ok (.if_icmp .eq 9, 3) := by decide +kernel
theorem dX9_go_239 : decode cX9_go 239 = .ok (.iload_n 1, 1) := by decide +kernel
theorem dX9_go_240 : decode cX9_go 240 = .ok (.bipush 115, 2) := by decide +kernel
theorem dX9_go_242 : decode cX9_go 242 = .ok (.if_icmp .ne 7, 3) := by decide +kernel
theorem dX9_go_245 : decode cX9_go 245 = .ok (.iconst 1, 1) := by decide +kernel
theorem dX9_go_246 : decode cX9_go 246 = .ok (.goto 4, 3) := by decide +kernel
theorem dX9_go_249 : decode cX9_go 249 = .ok (.iconst 0, 1) := by decide +kernel
theorem dX9_go_250 : decode cX9_go 250 = .ok (.ireturn, 1) := by decide +kernel
theorem dX9_go_251 : decode cX9_go 251 = .ok (.aload_n 0, 1) := by decide +kernel
theorem dX9_go_252 : decode cX9_go 252 = .ok (.dup, 1) := by decide +kernel
theorem dX9_go_253 : decode cX9_go 253 = .ok (.getfield 204, 3) := by decide +kernel
theorem dX9_go_256 : decode cX9_go 256 = .ok (.iconst 1, 1) := by decide +kernel
theorem dX9_go_257 : decode cX9_go 257 = .ok (.isub, 1) := by decide +kernel
theorem dX9_go_258 : decode cX9_go 258 = .ok (.putfield 204, 3) := by decide +kernel
theorem dX9_go_261 : decode cX9_go 261 = .ok (.aload_n 0, 1) := by decide +kernel
theorem dX9_go_262 : decode cX9_go 262 = .ok (.invokevirtual 220, 3) := by decide +kernel
theorem dX9_go_265 : decode cX9_go 265 = .ok (.iload_n 1, 1) := by decide +kernel
theorem dX9_go_266 : decode cX9_go 266 = .ok (.bipush 41, 2) := by decide +kernel
theorem dX9_go_268 : decode cX9_go 268 = .ok (.if_icmp .ne 7, 3) := by decide +kernel
theorem dX9_go_271 : decode cX9_go 271 = .ok (.iconst 1, 1) := by decide +kernel
theorem dX9_go_272 : decode cX9_go 272 = .ok (.goto 4, 3) := by decide +kernel
theorem dX9_go_275 : decode cX9_go 275 = .ok (.iconst 0, 1) := by decide +kernel
theorem dX9_go_276 : decode cX9_go 276 = .ok (.ireturn, 1) := by decide +kernel
theorem dX9_goodOf_0 : decode cX9_goodOf 0 = .ok (.aload_n 0, 1) := by decide +kernel
theorem dX9_goodOf_1 : decode cX9_goodOf 1 = .ok (.iconst 0, 1) := by decide +kernel
theorem dX9_goodOf_2 : decode cX9_goodOf 2 = .ok (.putfield 204, 3) := by decide +kernel
theorem dX9_goodOf_5 : decode cX9_goodOf 5 = .ok (.aload_n 0, 1) := by decide +kernel
theorem dX9_goodOf_6 : decode cX9_goodOf 6 = .ok (.iconst 0, 1) := by decide +kernel
theorem dX9_goodOf_7 : decode cX9_goodOf 7 = .ok (.putfield 214, 3) := by decide +kernel
theorem dX9_goodOf_10 : decode cX9_goodOf 10 = .ok (.aload_n 0, 1) := by decide +kernel
theorem dX9_goodOf_11 : decode cX9_goodOf 11 = .ok (.iconst 1, 1) := by decide +kernel
theorem dX9_goodOf_12 : decode cX9_goodOf 12 = .ok (.putfield 217, 3) := by decide +kernel
theorem dX9_goodOf_15 : decode cX9_goodOf 15 = .ok (.aload_n 0, 1) := by decide +kernel
theorem dX9_goodOf_16 : decode cX9_goodOf 16 = .ok (.iconst 0, 1) := by decide +kernel
