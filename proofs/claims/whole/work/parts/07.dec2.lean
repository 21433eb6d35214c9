theorem dX9_goodOf_17 : decode cX9_goodOf 17 = .ok (.putfield 207, 3) := by decide +kernel
theorem dX9_goodOf_20 : decode cX9_goodOf 20 = .ok (.iconst 0, 1) := by decide +kernel
theorem dX9_goodOf_21 : decode cX9_goodOf 21 = .ok (.istore_n 1, 1) := by decide +kernel
theorem dX9_goodOf_22 : decode cX9_goodOf 22 = .ok (.aload_n 0, 1) := by decide +kernel
theorem dX9_goodOf_23 : decode cX9_goodOf 23 = .ok (.getfield 89, 3) := by decide +kernel
theorem dX9_goodOf_26 : decode cX9_goodOf 26 = .ok (.ifCond .le 30, 3) := by decide +kernel
theorem dX9_goodOf_29 : decode cX9_goodOf 29 = .ok (.iload_n 1, 1) := by decide +kernel
theorem dX9_goodOf_30 : decode cX9_goodOf 30 = .ok (.aload_n 0, 1) := by decide +kernel
theorem dX9_goodOf_31 : decode cX9_goodOf 31 = .ok (.getfield 201, 3) := by decide +kernel
theorem dX9_goodOf_34 : decode cX9_goodOf 34 = .ok (.if_icmp .ge 22, 3) := by decide +kernel
theorem dX9_goodOf_37 : decode cX9_goodOf 37 = .ok (.aload_n 0, 1) := by decide +kernel
theorem dX9_goodOf_38 : decode cX9_goodOf 38 = .ok (.aload_n 0, 1) := by decide +kernel
theorem dX9_goodOf_39 : decode cX9_goodOf 39 = .ok (.getfield 40, 3) := by decide +kernel
theorem dX9_goodOf_42 : decode cX9_goodOf 42 = .ok (.iload_n 1, 1) := by decide +kernel
theorem dX9_goodOf_43 : decode cX9_goodOf 43 = .ok (.iaload, 1) := by decide +kernel
theorem dX9_goodOf_44 : decode cX9_goodOf 44 = .ok (.invokevirtual 223, 3) := by decide +kernel
theorem dX9_goodOf_47 : decode cX9_goodOf 47 = .ok (.ifCond .eq 9, 3) := by decide +kernel
theorem dX9_goodOf_50 : decode cX9_goodOf 50 = .ok (.iinc 1 1, 3) := by decide +kernel
theorem dX9_goodOf_53 : decode cX9_goodOf 53 = .ok (.goto (-31), 3) := by decide +kernel
theorem dX9_goodOf_56 : decode cX9_goodOf 56 = .ok (.iload_n 1, 1) := by decide +kernel
theorem dX9_goodOf_57 : decode cX9_goodOf 57 = .ok (.ireturn, 1) := by decide +kernel
theorem dX9_good_0 : decode cX9_good 0 = .ok (.aload_n 0, 1) := by decide +kernel
theorem dX9_good_1 : decode cX9_good 1 = .ok (.invokevirtual 226, 3) := by decide +kernel
theorem dX9_good_4 : decode cX9_good 4 = .ok (.ireturn, 1) := by decide +kernel
theorem dX9_sorting_0 : decode cX9_sorting 0 = .ok (.iload_n 1, 1) := by decide +kernel
theorem dX9_sorting_1 : decode cX9_sorting 1 = .ok (.ifCond .ne 5, 3) := by decide +kernel
theorem dX9_sorting_4 : decode cX9_sorting 4 = .ok (.iconst 0, 1) := by decide +kernel
theorem dX9_sorting_5 : decode cX9_sorting 5 = .ok (.ireturn, 1) := by decide +kernel
theorem dX9_sorting_6 : decode cX9_sorting 6 = .ok (.iconst 1, 1) := by decide +kernel
theorem dX9_sorting_7 : decode cX9_sorting 7 = .ok (.istore_n 2, 1) := by decide +kernel
theorem dX9_sorting_8 : decode cX9_sorting 8 = .ok (.iload_n 1, 1) := by decide +kernel
theorem dX9_sorting_9 : decode cX9_sorting 9 = .ok (.aload_n 0, 1) := by decide +kernel
theorem dX9_sorting_10 : decode cX9_sorting 10 = .ok (.getfield 86, 3) := by decide +kernel
theorem dX9_sorting_13 : decode cX9_sorting 13 = .ok (.invokestatic 143, 3) := by decide +kernel
theorem dX9_sorting_16 : decode cX9_sorting 16 = .ok (.istore_n 3, 1) := by decide +kernel
theorem dX9_sorting_17 : decode cX9_sorting 17 = .ok (.iload_n 3, 1) := by decide +kernel
theorem dX9_sorting_18 : decode cX9_sorting 18 = .ok (.iconst 1, 1) := by decide +kernel
theorem dX9_sorting_19 : decode cX9_sorting 19 = .ok (.if_icmp .le 20, 3) := by decide +kernel
theorem dX9_sorting_22 : decode cX9_sorting 22 = .ok (.iinc 2 1, 3) := by decide +kernel
theorem dX9_sorting_25 : decode cX9_sorting 25 = .ok (.iload_n 3, 1) := by decide +kernel
theorem dX9_sorting_26 : decode cX9_sorting 26 = .ok (.aload_n 0, 1) := by decide +kernel
theorem dX9_sorting_27 : decode cX9_sorting 27 = .ok (.getfield 86, 3) := by decide +kernel
theorem dX9_sorting_30 : decode cX9_sorting 30 = .ok (.iconst 1, 1) := by decide +kernel
theorem dX9_sorting_31 : decode cX9_sorting 31 = .ok (.isub, 1) := by decide +kernel
theorem dX9_sorting_32 : decode cX9_sorting 32 = .ok (.invokestatic 143, 3) := by decide +kernel
theorem dX9_sorting_35 : decode cX9_sorting 35 = .ok (.istore_n 3, 1) := by decide +kernel
theorem dX9_sorting_36 : decode cX9_sorting 36 = .ok (.goto (-19), 3) := by decide +kernel
theorem dX9_sorting_39 : decode cX9_sorting 39 = .ok (.iconst 2, 1) := by decide +kernel
theorem dX9_sorting_40 : decode cX9_sorting 40 = .ok (.iload_n 1, 1) := by decide +kernel
theorem dX9_sorting_41 : decode cX9_sorting 41 = .ok (.imul, 1) := by decide +kernel
theorem dX9_sorting_42 : decode cX9_sorting 42 = .ok (.iload_n 2, 1) := by decide +kernel
theorem dX9_sorting_43 : decode cX9_sorting 43 = .ok (.imul, 1) := by decide +kernel
theorem dX9_sorting_44 : decode cX9_sorting 44 = .ok (.ireturn, 1) := by decide +kernel
theorem dX9_lettersIn_0 : decode cX9_lettersIn 0 = .ok (.iconst 0, 1) := by decide +kernel
theorem dX9_lettersIn_1 : decode cX9_lettersIn 1 = .ok (.istore_n 2, 1) := by decide +kernel
theorem dX9_lettersIn_2 : decode cX9_lettersIn 2 = .ok (.iconst 0, 1) := by decide +kernel
theorem dX9_lettersIn_3 : decode cX9_lettersIn 3 = .ok (.istore_n 3, 1) := by decide +kernel
theorem dX9_lettersIn_4 : decode cX9_lettersIn 4 = .ok (.iload_n 3, 1) := by decide +kernel
theorem dX9_lettersIn_5 : decode cX9_lettersIn 5 = .ok (.aload_n 0, 1) := by decide +kernel
theorem dX9_lettersIn_6 : decode cX9_lettersIn 6 = .ok (.getfield 89, 3) := by decide +kernel
theorem dX9_lettersIn_9 : decode cX9_lettersIn 9 = .ok (.if_icmp .ge 31, 3) := by decide +kernel
theorem dX9_lettersIn_12 : decode cX9_lettersIn 12 = .ok (.iload_n 2, 1) := by decide +kernel
theorem dX9_lettersIn_13 : decode cX9_lettersIn 13 = .ok (.iload_n 1, 1) := by decide +kernel
theorem dX9_lettersIn_14 : decode cX9_lettersIn 14 = .ok (.iload_n 3, 1) := by decide +kernel
theorem dX9_lettersIn_15 : decode cX9_lettersIn 15 = .ok (.ishr, 1) := by decide +kernel
theorem dX9_lettersIn_16 : decode cX9_lettersIn 16 = .ok (.iconst 1, 1) := by decide +kernel
theorem dX9_lettersIn_17 : decode cX9_lettersIn 17 = .ok (.iand, 1) := by decide +kernel
theorem dX9_lettersIn_18 : decode cX9_lettersIn 18 = .ok (.iconst 1, 1) := by decide +kernel
theorem dX9_lettersIn_19 : decode cX9_lettersIn 19 = .ok (.if_icmp .ne 12, 3) := by decide +kernel
theorem dX9_lettersIn_22 : decode cX9_lettersIn 22 = .ok (.aload_n 0, 1) := by decide +kernel
theorem dX9_lettersIn_23 : decode cX9_lettersIn 23 = .ok (.getfield 7, 3) := by decide +kernel
theorem dX9_lettersIn_26 : decode cX9_lettersIn 26 = .ok (.iload_n 3, 1) := by decide +kernel
theorem dX9_lettersIn_27 : decode cX9_lettersIn 27 = .ok (.iaload, 1) := by decide +kernel
theorem dX9_lettersIn_28 : decode cX9_lettersIn 28 = .ok (.goto 4, 3) := by decide +kernel
theorem dX9_lettersIn_31 : decode cX9_lettersIn 31 = .ok (.iconst 0, 1) := by decide +kernel
theorem dX9_lettersIn_32 : decode cX9_lettersIn 32 = .ok (.ior, 1) := by decide +kernel
theorem dX9_lettersIn_33 : decode cX9_lettersIn 33 = .ok (.istore_n 2, 1) := by decide +kernel
theorem dX9_lettersIn_34 : decode cX9_lettersIn 34 = .ok (.iinc 3 1, 3) := by decide +kernel
theorem dX9_lettersIn_37 : decode cX9_lettersIn 37 = .ok (.goto (-33), 3) := by decide +kernel
theorem dX9_lettersIn_40 : decode cX9_lettersIn 40 = .ok (.iload_n 2, 1) := by decide +kernel
theorem dX9_lettersIn_41 : decode cX9_lettersIn 41 = .ok (.ireturn, 1) := by decide +kernel
theorem dX9_sharedBy_0 : decode cX9_sharedBy 0 = .ok (.aload_n 0, 1) := by decide +kernel
theorem dX9_sharedBy_1 : decode cX9_sharedBy 1 = .ok (.iload_n 1, 1) := by decide +kernel
theorem dX9_sharedBy_2 : decode cX9_sharedBy 2 = .ok (.invokevirtual 230, 3) := by decide +kernel
theorem dX9_sharedBy_5 : decode cX9_sharedBy 5 = .ok (.aload_n 0, 1) := by decide +kernel
theorem dX9_sharedBy_6 : decode cX9_sharedBy 6 = .ok (.iload_n 2, 1) := by decide +kernel
theorem dX9_sharedBy_7 : decode cX9_sharedBy 7 = .ok (.invokevirtual 230, 3) := by decide +kernel
theorem dX9_sharedBy_10 : decode cX9_sharedBy 10 = .ok (.iand, 1) := by decide +kernel
theorem dX9_sharedBy_11 : decode cX9_sharedBy 11 = .ok (.istore_n 3, 1) := by decide +kernel
theorem dX9_sharedBy_12 : decode cX9_sharedBy 12 = .ok (.iconst 0, 1) := by decide +kernel
theorem dX9_sharedBy_13 : decode cX9_sharedBy 13 = .ok (.istore 4, 2) := by decide +kernel
theorem dX9_sharedBy_15 : decode cX9_sharedBy 15 = .ok (.iload 4, 2) := by decide +kernel
theorem dX9_sharedBy_17 : decode cX9_sharedBy 17 = .ok (.bipush 8, 2) := by decide +kernel
theorem dX9_sharedBy_19 : decode cX9_sharedBy 19 = .ok (.if_icmp .ge 18, 3) := by decide +kernel
theorem dX9_sharedBy_22 : decode cX9_sharedBy 22 = .ok (.iload_n 3, 1) := by decide +kernel
theorem dX9_sharedBy_23 : decode cX9_sharedBy 23 = .ok (.iload 4, 2) := by decide +kernel
theorem dX9_sharedBy_25 : decode cX9_sharedBy 25 = .ok (.ishr, 1) := by decide +kernel
theorem dX9_sharedBy_26 : decode cX9_sharedBy 26 = .ok (.iconst 1, 1) := by decide +kernel
theorem dX9_sharedBy_27 : decode cX9_sharedBy 27 = .ok (.iand, 1) := by decide +kernel
theorem dX9_sharedBy_28 : decode cX9_sharedBy 28 = .ok (.ifCond .ne 9, 3) := by decide +kernel
theorem dX9_sharedBy_31 : decode cX9_sharedBy 31 = .ok (.iinc 4 1, 3) := by decide +kernel
theorem dX9_sharedBy_34 : decode cX9_sharedBy 34 = .ok (.goto (-19), 3) := by decide +kernel
theorem dX9_sharedBy_37 : decode cX9_sharedBy 37 = .ok (.iload 4, 2) := by decide +kernel
theorem dX9_sharedBy_39 : decode cX9_sharedBy 39 = .ok (.bipush 8, 2) := by decide +kernel
theorem dX9_sharedBy_41 : decode cX9_sharedBy 41 = .ok (.if_icmp .ge 8, 3) := by decide +kernel
theorem dX9_sharedBy_44 : decode cX9_sharedBy 44 = .ok (.iload 4, 2) := by decide +kernel
theorem dX9_sharedBy_46 : decode cX9_sharedBy 46 = .ok (.goto 4, 3) := by decide +kernel
theorem dX9_sharedBy_49 : decode cX9_sharedBy 49 = .ok (.iconst (-1), 1) := by decide +kernel
theorem dX9_sharedBy_50 : decode cX9_sharedBy 50 = .ok (.ireturn, 1) := by decide +kernel
theorem dX9_layPages_0 : decode cX9_layPages 0 = .ok (.iconst 1, 1) := by decide +kernel
theorem dX9_layPages_1 : decode cX9_layPages 1 = .ok (.istore_n 2, 1) := by decide +kernel
theorem dX9_layPages_2 : decode cX9_layPages 2 = .ok (.iload_n 2, 1) := by decide +kernel
theorem dX9_layPages_3 : decode cX9_layPages 3 = .ok (.iconst 1, 1) := by decide +kernel
theorem dX9_layPages_4 : decode cX9_layPages 4 = .ok (.aload_n 0, 1) := by decide +kernel
theorem dX9_layPages_5 : decode cX9_layPages 5 = .ok (.getfield 89, 3) := by decide +kernel
theorem dX9_layPages_8 : decode cX9_layPages 8 = .ok (.ishl, 1) := by decide +kernel
theorem dX9_layPages_9 : decode cX9_layPages 9 = .ok (.if_icmp .ge 21, 3) := by decide +kernel
theorem dX9_layPages_12 : decode cX9_layPages 12 = .ok (.aload_n 0, 1) := by decide +kernel
theorem dX9_layPages_13 : decode cX9_layPages 13 = .ok (.getfield 46, 3) := by decide +kernel
theorem dX9_layPages_16 : decode cX9_layPages 16 = .ok (.iload_n 2, 1) := by decide +kernel
theorem dX9_layPages_17 : decode cX9_layPages 17 = .ok (.aload_n 0, 1) := by decide +kernel
theorem dX9_layPages_18 : decode cX9_layPages 18 = .ok (.iload_n 2, 1) := by decide +kernel
theorem dX9_layPages_19 : decode cX9_layPages 19 = .ok (.iload_n 1, 1) := by decide +kernel
theorem dX9_layPages_20 : decode cX9_layPages 20 = .ok (.invokevirtual 192, 3) := by decide +kernel
theorem dX9_layPages_23 : decode cX9_layPages 23 = .ok (.iastore, 1) := by decide +kernel
theorem dX9_layPages_24 : decode cX9_layPages 24 = .ok (.iinc 2 1, 3) := by decide +kernel
theorem dX9_layPages_27 : decode cX9_layPages 27 = .ok (.goto (-25), 3) := by decide +kernel
theorem dX9_layPages_30 : decode cX9_layPages 30 = .ok (.return_, 1) := by decide +kernel
theorem dX9_stepCost_0 : decode cX9_stepCost 0 = .ok (.aload_n 0, 1) := by decide +kernel
theorem dX9_stepCost_1 : decode cX9_stepCost 1 = .ok (.getfield 46, 3) := by decide +kernel
theorem dX9_stepCost_4 : decode cX9_stepCost 4 = .ok (.iload_n 2, 1) := by decide +kernel
theorem dX9_stepCost_5 : decode cX9_stepCost 5 = .ok (.iaload, 1) := by decide +kernel
theorem dX9_stepCost_6 : decode cX9_stepCost 6 = .ok (.istore 6, 2) := by decide +kernel
theorem dX9_stepCost_8 : decode cX9_stepCost 8 = .ok (.aload_n 0, 1) := by decide +kernel
theorem dX9_stepCost_9 : decode cX9_stepCost 9 = .ok (.getfield 46, 3) := by decide +kernel
theorem dX9_stepCost_12 : decode cX9_stepCost 12 = .ok (.iload_n 3, 1) := by decide +kernel
theorem dX9_stepCost_13 : decode cX9_stepCost 13 = .ok (.iaload, 1) := by decide +kernel
theorem dX9_stepCost_14 : decode cX9_stepCost 14 = .ok (.istore 7, 2) := by decide +kernel
theorem dX9_stepCost_16 : decode cX9_stepCost 16 = .ok (.aload_n 0, 1) := by decide +kernel
theorem dX9_stepCost_17 : decode cX9_stepCost 17 = .ok (.iload_n 2, 1) := by decide +kernel
theorem dX9_stepCost_18 : decode cX9_stepCost 18 = .ok (.iload_n 3, 1) := by decide +kernel
theorem dX9_stepCost_19 : decode cX9_stepCost 19 = .ok (.invokevirtual 233, 3) := by decide +kernel
theorem dX9_stepCost_22 : decode cX9_stepCost 22 = .ok (.istore 8, 2) := by decide +kernel
theorem dX9_stepCost_24 : decode cX9_stepCost 24 = .ok (.iload_n 1, 1) := by decide +kernel
theorem dX9_stepCost_25 : decode cX9_stepCost 25 = .ok (.bipush 108, 2) := by decide +kernel
theorem dX9_stepCost_27 : decode cX9_stepCost 27 = .ok (.if_icmp .ne 35, 3) := by decide +kernel
theorem dX9_stepCost_30 : decode cX9_stepCost 30 = .ok (.iload 6, 2) := by decide +kernel
theorem dX9_stepCost_32 : decode cX9_stepCost 32 = .ok (.aload_n 0, 1) := by decide +kernel
theorem dX9_stepCost_33 : decode cX9_stepCost 33 = .ok (.getfield 86, 3) := by decide +kernel
theorem dX9_stepCost_36 : decode cX9_stepCost 36 = .ok (.iconst 2, 1) := by decide +kernel
theorem dX9_stepCost_37 : decode cX9_stepCost 37 = .ok (.isub, 1) := by decide +kernel
theorem dX9_stepCost_38 : decode cX9_stepCost 38 = .ok (.if_icmp .le 22, 3) := by decide +kernel
theorem dX9_stepCost_41 : decode cX9_stepCost 41 = .ok (.iload 7, 2) := by decide +kernel
theorem dX9_stepCost_43 : decode cX9_stepCost 43 = .ok (.iload 6, 2) := by decide +kernel
theorem dX9_stepCost_45 : decode cX9_stepCost 45 = .ok (.aload_n 0, 1) := by decide +kernel
theorem dX9_stepCost_46 : decode cX9_stepCost 46 = .ok (.getfield 86, 3) := by decide +kernel
theorem dX9_stepCost_49 : decode cX9_stepCost 49 = .ok (.iconst 2, 1) := by decide +kernel
theorem dX9_stepCost_50 : decode cX9_stepCost 50 = .ok (.isub, 1) := by decide +kernel
theorem dX9_stepCost_51 : decode cX9_stepCost 51 = .ok (.invokestatic 143, 3) := by decide +kernel
theorem dX9_stepCost_54 : decode cX9_stepCost 54 = .ok (.iconst 1, 1) := by decide +kernel
theorem dX9_stepCost_55 : decode cX9_stepCost 55 = .ok (.isub, 1) := by decide +kernel
theorem dX9_stepCost_56 : decode cX9_stepCost 56 = .ok (.imul, 1) := by decide +kernel
theorem dX9_stepCost_57 : decode cX9_stepCost 57 = .ok (.goto 4, 3) := by decide +kernel
theorem dX9_stepCost_60 : decode cX9_stepCost 60 = .ok (.iconst 0, 1) := by decide +kernel
theorem dX9_stepCost_61 : decode cX9_stepCost 61 = .ok (.ireturn, 1) := by decide +kernel
theorem dX9_stepCost_62 : decode cX9_stepCost 62 = .ok (.iload 8, 2) := by decide +kernel
theorem dX9_stepCost_64 : decode cX9_stepCost 64 = .ok (.iconst (-1), 1) := by decide +kernel
theorem dX9_stepCost_65 : decode cX9_stepCost 65 = .ok (.if_icmp .ne 5, 3) := by decide +kernel
theorem dX9_stepCost_68 : decode cX9_stepCost 68 = .ok (.iconst (-1), 1) := by decide +kernel
theorem dX9_stepCost_69 : decode cX9_stepCost 69 = .ok (.ireturn, 1) := by decide +kernel
theorem dX9_stepCost_70 : decode cX9_stepCost 70 = .ok (.iload_n 1, 1) := by decide +kernel
theorem dX9_stepCost_71 : decode cX9_stepCost 71 = .ok (.bipush 112, 2) := by decide +kernel
theorem dX9_stepCost_73 : decode cX9_stepCost 73 = .ok (.if_icmp .ne 38, 3) := by decide +kernel
theorem dX9_stepCost_76 : decode cX9_stepCost 76 = .ok (.iload 6, 2) := by decide +kernel
theorem dX9_stepCost_78 : decode cX9_stepCost 78 = .ok (.iload 7, 2) := by decide +kernel
theorem dX9_stepCost_80 : decode cX9_stepCost 80 = .ok (.if_icmp .ge 8, 3) := by decide +kernel
theorem dX9_stepCost_83 : decode cX9_stepCost 83 = .ok (.iload 6, 2) := by decide +kernel
theorem dX9_stepCost_85 : decode cX9_stepCost 85 = .ok (.goto 5, 3) := by decide +kernel
theorem dX9_stepCost_88 : decode cX9_stepCost 88 = .ok (.iload 7, 2) := by decide +kernel
theorem dX9_stepCost_90 : decode cX9_stepCost 90 = .ok (.aload_n 0, 1) := by decide +kernel
theorem dX9_stepCost_91 : decode cX9_stepCost 91 = .ok (.getfield 86, 3) := by decide +kernel
theorem dX9_stepCost_94 : decode cX9_stepCost 94 = .ok (.iconst 2, 1) := by decide +kernel
theorem dX9_stepCost_95 : decode cX9_stepCost 95 = .ok (.isub, 1) := by decide +kernel
theorem dX9_stepCost_96 : decode cX9_stepCost 96 = .ok (.if_icmp .le 13, 3) := by decide +kernel
theorem dX9_stepCost_99 : decode cX9_stepCost 99 = .ok (.iconst 2, 1) := by decide +kernel
theorem dX9_stepCost_100 : decode cX9_stepCost 100 = .ok (.iload 6, 2) := by decide +kernel
theorem dX9_stepCost_102 : decode cX9_stepCost 102 = .ok (.iload 7, 2) := by decide +kernel
theorem dX9_stepCost_104 : decode cX9_stepCost 104 = .ok (.iadd, 1) := by decide +kernel
theorem dX9_stepCost_105 : decode cX9_stepCost 105 = .ok (.imul, 1) := by decide +kernel
theorem dX9_stepCost_106 : decode cX9_stepCost 106 = .ok (.goto 4, 3) := by decide +kernel
theorem dX9_stepCost_109 : decode cX9_stepCost 109 = .ok (.iconst 0, 1) := by decide +kernel
theorem dX9_stepCost_110 : decode cX9_stepCost 110 = .ok (.ireturn, 1) := by decide +kernel
theorem dX9_stepCost_111 : decode cX9_stepCost 111 = .ok (.iload 4, 2) := by decide +kernel
theorem dX9_stepCost_113 : decode cX9_stepCost 113 = .ok (.iload 8, 2) := by decide +kernel
theorem dX9_stepCost_115 : decode cX9_stepCost 115 = .ok (.iconst 1, 1) := by decide +kernel
theorem dX9_stepCost_116 : decode cX9_stepCost 116 = .ok (.iadd, 1) := by decide +kernel
theorem dX9_stepCost_117 : decode cX9_stepCost 117 = .ok (.if_icmp .ne 7, 3) := by decide +kernel
theorem dX9_stepCost_120 : decode cX9_stepCost 120 = .ok (.iconst 0, 1) := by decide +kernel
theorem dX9_stepCost_121 : decode cX9_stepCost 121 = .ok (.goto 9, 3) := by decide +kernel
theorem dX9_stepCost_124 : decode cX9_stepCost 124 = .ok (.aload_n 0, 1) := by decide +kernel
theorem dX9_stepCost_125 : decode cX9_stepCost 125 = .ok (.iload 6, 2) := by decide +kernel
theorem dX9_stepCost_127 : decode cX9_stepCost 127 = .ok (.invokevirtual 236, 3) := by decide +kernel
theorem dX9_stepCost_130 : decode cX9_stepCost 130 = .ok (.iload 5, 2) := by decide +kernel
theorem dX9_stepCost_132 : decode cX9_stepCost 132 = .ok (.iload 8, 2) := by decide +kernel
theorem dX9_stepCost_134 : decode cX9_stepCost 134 = .ok (.iconst 1, 1) := by decide +kernel
theorem dX9_stepCost_135 : decode cX9_stepCost 135 = .ok (.iadd, 1) := by decide +kernel
theorem dX9_stepCost_136 : decode cX9_stepCost 136 = .ok (.if_icmp .ne 7, 3) := by decide +kernel
theorem dX9_stepCost_139 : decode cX9_stepCost 139 = .ok (.iconst 0, 1) := by decide +kernel
theorem dX9_stepCost_140 : decode cX9_stepCost 140 = .ok (.goto 9, 3) := by decide +kernel
theorem dX9_stepCost_143 : decode cX9_stepCost 143 = .ok (.aload_n 0, 1) := by decide +kernel
theorem dX9_stepCost_144 : decode cX9_stepCost 144 = .ok (.iload 7, 2) := by decide +kernel
theorem dX9_stepCost_146 : decode cX9_stepCost 146 = .ok (.invokevirtual 236, 3) := by decide +kernel
theorem dX9_stepCost_149 : decode cX9_stepCost 149 = .ok (.iadd, 1) := by decide +kernel
theorem dX9_stepCost_150 : decode cX9_stepCost 150 = .ok (.ireturn, 1) := by decide +kernel
theorem dX9_stepOrder_0 : decode cX9_stepOrder 0 = .ok (.iload_n 1, 1) := by decide +kernel
theorem dX9_stepOrder_1 : decode cX9_stepOrder 1 = .ok (.bipush 108, 2) := by decide +kernel
theorem dX9_stepOrder_3 : decode cX9_stepOrder 3 = .ok (.if_icmp .ne 8, 3) := by decide +kernel
theorem dX9_stepOrder_6 : decode cX9_stepOrder 6 = .ok (.iload 4, 2) := by decide +kernel
theorem dX9_stepOrder_8 : decode cX9_stepOrder 8 = .ok (.goto 21, 3) := by decide +kernel
theorem dX9_stepOrder_11 : decode cX9_stepOrder 11 = .ok (.iload_n 1, 1) := by decide +kernel
theorem dX9_stepOrder_12 : decode cX9_stepOrder 12 = .ok (.bipush 112, 2) := by decide +kernel
theorem dX9_stepOrder_14 : decode cX9_stepOrder 14 = .ok (.if_icmp .ne 7, 3) := by decide +kernel
theorem dX9_stepOrder_17 : decode cX9_stepOrder 17 = .ok (.iconst 0, 1) := by decide +kernel
theorem dX9_stepOrder_18 : decode cX9_stepOrder 18 = .ok (.goto 11, 3) := by decide +kernel
theorem dX9_stepOrder_21 : decode cX9_stepOrder 21 = .ok (.aload_n 0, 1) := by decide +kernel
theorem dX9_stepOrder_22 : decode cX9_stepOrder 22 = .ok (.iload_n 2, 1) := by decide +kernel
theorem dX9_stepOrder_23 : decode cX9_stepOrder 23 = .ok (.iload_n 3, 1) := by decide +kernel
theorem dX9_stepOrder_24 : decode cX9_stepOrder 24 = .ok (.invokevirtual 233, 3) := by decide +kernel
theorem dX9_stepOrder_27 : decode cX9_stepOrder 27 = .ok (.iconst 1, 1) := by decide +kernel
theorem dX9_stepOrder_28 : decode cX9_stepOrder 28 = .ok (.iadd, 1) := by decide +kernel
theorem dX9_stepOrder_29 : decode cX9_stepOrder 29 = .ok (.ireturn, 1) := by decide +kernel
theorem dX9_workOff_0 : decode cX9_workOff 0 = .ok (.iconst 0, 1) := by decide +kernel
theorem dX9_workOff_1 : decode cX9_workOff 1 = .ok (.istore 4, 2) := by decide +kernel
theorem dX9_workOff_3 : decode cX9_workOff 3 = .ok (.iconst 0, 1) := by decide +kernel
theorem dX9_workOff_4 : decode cX9_workOff 4 = .ok (.istore 5, 2) := by decide +kernel
theorem dX9_workOff_6 : decode cX9_workOff 6 = .ok (.aload_n 0, 1) := by decide +kernel
theorem dX9_workOff_7 : decode cX9_workOff 7 = .ok (.iconst 1, 1) := by decide +kernel
theorem dX9_workOff_8 : decode cX9_workOff 8 = .ok (.putfield 239, 3) := by decide +kernel
theorem dX9_workOff_11 : decode cX9_workOff 11 = .ok (.aload_n 0, 1) := by decide +kernel
theorem dX9_workOff_12 : decode cX9_workOff 12 = .ok (.iconst 0, 1) := by decide +kernel
theorem dX9_workOff_13 : decode cX9_workOff 13 = .ok (.putfield 242, 3) := by decide +kernel
theorem dX9_workOff_16 : decode cX9_workOff 16 = .ok (.iload_n 2, 1) := by decide +kernel
theorem dX9_workOff_17 : decode cX9_workOff 17 = .ok (.istore 6, 2) := by decide +kernel
theorem dX9_workOff_19 : decode cX9_workOff 19 = .ok (.iload 6, 2) := by decide +kernel
theorem dX9_workOff_21 : decode cX9_workOff 21 = .ok (.iload_n 2, 1) := by decide +kernel
theorem dX9_workOff_22 : decode cX9_workOff 22 = .ok (.iload_n 3, 1) := by decide +kernel
theorem dX9_workOff_23 : decode cX9_workOff 23 = .ok (.iadd, 1) := by decide +kernel
theorem dX9_workOff_24 : decode cX9_workOff 24 = .ok (.if_icmp .ge 283, 3) := by decide +kernel
theorem dX9_workOff_27 : decode cX9_workOff 27 = .ok (.aload_n 1, 1) := by decide +kernel
theorem dX9_workOff_28 : decode cX9_workOff 28 = .ok (.iload 6, 2) := by decide +kernel
theorem dX9_workOff_30 : decode cX9_workOff 30 = .ok (.iaload, 1) := by decide +kernel
theorem dX9_workOff_31 : decode cX9_workOff 31 = .ok (.istore 7, 2) := by decide +kernel
theorem dX9_workOff_33 : decode cX9_workOff 33 = .ok (.iload 7, 2) := by decide +kernel
theorem dX9_workOff_35 : decode cX9_workOff 35 = .ok (.i2l, 1) := by decide +kernel
theorem dX9_workOff_36 : decode cX9_workOff 36 = .ok (.ldc2_w 210, 3) := by decide +kernel
theorem dX9_workOff_39 : decode cX9_workOff 39 = .ok (.ldc2_w 212, 3) := by decide +kernel
theorem dX9_workOff_42 : decode cX9_workOff 42 = .ok (.invokestatic 92, 3) := by decide +kernel
theorem dX9_workOff_45 : decode cX9_workOff 45 = .ok (.ifCond .eq 58, 3) := by decide +kernel
theorem dX9_workOff_48 : decode cX9_workOff 48 = .ok (.iload 7, 2) := by decide +kernel
theorem dX9_workOff_50 : decode cX9_workOff 50 = .ok (.bipush 48, 2) := by decide +kernel
theorem dX9_workOff_52 : decode cX9_workOff 52 = .ok (.isub, 1) := by decide +kernel
theorem dX9_workOff_53 : decode cX9_workOff 53 = .ok (.istore 8, 2) := by decide +kernel
theorem dX9_workOff_55 : decode cX9_workOff 55 = .ok (.aload_n 0, 1) := by decide +kernel
theorem dX9_workOff_56 : decode cX9_workOff 56 = .ok (.getfield 49, 3) := by decide +kernel
theorem dX9_workOff_59 : decode cX9_workOff 59 = .ok (.iload 4, 2) := by decide +kernel
theorem dX9_workOff_61 : decode cX9_workOff 61 = .ok (.iconst 1, 1) := by decide +kernel
theorem dX9_workOff_62 : decode cX9_workOff 62 = .ok (.iload 8, 2) := by decide +kernel
theorem dX9_workOff_64 : decode cX9_workOff 64 = .ok (.ishl, 1) := by decide +kernel
theorem dX9_workOff_65 : decode cX9_workOff 65 = .ok (.iastore, 1) := by decide +kernel
theorem dX9_workOff_66 : decode cX9_workOff 66 = .ok (.aload_n 0, 1) := by decide +kernel
theorem dX9_workOff_67 : decode cX9_workOff 67 = .ok (.getfield 52, 3) := by decide +kernel
theorem dX9_workOff_70 : decode cX9_workOff 70 = .ok (.iload 4, 2) := by decide +kernel
theorem dX9_workOff_72 : decode cX9_workOff 72 = .ok (.aload_n 0, 1) := by decide +kernel
theorem dX9_workOff_73 : decode cX9_workOff 73 = .ok (.getfield 46, 3) := by decide +kernel
theorem dX9_workOff_76 : decode cX9_workOff 76 = .ok (.iconst 1, 1) := by decide +kernel
theorem dX9_workOff_77 : decode cX9_workOff 77 = .ok (.iload 8, 2) := by decide +kernel
theorem dX9_workOff_79 : decode cX9_workOff 79 = .ok (.ishl, 1) := by decide +kernel
theorem dX9_workOff_80 : decode cX9_workOff 80 = .ok (.iaload, 1) := by decide +kernel
theorem dX9_workOff_81 : decode cX9_workOff 81 = .ok (.iastore, 1) := by decide +kernel
theorem dX9_workOff_82 : decode cX9_workOff 82 = .ok (.aload_n 0, 1) := by decide +kernel
theorem dX9_workOff_83 : decode cX9_workOff 83 = .ok (.getfield 55, 3) := by decide +kernel
theorem dX9_workOff_86 : decode cX9_workOff 86 = .ok (.iload 4, 2) := by decide +kernel
theorem dX9_workOff_88 : decode cX9_workOff 88 = .ok (.aload_n 0, 1) := by decide +kernel
theorem dX9_workOff_89 : decode cX9_workOff 89 = .ok (.iload 8, 2) := by decide +kernel
theorem dX9_workOff_91 : decode cX9_workOff 91 = .ok (.invokevirtual 146, 3) := by decide +kernel
theorem dX9_workOff_94 : decode cX9_workOff 94 = .ok (.iconst 1, 1) := by decide +kernel
theorem dX9_workOff_95 : decode cX9_workOff 95 = .ok (.iadd, 1) := by decide +kernel
theorem dX9_workOff_96 : decode cX9_workOff 96 = .ok (.iastore, 1) := by decide +kernel
theorem dX9_workOff_97 : decode cX9_workOff 97 = .ok (.iinc 4 1, 3) := by decide +kernel
theorem dX9_workOff_100 : decode cX9_workOff 100 = .ok (.goto 201, 3) := by decide +kernel
theorem dX9_workOff_103 : decode cX9_workOff 103 = .ok (.iload 7, 2) := by decide +kernel
theorem dX9_workOff_105 : decode cX9_workOff 105 = .ok (.bipush 41, 2) := by decide +kernel
theorem dX9_workOff_107 : decode cX9_workOff 107 = .ok (.if_icmp .ne 175, 3) := by decide +kernel
theorem dX9_workOff_110 : decode cX9_workOff 110 = .ok (.iinc 5 (-1), 3) := by decide +kernel
theorem dX9_workOff_113 : decode cX9_workOff 113 = .ok (.iinc 4 (-1), 3) := by decide +kernel
theorem dX9_workOff_116 : decode cX9_workOff 116 = .ok (.aload_n 0, 1) := by decide +kernel
theorem dX9_workOff_117 : decode cX9_workOff 117 = .ok (.dup, 1) := by decide +kernel
theorem dX9_workOff_118 : decode cX9_workOff 118 = .ok (.getfield 242, 3) := by decide +kernel
theorem dX9_workOff_121 : decode cX9_workOff 121 = .ok (.iconst 1, 1) := by decide +kernel
theorem dX9_workOff_122 : decode cX9_workOff 122 = .ok (.iadd, 1) := by decide +kernel
theorem dX9_workOff_123 : decode cX9_workOff 123 = .ok (.putfield 242, 3) := by decide +kernel
theorem dX9_workOff_126 : decode cX9_workOff 126 = .ok (.aload_n 0, 1) := by decide +kernel
theorem dX9_workOff_127 : decode cX9_workOff 127 = .ok (.aload_n 0, 1) := by decide +kernel
theorem dX9_workOff_128 : decode cX9_workOff 128 = .ok (.getfield 58, 3) := by decide +kernel
theorem dX9_workOff_131 : decode cX9_workOff 131 = .ok (.iload 5, 2) := by decide +kernel
theorem dX9_workOff_133 : decode cX9_workOff 133 = .ok (.iaload, 1) := by decide +kernel
theorem dX9_workOff_134 : decode cX9_workOff 134 = .ok (.aload_n 0, 1) := by decide +kernel
theorem dX9_workOff_135 : decode cX9_workOff 135 = .ok (.getfield 49, 3) := by decide +kernel
theorem dX9_workOff_138 : decode cX9_workOff 138 = .ok (.iload 4, 2) := by decide +kernel
theorem dX9_workOff_140 : decode cX9_workOff 140 = .ok (.iconst 1, 1) := by decide +kernel
theorem dX9_workOff_141 : decode cX9_workOff 141 = .ok (.isub, 1) := by decide +kernel
theorem dX9_workOff_142 : decode cX9_workOff 142 = .ok (.iaload, 1) := by decide +kernel
theorem dX9_workOff_143 : decode cX9_workOff 143 = .ok (.aload_n 0, 1) := by decide +kernel
theorem dX9_workOff_144 : decode cX9_workOff 144 = .ok (.getfield 49, 3) := by decide +kernel
theorem dX9_workOff_147 : decode cX9_workOff 147 = .ok (.iload 4, 2) := by decide +kernel
theorem dX9_workOff_149 : decode cX9_workOff 149 = .ok (.iaload, 1) := by decide +kernel
theorem dX9_workOff_150 : decode cX9_workOff 150 = .ok (.aload_n 0, 1) := by decide +kernel
theorem dX9_workOff_151 : decode cX9_workOff 151 = .ok (.getfield 55, 3) := by decide +kernel
theorem dX9_workOff_154 : decode cX9_workOff 154 = .ok (.iload 4, 2) := by decide +kernel
theorem dX9_workOff_156 : decode cX9_workOff 156 = .ok (.iconst 1, 1) := by decide +kernel
theorem dX9_workOff_157 : decode cX9_workOff 157 = .ok (.isub, 1) := by decide +kernel
theorem dX9_workOff_158 : decode cX9_workOff 158 = .ok (.iaload, 1) := by decide +kernel
theorem dX9_workOff_159 : decode cX9_workOff 159 = .ok (.aload_n 0, 1) := by decide +kernel
theorem dX9_workOff_160 : decode cX9_workOff 160 = .ok (.getfield 55, 3) := by decide +kernel
theorem dX9_workOff_163 : decode cX9_workOff 163 = .ok (.iload 4, 2) := by decide +kernel
theorem dX9_workOff_165 : decode cX9_workOff 165 = .ok (.iaload, 1) := by decide +kernel
theorem dX9_workOff_166 : decode cX9_workOff 166 = .ok (.invokevirtual 245, 3) := by decide +kernel
theorem dX9_workOff_169 : decode cX9_workOff 169 = .ok (.istore 8, 2) := by decide +kernel
theorem dX9_workOff_171 : decode cX9_workOff 171 = .ok (.aload_n 0, 1) := by decide +kernel
theorem dX9_workOff_172 : decode cX9_workOff 172 = .ok (.aload_n 0, 1) := by decide +kernel
theorem dX9_workOff_173 : decode cX9_workOff 173 = .ok (.getfield 239, 3) := by decide +kernel
theorem dX9_workOff_176 : decode cX9_workOff 176 = .ok (.ifCond .eq 13, 3) := by decide +kernel
theorem dX9_workOff_179 : decode cX9_workOff 179 = .ok (.iload 8, 2) := by decide +kernel
theorem dX9_workOff_181 : decode cX9_workOff 181 = .ok (.iconst (-1), 1) := by decide +kernel
theorem dX9_workOff_182 : decode cX9_workOff 182 = .ok (.if_icmp .eq 7, 3) := by decide +kernel
theorem dX9_workOff_185 : decode cX9_workOff 185 = .ok (.iconst 1, 1) := by decide +kernel
theorem dX9_workOff_186 : decode cX9_workOff 186 = .ok (.goto 4, 3) := by decide +kernel
theorem dX9_workOff_189 : decode cX9_workOff 189 = .ok (.iconst 0, 1) := by decide +kernel
theorem dX9_workOff_190 : decode cX9_workOff 190 = .ok (.putfield 239, 3) := by decide +kernel
theorem dX9_workOff_193 : decode cX9_workOff 193 = .ok (.aload_n 0, 1) := by decide +kernel
theorem dX9_workOff_194 : decode cX9_workOff 194 = .ok (.getfield 55, 3) := by decide +kernel
theorem dX9_workOff_197 : decode cX9_workOff 197 = .ok (.iload 4, 2) := by decide +kernel
theorem dX9_workOff_199 : decode cX9_workOff 199 = .ok (.iconst 1, 1) := by decide +kernel
theorem dX9_workOff_200 : decode cX9_workOff 200 = .ok (.isub, 1) := by decide +kernel
theorem dX9_workOff_201 : decode cX9_workOff 201 = .ok (.aload_n 0, 1) := by decide +kernel
theorem dX9_workOff_202 : decode cX9_workOff 202 = .ok (.aload_n 0, 1) := by decide +kernel
theorem dX9_workOff_203 : decode cX9_workOff 203 = .ok (.getfield 58, 3) := by decide +kernel
theorem dX9_workOff_206 : decode cX9_workOff 206 = .ok (.iload 5, 2) := by decide +kernel
theorem dX9_workOff_208 : decode cX9_workOff 208 = .ok (.iaload, 1) := by decide +kernel
theorem dX9_workOff_209 : decode cX9_workOff 209 = .ok (.aload_n 0, 1) := by decide +kernel
theorem dX9_workOff_210 : decode cX9_workOff 210 = .ok (.getfield 49, 3) := by decide +kernel
theorem dX9_workOff_213 : decode cX9_workOff 213 = .ok (.iload 4, 2) := by decide +kernel
theorem dX9_workOff_215 : decode cX9_workOff 215 = .ok (.iconst 1, 1) := by decide +kernel
theorem dX9_workOff_216 : decode cX9_workOff 216 = .ok (.isub, 1) := by decide +kernel
theorem dX9_workOff_217 : decode cX9_workOff 217 = .ok (.iaload, 1) := by decide +kernel
theorem dX9_workOff_218 : decode cX9_workOff 218 = .ok (.aload_n 0, 1) := by decide +kernel
theorem dX9_workOff_219 : decode cX9_workOff 219 = .ok (.getfield 49, 3) := by decide +kernel
theorem dX9_workOff_222 : decode cX9_workOff 222 = .ok (.iload 4, 2) := by decide +kernel
theorem dX9_workOff_224 : decode cX9_workOff 224 = .ok (.iaload, 1) := by decide +kernel
theorem dX9_workOff_225 : decode cX9_workOff 225 = .ok (.aload_n 0, 1) := by decide +kernel
theorem dX9_workOff_226 : decode cX9_workOff 226 = .ok (.getfield 55, 3) := by decide +kernel
theorem dX9_workOff_229 : decode cX9_workOff 229 = .ok (.iload 4, 2) := by decide +kernel
theorem dX9_workOff_231 : decode cX9_workOff 231 = .ok (.iconst 1, 1) := by decide +kernel
theorem dX9_workOff_232 : decode cX9_workOff 232 = .ok (.isub, 1) := by decide +kernel
theorem dX9_workOff_233 : decode cX9_workOff 233 = .ok (.iaload, 1) := by decide +kernel
theorem dX9_workOff_234 : decode cX9_workOff 234 = .ok (.invokevirtual 249, 3) := by decide +kernel
theorem dX9_workOff_237 : decode cX9_workOff 237 = .ok (.iastore, 1) := by decide +kernel
theorem dX9_workOff_238 : decode cX9_workOff 238 = .ok (.aload_n 0, 1) := by decide +kernel
theorem dX9_workOff_239 : decode cX9_workOff 239 = .ok (.getfield 52, 3) := by decide +kernel
theorem dX9_workOff_242 : decode cX9_workOff 242 = .ok (.iload 4, 2) := by decide +kernel
theorem dX9_workOff_244 : decode cX9_workOff 244 = .ok (.iconst 1, 1) := by decide +kernel
theorem dX9_workOff_245 : decode cX9_workOff 245 = .ok (.isub, 1) := by decide +kernel
theorem dX9_workOff_246 : decode cX9_workOff 246 = .ok (.dup2, 1) := by decide +kernel
theorem dX9_workOff_247 : decode cX9_workOff 247 = .ok (.iaload, 1) := by decide +kernel
theorem dX9_workOff_248 : decode cX9_workOff 248 = .ok (.aload_n 0, 1) := by decide +kernel
theorem dX9_workOff_249 : decode cX9_workOff 249 = .ok (.getfield 52, 3) := by decide +kernel
theorem dX9_workOff_252 : decode cX9_workOff 252 = .ok (.iload 4, 2) := by decide +kernel
theorem dX9_workOff_254 : decode cX9_workOff 254 = .ok (.iaload, 1) := by decide +kernel
theorem dX9_workOff_255 : decode cX9_workOff 255 = .ok (.iload 8, 2) := by decide +kernel
theorem dX9_workOff_257 : decode cX9_workOff 257 = .ok (.iadd, 1) := by decide +kernel
theorem dX9_workOff_258 : decode cX9_workOff 258 = .ok (.iadd, 1) := by decide +kernel
theorem dX9_workOff_259 : decode cX9_workOff 259 = .ok (.iastore, 1) := by decide +kernel
theorem dX9_workOff_260 : decode cX9_workOff 260 = .ok (.aload_n 0, 1) := by decide +kernel
theorem dX9_workOff_261 : decode cX9_workOff 261 = .ok (.getfield 49, 3) := by decide +kernel
theorem dX9_workOff_264 : decode cX9_workOff 264 = .ok (.iload 4, 2) := by decide +kernel
theorem dX9_workOff_266 : decode cX9_workOff 266 = .ok (.iconst 1, 1) := by decide +kernel
theorem dX9_workOff_267 : decode cX9_workOff 267 = .ok (.isub, 1) := by decide +kernel
theorem dX9_workOff_268 : decode cX9_workOff 268 = .ok (.dup2, 1) := by decide +kernel
theorem dX9_workOff_269 : decode cX9_workOff 269 = .ok (.iaload, 1) := by decide +kernel
theorem dX9_workOff_270 : decode cX9_workOff 270 = .ok (.aload_n 0, 1) := by decide +kernel
theorem dX9_workOff_271 : decode cX9_workOff 271 = .ok (.getfield 49, 3) := by decide +kernel
theorem dX9_workOff_274 : decode cX9_workOff 274 = .ok (.iload 4, 2) := by decide +kernel
theorem dX9_workOff_276 : decode cX9_workOff 276 = .ok (.iaload, 1) := by decide +kernel
theorem dX9_workOff_277 : decode cX9_workOff 277 = .ok (.ior, 1) := by decide +kernel
theorem dX9_workOff_278 : decode cX9_workOff 278 = .ok (.iastore, 1) := by decide +kernel
theorem dX9_workOff_279 : decode cX9_workOff 279 = .ok (.goto 22, 3) := by decide +kernel
theorem dX9_workOff_282 : decode cX9_workOff 282 = .ok (.iload 7, 2) := by decide +kernel
theorem dX9_workOff_284 : decode cX9_workOff 284 = .ok (.bipush 40, 2) := by decide +kernel
theorem dX9_workOff_286 : decode cX9_workOff 286 = .ok (.if_icmp .eq 15, 3) := by decide +kernel
theorem dX9_workOff_289 : decode cX9_workOff 289 = .ok (.aload_n 0, 1) := by decide +kernel
theorem dX9_workOff_290 : decode cX9_workOff 290 = .ok (.getfield 58, 3) := by decide +kernel
theorem dX9_workOff_293 : decode cX9_workOff 293 = .ok (.iload 5, 2) := by decide +kernel
theorem dX9_workOff_295 : decode cX9_workOff 295 = .ok (.iload 7, 2) := by decide +kernel
theorem dX9_workOff_297 : decode cX9_workOff 297 = .ok (.iastore, 1) := by decide +kernel
theorem dX9_workOff_298 : decode cX9_workOff 298 = .ok (.iinc 5 1, 3) := by decide +kernel
theorem dX9_workOff_301 : decode cX9_workOff 301 = .ok (.iinc 6 1, 3) := by decide +kernel
theorem dX9_workOff_304 : decode cX9_workOff 304 = .ok (.goto (-285), 3) := by decide +kernel
theorem dX9_workOff_307 : decode cX9_workOff 307 = .ok (.return_, 1) := by decide +kernel
theorem dX9_plan_0 : decode cX9_plan 0 = .ok (.iload_n 1, 1) := by decide +kernel
theorem dX9_plan_1 : decode cX9_plan 1 = .ok (.i2l, 1) := by decide +kernel
theorem dX9_plan_2 : decode cX9_plan 2 = .ok (.lconst 0, 1) := by decide +kernel
theorem dX9_plan_3 : decode cX9_plan 3 = .ok (.lconst 1, 1) := by decide +kernel
theorem dX9_plan_4 : decode cX9_plan 4 = .ok (.invokestatic 92, 3) := by decide +kernel
theorem dX9_plan_7 : decode cX9_plan 7 = .ok (.ifCond .eq 15, 3) := by decide +kernel
theorem dX9_plan_10 : decode cX9_plan 10 = .ok (.iload_n 2, 1) := by decide +kernel
theorem dX9_plan_11 : decode cX9_plan 11 = .ok (.i2l, 1) := by decide +kernel
theorem dX9_plan_12 : decode cX9_plan 12 = .ok (.lconst 0, 1) := by decide +kernel
theorem dX9_plan_13 : decode cX9_plan 13 = .ok (.ldc2_w 155, 3) := by decide +kernel
theorem dX9_plan_16 : decode cX9_plan 16 = .ok (.invokestatic 92, 3) := by decide +kernel
theorem dX9_plan_19 : decode cX9_plan 19 = .ok (.ifCond .ne 6, 3) := by decide +kernel
theorem dX9_plan_22 : decode cX9_plan 22 = .ok (.bipush (-102), 2) := by decide +kernel
theorem dX9_plan_24 : decode cX9_plan 24 = .ok (.ireturn, 1) := by decide +kernel
theorem dX9_plan_25 : decode cX9_plan 25 = .ok (.aload_n 0, 1) := by decide +kernel
theorem dX9_plan_26 : decode cX9_plan 26 = .ok (.invokevirtual 226, 3) := by decide +kernel
theorem dX9_plan_29 : decode cX9_plan 29 = .ok (.aload_n 0, 1) := by decide +kernel
theorem dX9_plan_30 : decode cX9_plan 30 = .ok (.getfield 201, 3) := by decide +kernel
theorem dX9_plan_33 : decode cX9_plan 33 = .ok (.if_icmp .lt 10, 3) := by decide +kernel
theorem dX9_plan_36 : decode cX9_plan 36 = .ok (.aload_n 0, 1) := by decide +kernel
theorem dX9_plan_37 : decode cX9_plan 37 = .ok (.getfield 207, 3) := by decide +kernel
theorem dX9_plan_40 : decode cX9_plan 40 = .ok (.ifCond .ne 6, 3) := by decide +kernel
theorem dX9_plan_43 : decode cX9_plan 43 = .ok (.bipush (-103), 2) := by decide +kernel
theorem dX9_plan_45 : decode cX9_plan 45 = .ok (.ireturn, 1) := by decide +kernel
theorem dX9_plan_46 : decode cX9_plan 46 = .ok (.aload_n 0, 1) := by decide +kernel
theorem dX9_plan_47 : decode cX9_plan 47 = .ok (.iload_n 1, 1) := by decide +kernel
theorem dX9_plan_48 : decode cX9_plan 48 = .ok (.invokevirtual 253, 3) := by decide +kernel
theorem dX9_plan_51 : decode cX9_plan 51 = .ok (.aload_n 0, 1) := by decide +kernel
theorem dX9_plan_52 : decode cX9_plan 52 = .ok (.aload_n 0, 1) := by decide +kernel
theorem dX9_plan_53 : decode cX9_plan 53 = .ok (.getfield 40, 3) := by decide +kernel
theorem dX9_plan_56 : decode cX9_plan 56 = .ok (.iconst 0, 1) := by decide +kernel
theorem dX9_plan_57 : decode cX9_plan 57 = .ok (.aload_n 0, 1) := by decide +kernel
theorem dX9_plan_58 : decode cX9_plan 58 = .ok (.getfield 201, 3) := by decide +kernel
theorem dX9_plan_61 : decode cX9_plan 61 = .ok (.invokevirtual 256, 3) := by decide +kernel
theorem dX9_plan_64 : decode cX9_plan 64 = .ok (.iload_n 2, 1) := by decide +kernel
theorem dX9_plan_65 : decode cX9_plan 65 = .ok (.ifCond .eq 8, 3) := by decide +kernel
theorem dX9_plan_68 : decode cX9_plan 68 = .ok (.iload_n 2, 1) := by decide +kernel
theorem dX9_plan_69 : decode cX9_plan 69 = .ok (.iconst 3, 1) := by decide +kernel
theorem dX9_plan_70 : decode cX9_plan 70 = .ok (.if_icmp .ne 21, 3) := by decide +kernel
theorem dX9_plan_73 : decode cX9_plan 73 = .ok (.iload_n 2, 1) := by decide +kernel
theorem dX9_plan_74 : decode cX9_plan 74 = .ok (.ifCond .ne 12, 3) := by decide +kernel
theorem dX9_plan_77 : decode cX9_plan 77 = .ok (.aload_n 0, 1) := by decide +kernel
theorem dX9_plan_78 : decode cX9_plan 78 = .ok (.getfield 49, 3) := by decide +kernel
theorem dX9_plan_81 : decode cX9_plan 81 = .ok (.iconst 0, 1) := by decide +kernel
theorem dX9_plan_82 : decode cX9_plan 82 = .ok (.iaload, 1) := by decide +kernel
theorem dX9_plan_83 : decode cX9_plan 83 = .ok (.goto 7, 3) := by decide +kernel
theorem dX9_plan_86 : decode cX9_plan 86 = .ok (.aload_n 0, 1) := by decide +kernel
theorem dX9_plan_87 : decode cX9_plan 87 = .ok (.getfield 242, 3) := by decide +kernel
theorem dX9_plan_90 : decode cX9_plan 90 = .ok (.ireturn, 1) := by decide +kernel
theorem dX9_plan_91 : decode cX9_plan 91 = .ok (.aload_n 0, 1) := by decide +kernel
theorem dX9_plan_92 : decode cX9_plan 92 = .ok (.getfield 239, 3) := by decide +kernel
theorem dX9_plan_95 : decode cX9_plan 95 = .ok (.ifCond .ne 8, 3) := by decide +kernel
theorem dX9_plan_98 : decode cX9_plan 98 = .ok (.bipush (-2), 2) := by decide +kernel
theorem dX9_plan_100 : decode cX9_plan 100 = .ok (.goto 25, 3) := by decide +kernel
theorem dX9_plan_103 : decode cX9_plan 103 = .ok (.iload_n 2, 1) := by decide +kernel
theorem dX9_plan_104 : decode cX9_plan 104 = .ok (.iconst 1, 1) := by decide +kernel
theorem dX9_plan_105 : decode cX9_plan 105 = .ok (.if_icmp .ne 12, 3) := by decide +kernel
theorem dX9_plan_108 : decode cX9_plan 108 = .ok (.aload_n 0, 1) := by decide +kernel
theorem dX9_plan_109 : decode cX9_plan 109 = .ok (.getfield 52, 3) := by decide +kernel
theorem dX9_plan_112 : decode cX9_plan 112 = .ok (.iconst 0, 1) := by decide +kernel
theorem dX9_plan_113 : decode cX9_plan 113 = .ok (.iaload, 1) := by decide +kernel
theorem dX9_plan_114 : decode cX9_plan 114 = .ok (.goto 11, 3) := by decide +kernel
theorem dX9_plan_117 : decode cX9_plan 117 = .ok (.aload_n 0, 1) := by decide +kernel
theorem dX9_plan_118 : decode cX9_plan 118 = .ok (.getfield 55, 3) := by decide +kernel
theorem dX9_plan_121 : decode cX9_plan 121 = .ok (.iconst 0, 1) := by decide +kernel
theorem dX9_plan_122 : decode cX9_plan 122 = .ok (.iaload, 1) := by decide +kernel
theorem dX9_plan_123 : decode cX9_plan 123 = .ok (.iconst 1, 1) := by decide +kernel
theorem dX9_plan_124 : decode cX9_plan 124 = .ok (.isub, 1) := by decide +kernel
theorem dX9_plan_125 : decode cX9_plan 125 = .ok (.ireturn, 1) := by decide +kernel
theorem dX9_signsOf_0 : decode cX9_signsOf 0 = .ok (.iconst 4, 1) := by decide +kernel
theorem dX9_signsOf_1 : decode cX9_signsOf 1 = .ok (.iload_n 0, 1) := by decide +kernel
theorem dX9_signsOf_2 : decode cX9_signsOf 2 = .ok (.invokestatic 98, 3) := by decide +kernel
theorem dX9_signsOf_5 : decode cX9_signsOf 5 = .ok (.imul, 1) := by decide +kernel
theorem dX9_signsOf_6 : decode cX9_signsOf 6 = .ok (.iconst 3, 1) := by decide +kernel
theorem dX9_signsOf_7 : decode cX9_signsOf 7 = .ok (.isub, 1) := by decide +kernel
theorem dX9_signsOf_8 : decode cX9_signsOf 8 = .ok (.ireturn, 1) := by decide +kernel
theorem dX9_offer_0 : decode cX9_offer 0 = .ok (.bipush 9, 2) := by decide +kernel
theorem dX9_offer_2 : decode cX9_offer 2 = .ok (.iload_n 1, 1) := by decide +kernel
theorem dX9_offer_3 : decode cX9_offer 3 = .ok (.imul, 1) := by decide +kernel
theorem dX9_offer_4 : decode cX9_offer 4 = .ok (.iload_n 2, 1) := by decide +kernel
theorem dX9_offer_5 : decode cX9_offer 5 = .ok (.iadd, 1) := by decide +kernel
theorem dX9_offer_6 : decode cX9_offer 6 = .ok (.istore 4, 2) := by decide +kernel
theorem dX9_offer_8 : decode cX9_offer 8 = .ok (.aload_n 0, 1) := by decide +kernel
theorem dX9_offer_9 : decode cX9_offer 9 = .ok (.getfield 61, 3) := by decide +kernel
theorem dX9_offer_12 : decode cX9_offer 12 = .ok (.iload 4, 2) := by decide +kernel
theorem dX9_offer_14 : decode cX9_offer 14 = .ok (.iaload, 1) := by decide +kernel
theorem dX9_offer_15 : decode cX9_offer 15 = .ok (.iconst (-1), 1) := by decide +kernel
theorem dX9_offer_16 : decode cX9_offer 16 = .ok (.if_icmp .ne 7, 3) := by decide +kernel
theorem dX9_offer_19 : decode cX9_offer 19 = .ok (.iconst (-1), 1) := by decide +kernel
theorem dX9_offer_20 : decode cX9_offer 20 = .ok (.goto 12, 3) := by decide +kernel
theorem dX9_offer_23 : decode cX9_offer 23 = .ok (.iload_n 3, 1) := by decide +kernel
theorem dX9_offer_24 : decode cX9_offer 24 = .ok (.aload_n 0, 1) := by decide +kernel
theorem dX9_offer_25 : decode cX9_offer 25 = .ok (.getfield 61, 3) := by decide +kernel
theorem dX9_offer_28 : decode cX9_offer 28 = .ok (.iload 4, 2) := by decide +kernel
theorem dX9_offer_30 : decode cX9_offer 30 = .ok (.iaload, 1) := by decide +kernel
theorem dX9_offer_31 : decode cX9_offer 31 = .ok (.isub, 1) := by decide +kernel
theorem dX9_offer_32 : decode cX9_offer 32 = .ok (.istore 5, 2) := by decide +kernel
theorem dX9_offer_34 : decode cX9_offer 34 = .ok (.iconst 0, 1) := by decide +kernel
theorem dX9_offer_35 : decode cX9_offer 35 = .ok (.istore 6, 2) := by decide +kernel
theorem dX9_offer_37 : decode cX9_offer 37 = .ok (.iload 6, 2) := by decide +kernel
theorem dX9_offer_39 : decode cX9_offer 39 = .ok (.aload_n 0, 1) := by decide +kernel
theorem dX9_offer_40 : decode cX9_offer 40 = .ok (.getfield 260, 3) := by decide +kernel
theorem dX9_offer_43 : decode cX9_offer 43 = .ok (.if_icmp .ge 37, 3) := by decide +kernel
theorem dX9_offer_46 : decode cX9_offer 46 = .ok (.iload 5, 2) := by decide +kernel
theorem dX9_offer_48 : decode cX9_offer 48 = .ok (.ifCond .ne 32, 3) := by decide +kernel
theorem dX9_offer_51 : decode cX9_offer 51 = .ok (.aload_n 0, 1) := by decide +kernel
theorem dX9_offer_52 : decode cX9_offer 52 = .ok (.getfield 67, 3) := by decide +kernel
theorem dX9_offer_55 : decode cX9_offer 55 = .ok (.iload 6, 2) := by decide +kernel
theorem dX9_offer_57 : decode cX9_offer 57 = .ok (.iaload, 1) := by decide +kernel
theorem dX9_offer_58 : decode cX9_offer 58 = .ok (.aload_n 0, 1) := by decide +kernel
theorem dX9_offer_59 : decode cX9_offer 59 = .ok (.getfield 64, 3) := by decide +kernel
theorem dX9_offer_62 : decode cX9_offer 62 = .ok (.bipush 21, 2) := by decide +kernel
theorem dX9_offer_64 : decode cX9_offer 64 = .ok (.iload 4, 2) := by decide +kernel
theorem dX9_offer_66 : decode cX9_offer 66 = .ok (.imul, 1) := by decide +kernel
theorem dX9_offer_67 : decode cX9_offer 67 = .ok (.iload 6, 2) := by decide +kernel
theorem dX9_offer_69 : decode cX9_offer 69 = .ok (.iadd, 1) := by decide +kernel
theorem dX9_offer_70 : decode cX9_offer 70 = .ok (.iaload, 1) := by decide +kernel
theorem dX9_offer_71 : decode cX9_offer 71 = .ok (.isub, 1) := by decide +kernel
theorem dX9_offer_72 : decode cX9_offer 72 = .ok (.istore 5, 2) := by decide +kernel
theorem dX9_offer_74 : decode cX9_offer 74 = .ok (.iinc 6 1, 3) := by decide +kernel
theorem dX9_offer_77 : decode cX9_offer 77 = .ok (.goto (-40), 3) := by decide +kernel
theorem dX9_offer_80 : decode cX9_offer 80 = .ok (.iload 5, 2) := by decide +kernel
theorem dX9_offer_82 : decode cX9_offer 82 = .ok (.ifCond .ge 49, 3) := by decide +kernel
theorem dX9_offer_85 : decode cX9_offer 85 = .ok (.aload_n 0, 1) := by decide +kernel
theorem dX9_offer_86 : decode cX9_offer 86 = .ok (.getfield 61, 3) := by decide +kernel
theorem dX9_offer_89 : decode cX9_offer 89 = .ok (.iload 4, 2) := by decide +kernel
theorem dX9_offer_91 : decode cX9_offer 91 = .ok (.iload_n 3, 1) := by decide +kernel
theorem dX9_offer_92 : decode cX9_offer 92 = .ok (.iastore, 1) := by decide +kernel
theorem dX9_offer_93 : decode cX9_offer 93 = .ok (.iconst 0, 1) := by decide +kernel
theorem dX9_offer_94 : decode cX9_offer 94 = .ok (.istore 6, 2) := by decide +kernel
theorem dX9_offer_96 : decode cX9_offer 96 = .ok (.iload 6, 2) := by decide +kernel
theorem dX9_offer_98 : decode cX9_offer 98 = .ok (.aload_n 0, 1) := by decide +kernel
theorem dX9_offer_99 : decode cX9_offer 99 = .ok (.getfield 260, 3) := by decide +kernel
theorem dX9_offer_102 : decode cX9_offer 102 = .ok (.if_icmp .ge 29, 3) := by decide +kernel
theorem dX9_offer_105 : decode cX9_offer 105 = .ok (.aload_n 0, 1) := by decide +kernel
theorem dX9_offer_106 : decode cX9_offer 106 = .ok (.getfield 64, 3) := by decide +kernel
theorem dX9_offer_109 : decode cX9_offer 109 = .ok (.bipush 21, 2) := by decide +kernel
theorem dX9_offer_111 : decode cX9_offer 111 = .ok (.iload 4, 2) := by decide +kernel
theorem dX9_offer_113 : decode cX9_offer 113 = .ok (.imul, 1) := by decide +kernel
theorem dX9_offer_114 : decode cX9_offer 114 = .ok (.iload 6, 2) := by decide +kernel
theorem dX9_offer_116 : decode cX9_offer 116 = .ok (.iadd, 1) := by decide +kernel
theorem dX9_offer_117 : decode cX9_offer 117 = .ok (.aload_n 0, 1) := by decide +kernel
theorem dX9_offer_118 : decode cX9_offer 118 = .ok (.getfield 67, 3) := by decide +kernel
theorem dX9_offer_121 : decode cX9_offer 121 = .ok (.iload 6, 2) := by decide +kernel
theorem dX9_offer_123 : decode cX9_offer 123 = .ok (.iaload, 1) := by decide +kernel
theorem dX9_offer_124 : decode cX9_offer 124 = .ok (.iastore, 1) := by decide +kernel
theorem dX9_offer_125 : decode cX9_offer 125 = .ok (.iinc 6 1, 3) := by decide +kernel
theorem dX9_offer_128 : decode cX9_offer 128 = .ok (.goto (-32), 3) := by decide +kernel
theorem dX9_offer_131 : decode cX9_offer 131 = .ok (.return_, 1) := by decide +kernel
theorem dX9_putSign_0 : decode cX9_putSign 0 = .ok (.aload_n 0, 1) := by decide +kernel
theorem dX9_putSign_1 : decode cX9_putSign 1 = .ok (.getfield 67, 3) := by decide +kernel
theorem dX9_putSign_4 : decode cX9_putSign 4 = .ok (.aload_n 0, 1) := by decide +kernel
theorem dX9_putSign_5 : decode cX9_putSign 5 = .ok (.getfield 260, 3) := by decide +kernel
theorem dX9_putSign_8 : decode cX9_putSign 8 = .ok (.iload_n 1, 1) := by decide +kernel
theorem dX9_putSign_9 : decode cX9_putSign 9 = .ok (.iastore, 1) := by decide +kernel
theorem dX9_putSign_10 : decode cX9_putSign 10 = .ok (.aload_n 0, 1) := by decide +kernel
theorem dX9_putSign_11 : decode cX9_putSign 11 = .ok (.dup, 1) := by decide +kernel
theorem dX9_putSign_12 : decode cX9_putSign 12 = .ok (.getfield 260, 3) := by decide +kernel
theorem dX9_putSign_15 : decode cX9_putSign 15 = .ok (.iconst 1, 1) := by decide +kernel
theorem dX9_putSign_16 : decode cX9_putSign 16 = .ok (.iadd, 1) := by decide +kernel
theorem dX9_putSign_17 : decode cX9_putSign 17 = .ok (.putfield 260, 3) := by decide +kernel
theorem dX9_putSign_20 : decode cX9_putSign 20 = .ok (.return_, 1) := by decide +kernel
theorem dX9_putText_0 : decode cX9_putText 0 = .ok (.iconst 0, 1) := by decide +kernel
theorem dX9_putText_1 : decode cX9_putText 1 = .ok (.istore_n 3, 1) := by decide +kernel
theorem dX9_putText_2 : decode cX9_putText 2 = .ok (.iload_n 3, 1) := by decide +kernel
theorem dX9_putText_3 : decode cX9_putText 3 = .ok (.iload_n 2, 1) := by decide +kernel
theorem dX9_putText_4 : decode cX9_putText 4 = .ok (.if_icmp .ge 24, 3) := by decide +kernel
theorem dX9_putText_7 : decode cX9_putText 7 = .ok (.aload_n 0, 1) := by decide +kernel
theorem dX9_putText_8 : decode cX9_putText 8 = .ok (.aload_n 0, 1) := by decide +kernel
theorem dX9_putText_9 : decode cX9_putText 9 = .ok (.getfield 64, 3) := by decide +kernel
theorem dX9_putText_12 : decode cX9_putText 12 = .ok (.bipush 21, 2) := by decide +kernel
theorem dX9_putText_14 : decode cX9_putText 14 = .ok (.iload_n 1, 1) := by decide +kernel
theorem dX9_putText_15 : decode cX9_putText 15 = .ok (.imul, 1) := by decide +kernel
theorem dX9_putText_16 : decode cX9_putText 16 = .ok (.iload_n 3, 1) := by decide +kernel
theorem dX9_putText_17 : decode cX9_putText 17 = .ok (.iadd, 1) := by decide +kernel
theorem dX9_putText_18 : decode cX9_putText 18 = .ok (.iaload, 1) := by decide +kernel
theorem dX9_putText_19 : decode cX9_putText 19 = .ok (.invokevirtual 263, 3) := by decide +kernel
theorem dX9_putText_22 : decode cX9_putText 22 = .ok (.iinc 3 1, 3) := by decide +kernel
theorem dX9_putText_25 : decode cX9_putText 25 = .ok (.goto (-23), 3) := by decide +kernel
theorem dX9_putText_28 : decode cX9_putText 28 = .ok (.return_, 1) := by decide +kernel
theorem dX9_joinSides_0 : decode cX9_joinSides 0 = .ok (.iconst 0, 1) := by decide +kernel
theorem dX9_joinSides_1 : decode cX9_joinSides 1 = .ok (.istore_n 3, 1) := by decide +kernel
theorem dX9_joinSides_2 : decode cX9_joinSides 2 = .ok (.iload_n 3, 1) := by decide +kernel
theorem dX9_joinSides_3 : decode cX9_joinSides 3 = .ok (.bipush 9, 2) := by decide +kernel
theorem dX9_joinSides_5 : decode cX9_joinSides 5 = .ok (.if_icmp .ge 200, 3) := by decide +kernel
theorem dX9_joinSides_8 : decode cX9_joinSides 8 = .ok (.iconst 0, 1) := by decide +kernel
theorem dX9_joinSides_9 : decode cX9_joinSides 9 = .ok (.istore 4, 2) := by decide +kernel
theorem dX9_joinSides_11 : decode cX9_joinSides 11 = .ok (.iload 4, 2) := by decide +kernel
theorem dX9_joinSides_13 : decode cX9_joinSides 13 = .ok (.bipush 9, 2) := by decide +kernel
theorem dX9_joinSides_15 : decode cX9_joinSides 15 = .ok (.if_icmp .ge 184, 3) := by decide +kernel
theorem dX9_joinSides_18 : decode cX9_joinSides 18 = .ok (.bipush 9, 2) := by decide +kernel
theorem dX9_joinSides_20 : decode cX9_joinSides 20 = .ok (.iload_n 1, 1) := by decide +kernel
theorem dX9_joinSides_21 : decode cX9_joinSides 21 = .ok (.imul, 1) := by decide +kernel
theorem dX9_joinSides_22 : decode cX9_joinSides 22 = .ok (.iload_n 3, 1) := by decide +kernel
theorem dX9_joinSides_23 : decode cX9_joinSides 23 = .ok (.iadd, 1) := by decide +kernel
theorem dX9_joinSides_24 : decode cX9_joinSides 24 = .ok (.istore 5, 2) := by decide +kernel
theorem dX9_joinSides_26 : decode cX9_joinSides 26 = .ok (.bipush 9, 2) := by decide +kernel
theorem dX9_joinSides_28 : decode cX9_joinSides 28 = .ok (.iload_n 2, 1) := by decide +kernel
theorem dX9_joinSides_29 : decode cX9_joinSides 29 = .ok (.imul, 1) := by decide +kernel
theorem dX9_joinSides_30 : decode cX9_joinSides 30 = .ok (.iload 4, 2) := by decide +kernel
theorem dX9_joinSides_32 : decode cX9_joinSides 32 = .ok (.iadd, 1) := by decide +kernel
theorem dX9_joinSides_33 : decode cX9_joinSides 33 = .ok (.istore 6, 2) := by decide +kernel
theorem dX9_joinSides_35 : decode cX9_joinSides 35 = .ok (.iconst 0, 1) := by decide +kernel
theorem dX9_joinSides_36 : decode cX9_joinSides 36 = .ok (.istore 7, 2) := by decide +kernel
theorem dX9_joinSides_38 : decode cX9_joinSides 38 = .ok (.iload 7, 2) := by decide +kernel
theorem dX9_joinSides_40 : decode cX9_joinSides 40 = .ok (.iconst 3, 1) := by decide +kernel
theorem dX9_joinSides_41 : decode cX9_joinSides 41 = .ok (.if_icmp .ge 152, 3) := by decide +kernel
theorem dX9_joinSides_44 : decode cX9_joinSides 44 = .ok (.aload_n 0, 1) := by decide +kernel
theorem dX9_joinSides_45 : decode cX9_joinSides 45 = .ok (.getfield 61, 3) := by decide +kernel
theorem dX9_joinSides_48 : decode cX9_joinSides 48 = .ok (.iload 5, 2) := by decide +kernel
theorem dX9_joinSides_50 : decode cX9_joinSides 50 = .ok (.iaload, 1) := by decide +kernel
theorem dX9_joinSides_51 : decode cX9_joinSides 51 = .ok (.iconst (-1), 1) := by decide +kernel
theorem dX9_joinSides_52 : decode cX9_joinSides 52 = .ok (.if_icmp .eq 141, 3) := by decide +kernel
theorem dX9_joinSides_55 : decode cX9_joinSides 55 = .ok (.aload_n 0, 1) := by decide +kernel
theorem dX9_joinSides_56 : decode cX9_joinSides 56 = .ok (.getfield 61, 3) := by decide +kernel
theorem dX9_joinSides_59 : decode cX9_joinSides 59 = .ok (.iload 6, 2) := by decide +kernel
theorem dX9_joinSides_61 : decode cX9_joinSides 61 = .ok (.iaload, 1) := by decide +kernel
theorem dX9_joinSides_62 : decode cX9_joinSides 62 = .ok (.iconst (-1), 1) := by decide +kernel
theorem dX9_joinSides_63 : decode cX9_joinSides 63 = .ok (.if_icmp .eq 130, 3) := by decide +kernel
theorem dX9_joinSides_66 : decode cX9_joinSides 66 = .ok (.iload 7, 2) := by decide +kernel
theorem dX9_joinSides_68 : decode cX9_joinSides 68 = .ok (.ifCond .ne 8, 3) := by decide +kernel
theorem dX9_joinSides_71 : decode cX9_joinSides 71 = .ok (.bipush 108, 2) := by decide +kernel
theorem dX9_joinSides_73 : decode cX9_joinSides 73 = .ok (.goto 16, 3) := by decide +kernel
theorem dX9_joinSides_76 : decode cX9_joinSides 76 = .ok (.iload 7, 2) := by decide +kernel
theorem dX9_joinSides_78 : decode cX9_joinSides 78 = .ok (.iconst 1, 1) := by decide +kernel
theorem dX9_joinSides_79 : decode cX9_joinSides 79 = .ok (.if_icmp .ne 8, 3) := by decide +kernel
theorem dX9_joinSides_82 : decode cX9_joinSides 82 = .ok (.bipush 112, 2) := by decide +kernel
theorem dX9_joinSides_84 : decode cX9_joinSides 84 = .ok (.goto 5, 3) := by decide +kernel
theorem dX9_joinSides_87 : decode cX9_joinSides 87 = .ok (.bipush 115, 2) := by decide +kernel
theorem dX9_joinSides_89 : decode cX9_joinSides 89 = .ok (.istore 8, 2) := by decide +kernel
theorem dX9_joinSides_91 : decode cX9_joinSides 91 = .ok (.aload_n 0, 1) := by decide +kernel
theorem dX9_joinSides_92 : decode cX9_joinSides 92 = .ok (.iload 8, 2) := by decide +kernel
theorem dX9_joinSides_94 : decode cX9_joinSides 94 = .ok (.iload_n 1, 1) := by decide +kernel
theorem dX9_joinSides_95 : decode cX9_joinSides 95 = .ok (.iload_n 2, 1) := by decide +kernel
theorem dX9_joinSides_96 : decode cX9_joinSides 96 = .ok (.iload_n 3, 1) := by decide +kernel
theorem dX9_joinSides_97 : decode cX9_joinSides 97 = .ok (.iload 4, 2) := by decide +kernel
theorem dX9_joinSides_99 : decode cX9_joinSides 99 = .ok (.invokevirtual 245, 3) := by decide +kernel
theorem dX9_joinSides_102 : decode cX9_joinSides 102 = .ok (.istore 9, 2) := by decide +kernel
theorem dX9_joinSides_104 : decode cX9_joinSides 104 = .ok (.iload 9, 2) := by decide +kernel
theorem dX9_joinSides_106 : decode cX9_joinSides 106 = .ok (.iconst (-1), 1) := by decide +kernel
theorem dX9_joinSides_107 : decode cX9_joinSides 107 = .ok (.if_icmp .eq 80, 3) := by decide +kernel
theorem dX9_joinSides_110 : decode cX9_joinSides 110 = .ok (.aload_n 0, 1) := by decide +kernel
theorem dX9_joinSides_111 : decode cX9_joinSides 111 = .ok (.iconst 0, 1) := by decide +kernel
theorem dX9_joinSides_112 : decode cX9_joinSides 112 = .ok (.putfield 260, 3) := by decide +kernel
theorem dX9_joinSides_115 : decode cX9_joinSides 115 = .ok (.aload_n 0, 1) := by decide +kernel
theorem dX9_joinSides_116 : decode cX9_joinSides 116 = .ok (.bipush 40, 2) := by decide +kernel
theorem dX9_joinSides_118 : decode cX9_joinSides 118 = .ok (.invokevirtual 263, 3) := by decide +kernel
theorem dX9_joinSides_121 : decode cX9_joinSides 121 = .ok (.aload_n 0, 1) := by decide +kernel
theorem dX9_joinSides_122 : decode cX9_joinSides 122 = .ok (.iload 5, 2) := by decide +kernel
theorem dX9_joinSides_124 : decode cX9_joinSides 124 = .ok (.iload_n 1, 1) := by decide +kernel
theorem dX9_joinSides_125 : decode cX9_joinSides 125 = .ok (.invokestatic 266, 3) := by decide +kernel
theorem dX9_joinSides_128 : decode cX9_joinSides 128 = .ok (.invokevirtual 269, 3) := by decide +kernel
theorem dX9_joinSides_131 : decode cX9_joinSides 131 = .ok (.aload_n 0, 1) := by decide +kernel
theorem dX9_joinSides_132 : decode cX9_joinSides 132 = .ok (.iload 8, 2) := by decide +kernel
theorem dX9_joinSides_134 : decode cX9_joinSides 134 = .ok (.invokevirtual 263, 3) := by decide +kernel
theorem dX9_joinSides_137 : decode cX9_joinSides 137 = .ok (.aload_n 0, 1) := by decide +kernel
theorem dX9_joinSides_138 : decode cX9_joinSides 138 = .ok (.iload 6, 2) := by decide +kernel
theorem dX9_joinSides_140 : decode cX9_joinSides 140 = .ok (.iload_n 2, 1) := by decide +kernel
theorem dX9_joinSides_141 : decode cX9_joinSides 141 = .ok (.invokestatic 266, 3) := by decide +kernel
theorem dX9_joinSides_144 : decode cX9_joinSides 144 = .ok (.invokevirtual 269, 3) := by decide +kernel
theorem dX9_joinSides_147 : decode cX9_joinSides 147 = .ok (.aload_n 0, 1) := by decide +kernel
theorem dX9_joinSides_148 : decode cX9_joinSides 148 = .ok (.bipush 41, 2) := by decide +kernel
theorem dX9_joinSides_150 : decode cX9_joinSides 150 = .ok (.invokevirtual 263, 3) := by decide +kernel
theorem dX9_joinSides_153 : decode cX9_joinSides 153 = .ok (.aload_n 0, 1) := by decide +kernel
theorem dX9_joinSides_154 : decode cX9_joinSides 154 = .ok (.iload_n 1, 1) := by decide +kernel
theorem dX9_joinSides_155 : decode cX9_joinSides 155 = .ok (.iload_n 2, 1) := by decide +kernel
theorem dX9_joinSides_156 : decode cX9_joinSides 156 = .ok (.ior, 1) := by decide +kernel
theorem dX9_joinSides_157 : decode cX9_joinSides 157 = .ok (.aload_n 0, 1) := by decide +kernel
theorem dX9_joinSides_158 : decode cX9_joinSides 158 = .ok (.iload 8, 2) := by decide +kernel
theorem dX9_joinSides_160 : decode cX9_joinSides 160 = .ok (.iload_n 1, 1) := by decide +kernel
theorem dX9_joinSides_161 : decode cX9_joinSides 161 = .ok (.iload_n 2, 1) := by decide +kernel
theorem dX9_joinSides_162 : decode cX9_joinSides 162 = .ok (.iload_n 3, 1) := by decide +kernel
theorem dX9_joinSides_163 : decode cX9_joinSides 163 = .ok (.invokevirtual 249, 3) := by decide +kernel
theorem dX9_joinSides_166 : decode cX9_joinSides 166 = .ok (.aload_n 0, 1) := by decide +kernel
theorem dX9_joinSides_167 : decode cX9_joinSides 167 = .ok (.getfield 61, 3) := by decide +kernel
theorem dX9_joinSides_170 : decode cX9_joinSides 170 = .ok (.iload 5, 2) := by decide +kernel
theorem dX9_joinSides_172 : decode cX9_joinSides 172 = .ok (.iaload, 1) := by decide +kernel
theorem dX9_joinSides_173 : decode cX9_joinSides 173 = .ok (.aload_n 0, 1) := by decide +kernel
theorem dX9_joinSides_174 : decode cX9_joinSides 174 = .ok (.getfield 61, 3) := by decide +kernel
theorem dX9_joinSides_177 : decode cX9_joinSides 177 = .ok (.iload 6, 2) := by decide +kernel
theorem dX9_joinSides_179 : decode cX9_joinSides 179 = .ok (.iaload, 1) := by decide +kernel
theorem dX9_joinSides_180 : decode cX9_joinSides 180 = .ok (.iadd, 1) := by decide +kernel
theorem dX9_joinSides_181 : decode cX9_joinSides 181 = .ok (.iload 9, 2) := by decide +kernel
theorem dX9_joinSides_183 : decode cX9_joinSides 183 = .ok (.iadd, 1) := by decide +kernel
theorem dX9_joinSides_184 : decode cX9_joinSides 184 = .ok (.invokevirtual 273, 3) := by decide +kernel
theorem dX9_joinSides_187 : decode cX9_joinSides 187 = .ok (.iinc 7 1, 3) := by decide +kernel
theorem dX9_joinSides_190 : decode cX9_joinSides 190 = .ok (.goto (-152), 3) := by decide +kernel
theorem dX9_joinSides_193 : decode cX9_joinSides 193 = .ok (.iinc 4 1, 3) := by decide +kernel
theorem dX9_joinSides_196 : decode cX9_joinSides 196 = .ok (.goto (-185), 3) := by decide +kernel
theorem dX9_joinSides_199 : decode cX9_joinSides 199 = .ok (.iinc 3 1, 3) := by decide +kernel
theorem dX9_joinSides_202 : decode cX9_joinSides 202 = .ok (.goto (-200), 3) := by decide +kernel
theorem dX9_joinSides_205 : decode cX9_joinSides 205 = .ok (.return_, 1) := by decide +kernel
theorem dX9_findBest_0 : decode cX9_findBest 0 = .ok (.aload_n 0, 1) := by decide +kernel
theorem dX9_findBest_1 : decode cX9_findBest 1 = .ok (.iload_n 3, 1) := by decide +kernel
theorem dX9_findBest_2 : decode cX9_findBest 2 = .ok (.invokevirtual 253, 3) := by decide +kernel
theorem dX9_findBest_5 : decode cX9_findBest 5 = .ok (.iconst 0, 1) := by decide +kernel
theorem dX9_findBest_6 : decode cX9_findBest 6 = .ok (.istore 4, 2) := by decide +kernel
theorem dX9_findBest_8 : decode cX9_findBest 8 = .ok (.iload 4, 2) := by decide +kernel
theorem dX9_findBest_10 : decode cX9_findBest 10 = .ok (.sipush 576, 3) := by decide +kernel
theorem dX9_findBest_13 : decode cX9_findBest 13 = .ok (.if_icmp .ge 17, 3) := by decide +kernel
theorem dX9_findBest_16 : decode cX9_findBest 16 = .ok (.aload_n 0, 1) := by decide +kernel
theorem dX9_findBest_17 : decode cX9_findBest 17 = .ok (.getfield 61, 3) := by decide +kernel
theorem dX9_findBest_20 : decode cX9_findBest 20 = .ok (.iload 4, 2) := by decide +kernel
theorem dX9_findBest_22 : decode cX9_findBest 22 = .ok (.iconst (-1), 1) := by decide +kernel
theorem dX9_findBest_23 : decode cX9_findBest 23 = .ok (.iastore, 1) := by decide +kernel
theorem dX9_findBest_24 : decode cX9_findBest 24 = .ok (.iinc 4 1, 3) := by decide +kernel
theorem dX9_findBest_27 : decode cX9_findBest 27 = .ok (.goto (-19), 3) := by decide +kernel
theorem dX9_findBest_30 : decode cX9_findBest 30 = .ok (.iconst 1, 1) := by decide +kernel
theorem dX9_findBest_31 : decode cX9_findBest 31 = .ok (.istore 4, 2) := by decide +kernel
theorem dX9_findBest_33 : decode cX9_findBest 33 = .ok (.iload 4, 2) := by decide +kernel
theorem dX9_findBest_35 : decode cX9_findBest 35 = .ok (.iload_n 1, 1) := by decide +kernel
theorem dX9_findBest_36 : decode cX9_findBest 36 = .ok (.if_icmp .gt 157, 3) := by decide +kernel
theorem dX9_findBest_39 : decode cX9_findBest 39 = .ok (.iload 4, 2) := by decide +kernel
theorem dX9_findBest_41 : decode cX9_findBest 41 = .ok (.iload_n 1, 1) := by decide +kernel
theorem dX9_findBest_42 : decode cX9_findBest 42 = .ok (.iand, 1) := by decide +kernel
theorem dX9_findBest_43 : decode cX9_findBest 43 = .ok (.iload 4, 2) := by decide +kernel
theorem dX9_findBest_45 : decode cX9_findBest 45 = .ok (.if_icmp .ne 68, 3) := by decide +kernel
theorem dX9_findBest_48 : decode cX9_findBest 48 = .ok (.iload 4, 2) := by decide +kernel
theorem dX9_findBest_50 : decode cX9_findBest 50 = .ok (.invokestatic 98, 3) := by decide +kernel
theorem dX9_findBest_53 : decode cX9_findBest 53 = .ok (.iconst 1, 1) := by decide +kernel
theorem dX9_findBest_54 : decode cX9_findBest 54 = .ok (.if_icmp .ne 59, 3) := by decide +kernel
theorem dX9_findBest_57 : decode cX9_findBest 57 = .ok (.iconst 0, 1) := by decide +kernel
theorem dX9_findBest_58 : decode cX9_findBest 58 = .ok (.istore 5, 2) := by decide +kernel
theorem dX9_findBest_60 : decode cX9_findBest 60 = .ok (.iconst 1, 1) := by decide +kernel
theorem dX9_findBest_61 : decode cX9_findBest 61 = .ok (.iload 5, 2) := by decide +kernel
theorem dX9_findBest_63 : decode cX9_findBest 63 = .ok (.ishl, 1) := by decide +kernel
theorem dX9_findBest_64 : decode cX9_findBest 64 = .ok (.iload 4, 2) := by decide +kernel
theorem dX9_findBest_66 : decode cX9_findBest 66 = .ok (.if_icmp .eq 9, 3) := by decide +kernel
theorem dX9_findBest_69 : decode cX9_findBest 69 = .ok (.iinc 5 1, 3) := by decide +kernel
theorem dX9_findBest_72 : decode cX9_findBest 72 = .ok (.goto (-12), 3) := by decide +kernel
theorem dX9_findBest_75 : decode cX9_findBest 75 = .ok (.aload_n 0, 1) := by decide +kernel
theorem dX9_findBest_76 : decode cX9_findBest 76 = .ok (.iconst 0, 1) := by decide +kernel
theorem dX9_findBest_77 : decode cX9_findBest 77 = .ok (.putfield 260, 3) := by decide +kernel
theorem dX9_findBest_80 : decode cX9_findBest 80 = .ok (.aload_n 0, 1) := by decide +kernel
theorem dX9_findBest_81 : decode cX9_findBest 81 = .ok (.bipush 48, 2) := by decide +kernel
theorem dX9_findBest_83 : decode cX9_findBest 83 = .ok (.iload 5, 2) := by decide +kernel
theorem dX9_findBest_85 : decode cX9_findBest 85 = .ok (.iadd, 1) := by decide +kernel
theorem dX9_findBest_86 : decode cX9_findBest 86 = .ok (.invokevirtual 263, 3) := by decide +kernel
theorem dX9_findBest_89 : decode cX9_findBest 89 = .ok (.aload_n 0, 1) := by decide +kernel
theorem dX9_findBest_90 : decode cX9_findBest 90 = .ok (.iload 4, 2) := by decide +kernel
theorem dX9_findBest_92 : decode cX9_findBest 92 = .ok (.aload_n 0, 1) := by decide +kernel
theorem dX9_findBest_93 : decode cX9_findBest 93 = .ok (.iload 5, 2) := by decide +kernel
theorem dX9_findBest_95 : decode cX9_findBest 95 = .ok (.invokevirtual 146, 3) := by decide +kernel
theorem dX9_findBest_98 : decode cX9_findBest 98 = .ok (.iconst 1, 1) := by decide +kernel
theorem dX9_findBest_99 : decode cX9_findBest 99 = .ok (.iadd, 1) := by decide +kernel
theorem dX9_findBest_100 : decode cX9_findBest 100 = .ok (.aload_n 0, 1) := by decide +kernel
theorem dX9_findBest_101 : decode cX9_findBest 101 = .ok (.getfield 46, 3) := by decide +kernel
theorem dX9_findBest_104 : decode cX9_findBest 104 = .ok (.iload 4, 2) := by decide +kernel
theorem dX9_findBest_106 : decode cX9_findBest 106 = .ok (.iaload, 1) := by decide +kernel
theorem dX9_findBest_107 : decode cX9_findBest 107 = .ok (.invokevirtual 273, 3) := by decide +kernel
theorem dX9_findBest_110 : decode cX9_findBest 110 = .ok (.goto 77, 3) := by decide +kernel
theorem dX9_findBest_113 : decode cX9_findBest 113 = .ok (.iload 4, 2) := by decide +kernel
theorem dX9_findBest_115 : decode cX9_findBest 115 = .ok (.iload_n 1, 1) := by decide +kernel
theorem dX9_findBest_116 : decode cX9_findBest 116 = .ok (.iand, 1) := by decide +kernel
theorem dX9_findBest_117 : decode cX9_findBest 117 = .ok (.iload 4, 2) := by decide +kernel
theorem dX9_findBest_119 : decode cX9_findBest 119 = .ok (.if_icmp .ne 68, 3) := by decide +kernel
theorem dX9_findBest_122 : decode cX9_findBest 122 = .ok (.iconst 1, 1) := by decide +kernel
theorem dX9_findBest_123 : decode cX9_findBest 123 = .ok (.istore 5, 2) := by decide +kernel
theorem dX9_findBest_125 : decode cX9_findBest 125 = .ok (.iload 5, 2) := by decide +kernel
theorem dX9_findBest_127 : decode cX9_findBest 127 = .ok (.iload 4, 2) := by decide +kernel
theorem dX9_findBest_129 : decode cX9_findBest 129 = .ok (.if_icmp .ge 58, 3) := by decide +kernel
theorem dX9_findBest_132 : decode cX9_findBest 132 = .ok (.iload 5, 2) := by decide +kernel
theorem dX9_findBest_134 : decode cX9_findBest 134 = .ok (.iload 4, 2) := by decide +kernel
theorem dX9_findBest_136 : decode cX9_findBest 136 = .ok (.iand, 1) := by decide +kernel
theorem dX9_findBest_137 : decode cX9_findBest 137 = .ok (.iload 5, 2) := by decide +kernel
theorem dX9_findBest_139 : decode cX9_findBest 139 = .ok (.if_icmp .ne 23, 3) := by decide +kernel
theorem dX9_findBest_142 : decode cX9_findBest 142 = .ok (.iload_n 2, 1) := by decide +kernel
theorem dX9_findBest_143 : decode cX9_findBest 143 = .ok (.ifCond .eq 15, 3) := by decide +kernel
theorem dX9_findBest_146 : decode cX9_findBest 146 = .ok (.iload 4, 2) := by decide +kernel
theorem dX9_findBest_148 : decode cX9_findBest 148 = .ok (.iload 5, 2) := by decide +kernel
theorem dX9_findBest_150 : decode cX9_findBest 150 = .ok (.isub, 1) := by decide +kernel
theorem dX9_findBest_151 : decode cX9_findBest 151 = .ok (.invokestatic 98, 3) := by decide +kernel
theorem dX9_findBest_154 : decode cX9_findBest 154 = .ok (.iconst 1, 1) := by decide +kernel
theorem dX9_findBest_155 : decode cX9_findBest 155 = .ok (.if_icmp .ne 7, 3) := by decide +kernel
theorem dX9_findBest_158 : decode cX9_findBest 158 = .ok (.iconst 1, 1) := by decide +kernel
theorem dX9_findBest_159 : decode cX9_findBest 159 = .ok (.goto 4, 3) := by decide +kernel
theorem dX9_findBest_162 : decode cX9_findBest 162 = .ok (.iconst 0, 1) := by decide +kernel
theorem dX9_findBest_163 : decode cX9_findBest 163 = .ok (.istore 6, 2) := by decide +kernel
theorem dX9_findBest_165 : decode cX9_findBest 165 = .ok (.iload 6, 2) := by decide +kernel
theorem dX9_findBest_167 : decode cX9_findBest 167 = .ok (.ifCond .eq 14, 3) := by decide +kernel
theorem dX9_findBest_170 : decode cX9_findBest 170 = .ok (.aload_n 0, 1) := by decide +kernel
theorem dX9_findBest_171 : decode cX9_findBest 171 = .ok (.iload 5, 2) := by decide +kernel
theorem dX9_findBest_173 : decode cX9_findBest 173 = .ok (.iload 4, 2) := by decide +kernel
theorem dX9_findBest_175 : decode cX9_findBest 175 = .ok (.iload 5, 2) := by decide +kernel
theorem dX9_findBest_177 : decode cX9_findBest 177 = .ok (.isub, 1) := by decide +kernel
theorem dX9_findBest_178 : decode cX9_findBest 178 = .ok (.invokevirtual 277, 3) := by decide +kernel
theorem dX9_findBest_181 : decode cX9_findBest 181 = .ok (.iinc 5 1, 3) := by decide +kernel
theorem dX9_findBest_184 : decode cX9_findBest 184 = .ok (.goto (-59), 3) := by decide +kernel
theorem dX9_findBest_187 : decode cX9_findBest 187 = .ok (.iinc 4 1, 3) := by decide +kernel
theorem dX9_findBest_190 : decode cX9_findBest 190 = .ok (.goto (-157), 3) := by decide +kernel
theorem dX9_findBest_193 : decode cX9_findBest 193 = .ok (.return_, 1) := by decide +kernel
theorem dX9_bestOrder_0 : decode cX9_bestOrder 0 = .ok (.iconst (-1), 1) := by decide +kernel
theorem dX9_bestOrder_1 : decode cX9_bestOrder 1 = .ok (.istore_n 3, 1) := by decide +kernel
theorem dX9_bestOrder_2 : decode cX9_bestOrder 2 = .ok (.aload_n 0, 1) := by decide +kernel
theorem dX9_bestOrder_3 : decode cX9_bestOrder 3 = .ok (.iconst 0, 1) := by decide +kernel
theorem dX9_bestOrder_4 : decode cX9_bestOrder 4 = .ok (.putfield 280, 3) := by decide +kernel
theorem dX9_bestOrder_7 : decode cX9_bestOrder 7 = .ok (.iconst 0, 1) := by decide +kernel
theorem dX9_bestOrder_8 : decode cX9_bestOrder 8 = .ok (.istore 4, 2) := by decide +kernel
theorem dX9_bestOrder_10 : decode cX9_bestOrder 10 = .ok (.iload 4, 2) := by decide +kernel
theorem dX9_bestOrder_12 : decode cX9_bestOrder 12 = .ok (.bipush 9, 2) := by decide +kernel
theorem dX9_bestOrder_14 : decode cX9_bestOrder 14 = .ok (.if_icmp .ge 170, 3) := by decide +kernel
theorem dX9_bestOrder_17 : decode cX9_bestOrder 17 = .ok (.bipush 9, 2) := by decide +kernel
theorem dX9_bestOrder_19 : decode cX9_bestOrder 19 = .ok (.iload_n 1, 1) := by decide +kernel
theorem dX9_bestOrder_20 : decode cX9_bestOrder 20 = .ok (.imul, 1) := by decide +kernel
theorem dX9_bestOrder_21 : decode cX9_bestOrder 21 = .ok (.iload 4, 2) := by decide +kernel
theorem dX9_bestOrder_23 : decode cX9_bestOrder 23 = .ok (.iadd, 1) := by decide +kernel
theorem dX9_bestOrder_24 : decode cX9_bestOrder 24 = .ok (.istore 5, 2) := by decide +kernel
theorem dX9_bestOrder_26 : decode cX9_bestOrder 26 = .ok (.aload_n 0, 1) := by decide +kernel
theorem dX9_bestOrder_27 : decode cX9_bestOrder 27 = .ok (.getfield 61, 3) := by decide +kernel
theorem dX9_bestOrder_30 : decode cX9_bestOrder 30 = .ok (.iload 5, 2) := by decide +kernel
theorem dX9_bestOrder_32 : decode cX9_bestOrder 32 = .ok (.iaload, 1) := by decide +kernel
theorem dX9_bestOrder_33 : decode cX9_bestOrder 33 = .ok (.iconst (-1), 1) := by decide +kernel
theorem dX9_bestOrder_34 : decode cX9_bestOrder 34 = .ok (.if_icmp .eq 144, 3) := by decide +kernel
theorem dX9_bestOrder_37 : decode cX9_bestOrder 37 = .ok (.aload_n 0, 1) := by decide +kernel
theorem dX9_bestOrder_38 : decode cX9_bestOrder 38 = .ok (.getfield 61, 3) := by decide +kernel
theorem dX9_bestOrder_41 : decode cX9_bestOrder 41 = .ok (.iload 5, 2) := by decide +kernel
theorem dX9_bestOrder_43 : decode cX9_bestOrder 43 = .ok (.iaload, 1) := by decide +kernel
theorem dX9_bestOrder_44 : decode cX9_bestOrder 44 = .ok (.iload_n 2, 1) := by decide +kernel
theorem dX9_bestOrder_45 : decode cX9_bestOrder 45 = .ok (.iconst (-1), 1) := by decide +kernel
theorem dX9_bestOrder_46 : decode cX9_bestOrder 46 = .ok (.if_icmp .eq 11, 3) := by decide +kernel
theorem dX9_bestOrder_49 : decode cX9_bestOrder 49 = .ok (.iload 4, 2) := by decide +kernel
theorem dX9_bestOrder_51 : decode cX9_bestOrder 51 = .ok (.iload_n 2, 1) := by decide +kernel
theorem dX9_bestOrder_52 : decode cX9_bestOrder 52 = .ok (.iconst 1, 1) := by decide +kernel
theorem dX9_bestOrder_53 : decode cX9_bestOrder 53 = .ok (.iadd, 1) := by decide +kernel
theorem dX9_bestOrder_54 : decode cX9_bestOrder 54 = .ok (.if_icmp .ne 7, 3) := by decide +kernel
theorem dX9_bestOrder_57 : decode cX9_bestOrder 57 = .ok (.iconst 0, 1) := by decide +kernel
theorem dX9_bestOrder_58 : decode cX9_bestOrder 58 = .ok (.goto 13, 3) := by decide +kernel
theorem dX9_bestOrder_61 : decode cX9_bestOrder 61 = .ok (.aload_n 0, 1) := by decide +kernel
theorem dX9_bestOrder_62 : decode cX9_bestOrder 62 = .ok (.aload_n 0, 1) := by decide +kernel
theorem dX9_bestOrder_63 : decode cX9_bestOrder 63 = .ok (.getfield 46, 3) := by decide +kernel
theorem dX9_bestOrder_66 : decode cX9_bestOrder 66 = .ok (.iload_n 1, 1) := by decide +kernel
theorem dX9_bestOrder_67 : decode cX9_bestOrder 67 = .ok (.iaload, 1) := by decide +kernel
theorem dX9_bestOrder_68 : decode cX9_bestOrder 68 = .ok (.invokevirtual 236, 3) := by decide +kernel
theorem dX9_bestOrder_71 : decode cX9_bestOrder 71 = .ok (.iadd, 1) := by decide +kernel
theorem dX9_bestOrder_72 : decode cX9_bestOrder 72 = .ok (.istore 6, 2) := by decide +kernel
theorem dX9_bestOrder_74 : decode cX9_bestOrder 74 = .ok (.iload_n 3, 1) := by decide +kernel
theorem dX9_bestOrder_75 : decode cX9_bestOrder 75 = .ok (.iconst (-1), 1) := by decide +kernel
theorem dX9_bestOrder_76 : decode cX9_bestOrder 76 = .ok (.if_icmp .ne 7, 3) := by decide +kernel
theorem dX9_bestOrder_79 : decode cX9_bestOrder 79 = .ok (.iconst (-1), 1) := by decide +kernel
theorem dX9_bestOrder_80 : decode cX9_bestOrder 80 = .ok (.goto 10, 3) := by decide +kernel
theorem dX9_bestOrder_83 : decode cX9_bestOrder 83 = .ok (.iload 6, 2) := by decide +kernel
theorem dX9_bestOrder_85 : decode cX9_bestOrder 85 = .ok (.aload_n 0, 1) := by decide +kernel
theorem dX9_bestOrder_86 : decode cX9_bestOrder 86 = .ok (.getfield 280, 3) := by decide +kernel
theorem dX9_bestOrder_89 : decode cX9_bestOrder 89 = .ok (.isub, 1) := by decide +kernel
theorem dX9_bestOrder_90 : decode cX9_bestOrder 90 = .ok (.istore 7, 2) := by decide +kernel
theorem dX9_bestOrder_92 : decode cX9_bestOrder 92 = .ok (.iconst 0, 1) := by decide +kernel
theorem dX9_bestOrder_93 : decode cX9_bestOrder 93 = .ok (.istore 8, 2) := by decide +kernel
theorem dX9_bestOrder_95 : decode cX9_bestOrder 95 = .ok (.iload 8, 2) := by decide +kernel
theorem dX9_bestOrder_97 : decode cX9_bestOrder 97 = .ok (.iload_n 1, 1) := by decide +kernel
theorem dX9_bestOrder_98 : decode cX9_bestOrder 98 = .ok (.invokestatic 266, 3) := by decide +kernel
theorem dX9_bestOrder_101 : decode cX9_bestOrder 101 = .ok (.if_icmp .ge 47, 3) := by decide +kernel
theorem dX9_bestOrder_104 : decode cX9_bestOrder 104 = .ok (.iload 7, 2) := by decide +kernel
theorem dX9_bestOrder_106 : decode cX9_bestOrder 106 = .ok (.ifCond .ne 42, 3) := by decide +kernel
theorem dX9_bestOrder_109 : decode cX9_bestOrder 109 = .ok (.aload_n 0, 1) := by decide +kernel
theorem dX9_bestOrder_110 : decode cX9_bestOrder 110 = .ok (.getfield 64, 3) := by decide +kernel
theorem dX9_bestOrder_113 : decode cX9_bestOrder 113 = .ok (.bipush 21, 2) := by decide +kernel
theorem dX9_bestOrder_115 : decode cX9_bestOrder 115 = .ok (.iload 5, 2) := by decide +kernel
theorem dX9_bestOrder_117 : decode cX9_bestOrder 117 = .ok (.imul, 1) := by decide +kernel
theorem dX9_bestOrder_118 : decode cX9_bestOrder 118 = .ok (.iload 8, 2) := by decide +kernel
theorem dX9_bestOrder_120 : decode cX9_bestOrder 120 = .ok (.iadd, 1) := by decide +kernel
theorem dX9_bestOrder_121 : decode cX9_bestOrder 121 = .ok (.iaload, 1) := by decide +kernel
theorem dX9_bestOrder_122 : decode cX9_bestOrder 122 = .ok (.aload_n 0, 1) := by decide +kernel
theorem dX9_bestOrder_123 : decode cX9_bestOrder 123 = .ok (.getfield 64, 3) := by decide +kernel
theorem dX9_bestOrder_126 : decode cX9_bestOrder 126 = .ok (.bipush 21, 2) := by decide +kernel
theorem dX9_bestOrder_128 : decode cX9_bestOrder 128 = .ok (.bipush 9, 2) := by decide +kernel
theorem dX9_bestOrder_130 : decode cX9_bestOrder 130 = .ok (.iload_n 1, 1) := by decide +kernel
theorem dX9_bestOrder_131 : decode cX9_bestOrder 131 = .ok (.imul, 1) := by decide +kernel
theorem dX9_bestOrder_132 : decode cX9_bestOrder 132 = .ok (.iload_n 3, 1) := by decide +kernel
theorem dX9_bestOrder_133 : decode cX9_bestOrder 133 = .ok (.iadd, 1) := by decide +kernel
theorem dX9_bestOrder_134 : decode cX9_bestOrder 134 = .ok (.imul, 1) := by decide +kernel
theorem dX9_bestOrder_135 : decode cX9_bestOrder 135 = .ok (.iload 8, 2) := by decide +kernel
theorem dX9_bestOrder_137 : decode cX9_bestOrder 137 = .ok (.iadd, 1) := by decide +kernel
theorem dX9_bestOrder_138 : decode cX9_bestOrder 138 = .ok (.iaload, 1) := by decide +kernel
theorem dX9_bestOrder_139 : decode cX9_bestOrder 139 = .ok (.isub, 1) := by decide +kernel
theorem dX9_bestOrder_140 : decode cX9_bestOrder 140 = .ok (.istore 7, 2) := by decide +kernel
theorem dX9_bestOrder_142 : decode cX9_bestOrder 142 = .ok (.iinc 8 1, 3) := by decide +kernel
theorem dX9_bestOrder_145 : decode cX9_bestOrder 145 = .ok (.goto (-50), 3) := by decide +kernel
theorem dX9_bestOrder_148 : decode cX9_bestOrder 148 = .ok (.iload 7, 2) := by decide +kernel
theorem dX9_bestOrder_150 : decode cX9_bestOrder 150 = .ok (.ifCond .ge 8, 3) := by decide +kernel
theorem dX9_bestOrder_153 : decode cX9_bestOrder 153 = .ok (.iload 4, 2) := by decide +kernel
theorem dX9_bestOrder_155 : decode cX9_bestOrder 155 = .ok (.goto 4, 3) := by decide +kernel
theorem dX9_bestOrder_158 : decode cX9_bestOrder 158 = .ok (.iload_n 3, 1) := by decide +kernel
theorem dX9_bestOrder_159 : decode cX9_bestOrder 159 = .ok (.istore_n 3, 1) := by decide +kernel
theorem dX9_bestOrder_160 : decode cX9_bestOrder 160 = .ok (.aload_n 0, 1) := by decide +kernel
theorem dX9_bestOrder_161 : decode cX9_bestOrder 161 = .ok (.iload 7, 2) := by decide +kernel
theorem dX9_bestOrder_163 : decode cX9_bestOrder 163 = .ok (.ifCond .ge 8, 3) := by decide +kernel
theorem dX9_bestOrder_166 : decode cX9_bestOrder 166 = .ok (.iload 6, 2) := by decide +kernel
theorem dX9_bestOrder_168 : decode cX9_bestOrder 168 = .ok (.goto 7, 3) := by decide +kernel
theorem dX9_bestOrder_171 : decode cX9_bestOrder 171 = .ok (.aload_n 0, 1) := by decide +kernel
theorem dX9_bestOrder_172 : decode cX9_bestOrder 172 = .ok (.getfield 280, 3) := by decide +kernel
theorem dX9_bestOrder_175 : decode cX9_bestOrder 175 = .ok (.putfield 280, 3) := by decide +kernel
theorem dX9_bestOrder_178 : decode cX9_bestOrder 178 = .ok (.iinc 4 1, 3) := by decide +kernel
theorem dX9_bestOrder_181 : decode cX9_bestOrder 181 = .ok (.goto (-171), 3) := by decide +kernel
theorem dX9_bestOrder_184 : decode cX9_bestOrder 184 = .ok (.iload_n 3, 1) := by decide +kernel
theorem dX9_bestOrder_185 : decode cX9_bestOrder 185 = .ok (.ireturn, 1) := by decide +kernel
theorem dX9_isAsked_0 : decode cX9_isAsked 0 = .ok (.aload_n 0, 1) := by decide +kernel
theorem dX9_isAsked_1 : decode cX9_isAsked 1 = .ok (.iload_n 1, 1) := by decide +kernel
theorem dX9_isAsked_2 : decode cX9_isAsked 2 = .ok (.invokevirtual 186, 3) := by decide +kernel
theorem dX9_isAsked_5 : decode cX9_isAsked 5 = .ok (.ifCond .eq 42, 3) := by decide +kernel
theorem dX9_isAsked_8 : decode cX9_isAsked 8 = .ok (.iload_n 2, 1) := by decide +kernel
theorem dX9_isAsked_9 : decode cX9_isAsked 9 = .ok (.i2l, 1) := by decide +kernel
theorem dX9_isAsked_10 : decode cX9_isAsked 10 = .ok (.lconst 0, 1) := by decide +kernel
theorem dX9_isAsked_11 : decode cX9_isAsked 11 = .ok (.lconst 1, 1) := by decide +kernel
theorem dX9_isAsked_12 : decode cX9_isAsked 12 = .ok (.invokestatic 92, 3) := by decide +kernel
theorem dX9_isAsked_15 : decode cX9_isAsked 15 = .ok (.ifCond .eq 32, 3) := by decide +kernel
theorem dX9_isAsked_18 : decode cX9_isAsked 18 = .ok (.iload_n 3, 1) := by decide +kernel
theorem dX9_isAsked_19 : decode cX9_isAsked 19 = .ok (.i2l, 1) := by decide +kernel
theorem dX9_isAsked_20 : decode cX9_isAsked 20 = .ok (.lconst 0, 1) := by decide +kernel
theorem dX9_isAsked_21 : decode cX9_isAsked 21 = .ok (.lconst 1, 1) := by decide +kernel
theorem dX9_isAsked_22 : decode cX9_isAsked 22 = .ok (.invokestatic 92, 3) := by decide +kernel
theorem dX9_isAsked_25 : decode cX9_isAsked 25 = .ok (.ifCond .eq 22, 3) := by decide +kernel
theorem dX9_isAsked_28 : decode cX9_isAsked 28 = .ok (.iload 4, 2) := by decide +kernel
theorem dX9_isAsked_30 : decode cX9_isAsked 30 = .ok (.i2l, 1) := by decide +kernel
theorem dX9_isAsked_31 : decode cX9_isAsked 31 = .ok (.ldc2_w 283, 3) := by decide +kernel
theorem dX9_isAsked_34 : decode cX9_isAsked 34 = .ok (.ldc2_w 141, 3) := by decide +kernel
theorem dX9_isAsked_37 : decode cX9_isAsked 37 = .ok (.invokestatic 92, 3) := by decide +kernel
theorem dX9_isAsked_40 : decode cX9_isAsked 40 = .ok (.ifCond .eq 7, 3) := by decide +kernel
theorem dX9_isAsked_43 : decode cX9_isAsked 43 = .ok (.iconst 1, 1) := by decide +kernel
theorem dX9_isAsked_44 : decode cX9_isAsked 44 = .ok (.goto 4, 3) := by decide +kernel
theorem dX9_isAsked_47 : decode cX9_isAsked 47 = .ok (.iconst 0, 1) := by decide +kernel
theorem dX9_isAsked_48 : decode cX9_isAsked 48 = .ok (.ireturn, 1) := by decide +kernel
theorem dX9_best_0 : decode cX9_best 0 = .ok (.aload_n 0, 1) := by decide +kernel
theorem dX9_best_1 : decode cX9_best 1 = .ok (.iload_n 1, 1) := by decide +kernel
theorem dX9_best_2 : decode cX9_best 2 = .ok (.iload_n 2, 1) := by decide +kernel
theorem dX9_best_3 : decode cX9_best 3 = .ok (.iload_n 3, 1) := by decide +kernel
theorem dX9_best_4 : decode cX9_best 4 = .ok (.iload 4, 2) := by decide +kernel
theorem dX9_best_6 : decode cX9_best 6 = .ok (.invokevirtual 285, 3) := by decide +kernel
theorem dX9_best_9 : decode cX9_best 9 = .ok (.ifCond .ne 6, 3) := by decide +kernel
theorem dX9_best_12 : decode cX9_best 12 = .ok (.bipush (-102), 2) := by decide +kernel
theorem dX9_best_14 : decode cX9_best 14 = .ok (.ireturn, 1) := by decide +kernel
theorem dX9_best_15 : decode cX9_best 15 = .ok (.aload_n 0, 1) := by decide +kernel
theorem dX9_best_16 : decode cX9_best 16 = .ok (.getfield 288, 3) := by decide +kernel
theorem dX9_best_19 : decode cX9_best 19 = .ok (.bipush 60, 2) := by decide +kernel
theorem dX9_best_21 : decode cX9_best 21 = .ok (.if_icmp .ne 6, 3) := by decide +kernel
theorem dX9_best_24 : decode cX9_best 24 = .ok (.bipush (-103), 2) := by decide +kernel
theorem dX9_best_26 : decode cX9_best 26 = .ok (.ireturn, 1) := by decide +kernel
theorem dX9_best_27 : decode cX9_best 27 = .ok (.aload_n 0, 1) := by decide +kernel
theorem dX9_best_28 : decode cX9_best 28 = .ok (.dup, 1) := by decide +kernel
theorem dX9_best_29 : decode cX9_best 29 = .ok (.getfield 288, 3) := by decide +kernel
theorem dX9_best_32 : decode cX9_best 32 = .ok (.iconst 1, 1) := by decide +kernel
theorem dX9_best_33 : decode cX9_best 33 = .ok (.iadd, 1) := by decide +kernel
theorem dX9_best_34 : decode cX9_best 34 = .ok (.putfield 288, 3) := by decide +kernel
theorem dX9_best_37 : decode cX9_best 37 = .ok (.aload_n 0, 1) := by decide +kernel
theorem dX9_best_38 : decode cX9_best 38 = .ok (.iload_n 1, 1) := by decide +kernel
theorem dX9_best_39 : decode cX9_best 39 = .ok (.iload_n 2, 1) := by decide +kernel
theorem dX9_best_40 : decode cX9_best 40 = .ok (.iload_n 3, 1) := by decide +kernel
theorem dX9_best_41 : decode cX9_best 41 = .ok (.invokevirtual 291, 3) := by decide +kernel
theorem dX9_best_44 : decode cX9_best 44 = .ok (.aload_n 0, 1) := by decide +kernel
theorem dX9_best_45 : decode cX9_best 45 = .ok (.iload_n 1, 1) := by decide +kernel
theorem dX9_best_46 : decode cX9_best 46 = .ok (.iload 4, 2) := by decide +kernel
theorem dX9_best_48 : decode cX9_best 48 = .ok (.invokevirtual 294, 3) := by decide +kernel
theorem dX9_best_51 : decode cX9_best 51 = .ok (.pop, 1) := by decide +kernel
theorem dX9_best_52 : decode cX9_best 52 = .ok (.aload_n 0, 1) := by decide +kernel
theorem dX9_best_53 : decode cX9_best 53 = .ok (.getfield 280, 3) := by decide +kernel
theorem dX9_best_56 : decode cX9_best 56 = .ok (.ireturn, 1) := by decide +kernel
theorem dX9_sign_0 : decode cX9_sign 0 = .ok (.aload_n 0, 1) := by decide +kernel
theorem dX9_sign_1 : decode cX9_sign 1 = .ok (.iload_n 1, 1) := by decide +kernel
theorem dX9_sign_2 : decode cX9_sign 2 = .ok (.iload_n 2, 1) := by decide +kernel
theorem dX9_sign_3 : decode cX9_sign 3 = .ok (.iload_n 3, 1) := by decide +kernel
theorem dX9_sign_4 : decode cX9_sign 4 = .ok (.iload 4, 2) := by decide +kernel
theorem dX9_sign_6 : decode cX9_sign 6 = .ok (.invokevirtual 285, 3) := by decide +kernel
theorem dX9_sign_9 : decode cX9_sign 9 = .ok (.ifCond .ne 6, 3) := by decide +kernel
theorem dX9_sign_12 : decode cX9_sign 12 = .ok (.bipush (-102), 2) := by decide +kernel
theorem dX9_sign_14 : decode cX9_sign 14 = .ok (.ireturn, 1) := by decide +kernel
theorem dX9_sign_15 : decode cX9_sign 15 = .ok (.aload_n 0, 1) := by decide +kernel
theorem dX9_sign_16 : decode cX9_sign 16 = .ok (.getfield 288, 3) := by decide +kernel
theorem dX9_sign_19 : decode cX9_sign 19 = .ok (.bipush 60, 2) := by decide +kernel
theorem dX9_sign_21 : decode cX9_sign 21 = .ok (.if_icmp .ne 6, 3) := by decide +kernel
theorem dX9_sign_24 : decode cX9_sign 24 = .ok (.bipush (-103), 2) := by decide +kernel
theorem dX9_sign_26 : decode cX9_sign 26 = .ok (.ireturn, 1) := by decide +kernel
theorem dX9_sign_27 : decode cX9_sign 27 = .ok (.aload_n 0, 1) := by decide +kernel
theorem dX9_sign_28 : decode cX9_sign 28 = .ok (.dup, 1) := by decide +kernel
theorem dX9_sign_29 : decode cX9_sign 29 = .ok (.getfield 288, 3) := by decide +kernel
theorem dX9_sign_32 : decode cX9_sign 32 = .ok (.iconst 1, 1) := by decide +kernel
theorem dX9_sign_33 : decode cX9_sign 33 = .ok (.iadd, 1) := by decide +kernel
theorem dX9_sign_34 : decode cX9_sign 34 = .ok (.putfield 288, 3) := by decide +kernel
theorem dX9_sign_37 : decode cX9_sign 37 = .ok (.aload_n 0, 1) := by decide +kernel
theorem dX9_sign_38 : decode cX9_sign 38 = .ok (.iload_n 1, 1) := by decide +kernel
theorem dX9_sign_39 : decode cX9_sign 39 = .ok (.iload_n 2, 1) := by decide +kernel
theorem dX9_sign_40 : decode cX9_sign 40 = .ok (.iload_n 3, 1) := by decide +kernel
theorem dX9_sign_41 : decode cX9_sign 41 = .ok (.invokevirtual 291, 3) := by decide +kernel
theorem dX9_sign_44 : decode cX9_sign 44 = .ok (.aload_n 0, 1) := by decide +kernel
theorem dX9_sign_45 : decode cX9_sign 45 = .ok (.iload_n 1, 1) := by decide +kernel
theorem dX9_sign_46 : decode cX9_sign 46 = .ok (.iload 4, 2) := by decide +kernel
theorem dX9_sign_48 : decode cX9_sign 48 = .ok (.invokevirtual 294, 3) := by decide +kernel
theorem dX9_sign_51 : decode cX9_sign 51 = .ok (.istore 6, 2) := by decide +kernel
theorem dX9_sign_53 : decode cX9_sign 53 = .ok (.iload 5, 2) := by decide +kernel
theorem dX9_sign_55 : decode cX9_sign 55 = .ok (.i2l, 1) := by decide +kernel
theorem dX9_sign_56 : decode cX9_sign 56 = .ok (.lconst 0, 1) := by decide +kernel
theorem dX9_sign_57 : decode cX9_sign 57 = .ok (.iload_n 1, 1) := by decide +kernel
theorem dX9_sign_58 : decode cX9_sign 58 = .ok (.invokestatic 266, 3) := by decide +kernel
theorem dX9_sign_61 : decode cX9_sign 61 = .ok (.iconst 1, 1) := by decide +kernel
theorem dX9_sign_62 : decode cX9_sign 62 = .ok (.isub, 1) := by decide +kernel
theorem dX9_sign_63 : decode cX9_sign 63 = .ok (.i2l, 1) := by decide +kernel
theorem dX9_sign_64 : decode cX9_sign 64 = .ok (.invokestatic 92, 3) := by decide +kernel
theorem dX9_sign_67 : decode cX9_sign 67 = .ok (.ifCond .eq 24, 3) := by decide +kernel
theorem dX9_sign_70 : decode cX9_sign 70 = .ok (.aload_n 0, 1) := by decide +kernel
theorem dX9_sign_71 : decode cX9_sign 71 = .ok (.getfield 64, 3) := by decide +kernel
theorem dX9_sign_74 : decode cX9_sign 74 = .ok (.bipush 21, 2) := by decide +kernel
theorem dX9_sign_76 : decode cX9_sign 76 = .ok (.bipush 9, 2) := by decide +kernel
theorem dX9_sign_78 : decode cX9_sign 78 = .ok (.iload_n 1, 1) := by decide +kernel
theorem dX9_sign_79 : decode cX9_sign 79 = .ok (.imul, 1) := by decide +kernel
theorem dX9_sign_80 : decode cX9_sign 80 = .ok (.iload 6, 2) := by decide +kernel
theorem dX9_sign_82 : decode cX9_sign 82 = .ok (.iadd, 1) := by decide +kernel
theorem dX9_sign_83 : decode cX9_sign 83 = .ok (.imul, 1) := by decide +kernel
theorem dX9_sign_84 : decode cX9_sign 84 = .ok (.iload 5, 2) := by decide +kernel
theorem dX9_sign_86 : decode cX9_sign 86 = .ok (.iadd, 1) := by decide +kernel
theorem dX9_sign_87 : decode cX9_sign 87 = .ok (.iaload, 1) := by decide +kernel
theorem dX9_sign_88 : decode cX9_sign 88 = .ok (.goto 4, 3) := by decide +kernel
theorem dX9_sign_91 : decode cX9_sign 91 = .ok (.iconst (-1), 1) := by decide +kernel
theorem dX9_sign_92 : decode cX9_sign 92 = .ok (.ireturn, 1) := by decide +kernel
theorem dX9_regret_0 : decode cX9_regret 0 = .ok (.aload_n 0, 1) := by decide +kernel
theorem dX9_regret_1 : decode cX9_regret 1 = .ok (.iload_n 1, 1) := by decide +kernel
theorem dX9_regret_2 : decode cX9_regret 2 = .ok (.invokevirtual 186, 3) := by decide +kernel
theorem dX9_regret_5 : decode cX9_regret 5 = .ok (.ifCond .eq 13, 3) := by decide +kernel
theorem dX9_regret_8 : decode cX9_regret 8 = .ok (.iload_n 2, 1) := by decide +kernel
theorem dX9_regret_9 : decode cX9_regret 9 = .ok (.i2l, 1) := by decide +kernel
theorem dX9_regret_10 : decode cX9_regret 10 = .ok (.lconst 0, 1) := by decide +kernel
theorem dX9_regret_11 : decode cX9_regret 11 = .ok (.lconst 1, 1) := by decide +kernel
theorem dX9_regret_12 : decode cX9_regret 12 = .ok (.invokestatic 92, 3) := by decide +kernel
theorem dX9_regret_15 : decode cX9_regret 15 = .ok (.ifCond .ne 6, 3) := by decide +kernel
theorem dX9_regret_18 : decode cX9_regret 18 = .ok (.bipush (-102), 2) := by decide +kernel
theorem dX9_regret_20 : decode cX9_regret 20 = .ok (.ireturn, 1) := by decide +kernel
theorem dX9_regret_21 : decode cX9_regret 21 = .ok (.aload_n 0, 1) := by decide +kernel
theorem dX9_regret_22 : decode cX9_regret 22 = .ok (.getfield 288, 3) := by decide +kernel
theorem dX9_regret_25 : decode cX9_regret 25 = .ok (.bipush 60, 2) := by decide +kernel
theorem dX9_regret_27 : decode cX9_regret 27 = .ok (.if_icmp .ne 6, 3) := by decide +kernel
theorem dX9_regret_30 : decode cX9_regret 30 = .ok (.bipush (-103), 2) := by decide +kernel
theorem dX9_regret_32 : decode cX9_regret 32 = .ok (.ireturn, 1) := by decide +kernel
theorem dX9_regret_33 : decode cX9_regret 33 = .ok (.aload_n 0, 1) := by decide +kernel
theorem dX9_regret_34 : decode cX9_regret 34 = .ok (.dup, 1) := by decide +kernel
theorem dX9_regret_35 : decode cX9_regret 35 = .ok (.getfield 288, 3) := by decide +kernel
theorem dX9_regret_38 : decode cX9_regret 38 = .ok (.iconst 1, 1) := by decide +kernel
theorem dX9_regret_39 : decode cX9_regret 39 = .ok (.iadd, 1) := by decide +kernel
theorem dX9_regret_40 : decode cX9_regret 40 = .ok (.putfield 288, 3) := by decide +kernel
theorem dX9_regret_43 : decode cX9_regret 43 = .ok (.aload_n 0, 1) := by decide +kernel
theorem dX9_regret_44 : decode cX9_regret 44 = .ok (.iload_n 1, 1) := by decide +kernel
theorem dX9_regret_45 : decode cX9_regret 45 = .ok (.iload_n 2, 1) := by decide +kernel
theorem dX9_regret_46 : decode cX9_regret 46 = .ok (.iconst 1, 1) := by decide +kernel
theorem dX9_regret_47 : decode cX9_regret 47 = .ok (.invokevirtual 291, 3) := by decide +kernel
theorem dX9_regret_50 : decode cX9_regret 50 = .ok (.aload_n 0, 1) := by decide +kernel
theorem dX9_regret_51 : decode cX9_regret 51 = .ok (.iload_n 1, 1) := by decide +kernel
theorem dX9_regret_52 : decode cX9_regret 52 = .ok (.iconst (-1), 1) := by decide +kernel
theorem dX9_regret_53 : decode cX9_regret 53 = .ok (.invokevirtual 294, 3) := by decide +kernel
theorem dX9_regret_56 : decode cX9_regret 56 = .ok (.istore_n 3, 1) := by decide +kernel
theorem dX9_regret_57 : decode cX9_regret 57 = .ok (.iconst 0, 1) := by decide +kernel
theorem dX9_regret_58 : decode cX9_regret 58 = .ok (.istore 4, 2) := by decide +kernel
theorem dX9_regret_60 : decode cX9_regret 60 = .ok (.iload 4, 2) := by decide +kernel
theorem dX9_regret_62 : decode cX9_regret 62 = .ok (.iload_n 1, 1) := by decide +kernel
theorem dX9_regret_63 : decode cX9_regret 63 = .ok (.invokestatic 266, 3) := by decide +kernel
theorem dX9_regret_66 : decode cX9_regret 66 = .ok (.if_icmp .ge 33, 3) := by decide +kernel
theorem dX9_regret_69 : decode cX9_regret 69 = .ok (.aload_n 0, 1) := by decide +kernel
theorem dX9_regret_70 : decode cX9_regret 70 = .ok (.getfield 70, 3) := by decide +kernel
theorem dX9_regret_73 : decode cX9_regret 73 = .ok (.iload 4, 2) := by decide +kernel
theorem dX9_regret_75 : decode cX9_regret 75 = .ok (.aload_n 0, 1) := by decide +kernel
theorem dX9_regret_76 : decode cX9_regret 76 = .ok (.getfield 64, 3) := by decide +kernel
theorem dX9_regret_79 : decode cX9_regret 79 = .ok (.bipush 21, 2) := by decide +kernel
theorem dX9_regret_81 : decode cX9_regret 81 = .ok (.bipush 9, 2) := by decide +kernel
theorem dX9_regret_83 : decode cX9_regret 83 = .ok (.iload_n 1, 1) := by decide +kernel
theorem dX9_regret_84 : decode cX9_regret 84 = .ok (.imul, 1) := by decide +kernel
theorem dX9_regret_85 : decode cX9_regret 85 = .ok (.iload_n 3, 1) := by decide +kernel
theorem dX9_regret_86 : decode cX9_regret 86 = .ok (.iadd, 1) := by decide +kernel
theorem dX9_regret_87 : decode cX9_regret 87 = .ok (.imul, 1) := by decide +kernel
theorem dX9_regret_88 : decode cX9_regret 88 = .ok (.iload 4, 2) := by decide +kernel
theorem dX9_regret_90 : decode cX9_regret 90 = .ok (.iadd, 1) := by decide +kernel
theorem dX9_regret_91 : decode cX9_regret 91 = .ok (.iaload, 1) := by decide +kernel
theorem dX9_regret_92 : decode cX9_regret 92 = .ok (.iastore, 1) := by decide +kernel
theorem dX9_regret_93 : decode cX9_regret 93 = .ok (.iinc 4 1, 3) := by decide +kernel
theorem dX9_regret_96 : decode cX9_regret 96 = .ok (.goto (-36), 3) := by decide +kernel
theorem dX9_regret_99 : decode cX9_regret 99 = .ok (.aload_n 0, 1) := by decide +kernel
theorem dX9_regret_100 : decode cX9_regret 100 = .ok (.iload_n 1, 1) := by decide +kernel
theorem dX9_regret_101 : decode cX9_regret 101 = .ok (.iload_n 2, 1) := by decide +kernel
theorem dX9_regret_102 : decode cX9_regret 102 = .ok (.iconst 0, 1) := by decide +kernel
theorem dX9_regret_103 : decode cX9_regret 103 = .ok (.invokevirtual 291, 3) := by decide +kernel
theorem dX9_regret_106 : decode cX9_regret 106 = .ok (.aload_n 0, 1) := by decide +kernel
theorem dX9_regret_107 : decode cX9_regret 107 = .ok (.iload_n 1, 1) := by decide +kernel
theorem dX9_regret_108 : decode cX9_regret 108 = .ok (.iconst (-1), 1) := by decide +kernel
theorem dX9_regret_109 : decode cX9_regret 109 = .ok (.invokevirtual 294, 3) := by decide +kernel
theorem dX9_regret_112 : decode cX9_regret 112 = .ok (.pop, 1) := by decide +kernel
theorem dX9_regret_113 : decode cX9_regret 113 = .ok (.aload_n 0, 1) := by decide +kernel
theorem dX9_regret_114 : decode cX9_regret 114 = .ok (.aload_n 0, 1) := by decide +kernel
theorem dX9_regret_115 : decode cX9_regret 115 = .ok (.getfield 70, 3) := by decide +kernel
theorem dX9_regret_118 : decode cX9_regret 118 = .ok (.iconst 0, 1) := by decide +kernel
theorem dX9_regret_119 : decode cX9_regret 119 = .ok (.iload_n 1, 1) := by decide +kernel
theorem dX9_regret_120 : decode cX9_regret 120 = .ok (.invokestatic 266, 3) := by decide +kernel
theorem dX9_regret_123 : decode cX9_regret 123 = .ok (.invokevirtual 256, 3) := by decide +kernel
theorem dX9_regret_126 : decode cX9_regret 126 = .ok (.aload_n 0, 1) := by decide +kernel
theorem dX9_regret_127 : decode cX9_regret 127 = .ok (.getfield 52, 3) := by decide +kernel
theorem dX9_regret_130 : decode cX9_regret 130 = .ok (.iconst 0, 1) := by decide +kernel
theorem dX9_regret_131 : decode cX9_regret 131 = .ok (.iaload, 1) := by decide +kernel
theorem dX9_regret_132 : decode cX9_regret 132 = .ok (.aload_n 0, 1) := by decide +kernel
theorem dX9_regret_133 : decode cX9_regret 133 = .ok (.getfield 280, 3) := by decide +kernel
theorem dX9_regret_136 : decode cX9_regret 136 = .ok (.isub, 1) := by decide +kernel
theorem dX9_regret_137 : decode cX9_regret 137 = .ok (.ireturn, 1) := by decide +kernel
theorem dX9_holder_0 : decode cX9_holder 0 = .ok (.aload_n 0, 1) := by decide +kernel
theorem dX9_holder_1 : decode cX9_holder 1 = .ok (.iload_n 1, 1) := by decide +kernel
theorem dX9_holder_2 : decode cX9_holder 2 = .ok (.iconst 1, 1) := by decide +kernel
theorem dX9_holder_3 : decode cX9_holder 3 = .ok (.iload_n 2, 1) := by decide +kernel
theorem dX9_holder_4 : decode cX9_holder 4 = .ok (.ishl, 1) := by decide +kernel
theorem dX9_holder_5 : decode cX9_holder 5 = .ok (.iconst (-1), 1) := by decide +kernel
theorem dX9_holder_6 : decode cX9_holder 6 = .ok (.ixor, 1) := by decide +kernel
theorem dX9_holder_7 : decode cX9_holder 7 = .ok (.iand, 1) := by decide +kernel
theorem dX9_holder_8 : decode cX9_holder 8 = .ok (.invokevirtual 230, 3) := by decide +kernel
theorem dX9_holder_11 : decode cX9_holder 11 = .ok (.aload_n 0, 1) := by decide +kernel
theorem dX9_holder_12 : decode cX9_holder 12 = .ok (.getfield 7, 3) := by decide +kernel
theorem dX9_holder_15 : decode cX9_holder 15 = .ok (.iload_n 2, 1) := by decide +kernel
theorem dX9_holder_16 : decode cX9_holder 16 = .ok (.iaload, 1) := by decide +kernel
theorem dX9_holder_17 : decode cX9_holder 17 = .ok (.iand, 1) := by decide +kernel
theorem dX9_holder_18 : decode cX9_holder 18 = .ok (.istore_n 3, 1) := by decide +kernel
theorem dX9_holder_19 : decode cX9_holder 19 = .ok (.iconst 0, 1) := by decide +kernel
theorem dX9_holder_20 : decode cX9_holder 20 = .ok (.istore 4, 2) := by decide +kernel
theorem dX9_holder_22 : decode cX9_holder 22 = .ok (.iload 4, 2) := by decide +kernel
theorem dX9_holder_24 : decode cX9_holder 24 = .ok (.aload_n 0, 1) := by decide +kernel
theorem dX9_holder_25 : decode cX9_holder 25 = .ok (.getfield 89, 3) := by decide +kernel
theorem dX9_holder_28 : decode cX9_holder 28 = .ok (.if_icmp .ge 42, 3) := by decide +kernel
theorem dX9_holder_31 : decode cX9_holder 31 = .ok (.iload 4, 2) := by decide +kernel
theorem dX9_holder_33 : decode cX9_holder 33 = .ok (.iload_n 2, 1) := by decide +kernel
theorem dX9_holder_34 : decode cX9_holder 34 = .ok (.if_icmp .eq 30, 3) := by decide +kernel
theorem dX9_holder_37 : decode cX9_holder 37 = .ok (.iload_n 1, 1) := by decide +kernel
theorem dX9_holder_38 : decode cX9_holder 38 = .ok (.iload 4, 2) := by decide +kernel
theorem dX9_holder_40 : decode cX9_holder 40 = .ok (.ishr, 1) := by decide +kernel
theorem dX9_holder_41 : decode cX9_holder 41 = .ok (.iconst 1, 1) := by decide +kernel
theorem dX9_holder_42 : decode cX9_holder 42 = .ok (.iand, 1) := by decide +kernel
theorem dX9_holder_43 : decode cX9_holder 43 = .ok (.iconst 1, 1) := by decide +kernel
theorem dX9_holder_44 : decode cX9_holder 44 = .ok (.if_icmp .ne 20, 3) := by decide +kernel
theorem dX9_holder_47 : decode cX9_holder 47 = .ok (.iload_n 3, 1) := by decide +kernel
theorem dX9_holder_48 : decode cX9_holder 48 = .ok (.aload_n 0, 1) := by decide +kernel
theorem dX9_holder_49 : decode cX9_holder 49 = .ok (.getfield 7, 3) := by decide +kernel
theorem dX9_holder_52 : decode cX9_holder 52 = .ok (.iload 4, 2) := by decide +kernel
theorem dX9_holder_54 : decode cX9_holder 54 = .ok (.iaload, 1) := by decide +kernel
theorem dX9_holder_55 : decode cX9_holder 55 = .ok (.iconst (-1), 1) := by decide +kernel
theorem dX9_holder_56 : decode cX9_holder 56 = .ok (.ixor, 1) := by decide +kernel
theorem dX9_holder_57 : decode cX9_holder 57 = .ok (.iand, 1) := by decide +kernel
theorem dX9_holder_58 : decode cX9_holder 58 = .ok (.ifCond .ne 6, 3) := by decide +kernel
theorem dX9_holder_61 : decode cX9_holder 61 = .ok (.iload 4, 2) := by decide +kernel
theorem dX9_holder_63 : decode cX9_holder 63 = .ok (.ireturn, 1) := by decide +kernel
theorem dX9_holder_64 : decode cX9_holder 64 = .ok (.iinc 4 1, 3) := by decide +kernel
theorem dX9_holder_67 : decode cX9_holder 67 = .ok (.goto (-45), 3) := by decide +kernel
theorem dX9_holder_70 : decode cX9_holder 70 = .ok (.iconst (-1), 1) := by decide +kernel
theorem dX9_holder_71 : decode cX9_holder 71 = .ok (.ireturn, 1) := by decide +kernel
theorem dX9_takeAway_0 : decode cX9_takeAway 0 = .ok (.iload_n 1, 1) := by decide +kernel
theorem dX9_takeAway_1 : decode cX9_takeAway 1 = .ok (.istore_n 2, 1) := by decide +kernel
theorem dX9_takeAway_2 : decode cX9_takeAway 2 = .ok (.aload_n 0, 1) := by decide +kernel
theorem dX9_takeAway_3 : decode cX9_takeAway 3 = .ok (.iconst 0, 1) := by decide +kernel
theorem dX9_takeAway_4 : decode cX9_takeAway 4 = .ok (.putfield 297, 3) := by decide +kernel
theorem dX9_takeAway_7 : decode cX9_takeAway 7 = .ok (.iconst 0, 1) := by decide +kernel
theorem dX9_takeAway_8 : decode cX9_takeAway 8 = .ok (.istore_n 3, 1) := by decide +kernel
theorem dX9_takeAway_9 : decode cX9_takeAway 9 = .ok (.iload_n 3, 1) := by decide +kernel
theorem dX9_takeAway_10 : decode cX9_takeAway 10 = .ok (.bipush 6, 2) := by decide +kernel
theorem dX9_takeAway_12 : decode cX9_takeAway 12 = .ok (.if_icmp .ge 16, 3) := by decide +kernel
theorem dX9_takeAway_15 : decode cX9_takeAway 15 = .ok (.aload_n 0, 1) := by decide +kernel
theorem dX9_takeAway_16 : decode cX9_takeAway 16 = .ok (.getfield 76, 3) := by decide +kernel
theorem dX9_takeAway_19 : decode cX9_takeAway 19 = .ok (.iload_n 3, 1) := by decide +kernel
theorem dX9_takeAway_20 : decode cX9_takeAway 20 = .ok (.iconst (-1), 1) := by decide +kernel
theorem dX9_takeAway_21 : decode cX9_takeAway 21 = .ok (.iastore, 1) := by decide +kernel
theorem dX9_takeAway_22 : decode cX9_takeAway 22 = .ok (.iinc 3 1, 3) := by decide +kernel
theorem dX9_takeAway_25 : decode cX9_takeAway 25 = .ok (.goto (-16), 3) := by decide +kernel
theorem dX9_takeAway_28 : decode cX9_takeAway 28 = .ok (.iconst 1, 1) := by decide +kernel
theorem dX9_takeAway_29 : decode cX9_takeAway 29 = .ok (.istore_n 3, 1) := by decide +kernel
theorem dX9_takeAway_30 : decode cX9_takeAway 30 = .ok (.iload_n 3, 1) := by decide +kernel
theorem dX9_takeAway_31 : decode cX9_takeAway 31 = .ok (.ifCond .eq 126, 3) := by decide +kernel
theorem dX9_takeAway_34 : decode cX9_takeAway 34 = .ok (.iconst (-1), 1) := by decide +kernel
theorem dX9_takeAway_35 : decode cX9_takeAway 35 = .ok (.istore 4, 2) := by decide +kernel
theorem dX9_takeAway_37 : decode cX9_takeAway 37 = .ok (.aload_n 0, 1) := by decide +kernel
theorem dX9_takeAway_38 : decode cX9_takeAway 38 = .ok (.getfield 89, 3) := by decide +kernel
theorem dX9_takeAway_41 : decode cX9_takeAway 41 = .ok (.iconst 1, 1) := by decide +kernel
theorem dX9_takeAway_42 : decode cX9_takeAway 42 = .ok (.isub, 1) := by decide +kernel
theorem dX9_takeAway_43 : decode cX9_takeAway 43 = .ok (.istore 5, 2) := by decide +kernel
theorem dX9_takeAway_45 : decode cX9_takeAway 45 = .ok (.iload 5, 2) := by decide +kernel
theorem dX9_takeAway_47 : decode cX9_takeAway 47 = .ok (.ifCond .lt 47, 3) := by decide +kernel
theorem dX9_takeAway_50 : decode cX9_takeAway 50 = .ok (.iload_n 2, 1) := by decide +kernel
theorem dX9_takeAway_51 : decode cX9_takeAway 51 = .ok (.iload 5, 2) := by decide +kernel
theorem dX9_takeAway_53 : decode cX9_takeAway 53 = .ok (.ishr, 1) := by decide +kernel
theorem dX9_takeAway_54 : decode cX9_takeAway 54 = .ok (.iconst 1, 1) := by decide +kernel
theorem dX9_takeAway_55 : decode cX9_takeAway 55 = .ok (.iand, 1) := by decide +kernel
theorem dX9_takeAway_56 : decode cX9_takeAway 56 = .ok (.iconst 1, 1) := by decide +kernel
theorem dX9_takeAway_57 : decode cX9_takeAway 57 = .ok (.if_icmp .ne 27, 3) := by decide +kernel
theorem dX9_takeAway_60 : decode cX9_takeAway 60 = .ok (.iload_n 2, 1) := by decide +kernel
theorem dX9_takeAway_61 : decode cX9_takeAway 61 = .ok (.iconst 1, 1) := by decide +kernel
theorem dX9_takeAway_62 : decode cX9_takeAway 62 = .ok (.iload 5, 2) := by decide +kernel
theorem dX9_takeAway_64 : decode cX9_takeAway 64 = .ok (.ishl, 1) := by decide +kernel
theorem dX9_takeAway_65 : decode cX9_takeAway 65 = .ok (.if_icmp .eq 14, 3) := by decide +kernel
theorem dX9_takeAway_68 : decode cX9_takeAway 68 = .ok (.aload_n 0, 1) := by decide +kernel
theorem dX9_takeAway_69 : decode cX9_takeAway 69 = .ok (.iload_n 2, 1) := by decide +kernel
theorem dX9_takeAway_70 : decode cX9_takeAway 70 = .ok (.iload 5, 2) := by decide +kernel
theorem dX9_takeAway_72 : decode cX9_takeAway 72 = .ok (.invokevirtual 300, 3) := by decide +kernel
theorem dX9_takeAway_75 : decode cX9_takeAway 75 = .ok (.iconst (-1), 1) := by decide +kernel
theorem dX9_takeAway_76 : decode cX9_takeAway 76 = .ok (.if_icmp .eq 8, 3) := by decide +kernel
theorem dX9_takeAway_79 : decode cX9_takeAway 79 = .ok (.iload 5, 2) := by decide +kernel
theorem dX9_takeAway_81 : decode cX9_takeAway 81 = .ok (.goto 5, 3) := by decide +kernel
theorem dX9_takeAway_84 : decode cX9_takeAway 84 = .ok (.iload 4, 2) := by decide +kernel
theorem dX9_takeAway_86 : decode cX9_takeAway 86 = .ok (.istore 4, 2) := by decide +kernel
theorem dX9_takeAway_88 : decode cX9_takeAway 88 = .ok (.iinc 5 (-1), 3) := by decide +kernel
theorem dX9_takeAway_91 : decode cX9_takeAway 91 = .ok (.goto (-46), 3) := by decide +kernel
theorem dX9_takeAway_94 : decode cX9_takeAway 94 = .ok (.iload 4, 2) := by decide +kernel
theorem dX9_takeAway_96 : decode cX9_takeAway 96 = .ok (.iconst (-1), 1) := by decide +kernel
theorem dX9_takeAway_97 : decode cX9_takeAway 97 = .ok (.if_icmp .eq 7, 3) := by decide +kernel
theorem dX9_takeAway_100 : decode cX9_takeAway 100 = .ok (.iconst 1, 1) := by decide +kernel
theorem dX9_takeAway_101 : decode cX9_takeAway 101 = .ok (.goto 4, 3) := by decide +kernel
theorem dX9_takeAway_104 : decode cX9_takeAway 104 = .ok (.iconst 0, 1) := by decide +kernel
theorem dX9_takeAway_105 : decode cX9_takeAway 105 = .ok (.istore_n 3, 1) := by decide +kernel
theorem dX9_takeAway_106 : decode cX9_takeAway 106 = .ok (.iload_n 3, 1) := by decide +kernel
theorem dX9_takeAway_107 : decode cX9_takeAway 107 = .ok (.ifCond .eq 47, 3) := by decide +kernel
theorem dX9_takeAway_110 : decode cX9_takeAway 110 = .ok (.aload_n 0, 1) := by decide +kernel
theorem dX9_takeAway_111 : decode cX9_takeAway 111 = .ok (.getfield 76, 3) := by decide +kernel
theorem dX9_takeAway_114 : decode cX9_takeAway 114 = .ok (.iload 4, 2) := by decide +kernel
theorem dX9_takeAway_116 : decode cX9_takeAway 116 = .ok (.aload_n 0, 1) := by decide +kernel
theorem dX9_takeAway_117 : decode cX9_takeAway 117 = .ok (.iload_n 2, 1) := by decide +kernel
theorem dX9_takeAway_118 : decode cX9_takeAway 118 = .ok (.iload 4, 2) := by decide +kernel
theorem dX9_takeAway_120 : decode cX9_takeAway 120 = .ok (.invokevirtual 300, 3) := by decide +kernel
theorem dX9_takeAway_123 : decode cX9_takeAway 123 = .ok (.iastore, 1) := by decide +kernel
theorem dX9_takeAway_124 : decode cX9_takeAway 124 = .ok (.aload_n 0, 1) := by decide +kernel
theorem dX9_takeAway_125 : decode cX9_takeAway 125 = .ok (.getfield 73, 3) := by decide +kernel
theorem dX9_takeAway_128 : decode cX9_takeAway 128 = .ok (.aload_n 0, 1) := by decide +kernel
theorem dX9_takeAway_129 : decode cX9_takeAway 129 = .ok (.getfield 297, 3) := by decide +kernel
theorem dX9_takeAway_132 : decode cX9_takeAway 132 = .ok (.iload 4, 2) := by decide +kernel
theorem dX9_takeAway_134 : decode cX9_takeAway 134 = .ok (.iastore, 1) := by decide +kernel
theorem dX9_takeAway_135 : decode cX9_takeAway 135 = .ok (.aload_n 0, 1) := by decide +kernel
theorem dX9_takeAway_136 : decode cX9_takeAway 136 = .ok (.dup, 1) := by decide +kernel
theorem dX9_takeAway_137 : decode cX9_takeAway 137 = .ok (.getfield 297, 3) := by decide +kernel
theorem dX9_takeAway_140 : decode cX9_takeAway 140 = .ok (.iconst 1, 1) := by decide +kernel
theorem dX9_takeAway_141 : decode cX9_takeAway 141 = .ok (.iadd, 1) := by decide +kernel
theorem dX9_takeAway_142 : decode cX9_takeAway 142 = .ok (.putfield 297, 3) := by decide +kernel
theorem dX9_takeAway_145 : decode cX9_takeAway 145 = .ok (.iload_n 2, 1) := by decide +kernel
theorem dX9_takeAway_146 : decode cX9_takeAway 146 = .ok (.iconst 1, 1) := by decide +kernel
theorem dX9_takeAway_147 : decode cX9_takeAway 147 = .ok (.iload 4, 2) := by decide +kernel
theorem dX9_takeAway_149 : decode cX9_takeAway 149 = .ok (.ishl, 1) := by decide +kernel
theorem dX9_takeAway_150 : decode cX9_takeAway 150 = .ok (.iconst (-1), 1) := by decide +kernel
theorem dX9_takeAway_151 : decode cX9_takeAway 151 = .ok (.ixor, 1) := by decide +kernel
theorem dX9_takeAway_152 : decode cX9_takeAway 152 = .ok (.iand, 1) := by decide +kernel
theorem dX9_takeAway_153 : decode cX9_takeAway 153 = .ok (.istore_n 2, 1) := by decide +kernel
theorem dX9_takeAway_154 : decode cX9_takeAway 154 = .ok (.goto (-124), 3) := by decide +kernel
theorem dX9_takeAway_157 : decode cX9_takeAway 157 = .ok (.return_, 1) := by decide +kernel
theorem dX9_doesHang_0 : decode cX9_doesHang 0 = .ok (.aload_n 0, 1) := by decide +kernel
theorem dX9_doesHang_1 : decode cX9_doesHang 1 = .ok (.iload_n 1, 1) := by decide +kernel
theorem dX9_doesHang_2 : decode cX9_doesHang 2 = .ok (.invokevirtual 303, 3) := by decide +kernel
theorem dX9_doesHang_5 : decode cX9_doesHang 5 = .ok (.aload_n 0, 1) := by decide +kernel
theorem dX9_doesHang_6 : decode cX9_doesHang 6 = .ok (.getfield 297, 3) := by decide +kernel
theorem dX9_doesHang_9 : decode cX9_doesHang 9 = .ok (.iload_n 1, 1) := by decide +kernel
theorem dX9_doesHang_10 : decode cX9_doesHang 10 = .ok (.invokestatic 98, 3) := by decide +kernel
theorem dX9_doesHang_13 : decode cX9_doesHang 13 = .ok (.if_icmp .ne 7, 3) := by decide +kernel
theorem dX9_doesHang_16 : decode cX9_doesHang 16 = .ok (.iconst 1, 1) := by decide +kernel
theorem dX9_doesHang_17 : decode cX9_doesHang 17 = .ok (.goto 4, 3) := by decide +kernel
theorem dX9_doesHang_20 : decode cX9_doesHang 20 = .ok (.iconst 0, 1) := by decide +kernel
theorem dX9_doesHang_21 : decode cX9_doesHang 21 = .ok (.ireturn, 1) := by decide +kernel
theorem dX9_hangs_0 : decode cX9_hangs 0 = .ok (.aload_n 0, 1) := by decide +kernel
theorem dX9_hangs_1 : decode cX9_hangs 1 = .ok (.iload_n 1, 1) := by decide +kernel
theorem dX9_hangs_2 : decode cX9_hangs 2 = .ok (.invokevirtual 186, 3) := by decide +kernel
theorem dX9_hangs_5 : decode cX9_hangs 5 = .ok (.ifCond .ne 6, 3) := by decide +kernel
theorem dX9_hangs_8 : decode cX9_hangs 8 = .ok (.bipush (-102), 2) := by decide +kernel
theorem dX9_hangs_10 : decode cX9_hangs 10 = .ok (.ireturn, 1) := by decide +kernel
theorem dX9_hangs_11 : decode cX9_hangs 11 = .ok (.aload_n 0, 1) := by decide +kernel
theorem dX9_hangs_12 : decode cX9_hangs 12 = .ok (.iload_n 1, 1) := by decide +kernel
theorem dX9_hangs_13 : decode cX9_hangs 13 = .ok (.invokevirtual 306, 3) := by decide +kernel
theorem dX9_hangs_16 : decode cX9_hangs 16 = .ok (.ifCond .eq 7, 3) := by decide +kernel
theorem dX9_hangs_19 : decode cX9_hangs 19 = .ok (.iconst 1, 1) := by decide +kernel
theorem dX9_hangs_20 : decode cX9_hangs 20 = .ok (.goto 4, 3) := by decide +kernel
theorem dX9_hangs_23 : decode cX9_hangs 23 = .ok (.iconst 0, 1) := by decide +kernel
theorem dX9_hangs_24 : decode cX9_hangs 24 = .ok (.ireturn, 1) := by decide +kernel
theorem dX9_goes_0 : decode cX9_goes 0 = .ok (.aload_n 0, 1) := by decide +kernel
theorem dX9_goes_1 : decode cX9_goes 1 = .ok (.iload_n 1, 1) := by decide +kernel
theorem dX9_goes_2 : decode cX9_goes 2 = .ok (.invokevirtual 186, 3) := by decide +kernel
theorem dX9_goes_5 : decode cX9_goes 5 = .ok (.ifCond .ne 6, 3) := by decide +kernel
theorem dX9_goes_8 : decode cX9_goes 8 = .ok (.bipush (-102), 2) := by decide +kernel
theorem dX9_goes_10 : decode cX9_goes 10 = .ok (.ireturn, 1) := by decide +kernel
theorem dX9_goes_11 : decode cX9_goes 11 = .ok (.aload_n 0, 1) := by decide +kernel
theorem dX9_goes_12 : decode cX9_goes 12 = .ok (.iload_n 1, 1) := by decide +kernel
theorem dX9_goes_13 : decode cX9_goes 13 = .ok (.invokevirtual 303, 3) := by decide +kernel
theorem dX9_goes_16 : decode cX9_goes 16 = .ok (.iload_n 2, 1) := by decide +kernel
theorem dX9_goes_17 : decode cX9_goes 17 = .ok (.i2l, 1) := by decide +kernel
theorem dX9_goes_18 : decode cX9_goes 18 = .ok (.lconst 0, 1) := by decide +kernel
theorem dX9_goes_19 : decode cX9_goes 19 = .ok (.aload_n 0, 1) := by decide +kernel
theorem dX9_goes_20 : decode cX9_goes 20 = .ok (.getfield 297, 3) := by decide +kernel
theorem dX9_goes_23 : decode cX9_goes 23 = .ok (.iconst 1, 1) := by decide +kernel
theorem dX9_goes_24 : decode cX9_goes 24 = .ok (.isub, 1) := by decide +kernel
theorem dX9_goes_25 : decode cX9_goes 25 = .ok (.i2l, 1) := by decide +kernel
theorem dX9_goes_26 : decode cX9_goes 26 = .ok (.invokestatic 92, 3) := by decide +kernel
theorem dX9_goes_29 : decode cX9_goes 29 = .ok (.ifCond .eq 12, 3) := by decide +kernel
theorem dX9_goes_32 : decode cX9_goes 32 = .ok (.aload_n 0, 1) := by decide +kernel
theorem dX9_goes_33 : decode cX9_goes 33 = .ok (.getfield 73, 3) := by decide +kernel
theorem dX9_goes_36 : decode cX9_goes 36 = .ok (.iload_n 2, 1) := by decide +kernel
theorem dX9_goes_37 : decode cX9_goes 37 = .ok (.iaload, 1) := by decide +kernel
theorem dX9_goes_38 : decode cX9_goes 38 = .ok (.goto 4, 3) := by decide +kernel
theorem dX9_goes_41 : decode cX9_goes 41 = .ok (.iconst (-1), 1) := by decide +kernel
theorem dX9_goes_42 : decode cX9_goes 42 = .ok (.ireturn, 1) := by decide +kernel
theorem dX9_on_0 : decode cX9_on 0 = .ok (.aload_n 0, 1) := by decide +kernel
theorem dX9_on_1 : decode cX9_on 1 = .ok (.iload_n 1, 1) := by decide +kernel
theorem dX9_on_2 : decode cX9_on 2 = .ok (.invokevirtual 186, 3) := by decide +kernel
theorem dX9_on_5 : decode cX9_on 5 = .ok (.ifCond .ne 6, 3) := by decide +kernel
theorem dX9_on_8 : decode cX9_on 8 = .ok (.bipush (-102), 2) := by decide +kernel
theorem dX9_on_10 : decode cX9_on 10 = .ok (.ireturn, 1) := by decide +kernel
theorem dX9_on_11 : decode cX9_on 11 = .ok (.aload_n 0, 1) := by decide +kernel
theorem dX9_on_12 : decode cX9_on 12 = .ok (.iload_n 1, 1) := by decide +kernel
theorem dX9_on_13 : decode cX9_on 13 = .ok (.iload_n 2, 1) := by decide +kernel
theorem dX9_on_14 : decode cX9_on 14 = .ok (.invokevirtual 195, 3) := by decide +kernel
theorem dX9_on_17 : decode cX9_on 17 = .ok (.ifCond .ne 6, 3) := by decide +kernel
theorem dX9_on_20 : decode cX9_on 20 = .ok (.bipush (-101), 2) := by decide +kernel
theorem dX9_on_22 : decode cX9_on 22 = .ok (.ireturn, 1) := by decide +kernel
theorem dX9_on_23 : decode cX9_on 23 = .ok (.aload_n 0, 1) := by decide +kernel
theorem dX9_on_24 : decode cX9_on 24 = .ok (.iload_n 1, 1) := by decide +kernel
theorem dX9_on_25 : decode cX9_on 25 = .ok (.invokevirtual 303, 3) := by decide +kernel
theorem dX9_on_28 : decode cX9_on 28 = .ok (.aload_n 0, 1) := by decide +kernel
theorem dX9_on_29 : decode cX9_on 29 = .ok (.getfield 76, 3) := by decide +kernel
theorem dX9_on_32 : decode cX9_on 32 = .ok (.iload_n 2, 1) := by decide +kernel
theorem dX9_on_33 : decode cX9_on 33 = .ok (.iaload, 1) := by decide +kernel
theorem dX9_on_34 : decode cX9_on 34 = .ok (.ireturn, 1) := by decide +kernel
theorem dX9_cut_0 : decode cX9_cut 0 = .ok (.iconst 0, 1) := by decide +kernel
theorem dX9_cut_1 : decode cX9_cut 1 = .ok (.istore_n 3, 1) := by decide +kernel
theorem dX9_cut_2 : decode cX9_cut 2 = .ok (.iload_n 3, 1) := by decide +kernel
theorem dX9_cut_3 : decode cX9_cut 3 = .ok (.aload_n 0, 1) := by decide +kernel
theorem dX9_cut_4 : decode cX9_cut 4 = .ok (.getfield 16, 3) := by decide +kernel
theorem dX9_cut_7 : decode cX9_cut 7 = .ok (.iload_n 1, 1) := by decide +kernel
theorem dX9_cut_8 : decode cX9_cut 8 = .ok (.iaload, 1) := by decide +kernel
theorem dX9_cut_9 : decode cX9_cut 9 = .ok (.if_icmp .ge 94, 3) := by decide +kernel
theorem dX9_cut_12 : decode cX9_cut 12 = .ok (.iconst 0, 1) := by decide +kernel
theorem dX9_cut_13 : decode cX9_cut 13 = .ok (.istore 4, 2) := by decide +kernel
theorem dX9_cut_15 : decode cX9_cut 15 = .ok (.iconst 0, 1) := by decide +kernel
theorem dX9_cut_16 : decode cX9_cut 16 = .ok (.istore 5, 2) := by decide +kernel
theorem dX9_cut_18 : decode cX9_cut 18 = .ok (.iload 5, 2) := by decide +kernel
theorem dX9_cut_20 : decode cX9_cut 20 = .ok (.aload_n 0, 1) := by decide +kernel
theorem dX9_cut_21 : decode cX9_cut 21 = .ok (.getfield 16, 3) := by decide +kernel
theorem dX9_cut_24 : decode cX9_cut 24 = .ok (.iload_n 2, 1) := by decide +kernel
theorem dX9_cut_25 : decode cX9_cut 25 = .ok (.iaload, 1) := by decide +kernel
theorem dX9_cut_26 : decode cX9_cut 26 = .ok (.if_icmp .ge 48, 3) := by decide +kernel
theorem dX9_cut_29 : decode cX9_cut 29 = .ok (.iload 4, 2) := by decide +kernel
theorem dX9_cut_31 : decode cX9_cut 31 = .ok (.ifCond .ne 30, 3) := by decide +kernel
theorem dX9_cut_34 : decode cX9_cut 34 = .ok (.aload_n 0, 1) := by decide +kernel
theorem dX9_cut_35 : decode cX9_cut 35 = .ok (.getfield 79, 3) := by decide +kernel
theorem dX9_cut_38 : decode cX9_cut 38 = .ok (.iload_n 2, 1) := by decide +kernel
theorem dX9_cut_39 : decode cX9_cut 39 = .ok (.iaload, 1) := by decide +kernel
theorem dX9_cut_40 : decode cX9_cut 40 = .ok (.iload 5, 2) := by decide +kernel
theorem dX9_cut_42 : decode cX9_cut 42 = .ok (.ishr, 1) := by decide +kernel
theorem dX9_cut_43 : decode cX9_cut 43 = .ok (.iconst 1, 1) := by decide +kernel
theorem dX9_cut_44 : decode cX9_cut 44 = .ok (.iand, 1) := by decide +kernel
theorem dX9_cut_45 : decode cX9_cut 45 = .ok (.iconst 1, 1) := by decide +kernel
theorem dX9_cut_46 : decode cX9_cut 46 = .ok (.if_icmp .ne 19, 3) := by decide +kernel
theorem dX9_cut_49 : decode cX9_cut 49 = .ok (.aload_n 0, 1) := by decide +kernel
theorem dX9_cut_50 : decode cX9_cut 50 = .ok (.iload_n 1, 1) := by decide +kernel
theorem dX9_cut_51 : decode cX9_cut 51 = .ok (.iload_n 3, 1) := by decide +kernel
theorem dX9_cut_52 : decode cX9_cut 52 = .ok (.iload_n 2, 1) := by decide +kernel
theorem dX9_cut_53 : decode cX9_cut 53 = .ok (.iload 5, 2) := by decide +kernel
theorem dX9_cut_55 : decode cX9_cut 55 = .ok (.invokevirtual 160, 3) := by decide +kernel
theorem dX9_cut_58 : decode cX9_cut 58 = .ok (.ifCond .eq 7, 3) := by decide +kernel
theorem dX9_cut_61 : decode cX9_cut 61 = .ok (.iconst 1, 1) := by decide +kernel
theorem dX9_cut_62 : decode cX9_cut 62 = .ok (.goto 4, 3) := by decide +kernel
theorem dX9_cut_65 : decode cX9_cut 65 = .ok (.iconst 0, 1) := by decide +kernel
theorem dX9_cut_66 : decode cX9_cut 66 = .ok (.istore 4, 2) := by decide +kernel
theorem dX9_cut_68 : decode cX9_cut 68 = .ok (.iinc 5 1, 3) := by decide +kernel
theorem dX9_cut_71 : decode cX9_cut 71 = .ok (.goto (-53), 3) := by decide +kernel
theorem dX9_cut_74 : decode cX9_cut 74 = .ok (.aload_n 0, 1) := by decide +kernel
theorem dX9_cut_75 : decode cX9_cut 75 = .ok (.getfield 79, 3) := by decide +kernel
theorem dX9_cut_78 : decode cX9_cut 78 = .ok (.iload_n 1, 1) := by decide +kernel
theorem dX9_cut_79 : decode cX9_cut 79 = .ok (.dup2, 1) := by decide +kernel
theorem dX9_cut_80 : decode cX9_cut 80 = .ok (.iaload, 1) := by decide +kernel
theorem dX9_cut_81 : decode cX9_cut 81 = .ok (.iload 4, 2) := by decide +kernel
theorem dX9_cut_83 : decode cX9_cut 83 = .ok (.ifCond .eq 7, 3) := by decide +kernel
theorem dX9_cut_86 : decode cX9_cut 86 = .ok (.iconst (-1), 1) := by decide +kernel
theorem dX9_cut_87 : decode cX9_cut 87 = .ok (.goto 8, 3) := by decide +kernel
theorem dX9_cut_90 : decode cX9_cut 90 = .ok (.iconst 1, 1) := by decide +kernel
theorem dX9_cut_91 : decode cX9_cut 91 = .ok (.iload_n 3, 1) := by decide +kernel
theorem dX9_cut_92 : decode cX9_cut 92 = .ok (.ishl, 1) := by decide +kernel
theorem dX9_cut_93 : decode cX9_cut 93 = .ok (.iconst (-1), 1) := by decide +kernel
theorem dX9_cut_94 : decode cX9_cut 94 = .ok (.ixor, 1) := by decide +kernel
theorem dX9_cut_95 : decode cX9_cut 95 = .ok (.iand, 1) := by decide +kernel
theorem dX9_cut_96 : decode cX9_cut 96 = .ok (.iastore, 1) := by decide +kernel
theorem dX9_cut_97 : decode cX9_cut 97 = .ok (.iinc 3 1, 3) := by decide +kernel
theorem dX9_cut_100 : decode cX9_cut 100 = .ok (.goto (-98), 3) := by decide +kernel
theorem dX9_cut_103 : decode cX9_cut 103 = .ok (.return_, 1) := by decide +kernel
theorem dX9_cutAll_0 : decode cX9_cutAll 0 = .ok (.iconst 0, 1) := by decide +kernel
theorem dX9_cutAll_1 : decode cX9_cutAll 1 = .ok (.istore_n 1, 1) := by decide +kernel
theorem dX9_cutAll_2 : decode cX9_cutAll 2 = .ok (.iload_n 1, 1) := by decide +kernel
theorem dX9_cutAll_3 : decode cX9_cutAll 3 = .ok (.aload_n 0, 1) := by decide +kernel
theorem dX9_cutAll_4 : decode cX9_cutAll 4 = .ok (.getfield 89, 3) := by decide +kernel
theorem dX9_cutAll_7 : decode cX9_cutAll 7 = .ok (.if_icmp .ge 25, 3) := by decide +kernel
theorem dX9_cutAll_10 : decode cX9_cutAll 10 = .ok (.aload_n 0, 1) := by decide +kernel
theorem dX9_cutAll_11 : decode cX9_cutAll 11 = .ok (.getfield 79, 3) := by decide +kernel
theorem dX9_cutAll_14 : decode cX9_cutAll 14 = .ok (.iload_n 1, 1) := by decide +kernel
theorem dX9_cutAll_15 : decode cX9_cutAll 15 = .ok (.iconst 1, 1) := by decide +kernel
theorem dX9_cutAll_16 : decode cX9_cutAll 16 = .ok (.aload_n 0, 1) := by decide +kernel
theorem dX9_cutAll_17 : decode cX9_cutAll 17 = .ok (.getfield 16, 3) := by decide +kernel
theorem dX9_cutAll_20 : decode cX9_cutAll 20 = .ok (.iload_n 1, 1) := by decide +kernel
theorem dX9_cutAll_21 : decode cX9_cutAll 21 = .ok (.iaload, 1) := by decide +kernel
theorem dX9_cutAll_22 : decode cX9_cutAll 22 = .ok (.ishl, 1) := by decide +kernel
theorem dX9_cutAll_23 : decode cX9_cutAll 23 = .ok (.iconst 1, 1) := by decide +kernel
theorem dX9_cutAll_24 : decode cX9_cutAll 24 = .ok (.isub, 1) := by decide +kernel
theorem dX9_cutAll_25 : decode cX9_cutAll 25 = .ok (.iastore, 1) := by decide +kernel
theorem dX9_cutAll_26 : decode cX9_cutAll 26 = .ok (.iinc 1 1, 3) := by decide +kernel
theorem dX9_cutAll_29 : decode cX9_cutAll 29 = .ok (.goto (-27), 3) := by decide +kernel
theorem dX9_cutAll_32 : decode cX9_cutAll 32 = .ok (.iconst 0, 1) := by decide +kernel
theorem dX9_cutAll_33 : decode cX9_cutAll 33 = .ok (.istore_n 1, 1) := by decide +kernel
theorem dX9_cutAll_34 : decode cX9_cutAll 34 = .ok (.iload_n 1, 1) := by decide +kernel
theorem dX9_cutAll_35 : decode cX9_cutAll 35 = .ok (.aload_n 0, 1) := by decide +kernel
theorem dX9_cutAll_36 : decode cX9_cutAll 36 = .ok (.getfield 297, 3) := by decide +kernel
theorem dX9_cutAll_39 : decode cX9_cutAll 39 = .ok (.iconst 1, 1) := by decide +kernel
theorem dX9_cutAll_40 : decode cX9_cutAll 40 = .ok (.isub, 1) := by decide +kernel
theorem dX9_cutAll_41 : decode cX9_cutAll 41 = .ok (.if_icmp .ge 30, 3) := by decide +kernel
theorem dX9_cutAll_44 : decode cX9_cutAll 44 = .ok (.aload_n 0, 1) := by decide +kernel
theorem dX9_cutAll_45 : decode cX9_cutAll 45 = .ok (.aload_n 0, 1) := by decide +kernel
theorem dX9_cutAll_46 : decode cX9_cutAll 46 = .ok (.getfield 76, 3) := by decide +kernel
theorem dX9_cutAll_49 : decode cX9_cutAll 49 = .ok (.aload_n 0, 1) := by decide +kernel
theorem dX9_cutAll_50 : decode cX9_cutAll 50 = .ok (.getfield 73, 3) := by decide +kernel
theorem dX9_cutAll_53 : decode cX9_cutAll 53 = .ok (.iload_n 1, 1) := by decide +kernel
theorem dX9_cutAll_54 : decode cX9_cutAll 54 = .ok (.iaload, 1) := by decide +kernel
theorem dX9_cutAll_55 : decode cX9_cutAll 55 = .ok (.iaload, 1) := by decide +kernel
theorem dX9_cutAll_56 : decode cX9_cutAll 56 = .ok (.aload_n 0, 1) := by decide +kernel
theorem dX9_cutAll_57 : decode cX9_cutAll 57 = .ok (.getfield 73, 3) := by decide +kernel
theorem dX9_cutAll_60 : decode cX9_cutAll 60 = .ok (.iload_n 1, 1) := by decide +kernel
theorem dX9_cutAll_61 : decode cX9_cutAll 61 = .ok (.iaload, 1) := by decide +kernel
theorem dX9_cutAll_62 : decode cX9_cutAll 62 = .ok (.invokevirtual 309, 3) := by decide +kernel
theorem dX9_cutAll_65 : decode cX9_cutAll 65 = .ok (.iinc 1 1, 3) := by decide +kernel
theorem dX9_cutAll_68 : decode cX9_cutAll 68 = .ok (.goto (-34), 3) := by decide +kernel
theorem dX9_cutAll_71 : decode cX9_cutAll 71 = .ok (.aload_n 0, 1) := by decide +kernel
theorem dX9_cutAll_72 : decode cX9_cutAll 72 = .ok (.getfield 297, 3) := by decide +kernel
theorem dX9_cutAll_75 : decode cX9_cutAll 75 = .ok (.iconst 2, 1) := by decide +kernel
theorem dX9_cutAll_76 : decode cX9_cutAll 76 = .ok (.isub, 1) := by decide +kernel
theorem dX9_cutAll_77 : decode cX9_cutAll 77 = .ok (.istore_n 1, 1) := by decide +kernel
theorem dX9_cutAll_78 : decode cX9_cutAll 78 = .ok (.iload_n 1, 1) := by decide +kernel
theorem dX9_cutAll_79 : decode cX9_cutAll 79 = .ok (.ifCond .lt 30, 3) := by decide +kernel
theorem dX9_cutAll_82 : decode cX9_cutAll 82 = .ok (.aload_n 0, 1) := by decide +kernel
theorem dX9_cutAll_83 : decode cX9_cutAll 83 = .ok (.aload_n 0, 1) := by decide +kernel
theorem dX9_cutAll_84 : decode cX9_cutAll 84 = .ok (.getfield 73, 3) := by decide +kernel
theorem dX9_cutAll_87 : decode cX9_cutAll 87 = .ok (.iload_n 1, 1) := by decide +kernel
theorem dX9_cutAll_88 : decode cX9_cutAll 88 = .ok (.iaload, 1) := by decide +kernel
theorem dX9_cutAll_89 : decode cX9_cutAll 89 = .ok (.aload_n 0, 1) := by decide +kernel
theorem dX9_cutAll_90 : decode cX9_cutAll 90 = .ok (.getfield 76, 3) := by decide +kernel
theorem dX9_cutAll_93 : decode cX9_cutAll 93 = .ok (.aload_n 0, 1) := by decide +kernel
theorem dX9_cutAll_94 : decode cX9_cutAll 94 = .ok (.getfield 73, 3) := by decide +kernel
theorem dX9_cutAll_97 : decode cX9_cutAll 97 = .ok (.iload_n 1, 1) := by decide +kernel
theorem dX9_cutAll_98 : decode cX9_cutAll 98 = .ok (.iaload, 1) := by decide +kernel
theorem dX9_cutAll_99 : decode cX9_cutAll 99 = .ok (.iaload, 1) := by decide +kernel
theorem dX9_cutAll_100 : decode cX9_cutAll 100 = .ok (.invokevirtual 309, 3) := by decide +kernel
theorem dX9_cutAll_103 : decode cX9_cutAll 103 = .ok (.iinc 1 (-1), 3) := by decide +kernel
theorem dX9_cutAll_106 : decode cX9_cutAll 106 = .ok (.goto (-28), 3) := by decide +kernel
theorem dX9_cutAll_109 : decode cX9_cutAll 109 = .ok (.return_, 1) := by decide +kernel
theorem dX9_left_0 : decode cX9_left 0 = .ok (.aload_n 0, 1) := by decide +kernel
theorem dX9_left_1 : decode cX9_left 1 = .ok (.iload_n 1, 1) := by decide +kernel
theorem dX9_left_2 : decode cX9_left 2 = .ok (.invokevirtual 186, 3) := by decide +kernel
theorem dX9_left_5 : decode cX9_left 5 = .ok (.ifCond .ne 6, 3) := by decide +kernel
theorem dX9_left_8 : decode cX9_left 8 = .ok (.bipush (-102), 2) := by decide +kernel
theorem dX9_left_10 : decode cX9_left 10 = .ok (.ireturn, 1) := by decide +kernel
theorem dX9_left_11 : decode cX9_left 11 = .ok (.aload_n 0, 1) := by decide +kernel
theorem dX9_left_12 : decode cX9_left 12 = .ok (.iload_n 1, 1) := by decide +kernel
theorem dX9_left_13 : decode cX9_left 13 = .ok (.iload_n 2, 1) := by decide +kernel
theorem dX9_left_14 : decode cX9_left 14 = .ok (.invokevirtual 195, 3) := by decide +kernel
theorem dX9_left_17 : decode cX9_left 17 = .ok (.ifCond .ne 6, 3) := by decide +kernel
theorem dX9_left_20 : decode cX9_left 20 = .ok (.bipush (-101), 2) := by decide +kernel
theorem dX9_left_22 : decode cX9_left 22 = .ok (.ireturn, 1) := by decide +kernel
theorem dX9_left_23 : decode cX9_left 23 = .ok (.aload_n 0, 1) := by decide +kernel
theorem dX9_left_24 : decode cX9_left 24 = .ok (.iload_n 1, 1) := by decide +kernel
theorem dX9_left_25 : decode cX9_left 25 = .ok (.invokevirtual 306, 3) := by decide +kernel
theorem dX9_left_28 : decode cX9_left 28 = .ok (.ifCond .ne 6, 3) := by decide +kernel
theorem dX9_left_31 : decode cX9_left 31 = .ok (.bipush (-103), 2) := by decide +kernel
theorem dX9_left_33 : decode cX9_left 33 = .ok (.ireturn, 1) := by decide +kernel
theorem dX9_left_34 : decode cX9_left 34 = .ok (.aload_n 0, 1) := by decide +kernel
theorem dX9_left_35 : decode cX9_left 35 = .ok (.invokevirtual 312, 3) := by decide +kernel
theorem dX9_left_38 : decode cX9_left 38 = .ok (.aload_n 0, 1) := by decide +kernel
theorem dX9_left_39 : decode cX9_left 39 = .ok (.getfield 79, 3) := by decide +kernel
theorem dX9_left_42 : decode cX9_left 42 = .ok (.iload_n 2, 1) := by decide +kernel
theorem dX9_left_43 : decode cX9_left 43 = .ok (.iaload, 1) := by decide +kernel
theorem dX9_left_44 : decode cX9_left 44 = .ok (.ireturn, 1) := by decide +kernel
theorem dX9_steps_0 : decode cX9_steps 0 = .ok (.aload_n 0, 1) := by decide +kernel
theorem dX9_steps_1 : decode cX9_steps 1 = .ok (.iload_n 1, 1) := by decide +kernel
theorem dX9_steps_2 : decode cX9_steps 2 = .ok (.invokevirtual 186, 3) := by decide +kernel
theorem dX9_steps_5 : decode cX9_steps 5 = .ok (.ifCond .ne 6, 3) := by decide +kernel
theorem dX9_steps_8 : decode cX9_steps 8 = .ok (.bipush (-102), 2) := by decide +kernel
theorem dX9_steps_10 : decode cX9_steps 10 = .ok (.ireturn, 1) := by decide +kernel
theorem dX9_steps_11 : decode cX9_steps 11 = .ok (.aload_n 0, 1) := by decide +kernel
theorem dX9_steps_12 : decode cX9_steps 12 = .ok (.iload_n 1, 1) := by decide +kernel
theorem dX9_steps_13 : decode cX9_steps 13 = .ok (.invokevirtual 306, 3) := by decide +kernel
theorem dX9_steps_16 : decode cX9_steps 16 = .ok (.ifCond .ne 6, 3) := by decide +kernel
theorem dX9_steps_19 : decode cX9_steps 19 = .ok (.bipush (-103), 2) := by decide +kernel
theorem dX9_steps_21 : decode cX9_steps 21 = .ok (.ireturn, 1) := by decide +kernel
theorem dX9_steps_22 : decode cX9_steps 22 = .ok (.aload_n 0, 1) := by decide +kernel
theorem dX9_steps_23 : decode cX9_steps 23 = .ok (.invokevirtual 312, 3) := by decide +kernel
theorem dX9_steps_26 : decode cX9_steps 26 = .ok (.iconst 0, 1) := by decide +kernel
theorem dX9_steps_27 : decode cX9_steps 27 = .ok (.istore_n 2, 1) := by decide +kernel
theorem dX9_steps_28 : decode cX9_steps 28 = .ok (.iconst 0, 1) := by decide +kernel
theorem dX9_steps_29 : decode cX9_steps 29 = .ok (.istore_n 3, 1) := by decide +kernel
theorem dX9_steps_30 : decode cX9_steps 30 = .ok (.iload_n 3, 1) := by decide +kernel
theorem dX9_steps_31 : decode cX9_steps 31 = .ok (.aload_n 0, 1) := by decide +kernel
theorem dX9_steps_32 : decode cX9_steps 32 = .ok (.getfield 89, 3) := by decide +kernel
theorem dX9_steps_35 : decode cX9_steps 35 = .ok (.if_icmp .ge 41, 3) := by decide +kernel
theorem dX9_steps_38 : decode cX9_steps 38 = .ok (.iload_n 2, 1) := by decide +kernel
theorem dX9_steps_39 : decode cX9_steps 39 = .ok (.iload_n 1, 1) := by decide +kernel
theorem dX9_steps_40 : decode cX9_steps 40 = .ok (.iload_n 3, 1) := by decide +kernel
theorem dX9_steps_41 : decode cX9_steps 41 = .ok (.ishr, 1) := by decide +kernel
theorem dX9_steps_42 : decode cX9_steps 42 = .ok (.iconst 1, 1) := by decide +kernel
theorem dX9_steps_43 : decode cX9_steps 43 = .ok (.iand, 1) := by decide +kernel
theorem dX9_steps_44 : decode cX9_steps 44 = .ok (.iconst 1, 1) := by decide +kernel
theorem dX9_steps_45 : decode cX9_steps 45 = .ok (.if_icmp .ne 22, 3) := by decide +kernel
theorem dX9_steps_48 : decode cX9_steps 48 = .ok (.aload_n 0, 1) := by decide +kernel
theorem dX9_steps_49 : decode cX9_steps 49 = .ok (.getfield 16, 3) := by decide +kernel
theorem dX9_steps_52 : decode cX9_steps 52 = .ok (.iload_n 3, 1) := by decide +kernel
theorem dX9_steps_53 : decode cX9_steps 53 = .ok (.iaload, 1) := by decide +kernel
theorem dX9_steps_54 : decode cX9_steps 54 = .ok (.aload_n 0, 1) := by decide +kernel
theorem dX9_steps_55 : decode cX9_steps 55 = .ok (.getfield 79, 3) := by decide +kernel
theorem dX9_steps_58 : decode cX9_steps 58 = .ok (.iload_n 3, 1) := by decide +kernel
theorem dX9_steps_59 : decode cX9_steps 59 = .ok (.iaload, 1) := by decide +kernel
theorem dX9_steps_60 : decode cX9_steps 60 = .ok (.invokestatic 98, 3) := by decide +kernel
theorem dX9_steps_63 : decode cX9_steps 63 = .ok (.isub, 1) := by decide +kernel
theorem dX9_steps_64 : decode cX9_steps 64 = .ok (.goto 4, 3) := by decide +kernel
theorem dX9_steps_67 : decode cX9_steps 67 = .ok (.iconst 0, 1) := by decide +kernel
theorem dX9_steps_68 : decode cX9_steps 68 = .ok (.iadd, 1) := by decide +kernel
theorem dX9_steps_69 : decode cX9_steps 69 = .ok (.istore_n 2, 1) := by decide +kernel
theorem dX9_steps_70 : decode cX9_steps 70 = .ok (.iinc 3 1, 3) := by decide +kernel
theorem dX9_steps_73 : decode cX9_steps 73 = .ok (.goto (-43), 3) := by decide +kernel
theorem dX9_steps_76 : decode cX9_steps 76 = .ok (.iload_n 2, 1) := by decide +kernel
theorem dX9_steps_77 : decode cX9_steps 77 = .ok (.ireturn, 1) := by decide +kernel
theorem dX9_coverOf_0 : decode cX9_coverOf 0 = .ok (.iload_n 1, 1) := by decide +kernel
theorem dX9_coverOf_1 : decode cX9_coverOf 1 = .ok (.istore_n 2, 1) := by decide +kernel
theorem dX9_coverOf_2 : decode cX9_coverOf 2 = .ok (.iconst 1, 1) := by decide +kernel
theorem dX9_coverOf_3 : decode cX9_coverOf 3 = .ok (.istore_n 3, 1) := by decide +kernel
theorem dX9_coverOf_4 : decode cX9_coverOf 4 = .ok (.iload_n 3, 1) := by decide +kernel
theorem dX9_coverOf_5 : decode cX9_coverOf 5 = .ok (.iload_n 1, 1) := by decide +kernel
theorem dX9_coverOf_6 : decode cX9_coverOf 6 = .ok (.if_icmp .ge 86, 3) := by decide +kernel
theorem dX9_coverOf_9 : decode cX9_coverOf 9 = .ok (.iload_n 3, 1) := by decide +kernel
theorem dX9_coverOf_10 : decode cX9_coverOf 10 = .ok (.iload_n 1, 1) := by decide +kernel
theorem dX9_coverOf_11 : decode cX9_coverOf 11 = .ok (.iand, 1) := by decide +kernel
theorem dX9_coverOf_12 : decode cX9_coverOf 12 = .ok (.iload_n 3, 1) := by decide +kernel
theorem dX9_coverOf_13 : decode cX9_coverOf 13 = .ok (.if_icmp .ne 20, 3) := by decide +kernel
theorem dX9_coverOf_16 : decode cX9_coverOf 16 = .ok (.aload_n 0, 1) := by decide +kernel
theorem dX9_coverOf_17 : decode cX9_coverOf 17 = .ok (.iload_n 3, 1) := by decide +kernel
theorem dX9_coverOf_18 : decode cX9_coverOf 18 = .ok (.invokevirtual 230, 3) := by decide +kernel
theorem dX9_coverOf_21 : decode cX9_coverOf 21 = .ok (.aload_n 0, 1) := by decide +kernel
theorem dX9_coverOf_22 : decode cX9_coverOf 22 = .ok (.iload_n 1, 1) := by decide +kernel
theorem dX9_coverOf_23 : decode cX9_coverOf 23 = .ok (.invokevirtual 230, 3) := by decide +kernel
theorem dX9_coverOf_26 : decode cX9_coverOf 26 = .ok (.if_icmp .ne 7, 3) := by decide +kernel
theorem dX9_coverOf_29 : decode cX9_coverOf 29 = .ok (.iconst 1, 1) := by decide +kernel
theorem dX9_coverOf_30 : decode cX9_coverOf 30 = .ok (.goto 4, 3) := by decide +kernel
theorem dX9_coverOf_33 : decode cX9_coverOf 33 = .ok (.iconst 0, 1) := by decide +kernel
theorem dX9_coverOf_34 : decode cX9_coverOf 34 = .ok (.istore 4, 2) := by decide +kernel
theorem dX9_coverOf_36 : decode cX9_coverOf 36 = .ok (.iload_n 3, 1) := by decide +kernel
theorem dX9_coverOf_37 : decode cX9_coverOf 37 = .ok (.invokestatic 98, 3) := by decide +kernel
theorem dX9_coverOf_40 : decode cX9_coverOf 40 = .ok (.iload_n 2, 1) := by decide +kernel
theorem dX9_coverOf_41 : decode cX9_coverOf 41 = .ok (.invokestatic 98, 3) := by decide +kernel
theorem dX9_coverOf_44 : decode cX9_coverOf 44 = .ok (.if_icmp .lt 19, 3) := by decide +kernel
theorem dX9_coverOf_47 : decode cX9_coverOf 47 = .ok (.iload_n 3, 1) := by decide +kernel
theorem dX9_coverOf_48 : decode cX9_coverOf 48 = .ok (.invokestatic 98, 3) := by decide +kernel
theorem dX9_coverOf_51 : decode cX9_coverOf 51 = .ok (.iload_n 2, 1) := by decide +kernel
theorem dX9_coverOf_52 : decode cX9_coverOf 52 = .ok (.invokestatic 98, 3) := by decide +kernel
theorem dX9_coverOf_55 : decode cX9_coverOf 55 = .ok (.if_icmp .ne 12, 3) := by decide +kernel
theorem dX9_coverOf_58 : decode cX9_coverOf 58 = .ok (.iload_n 3, 1) := by decide +kernel
theorem dX9_coverOf_59 : decode cX9_coverOf 59 = .ok (.iload_n 2, 1) := by decide +kernel
theorem dX9_coverOf_60 : decode cX9_coverOf 60 = .ok (.if_icmp .ge 7, 3) := by decide +kernel
theorem dX9_coverOf_63 : decode cX9_coverOf 63 = .ok (.iconst 1, 1) := by decide +kernel
theorem dX9_coverOf_64 : decode cX9_coverOf 64 = .ok (.goto 4, 3) := by decide +kernel
theorem dX9_coverOf_67 : decode cX9_coverOf 67 = .ok (.iconst 0, 1) := by decide +kernel
theorem dX9_coverOf_68 : decode cX9_coverOf 68 = .ok (.istore 5, 2) := by decide +kernel
theorem dX9_coverOf_70 : decode cX9_coverOf 70 = .ok (.iload 4, 2) := by decide +kernel
theorem dX9_coverOf_72 : decode cX9_coverOf 72 = .ok (.ifCond .eq 12, 3) := by decide +kernel
theorem dX9_coverOf_75 : decode cX9_coverOf 75 = .ok (.iload 5, 2) := by decide +kernel
theorem dX9_coverOf_77 : decode cX9_coverOf 77 = .ok (.ifCond .eq 7, 3) := by decide +kernel
theorem dX9_coverOf_80 : decode cX9_coverOf 80 = .ok (.iload_n 3, 1) := by decide +kernel
theorem dX9_coverOf_81 : decode cX9_coverOf 81 = .ok (.goto 4, 3) := by decide +kernel
theorem dX9_coverOf_84 : decode cX9_coverOf 84 = .ok (.iload_n 2, 1) := by decide +kernel
theorem dX9_coverOf_85 : decode cX9_coverOf 85 = .ok (.istore_n 2, 1) := by decide +kernel
theorem dX9_coverOf_86 : decode cX9_coverOf 86 = .ok (.iinc 3 1, 3) := by decide +kernel
theorem dX9_coverOf_89 : decode cX9_coverOf 89 = .ok (.goto (-85), 3) := by decide +kernel
theorem dX9_coverOf_92 : decode cX9_coverOf 92 = .ok (.iload_n 2, 1) := by decide +kernel
theorem dX9_coverOf_93 : decode cX9_coverOf 93 = .ok (.ireturn, 1) := by decide +kernel
theorem dX9_cover_0 : decode cX9_cover 0 = .ok (.aload_n 0, 1) := by decide +kernel
theorem dX9_cover_1 : decode cX9_cover 1 = .ok (.iload_n 1, 1) := by decide +kernel
theorem dX9_cover_2 : decode cX9_cover 2 = .ok (.invokevirtual 186, 3) := by decide +kernel
theorem dX9_cover_5 : decode cX9_cover 5 = .ok (.ifCond .eq 11, 3) := by decide +kernel
theorem dX9_cover_8 : decode cX9_cover 8 = .ok (.aload_n 0, 1) := by decide +kernel
theorem dX9_cover_9 : decode cX9_cover 9 = .ok (.iload_n 1, 1) := by decide +kernel
theorem dX9_cover_10 : decode cX9_cover 10 = .ok (.invokevirtual 315, 3) := by decide +kernel
theorem dX9_cover_13 : decode cX9_cover 13 = .ok (.goto 5, 3) := by decide +kernel
theorem dX9_cover_16 : decode cX9_cover 16 = .ok (.bipush (-102), 2) := by decide +kernel
theorem dX9_cover_18 : decode cX9_cover 18 = .ok (.ireturn, 1) := by decide +kernel
theorem dX9_countOf_0 : decode cX9_countOf 0 = .ok (.iconst 0, 1) := by decide +kernel
theorem dX9_countOf_1 : decode cX9_countOf 1 = .ok (.istore_n 2, 1) := by decide +kernel
theorem dX9_countOf_2 : decode cX9_countOf 2 = .ok (.iload_n 1, 1) := by decide +kernel
theorem dX9_countOf_3 : decode cX9_countOf 3 = .ok (.tableswitch 91 0 4 #[33, 38, 65, 70, 86], 33) := by decide +kernel
theorem dX9_countOf_36 : decode cX9_countOf 36 = .ok (.aload_n 0, 1) := by decide +kernel
theorem dX9_countOf_37 : decode cX9_countOf 37 = .ok (.getfield 89, 3) := by decide +kernel
theorem dX9_countOf_40 : decode cX9_countOf 40 = .ok (.ireturn, 1) := by decide +kernel
theorem dX9_countOf_41 : decode cX9_countOf 41 = .ok (.iconst 0, 1) := by decide +kernel
theorem dX9_countOf_42 : decode cX9_countOf 42 = .ok (.istore_n 3, 1) := by decide +kernel
theorem dX9_countOf_43 : decode cX9_countOf 43 = .ok (.iload_n 3, 1) := by decide +kernel
theorem dX9_countOf_44 : decode cX9_countOf 44 = .ok (.aload_n 0, 1) := by decide +kernel
theorem dX9_countOf_45 : decode cX9_countOf 45 = .ok (.getfield 89, 3) := by decide +kernel
theorem dX9_countOf_48 : decode cX9_countOf 48 = .ok (.if_icmp .ge 18, 3) := by decide +kernel
theorem dX9_countOf_51 : decode cX9_countOf 51 = .ok (.iload_n 2, 1) := by decide +kernel
theorem dX9_countOf_52 : decode cX9_countOf 52 = .ok (.aload_n 0, 1) := by decide +kernel
theorem dX9_countOf_53 : decode cX9_countOf 53 = .ok (.getfield 16, 3) := by decide +kernel
theorem dX9_countOf_56 : decode cX9_countOf 56 = .ok (.iload_n 3, 1) := by decide +kernel
theorem dX9_countOf_57 : decode cX9_countOf 57 = .ok (.iaload, 1) := by decide +kernel
theorem dX9_countOf_58 : decode cX9_countOf 58 = .ok (.iadd, 1) := by decide +kernel
theorem dX9_countOf_59 : decode cX9_countOf 59 = .ok (.istore_n 2, 1) := by decide +kernel
theorem dX9_countOf_60 : decode cX9_countOf 60 = .ok (.iinc 3 1, 3) := by decide +kernel
theorem dX9_countOf_63 : decode cX9_countOf 63 = .ok (.goto (-20), 3) := by decide +kernel
theorem dX9_countOf_66 : decode cX9_countOf 66 = .ok (.iload_n 2, 1) := by decide +kernel
theorem dX9_countOf_67 : decode cX9_countOf 67 = .ok (.ireturn, 1) := by decide +kernel
theorem dX9_countOf_68 : decode cX9_countOf 68 = .ok (.aload_n 0, 1) := by decide +kernel
theorem dX9_countOf_69 : decode cX9_countOf 69 = .ok (.getfield 201, 3) := by decide +kernel
theorem dX9_countOf_72 : decode cX9_countOf 72 = .ok (.ireturn, 1) := by decide +kernel
theorem dX9_countOf_73 : decode cX9_countOf 73 = .ok (.aload_n 0, 1) := by decide +kernel
theorem dX9_countOf_74 : decode cX9_countOf 74 = .ok (.iconst 1, 1) := by decide +kernel
theorem dX9_countOf_75 : decode cX9_countOf 75 = .ok (.aload_n 0, 1) := by decide +kernel
theorem dX9_countOf_76 : decode cX9_countOf 76 = .ok (.getfield 89, 3) := by decide +kernel
theorem dX9_countOf_79 : decode cX9_countOf 79 = .ok (.ishl, 1) := by decide +kernel
theorem dX9_countOf_80 : decode cX9_countOf 80 = .ok (.iconst 1, 1) := by decide +kernel
theorem dX9_countOf_81 : decode cX9_countOf 81 = .ok (.isub, 1) := by decide +kernel
theorem dX9_countOf_82 : decode cX9_countOf 82 = .ok (.invokevirtual 230, 3) := by decide +kernel
theorem dX9_countOf_85 : decode cX9_countOf 85 = .ok (.invokestatic 98, 3) := by decide +kernel
theorem dX9_countOf_88 : decode cX9_countOf 88 = .ok (.ireturn, 1) := by decide +kernel
theorem dX9_countOf_89 : decode cX9_countOf 89 = .ok (.aload_n 0, 1) := by decide +kernel
theorem dX9_countOf_90 : decode cX9_countOf 90 = .ok (.getfield 288, 3) := by decide +kernel
theorem dX9_countOf_93 : decode cX9_countOf 93 = .ok (.ireturn, 1) := by decide +kernel
theorem dX9_countOf_94 : decode cX9_countOf 94 = .ok (.bipush (-102), 2) := by decide +kernel
theorem dX9_countOf_96 : decode cX9_countOf 96 = .ok (.ireturn, 1) := by decide +kernel
theorem dX9_count_0 : decode cX9_count 0 = .ok (.aload_n 0, 1) := by decide +kernel
theorem dX9_count_1 : decode cX9_count 1 = .ok (.iload_n 1, 1) := by decide +kernel
theorem dX9_count_2 : decode cX9_count 2 = .ok (.invokevirtual 318, 3) := by decide +kernel
theorem dX9_count_5 : decode cX9_count 5 = .ok (.ireturn, 1) := by decide +kernel
theorem dX9_digest_0 : decode cX9_digest 0 = .ok (.ldc2_w 321, 3) := by decide +kernel
theorem dX9_digest_3 : decode cX9_digest 3 = .ok (.lstore_n 1, 1) := by decide +kernel
theorem dX9_digest_4 : decode cX9_digest 4 = .ok (.iconst 0, 1) := by decide +kernel
theorem dX9_digest_5 : decode cX9_digest 5 = .ok (.istore_n 3, 1) := by decide +kernel
theorem dX9_digest_6 : decode cX9_digest 6 = .ok (.iload_n 3, 1) := by decide +kernel
theorem dX9_digest_7 : decode cX9_digest 7 = .ok (.aload_n 0, 1) := by decide +kernel
theorem dX9_digest_8 : decode cX9_digest 8 = .ok (.getfield 89, 3) := by decide +kernel
theorem dX9_digest_11 : decode cX9_digest 11 = .ok (.if_icmp .ge 115, 3) := by decide +kernel
theorem dX9_digest_14 : decode cX9_digest 14 = .ok (.iconst 0, 1) := by decide +kernel
theorem dX9_digest_15 : decode cX9_digest 15 = .ok (.istore 4, 2) := by decide +kernel
theorem dX9_digest_17 : decode cX9_digest 17 = .ok (.iload 4, 2) := by decide +kernel
theorem dX9_digest_19 : decode cX9_digest 19 = .ok (.iconst 5, 1) := by decide +kernel
theorem dX9_digest_20 : decode cX9_digest 20 = .ok (.if_icmp .ge 24, 3) := by decide +kernel
theorem dX9_digest_23 : decode cX9_digest 23 = .ok (.ldc2_w 323, 3) := by decide +kernel
theorem dX9_digest_26 : decode cX9_digest 26 = .ok (.lload_n 1, 1) := by decide +kernel
theorem dX9_digest_27 : decode cX9_digest 27 = .ok (.lmul, 1) := by decide +kernel
theorem dX9_digest_28 : decode cX9_digest 28 = .ok (.aload_n 0, 1) := by decide +kernel
theorem dX9_digest_29 : decode cX9_digest 29 = .ok (.iload_n 3, 1) := by decide +kernel
theorem dX9_digest_30 : decode cX9_digest 30 = .ok (.iload 4, 2) := by decide +kernel
theorem dX9_digest_32 : decode cX9_digest 32 = .ok (.invokevirtual 149, 3) := by decide +kernel
theorem dX9_digest_35 : decode cX9_digest 35 = .ok (.i2l, 1) := by decide +kernel
theorem dX9_digest_36 : decode cX9_digest 36 = .ok (.ladd, 1) := by decide +kernel
theorem dX9_digest_37 : decode cX9_digest 37 = .ok (.lstore_n 1, 1) := by decide +kernel
theorem dX9_digest_38 : decode cX9_digest 38 = .ok (.iinc 4 1, 3) := by decide +kernel
theorem dX9_digest_41 : decode cX9_digest 41 = .ok (.goto (-24), 3) := by decide +kernel
theorem dX9_digest_44 : decode cX9_digest 44 = .ok (.iconst 0, 1) := by decide +kernel
theorem dX9_digest_45 : decode cX9_digest 45 = .ok (.istore 4, 2) := by decide +kernel
theorem dX9_digest_47 : decode cX9_digest 47 = .ok (.iload 4, 2) := by decide +kernel
theorem dX9_digest_49 : decode cX9_digest 49 = .ok (.aload_n 0, 1) := by decide +kernel
theorem dX9_digest_50 : decode cX9_digest 50 = .ok (.getfield 16, 3) := by decide +kernel
theorem dX9_digest_53 : decode cX9_digest 53 = .ok (.iload_n 3, 1) := by decide +kernel
theorem dX9_digest_54 : decode cX9_digest 54 = .ok (.iaload, 1) := by decide +kernel
theorem dX9_digest_55 : decode cX9_digest 55 = .ok (.if_icmp .ge 65, 3) := by decide +kernel
theorem dX9_digest_58 : decode cX9_digest 58 = .ok (.iconst 0, 1) := by decide +kernel
theorem dX9_digest_59 : decode cX9_digest 59 = .ok (.istore 5, 2) := by decide +kernel
theorem dX9_digest_61 : decode cX9_digest 61 = .ok (.iload 5, 2) := by decide +kernel
theorem dX9_digest_63 : decode cX9_digest 63 = .ok (.bipush 8, 2) := by decide +kernel
theorem dX9_digest_65 : decode cX9_digest 65 = .ok (.if_icmp .ge 49, 3) := by decide +kernel
theorem dX9_digest_68 : decode cX9_digest 68 = .ok (.aload_n 0, 1) := by decide +kernel
theorem dX9_digest_69 : decode cX9_digest 69 = .ok (.iload_n 3, 1) := by decide +kernel
theorem dX9_digest_70 : decode cX9_digest 70 = .ok (.iload 5, 2) := by decide +kernel
theorem dX9_digest_72 : decode cX9_digest 72 = .ok (.invokevirtual 108, 3) := by decide +kernel
theorem dX9_digest_75 : decode cX9_digest 75 = .ok (.ifCond .eq 31, 3) := by decide +kernel
theorem dX9_digest_78 : decode cX9_digest 78 = .ok (.ldc2_w 323, 3) := by decide +kernel
theorem dX9_digest_81 : decode cX9_digest 81 = .ok (.lload_n 1, 1) := by decide +kernel
theorem dX9_digest_82 : decode cX9_digest 82 = .ok (.lmul, 1) := by decide +kernel
theorem dX9_digest_83 : decode cX9_digest 83 = .ok (.aload_n 0, 1) := by decide +kernel
theorem dX9_digest_84 : decode cX9_digest 84 = .ok (.getfield 19, 3) := by decide +kernel
theorem dX9_digest_87 : decode cX9_digest 87 = .ok (.bipush 64, 2) := by decide +kernel
theorem dX9_digest_89 : decode cX9_digest 89 = .ok (.iload_n 3, 1) := by decide +kernel
theorem dX9_digest_90 : decode cX9_digest 90 = .ok (.imul, 1) := by decide +kernel
theorem dX9_digest_91 : decode cX9_digest 91 = .ok (.bipush 8, 2) := by decide +kernel
theorem dX9_digest_93 : decode cX9_digest 93 = .ok (.iload 4, 2) := by decide +kernel
theorem dX9_digest_95 : decode cX9_digest 95 = .ok (.imul, 1) := by decide +kernel
theorem dX9_digest_96 : decode cX9_digest 96 = .ok (.iadd, 1) := by decide +kernel
theorem dX9_digest_97 : decode cX9_digest 97 = .ok (.iload 5, 2) := by decide +kernel
theorem dX9_digest_99 : decode cX9_digest 99 = .ok (.iadd, 1) := by decide +kernel
theorem dX9_digest_100 : decode cX9_digest 100 = .ok (.iaload, 1) := by decide +kernel
theorem dX9_digest_101 : decode cX9_digest 101 = .ok (.i2l, 1) := by decide +kernel
theorem dX9_digest_102 : decode cX9_digest 102 = .ok (.ladd, 1) := by decide +kernel
theorem dX9_digest_103 : decode cX9_digest 103 = .ok (.goto 4, 3) := by decide +kernel
theorem dX9_digest_106 : decode cX9_digest 106 = .ok (.lload_n 1, 1) := by decide +kernel
theorem dX9_digest_107 : decode cX9_digest 107 = .ok (.lstore_n 1, 1) := by decide +kernel
theorem dX9_digest_108 : decode cX9_digest 108 = .ok (.iinc 5 1, 3) := by decide +kernel
theorem dX9_digest_111 : decode cX9_digest 111 = .ok (.goto (-50), 3) := by decide +kernel
theorem dX9_digest_114 : decode cX9_digest 114 = .ok (.iinc 4 1, 3) := by decide +kernel
theorem dX9_digest_117 : decode cX9_digest 117 = .ok (.goto (-70), 3) := by decide +kernel
theorem dX9_digest_120 : decode cX9_digest 120 = .ok (.iinc 3 1, 3) := by decide +kernel
theorem dX9_digest_123 : decode cX9_digest 123 = .ok (.goto (-117), 3) := by decide +kernel
theorem dX9_digest_126 : decode cX9_digest 126 = .ok (.ldc2_w 323, 3) := by decide +kernel
theorem dX9_digest_129 : decode cX9_digest 129 = .ok (.lload_n 1, 1) := by decide +kernel
theorem dX9_digest_130 : decode cX9_digest 130 = .ok (.lmul, 1) := by decide +kernel
theorem dX9_digest_131 : decode cX9_digest 131 = .ok (.aload_n 0, 1) := by decide +kernel
theorem dX9_digest_132 : decode cX9_digest 132 = .ok (.getfield 82, 3) := by decide +kernel
theorem dX9_digest_135 : decode cX9_digest 135 = .ok (.i2l, 1) := by decide +kernel
theorem dX9_digest_136 : decode cX9_digest 136 = .ok (.ladd, 1) := by decide +kernel
theorem dX9_digest_137 : decode cX9_digest 137 = .ok (.lstore_n 1, 1) := by decide +kernel
theorem dX9_digest_138 : decode cX9_digest 138 = .ok (.ldc2_w 323, 3) := by decide +kernel
theorem dX9_digest_141 : decode cX9_digest 141 = .ok (.lload_n 1, 1) := by decide +kernel
theorem dX9_digest_142 : decode cX9_digest 142 = .ok (.lmul, 1) := by decide +kernel
theorem dX9_digest_143 : decode cX9_digest 143 = .ok (.aload_n 0, 1) := by decide +kernel
theorem dX9_digest_144 : decode cX9_digest 144 = .ok (.getfield 86, 3) := by decide +kernel
theorem dX9_digest_147 : decode cX9_digest 147 = .ok (.i2l, 1) := by decide +kernel
theorem dX9_digest_148 : decode cX9_digest 148 = .ok (.ladd, 1) := by decide +kernel
theorem dX9_digest_149 : decode cX9_digest 149 = .ok (.lstore_n 1, 1) := by decide +kernel
theorem dX9_digest_150 : decode cX9_digest 150 = .ok (.aload_n 0, 1) := by decide +kernel
theorem dX9_digest_151 : decode cX9_digest 151 = .ok (.getfield 89, 3) := by decide +kernel
theorem dX9_digest_154 : decode cX9_digest 154 = .ok (.ifCond .le 72, 3) := by decide +kernel
theorem dX9_digest_157 : decode cX9_digest 157 = .ok (.iconst 1, 1) := by decide +kernel
theorem dX9_digest_158 : decode cX9_digest 158 = .ok (.aload_n 0, 1) := by decide +kernel
theorem dX9_digest_159 : decode cX9_digest 159 = .ok (.getfield 89, 3) := by decide +kernel
theorem dX9_digest_162 : decode cX9_digest 162 = .ok (.ishl, 1) := by decide +kernel
theorem dX9_digest_163 : decode cX9_digest 163 = .ok (.iconst 1, 1) := by decide +kernel
theorem dX9_digest_164 : decode cX9_digest 164 = .ok (.isub, 1) := by decide +kernel
theorem dX9_digest_165 : decode cX9_digest 165 = .ok (.istore_n 3, 1) := by decide +kernel
theorem dX9_digest_166 : decode cX9_digest 166 = .ok (.ldc2_w 323, 3) := by decide +kernel
theorem dX9_digest_169 : decode cX9_digest 169 = .ok (.lload_n 1, 1) := by decide +kernel
theorem dX9_digest_170 : decode cX9_digest 170 = .ok (.lmul, 1) := by decide +kernel
theorem dX9_digest_171 : decode cX9_digest 171 = .ok (.aload_n 0, 1) := by decide +kernel
theorem dX9_digest_172 : decode cX9_digest 172 = .ok (.iload_n 3, 1) := by decide +kernel
theorem dX9_digest_173 : decode cX9_digest 173 = .ok (.invokevirtual 180, 3) := by decide +kernel
theorem dX9_digest_176 : decode cX9_digest 176 = .ok (.i2l, 1) := by decide +kernel
theorem dX9_digest_177 : decode cX9_digest 177 = .ok (.ladd, 1) := by decide +kernel
theorem dX9_digest_178 : decode cX9_digest 178 = .ok (.lstore_n 1, 1) := by decide +kernel
theorem dX9_digest_179 : decode cX9_digest 179 = .ok (.ldc2_w 323, 3) := by decide +kernel
theorem dX9_digest_182 : decode cX9_digest 182 = .ok (.lload_n 1, 1) := by decide +kernel
theorem dX9_digest_183 : decode cX9_digest 183 = .ok (.lmul, 1) := by decide +kernel
theorem dX9_digest_184 : decode cX9_digest 184 = .ok (.aload_n 0, 1) := by decide +kernel
theorem dX9_digest_185 : decode cX9_digest 185 = .ok (.iload_n 3, 1) := by decide +kernel
theorem dX9_digest_186 : decode cX9_digest 186 = .ok (.invokevirtual 183, 3) := by decide +kernel
theorem dX9_digest_189 : decode cX9_digest 189 = .ok (.i2l, 1) := by decide +kernel
theorem dX9_digest_190 : decode cX9_digest 190 = .ok (.ladd, 1) := by decide +kernel
theorem dX9_digest_191 : decode cX9_digest 191 = .ok (.lstore_n 1, 1) := by decide +kernel
theorem dX9_digest_192 : decode cX9_digest 192 = .ok (.ldc2_w 323, 3) := by decide +kernel
theorem dX9_digest_195 : decode cX9_digest 195 = .ok (.lload_n 1, 1) := by decide +kernel
theorem dX9_digest_196 : decode cX9_digest 196 = .ok (.lmul, 1) := by decide +kernel
theorem dX9_digest_197 : decode cX9_digest 197 = .ok (.aload_n 0, 1) := by decide +kernel
theorem dX9_digest_198 : decode cX9_digest 198 = .ok (.iload_n 3, 1) := by decide +kernel
theorem dX9_digest_199 : decode cX9_digest 199 = .ok (.invokevirtual 306, 3) := by decide +kernel
theorem dX9_digest_202 : decode cX9_digest 202 = .ok (.ifCond .eq 7, 3) := by decide +kernel
theorem dX9_digest_205 : decode cX9_digest 205 = .ok (.iconst 1, 1) := by decide +kernel
theorem dX9_digest_206 : decode cX9_digest 206 = .ok (.goto 4, 3) := by decide +kernel
theorem dX9_digest_209 : decode cX9_digest 209 = .ok (.iconst 0, 1) := by decide +kernel
theorem dX9_digest_210 : decode cX9_digest 210 = .ok (.i2l, 1) := by decide +kernel
theorem dX9_digest_211 : decode cX9_digest 211 = .ok (.ladd, 1) := by decide +kernel
theorem dX9_digest_212 : decode cX9_digest 212 = .ok (.lstore_n 1, 1) := by decide +kernel
theorem dX9_digest_213 : decode cX9_digest 213 = .ok (.ldc2_w 323, 3) := by decide +kernel
theorem dX9_digest_216 : decode cX9_digest 216 = .ok (.lload_n 1, 1) := by decide +kernel
theorem dX9_digest_217 : decode cX9_digest 217 = .ok (.lmul, 1) := by decide +kernel
theorem dX9_digest_218 : decode cX9_digest 218 = .ok (.aload_n 0, 1) := by decide +kernel
theorem dX9_digest_219 : decode cX9_digest 219 = .ok (.iload_n 3, 1) := by decide +kernel
theorem dX9_digest_220 : decode cX9_digest 220 = .ok (.invokevirtual 315, 3) := by decide +kernel
theorem dX9_digest_223 : decode cX9_digest 223 = .ok (.i2l, 1) := by decide +kernel
theorem dX9_digest_224 : decode cX9_digest 224 = .ok (.ladd, 1) := by decide +kernel
theorem dX9_digest_225 : decode cX9_digest 225 = .ok (.lstore_n 1, 1) := by decide +kernel
theorem dX9_digest_226 : decode cX9_digest 226 = .ok (.iconst 0, 1) := by decide +kernel
theorem dX9_digest_227 : decode cX9_digest 227 = .ok (.istore_n 3, 1) := by decide +kernel
theorem dX9_digest_228 : decode cX9_digest 228 = .ok (.iload_n 3, 1) := by decide +kernel
theorem dX9_digest_229 : decode cX9_digest 229 = .ok (.aload_n 0, 1) := by decide +kernel
theorem dX9_digest_230 : decode cX9_digest 230 = .ok (.getfield 201, 3) := by decide +kernel
theorem dX9_digest_233 : decode cX9_digest 233 = .ok (.if_icmp .ge 23, 3) := by decide +kernel
theorem dX9_digest_236 : decode cX9_digest 236 = .ok (.ldc2_w 323, 3) := by decide +kernel
theorem dX9_digest_239 : decode cX9_digest 239 = .ok (.lload_n 1, 1) := by decide +kernel
theorem dX9_digest_240 : decode cX9_digest 240 = .ok (.lmul, 1) := by decide +kernel
theorem dX9_digest_241 : decode cX9_digest 241 = .ok (.aload_n 0, 1) := by decide +kernel
theorem dX9_digest_242 : decode cX9_digest 242 = .ok (.getfield 40, 3) := by decide +kernel
theorem dX9_digest_245 : decode cX9_digest 245 = .ok (.iload_n 3, 1) := by decide +kernel
theorem dX9_digest_246 : decode cX9_digest 246 = .ok (.iaload, 1) := by decide +kernel
theorem dX9_digest_247 : decode cX9_digest 247 = .ok (.i2l, 1) := by decide +kernel
theorem dX9_digest_248 : decode cX9_digest 248 = .ok (.ladd, 1) := by decide +kernel
theorem dX9_digest_249 : decode cX9_digest 249 = .ok (.lstore_n 1, 1) := by decide +kernel
theorem dX9_digest_250 : decode cX9_digest 250 = .ok (.iinc 3 1, 3) := by decide +kernel
theorem dX9_digest_253 : decode cX9_digest 253 = .ok (.goto (-25), 3) := by decide +kernel
theorem dX9_digest_256 : decode cX9_digest 256 = .ok (.iconst 0, 1) := by decide +kernel
theorem dX9_digest_257 : decode cX9_digest 257 = .ok (.istore_n 3, 1) := by decide +kernel
theorem dX9_digest_258 : decode cX9_digest 258 = .ok (.iload_n 3, 1) := by decide +kernel
theorem dX9_digest_259 : decode cX9_digest 259 = .ok (.iconst 5, 1) := by decide +kernel
theorem dX9_digest_260 : decode cX9_digest 260 = .ok (.if_icmp .ge 22, 3) := by decide +kernel
theorem dX9_digest_263 : decode cX9_digest 263 = .ok (.ldc2_w 323, 3) := by decide +kernel
theorem dX9_digest_266 : decode cX9_digest 266 = .ok (.lload_n 1, 1) := by decide +kernel
theorem dX9_digest_267 : decode cX9_digest 267 = .ok (.lmul, 1) := by decide +kernel
theorem dX9_digest_268 : decode cX9_digest 268 = .ok (.aload_n 0, 1) := by decide +kernel
theorem dX9_digest_269 : decode cX9_digest 269 = .ok (.iload_n 3, 1) := by decide +kernel
theorem dX9_digest_270 : decode cX9_digest 270 = .ok (.invokevirtual 318, 3) := by decide +kernel
theorem dX9_digest_273 : decode cX9_digest 273 = .ok (.i2l, 1) := by decide +kernel
theorem dX9_digest_274 : decode cX9_digest 274 = .ok (.ladd, 1) := by decide +kernel
theorem dX9_digest_275 : decode cX9_digest 275 = .ok (.lstore_n 1, 1) := by decide +kernel
theorem dX9_digest_276 : decode cX9_digest 276 = .ok (.iinc 3 1, 3) := by decide +kernel
theorem dX9_digest_279 : decode cX9_digest 279 = .ok (.goto (-21), 3) := by decide +kernel
theorem dX9_digest_282 : decode cX9_digest 282 = .ok (.lload_n 1, 1) := by decide +kernel
theorem dX9_digest_283 : decode cX9_digest 283 = .ok (.lreturn, 1) := by decide +kernel
theorem dJ6_numberOfTrailingZeros_0f7a4_0 : decode cJ6_numberOfTrailingZeros_0f7a4 0 = .ok (.iload_n 0, 1) := by decide +kernel
theorem dJ6_numberOfTrailingZeros_0f7a4_1 : decode cJ6_numberOfTrailingZeros_0f7a4 1 = .ok (.iconst (-1), 1) := by decide +kernel
theorem dJ6_numberOfTrailingZeros_0f7a4_2 : decode cJ6_numberOfTrailingZeros_0f7a4 2 = .ok (.ixor, 1) := by decide +kernel
theorem dJ6_numberOfTrailingZeros_0f7a4_3 : decode cJ6_numberOfTrailingZeros_0f7a4 3 = .ok (.iload_n 0, 1) := by decide +kernel
theorem dJ6_numberOfTrailingZeros_0f7a4_4 : decode cJ6_numberOfTrailingZeros_0f7a4 4 = .ok (.iconst 1, 1) := by decide +kernel
theorem dJ6_numberOfTrailingZeros_0f7a4_5 : decode cJ6_numberOfTrailingZeros_0f7a4 5 = .ok (.isub, 1) := by decide +kernel
theorem dJ6_numberOfTrailingZeros_0f7a4_6 : decode cJ6_numberOfTrailingZeros_0f7a4 6 = .ok (.iand, 1) := by decide +kernel
theorem dJ6_numberOfTrailingZeros_0f7a4_7 : decode cJ6_numberOfTrailingZeros_0f7a4 7 = .ok (.istore_n 0, 1) := by decide +kernel
theorem dJ6_numberOfTrailingZeros_0f7a4_8 : decode cJ6_numberOfTrailingZeros_0f7a4 8 = .ok (.iload_n 0, 1) := by decide +kernel
theorem dJ6_numberOfTrailingZeros_0f7a4_9 : decode cJ6_numberOfTrailingZeros_0f7a4 9 = .ok (.ifCond .gt 8, 3) := by decide +kernel
theorem dJ6_numberOfTrailingZeros_0f7a4_12 : decode cJ6_numberOfTrailingZeros_0f7a4 12 = .ok (.iload_n 0, 1) := by decide +kernel
theorem dJ6_numberOfTrailingZeros_0f7a4_13 : decode cJ6_numberOfTrailingZeros_0f7a4 13 = .ok (.bipush 32, 2) := by decide +kernel
theorem dJ6_numberOfTrailingZeros_0f7a4_15 : decode cJ6_numberOfTrailingZeros_0f7a4 15 = .ok (.iand, 1) := by decide +kernel
theorem dJ6_numberOfTrailingZeros_0f7a4_16 : decode cJ6_numberOfTrailingZeros_0f7a4 16 = .ok (.ireturn, 1) := by decide +kernel
theorem dJ6_numberOfTrailingZeros_0f7a4_17 : decode cJ6_numberOfTrailingZeros_0f7a4 17 = .ok (.iconst 1, 1) := by decide +kernel
theorem dJ6_numberOfTrailingZeros_0f7a4_18 : decode cJ6_numberOfTrailingZeros_0f7a4 18 = .ok (.istore_n 1, 1) := by decide +kernel
theorem dJ6_numberOfTrailingZeros_0f7a4_19 : decode cJ6_numberOfTrailingZeros_0f7a4 19 = .ok (.iload_n 0, 1) := by decide +kernel
theorem dJ6_numberOfTrailingZeros_0f7a4_20 : decode cJ6_numberOfTrailingZeros_0f7a4 20 = .ok (.ldc_w 264, 3) := by decide +kernel
theorem dJ6_numberOfTrailingZeros_0f7a4_23 : decode cJ6_numberOfTrailingZeros_0f7a4 23 = .ok (.if_icmp .le 11, 3) := by decide +kernel
theorem dJ6_numberOfTrailingZeros_0f7a4_26 : decode cJ6_numberOfTrailingZeros_0f7a4 26 = .ok (.iinc 1 16, 3) := by decide +kernel
theorem dJ6_numberOfTrailingZeros_0f7a4_29 : decode cJ6_numberOfTrailingZeros_0f7a4 29 = .ok (.iload_n 0, 1) := by decide +kernel
theorem dJ6_numberOfTrailingZeros_0f7a4_30 : decode cJ6_numberOfTrailingZeros_0f7a4 30 = .ok (.bipush 16, 2) := by decide +kernel
theorem dJ6_numberOfTrailingZeros_0f7a4_32 : decode cJ6_numberOfTrailingZeros_0f7a4 32 = .ok (.iushr, 1) := by decide +kernel
theorem dJ6_numberOfTrailingZeros_0f7a4_33 : decode cJ6_numberOfTrailingZeros_0f7a4 33 = .ok (.istore_n 0, 1) := by decide +kernel
theorem dJ6_numberOfTrailingZeros_0f7a4_34 : decode cJ6_numberOfTrailingZeros_0f7a4 34 = .ok (.iload_n 0, 1) := by decide +kernel
theorem dJ6_numberOfTrailingZeros_0f7a4_35 : decode cJ6_numberOfTrailingZeros_0f7a4 35 = .ok (.sipush 256, 3) := by decide +kernel
theorem dJ6_numberOfTrailingZeros_0f7a4_38 : decode cJ6_numberOfTrailingZeros_0f7a4 38 = .ok (.if_icmp .le 11, 3) := by decide +kernel
theorem dJ6_numberOfTrailingZeros_0f7a4_41 : decode cJ6_numberOfTrailingZeros_0f7a4 41 = .ok (.iinc 1 8, 3) := by decide +kernel
theorem dJ6_numberOfTrailingZeros_0f7a4_44 : decode cJ6_numberOfTrailingZeros_0f7a4 44 = .ok (.iload_n 0, 1) := by decide +kernel
theorem dJ6_numberOfTrailingZeros_0f7a4_45 : decode cJ6_numberOfTrailingZeros_0f7a4 45 = .ok (.bipush 8, 2) := by decide +kernel
theorem dJ6_numberOfTrailingZeros_0f7a4_47 : decode cJ6_numberOfTrailingZeros_0f7a4 47 = .ok (.iushr, 1) := by decide +kernel
theorem dJ6_numberOfTrailingZeros_0f7a4_48 : decode cJ6_numberOfTrailingZeros_0f7a4 48 = .ok (.istore_n 0, 1) := by decide +kernel
theorem dJ6_numberOfTrailingZeros_0f7a4_49 : decode cJ6_numberOfTrailingZeros_0f7a4 49 = .ok (.iload_n 0, 1) := by decide +kernel
theorem dJ6_numberOfTrailingZeros_0f7a4_50 : decode cJ6_numberOfTrailingZeros_0f7a4 50 = .ok (.bipush 16, 2) := by decide +kernel
theorem dJ6_numberOfTrailingZeros_0f7a4_52 : decode cJ6_numberOfTrailingZeros_0f7a4 52 = .ok (.if_icmp .le 10, 3) := by decide +kernel
theorem dJ6_numberOfTrailingZeros_0f7a4_55 : decode cJ6_numberOfTrailingZeros_0f7a4 55 = .ok (.iinc 1 4, 3) := by decide +kernel
theorem dJ6_numberOfTrailingZeros_0f7a4_58 : decode cJ6_numberOfTrailingZeros_0f7a4 58 = .ok (.iload_n 0, 1) := by decide +kernel
theorem dJ6_numberOfTrailingZeros_0f7a4_59 : decode cJ6_numberOfTrailingZeros_0f7a4 59 = .ok (.iconst 4, 1) := by decide +kernel
theorem dJ6_numberOfTrailingZeros_0f7a4_60 : decode cJ6_numberOfTrailingZeros_0f7a4 60 = .ok (.iushr, 1) := by decide +kernel
theorem dJ6_numberOfTrailingZeros_0f7a4_61 : decode cJ6_numberOfTrailingZeros_0f7a4 61 = .ok (.istore_n 0, 1) := by decide +kernel
theorem dJ6_numberOfTrailingZeros_0f7a4_62 : decode cJ6_numberOfTrailingZeros_0f7a4 62 = .ok (.iload_n 0, 1) := by decide +kernel
theorem dJ6_numberOfTrailingZeros_0f7a4_63 : decode cJ6_numberOfTrailingZeros_0f7a4 63 = .ok (.iconst 4, 1) := by decide +kernel
theorem dJ6_numberOfTrailingZeros_0f7a4_64 : decode cJ6_numberOfTrailingZeros_0f7a4 64 = .ok (.if_icmp .le 10, 3) := by decide +kernel
theorem dJ6_numberOfTrailingZeros_0f7a4_67 : decode cJ6_numberOfTrailingZeros_0f7a4 67 = .ok (.iinc 1 2, 3) := by decide +kernel
theorem dJ6_numberOfTrailingZeros_0f7a4_70 : decode cJ6_numberOfTrailingZeros_0f7a4 70 = .ok (.iload_n 0, 1) := by decide +kernel
theorem dJ6_numberOfTrailingZeros_0f7a4_71 : decode cJ6_numberOfTrailingZeros_0f7a4 71 = .ok (.iconst 2, 1) := by decide +kernel
theorem dJ6_numberOfTrailingZeros_0f7a4_72 : decode cJ6_numberOfTrailingZeros_0f7a4 72 = .ok (.iushr, 1) := by decide +kernel
theorem dJ6_numberOfTrailingZeros_0f7a4_73 : decode cJ6_numberOfTrailingZeros_0f7a4 73 = .ok (.istore_n 0, 1) := by decide +kernel
theorem dJ6_numberOfTrailingZeros_0f7a4_74 : decode cJ6_numberOfTrailingZeros_0f7a4 74 = .ok (.iload_n 1, 1) := by decide +kernel
theorem dJ6_numberOfTrailingZeros_0f7a4_75 : decode cJ6_numberOfTrailingZeros_0f7a4 75 = .ok (.iload_n 0, 1) := by decide +kernel
theorem dJ6_numberOfTrailingZeros_0f7a4_76 : decode cJ6_numberOfTrailingZeros_0f7a4 76 = .ok (.iconst 1, 1) := by decide +kernel
theorem dJ6_numberOfTrailingZeros_0f7a4_77 : decode cJ6_numberOfTrailingZeros_0f7a4 77 = .ok (.iushr, 1) := by decide +kernel
theorem dJ6_numberOfTrailingZeros_0f7a4_78 : decode cJ6_numberOfTrailingZeros_0f7a4 78 = .ok (.iadd, 1) := by decide +kernel
theorem dJ6_numberOfTrailingZeros_0f7a4_79 : decode cJ6_numberOfTrailingZeros_0f7a4 79 = .ok (.ireturn, 1) := by decide +kernel
theorem dJ6_bitCount_0f7a4_0 : decode cJ6_bitCount_0f7a4 0 = .ok (.iload_n 0, 1) := by decide +kernel
theorem dJ6_bitCount_0f7a4_1 : decode cJ6_bitCount_0f7a4 1 = .ok (.iload_n 0, 1) := by decide +kernel
theorem dJ6_bitCount_0f7a4_2 : decode cJ6_bitCount_0f7a4 2 = .ok (.iconst 1, 1) := by decide +kernel
theorem dJ6_bitCount_0f7a4_3 : decode cJ6_bitCount_0f7a4 3 = .ok (.iushr, 1) := by decide +kernel
theorem dJ6_bitCount_0f7a4_4 : decode cJ6_bitCount_0f7a4 4 = .ok (.ldc_w 265, 3) := by decide +kernel
theorem dJ6_bitCount_0f7a4_7 : decode cJ6_bitCount_0f7a4 7 = .ok (.iand, 1) := by decide +kernel
theorem dJ6_bitCount_0f7a4_8 : decode cJ6_bitCount_0f7a4 8 = .ok (.isub, 1) := by decide +kernel
theorem dJ6_bitCount_0f7a4_9 : decode cJ6_bitCount_0f7a4 9 = .ok (.istore_n 0, 1) := by decide +kernel
theorem dJ6_bitCount_0f7a4_10 : decode cJ6_bitCount_0f7a4 10 = .ok (.iload_n 0, 1) := by decide +kernel
theorem dJ6_bitCount_0f7a4_11 : decode cJ6_bitCount_0f7a4 11 = .ok (.ldc_w 266, 3) := by decide +kernel
theorem dJ6_bitCount_0f7a4_14 : decode cJ6_bitCount_0f7a4 14 = .ok (.iand, 1) := by decide +kernel
theorem dJ6_bitCount_0f7a4_15 : decode cJ6_bitCount_0f7a4 15 = .ok (.iload_n 0, 1) := by decide +kernel
theorem dJ6_bitCount_0f7a4_16 : decode cJ6_bitCount_0f7a4 16 = .ok (.iconst 2, 1) := by decide +kernel
theorem dJ6_bitCount_0f7a4_17 : decode cJ6_bitCount_0f7a4 17 = .ok (.iushr, 1) := by decide +kernel
theorem dJ6_bitCount_0f7a4_18 : decode cJ6_bitCount_0f7a4 18 = .ok (.ldc_w 266, 3) := by decide +kernel
theorem dJ6_bitCount_0f7a4_21 : decode cJ6_bitCount_0f7a4 21 = .ok (.iand, 1) := by decide +kernel
theorem dJ6_bitCount_0f7a4_22 : decode cJ6_bitCount_0f7a4 22 = .ok (.iadd, 1) := by decide +kernel
theorem dJ6_bitCount_0f7a4_23 : decode cJ6_bitCount_0f7a4 23 = .ok (.istore_n 0, 1) := by decide +kernel
theorem dJ6_bitCount_0f7a4_24 : decode cJ6_bitCount_0f7a4 24 = .ok (.iload_n 0, 1) := by decide +kernel
theorem dJ6_bitCount_0f7a4_25 : decode cJ6_bitCount_0f7a4 25 = .ok (.iload_n 0, 1) := by decide +kernel
theorem dJ6_bitCount_0f7a4_26 : decode cJ6_bitCount_0f7a4 26 = .ok (.iconst 4, 1) := by decide +kernel
theorem dJ6_bitCount_0f7a4_27 : decode cJ6_bitCount_0f7a4 27 = .ok (.iushr, 1) := by decide +kernel
theorem dJ6_bitCount_0f7a4_28 : decode cJ6_bitCount_0f7a4 28 = .ok (.iadd, 1) := by decide +kernel
theorem dJ6_bitCount_0f7a4_29 : decode cJ6_bitCount_0f7a4 29 = .ok (.ldc_w 267, 3) := by decide +kernel
theorem dJ6_bitCount_0f7a4_32 : decode cJ6_bitCount_0f7a4 32 = .ok (.iand, 1) := by decide +kernel
theorem dJ6_bitCount_0f7a4_33 : decode cJ6_bitCount_0f7a4 33 = .ok (.istore_n 0, 1) := by decide +kernel
theorem dJ6_bitCount_0f7a4_34 : decode cJ6_bitCount_0f7a4 34 = .ok (.iload_n 0, 1) := by decide +kernel
theorem dJ6_bitCount_0f7a4_35 : decode cJ6_bitCount_0f7a4 35 = .ok (.iload_n 0, 1) := by decide +kernel
theorem dJ6_bitCount_0f7a4_36 : decode cJ6_bitCount_0f7a4 36 = .ok (.bipush 8, 2) := by decide +kernel
theorem dJ6_bitCount_0f7a4_38 : decode cJ6_bitCount_0f7a4 38 = .ok (.iushr, 1) := by decide +kernel
theorem dJ6_bitCount_0f7a4_39 : decode cJ6_bitCount_0f7a4 39 = .ok (.iadd, 1) := by decide +kernel
theorem dJ6_bitCount_0f7a4_40 : decode cJ6_bitCount_0f7a4 40 = .ok (.istore_n 0, 1) := by decide +kernel
theorem dJ6_bitCount_0f7a4_41 : decode cJ6_bitCount_0f7a4 41 = .ok (.iload_n 0, 1) := by decide +kernel
theorem dJ6_bitCount_0f7a4_42 : decode cJ6_bitCount_0f7a4 42 = .ok (.iload_n 0, 1) := by decide +kernel
theorem dJ6_bitCount_0f7a4_43 : decode cJ6_bitCount_0f7a4 43 = .ok (.bipush 16, 2) := by decide +kernel
theorem dJ6_bitCount_0f7a4_45 : decode cJ6_bitCount_0f7a4 45 = .ok (.iushr, 1) := by decide +kernel
theorem dJ6_bitCount_0f7a4_46 : decode cJ6_bitCount_0f7a4 46 = .ok (.iadd, 1) := by decide +kernel
theorem dJ6_bitCount_0f7a4_47 : decode cJ6_bitCount_0f7a4 47 = .ok (.istore_n 0, 1) := by decide +kernel
theorem dJ6_bitCount_0f7a4_48 : decode cJ6_bitCount_0f7a4 48 = .ok (.iload_n 0, 1) := by decide +kernel
theorem dJ6_bitCount_0f7a4_49 : decode cJ6_bitCount_0f7a4 49 = .ok (.bipush 63, 2) := by decide +kernel
theorem dJ6_bitCount_0f7a4_51 : decode cJ6_bitCount_0f7a4 51 = .ok (.iand, 1) := by decide +kernel
theorem dJ6_bitCount_0f7a4_52 : decode cJ6_bitCount_0f7a4 52 = .ok (.ireturn, 1) := by decide +kernel
theorem dJ9_min_7cf53_0 : decode cJ9_min_7cf53 0 = .ok (.iload_n 0, 1) := by decide +kernel
theorem dJ9_min_7cf53_1 : decode cJ9_min_7cf53 1 = .ok (.iload_n 1, 1) := by decide +kernel
theorem dJ9_min_7cf53_2 : decode cJ9_min_7cf53 2 = .ok (.if_icmp .gt 7, 3) := by decide +kernel
theorem dJ9_min_7cf53_5 : decode cJ9_min_7cf53 5 = .ok (.iload_n 0, 1) := by decide +kernel
theorem dJ9_min_7cf53_6 : decode cJ9_min_7cf53 6 = .ok (.goto 4, 3) := by decide +kernel
theorem dJ9_min_7cf53_9 : decode cJ9_min_7cf53 9 = .ok (.iload_n 1, 1) := by decide +kernel
theorem dJ9_min_7cf53_10 : decode cJ9_min_7cf53 10 = .ok (.ireturn, 1) := by decide +kernel
theorem dJ7_fill_53178_0 : decode cJ7_fill_53178 0 = .ok (.iconst 0, 1) := by decide +kernel
theorem dJ7_fill_53178_1 : decode cJ7_fill_53178 1 = .ok (.istore_n 2, 1) := by decide +kernel
theorem dJ7_fill_53178_2 : decode cJ7_fill_53178 2 = .ok (.aload_n 0, 1) := by decide +kernel
theorem dJ7_fill_53178_3 : decode cJ7_fill_53178 3 = .ok (.arraylength, 1) := by decide +kernel
theorem dJ7_fill_53178_4 : decode cJ7_fill_53178 4 = .ok (.istore_n 3, 1) := by decide +kernel
theorem dJ7_fill_53178_5 : decode cJ7_fill_53178 5 = .ok (.iload_n 2, 1) := by decide +kernel
theorem dJ7_fill_53178_6 : decode cJ7_fill_53178 6 = .ok (.iload_n 3, 1) := by decide +kernel
theorem dJ7_fill_53178_7 : decode cJ7_fill_53178 7 = .ok (.if_icmp .ge 13, 3) := by decide +kernel
theorem dJ7_fill_53178_10 : decode cJ7_fill_53178 10 = .ok (.aload_n 0, 1) := by decide +kernel
theorem dJ7_fill_53178_11 : decode cJ7_fill_53178 11 = .ok (.iload_n 2, 1) := by decide +kernel
theorem dJ7_fill_53178_12 : decode cJ7_fill_53178 12 = .ok (.iload_n 1, 1) := by decide +kernel
theorem dJ7_fill_53178_13 : decode cJ7_fill_53178 13 = .ok (.iastore, 1) := by decide +kernel
theorem dJ7_fill_53178_14 : decode cJ7_fill_53178 14 = .ok (.iinc 2 1, 3) := by decide +kernel
theorem dJ7_fill_53178_17 : decode cJ7_fill_53178 17 = .ok (.goto (-12), 3) := by decide +kernel
theorem dJ7_fill_53178_20 : decode cJ7_fill_53178 20 = .ok (.return_, 1) := by decide +kernel
