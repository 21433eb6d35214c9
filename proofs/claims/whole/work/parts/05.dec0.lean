theorem dX0_init_0 : decode cX0_init 0 = .ok (.aload_n 0, 1) := by decide +kernel
theorem dX0_init_1 : decode cX0_init 1 = .ok (.invokespecial 3, 3) := by decide +kernel
theorem dX0_init_4 : decode cX0_init 4 = .ok (.aload_n 0, 1) := by decide +kernel
theorem dX0_init_5 : decode cX0_init 5 = .ok (.sipush 576, 3) := by decide +kernel
theorem dX0_init_8 : decode cX0_init 8 = .ok (.newarray .int, 2) := by decide +kernel
theorem dX0_init_10 : decode cX0_init 10 = .ok (.putfield 11, 3) := by decide +kernel
theorem dX0_init_13 : decode cX0_init 13 = .ok (.aload_n 0, 1) := by decide +kernel
theorem dX0_init_14 : decode cX0_init 14 = .ok (.sipush 576, 3) := by decide +kernel
theorem dX0_init_17 : decode cX0_init 17 = .ok (.newarray .long, 2) := by decide +kernel
theorem dX0_init_19 : decode cX0_init 19 = .ok (.putfield 15, 3) := by decide +kernel
theorem dX0_init_22 : decode cX0_init 22 = .ok (.aload_n 0, 1) := by decide +kernel
theorem dX0_init_23 : decode cX0_init 23 = .ok (.bipush 64, 2) := by decide +kernel
theorem dX0_init_25 : decode cX0_init 25 = .ok (.newarray .int, 2) := by decide +kernel
theorem dX0_init_27 : decode cX0_init 27 = .ok (.putfield 19, 3) := by decide +kernel
theorem dX0_init_30 : decode cX0_init 30 = .ok (.aload_n 0, 1) := by decide +kernel
theorem dX0_init_31 : decode cX0_init 31 = .ok (.bipush 64, 2) := by decide +kernel
theorem dX0_init_33 : decode cX0_init 33 = .ok (.newarray .int, 2) := by decide +kernel
theorem dX0_init_35 : decode cX0_init 35 = .ok (.putfield 22, 3) := by decide +kernel
theorem dX0_init_38 : decode cX0_init 38 = .ok (.aload_n 0, 1) := by decide +kernel
theorem dX0_init_39 : decode cX0_init 39 = .ok (.bipush 21, 2) := by decide +kernel
theorem dX0_init_41 : decode cX0_init 41 = .ok (.newarray .int, 2) := by decide +kernel
theorem dX0_init_43 : decode cX0_init 43 = .ok (.putfield 25, 3) := by decide +kernel
theorem dX0_init_46 : decode cX0_init 46 = .ok (.aload_n 0, 1) := by decide +kernel
theorem dX0_init_47 : decode cX0_init 47 = .ok (.aload_n 1, 1) := by decide +kernel
theorem dX0_init_48 : decode cX0_init 48 = .ok (.putfield 28, 3) := by decide +kernel
theorem dX0_init_51 : decode cX0_init 51 = .ok (.aload_n 0, 1) := by decide +kernel
theorem dX0_init_52 : decode cX0_init 52 = .ok (.aload_n 2, 1) := by decide +kernel
theorem dX0_init_53 : decode cX0_init 53 = .ok (.putfield 32, 3) := by decide +kernel
theorem dX0_init_56 : decode cX0_init 56 = .ok (.return_, 1) := by decide +kernel
theorem dX0_choose_0 : decode cX0_choose 0 = .ok (.iconst 1, 1) := by decide +kernel
theorem dX0_choose_1 : decode cX0_choose 1 = .ok (.istore 4, 2) := by decide +kernel
theorem dX0_choose_3 : decode cX0_choose 3 = .ok (.iload 4, 2) := by decide +kernel
theorem dX0_choose_5 : decode cX0_choose 5 = .ok (.bipush 64, 2) := by decide +kernel
theorem dX0_choose_7 : decode cX0_choose 7 = .ok (.if_icmp .ge 96, 3) := by decide +kernel
theorem dX0_choose_10 : decode cX0_choose 10 = .ok (.iload 4, 2) := by decide +kernel
theorem dX0_choose_12 : decode cX0_choose 12 = .ok (.iload_n 1, 1) := by decide +kernel
theorem dX0_choose_13 : decode cX0_choose 13 = .ok (.if_icmp .gt 90, 3) := by decide +kernel
theorem dX0_choose_16 : decode cX0_choose 16 = .ok (.iload 4, 2) := by decide +kernel
theorem dX0_choose_18 : decode cX0_choose 18 = .ok (.iload_n 1, 1) := by decide +kernel
theorem dX0_choose_19 : decode cX0_choose 19 = .ok (.iconst (-1), 1) := by decide +kernel
theorem dX0_choose_20 : decode cX0_choose 20 = .ok (.ixor, 1) := by decide +kernel
theorem dX0_choose_21 : decode cX0_choose 21 = .ok (.iand, 1) := by decide +kernel
theorem dX0_choose_22 : decode cX0_choose 22 = .ok (.ifCond .ne 75, 3) := by decide +kernel
theorem dX0_choose_25 : decode cX0_choose 25 = .ok (.aload_n 0, 1) := by decide +kernel
theorem dX0_choose_26 : decode cX0_choose 26 = .ok (.getfield 19, 3) := by decide +kernel
theorem dX0_choose_29 : decode cX0_choose 29 = .ok (.iload 4, 2) := by decide +kernel
theorem dX0_choose_31 : decode cX0_choose 31 = .ok (.aload_n 0, 1) := by decide +kernel
theorem dX0_choose_32 : decode cX0_choose 32 = .ok (.getfield 32, 3) := by decide +kernel
theorem dX0_choose_35 : decode cX0_choose 35 = .ok (.iload 4, 2) := by decide +kernel
theorem dX0_choose_37 : decode cX0_choose 37 = .ok (.iload_n 3, 1) := by decide +kernel
theorem dX0_choose_38 : decode cX0_choose 38 = .ok (.invokevirtual 36, 3) := by decide +kernel
theorem dX0_choose_41 : decode cX0_choose 41 = .ok (.iastore, 1) := by decide +kernel
theorem dX0_choose_42 : decode cX0_choose 42 = .ok (.aload_n 0, 1) := by decide +kernel
theorem dX0_choose_43 : decode cX0_choose 43 = .ok (.getfield 22, 3) := by decide +kernel
theorem dX0_choose_46 : decode cX0_choose 46 = .ok (.iload 4, 2) := by decide +kernel
theorem dX0_choose_48 : decode cX0_choose 48 = .ok (.aload_n 0, 1) := by decide +kernel
theorem dX0_choose_49 : decode cX0_choose 49 = .ok (.getfield 19, 3) := by decide +kernel
theorem dX0_choose_52 : decode cX0_choose 52 = .ok (.iload 4, 2) := by decide +kernel
theorem dX0_choose_54 : decode cX0_choose 54 = .ok (.iaload, 1) := by decide +kernel
theorem dX0_choose_55 : decode cX0_choose 55 = .ok (.aload_n 0, 1) := by decide +kernel
theorem dX0_choose_56 : decode cX0_choose 56 = .ok (.getfield 28, 3) := by decide +kernel
theorem dX0_choose_59 : decode cX0_choose 59 = .ok (.invokevirtual 42, 3) := by decide +kernel
theorem dX0_choose_62 : decode cX0_choose 62 = .ok (.invokestatic 48, 3) := by decide +kernel
theorem dX0_choose_65 : decode cX0_choose 65 = .ok (.iastore, 1) := by decide +kernel
theorem dX0_choose_66 : decode cX0_choose 66 = .ok (.aload_n 0, 1) := by decide +kernel
theorem dX0_choose_67 : decode cX0_choose 67 = .ok (.iload 4, 2) := by decide +kernel
theorem dX0_choose_69 : decode cX0_choose 69 = .ok (.invokevirtual 53, 3) := by decide +kernel
theorem dX0_choose_72 : decode cX0_choose 72 = .ok (.iload 4, 2) := by decide +kernel
theorem dX0_choose_74 : decode cX0_choose 74 = .ok (.invokestatic 57, 3) := by decide +kernel
theorem dX0_choose_77 : decode cX0_choose 77 = .ok (.iconst 1, 1) := by decide +kernel
theorem dX0_choose_78 : decode cX0_choose 78 = .ok (.if_icmp .ne 12, 3) := by decide +kernel
theorem dX0_choose_81 : decode cX0_choose 81 = .ok (.aload_n 0, 1) := by decide +kernel
theorem dX0_choose_82 : decode cX0_choose 82 = .ok (.iload 4, 2) := by decide +kernel
theorem dX0_choose_84 : decode cX0_choose 84 = .ok (.invokevirtual 63, 3) := by decide +kernel
theorem dX0_choose_87 : decode cX0_choose 87 = .ok (.goto 10, 3) := by decide +kernel
theorem dX0_choose_90 : decode cX0_choose 90 = .ok (.aload_n 0, 1) := by decide +kernel
theorem dX0_choose_91 : decode cX0_choose 91 = .ok (.iload 4, 2) := by decide +kernel
theorem dX0_choose_93 : decode cX0_choose 93 = .ok (.iload_n 2, 1) := by decide +kernel
theorem dX0_choose_94 : decode cX0_choose 94 = .ok (.invokevirtual 66, 3) := by decide +kernel
theorem dX0_choose_97 : decode cX0_choose 97 = .ok (.iinc 4 1, 3) := by decide +kernel
theorem dX0_choose_100 : decode cX0_choose 100 = .ok (.goto (-97), 3) := by decide +kernel
theorem dX0_choose_103 : decode cX0_choose 103 = .ok (.return_, 1) := by decide +kernel
theorem dX0_forget_0 : decode cX0_forget 0 = .ok (.iconst 0, 1) := by decide +kernel
theorem dX0_forget_1 : decode cX0_forget 1 = .ok (.istore_n 2, 1) := by decide +kernel
theorem dX0_forget_2 : decode cX0_forget 2 = .ok (.iload_n 2, 1) := by decide +kernel
theorem dX0_forget_3 : decode cX0_forget 3 = .ok (.bipush 9, 2) := by decide +kernel
theorem dX0_forget_5 : decode cX0_forget 5 = .ok (.if_icmp .ge 21, 3) := by decide +kernel
theorem dX0_forget_8 : decode cX0_forget 8 = .ok (.aload_n 0, 1) := by decide +kernel
theorem dX0_forget_9 : decode cX0_forget 9 = .ok (.getfield 11, 3) := by decide +kernel
theorem dX0_forget_12 : decode cX0_forget 12 = .ok (.iload_n 1, 1) := by decide +kernel
theorem dX0_forget_13 : decode cX0_forget 13 = .ok (.bipush 9, 2) := by decide +kernel
theorem dX0_forget_15 : decode cX0_forget 15 = .ok (.imul, 1) := by decide +kernel
theorem dX0_forget_16 : decode cX0_forget 16 = .ok (.iload_n 2, 1) := by decide +kernel
theorem dX0_forget_17 : decode cX0_forget 17 = .ok (.iadd, 1) := by decide +kernel
theorem dX0_forget_18 : decode cX0_forget 18 = .ok (.iconst (-1), 1) := by decide +kernel
theorem dX0_forget_19 : decode cX0_forget 19 = .ok (.iastore, 1) := by decide +kernel
theorem dX0_forget_20 : decode cX0_forget 20 = .ok (.iinc 2 1, 3) := by decide +kernel
theorem dX0_forget_23 : decode cX0_forget 23 = .ok (.goto (-21), 3) := by decide +kernel
theorem dX0_forget_26 : decode cX0_forget 26 = .ok (.return_, 1) := by decide +kernel
theorem dX0_takeTable_0 : decode cX0_takeTable 0 = .ok (.iload_n 1, 1) := by decide +kernel
theorem dX0_takeTable_1 : decode cX0_takeTable 1 = .ok (.invokestatic 70, 3) := by decide +kernel
theorem dX0_takeTable_4 : decode cX0_takeTable 4 = .ok (.istore_n 2, 1) := by decide +kernel
theorem dX0_takeTable_5 : decode cX0_takeTable 5 = .ok (.aload_n 0, 1) := by decide +kernel
theorem dX0_takeTable_6 : decode cX0_takeTable 6 = .ok (.getfield 28, 3) := by decide +kernel
theorem dX0_takeTable_9 : decode cX0_takeTable 9 = .ok (.iload_n 2, 1) := by decide +kernel
theorem dX0_takeTable_10 : decode cX0_takeTable 10 = .ok (.invokevirtual 73, 3) := by decide +kernel
theorem dX0_takeTable_13 : decode cX0_takeTable 13 = .ok (.istore_n 3, 1) := by decide +kernel
theorem dX0_takeTable_14 : decode cX0_takeTable 14 = .ok (.aload_n 0, 1) := by decide +kernel
theorem dX0_takeTable_15 : decode cX0_takeTable 15 = .ok (.iload_n 1, 1) := by decide +kernel
theorem dX0_takeTable_16 : decode cX0_takeTable 16 = .ok (.iload_n 3, 1) := by decide +kernel
theorem dX0_takeTable_17 : decode cX0_takeTable 17 = .ok (.iconst (-1), 1) := by decide +kernel
theorem dX0_takeTable_18 : decode cX0_takeTable 18 = .ok (.if_icmp .ne 8, 3) := by decide +kernel
theorem dX0_takeTable_21 : decode cX0_takeTable 21 = .ok (.bipush 8, 2) := by decide +kernel
theorem dX0_takeTable_23 : decode cX0_takeTable 23 = .ok (.goto 4, 3) := by decide +kernel
theorem dX0_takeTable_26 : decode cX0_takeTable 26 = .ok (.iload_n 3, 1) := by decide +kernel
theorem dX0_takeTable_27 : decode cX0_takeTable 27 = .ok (.aload_n 0, 1) := by decide +kernel
theorem dX0_takeTable_28 : decode cX0_takeTable 28 = .ok (.getfield 19, 3) := by decide +kernel
theorem dX0_takeTable_31 : decode cX0_takeTable 31 = .ok (.iload_n 1, 1) := by decide +kernel
theorem dX0_takeTable_32 : decode cX0_takeTable 32 = .ok (.iaload, 1) := by decide +kernel
theorem dX0_takeTable_33 : decode cX0_takeTable 33 = .ok (.iconst 2, 1) := by decide +kernel
theorem dX0_takeTable_34 : decode cX0_takeTable 34 = .ok (.iload_n 2, 1) := by decide +kernel
theorem dX0_takeTable_35 : decode cX0_takeTable 35 = .ok (.iadd, 1) := by decide +kernel
theorem dX0_takeTable_36 : decode cX0_takeTable 36 = .ok (.i2l, 1) := by decide +kernel
theorem dX0_takeTable_37 : decode cX0_takeTable 37 = .ok (.invokevirtual 76, 3) := by decide +kernel
theorem dX0_takeTable_40 : decode cX0_takeTable 40 = .ok (.return_, 1) := by decide +kernel
theorem dX0_takeSteps_0 : decode cX0_takeSteps 0 = .ok (.iconst 1, 1) := by decide +kernel
theorem dX0_takeSteps_1 : decode cX0_takeSteps 1 = .ok (.istore_n 3, 1) := by decide +kernel
theorem dX0_takeSteps_2 : decode cX0_takeSteps 2 = .ok (.iload_n 3, 1) := by decide +kernel
theorem dX0_takeSteps_3 : decode cX0_takeSteps 3 = .ok (.iload_n 1, 1) := by decide +kernel
theorem dX0_takeSteps_4 : decode cX0_takeSteps 4 = .ok (.if_icmp .ge 100, 3) := by decide +kernel
theorem dX0_takeSteps_7 : decode cX0_takeSteps 7 = .ok (.iload_n 1, 1) := by decide +kernel
theorem dX0_takeSteps_8 : decode cX0_takeSteps 8 = .ok (.iload_n 3, 1) := by decide +kernel
theorem dX0_takeSteps_9 : decode cX0_takeSteps 9 = .ok (.iconst (-1), 1) := by decide +kernel
theorem dX0_takeSteps_10 : decode cX0_takeSteps 10 = .ok (.ixor, 1) := by decide +kernel
theorem dX0_takeSteps_11 : decode cX0_takeSteps 11 = .ok (.iand, 1) := by decide +kernel
theorem dX0_takeSteps_12 : decode cX0_takeSteps 12 = .ok (.istore 4, 2) := by decide +kernel
theorem dX0_takeSteps_14 : decode cX0_takeSteps 14 = .ok (.iload_n 2, 1) := by decide +kernel
theorem dX0_takeSteps_15 : decode cX0_takeSteps 15 = .ok (.ifCond .eq 12, 3) := by decide +kernel
theorem dX0_takeSteps_18 : decode cX0_takeSteps 18 = .ok (.iload 4, 2) := by decide +kernel
theorem dX0_takeSteps_20 : decode cX0_takeSteps 20 = .ok (.invokestatic 57, 3) := by decide +kernel
theorem dX0_takeSteps_23 : decode cX0_takeSteps 23 = .ok (.iconst 1, 1) := by decide +kernel
theorem dX0_takeSteps_24 : decode cX0_takeSteps 24 = .ok (.if_icmp .ne 7, 3) := by decide +kernel
theorem dX0_takeSteps_27 : decode cX0_takeSteps 27 = .ok (.iconst 1, 1) := by decide +kernel
theorem dX0_takeSteps_28 : decode cX0_takeSteps 28 = .ok (.goto 4, 3) := by decide +kernel
theorem dX0_takeSteps_31 : decode cX0_takeSteps 31 = .ok (.iconst 0, 1) := by decide +kernel
theorem dX0_takeSteps_32 : decode cX0_takeSteps 32 = .ok (.istore 5, 2) := by decide +kernel
theorem dX0_takeSteps_34 : decode cX0_takeSteps 34 = .ok (.iload_n 3, 1) := by decide +kernel
theorem dX0_takeSteps_35 : decode cX0_takeSteps 35 = .ok (.iload_n 1, 1) := by decide +kernel
theorem dX0_takeSteps_36 : decode cX0_takeSteps 36 = .ok (.iconst (-1), 1) := by decide +kernel
theorem dX0_takeSteps_37 : decode cX0_takeSteps 37 = .ok (.ixor, 1) := by decide +kernel
theorem dX0_takeSteps_38 : decode cX0_takeSteps 38 = .ok (.iand, 1) := by decide +kernel
theorem dX0_takeSteps_39 : decode cX0_takeSteps 39 = .ok (.ifCond .ne 59, 3) := by decide +kernel
theorem dX0_takeSteps_42 : decode cX0_takeSteps 42 = .ok (.iload 5, 2) := by decide +kernel
theorem dX0_takeSteps_44 : decode cX0_takeSteps 44 = .ok (.ifCond .eq 54, 3) := by decide +kernel
theorem dX0_takeSteps_47 : decode cX0_takeSteps 47 = .ok (.aload_n 0, 1) := by decide +kernel
theorem dX0_takeSteps_48 : decode cX0_takeSteps 48 = .ok (.iload_n 3, 1) := by decide +kernel
theorem dX0_takeSteps_49 : decode cX0_takeSteps 49 = .ok (.iload 4, 2) := by decide +kernel
theorem dX0_takeSteps_51 : decode cX0_takeSteps 51 = .ok (.invokevirtual 80, 3) := by decide +kernel
theorem dX0_takeSteps_54 : decode cX0_takeSteps 54 = .ok (.aload_n 0, 1) := by decide +kernel
theorem dX0_takeSteps_55 : decode cX0_takeSteps 55 = .ok (.getfield 28, 3) := by decide +kernel
theorem dX0_takeSteps_58 : decode cX0_takeSteps 58 = .ok (.iload_n 3, 1) := by decide +kernel
theorem dX0_takeSteps_59 : decode cX0_takeSteps 59 = .ok (.invokevirtual 83, 3) := by decide +kernel
theorem dX0_takeSteps_62 : decode cX0_takeSteps 62 = .ok (.aload_n 0, 1) := by decide +kernel
theorem dX0_takeSteps_63 : decode cX0_takeSteps 63 = .ok (.getfield 28, 3) := by decide +kernel
theorem dX0_takeSteps_66 : decode cX0_takeSteps 66 = .ok (.iload 4, 2) := by decide +kernel
theorem dX0_takeSteps_68 : decode cX0_takeSteps 68 = .ok (.invokevirtual 83, 3) := by decide +kernel
theorem dX0_takeSteps_71 : decode cX0_takeSteps 71 = .ok (.iand, 1) := by decide +kernel
theorem dX0_takeSteps_72 : decode cX0_takeSteps 72 = .ok (.istore 6, 2) := by decide +kernel
theorem dX0_takeSteps_74 : decode cX0_takeSteps 74 = .ok (.iload 6, 2) := by decide +kernel
theorem dX0_takeSteps_76 : decode cX0_takeSteps 76 = .ok (.ifCond .eq 22, 3) := by decide +kernel
theorem dX0_takeSteps_79 : decode cX0_takeSteps 79 = .ok (.aload_n 0, 1) := by decide +kernel
theorem dX0_takeSteps_80 : decode cX0_takeSteps 80 = .ok (.iload_n 3, 1) := by decide +kernel
theorem dX0_takeSteps_81 : decode cX0_takeSteps 81 = .ok (.iload 4, 2) := by decide +kernel
theorem dX0_takeSteps_83 : decode cX0_takeSteps 83 = .ok (.invokevirtual 86, 3) := by decide +kernel
theorem dX0_takeSteps_86 : decode cX0_takeSteps 86 = .ok (.aload_n 0, 1) := by decide +kernel
theorem dX0_takeSteps_87 : decode cX0_takeSteps 87 = .ok (.iload_n 3, 1) := by decide +kernel
theorem dX0_takeSteps_88 : decode cX0_takeSteps 88 = .ok (.iload 4, 2) := by decide +kernel
theorem dX0_takeSteps_90 : decode cX0_takeSteps 90 = .ok (.iload 6, 2) := by decide +kernel
theorem dX0_takeSteps_92 : decode cX0_takeSteps 92 = .ok (.invokestatic 70, 3) := by decide +kernel
theorem dX0_takeSteps_95 : decode cX0_takeSteps 95 = .ok (.invokevirtual 89, 3) := by decide +kernel
theorem dX0_takeSteps_98 : decode cX0_takeSteps 98 = .ok (.iinc 3 1, 3) := by decide +kernel
theorem dX0_takeSteps_101 : decode cX0_takeSteps 101 = .ok (.goto (-99), 3) := by decide +kernel
theorem dX0_takeSteps_104 : decode cX0_takeSteps 104 = .ok (.return_, 1) := by decide +kernel
theorem dX0_takeLoops_0 : decode cX0_takeLoops 0 = .ok (.iload_n 2, 1) := by decide +kernel
theorem dX0_takeLoops_1 : decode cX0_takeLoops 1 = .ok (.bipush 9, 2) := by decide +kernel
theorem dX0_takeLoops_3 : decode cX0_takeLoops 3 = .ok (.imul, 1) := by decide +kernel
theorem dX0_takeLoops_4 : decode cX0_takeLoops 4 = .ok (.bipush 8, 2) := by decide +kernel
theorem dX0_takeLoops_6 : decode cX0_takeLoops 6 = .ok (.iadd, 1) := by decide +kernel
theorem dX0_takeLoops_7 : decode cX0_takeLoops 7 = .ok (.istore_n 3, 1) := by decide +kernel
theorem dX0_takeLoops_8 : decode cX0_takeLoops 8 = .ok (.aload_n 0, 1) := by decide +kernel
theorem dX0_takeLoops_9 : decode cX0_takeLoops 9 = .ok (.getfield 11, 3) := by decide +kernel
theorem dX0_takeLoops_12 : decode cX0_takeLoops 12 = .ok (.iload_n 3, 1) := by decide +kernel
theorem dX0_takeLoops_13 : decode cX0_takeLoops 13 = .ok (.iaload, 1) := by decide +kernel
theorem dX0_takeLoops_14 : decode cX0_takeLoops 14 = .ok (.aload_n 0, 1) := by decide +kernel
theorem dX0_takeLoops_15 : decode cX0_takeLoops 15 = .ok (.getfield 19, 3) := by decide +kernel
theorem dX0_takeLoops_18 : decode cX0_takeLoops 18 = .ok (.iload_n 1, 1) := by decide +kernel
theorem dX0_takeLoops_19 : decode cX0_takeLoops 19 = .ok (.iaload, 1) := by decide +kernel
theorem dX0_takeLoops_20 : decode cX0_takeLoops 20 = .ok (.aload_n 0, 1) := by decide +kernel
theorem dX0_takeLoops_21 : decode cX0_takeLoops 21 = .ok (.getfield 19, 3) := by decide +kernel
theorem dX0_takeLoops_24 : decode cX0_takeLoops 24 = .ok (.iload_n 2, 1) := by decide +kernel
theorem dX0_takeLoops_25 : decode cX0_takeLoops 25 = .ok (.iaload, 1) := by decide +kernel
theorem dX0_takeLoops_26 : decode cX0_takeLoops 26 = .ok (.aload_n 0, 1) := by decide +kernel
theorem dX0_takeLoops_27 : decode cX0_takeLoops 27 = .ok (.getfield 28, 3) := by decide +kernel
theorem dX0_takeLoops_30 : decode cX0_takeLoops 30 = .ok (.invokevirtual 42, 3) := by decide +kernel
theorem dX0_takeLoops_33 : decode cX0_takeLoops 33 = .ok (.invokestatic 93, 3) := by decide +kernel
theorem dX0_takeLoops_36 : decode cX0_takeLoops 36 = .ok (.iadd, 1) := by decide +kernel
theorem dX0_takeLoops_37 : decode cX0_takeLoops 37 = .ok (.istore 4, 2) := by decide +kernel
theorem dX0_takeLoops_39 : decode cX0_takeLoops 39 = .ok (.iconst 0, 1) := by decide +kernel
theorem dX0_takeLoops_40 : decode cX0_takeLoops 40 = .ok (.istore 5, 2) := by decide +kernel
theorem dX0_takeLoops_42 : decode cX0_takeLoops 42 = .ok (.iload 5, 2) := by decide +kernel
theorem dX0_takeLoops_44 : decode cX0_takeLoops 44 = .ok (.bipush 9, 2) := by decide +kernel
theorem dX0_takeLoops_46 : decode cX0_takeLoops 46 = .ok (.if_icmp .ge 72, 3) := by decide +kernel
theorem dX0_takeLoops_49 : decode cX0_takeLoops 49 = .ok (.iload_n 1, 1) := by decide +kernel
theorem dX0_takeLoops_50 : decode cX0_takeLoops 50 = .ok (.bipush 9, 2) := by decide +kernel
theorem dX0_takeLoops_52 : decode cX0_takeLoops 52 = .ok (.imul, 1) := by decide +kernel
theorem dX0_takeLoops_53 : decode cX0_takeLoops 53 = .ok (.iload 5, 2) := by decide +kernel
theorem dX0_takeLoops_55 : decode cX0_takeLoops 55 = .ok (.iadd, 1) := by decide +kernel
theorem dX0_takeLoops_56 : decode cX0_takeLoops 56 = .ok (.istore 6, 2) := by decide +kernel
theorem dX0_takeLoops_58 : decode cX0_takeLoops 58 = .ok (.aload_n 0, 1) := by decide +kernel
theorem dX0_takeLoops_59 : decode cX0_takeLoops 59 = .ok (.getfield 11, 3) := by decide +kernel
theorem dX0_takeLoops_62 : decode cX0_takeLoops 62 = .ok (.iload 6, 2) := by decide +kernel
theorem dX0_takeLoops_64 : decode cX0_takeLoops 64 = .ok (.iaload, 1) := by decide +kernel
theorem dX0_takeLoops_65 : decode cX0_takeLoops 65 = .ok (.iconst (-1), 1) := by decide +kernel
theorem dX0_takeLoops_66 : decode cX0_takeLoops 66 = .ok (.if_icmp .eq 46, 3) := by decide +kernel
theorem dX0_takeLoops_69 : decode cX0_takeLoops 69 = .ok (.iload_n 1, 1) := by decide +kernel
theorem dX0_takeLoops_70 : decode cX0_takeLoops 70 = .ok (.aload_n 0, 1) := by decide +kernel
theorem dX0_takeLoops_71 : decode cX0_takeLoops 71 = .ok (.getfield 15, 3) := by decide +kernel
theorem dX0_takeLoops_74 : decode cX0_takeLoops 74 = .ok (.iload 6, 2) := by decide +kernel
theorem dX0_takeLoops_76 : decode cX0_takeLoops 76 = .ok (.laload, 1) := by decide +kernel
theorem dX0_takeLoops_77 : decode cX0_takeLoops 77 = .ok (.bipush 8, 2) := by decide +kernel
theorem dX0_takeLoops_79 : decode cX0_takeLoops 79 = .ok (.iload_n 2, 1) := by decide +kernel
theorem dX0_takeLoops_80 : decode cX0_takeLoops 80 = .ok (.aload_n 0, 1) := by decide +kernel
theorem dX0_takeLoops_81 : decode cX0_takeLoops 81 = .ok (.getfield 15, 3) := by decide +kernel
theorem dX0_takeLoops_84 : decode cX0_takeLoops 84 = .ok (.iload_n 3, 1) := by decide +kernel
theorem dX0_takeLoops_85 : decode cX0_takeLoops 85 = .ok (.laload, 1) := by decide +kernel
theorem dX0_takeLoops_86 : decode cX0_takeLoops 86 = .ok (.invokestatic 97, 3) := by decide +kernel
theorem dX0_takeLoops_89 : decode cX0_takeLoops 89 = .ok (.lstore 7, 2) := by decide +kernel
theorem dX0_takeLoops_91 : decode cX0_takeLoops 91 = .ok (.aload_n 0, 1) := by decide +kernel
theorem dX0_takeLoops_92 : decode cX0_takeLoops 92 = .ok (.iload_n 1, 1) := by decide +kernel
theorem dX0_takeLoops_93 : decode cX0_takeLoops 93 = .ok (.iload_n 2, 1) := by decide +kernel
theorem dX0_takeLoops_94 : decode cX0_takeLoops 94 = .ok (.ior, 1) := by decide +kernel
theorem dX0_takeLoops_95 : decode cX0_takeLoops 95 = .ok (.iload 5, 2) := by decide +kernel
theorem dX0_takeLoops_97 : decode cX0_takeLoops 97 = .ok (.aload_n 0, 1) := by decide +kernel
theorem dX0_takeLoops_98 : decode cX0_takeLoops 98 = .ok (.getfield 11, 3) := by decide +kernel
theorem dX0_takeLoops_101 : decode cX0_takeLoops 101 = .ok (.iload 6, 2) := by decide +kernel
theorem dX0_takeLoops_103 : decode cX0_takeLoops 103 = .ok (.iaload, 1) := by decide +kernel
theorem dX0_takeLoops_104 : decode cX0_takeLoops 104 = .ok (.iload 4, 2) := by decide +kernel
theorem dX0_takeLoops_106 : decode cX0_takeLoops 106 = .ok (.iadd, 1) := by decide +kernel
theorem dX0_takeLoops_107 : decode cX0_takeLoops 107 = .ok (.lload 7, 2) := by decide +kernel
theorem dX0_takeLoops_109 : decode cX0_takeLoops 109 = .ok (.invokevirtual 76, 3) := by decide +kernel
theorem dX0_takeLoops_112 : decode cX0_takeLoops 112 = .ok (.iinc 5 1, 3) := by decide +kernel
theorem dX0_takeLoops_115 : decode cX0_takeLoops 115 = .ok (.goto (-73), 3) := by decide +kernel
theorem dX0_takeLoops_118 : decode cX0_takeLoops 118 = .ok (.return_, 1) := by decide +kernel
theorem dX0_takeParts_0 : decode cX0_takeParts 0 = .ok (.iload_n 1, 1) := by decide +kernel
theorem dX0_takeParts_1 : decode cX0_takeParts 1 = .ok (.bipush 9, 2) := by decide +kernel
theorem dX0_takeParts_3 : decode cX0_takeParts 3 = .ok (.imul, 1) := by decide +kernel
theorem dX0_takeParts_4 : decode cX0_takeParts 4 = .ok (.bipush 8, 2) := by decide +kernel
theorem dX0_takeParts_6 : decode cX0_takeParts 6 = .ok (.iadd, 1) := by decide +kernel
theorem dX0_takeParts_7 : decode cX0_takeParts 7 = .ok (.istore_n 3, 1) := by decide +kernel
theorem dX0_takeParts_8 : decode cX0_takeParts 8 = .ok (.iload_n 2, 1) := by decide +kernel
theorem dX0_takeParts_9 : decode cX0_takeParts 9 = .ok (.bipush 9, 2) := by decide +kernel
theorem dX0_takeParts_11 : decode cX0_takeParts 11 = .ok (.imul, 1) := by decide +kernel
theorem dX0_takeParts_12 : decode cX0_takeParts 12 = .ok (.bipush 8, 2) := by decide +kernel
theorem dX0_takeParts_14 : decode cX0_takeParts 14 = .ok (.iadd, 1) := by decide +kernel
theorem dX0_takeParts_15 : decode cX0_takeParts 15 = .ok (.istore 4, 2) := by decide +kernel
theorem dX0_takeParts_17 : decode cX0_takeParts 17 = .ok (.aload_n 0, 1) := by decide +kernel
theorem dX0_takeParts_18 : decode cX0_takeParts 18 = .ok (.getfield 19, 3) := by decide +kernel
theorem dX0_takeParts_21 : decode cX0_takeParts 21 = .ok (.iload_n 1, 1) := by decide +kernel
theorem dX0_takeParts_22 : decode cX0_takeParts 22 = .ok (.iaload, 1) := by decide +kernel
theorem dX0_takeParts_23 : decode cX0_takeParts 23 = .ok (.aload_n 0, 1) := by decide +kernel
theorem dX0_takeParts_24 : decode cX0_takeParts 24 = .ok (.getfield 19, 3) := by decide +kernel
theorem dX0_takeParts_27 : decode cX0_takeParts 27 = .ok (.iload_n 2, 1) := by decide +kernel
theorem dX0_takeParts_28 : decode cX0_takeParts 28 = .ok (.iaload, 1) := by decide +kernel
theorem dX0_takeParts_29 : decode cX0_takeParts 29 = .ok (.aload_n 0, 1) := by decide +kernel
theorem dX0_takeParts_30 : decode cX0_takeParts 30 = .ok (.getfield 28, 3) := by decide +kernel
theorem dX0_takeParts_33 : decode cX0_takeParts 33 = .ok (.invokevirtual 42, 3) := by decide +kernel
theorem dX0_takeParts_36 : decode cX0_takeParts 36 = .ok (.invokestatic 101, 3) := by decide +kernel
theorem dX0_takeParts_39 : decode cX0_takeParts 39 = .ok (.istore 5, 2) := by decide +kernel
theorem dX0_takeParts_41 : decode cX0_takeParts 41 = .ok (.iload_n 1, 1) := by decide +kernel
theorem dX0_takeParts_42 : decode cX0_takeParts 42 = .ok (.aload_n 0, 1) := by decide +kernel
theorem dX0_takeParts_43 : decode cX0_takeParts 43 = .ok (.getfield 15, 3) := by decide +kernel
theorem dX0_takeParts_46 : decode cX0_takeParts 46 = .ok (.iload_n 3, 1) := by decide +kernel
theorem dX0_takeParts_47 : decode cX0_takeParts 47 = .ok (.laload, 1) := by decide +kernel
theorem dX0_takeParts_48 : decode cX0_takeParts 48 = .ok (.bipush 9, 2) := by decide +kernel
theorem dX0_takeParts_50 : decode cX0_takeParts 50 = .ok (.iload_n 2, 1) := by decide +kernel
theorem dX0_takeParts_51 : decode cX0_takeParts 51 = .ok (.aload_n 0, 1) := by decide +kernel
theorem dX0_takeParts_52 : decode cX0_takeParts 52 = .ok (.getfield 15, 3) := by decide +kernel
theorem dX0_takeParts_55 : decode cX0_takeParts 55 = .ok (.iload 4, 2) := by decide +kernel
theorem dX0_takeParts_57 : decode cX0_takeParts 57 = .ok (.laload, 1) := by decide +kernel
theorem dX0_takeParts_58 : decode cX0_takeParts 58 = .ok (.invokestatic 97, 3) := by decide +kernel
theorem dX0_takeParts_61 : decode cX0_takeParts 61 = .ok (.lstore 6, 2) := by decide +kernel
theorem dX0_takeParts_63 : decode cX0_takeParts 63 = .ok (.aload_n 0, 1) := by decide +kernel
theorem dX0_takeParts_64 : decode cX0_takeParts 64 = .ok (.iload_n 1, 1) := by decide +kernel
theorem dX0_takeParts_65 : decode cX0_takeParts 65 = .ok (.iload_n 2, 1) := by decide +kernel
theorem dX0_takeParts_66 : decode cX0_takeParts 66 = .ok (.ior, 1) := by decide +kernel
theorem dX0_takeParts_67 : decode cX0_takeParts 67 = .ok (.bipush 8, 2) := by decide +kernel
theorem dX0_takeParts_69 : decode cX0_takeParts 69 = .ok (.aload_n 0, 1) := by decide +kernel
theorem dX0_takeParts_70 : decode cX0_takeParts 70 = .ok (.getfield 11, 3) := by decide +kernel
theorem dX0_takeParts_73 : decode cX0_takeParts 73 = .ok (.iload_n 3, 1) := by decide +kernel
theorem dX0_takeParts_74 : decode cX0_takeParts 74 = .ok (.iaload, 1) := by decide +kernel
theorem dX0_takeParts_75 : decode cX0_takeParts 75 = .ok (.aload_n 0, 1) := by decide +kernel
theorem dX0_takeParts_76 : decode cX0_takeParts 76 = .ok (.getfield 11, 3) := by decide +kernel
theorem dX0_takeParts_79 : decode cX0_takeParts 79 = .ok (.iload 4, 2) := by decide +kernel
theorem dX0_takeParts_81 : decode cX0_takeParts 81 = .ok (.iaload, 1) := by decide +kernel
theorem dX0_takeParts_82 : decode cX0_takeParts 82 = .ok (.iadd, 1) := by decide +kernel
theorem dX0_takeParts_83 : decode cX0_takeParts 83 = .ok (.iload 5, 2) := by decide +kernel
theorem dX0_takeParts_85 : decode cX0_takeParts 85 = .ok (.iadd, 1) := by decide +kernel
theorem dX0_takeParts_86 : decode cX0_takeParts 86 = .ok (.lload 6, 2) := by decide +kernel
theorem dX0_takeParts_88 : decode cX0_takeParts 88 = .ok (.invokevirtual 76, 3) := by decide +kernel
theorem dX0_takeParts_91 : decode cX0_takeParts 91 = .ok (.return_, 1) := by decide +kernel
theorem dX0_takeSorted_0 : decode cX0_takeSorted 0 = .ok (.aload_n 0, 1) := by decide +kernel
theorem dX0_takeSorted_1 : decode cX0_takeSorted 1 = .ok (.iload_n 1, 1) := by decide +kernel
theorem dX0_takeSorted_2 : decode cX0_takeSorted 2 = .ok (.iload_n 3, 1) := by decide +kernel
theorem dX0_takeSorted_3 : decode cX0_takeSorted 3 = .ok (.invokevirtual 104, 3) := by decide +kernel
theorem dX0_takeSorted_6 : decode cX0_takeSorted 6 = .ok (.aload_n 0, 1) := by decide +kernel
theorem dX0_takeSorted_7 : decode cX0_takeSorted 7 = .ok (.iload_n 2, 1) := by decide +kernel
theorem dX0_takeSorted_8 : decode cX0_takeSorted 8 = .ok (.iload_n 3, 1) := by decide +kernel
theorem dX0_takeSorted_9 : decode cX0_takeSorted 9 = .ok (.invokevirtual 104, 3) := by decide +kernel
theorem dX0_takeSorted_12 : decode cX0_takeSorted 12 = .ok (.iadd, 1) := by decide +kernel
theorem dX0_takeSorted_13 : decode cX0_takeSorted 13 = .ok (.istore 4, 2) := by decide +kernel
theorem dX0_takeSorted_15 : decode cX0_takeSorted 15 = .ok (.iload_n 1, 1) := by decide +kernel
theorem dX0_takeSorted_16 : decode cX0_takeSorted 16 = .ok (.aload_n 0, 1) := by decide +kernel
theorem dX0_takeSorted_17 : decode cX0_takeSorted 17 = .ok (.iload_n 1, 1) := by decide +kernel
theorem dX0_takeSorted_18 : decode cX0_takeSorted 18 = .ok (.iload_n 3, 1) := by decide +kernel
theorem dX0_takeSorted_19 : decode cX0_takeSorted 19 = .ok (.invokevirtual 107, 3) := by decide +kernel
theorem dX0_takeSorted_22 : decode cX0_takeSorted 22 = .ok (.bipush 10, 2) := by decide +kernel
theorem dX0_takeSorted_24 : decode cX0_takeSorted 24 = .ok (.iload_n 2, 1) := by decide +kernel
theorem dX0_takeSorted_25 : decode cX0_takeSorted 25 = .ok (.aload_n 0, 1) := by decide +kernel
theorem dX0_takeSorted_26 : decode cX0_takeSorted 26 = .ok (.iload_n 2, 1) := by decide +kernel
theorem dX0_takeSorted_27 : decode cX0_takeSorted 27 = .ok (.iload_n 3, 1) := by decide +kernel
theorem dX0_takeSorted_28 : decode cX0_takeSorted 28 = .ok (.invokevirtual 107, 3) := by decide +kernel
theorem dX0_takeSorted_31 : decode cX0_takeSorted 31 = .ok (.invokestatic 97, 3) := by decide +kernel
theorem dX0_takeSorted_34 : decode cX0_takeSorted 34 = .ok (.lstore 5, 2) := by decide +kernel
theorem dX0_takeSorted_36 : decode cX0_takeSorted 36 = .ok (.aload_n 0, 1) := by decide +kernel
theorem dX0_takeSorted_37 : decode cX0_takeSorted 37 = .ok (.iload_n 1, 1) := by decide +kernel
theorem dX0_takeSorted_38 : decode cX0_takeSorted 38 = .ok (.iload_n 2, 1) := by decide +kernel
theorem dX0_takeSorted_39 : decode cX0_takeSorted 39 = .ok (.ior, 1) := by decide +kernel
theorem dX0_takeSorted_40 : decode cX0_takeSorted 40 = .ok (.iload_n 3, 1) := by decide +kernel
theorem dX0_takeSorted_41 : decode cX0_takeSorted 41 = .ok (.iload 4, 2) := by decide +kernel
theorem dX0_takeSorted_43 : decode cX0_takeSorted 43 = .ok (.lload 5, 2) := by decide +kernel
theorem dX0_takeSorted_45 : decode cX0_takeSorted 45 = .ok (.invokevirtual 76, 3) := by decide +kernel
theorem dX0_takeSorted_48 : decode cX0_takeSorted 48 = .ok (.return_, 1) := by decide +kernel
theorem dX0_keyOfStep_0 : decode cX0_keyOfStep 0 = .ok (.lconst 1, 1) := by decide +kernel
theorem dX0_keyOfStep_1 : decode cX0_keyOfStep 1 = .ok (.iconst 4, 1) := by decide +kernel
theorem dX0_keyOfStep_2 : decode cX0_keyOfStep 2 = .ok (.iload_n 0, 1) := by decide +kernel
theorem dX0_keyOfStep_3 : decode cX0_keyOfStep 3 = .ok (.invokestatic 111, 3) := by decide +kernel
theorem dX0_keyOfStep_6 : decode cX0_keyOfStep 6 = .ok (.imul, 1) := by decide +kernel
theorem dX0_keyOfStep_7 : decode cX0_keyOfStep 7 = .ok (.lshl, 1) := by decide +kernel
theorem dX0_keyOfStep_8 : decode cX0_keyOfStep 8 = .ok (.lload_n 1, 1) := by decide +kernel
theorem dX0_keyOfStep_9 : decode cX0_keyOfStep 9 = .ok (.lor, 1) := by decide +kernel
theorem dX0_keyOfStep_10 : decode cX0_keyOfStep 10 = .ok (.lstore 7, 2) := by decide +kernel
theorem dX0_keyOfStep_12 : decode cX0_keyOfStep 12 = .ok (.lload 7, 2) := by decide +kernel
theorem dX0_keyOfStep_14 : decode cX0_keyOfStep 14 = .ok (.iconst 4, 1) := by decide +kernel
theorem dX0_keyOfStep_15 : decode cX0_keyOfStep 15 = .ok (.lshl, 1) := by decide +kernel
theorem dX0_keyOfStep_16 : decode cX0_keyOfStep 16 = .ok (.iload_n 3, 1) := by decide +kernel
theorem dX0_keyOfStep_17 : decode cX0_keyOfStep 17 = .ok (.i2l, 1) := by decide +kernel
theorem dX0_keyOfStep_18 : decode cX0_keyOfStep 18 = .ok (.lor, 1) := by decide +kernel
theorem dX0_keyOfStep_19 : decode cX0_keyOfStep 19 = .ok (.iconst 4, 1) := by decide +kernel
theorem dX0_keyOfStep_20 : decode cX0_keyOfStep 20 = .ok (.iload 4, 2) := by decide +kernel
theorem dX0_keyOfStep_22 : decode cX0_keyOfStep 22 = .ok (.invokestatic 111, 3) := by decide +kernel
theorem dX0_keyOfStep_25 : decode cX0_keyOfStep 25 = .ok (.imul, 1) := by decide +kernel
theorem dX0_keyOfStep_26 : decode cX0_keyOfStep 26 = .ok (.lshl, 1) := by decide +kernel
theorem dX0_keyOfStep_27 : decode cX0_keyOfStep 27 = .ok (.lload 5, 2) := by decide +kernel
theorem dX0_keyOfStep_29 : decode cX0_keyOfStep 29 = .ok (.lor, 1) := by decide +kernel
theorem dX0_keyOfStep_30 : decode cX0_keyOfStep 30 = .ok (.lreturn, 1) := by decide +kernel
theorem dX0_keySigns_0 : decode cX0_keySigns 0 = .ok (.iconst 3, 1) := by decide +kernel
theorem dX0_keySigns_1 : decode cX0_keySigns 1 = .ok (.iload_n 0, 1) := by decide +kernel
theorem dX0_keySigns_2 : decode cX0_keySigns 2 = .ok (.invokestatic 57, 3) := by decide +kernel
theorem dX0_keySigns_5 : decode cX0_keySigns 5 = .ok (.imul, 1) := by decide +kernel
theorem dX0_keySigns_6 : decode cX0_keySigns 6 = .ok (.iconst 2, 1) := by decide +kernel
theorem dX0_keySigns_7 : decode cX0_keySigns 7 = .ok (.isub, 1) := by decide +kernel
theorem dX0_keySigns_8 : decode cX0_keySigns 8 = .ok (.ireturn, 1) := by decide +kernel
theorem dX0_offer_0 : decode cX0_offer 0 = .ok (.aload_n 0, 1) := by decide +kernel
theorem dX0_offer_1 : decode cX0_offer 1 = .ok (.iload_n 1, 1) := by decide +kernel
theorem dX0_offer_2 : decode cX0_offer 2 = .ok (.bipush 9, 2) := by decide +kernel
theorem dX0_offer_4 : decode cX0_offer 4 = .ok (.imul, 1) := by decide +kernel
theorem dX0_offer_5 : decode cX0_offer 5 = .ok (.iload_n 2, 1) := by decide +kernel
theorem dX0_offer_6 : decode cX0_offer 6 = .ok (.iadd, 1) := by decide +kernel
theorem dX0_offer_7 : decode cX0_offer 7 = .ok (.iload_n 3, 1) := by decide +kernel
theorem dX0_offer_8 : decode cX0_offer 8 = .ok (.lload 4, 2) := by decide +kernel
theorem dX0_offer_10 : decode cX0_offer 10 = .ok (.invokevirtual 114, 3) := by decide +kernel
theorem dX0_offer_13 : decode cX0_offer 13 = .ok (.aload_n 0, 1) := by decide +kernel
theorem dX0_offer_14 : decode cX0_offer 14 = .ok (.iload_n 1, 1) := by decide +kernel
theorem dX0_offer_15 : decode cX0_offer 15 = .ok (.bipush 9, 2) := by decide +kernel
theorem dX0_offer_17 : decode cX0_offer 17 = .ok (.imul, 1) := by decide +kernel
theorem dX0_offer_18 : decode cX0_offer 18 = .ok (.bipush 8, 2) := by decide +kernel
theorem dX0_offer_20 : decode cX0_offer 20 = .ok (.iadd, 1) := by decide +kernel
theorem dX0_offer_21 : decode cX0_offer 21 = .ok (.iload_n 3, 1) := by decide +kernel
theorem dX0_offer_22 : decode cX0_offer 22 = .ok (.lload 4, 2) := by decide +kernel
theorem dX0_offer_24 : decode cX0_offer 24 = .ok (.invokevirtual 114, 3) := by decide +kernel
theorem dX0_offer_27 : decode cX0_offer 27 = .ok (.return_, 1) := by decide +kernel
theorem dX0_putIfBetter_0 : decode cX0_putIfBetter 0 = .ok (.iload_n 1, 1) := by decide +kernel
theorem dX0_putIfBetter_1 : decode cX0_putIfBetter 1 = .ok (.ifCond .lt 12, 3) := by decide +kernel
theorem dX0_putIfBetter_4 : decode cX0_putIfBetter 4 = .ok (.iload_n 1, 1) := by decide +kernel
theorem dX0_putIfBetter_5 : decode cX0_putIfBetter 5 = .ok (.aload_n 0, 1) := by decide +kernel
theorem dX0_putIfBetter_6 : decode cX0_putIfBetter 6 = .ok (.getfield 11, 3) := by decide +kernel
theorem dX0_putIfBetter_9 : decode cX0_putIfBetter 9 = .ok (.arraylength, 1) := by decide +kernel
theorem dX0_putIfBetter_10 : decode cX0_putIfBetter 10 = .ok (.if_icmp .lt 4, 3) := by decide +kernel
theorem dX0_putIfBetter_13 : decode cX0_putIfBetter 13 = .ok (.return_, 1) := by decide +kernel
theorem dX0_putIfBetter_14 : decode cX0_putIfBetter 14 = .ok (.aload_n 0, 1) := by decide +kernel
theorem dX0_putIfBetter_15 : decode cX0_putIfBetter 15 = .ok (.getfield 11, 3) := by decide +kernel
theorem dX0_putIfBetter_18 : decode cX0_putIfBetter 18 = .ok (.iload_n 1, 1) := by decide +kernel
theorem dX0_putIfBetter_19 : decode cX0_putIfBetter 19 = .ok (.iaload, 1) := by decide +kernel
theorem dX0_putIfBetter_20 : decode cX0_putIfBetter 20 = .ok (.iconst (-1), 1) := by decide +kernel
theorem dX0_putIfBetter_21 : decode cX0_putIfBetter 21 = .ok (.if_icmp .ne 7, 3) := by decide +kernel
theorem dX0_putIfBetter_24 : decode cX0_putIfBetter 24 = .ok (.iconst 1, 1) := by decide +kernel
theorem dX0_putIfBetter_25 : decode cX0_putIfBetter 25 = .ok (.goto 4, 3) := by decide +kernel
theorem dX0_putIfBetter_28 : decode cX0_putIfBetter 28 = .ok (.iconst 0, 1) := by decide +kernel
theorem dX0_putIfBetter_29 : decode cX0_putIfBetter 29 = .ok (.istore 5, 2) := by decide +kernel
theorem dX0_putIfBetter_31 : decode cX0_putIfBetter 31 = .ok (.iload 5, 2) := by decide +kernel
theorem dX0_putIfBetter_33 : decode cX0_putIfBetter 33 = .ok (.ifCond .ne 34, 3) := by decide +kernel
theorem dX0_putIfBetter_36 : decode cX0_putIfBetter 36 = .ok (.iload_n 2, 1) := by decide +kernel
theorem dX0_putIfBetter_37 : decode cX0_putIfBetter 37 = .ok (.aload_n 0, 1) := by decide +kernel
theorem dX0_putIfBetter_38 : decode cX0_putIfBetter 38 = .ok (.getfield 11, 3) := by decide +kernel
theorem dX0_putIfBetter_41 : decode cX0_putIfBetter 41 = .ok (.iload_n 1, 1) := by decide +kernel
theorem dX0_putIfBetter_42 : decode cX0_putIfBetter 42 = .ok (.iaload, 1) := by decide +kernel
theorem dX0_putIfBetter_43 : decode cX0_putIfBetter 43 = .ok (.if_icmp .lt 24, 3) := by decide +kernel
theorem dX0_putIfBetter_46 : decode cX0_putIfBetter 46 = .ok (.iload_n 2, 1) := by decide +kernel
theorem dX0_putIfBetter_47 : decode cX0_putIfBetter 47 = .ok (.aload_n 0, 1) := by decide +kernel
theorem dX0_putIfBetter_48 : decode cX0_putIfBetter 48 = .ok (.getfield 11, 3) := by decide +kernel
theorem dX0_putIfBetter_51 : decode cX0_putIfBetter 51 = .ok (.iload_n 1, 1) := by decide +kernel
theorem dX0_putIfBetter_52 : decode cX0_putIfBetter 52 = .ok (.iaload, 1) := by decide +kernel
theorem dX0_putIfBetter_53 : decode cX0_putIfBetter 53 = .ok (.if_icmp .ne 28, 3) := by decide +kernel
theorem dX0_putIfBetter_56 : decode cX0_putIfBetter 56 = .ok (.lload_n 3, 1) := by decide +kernel
theorem dX0_putIfBetter_57 : decode cX0_putIfBetter 57 = .ok (.aload_n 0, 1) := by decide +kernel
theorem dX0_putIfBetter_58 : decode cX0_putIfBetter 58 = .ok (.getfield 15, 3) := by decide +kernel
theorem dX0_putIfBetter_61 : decode cX0_putIfBetter 61 = .ok (.iload_n 1, 1) := by decide +kernel
theorem dX0_putIfBetter_62 : decode cX0_putIfBetter 62 = .ok (.laload, 1) := by decide +kernel
theorem dX0_putIfBetter_63 : decode cX0_putIfBetter 63 = .ok (.lcmp, 1) := by decide +kernel
theorem dX0_putIfBetter_64 : decode cX0_putIfBetter 64 = .ok (.ifCond .ge 17, 3) := by decide +kernel
theorem dX0_putIfBetter_67 : decode cX0_putIfBetter 67 = .ok (.aload_n 0, 1) := by decide +kernel
theorem dX0_putIfBetter_68 : decode cX0_putIfBetter 68 = .ok (.getfield 11, 3) := by decide +kernel
theorem dX0_putIfBetter_71 : decode cX0_putIfBetter 71 = .ok (.iload_n 1, 1) := by decide +kernel
theorem dX0_putIfBetter_72 : decode cX0_putIfBetter 72 = .ok (.iload_n 2, 1) := by decide +kernel
theorem dX0_putIfBetter_73 : decode cX0_putIfBetter 73 = .ok (.iastore, 1) := by decide +kernel
theorem dX0_putIfBetter_74 : decode cX0_putIfBetter 74 = .ok (.aload_n 0, 1) := by decide +kernel
theorem dX0_putIfBetter_75 : decode cX0_putIfBetter 75 = .ok (.getfield 15, 3) := by decide +kernel
theorem dX0_putIfBetter_78 : decode cX0_putIfBetter 78 = .ok (.iload_n 1, 1) := by decide +kernel
theorem dX0_putIfBetter_79 : decode cX0_putIfBetter 79 = .ok (.lload_n 3, 1) := by decide +kernel
theorem dX0_putIfBetter_80 : decode cX0_putIfBetter 80 = .ok (.lastore, 1) := by decide +kernel
theorem dX0_putIfBetter_81 : decode cX0_putIfBetter 81 = .ok (.return_, 1) := by decide +kernel
theorem dX0_costFor_0 : decode cX0_costFor 0 = .ok (.iload_n 1, 1) := by decide +kernel
theorem dX0_costFor_1 : decode cX0_costFor 1 = .ok (.iconst 1, 1) := by decide +kernel
theorem dX0_costFor_2 : decode cX0_costFor 2 = .ok (.if_icmp .lt 9, 3) := by decide +kernel
theorem dX0_costFor_5 : decode cX0_costFor 5 = .ok (.iload_n 1, 1) := by decide +kernel
theorem dX0_costFor_6 : decode cX0_costFor 6 = .ok (.bipush 64, 2) := by decide +kernel
theorem dX0_costFor_8 : decode cX0_costFor 8 = .ok (.if_icmp .lt 5, 3) := by decide +kernel
theorem dX0_costFor_11 : decode cX0_costFor 11 = .ok (.iconst 0, 1) := by decide +kernel
theorem dX0_costFor_12 : decode cX0_costFor 12 = .ok (.ireturn, 1) := by decide +kernel
theorem dX0_costFor_13 : decode cX0_costFor 13 = .ok (.aload_n 0, 1) := by decide +kernel
theorem dX0_costFor_14 : decode cX0_costFor 14 = .ok (.iload_n 1, 1) := by decide +kernel
theorem dX0_costFor_15 : decode cX0_costFor 15 = .ok (.iload_n 2, 1) := by decide +kernel
theorem dX0_costFor_16 : decode cX0_costFor 16 = .ok (.invokevirtual 118, 3) := by decide +kernel
theorem dX0_costFor_19 : decode cX0_costFor 19 = .ok (.istore_n 3, 1) := by decide +kernel
theorem dX0_costFor_20 : decode cX0_costFor 20 = .ok (.aload_n 0, 1) := by decide +kernel
theorem dX0_costFor_21 : decode cX0_costFor 21 = .ok (.getfield 11, 3) := by decide +kernel
theorem dX0_costFor_24 : decode cX0_costFor 24 = .ok (.iload_n 1, 1) := by decide +kernel
theorem dX0_costFor_25 : decode cX0_costFor 25 = .ok (.bipush 9, 2) := by decide +kernel
theorem dX0_costFor_27 : decode cX0_costFor 27 = .ok (.imul, 1) := by decide +kernel
theorem dX0_costFor_28 : decode cX0_costFor 28 = .ok (.iload_n 3, 1) := by decide +kernel
theorem dX0_costFor_29 : decode cX0_costFor 29 = .ok (.iadd, 1) := by decide +kernel
theorem dX0_costFor_30 : decode cX0_costFor 30 = .ok (.iaload, 1) := by decide +kernel
theorem dX0_costFor_31 : decode cX0_costFor 31 = .ok (.istore 4, 2) := by decide +kernel
theorem dX0_costFor_33 : decode cX0_costFor 33 = .ok (.iload_n 2, 1) := by decide +kernel
theorem dX0_costFor_34 : decode cX0_costFor 34 = .ok (.iconst (-1), 1) := by decide +kernel
theorem dX0_costFor_35 : decode cX0_costFor 35 = .ok (.if_icmp .eq 8, 3) := by decide +kernel
theorem dX0_costFor_38 : decode cX0_costFor 38 = .ok (.iload_n 3, 1) := by decide +kernel
theorem dX0_costFor_39 : decode cX0_costFor 39 = .ok (.iload_n 2, 1) := by decide +kernel
theorem dX0_costFor_40 : decode cX0_costFor 40 = .ok (.if_icmp .ne 8, 3) := by decide +kernel
theorem dX0_costFor_43 : decode cX0_costFor 43 = .ok (.iload 4, 2) := by decide +kernel
theorem dX0_costFor_45 : decode cX0_costFor 45 = .ok (.goto 12, 3) := by decide +kernel
theorem dX0_costFor_48 : decode cX0_costFor 48 = .ok (.iload 4, 2) := by decide +kernel
theorem dX0_costFor_50 : decode cX0_costFor 50 = .ok (.aload_n 0, 1) := by decide +kernel
theorem dX0_costFor_51 : decode cX0_costFor 51 = .ok (.getfield 22, 3) := by decide +kernel
theorem dX0_costFor_54 : decode cX0_costFor 54 = .ok (.iload_n 1, 1) := by decide +kernel
theorem dX0_costFor_55 : decode cX0_costFor 55 = .ok (.iaload, 1) := by decide +kernel
theorem dX0_costFor_56 : decode cX0_costFor 56 = .ok (.iadd, 1) := by decide +kernel
theorem dX0_costFor_57 : decode cX0_costFor 57 = .ok (.ireturn, 1) := by decide +kernel
theorem dX0_keyFor_0 : decode cX0_keyFor 0 = .ok (.iload_n 1, 1) := by decide +kernel
theorem dX0_keyFor_1 : decode cX0_keyFor 1 = .ok (.iconst 1, 1) := by decide +kernel
theorem dX0_keyFor_2 : decode cX0_keyFor 2 = .ok (.if_icmp .lt 9, 3) := by decide +kernel
theorem dX0_keyFor_5 : decode cX0_keyFor 5 = .ok (.iload_n 1, 1) := by decide +kernel
theorem dX0_keyFor_6 : decode cX0_keyFor 6 = .ok (.bipush 64, 2) := by decide +kernel
theorem dX0_keyFor_8 : decode cX0_keyFor 8 = .ok (.if_icmp .lt 7, 3) := by decide +kernel
theorem dX0_keyFor_11 : decode cX0_keyFor 11 = .ok (.lconst 0, 1) := by decide +kernel
theorem dX0_keyFor_12 : decode cX0_keyFor 12 = .ok (.goto 19, 3) := by decide +kernel
theorem dX0_keyFor_15 : decode cX0_keyFor 15 = .ok (.aload_n 0, 1) := by decide +kernel
theorem dX0_keyFor_16 : decode cX0_keyFor 16 = .ok (.getfield 15, 3) := by decide +kernel
theorem dX0_keyFor_19 : decode cX0_keyFor 19 = .ok (.iload_n 1, 1) := by decide +kernel
theorem dX0_keyFor_20 : decode cX0_keyFor 20 = .ok (.bipush 9, 2) := by decide +kernel
theorem dX0_keyFor_22 : decode cX0_keyFor 22 = .ok (.imul, 1) := by decide +kernel
theorem dX0_keyFor_23 : decode cX0_keyFor 23 = .ok (.aload_n 0, 1) := by decide +kernel
theorem dX0_keyFor_24 : decode cX0_keyFor 24 = .ok (.iload_n 1, 1) := by decide +kernel
theorem dX0_keyFor_25 : decode cX0_keyFor 25 = .ok (.iload_n 2, 1) := by decide +kernel
theorem dX0_keyFor_26 : decode cX0_keyFor 26 = .ok (.invokevirtual 118, 3) := by decide +kernel
theorem dX0_keyFor_29 : decode cX0_keyFor 29 = .ok (.iadd, 1) := by decide +kernel
theorem dX0_keyFor_30 : decode cX0_keyFor 30 = .ok (.laload, 1) := by decide +kernel
theorem dX0_keyFor_31 : decode cX0_keyFor 31 = .ok (.lreturn, 1) := by decide +kernel
theorem dX0_slotFor_0 : decode cX0_slotFor 0 = .ok (.iload_n 1, 1) := by decide +kernel
theorem dX0_slotFor_1 : decode cX0_slotFor 1 = .ok (.iconst 1, 1) := by decide +kernel
theorem dX0_slotFor_2 : decode cX0_slotFor 2 = .ok (.if_icmp .lt 16, 3) := by decide +kernel
theorem dX0_slotFor_5 : decode cX0_slotFor 5 = .ok (.iload_n 1, 1) := by decide +kernel
theorem dX0_slotFor_6 : decode cX0_slotFor 6 = .ok (.bipush 64, 2) := by decide +kernel
theorem dX0_slotFor_8 : decode cX0_slotFor 8 = .ok (.if_icmp .ge 10, 3) := by decide +kernel
theorem dX0_slotFor_11 : decode cX0_slotFor 11 = .ok (.iload_n 2, 1) := by decide +kernel
theorem dX0_slotFor_12 : decode cX0_slotFor 12 = .ok (.invokestatic 121, 3) := by decide +kernel
theorem dX0_slotFor_15 : decode cX0_slotFor 15 = .ok (.ifCond .ne 6, 3) := by decide +kernel
theorem dX0_slotFor_18 : decode cX0_slotFor 18 = .ok (.bipush 8, 2) := by decide +kernel
theorem dX0_slotFor_20 : decode cX0_slotFor 20 = .ok (.ireturn, 1) := by decide +kernel
theorem dX0_slotFor_21 : decode cX0_slotFor 21 = .ok (.iload_n 1, 1) := by decide +kernel
theorem dX0_slotFor_22 : decode cX0_slotFor 22 = .ok (.bipush 9, 2) := by decide +kernel
theorem dX0_slotFor_24 : decode cX0_slotFor 24 = .ok (.imul, 1) := by decide +kernel
theorem dX0_slotFor_25 : decode cX0_slotFor 25 = .ok (.bipush 8, 2) := by decide +kernel
theorem dX0_slotFor_27 : decode cX0_slotFor 27 = .ok (.iadd, 1) := by decide +kernel
theorem dX0_slotFor_28 : decode cX0_slotFor 28 = .ok (.istore_n 3, 1) := by decide +kernel
theorem dX0_slotFor_29 : decode cX0_slotFor 29 = .ok (.iload_n 1, 1) := by decide +kernel
theorem dX0_slotFor_30 : decode cX0_slotFor 30 = .ok (.bipush 9, 2) := by decide +kernel
theorem dX0_slotFor_32 : decode cX0_slotFor 32 = .ok (.imul, 1) := by decide +kernel
theorem dX0_slotFor_33 : decode cX0_slotFor 33 = .ok (.iload_n 2, 1) := by decide +kernel
theorem dX0_slotFor_34 : decode cX0_slotFor 34 = .ok (.iadd, 1) := by decide +kernel
theorem dX0_slotFor_35 : decode cX0_slotFor 35 = .ok (.istore 4, 2) := by decide +kernel
theorem dX0_slotFor_37 : decode cX0_slotFor 37 = .ok (.aload_n 0, 1) := by decide +kernel
theorem dX0_slotFor_38 : decode cX0_slotFor 38 = .ok (.getfield 11, 3) := by decide +kernel
theorem dX0_slotFor_41 : decode cX0_slotFor 41 = .ok (.iload 4, 2) := by decide +kernel
theorem dX0_slotFor_43 : decode cX0_slotFor 43 = .ok (.iaload, 1) := by decide +kernel
theorem dX0_slotFor_44 : decode cX0_slotFor 44 = .ok (.iconst (-1), 1) := by decide +kernel
theorem dX0_slotFor_45 : decode cX0_slotFor 45 = .ok (.if_icmp .ne 6, 3) := by decide +kernel
theorem dX0_slotFor_48 : decode cX0_slotFor 48 = .ok (.bipush 8, 2) := by decide +kernel
theorem dX0_slotFor_50 : decode cX0_slotFor 50 = .ok (.ireturn, 1) := by decide +kernel
theorem dX0_slotFor_51 : decode cX0_slotFor 51 = .ok (.aload_n 0, 1) := by decide +kernel
theorem dX0_slotFor_52 : decode cX0_slotFor 52 = .ok (.getfield 11, 3) := by decide +kernel
theorem dX0_slotFor_55 : decode cX0_slotFor 55 = .ok (.iload_n 3, 1) := by decide +kernel
theorem dX0_slotFor_56 : decode cX0_slotFor 56 = .ok (.iaload, 1) := by decide +kernel
theorem dX0_slotFor_57 : decode cX0_slotFor 57 = .ok (.aload_n 0, 1) := by decide +kernel
theorem dX0_slotFor_58 : decode cX0_slotFor 58 = .ok (.getfield 22, 3) := by decide +kernel
theorem dX0_slotFor_61 : decode cX0_slotFor 61 = .ok (.iload_n 1, 1) := by decide +kernel
theorem dX0_slotFor_62 : decode cX0_slotFor 62 = .ok (.iaload, 1) := by decide +kernel
theorem dX0_slotFor_63 : decode cX0_slotFor 63 = .ok (.iadd, 1) := by decide +kernel
theorem dX0_slotFor_64 : decode cX0_slotFor 64 = .ok (.istore 5, 2) := by decide +kernel
theorem dX0_slotFor_66 : decode cX0_slotFor 66 = .ok (.aload_n 0, 1) := by decide +kernel
theorem dX0_slotFor_67 : decode cX0_slotFor 67 = .ok (.getfield 11, 3) := by decide +kernel
theorem dX0_slotFor_70 : decode cX0_slotFor 70 = .ok (.iload 4, 2) := by decide +kernel
theorem dX0_slotFor_72 : decode cX0_slotFor 72 = .ok (.iaload, 1) := by decide +kernel
theorem dX0_slotFor_73 : decode cX0_slotFor 73 = .ok (.iload 5, 2) := by decide +kernel
theorem dX0_slotFor_75 : decode cX0_slotFor 75 = .ok (.if_icmp .ne 24, 3) := by decide +kernel
theorem dX0_slotFor_78 : decode cX0_slotFor 78 = .ok (.aload_n 0, 1) := by decide +kernel
theorem dX0_slotFor_79 : decode cX0_slotFor 79 = .ok (.getfield 15, 3) := by decide +kernel
theorem dX0_slotFor_82 : decode cX0_slotFor 82 = .ok (.iload 4, 2) := by decide +kernel
theorem dX0_slotFor_84 : decode cX0_slotFor 84 = .ok (.laload, 1) := by decide +kernel
theorem dX0_slotFor_85 : decode cX0_slotFor 85 = .ok (.aload_n 0, 1) := by decide +kernel
theorem dX0_slotFor_86 : decode cX0_slotFor 86 = .ok (.getfield 15, 3) := by decide +kernel
theorem dX0_slotFor_89 : decode cX0_slotFor 89 = .ok (.iload_n 3, 1) := by decide +kernel
theorem dX0_slotFor_90 : decode cX0_slotFor 90 = .ok (.laload, 1) := by decide +kernel
theorem dX0_slotFor_91 : decode cX0_slotFor 91 = .ok (.lcmp, 1) := by decide +kernel
theorem dX0_slotFor_92 : decode cX0_slotFor 92 = .ok (.ifCond .gt 7, 3) := by decide +kernel
theorem dX0_slotFor_95 : decode cX0_slotFor 95 = .ok (.iconst 1, 1) := by decide +kernel
theorem dX0_slotFor_96 : decode cX0_slotFor 96 = .ok (.goto 4, 3) := by decide +kernel
theorem dX0_slotFor_99 : decode cX0_slotFor 99 = .ok (.iconst 0, 1) := by decide +kernel
theorem dX0_slotFor_100 : decode cX0_slotFor 100 = .ok (.istore 6, 2) := by decide +kernel
theorem dX0_slotFor_102 : decode cX0_slotFor 102 = .ok (.aload_n 0, 1) := by decide +kernel
theorem dX0_slotFor_103 : decode cX0_slotFor 103 = .ok (.getfield 11, 3) := by decide +kernel
theorem dX0_slotFor_106 : decode cX0_slotFor 106 = .ok (.iload 4, 2) := by decide +kernel
theorem dX0_slotFor_108 : decode cX0_slotFor 108 = .ok (.iaload, 1) := by decide +kernel
theorem dX0_slotFor_109 : decode cX0_slotFor 109 = .ok (.iload 5, 2) := by decide +kernel
theorem dX0_slotFor_111 : decode cX0_slotFor 111 = .ok (.if_icmp .lt 8, 3) := by decide +kernel
theorem dX0_slotFor_114 : decode cX0_slotFor 114 = .ok (.iload 6, 2) := by decide +kernel
theorem dX0_slotFor_116 : decode cX0_slotFor 116 = .ok (.ifCond .eq 7, 3) := by decide +kernel
theorem dX0_slotFor_119 : decode cX0_slotFor 119 = .ok (.iload_n 2, 1) := by decide +kernel
theorem dX0_slotFor_120 : decode cX0_slotFor 120 = .ok (.goto 5, 3) := by decide +kernel
theorem dX0_slotFor_123 : decode cX0_slotFor 123 = .ok (.bipush 8, 2) := by decide +kernel
theorem dX0_slotFor_125 : decode cX0_slotFor 125 = .ok (.ireturn, 1) := by decide +kernel
theorem dX0_write_0 : decode cX0_write 0 = .ok (.aload_n 0, 1) := by decide +kernel
theorem dX0_write_1 : decode cX0_write 1 = .ok (.iload_n 1, 1) := by decide +kernel
theorem dX0_write_2 : decode cX0_write 2 = .ok (.iload_n 2, 1) := by decide +kernel
theorem dX0_write_3 : decode cX0_write 3 = .ok (.invokevirtual 107, 3) := by decide +kernel
theorem dX0_write_6 : decode cX0_write 6 = .ok (.lstore_n 3, 1) := by decide +kernel
theorem dX0_write_7 : decode cX0_write 7 = .ok (.iconst 0, 1) := by decide +kernel
theorem dX0_write_8 : decode cX0_write 8 = .ok (.istore 5, 2) := by decide +kernel
theorem dX0_write_10 : decode cX0_write 10 = .ok (.iconst 0, 1) := by decide +kernel
theorem dX0_write_11 : decode cX0_write 11 = .ok (.istore 6, 2) := by decide +kernel
theorem dX0_write_13 : decode cX0_write 13 = .ok (.aload_n 0, 1) := by decide +kernel
theorem dX0_write_14 : decode cX0_write 14 = .ok (.iconst 0, 1) := by decide +kernel
theorem dX0_write_15 : decode cX0_write 15 = .ok (.putfield 125, 3) := by decide +kernel
theorem dX0_write_18 : decode cX0_write 18 = .ok (.iload_n 1, 1) := by decide +kernel
theorem dX0_write_19 : decode cX0_write 19 = .ok (.invokestatic 111, 3) := by decide +kernel
theorem dX0_write_22 : decode cX0_write 22 = .ok (.iconst 1, 1) := by decide +kernel
theorem dX0_write_23 : decode cX0_write 23 = .ok (.isub, 1) := by decide +kernel
theorem dX0_write_24 : decode cX0_write 24 = .ok (.istore 7, 2) := by decide +kernel
theorem dX0_write_26 : decode cX0_write 26 = .ok (.iload 7, 2) := by decide +kernel
theorem dX0_write_28 : decode cX0_write 28 = .ok (.ifCond .lt 96, 3) := by decide +kernel
theorem dX0_write_31 : decode cX0_write 31 = .ok (.lload_n 3, 1) := by decide +kernel
theorem dX0_write_32 : decode cX0_write 32 = .ok (.iconst 4, 1) := by decide +kernel
theorem dX0_write_33 : decode cX0_write 33 = .ok (.iload 7, 2) := by decide +kernel
theorem dX0_write_35 : decode cX0_write 35 = .ok (.imul, 1) := by decide +kernel
theorem dX0_write_36 : decode cX0_write 36 = .ok (.lushr, 1) := by decide +kernel
theorem dX0_write_37 : decode cX0_write 37 = .ok (.ldc2_w 129, 3) := by decide +kernel
theorem dX0_write_40 : decode cX0_write 40 = .ok (.land, 1) := by decide +kernel
theorem dX0_write_41 : decode cX0_write 41 = .ok (.l2i, 1) := by decide +kernel
theorem dX0_write_42 : decode cX0_write 42 = .ok (.istore 8, 2) := by decide +kernel
theorem dX0_write_44 : decode cX0_write 44 = .ok (.aload_n 0, 1) := by decide +kernel
theorem dX0_write_45 : decode cX0_write 45 = .ok (.iload 8, 2) := by decide +kernel
theorem dX0_write_47 : decode cX0_write 47 = .ok (.invokestatic 131, 3) := by decide +kernel
theorem dX0_write_50 : decode cX0_write 50 = .ok (.invokevirtual 134, 3) := by decide +kernel
theorem dX0_write_53 : decode cX0_write 53 = .ok (.iload 8, 2) := by decide +kernel
theorem dX0_write_55 : decode cX0_write 55 = .ok (.iconst 1, 1) := by decide +kernel
theorem dX0_write_56 : decode cX0_write 56 = .ok (.if_icmp .ne 15, 3) := by decide +kernel
theorem dX0_write_59 : decode cX0_write 59 = .ok (.iinc 5 1, 3) := by decide +kernel
theorem dX0_write_62 : decode cX0_write 62 = .ok (.iload 6, 2) := by decide +kernel
theorem dX0_write_64 : decode cX0_write 64 = .ok (.iconst 1, 1) := by decide +kernel
theorem dX0_write_65 : decode cX0_write 65 = .ok (.ishl, 1) := by decide +kernel
theorem dX0_write_66 : decode cX0_write 66 = .ok (.istore 6, 2) := by decide +kernel
theorem dX0_write_68 : decode cX0_write 68 = .ok (.goto 50, 3) := by decide +kernel
theorem dX0_write_71 : decode cX0_write 71 = .ok (.iload 8, 2) := by decide +kernel
theorem dX0_write_73 : decode cX0_write 73 = .ok (.bipush 8, 2) := by decide +kernel
theorem dX0_write_75 : decode cX0_write 75 = .ok (.if_icmp .lt 12, 3) := by decide +kernel
theorem dX0_write_78 : decode cX0_write 78 = .ok (.iload 6, 2) := by decide +kernel
theorem dX0_write_80 : decode cX0_write 80 = .ok (.iconst 1, 1) := by decide +kernel
theorem dX0_write_81 : decode cX0_write 81 = .ok (.ior, 1) := by decide +kernel
theorem dX0_write_82 : decode cX0_write 82 = .ok (.istore 6, 2) := by decide +kernel
theorem dX0_write_84 : decode cX0_write 84 = .ok (.goto 34, 3) := by decide +kernel
theorem dX0_write_87 : decode cX0_write 87 = .ok (.iload 5, 2) := by decide +kernel
theorem dX0_write_89 : decode cX0_write 89 = .ok (.ifCond .le 29, 3) := by decide +kernel
theorem dX0_write_92 : decode cX0_write 92 = .ok (.iload 6, 2) := by decide +kernel
theorem dX0_write_94 : decode cX0_write 94 = .ok (.iconst 1, 1) := by decide +kernel
theorem dX0_write_95 : decode cX0_write 95 = .ok (.iand, 1) := by decide +kernel
theorem dX0_write_96 : decode cX0_write 96 = .ok (.iconst 1, 1) := by decide +kernel
theorem dX0_write_97 : decode cX0_write 97 = .ok (.if_icmp .ne 21, 3) := by decide +kernel
theorem dX0_write_100 : decode cX0_write 100 = .ok (.aload_n 0, 1) := by decide +kernel
theorem dX0_write_101 : decode cX0_write 101 = .ok (.bipush 41, 2) := by decide +kernel
theorem dX0_write_103 : decode cX0_write 103 = .ok (.invokevirtual 134, 3) := by decide +kernel
theorem dX0_write_106 : decode cX0_write 106 = .ok (.iinc 5 (-1), 3) := by decide +kernel
theorem dX0_write_109 : decode cX0_write 109 = .ok (.iload 6, 2) := by decide +kernel
theorem dX0_write_111 : decode cX0_write 111 = .ok (.iconst 1, 1) := by decide +kernel
theorem dX0_write_112 : decode cX0_write 112 = .ok (.ishr, 1) := by decide +kernel
theorem dX0_write_113 : decode cX0_write 113 = .ok (.istore 6, 2) := by decide +kernel
theorem dX0_write_115 : decode cX0_write 115 = .ok (.goto (-28), 3) := by decide +kernel
theorem dX0_write_118 : decode cX0_write 118 = .ok (.iinc 7 (-1), 3) := by decide +kernel
theorem dX0_write_121 : decode cX0_write 121 = .ok (.goto (-95), 3) := by decide +kernel
theorem dX0_write_124 : decode cX0_write 124 = .ok (.aload_n 0, 1) := by decide +kernel
theorem dX0_write_125 : decode cX0_write 125 = .ok (.getfield 125, 3) := by decide +kernel
theorem dX0_write_128 : decode cX0_write 128 = .ok (.ireturn, 1) := by decide +kernel
theorem dX0_codeOf_0 : decode cX0_codeOf 0 = .ok (.iload_n 0, 1) := by decide +kernel
theorem dX0_codeOf_1 : decode cX0_codeOf 1 = .ok (.tableswitch 67 1 10 #[55, 67, 67, 67, 67, 67, 67, 58, 61, 64], 55) := by decide +kernel
theorem dX0_codeOf_56 : decode cX0_codeOf 56 = .ok (.bipush 40, 2) := by decide +kernel
theorem dX0_codeOf_58 : decode cX0_codeOf 58 = .ok (.ireturn, 1) := by decide +kernel
theorem dX0_codeOf_59 : decode cX0_codeOf 59 = .ok (.bipush 108, 2) := by decide +kernel
theorem dX0_codeOf_61 : decode cX0_codeOf 61 = .ok (.ireturn, 1) := by decide +kernel
theorem dX0_codeOf_62 : decode cX0_codeOf 62 = .ok (.bipush 112, 2) := by decide +kernel
theorem dX0_codeOf_64 : decode cX0_codeOf 64 = .ok (.ireturn, 1) := by decide +kernel
theorem dX0_codeOf_65 : decode cX0_codeOf 65 = .ok (.bipush 115, 2) := by decide +kernel
theorem dX0_codeOf_67 : decode cX0_codeOf 67 = .ok (.ireturn, 1) := by decide +kernel
theorem dX0_codeOf_68 : decode cX0_codeOf 68 = .ok (.bipush 48, 2) := by decide +kernel
theorem dX0_codeOf_70 : decode cX0_codeOf 70 = .ok (.iload_n 0, 1) := by decide +kernel
theorem dX0_codeOf_71 : decode cX0_codeOf 71 = .ok (.iadd, 1) := by decide +kernel
theorem dX0_codeOf_72 : decode cX0_codeOf 72 = .ok (.iconst 2, 1) := by decide +kernel
theorem dX0_codeOf_73 : decode cX0_codeOf 73 = .ok (.isub, 1) := by decide +kernel
theorem dX0_codeOf_74 : decode cX0_codeOf 74 = .ok (.ireturn, 1) := by decide +kernel
theorem dX0_put_0 : decode cX0_put 0 = .ok (.aload_n 0, 1) := by decide +kernel
theorem dX0_put_1 : decode cX0_put 1 = .ok (.getfield 125, 3) := by decide +kernel
theorem dX0_put_4 : decode cX0_put 4 = .ok (.ifCond .lt 32, 3) := by decide +kernel
theorem dX0_put_7 : decode cX0_put 7 = .ok (.aload_n 0, 1) := by decide +kernel
theorem dX0_put_8 : decode cX0_put 8 = .ok (.getfield 125, 3) := by decide +kernel
theorem dX0_put_11 : decode cX0_put 11 = .ok (.bipush 21, 2) := by decide +kernel
theorem dX0_put_13 : decode cX0_put 13 = .ok (.if_icmp .ge 23, 3) := by decide +kernel
theorem dX0_put_16 : decode cX0_put 16 = .ok (.aload_n 0, 1) := by decide +kernel
theorem dX0_put_17 : decode cX0_put 17 = .ok (.getfield 25, 3) := by decide +kernel
theorem dX0_put_20 : decode cX0_put 20 = .ok (.aload_n 0, 1) := by decide +kernel
theorem dX0_put_21 : decode cX0_put 21 = .ok (.getfield 125, 3) := by decide +kernel
theorem dX0_put_24 : decode cX0_put 24 = .ok (.iload_n 1, 1) := by decide +kernel
theorem dX0_put_25 : decode cX0_put 25 = .ok (.iastore, 1) := by decide +kernel
theorem dX0_put_26 : decode cX0_put 26 = .ok (.aload_n 0, 1) := by decide +kernel
theorem dX0_put_27 : decode cX0_put 27 = .ok (.dup, 1) := by decide +kernel
theorem dX0_put_28 : decode cX0_put 28 = .ok (.getfield 125, 3) := by decide +kernel
theorem dX0_put_31 : decode cX0_put 31 = .ok (.iconst 1, 1) := by decide +kernel
theorem dX0_put_32 : decode cX0_put 32 = .ok (.iadd, 1) := by decide +kernel
theorem dX0_put_33 : decode cX0_put 33 = .ok (.putfield 125, 3) := by decide +kernel
theorem dX0_put_36 : decode cX0_put 36 = .ok (.return_, 1) := by decide +kernel
theorem dX0_signs_0 : decode cX0_signs 0 = .ok (.aload_n 0, 1) := by decide +kernel
theorem dX0_signs_1 : decode cX0_signs 1 = .ok (.getfield 25, 3) := by decide +kernel
theorem dX0_signs_4 : decode cX0_signs 4 = .ok (.areturn, 1) := by decide +kernel
theorem dX0_signAt_0 : decode cX0_signAt 0 = .ok (.iload_n 1, 1) := by decide +kernel
theorem dX0_signAt_1 : decode cX0_signAt 1 = .ok (.ifCond .lt 20, 3) := by decide +kernel
theorem dX0_signAt_4 : decode cX0_signAt 4 = .ok (.iload_n 1, 1) := by decide +kernel
theorem dX0_signAt_5 : decode cX0_signAt 5 = .ok (.aload_n 0, 1) := by decide +kernel
theorem dX0_signAt_6 : decode cX0_signAt 6 = .ok (.getfield 125, 3) := by decide +kernel
theorem dX0_signAt_9 : decode cX0_signAt 9 = .ok (.if_icmp .ge 12, 3) := by decide +kernel
theorem dX0_signAt_12 : decode cX0_signAt 12 = .ok (.aload_n 0, 1) := by decide +kernel
theorem dX0_signAt_13 : decode cX0_signAt 13 = .ok (.getfield 25, 3) := by decide +kernel
theorem dX0_signAt_16 : decode cX0_signAt 16 = .ok (.iload_n 1, 1) := by decide +kernel
theorem dX0_signAt_17 : decode cX0_signAt 17 = .ok (.iaload, 1) := by decide +kernel
theorem dX0_signAt_18 : decode cX0_signAt 18 = .ok (.goto 4, 3) := by decide +kernel
theorem dX0_signAt_21 : decode cX0_signAt 21 = .ok (.iconst (-1), 1) := by decide +kernel
theorem dX0_signAt_22 : decode cX0_signAt 22 = .ok (.ireturn, 1) := by decide +kernel
theorem dX1_init_0 : decode cX1_init 0 = .ok (.aload_n 0, 1) := by decide +kernel
theorem dX1_init_1 : decode cX1_init 1 = .ok (.invokespecial 3, 3) := by decide +kernel
theorem dX1_init_4 : decode cX1_init 4 = .ok (.aload_n 0, 1) := by decide +kernel
theorem dX1_init_5 : decode cX1_init 5 = .ok (.bipush 6, 2) := by decide +kernel
theorem dX1_init_7 : decode cX1_init 7 = .ok (.newarray .int, 2) := by decide +kernel
theorem dX1_init_9 : decode cX1_init 9 = .ok (.putfield 9, 3) := by decide +kernel
theorem dX1_init_12 : decode cX1_init 12 = .ok (.aload_n 0, 1) := by decide +kernel
theorem dX1_init_13 : decode cX1_init 13 = .ok (.bipush 6, 2) := by decide +kernel
theorem dX1_init_15 : decode cX1_init 15 = .ok (.newarray .int, 2) := by decide +kernel
theorem dX1_init_17 : decode cX1_init 17 = .ok (.putfield 15, 3) := by decide +kernel
theorem dX1_init_20 : decode cX1_init 20 = .ok (.aload_n 0, 1) := by decide +kernel
theorem dX1_init_21 : decode cX1_init 21 = .ok (.bipush 6, 2) := by decide +kernel
theorem dX1_init_23 : decode cX1_init 23 = .ok (.newarray .int, 2) := by decide +kernel
theorem dX1_init_25 : decode cX1_init 25 = .ok (.putfield 18, 3) := by decide +kernel
theorem dX1_init_28 : decode cX1_init 28 = .ok (.aload_n 0, 1) := by decide +kernel
theorem dX1_init_29 : decode cX1_init 29 = .ok (.aload_n 1, 1) := by decide +kernel
theorem dX1_init_30 : decode cX1_init 30 = .ok (.putfield 21, 3) := by decide +kernel
theorem dX1_init_33 : decode cX1_init 33 = .ok (.return_, 1) := by decide +kernel
theorem dX1_takeAway_0 : decode cX1_takeAway 0 = .ok (.aload_n 0, 1) := by decide +kernel
theorem dX1_takeAway_1 : decode cX1_takeAway 1 = .ok (.iconst 0, 1) := by decide +kernel
theorem dX1_takeAway_2 : decode cX1_takeAway 2 = .ok (.putfield 25, 3) := by decide +kernel
theorem dX1_takeAway_5 : decode cX1_takeAway 5 = .ok (.aload_n 0, 1) := by decide +kernel
theorem dX1_takeAway_6 : decode cX1_takeAway 6 = .ok (.getfield 15, 3) := by decide +kernel
theorem dX1_takeAway_9 : decode cX1_takeAway 9 = .ok (.iconst (-1), 1) := by decide +kernel
theorem dX1_takeAway_10 : decode cX1_takeAway 10 = .ok (.invokestatic 29, 3) := by decide +kernel
theorem dX1_takeAway_13 : decode cX1_takeAway 13 = .ok (.iload_n 1, 1) := by decide +kernel
theorem dX1_takeAway_14 : decode cX1_takeAway 14 = .ok (.istore_n 2, 1) := by decide +kernel
theorem dX1_takeAway_15 : decode cX1_takeAway 15 = .ok (.iconst 0, 1) := by decide +kernel
theorem dX1_takeAway_16 : decode cX1_takeAway 16 = .ok (.istore_n 3, 1) := by decide +kernel
theorem dX1_takeAway_17 : decode cX1_takeAway 17 = .ok (.iload_n 3, 1) := by decide +kernel
theorem dX1_takeAway_18 : decode cX1_takeAway 18 = .ok (.bipush 6, 2) := by decide +kernel
theorem dX1_takeAway_20 : decode cX1_takeAway 20 = .ok (.if_icmp .ge 66, 3) := by decide +kernel
theorem dX1_takeAway_23 : decode cX1_takeAway 23 = .ok (.iload_n 2, 1) := by decide +kernel
theorem dX1_takeAway_24 : decode cX1_takeAway 24 = .ok (.ifCond .eq 62, 3) := by decide +kernel
theorem dX1_takeAway_27 : decode cX1_takeAway 27 = .ok (.aload_n 0, 1) := by decide +kernel
theorem dX1_takeAway_28 : decode cX1_takeAway 28 = .ok (.iload_n 2, 1) := by decide +kernel
theorem dX1_takeAway_29 : decode cX1_takeAway 29 = .ok (.invokevirtual 35, 3) := by decide +kernel
theorem dX1_takeAway_32 : decode cX1_takeAway 32 = .ok (.istore 4, 2) := by decide +kernel
theorem dX1_takeAway_34 : decode cX1_takeAway 34 = .ok (.iload 4, 2) := by decide +kernel
theorem dX1_takeAway_36 : decode cX1_takeAway 36 = .ok (.iconst (-1), 1) := by decide +kernel
theorem dX1_takeAway_37 : decode cX1_takeAway 37 = .ok (.if_icmp .ne 5, 3) := by decide +kernel
theorem dX1_takeAway_40 : decode cX1_takeAway 40 = .ok (.iconst 0, 1) := by decide +kernel
theorem dX1_takeAway_41 : decode cX1_takeAway 41 = .ok (.ireturn, 1) := by decide +kernel
theorem dX1_takeAway_42 : decode cX1_takeAway 42 = .ok (.aload_n 0, 1) := by decide +kernel
theorem dX1_takeAway_43 : decode cX1_takeAway 43 = .ok (.getfield 9, 3) := by decide +kernel
theorem dX1_takeAway_46 : decode cX1_takeAway 46 = .ok (.iload_n 3, 1) := by decide +kernel
theorem dX1_takeAway_47 : decode cX1_takeAway 47 = .ok (.iload 4, 2) := by decide +kernel
theorem dX1_takeAway_49 : decode cX1_takeAway 49 = .ok (.iastore, 1) := by decide +kernel
theorem dX1_takeAway_50 : decode cX1_takeAway 50 = .ok (.aload_n 0, 1) := by decide +kernel
theorem dX1_takeAway_51 : decode cX1_takeAway 51 = .ok (.getfield 15, 3) := by decide +kernel
theorem dX1_takeAway_54 : decode cX1_takeAway 54 = .ok (.iload 4, 2) := by decide +kernel
theorem dX1_takeAway_56 : decode cX1_takeAway 56 = .ok (.aload_n 0, 1) := by decide +kernel
theorem dX1_takeAway_57 : decode cX1_takeAway 57 = .ok (.iload_n 2, 1) := by decide +kernel
theorem dX1_takeAway_58 : decode cX1_takeAway 58 = .ok (.iload 4, 2) := by decide +kernel
theorem dX1_takeAway_60 : decode cX1_takeAway 60 = .ok (.invokevirtual 39, 3) := by decide +kernel
theorem dX1_takeAway_63 : decode cX1_takeAway 63 = .ok (.iastore, 1) := by decide +kernel
theorem dX1_takeAway_64 : decode cX1_takeAway 64 = .ok (.aload_n 0, 1) := by decide +kernel
theorem dX1_takeAway_65 : decode cX1_takeAway 65 = .ok (.iload_n 3, 1) := by decide +kernel
theorem dX1_takeAway_66 : decode cX1_takeAway 66 = .ok (.iconst 1, 1) := by decide +kernel
theorem dX1_takeAway_67 : decode cX1_takeAway 67 = .ok (.iadd, 1) := by decide +kernel
theorem dX1_takeAway_68 : decode cX1_takeAway 68 = .ok (.putfield 25, 3) := by decide +kernel
theorem dX1_takeAway_71 : decode cX1_takeAway 71 = .ok (.iload_n 2, 1) := by decide +kernel
theorem dX1_takeAway_72 : decode cX1_takeAway 72 = .ok (.iconst 1, 1) := by decide +kernel
theorem dX1_takeAway_73 : decode cX1_takeAway 73 = .ok (.iload 4, 2) := by decide +kernel
theorem dX1_takeAway_75 : decode cX1_takeAway 75 = .ok (.ishl, 1) := by decide +kernel
theorem dX1_takeAway_76 : decode cX1_takeAway 76 = .ok (.iconst (-1), 1) := by decide +kernel
theorem dX1_takeAway_77 : decode cX1_takeAway 77 = .ok (.ixor, 1) := by decide +kernel
theorem dX1_takeAway_78 : decode cX1_takeAway 78 = .ok (.iand, 1) := by decide +kernel
theorem dX1_takeAway_79 : decode cX1_takeAway 79 = .ok (.istore_n 2, 1) := by decide +kernel
theorem dX1_takeAway_80 : decode cX1_takeAway 80 = .ok (.iinc 3 1, 3) := by decide +kernel
theorem dX1_takeAway_83 : decode cX1_takeAway 83 = .ok (.goto (-66), 3) := by decide +kernel
theorem dX1_takeAway_86 : decode cX1_takeAway 86 = .ok (.iload_n 2, 1) := by decide +kernel
theorem dX1_takeAway_87 : decode cX1_takeAway 87 = .ok (.ifCond .ne 7, 3) := by decide +kernel
theorem dX1_takeAway_90 : decode cX1_takeAway 90 = .ok (.iconst 1, 1) := by decide +kernel
theorem dX1_takeAway_91 : decode cX1_takeAway 91 = .ok (.goto 4, 3) := by decide +kernel
theorem dX1_takeAway_94 : decode cX1_takeAway 94 = .ok (.iconst 0, 1) := by decide +kernel
theorem dX1_takeAway_95 : decode cX1_takeAway 95 = .ok (.ireturn, 1) := by decide +kernel
theorem dX1_nextToGo_0 : decode cX1_nextToGo 0 = .ok (.iconst 0, 1) := by decide +kernel
theorem dX1_nextToGo_1 : decode cX1_nextToGo 1 = .ok (.istore_n 2, 1) := by decide +kernel
theorem dX1_nextToGo_2 : decode cX1_nextToGo 2 = .ok (.iload_n 2, 1) := by decide +kernel
theorem dX1_nextToGo_3 : decode cX1_nextToGo 3 = .ok (.bipush 6, 2) := by decide +kernel
theorem dX1_nextToGo_5 : decode cX1_nextToGo 5 = .ok (.if_icmp .ge 47, 3) := by decide +kernel
theorem dX1_nextToGo_8 : decode cX1_nextToGo 8 = .ok (.iload_n 1, 1) := by decide +kernel
theorem dX1_nextToGo_9 : decode cX1_nextToGo 9 = .ok (.iload_n 2, 1) := by decide +kernel
theorem dX1_nextToGo_10 : decode cX1_nextToGo 10 = .ok (.ishr, 1) := by decide +kernel
theorem dX1_nextToGo_11 : decode cX1_nextToGo 11 = .ok (.iconst 1, 1) := by decide +kernel
theorem dX1_nextToGo_12 : decode cX1_nextToGo 12 = .ok (.iand, 1) := by decide +kernel
theorem dX1_nextToGo_13 : decode cX1_nextToGo 13 = .ok (.iconst 1, 1) := by decide +kernel
theorem dX1_nextToGo_14 : decode cX1_nextToGo 14 = .ok (.if_icmp .ne 7, 3) := by decide +kernel
theorem dX1_nextToGo_17 : decode cX1_nextToGo 17 = .ok (.iconst 1, 1) := by decide +kernel
theorem dX1_nextToGo_18 : decode cX1_nextToGo 18 = .ok (.goto 4, 3) := by decide +kernel
theorem dX1_nextToGo_21 : decode cX1_nextToGo 21 = .ok (.iconst 0, 1) := by decide +kernel
theorem dX1_nextToGo_22 : decode cX1_nextToGo 22 = .ok (.istore_n 3, 1) := by decide +kernel
theorem dX1_nextToGo_23 : decode cX1_nextToGo 23 = .ok (.iload_n 3, 1) := by decide +kernel
theorem dX1_nextToGo_24 : decode cX1_nextToGo 24 = .ok (.ifCond .eq 22, 3) := by decide +kernel
theorem dX1_nextToGo_27 : decode cX1_nextToGo 27 = .ok (.iload_n 1, 1) := by decide +kernel
theorem dX1_nextToGo_28 : decode cX1_nextToGo 28 = .ok (.iconst 1, 1) := by decide +kernel
theorem dX1_nextToGo_29 : decode cX1_nextToGo 29 = .ok (.iload_n 2, 1) := by decide +kernel
theorem dX1_nextToGo_30 : decode cX1_nextToGo 30 = .ok (.ishl, 1) := by decide +kernel
theorem dX1_nextToGo_31 : decode cX1_nextToGo 31 = .ok (.if_icmp .eq 13, 3) := by decide +kernel
theorem dX1_nextToGo_34 : decode cX1_nextToGo 34 = .ok (.aload_n 0, 1) := by decide +kernel
theorem dX1_nextToGo_35 : decode cX1_nextToGo 35 = .ok (.iload_n 1, 1) := by decide +kernel
theorem dX1_nextToGo_36 : decode cX1_nextToGo 36 = .ok (.iload_n 2, 1) := by decide +kernel
theorem dX1_nextToGo_37 : decode cX1_nextToGo 37 = .ok (.invokevirtual 39, 3) := by decide +kernel
theorem dX1_nextToGo_40 : decode cX1_nextToGo 40 = .ok (.iconst (-1), 1) := by decide +kernel
theorem dX1_nextToGo_41 : decode cX1_nextToGo 41 = .ok (.if_icmp .eq 5, 3) := by decide +kernel
theorem dX1_nextToGo_44 : decode cX1_nextToGo 44 = .ok (.iload_n 2, 1) := by decide +kernel
theorem dX1_nextToGo_45 : decode cX1_nextToGo 45 = .ok (.ireturn, 1) := by decide +kernel
theorem dX1_nextToGo_46 : decode cX1_nextToGo 46 = .ok (.iinc 2 1, 3) := by decide +kernel
theorem dX1_nextToGo_49 : decode cX1_nextToGo 49 = .ok (.goto (-47), 3) := by decide +kernel
theorem dX1_nextToGo_52 : decode cX1_nextToGo 52 = .ok (.iconst (-1), 1) := by decide +kernel
theorem dX1_nextToGo_53 : decode cX1_nextToGo 53 = .ok (.ireturn, 1) := by decide +kernel
theorem dX1_hookAmong_0 : decode cX1_hookAmong 0 = .ok (.iload_n 1, 1) := by decide +kernel
theorem dX1_hookAmong_1 : decode cX1_hookAmong 1 = .ok (.iconst 1, 1) := by decide +kernel
theorem dX1_hookAmong_2 : decode cX1_hookAmong 2 = .ok (.iload_n 2, 1) := by decide +kernel
theorem dX1_hookAmong_3 : decode cX1_hookAmong 3 = .ok (.ishl, 1) := by decide +kernel
theorem dX1_hookAmong_4 : decode cX1_hookAmong 4 = .ok (.iconst (-1), 1) := by decide +kernel
theorem dX1_hookAmong_5 : decode cX1_hookAmong 5 = .ok (.ixor, 1) := by decide +kernel
theorem dX1_hookAmong_6 : decode cX1_hookAmong 6 = .ok (.iand, 1) := by decide +kernel
theorem dX1_hookAmong_7 : decode cX1_hookAmong 7 = .ok (.istore_n 3, 1) := by decide +kernel
theorem dX1_hookAmong_8 : decode cX1_hookAmong 8 = .ok (.aload_n 0, 1) := by decide +kernel
theorem dX1_hookAmong_9 : decode cX1_hookAmong 9 = .ok (.getfield 21, 3) := by decide +kernel
theorem dX1_hookAmong_12 : decode cX1_hookAmong 12 = .ok (.iload_n 2, 1) := by decide +kernel
theorem dX1_hookAmong_13 : decode cX1_hookAmong 13 = .ok (.invokevirtual 43, 3) := by decide +kernel
theorem dX1_hookAmong_16 : decode cX1_hookAmong 16 = .ok (.aload_n 0, 1) := by decide +kernel
theorem dX1_hookAmong_17 : decode cX1_hookAmong 17 = .ok (.getfield 21, 3) := by decide +kernel
theorem dX1_hookAmong_20 : decode cX1_hookAmong 20 = .ok (.iload_n 3, 1) := by decide +kernel
theorem dX1_hookAmong_21 : decode cX1_hookAmong 21 = .ok (.invokevirtual 48, 3) := by decide +kernel
theorem dX1_hookAmong_24 : decode cX1_hookAmong 24 = .ok (.iand, 1) := by decide +kernel
theorem dX1_hookAmong_25 : decode cX1_hookAmong 25 = .ok (.istore 4, 2) := by decide +kernel
theorem dX1_hookAmong_27 : decode cX1_hookAmong 27 = .ok (.iconst 0, 1) := by decide +kernel
theorem dX1_hookAmong_28 : decode cX1_hookAmong 28 = .ok (.istore 5, 2) := by decide +kernel
theorem dX1_hookAmong_30 : decode cX1_hookAmong 30 = .ok (.iload 5, 2) := by decide +kernel
theorem dX1_hookAmong_32 : decode cX1_hookAmong 32 = .ok (.bipush 6, 2) := by decide +kernel
theorem dX1_hookAmong_34 : decode cX1_hookAmong 34 = .ok (.if_icmp .ge 39, 3) := by decide +kernel
theorem dX1_hookAmong_37 : decode cX1_hookAmong 37 = .ok (.iload_n 3, 1) := by decide +kernel
theorem dX1_hookAmong_38 : decode cX1_hookAmong 38 = .ok (.iload 5, 2) := by decide +kernel
theorem dX1_hookAmong_40 : decode cX1_hookAmong 40 = .ok (.ishr, 1) := by decide +kernel
theorem dX1_hookAmong_41 : decode cX1_hookAmong 41 = .ok (.iconst 1, 1) := by decide +kernel
theorem dX1_hookAmong_42 : decode cX1_hookAmong 42 = .ok (.iand, 1) := by decide +kernel
theorem dX1_hookAmong_43 : decode cX1_hookAmong 43 = .ok (.iconst 1, 1) := by decide +kernel
theorem dX1_hookAmong_44 : decode cX1_hookAmong 44 = .ok (.if_icmp .ne 23, 3) := by decide +kernel
theorem dX1_hookAmong_47 : decode cX1_hookAmong 47 = .ok (.iload 4, 2) := by decide +kernel
theorem dX1_hookAmong_49 : decode cX1_hookAmong 49 = .ok (.aload_n 0, 1) := by decide +kernel
theorem dX1_hookAmong_50 : decode cX1_hookAmong 50 = .ok (.getfield 21, 3) := by decide +kernel
theorem dX1_hookAmong_53 : decode cX1_hookAmong 53 = .ok (.iload 5, 2) := by decide +kernel
theorem dX1_hookAmong_55 : decode cX1_hookAmong 55 = .ok (.invokevirtual 43, 3) := by decide +kernel
theorem dX1_hookAmong_58 : decode cX1_hookAmong 58 = .ok (.iconst (-1), 1) := by decide +kernel
theorem dX1_hookAmong_59 : decode cX1_hookAmong 59 = .ok (.ixor, 1) := by decide +kernel
theorem dX1_hookAmong_60 : decode cX1_hookAmong 60 = .ok (.iand, 1) := by decide +kernel
theorem dX1_hookAmong_61 : decode cX1_hookAmong 61 = .ok (.ifCond .ne 6, 3) := by decide +kernel
theorem dX1_hookAmong_64 : decode cX1_hookAmong 64 = .ok (.iload 5, 2) := by decide +kernel
theorem dX1_hookAmong_66 : decode cX1_hookAmong 66 = .ok (.ireturn, 1) := by decide +kernel
theorem dX1_hookAmong_67 : decode cX1_hookAmong 67 = .ok (.iinc 5 1, 3) := by decide +kernel
theorem dX1_hookAmong_70 : decode cX1_hookAmong 70 = .ok (.goto (-40), 3) := by decide +kernel
theorem dX1_hookAmong_73 : decode cX1_hookAmong 73 = .ok (.iconst (-1), 1) := by decide +kernel
theorem dX1_hookAmong_74 : decode cX1_hookAmong 74 = .ok (.ireturn, 1) := by decide +kernel
theorem dX1_goneAt_0 : decode cX1_goneAt 0 = .ok (.iload_n 1, 1) := by decide +kernel
theorem dX1_goneAt_1 : decode cX1_goneAt 1 = .ok (.ifCond .lt 20, 3) := by decide +kernel
theorem dX1_goneAt_4 : decode cX1_goneAt 4 = .ok (.iload_n 1, 1) := by decide +kernel
theorem dX1_goneAt_5 : decode cX1_goneAt 5 = .ok (.aload_n 0, 1) := by decide +kernel
theorem dX1_goneAt_6 : decode cX1_goneAt 6 = .ok (.getfield 25, 3) := by decide +kernel
theorem dX1_goneAt_9 : decode cX1_goneAt 9 = .ok (.if_icmp .ge 12, 3) := by decide +kernel
theorem dX1_goneAt_12 : decode cX1_goneAt 12 = .ok (.aload_n 0, 1) := by decide +kernel
theorem dX1_goneAt_13 : decode cX1_goneAt 13 = .ok (.getfield 9, 3) := by decide +kernel
theorem dX1_goneAt_16 : decode cX1_goneAt 16 = .ok (.iload_n 1, 1) := by decide +kernel
theorem dX1_goneAt_17 : decode cX1_goneAt 17 = .ok (.iaload, 1) := by decide +kernel
theorem dX1_goneAt_18 : decode cX1_goneAt 18 = .ok (.goto 4, 3) := by decide +kernel
theorem dX1_goneAt_21 : decode cX1_goneAt 21 = .ok (.iconst (-1), 1) := by decide +kernel
theorem dX1_goneAt_22 : decode cX1_goneAt 22 = .ok (.ireturn, 1) := by decide +kernel
theorem dX1_hookOf_0 : decode cX1_hookOf 0 = .ok (.iload_n 1, 1) := by decide +kernel
theorem dX1_hookOf_1 : decode cX1_hookOf 1 = .ok (.ifCond .lt 18, 3) := by decide +kernel
theorem dX1_hookOf_4 : decode cX1_hookOf 4 = .ok (.iload_n 1, 1) := by decide +kernel
theorem dX1_hookOf_5 : decode cX1_hookOf 5 = .ok (.bipush 6, 2) := by decide +kernel
theorem dX1_hookOf_7 : decode cX1_hookOf 7 = .ok (.if_icmp .ge 12, 3) := by decide +kernel
theorem dX1_hookOf_10 : decode cX1_hookOf 10 = .ok (.aload_n 0, 1) := by decide +kernel
theorem dX1_hookOf_11 : decode cX1_hookOf 11 = .ok (.getfield 15, 3) := by decide +kernel
theorem dX1_hookOf_14 : decode cX1_hookOf 14 = .ok (.iload_n 1, 1) := by decide +kernel
theorem dX1_hookOf_15 : decode cX1_hookOf 15 = .ok (.iaload, 1) := by decide +kernel
theorem dX1_hookOf_16 : decode cX1_hookOf 16 = .ok (.goto 4, 3) := by decide +kernel
theorem dX1_hookOf_19 : decode cX1_hookOf 19 = .ok (.iconst (-1), 1) := by decide +kernel
theorem dX1_hookOf_20 : decode cX1_hookOf 20 = .ok (.ireturn, 1) := by decide +kernel
theorem dX1_fullCut_0 : decode cX1_fullCut 0 = .ok (.aload_n 0, 1) := by decide +kernel
theorem dX1_fullCut_1 : decode cX1_fullCut 1 = .ok (.iload_n 1, 1) := by decide +kernel
theorem dX1_fullCut_2 : decode cX1_fullCut 2 = .ok (.invokevirtual 51, 3) := by decide +kernel
theorem dX1_fullCut_5 : decode cX1_fullCut 5 = .ok (.ifCond .ne 5, 3) := by decide +kernel
theorem dX1_fullCut_8 : decode cX1_fullCut 8 = .ok (.iconst 0, 1) := by decide +kernel
theorem dX1_fullCut_9 : decode cX1_fullCut 9 = .ok (.ireturn, 1) := by decide +kernel
theorem dX1_fullCut_10 : decode cX1_fullCut 10 = .ok (.aload_n 0, 1) := by decide +kernel
theorem dX1_fullCut_11 : decode cX1_fullCut 11 = .ok (.iconst 0, 1) := by decide +kernel
theorem dX1_fullCut_12 : decode cX1_fullCut 12 = .ok (.putfield 55, 3) := by decide +kernel
theorem dX1_fullCut_15 : decode cX1_fullCut 15 = .ok (.iconst 0, 1) := by decide +kernel
theorem dX1_fullCut_16 : decode cX1_fullCut 16 = .ok (.istore_n 2, 1) := by decide +kernel
theorem dX1_fullCut_17 : decode cX1_fullCut 17 = .ok (.iload_n 2, 1) := by decide +kernel
theorem dX1_fullCut_18 : decode cX1_fullCut 18 = .ok (.bipush 6, 2) := by decide +kernel
theorem dX1_fullCut_20 : decode cX1_fullCut 20 = .ok (.if_icmp .ge 27, 3) := by decide +kernel
theorem dX1_fullCut_23 : decode cX1_fullCut 23 = .ok (.aload_n 0, 1) := by decide +kernel
theorem dX1_fullCut_24 : decode cX1_fullCut 24 = .ok (.getfield 18, 3) := by decide +kernel
theorem dX1_fullCut_27 : decode cX1_fullCut 27 = .ok (.iload_n 2, 1) := by decide +kernel
theorem dX1_fullCut_28 : decode cX1_fullCut 28 = .ok (.iconst 1, 1) := by decide +kernel
theorem dX1_fullCut_29 : decode cX1_fullCut 29 = .ok (.aload_n 0, 1) := by decide +kernel
theorem dX1_fullCut_30 : decode cX1_fullCut 30 = .ok (.getfield 21, 3) := by decide +kernel
theorem dX1_fullCut_33 : decode cX1_fullCut 33 = .ok (.iload_n 2, 1) := by decide +kernel
theorem dX1_fullCut_34 : decode cX1_fullCut 34 = .ok (.invokevirtual 58, 3) := by decide +kernel
theorem dX1_fullCut_37 : decode cX1_fullCut 37 = .ok (.ishl, 1) := by decide +kernel
theorem dX1_fullCut_38 : decode cX1_fullCut 38 = .ok (.iconst 1, 1) := by decide +kernel
theorem dX1_fullCut_39 : decode cX1_fullCut 39 = .ok (.isub, 1) := by decide +kernel
theorem dX1_fullCut_40 : decode cX1_fullCut 40 = .ok (.iastore, 1) := by decide +kernel
theorem dX1_fullCut_41 : decode cX1_fullCut 41 = .ok (.iinc 2 1, 3) := by decide +kernel
theorem dX1_fullCut_44 : decode cX1_fullCut 44 = .ok (.goto (-27), 3) := by decide +kernel
theorem dX1_fullCut_47 : decode cX1_fullCut 47 = .ok (.iconst 0, 1) := by decide +kernel
theorem dX1_fullCut_48 : decode cX1_fullCut 48 = .ok (.istore_n 2, 1) := by decide +kernel
theorem dX1_fullCut_49 : decode cX1_fullCut 49 = .ok (.iload_n 2, 1) := by decide +kernel
theorem dX1_fullCut_50 : decode cX1_fullCut 50 = .ok (.aload_n 0, 1) := by decide +kernel
theorem dX1_fullCut_51 : decode cX1_fullCut 51 = .ok (.getfield 25, 3) := by decide +kernel
theorem dX1_fullCut_54 : decode cX1_fullCut 54 = .ok (.if_icmp .ge 29, 3) := by decide +kernel
theorem dX1_fullCut_57 : decode cX1_fullCut 57 = .ok (.aload_n 0, 1) := by decide +kernel
theorem dX1_fullCut_58 : decode cX1_fullCut 58 = .ok (.aload_n 0, 1) := by decide +kernel
theorem dX1_fullCut_59 : decode cX1_fullCut 59 = .ok (.aload_n 0, 1) := by decide +kernel
theorem dX1_fullCut_60 : decode cX1_fullCut 60 = .ok (.getfield 9, 3) := by decide +kernel
theorem dX1_fullCut_63 : decode cX1_fullCut 63 = .ok (.iload_n 2, 1) := by decide +kernel
theorem dX1_fullCut_64 : decode cX1_fullCut 64 = .ok (.iaload, 1) := by decide +kernel
theorem dX1_fullCut_65 : decode cX1_fullCut 65 = .ok (.invokevirtual 61, 3) := by decide +kernel
theorem dX1_fullCut_68 : decode cX1_fullCut 68 = .ok (.aload_n 0, 1) := by decide +kernel
theorem dX1_fullCut_69 : decode cX1_fullCut 69 = .ok (.getfield 9, 3) := by decide +kernel
theorem dX1_fullCut_72 : decode cX1_fullCut 72 = .ok (.iload_n 2, 1) := by decide +kernel
theorem dX1_fullCut_73 : decode cX1_fullCut 73 = .ok (.iaload, 1) := by decide +kernel
theorem dX1_fullCut_74 : decode cX1_fullCut 74 = .ok (.invokevirtual 64, 3) := by decide +kernel
theorem dX1_fullCut_77 : decode cX1_fullCut 77 = .ok (.iinc 2 1, 3) := by decide +kernel
theorem dX1_fullCut_80 : decode cX1_fullCut 80 = .ok (.goto (-31), 3) := by decide +kernel
theorem dX1_fullCut_83 : decode cX1_fullCut 83 = .ok (.aload_n 0, 1) := by decide +kernel
theorem dX1_fullCut_84 : decode cX1_fullCut 84 = .ok (.getfield 25, 3) := by decide +kernel
theorem dX1_fullCut_87 : decode cX1_fullCut 87 = .ok (.iconst 1, 1) := by decide +kernel
theorem dX1_fullCut_88 : decode cX1_fullCut 88 = .ok (.isub, 1) := by decide +kernel
theorem dX1_fullCut_89 : decode cX1_fullCut 89 = .ok (.istore_n 2, 1) := by decide +kernel
theorem dX1_fullCut_90 : decode cX1_fullCut 90 = .ok (.iload_n 2, 1) := by decide +kernel
theorem dX1_fullCut_91 : decode cX1_fullCut 91 = .ok (.ifCond .lt 29, 3) := by decide +kernel
theorem dX1_fullCut_94 : decode cX1_fullCut 94 = .ok (.aload_n 0, 1) := by decide +kernel
theorem dX1_fullCut_95 : decode cX1_fullCut 95 = .ok (.aload_n 0, 1) := by decide +kernel
theorem dX1_fullCut_96 : decode cX1_fullCut 96 = .ok (.getfield 9, 3) := by decide +kernel
theorem dX1_fullCut_99 : decode cX1_fullCut 99 = .ok (.iload_n 2, 1) := by decide +kernel
theorem dX1_fullCut_100 : decode cX1_fullCut 100 = .ok (.iaload, 1) := by decide +kernel
theorem dX1_fullCut_101 : decode cX1_fullCut 101 = .ok (.aload_n 0, 1) := by decide +kernel
theorem dX1_fullCut_102 : decode cX1_fullCut 102 = .ok (.aload_n 0, 1) := by decide +kernel
theorem dX1_fullCut_103 : decode cX1_fullCut 103 = .ok (.getfield 9, 3) := by decide +kernel
theorem dX1_fullCut_106 : decode cX1_fullCut 106 = .ok (.iload_n 2, 1) := by decide +kernel
theorem dX1_fullCut_107 : decode cX1_fullCut 107 = .ok (.iaload, 1) := by decide +kernel
theorem dX1_fullCut_108 : decode cX1_fullCut 108 = .ok (.invokevirtual 61, 3) := by decide +kernel
theorem dX1_fullCut_111 : decode cX1_fullCut 111 = .ok (.invokevirtual 64, 3) := by decide +kernel
theorem dX1_fullCut_114 : decode cX1_fullCut 114 = .ok (.iinc 2 (-1), 3) := by decide +kernel
theorem dX1_fullCut_117 : decode cX1_fullCut 117 = .ok (.goto (-27), 3) := by decide +kernel
theorem dX1_fullCut_120 : decode cX1_fullCut 120 = .ok (.iconst 1, 1) := by decide +kernel
theorem dX1_fullCut_121 : decode cX1_fullCut 121 = .ok (.ireturn, 1) := by decide +kernel
theorem dX1_cut_0 : decode cX1_cut 0 = .ok (.aload_n 0, 1) := by decide +kernel
theorem dX1_cut_1 : decode cX1_cut 1 = .ok (.getfield 21, 3) := by decide +kernel
theorem dX1_cut_4 : decode cX1_cut 4 = .ok (.iload_n 1, 1) := by decide +kernel
theorem dX1_cut_5 : decode cX1_cut 5 = .ok (.invokevirtual 68, 3) := by decide +kernel
theorem dX1_cut_8 : decode cX1_cut 8 = .ok (.ifCond .eq 14, 3) := by decide +kernel
theorem dX1_cut_11 : decode cX1_cut 11 = .ok (.aload_n 0, 1) := by decide +kernel
theorem dX1_cut_12 : decode cX1_cut 12 = .ok (.getfield 21, 3) := by decide +kernel
theorem dX1_cut_15 : decode cX1_cut 15 = .ok (.iload_n 2, 1) := by decide +kernel
theorem dX1_cut_16 : decode cX1_cut 16 = .ok (.invokevirtual 68, 3) := by decide +kernel
theorem dX1_cut_19 : decode cX1_cut 19 = .ok (.ifCond .ne 4, 3) := by decide +kernel
theorem dX1_cut_22 : decode cX1_cut 22 = .ok (.return_, 1) := by decide +kernel
theorem dX1_cut_23 : decode cX1_cut 23 = .ok (.aload_n 0, 1) := by decide +kernel
theorem dX1_cut_24 : decode cX1_cut 24 = .ok (.getfield 21, 3) := by decide +kernel
theorem dX1_cut_27 : decode cX1_cut 27 = .ok (.iload_n 1, 1) := by decide +kernel
theorem dX1_cut_28 : decode cX1_cut 28 = .ok (.invokevirtual 43, 3) := by decide +kernel
theorem dX1_cut_31 : decode cX1_cut 31 = .ok (.aload_n 0, 1) := by decide +kernel
theorem dX1_cut_32 : decode cX1_cut 32 = .ok (.getfield 21, 3) := by decide +kernel
theorem dX1_cut_35 : decode cX1_cut 35 = .ok (.iload_n 2, 1) := by decide +kernel
theorem dX1_cut_36 : decode cX1_cut 36 = .ok (.invokevirtual 43, 3) := by decide +kernel
theorem dX1_cut_39 : decode cX1_cut 39 = .ok (.iand, 1) := by decide +kernel
theorem dX1_cut_40 : decode cX1_cut 40 = .ok (.invokestatic 71, 3) := by decide +kernel
theorem dX1_cut_43 : decode cX1_cut 43 = .ok (.istore_n 3, 1) := by decide +kernel
theorem dX1_cut_44 : decode cX1_cut 44 = .ok (.iconst 0, 1) := by decide +kernel
theorem dX1_cut_45 : decode cX1_cut 45 = .ok (.istore 4, 2) := by decide +kernel
theorem dX1_cut_47 : decode cX1_cut 47 = .ok (.iload 4, 2) := by decide +kernel
theorem dX1_cut_49 : decode cX1_cut 49 = .ok (.bipush 8, 2) := by decide +kernel
theorem dX1_cut_51 : decode cX1_cut 51 = .ok (.if_icmp .ge 80, 3) := by decide +kernel
theorem dX1_cut_54 : decode cX1_cut 54 = .ok (.aload_n 0, 1) := by decide +kernel
theorem dX1_cut_55 : decode cX1_cut 55 = .ok (.getfield 18, 3) := by decide +kernel
theorem dX1_cut_58 : decode cX1_cut 58 = .ok (.iload_n 1, 1) := by decide +kernel
theorem dX1_cut_59 : decode cX1_cut 59 = .ok (.iaload, 1) := by decide +kernel
theorem dX1_cut_60 : decode cX1_cut 60 = .ok (.iload 4, 2) := by decide +kernel
theorem dX1_cut_62 : decode cX1_cut 62 = .ok (.ishr, 1) := by decide +kernel
theorem dX1_cut_63 : decode cX1_cut 63 = .ok (.iconst 1, 1) := by decide +kernel
theorem dX1_cut_64 : decode cX1_cut 64 = .ok (.iand, 1) := by decide +kernel
theorem dX1_cut_65 : decode cX1_cut 65 = .ok (.iconst 1, 1) := by decide +kernel
theorem dX1_cut_66 : decode cX1_cut 66 = .ok (.if_icmp .ne 7, 3) := by decide +kernel
theorem dX1_cut_69 : decode cX1_cut 69 = .ok (.iconst 1, 1) := by decide +kernel
theorem dX1_cut_70 : decode cX1_cut 70 = .ok (.goto 4, 3) := by decide +kernel
theorem dX1_cut_73 : decode cX1_cut 73 = .ok (.iconst 0, 1) := by decide +kernel
theorem dX1_cut_74 : decode cX1_cut 74 = .ok (.istore 5, 2) := by decide +kernel
theorem dX1_cut_76 : decode cX1_cut 76 = .ok (.iload 5, 2) := by decide +kernel
theorem dX1_cut_78 : decode cX1_cut 78 = .ok (.ifCond .eq 47, 3) := by decide +kernel
theorem dX1_cut_81 : decode cX1_cut 81 = .ok (.aload_n 0, 1) := by decide +kernel
theorem dX1_cut_82 : decode cX1_cut 82 = .ok (.aload_n 0, 1) := by decide +kernel
theorem dX1_cut_83 : decode cX1_cut 83 = .ok (.getfield 21, 3) := by decide +kernel
theorem dX1_cut_86 : decode cX1_cut 86 = .ok (.iload_n 1, 1) := by decide +kernel
theorem dX1_cut_87 : decode cX1_cut 87 = .ok (.iload 4, 2) := by decide +kernel
theorem dX1_cut_89 : decode cX1_cut 89 = .ok (.invokevirtual 76, 3) := by decide +kernel
theorem dX1_cut_92 : decode cX1_cut 92 = .ok (.iload_n 2, 1) := by decide +kernel
theorem dX1_cut_93 : decode cX1_cut 93 = .ok (.iload_n 3, 1) := by decide +kernel
theorem dX1_cut_94 : decode cX1_cut 94 = .ok (.invokevirtual 79, 3) := by decide +kernel
theorem dX1_cut_97 : decode cX1_cut 97 = .ok (.ifCond .ne 28, 3) := by decide +kernel
theorem dX1_cut_100 : decode cX1_cut 100 = .ok (.aload_n 0, 1) := by decide +kernel
theorem dX1_cut_101 : decode cX1_cut 101 = .ok (.getfield 18, 3) := by decide +kernel
theorem dX1_cut_104 : decode cX1_cut 104 = .ok (.iload_n 1, 1) := by decide +kernel
theorem dX1_cut_105 : decode cX1_cut 105 = .ok (.dup2, 1) := by decide +kernel
theorem dX1_cut_106 : decode cX1_cut 106 = .ok (.iaload, 1) := by decide +kernel
theorem dX1_cut_107 : decode cX1_cut 107 = .ok (.iconst 1, 1) := by decide +kernel
theorem dX1_cut_108 : decode cX1_cut 108 = .ok (.iload 4, 2) := by decide +kernel
theorem dX1_cut_110 : decode cX1_cut 110 = .ok (.ishl, 1) := by decide +kernel
theorem dX1_cut_111 : decode cX1_cut 111 = .ok (.iconst (-1), 1) := by decide +kernel
theorem dX1_cut_112 : decode cX1_cut 112 = .ok (.ixor, 1) := by decide +kernel
theorem dX1_cut_113 : decode cX1_cut 113 = .ok (.iand, 1) := by decide +kernel
theorem dX1_cut_114 : decode cX1_cut 114 = .ok (.iastore, 1) := by decide +kernel
theorem dX1_cut_115 : decode cX1_cut 115 = .ok (.aload_n 0, 1) := by decide +kernel
theorem dX1_cut_116 : decode cX1_cut 116 = .ok (.dup, 1) := by decide +kernel
theorem dX1_cut_117 : decode cX1_cut 117 = .ok (.getfield 55, 3) := by decide +kernel
theorem dX1_cut_120 : decode cX1_cut 120 = .ok (.iconst 1, 1) := by decide +kernel
theorem dX1_cut_121 : decode cX1_cut 121 = .ok (.iadd, 1) := by decide +kernel
theorem dX1_cut_122 : decode cX1_cut 122 = .ok (.putfield 55, 3) := by decide +kernel
theorem dX1_cut_125 : decode cX1_cut 125 = .ok (.iinc 4 1, 3) := by decide +kernel
theorem dX1_cut_128 : decode cX1_cut 128 = .ok (.goto (-81), 3) := by decide +kernel
theorem dX1_cut_131 : decode cX1_cut 131 = .ok (.return_, 1) := by decide +kernel
theorem dX1_fitsSome_0 : decode cX1_fitsSome 0 = .ok (.iconst 0, 1) := by decide +kernel
theorem dX1_fitsSome_1 : decode cX1_fitsSome 1 = .ok (.istore 4, 2) := by decide +kernel
theorem dX1_fitsSome_3 : decode cX1_fitsSome 3 = .ok (.iload 4, 2) := by decide +kernel
theorem dX1_fitsSome_5 : decode cX1_fitsSome 5 = .ok (.bipush 8, 2) := by decide +kernel
theorem dX1_fitsSome_7 : decode cX1_fitsSome 7 = .ok (.if_icmp .ge 55, 3) := by decide +kernel
theorem dX1_fitsSome_10 : decode cX1_fitsSome 10 = .ok (.aload_n 0, 1) := by decide +kernel
theorem dX1_fitsSome_11 : decode cX1_fitsSome 11 = .ok (.getfield 18, 3) := by decide +kernel
theorem dX1_fitsSome_14 : decode cX1_fitsSome 14 = .ok (.iload_n 2, 1) := by decide +kernel
theorem dX1_fitsSome_15 : decode cX1_fitsSome 15 = .ok (.iaload, 1) := by decide +kernel
theorem dX1_fitsSome_16 : decode cX1_fitsSome 16 = .ok (.iload 4, 2) := by decide +kernel
theorem dX1_fitsSome_18 : decode cX1_fitsSome 18 = .ok (.ishr, 1) := by decide +kernel
theorem dX1_fitsSome_19 : decode cX1_fitsSome 19 = .ok (.iconst 1, 1) := by decide +kernel
theorem dX1_fitsSome_20 : decode cX1_fitsSome 20 = .ok (.iand, 1) := by decide +kernel
theorem dX1_fitsSome_21 : decode cX1_fitsSome 21 = .ok (.iconst 1, 1) := by decide +kernel
theorem dX1_fitsSome_22 : decode cX1_fitsSome 22 = .ok (.if_icmp .ne 7, 3) := by decide +kernel
theorem dX1_fitsSome_25 : decode cX1_fitsSome 25 = .ok (.iconst 1, 1) := by decide +kernel
theorem dX1_fitsSome_26 : decode cX1_fitsSome 26 = .ok (.goto 4, 3) := by decide +kernel
theorem dX1_fitsSome_29 : decode cX1_fitsSome 29 = .ok (.iconst 0, 1) := by decide +kernel
theorem dX1_fitsSome_30 : decode cX1_fitsSome 30 = .ok (.istore 5, 2) := by decide +kernel
theorem dX1_fitsSome_32 : decode cX1_fitsSome 32 = .ok (.iload 5, 2) := by decide +kernel
theorem dX1_fitsSome_34 : decode cX1_fitsSome 34 = .ok (.ifCond .eq 22, 3) := by decide +kernel
theorem dX1_fitsSome_37 : decode cX1_fitsSome 37 = .ok (.iload_n 1, 1) := by decide +kernel
theorem dX1_fitsSome_38 : decode cX1_fitsSome 38 = .ok (.aload_n 0, 1) := by decide +kernel
theorem dX1_fitsSome_39 : decode cX1_fitsSome 39 = .ok (.getfield 21, 3) := by decide +kernel
theorem dX1_fitsSome_42 : decode cX1_fitsSome 42 = .ok (.iload_n 2, 1) := by decide +kernel
theorem dX1_fitsSome_43 : decode cX1_fitsSome 43 = .ok (.iload 4, 2) := by decide +kernel
theorem dX1_fitsSome_45 : decode cX1_fitsSome 45 = .ok (.invokevirtual 76, 3) := by decide +kernel
theorem dX1_fitsSome_48 : decode cX1_fitsSome 48 = .ok (.ixor, 1) := by decide +kernel
theorem dX1_fitsSome_49 : decode cX1_fitsSome 49 = .ok (.iload_n 3, 1) := by decide +kernel
theorem dX1_fitsSome_50 : decode cX1_fitsSome 50 = .ok (.iand, 1) := by decide +kernel
theorem dX1_fitsSome_51 : decode cX1_fitsSome 51 = .ok (.ifCond .ne 5, 3) := by decide +kernel
theorem dX1_fitsSome_54 : decode cX1_fitsSome 54 = .ok (.iconst 1, 1) := by decide +kernel
theorem dX1_fitsSome_55 : decode cX1_fitsSome 55 = .ok (.ireturn, 1) := by decide +kernel
theorem dX1_fitsSome_56 : decode cX1_fitsSome 56 = .ok (.iinc 4 1, 3) := by decide +kernel
theorem dX1_fitsSome_59 : decode cX1_fitsSome 59 = .ok (.goto (-56), 3) := by decide +kernel
theorem dX1_fitsSome_62 : decode cX1_fitsSome 62 = .ok (.iconst 0, 1) := by decide +kernel
theorem dX1_fitsSome_63 : decode cX1_fitsSome 63 = .ok (.ireturn, 1) := by decide +kernel
theorem dX1_rowsLeft_0 : decode cX1_rowsLeft 0 = .ok (.iload_n 1, 1) := by decide +kernel
theorem dX1_rowsLeft_1 : decode cX1_rowsLeft 1 = .ok (.ifCond .lt 18, 3) := by decide +kernel
theorem dX1_rowsLeft_4 : decode cX1_rowsLeft 4 = .ok (.iload_n 1, 1) := by decide +kernel
theorem dX1_rowsLeft_5 : decode cX1_rowsLeft 5 = .ok (.bipush 6, 2) := by decide +kernel
theorem dX1_rowsLeft_7 : decode cX1_rowsLeft 7 = .ok (.if_icmp .ge 12, 3) := by decide +kernel
theorem dX1_rowsLeft_10 : decode cX1_rowsLeft 10 = .ok (.aload_n 0, 1) := by decide +kernel
theorem dX1_rowsLeft_11 : decode cX1_rowsLeft 11 = .ok (.getfield 18, 3) := by decide +kernel
theorem dX1_rowsLeft_14 : decode cX1_rowsLeft 14 = .ok (.iload_n 1, 1) := by decide +kernel
theorem dX1_rowsLeft_15 : decode cX1_rowsLeft 15 = .ok (.iaload, 1) := by decide +kernel
theorem dX1_rowsLeft_16 : decode cX1_rowsLeft 16 = .ok (.goto 4, 3) := by decide +kernel
theorem dX1_rowsLeft_19 : decode cX1_rowsLeft 19 = .ok (.iconst 0, 1) := by decide +kernel
theorem dX1_rowsLeft_20 : decode cX1_rowsLeft 20 = .ok (.ireturn, 1) := by decide +kernel
theorem dX1_rowsCut_0 : decode cX1_rowsCut 0 = .ok (.aload_n 0, 1) := by decide +kernel
theorem dX1_rowsCut_1 : decode cX1_rowsCut 1 = .ok (.getfield 55, 3) := by decide +kernel
theorem dX1_rowsCut_4 : decode cX1_rowsCut 4 = .ok (.ireturn, 1) := by decide +kernel
theorem dX2_init_0 : decode cX2_init 0 = .ok (.aload_n 0, 1) := by decide +kernel
theorem dX2_init_1 : decode cX2_init 1 = .ok (.invokespecial 3, 3) := by decide +kernel
theorem dX2_init_4 : decode cX2_init 4 = .ok (.aload_n 0, 1) := by decide +kernel
theorem dX2_init_5 : decode cX2_init 5 = .ok (.bipush 6, 2) := by decide +kernel
theorem dX2_init_7 : decode cX2_init 7 = .ok (.newarray .int, 2) := by decide +kernel
theorem dX2_init_9 : decode cX2_init 9 = .ok (.putfield 9, 3) := by decide +kernel
theorem dX2_init_12 : decode cX2_init 12 = .ok (.aload_n 0, 1) := by decide +kernel
theorem dX2_init_13 : decode cX2_init 13 = .ok (.bipush 6, 2) := by decide +kernel
theorem dX2_init_15 : decode cX2_init 15 = .ok (.newarray .int, 2) := by decide +kernel
theorem dX2_init_17 : decode cX2_init 17 = .ok (.putfield 15, 3) := by decide +kernel
theorem dX2_init_20 : decode cX2_init 20 = .ok (.aload_n 0, 1) := by decide +kernel
theorem dX2_init_21 : decode cX2_init 21 = .ok (.bipush 6, 2) := by decide +kernel
theorem dX2_init_23 : decode cX2_init 23 = .ok (.newarray .int, 2) := by decide +kernel
theorem dX2_init_25 : decode cX2_init 25 = .ok (.putfield 18, 3) := by decide +kernel
theorem dX2_init_28 : decode cX2_init 28 = .ok (.aload_n 0, 1) := by decide +kernel
theorem dX2_init_29 : decode cX2_init 29 = .ok (.bipush 6, 2) := by decide +kernel
theorem dX2_init_31 : decode cX2_init 31 = .ok (.newarray .int, 2) := by decide +kernel
theorem dX2_init_33 : decode cX2_init 33 = .ok (.putfield 21, 3) := by decide +kernel
theorem dX2_init_36 : decode cX2_init 36 = .ok (.aload_n 0, 1) := by decide +kernel
theorem dX2_init_37 : decode cX2_init 37 = .ok (.bipush 6, 2) := by decide +kernel
theorem dX2_init_39 : decode cX2_init 39 = .ok (.newarray .int, 2) := by decide +kernel
theorem dX2_init_41 : decode cX2_init 41 = .ok (.putfield 24, 3) := by decide +kernel
theorem dX2_init_44 : decode cX2_init 44 = .ok (.aload_n 0, 1) := by decide +kernel
theorem dX2_init_45 : decode cX2_init 45 = .ok (.aload_n 1, 1) := by decide +kernel
theorem dX2_init_46 : decode cX2_init 46 = .ok (.putfield 27, 3) := by decide +kernel
theorem dX2_init_49 : decode cX2_init 49 = .ok (.aload_n 0, 1) := by decide +kernel
theorem dX2_init_50 : decode cX2_init 50 = .ok (.aload_n 2, 1) := by decide +kernel
theorem dX2_init_51 : decode cX2_init 51 = .ok (.putfield 31, 3) := by decide +kernel
theorem dX2_init_54 : decode cX2_init 54 = .ok (.return_, 1) := by decide +kernel
theorem dX2_read_0 : decode cX2_read 0 = .ok (.aload_n 0, 1) := by decide +kernel
theorem dX2_read_1 : decode cX2_read 1 = .ok (.iconst 0, 1) := by decide +kernel
theorem dX2_read_2 : decode cX2_read 2 = .ok (.putfield 35, 3) := by decide +kernel
theorem dX2_read_5 : decode cX2_read 5 = .ok (.aload_n 0, 1) := by decide +kernel
theorem dX2_read_6 : decode cX2_read 6 = .ok (.iconst 0, 1) := by decide +kernel
theorem dX2_read_7 : decode cX2_read 7 = .ok (.putfield 39, 3) := by decide +kernel
theorem dX2_read_10 : decode cX2_read 10 = .ok (.aload_n 0, 1) := by decide +kernel
theorem dX2_read_11 : decode cX2_read 11 = .ok (.iconst 0, 1) := by decide +kernel
theorem dX2_read_12 : decode cX2_read 12 = .ok (.putfield 42, 3) := by decide +kernel
theorem dX2_read_15 : decode cX2_read 15 = .ok (.aload_n 0, 1) := by decide +kernel
theorem dX2_read_16 : decode cX2_read 16 = .ok (.iconst 1, 1) := by decide +kernel
theorem dX2_read_17 : decode cX2_read 17 = .ok (.putfield 45, 3) := by decide +kernel
theorem dX2_read_20 : decode cX2_read 20 = .ok (.iconst 0, 1) := by decide +kernel
theorem dX2_read_21 : decode cX2_read 21 = .ok (.istore 4, 2) := by decide +kernel
theorem dX2_read_23 : decode cX2_read 23 = .ok (.iload 4, 2) := by decide +kernel
theorem dX2_read_25 : decode cX2_read 25 = .ok (.iload_n 2, 1) := by decide +kernel
theorem dX2_read_26 : decode cX2_read 26 = .ok (.if_icmp .ge 155, 3) := by decide +kernel
theorem dX2_read_29 : decode cX2_read 29 = .ok (.iload 4, 2) := by decide +kernel
theorem dX2_read_31 : decode cX2_read 31 = .ok (.aload_n 1, 1) := by decide +kernel
theorem dX2_read_32 : decode cX2_read 32 = .ok (.arraylength, 1) := by decide +kernel
theorem dX2_read_33 : decode cX2_read 33 = .ok (.if_icmp .ge 148, 3) := by decide +kernel
theorem dX2_read_36 : decode cX2_read 36 = .ok (.aload_n 1, 1) := by decide +kernel
theorem dX2_read_37 : decode cX2_read 37 = .ok (.iload 4, 2) := by decide +kernel
theorem dX2_read_39 : decode cX2_read 39 = .ok (.iaload, 1) := by decide +kernel
theorem dX2_read_40 : decode cX2_read 40 = .ok (.istore 5, 2) := by decide +kernel
theorem dX2_read_42 : decode cX2_read 42 = .ok (.iload 5, 2) := by decide +kernel
theorem dX2_read_44 : decode cX2_read 44 = .ok (.bipush 48, 2) := by decide +kernel
theorem dX2_read_46 : decode cX2_read 46 = .ok (.if_icmp .lt 14, 3) := by decide +kernel
theorem dX2_read_49 : decode cX2_read 49 = .ok (.iload 5, 2) := by decide +kernel
theorem dX2_read_51 : decode cX2_read 51 = .ok (.bipush 54, 2) := by decide +kernel
theorem dX2_read_53 : decode cX2_read 53 = .ok (.if_icmp .ge 7, 3) := by decide +kernel
theorem dX2_read_56 : decode cX2_read 56 = .ok (.iconst 1, 1) := by decide +kernel
theorem dX2_read_57 : decode cX2_read 57 = .ok (.goto 4, 3) := by decide +kernel
theorem dX2_read_60 : decode cX2_read 60 = .ok (.iconst 0, 1) := by decide +kernel
theorem dX2_read_61 : decode cX2_read 61 = .ok (.istore 6, 2) := by decide +kernel
theorem dX2_read_63 : decode cX2_read 63 = .ok (.iload 5, 2) := by decide +kernel
theorem dX2_read_65 : decode cX2_read 65 = .ok (.bipush 41, 2) := by decide +kernel
theorem dX2_read_67 : decode cX2_read 67 = .ok (.if_icmp .ne 7, 3) := by decide +kernel
theorem dX2_read_70 : decode cX2_read 70 = .ok (.iconst 1, 1) := by decide +kernel
theorem dX2_read_71 : decode cX2_read 71 = .ok (.goto 4, 3) := by decide +kernel
theorem dX2_read_74 : decode cX2_read 74 = .ok (.iconst 0, 1) := by decide +kernel
theorem dX2_read_75 : decode cX2_read 75 = .ok (.istore 7, 2) := by decide +kernel
theorem dX2_read_77 : decode cX2_read 77 = .ok (.iload 6, 2) := by decide +kernel
theorem dX2_read_79 : decode cX2_read 79 = .ok (.ifCond .eq 15, 3) := by decide +kernel
theorem dX2_read_82 : decode cX2_read 82 = .ok (.aload_n 0, 1) := by decide +kernel
theorem dX2_read_83 : decode cX2_read 83 = .ok (.iload 5, 2) := by decide +kernel
theorem dX2_read_85 : decode cX2_read 85 = .ok (.bipush 48, 2) := by decide +kernel
theorem dX2_read_87 : decode cX2_read 87 = .ok (.isub, 1) := by decide +kernel
theorem dX2_read_88 : decode cX2_read 88 = .ok (.invokevirtual 49, 3) := by decide +kernel
theorem dX2_read_91 : decode cX2_read 91 = .ok (.goto 28, 3) := by decide +kernel
theorem dX2_read_94 : decode cX2_read 94 = .ok (.iload 7, 2) := by decide +kernel
theorem dX2_read_96 : decode cX2_read 96 = .ok (.ifCond .eq 10, 3) := by decide +kernel
theorem dX2_read_99 : decode cX2_read 99 = .ok (.aload_n 0, 1) := by decide +kernel
theorem dX2_read_100 : decode cX2_read 100 = .ok (.invokevirtual 53, 3) := by decide +kernel
theorem dX2_read_103 : decode cX2_read 103 = .ok (.goto 16, 3) := by decide +kernel
theorem dX2_read_106 : decode cX2_read 106 = .ok (.iload 5, 2) := by decide +kernel
theorem dX2_read_108 : decode cX2_read 108 = .ok (.bipush 40, 2) := by decide +kernel
theorem dX2_read_110 : decode cX2_read 110 = .ok (.if_icmp .eq 9, 3) := by decide +kernel
theorem dX2_read_113 : decode cX2_read 113 = .ok (.aload_n 0, 1) := by decide +kernel
theorem dX2_read_114 : decode cX2_read 114 = .ok (.iload 5, 2) := by decide +kernel
theorem dX2_read_116 : decode cX2_read 116 = .ok (.invokevirtual 56, 3) := by decide +kernel
theorem dX2_read_119 : decode cX2_read 119 = .ok (.iload 6, 2) := by decide +kernel
theorem dX2_read_121 : decode cX2_read 121 = .ok (.ifCond .ne 8, 3) := by decide +kernel
theorem dX2_read_124 : decode cX2_read 124 = .ok (.iload 7, 2) := by decide +kernel
theorem dX2_read_126 : decode cX2_read 126 = .ok (.ifCond .eq 49, 3) := by decide +kernel
theorem dX2_read_129 : decode cX2_read 129 = .ok (.aload_n 0, 1) := by decide +kernel
theorem dX2_read_130 : decode cX2_read 130 = .ok (.getfield 35, 3) := by decide +kernel
theorem dX2_read_133 : decode cX2_read 133 = .ok (.ifCond .le 42, 3) := by decide +kernel
theorem dX2_read_136 : decode cX2_read 136 = .ok (.aload_n 0, 1) := by decide +kernel
theorem dX2_read_137 : decode cX2_read 137 = .ok (.getfield 35, 3) := by decide +kernel
theorem dX2_read_140 : decode cX2_read 140 = .ok (.bipush 6, 2) := by decide +kernel
theorem dX2_read_142 : decode cX2_read 142 = .ok (.if_icmp .gt 33, 3) := by decide +kernel
theorem dX2_read_145 : decode cX2_read 145 = .ok (.aload_n 0, 1) := by decide +kernel
theorem dX2_read_146 : decode cX2_read 146 = .ok (.getfield 21, 3) := by decide +kernel
theorem dX2_read_149 : decode cX2_read 149 = .ok (.aload_n 0, 1) := by decide +kernel
theorem dX2_read_150 : decode cX2_read 150 = .ok (.getfield 35, 3) := by decide +kernel
theorem dX2_read_153 : decode cX2_read 153 = .ok (.iconst 1, 1) := by decide +kernel
theorem dX2_read_154 : decode cX2_read 154 = .ok (.isub, 1) := by decide +kernel
theorem dX2_read_155 : decode cX2_read 155 = .ok (.aload_n 0, 1) := by decide +kernel
theorem dX2_read_156 : decode cX2_read 156 = .ok (.getfield 31, 3) := by decide +kernel
theorem dX2_read_159 : decode cX2_read 159 = .ok (.aload_n 0, 1) := by decide +kernel
theorem dX2_read_160 : decode cX2_read 160 = .ok (.getfield 9, 3) := by decide +kernel
theorem dX2_read_163 : decode cX2_read 163 = .ok (.aload_n 0, 1) := by decide +kernel
theorem dX2_read_164 : decode cX2_read 164 = .ok (.getfield 35, 3) := by decide +kernel
theorem dX2_read_167 : decode cX2_read 167 = .ok (.iconst 1, 1) := by decide +kernel
theorem dX2_read_168 : decode cX2_read 168 = .ok (.isub, 1) := by decide +kernel
theorem dX2_read_169 : decode cX2_read 169 = .ok (.iaload, 1) := by decide +kernel
theorem dX2_read_170 : decode cX2_read 170 = .ok (.iload_n 3, 1) := by decide +kernel
theorem dX2_read_171 : decode cX2_read 171 = .ok (.invokevirtual 59, 3) := by decide +kernel
theorem dX2_read_174 : decode cX2_read 174 = .ok (.iastore, 1) := by decide +kernel
theorem dX2_read_175 : decode cX2_read 175 = .ok (.iinc 4 1, 3) := by decide +kernel
theorem dX2_read_178 : decode cX2_read 178 = .ok (.goto (-155), 3) := by decide +kernel
theorem dX2_read_181 : decode cX2_read 181 = .ok (.return_, 1) := by decide +kernel
theorem dX2_holdTable_0 : decode cX2_holdTable 0 = .ok (.aload_n 0, 1) := by decide +kernel
theorem dX2_holdTable_1 : decode cX2_holdTable 1 = .ok (.getfield 35, 3) := by decide +kernel
theorem dX2_holdTable_4 : decode cX2_holdTable 4 = .ok (.ifCond .lt 12, 3) := by decide +kernel
theorem dX2_holdTable_7 : decode cX2_holdTable 7 = .ok (.aload_n 0, 1) := by decide +kernel
theorem dX2_holdTable_8 : decode cX2_holdTable 8 = .ok (.getfield 35, 3) := by decide +kernel
theorem dX2_holdTable_11 : decode cX2_holdTable 11 = .ok (.bipush 6, 2) := by decide +kernel
theorem dX2_holdTable_13 : decode cX2_holdTable 13 = .ok (.if_icmp .lt 4, 3) := by decide +kernel
theorem dX2_holdTable_16 : decode cX2_holdTable 16 = .ok (.return_, 1) := by decide +kernel
theorem dX2_holdTable_17 : decode cX2_holdTable 17 = .ok (.aload_n 0, 1) := by decide +kernel
theorem dX2_holdTable_18 : decode cX2_holdTable 18 = .ok (.getfield 9, 3) := by decide +kernel
theorem dX2_holdTable_21 : decode cX2_holdTable 21 = .ok (.aload_n 0, 1) := by decide +kernel
theorem dX2_holdTable_22 : decode cX2_holdTable 22 = .ok (.getfield 35, 3) := by decide +kernel
theorem dX2_holdTable_25 : decode cX2_holdTable 25 = .ok (.iconst 1, 1) := by decide +kernel
theorem dX2_holdTable_26 : decode cX2_holdTable 26 = .ok (.iload_n 1, 1) := by decide +kernel
theorem dX2_holdTable_27 : decode cX2_holdTable 27 = .ok (.ishl, 1) := by decide +kernel
theorem dX2_holdTable_28 : decode cX2_holdTable 28 = .ok (.iastore, 1) := by decide +kernel
theorem dX2_holdTable_29 : decode cX2_holdTable 29 = .ok (.aload_n 0, 1) := by decide +kernel
theorem dX2_holdTable_30 : decode cX2_holdTable 30 = .ok (.getfield 15, 3) := by decide +kernel
theorem dX2_holdTable_33 : decode cX2_holdTable 33 = .ok (.aload_n 0, 1) := by decide +kernel
theorem dX2_holdTable_34 : decode cX2_holdTable 34 = .ok (.getfield 35, 3) := by decide +kernel
theorem dX2_holdTable_37 : decode cX2_holdTable 37 = .ok (.aload_n 0, 1) := by decide +kernel
theorem dX2_holdTable_38 : decode cX2_holdTable 38 = .ok (.getfield 27, 3) := by decide +kernel
theorem dX2_holdTable_41 : decode cX2_holdTable 41 = .ok (.iload_n 1, 1) := by decide +kernel
theorem dX2_holdTable_42 : decode cX2_holdTable 42 = .ok (.invokevirtual 65, 3) := by decide +kernel
theorem dX2_holdTable_45 : decode cX2_holdTable 45 = .ok (.iastore, 1) := by decide +kernel
theorem dX2_holdTable_46 : decode cX2_holdTable 46 = .ok (.aload_n 0, 1) := by decide +kernel
theorem dX2_holdTable_47 : decode cX2_holdTable 47 = .ok (.getfield 18, 3) := by decide +kernel
theorem dX2_holdTable_50 : decode cX2_holdTable 50 = .ok (.aload_n 0, 1) := by decide +kernel
theorem dX2_holdTable_51 : decode cX2_holdTable 51 = .ok (.getfield 35, 3) := by decide +kernel
theorem dX2_holdTable_54 : decode cX2_holdTable 54 = .ok (.aload_n 0, 1) := by decide +kernel
theorem dX2_holdTable_55 : decode cX2_holdTable 55 = .ok (.getfield 27, 3) := by decide +kernel
theorem dX2_holdTable_58 : decode cX2_holdTable 58 = .ok (.iload_n 1, 1) := by decide +kernel
theorem dX2_holdTable_59 : decode cX2_holdTable 59 = .ok (.invokevirtual 71, 3) := by decide +kernel
theorem dX2_holdTable_62 : decode cX2_holdTable 62 = .ok (.iastore, 1) := by decide +kernel
theorem dX2_holdTable_63 : decode cX2_holdTable 63 = .ok (.aload_n 0, 1) := by decide +kernel
theorem dX2_holdTable_64 : decode cX2_holdTable 64 = .ok (.dup, 1) := by decide +kernel
theorem dX2_holdTable_65 : decode cX2_holdTable 65 = .ok (.getfield 35, 3) := by decide +kernel
theorem dX2_holdTable_68 : decode cX2_holdTable 68 = .ok (.iconst 1, 1) := by decide +kernel
theorem dX2_holdTable_69 : decode cX2_holdTable 69 = .ok (.iadd, 1) := by decide +kernel
theorem dX2_holdTable_70 : decode cX2_holdTable 70 = .ok (.putfield 35, 3) := by decide +kernel
theorem dX2_holdTable_73 : decode cX2_holdTable 73 = .ok (.return_, 1) := by decide +kernel
theorem dX2_holdWay_0 : decode cX2_holdWay 0 = .ok (.aload_n 0, 1) := by decide +kernel
theorem dX2_holdWay_1 : decode cX2_holdWay 1 = .ok (.getfield 39, 3) := by decide +kernel
theorem dX2_holdWay_4 : decode cX2_holdWay 4 = .ok (.ifCond .lt 12, 3) := by decide +kernel
theorem dX2_holdWay_7 : decode cX2_holdWay 7 = .ok (.aload_n 0, 1) := by decide +kernel
theorem dX2_holdWay_8 : decode cX2_holdWay 8 = .ok (.getfield 39, 3) := by decide +kernel
theorem dX2_holdWay_11 : decode cX2_holdWay 11 = .ok (.bipush 6, 2) := by decide +kernel
theorem dX2_holdWay_13 : decode cX2_holdWay 13 = .ok (.if_icmp .lt 4, 3) := by decide +kernel
theorem dX2_holdWay_16 : decode cX2_holdWay 16 = .ok (.return_, 1) := by decide +kernel
theorem dX2_holdWay_17 : decode cX2_holdWay 17 = .ok (.aload_n 0, 1) := by decide +kernel
theorem dX2_holdWay_18 : decode cX2_holdWay 18 = .ok (.getfield 24, 3) := by decide +kernel
theorem dX2_holdWay_21 : decode cX2_holdWay 21 = .ok (.aload_n 0, 1) := by decide +kernel
theorem dX2_holdWay_22 : decode cX2_holdWay 22 = .ok (.getfield 39, 3) := by decide +kernel
theorem dX2_holdWay_25 : decode cX2_holdWay 25 = .ok (.iload_n 1, 1) := by decide +kernel
theorem dX2_holdWay_26 : decode cX2_holdWay 26 = .ok (.iastore, 1) := by decide +kernel
theorem dX2_holdWay_27 : decode cX2_holdWay 27 = .ok (.aload_n 0, 1) := by decide +kernel
theorem dX2_holdWay_28 : decode cX2_holdWay 28 = .ok (.dup, 1) := by decide +kernel
theorem dX2_holdWay_29 : decode cX2_holdWay 29 = .ok (.getfield 39, 3) := by decide +kernel
theorem dX2_holdWay_32 : decode cX2_holdWay 32 = .ok (.iconst 1, 1) := by decide +kernel
theorem dX2_holdWay_33 : decode cX2_holdWay 33 = .ok (.iadd, 1) := by decide +kernel
theorem dX2_holdWay_34 : decode cX2_holdWay 34 = .ok (.putfield 39, 3) := by decide +kernel
theorem dX2_holdWay_37 : decode cX2_holdWay 37 = .ok (.return_, 1) := by decide +kernel
theorem dX2_joinLastTwo_0 : decode cX2_joinLastTwo 0 = .ok (.aload_n 0, 1) := by decide +kernel
theorem dX2_joinLastTwo_1 : decode cX2_joinLastTwo 1 = .ok (.getfield 35, 3) := by decide +kernel
theorem dX2_joinLastTwo_4 : decode cX2_joinLastTwo 4 = .ok (.iconst 2, 1) := by decide +kernel
theorem dX2_joinLastTwo_5 : decode cX2_joinLastTwo 5 = .ok (.if_icmp .lt 29, 3) := by decide +kernel
theorem dX2_joinLastTwo_8 : decode cX2_joinLastTwo 8 = .ok (.aload_n 0, 1) := by decide +kernel
theorem dX2_joinLastTwo_9 : decode cX2_joinLastTwo 9 = .ok (.getfield 35, 3) := by decide +kernel
theorem dX2_joinLastTwo_12 : decode cX2_joinLastTwo 12 = .ok (.bipush 6, 2) := by decide +kernel
theorem dX2_joinLastTwo_14 : decode cX2_joinLastTwo 14 = .ok (.if_icmp .gt 20, 3) := by decide +kernel
theorem dX2_joinLastTwo_17 : decode cX2_joinLastTwo 17 = .ok (.aload_n 0, 1) := by decide +kernel
theorem dX2_joinLastTwo_18 : decode cX2_joinLastTwo 18 = .ok (.getfield 39, 3) := by decide +kernel
theorem dX2_joinLastTwo_21 : decode cX2_joinLastTwo 21 = .ok (.iconst 1, 1) := by decide +kernel
theorem dX2_joinLastTwo_22 : decode cX2_joinLastTwo 22 = .ok (.if_icmp .lt 12, 3) := by decide +kernel
theorem dX2_joinLastTwo_25 : decode cX2_joinLastTwo 25 = .ok (.aload_n 0, 1) := by decide +kernel
theorem dX2_joinLastTwo_26 : decode cX2_joinLastTwo 26 = .ok (.getfield 39, 3) := by decide +kernel
theorem dX2_joinLastTwo_29 : decode cX2_joinLastTwo 29 = .ok (.bipush 6, 2) := by decide +kernel
theorem dX2_joinLastTwo_31 : decode cX2_joinLastTwo 31 = .ok (.if_icmp .le 4, 3) := by decide +kernel
theorem dX2_joinLastTwo_34 : decode cX2_joinLastTwo 34 = .ok (.return_, 1) := by decide +kernel
theorem dX2_joinLastTwo_35 : decode cX2_joinLastTwo 35 = .ok (.aload_n 0, 1) := by decide +kernel
theorem dX2_joinLastTwo_36 : decode cX2_joinLastTwo 36 = .ok (.dup, 1) := by decide +kernel
theorem dX2_joinLastTwo_37 : decode cX2_joinLastTwo 37 = .ok (.getfield 39, 3) := by decide +kernel
theorem dX2_joinLastTwo_40 : decode cX2_joinLastTwo 40 = .ok (.iconst 1, 1) := by decide +kernel
theorem dX2_joinLastTwo_41 : decode cX2_joinLastTwo 41 = .ok (.isub, 1) := by decide +kernel
theorem dX2_joinLastTwo_42 : decode cX2_joinLastTwo 42 = .ok (.putfield 39, 3) := by decide +kernel
theorem dX2_joinLastTwo_45 : decode cX2_joinLastTwo 45 = .ok (.aload_n 0, 1) := by decide +kernel
theorem dX2_joinLastTwo_46 : decode cX2_joinLastTwo 46 = .ok (.dup, 1) := by decide +kernel
theorem dX2_joinLastTwo_47 : decode cX2_joinLastTwo 47 = .ok (.getfield 35, 3) := by decide +kernel
theorem dX2_joinLastTwo_50 : decode cX2_joinLastTwo 50 = .ok (.iconst 1, 1) := by decide +kernel
theorem dX2_joinLastTwo_51 : decode cX2_joinLastTwo 51 = .ok (.isub, 1) := by decide +kernel
theorem dX2_joinLastTwo_52 : decode cX2_joinLastTwo 52 = .ok (.putfield 35, 3) := by decide +kernel
theorem dX2_joinLastTwo_55 : decode cX2_joinLastTwo 55 = .ok (.aload_n 0, 1) := by decide +kernel
theorem dX2_joinLastTwo_56 : decode cX2_joinLastTwo 56 = .ok (.getfield 35, 3) := by decide +kernel
theorem dX2_joinLastTwo_59 : decode cX2_joinLastTwo 59 = .ok (.iconst 1, 1) := by decide +kernel
theorem dX2_joinLastTwo_60 : decode cX2_joinLastTwo 60 = .ok (.isub, 1) := by decide +kernel
theorem dX2_joinLastTwo_61 : decode cX2_joinLastTwo 61 = .ok (.istore_n 1, 1) := by decide +kernel
theorem dX2_joinLastTwo_62 : decode cX2_joinLastTwo 62 = .ok (.aload_n 0, 1) := by decide +kernel
theorem dX2_joinLastTwo_63 : decode cX2_joinLastTwo 63 = .ok (.getfield 35, 3) := by decide +kernel
theorem dX2_joinLastTwo_66 : decode cX2_joinLastTwo 66 = .ok (.istore_n 2, 1) := by decide +kernel
theorem dX2_joinLastTwo_67 : decode cX2_joinLastTwo 67 = .ok (.aload_n 0, 1) := by decide +kernel
theorem dX2_joinLastTwo_68 : decode cX2_joinLastTwo 68 = .ok (.getfield 27, 3) := by decide +kernel
theorem dX2_joinLastTwo_71 : decode cX2_joinLastTwo 71 = .ok (.aload_n 0, 1) := by decide +kernel
theorem dX2_joinLastTwo_72 : decode cX2_joinLastTwo 72 = .ok (.getfield 9, 3) := by decide +kernel
theorem dX2_joinLastTwo_75 : decode cX2_joinLastTwo 75 = .ok (.iload_n 1, 1) := by decide +kernel
theorem dX2_joinLastTwo_76 : decode cX2_joinLastTwo 76 = .ok (.iaload, 1) := by decide +kernel
theorem dX2_joinLastTwo_77 : decode cX2_joinLastTwo 77 = .ok (.invokevirtual 74, 3) := by decide +kernel
theorem dX2_joinLastTwo_80 : decode cX2_joinLastTwo 80 = .ok (.aload_n 0, 1) := by decide +kernel
theorem dX2_joinLastTwo_81 : decode cX2_joinLastTwo 81 = .ok (.getfield 27, 3) := by decide +kernel
theorem dX2_joinLastTwo_84 : decode cX2_joinLastTwo 84 = .ok (.aload_n 0, 1) := by decide +kernel
theorem dX2_joinLastTwo_85 : decode cX2_joinLastTwo 85 = .ok (.getfield 9, 3) := by decide +kernel
theorem dX2_joinLastTwo_88 : decode cX2_joinLastTwo 88 = .ok (.iload_n 2, 1) := by decide +kernel
theorem dX2_joinLastTwo_89 : decode cX2_joinLastTwo 89 = .ok (.iaload, 1) := by decide +kernel
theorem dX2_joinLastTwo_90 : decode cX2_joinLastTwo 90 = .ok (.invokevirtual 74, 3) := by decide +kernel
theorem dX2_joinLastTwo_93 : decode cX2_joinLastTwo 93 = .ok (.iand, 1) := by decide +kernel
theorem dX2_joinLastTwo_94 : decode cX2_joinLastTwo 94 = .ok (.istore_n 3, 1) := by decide +kernel
theorem dX2_joinLastTwo_95 : decode cX2_joinLastTwo 95 = .ok (.aload_n 0, 1) := by decide +kernel
theorem dX2_joinLastTwo_96 : decode cX2_joinLastTwo 96 = .ok (.getfield 24, 3) := by decide +kernel
theorem dX2_joinLastTwo_99 : decode cX2_joinLastTwo 99 = .ok (.aload_n 0, 1) := by decide +kernel
theorem dX2_joinLastTwo_100 : decode cX2_joinLastTwo 100 = .ok (.getfield 39, 3) := by decide +kernel
theorem dX2_joinLastTwo_103 : decode cX2_joinLastTwo 103 = .ok (.iaload, 1) := by decide +kernel
theorem dX2_joinLastTwo_104 : decode cX2_joinLastTwo 104 = .ok (.istore 4, 2) := by decide +kernel
theorem dX2_joinLastTwo_106 : decode cX2_joinLastTwo 106 = .ok (.aload_n 0, 1) := by decide +kernel
theorem dX2_joinLastTwo_107 : decode cX2_joinLastTwo 107 = .ok (.getfield 15, 3) := by decide +kernel
theorem dX2_joinLastTwo_110 : decode cX2_joinLastTwo 110 = .ok (.iload_n 1, 1) := by decide +kernel
theorem dX2_joinLastTwo_111 : decode cX2_joinLastTwo 111 = .ok (.dup2, 1) := by decide +kernel
theorem dX2_joinLastTwo_112 : decode cX2_joinLastTwo 112 = .ok (.iaload, 1) := by decide +kernel
theorem dX2_joinLastTwo_113 : decode cX2_joinLastTwo 113 = .ok (.aload_n 0, 1) := by decide +kernel
theorem dX2_joinLastTwo_114 : decode cX2_joinLastTwo 114 = .ok (.getfield 15, 3) := by decide +kernel
theorem dX2_joinLastTwo_117 : decode cX2_joinLastTwo 117 = .ok (.iload_n 2, 1) := by decide +kernel
theorem dX2_joinLastTwo_118 : decode cX2_joinLastTwo 118 = .ok (.iaload, 1) := by decide +kernel
theorem dX2_joinLastTwo_119 : decode cX2_joinLastTwo 119 = .ok (.iadd, 1) := by decide +kernel
theorem dX2_joinLastTwo_120 : decode cX2_joinLastTwo 120 = .ok (.iastore, 1) := by decide +kernel
theorem dX2_joinLastTwo_121 : decode cX2_joinLastTwo 121 = .ok (.iload 4, 2) := by decide +kernel
theorem dX2_joinLastTwo_123 : decode cX2_joinLastTwo 123 = .ok (.bipush 108, 2) := by decide +kernel
theorem dX2_joinLastTwo_125 : decode cX2_joinLastTwo 125 = .ok (.if_icmp .ne 37, 3) := by decide +kernel
theorem dX2_joinLastTwo_128 : decode cX2_joinLastTwo 128 = .ok (.aload_n 0, 1) := by decide +kernel
theorem dX2_joinLastTwo_129 : decode cX2_joinLastTwo 129 = .ok (.getfield 15, 3) := by decide +kernel
theorem dX2_joinLastTwo_132 : decode cX2_joinLastTwo 132 = .ok (.iload_n 1, 1) := by decide +kernel
theorem dX2_joinLastTwo_133 : decode cX2_joinLastTwo 133 = .ok (.dup2, 1) := by decide +kernel
theorem dX2_joinLastTwo_134 : decode cX2_joinLastTwo 134 = .ok (.iaload, 1) := by decide +kernel
theorem dX2_joinLastTwo_135 : decode cX2_joinLastTwo 135 = .ok (.aload_n 0, 1) := by decide +kernel
theorem dX2_joinLastTwo_136 : decode cX2_joinLastTwo 136 = .ok (.getfield 21, 3) := by decide +kernel
theorem dX2_joinLastTwo_139 : decode cX2_joinLastTwo 139 = .ok (.iload_n 1, 1) := by decide +kernel
theorem dX2_joinLastTwo_140 : decode cX2_joinLastTwo 140 = .ok (.iaload, 1) := by decide +kernel
theorem dX2_joinLastTwo_141 : decode cX2_joinLastTwo 141 = .ok (.aload_n 0, 1) := by decide +kernel
theorem dX2_joinLastTwo_142 : decode cX2_joinLastTwo 142 = .ok (.getfield 21, 3) := by decide +kernel
theorem dX2_joinLastTwo_145 : decode cX2_joinLastTwo 145 = .ok (.iload_n 2, 1) := by decide +kernel
theorem dX2_joinLastTwo_146 : decode cX2_joinLastTwo 146 = .ok (.iaload, 1) := by decide +kernel
theorem dX2_joinLastTwo_147 : decode cX2_joinLastTwo 147 = .ok (.aload_n 0, 1) := by decide +kernel
theorem dX2_joinLastTwo_148 : decode cX2_joinLastTwo 148 = .ok (.getfield 27, 3) := by decide +kernel
theorem dX2_joinLastTwo_151 : decode cX2_joinLastTwo 151 = .ok (.invokevirtual 77, 3) := by decide +kernel
theorem dX2_joinLastTwo_154 : decode cX2_joinLastTwo 154 = .ok (.invokestatic 81, 3) := by decide +kernel
theorem dX2_joinLastTwo_157 : decode cX2_joinLastTwo 157 = .ok (.iadd, 1) := by decide +kernel
theorem dX2_joinLastTwo_158 : decode cX2_joinLastTwo 158 = .ok (.iastore, 1) := by decide +kernel
theorem dX2_joinLastTwo_159 : decode cX2_joinLastTwo 159 = .ok (.goto 101, 3) := by decide +kernel
theorem dX2_joinLastTwo_162 : decode cX2_joinLastTwo 162 = .ok (.iload_n 3, 1) := by decide +kernel
theorem dX2_joinLastTwo_163 : decode cX2_joinLastTwo 163 = .ok (.ifCond .ne 11, 3) := by decide +kernel
theorem dX2_joinLastTwo_166 : decode cX2_joinLastTwo 166 = .ok (.aload_n 0, 1) := by decide +kernel
theorem dX2_joinLastTwo_167 : decode cX2_joinLastTwo 167 = .ok (.iconst 0, 1) := by decide +kernel
theorem dX2_joinLastTwo_168 : decode cX2_joinLastTwo 168 = .ok (.putfield 45, 3) := by decide +kernel
theorem dX2_joinLastTwo_171 : decode cX2_joinLastTwo 171 = .ok (.goto 89, 3) := by decide +kernel
theorem dX2_joinLastTwo_174 : decode cX2_joinLastTwo 174 = .ok (.iload 4, 2) := by decide +kernel
theorem dX2_joinLastTwo_176 : decode cX2_joinLastTwo 176 = .ok (.bipush 112, 2) := by decide +kernel
theorem dX2_joinLastTwo_178 : decode cX2_joinLastTwo 178 = .ok (.if_icmp .ne 44, 3) := by decide +kernel
theorem dX2_joinLastTwo_181 : decode cX2_joinLastTwo 181 = .ok (.aload_n 0, 1) := by decide +kernel
theorem dX2_joinLastTwo_182 : decode cX2_joinLastTwo 182 = .ok (.getfield 15, 3) := by decide +kernel
theorem dX2_joinLastTwo_185 : decode cX2_joinLastTwo 185 = .ok (.iload_n 1, 1) := by decide +kernel
theorem dX2_joinLastTwo_186 : decode cX2_joinLastTwo 186 = .ok (.dup2, 1) := by decide +kernel
theorem dX2_joinLastTwo_187 : decode cX2_joinLastTwo 187 = .ok (.iaload, 1) := by decide +kernel
theorem dX2_joinLastTwo_188 : decode cX2_joinLastTwo 188 = .ok (.aload_n 0, 1) := by decide +kernel
theorem dX2_joinLastTwo_189 : decode cX2_joinLastTwo 189 = .ok (.getfield 21, 3) := by decide +kernel
theorem dX2_joinLastTwo_192 : decode cX2_joinLastTwo 192 = .ok (.iload_n 1, 1) := by decide +kernel
theorem dX2_joinLastTwo_193 : decode cX2_joinLastTwo 193 = .ok (.iaload, 1) := by decide +kernel
theorem dX2_joinLastTwo_194 : decode cX2_joinLastTwo 194 = .ok (.aload_n 0, 1) := by decide +kernel
theorem dX2_joinLastTwo_195 : decode cX2_joinLastTwo 195 = .ok (.getfield 21, 3) := by decide +kernel
theorem dX2_joinLastTwo_198 : decode cX2_joinLastTwo 198 = .ok (.iload_n 2, 1) := by decide +kernel
theorem dX2_joinLastTwo_199 : decode cX2_joinLastTwo 199 = .ok (.iaload, 1) := by decide +kernel
theorem dX2_joinLastTwo_200 : decode cX2_joinLastTwo 200 = .ok (.aload_n 0, 1) := by decide +kernel
theorem dX2_joinLastTwo_201 : decode cX2_joinLastTwo 201 = .ok (.getfield 27, 3) := by decide +kernel
theorem dX2_joinLastTwo_204 : decode cX2_joinLastTwo 204 = .ok (.invokevirtual 77, 3) := by decide +kernel
theorem dX2_joinLastTwo_207 : decode cX2_joinLastTwo 207 = .ok (.invokestatic 87, 3) := by decide +kernel
theorem dX2_joinLastTwo_210 : decode cX2_joinLastTwo 210 = .ok (.iadd, 1) := by decide +kernel
theorem dX2_joinLastTwo_211 : decode cX2_joinLastTwo 211 = .ok (.iastore, 1) := by decide +kernel
theorem dX2_joinLastTwo_212 : decode cX2_joinLastTwo 212 = .ok (.aload_n 0, 1) := by decide +kernel
theorem dX2_joinLastTwo_213 : decode cX2_joinLastTwo 213 = .ok (.getfield 18, 3) := by decide +kernel
theorem dX2_joinLastTwo_216 : decode cX2_joinLastTwo 216 = .ok (.iload_n 1, 1) := by decide +kernel
theorem dX2_joinLastTwo_217 : decode cX2_joinLastTwo 217 = .ok (.iconst (-1), 1) := by decide +kernel
theorem dX2_joinLastTwo_218 : decode cX2_joinLastTwo 218 = .ok (.iastore, 1) := by decide +kernel
theorem dX2_joinLastTwo_219 : decode cX2_joinLastTwo 219 = .ok (.goto 41, 3) := by decide +kernel
theorem dX2_joinLastTwo_222 : decode cX2_joinLastTwo 222 = .ok (.iload_n 3, 1) := by decide +kernel
theorem dX2_joinLastTwo_223 : decode cX2_joinLastTwo 223 = .ok (.invokestatic 90, 3) := by decide +kernel
theorem dX2_joinLastTwo_226 : decode cX2_joinLastTwo 226 = .ok (.istore 5, 2) := by decide +kernel
theorem dX2_joinLastTwo_228 : decode cX2_joinLastTwo 228 = .ok (.aload_n 0, 1) := by decide +kernel
theorem dX2_joinLastTwo_229 : decode cX2_joinLastTwo 229 = .ok (.getfield 15, 3) := by decide +kernel
theorem dX2_joinLastTwo_232 : decode cX2_joinLastTwo 232 = .ok (.iload_n 1, 1) := by decide +kernel
theorem dX2_joinLastTwo_233 : decode cX2_joinLastTwo 233 = .ok (.dup2, 1) := by decide +kernel
theorem dX2_joinLastTwo_234 : decode cX2_joinLastTwo 234 = .ok (.iaload, 1) := by decide +kernel
theorem dX2_joinLastTwo_235 : decode cX2_joinLastTwo 235 = .ok (.aload_n 0, 1) := by decide +kernel
theorem dX2_joinLastTwo_236 : decode cX2_joinLastTwo 236 = .ok (.iload_n 1, 1) := by decide +kernel
theorem dX2_joinLastTwo_237 : decode cX2_joinLastTwo 237 = .ok (.iload 5, 2) := by decide +kernel
theorem dX2_joinLastTwo_239 : decode cX2_joinLastTwo 239 = .ok (.invokevirtual 95, 3) := by decide +kernel
theorem dX2_joinLastTwo_242 : decode cX2_joinLastTwo 242 = .ok (.aload_n 0, 1) := by decide +kernel
theorem dX2_joinLastTwo_243 : decode cX2_joinLastTwo 243 = .ok (.iload_n 2, 1) := by decide +kernel
theorem dX2_joinLastTwo_244 : decode cX2_joinLastTwo 244 = .ok (.iload 5, 2) := by decide +kernel
theorem dX2_joinLastTwo_246 : decode cX2_joinLastTwo 246 = .ok (.invokevirtual 95, 3) := by decide +kernel
theorem dX2_joinLastTwo_249 : decode cX2_joinLastTwo 249 = .ok (.iadd, 1) := by decide +kernel
theorem dX2_joinLastTwo_250 : decode cX2_joinLastTwo 250 = .ok (.iadd, 1) := by decide +kernel
theorem dX2_joinLastTwo_251 : decode cX2_joinLastTwo 251 = .ok (.iastore, 1) := by decide +kernel
theorem dX2_joinLastTwo_252 : decode cX2_joinLastTwo 252 = .ok (.aload_n 0, 1) := by decide +kernel
theorem dX2_joinLastTwo_253 : decode cX2_joinLastTwo 253 = .ok (.getfield 18, 3) := by decide +kernel
theorem dX2_joinLastTwo_256 : decode cX2_joinLastTwo 256 = .ok (.iload_n 1, 1) := by decide +kernel
theorem dX2_joinLastTwo_257 : decode cX2_joinLastTwo 257 = .ok (.iload 5, 2) := by decide +kernel
theorem dX2_joinLastTwo_259 : decode cX2_joinLastTwo 259 = .ok (.iastore, 1) := by decide +kernel
theorem dX2_joinLastTwo_260 : decode cX2_joinLastTwo 260 = .ok (.aload_n 0, 1) := by decide +kernel
theorem dX2_joinLastTwo_261 : decode cX2_joinLastTwo 261 = .ok (.getfield 9, 3) := by decide +kernel
theorem dX2_joinLastTwo_264 : decode cX2_joinLastTwo 264 = .ok (.iload_n 1, 1) := by decide +kernel
theorem dX2_joinLastTwo_265 : decode cX2_joinLastTwo 265 = .ok (.dup2, 1) := by decide +kernel
theorem dX2_joinLastTwo_266 : decode cX2_joinLastTwo 266 = .ok (.iaload, 1) := by decide +kernel
theorem dX2_joinLastTwo_267 : decode cX2_joinLastTwo 267 = .ok (.aload_n 0, 1) := by decide +kernel
theorem dX2_joinLastTwo_268 : decode cX2_joinLastTwo 268 = .ok (.getfield 9, 3) := by decide +kernel
theorem dX2_joinLastTwo_271 : decode cX2_joinLastTwo 271 = .ok (.iload_n 2, 1) := by decide +kernel
theorem dX2_joinLastTwo_272 : decode cX2_joinLastTwo 272 = .ok (.iaload, 1) := by decide +kernel
theorem dX2_joinLastTwo_273 : decode cX2_joinLastTwo 273 = .ok (.ior, 1) := by decide +kernel
theorem dX2_joinLastTwo_274 : decode cX2_joinLastTwo 274 = .ok (.iastore, 1) := by decide +kernel
theorem dX2_joinLastTwo_275 : decode cX2_joinLastTwo 275 = .ok (.aload_n 0, 1) := by decide +kernel
theorem dX2_joinLastTwo_276 : decode cX2_joinLastTwo 276 = .ok (.dup, 1) := by decide +kernel
theorem dX2_joinLastTwo_277 : decode cX2_joinLastTwo 277 = .ok (.getfield 42, 3) := by decide +kernel
theorem dX2_joinLastTwo_280 : decode cX2_joinLastTwo 280 = .ok (.iconst 1, 1) := by decide +kernel
theorem dX2_joinLastTwo_281 : decode cX2_joinLastTwo 281 = .ok (.iadd, 1) := by decide +kernel
theorem dX2_joinLastTwo_282 : decode cX2_joinLastTwo 282 = .ok (.putfield 42, 3) := by decide +kernel
theorem dX2_joinLastTwo_285 : decode cX2_joinLastTwo 285 = .ok (.return_, 1) := by decide +kernel
theorem dX2_sortingUnless_0 : decode cX2_sortingUnless 0 = .ok (.iload_n 1, 1) := by decide +kernel
theorem dX2_sortingUnless_1 : decode cX2_sortingUnless 1 = .ok (.ifCond .lt 19, 3) := by decide +kernel
theorem dX2_sortingUnless_4 : decode cX2_sortingUnless 4 = .ok (.iload_n 1, 1) := by decide +kernel
theorem dX2_sortingUnless_5 : decode cX2_sortingUnless 5 = .ok (.bipush 6, 2) := by decide +kernel
theorem dX2_sortingUnless_7 : decode cX2_sortingUnless 7 = .ok (.if_icmp .ge 13, 3) := by decide +kernel
theorem dX2_sortingUnless_10 : decode cX2_sortingUnless 10 = .ok (.aload_n 0, 1) := by decide +kernel
theorem dX2_sortingUnless_11 : decode cX2_sortingUnless 11 = .ok (.getfield 18, 3) := by decide +kernel
theorem dX2_sortingUnless_14 : decode cX2_sortingUnless 14 = .ok (.iload_n 1, 1) := by decide +kernel
theorem dX2_sortingUnless_15 : decode cX2_sortingUnless 15 = .ok (.iaload, 1) := by decide +kernel
theorem dX2_sortingUnless_16 : decode cX2_sortingUnless 16 = .ok (.iload_n 2, 1) := by decide +kernel
theorem dX2_sortingUnless_17 : decode cX2_sortingUnless 17 = .ok (.if_icmp .ne 5, 3) := by decide +kernel
theorem dX2_sortingUnless_20 : decode cX2_sortingUnless 20 = .ok (.iconst 0, 1) := by decide +kernel
theorem dX2_sortingUnless_21 : decode cX2_sortingUnless 21 = .ok (.ireturn, 1) := by decide +kernel
theorem dX2_sortingUnless_22 : decode cX2_sortingUnless 22 = .ok (.aload_n 0, 1) := by decide +kernel
theorem dX2_sortingUnless_23 : decode cX2_sortingUnless 23 = .ok (.getfield 21, 3) := by decide +kernel
theorem dX2_sortingUnless_26 : decode cX2_sortingUnless 26 = .ok (.iload_n 1, 1) := by decide +kernel
theorem dX2_sortingUnless_27 : decode cX2_sortingUnless 27 = .ok (.iaload, 1) := by decide +kernel
theorem dX2_sortingUnless_28 : decode cX2_sortingUnless 28 = .ok (.aload_n 0, 1) := by decide +kernel
theorem dX2_sortingUnless_29 : decode cX2_sortingUnless 29 = .ok (.getfield 27, 3) := by decide +kernel
theorem dX2_sortingUnless_32 : decode cX2_sortingUnless 32 = .ok (.invokevirtual 77, 3) := by decide +kernel
theorem dX2_sortingUnless_35 : decode cX2_sortingUnless 35 = .ok (.invokestatic 98, 3) := by decide +kernel
theorem dX2_sortingUnless_38 : decode cX2_sortingUnless 38 = .ok (.ireturn, 1) := by decide +kernel
theorem dX2_canBeDone_0 : decode cX2_canBeDone 0 = .ok (.aload_n 0, 1) := by decide +kernel
theorem dX2_canBeDone_1 : decode cX2_canBeDone 1 = .ok (.getfield 45, 3) := by decide +kernel
theorem dX2_canBeDone_4 : decode cX2_canBeDone 4 = .ok (.ireturn, 1) := by decide +kernel
theorem dX2_tablesRead_0 : decode cX2_tablesRead 0 = .ok (.aload_n 0, 1) := by decide +kernel
theorem dX2_tablesRead_1 : decode cX2_tablesRead 1 = .ok (.getfield 9, 3) := by decide +kernel
theorem dX2_tablesRead_4 : decode cX2_tablesRead 4 = .ok (.iconst 0, 1) := by decide +kernel
theorem dX2_tablesRead_5 : decode cX2_tablesRead 5 = .ok (.iaload, 1) := by decide +kernel
theorem dX2_tablesRead_6 : decode cX2_tablesRead 6 = .ok (.ireturn, 1) := by decide +kernel
theorem dX2_costRead_0 : decode cX2_costRead 0 = .ok (.aload_n 0, 1) := by decide +kernel
theorem dX2_costRead_1 : decode cX2_costRead 1 = .ok (.getfield 15, 3) := by decide +kernel
theorem dX2_costRead_4 : decode cX2_costRead 4 = .ok (.iconst 0, 1) := by decide +kernel
theorem dX2_costRead_5 : decode cX2_costRead 5 = .ok (.iaload, 1) := by decide +kernel
theorem dX2_costRead_6 : decode cX2_costRead 6 = .ok (.ireturn, 1) := by decide +kernel
theorem dX2_letterRead_0 : decode cX2_letterRead 0 = .ok (.aload_n 0, 1) := by decide +kernel
theorem dX2_letterRead_1 : decode cX2_letterRead 1 = .ok (.getfield 18, 3) := by decide +kernel
theorem dX2_letterRead_4 : decode cX2_letterRead 4 = .ok (.iconst 0, 1) := by decide +kernel
theorem dX2_letterRead_5 : decode cX2_letterRead 5 = .ok (.iaload, 1) := by decide +kernel
theorem dX2_letterRead_6 : decode cX2_letterRead 6 = .ok (.ireturn, 1) := by decide +kernel
theorem dX2_stepsRead_0 : decode cX2_stepsRead 0 = .ok (.aload_n 0, 1) := by decide +kernel
theorem dX2_stepsRead_1 : decode cX2_stepsRead 1 = .ok (.getfield 42, 3) := by decide +kernel
theorem dX2_stepsRead_4 : decode cX2_stepsRead 4 = .ok (.ireturn, 1) := by decide +kernel
theorem dX3_init_0 : decode cX3_init 0 = .ok (.aload_n 0, 1) := by decide +kernel
theorem dX3_init_1 : decode cX3_init 1 = .ok (.invokespecial 3, 3) := by decide +kernel
theorem dX3_init_4 : decode cX3_init 4 = .ok (.aload_n 0, 1) := by decide +kernel
theorem dX3_init_5 : decode cX3_init 5 = .ok (.bipush 6, 2) := by decide +kernel
theorem dX3_init_7 : decode cX3_init 7 = .ok (.newarray .int, 2) := by decide +kernel
theorem dX3_init_9 : decode cX3_init 9 = .ok (.putfield 9, 3) := by decide +kernel
theorem dX3_init_12 : decode cX3_init 12 = .ok (.aload_n 0, 1) := by decide +kernel
theorem dX3_init_13 : decode cX3_init 13 = .ok (.bipush 48, 2) := by decide +kernel
theorem dX3_init_15 : decode cX3_init 15 = .ok (.newarray .int, 2) := by decide +kernel
theorem dX3_init_17 : decode cX3_init 17 = .ok (.putfield 15, 3) := by decide +kernel
theorem dX3_init_20 : decode cX3_init 20 = .ok (.aload_n 0, 1) := by decide +kernel
theorem dX3_init_21 : decode cX3_init 21 = .ok (.bipush 6, 2) := by decide +kernel
theorem dX3_init_23 : decode cX3_init 23 = .ok (.newarray .int, 2) := by decide +kernel
theorem dX3_init_25 : decode cX3_init 25 = .ok (.putfield 18, 3) := by decide +kernel
theorem dX3_init_28 : decode cX3_init 28 = .ok (.aload_n 0, 1) := by decide +kernel
theorem dX3_init_29 : decode cX3_init 29 = .ok (.bipush 6, 2) := by decide +kernel
theorem dX3_init_31 : decode cX3_init 31 = .ok (.newarray .int, 2) := by decide +kernel
theorem dX3_init_33 : decode cX3_init 33 = .ok (.putfield 21, 3) := by decide +kernel
theorem dX3_init_36 : decode cX3_init 36 = .ok (.aload_n 0, 1) := by decide +kernel
theorem dX3_init_37 : decode cX3_init 37 = .ok (.aload_n 1, 1) := by decide +kernel
theorem dX3_init_38 : decode cX3_init 38 = .ok (.putfield 24, 3) := by decide +kernel
theorem dX3_init_41 : decode cX3_init 41 = .ok (.return_, 1) := by decide +kernel
theorem dX3_pagesOf_0 : decode cX3_pagesOf 0 = .ok (.iload_n 1, 1) := by decide +kernel
theorem dX3_pagesOf_1 : decode cX3_pagesOf 1 = .ok (.invokestatic 28, 3) := by decide +kernel
theorem dX3_pagesOf_4 : decode cX3_pagesOf 4 = .ok (.iconst 1, 1) := by decide +kernel
theorem dX3_pagesOf_5 : decode cX3_pagesOf 5 = .ok (.if_icmp .ne 15, 3) := by decide +kernel
theorem dX3_pagesOf_8 : decode cX3_pagesOf 8 = .ok (.aload_n 0, 1) := by decide +kernel
theorem dX3_pagesOf_9 : decode cX3_pagesOf 9 = .ok (.getfield 24, 3) := by decide +kernel
theorem dX3_pagesOf_12 : decode cX3_pagesOf 12 = .ok (.iload_n 1, 1) := by decide +kernel
theorem dX3_pagesOf_13 : decode cX3_pagesOf 13 = .ok (.invokestatic 34, 3) := by decide +kernel
theorem dX3_pagesOf_16 : decode cX3_pagesOf 16 = .ok (.invokevirtual 37, 3) := by decide +kernel
theorem dX3_pagesOf_19 : decode cX3_pagesOf 19 = .ok (.ireturn, 1) := by decide +kernel
theorem dX3_pagesOf_20 : decode cX3_pagesOf 20 = .ok (.aload_n 0, 1) := by decide +kernel
theorem dX3_pagesOf_21 : decode cX3_pagesOf 21 = .ok (.iload_n 1, 1) := by decide +kernel
theorem dX3_pagesOf_22 : decode cX3_pagesOf 22 = .ok (.iload_n 2, 1) := by decide +kernel
theorem dX3_pagesOf_23 : decode cX3_pagesOf 23 = .ok (.invokevirtual 42, 3) := by decide +kernel
theorem dX3_pagesOf_26 : decode cX3_pagesOf 26 = .ok (.aload_n 0, 1) := by decide +kernel
theorem dX3_pagesOf_27 : decode cX3_pagesOf 27 = .ok (.getfield 24, 3) := by decide +kernel
theorem dX3_pagesOf_30 : decode cX3_pagesOf 30 = .ok (.invokevirtual 46, 3) := by decide +kernel
theorem dX3_pagesOf_33 : decode cX3_pagesOf 33 = .ok (.invokestatic 50, 3) := by decide +kernel
theorem dX3_pagesOf_36 : decode cX3_pagesOf 36 = .ok (.ireturn, 1) := by decide +kernel
theorem dX3_sizeOf_0 : decode cX3_sizeOf 0 = .ok (.iload_n 2, 1) := by decide +kernel
theorem dX3_sizeOf_1 : decode cX3_sizeOf 1 = .ok (.iconst 1, 1) := by decide +kernel
theorem dX3_sizeOf_2 : decode cX3_sizeOf 2 = .ok (.if_icmp .ne 9, 3) := by decide +kernel
theorem dX3_sizeOf_5 : decode cX3_sizeOf 5 = .ok (.aload_n 0, 1) := by decide +kernel
theorem dX3_sizeOf_6 : decode cX3_sizeOf 6 = .ok (.iload_n 1, 1) := by decide +kernel
theorem dX3_sizeOf_7 : decode cX3_sizeOf 7 = .ok (.invokevirtual 55, 3) := by decide +kernel
theorem dX3_sizeOf_10 : decode cX3_sizeOf 10 = .ok (.ireturn, 1) := by decide +kernel
theorem dX3_sizeOf_11 : decode cX3_sizeOf 11 = .ok (.aload_n 0, 1) := by decide +kernel
theorem dX3_sizeOf_12 : decode cX3_sizeOf 12 = .ok (.invokevirtual 58, 3) := by decide +kernel
theorem dX3_sizeOf_15 : decode cX3_sizeOf 15 = .ok (.aload_n 0, 1) := by decide +kernel
theorem dX3_sizeOf_16 : decode cX3_sizeOf 16 = .ok (.iload_n 1, 1) := by decide +kernel
theorem dX3_sizeOf_17 : decode cX3_sizeOf 17 = .ok (.invokevirtual 61, 3) := by decide +kernel
theorem dX3_sizeOf_20 : decode cX3_sizeOf 20 = .ok (.ireturn, 1) := by decide +kernel
theorem dX3_foretold_0 : decode cX3_foretold 0 = .ok (.lconst 1, 1) := by decide +kernel
theorem dX3_foretold_1 : decode cX3_foretold 1 = .ok (.lstore_n 2, 1) := by decide +kernel
theorem dX3_foretold_2 : decode cX3_foretold 2 = .ok (.iconst 0, 1) := by decide +kernel
theorem dX3_foretold_3 : decode cX3_foretold 3 = .ok (.istore 4, 2) := by decide +kernel
theorem dX3_foretold_5 : decode cX3_foretold 5 = .ok (.iload 4, 2) := by decide +kernel
theorem dX3_foretold_7 : decode cX3_foretold 7 = .ok (.bipush 6, 2) := by decide +kernel
theorem dX3_foretold_9 : decode cX3_foretold 9 = .ok (.if_icmp .ge 32, 3) := by decide +kernel
theorem dX3_foretold_12 : decode cX3_foretold 12 = .ok (.iload_n 1, 1) := by decide +kernel
theorem dX3_foretold_13 : decode cX3_foretold 13 = .ok (.iload 4, 2) := by decide +kernel
theorem dX3_foretold_15 : decode cX3_foretold 15 = .ok (.ishr, 1) := by decide +kernel
theorem dX3_foretold_16 : decode cX3_foretold 16 = .ok (.iconst 1, 1) := by decide +kernel
theorem dX3_foretold_17 : decode cX3_foretold 17 = .ok (.iand, 1) := by decide +kernel
theorem dX3_foretold_18 : decode cX3_foretold 18 = .ok (.iconst 1, 1) := by decide +kernel
theorem dX3_foretold_19 : decode cX3_foretold 19 = .ok (.if_icmp .ne 16, 3) := by decide +kernel
theorem dX3_foretold_22 : decode cX3_foretold 22 = .ok (.lload_n 2, 1) := by decide +kernel
theorem dX3_foretold_23 : decode cX3_foretold 23 = .ok (.aload_n 0, 1) := by decide +kernel
theorem dX3_foretold_24 : decode cX3_foretold 24 = .ok (.getfield 24, 3) := by decide +kernel
theorem dX3_foretold_27 : decode cX3_foretold 27 = .ok (.iload 4, 2) := by decide +kernel
theorem dX3_foretold_29 : decode cX3_foretold 29 = .ok (.invokevirtual 64, 3) := by decide +kernel
theorem dX3_foretold_32 : decode cX3_foretold 32 = .ok (.i2l, 1) := by decide +kernel
theorem dX3_foretold_33 : decode cX3_foretold 33 = .ok (.lmul, 1) := by decide +kernel
theorem dX3_foretold_34 : decode cX3_foretold 34 = .ok (.lstore_n 2, 1) := by decide +kernel
theorem dX3_foretold_35 : decode cX3_foretold 35 = .ok (.iinc 4 1, 3) := by decide +kernel
theorem dX3_foretold_38 : decode cX3_foretold 38 = .ok (.goto (-33), 3) := by decide +kernel
theorem dX3_foretold_41 : decode cX3_foretold 41 = .ok (.lconst 1, 1) := by decide +kernel
theorem dX3_foretold_42 : decode cX3_foretold 42 = .ok (.lstore 4, 2) := by decide +kernel
theorem dX3_foretold_44 : decode cX3_foretold 44 = .ok (.iconst 0, 1) := by decide +kernel
theorem dX3_foretold_45 : decode cX3_foretold 45 = .ok (.istore 6, 2) := by decide +kernel
theorem dX3_foretold_47 : decode cX3_foretold 47 = .ok (.iload 6, 2) := by decide +kernel
theorem dX3_foretold_49 : decode cX3_foretold 49 = .ok (.bipush 8, 2) := by decide +kernel
theorem dX3_foretold_51 : decode cX3_foretold 51 = .ok (.if_icmp .ge 21, 3) := by decide +kernel
theorem dX3_foretold_54 : decode cX3_foretold 54 = .ok (.lload 4, 2) := by decide +kernel
theorem dX3_foretold_56 : decode cX3_foretold 56 = .ok (.aload_n 0, 1) := by decide +kernel
theorem dX3_foretold_57 : decode cX3_foretold 57 = .ok (.iload_n 1, 1) := by decide +kernel
theorem dX3_foretold_58 : decode cX3_foretold 58 = .ok (.iload 6, 2) := by decide +kernel
theorem dX3_foretold_60 : decode cX3_foretold 60 = .ok (.invokevirtual 67, 3) := by decide +kernel
theorem dX3_foretold_63 : decode cX3_foretold 63 = .ok (.lmul, 1) := by decide +kernel
theorem dX3_foretold_64 : decode cX3_foretold 64 = .ok (.lstore 4, 2) := by decide +kernel
theorem dX3_foretold_66 : decode cX3_foretold 66 = .ok (.iinc 6 1, 3) := by decide +kernel
theorem dX3_foretold_69 : decode cX3_foretold 69 = .ok (.goto (-22), 3) := by decide +kernel
theorem dX3_foretold_72 : decode cX3_foretold 72 = .ok (.lload_n 2, 1) := by decide +kernel
theorem dX3_foretold_73 : decode cX3_foretold 73 = .ok (.lconst 1, 1) := by decide +kernel
theorem dX3_foretold_74 : decode cX3_foretold 74 = .ok (.lcmp, 1) := by decide +kernel
theorem dX3_foretold_75 : decode cX3_foretold 75 = .ok (.ifCond .lt 10, 3) := by decide +kernel
theorem dX3_foretold_78 : decode cX3_foretold 78 = .ok (.lload 4, 2) := by decide +kernel
theorem dX3_foretold_80 : decode cX3_foretold 80 = .ok (.lconst 1, 1) := by decide +kernel
theorem dX3_foretold_81 : decode cX3_foretold 81 = .ok (.lcmp, 1) := by decide +kernel
theorem dX3_foretold_82 : decode cX3_foretold 82 = .ok (.ifCond .ge 7, 3) := by decide +kernel
theorem dX3_foretold_85 : decode cX3_foretold 85 = .ok (.iconst 0, 1) := by decide +kernel
theorem dX3_foretold_86 : decode cX3_foretold 86 = .ok (.goto 8, 3) := by decide +kernel
theorem dX3_foretold_89 : decode cX3_foretold 89 = .ok (.lload_n 2, 1) := by decide +kernel
theorem dX3_foretold_90 : decode cX3_foretold 90 = .ok (.lload 4, 2) := by decide +kernel
theorem dX3_foretold_92 : decode cX3_foretold 92 = .ok (.ldiv, 1) := by decide +kernel
theorem dX3_foretold_93 : decode cX3_foretold 93 = .ok (.l2i, 1) := by decide +kernel
theorem dX3_foretold_94 : decode cX3_foretold 94 = .ok (.ireturn, 1) := by decide +kernel
theorem dX3_unlikeButLeast_0 : decode cX3_unlikeButLeast 0 = .ok (.lconst 1, 1) := by decide +kernel
theorem dX3_unlikeButLeast_1 : decode cX3_unlikeButLeast 1 = .ok (.lstore_n 3, 1) := by decide +kernel
theorem dX3_unlikeButLeast_2 : decode cX3_unlikeButLeast 2 = .ok (.iconst 0, 1) := by decide +kernel
theorem dX3_unlikeButLeast_3 : decode cX3_unlikeButLeast 3 = .ok (.istore 5, 2) := by decide +kernel
theorem dX3_unlikeButLeast_5 : decode cX3_unlikeButLeast 5 = .ok (.iconst 0, 1) := by decide +kernel
theorem dX3_unlikeButLeast_6 : decode cX3_unlikeButLeast 6 = .ok (.istore 6, 2) := by decide +kernel
theorem dX3_unlikeButLeast_8 : decode cX3_unlikeButLeast 8 = .ok (.iload 6, 2) := by decide +kernel
theorem dX3_unlikeButLeast_10 : decode cX3_unlikeButLeast 10 = .ok (.bipush 6, 2) := by decide +kernel
theorem dX3_unlikeButLeast_12 : decode cX3_unlikeButLeast 12 = .ok (.if_icmp .ge 69, 3) := by decide +kernel
theorem dX3_unlikeButLeast_15 : decode cX3_unlikeButLeast 15 = .ok (.iload_n 1, 1) := by decide +kernel
theorem dX3_unlikeButLeast_16 : decode cX3_unlikeButLeast 16 = .ok (.iload 6, 2) := by decide +kernel
theorem dX3_unlikeButLeast_18 : decode cX3_unlikeButLeast 18 = .ok (.ishr, 1) := by decide +kernel
theorem dX3_unlikeButLeast_19 : decode cX3_unlikeButLeast 19 = .ok (.iconst 1, 1) := by decide +kernel
theorem dX3_unlikeButLeast_20 : decode cX3_unlikeButLeast 20 = .ok (.iand, 1) := by decide +kernel
theorem dX3_unlikeButLeast_21 : decode cX3_unlikeButLeast 21 = .ok (.iconst 1, 1) := by decide +kernel
theorem dX3_unlikeButLeast_22 : decode cX3_unlikeButLeast 22 = .ok (.if_icmp .ne 53, 3) := by decide +kernel
theorem dX3_unlikeButLeast_25 : decode cX3_unlikeButLeast 25 = .ok (.aload_n 0, 1) := by decide +kernel
theorem dX3_unlikeButLeast_26 : decode cX3_unlikeButLeast 26 = .ok (.getfield 24, 3) := by decide +kernel
theorem dX3_unlikeButLeast_29 : decode cX3_unlikeButLeast 29 = .ok (.iload 6, 2) := by decide +kernel
theorem dX3_unlikeButLeast_31 : decode cX3_unlikeButLeast 31 = .ok (.iload_n 2, 1) := by decide +kernel
theorem dX3_unlikeButLeast_32 : decode cX3_unlikeButLeast 32 = .ok (.invokevirtual 71, 3) := by decide +kernel
theorem dX3_unlikeButLeast_35 : decode cX3_unlikeButLeast 35 = .ok (.ifCond .eq 40, 3) := by decide +kernel
theorem dX3_unlikeButLeast_38 : decode cX3_unlikeButLeast 38 = .ok (.aload_n 0, 1) := by decide +kernel
theorem dX3_unlikeButLeast_39 : decode cX3_unlikeButLeast 39 = .ok (.getfield 24, 3) := by decide +kernel
theorem dX3_unlikeButLeast_42 : decode cX3_unlikeButLeast 42 = .ok (.iload 6, 2) := by decide +kernel
theorem dX3_unlikeButLeast_44 : decode cX3_unlikeButLeast 44 = .ok (.iload_n 2, 1) := by decide +kernel
theorem dX3_unlikeButLeast_45 : decode cX3_unlikeButLeast 45 = .ok (.invokevirtual 75, 3) := by decide +kernel
theorem dX3_unlikeButLeast_48 : decode cX3_unlikeButLeast 48 = .ok (.istore 7, 2) := by decide +kernel
theorem dX3_unlikeButLeast_50 : decode cX3_unlikeButLeast 50 = .ok (.lload_n 3, 1) := by decide +kernel
theorem dX3_unlikeButLeast_51 : decode cX3_unlikeButLeast 51 = .ok (.iload 7, 2) := by decide +kernel
theorem dX3_unlikeButLeast_53 : decode cX3_unlikeButLeast 53 = .ok (.i2l, 1) := by decide +kernel
theorem dX3_unlikeButLeast_54 : decode cX3_unlikeButLeast 54 = .ok (.lmul, 1) := by decide +kernel
theorem dX3_unlikeButLeast_55 : decode cX3_unlikeButLeast 55 = .ok (.lstore_n 3, 1) := by decide +kernel
theorem dX3_unlikeButLeast_56 : decode cX3_unlikeButLeast 56 = .ok (.iload 5, 2) := by decide +kernel
theorem dX3_unlikeButLeast_58 : decode cX3_unlikeButLeast 58 = .ok (.ifCond .ne 8, 3) := by decide +kernel
theorem dX3_unlikeButLeast_61 : decode cX3_unlikeButLeast 61 = .ok (.iload 7, 2) := by decide +kernel
theorem dX3_unlikeButLeast_63 : decode cX3_unlikeButLeast 63 = .ok (.goto 10, 3) := by decide +kernel
theorem dX3_unlikeButLeast_66 : decode cX3_unlikeButLeast 66 = .ok (.iload 5, 2) := by decide +kernel
theorem dX3_unlikeButLeast_68 : decode cX3_unlikeButLeast 68 = .ok (.iload 7, 2) := by decide +kernel
theorem dX3_unlikeButLeast_70 : decode cX3_unlikeButLeast 70 = .ok (.invokestatic 78, 3) := by decide +kernel
theorem dX3_unlikeButLeast_73 : decode cX3_unlikeButLeast 73 = .ok (.istore 5, 2) := by decide +kernel
theorem dX3_unlikeButLeast_75 : decode cX3_unlikeButLeast 75 = .ok (.iinc 6 1, 3) := by decide +kernel
theorem dX3_unlikeButLeast_78 : decode cX3_unlikeButLeast 78 = .ok (.goto (-70), 3) := by decide +kernel
theorem dX3_unlikeButLeast_81 : decode cX3_unlikeButLeast 81 = .ok (.iload 5, 2) := by decide +kernel
theorem dX3_unlikeButLeast_83 : decode cX3_unlikeButLeast 83 = .ok (.iconst 1, 1) := by decide +kernel
theorem dX3_unlikeButLeast_84 : decode cX3_unlikeButLeast 84 = .ok (.if_icmp .ge 7, 3) := by decide +kernel
theorem dX3_unlikeButLeast_87 : decode cX3_unlikeButLeast 87 = .ok (.lconst 1, 1) := by decide +kernel
theorem dX3_unlikeButLeast_88 : decode cX3_unlikeButLeast 88 = .ok (.goto 8, 3) := by decide +kernel
theorem dX3_unlikeButLeast_91 : decode cX3_unlikeButLeast 91 = .ok (.lload_n 3, 1) := by decide +kernel
theorem dX3_unlikeButLeast_92 : decode cX3_unlikeButLeast 92 = .ok (.iload 5, 2) := by decide +kernel
theorem dX3_unlikeButLeast_94 : decode cX3_unlikeButLeast 94 = .ok (.i2l, 1) := by decide +kernel
theorem dX3_unlikeButLeast_95 : decode cX3_unlikeButLeast 95 = .ok (.ldiv, 1) := by decide +kernel
theorem dX3_unlikeButLeast_96 : decode cX3_unlikeButLeast 96 = .ok (.lreturn, 1) := by decide +kernel
theorem dX3_find_0 : decode cX3_find 0 = .ok (.aload_n 0, 1) := by decide +kernel
theorem dX3_find_1 : decode cX3_find 1 = .ok (.invokevirtual 58, 3) := by decide +kernel
theorem dX3_find_4 : decode cX3_find 4 = .ok (.iload_n 2, 1) := by decide +kernel
theorem dX3_find_5 : decode cX3_find 5 = .ok (.ifCond .lt 12, 3) := by decide +kernel
theorem dX3_find_8 : decode cX3_find 8 = .ok (.iload_n 2, 1) := by decide +kernel
theorem dX3_find_9 : decode cX3_find 9 = .ok (.aload_n 0, 1) := by decide +kernel
theorem dX3_find_10 : decode cX3_find 10 = .ok (.iload_n 1, 1) := by decide +kernel
theorem dX3_find_11 : decode cX3_find 11 = .ok (.invokevirtual 61, 3) := by decide +kernel
theorem dX3_find_14 : decode cX3_find 14 = .ok (.if_icmp .lt 5, 3) := by decide +kernel
theorem dX3_find_17 : decode cX3_find 17 = .ok (.iconst 0, 1) := by decide +kernel
theorem dX3_find_18 : decode cX3_find 18 = .ok (.ireturn, 1) := by decide +kernel
theorem dX3_find_19 : decode cX3_find 19 = .ok (.iload_n 2, 1) := by decide +kernel
theorem dX3_find_20 : decode cX3_find 20 = .ok (.istore_n 3, 1) := by decide +kernel
theorem dX3_find_21 : decode cX3_find 21 = .ok (.iconst 0, 1) := by decide +kernel
theorem dX3_find_22 : decode cX3_find 22 = .ok (.istore 4, 2) := by decide +kernel
theorem dX3_find_24 : decode cX3_find 24 = .ok (.iload 4, 2) := by decide +kernel
theorem dX3_find_26 : decode cX3_find 26 = .ok (.bipush 6, 2) := by decide +kernel
theorem dX3_find_28 : decode cX3_find 28 = .ok (.if_icmp .ge 28, 3) := by decide +kernel
theorem dX3_find_31 : decode cX3_find 31 = .ok (.iload_n 1, 1) := by decide +kernel
theorem dX3_find_32 : decode cX3_find 32 = .ok (.iload 4, 2) := by decide +kernel
theorem dX3_find_34 : decode cX3_find 34 = .ok (.ishr, 1) := by decide +kernel
theorem dX3_find_35 : decode cX3_find 35 = .ok (.iconst 1, 1) := by decide +kernel
theorem dX3_find_36 : decode cX3_find 36 = .ok (.iand, 1) := by decide +kernel
theorem dX3_find_37 : decode cX3_find 37 = .ok (.iconst 1, 1) := by decide +kernel
theorem dX3_find_38 : decode cX3_find 38 = .ok (.if_icmp .ne 12, 3) := by decide +kernel
theorem dX3_find_41 : decode cX3_find 41 = .ok (.aload_n 0, 1) := by decide +kernel
theorem dX3_find_42 : decode cX3_find 42 = .ok (.iload_n 1, 1) := by decide +kernel
theorem dX3_find_43 : decode cX3_find 43 = .ok (.iload 4, 2) := by decide +kernel
theorem dX3_find_45 : decode cX3_find 45 = .ok (.iload_n 3, 1) := by decide +kernel
theorem dX3_find_46 : decode cX3_find 46 = .ok (.invokevirtual 83, 3) := by decide +kernel
theorem dX3_find_49 : decode cX3_find 49 = .ok (.istore_n 3, 1) := by decide +kernel
theorem dX3_find_50 : decode cX3_find 50 = .ok (.iinc 4 1, 3) := by decide +kernel
theorem dX3_find_53 : decode cX3_find 53 = .ok (.goto (-29), 3) := by decide +kernel
theorem dX3_find_56 : decode cX3_find 56 = .ok (.iconst 1, 1) := by decide +kernel
theorem dX3_find_57 : decode cX3_find 57 = .ok (.ireturn, 1) := by decide +kernel
theorem dX3_fixRow_0 : decode cX3_fixRow 0 = .ok (.iload_n 3, 1) := by decide +kernel
theorem dX3_fixRow_1 : decode cX3_fixRow 1 = .ok (.istore 4, 2) := by decide +kernel
theorem dX3_fixRow_3 : decode cX3_fixRow 3 = .ok (.iconst 0, 1) := by decide +kernel
theorem dX3_fixRow_4 : decode cX3_fixRow 4 = .ok (.istore 5, 2) := by decide +kernel
theorem dX3_fixRow_6 : decode cX3_fixRow 6 = .ok (.iload 5, 2) := by decide +kernel
theorem dX3_fixRow_8 : decode cX3_fixRow 8 = .ok (.aload_n 0, 1) := by decide +kernel
theorem dX3_fixRow_9 : decode cX3_fixRow 9 = .ok (.getfield 24, 3) := by decide +kernel
theorem dX3_fixRow_12 : decode cX3_fixRow 12 = .ok (.iload_n 2, 1) := by decide +kernel
theorem dX3_fixRow_13 : decode cX3_fixRow 13 = .ok (.invokevirtual 64, 3) := by decide +kernel
theorem dX3_fixRow_16 : decode cX3_fixRow 16 = .ok (.if_icmp .ge 51, 3) := by decide +kernel
theorem dX3_fixRow_19 : decode cX3_fixRow 19 = .ok (.aload_n 0, 1) := by decide +kernel
theorem dX3_fixRow_20 : decode cX3_fixRow 20 = .ok (.getfield 9, 3) := by decide +kernel
theorem dX3_fixRow_23 : decode cX3_fixRow 23 = .ok (.iload_n 2, 1) := by decide +kernel
theorem dX3_fixRow_24 : decode cX3_fixRow 24 = .ok (.iconst 1, 1) := by decide +kernel
theorem dX3_fixRow_25 : decode cX3_fixRow 25 = .ok (.iload 5, 2) := by decide +kernel
theorem dX3_fixRow_27 : decode cX3_fixRow 27 = .ok (.ishl, 1) := by decide +kernel
theorem dX3_fixRow_28 : decode cX3_fixRow 28 = .ok (.iastore, 1) := by decide +kernel
theorem dX3_fixRow_29 : decode cX3_fixRow 29 = .ok (.aload_n 0, 1) := by decide +kernel
theorem dX3_fixRow_30 : decode cX3_fixRow 30 = .ok (.getfield 21, 3) := by decide +kernel
theorem dX3_fixRow_33 : decode cX3_fixRow 33 = .ok (.iload_n 2, 1) := by decide +kernel
theorem dX3_fixRow_34 : decode cX3_fixRow 34 = .ok (.iload 5, 2) := by decide +kernel
theorem dX3_fixRow_36 : decode cX3_fixRow 36 = .ok (.iastore, 1) := by decide +kernel
theorem dX3_fixRow_37 : decode cX3_fixRow 37 = .ok (.aload_n 0, 1) := by decide +kernel
theorem dX3_fixRow_38 : decode cX3_fixRow 38 = .ok (.iload_n 1, 1) := by decide +kernel
theorem dX3_fixRow_39 : decode cX3_fixRow 39 = .ok (.invokevirtual 61, 3) := by decide +kernel
theorem dX3_fixRow_42 : decode cX3_fixRow 42 = .ok (.istore 6, 2) := by decide +kernel
theorem dX3_fixRow_44 : decode cX3_fixRow 44 = .ok (.iload 4, 2) := by decide +kernel
theorem dX3_fixRow_46 : decode cX3_fixRow 46 = .ok (.iload 6, 2) := by decide +kernel
theorem dX3_fixRow_48 : decode cX3_fixRow 48 = .ok (.if_icmp .ge 6, 3) := by decide +kernel
theorem dX3_fixRow_51 : decode cX3_fixRow 51 = .ok (.iload 4, 2) := by decide +kernel
theorem dX3_fixRow_53 : decode cX3_fixRow 53 = .ok (.ireturn, 1) := by decide +kernel
theorem dX3_fixRow_54 : decode cX3_fixRow 54 = .ok (.iload 4, 2) := by decide +kernel
theorem dX3_fixRow_56 : decode cX3_fixRow 56 = .ok (.iload 6, 2) := by decide +kernel
theorem dX3_fixRow_58 : decode cX3_fixRow 58 = .ok (.isub, 1) := by decide +kernel
theorem dX3_fixRow_59 : decode cX3_fixRow 59 = .ok (.istore 4, 2) := by decide +kernel
theorem dX3_fixRow_61 : decode cX3_fixRow 61 = .ok (.iinc 5 1, 3) := by decide +kernel
theorem dX3_fixRow_64 : decode cX3_fixRow 64 = .ok (.goto (-58), 3) := by decide +kernel
theorem dX3_fixRow_67 : decode cX3_fixRow 67 = .ok (.iload 4, 2) := by decide +kernel
theorem dX3_fixRow_69 : decode cX3_fixRow 69 = .ok (.ireturn, 1) := by decide +kernel
theorem dX3_rowFound_0 : decode cX3_rowFound 0 = .ok (.iload_n 1, 1) := by decide +kernel
theorem dX3_rowFound_1 : decode cX3_rowFound 1 = .ok (.ifCond .lt 18, 3) := by decide +kernel
theorem dX3_rowFound_4 : decode cX3_rowFound 4 = .ok (.iload_n 1, 1) := by decide +kernel
theorem dX3_rowFound_5 : decode cX3_rowFound 5 = .ok (.bipush 6, 2) := by decide +kernel
theorem dX3_rowFound_7 : decode cX3_rowFound 7 = .ok (.if_icmp .ge 12, 3) := by decide +kernel
theorem dX3_rowFound_10 : decode cX3_rowFound 10 = .ok (.aload_n 0, 1) := by decide +kernel
theorem dX3_rowFound_11 : decode cX3_rowFound 11 = .ok (.getfield 21, 3) := by decide +kernel
theorem dX3_rowFound_14 : decode cX3_rowFound 14 = .ok (.iload_n 1, 1) := by decide +kernel
theorem dX3_rowFound_15 : decode cX3_rowFound 15 = .ok (.iaload, 1) := by decide +kernel
theorem dX3_rowFound_16 : decode cX3_rowFound 16 = .ok (.goto 4, 3) := by decide +kernel
theorem dX3_rowFound_19 : decode cX3_rowFound 19 = .ok (.iconst (-1), 1) := by decide +kernel
theorem dX3_rowFound_20 : decode cX3_rowFound 20 = .ok (.ireturn, 1) := by decide +kernel
theorem dX3_numberFound_0 : decode cX3_numberFound 0 = .ok (.iconst 0, 1) := by decide +kernel
theorem dX3_numberFound_1 : decode cX3_numberFound 1 = .ok (.istore_n 3, 1) := by decide +kernel
theorem dX3_numberFound_2 : decode cX3_numberFound 2 = .ok (.iload_n 3, 1) := by decide +kernel
theorem dX3_numberFound_3 : decode cX3_numberFound 3 = .ok (.bipush 6, 2) := by decide +kernel
theorem dX3_numberFound_5 : decode cX3_numberFound 5 = .ok (.if_icmp .ge 49, 3) := by decide +kernel
theorem dX3_numberFound_8 : decode cX3_numberFound 8 = .ok (.iload_n 1, 1) := by decide +kernel
theorem dX3_numberFound_9 : decode cX3_numberFound 9 = .ok (.iload_n 3, 1) := by decide +kernel
theorem dX3_numberFound_10 : decode cX3_numberFound 10 = .ok (.ishr, 1) := by decide +kernel
theorem dX3_numberFound_11 : decode cX3_numberFound 11 = .ok (.iconst 1, 1) := by decide +kernel
theorem dX3_numberFound_12 : decode cX3_numberFound 12 = .ok (.iand, 1) := by decide +kernel
theorem dX3_numberFound_13 : decode cX3_numberFound 13 = .ok (.iconst 1, 1) := by decide +kernel
theorem dX3_numberFound_14 : decode cX3_numberFound 14 = .ok (.if_icmp .ne 34, 3) := by decide +kernel
theorem dX3_numberFound_17 : decode cX3_numberFound 17 = .ok (.aload_n 0, 1) := by decide +kernel
theorem dX3_numberFound_18 : decode cX3_numberFound 18 = .ok (.getfield 24, 3) := by decide +kernel
theorem dX3_numberFound_21 : decode cX3_numberFound 21 = .ok (.iload_n 3, 1) := by decide +kernel
theorem dX3_numberFound_22 : decode cX3_numberFound 22 = .ok (.iload_n 2, 1) := by decide +kernel
theorem dX3_numberFound_23 : decode cX3_numberFound 23 = .ok (.invokevirtual 71, 3) := by decide +kernel
theorem dX3_numberFound_26 : decode cX3_numberFound 26 = .ok (.ifCond .eq 22, 3) := by decide +kernel
theorem dX3_numberFound_29 : decode cX3_numberFound 29 = .ok (.aload_n 0, 1) := by decide +kernel
theorem dX3_numberFound_30 : decode cX3_numberFound 30 = .ok (.getfield 24, 3) := by decide +kernel
theorem dX3_numberFound_33 : decode cX3_numberFound 33 = .ok (.iload_n 3, 1) := by decide +kernel
theorem dX3_numberFound_34 : decode cX3_numberFound 34 = .ok (.aload_n 0, 1) := by decide +kernel
theorem dX3_numberFound_35 : decode cX3_numberFound 35 = .ok (.getfield 21, 3) := by decide +kernel
theorem dX3_numberFound_38 : decode cX3_numberFound 38 = .ok (.iload_n 3, 1) := by decide +kernel
theorem dX3_numberFound_39 : decode cX3_numberFound 39 = .ok (.iaload, 1) := by decide +kernel
theorem dX3_numberFound_40 : decode cX3_numberFound 40 = .ok (.invokevirtual 87, 3) := by decide +kernel
theorem dX3_numberFound_43 : decode cX3_numberFound 43 = .ok (.iload_n 2, 1) := by decide +kernel
theorem dX3_numberFound_44 : decode cX3_numberFound 44 = .ok (.invokestatic 90, 3) := by decide +kernel
theorem dX3_numberFound_47 : decode cX3_numberFound 47 = .ok (.ireturn, 1) := by decide +kernel
theorem dX3_numberFound_48 : decode cX3_numberFound 48 = .ok (.iinc 3 1, 3) := by decide +kernel
theorem dX3_numberFound_51 : decode cX3_numberFound 51 = .ok (.goto (-49), 3) := by decide +kernel
theorem dX3_numberFound_54 : decode cX3_numberFound 54 = .ok (.iconst (-1), 1) := by decide +kernel
theorem dX3_numberFound_55 : decode cX3_numberFound 55 = .ok (.ireturn, 1) := by decide +kernel
theorem dX3_idleRows_0 : decode cX3_idleRows 0 = .ok (.iload_n 2, 1) := by decide +kernel
theorem dX3_idleRows_1 : decode cX3_idleRows 1 = .ok (.ifCond .lt 9, 3) := by decide +kernel
theorem dX3_idleRows_4 : decode cX3_idleRows 4 = .ok (.iload_n 2, 1) := by decide +kernel
theorem dX3_idleRows_5 : decode cX3_idleRows 5 = .ok (.bipush 6, 2) := by decide +kernel
theorem dX3_idleRows_7 : decode cX3_idleRows 7 = .ok (.if_icmp .lt 5, 3) := by decide +kernel
theorem dX3_idleRows_10 : decode cX3_idleRows 10 = .ok (.iconst 0, 1) := by decide +kernel
theorem dX3_idleRows_11 : decode cX3_idleRows 11 = .ok (.ireturn, 1) := by decide +kernel
theorem dX3_idleRows_12 : decode cX3_idleRows 12 = .ok (.aload_n 0, 1) := by decide +kernel
theorem dX3_idleRows_13 : decode cX3_idleRows 13 = .ok (.invokevirtual 58, 3) := by decide +kernel
theorem dX3_idleRows_16 : decode cX3_idleRows 16 = .ok (.iconst 0, 1) := by decide +kernel
theorem dX3_idleRows_17 : decode cX3_idleRows 17 = .ok (.istore_n 3, 1) := by decide +kernel
theorem dX3_idleRows_18 : decode cX3_idleRows 18 = .ok (.iconst 0, 1) := by decide +kernel
theorem dX3_idleRows_19 : decode cX3_idleRows 19 = .ok (.istore 4, 2) := by decide +kernel
theorem dX3_idleRows_21 : decode cX3_idleRows 21 = .ok (.iload 4, 2) := by decide +kernel
theorem dX3_idleRows_23 : decode cX3_idleRows 23 = .ok (.aload_n 0, 1) := by decide +kernel
theorem dX3_idleRows_24 : decode cX3_idleRows 24 = .ok (.getfield 24, 3) := by decide +kernel
theorem dX3_idleRows_27 : decode cX3_idleRows 27 = .ok (.iload_n 2, 1) := by decide +kernel
theorem dX3_idleRows_28 : decode cX3_idleRows 28 = .ok (.invokevirtual 64, 3) := by decide +kernel
theorem dX3_idleRows_31 : decode cX3_idleRows 31 = .ok (.if_icmp .ge 30, 3) := by decide +kernel
theorem dX3_idleRows_34 : decode cX3_idleRows 34 = .ok (.aload_n 0, 1) := by decide +kernel
theorem dX3_idleRows_35 : decode cX3_idleRows 35 = .ok (.getfield 9, 3) := by decide +kernel
theorem dX3_idleRows_38 : decode cX3_idleRows 38 = .ok (.iload_n 2, 1) := by decide +kernel
theorem dX3_idleRows_39 : decode cX3_idleRows 39 = .ok (.iconst 1, 1) := by decide +kernel
theorem dX3_idleRows_40 : decode cX3_idleRows 40 = .ok (.iload 4, 2) := by decide +kernel
theorem dX3_idleRows_42 : decode cX3_idleRows 42 = .ok (.ishl, 1) := by decide +kernel
theorem dX3_idleRows_43 : decode cX3_idleRows 43 = .ok (.iastore, 1) := by decide +kernel
theorem dX3_idleRows_44 : decode cX3_idleRows 44 = .ok (.aload_n 0, 1) := by decide +kernel
theorem dX3_idleRows_45 : decode cX3_idleRows 45 = .ok (.iload_n 1, 1) := by decide +kernel
theorem dX3_idleRows_46 : decode cX3_idleRows 46 = .ok (.invokevirtual 61, 3) := by decide +kernel
theorem dX3_idleRows_49 : decode cX3_idleRows 49 = .ok (.ifCond .ne 6, 3) := by decide +kernel
theorem dX3_idleRows_52 : decode cX3_idleRows 52 = .ok (.iinc 3 1, 3) := by decide +kernel
theorem dX3_idleRows_55 : decode cX3_idleRows 55 = .ok (.iinc 4 1, 3) := by decide +kernel
theorem dX3_idleRows_58 : decode cX3_idleRows 58 = .ok (.goto (-37), 3) := by decide +kernel
theorem dX3_idleRows_61 : decode cX3_idleRows 61 = .ok (.iload_n 3, 1) := by decide +kernel
theorem dX3_idleRows_62 : decode cX3_idleRows 62 = .ok (.ireturn, 1) := by decide +kernel
theorem dX3_allowAllRows_0 : decode cX3_allowAllRows 0 = .ok (.aload_n 0, 1) := by decide +kernel
theorem dX3_allowAllRows_1 : decode cX3_allowAllRows 1 = .ok (.getfield 9, 3) := by decide +kernel
theorem dX3_allowAllRows_4 : decode cX3_allowAllRows 4 = .ok (.sipush 255, 3) := by decide +kernel
theorem dX3_allowAllRows_7 : decode cX3_allowAllRows 7 = .ok (.invokestatic 95, 3) := by decide +kernel
theorem dX3_allowAllRows_10 : decode cX3_allowAllRows 10 = .ok (.return_, 1) := by decide +kernel
theorem dX3_counted_0 : decode cX3_counted 0 = .ok (.iconst 0, 1) := by decide +kernel
theorem dX3_counted_1 : decode cX3_counted 1 = .ok (.istore_n 2, 1) := by decide +kernel
theorem dX3_counted_2 : decode cX3_counted 2 = .ok (.iconst 0, 1) := by decide +kernel
theorem dX3_counted_3 : decode cX3_counted 3 = .ok (.istore_n 3, 1) := by decide +kernel
theorem dX3_counted_4 : decode cX3_counted 4 = .ok (.iload_n 3, 1) := by decide +kernel
theorem dX3_counted_5 : decode cX3_counted 5 = .ok (.bipush 6, 2) := by decide +kernel
theorem dX3_counted_7 : decode cX3_counted 7 = .ok (.if_icmp .ge 71, 3) := by decide +kernel
theorem dX3_counted_10 : decode cX3_counted 10 = .ok (.iload_n 1, 1) := by decide +kernel
theorem dX3_counted_11 : decode cX3_counted 11 = .ok (.iload_n 3, 1) := by decide +kernel
theorem dX3_counted_12 : decode cX3_counted 12 = .ok (.ishr, 1) := by decide +kernel
theorem dX3_counted_13 : decode cX3_counted 13 = .ok (.iconst 1, 1) := by decide +kernel
theorem dX3_counted_14 : decode cX3_counted 14 = .ok (.iand, 1) := by decide +kernel
theorem dX3_counted_15 : decode cX3_counted 15 = .ok (.iconst 1, 1) := by decide +kernel
theorem dX3_counted_16 : decode cX3_counted 16 = .ok (.if_icmp .ne 56, 3) := by decide +kernel
theorem dX3_counted_19 : decode cX3_counted 19 = .ok (.aload_n 0, 1) := by decide +kernel
theorem dX3_counted_20 : decode cX3_counted 20 = .ok (.getfield 24, 3) := by decide +kernel
theorem dX3_counted_23 : decode cX3_counted 23 = .ok (.iload_n 3, 1) := by decide +kernel
theorem dX3_counted_24 : decode cX3_counted 24 = .ok (.invokevirtual 101, 3) := by decide +kernel
theorem dX3_counted_27 : decode cX3_counted 27 = .ok (.istore 4, 2) := by decide +kernel
theorem dX3_counted_29 : decode cX3_counted 29 = .ok (.aload_n 0, 1) := by decide +kernel
theorem dX3_counted_30 : decode cX3_counted 30 = .ok (.getfield 18, 3) := by decide +kernel
theorem dX3_counted_33 : decode cX3_counted 33 = .ok (.iload_n 3, 1) := by decide +kernel
theorem dX3_counted_34 : decode cX3_counted 34 = .ok (.iload 4, 2) := by decide +kernel
theorem dX3_counted_36 : decode cX3_counted 36 = .ok (.iload_n 2, 1) := by decide +kernel
theorem dX3_counted_37 : decode cX3_counted 37 = .ok (.iand, 1) := by decide +kernel
theorem dX3_counted_38 : decode cX3_counted 38 = .ok (.invokestatic 104, 3) := by decide +kernel
theorem dX3_counted_41 : decode cX3_counted 41 = .ok (.iastore, 1) := by decide +kernel
theorem dX3_counted_42 : decode cX3_counted 42 = .ok (.iload_n 2, 1) := by decide +kernel
theorem dX3_counted_43 : decode cX3_counted 43 = .ok (.iload 4, 2) := by decide +kernel
theorem dX3_counted_45 : decode cX3_counted 45 = .ok (.ior, 1) := by decide +kernel
theorem dX3_counted_46 : decode cX3_counted 46 = .ok (.istore_n 2, 1) := by decide +kernel
theorem dX3_counted_47 : decode cX3_counted 47 = .ok (.aload_n 0, 1) := by decide +kernel
theorem dX3_counted_48 : decode cX3_counted 48 = .ok (.iload_n 3, 1) := by decide +kernel
theorem dX3_counted_49 : decode cX3_counted 49 = .ok (.iload 4, 2) := by decide +kernel
theorem dX3_counted_51 : decode cX3_counted 51 = .ok (.aload_n 0, 1) := by decide +kernel
theorem dX3_counted_52 : decode cX3_counted 52 = .ok (.getfield 24, 3) := by decide +kernel
theorem dX3_counted_55 : decode cX3_counted 55 = .ok (.iload_n 1, 1) := by decide +kernel
theorem dX3_counted_56 : decode cX3_counted 56 = .ok (.iconst 1, 1) := by decide +kernel
theorem dX3_counted_57 : decode cX3_counted 57 = .ok (.iload_n 3, 1) := by decide +kernel
theorem dX3_counted_58 : decode cX3_counted 58 = .ok (.ishl, 1) := by decide +kernel
theorem dX3_counted_59 : decode cX3_counted 59 = .ok (.iconst (-1), 1) := by decide +kernel
theorem dX3_counted_60 : decode cX3_counted 60 = .ok (.ixor, 1) := by decide +kernel
theorem dX3_counted_61 : decode cX3_counted 61 = .ok (.iand, 1) := by decide +kernel
theorem dX3_counted_62 : decode cX3_counted 62 = .ok (.invokevirtual 107, 3) := by decide +kernel
theorem dX3_counted_65 : decode cX3_counted 65 = .ok (.iand, 1) := by decide +kernel
theorem dX3_counted_66 : decode cX3_counted 66 = .ok (.invokestatic 104, 3) := by decide +kernel
theorem dX3_counted_69 : decode cX3_counted 69 = .ok (.invokevirtual 110, 3) := by decide +kernel
theorem dX3_counted_72 : decode cX3_counted 72 = .ok (.iinc 3 1, 3) := by decide +kernel
theorem dX3_counted_75 : decode cX3_counted 75 = .ok (.goto (-71), 3) := by decide +kernel
theorem dX3_counted_78 : decode cX3_counted 78 = .ok (.aload_n 0, 1) := by decide +kernel
theorem dX3_counted_79 : decode cX3_counted 79 = .ok (.iload_n 1, 1) := by decide +kernel
theorem dX3_counted_80 : decode cX3_counted 80 = .ok (.iconst 0, 1) := by decide +kernel
theorem dX3_counted_81 : decode cX3_counted 81 = .ok (.iconst 0, 1) := by decide +kernel
theorem dX3_counted_82 : decode cX3_counted 82 = .ok (.invokevirtual 114, 3) := by decide +kernel
theorem dX3_counted_85 : decode cX3_counted 85 = .ok (.ireturn, 1) := by decide +kernel
theorem dX3_weigh_0 : decode cX3_weigh 0 = .ok (.iload_n 1, 1) := by decide +kernel
theorem dX3_weigh_1 : decode cX3_weigh 1 = .ok (.bipush 8, 2) := by decide +kernel
theorem dX3_weigh_3 : decode cX3_weigh 3 = .ok (.imul, 1) := by decide +kernel
theorem dX3_weigh_4 : decode cX3_weigh 4 = .ok (.istore_n 3, 1) := by decide +kernel
theorem dX3_weigh_5 : decode cX3_weigh 5 = .ok (.iconst 0, 1) := by decide +kernel
theorem dX3_weigh_6 : decode cX3_weigh 6 = .ok (.istore 4, 2) := by decide +kernel
theorem dX3_weigh_8 : decode cX3_weigh 8 = .ok (.iload 4, 2) := by decide +kernel
theorem dX3_weigh_10 : decode cX3_weigh 10 = .ok (.bipush 8, 2) := by decide +kernel
theorem dX3_weigh_12 : decode cX3_weigh 12 = .ok (.if_icmp .ge 66, 3) := by decide +kernel
theorem dX3_weigh_15 : decode cX3_weigh 15 = .ok (.aload_n 0, 1) := by decide +kernel
theorem dX3_weigh_16 : decode cX3_weigh 16 = .ok (.getfield 15, 3) := by decide +kernel
theorem dX3_weigh_19 : decode cX3_weigh 19 = .ok (.iload_n 3, 1) := by decide +kernel
theorem dX3_weigh_20 : decode cX3_weigh 20 = .ok (.iload 4, 2) := by decide +kernel
theorem dX3_weigh_22 : decode cX3_weigh 22 = .ok (.iadd, 1) := by decide +kernel
theorem dX3_weigh_23 : decode cX3_weigh 23 = .ok (.iconst 0, 1) := by decide +kernel
theorem dX3_weigh_24 : decode cX3_weigh 24 = .ok (.iastore, 1) := by decide +kernel
theorem dX3_weigh_25 : decode cX3_weigh 25 = .ok (.iload 4, 2) := by decide +kernel
theorem dX3_weigh_27 : decode cX3_weigh 27 = .ok (.aload_n 0, 1) := by decide +kernel
theorem dX3_weigh_28 : decode cX3_weigh 28 = .ok (.getfield 24, 3) := by decide +kernel
theorem dX3_weigh_31 : decode cX3_weigh 31 = .ok (.iload_n 1, 1) := by decide +kernel
theorem dX3_weigh_32 : decode cX3_weigh 32 = .ok (.invokevirtual 64, 3) := by decide +kernel
theorem dX3_weigh_35 : decode cX3_weigh 35 = .ok (.if_icmp .ge 37, 3) := by decide +kernel
theorem dX3_weigh_38 : decode cX3_weigh 38 = .ok (.aload_n 0, 1) := by decide +kernel
theorem dX3_weigh_39 : decode cX3_weigh 39 = .ok (.getfield 9, 3) := by decide +kernel
theorem dX3_weigh_42 : decode cX3_weigh 42 = .ok (.iload_n 1, 1) := by decide +kernel
theorem dX3_weigh_43 : decode cX3_weigh 43 = .ok (.iaload, 1) := by decide +kernel
theorem dX3_weigh_44 : decode cX3_weigh 44 = .ok (.iload 4, 2) := by decide +kernel
theorem dX3_weigh_46 : decode cX3_weigh 46 = .ok (.ishr, 1) := by decide +kernel
theorem dX3_weigh_47 : decode cX3_weigh 47 = .ok (.iconst 1, 1) := by decide +kernel
theorem dX3_weigh_48 : decode cX3_weigh 48 = .ok (.iand, 1) := by decide +kernel
theorem dX3_weigh_49 : decode cX3_weigh 49 = .ok (.iconst 1, 1) := by decide +kernel
theorem dX3_weigh_50 : decode cX3_weigh 50 = .ok (.if_icmp .ne 22, 3) := by decide +kernel
theorem dX3_weigh_53 : decode cX3_weigh 53 = .ok (.aload_n 0, 1) := by decide +kernel
theorem dX3_weigh_54 : decode cX3_weigh 54 = .ok (.getfield 15, 3) := by decide +kernel
theorem dX3_weigh_57 : decode cX3_weigh 57 = .ok (.iload_n 3, 1) := by decide +kernel
theorem dX3_weigh_58 : decode cX3_weigh 58 = .ok (.aload_n 0, 1) := by decide +kernel
theorem dX3_weigh_59 : decode cX3_weigh 59 = .ok (.iload_n 1, 1) := by decide +kernel
theorem dX3_weigh_60 : decode cX3_weigh 60 = .ok (.iload 4, 2) := by decide +kernel
theorem dX3_weigh_62 : decode cX3_weigh 62 = .ok (.iload_n 2, 1) := by decide +kernel
theorem dX3_weigh_63 : decode cX3_weigh 63 = .ok (.invokevirtual 117, 3) := by decide +kernel
theorem dX3_weigh_66 : decode cX3_weigh 66 = .ok (.iadd, 1) := by decide +kernel
theorem dX3_weigh_67 : decode cX3_weigh 67 = .ok (.dup2, 1) := by decide +kernel
theorem dX3_weigh_68 : decode cX3_weigh 68 = .ok (.iaload, 1) := by decide +kernel
theorem dX3_weigh_69 : decode cX3_weigh 69 = .ok (.iconst 1, 1) := by decide +kernel
theorem dX3_weigh_70 : decode cX3_weigh 70 = .ok (.iadd, 1) := by decide +kernel
theorem dX3_weigh_71 : decode cX3_weigh 71 = .ok (.iastore, 1) := by decide +kernel
theorem dX3_weigh_72 : decode cX3_weigh 72 = .ok (.iinc 4 1, 3) := by decide +kernel
theorem dX3_weigh_75 : decode cX3_weigh 75 = .ok (.goto (-67), 3) := by decide +kernel
theorem dX3_weigh_78 : decode cX3_weigh 78 = .ok (.return_, 1) := by decide +kernel
theorem dX3_firstLike_0 : decode cX3_firstLike 0 = .ok (.aload_n 0, 1) := by decide +kernel
theorem dX3_firstLike_1 : decode cX3_firstLike 1 = .ok (.getfield 24, 3) := by decide +kernel
theorem dX3_firstLike_4 : decode cX3_firstLike 4 = .ok (.iload_n 1, 1) := by decide +kernel
theorem dX3_firstLike_5 : decode cX3_firstLike 5 = .ok (.iload_n 2, 1) := by decide +kernel
theorem dX3_firstLike_6 : decode cX3_firstLike 6 = .ok (.invokevirtual 87, 3) := by decide +kernel
theorem dX3_firstLike_9 : decode cX3_firstLike 9 = .ok (.istore 4, 2) := by decide +kernel
theorem dX3_firstLike_11 : decode cX3_firstLike 11 = .ok (.iconst 0, 1) := by decide +kernel
theorem dX3_firstLike_12 : decode cX3_firstLike 12 = .ok (.istore 5, 2) := by decide +kernel
theorem dX3_firstLike_14 : decode cX3_firstLike 14 = .ok (.iload 5, 2) := by decide +kernel
theorem dX3_firstLike_16 : decode cX3_firstLike 16 = .ok (.iload_n 2, 1) := by decide +kernel
theorem dX3_firstLike_17 : decode cX3_firstLike 17 = .ok (.if_icmp .ge 45, 3) := by decide +kernel
theorem dX3_firstLike_20 : decode cX3_firstLike 20 = .ok (.aload_n 0, 1) := by decide +kernel
theorem dX3_firstLike_21 : decode cX3_firstLike 21 = .ok (.getfield 15, 3) := by decide +kernel
theorem dX3_firstLike_24 : decode cX3_firstLike 24 = .ok (.iload_n 1, 1) := by decide +kernel
theorem dX3_firstLike_25 : decode cX3_firstLike 25 = .ok (.bipush 8, 2) := by decide +kernel
theorem dX3_firstLike_27 : decode cX3_firstLike 27 = .ok (.imul, 1) := by decide +kernel
theorem dX3_firstLike_28 : decode cX3_firstLike 28 = .ok (.iload 5, 2) := by decide +kernel
theorem dX3_firstLike_30 : decode cX3_firstLike 30 = .ok (.iadd, 1) := by decide +kernel
theorem dX3_firstLike_31 : decode cX3_firstLike 31 = .ok (.iaload, 1) := by decide +kernel
theorem dX3_firstLike_32 : decode cX3_firstLike 32 = .ok (.ifCond .le 24, 3) := by decide +kernel
theorem dX3_firstLike_35 : decode cX3_firstLike 35 = .ok (.iload 4, 2) := by decide +kernel
theorem dX3_firstLike_37 : decode cX3_firstLike 37 = .ok (.aload_n 0, 1) := by decide +kernel
theorem dX3_firstLike_38 : decode cX3_firstLike 38 = .ok (.getfield 24, 3) := by decide +kernel
theorem dX3_firstLike_41 : decode cX3_firstLike 41 = .ok (.iload_n 1, 1) := by decide +kernel
theorem dX3_firstLike_42 : decode cX3_firstLike 42 = .ok (.iload 5, 2) := by decide +kernel
theorem dX3_firstLike_44 : decode cX3_firstLike 44 = .ok (.invokevirtual 87, 3) := by decide +kernel
theorem dX3_firstLike_47 : decode cX3_firstLike 47 = .ok (.ixor, 1) := by decide +kernel
theorem dX3_firstLike_48 : decode cX3_firstLike 48 = .ok (.iload_n 3, 1) := by decide +kernel
theorem dX3_firstLike_49 : decode cX3_firstLike 49 = .ok (.iand, 1) := by decide +kernel
theorem dX3_firstLike_50 : decode cX3_firstLike 50 = .ok (.ifCond .ne 6, 3) := by decide +kernel
theorem dX3_firstLike_53 : decode cX3_firstLike 53 = .ok (.iload 5, 2) := by decide +kernel
theorem dX3_firstLike_55 : decode cX3_firstLike 55 = .ok (.ireturn, 1) := by decide +kernel
theorem dX3_firstLike_56 : decode cX3_firstLike 56 = .ok (.iinc 5 1, 3) := by decide +kernel
theorem dX3_firstLike_59 : decode cX3_firstLike 59 = .ok (.goto (-45), 3) := by decide +kernel
theorem dX3_firstLike_62 : decode cX3_firstLike 62 = .ok (.iload_n 2, 1) := by decide +kernel
theorem dX3_firstLike_63 : decode cX3_firstLike 63 = .ok (.ireturn, 1) := by decide +kernel
theorem dX3_countFrom_0 : decode cX3_countFrom 0 = .ok (.iload_n 2, 1) := by decide +kernel
theorem dX3_countFrom_1 : decode cX3_countFrom 1 = .ok (.ifCond .lt 9, 3) := by decide +kernel
theorem dX3_countFrom_4 : decode cX3_countFrom 4 = .ok (.iload_n 2, 1) := by decide +kernel
theorem dX3_countFrom_5 : decode cX3_countFrom 5 = .ok (.bipush 6, 2) := by decide +kernel
theorem dX3_countFrom_7 : decode cX3_countFrom 7 = .ok (.if_icmp .lt 5, 3) := by decide +kernel
theorem dX3_countFrom_10 : decode cX3_countFrom 10 = .ok (.iconst 1, 1) := by decide +kernel
theorem dX3_countFrom_11 : decode cX3_countFrom 11 = .ok (.ireturn, 1) := by decide +kernel
theorem dX3_countFrom_12 : decode cX3_countFrom 12 = .ok (.iload_n 1, 1) := by decide +kernel
theorem dX3_countFrom_13 : decode cX3_countFrom 13 = .ok (.iload_n 2, 1) := by decide +kernel
theorem dX3_countFrom_14 : decode cX3_countFrom 14 = .ok (.ishr, 1) := by decide +kernel
theorem dX3_countFrom_15 : decode cX3_countFrom 15 = .ok (.iconst 1, 1) := by decide +kernel
theorem dX3_countFrom_16 : decode cX3_countFrom 16 = .ok (.iand, 1) := by decide +kernel
theorem dX3_countFrom_17 : decode cX3_countFrom 17 = .ok (.ifCond .ne 13, 3) := by decide +kernel
theorem dX3_countFrom_20 : decode cX3_countFrom 20 = .ok (.aload_n 0, 1) := by decide +kernel
theorem dX3_countFrom_21 : decode cX3_countFrom 21 = .ok (.iload_n 1, 1) := by decide +kernel
theorem dX3_countFrom_22 : decode cX3_countFrom 22 = .ok (.iload_n 2, 1) := by decide +kernel
theorem dX3_countFrom_23 : decode cX3_countFrom 23 = .ok (.iconst 1, 1) := by decide +kernel
theorem dX3_countFrom_24 : decode cX3_countFrom 24 = .ok (.iadd, 1) := by decide +kernel
theorem dX3_countFrom_25 : decode cX3_countFrom 25 = .ok (.iload_n 3, 1) := by decide +kernel
theorem dX3_countFrom_26 : decode cX3_countFrom 26 = .ok (.invokevirtual 114, 3) := by decide +kernel
theorem dX3_countFrom_29 : decode cX3_countFrom 29 = .ok (.ireturn, 1) := by decide +kernel
theorem dX3_countFrom_30 : decode cX3_countFrom 30 = .ok (.iconst 0, 1) := by decide +kernel
theorem dX3_countFrom_31 : decode cX3_countFrom 31 = .ok (.istore 4, 2) := by decide +kernel
theorem dX3_countFrom_33 : decode cX3_countFrom 33 = .ok (.iconst 0, 1) := by decide +kernel
theorem dX3_countFrom_34 : decode cX3_countFrom 34 = .ok (.istore 5, 2) := by decide +kernel
theorem dX3_countFrom_36 : decode cX3_countFrom 36 = .ok (.iload 5, 2) := by decide +kernel
theorem dX3_countFrom_38 : decode cX3_countFrom 38 = .ok (.bipush 8, 2) := by decide +kernel
theorem dX3_countFrom_40 : decode cX3_countFrom 40 = .ok (.if_icmp .ge 74, 3) := by decide +kernel
theorem dX3_countFrom_43 : decode cX3_countFrom 43 = .ok (.aload_n 0, 1) := by decide +kernel
theorem dX3_countFrom_44 : decode cX3_countFrom 44 = .ok (.getfield 15, 3) := by decide +kernel
theorem dX3_countFrom_47 : decode cX3_countFrom 47 = .ok (.iload_n 2, 1) := by decide +kernel
theorem dX3_countFrom_48 : decode cX3_countFrom 48 = .ok (.bipush 8, 2) := by decide +kernel
theorem dX3_countFrom_50 : decode cX3_countFrom 50 = .ok (.imul, 1) := by decide +kernel
theorem dX3_countFrom_51 : decode cX3_countFrom 51 = .ok (.iload 5, 2) := by decide +kernel
theorem dX3_countFrom_53 : decode cX3_countFrom 53 = .ok (.iadd, 1) := by decide +kernel
theorem dX3_countFrom_54 : decode cX3_countFrom 54 = .ok (.iaload, 1) := by decide +kernel
theorem dX3_countFrom_55 : decode cX3_countFrom 55 = .ok (.istore 6, 2) := by decide +kernel
theorem dX3_countFrom_57 : decode cX3_countFrom 57 = .ok (.aload_n 0, 1) := by decide +kernel
theorem dX3_countFrom_58 : decode cX3_countFrom 58 = .ok (.getfield 24, 3) := by decide +kernel
theorem dX3_countFrom_61 : decode cX3_countFrom 61 = .ok (.iload_n 2, 1) := by decide +kernel
theorem dX3_countFrom_62 : decode cX3_countFrom 62 = .ok (.iload 5, 2) := by decide +kernel
theorem dX3_countFrom_64 : decode cX3_countFrom 64 = .ok (.invokevirtual 87, 3) := by decide +kernel
theorem dX3_countFrom_67 : decode cX3_countFrom 67 = .ok (.istore 7, 2) := by decide +kernel
theorem dX3_countFrom_69 : decode cX3_countFrom 69 = .ok (.iload 6, 2) := by decide +kernel
theorem dX3_countFrom_71 : decode cX3_countFrom 71 = .ok (.ifCond .le 37, 3) := by decide +kernel
theorem dX3_countFrom_74 : decode cX3_countFrom 74 = .ok (.iload 7, 2) := by decide +kernel
theorem dX3_countFrom_76 : decode cX3_countFrom 76 = .ok (.iload_n 3, 1) := by decide +kernel
theorem dX3_countFrom_77 : decode cX3_countFrom 77 = .ok (.ixor, 1) := by decide +kernel
theorem dX3_countFrom_78 : decode cX3_countFrom 78 = .ok (.aload_n 0, 1) := by decide +kernel
theorem dX3_countFrom_79 : decode cX3_countFrom 79 = .ok (.getfield 18, 3) := by decide +kernel
theorem dX3_countFrom_82 : decode cX3_countFrom 82 = .ok (.iload_n 2, 1) := by decide +kernel
theorem dX3_countFrom_83 : decode cX3_countFrom 83 = .ok (.iaload, 1) := by decide +kernel
theorem dX3_countFrom_84 : decode cX3_countFrom 84 = .ok (.iand, 1) := by decide +kernel
theorem dX3_countFrom_85 : decode cX3_countFrom 85 = .ok (.ifCond .ne 23, 3) := by decide +kernel
theorem dX3_countFrom_88 : decode cX3_countFrom 88 = .ok (.iload 4, 2) := by decide +kernel
theorem dX3_countFrom_90 : decode cX3_countFrom 90 = .ok (.iload 6, 2) := by decide +kernel
theorem dX3_countFrom_92 : decode cX3_countFrom 92 = .ok (.aload_n 0, 1) := by decide +kernel
theorem dX3_countFrom_93 : decode cX3_countFrom 93 = .ok (.iload_n 1, 1) := by decide +kernel
theorem dX3_countFrom_94 : decode cX3_countFrom 94 = .ok (.iload_n 2, 1) := by decide +kernel
theorem dX3_countFrom_95 : decode cX3_countFrom 95 = .ok (.iconst 1, 1) := by decide +kernel
theorem dX3_countFrom_96 : decode cX3_countFrom 96 = .ok (.iadd, 1) := by decide +kernel
theorem dX3_countFrom_97 : decode cX3_countFrom 97 = .ok (.iload_n 3, 1) := by decide +kernel
theorem dX3_countFrom_98 : decode cX3_countFrom 98 = .ok (.iload 7, 2) := by decide +kernel
theorem dX3_countFrom_100 : decode cX3_countFrom 100 = .ok (.ior, 1) := by decide +kernel
theorem dX3_countFrom_101 : decode cX3_countFrom 101 = .ok (.invokevirtual 114, 3) := by decide +kernel
theorem dX3_countFrom_104 : decode cX3_countFrom 104 = .ok (.imul, 1) := by decide +kernel
theorem dX3_countFrom_105 : decode cX3_countFrom 105 = .ok (.iadd, 1) := by decide +kernel
theorem dX3_countFrom_106 : decode cX3_countFrom 106 = .ok (.istore 4, 2) := by decide +kernel
theorem dX3_countFrom_108 : decode cX3_countFrom 108 = .ok (.iinc 5 1, 3) := by decide +kernel
theorem dX3_countFrom_111 : decode cX3_countFrom 111 = .ok (.goto (-75), 3) := by decide +kernel
theorem dX3_countFrom_114 : decode cX3_countFrom 114 = .ok (.iload 4, 2) := by decide +kernel
theorem dX3_countFrom_116 : decode cX3_countFrom 116 = .ok (.ireturn, 1) := by decide +kernel
theorem dX4_codeOf_0 : decode cX4_codeOf 0 = .ok (.iconst 0, 1) := by decide +kernel
theorem dX4_codeOf_1 : decode cX4_codeOf 1 = .ok (.istore 4, 2) := by decide +kernel
theorem dX4_codeOf_3 : decode cX4_codeOf 3 = .ok (.iconst 0, 1) := by decide +kernel
theorem dX4_codeOf_4 : decode cX4_codeOf 4 = .ok (.istore 5, 2) := by decide +kernel
theorem dX4_codeOf_6 : decode cX4_codeOf 6 = .ok (.iconst 0, 1) := by decide +kernel
theorem dX4_codeOf_7 : decode cX4_codeOf 7 = .ok (.istore 6, 2) := by decide +kernel
theorem dX4_codeOf_9 : decode cX4_codeOf 9 = .ok (.iload 6, 2) := by decide +kernel
theorem dX4_codeOf_11 : decode cX4_codeOf 11 = .ok (.bipush 8, 2) := by decide +kernel
theorem dX4_codeOf_13 : decode cX4_codeOf 13 = .ok (.if_icmp .ge 56, 3) := by decide +kernel
theorem dX4_codeOf_16 : decode cX4_codeOf 16 = .ok (.iload_n 0, 1) := by decide +kernel
theorem dX4_codeOf_17 : decode cX4_codeOf 17 = .ok (.iload 6, 2) := by decide +kernel
theorem dX4_codeOf_19 : decode cX4_codeOf 19 = .ok (.ishr, 1) := by decide +kernel
theorem dX4_codeOf_20 : decode cX4_codeOf 20 = .ok (.iconst 1, 1) := by decide +kernel
theorem dX4_codeOf_21 : decode cX4_codeOf 21 = .ok (.iand, 1) := by decide +kernel
theorem dX4_codeOf_22 : decode cX4_codeOf 22 = .ok (.iconst 1, 1) := by decide +kernel
theorem dX4_codeOf_23 : decode cX4_codeOf 23 = .ok (.if_icmp .ne 40, 3) := by decide +kernel
theorem dX4_codeOf_26 : decode cX4_codeOf 26 = .ok (.iload 5, 2) := by decide +kernel
theorem dX4_codeOf_28 : decode cX4_codeOf 28 = .ok (.ifCond .ne 7, 3) := by decide +kernel
theorem dX4_codeOf_31 : decode cX4_codeOf 31 = .ok (.iload_n 1, 1) := by decide +kernel
theorem dX4_codeOf_32 : decode cX4_codeOf 32 = .ok (.goto 14, 3) := by decide +kernel
theorem dX4_codeOf_35 : decode cX4_codeOf 35 = .ok (.iload 5, 2) := by decide +kernel
theorem dX4_codeOf_37 : decode cX4_codeOf 37 = .ok (.iconst 1, 1) := by decide +kernel
theorem dX4_codeOf_38 : decode cX4_codeOf 38 = .ok (.if_icmp .ne 7, 3) := by decide +kernel
theorem dX4_codeOf_41 : decode cX4_codeOf 41 = .ok (.iload_n 2, 1) := by decide +kernel
theorem dX4_codeOf_42 : decode cX4_codeOf 42 = .ok (.goto 4, 3) := by decide +kernel
theorem dX4_codeOf_45 : decode cX4_codeOf 45 = .ok (.iload_n 3, 1) := by decide +kernel
theorem dX4_codeOf_46 : decode cX4_codeOf 46 = .ok (.istore 7, 2) := by decide +kernel
theorem dX4_codeOf_48 : decode cX4_codeOf 48 = .ok (.iload 4, 2) := by decide +kernel
theorem dX4_codeOf_50 : decode cX4_codeOf 50 = .ok (.iload 7, 2) := by decide +kernel
theorem dX4_codeOf_52 : decode cX4_codeOf 52 = .ok (.iconst 4, 1) := by decide +kernel
theorem dX4_codeOf_53 : decode cX4_codeOf 53 = .ok (.iload 6, 2) := by decide +kernel
theorem dX4_codeOf_55 : decode cX4_codeOf 55 = .ok (.imul, 1) := by decide +kernel
theorem dX4_codeOf_56 : decode cX4_codeOf 56 = .ok (.ishl, 1) := by decide +kernel
theorem dX4_codeOf_57 : decode cX4_codeOf 57 = .ok (.ior, 1) := by decide +kernel
theorem dX4_codeOf_58 : decode cX4_codeOf 58 = .ok (.istore 4, 2) := by decide +kernel
theorem dX4_codeOf_60 : decode cX4_codeOf 60 = .ok (.iinc 5 1, 3) := by decide +kernel
theorem dX4_codeOf_63 : decode cX4_codeOf 63 = .ok (.iinc 6 1, 3) := by decide +kernel
theorem dX4_codeOf_66 : decode cX4_codeOf 66 = .ok (.goto (-57), 3) := by decide +kernel
theorem dX4_codeOf_69 : decode cX4_codeOf 69 = .ok (.iload 4, 2) := by decide +kernel
theorem dX4_codeOf_71 : decode cX4_codeOf 71 = .ok (.ireturn, 1) := by decide +kernel
theorem dX4_numberIn_0 : decode cX4_numberIn 0 = .ok (.iload_n 0, 1) := by decide +kernel
theorem dX4_numberIn_1 : decode cX4_numberIn 1 = .ok (.iconst 4, 1) := by decide +kernel
theorem dX4_numberIn_2 : decode cX4_numberIn 2 = .ok (.iload_n 1, 1) := by decide +kernel
theorem dX4_numberIn_3 : decode cX4_numberIn 3 = .ok (.imul, 1) := by decide +kernel
theorem dX4_numberIn_4 : decode cX4_numberIn 4 = .ok (.iushr, 1) := by decide +kernel
theorem dX4_numberIn_5 : decode cX4_numberIn 5 = .ok (.bipush 15, 2) := by decide +kernel
theorem dX4_numberIn_7 : decode cX4_numberIn 7 = .ok (.iand, 1) := by decide +kernel
theorem dX4_numberIn_8 : decode cX4_numberIn 8 = .ok (.ireturn, 1) := by decide +kernel
theorem dX4_maskOf_0 : decode cX4_maskOf 0 = .ok (.iconst 0, 1) := by decide +kernel
theorem dX4_maskOf_1 : decode cX4_maskOf 1 = .ok (.istore_n 1, 1) := by decide +kernel
theorem dX4_maskOf_2 : decode cX4_maskOf 2 = .ok (.iconst 0, 1) := by decide +kernel
theorem dX4_maskOf_3 : decode cX4_maskOf 3 = .ok (.istore_n 2, 1) := by decide +kernel
theorem dX4_maskOf_4 : decode cX4_maskOf 4 = .ok (.iload_n 2, 1) := by decide +kernel
theorem dX4_maskOf_5 : decode cX4_maskOf 5 = .ok (.bipush 8, 2) := by decide +kernel
theorem dX4_maskOf_7 : decode cX4_maskOf 7 = .ok (.if_icmp .ge 27, 3) := by decide +kernel
theorem dX4_maskOf_10 : decode cX4_maskOf 10 = .ok (.iload_n 0, 1) := by decide +kernel
theorem dX4_maskOf_11 : decode cX4_maskOf 11 = .ok (.iload_n 2, 1) := by decide +kernel
theorem dX4_maskOf_12 : decode cX4_maskOf 12 = .ok (.ishr, 1) := by decide +kernel
theorem dX4_maskOf_13 : decode cX4_maskOf 13 = .ok (.iconst 1, 1) := by decide +kernel
theorem dX4_maskOf_14 : decode cX4_maskOf 14 = .ok (.iand, 1) := by decide +kernel
theorem dX4_maskOf_15 : decode cX4_maskOf 15 = .ok (.iconst 1, 1) := by decide +kernel
theorem dX4_maskOf_16 : decode cX4_maskOf 16 = .ok (.if_icmp .ne 12, 3) := by decide +kernel
theorem dX4_maskOf_19 : decode cX4_maskOf 19 = .ok (.iload_n 1, 1) := by decide +kernel
theorem dX4_maskOf_20 : decode cX4_maskOf 20 = .ok (.bipush 15, 2) := by decide +kernel
theorem dX4_maskOf_22 : decode cX4_maskOf 22 = .ok (.iconst 4, 1) := by decide +kernel
theorem dX4_maskOf_23 : decode cX4_maskOf 23 = .ok (.iload_n 2, 1) := by decide +kernel
theorem dX4_maskOf_24 : decode cX4_maskOf 24 = .ok (.imul, 1) := by decide +kernel
theorem dX4_maskOf_25 : decode cX4_maskOf 25 = .ok (.ishl, 1) := by decide +kernel
theorem dX4_maskOf_26 : decode cX4_maskOf 26 = .ok (.ior, 1) := by decide +kernel
theorem dX4_maskOf_27 : decode cX4_maskOf 27 = .ok (.istore_n 1, 1) := by decide +kernel
theorem dX4_maskOf_28 : decode cX4_maskOf 28 = .ok (.iinc 2 1, 3) := by decide +kernel
theorem dX4_maskOf_31 : decode cX4_maskOf 31 = .ok (.goto (-27), 3) := by decide +kernel
theorem dX4_maskOf_34 : decode cX4_maskOf 34 = .ok (.iload_n 1, 1) := by decide +kernel
theorem dX4_maskOf_35 : decode cX4_maskOf 35 = .ok (.ireturn, 1) := by decide +kernel
theorem dX5_roundedUp_0 : decode cX5_roundedUp 0 = .ok (.iload_n 1, 1) := by decide +kernel
theorem dX5_roundedUp_1 : decode cX5_roundedUp 1 = .ok (.iconst 1, 1) := by decide +kernel
theorem dX5_roundedUp_2 : decode cX5_roundedUp 2 = .ok (.if_icmp .ge 7, 3) := by decide +kernel
theorem dX5_roundedUp_5 : decode cX5_roundedUp 5 = .ok (.iconst 0, 1) := by decide +kernel
theorem dX5_roundedUp_6 : decode cX5_roundedUp 6 = .ok (.goto 10, 3) := by decide +kernel
theorem dX5_roundedUp_9 : decode cX5_roundedUp 9 = .ok (.iload_n 0, 1) := by decide +kernel
theorem dX5_roundedUp_10 : decode cX5_roundedUp 10 = .ok (.iload_n 1, 1) := by decide +kernel
theorem dX5_roundedUp_11 : decode cX5_roundedUp 11 = .ok (.iadd, 1) := by decide +kernel
theorem dX5_roundedUp_12 : decode cX5_roundedUp 12 = .ok (.iconst 1, 1) := by decide +kernel
theorem dX5_roundedUp_13 : decode cX5_roundedUp 13 = .ok (.isub, 1) := by decide +kernel
theorem dX5_roundedUp_14 : decode cX5_roundedUp 14 = .ok (.iload_n 1, 1) := by decide +kernel
theorem dX5_roundedUp_15 : decode cX5_roundedUp 15 = .ok (.idiv, 1) := by decide +kernel
theorem dX5_roundedUp_16 : decode cX5_roundedUp 16 = .ok (.ireturn, 1) := by decide +kernel
theorem dX5_loops_0 : decode cX5_loops 0 = .ok (.iload_n 2, 1) := by decide +kernel
theorem dX5_loops_1 : decode cX5_loops 1 = .ok (.iconst 2, 1) := by decide +kernel
theorem dX5_loops_2 : decode cX5_loops 2 = .ok (.isub, 1) := by decide +kernel
theorem dX5_loops_3 : decode cX5_loops 3 = .ok (.istore_n 3, 1) := by decide +kernel
theorem dX5_loops_4 : decode cX5_loops 4 = .ok (.iload_n 0, 1) := by decide +kernel
theorem dX5_loops_5 : decode cX5_loops 5 = .ok (.iload_n 3, 1) := by decide +kernel
theorem dX5_loops_6 : decode cX5_loops 6 = .ok (.if_icmp .le 15, 3) := by decide +kernel
theorem dX5_loops_9 : decode cX5_loops 9 = .ok (.iload_n 1, 1) := by decide +kernel
theorem dX5_loops_10 : decode cX5_loops 10 = .ok (.iload_n 0, 1) := by decide +kernel
theorem dX5_loops_11 : decode cX5_loops 11 = .ok (.iload_n 3, 1) := by decide +kernel
theorem dX5_loops_12 : decode cX5_loops 12 = .ok (.invokestatic 7, 3) := by decide +kernel
theorem dX5_loops_15 : decode cX5_loops 15 = .ok (.iconst 1, 1) := by decide +kernel
theorem dX5_loops_16 : decode cX5_loops 16 = .ok (.isub, 1) := by decide +kernel
theorem dX5_loops_17 : decode cX5_loops 17 = .ok (.imul, 1) := by decide +kernel
theorem dX5_loops_18 : decode cX5_loops 18 = .ok (.goto 4, 3) := by decide +kernel
theorem dX5_loops_21 : decode cX5_loops 21 = .ok (.iconst 0, 1) := by decide +kernel
theorem dX5_loops_22 : decode cX5_loops 22 = .ok (.ireturn, 1) := by decide +kernel
theorem dX5_parts_0 : decode cX5_parts 0 = .ok (.iload_n 0, 1) := by decide +kernel
theorem dX5_parts_1 : decode cX5_parts 1 = .ok (.iload_n 1, 1) := by decide +kernel
theorem dX5_parts_2 : decode cX5_parts 2 = .ok (.invokestatic 13, 3) := by decide +kernel
theorem dX5_parts_5 : decode cX5_parts 5 = .ok (.iload_n 2, 1) := by decide +kernel
theorem dX5_parts_6 : decode cX5_parts 6 = .ok (.iconst 2, 1) := by decide +kernel
theorem dX5_parts_7 : decode cX5_parts 7 = .ok (.isub, 1) := by decide +kernel
theorem dX5_parts_8 : decode cX5_parts 8 = .ok (.if_icmp .le 11, 3) := by decide +kernel
theorem dX5_parts_11 : decode cX5_parts 11 = .ok (.iconst 2, 1) := by decide +kernel
theorem dX5_parts_12 : decode cX5_parts 12 = .ok (.iload_n 0, 1) := by decide +kernel
theorem dX5_parts_13 : decode cX5_parts 13 = .ok (.iload_n 1, 1) := by decide +kernel
theorem dX5_parts_14 : decode cX5_parts 14 = .ok (.iadd, 1) := by decide +kernel
theorem dX5_parts_15 : decode cX5_parts 15 = .ok (.imul, 1) := by decide +kernel
theorem dX5_parts_16 : decode cX5_parts 16 = .ok (.goto 4, 3) := by decide +kernel
theorem dX5_parts_19 : decode cX5_parts 19 = .ok (.iconst 0, 1) := by decide +kernel
theorem dX5_parts_20 : decode cX5_parts 20 = .ok (.ireturn, 1) := by decide +kernel
theorem dX5_sorting_0 : decode cX5_sorting 0 = .ok (.iload_n 0, 1) := by decide +kernel
theorem dX5_sorting_1 : decode cX5_sorting 1 = .ok (.ifCond .gt 5, 3) := by decide +kernel
theorem dX5_sorting_4 : decode cX5_sorting 4 = .ok (.iconst 0, 1) := by decide +kernel
theorem dX5_sorting_5 : decode cX5_sorting 5 = .ok (.ireturn, 1) := by decide +kernel
theorem dX5_sorting_6 : decode cX5_sorting 6 = .ok (.iload_n 0, 1) := by decide +kernel
theorem dX5_sorting_7 : decode cX5_sorting 7 = .ok (.iload_n 1, 1) := by decide +kernel
theorem dX5_sorting_8 : decode cX5_sorting 8 = .ok (.invokestatic 7, 3) := by decide +kernel
theorem dX5_sorting_11 : decode cX5_sorting 11 = .ok (.istore_n 2, 1) := by decide +kernel
theorem dX5_sorting_12 : decode cX5_sorting 12 = .ok (.iconst 1, 1) := by decide +kernel
theorem dX5_sorting_13 : decode cX5_sorting 13 = .ok (.istore_n 3, 1) := by decide +kernel
theorem dX5_sorting_14 : decode cX5_sorting 14 = .ok (.iload_n 2, 1) := by decide +kernel
theorem dX5_sorting_15 : decode cX5_sorting 15 = .ok (.iconst 1, 1) := by decide +kernel
theorem dX5_sorting_16 : decode cX5_sorting 16 = .ok (.if_icmp .le 23, 3) := by decide +kernel
theorem dX5_sorting_19 : decode cX5_sorting 19 = .ok (.iload_n 3, 1) := by decide +kernel
theorem dX5_sorting_20 : decode cX5_sorting 20 = .ok (.bipush 32, 2) := by decide +kernel
theorem dX5_sorting_22 : decode cX5_sorting 22 = .ok (.if_icmp .ge 17, 3) := by decide +kernel
theorem dX5_sorting_25 : decode cX5_sorting 25 = .ok (.iload_n 2, 1) := by decide +kernel
theorem dX5_sorting_26 : decode cX5_sorting 26 = .ok (.iload_n 1, 1) := by decide +kernel
theorem dX5_sorting_27 : decode cX5_sorting 27 = .ok (.iconst 1, 1) := by decide +kernel
theorem dX5_sorting_28 : decode cX5_sorting 28 = .ok (.isub, 1) := by decide +kernel
theorem dX5_sorting_29 : decode cX5_sorting 29 = .ok (.invokestatic 7, 3) := by decide +kernel
theorem dX5_sorting_32 : decode cX5_sorting 32 = .ok (.istore_n 2, 1) := by decide +kernel
theorem dX5_sorting_33 : decode cX5_sorting 33 = .ok (.iinc 3 1, 3) := by decide +kernel
theorem dX5_sorting_36 : decode cX5_sorting 36 = .ok (.goto (-22), 3) := by decide +kernel
theorem dX5_sorting_39 : decode cX5_sorting 39 = .ok (.iconst 2, 1) := by decide +kernel
theorem dX5_sorting_40 : decode cX5_sorting 40 = .ok (.iload_n 0, 1) := by decide +kernel
theorem dX5_sorting_41 : decode cX5_sorting 41 = .ok (.imul, 1) := by decide +kernel
theorem dX5_sorting_42 : decode cX5_sorting 42 = .ok (.iload_n 3, 1) := by decide +kernel
theorem dX5_sorting_43 : decode cX5_sorting 43 = .ok (.imul, 1) := by decide +kernel
theorem dX5_sorting_44 : decode cX5_sorting 44 = .ok (.ireturn, 1) := by decide +kernel
theorem dX6_init_0 : decode cX6_init 0 = .ok (.aload_n 0, 1) := by decide +kernel
theorem dX6_init_1 : decode cX6_init 1 = .ok (.invokespecial 3, 3) := by decide +kernel
theorem dX6_init_4 : decode cX6_init 4 = .ok (.aload_n 0, 1) := by decide +kernel
theorem dX6_init_5 : decode cX6_init 5 = .ok (.bipush 40, 2) := by decide +kernel
theorem dX6_init_7 : decode cX6_init 7 = .ok (.newarray .int, 2) := by decide +kernel
theorem dX6_init_9 : decode cX6_init 9 = .ok (.putfield 9, 3) := by decide +kernel
theorem dX6_init_12 : decode cX6_init 12 = .ok (.aload_n 0, 1) := by decide +kernel
theorem dX6_init_13 : decode cX6_init 13 = .ok (.iconst 0, 1) := by decide +kernel
theorem dX6_init_14 : decode cX6_init 14 = .ok (.putfield 15, 3) := by decide +kernel
theorem dX6_init_17 : decode cX6_init 17 = .ok (.return_, 1) := by decide +kernel
theorem dX6_append_0 : decode cX6_append 0 = .ok (.aload_n 0, 1) := by decide +kernel
theorem dX6_append_1 : decode cX6_append 1 = .ok (.getfield 15, 3) := by decide +kernel
theorem dX6_append_4 : decode cX6_append 4 = .ok (.iload_n 3, 1) := by decide +kernel
theorem dX6_append_5 : decode cX6_append 5 = .ok (.iadd, 1) := by decide +kernel
theorem dX6_append_6 : decode cX6_append 6 = .ok (.bipush 40, 2) := by decide +kernel
theorem dX6_append_8 : decode cX6_append 8 = .ok (.if_icmp .le 6, 3) := by decide +kernel
theorem dX6_append_11 : decode cX6_append 11 = .ok (.bipush (-104), 2) := by decide +kernel
theorem dX6_append_13 : decode cX6_append 13 = .ok (.ireturn, 1) := by decide +kernel
theorem dX6_append_14 : decode cX6_append 14 = .ok (.iconst 0, 1) := by decide +kernel
theorem dX6_append_15 : decode cX6_append 15 = .ok (.istore 4, 2) := by decide +kernel
theorem dX6_append_17 : decode cX6_append 17 = .ok (.iload 4, 2) := by decide +kernel
theorem dX6_append_19 : decode cX6_append 19 = .ok (.iload_n 3, 1) := by decide +kernel
theorem dX6_append_20 : decode cX6_append 20 = .ok (.if_icmp .ge 49, 3) := by decide +kernel
theorem dX6_append_23 : decode cX6_append 23 = .ok (.aload_n 0, 1) := by decide +kernel
theorem dX6_append_24 : decode cX6_append 24 = .ok (.getfield 15, 3) := by decide +kernel
theorem dX6_append_27 : decode cX6_append 27 = .ok (.bipush 40, 2) := by decide +kernel
theorem dX6_append_29 : decode cX6_append 29 = .ok (.if_icmp .ge 40, 3) := by decide +kernel
theorem dX6_append_32 : decode cX6_append 32 = .ok (.aload_n 0, 1) := by decide +kernel
theorem dX6_append_33 : decode cX6_append 33 = .ok (.getfield 9, 3) := by decide +kernel
theorem dX6_append_36 : decode cX6_append 36 = .ok (.aload_n 0, 1) := by decide +kernel
theorem dX6_append_37 : decode cX6_append 37 = .ok (.getfield 15, 3) := by decide +kernel
theorem dX6_append_40 : decode cX6_append 40 = .ok (.lload_n 1, 1) := by decide +kernel
theorem dX6_append_41 : decode cX6_append 41 = .ok (.bipush 8, 2) := by decide +kernel
theorem dX6_append_43 : decode cX6_append 43 = .ok (.iload 4, 2) := by decide +kernel
theorem dX6_append_45 : decode cX6_append 45 = .ok (.imul, 1) := by decide +kernel
theorem dX6_append_46 : decode cX6_append 46 = .ok (.lushr, 1) := by decide +kernel
theorem dX6_append_47 : decode cX6_append 47 = .ok (.ldc2_w 19, 3) := by decide +kernel
theorem dX6_append_50 : decode cX6_append 50 = .ok (.land, 1) := by decide +kernel
theorem dX6_append_51 : decode cX6_append 51 = .ok (.l2i, 1) := by decide +kernel
theorem dX6_append_52 : decode cX6_append 52 = .ok (.iastore, 1) := by decide +kernel
theorem dX6_append_53 : decode cX6_append 53 = .ok (.aload_n 0, 1) := by decide +kernel
theorem dX6_append_54 : decode cX6_append 54 = .ok (.dup, 1) := by decide +kernel
theorem dX6_append_55 : decode cX6_append 55 = .ok (.getfield 15, 3) := by decide +kernel
theorem dX6_append_58 : decode cX6_append 58 = .ok (.iconst 1, 1) := by decide +kernel
theorem dX6_append_59 : decode cX6_append 59 = .ok (.iadd, 1) := by decide +kernel
theorem dX6_append_60 : decode cX6_append 60 = .ok (.putfield 15, 3) := by decide +kernel
theorem dX6_append_63 : decode cX6_append 63 = .ok (.iinc 4 1, 3) := by decide +kernel
theorem dX6_append_66 : decode cX6_append 66 = .ok (.goto (-49), 3) := by decide +kernel
theorem dX6_append_69 : decode cX6_append 69 = .ok (.aload_n 0, 1) := by decide +kernel
theorem dX6_append_70 : decode cX6_append 70 = .ok (.getfield 15, 3) := by decide +kernel
theorem dX6_append_73 : decode cX6_append 73 = .ok (.ireturn, 1) := by decide +kernel
theorem dX6_wipe_0 : decode cX6_wipe 0 = .ok (.aload_n 0, 1) := by decide +kernel
theorem dX6_wipe_1 : decode cX6_wipe 1 = .ok (.getfield 15, 3) := by decide +kernel
theorem dX6_wipe_4 : decode cX6_wipe 4 = .ok (.istore_n 1, 1) := by decide +kernel
theorem dX6_wipe_5 : decode cX6_wipe 5 = .ok (.aload_n 0, 1) := by decide +kernel
theorem dX6_wipe_6 : decode cX6_wipe 6 = .ok (.iconst 0, 1) := by decide +kernel
theorem dX6_wipe_7 : decode cX6_wipe 7 = .ok (.putfield 15, 3) := by decide +kernel
theorem dX6_wipe_10 : decode cX6_wipe 10 = .ok (.iload_n 1, 1) := by decide +kernel
theorem dX6_wipe_11 : decode cX6_wipe 11 = .ok (.ireturn, 1) := by decide +kernel
theorem dX6_length_0 : decode cX6_length 0 = .ok (.aload_n 0, 1) := by decide +kernel
theorem dX6_length_1 : decode cX6_length 1 = .ok (.getfield 15, 3) := by decide +kernel
theorem dX6_length_4 : decode cX6_length 4 = .ok (.ireturn, 1) := by decide +kernel
theorem dX6_signs_0 : decode cX6_signs 0 = .ok (.aload_n 0, 1) := by decide +kernel
theorem dX6_signs_1 : decode cX6_signs 1 = .ok (.getfield 9, 3) := by decide +kernel
theorem dX6_signs_4 : decode cX6_signs 4 = .ok (.areturn, 1) := by decide +kernel
theorem dX6_signAt_0 : decode cX6_signAt 0 = .ok (.iload_n 1, 1) := by decide +kernel
theorem dX6_signAt_1 : decode cX6_signAt 1 = .ok (.ifCond .lt 20, 3) := by decide +kernel
theorem dX6_signAt_4 : decode cX6_signAt 4 = .ok (.iload_n 1, 1) := by decide +kernel
theorem dX6_signAt_5 : decode cX6_signAt 5 = .ok (.aload_n 0, 1) := by decide +kernel
theorem dX6_signAt_6 : decode cX6_signAt 6 = .ok (.getfield 15, 3) := by decide +kernel
theorem dX6_signAt_9 : decode cX6_signAt 9 = .ok (.if_icmp .ge 12, 3) := by decide +kernel
theorem dX6_signAt_12 : decode cX6_signAt 12 = .ok (.aload_n 0, 1) := by decide +kernel
theorem dX6_signAt_13 : decode cX6_signAt 13 = .ok (.getfield 9, 3) := by decide +kernel
theorem dX6_signAt_16 : decode cX6_signAt 16 = .ok (.iload_n 1, 1) := by decide +kernel
theorem dX6_signAt_17 : decode cX6_signAt 17 = .ok (.iaload, 1) := by decide +kernel
theorem dX6_signAt_18 : decode cX6_signAt 18 = .ok (.goto 4, 3) := by decide +kernel
theorem dX6_signAt_21 : decode cX6_signAt 21 = .ok (.iconst (-1), 1) := by decide +kernel
theorem dX6_signAt_22 : decode cX6_signAt 22 = .ok (.ireturn, 1) := by decide +kernel
theorem dX6_isPlan_0 : decode cX6_isPlan 0 = .ok (.aload_n 0, 1) := by decide +kernel
theorem dX6_isPlan_1 : decode cX6_isPlan 1 = .ok (.iload_n 1, 1) := by decide +kernel
theorem dX6_isPlan_2 : decode cX6_isPlan 2 = .ok (.invokevirtual 21, 3) := by decide +kernel
theorem dX6_isPlan_5 : decode cX6_isPlan 5 = .ok (.aload_n 0, 1) := by decide +kernel
theorem dX6_isPlan_6 : decode cX6_isPlan 6 = .ok (.getfield 15, 3) := by decide +kernel
theorem dX6_isPlan_9 : decode cX6_isPlan 9 = .ok (.if_icmp .ne 21, 3) := by decide +kernel
theorem dX6_isPlan_12 : decode cX6_isPlan 12 = .ok (.aload_n 0, 1) := by decide +kernel
theorem dX6_isPlan_13 : decode cX6_isPlan 13 = .ok (.getfield 25, 3) := by decide +kernel
theorem dX6_isPlan_16 : decode cX6_isPlan 16 = .ok (.ifCond .eq 14, 3) := by decide +kernel
theorem dX6_isPlan_19 : decode cX6_isPlan 19 = .ok (.aload_n 0, 1) := by decide +kernel
theorem dX6_isPlan_20 : decode cX6_isPlan 20 = .ok (.getfield 29, 3) := by decide +kernel
theorem dX6_isPlan_23 : decode cX6_isPlan 23 = .ok (.ifCond .ne 7, 3) := by decide +kernel
theorem dX6_isPlan_26 : decode cX6_isPlan 26 = .ok (.iconst 1, 1) := by decide +kernel
theorem dX6_isPlan_27 : decode cX6_isPlan 27 = .ok (.goto 4, 3) := by decide +kernel
theorem dX6_isPlan_30 : decode cX6_isPlan 30 = .ok (.iconst 0, 1) := by decide +kernel
theorem dX6_isPlan_31 : decode cX6_isPlan 31 = .ok (.ireturn, 1) := by decide +kernel
theorem dX6_readable_0 : decode cX6_readable 0 = .ok (.aload_n 0, 1) := by decide +kernel
theorem dX6_readable_1 : decode cX6_readable 1 = .ok (.iconst 0, 1) := by decide +kernel
theorem dX6_readable_2 : decode cX6_readable 2 = .ok (.putfield 32, 3) := by decide +kernel
theorem dX6_readable_5 : decode cX6_readable 5 = .ok (.aload_n 0, 1) := by decide +kernel
theorem dX6_readable_6 : decode cX6_readable 6 = .ok (.iconst 1, 1) := by decide +kernel
theorem dX6_readable_7 : decode cX6_readable 7 = .ok (.putfield 35, 3) := by decide +kernel
theorem dX6_readable_10 : decode cX6_readable 10 = .ok (.aload_n 0, 1) := by decide +kernel
theorem dX6_readable_11 : decode cX6_readable 11 = .ok (.iconst 0, 1) := by decide +kernel
theorem dX6_readable_12 : decode cX6_readable 12 = .ok (.putfield 29, 3) := by decide +kernel
theorem dX6_readable_15 : decode cX6_readable 15 = .ok (.aload_n 0, 1) := by decide +kernel
theorem dX6_readable_16 : decode cX6_readable 16 = .ok (.iconst 0, 1) := by decide +kernel
theorem dX6_readable_17 : decode cX6_readable 17 = .ok (.putfield 38, 3) := by decide +kernel
theorem dX6_readable_20 : decode cX6_readable 20 = .ok (.aload_n 0, 1) := by decide +kernel
theorem dX6_readable_21 : decode cX6_readable 21 = .ok (.iconst 0, 1) := by decide +kernel
theorem dX6_readable_22 : decode cX6_readable 22 = .ok (.putfield 25, 3) := by decide +kernel
theorem dX6_readable_25 : decode cX6_readable 25 = .ok (.iconst 0, 1) := by decide +kernel
theorem dX6_readable_26 : decode cX6_readable 26 = .ok (.istore_n 2, 1) := by decide +kernel
theorem dX6_readable_27 : decode cX6_readable 27 = .ok (.iload_n 2, 1) := by decide +kernel
theorem dX6_readable_28 : decode cX6_readable 28 = .ok (.aload_n 0, 1) := by decide +kernel
theorem dX6_readable_29 : decode cX6_readable 29 = .ok (.getfield 15, 3) := by decide +kernel
theorem dX6_readable_32 : decode cX6_readable 32 = .ok (.if_icmp .ge 25, 3) := by decide +kernel
theorem dX6_readable_35 : decode cX6_readable 35 = .ok (.aload_n 0, 1) := by decide +kernel
theorem dX6_readable_36 : decode cX6_readable 36 = .ok (.aload_n 0, 1) := by decide +kernel
theorem dX6_readable_37 : decode cX6_readable 37 = .ok (.getfield 9, 3) := by decide +kernel
theorem dX6_readable_40 : decode cX6_readable 40 = .ok (.iload_n 2, 1) := by decide +kernel
theorem dX6_readable_41 : decode cX6_readable 41 = .ok (.iaload, 1) := by decide +kernel
theorem dX6_readable_42 : decode cX6_readable 42 = .ok (.iload_n 1, 1) := by decide +kernel
theorem dX6_readable_43 : decode cX6_readable 43 = .ok (.invokevirtual 41, 3) := by decide +kernel
theorem dX6_readable_46 : decode cX6_readable 46 = .ok (.ifCond .ne 5, 3) := by decide +kernel
theorem dX6_readable_49 : decode cX6_readable 49 = .ok (.iload_n 2, 1) := by decide +kernel
theorem dX6_readable_50 : decode cX6_readable 50 = .ok (.ireturn, 1) := by decide +kernel
theorem dX6_readable_51 : decode cX6_readable 51 = .ok (.iinc 2 1, 3) := by decide +kernel
theorem dX6_readable_54 : decode cX6_readable 54 = .ok (.goto (-27), 3) := by decide +kernel
theorem dX6_readable_57 : decode cX6_readable 57 = .ok (.aload_n 0, 1) := by decide +kernel
theorem dX6_readable_58 : decode cX6_readable 58 = .ok (.getfield 15, 3) := by decide +kernel
theorem dX6_readable_61 : decode cX6_readable 61 = .ok (.ireturn, 1) := by decide +kernel
theorem dX6_takes_0 : decode cX6_takes 0 = .ok (.aload_n 0, 1) := by decide +kernel
theorem dX6_takes_1 : decode cX6_takes 1 = .ok (.getfield 25, 3) := by decide +kernel
theorem dX6_takes_4 : decode cX6_takes 4 = .ok (.ifCond .ne 27, 3) := by decide +kernel
theorem dX6_takes_7 : decode cX6_takes 7 = .ok (.iload_n 1, 1) := by decide +kernel
theorem dX6_takes_8 : decode cX6_takes 8 = .ok (.bipush 40, 2) := by decide +kernel
theorem dX6_takes_10 : decode cX6_takes 10 = .ok (.if_icmp .ne 11, 3) := by decide +kernel
theorem dX6_takes_13 : decode cX6_takes 13 = .ok (.aload_n 0, 1) := by decide +kernel
theorem dX6_takes_14 : decode cX6_takes 14 = .ok (.iload_n 2, 1) := by decide +kernel
theorem dX6_takes_15 : decode cX6_takes 15 = .ok (.invokevirtual 45, 3) := by decide +kernel
theorem dX6_takes_18 : decode cX6_takes 18 = .ok (.goto 12, 3) := by decide +kernel
theorem dX6_takes_21 : decode cX6_takes 21 = .ok (.aload_n 0, 1) := by decide +kernel
theorem dX6_takes_22 : decode cX6_takes 22 = .ok (.iload_n 1, 1) := by decide +kernel
theorem dX6_takes_23 : decode cX6_takes 23 = .ok (.bipush 48, 2) := by decide +kernel
theorem dX6_takes_25 : decode cX6_takes 25 = .ok (.isub, 1) := by decide +kernel
theorem dX6_takes_26 : decode cX6_takes 26 = .ok (.iload_n 2, 1) := by decide +kernel
theorem dX6_takes_27 : decode cX6_takes 27 = .ok (.invokevirtual 49, 3) := by decide +kernel
theorem dX6_takes_30 : decode cX6_takes 30 = .ok (.ireturn, 1) := by decide +kernel
theorem dX6_takes_31 : decode cX6_takes 31 = .ok (.aload_n 0, 1) := by decide +kernel
theorem dX6_takes_32 : decode cX6_takes 32 = .ok (.getfield 29, 3) := by decide +kernel
theorem dX6_takes_35 : decode cX6_takes 35 = .ok (.ifCond .ne 5, 3) := by decide +kernel
theorem dX6_takes_38 : decode cX6_takes 38 = .ok (.iconst 0, 1) := by decide +kernel
theorem dX6_takes_39 : decode cX6_takes 39 = .ok (.ireturn, 1) := by decide +kernel
theorem dX6_takes_40 : decode cX6_takes 40 = .ok (.aload_n 0, 1) := by decide +kernel
theorem dX6_takes_41 : decode cX6_takes 41 = .ok (.invokevirtual 52, 3) := by decide +kernel
theorem dX6_takes_44 : decode cX6_takes 44 = .ok (.ifCond .eq 11, 3) := by decide +kernel
theorem dX6_takes_47 : decode cX6_takes 47 = .ok (.aload_n 0, 1) := by decide +kernel
theorem dX6_takes_48 : decode cX6_takes 48 = .ok (.iload_n 1, 1) := by decide +kernel
theorem dX6_takes_49 : decode cX6_takes 49 = .ok (.invokevirtual 56, 3) := by decide +kernel
theorem dX6_takes_52 : decode cX6_takes 52 = .ok (.goto 8, 3) := by decide +kernel
theorem dX6_takes_55 : decode cX6_takes 55 = .ok (.aload_n 0, 1) := by decide +kernel
theorem dX6_takes_56 : decode cX6_takes 56 = .ok (.iload_n 1, 1) := by decide +kernel
theorem dX6_takes_57 : decode cX6_takes 57 = .ok (.invokevirtual 59, 3) := by decide +kernel
theorem dX6_takes_60 : decode cX6_takes 60 = .ok (.ireturn, 1) := by decide +kernel
theorem dX6_atRightSide_0 : decode cX6_atRightSide 0 = .ok (.aload_n 0, 1) := by decide +kernel
theorem dX6_atRightSide_1 : decode cX6_atRightSide 1 = .ok (.getfield 38, 3) := by decide +kernel
theorem dX6_atRightSide_4 : decode cX6_atRightSide 4 = .ok (.iconst 1, 1) := by decide +kernel
theorem dX6_atRightSide_5 : decode cX6_atRightSide 5 = .ok (.iand, 1) := by decide +kernel
theorem dX6_atRightSide_6 : decode cX6_atRightSide 6 = .ok (.iconst 1, 1) := by decide +kernel
theorem dX6_atRightSide_7 : decode cX6_atRightSide 7 = .ok (.if_icmp .ne 7, 3) := by decide +kernel
theorem dX6_atRightSide_10 : decode cX6_atRightSide 10 = .ok (.iconst 1, 1) := by decide +kernel
theorem dX6_atRightSide_11 : decode cX6_atRightSide 11 = .ok (.goto 4, 3) := by decide +kernel
theorem dX6_atRightSide_14 : decode cX6_atRightSide 14 = .ok (.iconst 0, 1) := by decide +kernel
theorem dX6_atRightSide_15 : decode cX6_atRightSide 15 = .ok (.ireturn, 1) := by decide +kernel
theorem dX6_takesOpen_0 : decode cX6_takesOpen 0 = .ok (.aload_n 0, 1) := by decide +kernel
theorem dX6_takesOpen_1 : decode cX6_takesOpen 1 = .ok (.getfield 32, 3) := by decide +kernel
theorem dX6_takesOpen_4 : decode cX6_takesOpen 4 = .ok (.invokestatic 62, 3) := by decide +kernel
theorem dX6_takesOpen_7 : decode cX6_takesOpen 7 = .ok (.aload_n 0, 1) := by decide +kernel
theorem dX6_takesOpen_8 : decode cX6_takesOpen 8 = .ok (.getfield 35, 3) := by decide +kernel
theorem dX6_takesOpen_11 : decode cX6_takesOpen 11 = .ok (.iadd, 1) := by decide +kernel
theorem dX6_takesOpen_12 : decode cX6_takesOpen 12 = .ok (.iconst 1, 1) := by decide +kernel
theorem dX6_takesOpen_13 : decode cX6_takesOpen 13 = .ok (.iadd, 1) := by decide +kernel
theorem dX6_takesOpen_14 : decode cX6_takesOpen 14 = .ok (.iload_n 1, 1) := by decide +kernel
theorem dX6_takesOpen_15 : decode cX6_takesOpen 15 = .ok (.if_icmp .le 5, 3) := by decide +kernel
theorem dX6_takesOpen_18 : decode cX6_takesOpen 18 = .ok (.iconst 0, 1) := by decide +kernel
theorem dX6_takesOpen_19 : decode cX6_takesOpen 19 = .ok (.ireturn, 1) := by decide +kernel
theorem dX6_takesOpen_20 : decode cX6_takesOpen 20 = .ok (.aload_n 0, 1) := by decide +kernel
theorem dX6_takesOpen_21 : decode cX6_takesOpen 21 = .ok (.dup, 1) := by decide +kernel
theorem dX6_takesOpen_22 : decode cX6_takesOpen 22 = .ok (.getfield 35, 3) := by decide +kernel
theorem dX6_takesOpen_25 : decode cX6_takesOpen 25 = .ok (.iconst 1, 1) := by decide +kernel
theorem dX6_takesOpen_26 : decode cX6_takesOpen 26 = .ok (.iadd, 1) := by decide +kernel
theorem dX6_takesOpen_27 : decode cX6_takesOpen 27 = .ok (.putfield 35, 3) := by decide +kernel
theorem dX6_takesOpen_30 : decode cX6_takesOpen 30 = .ok (.aload_n 0, 1) := by decide +kernel
theorem dX6_takesOpen_31 : decode cX6_takesOpen 31 = .ok (.dup, 1) := by decide +kernel
theorem dX6_takesOpen_32 : decode cX6_takesOpen 32 = .ok (.getfield 29, 3) := by decide +kernel
theorem dX6_takesOpen_35 : decode cX6_takesOpen 35 = .ok (.iconst 1, 1) := by decide +kernel
theorem dX6_takesOpen_36 : decode cX6_takesOpen 36 = .ok (.iadd, 1) := by decide +kernel
theorem dX6_takesOpen_37 : decode cX6_takesOpen 37 = .ok (.putfield 29, 3) := by decide +kernel
theorem dX6_takesOpen_40 : decode cX6_takesOpen 40 = .ok (.aload_n 0, 1) := by decide +kernel
theorem dX6_takesOpen_41 : decode cX6_takesOpen 41 = .ok (.dup, 1) := by decide +kernel
theorem dX6_takesOpen_42 : decode cX6_takesOpen 42 = .ok (.getfield 38, 3) := by decide +kernel
theorem dX6_takesOpen_45 : decode cX6_takesOpen 45 = .ok (.iconst 1, 1) := by decide +kernel
theorem dX6_takesOpen_46 : decode cX6_takesOpen 46 = .ok (.ishl, 1) := by decide +kernel
theorem dX6_takesOpen_47 : decode cX6_takesOpen 47 = .ok (.putfield 38, 3) := by decide +kernel
theorem dX6_takesOpen_50 : decode cX6_takesOpen 50 = .ok (.iconst 1, 1) := by decide +kernel
theorem dX6_takesOpen_51 : decode cX6_takesOpen 51 = .ok (.ireturn, 1) := by decide +kernel
theorem dX6_takesTable_0 : decode cX6_takesTable 0 = .ok (.iload_n 1, 1) := by decide +kernel
theorem dX6_takesTable_1 : decode cX6_takesTable 1 = .ok (.ifCond .lt 20, 3) := by decide +kernel
theorem dX6_takesTable_4 : decode cX6_takesTable 4 = .ok (.iload_n 1, 1) := by decide +kernel
theorem dX6_takesTable_5 : decode cX6_takesTable 5 = .ok (.iload_n 2, 1) := by decide +kernel
theorem dX6_takesTable_6 : decode cX6_takesTable 6 = .ok (.if_icmp .ge 15, 3) := by decide +kernel
theorem dX6_takesTable_9 : decode cX6_takesTable 9 = .ok (.aload_n 0, 1) := by decide +kernel
theorem dX6_takesTable_10 : decode cX6_takesTable 10 = .ok (.getfield 32, 3) := by decide +kernel
theorem dX6_takesTable_13 : decode cX6_takesTable 13 = .ok (.iload_n 1, 1) := by decide +kernel
theorem dX6_takesTable_14 : decode cX6_takesTable 14 = .ok (.ishr, 1) := by decide +kernel
theorem dX6_takesTable_15 : decode cX6_takesTable 15 = .ok (.iconst 1, 1) := by decide +kernel
theorem dX6_takesTable_16 : decode cX6_takesTable 16 = .ok (.iand, 1) := by decide +kernel
theorem dX6_takesTable_17 : decode cX6_takesTable 17 = .ok (.iconst 1, 1) := by decide +kernel
theorem dX6_takesTable_18 : decode cX6_takesTable 18 = .ok (.if_icmp .ne 5, 3) := by decide +kernel
theorem dX6_takesTable_21 : decode cX6_takesTable 21 = .ok (.iconst 0, 1) := by decide +kernel
theorem dX6_takesTable_22 : decode cX6_takesTable 22 = .ok (.ireturn, 1) := by decide +kernel
theorem dX6_takesTable_23 : decode cX6_takesTable 23 = .ok (.aload_n 0, 1) := by decide +kernel
theorem dX6_takesTable_24 : decode cX6_takesTable 24 = .ok (.dup, 1) := by decide +kernel
theorem dX6_takesTable_25 : decode cX6_takesTable 25 = .ok (.getfield 32, 3) := by decide +kernel
theorem dX6_takesTable_28 : decode cX6_takesTable 28 = .ok (.iconst 1, 1) := by decide +kernel
theorem dX6_takesTable_29 : decode cX6_takesTable 29 = .ok (.iload_n 1, 1) := by decide +kernel
theorem dX6_takesTable_30 : decode cX6_takesTable 30 = .ok (.ishl, 1) := by decide +kernel
theorem dX6_takesTable_31 : decode cX6_takesTable 31 = .ok (.ior, 1) := by decide +kernel
theorem dX6_takesTable_32 : decode cX6_takesTable 32 = .ok (.putfield 32, 3) := by decide +kernel
theorem dX6_takesTable_35 : decode cX6_takesTable 35 = .ok (.aload_n 0, 1) := by decide +kernel
theorem dX6_takesTable_36 : decode cX6_takesTable 36 = .ok (.dup, 1) := by decide +kernel
theorem dX6_takesTable_37 : decode cX6_takesTable 37 = .ok (.getfield 35, 3) := by decide +kernel
theorem dX6_takesTable_40 : decode cX6_takesTable 40 = .ok (.iconst 1, 1) := by decide +kernel
theorem dX6_takesTable_41 : decode cX6_takesTable 41 = .ok (.isub, 1) := by decide +kernel
theorem dX6_takesTable_42 : decode cX6_takesTable 42 = .ok (.putfield 35, 3) := by decide +kernel
theorem dX6_takesTable_45 : decode cX6_takesTable 45 = .ok (.aload_n 0, 1) := by decide +kernel
theorem dX6_takesTable_46 : decode cX6_takesTable 46 = .ok (.iconst 1, 1) := by decide +kernel
theorem dX6_takesTable_47 : decode cX6_takesTable 47 = .ok (.putfield 25, 3) := by decide +kernel
theorem dX6_takesTable_50 : decode cX6_takesTable 50 = .ok (.iconst 1, 1) := by decide +kernel
theorem dX6_takesTable_51 : decode cX6_takesTable 51 = .ok (.ireturn, 1) := by decide +kernel
theorem dX6_takesWay_0 : decode cX6_takesWay 0 = .ok (.iload_n 1, 1) := by decide +kernel
theorem dX6_takesWay_1 : decode cX6_takesWay 1 = .ok (.bipush 108, 2) := by decide +kernel
theorem dX6_takesWay_3 : decode cX6_takesWay 3 = .ok (.if_icmp .eq 17, 3) := by decide +kernel
theorem dX6_takesWay_6 : decode cX6_takesWay 6 = .ok (.iload_n 1, 1) := by decide +kernel
theorem dX6_takesWay_7 : decode cX6_takesWay 7 = .ok (.bipush 112, 2) := by decide +kernel
theorem dX6_takesWay_9 : decode cX6_takesWay 9 = .ok (.if_icmp .eq 11, 3) := by decide +kernel
theorem dX6_takesWay_12 : decode cX6_takesWay 12 = .ok (.iload_n 1, 1) := by decide +kernel
theorem dX6_takesWay_13 : decode cX6_takesWay 13 = .ok (.bipush 115, 2) := by decide +kernel
theorem dX6_takesWay_15 : decode cX6_takesWay 15 = .ok (.if_icmp .eq 5, 3) := by decide +kernel
theorem dX6_takesWay_18 : decode cX6_takesWay 18 = .ok (.iconst 0, 1) := by decide +kernel
theorem dX6_takesWay_19 : decode cX6_takesWay 19 = .ok (.ireturn, 1) := by decide +kernel
theorem dX6_takesWay_20 : decode cX6_takesWay 20 = .ok (.aload_n 0, 1) := by decide +kernel
theorem dX6_takesWay_21 : decode cX6_takesWay 21 = .ok (.dup, 1) := by decide +kernel
theorem dX6_takesWay_22 : decode cX6_takesWay 22 = .ok (.getfield 38, 3) := by decide +kernel
theorem dX6_takesWay_25 : decode cX6_takesWay 25 = .ok (.iconst 1, 1) := by decide +kernel
theorem dX6_takesWay_26 : decode cX6_takesWay 26 = .ok (.ior, 1) := by decide +kernel
theorem dX6_takesWay_27 : decode cX6_takesWay 27 = .ok (.putfield 38, 3) := by decide +kernel
theorem dX6_takesWay_30 : decode cX6_takesWay 30 = .ok (.aload_n 0, 1) := by decide +kernel
theorem dX6_takesWay_31 : decode cX6_takesWay 31 = .ok (.iconst 0, 1) := by decide +kernel
theorem dX6_takesWay_32 : decode cX6_takesWay 32 = .ok (.putfield 25, 3) := by decide +kernel
theorem dX6_takesWay_35 : decode cX6_takesWay 35 = .ok (.iconst 1, 1) := by decide +kernel
theorem dX6_takesWay_36 : decode cX6_takesWay 36 = .ok (.ireturn, 1) := by decide +kernel
theorem dX6_takesClose_0 : decode cX6_takesClose 0 = .ok (.iload_n 1, 1) := by decide +kernel
theorem dX6_takesClose_1 : decode cX6_takesClose 1 = .ok (.bipush 41, 2) := by decide +kernel
theorem dX6_takesClose_3 : decode cX6_takesClose 3 = .ok (.if_icmp .eq 5, 3) := by decide +kernel
theorem dX6_takesClose_6 : decode cX6_takesClose 6 = .ok (.iconst 0, 1) := by decide +kernel
theorem dX6_takesClose_7 : decode cX6_takesClose 7 = .ok (.ireturn, 1) := by decide +kernel
theorem dX6_takesClose_8 : decode cX6_takesClose 8 = .ok (.aload_n 0, 1) := by decide +kernel
theorem dX6_takesClose_9 : decode cX6_takesClose 9 = .ok (.dup, 1) := by decide +kernel
theorem dX6_takesClose_10 : decode cX6_takesClose 10 = .ok (.getfield 29, 3) := by decide +kernel
theorem dX6_takesClose_13 : decode cX6_takesClose 13 = .ok (.iconst 1, 1) := by decide +kernel
theorem dX6_takesClose_14 : decode cX6_takesClose 14 = .ok (.isub, 1) := by decide +kernel
theorem dX6_takesClose_15 : decode cX6_takesClose 15 = .ok (.putfield 29, 3) := by decide +kernel
theorem dX6_takesClose_18 : decode cX6_takesClose 18 = .ok (.aload_n 0, 1) := by decide +kernel
theorem dX6_takesClose_19 : decode cX6_takesClose 19 = .ok (.dup, 1) := by decide +kernel
theorem dX6_takesClose_20 : decode cX6_takesClose 20 = .ok (.getfield 38, 3) := by decide +kernel
theorem dX6_takesClose_23 : decode cX6_takesClose 23 = .ok (.iconst 1, 1) := by decide +kernel
theorem dX6_takesClose_24 : decode cX6_takesClose 24 = .ok (.ishr, 1) := by decide +kernel
theorem dX6_takesClose_25 : decode cX6_takesClose 25 = .ok (.putfield 38, 3) := by decide +kernel
theorem dX6_takesClose_28 : decode cX6_takesClose 28 = .ok (.iconst 1, 1) := by decide +kernel
theorem dX6_takesClose_29 : decode cX6_takesClose 29 = .ok (.ireturn, 1) := by decide +kernel
theorem dX7_init_0 : decode cX7_init 0 = .ok (.aload_n 0, 1) := by decide +kernel
theorem dX7_init_1 : decode cX7_init 1 = .ok (.invokespecial 3, 3) := by decide +kernel
theorem dX7_init_4 : decode cX7_init 4 = .ok (.aload_n 0, 1) := by decide +kernel
theorem dX7_init_5 : decode cX7_init 5 = .ok (.bipush 6, 2) := by decide +kernel
theorem dX7_init_7 : decode cX7_init 7 = .ok (.newarray .int, 2) := by decide +kernel
theorem dX7_init_9 : decode cX7_init 9 = .ok (.putfield 9, 3) := by decide +kernel
theorem dX7_init_12 : decode cX7_init 12 = .ok (.aload_n 0, 1) := by decide +kernel
theorem dX7_init_13 : decode cX7_init 13 = .ok (.bipush 6, 2) := by decide +kernel
theorem dX7_init_15 : decode cX7_init 15 = .ok (.newarray .int, 2) := by decide +kernel
theorem dX7_init_17 : decode cX7_init 17 = .ok (.putfield 15, 3) := by decide +kernel
theorem dX7_init_20 : decode cX7_init 20 = .ok (.aload_n 0, 1) := by decide +kernel
theorem dX7_init_21 : decode cX7_init 21 = .ok (.bipush 6, 2) := by decide +kernel
theorem dX7_init_23 : decode cX7_init 23 = .ok (.newarray .int, 2) := by decide +kernel
theorem dX7_init_25 : decode cX7_init 25 = .ok (.putfield 18, 3) := by decide +kernel
theorem dX7_init_28 : decode cX7_init 28 = .ok (.aload_n 0, 1) := by decide +kernel
theorem dX7_init_29 : decode cX7_init 29 = .ok (.bipush 48, 2) := by decide +kernel
theorem dX7_init_31 : decode cX7_init 31 = .ok (.newarray .int, 2) := by decide +kernel
theorem dX7_init_33 : decode cX7_init 33 = .ok (.putfield 21, 3) := by decide +kernel
theorem dX7_init_36 : decode cX7_init 36 = .ok (.aload_n 0, 1) := by decide +kernel
theorem dX7_init_37 : decode cX7_init 37 = .ok (.bipush 8, 2) := by decide +kernel
theorem dX7_init_39 : decode cX7_init 39 = .ok (.newarray .int, 2) := by decide +kernel
theorem dX7_init_41 : decode cX7_init 41 = .ok (.putfield 24, 3) := by decide +kernel
theorem dX7_init_44 : decode cX7_init 44 = .ok (.aload_n 0, 1) := by decide +kernel
theorem dX7_init_45 : decode cX7_init 45 = .ok (.iconst 0, 1) := by decide +kernel
theorem dX7_init_46 : decode cX7_init 46 = .ok (.putfield 27, 3) := by decide +kernel
theorem dX7_init_49 : decode cX7_init 49 = .ok (.aload_n 0, 1) := by decide +kernel
theorem dX7_init_50 : decode cX7_init 50 = .ok (.iconst 2, 1) := by decide +kernel
theorem dX7_init_51 : decode cX7_init 51 = .ok (.putfield 31, 3) := by decide +kernel
theorem dX7_init_54 : decode cX7_init 54 = .ok (.aload_n 0, 1) := by decide +kernel
theorem dX7_init_55 : decode cX7_init 55 = .ok (.iconst 3, 1) := by decide +kernel
theorem dX7_init_56 : decode cX7_init 56 = .ok (.putfield 34, 3) := by decide +kernel
theorem dX7_init_59 : decode cX7_init 59 = .ok (.return_, 1) := by decide +kernel
theorem dX7_holds_0 : decode cX7_holds 0 = .ok (.iload_n 1, 1) := by decide +kernel
theorem dX7_holds_1 : decode cX7_holds 1 = .ok (.ifCond .lt 15, 3) := by decide +kernel
theorem dX7_holds_4 : decode cX7_holds 4 = .ok (.iload_n 1, 1) := by decide +kernel
theorem dX7_holds_5 : decode cX7_holds 5 = .ok (.aload_n 0, 1) := by decide +kernel
theorem dX7_holds_6 : decode cX7_holds 6 = .ok (.getfield 27, 3) := by decide +kernel
theorem dX7_holds_9 : decode cX7_holds 9 = .ok (.if_icmp .ge 7, 3) := by decide +kernel
theorem dX7_holds_12 : decode cX7_holds 12 = .ok (.iconst 1, 1) := by decide +kernel
theorem dX7_holds_13 : decode cX7_holds 13 = .ok (.goto 4, 3) := by decide +kernel
theorem dX7_holds_16 : decode cX7_holds 16 = .ok (.iconst 0, 1) := by decide +kernel
theorem dX7_holds_17 : decode cX7_holds 17 = .ok (.ireturn, 1) := by decide +kernel
theorem dX7_holdsRow_0 : decode cX7_holdsRow 0 = .ok (.iload_n 1, 1) := by decide +kernel
theorem dX7_holdsRow_1 : decode cX7_holdsRow 1 = .ok (.ifCond .lt 29, 3) := by decide +kernel
theorem dX7_holdsRow_4 : decode cX7_holdsRow 4 = .ok (.iload_n 1, 1) := by decide +kernel
theorem dX7_holdsRow_5 : decode cX7_holdsRow 5 = .ok (.aload_n 0, 1) := by decide +kernel
theorem dX7_holdsRow_6 : decode cX7_holdsRow 6 = .ok (.getfield 27, 3) := by decide +kernel
theorem dX7_holdsRow_9 : decode cX7_holdsRow 9 = .ok (.if_icmp .ge 21, 3) := by decide +kernel
theorem dX7_holdsRow_12 : decode cX7_holdsRow 12 = .ok (.iload_n 2, 1) := by decide +kernel
theorem dX7_holdsRow_13 : decode cX7_holdsRow 13 = .ok (.ifCond .lt 17, 3) := by decide +kernel
theorem dX7_holdsRow_16 : decode cX7_holdsRow 16 = .ok (.iload_n 2, 1) := by decide +kernel
theorem dX7_holdsRow_17 : decode cX7_holdsRow 17 = .ok (.aload_n 0, 1) := by decide +kernel
theorem dX7_holdsRow_18 : decode cX7_holdsRow 18 = .ok (.getfield 18, 3) := by decide +kernel
theorem dX7_holdsRow_21 : decode cX7_holdsRow 21 = .ok (.iload_n 1, 1) := by decide +kernel
theorem dX7_holdsRow_22 : decode cX7_holdsRow 22 = .ok (.iaload, 1) := by decide +kernel
theorem dX7_holdsRow_23 : decode cX7_holdsRow 23 = .ok (.if_icmp .ge 7, 3) := by decide +kernel
theorem dX7_holdsRow_26 : decode cX7_holdsRow 26 = .ok (.iconst 1, 1) := by decide +kernel
theorem dX7_holdsRow_27 : decode cX7_holdsRow 27 = .ok (.goto 4, 3) := by decide +kernel
theorem dX7_holdsRow_30 : decode cX7_holdsRow 30 = .ok (.iconst 0, 1) := by decide +kernel
theorem dX7_holdsRow_31 : decode cX7_holdsRow 31 = .ok (.ireturn, 1) := by decide +kernel
theorem dX7_hasLetter_0 : decode cX7_hasLetter 0 = .ok (.iload_n 1, 1) := by decide +kernel
theorem dX7_hasLetter_1 : decode cX7_hasLetter 1 = .ok (.ifCond .lt 39, 3) := by decide +kernel
theorem dX7_hasLetter_4 : decode cX7_hasLetter 4 = .ok (.iload_n 1, 1) := by decide +kernel
theorem dX7_hasLetter_5 : decode cX7_hasLetter 5 = .ok (.aload_n 0, 1) := by decide +kernel
theorem dX7_hasLetter_6 : decode cX7_hasLetter 6 = .ok (.getfield 27, 3) := by decide +kernel
theorem dX7_hasLetter_9 : decode cX7_hasLetter 9 = .ok (.if_icmp .ge 31, 3) := by decide +kernel
theorem dX7_hasLetter_12 : decode cX7_hasLetter 12 = .ok (.iload_n 2, 1) := by decide +kernel
theorem dX7_hasLetter_13 : decode cX7_hasLetter 13 = .ok (.ifCond .lt 27, 3) := by decide +kernel
theorem dX7_hasLetter_16 : decode cX7_hasLetter 16 = .ok (.iload_n 2, 1) := by decide +kernel
theorem dX7_hasLetter_17 : decode cX7_hasLetter 17 = .ok (.bipush 8, 2) := by decide +kernel
theorem dX7_hasLetter_19 : decode cX7_hasLetter 19 = .ok (.if_icmp .ge 21, 3) := by decide +kernel
theorem dX7_hasLetter_22 : decode cX7_hasLetter 22 = .ok (.aload_n 0, 1) := by decide +kernel
theorem dX7_hasLetter_23 : decode cX7_hasLetter 23 = .ok (.getfield 9, 3) := by decide +kernel
theorem dX7_hasLetter_26 : decode cX7_hasLetter 26 = .ok (.iload_n 1, 1) := by decide +kernel
theorem dX7_hasLetter_27 : decode cX7_hasLetter 27 = .ok (.iaload, 1) := by decide +kernel
theorem dX7_hasLetter_28 : decode cX7_hasLetter 28 = .ok (.iload_n 2, 1) := by decide +kernel
theorem dX7_hasLetter_29 : decode cX7_hasLetter 29 = .ok (.ishr, 1) := by decide +kernel
theorem dX7_hasLetter_30 : decode cX7_hasLetter 30 = .ok (.iconst 1, 1) := by decide +kernel
theorem dX7_hasLetter_31 : decode cX7_hasLetter 31 = .ok (.iand, 1) := by decide +kernel
theorem dX7_hasLetter_32 : decode cX7_hasLetter 32 = .ok (.iconst 1, 1) := by decide +kernel
theorem dX7_hasLetter_33 : decode cX7_hasLetter 33 = .ok (.if_icmp .ne 7, 3) := by decide +kernel
theorem dX7_hasLetter_36 : decode cX7_hasLetter 36 = .ok (.iconst 1, 1) := by decide +kernel
theorem dX7_hasLetter_37 : decode cX7_hasLetter 37 = .ok (.goto 4, 3) := by decide +kernel
theorem dX7_hasLetter_40 : decode cX7_hasLetter 40 = .ok (.iconst 0, 1) := by decide +kernel
theorem dX7_hasLetter_41 : decode cX7_hasLetter 41 = .ok (.ireturn, 1) := by decide +kernel
theorem dX7_isSet_0 : decode cX7_isSet 0 = .ok (.iload_n 1, 1) := by decide +kernel
theorem dX7_isSet_1 : decode cX7_isSet 1 = .ok (.iconst 1, 1) := by decide +kernel
theorem dX7_isSet_2 : decode cX7_isSet 2 = .ok (.if_icmp .lt 17, 3) := by decide +kernel
theorem dX7_isSet_5 : decode cX7_isSet 5 = .ok (.iload_n 1, 1) := by decide +kernel
theorem dX7_isSet_6 : decode cX7_isSet 6 = .ok (.iconst 1, 1) := by decide +kernel
theorem dX7_isSet_7 : decode cX7_isSet 7 = .ok (.aload_n 0, 1) := by decide +kernel
theorem dX7_isSet_8 : decode cX7_isSet 8 = .ok (.getfield 27, 3) := by decide +kernel
theorem dX7_isSet_11 : decode cX7_isSet 11 = .ok (.ishl, 1) := by decide +kernel
theorem dX7_isSet_12 : decode cX7_isSet 12 = .ok (.if_icmp .ge 7, 3) := by decide +kernel
theorem dX7_isSet_15 : decode cX7_isSet 15 = .ok (.iconst 1, 1) := by decide +kernel
theorem dX7_isSet_16 : decode cX7_isSet 16 = .ok (.goto 4, 3) := by decide +kernel
theorem dX7_isSet_19 : decode cX7_isSet 19 = .ok (.iconst 0, 1) := by decide +kernel
theorem dX7_isSet_20 : decode cX7_isSet 20 = .ok (.ireturn, 1) := by decide +kernel
theorem dX7_tablesMade_0 : decode cX7_tablesMade 0 = .ok (.aload_n 0, 1) := by decide +kernel
theorem dX7_tablesMade_1 : decode cX7_tablesMade 1 = .ok (.getfield 27, 3) := by decide +kernel
theorem dX7_tablesMade_4 : decode cX7_tablesMade 4 = .ok (.ireturn, 1) := by decide +kernel
theorem dX7_allTables_0 : decode cX7_allTables 0 = .ok (.iconst 1, 1) := by decide +kernel
theorem dX7_allTables_1 : decode cX7_allTables 1 = .ok (.aload_n 0, 1) := by decide +kernel
theorem dX7_allTables_2 : decode cX7_allTables 2 = .ok (.getfield 27, 3) := by decide +kernel
theorem dX7_allTables_5 : decode cX7_allTables 5 = .ok (.ishl, 1) := by decide +kernel
theorem dX7_allTables_6 : decode cX7_allTables 6 = .ok (.iconst 1, 1) := by decide +kernel
theorem dX7_allTables_7 : decode cX7_allTables 7 = .ok (.isub, 1) := by decide +kernel
theorem dX7_allTables_8 : decode cX7_allTables 8 = .ok (.ireturn, 1) := by decide +kernel
theorem dX7_lettersOf_0 : decode cX7_lettersOf 0 = .ok (.iload_n 1, 1) := by decide +kernel
theorem dX7_lettersOf_1 : decode cX7_lettersOf 1 = .ok (.ifCond .lt 20, 3) := by decide +kernel
theorem dX7_lettersOf_4 : decode cX7_lettersOf 4 = .ok (.iload_n 1, 1) := by decide +kernel
theorem dX7_lettersOf_5 : decode cX7_lettersOf 5 = .ok (.aload_n 0, 1) := by decide +kernel
theorem dX7_lettersOf_6 : decode cX7_lettersOf 6 = .ok (.getfield 27, 3) := by decide +kernel
theorem dX7_lettersOf_9 : decode cX7_lettersOf 9 = .ok (.if_icmp .ge 12, 3) := by decide +kernel
theorem dX7_lettersOf_12 : decode cX7_lettersOf 12 = .ok (.aload_n 0, 1) := by decide +kernel
theorem dX7_lettersOf_13 : decode cX7_lettersOf 13 = .ok (.getfield 9, 3) := by decide +kernel
theorem dX7_lettersOf_16 : decode cX7_lettersOf 16 = .ok (.iload_n 1, 1) := by decide +kernel
theorem dX7_lettersOf_17 : decode cX7_lettersOf 17 = .ok (.iaload, 1) := by decide +kernel
theorem dX7_lettersOf_18 : decode cX7_lettersOf 18 = .ok (.goto 4, 3) := by decide +kernel
theorem dX7_lettersOf_21 : decode cX7_lettersOf 21 = .ok (.iconst 0, 1) := by decide +kernel
theorem dX7_lettersOf_22 : decode cX7_lettersOf 22 = .ok (.ireturn, 1) := by decide +kernel
theorem dX7_perOf_0 : decode cX7_perOf 0 = .ok (.iload_n 1, 1) := by decide +kernel
theorem dX7_perOf_1 : decode cX7_perOf 1 = .ok (.ifCond .lt 20, 3) := by decide +kernel
theorem dX7_perOf_4 : decode cX7_perOf 4 = .ok (.iload_n 1, 1) := by decide +kernel
theorem dX7_perOf_5 : decode cX7_perOf 5 = .ok (.aload_n 0, 1) := by decide +kernel
theorem dX7_perOf_6 : decode cX7_perOf 6 = .ok (.getfield 27, 3) := by decide +kernel
theorem dX7_perOf_9 : decode cX7_perOf 9 = .ok (.if_icmp .ge 12, 3) := by decide +kernel
theorem dX7_perOf_12 : decode cX7_perOf 12 = .ok (.aload_n 0, 1) := by decide +kernel
theorem dX7_perOf_13 : decode cX7_perOf 13 = .ok (.getfield 15, 3) := by decide +kernel
theorem dX7_perOf_16 : decode cX7_perOf 16 = .ok (.iload_n 1, 1) := by decide +kernel
theorem dX7_perOf_17 : decode cX7_perOf 17 = .ok (.iaload, 1) := by decide +kernel
theorem dX7_perOf_18 : decode cX7_perOf 18 = .ok (.goto 4, 3) := by decide +kernel
theorem dX7_perOf_21 : decode cX7_perOf 21 = .ok (.iconst 0, 1) := by decide +kernel
theorem dX7_perOf_22 : decode cX7_perOf 22 = .ok (.ireturn, 1) := by decide +kernel
theorem dX7_rowsOf_0 : decode cX7_rowsOf 0 = .ok (.iload_n 1, 1) := by decide +kernel
theorem dX7_rowsOf_1 : decode cX7_rowsOf 1 = .ok (.ifCond .lt 20, 3) := by decide +kernel
theorem dX7_rowsOf_4 : decode cX7_rowsOf 4 = .ok (.iload_n 1, 1) := by decide +kernel
theorem dX7_rowsOf_5 : decode cX7_rowsOf 5 = .ok (.aload_n 0, 1) := by decide +kernel
theorem dX7_rowsOf_6 : decode cX7_rowsOf 6 = .ok (.getfield 27, 3) := by decide +kernel
theorem dX7_rowsOf_9 : decode cX7_rowsOf 9 = .ok (.if_icmp .ge 12, 3) := by decide +kernel
theorem dX7_rowsOf_12 : decode cX7_rowsOf 12 = .ok (.aload_n 0, 1) := by decide +kernel
theorem dX7_rowsOf_13 : decode cX7_rowsOf 13 = .ok (.getfield 18, 3) := by decide +kernel
theorem dX7_rowsOf_16 : decode cX7_rowsOf 16 = .ok (.iload_n 1, 1) := by decide +kernel
theorem dX7_rowsOf_17 : decode cX7_rowsOf 17 = .ok (.iaload, 1) := by decide +kernel
theorem dX7_rowsOf_18 : decode cX7_rowsOf 18 = .ok (.goto 4, 3) := by decide +kernel
theorem dX7_rowsOf_21 : decode cX7_rowsOf 21 = .ok (.iconst 0, 1) := by decide +kernel
theorem dX7_rowsOf_22 : decode cX7_rowsOf 22 = .ok (.ireturn, 1) := by decide +kernel
theorem dX7_pagesOfTable_0 : decode cX7_pagesOfTable 0 = .ok (.aload_n 0, 1) := by decide +kernel
theorem dX7_pagesOfTable_1 : decode cX7_pagesOfTable 1 = .ok (.iload_n 1, 1) := by decide +kernel
theorem dX7_pagesOfTable_2 : decode cX7_pagesOfTable 2 = .ok (.invokevirtual 37, 3) := by decide +kernel
theorem dX7_pagesOfTable_5 : decode cX7_pagesOfTable 5 = .ok (.aload_n 0, 1) := by decide +kernel
theorem dX7_pagesOfTable_6 : decode cX7_pagesOfTable 6 = .ok (.iload_n 1, 1) := by decide +kernel
theorem dX7_pagesOfTable_7 : decode cX7_pagesOfTable 7 = .ok (.invokevirtual 41, 3) := by decide +kernel
theorem dX7_pagesOfTable_10 : decode cX7_pagesOfTable 10 = .ok (.invokestatic 44, 3) := by decide +kernel
theorem dX7_pagesOfTable_13 : decode cX7_pagesOfTable 13 = .ok (.ireturn, 1) := by decide +kernel
theorem dX7_codeAt_0 : decode cX7_codeAt 0 = .ok (.iload_n 1, 1) := by decide +kernel
theorem dX7_codeAt_1 : decode cX7_codeAt 1 = .ok (.ifCond .lt 29, 3) := by decide +kernel
theorem dX7_codeAt_4 : decode cX7_codeAt 4 = .ok (.iload_n 1, 1) := by decide +kernel
theorem dX7_codeAt_5 : decode cX7_codeAt 5 = .ok (.aload_n 0, 1) := by decide +kernel
theorem dX7_codeAt_6 : decode cX7_codeAt 6 = .ok (.getfield 27, 3) := by decide +kernel
theorem dX7_codeAt_9 : decode cX7_codeAt 9 = .ok (.if_icmp .ge 21, 3) := by decide +kernel
theorem dX7_codeAt_12 : decode cX7_codeAt 12 = .ok (.iload_n 2, 1) := by decide +kernel
theorem dX7_codeAt_13 : decode cX7_codeAt 13 = .ok (.ifCond .lt 17, 3) := by decide +kernel
theorem dX7_codeAt_16 : decode cX7_codeAt 16 = .ok (.iload_n 2, 1) := by decide +kernel
theorem dX7_codeAt_17 : decode cX7_codeAt 17 = .ok (.aload_n 0, 1) := by decide +kernel
theorem dX7_codeAt_18 : decode cX7_codeAt 18 = .ok (.getfield 18, 3) := by decide +kernel
theorem dX7_codeAt_21 : decode cX7_codeAt 21 = .ok (.iload_n 1, 1) := by decide +kernel
theorem dX7_codeAt_22 : decode cX7_codeAt 22 = .ok (.iaload, 1) := by decide +kernel
theorem dX7_codeAt_23 : decode cX7_codeAt 23 = .ok (.if_icmp .ge 7, 3) := by decide +kernel
theorem dX7_codeAt_26 : decode cX7_codeAt 26 = .ok (.iconst 1, 1) := by decide +kernel
theorem dX7_codeAt_27 : decode cX7_codeAt 27 = .ok (.goto 4, 3) := by decide +kernel
theorem dX7_codeAt_30 : decode cX7_codeAt 30 = .ok (.iconst 0, 1) := by decide +kernel
theorem dX7_codeAt_31 : decode cX7_codeAt 31 = .ok (.istore_n 3, 1) := by decide +kernel
theorem dX7_codeAt_32 : decode cX7_codeAt 32 = .ok (.iload_n 3, 1) := by decide +kernel
theorem dX7_codeAt_33 : decode cX7_codeAt 33 = .ok (.ifCond .eq 17, 3) := by decide +kernel
theorem dX7_codeAt_36 : decode cX7_codeAt 36 = .ok (.aload_n 0, 1) := by decide +kernel
theorem dX7_codeAt_37 : decode cX7_codeAt 37 = .ok (.getfield 21, 3) := by decide +kernel
theorem dX7_codeAt_40 : decode cX7_codeAt 40 = .ok (.iload_n 1, 1) := by decide +kernel
theorem dX7_codeAt_41 : decode cX7_codeAt 41 = .ok (.bipush 8, 2) := by decide +kernel
theorem dX7_codeAt_43 : decode cX7_codeAt 43 = .ok (.imul, 1) := by decide +kernel
theorem dX7_codeAt_44 : decode cX7_codeAt 44 = .ok (.iload_n 2, 1) := by decide +kernel
theorem dX7_codeAt_45 : decode cX7_codeAt 45 = .ok (.iadd, 1) := by decide +kernel
theorem dX7_codeAt_46 : decode cX7_codeAt 46 = .ok (.iaload, 1) := by decide +kernel
theorem dX7_codeAt_47 : decode cX7_codeAt 47 = .ok (.goto 4, 3) := by decide +kernel
theorem dX7_codeAt_50 : decode cX7_codeAt 50 = .ok (.iconst 0, 1) := by decide +kernel
theorem dX7_codeAt_51 : decode cX7_codeAt 51 = .ok (.ireturn, 1) := by decide +kernel
theorem dX7_wide_0 : decode cX7_wide 0 = .ok (.aload_n 0, 1) := by decide +kernel
theorem dX7_wide_1 : decode cX7_wide 1 = .ok (.getfield 31, 3) := by decide +kernel
theorem dX7_wide_4 : decode cX7_wide 4 = .ok (.ireturn, 1) := by decide +kernel
theorem dX7_memory_0 : decode cX7_memory 0 = .ok (.aload_n 0, 1) := by decide +kernel
theorem dX7_memory_1 : decode cX7_memory 1 = .ok (.getfield 34, 3) := by decide +kernel
theorem dX7_memory_4 : decode cX7_memory 4 = .ok (.ireturn, 1) := by decide +kernel
theorem dX7_putWide_0 : decode cX7_putWide 0 = .ok (.aload_n 0, 1) := by decide +kernel
theorem dX7_putWide_1 : decode cX7_putWide 1 = .ok (.getfield 31, 3) := by decide +kernel
theorem dX7_putWide_4 : decode cX7_putWide 4 = .ok (.istore_n 2, 1) := by decide +kernel
theorem dX7_putWide_5 : decode cX7_putWide 5 = .ok (.aload_n 0, 1) := by decide +kernel
theorem dX7_putWide_6 : decode cX7_putWide 6 = .ok (.iload_n 1, 1) := by decide +kernel
theorem dX7_putWide_7 : decode cX7_putWide 7 = .ok (.putfield 31, 3) := by decide +kernel
theorem dX7_putWide_10 : decode cX7_putWide 10 = .ok (.iload_n 2, 1) := by decide +kernel
theorem dX7_putWide_11 : decode cX7_putWide 11 = .ok (.ireturn, 1) := by decide +kernel
theorem dX7_putMemory_0 : decode cX7_putMemory 0 = .ok (.aload_n 0, 1) := by decide +kernel
theorem dX7_putMemory_1 : decode cX7_putMemory 1 = .ok (.getfield 34, 3) := by decide +kernel
theorem dX7_putMemory_4 : decode cX7_putMemory 4 = .ok (.istore_n 2, 1) := by decide +kernel
theorem dX7_putMemory_5 : decode cX7_putMemory 5 = .ok (.aload_n 0, 1) := by decide +kernel
theorem dX7_putMemory_6 : decode cX7_putMemory 6 = .ok (.iload_n 1, 1) := by decide +kernel
theorem dX7_putMemory_7 : decode cX7_putMemory 7 = .ok (.putfield 34, 3) := by decide +kernel
theorem dX7_putMemory_10 : decode cX7_putMemory 10 = .ok (.iload_n 2, 1) := by decide +kernel
theorem dX7_putMemory_11 : decode cX7_putMemory 11 = .ok (.ireturn, 1) := by decide +kernel
theorem dX7_addTable_0 : decode cX7_addTable 0 = .ok (.aload_n 0, 1) := by decide +kernel
theorem dX7_addTable_1 : decode cX7_addTable 1 = .ok (.getfield 27, 3) := by decide +kernel
theorem dX7_addTable_4 : decode cX7_addTable 4 = .ok (.bipush 6, 2) := by decide +kernel
theorem dX7_addTable_6 : decode cX7_addTable 6 = .ok (.if_icmp .lt 6, 3) := by decide +kernel
theorem dX7_addTable_9 : decode cX7_addTable 9 = .ok (.bipush (-104), 2) := by decide +kernel
theorem dX7_addTable_11 : decode cX7_addTable 11 = .ok (.ireturn, 1) := by decide +kernel
theorem dX7_addTable_12 : decode cX7_addTable 12 = .ok (.aload_n 0, 1) := by decide +kernel
theorem dX7_addTable_13 : decode cX7_addTable 13 = .ok (.getfield 9, 3) := by decide +kernel
theorem dX7_addTable_16 : decode cX7_addTable 16 = .ok (.aload_n 0, 1) := by decide +kernel
theorem dX7_addTable_17 : decode cX7_addTable 17 = .ok (.getfield 27, 3) := by decide +kernel
theorem dX7_addTable_20 : decode cX7_addTable 20 = .ok (.iload_n 1, 1) := by decide +kernel
theorem dX7_addTable_21 : decode cX7_addTable 21 = .ok (.iastore, 1) := by decide +kernel
theorem dX7_addTable_22 : decode cX7_addTable 22 = .ok (.aload_n 0, 1) := by decide +kernel
theorem dX7_addTable_23 : decode cX7_addTable 23 = .ok (.getfield 15, 3) := by decide +kernel
theorem dX7_addTable_26 : decode cX7_addTable 26 = .ok (.aload_n 0, 1) := by decide +kernel
theorem dX7_addTable_27 : decode cX7_addTable 27 = .ok (.getfield 27, 3) := by decide +kernel
theorem dX7_addTable_30 : decode cX7_addTable 30 = .ok (.iload_n 2, 1) := by decide +kernel
theorem dX7_addTable_31 : decode cX7_addTable 31 = .ok (.iastore, 1) := by decide +kernel
theorem dX7_addTable_32 : decode cX7_addTable 32 = .ok (.aload_n 0, 1) := by decide +kernel
theorem dX7_addTable_33 : decode cX7_addTable 33 = .ok (.dup, 1) := by decide +kernel
theorem dX7_addTable_34 : decode cX7_addTable 34 = .ok (.getfield 27, 3) := by decide +kernel
theorem dX7_addTable_37 : decode cX7_addTable 37 = .ok (.iconst 1, 1) := by decide +kernel
theorem dX7_addTable_38 : decode cX7_addTable 38 = .ok (.iadd, 1) := by decide +kernel
theorem dX7_addTable_39 : decode cX7_addTable 39 = .ok (.putfield 27, 3) := by decide +kernel
theorem dX7_addTable_42 : decode cX7_addTable 42 = .ok (.aload_n 0, 1) := by decide +kernel
theorem dX7_addTable_43 : decode cX7_addTable 43 = .ok (.getfield 27, 3) := by decide +kernel
theorem dX7_addTable_46 : decode cX7_addTable 46 = .ok (.iconst 1, 1) := by decide +kernel
theorem dX7_addTable_47 : decode cX7_addTable 47 = .ok (.isub, 1) := by decide +kernel
theorem dX7_addTable_48 : decode cX7_addTable 48 = .ok (.ireturn, 1) := by decide +kernel
theorem dX7_addRow_0 : decode cX7_addRow 0 = .ok (.aload_n 0, 1) := by decide +kernel
theorem dX7_addRow_1 : decode cX7_addRow 1 = .ok (.iload_n 1, 1) := by decide +kernel
theorem dX7_addRow_2 : decode cX7_addRow 2 = .ok (.invokevirtual 50, 3) := by decide +kernel
theorem dX7_addRow_5 : decode cX7_addRow 5 = .ok (.ifCond .ne 5, 3) := by decide +kernel
theorem dX7_addRow_8 : decode cX7_addRow 8 = .ok (.iconst 0, 1) := by decide +kernel
theorem dX7_addRow_9 : decode cX7_addRow 9 = .ok (.ireturn, 1) := by decide +kernel
theorem dX7_addRow_10 : decode cX7_addRow 10 = .ok (.aload_n 0, 1) := by decide +kernel
theorem dX7_addRow_11 : decode cX7_addRow 11 = .ok (.getfield 18, 3) := by decide +kernel
theorem dX7_addRow_14 : decode cX7_addRow 14 = .ok (.iload_n 1, 1) := by decide +kernel
theorem dX7_addRow_15 : decode cX7_addRow 15 = .ok (.iaload, 1) := by decide +kernel
theorem dX7_addRow_16 : decode cX7_addRow 16 = .ok (.istore_n 3, 1) := by decide +kernel
theorem dX7_addRow_17 : decode cX7_addRow 17 = .ok (.iload_n 3, 1) := by decide +kernel
theorem dX7_addRow_18 : decode cX7_addRow 18 = .ok (.ifCond .lt 9, 3) := by decide +kernel
theorem dX7_addRow_21 : decode cX7_addRow 21 = .ok (.iload_n 3, 1) := by decide +kernel
theorem dX7_addRow_22 : decode cX7_addRow 22 = .ok (.bipush 8, 2) := by decide +kernel
theorem dX7_addRow_24 : decode cX7_addRow 24 = .ok (.if_icmp .lt 5, 3) := by decide +kernel
theorem dX7_addRow_27 : decode cX7_addRow 27 = .ok (.iload_n 3, 1) := by decide +kernel
theorem dX7_addRow_28 : decode cX7_addRow 28 = .ok (.ireturn, 1) := by decide +kernel
theorem dX7_addRow_29 : decode cX7_addRow 29 = .ok (.aload_n 0, 1) := by decide +kernel
theorem dX7_addRow_30 : decode cX7_addRow 30 = .ok (.getfield 21, 3) := by decide +kernel
theorem dX7_addRow_33 : decode cX7_addRow 33 = .ok (.iload_n 1, 1) := by decide +kernel
theorem dX7_addRow_34 : decode cX7_addRow 34 = .ok (.bipush 8, 2) := by decide +kernel
theorem dX7_addRow_36 : decode cX7_addRow 36 = .ok (.imul, 1) := by decide +kernel
theorem dX7_addRow_37 : decode cX7_addRow 37 = .ok (.iload_n 3, 1) := by decide +kernel
theorem dX7_addRow_38 : decode cX7_addRow 38 = .ok (.iadd, 1) := by decide +kernel
theorem dX7_addRow_39 : decode cX7_addRow 39 = .ok (.iload_n 2, 1) := by decide +kernel
theorem dX7_addRow_40 : decode cX7_addRow 40 = .ok (.iastore, 1) := by decide +kernel
theorem dX7_addRow_41 : decode cX7_addRow 41 = .ok (.aload_n 0, 1) := by decide +kernel
theorem dX7_addRow_42 : decode cX7_addRow 42 = .ok (.getfield 18, 3) := by decide +kernel
theorem dX7_addRow_45 : decode cX7_addRow 45 = .ok (.iload_n 1, 1) := by decide +kernel
theorem dX7_addRow_46 : decode cX7_addRow 46 = .ok (.iload_n 3, 1) := by decide +kernel
theorem dX7_addRow_47 : decode cX7_addRow 47 = .ok (.iconst 1, 1) := by decide +kernel
theorem dX7_addRow_48 : decode cX7_addRow 48 = .ok (.iadd, 1) := by decide +kernel
theorem dX7_addRow_49 : decode cX7_addRow 49 = .ok (.iastore, 1) := by decide +kernel
theorem dX7_addRow_50 : decode cX7_addRow 50 = .ok (.iload_n 3, 1) := by decide +kernel
theorem dX7_addRow_51 : decode cX7_addRow 51 = .ok (.iconst 1, 1) := by decide +kernel
theorem dX7_addRow_52 : decode cX7_addRow 52 = .ok (.iadd, 1) := by decide +kernel
theorem dX7_addRow_53 : decode cX7_addRow 53 = .ok (.ireturn, 1) := by decide +kernel
theorem dX7_addSeeded_0 : decode cX7_addSeeded 0 = .ok (.iload 4, 2) := by decide +kernel
theorem dX7_addSeeded_2 : decode cX7_addSeeded 2 = .ok (.iconst 1, 1) := by decide +kernel
theorem dX7_addSeeded_3 : decode cX7_addSeeded 3 = .ok (.if_icmp .ge 5, 3) := by decide +kernel
theorem dX7_addSeeded_6 : decode cX7_addSeeded 6 = .ok (.iconst 0, 1) := by decide +kernel
theorem dX7_addSeeded_7 : decode cX7_addSeeded 7 = .ok (.ireturn, 1) := by decide +kernel
theorem dX7_addSeeded_8 : decode cX7_addSeeded 8 = .ok (.iload_n 3, 1) := by decide +kernel
theorem dX7_addSeeded_9 : decode cX7_addSeeded 9 = .ok (.bipush 8, 2) := by decide +kernel
theorem dX7_addSeeded_11 : decode cX7_addSeeded 11 = .ok (.aload_n 0, 1) := by decide +kernel
theorem dX7_addSeeded_12 : decode cX7_addSeeded 12 = .ok (.iload_n 1, 1) := by decide +kernel
theorem dX7_addSeeded_13 : decode cX7_addSeeded 13 = .ok (.invokevirtual 37, 3) := by decide +kernel
theorem dX7_addSeeded_16 : decode cX7_addSeeded 16 = .ok (.isub, 1) := by decide +kernel
theorem dX7_addSeeded_17 : decode cX7_addSeeded 17 = .ok (.invokestatic 54, 3) := by decide +kernel
theorem dX7_addSeeded_20 : decode cX7_addSeeded 20 = .ok (.istore 5, 2) := by decide +kernel
theorem dX7_addSeeded_22 : decode cX7_addSeeded 22 = .ok (.iload_n 2, 1) := by decide +kernel
theorem dX7_addSeeded_23 : decode cX7_addSeeded 23 = .ok (.i2l, 1) := by decide +kernel
theorem dX7_addSeeded_24 : decode cX7_addSeeded 24 = .ok (.lstore 6, 2) := by decide +kernel
theorem dX7_addSeeded_26 : decode cX7_addSeeded 26 = .ok (.iconst 0, 1) := by decide +kernel
theorem dX7_addSeeded_27 : decode cX7_addSeeded 27 = .ok (.istore 8, 2) := by decide +kernel
theorem dX7_addSeeded_29 : decode cX7_addSeeded 29 = .ok (.iload 8, 2) := by decide +kernel
theorem dX7_addSeeded_31 : decode cX7_addSeeded 31 = .ok (.iload 5, 2) := by decide +kernel
theorem dX7_addSeeded_33 : decode cX7_addSeeded 33 = .ok (.if_icmp .ge 83, 3) := by decide +kernel
theorem dX7_addSeeded_36 : decode cX7_addSeeded 36 = .ok (.iconst 0, 1) := by decide +kernel
theorem dX7_addSeeded_37 : decode cX7_addSeeded 37 = .ok (.istore 9, 2) := by decide +kernel
theorem dX7_addSeeded_39 : decode cX7_addSeeded 39 = .ok (.iconst 0, 1) := by decide +kernel
theorem dX7_addSeeded_40 : decode cX7_addSeeded 40 = .ok (.istore 10, 2) := by decide +kernel
theorem dX7_addSeeded_42 : decode cX7_addSeeded 42 = .ok (.iload 10, 2) := by decide +kernel
theorem dX7_addSeeded_44 : decode cX7_addSeeded 44 = .ok (.bipush 8, 2) := by decide +kernel
theorem dX7_addSeeded_46 : decode cX7_addSeeded 46 = .ok (.if_icmp .ge 56, 3) := by decide +kernel
theorem dX7_addSeeded_49 : decode cX7_addSeeded 49 = .ok (.aload_n 0, 1) := by decide +kernel
theorem dX7_addSeeded_50 : decode cX7_addSeeded 50 = .ok (.iload_n 1, 1) := by decide +kernel
theorem dX7_addSeeded_51 : decode cX7_addSeeded 51 = .ok (.iload 10, 2) := by decide +kernel
theorem dX7_addSeeded_53 : decode cX7_addSeeded 53 = .ok (.invokevirtual 59, 3) := by decide +kernel
theorem dX7_addSeeded_56 : decode cX7_addSeeded 56 = .ok (.ifCond .eq 40, 3) := by decide +kernel
theorem dX7_addSeeded_59 : decode cX7_addSeeded 59 = .ok (.ldc2_w 63, 3) := by decide +kernel
theorem dX7_addSeeded_62 : decode cX7_addSeeded 62 = .ok (.lload 6, 2) := by decide +kernel
theorem dX7_addSeeded_64 : decode cX7_addSeeded 64 = .ok (.lmul, 1) := by decide +kernel
theorem dX7_addSeeded_65 : decode cX7_addSeeded 65 = .ok (.ldc2_w 65, 3) := by decide +kernel
theorem dX7_addSeeded_68 : decode cX7_addSeeded 68 = .ok (.ladd, 1) := by decide +kernel
theorem dX7_addSeeded_69 : decode cX7_addSeeded 69 = .ok (.ldc2_w 67, 3) := by decide +kernel
theorem dX7_addSeeded_72 : decode cX7_addSeeded 72 = .ok (.land, 1) := by decide +kernel
theorem dX7_addSeeded_73 : decode cX7_addSeeded 73 = .ok (.lstore 6, 2) := by decide +kernel
theorem dX7_addSeeded_75 : decode cX7_addSeeded 75 = .ok (.iload 9, 2) := by decide +kernel
theorem dX7_addSeeded_77 : decode cX7_addSeeded 77 = .ok (.lload 6, 2) := by decide +kernel
theorem dX7_addSeeded_79 : decode cX7_addSeeded 79 = .ok (.ldc2_w 69, 3) := by decide +kernel
theorem dX7_addSeeded_82 : decode cX7_addSeeded 82 = .ok (.ldiv, 1) := by decide +kernel
theorem dX7_addSeeded_83 : decode cX7_addSeeded 83 = .ok (.iload 4, 2) := by decide +kernel
theorem dX7_addSeeded_85 : decode cX7_addSeeded 85 = .ok (.i2l, 1) := by decide +kernel
theorem dX7_addSeeded_86 : decode cX7_addSeeded 86 = .ok (.lrem, 1) := by decide +kernel
theorem dX7_addSeeded_87 : decode cX7_addSeeded 87 = .ok (.l2i, 1) := by decide +kernel
theorem dX7_addSeeded_88 : decode cX7_addSeeded 88 = .ok (.iconst 4, 1) := by decide +kernel
theorem dX7_addSeeded_89 : decode cX7_addSeeded 89 = .ok (.iload 10, 2) := by decide +kernel
theorem dX7_addSeeded_91 : decode cX7_addSeeded 91 = .ok (.imul, 1) := by decide +kernel
theorem dX7_addSeeded_92 : decode cX7_addSeeded 92 = .ok (.ishl, 1) := by decide +kernel
theorem dX7_addSeeded_93 : decode cX7_addSeeded 93 = .ok (.ior, 1) := by decide +kernel
theorem dX7_addSeeded_94 : decode cX7_addSeeded 94 = .ok (.istore 9, 2) := by decide +kernel
theorem dX7_addSeeded_96 : decode cX7_addSeeded 96 = .ok (.iinc 10 1, 3) := by decide +kernel
theorem dX7_addSeeded_99 : decode cX7_addSeeded 99 = .ok (.goto (-57), 3) := by decide +kernel
theorem dX7_addSeeded_102 : decode cX7_addSeeded 102 = .ok (.aload_n 0, 1) := by decide +kernel
theorem dX7_addSeeded_103 : decode cX7_addSeeded 103 = .ok (.iload_n 1, 1) := by decide +kernel
theorem dX7_addSeeded_104 : decode cX7_addSeeded 104 = .ok (.iload 9, 2) := by decide +kernel
theorem dX7_addSeeded_106 : decode cX7_addSeeded 106 = .ok (.invokevirtual 71, 3) := by decide +kernel
theorem dX7_addSeeded_109 : decode cX7_addSeeded 109 = .ok (.pop, 1) := by decide +kernel
theorem dX7_addSeeded_110 : decode cX7_addSeeded 110 = .ok (.iinc 8 1, 3) := by decide +kernel
theorem dX7_addSeeded_113 : decode cX7_addSeeded 113 = .ok (.goto (-84), 3) := by decide +kernel
theorem dX7_addSeeded_116 : decode cX7_addSeeded 116 = .ok (.iload 5, 2) := by decide +kernel
theorem dX7_addSeeded_118 : decode cX7_addSeeded 118 = .ok (.ireturn, 1) := by decide +kernel
theorem dX7_dropRow_0 : decode cX7_dropRow 0 = .ok (.aload_n 0, 1) := by decide +kernel
theorem dX7_dropRow_1 : decode cX7_dropRow 1 = .ok (.iload_n 1, 1) := by decide +kernel
theorem dX7_dropRow_2 : decode cX7_dropRow 2 = .ok (.iload_n 2, 1) := by decide +kernel
theorem dX7_dropRow_3 : decode cX7_dropRow 3 = .ok (.invokevirtual 74, 3) := by decide +kernel
theorem dX7_dropRow_6 : decode cX7_dropRow 6 = .ok (.ifCond .ne 9, 3) := by decide +kernel
theorem dX7_dropRow_9 : decode cX7_dropRow 9 = .ok (.aload_n 0, 1) := by decide +kernel
theorem dX7_dropRow_10 : decode cX7_dropRow 10 = .ok (.iload_n 1, 1) := by decide +kernel
theorem dX7_dropRow_11 : decode cX7_dropRow 11 = .ok (.invokevirtual 37, 3) := by decide +kernel
theorem dX7_dropRow_14 : decode cX7_dropRow 14 = .ok (.ireturn, 1) := by decide +kernel
theorem dX7_dropRow_15 : decode cX7_dropRow 15 = .ok (.iload_n 2, 1) := by decide +kernel
theorem dX7_dropRow_16 : decode cX7_dropRow 16 = .ok (.iconst 1, 1) := by decide +kernel
theorem dX7_dropRow_17 : decode cX7_dropRow 17 = .ok (.iadd, 1) := by decide +kernel
theorem dX7_dropRow_18 : decode cX7_dropRow 18 = .ok (.istore_n 3, 1) := by decide +kernel
theorem dX7_dropRow_19 : decode cX7_dropRow 19 = .ok (.iload_n 3, 1) := by decide +kernel
theorem dX7_dropRow_20 : decode cX7_dropRow 20 = .ok (.aload_n 0, 1) := by decide +kernel
theorem dX7_dropRow_21 : decode cX7_dropRow 21 = .ok (.getfield 18, 3) := by decide +kernel
theorem dX7_dropRow_24 : decode cX7_dropRow 24 = .ok (.iload_n 1, 1) := by decide +kernel
theorem dX7_dropRow_25 : decode cX7_dropRow 25 = .ok (.iaload, 1) := by decide +kernel
theorem dX7_dropRow_26 : decode cX7_dropRow 26 = .ok (.if_icmp .ge 33, 3) := by decide +kernel
theorem dX7_dropRow_29 : decode cX7_dropRow 29 = .ok (.aload_n 0, 1) := by decide +kernel
theorem dX7_dropRow_30 : decode cX7_dropRow 30 = .ok (.getfield 21, 3) := by decide +kernel
theorem dX7_dropRow_33 : decode cX7_dropRow 33 = .ok (.iload_n 1, 1) := by decide +kernel
theorem dX7_dropRow_34 : decode cX7_dropRow 34 = .ok (.bipush 8, 2) := by decide +kernel
theorem dX7_dropRow_36 : decode cX7_dropRow 36 = .ok (.imul, 1) := by decide +kernel
theorem dX7_dropRow_37 : decode cX7_dropRow 37 = .ok (.iload_n 3, 1) := by decide +kernel
theorem dX7_dropRow_38 : decode cX7_dropRow 38 = .ok (.iadd, 1) := by decide +kernel
theorem dX7_dropRow_39 : decode cX7_dropRow 39 = .ok (.iconst 1, 1) := by decide +kernel
theorem dX7_dropRow_40 : decode cX7_dropRow 40 = .ok (.isub, 1) := by decide +kernel
theorem dX7_dropRow_41 : decode cX7_dropRow 41 = .ok (.aload_n 0, 1) := by decide +kernel
theorem dX7_dropRow_42 : decode cX7_dropRow 42 = .ok (.getfield 21, 3) := by decide +kernel
theorem dX7_dropRow_45 : decode cX7_dropRow 45 = .ok (.iload_n 1, 1) := by decide +kernel
theorem dX7_dropRow_46 : decode cX7_dropRow 46 = .ok (.bipush 8, 2) := by decide +kernel
theorem dX7_dropRow_48 : decode cX7_dropRow 48 = .ok (.imul, 1) := by decide +kernel
theorem dX7_dropRow_49 : decode cX7_dropRow 49 = .ok (.iload_n 3, 1) := by decide +kernel
theorem dX7_dropRow_50 : decode cX7_dropRow 50 = .ok (.iadd, 1) := by decide +kernel
theorem dX7_dropRow_51 : decode cX7_dropRow 51 = .ok (.iaload, 1) := by decide +kernel
theorem dX7_dropRow_52 : decode cX7_dropRow 52 = .ok (.iastore, 1) := by decide +kernel
theorem dX7_dropRow_53 : decode cX7_dropRow 53 = .ok (.iinc 3 1, 3) := by decide +kernel
theorem dX7_dropRow_56 : decode cX7_dropRow 56 = .ok (.goto (-37), 3) := by decide +kernel
theorem dX7_dropRow_59 : decode cX7_dropRow 59 = .ok (.aload_n 0, 1) := by decide +kernel
theorem dX7_dropRow_60 : decode cX7_dropRow 60 = .ok (.getfield 18, 3) := by decide +kernel
theorem dX7_dropRow_63 : decode cX7_dropRow 63 = .ok (.iload_n 1, 1) := by decide +kernel
theorem dX7_dropRow_64 : decode cX7_dropRow 64 = .ok (.dup2, 1) := by decide +kernel
theorem dX7_dropRow_65 : decode cX7_dropRow 65 = .ok (.iaload, 1) := by decide +kernel
theorem dX7_dropRow_66 : decode cX7_dropRow 66 = .ok (.iconst 1, 1) := by decide +kernel
theorem dX7_dropRow_67 : decode cX7_dropRow 67 = .ok (.isub, 1) := by decide +kernel
theorem dX7_dropRow_68 : decode cX7_dropRow 68 = .ok (.iastore, 1) := by decide +kernel
theorem dX7_dropRow_69 : decode cX7_dropRow 69 = .ok (.aload_n 0, 1) := by decide +kernel
theorem dX7_dropRow_70 : decode cX7_dropRow 70 = .ok (.getfield 18, 3) := by decide +kernel
theorem dX7_dropRow_73 : decode cX7_dropRow 73 = .ok (.iload_n 1, 1) := by decide +kernel
theorem dX7_dropRow_74 : decode cX7_dropRow 74 = .ok (.iaload, 1) := by decide +kernel
theorem dX7_dropRow_75 : decode cX7_dropRow 75 = .ok (.ireturn, 1) := by decide +kernel
theorem dX7_sortRows_0 : decode cX7_sortRows 0 = .ok (.aload_n 0, 1) := by decide +kernel
theorem dX7_sortRows_1 : decode cX7_sortRows 1 = .ok (.iload_n 1, 1) := by decide +kernel
theorem dX7_sortRows_2 : decode cX7_sortRows 2 = .ok (.invokevirtual 37, 3) := by decide +kernel
theorem dX7_sortRows_5 : decode cX7_sortRows 5 = .ok (.istore_n 3, 1) := by decide +kernel
theorem dX7_sortRows_6 : decode cX7_sortRows 6 = .ok (.iconst 0, 1) := by decide +kernel
theorem dX7_sortRows_7 : decode cX7_sortRows 7 = .ok (.istore 4, 2) := by decide +kernel
theorem dX7_sortRows_9 : decode cX7_sortRows 9 = .ok (.iconst 0, 1) := by decide +kernel
theorem dX7_sortRows_10 : decode cX7_sortRows 10 = .ok (.istore 5, 2) := by decide +kernel
theorem dX7_sortRows_12 : decode cX7_sortRows 12 = .ok (.iload 5, 2) := by decide +kernel
theorem dX7_sortRows_14 : decode cX7_sortRows 14 = .ok (.iload_n 3, 1) := by decide +kernel
theorem dX7_sortRows_15 : decode cX7_sortRows 15 = .ok (.if_icmp .ge 55, 3) := by decide +kernel
theorem dX7_sortRows_18 : decode cX7_sortRows 18 = .ok (.aload_n 0, 1) := by decide +kernel
theorem dX7_sortRows_19 : decode cX7_sortRows 19 = .ok (.iload_n 1, 1) := by decide +kernel
theorem dX7_sortRows_20 : decode cX7_sortRows 20 = .ok (.iload 5, 2) := by decide +kernel
theorem dX7_sortRows_22 : decode cX7_sortRows 22 = .ok (.iload_n 2, 1) := by decide +kernel
theorem dX7_sortRows_23 : decode cX7_sortRows 23 = .ok (.invokevirtual 77, 3) := by decide +kernel
theorem dX7_sortRows_26 : decode cX7_sortRows 26 = .ok (.istore 6, 2) := by decide +kernel
theorem dX7_sortRows_28 : decode cX7_sortRows 28 = .ok (.iload 6, 2) := by decide +kernel
theorem dX7_sortRows_30 : decode cX7_sortRows 30 = .ok (.iload 5, 2) := by decide +kernel
theorem dX7_sortRows_32 : decode cX7_sortRows 32 = .ok (.if_icmp .eq 6, 3) := by decide +kernel
theorem dX7_sortRows_35 : decode cX7_sortRows 35 = .ok (.iinc 4 1, 3) := by decide +kernel
theorem dX7_sortRows_38 : decode cX7_sortRows 38 = .ok (.iload 6, 2) := by decide +kernel
theorem dX7_sortRows_40 : decode cX7_sortRows 40 = .ok (.ifCond .lt 24, 3) := by decide +kernel
theorem dX7_sortRows_43 : decode cX7_sortRows 43 = .ok (.iload 6, 2) := by decide +kernel
theorem dX7_sortRows_45 : decode cX7_sortRows 45 = .ok (.bipush 8, 2) := by decide +kernel
theorem dX7_sortRows_47 : decode cX7_sortRows 47 = .ok (.if_icmp .ge 17, 3) := by decide +kernel
theorem dX7_sortRows_50 : decode cX7_sortRows 50 = .ok (.aload_n 0, 1) := by decide +kernel
theorem dX7_sortRows_51 : decode cX7_sortRows 51 = .ok (.getfield 24, 3) := by decide +kernel
theorem dX7_sortRows_54 : decode cX7_sortRows 54 = .ok (.iload 6, 2) := by decide +kernel
theorem dX7_sortRows_56 : decode cX7_sortRows 56 = .ok (.aload_n 0, 1) := by decide +kernel
theorem dX7_sortRows_57 : decode cX7_sortRows 57 = .ok (.iload_n 1, 1) := by decide +kernel
theorem dX7_sortRows_58 : decode cX7_sortRows 58 = .ok (.iload 5, 2) := by decide +kernel
theorem dX7_sortRows_60 : decode cX7_sortRows 60 = .ok (.invokevirtual 81, 3) := by decide +kernel
theorem dX7_sortRows_63 : decode cX7_sortRows 63 = .ok (.iastore, 1) := by decide +kernel
theorem dX7_sortRows_64 : decode cX7_sortRows 64 = .ok (.iinc 5 1, 3) := by decide +kernel
theorem dX7_sortRows_67 : decode cX7_sortRows 67 = .ok (.goto (-55), 3) := by decide +kernel
theorem dX7_sortRows_70 : decode cX7_sortRows 70 = .ok (.iconst 0, 1) := by decide +kernel
theorem dX7_sortRows_71 : decode cX7_sortRows 71 = .ok (.istore 5, 2) := by decide +kernel
theorem dX7_sortRows_73 : decode cX7_sortRows 73 = .ok (.iload 5, 2) := by decide +kernel
theorem dX7_sortRows_75 : decode cX7_sortRows 75 = .ok (.iload_n 3, 1) := by decide +kernel
theorem dX7_sortRows_76 : decode cX7_sortRows 76 = .ok (.if_icmp .ge 28, 3) := by decide +kernel
theorem dX7_sortRows_79 : decode cX7_sortRows 79 = .ok (.aload_n 0, 1) := by decide +kernel
theorem dX7_sortRows_80 : decode cX7_sortRows 80 = .ok (.getfield 21, 3) := by decide +kernel
theorem dX7_sortRows_83 : decode cX7_sortRows 83 = .ok (.iload_n 1, 1) := by decide +kernel
theorem dX7_sortRows_84 : decode cX7_sortRows 84 = .ok (.bipush 8, 2) := by decide +kernel
theorem dX7_sortRows_86 : decode cX7_sortRows 86 = .ok (.imul, 1) := by decide +kernel
theorem dX7_sortRows_87 : decode cX7_sortRows 87 = .ok (.iload 5, 2) := by decide +kernel
theorem dX7_sortRows_89 : decode cX7_sortRows 89 = .ok (.iadd, 1) := by decide +kernel
theorem dX7_sortRows_90 : decode cX7_sortRows 90 = .ok (.aload_n 0, 1) := by decide +kernel
theorem dX7_sortRows_91 : decode cX7_sortRows 91 = .ok (.getfield 24, 3) := by decide +kernel
theorem dX7_sortRows_94 : decode cX7_sortRows 94 = .ok (.iload 5, 2) := by decide +kernel
theorem dX7_sortRows_96 : decode cX7_sortRows 96 = .ok (.iaload, 1) := by decide +kernel
theorem dX7_sortRows_97 : decode cX7_sortRows 97 = .ok (.iastore, 1) := by decide +kernel
theorem dX7_sortRows_98 : decode cX7_sortRows 98 = .ok (.iinc 5 1, 3) := by decide +kernel
theorem dX7_sortRows_101 : decode cX7_sortRows 101 = .ok (.goto (-28), 3) := by decide +kernel
theorem dX7_sortRows_104 : decode cX7_sortRows 104 = .ok (.iload 4, 2) := by decide +kernel
theorem dX7_sortRows_106 : decode cX7_sortRows 106 = .ok (.ireturn, 1) := by decide +kernel
theorem dX7_placeOf_0 : decode cX7_placeOf 0 = .ok (.aload_n 0, 1) := by decide +kernel
theorem dX7_placeOf_1 : decode cX7_placeOf 1 = .ok (.iload_n 1, 1) := by decide +kernel
theorem dX7_placeOf_2 : decode cX7_placeOf 2 = .ok (.iload_n 2, 1) := by decide +kernel
theorem dX7_placeOf_3 : decode cX7_placeOf 3 = .ok (.invokevirtual 81, 3) := by decide +kernel
theorem dX7_placeOf_6 : decode cX7_placeOf 6 = .ok (.iload_n 3, 1) := by decide +kernel
theorem dX7_placeOf_7 : decode cX7_placeOf 7 = .ok (.invokestatic 84, 3) := by decide +kernel
theorem dX7_placeOf_10 : decode cX7_placeOf 10 = .ok (.istore 4, 2) := by decide +kernel
theorem dX7_placeOf_12 : decode cX7_placeOf 12 = .ok (.iconst 0, 1) := by decide +kernel
theorem dX7_placeOf_13 : decode cX7_placeOf 13 = .ok (.istore 5, 2) := by decide +kernel
theorem dX7_placeOf_15 : decode cX7_placeOf 15 = .ok (.iconst 0, 1) := by decide +kernel
theorem dX7_placeOf_16 : decode cX7_placeOf 16 = .ok (.istore 6, 2) := by decide +kernel
theorem dX7_placeOf_18 : decode cX7_placeOf 18 = .ok (.iload 6, 2) := by decide +kernel
theorem dX7_placeOf_20 : decode cX7_placeOf 20 = .ok (.aload_n 0, 1) := by decide +kernel
theorem dX7_placeOf_21 : decode cX7_placeOf 21 = .ok (.iload_n 1, 1) := by decide +kernel
theorem dX7_placeOf_22 : decode cX7_placeOf 22 = .ok (.invokevirtual 37, 3) := by decide +kernel
theorem dX7_placeOf_25 : decode cX7_placeOf 25 = .ok (.if_icmp .ge 45, 3) := by decide +kernel
theorem dX7_placeOf_28 : decode cX7_placeOf 28 = .ok (.aload_n 0, 1) := by decide +kernel
theorem dX7_placeOf_29 : decode cX7_placeOf 29 = .ok (.iload_n 1, 1) := by decide +kernel
theorem dX7_placeOf_30 : decode cX7_placeOf 30 = .ok (.iload 6, 2) := by decide +kernel
theorem dX7_placeOf_32 : decode cX7_placeOf 32 = .ok (.invokevirtual 81, 3) := by decide +kernel
theorem dX7_placeOf_35 : decode cX7_placeOf 35 = .ok (.iload_n 3, 1) := by decide +kernel
theorem dX7_placeOf_36 : decode cX7_placeOf 36 = .ok (.invokestatic 84, 3) := by decide +kernel
theorem dX7_placeOf_39 : decode cX7_placeOf 39 = .ok (.istore 7, 2) := by decide +kernel
theorem dX7_placeOf_41 : decode cX7_placeOf 41 = .ok (.iload 7, 2) := by decide +kernel
theorem dX7_placeOf_43 : decode cX7_placeOf 43 = .ok (.iload 4, 2) := by decide +kernel
theorem dX7_placeOf_45 : decode cX7_placeOf 45 = .ok (.if_icmp .lt 16, 3) := by decide +kernel
theorem dX7_placeOf_48 : decode cX7_placeOf 48 = .ok (.iload 7, 2) := by decide +kernel
theorem dX7_placeOf_50 : decode cX7_placeOf 50 = .ok (.iload 4, 2) := by decide +kernel
theorem dX7_placeOf_52 : decode cX7_placeOf 52 = .ok (.if_icmp .ne 12, 3) := by decide +kernel
theorem dX7_placeOf_55 : decode cX7_placeOf 55 = .ok (.iload 6, 2) := by decide +kernel
theorem dX7_placeOf_57 : decode cX7_placeOf 57 = .ok (.iload_n 2, 1) := by decide +kernel
theorem dX7_placeOf_58 : decode cX7_placeOf 58 = .ok (.if_icmp .ge 6, 3) := by decide +kernel
theorem dX7_placeOf_61 : decode cX7_placeOf 61 = .ok (.iinc 5 1, 3) := by decide +kernel
theorem dX7_placeOf_64 : decode cX7_placeOf 64 = .ok (.iinc 6 1, 3) := by decide +kernel
theorem dX7_placeOf_67 : decode cX7_placeOf 67 = .ok (.goto (-49), 3) := by decide +kernel
theorem dX7_placeOf_70 : decode cX7_placeOf 70 = .ok (.iload 5, 2) := by decide +kernel
theorem dX7_placeOf_72 : decode cX7_placeOf 72 = .ok (.ireturn, 1) := by decide +kernel
theorem dX7_sortedLetter_0 : decode cX7_sortedLetter 0 = .ok (.iconst 0, 1) := by decide +kernel
theorem dX7_sortedLetter_1 : decode cX7_sortedLetter 1 = .ok (.istore_n 2, 1) := by decide +kernel
theorem dX7_sortedLetter_2 : decode cX7_sortedLetter 2 = .ok (.iload_n 2, 1) := by decide +kernel
theorem dX7_sortedLetter_3 : decode cX7_sortedLetter 3 = .ok (.bipush 8, 2) := by decide +kernel
theorem dX7_sortedLetter_5 : decode cX7_sortedLetter 5 = .ok (.if_icmp .ge 29, 3) := by decide +kernel
theorem dX7_sortedLetter_8 : decode cX7_sortedLetter 8 = .ok (.aload_n 0, 1) := by decide +kernel
theorem dX7_sortedLetter_9 : decode cX7_sortedLetter 9 = .ok (.iload_n 1, 1) := by decide +kernel
theorem dX7_sortedLetter_10 : decode cX7_sortedLetter 10 = .ok (.iload_n 2, 1) := by decide +kernel
theorem dX7_sortedLetter_11 : decode cX7_sortedLetter 11 = .ok (.invokevirtual 59, 3) := by decide +kernel
theorem dX7_sortedLetter_14 : decode cX7_sortedLetter 14 = .ok (.ifCond .eq 14, 3) := by decide +kernel
theorem dX7_sortedLetter_17 : decode cX7_sortedLetter 17 = .ok (.aload_n 0, 1) := by decide +kernel
theorem dX7_sortedLetter_18 : decode cX7_sortedLetter 18 = .ok (.iload_n 1, 1) := by decide +kernel
theorem dX7_sortedLetter_19 : decode cX7_sortedLetter 19 = .ok (.iload_n 2, 1) := by decide +kernel
theorem dX7_sortedLetter_20 : decode cX7_sortedLetter 20 = .ok (.invokevirtual 89, 3) := by decide +kernel
theorem dX7_sortedLetter_23 : decode cX7_sortedLetter 23 = .ok (.ifCond .eq 5, 3) := by decide +kernel
theorem dX7_sortedLetter_26 : decode cX7_sortedLetter 26 = .ok (.iload_n 2, 1) := by decide +kernel
theorem dX7_sortedLetter_27 : decode cX7_sortedLetter 27 = .ok (.ireturn, 1) := by decide +kernel
theorem dX7_sortedLetter_28 : decode cX7_sortedLetter 28 = .ok (.iinc 2 1, 3) := by decide +kernel
theorem dX7_sortedLetter_31 : decode cX7_sortedLetter 31 = .ok (.goto (-29), 3) := by decide +kernel
theorem dX7_sortedLetter_34 : decode cX7_sortedLetter 34 = .ok (.iconst (-1), 1) := by decide +kernel
theorem dX7_sortedLetter_35 : decode cX7_sortedLetter 35 = .ok (.ireturn, 1) := by decide +kernel
theorem dX7_rowsRise_0 : decode cX7_rowsRise 0 = .ok (.iconst 1, 1) := by decide +kernel
theorem dX7_rowsRise_1 : decode cX7_rowsRise 1 = .ok (.istore_n 3, 1) := by decide +kernel
theorem dX7_rowsRise_2 : decode cX7_rowsRise 2 = .ok (.iload_n 3, 1) := by decide +kernel
theorem dX7_rowsRise_3 : decode cX7_rowsRise 3 = .ok (.aload_n 0, 1) := by decide +kernel
theorem dX7_rowsRise_4 : decode cX7_rowsRise 4 = .ok (.iload_n 1, 1) := by decide +kernel
theorem dX7_rowsRise_5 : decode cX7_rowsRise 5 = .ok (.invokevirtual 37, 3) := by decide +kernel
theorem dX7_rowsRise_8 : decode cX7_rowsRise 8 = .ok (.if_icmp .ge 36, 3) := by decide +kernel
theorem dX7_rowsRise_11 : decode cX7_rowsRise 11 = .ok (.aload_n 0, 1) := by decide +kernel
theorem dX7_rowsRise_12 : decode cX7_rowsRise 12 = .ok (.iload_n 1, 1) := by decide +kernel
theorem dX7_rowsRise_13 : decode cX7_rowsRise 13 = .ok (.iload_n 3, 1) := by decide +kernel
theorem dX7_rowsRise_14 : decode cX7_rowsRise 14 = .ok (.invokevirtual 81, 3) := by decide +kernel
theorem dX7_rowsRise_17 : decode cX7_rowsRise 17 = .ok (.iload_n 2, 1) := by decide +kernel
theorem dX7_rowsRise_18 : decode cX7_rowsRise 18 = .ok (.invokestatic 84, 3) := by decide +kernel
theorem dX7_rowsRise_21 : decode cX7_rowsRise 21 = .ok (.aload_n 0, 1) := by decide +kernel
theorem dX7_rowsRise_22 : decode cX7_rowsRise 22 = .ok (.iload_n 1, 1) := by decide +kernel
theorem dX7_rowsRise_23 : decode cX7_rowsRise 23 = .ok (.iload_n 3, 1) := by decide +kernel
theorem dX7_rowsRise_24 : decode cX7_rowsRise 24 = .ok (.iconst 1, 1) := by decide +kernel
theorem dX7_rowsRise_25 : decode cX7_rowsRise 25 = .ok (.isub, 1) := by decide +kernel
theorem dX7_rowsRise_26 : decode cX7_rowsRise 26 = .ok (.invokevirtual 81, 3) := by decide +kernel
theorem dX7_rowsRise_29 : decode cX7_rowsRise 29 = .ok (.iload_n 2, 1) := by decide +kernel
theorem dX7_rowsRise_30 : decode cX7_rowsRise 30 = .ok (.invokestatic 84, 3) := by decide +kernel
theorem dX7_rowsRise_33 : decode cX7_rowsRise 33 = .ok (.if_icmp .ge 5, 3) := by decide +kernel
theorem dX7_rowsRise_36 : decode cX7_rowsRise 36 = .ok (.iconst 0, 1) := by decide +kernel
theorem dX7_rowsRise_37 : decode cX7_rowsRise 37 = .ok (.ireturn, 1) := by decide +kernel
theorem dX7_rowsRise_38 : decode cX7_rowsRise 38 = .ok (.iinc 3 1, 3) := by decide +kernel
theorem dX7_rowsRise_41 : decode cX7_rowsRise 41 = .ok (.goto (-39), 3) := by decide +kernel
theorem dX7_rowsRise_44 : decode cX7_rowsRise 44 = .ok (.iconst 1, 1) := by decide +kernel
theorem dX7_rowsRise_45 : decode cX7_rowsRise 45 = .ok (.ireturn, 1) := by decide +kernel
theorem dX7_unlikeNumbers_0 : decode cX7_unlikeNumbers 0 = .ok (.iconst 0, 1) := by decide +kernel
theorem dX7_unlikeNumbers_1 : decode cX7_unlikeNumbers 1 = .ok (.istore_n 3, 1) := by decide +kernel
theorem dX7_unlikeNumbers_2 : decode cX7_unlikeNumbers 2 = .ok (.iconst 0, 1) := by decide +kernel
theorem dX7_unlikeNumbers_3 : decode cX7_unlikeNumbers 3 = .ok (.istore 4, 2) := by decide +kernel
theorem dX7_unlikeNumbers_5 : decode cX7_unlikeNumbers 5 = .ok (.iload 4, 2) := by decide +kernel
theorem dX7_unlikeNumbers_7 : decode cX7_unlikeNumbers 7 = .ok (.aload_n 0, 1) := by decide +kernel
theorem dX7_unlikeNumbers_8 : decode cX7_unlikeNumbers 8 = .ok (.iload_n 1, 1) := by decide +kernel
theorem dX7_unlikeNumbers_9 : decode cX7_unlikeNumbers 9 = .ok (.invokevirtual 37, 3) := by decide +kernel
theorem dX7_unlikeNumbers_12 : decode cX7_unlikeNumbers 12 = .ok (.if_icmp .ge 25, 3) := by decide +kernel
theorem dX7_unlikeNumbers_15 : decode cX7_unlikeNumbers 15 = .ok (.iload_n 3, 1) := by decide +kernel
theorem dX7_unlikeNumbers_16 : decode cX7_unlikeNumbers 16 = .ok (.iconst 1, 1) := by decide +kernel
theorem dX7_unlikeNumbers_17 : decode cX7_unlikeNumbers 17 = .ok (.aload_n 0, 1) := by decide +kernel
theorem dX7_unlikeNumbers_18 : decode cX7_unlikeNumbers 18 = .ok (.iload_n 1, 1) := by decide +kernel
theorem dX7_unlikeNumbers_19 : decode cX7_unlikeNumbers 19 = .ok (.iload 4, 2) := by decide +kernel
theorem dX7_unlikeNumbers_21 : decode cX7_unlikeNumbers 21 = .ok (.invokevirtual 81, 3) := by decide +kernel
theorem dX7_unlikeNumbers_24 : decode cX7_unlikeNumbers 24 = .ok (.iload_n 2, 1) := by decide +kernel
theorem dX7_unlikeNumbers_25 : decode cX7_unlikeNumbers 25 = .ok (.invokestatic 84, 3) := by decide +kernel
theorem dX7_unlikeNumbers_28 : decode cX7_unlikeNumbers 28 = .ok (.ishl, 1) := by decide +kernel
theorem dX7_unlikeNumbers_29 : decode cX7_unlikeNumbers 29 = .ok (.ior, 1) := by decide +kernel
theorem dX7_unlikeNumbers_30 : decode cX7_unlikeNumbers 30 = .ok (.istore_n 3, 1) := by decide +kernel
theorem dX7_unlikeNumbers_31 : decode cX7_unlikeNumbers 31 = .ok (.iinc 4 1, 3) := by decide +kernel
theorem dX7_unlikeNumbers_34 : decode cX7_unlikeNumbers 34 = .ok (.goto (-29), 3) := by decide +kernel
theorem dX7_unlikeNumbers_37 : decode cX7_unlikeNumbers 37 = .ok (.iload_n 3, 1) := by decide +kernel
theorem dX7_unlikeNumbers_38 : decode cX7_unlikeNumbers 38 = .ok (.invokestatic 92, 3) := by decide +kernel
theorem dX7_unlikeNumbers_41 : decode cX7_unlikeNumbers 41 = .ok (.ireturn, 1) := by decide +kernel
theorem dX7_rowsOfAll_0 : decode cX7_rowsOfAll 0 = .ok (.iconst 0, 1) := by decide +kernel
theorem dX7_rowsOfAll_1 : decode cX7_rowsOfAll 1 = .ok (.istore_n 1, 1) := by decide +kernel
theorem dX7_rowsOfAll_2 : decode cX7_rowsOfAll 2 = .ok (.iconst 0, 1) := by decide +kernel
theorem dX7_rowsOfAll_3 : decode cX7_rowsOfAll 3 = .ok (.istore_n 2, 1) := by decide +kernel
theorem dX7_rowsOfAll_4 : decode cX7_rowsOfAll 4 = .ok (.iload_n 2, 1) := by decide +kernel
theorem dX7_rowsOfAll_5 : decode cX7_rowsOfAll 5 = .ok (.aload_n 0, 1) := by decide +kernel
theorem dX7_rowsOfAll_6 : decode cX7_rowsOfAll 6 = .ok (.getfield 27, 3) := by decide +kernel
theorem dX7_rowsOfAll_9 : decode cX7_rowsOfAll 9 = .ok (.if_icmp .ge 18, 3) := by decide +kernel
theorem dX7_rowsOfAll_12 : decode cX7_rowsOfAll 12 = .ok (.iload_n 1, 1) := by decide +kernel
