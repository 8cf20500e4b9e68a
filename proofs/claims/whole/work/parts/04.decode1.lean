theorem dX0_init_0 : decode cX0_init 0 = .ok (.aload_n 0, 1) := by decide +kernel
theorem dX0_init_1 : decode cX0_init 1 = .ok (.invokespecial 3, 3) := by decide +kernel
theorem dX0_init_4 : decode cX0_init 4 = .ok (.aload_n 0, 1) := by decide +kernel
theorem dX0_init_5 : decode cX0_init 5 = .ok (.sipush 512, 3) := by decide +kernel
theorem dX0_init_8 : decode cX0_init 8 = .ok (.newarray .int, 2) := by decide +kernel
theorem dX0_init_10 : decode cX0_init 10 = .ok (.putfield 9, 3) := by decide +kernel
theorem dX0_init_13 : decode cX0_init 13 = .ok (.aload_n 0, 1) := by decide +kernel
theorem dX0_init_14 : decode cX0_init 14 = .ok (.sipush 512, 3) := by decide +kernel
theorem dX0_init_17 : decode cX0_init 17 = .ok (.newarray .int, 2) := by decide +kernel
theorem dX0_init_19 : decode cX0_init 19 = .ok (.putfield 15, 3) := by decide +kernel
theorem dX0_init_22 : decode cX0_init 22 = .ok (.aload_n 0, 1) := by decide +kernel
theorem dX0_init_23 : decode cX0_init 23 = .ok (.aload_n 1, 1) := by decide +kernel
theorem dX0_init_24 : decode cX0_init 24 = .ok (.putfield 18, 3) := by decide +kernel
theorem dX0_init_27 : decode cX0_init 27 = .ok (.aload_n 0, 1) := by decide +kernel
theorem dX0_init_28 : decode cX0_init 28 = .ok (.getfield 9, 3) := by decide +kernel
theorem dX0_init_31 : decode cX0_init 31 = .ok (.iconst (-1), 1) := by decide +kernel
theorem dX0_init_32 : decode cX0_init 32 = .ok (.invokestatic 22, 3) := by decide +kernel
theorem dX0_init_35 : decode cX0_init 35 = .ok (.return_, 1) := by decide +kernel
theorem dX0_minutesFor_0 : decode cX0_minutesFor 0 = .ok (.aload_n 0, 1) := by decide +kernel
theorem dX0_minutesFor_1 : decode cX0_minutesFor 1 = .ok (.getfield 9, 3) := by decide +kernel
theorem dX0_minutesFor_4 : decode cX0_minutesFor 4 = .ok (.iload_n 1, 1) := by decide +kernel
theorem dX0_minutesFor_5 : decode cX0_minutesFor 5 = .ok (.iaload, 1) := by decide +kernel
theorem dX0_minutesFor_6 : decode cX0_minutesFor 6 = .ok (.ireturn, 1) := by decide +kernel
theorem dX0_driverFor_0 : decode cX0_driverFor 0 = .ok (.aload_n 0, 1) := by decide +kernel
theorem dX0_driverFor_1 : decode cX0_driverFor 1 = .ok (.getfield 15, 3) := by decide +kernel
theorem dX0_driverFor_4 : decode cX0_driverFor 4 = .ok (.iload_n 1, 1) := by decide +kernel
theorem dX0_driverFor_5 : decode cX0_driverFor 5 = .ok (.iaload, 1) := by decide +kernel
theorem dX0_driverFor_6 : decode cX0_driverFor 6 = .ok (.ireturn, 1) := by decide +kernel
theorem dX0_forgetWith_0 : decode cX0_forgetWith 0 = .ok (.iconst 0, 1) := by decide +kernel
theorem dX0_forgetWith_1 : decode cX0_forgetWith 1 = .ok (.istore_n 2, 1) := by decide +kernel
theorem dX0_forgetWith_2 : decode cX0_forgetWith 2 = .ok (.iload_n 2, 1) := by decide +kernel
theorem dX0_forgetWith_3 : decode cX0_forgetWith 3 = .ok (.sipush 512, 3) := by decide +kernel
theorem dX0_forgetWith_6 : decode cX0_forgetWith 6 = .ok (.if_icmp .ge 23, 3) := by decide +kernel
theorem dX0_forgetWith_9 : decode cX0_forgetWith 9 = .ok (.iload_n 2, 1) := by decide +kernel
theorem dX0_forgetWith_10 : decode cX0_forgetWith 10 = .ok (.iload_n 1, 1) := by decide +kernel
theorem dX0_forgetWith_11 : decode cX0_forgetWith 11 = .ok (.iand, 1) := by decide +kernel
theorem dX0_forgetWith_12 : decode cX0_forgetWith 12 = .ok (.iload_n 1, 1) := by decide +kernel
theorem dX0_forgetWith_13 : decode cX0_forgetWith 13 = .ok (.if_icmp .ne 10, 3) := by decide +kernel
theorem dX0_forgetWith_16 : decode cX0_forgetWith 16 = .ok (.aload_n 0, 1) := by decide +kernel
theorem dX0_forgetWith_17 : decode cX0_forgetWith 17 = .ok (.getfield 9, 3) := by decide +kernel
theorem dX0_forgetWith_20 : decode cX0_forgetWith 20 = .ok (.iload_n 2, 1) := by decide +kernel
theorem dX0_forgetWith_21 : decode cX0_forgetWith 21 = .ok (.iconst (-1), 1) := by decide +kernel
theorem dX0_forgetWith_22 : decode cX0_forgetWith 22 = .ok (.iastore, 1) := by decide +kernel
theorem dX0_forgetWith_23 : decode cX0_forgetWith 23 = .ok (.iinc 2 1, 3) := by decide +kernel
theorem dX0_forgetWith_26 : decode cX0_forgetWith 26 = .ok (.goto (-24), 3) := by decide +kernel
theorem dX0_forgetWith_29 : decode cX0_forgetWith 29 = .ok (.return_, 1) := by decide +kernel
theorem dX0_learnAll_0 : decode cX0_learnAll 0 = .ok (.iconst 1, 1) := by decide +kernel
theorem dX0_learnAll_1 : decode cX0_learnAll 1 = .ok (.istore_n 2, 1) := by decide +kernel
theorem dX0_learnAll_2 : decode cX0_learnAll 2 = .ok (.iload_n 2, 1) := by decide +kernel
theorem dX0_learnAll_3 : decode cX0_learnAll 3 = .ok (.iload_n 1, 1) := by decide +kernel
theorem dX0_learnAll_4 : decode cX0_learnAll 4 = .ok (.if_icmp .gt 30, 3) := by decide +kernel
theorem dX0_learnAll_7 : decode cX0_learnAll 7 = .ok (.iload_n 2, 1) := by decide +kernel
theorem dX0_learnAll_8 : decode cX0_learnAll 8 = .ok (.iload_n 1, 1) := by decide +kernel
theorem dX0_learnAll_9 : decode cX0_learnAll 9 = .ok (.iconst (-1), 1) := by decide +kernel
theorem dX0_learnAll_10 : decode cX0_learnAll 10 = .ok (.ixor, 1) := by decide +kernel
theorem dX0_learnAll_11 : decode cX0_learnAll 11 = .ok (.iand, 1) := by decide +kernel
theorem dX0_learnAll_12 : decode cX0_learnAll 12 = .ok (.ifCond .ne 16, 3) := by decide +kernel
theorem dX0_learnAll_15 : decode cX0_learnAll 15 = .ok (.iload_n 2, 1) := by decide +kernel
theorem dX0_learnAll_16 : decode cX0_learnAll 16 = .ok (.invokestatic 28, 3) := by decide +kernel
theorem dX0_learnAll_19 : decode cX0_learnAll 19 = .ok (.iconst 4, 1) := by decide +kernel
theorem dX0_learnAll_20 : decode cX0_learnAll 20 = .ok (.if_icmp .gt 8, 3) := by decide +kernel
theorem dX0_learnAll_23 : decode cX0_learnAll 23 = .ok (.aload_n 0, 1) := by decide +kernel
theorem dX0_learnAll_24 : decode cX0_learnAll 24 = .ok (.iload_n 2, 1) := by decide +kernel
theorem dX0_learnAll_25 : decode cX0_learnAll 25 = .ok (.invokevirtual 34, 3) := by decide +kernel
theorem dX0_learnAll_28 : decode cX0_learnAll 28 = .ok (.iinc 2 1, 3) := by decide +kernel
theorem dX0_learnAll_31 : decode cX0_learnAll 31 = .ok (.goto (-29), 3) := by decide +kernel
theorem dX0_learnAll_34 : decode cX0_learnAll 34 = .ok (.return_, 1) := by decide +kernel
theorem dX0_learn_0 : decode cX0_learn 0 = .ok (.aload_n 0, 1) := by decide +kernel
theorem dX0_learn_1 : decode cX0_learn 1 = .ok (.getfield 9, 3) := by decide +kernel
theorem dX0_learn_4 : decode cX0_learn 4 = .ok (.iload_n 1, 1) := by decide +kernel
theorem dX0_learn_5 : decode cX0_learn 5 = .ok (.iaload, 1) := by decide +kernel
theorem dX0_learn_6 : decode cX0_learn 6 = .ok (.iconst (-1), 1) := by decide +kernel
theorem dX0_learn_7 : decode cX0_learn 7 = .ok (.if_icmp .eq 4, 3) := by decide +kernel
theorem dX0_learn_10 : decode cX0_learn 10 = .ok (.return_, 1) := by decide +kernel
theorem dX0_learn_11 : decode cX0_learn 11 = .ok (.aload_n 0, 1) := by decide +kernel
theorem dX0_learn_12 : decode cX0_learn 12 = .ok (.getfield 9, 3) := by decide +kernel
theorem dX0_learn_15 : decode cX0_learn 15 = .ok (.iload_n 1, 1) := by decide +kernel
theorem dX0_learn_16 : decode cX0_learn 16 = .ok (.bipush (-9), 2) := by decide +kernel
theorem dX0_learn_18 : decode cX0_learn 18 = .ok (.iastore, 1) := by decide +kernel
theorem dX0_learn_19 : decode cX0_learn 19 = .ok (.aload_n 0, 1) := by decide +kernel
theorem dX0_learn_20 : decode cX0_learn 20 = .ok (.getfield 15, 3) := by decide +kernel
theorem dX0_learn_23 : decode cX0_learn 23 = .ok (.iload_n 1, 1) := by decide +kernel
theorem dX0_learn_24 : decode cX0_learn 24 = .ok (.bipush (-9), 2) := by decide +kernel
theorem dX0_learn_26 : decode cX0_learn 26 = .ok (.iastore, 1) := by decide +kernel
theorem dX0_learn_27 : decode cX0_learn 27 = .ok (.iconst 0, 1) := by decide +kernel
theorem dX0_learn_28 : decode cX0_learn 28 = .ok (.istore_n 2, 1) := by decide +kernel
theorem dX0_learn_29 : decode cX0_learn 29 = .ok (.iload_n 2, 1) := by decide +kernel
theorem dX0_learn_30 : decode cX0_learn 30 = .ok (.bipush 9, 2) := by decide +kernel
theorem dX0_learn_32 : decode cX0_learn 32 = .ok (.if_icmp .ge 45, 3) := by decide +kernel
theorem dX0_learn_35 : decode cX0_learn 35 = .ok (.iload_n 1, 1) := by decide +kernel
theorem dX0_learn_36 : decode cX0_learn 36 = .ok (.iload_n 2, 1) := by decide +kernel
theorem dX0_learn_37 : decode cX0_learn 37 = .ok (.invokestatic 38, 3) := by decide +kernel
theorem dX0_learn_40 : decode cX0_learn 40 = .ok (.ifCond .eq 31, 3) := by decide +kernel
theorem dX0_learn_43 : decode cX0_learn 43 = .ok (.aload_n 0, 1) := by decide +kernel
theorem dX0_learn_44 : decode cX0_learn 44 = .ok (.getfield 18, 3) := by decide +kernel
theorem dX0_learn_47 : decode cX0_learn 47 = .ok (.iload_n 1, 1) := by decide +kernel
theorem dX0_learn_48 : decode cX0_learn 48 = .ok (.iload_n 2, 1) := by decide +kernel
theorem dX0_learn_49 : decode cX0_learn 49 = .ok (.invokevirtual 42, 3) := by decide +kernel
theorem dX0_learn_52 : decode cX0_learn 52 = .ok (.ifCond .ne 19, 3) := by decide +kernel
theorem dX0_learn_55 : decode cX0_learn 55 = .ok (.aload_n 0, 1) := by decide +kernel
theorem dX0_learn_56 : decode cX0_learn 56 = .ok (.iload_n 1, 1) := by decide +kernel
theorem dX0_learn_57 : decode cX0_learn 57 = .ok (.iload_n 2, 1) := by decide +kernel
theorem dX0_learn_58 : decode cX0_learn 58 = .ok (.aload_n 0, 1) := by decide +kernel
theorem dX0_learn_59 : decode cX0_learn 59 = .ok (.getfield 18, 3) := by decide +kernel
theorem dX0_learn_62 : decode cX0_learn 62 = .ok (.invokevirtual 48, 3) := by decide +kernel
theorem dX0_learn_65 : decode cX0_learn 65 = .ok (.getfield 52, 3) := by decide +kernel
theorem dX0_learn_68 : decode cX0_learn 68 = .ok (.invokevirtual 58, 3) := by decide +kernel
theorem dX0_learn_71 : decode cX0_learn 71 = .ok (.iinc 2 1, 3) := by decide +kernel
theorem dX0_learn_74 : decode cX0_learn 74 = .ok (.goto (-45), 3) := by decide +kernel
theorem dX0_learn_77 : decode cX0_learn 77 = .ok (.return_, 1) := by decide +kernel
theorem dX0_takeIfFewer_0 : decode cX0_takeIfFewer 0 = .ok (.aload_n 0, 1) := by decide +kernel
theorem dX0_takeIfFewer_1 : decode cX0_takeIfFewer 1 = .ok (.getfield 9, 3) := by decide +kernel
theorem dX0_takeIfFewer_4 : decode cX0_takeIfFewer 4 = .ok (.iload_n 1, 1) := by decide +kernel
theorem dX0_takeIfFewer_5 : decode cX0_takeIfFewer 5 = .ok (.iaload, 1) := by decide +kernel
theorem dX0_takeIfFewer_6 : decode cX0_takeIfFewer 6 = .ok (.bipush (-9), 2) := by decide +kernel
theorem dX0_takeIfFewer_8 : decode cX0_takeIfFewer 8 = .ok (.if_icmp .eq 13, 3) := by decide +kernel
theorem dX0_takeIfFewer_11 : decode cX0_takeIfFewer 11 = .ok (.iload_n 3, 1) := by decide +kernel
theorem dX0_takeIfFewer_12 : decode cX0_takeIfFewer 12 = .ok (.aload_n 0, 1) := by decide +kernel
theorem dX0_takeIfFewer_13 : decode cX0_takeIfFewer 13 = .ok (.getfield 9, 3) := by decide +kernel
theorem dX0_takeIfFewer_16 : decode cX0_takeIfFewer 16 = .ok (.iload_n 1, 1) := by decide +kernel
theorem dX0_takeIfFewer_17 : decode cX0_takeIfFewer 17 = .ok (.iaload, 1) := by decide +kernel
theorem dX0_takeIfFewer_18 : decode cX0_takeIfFewer 18 = .ok (.if_icmp .ge 17, 3) := by decide +kernel
theorem dX0_takeIfFewer_21 : decode cX0_takeIfFewer 21 = .ok (.aload_n 0, 1) := by decide +kernel
theorem dX0_takeIfFewer_22 : decode cX0_takeIfFewer 22 = .ok (.getfield 9, 3) := by decide +kernel
theorem dX0_takeIfFewer_25 : decode cX0_takeIfFewer 25 = .ok (.iload_n 1, 1) := by decide +kernel
theorem dX0_takeIfFewer_26 : decode cX0_takeIfFewer 26 = .ok (.iload_n 3, 1) := by decide +kernel
theorem dX0_takeIfFewer_27 : decode cX0_takeIfFewer 27 = .ok (.iastore, 1) := by decide +kernel
theorem dX0_takeIfFewer_28 : decode cX0_takeIfFewer 28 = .ok (.aload_n 0, 1) := by decide +kernel
theorem dX0_takeIfFewer_29 : decode cX0_takeIfFewer 29 = .ok (.getfield 15, 3) := by decide +kernel
theorem dX0_takeIfFewer_32 : decode cX0_takeIfFewer 32 = .ok (.iload_n 1, 1) := by decide +kernel
theorem dX0_takeIfFewer_33 : decode cX0_takeIfFewer 33 = .ok (.iload_n 2, 1) := by decide +kernel
theorem dX0_takeIfFewer_34 : decode cX0_takeIfFewer 34 = .ok (.iastore, 1) := by decide +kernel
theorem dX0_takeIfFewer_35 : decode cX0_takeIfFewer 35 = .ok (.return_, 1) := by decide +kernel
theorem dX1_init_0 : decode cX1_init 0 = .ok (.aload_n 0, 1) := by decide +kernel
theorem dX1_init_1 : decode cX1_init 1 = .ok (.invokespecial 3, 3) := by decide +kernel
theorem dX1_init_4 : decode cX1_init 4 = .ok (.aload_n 0, 1) := by decide +kernel
theorem dX1_init_5 : decode cX1_init 5 = .ok (.sipush 512, 3) := by decide +kernel
theorem dX1_init_8 : decode cX1_init 8 = .ok (.newarray .int, 2) := by decide +kernel
theorem dX1_init_10 : decode cX1_init 10 = .ok (.putfield 9, 3) := by decide +kernel
theorem dX1_init_13 : decode cX1_init 13 = .ok (.aload_n 0, 1) := by decide +kernel
theorem dX1_init_14 : decode cX1_init 14 = .ok (.sipush 512, 3) := by decide +kernel
theorem dX1_init_17 : decode cX1_init 17 = .ok (.newarray .int, 2) := by decide +kernel
theorem dX1_init_19 : decode cX1_init 19 = .ok (.putfield 15, 3) := by decide +kernel
theorem dX1_init_22 : decode cX1_init 22 = .ok (.aload_n 0, 1) := by decide +kernel
theorem dX1_init_23 : decode cX1_init 23 = .ok (.aload_n 1, 1) := by decide +kernel
theorem dX1_init_24 : decode cX1_init 24 = .ok (.putfield 18, 3) := by decide +kernel
theorem dX1_init_27 : decode cX1_init 27 = .ok (.return_, 1) := by decide +kernel
theorem dX1_worthOf_0 : decode cX1_worthOf 0 = .ok (.iload_n 0, 1) := by decide +kernel
theorem dX1_worthOf_1 : decode cX1_worthOf 1 = .ok (.ldc 22, 2) := by decide +kernel
theorem dX1_worthOf_3 : decode cX1_worthOf 3 = .ok (.imul, 1) := by decide +kernel
theorem dX1_worthOf_4 : decode cX1_worthOf 4 = .ok (.iload_n 1, 1) := by decide +kernel
theorem dX1_worthOf_5 : decode cX1_worthOf 5 = .ok (.bipush 10, 2) := by decide +kernel
theorem dX1_worthOf_7 : decode cX1_worthOf 7 = .ok (.imul, 1) := by decide +kernel
theorem dX1_worthOf_8 : decode cX1_worthOf 8 = .ok (.iadd, 1) := by decide +kernel
theorem dX1_worthOf_9 : decode cX1_worthOf 9 = .ok (.iload_n 2, 1) := by decide +kernel
theorem dX1_worthOf_10 : decode cX1_worthOf 10 = .ok (.iadd, 1) := by decide +kernel
theorem dX1_worthOf_11 : decode cX1_worthOf 11 = .ok (.ireturn, 1) := by decide +kernel
theorem dX1_findBest_0 : decode cX1_findBest 0 = .ok (.aload_n 0, 1) := by decide +kernel
theorem dX1_findBest_1 : decode cX1_findBest 1 = .ok (.iload_n 1, 1) := by decide +kernel
theorem dX1_findBest_2 : decode cX1_findBest 2 = .ok (.bipush 10, 2) := by decide +kernel
theorem dX1_findBest_4 : decode cX1_findBest 4 = .ok (.invokevirtual 23, 3) := by decide +kernel
theorem dX1_findBest_7 : decode cX1_findBest 7 = .ok (.ireturn, 1) := by decide +kernel
theorem dX1_fewestPools_0 : decode cX1_fewestPools 0 = .ok (.aload_n 0, 1) := by decide +kernel
theorem dX1_fewestPools_1 : decode cX1_fewestPools 1 = .ok (.iload_n 1, 1) := by decide +kernel
theorem dX1_fewestPools_2 : decode cX1_fewestPools 2 = .ok (.iconst 0, 1) := by decide +kernel
theorem dX1_fewestPools_3 : decode cX1_fewestPools 3 = .ok (.invokevirtual 23, 3) := by decide +kernel
theorem dX1_fewestPools_6 : decode cX1_fewestPools 6 = .ok (.istore_n 2, 1) := by decide +kernel
theorem dX1_fewestPools_7 : decode cX1_fewestPools 7 = .ok (.iload_n 2, 1) := by decide +kernel
theorem dX1_fewestPools_8 : decode cX1_fewestPools 8 = .ok (.ldc 22, 2) := by decide +kernel
theorem dX1_fewestPools_10 : decode cX1_fewestPools 10 = .ok (.if_icmp .ge 7, 3) := by decide +kernel
theorem dX1_fewestPools_13 : decode cX1_fewestPools 13 = .ok (.iload_n 2, 1) := by decide +kernel
theorem dX1_fewestPools_14 : decode cX1_fewestPools 14 = .ok (.goto 5, 3) := by decide +kernel
theorem dX1_fewestPools_17 : decode cX1_fewestPools 17 = .ok (.bipush (-9), 2) := by decide +kernel
theorem dX1_fewestPools_19 : decode cX1_fewestPools 19 = .ok (.ireturn, 1) := by decide +kernel
theorem dX1_choiceFor_0 : decode cX1_choiceFor 0 = .ok (.aload_n 0, 1) := by decide +kernel
theorem dX1_choiceFor_1 : decode cX1_choiceFor 1 = .ok (.getfield 15, 3) := by decide +kernel
theorem dX1_choiceFor_4 : decode cX1_choiceFor 4 = .ok (.iload_n 1, 1) := by decide +kernel
theorem dX1_choiceFor_5 : decode cX1_choiceFor 5 = .ok (.iaload, 1) := by decide +kernel
theorem dX1_choiceFor_6 : decode cX1_choiceFor 6 = .ok (.ireturn, 1) := by decide +kernel
theorem dX1_findAll_0 : decode cX1_findAll 0 = .ok (.aload_n 0, 1) := by decide +kernel
theorem dX1_findAll_1 : decode cX1_findAll 1 = .ok (.getfield 9, 3) := by decide +kernel
theorem dX1_findAll_4 : decode cX1_findAll 4 = .ok (.iconst 0, 1) := by decide +kernel
theorem dX1_findAll_5 : decode cX1_findAll 5 = .ok (.iconst 0, 1) := by decide +kernel
theorem dX1_findAll_6 : decode cX1_findAll 6 = .ok (.iastore, 1) := by decide +kernel
theorem dX1_findAll_7 : decode cX1_findAll 7 = .ok (.iconst 1, 1) := by decide +kernel
theorem dX1_findAll_8 : decode cX1_findAll 8 = .ok (.istore_n 3, 1) := by decide +kernel
theorem dX1_findAll_9 : decode cX1_findAll 9 = .ok (.iload_n 3, 1) := by decide +kernel
theorem dX1_findAll_10 : decode cX1_findAll 10 = .ok (.iload_n 1, 1) := by decide +kernel
theorem dX1_findAll_11 : decode cX1_findAll 11 = .ok (.if_icmp .gt 23, 3) := by decide +kernel
theorem dX1_findAll_14 : decode cX1_findAll 14 = .ok (.iload_n 3, 1) := by decide +kernel
theorem dX1_findAll_15 : decode cX1_findAll 15 = .ok (.iload_n 1, 1) := by decide +kernel
theorem dX1_findAll_16 : decode cX1_findAll 16 = .ok (.iconst (-1), 1) := by decide +kernel
theorem dX1_findAll_17 : decode cX1_findAll 17 = .ok (.ixor, 1) := by decide +kernel
theorem dX1_findAll_18 : decode cX1_findAll 18 = .ok (.iand, 1) := by decide +kernel
theorem dX1_findAll_19 : decode cX1_findAll 19 = .ok (.ifCond .ne 9, 3) := by decide +kernel
theorem dX1_findAll_22 : decode cX1_findAll 22 = .ok (.aload_n 0, 1) := by decide +kernel
theorem dX1_findAll_23 : decode cX1_findAll 23 = .ok (.iload_n 3, 1) := by decide +kernel
theorem dX1_findAll_24 : decode cX1_findAll 24 = .ok (.iload_n 2, 1) := by decide +kernel
theorem dX1_findAll_25 : decode cX1_findAll 25 = .ok (.invokevirtual 27, 3) := by decide +kernel
theorem dX1_findAll_28 : decode cX1_findAll 28 = .ok (.iinc 3 1, 3) := by decide +kernel
theorem dX1_findAll_31 : decode cX1_findAll 31 = .ok (.goto (-22), 3) := by decide +kernel
theorem dX1_findAll_34 : decode cX1_findAll 34 = .ok (.aload_n 0, 1) := by decide +kernel
theorem dX1_findAll_35 : decode cX1_findAll 35 = .ok (.getfield 9, 3) := by decide +kernel
theorem dX1_findAll_38 : decode cX1_findAll 38 = .ok (.iload_n 1, 1) := by decide +kernel
theorem dX1_findAll_39 : decode cX1_findAll 39 = .ok (.iaload, 1) := by decide +kernel
theorem dX1_findAll_40 : decode cX1_findAll 40 = .ok (.ireturn, 1) := by decide +kernel
theorem dX1_choose_0 : decode cX1_choose 0 = .ok (.iload_n 1, 1) := by decide +kernel
theorem dX1_choose_1 : decode cX1_choose 1 = .ok (.iload_n 1, 1) := by decide +kernel
theorem dX1_choose_2 : decode cX1_choose 2 = .ok (.ineg, 1) := by decide +kernel
theorem dX1_choose_3 : decode cX1_choose 3 = .ok (.iand, 1) := by decide +kernel
theorem dX1_choose_4 : decode cX1_choose 4 = .ok (.istore_n 3, 1) := by decide +kernel
theorem dX1_choose_5 : decode cX1_choose 5 = .ok (.iload_n 1, 1) := by decide +kernel
theorem dX1_choose_6 : decode cX1_choose 6 = .ok (.iload_n 3, 1) := by decide +kernel
theorem dX1_choose_7 : decode cX1_choose 7 = .ok (.iconst (-1), 1) := by decide +kernel
theorem dX1_choose_8 : decode cX1_choose 8 = .ok (.ixor, 1) := by decide +kernel
theorem dX1_choose_9 : decode cX1_choose 9 = .ok (.iand, 1) := by decide +kernel
theorem dX1_choose_10 : decode cX1_choose 10 = .ok (.istore 4, 2) := by decide +kernel
theorem dX1_choose_12 : decode cX1_choose 12 = .ok (.aload_n 0, 1) := by decide +kernel
theorem dX1_choose_13 : decode cX1_choose 13 = .ok (.getfield 9, 3) := by decide +kernel
theorem dX1_choose_16 : decode cX1_choose 16 = .ok (.iload_n 1, 1) := by decide +kernel
theorem dX1_choose_17 : decode cX1_choose 17 = .ok (.aload_n 0, 1) := by decide +kernel
theorem dX1_choose_18 : decode cX1_choose 18 = .ok (.getfield 9, 3) := by decide +kernel
theorem dX1_choose_21 : decode cX1_choose 21 = .ok (.iload 4, 2) := by decide +kernel
theorem dX1_choose_23 : decode cX1_choose 23 = .ok (.iaload, 1) := by decide +kernel
theorem dX1_choose_24 : decode cX1_choose 24 = .ok (.ldc 22, 2) := by decide +kernel
theorem dX1_choose_26 : decode cX1_choose 26 = .ok (.iadd, 1) := by decide +kernel
theorem dX1_choose_27 : decode cX1_choose 27 = .ok (.iastore, 1) := by decide +kernel
theorem dX1_choose_28 : decode cX1_choose 28 = .ok (.aload_n 0, 1) := by decide +kernel
theorem dX1_choose_29 : decode cX1_choose 29 = .ok (.getfield 15, 3) := by decide +kernel
theorem dX1_choose_32 : decode cX1_choose 32 = .ok (.iload_n 1, 1) := by decide +kernel
theorem dX1_choose_33 : decode cX1_choose 33 = .ok (.iconst 0, 1) := by decide +kernel
theorem dX1_choose_34 : decode cX1_choose 34 = .ok (.iastore, 1) := by decide +kernel
theorem dX1_choose_35 : decode cX1_choose 35 = .ok (.iconst 1, 1) := by decide +kernel
theorem dX1_choose_36 : decode cX1_choose 36 = .ok (.iload 4, 2) := by decide +kernel
theorem dX1_choose_38 : decode cX1_choose 38 = .ok (.invokestatic 31, 3) := by decide +kernel
theorem dX1_choose_41 : decode cX1_choose 41 = .ok (.ishl, 1) := by decide +kernel
theorem dX1_choose_42 : decode cX1_choose 42 = .ok (.istore 5, 2) := by decide +kernel
theorem dX1_choose_44 : decode cX1_choose 44 = .ok (.iconst 0, 1) := by decide +kernel
theorem dX1_choose_45 : decode cX1_choose 45 = .ok (.istore 6, 2) := by decide +kernel
theorem dX1_choose_47 : decode cX1_choose 47 = .ok (.iconst 0, 1) := by decide +kernel
theorem dX1_choose_48 : decode cX1_choose 48 = .ok (.istore 7, 2) := by decide +kernel
theorem dX1_choose_50 : decode cX1_choose 50 = .ok (.iload 7, 2) := by decide +kernel
theorem dX1_choose_52 : decode cX1_choose 52 = .ok (.iload 5, 2) := by decide +kernel
theorem dX1_choose_54 : decode cX1_choose 54 = .ok (.if_icmp .ge 29, 3) := by decide +kernel
theorem dX1_choose_57 : decode cX1_choose 57 = .ok (.aload_n 0, 1) := by decide +kernel
theorem dX1_choose_58 : decode cX1_choose 58 = .ok (.iload_n 1, 1) := by decide +kernel
theorem dX1_choose_59 : decode cX1_choose 59 = .ok (.iload_n 3, 1) := by decide +kernel
theorem dX1_choose_60 : decode cX1_choose 60 = .ok (.iload 6, 2) := by decide +kernel
theorem dX1_choose_62 : decode cX1_choose 62 = .ok (.ior, 1) := by decide +kernel
theorem dX1_choose_63 : decode cX1_choose 63 = .ok (.iload_n 2, 1) := by decide +kernel
theorem dX1_choose_64 : decode cX1_choose 64 = .ok (.invokevirtual 37, 3) := by decide +kernel
theorem dX1_choose_67 : decode cX1_choose 67 = .ok (.iload 6, 2) := by decide +kernel
theorem dX1_choose_69 : decode cX1_choose 69 = .ok (.iload 4, 2) := by decide +kernel
theorem dX1_choose_71 : decode cX1_choose 71 = .ok (.isub, 1) := by decide +kernel
theorem dX1_choose_72 : decode cX1_choose 72 = .ok (.iload 4, 2) := by decide +kernel
theorem dX1_choose_74 : decode cX1_choose 74 = .ok (.iand, 1) := by decide +kernel
theorem dX1_choose_75 : decode cX1_choose 75 = .ok (.istore 6, 2) := by decide +kernel
theorem dX1_choose_77 : decode cX1_choose 77 = .ok (.iinc 7 1, 3) := by decide +kernel
theorem dX1_choose_80 : decode cX1_choose 80 = .ok (.goto (-30), 3) := by decide +kernel
theorem dX1_choose_83 : decode cX1_choose 83 = .ok (.return_, 1) := by decide +kernel
theorem dX1_tryPool_0 : decode cX1_tryPool 0 = .ok (.iload_n 2, 1) := by decide +kernel
theorem dX1_tryPool_1 : decode cX1_tryPool 1 = .ok (.invokestatic 31, 3) := by decide +kernel
theorem dX1_tryPool_4 : decode cX1_tryPool 4 = .ok (.iconst 4, 1) := by decide +kernel
theorem dX1_tryPool_5 : decode cX1_tryPool 5 = .ok (.if_icmp .le 4, 3) := by decide +kernel
theorem dX1_tryPool_8 : decode cX1_tryPool 8 = .ok (.return_, 1) := by decide +kernel
theorem dX1_tryPool_9 : decode cX1_tryPool 9 = .ok (.aload_n 0, 1) := by decide +kernel
theorem dX1_tryPool_10 : decode cX1_tryPool 10 = .ok (.getfield 18, 3) := by decide +kernel
theorem dX1_tryPool_13 : decode cX1_tryPool 13 = .ok (.iload_n 2, 1) := by decide +kernel
theorem dX1_tryPool_14 : decode cX1_tryPool 14 = .ok (.invokevirtual 41, 3) := by decide +kernel
theorem dX1_tryPool_17 : decode cX1_tryPool 17 = .ok (.istore 4, 2) := by decide +kernel
theorem dX1_tryPool_19 : decode cX1_tryPool 19 = .ok (.iload 4, 2) := by decide +kernel
theorem dX1_tryPool_21 : decode cX1_tryPool 21 = .ok (.ifCond .ge 4, 3) := by decide +kernel
theorem dX1_tryPool_24 : decode cX1_tryPool 24 = .ok (.return_, 1) := by decide +kernel
theorem dX1_tryPool_25 : decode cX1_tryPool 25 = .ok (.aload_n 0, 1) := by decide +kernel
theorem dX1_tryPool_26 : decode cX1_tryPool 26 = .ok (.getfield 9, 3) := by decide +kernel
theorem dX1_tryPool_29 : decode cX1_tryPool 29 = .ok (.iload_n 1, 1) := by decide +kernel
theorem dX1_tryPool_30 : decode cX1_tryPool 30 = .ok (.iload_n 2, 1) := by decide +kernel
theorem dX1_tryPool_31 : decode cX1_tryPool 31 = .ok (.iconst (-1), 1) := by decide +kernel
theorem dX1_tryPool_32 : decode cX1_tryPool 32 = .ok (.ixor, 1) := by decide +kernel
theorem dX1_tryPool_33 : decode cX1_tryPool 33 = .ok (.iand, 1) := by decide +kernel
theorem dX1_tryPool_34 : decode cX1_tryPool 34 = .ok (.iaload, 1) := by decide +kernel
theorem dX1_tryPool_35 : decode cX1_tryPool 35 = .ok (.iload 4, 2) := by decide +kernel
theorem dX1_tryPool_37 : decode cX1_tryPool 37 = .ok (.iload_n 3, 1) := by decide +kernel
theorem dX1_tryPool_38 : decode cX1_tryPool 38 = .ok (.imul, 1) := by decide +kernel
theorem dX1_tryPool_39 : decode cX1_tryPool 39 = .ok (.iadd, 1) := by decide +kernel
theorem dX1_tryPool_40 : decode cX1_tryPool 40 = .ok (.iconst 1, 1) := by decide +kernel
theorem dX1_tryPool_41 : decode cX1_tryPool 41 = .ok (.iadd, 1) := by decide +kernel
theorem dX1_tryPool_42 : decode cX1_tryPool 42 = .ok (.istore 5, 2) := by decide +kernel
theorem dX1_tryPool_44 : decode cX1_tryPool 44 = .ok (.iload 5, 2) := by decide +kernel
theorem dX1_tryPool_46 : decode cX1_tryPool 46 = .ok (.aload_n 0, 1) := by decide +kernel
theorem dX1_tryPool_47 : decode cX1_tryPool 47 = .ok (.getfield 9, 3) := by decide +kernel
theorem dX1_tryPool_50 : decode cX1_tryPool 50 = .ok (.iload_n 1, 1) := by decide +kernel
theorem dX1_tryPool_51 : decode cX1_tryPool 51 = .ok (.iaload, 1) := by decide +kernel
theorem dX1_tryPool_52 : decode cX1_tryPool 52 = .ok (.if_icmp .ge 18, 3) := by decide +kernel
theorem dX1_tryPool_55 : decode cX1_tryPool 55 = .ok (.aload_n 0, 1) := by decide +kernel
theorem dX1_tryPool_56 : decode cX1_tryPool 56 = .ok (.getfield 9, 3) := by decide +kernel
theorem dX1_tryPool_59 : decode cX1_tryPool 59 = .ok (.iload_n 1, 1) := by decide +kernel
theorem dX1_tryPool_60 : decode cX1_tryPool 60 = .ok (.iload 5, 2) := by decide +kernel
theorem dX1_tryPool_62 : decode cX1_tryPool 62 = .ok (.iastore, 1) := by decide +kernel
theorem dX1_tryPool_63 : decode cX1_tryPool 63 = .ok (.aload_n 0, 1) := by decide +kernel
theorem dX1_tryPool_64 : decode cX1_tryPool 64 = .ok (.getfield 15, 3) := by decide +kernel
theorem dX1_tryPool_67 : decode cX1_tryPool 67 = .ok (.iload_n 1, 1) := by decide +kernel
theorem dX1_tryPool_68 : decode cX1_tryPool 68 = .ok (.iload_n 2, 1) := by decide +kernel
theorem dX1_tryPool_69 : decode cX1_tryPool 69 = .ok (.iastore, 1) := by decide +kernel
theorem dX1_tryPool_70 : decode cX1_tryPool 70 = .ok (.return_, 1) := by decide +kernel
theorem dX2_init_0 : decode cX2_init 0 = .ok (.aload_n 0, 1) := by decide +kernel
theorem dX2_init_1 : decode cX2_init 1 = .ok (.invokespecial 3, 3) := by decide +kernel
theorem dX2_init_4 : decode cX2_init 4 = .ok (.aload_n 0, 1) := by decide +kernel
theorem dX2_init_5 : decode cX2_init 5 = .ok (.bipush 9, 2) := by decide +kernel
theorem dX2_init_7 : decode cX2_init 7 = .ok (.anewarray 9, 3) := by decide +kernel
theorem dX2_init_10 : decode cX2_init 10 = .ok (.putfield 11, 3) := by decide +kernel
theorem dX2_init_13 : decode cX2_init 13 = .ok (.iconst 0, 1) := by decide +kernel
theorem dX2_init_14 : decode cX2_init 14 = .ok (.istore_n 1, 1) := by decide +kernel
theorem dX2_init_15 : decode cX2_init 15 = .ok (.iload_n 1, 1) := by decide +kernel
theorem dX2_init_16 : decode cX2_init 16 = .ok (.bipush 9, 2) := by decide +kernel
theorem dX2_init_18 : decode cX2_init 18 = .ok (.if_icmp .ge 22, 3) := by decide +kernel
theorem dX2_init_21 : decode cX2_init 21 = .ok (.aload_n 0, 1) := by decide +kernel
theorem dX2_init_22 : decode cX2_init 22 = .ok (.getfield 11, 3) := by decide +kernel
theorem dX2_init_25 : decode cX2_init 25 = .ok (.iload_n 1, 1) := by decide +kernel
theorem dX2_init_26 : decode cX2_init 26 = .ok (.new 9, 3) := by decide +kernel
theorem dX2_init_29 : decode cX2_init 29 = .ok (.dup, 1) := by decide +kernel
theorem dX2_init_30 : decode cX2_init 30 = .ok (.invokespecial 17, 3) := by decide +kernel
theorem dX2_init_33 : decode cX2_init 33 = .ok (.aastore, 1) := by decide +kernel
theorem dX2_init_34 : decode cX2_init 34 = .ok (.iinc 1 1, 3) := by decide +kernel
theorem dX2_init_37 : decode cX2_init 37 = .ok (.goto (-22), 3) := by decide +kernel
theorem dX2_init_40 : decode cX2_init 40 = .ok (.aload_n 0, 1) := by decide +kernel
theorem dX2_init_41 : decode cX2_init 41 = .ok (.iconst 0, 1) := by decide +kernel
theorem dX2_init_42 : decode cX2_init 42 = .ok (.putfield 18, 3) := by decide +kernel
theorem dX2_init_45 : decode cX2_init 45 = .ok (.return_, 1) := by decide +kernel
theorem dX2_size_0 : decode cX2_size 0 = .ok (.aload_n 0, 1) := by decide +kernel
theorem dX2_size_1 : decode cX2_size 1 = .ok (.getfield 18, 3) := by decide +kernel
theorem dX2_size_4 : decode cX2_size 4 = .ok (.ireturn, 1) := by decide +kernel
theorem dX2_isFull_0 : decode cX2_isFull 0 = .ok (.aload_n 0, 1) := by decide +kernel
theorem dX2_isFull_1 : decode cX2_isFull 1 = .ok (.getfield 18, 3) := by decide +kernel
theorem dX2_isFull_4 : decode cX2_isFull 4 = .ok (.bipush 9, 2) := by decide +kernel
theorem dX2_isFull_6 : decode cX2_isFull 6 = .ok (.if_icmp .lt 7, 3) := by decide +kernel
theorem dX2_isFull_9 : decode cX2_isFull 9 = .ok (.iconst 1, 1) := by decide +kernel
theorem dX2_isFull_10 : decode cX2_isFull 10 = .ok (.goto 4, 3) := by decide +kernel
theorem dX2_isFull_13 : decode cX2_isFull 13 = .ok (.iconst 0, 1) := by decide +kernel
theorem dX2_isFull_14 : decode cX2_isFull 14 = .ok (.ireturn, 1) := by decide +kernel
theorem dX2_has_0 : decode cX2_has 0 = .ok (.iload_n 1, 1) := by decide +kernel
theorem dX2_has_1 : decode cX2_has 1 = .ok (.ifCond .lt 15, 3) := by decide +kernel
theorem dX2_has_4 : decode cX2_has 4 = .ok (.iload_n 1, 1) := by decide +kernel
theorem dX2_has_5 : decode cX2_has 5 = .ok (.aload_n 0, 1) := by decide +kernel
theorem dX2_has_6 : decode cX2_has 6 = .ok (.getfield 18, 3) := by decide +kernel
theorem dX2_has_9 : decode cX2_has 9 = .ok (.if_icmp .ge 7, 3) := by decide +kernel
theorem dX2_has_12 : decode cX2_has 12 = .ok (.iconst 1, 1) := by decide +kernel
theorem dX2_has_13 : decode cX2_has 13 = .ok (.goto 4, 3) := by decide +kernel
theorem dX2_has_16 : decode cX2_has 16 = .ok (.iconst 0, 1) := by decide +kernel
theorem dX2_has_17 : decode cX2_has 17 = .ok (.ireturn, 1) := by decide +kernel
theorem dX2_hasAll_0 : decode cX2_hasAll 0 = .ok (.iload_n 1, 1) := by decide +kernel
theorem dX2_hasAll_1 : decode cX2_hasAll 1 = .ok (.ifCond .le 16, 3) := by decide +kernel
theorem dX2_hasAll_4 : decode cX2_hasAll 4 = .ok (.iload_n 1, 1) := by decide +kernel
theorem dX2_hasAll_5 : decode cX2_hasAll 5 = .ok (.aload_n 0, 1) := by decide +kernel
theorem dX2_hasAll_6 : decode cX2_hasAll 6 = .ok (.getfield 18, 3) := by decide +kernel
theorem dX2_hasAll_9 : decode cX2_hasAll 9 = .ok (.ishr, 1) := by decide +kernel
theorem dX2_hasAll_10 : decode cX2_hasAll 10 = .ok (.ifCond .ne 7, 3) := by decide +kernel
theorem dX2_hasAll_13 : decode cX2_hasAll 13 = .ok (.iconst 1, 1) := by decide +kernel
theorem dX2_hasAll_14 : decode cX2_hasAll 14 = .ok (.goto 4, 3) := by decide +kernel
theorem dX2_hasAll_17 : decode cX2_hasAll 17 = .ok (.iconst 0, 1) := by decide +kernel
theorem dX2_hasAll_18 : decode cX2_hasAll 18 = .ok (.ireturn, 1) := by decide +kernel
theorem dX2_at_0 : decode cX2_at 0 = .ok (.aload_n 0, 1) := by decide +kernel
theorem dX2_at_1 : decode cX2_at 1 = .ok (.getfield 11, 3) := by decide +kernel
theorem dX2_at_4 : decode cX2_at 4 = .ok (.iload_n 1, 1) := by decide +kernel
theorem dX2_at_5 : decode cX2_at 5 = .ok (.aaload, 1) := by decide +kernel
theorem dX2_at_6 : decode cX2_at 6 = .ok (.areturn, 1) := by decide +kernel
theorem dX2_addOne_0 : decode cX2_addOne 0 = .ok (.aload_n 0, 1) := by decide +kernel
theorem dX2_addOne_1 : decode cX2_addOne 1 = .ok (.dup, 1) := by decide +kernel
theorem dX2_addOne_2 : decode cX2_addOne 2 = .ok (.getfield 18, 3) := by decide +kernel
theorem dX2_addOne_5 : decode cX2_addOne 5 = .ok (.iconst 1, 1) := by decide +kernel
theorem dX2_addOne_6 : decode cX2_addOne 6 = .ok (.iadd, 1) := by decide +kernel
theorem dX2_addOne_7 : decode cX2_addOne 7 = .ok (.putfield 18, 3) := by decide +kernel
theorem dX2_addOne_10 : decode cX2_addOne 10 = .ok (.aload_n 0, 1) := by decide +kernel
theorem dX2_addOne_11 : decode cX2_addOne 11 = .ok (.getfield 18, 3) := by decide +kernel
theorem dX2_addOne_14 : decode cX2_addOne 14 = .ok (.iconst 1, 1) := by decide +kernel
theorem dX2_addOne_15 : decode cX2_addOne 15 = .ok (.isub, 1) := by decide +kernel
theorem dX2_addOne_16 : decode cX2_addOne 16 = .ok (.ireturn, 1) := by decide +kernel
theorem dX2_notAway_0 : decode cX2_notAway 0 = .ok (.iconst 0, 1) := by decide +kernel
theorem dX2_notAway_1 : decode cX2_notAway 1 = .ok (.istore_n 1, 1) := by decide +kernel
theorem dX2_notAway_2 : decode cX2_notAway 2 = .ok (.iconst 0, 1) := by decide +kernel
theorem dX2_notAway_3 : decode cX2_notAway 3 = .ok (.istore_n 2, 1) := by decide +kernel
theorem dX2_notAway_4 : decode cX2_notAway 4 = .ok (.iload_n 2, 1) := by decide +kernel
theorem dX2_notAway_5 : decode cX2_notAway 5 = .ok (.aload_n 0, 1) := by decide +kernel
theorem dX2_notAway_6 : decode cX2_notAway 6 = .ok (.getfield 18, 3) := by decide +kernel
theorem dX2_notAway_9 : decode cX2_notAway 9 = .ok (.if_icmp .ge 27, 3) := by decide +kernel
theorem dX2_notAway_12 : decode cX2_notAway 12 = .ok (.aload_n 0, 1) := by decide +kernel
theorem dX2_notAway_13 : decode cX2_notAway 13 = .ok (.getfield 11, 3) := by decide +kernel
theorem dX2_notAway_16 : decode cX2_notAway 16 = .ok (.iload_n 2, 1) := by decide +kernel
theorem dX2_notAway_17 : decode cX2_notAway 17 = .ok (.aaload, 1) := by decide +kernel
theorem dX2_notAway_18 : decode cX2_notAway 18 = .ok (.getfield 22, 3) := by decide +kernel
theorem dX2_notAway_21 : decode cX2_notAway 21 = .ok (.ifCond .ne 9, 3) := by decide +kernel
theorem dX2_notAway_24 : decode cX2_notAway 24 = .ok (.iload_n 1, 1) := by decide +kernel
theorem dX2_notAway_25 : decode cX2_notAway 25 = .ok (.iconst 1, 1) := by decide +kernel
theorem dX2_notAway_26 : decode cX2_notAway 26 = .ok (.iload_n 2, 1) := by decide +kernel
theorem dX2_notAway_27 : decode cX2_notAway 27 = .ok (.ishl, 1) := by decide +kernel
theorem dX2_notAway_28 : decode cX2_notAway 28 = .ok (.ior, 1) := by decide +kernel
theorem dX2_notAway_29 : decode cX2_notAway 29 = .ok (.istore_n 1, 1) := by decide +kernel
theorem dX2_notAway_30 : decode cX2_notAway 30 = .ok (.iinc 2 1, 3) := by decide +kernel
theorem dX2_notAway_33 : decode cX2_notAway 33 = .ok (.goto (-29), 3) := by decide +kernel
theorem dX2_notAway_36 : decode cX2_notAway 36 = .ok (.iload_n 1, 1) := by decide +kernel
theorem dX2_notAway_37 : decode cX2_notAway 37 = .ok (.ireturn, 1) := by decide +kernel
theorem dX2_someAway_0 : decode cX2_someAway 0 = .ok (.iload_n 1, 1) := by decide +kernel
theorem dX2_someAway_1 : decode cX2_someAway 1 = .ok (.aload_n 0, 1) := by decide +kernel
theorem dX2_someAway_2 : decode cX2_someAway 2 = .ok (.invokevirtual 26, 3) := by decide +kernel
theorem dX2_someAway_5 : decode cX2_someAway 5 = .ok (.iconst (-1), 1) := by decide +kernel
theorem dX2_someAway_6 : decode cX2_someAway 6 = .ok (.ixor, 1) := by decide +kernel
theorem dX2_someAway_7 : decode cX2_someAway 7 = .ok (.iand, 1) := by decide +kernel
theorem dX2_someAway_8 : decode cX2_someAway 8 = .ok (.ifCond .eq 7, 3) := by decide +kernel
theorem dX2_someAway_11 : decode cX2_someAway 11 = .ok (.iconst 1, 1) := by decide +kernel
theorem dX2_someAway_12 : decode cX2_someAway 12 = .ok (.goto 4, 3) := by decide +kernel
theorem dX2_someAway_15 : decode cX2_someAway 15 = .ok (.iconst 0, 1) := by decide +kernel
theorem dX2_someAway_16 : decode cX2_someAway 16 = .ok (.ireturn, 1) := by decide +kernel
theorem dX2_withCar_0 : decode cX2_withCar 0 = .ok (.iconst 0, 1) := by decide +kernel
theorem dX2_withCar_1 : decode cX2_withCar 1 = .ok (.istore_n 1, 1) := by decide +kernel
theorem dX2_withCar_2 : decode cX2_withCar 2 = .ok (.iconst 0, 1) := by decide +kernel
theorem dX2_withCar_3 : decode cX2_withCar 3 = .ok (.istore_n 2, 1) := by decide +kernel
theorem dX2_withCar_4 : decode cX2_withCar 4 = .ok (.iload_n 2, 1) := by decide +kernel
theorem dX2_withCar_5 : decode cX2_withCar 5 = .ok (.aload_n 0, 1) := by decide +kernel
theorem dX2_withCar_6 : decode cX2_withCar 6 = .ok (.getfield 18, 3) := by decide +kernel
theorem dX2_withCar_9 : decode cX2_withCar 9 = .ok (.if_icmp .ge 24, 3) := by decide +kernel
theorem dX2_withCar_12 : decode cX2_withCar 12 = .ok (.aload_n 0, 1) := by decide +kernel
theorem dX2_withCar_13 : decode cX2_withCar 13 = .ok (.getfield 11, 3) := by decide +kernel
theorem dX2_withCar_16 : decode cX2_withCar 16 = .ok (.iload_n 2, 1) := by decide +kernel
theorem dX2_withCar_17 : decode cX2_withCar 17 = .ok (.aaload, 1) := by decide +kernel
theorem dX2_withCar_18 : decode cX2_withCar 18 = .ok (.invokevirtual 30, 3) := by decide +kernel
theorem dX2_withCar_21 : decode cX2_withCar 21 = .ok (.ifCond .eq 6, 3) := by decide +kernel
theorem dX2_withCar_24 : decode cX2_withCar 24 = .ok (.iinc 1 1, 3) := by decide +kernel
theorem dX2_withCar_27 : decode cX2_withCar 27 = .ok (.iinc 2 1, 3) := by decide +kernel
theorem dX2_withCar_30 : decode cX2_withCar 30 = .ok (.goto (-26), 3) := by decide +kernel
theorem dX2_withCar_33 : decode cX2_withCar 33 = .ok (.iload_n 1, 1) := by decide +kernel
theorem dX2_withCar_34 : decode cX2_withCar 34 = .ok (.ireturn, 1) := by decide +kernel
theorem dX2_seatsSuffice_0 : decode cX2_seatsSuffice 0 = .ok (.iconst 0, 1) := by decide +kernel
theorem dX2_seatsSuffice_1 : decode cX2_seatsSuffice 1 = .ok (.istore_n 3, 1) := by decide +kernel
theorem dX2_seatsSuffice_2 : decode cX2_seatsSuffice 2 = .ok (.iconst 0, 1) := by decide +kernel
theorem dX2_seatsSuffice_3 : decode cX2_seatsSuffice 3 = .ok (.istore 4, 2) := by decide +kernel
theorem dX2_seatsSuffice_5 : decode cX2_seatsSuffice 5 = .ok (.iload 4, 2) := by decide +kernel
theorem dX2_seatsSuffice_7 : decode cX2_seatsSuffice 7 = .ok (.aload_n 0, 1) := by decide +kernel
theorem dX2_seatsSuffice_8 : decode cX2_seatsSuffice 8 = .ok (.getfield 18, 3) := by decide +kernel
theorem dX2_seatsSuffice_11 : decode cX2_seatsSuffice 11 = .ok (.if_icmp .ge 31, 3) := by decide +kernel
theorem dX2_seatsSuffice_14 : decode cX2_seatsSuffice 14 = .ok (.iload_n 1, 1) := by decide +kernel
theorem dX2_seatsSuffice_15 : decode cX2_seatsSuffice 15 = .ok (.iload 4, 2) := by decide +kernel
theorem dX2_seatsSuffice_17 : decode cX2_seatsSuffice 17 = .ok (.invokestatic 34, 3) := by decide +kernel
theorem dX2_seatsSuffice_20 : decode cX2_seatsSuffice 20 = .ok (.ifCond .eq 16, 3) := by decide +kernel
theorem dX2_seatsSuffice_23 : decode cX2_seatsSuffice 23 = .ok (.iload_n 3, 1) := by decide +kernel
theorem dX2_seatsSuffice_24 : decode cX2_seatsSuffice 24 = .ok (.aload_n 0, 1) := by decide +kernel
theorem dX2_seatsSuffice_25 : decode cX2_seatsSuffice 25 = .ok (.getfield 11, 3) := by decide +kernel
theorem dX2_seatsSuffice_28 : decode cX2_seatsSuffice 28 = .ok (.iload 4, 2) := by decide +kernel
theorem dX2_seatsSuffice_30 : decode cX2_seatsSuffice 30 = .ok (.aaload, 1) := by decide +kernel
theorem dX2_seatsSuffice_31 : decode cX2_seatsSuffice 31 = .ok (.invokevirtual 38, 3) := by decide +kernel
theorem dX2_seatsSuffice_34 : decode cX2_seatsSuffice 34 = .ok (.iadd, 1) := by decide +kernel
theorem dX2_seatsSuffice_35 : decode cX2_seatsSuffice 35 = .ok (.istore_n 3, 1) := by decide +kernel
theorem dX2_seatsSuffice_36 : decode cX2_seatsSuffice 36 = .ok (.iinc 4 1, 3) := by decide +kernel
theorem dX2_seatsSuffice_39 : decode cX2_seatsSuffice 39 = .ok (.goto (-34), 3) := by decide +kernel
theorem dX2_seatsSuffice_42 : decode cX2_seatsSuffice 42 = .ok (.iload_n 3, 1) := by decide +kernel
theorem dX2_seatsSuffice_43 : decode cX2_seatsSuffice 43 = .ok (.aload_n 0, 1) := by decide +kernel
theorem dX2_seatsSuffice_44 : decode cX2_seatsSuffice 44 = .ok (.getfield 11, 3) := by decide +kernel
theorem dX2_seatsSuffice_47 : decode cX2_seatsSuffice 47 = .ok (.iload_n 2, 1) := by decide +kernel
theorem dX2_seatsSuffice_48 : decode cX2_seatsSuffice 48 = .ok (.aaload, 1) := by decide +kernel
theorem dX2_seatsSuffice_49 : decode cX2_seatsSuffice 49 = .ok (.getfield 41, 3) := by decide +kernel
theorem dX2_seatsSuffice_52 : decode cX2_seatsSuffice 52 = .ok (.if_icmp .gt 7, 3) := by decide +kernel
theorem dX2_seatsSuffice_55 : decode cX2_seatsSuffice 55 = .ok (.iconst 1, 1) := by decide +kernel
theorem dX2_seatsSuffice_56 : decode cX2_seatsSuffice 56 = .ok (.goto 4, 3) := by decide +kernel
theorem dX2_seatsSuffice_59 : decode cX2_seatsSuffice 59 = .ok (.iconst 0, 1) := by decide +kernel
theorem dX2_seatsSuffice_60 : decode cX2_seatsSuffice 60 = .ok (.ireturn, 1) := by decide +kernel
theorem dX2_hasBar_0 : decode cX2_hasBar 0 = .ok (.iconst 0, 1) := by decide +kernel
theorem dX2_hasBar_1 : decode cX2_hasBar 1 = .ok (.istore_n 2, 1) := by decide +kernel
theorem dX2_hasBar_2 : decode cX2_hasBar 2 = .ok (.iload_n 2, 1) := by decide +kernel
theorem dX2_hasBar_3 : decode cX2_hasBar 3 = .ok (.aload_n 0, 1) := by decide +kernel
theorem dX2_hasBar_4 : decode cX2_hasBar 4 = .ok (.getfield 18, 3) := by decide +kernel
theorem dX2_hasBar_7 : decode cX2_hasBar 7 = .ok (.if_icmp .ge 33, 3) := by decide +kernel
theorem dX2_hasBar_10 : decode cX2_hasBar 10 = .ok (.iload_n 1, 1) := by decide +kernel
theorem dX2_hasBar_11 : decode cX2_hasBar 11 = .ok (.iload_n 2, 1) := by decide +kernel
theorem dX2_hasBar_12 : decode cX2_hasBar 12 = .ok (.invokestatic 34, 3) := by decide +kernel
theorem dX2_hasBar_15 : decode cX2_hasBar 15 = .ok (.ifCond .eq 19, 3) := by decide +kernel
theorem dX2_hasBar_18 : decode cX2_hasBar 18 = .ok (.aload_n 0, 1) := by decide +kernel
theorem dX2_hasBar_19 : decode cX2_hasBar 19 = .ok (.getfield 11, 3) := by decide +kernel
theorem dX2_hasBar_22 : decode cX2_hasBar 22 = .ok (.iload_n 2, 1) := by decide +kernel
theorem dX2_hasBar_23 : decode cX2_hasBar 23 = .ok (.aaload, 1) := by decide +kernel
theorem dX2_hasBar_24 : decode cX2_hasBar 24 = .ok (.getfield 44, 3) := by decide +kernel
theorem dX2_hasBar_27 : decode cX2_hasBar 27 = .ok (.iload_n 1, 1) := by decide +kernel
theorem dX2_hasBar_28 : decode cX2_hasBar 28 = .ok (.iand, 1) := by decide +kernel
theorem dX2_hasBar_29 : decode cX2_hasBar 29 = .ok (.ifCond .eq 5, 3) := by decide +kernel
theorem dX2_hasBar_32 : decode cX2_hasBar 32 = .ok (.iconst 1, 1) := by decide +kernel
theorem dX2_hasBar_33 : decode cX2_hasBar 33 = .ok (.ireturn, 1) := by decide +kernel
theorem dX2_hasBar_34 : decode cX2_hasBar 34 = .ok (.iinc 2 1, 3) := by decide +kernel
theorem dX2_hasBar_37 : decode cX2_hasBar 37 = .ok (.goto (-35), 3) := by decide +kernel
theorem dX2_hasBar_40 : decode cX2_hasBar 40 = .ok (.iconst 0, 1) := by decide +kernel
theorem dX2_hasBar_41 : decode cX2_hasBar 41 = .ok (.ireturn, 1) := by decide +kernel
theorem dX3_init_0 : decode cX3_init 0 = .ok (.aload_n 0, 1) := by decide +kernel
theorem dX3_init_1 : decode cX3_init 1 = .ok (.invokespecial 3, 3) := by decide +kernel
theorem dX3_init_4 : decode cX3_init 4 = .ok (.return_, 1) := by decide +kernel
theorem dX3_hasCar_0 : decode cX3_hasCar 0 = .ok (.aload_n 0, 1) := by decide +kernel
theorem dX3_hasCar_1 : decode cX3_hasCar 1 = .ok (.getfield 9, 3) := by decide +kernel
theorem dX3_hasCar_4 : decode cX3_hasCar 4 = .ok (.ifCond .le 14, 3) := by decide +kernel
theorem dX3_hasCar_7 : decode cX3_hasCar 7 = .ok (.aload_n 0, 1) := by decide +kernel
theorem dX3_hasCar_8 : decode cX3_hasCar 8 = .ok (.getfield 15, 3) := by decide +kernel
theorem dX3_hasCar_11 : decode cX3_hasCar 11 = .ok (.ifCond .ne 7, 3) := by decide +kernel
theorem dX3_hasCar_14 : decode cX3_hasCar 14 = .ok (.iconst 1, 1) := by decide +kernel
theorem dX3_hasCar_15 : decode cX3_hasCar 15 = .ok (.goto 4, 3) := by decide +kernel
theorem dX3_hasCar_18 : decode cX3_hasCar 18 = .ok (.iconst 0, 1) := by decide +kernel
theorem dX3_hasCar_19 : decode cX3_hasCar 19 = .ok (.ireturn, 1) := by decide +kernel
theorem dX3_seatsTaken_0 : decode cX3_seatsTaken 0 = .ok (.aload_n 0, 1) := by decide +kernel
theorem dX3_seatsTaken_1 : decode cX3_seatsTaken 1 = .ok (.getfield 19, 3) := by decide +kernel
theorem dX3_seatsTaken_4 : decode cX3_seatsTaken 4 = .ok (.iconst 1, 1) := by decide +kernel
theorem dX3_seatsTaken_5 : decode cX3_seatsTaken 5 = .ok (.if_icmp .ne 7, 3) := by decide +kernel
theorem dX3_seatsTaken_8 : decode cX3_seatsTaken 8 = .ok (.iconst 2, 1) := by decide +kernel
theorem dX3_seatsTaken_9 : decode cX3_seatsTaken 9 = .ok (.goto 4, 3) := by decide +kernel
theorem dX3_seatsTaken_12 : decode cX3_seatsTaken 12 = .ok (.iconst 1, 1) := by decide +kernel
theorem dX3_seatsTaken_13 : decode cX3_seatsTaken 13 = .ok (.ireturn, 1) := by decide +kernel
theorem dX4_init_0 : decode cX4_init 0 = .ok (.aload_n 0, 1) := by decide +kernel
theorem dX4_init_1 : decode cX4_init 1 = .ok (.invokespecial 3, 3) := by decide +kernel
theorem dX4_init_4 : decode cX4_init 4 = .ok (.aload_n 0, 1) := by decide +kernel
theorem dX4_init_5 : decode cX4_init 5 = .ok (.bipush 9, 2) := by decide +kernel
theorem dX4_init_7 : decode cX4_init 7 = .ok (.newarray .int, 2) := by decide +kernel
theorem dX4_init_9 : decode cX4_init 9 = .ok (.putfield 9, 3) := by decide +kernel
theorem dX4_init_12 : decode cX4_init 12 = .ok (.aload_n 0, 1) := by decide +kernel
theorem dX4_init_13 : decode cX4_init 13 = .ok (.bipush 9, 2) := by decide +kernel
theorem dX4_init_15 : decode cX4_init 15 = .ok (.newarray .int, 2) := by decide +kernel
theorem dX4_init_17 : decode cX4_init 17 = .ok (.putfield 15, 3) := by decide +kernel
theorem dX4_init_20 : decode cX4_init 20 = .ok (.aload_n 0, 1) := by decide +kernel
theorem dX4_init_21 : decode cX4_init 21 = .ok (.bipush 9, 2) := by decide +kernel
theorem dX4_init_23 : decode cX4_init 23 = .ok (.newarray .int, 2) := by decide +kernel
theorem dX4_init_25 : decode cX4_init 25 = .ok (.putfield 18, 3) := by decide +kernel
theorem dX4_init_28 : decode cX4_init 28 = .ok (.aload_n 0, 1) := by decide +kernel
theorem dX4_init_29 : decode cX4_init 29 = .ok (.bipush 9, 2) := by decide +kernel
theorem dX4_init_31 : decode cX4_init 31 = .ok (.newarray .int, 2) := by decide +kernel
theorem dX4_init_33 : decode cX4_init 33 = .ok (.putfield 21, 3) := by decide +kernel
theorem dX4_init_36 : decode cX4_init 36 = .ok (.aload_n 0, 1) := by decide +kernel
theorem dX4_init_37 : decode cX4_init 37 = .ok (.bipush 9, 2) := by decide +kernel
theorem dX4_init_39 : decode cX4_init 39 = .ok (.newarray .int, 2) := by decide +kernel
theorem dX4_init_41 : decode cX4_init 41 = .ok (.putfield 24, 3) := by decide +kernel
theorem dX4_init_44 : decode cX4_init 44 = .ok (.aload_n 0, 1) := by decide +kernel
theorem dX4_init_45 : decode cX4_init 45 = .ok (.iconst 0, 1) := by decide +kernel
theorem dX4_init_46 : decode cX4_init 46 = .ok (.putfield 27, 3) := by decide +kernel
theorem dX4_init_49 : decode cX4_init 49 = .ok (.aload_n 0, 1) := by decide +kernel
theorem dX4_init_50 : decode cX4_init 50 = .ok (.iconst 0, 1) := by decide +kernel
theorem dX4_init_51 : decode cX4_init 51 = .ok (.putfield 31, 3) := by decide +kernel
theorem dX4_init_54 : decode cX4_init 54 = .ok (.return_, 1) := by decide +kernel
theorem dX4_isMade_0 : decode cX4_isMade 0 = .ok (.aload_n 0, 1) := by decide +kernel
theorem dX4_isMade_1 : decode cX4_isMade 1 = .ok (.getfield 27, 3) := by decide +kernel
theorem dX4_isMade_4 : decode cX4_isMade 4 = .ok (.ireturn, 1) := by decide +kernel
theorem dX4_begin_0 : decode cX4_begin 0 = .ok (.aload_n 0, 1) := by decide +kernel
theorem dX4_begin_1 : decode cX4_begin 1 = .ok (.iconst 1, 1) := by decide +kernel
theorem dX4_begin_2 : decode cX4_begin 2 = .ok (.putfield 27, 3) := by decide +kernel
theorem dX4_begin_5 : decode cX4_begin 5 = .ok (.aload_n 0, 1) := by decide +kernel
theorem dX4_begin_6 : decode cX4_begin 6 = .ok (.iconst 0, 1) := by decide +kernel
theorem dX4_begin_7 : decode cX4_begin 7 = .ok (.putfield 31, 3) := by decide +kernel
theorem dX4_begin_10 : decode cX4_begin 10 = .ok (.aload_n 0, 1) := by decide +kernel
theorem dX4_begin_11 : decode cX4_begin 11 = .ok (.getfield 9, 3) := by decide +kernel
theorem dX4_begin_14 : decode cX4_begin 14 = .ok (.iconst 0, 1) := by decide +kernel
theorem dX4_begin_15 : decode cX4_begin 15 = .ok (.invokestatic 35, 3) := by decide +kernel
theorem dX4_begin_18 : decode cX4_begin 18 = .ok (.return_, 1) := by decide +kernel
theorem dX4_put_0 : decode cX4_put 0 = .ok (.iconst 0, 1) := by decide +kernel
theorem dX4_put_1 : decode cX4_put 1 = .ok (.istore 4, 2) := by decide +kernel
theorem dX4_put_3 : decode cX4_put 3 = .ok (.iload 4, 2) := by decide +kernel
theorem dX4_put_5 : decode cX4_put 5 = .ok (.aload_n 3, 1) := by decide +kernel
theorem dX4_put_6 : decode cX4_put 6 = .ok (.getfield 41, 3) := by decide +kernel
theorem dX4_put_9 : decode cX4_put 9 = .ok (.if_icmp .ge 83, 3) := by decide +kernel
theorem dX4_put_12 : decode cX4_put 12 = .ok (.aload_n 3, 1) := by decide +kernel
theorem dX4_put_13 : decode cX4_put 13 = .ok (.getfield 46, 3) := by decide +kernel
theorem dX4_put_16 : decode cX4_put 16 = .ok (.iload 4, 2) := by decide +kernel
theorem dX4_put_18 : decode cX4_put 18 = .ok (.iaload, 1) := by decide +kernel
theorem dX4_put_19 : decode cX4_put 19 = .ok (.istore 5, 2) := by decide +kernel
theorem dX4_put_21 : decode cX4_put 21 = .ok (.aload_n 0, 1) := by decide +kernel
theorem dX4_put_22 : decode cX4_put 22 = .ok (.getfield 9, 3) := by decide +kernel
theorem dX4_put_25 : decode cX4_put 25 = .ok (.iload 5, 2) := by decide +kernel
theorem dX4_put_27 : decode cX4_put 27 = .ok (.iload_n 1, 1) := by decide +kernel
theorem dX4_put_28 : decode cX4_put 28 = .ok (.iastore, 1) := by decide +kernel
theorem dX4_put_29 : decode cX4_put 29 = .ok (.aload_n 0, 1) := by decide +kernel
theorem dX4_put_30 : decode cX4_put 30 = .ok (.getfield 15, 3) := by decide +kernel
theorem dX4_put_33 : decode cX4_put 33 = .ok (.iload 5, 2) := by decide +kernel
theorem dX4_put_35 : decode cX4_put 35 = .ok (.iload_n 2, 1) := by decide +kernel
theorem dX4_put_36 : decode cX4_put 36 = .ok (.iastore, 1) := by decide +kernel
theorem dX4_put_37 : decode cX4_put 37 = .ok (.aload_n 0, 1) := by decide +kernel
theorem dX4_put_38 : decode cX4_put 38 = .ok (.getfield 18, 3) := by decide +kernel
theorem dX4_put_41 : decode cX4_put 41 = .ok (.iload 5, 2) := by decide +kernel
theorem dX4_put_43 : decode cX4_put 43 = .ok (.aload_n 3, 1) := by decide +kernel
theorem dX4_put_44 : decode cX4_put 44 = .ok (.getfield 49, 3) := by decide +kernel
theorem dX4_put_47 : decode cX4_put 47 = .ok (.iastore, 1) := by decide +kernel
theorem dX4_put_48 : decode cX4_put 48 = .ok (.aload_n 0, 1) := by decide +kernel
theorem dX4_put_49 : decode cX4_put 49 = .ok (.getfield 21, 3) := by decide +kernel
theorem dX4_put_52 : decode cX4_put 52 = .ok (.iload 5, 2) := by decide +kernel
theorem dX4_put_54 : decode cX4_put 54 = .ok (.aload_n 3, 1) := by decide +kernel
theorem dX4_put_55 : decode cX4_put 55 = .ok (.getfield 51, 3) := by decide +kernel
theorem dX4_put_58 : decode cX4_put 58 = .ok (.aload_n 3, 1) := by decide +kernel
theorem dX4_put_59 : decode cX4_put 59 = .ok (.getfield 54, 3) := by decide +kernel
theorem dX4_put_62 : decode cX4_put 62 = .ok (.iload 4, 2) := by decide +kernel
theorem dX4_put_64 : decode cX4_put 64 = .ok (.iaload, 1) := by decide +kernel
theorem dX4_put_65 : decode cX4_put 65 = .ok (.iadd, 1) := by decide +kernel
theorem dX4_put_66 : decode cX4_put 66 = .ok (.iastore, 1) := by decide +kernel
theorem dX4_put_67 : decode cX4_put 67 = .ok (.aload_n 0, 1) := by decide +kernel
theorem dX4_put_68 : decode cX4_put 68 = .ok (.getfield 24, 3) := by decide +kernel
theorem dX4_put_71 : decode cX4_put 71 = .ok (.iload 5, 2) := by decide +kernel
theorem dX4_put_73 : decode cX4_put 73 = .ok (.aload_n 3, 1) := by decide +kernel
theorem dX4_put_74 : decode cX4_put 74 = .ok (.getfield 51, 3) := by decide +kernel
theorem dX4_put_77 : decode cX4_put 77 = .ok (.aload_n 3, 1) := by decide +kernel
theorem dX4_put_78 : decode cX4_put 78 = .ok (.getfield 57, 3) := by decide +kernel
theorem dX4_put_81 : decode cX4_put 81 = .ok (.iload 4, 2) := by decide +kernel
theorem dX4_put_83 : decode cX4_put 83 = .ok (.iaload, 1) := by decide +kernel
theorem dX4_put_84 : decode cX4_put 84 = .ok (.iadd, 1) := by decide +kernel
theorem dX4_put_85 : decode cX4_put 85 = .ok (.iastore, 1) := by decide +kernel
theorem dX4_put_86 : decode cX4_put 86 = .ok (.iinc 4 1, 3) := by decide +kernel
theorem dX4_put_89 : decode cX4_put 89 = .ok (.goto (-86), 3) := by decide +kernel
theorem dX4_put_92 : decode cX4_put 92 = .ok (.return_, 1) := by decide +kernel
theorem dX4_leave_0 : decode cX4_leave 0 = .ok (.aload_n 0, 1) := by decide +kernel
theorem dX4_leave_1 : decode cX4_leave 1 = .ok (.getfield 9, 3) := by decide +kernel
theorem dX4_leave_4 : decode cX4_leave 4 = .ok (.iload_n 1, 1) := by decide +kernel
theorem dX4_leave_5 : decode cX4_leave 5 = .ok (.iconst 0, 1) := by decide +kernel
theorem dX4_leave_6 : decode cX4_leave 6 = .ok (.iastore, 1) := by decide +kernel
theorem dX4_leave_7 : decode cX4_leave 7 = .ok (.aload_n 0, 1) := by decide +kernel
theorem dX4_leave_8 : decode cX4_leave 8 = .ok (.dup, 1) := by decide +kernel
theorem dX4_leave_9 : decode cX4_leave 9 = .ok (.getfield 31, 3) := by decide +kernel
theorem dX4_leave_12 : decode cX4_leave 12 = .ok (.iconst 1, 1) := by decide +kernel
theorem dX4_leave_13 : decode cX4_leave 13 = .ok (.iload_n 1, 1) := by decide +kernel
theorem dX4_leave_14 : decode cX4_leave 14 = .ok (.ishl, 1) := by decide +kernel
theorem dX4_leave_15 : decode cX4_leave 15 = .ok (.ior, 1) := by decide +kernel
theorem dX4_leave_16 : decode cX4_leave 16 = .ok (.putfield 31, 3) := by decide +kernel
theorem dX4_leave_19 : decode cX4_leave 19 = .ok (.return_, 1) := by decide +kernel
theorem dX4_dissolve_0 : decode cX4_dissolve 0 = .ok (.iconst 0, 1) := by decide +kernel
theorem dX4_dissolve_1 : decode cX4_dissolve 1 = .ok (.istore_n 2, 1) := by decide +kernel
theorem dX4_dissolve_2 : decode cX4_dissolve 2 = .ok (.iload_n 2, 1) := by decide +kernel
theorem dX4_dissolve_3 : decode cX4_dissolve 3 = .ok (.bipush 9, 2) := by decide +kernel
theorem dX4_dissolve_5 : decode cX4_dissolve 5 = .ok (.if_icmp .ge 24, 3) := by decide +kernel
theorem dX4_dissolve_8 : decode cX4_dissolve 8 = .ok (.iload_n 1, 1) := by decide +kernel
theorem dX4_dissolve_9 : decode cX4_dissolve 9 = .ok (.iload_n 2, 1) := by decide +kernel
theorem dX4_dissolve_10 : decode cX4_dissolve 10 = .ok (.invokestatic 60, 3) := by decide +kernel
theorem dX4_dissolve_13 : decode cX4_dissolve 13 = .ok (.ifCond .eq 10, 3) := by decide +kernel
theorem dX4_dissolve_16 : decode cX4_dissolve 16 = .ok (.aload_n 0, 1) := by decide +kernel
theorem dX4_dissolve_17 : decode cX4_dissolve 17 = .ok (.getfield 9, 3) := by decide +kernel
theorem dX4_dissolve_20 : decode cX4_dissolve 20 = .ok (.iload_n 2, 1) := by decide +kernel
theorem dX4_dissolve_21 : decode cX4_dissolve 21 = .ok (.iconst 0, 1) := by decide +kernel
theorem dX4_dissolve_22 : decode cX4_dissolve 22 = .ok (.iastore, 1) := by decide +kernel
theorem dX4_dissolve_23 : decode cX4_dissolve 23 = .ok (.iinc 2 1, 3) := by decide +kernel
theorem dX4_dissolve_26 : decode cX4_dissolve 26 = .ok (.goto (-24), 3) := by decide +kernel
theorem dX4_dissolve_29 : decode cX4_dissolve 29 = .ok (.return_, 1) := by decide +kernel
theorem dX4_leads_0 : decode cX4_leads 0 = .ok (.aload_n 0, 1) := by decide +kernel
theorem dX4_leads_1 : decode cX4_leads 1 = .ok (.getfield 9, 3) := by decide +kernel
theorem dX4_leads_4 : decode cX4_leads 4 = .ok (.iload_n 1, 1) := by decide +kernel
theorem dX4_leads_5 : decode cX4_leads 5 = .ok (.iaload, 1) := by decide +kernel
theorem dX4_leads_6 : decode cX4_leads 6 = .ok (.aload_n 0, 1) := by decide +kernel
theorem dX4_leads_7 : decode cX4_leads 7 = .ok (.getfield 9, 3) := by decide +kernel
theorem dX4_leads_10 : decode cX4_leads 10 = .ok (.iload_n 1, 1) := by decide +kernel
theorem dX4_leads_11 : decode cX4_leads 11 = .ok (.iaload, 1) := by decide +kernel
theorem dX4_leads_12 : decode cX4_leads 12 = .ok (.ineg, 1) := by decide +kernel
theorem dX4_leads_13 : decode cX4_leads 13 = .ok (.iand, 1) := by decide +kernel
theorem dX4_leads_14 : decode cX4_leads 14 = .ok (.iconst 1, 1) := by decide +kernel
theorem dX4_leads_15 : decode cX4_leads 15 = .ok (.iload_n 1, 1) := by decide +kernel
theorem dX4_leads_16 : decode cX4_leads 16 = .ok (.ishl, 1) := by decide +kernel
theorem dX4_leads_17 : decode cX4_leads 17 = .ok (.if_icmp .ne 7, 3) := by decide +kernel
theorem dX4_leads_20 : decode cX4_leads 20 = .ok (.iconst 1, 1) := by decide +kernel
theorem dX4_leads_21 : decode cX4_leads 21 = .ok (.goto 4, 3) := by decide +kernel
theorem dX4_leads_24 : decode cX4_leads 24 = .ok (.iconst 0, 1) := by decide +kernel
theorem dX4_leads_25 : decode cX4_leads 25 = .ok (.ireturn, 1) := by decide +kernel
theorem dX4_drives_0 : decode cX4_drives 0 = .ok (.aload_n 0, 1) := by decide +kernel
theorem dX4_drives_1 : decode cX4_drives 1 = .ok (.getfield 9, 3) := by decide +kernel
theorem dX4_drives_4 : decode cX4_drives 4 = .ok (.iload_n 1, 1) := by decide +kernel
theorem dX4_drives_5 : decode cX4_drives 5 = .ok (.iaload, 1) := by decide +kernel
theorem dX4_drives_6 : decode cX4_drives 6 = .ok (.ifCond .eq 17, 3) := by decide +kernel
theorem dX4_drives_9 : decode cX4_drives 9 = .ok (.aload_n 0, 1) := by decide +kernel
theorem dX4_drives_10 : decode cX4_drives 10 = .ok (.getfield 15, 3) := by decide +kernel
theorem dX4_drives_13 : decode cX4_drives 13 = .ok (.iload_n 1, 1) := by decide +kernel
theorem dX4_drives_14 : decode cX4_drives 14 = .ok (.iaload, 1) := by decide +kernel
theorem dX4_drives_15 : decode cX4_drives 15 = .ok (.iload_n 1, 1) := by decide +kernel
theorem dX4_drives_16 : decode cX4_drives 16 = .ok (.if_icmp .ne 7, 3) := by decide +kernel
theorem dX4_drives_19 : decode cX4_drives 19 = .ok (.iconst 1, 1) := by decide +kernel
theorem dX4_drives_20 : decode cX4_drives 20 = .ok (.goto 4, 3) := by decide +kernel
theorem dX4_drives_23 : decode cX4_drives 23 = .ok (.iconst 0, 1) := by decide +kernel
theorem dX4_drives_24 : decode cX4_drives 24 = .ok (.ireturn, 1) := by decide +kernel
theorem dX4_poolAt_0 : decode cX4_poolAt 0 = .ok (.aload_n 0, 1) := by decide +kernel
theorem dX4_poolAt_1 : decode cX4_poolAt 1 = .ok (.getfield 9, 3) := by decide +kernel
theorem dX4_poolAt_4 : decode cX4_poolAt 4 = .ok (.iload_n 1, 1) := by decide +kernel
theorem dX4_poolAt_5 : decode cX4_poolAt 5 = .ok (.iaload, 1) := by decide +kernel
theorem dX4_poolAt_6 : decode cX4_poolAt 6 = .ok (.ireturn, 1) := by decide +kernel
theorem dX4_driverAt_0 : decode cX4_driverAt 0 = .ok (.aload_n 0, 1) := by decide +kernel
theorem dX4_driverAt_1 : decode cX4_driverAt 1 = .ok (.getfield 15, 3) := by decide +kernel
theorem dX4_driverAt_4 : decode cX4_driverAt 4 = .ok (.iload_n 1, 1) := by decide +kernel
theorem dX4_driverAt_5 : decode cX4_driverAt 5 = .ok (.iaload, 1) := by decide +kernel
theorem dX4_driverAt_6 : decode cX4_driverAt 6 = .ok (.ireturn, 1) := by decide +kernel
theorem dX4_pools_0 : decode cX4_pools 0 = .ok (.iconst 0, 1) := by decide +kernel
theorem dX4_pools_1 : decode cX4_pools 1 = .ok (.istore_n 1, 1) := by decide +kernel
theorem dX4_pools_2 : decode cX4_pools 2 = .ok (.iconst 0, 1) := by decide +kernel
theorem dX4_pools_3 : decode cX4_pools 3 = .ok (.istore_n 2, 1) := by decide +kernel
theorem dX4_pools_4 : decode cX4_pools 4 = .ok (.iload_n 2, 1) := by decide +kernel
theorem dX4_pools_5 : decode cX4_pools 5 = .ok (.bipush 9, 2) := by decide +kernel
theorem dX4_pools_7 : decode cX4_pools 7 = .ok (.if_icmp .ge 20, 3) := by decide +kernel
theorem dX4_pools_10 : decode cX4_pools 10 = .ok (.aload_n 0, 1) := by decide +kernel
theorem dX4_pools_11 : decode cX4_pools 11 = .ok (.iload_n 2, 1) := by decide +kernel
theorem dX4_pools_12 : decode cX4_pools 12 = .ok (.invokevirtual 64, 3) := by decide +kernel
theorem dX4_pools_15 : decode cX4_pools 15 = .ok (.ifCond .eq 6, 3) := by decide +kernel
theorem dX4_pools_18 : decode cX4_pools 18 = .ok (.iinc 1 1, 3) := by decide +kernel
theorem dX4_pools_21 : decode cX4_pools 21 = .ok (.iinc 2 1, 3) := by decide +kernel
theorem dX4_pools_24 : decode cX4_pools 24 = .ok (.goto (-20), 3) := by decide +kernel
theorem dX4_pools_27 : decode cX4_pools 27 = .ok (.iload_n 1, 1) := by decide +kernel
theorem dX4_pools_28 : decode cX4_pools 28 = .ok (.ireturn, 1) := by decide +kernel
theorem dX4_leftCount_0 : decode cX4_leftCount 0 = .ok (.aload_n 0, 1) := by decide +kernel
theorem dX4_leftCount_1 : decode cX4_leftCount 1 = .ok (.getfield 31, 3) := by decide +kernel
theorem dX4_leftCount_4 : decode cX4_leftCount 4 = .ok (.invokestatic 68, 3) := by decide +kernel
theorem dX4_leftCount_7 : decode cX4_leftCount 7 = .ok (.ireturn, 1) := by decide +kernel
theorem dX4_minutesTogether_0 : decode cX4_minutesTogether 0 = .ok (.iconst 0, 1) := by decide +kernel
theorem dX4_minutesTogether_1 : decode cX4_minutesTogether 1 = .ok (.istore_n 1, 1) := by decide +kernel
theorem dX4_minutesTogether_2 : decode cX4_minutesTogether 2 = .ok (.iconst 0, 1) := by decide +kernel
theorem dX4_minutesTogether_3 : decode cX4_minutesTogether 3 = .ok (.istore_n 2, 1) := by decide +kernel
theorem dX4_minutesTogether_4 : decode cX4_minutesTogether 4 = .ok (.iload_n 2, 1) := by decide +kernel
theorem dX4_minutesTogether_5 : decode cX4_minutesTogether 5 = .ok (.bipush 9, 2) := by decide +kernel
theorem dX4_minutesTogether_7 : decode cX4_minutesTogether 7 = .ok (.if_icmp .ge 26, 3) := by decide +kernel
theorem dX4_minutesTogether_10 : decode cX4_minutesTogether 10 = .ok (.aload_n 0, 1) := by decide +kernel
theorem dX4_minutesTogether_11 : decode cX4_minutesTogether 11 = .ok (.iload_n 2, 1) := by decide +kernel
theorem dX4_minutesTogether_12 : decode cX4_minutesTogether 12 = .ok (.invokevirtual 64, 3) := by decide +kernel
theorem dX4_minutesTogether_15 : decode cX4_minutesTogether 15 = .ok (.ifCond .eq 12, 3) := by decide +kernel
theorem dX4_minutesTogether_18 : decode cX4_minutesTogether 18 = .ok (.iload_n 1, 1) := by decide +kernel
theorem dX4_minutesTogether_19 : decode cX4_minutesTogether 19 = .ok (.aload_n 0, 1) := by decide +kernel
theorem dX4_minutesTogether_20 : decode cX4_minutesTogether 20 = .ok (.getfield 18, 3) := by decide +kernel
theorem dX4_minutesTogether_23 : decode cX4_minutesTogether 23 = .ok (.iload_n 2, 1) := by decide +kernel
theorem dX4_minutesTogether_24 : decode cX4_minutesTogether 24 = .ok (.iaload, 1) := by decide +kernel
theorem dX4_minutesTogether_25 : decode cX4_minutesTogether 25 = .ok (.iadd, 1) := by decide +kernel
theorem dX4_minutesTogether_26 : decode cX4_minutesTogether 26 = .ok (.istore_n 1, 1) := by decide +kernel
theorem dX4_minutesTogether_27 : decode cX4_minutesTogether 27 = .ok (.iinc 2 1, 3) := by decide +kernel
theorem dX4_minutesTogether_30 : decode cX4_minutesTogether 30 = .ok (.goto (-26), 3) := by decide +kernel
theorem dX4_minutesTogether_33 : decode cX4_minutesTogether 33 = .ok (.iload_n 1, 1) := by decide +kernel
theorem dX4_minutesTogether_34 : decode cX4_minutesTogether 34 = .ok (.ireturn, 1) := by decide +kernel
theorem dX4_personsInPools_0 : decode cX4_personsInPools 0 = .ok (.iconst 0, 1) := by decide +kernel
theorem dX4_personsInPools_1 : decode cX4_personsInPools 1 = .ok (.istore_n 1, 1) := by decide +kernel
theorem dX4_personsInPools_2 : decode cX4_personsInPools 2 = .ok (.iconst 0, 1) := by decide +kernel
theorem dX4_personsInPools_3 : decode cX4_personsInPools 3 = .ok (.istore_n 2, 1) := by decide +kernel
theorem dX4_personsInPools_4 : decode cX4_personsInPools 4 = .ok (.iload_n 2, 1) := by decide +kernel
theorem dX4_personsInPools_5 : decode cX4_personsInPools 5 = .ok (.bipush 9, 2) := by decide +kernel
theorem dX4_personsInPools_7 : decode cX4_personsInPools 7 = .ok (.if_icmp .ge 21, 3) := by decide +kernel
theorem dX4_personsInPools_10 : decode cX4_personsInPools 10 = .ok (.aload_n 0, 1) := by decide +kernel
theorem dX4_personsInPools_11 : decode cX4_personsInPools 11 = .ok (.getfield 9, 3) := by decide +kernel
theorem dX4_personsInPools_14 : decode cX4_personsInPools 14 = .ok (.iload_n 2, 1) := by decide +kernel
theorem dX4_personsInPools_15 : decode cX4_personsInPools 15 = .ok (.iaload, 1) := by decide +kernel
theorem dX4_personsInPools_16 : decode cX4_personsInPools 16 = .ok (.ifCond .eq 6, 3) := by decide +kernel
theorem dX4_personsInPools_19 : decode cX4_personsInPools 19 = .ok (.iinc 1 1, 3) := by decide +kernel
theorem dX4_personsInPools_22 : decode cX4_personsInPools 22 = .ok (.iinc 2 1, 3) := by decide +kernel
theorem dX4_personsInPools_25 : decode cX4_personsInPools 25 = .ok (.goto (-21), 3) := by decide +kernel
theorem dX4_personsInPools_28 : decode cX4_personsInPools 28 = .ok (.iload_n 1, 1) := by decide +kernel
theorem dX4_personsInPools_29 : decode cX4_personsInPools 29 = .ok (.ireturn, 1) := by decide +kernel
theorem dX4_pointsEachMorning_0 : decode cX4_pointsEachMorning 0 = .ok (.aload_n 0, 1) := by decide +kernel
theorem dX4_pointsEachMorning_1 : decode cX4_pointsEachMorning 1 = .ok (.getfield 9, 3) := by decide +kernel
theorem dX4_pointsEachMorning_4 : decode cX4_pointsEachMorning 4 = .ok (.iload_n 1, 1) := by decide +kernel
theorem dX4_pointsEachMorning_5 : decode cX4_pointsEachMorning 5 = .ok (.iaload, 1) := by decide +kernel
theorem dX4_pointsEachMorning_6 : decode cX4_pointsEachMorning 6 = .ok (.invokestatic 68, 3) := by decide +kernel
theorem dX4_pointsEachMorning_9 : decode cX4_pointsEachMorning 9 = .ok (.iconst 1, 1) := by decide +kernel
theorem dX4_pointsEachMorning_10 : decode cX4_pointsEachMorning 10 = .ok (.isub, 1) := by decide +kernel
theorem dX4_pointsEachMorning_11 : decode cX4_pointsEachMorning 11 = .ok (.istore_n 2, 1) := by decide +kernel
theorem dX4_pointsEachMorning_12 : decode cX4_pointsEachMorning 12 = .ok (.iload_n 2, 1) := by decide +kernel
theorem dX4_pointsEachMorning_13 : decode cX4_pointsEachMorning 13 = .ok (.iconst 1, 1) := by decide +kernel
theorem dX4_pointsEachMorning_14 : decode cX4_pointsEachMorning 14 = .ok (.if_icmp .ge 5, 3) := by decide +kernel
theorem dX4_pointsEachMorning_17 : decode cX4_pointsEachMorning 17 = .ok (.iconst 0, 1) := by decide +kernel
theorem dX4_pointsEachMorning_18 : decode cX4_pointsEachMorning 18 = .ok (.ireturn, 1) := by decide +kernel
theorem dX4_pointsEachMorning_19 : decode cX4_pointsEachMorning 19 = .ok (.aload_n 0, 1) := by decide +kernel
theorem dX4_pointsEachMorning_20 : decode cX4_pointsEachMorning 20 = .ok (.getfield 15, 3) := by decide +kernel
theorem dX4_pointsEachMorning_23 : decode cX4_pointsEachMorning 23 = .ok (.iload_n 1, 1) := by decide +kernel
theorem dX4_pointsEachMorning_24 : decode cX4_pointsEachMorning 24 = .ok (.iaload, 1) := by decide +kernel
theorem dX4_pointsEachMorning_25 : decode cX4_pointsEachMorning 25 = .ok (.iload_n 1, 1) := by decide +kernel
theorem dX4_pointsEachMorning_26 : decode cX4_pointsEachMorning 26 = .ok (.if_icmp .ne 7, 3) := by decide +kernel
theorem dX4_pointsEachMorning_29 : decode cX4_pointsEachMorning 29 = .ok (.iload_n 2, 1) := by decide +kernel
theorem dX4_pointsEachMorning_30 : decode cX4_pointsEachMorning 30 = .ok (.goto 4, 3) := by decide +kernel
theorem dX4_pointsEachMorning_33 : decode cX4_pointsEachMorning 33 = .ok (.iconst (-1), 1) := by decide +kernel
theorem dX4_pointsEachMorning_34 : decode cX4_pointsEachMorning 34 = .ok (.ireturn, 1) := by decide +kernel
theorem dX4_tell_0 : decode cX4_tell 0 = .ok (.iload_n 2, 1) := by decide +kernel
theorem dX4_tell_1 : decode cX4_tell 1 = .ok (.ifCond .ne 10, 3) := by decide +kernel
theorem dX4_tell_4 : decode cX4_tell 4 = .ok (.aload_n 0, 1) := by decide +kernel
theorem dX4_tell_5 : decode cX4_tell 5 = .ok (.getfield 9, 3) := by decide +kernel
theorem dX4_tell_8 : decode cX4_tell 8 = .ok (.iload_n 1, 1) := by decide +kernel
theorem dX4_tell_9 : decode cX4_tell 9 = .ok (.iaload, 1) := by decide +kernel
theorem dX4_tell_10 : decode cX4_tell 10 = .ok (.ireturn, 1) := by decide +kernel
theorem dX4_tell_11 : decode cX4_tell 11 = .ok (.aload_n 0, 1) := by decide +kernel
theorem dX4_tell_12 : decode cX4_tell 12 = .ok (.getfield 9, 3) := by decide +kernel
theorem dX4_tell_15 : decode cX4_tell 15 = .ok (.iload_n 1, 1) := by decide +kernel
theorem dX4_tell_16 : decode cX4_tell 16 = .ok (.iaload, 1) := by decide +kernel
theorem dX4_tell_17 : decode cX4_tell 17 = .ok (.ifCond .ne 6, 3) := by decide +kernel
theorem dX4_tell_20 : decode cX4_tell 20 = .ok (.bipush (-9), 2) := by decide +kernel
theorem dX4_tell_22 : decode cX4_tell 22 = .ok (.ireturn, 1) := by decide +kernel
theorem dX4_tell_23 : decode cX4_tell 23 = .ok (.iload_n 2, 1) := by decide +kernel
theorem dX4_tell_24 : decode cX4_tell 24 = .ok (.tableswitch 49 1 3 #[28, 35, 42], 28) := by decide +kernel
theorem dX4_tell_52 : decode cX4_tell 52 = .ok (.aload_n 0, 1) := by decide +kernel
theorem dX4_tell_53 : decode cX4_tell 53 = .ok (.getfield 15, 3) := by decide +kernel
theorem dX4_tell_56 : decode cX4_tell 56 = .ok (.iload_n 1, 1) := by decide +kernel
theorem dX4_tell_57 : decode cX4_tell 57 = .ok (.iaload, 1) := by decide +kernel
theorem dX4_tell_58 : decode cX4_tell 58 = .ok (.ireturn, 1) := by decide +kernel
theorem dX4_tell_59 : decode cX4_tell 59 = .ok (.aload_n 0, 1) := by decide +kernel
theorem dX4_tell_60 : decode cX4_tell 60 = .ok (.getfield 21, 3) := by decide +kernel
theorem dX4_tell_63 : decode cX4_tell 63 = .ok (.iload_n 1, 1) := by decide +kernel
theorem dX4_tell_64 : decode cX4_tell 64 = .ok (.iaload, 1) := by decide +kernel
theorem dX4_tell_65 : decode cX4_tell 65 = .ok (.ireturn, 1) := by decide +kernel
theorem dX4_tell_66 : decode cX4_tell 66 = .ok (.aload_n 0, 1) := by decide +kernel
theorem dX4_tell_67 : decode cX4_tell 67 = .ok (.getfield 24, 3) := by decide +kernel
theorem dX4_tell_70 : decode cX4_tell 70 = .ok (.iload_n 1, 1) := by decide +kernel
theorem dX4_tell_71 : decode cX4_tell 71 = .ok (.iaload, 1) := by decide +kernel
theorem dX4_tell_72 : decode cX4_tell 72 = .ok (.ireturn, 1) := by decide +kernel
theorem dX4_tell_73 : decode cX4_tell 73 = .ok (.bipush (-9), 2) := by decide +kernel
theorem dX4_tell_75 : decode cX4_tell 75 = .ok (.ireturn, 1) := by decide +kernel
theorem dX5_init_0 : decode cX5_init 0 = .ok (.aload_n 0, 1) := by decide +kernel
theorem dX5_init_1 : decode cX5_init 1 = .ok (.invokespecial 3, 3) := by decide +kernel
theorem dX5_init_4 : decode cX5_init 4 = .ok (.aload_n 0, 1) := by decide +kernel
theorem dX5_init_5 : decode cX5_init 5 = .ok (.bipush 10, 2) := by decide +kernel
theorem dX5_init_7 : decode cX5_init 7 = .ok (.bipush 10, 2) := by decide +kernel
theorem dX5_init_9 : decode cX5_init 9 = .ok (.multianewarray 9 2, 4) := by decide +kernel
theorem dX5_init_13 : decode cX5_init 13 = .ok (.putfield 11, 3) := by decide +kernel
theorem dX5_init_16 : decode cX5_init 16 = .ok (.aload_n 0, 1) := by decide +kernel
theorem dX5_init_17 : decode cX5_init 17 = .ok (.bipush 10, 2) := by decide +kernel
theorem dX5_init_19 : decode cX5_init 19 = .ok (.bipush 10, 2) := by decide +kernel
theorem dX5_init_21 : decode cX5_init 21 = .ok (.multianewarray 9 2, 4) := by decide +kernel
theorem dX5_init_25 : decode cX5_init 25 = .ok (.putfield 16, 3) := by decide +kernel
theorem dX5_init_28 : decode cX5_init 28 = .ok (.iconst 0, 1) := by decide +kernel
theorem dX5_init_29 : decode cX5_init 29 = .ok (.istore_n 1, 1) := by decide +kernel
theorem dX5_init_30 : decode cX5_init 30 = .ok (.iload_n 1, 1) := by decide +kernel
theorem dX5_init_31 : decode cX5_init 31 = .ok (.bipush 10, 2) := by decide +kernel
theorem dX5_init_33 : decode cX5_init 33 = .ok (.if_icmp .ge 30, 3) := by decide +kernel
theorem dX5_init_36 : decode cX5_init 36 = .ok (.aload_n 0, 1) := by decide +kernel
theorem dX5_init_37 : decode cX5_init 37 = .ok (.getfield 11, 3) := by decide +kernel
theorem dX5_init_40 : decode cX5_init 40 = .ok (.iload_n 1, 1) := by decide +kernel
theorem dX5_init_41 : decode cX5_init 41 = .ok (.aaload, 1) := by decide +kernel
theorem dX5_init_42 : decode cX5_init 42 = .ok (.sipush 300, 3) := by decide +kernel
theorem dX5_init_45 : decode cX5_init 45 = .ok (.invokestatic 19, 3) := by decide +kernel
theorem dX5_init_48 : decode cX5_init 48 = .ok (.aload_n 0, 1) := by decide +kernel
theorem dX5_init_49 : decode cX5_init 49 = .ok (.getfield 11, 3) := by decide +kernel
theorem dX5_init_52 : decode cX5_init 52 = .ok (.iload_n 1, 1) := by decide +kernel
theorem dX5_init_53 : decode cX5_init 53 = .ok (.aaload, 1) := by decide +kernel
theorem dX5_init_54 : decode cX5_init 54 = .ok (.iload_n 1, 1) := by decide +kernel
theorem dX5_init_55 : decode cX5_init 55 = .ok (.iconst 0, 1) := by decide +kernel
theorem dX5_init_56 : decode cX5_init 56 = .ok (.iastore, 1) := by decide +kernel
theorem dX5_init_57 : decode cX5_init 57 = .ok (.iinc 1 1, 3) := by decide +kernel
theorem dX5_init_60 : decode cX5_init 60 = .ok (.goto (-30), 3) := by decide +kernel
theorem dX5_init_63 : decode cX5_init 63 = .ok (.aload_n 0, 1) := by decide +kernel
theorem dX5_init_64 : decode cX5_init 64 = .ok (.invokevirtual 25, 3) := by decide +kernel
theorem dX5_init_67 : decode cX5_init 67 = .ok (.return_, 1) := by decide +kernel
theorem dX5_shortest_0 : decode cX5_shortest 0 = .ok (.aload_n 0, 1) := by decide +kernel
theorem dX5_shortest_1 : decode cX5_shortest 1 = .ok (.getfield 16, 3) := by decide +kernel
theorem dX5_shortest_4 : decode cX5_shortest 4 = .ok (.iload_n 1, 1) := by decide +kernel
theorem dX5_shortest_5 : decode cX5_shortest 5 = .ok (.aaload, 1) := by decide +kernel
theorem dX5_shortest_6 : decode cX5_shortest 6 = .ok (.iload_n 2, 1) := by decide +kernel
theorem dX5_shortest_7 : decode cX5_shortest 7 = .ok (.iaload, 1) := by decide +kernel
theorem dX5_shortest_8 : decode cX5_shortest 8 = .ok (.ireturn, 1) := by decide +kernel
theorem dX5_change_0 : decode cX5_change 0 = .ok (.aload_n 0, 1) := by decide +kernel
theorem dX5_change_1 : decode cX5_change 1 = .ok (.getfield 11, 3) := by decide +kernel
theorem dX5_change_4 : decode cX5_change 4 = .ok (.iload_n 1, 1) := by decide +kernel
theorem dX5_change_5 : decode cX5_change 5 = .ok (.aaload, 1) := by decide +kernel
theorem dX5_change_6 : decode cX5_change 6 = .ok (.iload_n 2, 1) := by decide +kernel
theorem dX5_change_7 : decode cX5_change 7 = .ok (.iaload, 1) := by decide +kernel
theorem dX5_change_8 : decode cX5_change 8 = .ok (.istore 4, 2) := by decide +kernel
theorem dX5_change_10 : decode cX5_change 10 = .ok (.aload_n 0, 1) := by decide +kernel
theorem dX5_change_11 : decode cX5_change 11 = .ok (.getfield 11, 3) := by decide +kernel
theorem dX5_change_14 : decode cX5_change 14 = .ok (.iload_n 1, 1) := by decide +kernel
theorem dX5_change_15 : decode cX5_change 15 = .ok (.aaload, 1) := by decide +kernel
theorem dX5_change_16 : decode cX5_change 16 = .ok (.iload_n 2, 1) := by decide +kernel
theorem dX5_change_17 : decode cX5_change 17 = .ok (.iload_n 3, 1) := by decide +kernel
theorem dX5_change_18 : decode cX5_change 18 = .ok (.iastore, 1) := by decide +kernel
theorem dX5_change_19 : decode cX5_change 19 = .ok (.iload 4, 2) := by decide +kernel
theorem dX5_change_21 : decode cX5_change 21 = .ok (.iload_n 3, 1) := by decide +kernel
theorem dX5_change_22 : decode cX5_change 22 = .ok (.if_icmp .eq 7, 3) := by decide +kernel
theorem dX5_change_25 : decode cX5_change 25 = .ok (.aload_n 0, 1) := by decide +kernel
theorem dX5_change_26 : decode cX5_change 26 = .ok (.invokevirtual 25, 3) := by decide +kernel
theorem dX5_change_29 : decode cX5_change 29 = .ok (.iload 4, 2) := by decide +kernel
theorem dX5_change_31 : decode cX5_change 31 = .ok (.ireturn, 1) := by decide +kernel
theorem dX5_renew_0 : decode cX5_renew 0 = .ok (.iconst 0, 1) := by decide +kernel
theorem dX5_renew_1 : decode cX5_renew 1 = .ok (.istore_n 1, 1) := by decide +kernel
theorem dX5_renew_2 : decode cX5_renew 2 = .ok (.iload_n 1, 1) := by decide +kernel
theorem dX5_renew_3 : decode cX5_renew 3 = .ok (.bipush 10, 2) := by decide +kernel
theorem dX5_renew_5 : decode cX5_renew 5 = .ok (.if_icmp .ge 28, 3) := by decide +kernel
theorem dX5_renew_8 : decode cX5_renew 8 = .ok (.aload_n 0, 1) := by decide +kernel
theorem dX5_renew_9 : decode cX5_renew 9 = .ok (.getfield 11, 3) := by decide +kernel
theorem dX5_renew_12 : decode cX5_renew 12 = .ok (.iload_n 1, 1) := by decide +kernel
theorem dX5_renew_13 : decode cX5_renew 13 = .ok (.aaload, 1) := by decide +kernel
theorem dX5_renew_14 : decode cX5_renew 14 = .ok (.iconst 0, 1) := by decide +kernel
theorem dX5_renew_15 : decode cX5_renew 15 = .ok (.aload_n 0, 1) := by decide +kernel
theorem dX5_renew_16 : decode cX5_renew 16 = .ok (.getfield 16, 3) := by decide +kernel
theorem dX5_renew_19 : decode cX5_renew 19 = .ok (.iload_n 1, 1) := by decide +kernel
theorem dX5_renew_20 : decode cX5_renew 20 = .ok (.aaload, 1) := by decide +kernel
theorem dX5_renew_21 : decode cX5_renew 21 = .ok (.iconst 0, 1) := by decide +kernel
theorem dX5_renew_22 : decode cX5_renew 22 = .ok (.bipush 10, 2) := by decide +kernel
theorem dX5_renew_24 : decode cX5_renew 24 = .ok (.invokestatic 28, 3) := by decide +kernel
theorem dX5_renew_27 : decode cX5_renew 27 = .ok (.iinc 1 1, 3) := by decide +kernel
theorem dX5_renew_30 : decode cX5_renew 30 = .ok (.goto (-28), 3) := by decide +kernel
theorem dX5_renew_33 : decode cX5_renew 33 = .ok (.iconst 0, 1) := by decide +kernel
theorem dX5_renew_34 : decode cX5_renew 34 = .ok (.istore_n 1, 1) := by decide +kernel
theorem dX5_renew_35 : decode cX5_renew 35 = .ok (.iload_n 1, 1) := by decide +kernel
theorem dX5_renew_36 : decode cX5_renew 36 = .ok (.bipush 10, 2) := by decide +kernel
theorem dX5_renew_38 : decode cX5_renew 38 = .ok (.if_icmp .ge 34, 3) := by decide +kernel
theorem dX5_renew_41 : decode cX5_renew 41 = .ok (.iconst 0, 1) := by decide +kernel
theorem dX5_renew_42 : decode cX5_renew 42 = .ok (.istore_n 2, 1) := by decide +kernel
theorem dX5_renew_43 : decode cX5_renew 43 = .ok (.iload_n 2, 1) := by decide +kernel
theorem dX5_renew_44 : decode cX5_renew 44 = .ok (.bipush 10, 2) := by decide +kernel
theorem dX5_renew_46 : decode cX5_renew 46 = .ok (.if_icmp .ge 20, 3) := by decide +kernel
theorem dX5_renew_49 : decode cX5_renew 49 = .ok (.aload_n 0, 1) := by decide +kernel
theorem dX5_renew_50 : decode cX5_renew 50 = .ok (.iload_n 1, 1) := by decide +kernel
theorem dX5_renew_51 : decode cX5_renew 51 = .ok (.aload_n 0, 1) := by decide +kernel
theorem dX5_renew_52 : decode cX5_renew 52 = .ok (.getfield 16, 3) := by decide +kernel
theorem dX5_renew_55 : decode cX5_renew 55 = .ok (.iload_n 2, 1) := by decide +kernel
theorem dX5_renew_56 : decode cX5_renew 56 = .ok (.aaload, 1) := by decide +kernel
theorem dX5_renew_57 : decode cX5_renew 57 = .ok (.invokevirtual 34, 3) := by decide +kernel
theorem dX5_renew_60 : decode cX5_renew 60 = .ok (.iinc 2 1, 3) := by decide +kernel
theorem dX5_renew_63 : decode cX5_renew 63 = .ok (.goto (-20), 3) := by decide +kernel
theorem dX5_renew_66 : decode cX5_renew 66 = .ok (.iinc 1 1, 3) := by decide +kernel
theorem dX5_renew_69 : decode cX5_renew 69 = .ok (.goto (-34), 3) := by decide +kernel
theorem dX5_renew_72 : decode cX5_renew 72 = .ok (.return_, 1) := by decide +kernel
theorem dX5_shortenBy_0 : decode cX5_shortenBy 0 = .ok (.iconst 0, 1) := by decide +kernel
theorem dX5_shortenBy_1 : decode cX5_shortenBy 1 = .ok (.istore_n 3, 1) := by decide +kernel
theorem dX5_shortenBy_2 : decode cX5_shortenBy 2 = .ok (.iload_n 3, 1) := by decide +kernel
theorem dX5_shortenBy_3 : decode cX5_shortenBy 3 = .ok (.bipush 10, 2) := by decide +kernel
theorem dX5_shortenBy_5 : decode cX5_shortenBy 5 = .ok (.if_icmp .ge 30, 3) := by decide +kernel
theorem dX5_shortenBy_8 : decode cX5_shortenBy 8 = .ok (.aload_n 2, 1) := by decide +kernel
theorem dX5_shortenBy_9 : decode cX5_shortenBy 9 = .ok (.iload_n 3, 1) := by decide +kernel
theorem dX5_shortenBy_10 : decode cX5_shortenBy 10 = .ok (.aload_n 2, 1) := by decide +kernel
theorem dX5_shortenBy_11 : decode cX5_shortenBy 11 = .ok (.iload_n 3, 1) := by decide +kernel
theorem dX5_shortenBy_12 : decode cX5_shortenBy 12 = .ok (.iaload, 1) := by decide +kernel
theorem dX5_shortenBy_13 : decode cX5_shortenBy 13 = .ok (.aload_n 2, 1) := by decide +kernel
theorem dX5_shortenBy_14 : decode cX5_shortenBy 14 = .ok (.iload_n 1, 1) := by decide +kernel
theorem dX5_shortenBy_15 : decode cX5_shortenBy 15 = .ok (.iaload, 1) := by decide +kernel
theorem dX5_shortenBy_16 : decode cX5_shortenBy 16 = .ok (.aload_n 0, 1) := by decide +kernel
theorem dX5_shortenBy_17 : decode cX5_shortenBy 17 = .ok (.getfield 16, 3) := by decide +kernel
theorem dX5_shortenBy_20 : decode cX5_shortenBy 20 = .ok (.iload_n 1, 1) := by decide +kernel
theorem dX5_shortenBy_21 : decode cX5_shortenBy 21 = .ok (.aaload, 1) := by decide +kernel
theorem dX5_shortenBy_22 : decode cX5_shortenBy 22 = .ok (.iload_n 3, 1) := by decide +kernel
theorem dX5_shortenBy_23 : decode cX5_shortenBy 23 = .ok (.iaload, 1) := by decide +kernel
theorem dX5_shortenBy_24 : decode cX5_shortenBy 24 = .ok (.iadd, 1) := by decide +kernel
theorem dX5_shortenBy_25 : decode cX5_shortenBy 25 = .ok (.invokestatic 38, 3) := by decide +kernel
theorem dX5_shortenBy_28 : decode cX5_shortenBy 28 = .ok (.iastore, 1) := by decide +kernel
theorem dX5_shortenBy_29 : decode cX5_shortenBy 29 = .ok (.iinc 3 1, 3) := by decide +kernel
theorem dX5_shortenBy_32 : decode cX5_shortenBy 32 = .ok (.goto (-30), 3) := by decide +kernel
theorem dX5_shortenBy_35 : decode cX5_shortenBy 35 = .ok (.return_, 1) := by decide +kernel
theorem dX6_init_0 : decode cX6_init 0 = .ok (.aload_n 0, 1) := by decide +kernel
theorem dX6_init_1 : decode cX6_init 1 = .ok (.invokespecial 3, 3) := by decide +kernel
theorem dX6_init_4 : decode cX6_init 4 = .ok (.aload_n 0, 1) := by decide +kernel
theorem dX6_init_5 : decode cX6_init 5 = .ok (.iconst 4, 1) := by decide +kernel
theorem dX6_init_6 : decode cX6_init 6 = .ok (.newarray .int, 2) := by decide +kernel
theorem dX6_init_8 : decode cX6_init 8 = .ok (.putfield 9, 3) := by decide +kernel
theorem dX6_init_11 : decode cX6_init 11 = .ok (.aload_n 0, 1) := by decide +kernel
theorem dX6_init_12 : decode cX6_init 12 = .ok (.iconst 4, 1) := by decide +kernel
theorem dX6_init_13 : decode cX6_init 13 = .ok (.newarray .int, 2) := by decide +kernel
theorem dX6_init_15 : decode cX6_init 15 = .ok (.putfield 15, 3) := by decide +kernel
theorem dX6_init_18 : decode cX6_init 18 = .ok (.aload_n 0, 1) := by decide +kernel
theorem dX6_init_19 : decode cX6_init 19 = .ok (.iconst 4, 1) := by decide +kernel
theorem dX6_init_20 : decode cX6_init 20 = .ok (.newarray .int, 2) := by decide +kernel
theorem dX6_init_22 : decode cX6_init 22 = .ok (.putfield 18, 3) := by decide +kernel
theorem dX6_init_25 : decode cX6_init 25 = .ok (.aload_n 0, 1) := by decide +kernel
theorem dX6_init_26 : decode cX6_init 26 = .ok (.iconst 4, 1) := by decide +kernel
theorem dX6_init_27 : decode cX6_init 27 = .ok (.newarray .int, 2) := by decide +kernel
theorem dX6_init_29 : decode cX6_init 29 = .ok (.putfield 21, 3) := by decide +kernel
theorem dX6_init_32 : decode cX6_init 32 = .ok (.aload_n 0, 1) := by decide +kernel
theorem dX6_init_33 : decode cX6_init 33 = .ok (.iconst 4, 1) := by decide +kernel
theorem dX6_init_34 : decode cX6_init 34 = .ok (.newarray .int, 2) := by decide +kernel
theorem dX6_init_36 : decode cX6_init 36 = .ok (.putfield 24, 3) := by decide +kernel
theorem dX6_init_39 : decode cX6_init 39 = .ok (.return_, 1) := by decide +kernel
theorem dX6_copyOf_0 : decode cX6_copyOf 0 = .ok (.aload_n 0, 1) := by decide +kernel
theorem dX6_copyOf_1 : decode cX6_copyOf 1 = .ok (.aload_n 1, 1) := by decide +kernel
theorem dX6_copyOf_2 : decode cX6_copyOf 2 = .ok (.getfield 27, 3) := by decide +kernel
theorem dX6_copyOf_5 : decode cX6_copyOf 5 = .ok (.putfield 27, 3) := by decide +kernel
theorem dX6_copyOf_8 : decode cX6_copyOf 8 = .ok (.aload_n 0, 1) := by decide +kernel
theorem dX6_copyOf_9 : decode cX6_copyOf 9 = .ok (.aload_n 1, 1) := by decide +kernel
theorem dX6_copyOf_10 : decode cX6_copyOf 10 = .ok (.getfield 31, 3) := by decide +kernel
theorem dX6_copyOf_13 : decode cX6_copyOf 13 = .ok (.putfield 31, 3) := by decide +kernel
theorem dX6_copyOf_16 : decode cX6_copyOf 16 = .ok (.aload_n 0, 1) := by decide +kernel
theorem dX6_copyOf_17 : decode cX6_copyOf 17 = .ok (.aload_n 1, 1) := by decide +kernel
theorem dX6_copyOf_18 : decode cX6_copyOf 18 = .ok (.getfield 34, 3) := by decide +kernel
theorem dX6_copyOf_21 : decode cX6_copyOf 21 = .ok (.putfield 34, 3) := by decide +kernel
theorem dX6_copyOf_24 : decode cX6_copyOf 24 = .ok (.iconst 0, 1) := by decide +kernel
theorem dX6_copyOf_25 : decode cX6_copyOf 25 = .ok (.istore_n 2, 1) := by decide +kernel
theorem dX6_copyOf_26 : decode cX6_copyOf 26 = .ok (.iload_n 2, 1) := by decide +kernel
theorem dX6_copyOf_27 : decode cX6_copyOf 27 = .ok (.iconst 4, 1) := by decide +kernel
theorem dX6_copyOf_28 : decode cX6_copyOf 28 = .ok (.if_icmp .ge 69, 3) := by decide +kernel
theorem dX6_copyOf_31 : decode cX6_copyOf 31 = .ok (.aload_n 0, 1) := by decide +kernel
theorem dX6_copyOf_32 : decode cX6_copyOf 32 = .ok (.getfield 9, 3) := by decide +kernel
theorem dX6_copyOf_35 : decode cX6_copyOf 35 = .ok (.iload_n 2, 1) := by decide +kernel
theorem dX6_copyOf_36 : decode cX6_copyOf 36 = .ok (.aload_n 1, 1) := by decide +kernel
theorem dX6_copyOf_37 : decode cX6_copyOf 37 = .ok (.getfield 9, 3) := by decide +kernel
theorem dX6_copyOf_40 : decode cX6_copyOf 40 = .ok (.iload_n 2, 1) := by decide +kernel
theorem dX6_copyOf_41 : decode cX6_copyOf 41 = .ok (.iaload, 1) := by decide +kernel
theorem dX6_copyOf_42 : decode cX6_copyOf 42 = .ok (.iastore, 1) := by decide +kernel
theorem dX6_copyOf_43 : decode cX6_copyOf 43 = .ok (.aload_n 0, 1) := by decide +kernel
theorem dX6_copyOf_44 : decode cX6_copyOf 44 = .ok (.getfield 15, 3) := by decide +kernel
theorem dX6_copyOf_47 : decode cX6_copyOf 47 = .ok (.iload_n 2, 1) := by decide +kernel
theorem dX6_copyOf_48 : decode cX6_copyOf 48 = .ok (.aload_n 1, 1) := by decide +kernel
theorem dX6_copyOf_49 : decode cX6_copyOf 49 = .ok (.getfield 15, 3) := by decide +kernel
theorem dX6_copyOf_52 : decode cX6_copyOf 52 = .ok (.iload_n 2, 1) := by decide +kernel
theorem dX6_copyOf_53 : decode cX6_copyOf 53 = .ok (.iaload, 1) := by decide +kernel
theorem dX6_copyOf_54 : decode cX6_copyOf 54 = .ok (.iastore, 1) := by decide +kernel
theorem dX6_copyOf_55 : decode cX6_copyOf 55 = .ok (.aload_n 0, 1) := by decide +kernel
theorem dX6_copyOf_56 : decode cX6_copyOf 56 = .ok (.getfield 18, 3) := by decide +kernel
theorem dX6_copyOf_59 : decode cX6_copyOf 59 = .ok (.iload_n 2, 1) := by decide +kernel
theorem dX6_copyOf_60 : decode cX6_copyOf 60 = .ok (.aload_n 1, 1) := by decide +kernel
theorem dX6_copyOf_61 : decode cX6_copyOf 61 = .ok (.getfield 18, 3) := by decide +kernel
theorem dX6_copyOf_64 : decode cX6_copyOf 64 = .ok (.iload_n 2, 1) := by decide +kernel
theorem dX6_copyOf_65 : decode cX6_copyOf 65 = .ok (.iaload, 1) := by decide +kernel
theorem dX6_copyOf_66 : decode cX6_copyOf 66 = .ok (.iastore, 1) := by decide +kernel
theorem dX6_copyOf_67 : decode cX6_copyOf 67 = .ok (.aload_n 0, 1) := by decide +kernel
theorem dX6_copyOf_68 : decode cX6_copyOf 68 = .ok (.getfield 21, 3) := by decide +kernel
theorem dX6_copyOf_71 : decode cX6_copyOf 71 = .ok (.iload_n 2, 1) := by decide +kernel
theorem dX6_copyOf_72 : decode cX6_copyOf 72 = .ok (.aload_n 1, 1) := by decide +kernel
theorem dX6_copyOf_73 : decode cX6_copyOf 73 = .ok (.getfield 21, 3) := by decide +kernel
theorem dX6_copyOf_76 : decode cX6_copyOf 76 = .ok (.iload_n 2, 1) := by decide +kernel
theorem dX6_copyOf_77 : decode cX6_copyOf 77 = .ok (.iaload, 1) := by decide +kernel
theorem dX6_copyOf_78 : decode cX6_copyOf 78 = .ok (.iastore, 1) := by decide +kernel
theorem dX6_copyOf_79 : decode cX6_copyOf 79 = .ok (.aload_n 0, 1) := by decide +kernel
theorem dX6_copyOf_80 : decode cX6_copyOf 80 = .ok (.getfield 24, 3) := by decide +kernel
theorem dX6_copyOf_83 : decode cX6_copyOf 83 = .ok (.iload_n 2, 1) := by decide +kernel
theorem dX6_copyOf_84 : decode cX6_copyOf 84 = .ok (.aload_n 1, 1) := by decide +kernel
theorem dX6_copyOf_85 : decode cX6_copyOf 85 = .ok (.getfield 24, 3) := by decide +kernel
theorem dX6_copyOf_88 : decode cX6_copyOf 88 = .ok (.iload_n 2, 1) := by decide +kernel
