theorem dX8_planOf_17 : decode cX8_planOf 17 = .ok (.iload_n 1, 1) := by decide +kernel
theorem dX8_planOf_18 : decode cX8_planOf 18 = .ok (.tableswitch 62 0 3 #[30, 38, 46, 54], 30) := by decide +kernel
theorem dX8_planOf_48 : decode cX8_planOf 48 = .ok (.aload_n 0, 1) := by decide +kernel
theorem dX8_planOf_49 : decode cX8_planOf 49 = .ok (.getfield 53, 3) := by decide +kernel
theorem dX8_planOf_52 : decode cX8_planOf 52 = .ok (.invokevirtual 190, 3) := by decide +kernel
theorem dX8_planOf_55 : decode cX8_planOf 55 = .ok (.ireturn, 1) := by decide +kernel
theorem dX8_planOf_56 : decode cX8_planOf 56 = .ok (.aload_n 0, 1) := by decide +kernel
theorem dX8_planOf_57 : decode cX8_planOf 57 = .ok (.getfield 53, 3) := by decide +kernel
theorem dX8_planOf_60 : decode cX8_planOf 60 = .ok (.invokevirtual 196, 3) := by decide +kernel
theorem dX8_planOf_63 : decode cX8_planOf 63 = .ok (.ireturn, 1) := by decide +kernel
theorem dX8_planOf_64 : decode cX8_planOf 64 = .ok (.aload_n 0, 1) := by decide +kernel
theorem dX8_planOf_65 : decode cX8_planOf 65 = .ok (.getfield 53, 3) := by decide +kernel
theorem dX8_planOf_68 : decode cX8_planOf 68 = .ok (.invokevirtual 199, 3) := by decide +kernel
theorem dX8_planOf_71 : decode cX8_planOf 71 = .ok (.ireturn, 1) := by decide +kernel
theorem dX8_planOf_72 : decode cX8_planOf 72 = .ok (.aload_n 0, 1) := by decide +kernel
theorem dX8_planOf_73 : decode cX8_planOf 73 = .ok (.getfield 53, 3) := by decide +kernel
theorem dX8_planOf_76 : decode cX8_planOf 76 = .ok (.invokevirtual 202, 3) := by decide +kernel
theorem dX8_planOf_79 : decode cX8_planOf 79 = .ok (.ireturn, 1) := by decide +kernel
theorem dX8_planOf_80 : decode cX8_planOf 80 = .ok (.aload_n 0, 1) := by decide +kernel
theorem dX8_planOf_81 : decode cX8_planOf 81 = .ok (.bipush (-2), 2) := by decide +kernel
theorem dX8_planOf_83 : decode cX8_planOf 83 = .ok (.invokevirtual 69, 3) := by decide +kernel
theorem dX8_planOf_86 : decode cX8_planOf 86 = .ok (.ireturn, 1) := by decide +kernel
theorem dX8_poolOf_0 : decode cX8_poolOf 0 = .ok (.aload_n 0, 1) := by decide +kernel
theorem dX8_poolOf_1 : decode cX8_poolOf 1 = .ok (.getfield 53, 3) := by decide +kernel
theorem dX8_poolOf_4 : decode cX8_poolOf 4 = .ok (.invokevirtual 193, 3) := by decide +kernel
theorem dX8_poolOf_7 : decode cX8_poolOf 7 = .ok (.ifCond .ne 10, 3) := by decide +kernel
theorem dX8_poolOf_10 : decode cX8_poolOf 10 = .ok (.aload_n 0, 1) := by decide +kernel
theorem dX8_poolOf_11 : decode cX8_poolOf 11 = .ok (.bipush (-3), 2) := by decide +kernel
theorem dX8_poolOf_13 : decode cX8_poolOf 13 = .ok (.invokevirtual 69, 3) := by decide +kernel
theorem dX8_poolOf_16 : decode cX8_poolOf 16 = .ok (.ireturn, 1) := by decide +kernel
theorem dX8_poolOf_17 : decode cX8_poolOf 17 = .ok (.aload_n 0, 1) := by decide +kernel
theorem dX8_poolOf_18 : decode cX8_poolOf 18 = .ok (.getfield 19, 3) := by decide +kernel
theorem dX8_poolOf_21 : decode cX8_poolOf 21 = .ok (.iload_n 1, 1) := by decide +kernel
theorem dX8_poolOf_22 : decode cX8_poolOf 22 = .ok (.invokevirtual 120, 3) := by decide +kernel
theorem dX8_poolOf_25 : decode cX8_poolOf 25 = .ok (.ifCond .ne 9, 3) := by decide +kernel
theorem dX8_poolOf_28 : decode cX8_poolOf 28 = .ok (.aload_n 0, 1) := by decide +kernel
theorem dX8_poolOf_29 : decode cX8_poolOf 29 = .ok (.iconst (-1), 1) := by decide +kernel
theorem dX8_poolOf_30 : decode cX8_poolOf 30 = .ok (.invokevirtual 69, 3) := by decide +kernel
theorem dX8_poolOf_33 : decode cX8_poolOf 33 = .ok (.ireturn, 1) := by decide +kernel
theorem dX8_poolOf_34 : decode cX8_poolOf 34 = .ok (.iload_n 2, 1) := by decide +kernel
theorem dX8_poolOf_35 : decode cX8_poolOf 35 = .ok (.ifCond .lt 8, 3) := by decide +kernel
theorem dX8_poolOf_38 : decode cX8_poolOf 38 = .ok (.iload_n 2, 1) := by decide +kernel
theorem dX8_poolOf_39 : decode cX8_poolOf 39 = .ok (.iconst 3, 1) := by decide +kernel
theorem dX8_poolOf_40 : decode cX8_poolOf 40 = .ok (.if_icmp .le 10, 3) := by decide +kernel
theorem dX8_poolOf_43 : decode cX8_poolOf 43 = .ok (.aload_n 0, 1) := by decide +kernel
theorem dX8_poolOf_44 : decode cX8_poolOf 44 = .ok (.bipush (-2), 2) := by decide +kernel
theorem dX8_poolOf_46 : decode cX8_poolOf 46 = .ok (.invokevirtual 69, 3) := by decide +kernel
theorem dX8_poolOf_49 : decode cX8_poolOf 49 = .ok (.ireturn, 1) := by decide +kernel
theorem dX8_poolOf_50 : decode cX8_poolOf 50 = .ok (.aload_n 0, 1) := by decide +kernel
theorem dX8_poolOf_51 : decode cX8_poolOf 51 = .ok (.getfield 53, 3) := by decide +kernel
theorem dX8_poolOf_54 : decode cX8_poolOf 54 = .ok (.iload_n 1, 1) := by decide +kernel
theorem dX8_poolOf_55 : decode cX8_poolOf 55 = .ok (.iload_n 2, 1) := by decide +kernel
theorem dX8_poolOf_56 : decode cX8_poolOf 56 = .ok (.invokevirtual 205, 3) := by decide +kernel
theorem dX8_poolOf_59 : decode cX8_poolOf 59 = .ok (.ireturn, 1) := by decide +kernel
theorem dX8_same_0 : decode cX8_same 0 = .ok (.aload_n 0, 1) := by decide +kernel
theorem dX8_same_1 : decode cX8_same 1 = .ok (.getfield 53, 3) := by decide +kernel
theorem dX8_same_4 : decode cX8_same 4 = .ok (.invokevirtual 193, 3) := by decide +kernel
theorem dX8_same_7 : decode cX8_same 7 = .ok (.ifCond .ne 10, 3) := by decide +kernel
theorem dX8_same_10 : decode cX8_same 10 = .ok (.aload_n 0, 1) := by decide +kernel
theorem dX8_same_11 : decode cX8_same 11 = .ok (.bipush (-3), 2) := by decide +kernel
theorem dX8_same_13 : decode cX8_same 13 = .ok (.invokevirtual 69, 3) := by decide +kernel
theorem dX8_same_16 : decode cX8_same 16 = .ok (.ireturn, 1) := by decide +kernel
theorem dX8_same_17 : decode cX8_same 17 = .ok (.aload_n 0, 1) := by decide +kernel
theorem dX8_same_18 : decode cX8_same 18 = .ok (.getfield 19, 3) := by decide +kernel
theorem dX8_same_21 : decode cX8_same 21 = .ok (.invokevirtual 171, 3) := by decide +kernel
theorem dX8_same_24 : decode cX8_same 24 = .ok (.istore_n 1, 1) := by decide +kernel
theorem dX8_same_25 : decode cX8_same 25 = .ok (.aload_n 0, 1) := by decide +kernel
theorem dX8_same_26 : decode cX8_same 26 = .ok (.getfield 37, 3) := by decide +kernel
theorem dX8_same_29 : decode cX8_same 29 = .ok (.iload_n 1, 1) := by decide +kernel
theorem dX8_same_30 : decode cX8_same 30 = .ok (.invokevirtual 174, 3) := by decide +kernel
theorem dX8_same_33 : decode cX8_same 33 = .ok (.aload_n 0, 1) := by decide +kernel
theorem dX8_same_34 : decode cX8_same 34 = .ok (.getfield 46, 3) := by decide +kernel
theorem dX8_same_37 : decode cX8_same 37 = .ok (.iload_n 1, 1) := by decide +kernel
theorem dX8_same_38 : decode cX8_same 38 = .ok (.invokevirtual 177, 3) := by decide +kernel
theorem dX8_same_41 : decode cX8_same 41 = .ok (.istore_n 2, 1) := by decide +kernel
theorem dX8_same_42 : decode cX8_same 42 = .ok (.aload_n 0, 1) := by decide +kernel
theorem dX8_same_43 : decode cX8_same 43 = .ok (.getfield 53, 3) := by decide +kernel
theorem dX8_same_46 : decode cX8_same 46 = .ok (.invokevirtual 196, 3) := by decide +kernel
theorem dX8_same_49 : decode cX8_same 49 = .ok (.aload_n 0, 1) := by decide +kernel
theorem dX8_same_50 : decode cX8_same 50 = .ok (.getfield 53, 3) := by decide +kernel
theorem dX8_same_53 : decode cX8_same 53 = .ok (.invokevirtual 199, 3) := by decide +kernel
theorem dX8_same_56 : decode cX8_same 56 = .ok (.aload_n 0, 1) := by decide +kernel
theorem dX8_same_57 : decode cX8_same 57 = .ok (.getfield 53, 3) := by decide +kernel
theorem dX8_same_60 : decode cX8_same 60 = .ok (.invokevirtual 190, 3) := by decide +kernel
theorem dX8_same_63 : decode cX8_same 63 = .ok (.invokestatic 207, 3) := by decide +kernel
theorem dX8_same_66 : decode cX8_same 66 = .ok (.istore_n 3, 1) := by decide +kernel
theorem dX8_same_67 : decode cX8_same 67 = .ok (.iload_n 2, 1) := by decide +kernel
theorem dX8_same_68 : decode cX8_same 68 = .ok (.iload_n 3, 1) := by decide +kernel
theorem dX8_same_69 : decode cX8_same 69 = .ok (.if_icmp .ne 7, 3) := by decide +kernel
theorem dX8_same_72 : decode cX8_same 72 = .ok (.iconst 1, 1) := by decide +kernel
theorem dX8_same_73 : decode cX8_same 73 = .ok (.goto 4, 3) := by decide +kernel
theorem dX8_same_76 : decode cX8_same 76 = .ok (.iconst 0, 1) := by decide +kernel
theorem dX8_same_77 : decode cX8_same 77 = .ok (.ireturn, 1) := by decide +kernel
theorem dX8_even_0 : decode cX8_even 0 = .ok (.aload_n 0, 1) := by decide +kernel
theorem dX8_even_1 : decode cX8_even 1 = .ok (.getfield 53, 3) := by decide +kernel
theorem dX8_even_4 : decode cX8_even 4 = .ok (.invokevirtual 193, 3) := by decide +kernel
theorem dX8_even_7 : decode cX8_even 7 = .ok (.ifCond .ne 10, 3) := by decide +kernel
theorem dX8_even_10 : decode cX8_even 10 = .ok (.aload_n 0, 1) := by decide +kernel
theorem dX8_even_11 : decode cX8_even 11 = .ok (.bipush (-3), 2) := by decide +kernel
theorem dX8_even_13 : decode cX8_even 13 = .ok (.invokevirtual 69, 3) := by decide +kernel
theorem dX8_even_16 : decode cX8_even 16 = .ok (.ireturn, 1) := by decide +kernel
theorem dX8_even_17 : decode cX8_even 17 = .ok (.iconst 0, 1) := by decide +kernel
theorem dX8_even_18 : decode cX8_even 18 = .ok (.istore_n 1, 1) := by decide +kernel
theorem dX8_even_19 : decode cX8_even 19 = .ok (.iconst 0, 1) := by decide +kernel
theorem dX8_even_20 : decode cX8_even 20 = .ok (.istore_n 2, 1) := by decide +kernel
theorem dX8_even_21 : decode cX8_even 21 = .ok (.iload_n 2, 1) := by decide +kernel
theorem dX8_even_22 : decode cX8_even 22 = .ok (.bipush 9, 2) := by decide +kernel
theorem dX8_even_24 : decode cX8_even 24 = .ok (.if_icmp .ge 46, 3) := by decide +kernel
theorem dX8_even_27 : decode cX8_even 27 = .ok (.aload_n 0, 1) := by decide +kernel
theorem dX8_even_28 : decode cX8_even 28 = .ok (.getfield 53, 3) := by decide +kernel
theorem dX8_even_31 : decode cX8_even 31 = .ok (.iload_n 2, 1) := by decide +kernel
theorem dX8_even_32 : decode cX8_even 32 = .ok (.invokevirtual 210, 3) := by decide +kernel
theorem dX8_even_35 : decode cX8_even 35 = .ok (.ifCond .eq 29, 3) := by decide +kernel
theorem dX8_even_38 : decode cX8_even 38 = .ok (.aload_n 0, 1) := by decide +kernel
theorem dX8_even_39 : decode cX8_even 39 = .ok (.aload_n 0, 1) := by decide +kernel
theorem dX8_even_40 : decode cX8_even 40 = .ok (.getfield 53, 3) := by decide +kernel
theorem dX8_even_43 : decode cX8_even 43 = .ok (.iload_n 2, 1) := by decide +kernel
theorem dX8_even_44 : decode cX8_even 44 = .ok (.invokevirtual 213, 3) := by decide +kernel
theorem dX8_even_47 : decode cX8_even 47 = .ok (.aload_n 0, 1) := by decide +kernel
theorem dX8_even_48 : decode cX8_even 48 = .ok (.getfield 53, 3) := by decide +kernel
theorem dX8_even_51 : decode cX8_even 51 = .ok (.iload_n 2, 1) := by decide +kernel
theorem dX8_even_52 : decode cX8_even 52 = .ok (.invokevirtual 216, 3) := by decide +kernel
theorem dX8_even_55 : decode cX8_even 55 = .ok (.invokevirtual 219, 3) := by decide +kernel
theorem dX8_even_58 : decode cX8_even 58 = .ok (.ifCond .eq 6, 3) := by decide +kernel
theorem dX8_even_61 : decode cX8_even 61 = .ok (.iinc 1 1, 3) := by decide +kernel
theorem dX8_even_64 : decode cX8_even 64 = .ok (.iinc 2 1, 3) := by decide +kernel
theorem dX8_even_67 : decode cX8_even 67 = .ok (.goto (-46), 3) := by decide +kernel
theorem dX8_even_70 : decode cX8_even 70 = .ok (.iload_n 1, 1) := by decide +kernel
theorem dX8_even_71 : decode cX8_even 71 = .ok (.ireturn, 1) := by decide +kernel
theorem dX8_mornings_0 : decode cX8_mornings 0 = .ok (.aload_n 0, 1) := by decide +kernel
theorem dX8_mornings_1 : decode cX8_mornings 1 = .ok (.getfield 53, 3) := by decide +kernel
theorem dX8_mornings_4 : decode cX8_mornings 4 = .ok (.invokevirtual 193, 3) := by decide +kernel
theorem dX8_mornings_7 : decode cX8_mornings 7 = .ok (.ifCond .ne 10, 3) := by decide +kernel
theorem dX8_mornings_10 : decode cX8_mornings 10 = .ok (.aload_n 0, 1) := by decide +kernel
theorem dX8_mornings_11 : decode cX8_mornings 11 = .ok (.bipush (-3), 2) := by decide +kernel
theorem dX8_mornings_13 : decode cX8_mornings 13 = .ok (.invokevirtual 69, 3) := by decide +kernel
theorem dX8_mornings_16 : decode cX8_mornings 16 = .ok (.ireturn, 1) := by decide +kernel
theorem dX8_mornings_17 : decode cX8_mornings 17 = .ok (.iload_n 1, 1) := by decide +kernel
theorem dX8_mornings_18 : decode cX8_mornings 18 = .ok (.iconst 1, 1) := by decide +kernel
theorem dX8_mornings_19 : decode cX8_mornings 19 = .ok (.if_icmp .ge 10, 3) := by decide +kernel
theorem dX8_mornings_22 : decode cX8_mornings 22 = .ok (.aload_n 0, 1) := by decide +kernel
theorem dX8_mornings_23 : decode cX8_mornings 23 = .ok (.bipush (-4), 2) := by decide +kernel
theorem dX8_mornings_25 : decode cX8_mornings 25 = .ok (.invokevirtual 69, 3) := by decide +kernel
theorem dX8_mornings_28 : decode cX8_mornings 28 = .ok (.ireturn, 1) := by decide +kernel
theorem dX8_mornings_29 : decode cX8_mornings 29 = .ok (.iload_n 1, 1) := by decide +kernel
theorem dX8_mornings_30 : decode cX8_mornings 30 = .ok (.sipush 1000, 3) := by decide +kernel
theorem dX8_mornings_33 : decode cX8_mornings 33 = .ok (.if_icmp .le 10, 3) := by decide +kernel
theorem dX8_mornings_36 : decode cX8_mornings 36 = .ok (.aload_n 0, 1) := by decide +kernel
theorem dX8_mornings_37 : decode cX8_mornings 37 = .ok (.bipush (-6), 2) := by decide +kernel
theorem dX8_mornings_39 : decode cX8_mornings 39 = .ok (.invokevirtual 69, 3) := by decide +kernel
theorem dX8_mornings_42 : decode cX8_mornings 42 = .ok (.ireturn, 1) := by decide +kernel
theorem dX8_mornings_43 : decode cX8_mornings 43 = .ok (.iconst 0, 1) := by decide +kernel
theorem dX8_mornings_44 : decode cX8_mornings 44 = .ok (.istore_n 2, 1) := by decide +kernel
theorem dX8_mornings_45 : decode cX8_mornings 45 = .ok (.iload_n 2, 1) := by decide +kernel
theorem dX8_mornings_46 : decode cX8_mornings 46 = .ok (.bipush 9, 2) := by decide +kernel
theorem dX8_mornings_48 : decode cX8_mornings 48 = .ok (.if_icmp .ge 35, 3) := by decide +kernel
theorem dX8_mornings_51 : decode cX8_mornings 51 = .ok (.aload_n 0, 1) := by decide +kernel
theorem dX8_mornings_52 : decode cX8_mornings 52 = .ok (.getfield 19, 3) := by decide +kernel
theorem dX8_mornings_55 : decode cX8_mornings 55 = .ok (.iload_n 2, 1) := by decide +kernel
theorem dX8_mornings_56 : decode cX8_mornings 56 = .ok (.invokevirtual 93, 3) := by decide +kernel
theorem dX8_mornings_59 : decode cX8_mornings 59 = .ok (.dup, 1) := by decide +kernel
theorem dX8_mornings_60 : decode cX8_mornings 60 = .ok (.getfield 222, 3) := by decide +kernel
theorem dX8_mornings_63 : decode cX8_mornings 63 = .ok (.iload_n 1, 1) := by decide +kernel
theorem dX8_mornings_64 : decode cX8_mornings 64 = .ok (.aload_n 0, 1) := by decide +kernel
theorem dX8_mornings_65 : decode cX8_mornings 65 = .ok (.getfield 53, 3) := by decide +kernel
theorem dX8_mornings_68 : decode cX8_mornings 68 = .ok (.iload_n 2, 1) := by decide +kernel
theorem dX8_mornings_69 : decode cX8_mornings 69 = .ok (.invokevirtual 225, 3) := by decide +kernel
theorem dX8_mornings_72 : decode cX8_mornings 72 = .ok (.imul, 1) := by decide +kernel
theorem dX8_mornings_73 : decode cX8_mornings 73 = .ok (.iadd, 1) := by decide +kernel
theorem dX8_mornings_74 : decode cX8_mornings 74 = .ok (.putfield 222, 3) := by decide +kernel
theorem dX8_mornings_77 : decode cX8_mornings 77 = .ok (.iinc 2 1, 3) := by decide +kernel
theorem dX8_mornings_80 : decode cX8_mornings 80 = .ok (.goto (-35), 3) := by decide +kernel
theorem dX8_mornings_83 : decode cX8_mornings 83 = .ok (.aload_n 0, 1) := by decide +kernel
theorem dX8_mornings_84 : decode cX8_mornings 84 = .ok (.dup, 1) := by decide +kernel
theorem dX8_mornings_85 : decode cX8_mornings 85 = .ok (.getfield 61, 3) := by decide +kernel
theorem dX8_mornings_88 : decode cX8_mornings 88 = .ok (.iload_n 1, 1) := by decide +kernel
theorem dX8_mornings_89 : decode cX8_mornings 89 = .ok (.iadd, 1) := by decide +kernel
theorem dX8_mornings_90 : decode cX8_mornings 90 = .ok (.putfield 61, 3) := by decide +kernel
theorem dX8_mornings_93 : decode cX8_mornings 93 = .ok (.iload_n 1, 1) := by decide +kernel
theorem dX8_mornings_94 : decode cX8_mornings 94 = .ok (.ireturn, 1) := by decide +kernel
theorem dX8_fail_0 : decode cX8_fail 0 = .ok (.aload_n 0, 1) := by decide +kernel
theorem dX8_fail_1 : decode cX8_fail 1 = .ok (.getfield 53, 3) := by decide +kernel
theorem dX8_fail_4 : decode cX8_fail 4 = .ok (.invokevirtual 193, 3) := by decide +kernel
theorem dX8_fail_7 : decode cX8_fail 7 = .ok (.ifCond .ne 10, 3) := by decide +kernel
theorem dX8_fail_10 : decode cX8_fail 10 = .ok (.aload_n 0, 1) := by decide +kernel
theorem dX8_fail_11 : decode cX8_fail 11 = .ok (.bipush (-3), 2) := by decide +kernel
theorem dX8_fail_13 : decode cX8_fail 13 = .ok (.invokevirtual 69, 3) := by decide +kernel
theorem dX8_fail_16 : decode cX8_fail 16 = .ok (.ireturn, 1) := by decide +kernel
theorem dX8_fail_17 : decode cX8_fail 17 = .ok (.aload_n 0, 1) := by decide +kernel
theorem dX8_fail_18 : decode cX8_fail 18 = .ok (.getfield 19, 3) := by decide +kernel
theorem dX8_fail_21 : decode cX8_fail 21 = .ok (.iload_n 1, 1) := by decide +kernel
theorem dX8_fail_22 : decode cX8_fail 22 = .ok (.invokevirtual 120, 3) := by decide +kernel
theorem dX8_fail_25 : decode cX8_fail 25 = .ok (.ifCond .ne 9, 3) := by decide +kernel
theorem dX8_fail_28 : decode cX8_fail 28 = .ok (.aload_n 0, 1) := by decide +kernel
theorem dX8_fail_29 : decode cX8_fail 29 = .ok (.iconst (-1), 1) := by decide +kernel
theorem dX8_fail_30 : decode cX8_fail 30 = .ok (.invokevirtual 69, 3) := by decide +kernel
theorem dX8_fail_33 : decode cX8_fail 33 = .ok (.ireturn, 1) := by decide +kernel
theorem dX8_fail_34 : decode cX8_fail 34 = .ok (.aload_n 0, 1) := by decide +kernel
theorem dX8_fail_35 : decode cX8_fail 35 = .ok (.iload_n 1, 1) := by decide +kernel
theorem dX8_fail_36 : decode cX8_fail 36 = .ok (.iconst 1, 1) := by decide +kernel
theorem dX8_fail_37 : decode cX8_fail 37 = .ok (.invokevirtual 134, 3) := by decide +kernel
theorem dX8_fail_40 : decode cX8_fail 40 = .ok (.pop, 1) := by decide +kernel
theorem dX8_fail_41 : decode cX8_fail 41 = .ok (.aload_n 0, 1) := by decide +kernel
theorem dX8_fail_42 : decode cX8_fail 42 = .ok (.getfield 53, 3) := by decide +kernel
theorem dX8_fail_45 : decode cX8_fail 45 = .ok (.iload_n 1, 1) := by decide +kernel
theorem dX8_fail_46 : decode cX8_fail 46 = .ok (.invokevirtual 228, 3) := by decide +kernel
theorem dX8_fail_49 : decode cX8_fail 49 = .ok (.ifCond .ne 5, 3) := by decide +kernel
theorem dX8_fail_52 : decode cX8_fail 52 = .ok (.iconst 0, 1) := by decide +kernel
theorem dX8_fail_53 : decode cX8_fail 53 = .ok (.ireturn, 1) := by decide +kernel
theorem dX8_fail_54 : decode cX8_fail 54 = .ok (.aload_n 0, 1) := by decide +kernel
theorem dX8_fail_55 : decode cX8_fail 55 = .ok (.getfield 53, 3) := by decide +kernel
theorem dX8_fail_58 : decode cX8_fail 58 = .ok (.iload_n 1, 1) := by decide +kernel
theorem dX8_fail_59 : decode cX8_fail 59 = .ok (.invokevirtual 213, 3) := by decide +kernel
theorem dX8_fail_62 : decode cX8_fail 62 = .ok (.istore_n 2, 1) := by decide +kernel
theorem dX8_fail_63 : decode cX8_fail 63 = .ok (.aload_n 0, 1) := by decide +kernel
theorem dX8_fail_64 : decode cX8_fail 64 = .ok (.getfield 53, 3) := by decide +kernel
theorem dX8_fail_67 : decode cX8_fail 67 = .ok (.iload_n 2, 1) := by decide +kernel
theorem dX8_fail_68 : decode cX8_fail 68 = .ok (.invokevirtual 231, 3) := by decide +kernel
theorem dX8_fail_71 : decode cX8_fail 71 = .ok (.iconst 0, 1) := by decide +kernel
theorem dX8_fail_72 : decode cX8_fail 72 = .ok (.istore_n 3, 1) := by decide +kernel
theorem dX8_fail_73 : decode cX8_fail 73 = .ok (.iconst 0, 1) := by decide +kernel
theorem dX8_fail_74 : decode cX8_fail 74 = .ok (.istore 4, 2) := by decide +kernel
theorem dX8_fail_76 : decode cX8_fail 76 = .ok (.iload 4, 2) := by decide +kernel
theorem dX8_fail_78 : decode cX8_fail 78 = .ok (.bipush 9, 2) := by decide +kernel
theorem dX8_fail_80 : decode cX8_fail 80 = .ok (.if_icmp .ge 39, 3) := by decide +kernel
theorem dX8_fail_83 : decode cX8_fail 83 = .ok (.iload_n 2, 1) := by decide +kernel
theorem dX8_fail_84 : decode cX8_fail 84 = .ok (.iload 4, 2) := by decide +kernel
theorem dX8_fail_86 : decode cX8_fail 86 = .ok (.invokestatic 126, 3) := by decide +kernel
theorem dX8_fail_89 : decode cX8_fail 89 = .ok (.ifCond .eq 24, 3) := by decide +kernel
theorem dX8_fail_92 : decode cX8_fail 92 = .ok (.aload_n 0, 1) := by decide +kernel
theorem dX8_fail_93 : decode cX8_fail 93 = .ok (.iload 4, 2) := by decide +kernel
theorem dX8_fail_95 : decode cX8_fail 95 = .ok (.invokevirtual 234, 3) := by decide +kernel
theorem dX8_fail_98 : decode cX8_fail 98 = .ok (.ifCond .ne 15, 3) := by decide +kernel
theorem dX8_fail_101 : decode cX8_fail 101 = .ok (.aload_n 0, 1) := by decide +kernel
theorem dX8_fail_102 : decode cX8_fail 102 = .ok (.getfield 53, 3) := by decide +kernel
theorem dX8_fail_105 : decode cX8_fail 105 = .ok (.iload 4, 2) := by decide +kernel
theorem dX8_fail_107 : decode cX8_fail 107 = .ok (.invokevirtual 237, 3) := by decide +kernel
theorem dX8_fail_110 : decode cX8_fail 110 = .ok (.iinc 3 1, 3) := by decide +kernel
theorem dX8_fail_113 : decode cX8_fail 113 = .ok (.iinc 4 1, 3) := by decide +kernel
theorem dX8_fail_116 : decode cX8_fail 116 = .ok (.goto (-40), 3) := by decide +kernel
theorem dX8_fail_119 : decode cX8_fail 119 = .ok (.iload_n 3, 1) := by decide +kernel
theorem dX8_fail_120 : decode cX8_fail 120 = .ok (.ireturn, 1) := by decide +kernel
theorem dX8_few_0 : decode cX8_few 0 = .ok (.aload_n 0, 1) := by decide +kernel
theorem dX8_few_1 : decode cX8_few 1 = .ok (.getfield 19, 3) := by decide +kernel
theorem dX8_few_4 : decode cX8_few 4 = .ok (.invokevirtual 171, 3) := by decide +kernel
theorem dX8_few_7 : decode cX8_few 7 = .ok (.istore_n 1, 1) := by decide +kernel
theorem dX8_few_8 : decode cX8_few 8 = .ok (.aload_n 0, 1) := by decide +kernel
theorem dX8_few_9 : decode cX8_few 9 = .ok (.getfield 37, 3) := by decide +kernel
theorem dX8_few_12 : decode cX8_few 12 = .ok (.iload_n 1, 1) := by decide +kernel
theorem dX8_few_13 : decode cX8_few 13 = .ok (.invokevirtual 174, 3) := by decide +kernel
theorem dX8_few_16 : decode cX8_few 16 = .ok (.aload_n 0, 1) := by decide +kernel
theorem dX8_few_17 : decode cX8_few 17 = .ok (.getfield 46, 3) := by decide +kernel
theorem dX8_few_20 : decode cX8_few 20 = .ok (.iload_n 1, 1) := by decide +kernel
theorem dX8_few_21 : decode cX8_few 21 = .ok (.invokevirtual 240, 3) := by decide +kernel
theorem dX8_few_24 : decode cX8_few 24 = .ok (.ireturn, 1) := by decide +kernel
theorem dX8_personOf_0 : decode cX8_personOf 0 = .ok (.aload_n 0, 1) := by decide +kernel
theorem dX8_personOf_1 : decode cX8_personOf 1 = .ok (.getfield 19, 3) := by decide +kernel
theorem dX8_personOf_4 : decode cX8_personOf 4 = .ok (.iload_n 1, 1) := by decide +kernel
theorem dX8_personOf_5 : decode cX8_personOf 5 = .ok (.invokevirtual 120, 3) := by decide +kernel
theorem dX8_personOf_8 : decode cX8_personOf 8 = .ok (.ifCond .ne 9, 3) := by decide +kernel
theorem dX8_personOf_11 : decode cX8_personOf 11 = .ok (.aload_n 0, 1) := by decide +kernel
theorem dX8_personOf_12 : decode cX8_personOf 12 = .ok (.iconst (-1), 1) := by decide +kernel
theorem dX8_personOf_13 : decode cX8_personOf 13 = .ok (.invokevirtual 69, 3) := by decide +kernel
theorem dX8_personOf_16 : decode cX8_personOf 16 = .ok (.ireturn, 1) := by decide +kernel
theorem dX8_personOf_17 : decode cX8_personOf 17 = .ok (.aload_n 0, 1) := by decide +kernel
theorem dX8_personOf_18 : decode cX8_personOf 18 = .ok (.getfield 19, 3) := by decide +kernel
theorem dX8_personOf_21 : decode cX8_personOf 21 = .ok (.iload_n 1, 1) := by decide +kernel
theorem dX8_personOf_22 : decode cX8_personOf 22 = .ok (.invokevirtual 93, 3) := by decide +kernel
theorem dX8_personOf_25 : decode cX8_personOf 25 = .ok (.astore_n 3, 1) := by decide +kernel
theorem dX8_personOf_26 : decode cX8_personOf 26 = .ok (.iload_n 2, 1) := by decide +kernel
theorem dX8_personOf_27 : decode cX8_personOf 27 = .ok (.tableswitch 151 0 11 #[61, 66, 71, 76, 81, 86, 91, 96, 109, 122, 127, 143], 61) := by decide +kernel
theorem dX8_personOf_88 : decode cX8_personOf 88 = .ok (.aload_n 3, 1) := by decide +kernel
theorem dX8_personOf_89 : decode cX8_personOf 89 = .ok (.getfield 97, 3) := by decide +kernel
theorem dX8_personOf_92 : decode cX8_personOf 92 = .ok (.ireturn, 1) := by decide +kernel
theorem dX8_personOf_93 : decode cX8_personOf 93 = .ok (.aload_n 3, 1) := by decide +kernel
theorem dX8_personOf_94 : decode cX8_personOf 94 = .ok (.getfield 102, 3) := by decide +kernel
theorem dX8_personOf_97 : decode cX8_personOf 97 = .ok (.ireturn, 1) := by decide +kernel
theorem dX8_personOf_98 : decode cX8_personOf 98 = .ok (.aload_n 3, 1) := by decide +kernel
theorem dX8_personOf_99 : decode cX8_personOf 99 = .ok (.getfield 105, 3) := by decide +kernel
theorem dX8_personOf_102 : decode cX8_personOf 102 = .ok (.ireturn, 1) := by decide +kernel
theorem dX8_personOf_103 : decode cX8_personOf 103 = .ok (.aload_n 3, 1) := by decide +kernel
theorem dX8_personOf_104 : decode cX8_personOf 104 = .ok (.getfield 108, 3) := by decide +kernel
theorem dX8_personOf_107 : decode cX8_personOf 107 = .ok (.ireturn, 1) := by decide +kernel
theorem dX8_personOf_108 : decode cX8_personOf 108 = .ok (.aload_n 3, 1) := by decide +kernel
theorem dX8_personOf_109 : decode cX8_personOf 109 = .ok (.getfield 111, 3) := by decide +kernel
theorem dX8_personOf_112 : decode cX8_personOf 112 = .ok (.ireturn, 1) := by decide +kernel
theorem dX8_personOf_113 : decode cX8_personOf 113 = .ok (.aload_n 3, 1) := by decide +kernel
theorem dX8_personOf_114 : decode cX8_personOf 114 = .ok (.getfield 114, 3) := by decide +kernel
theorem dX8_personOf_117 : decode cX8_personOf 117 = .ok (.ireturn, 1) := by decide +kernel
theorem dX8_personOf_118 : decode cX8_personOf 118 = .ok (.aload_n 3, 1) := by decide +kernel
theorem dX8_personOf_119 : decode cX8_personOf 119 = .ok (.getfield 117, 3) := by decide +kernel
theorem dX8_personOf_122 : decode cX8_personOf 122 = .ok (.ireturn, 1) := by decide +kernel
theorem dX8_personOf_123 : decode cX8_personOf 123 = .ok (.aload_n 3, 1) := by decide +kernel
theorem dX8_personOf_124 : decode cX8_personOf 124 = .ok (.getfield 130, 3) := by decide +kernel
theorem dX8_personOf_127 : decode cX8_personOf 127 = .ok (.ifCond .eq 7, 3) := by decide +kernel
theorem dX8_personOf_130 : decode cX8_personOf 130 = .ok (.iconst 1, 1) := by decide +kernel
theorem dX8_personOf_131 : decode cX8_personOf 131 = .ok (.goto 4, 3) := by decide +kernel
theorem dX8_personOf_134 : decode cX8_personOf 134 = .ok (.iconst 0, 1) := by decide +kernel
theorem dX8_personOf_135 : decode cX8_personOf 135 = .ok (.ireturn, 1) := by decide +kernel
theorem dX8_personOf_136 : decode cX8_personOf 136 = .ok (.aload_n 3, 1) := by decide +kernel
theorem dX8_personOf_137 : decode cX8_personOf 137 = .ok (.getfield 243, 3) := by decide +kernel
theorem dX8_personOf_140 : decode cX8_personOf 140 = .ok (.ifCond .eq 7, 3) := by decide +kernel
theorem dX8_personOf_143 : decode cX8_personOf 143 = .ok (.iconst 1, 1) := by decide +kernel
theorem dX8_personOf_144 : decode cX8_personOf 144 = .ok (.goto 4, 3) := by decide +kernel
theorem dX8_personOf_147 : decode cX8_personOf 147 = .ok (.iconst 0, 1) := by decide +kernel
theorem dX8_personOf_148 : decode cX8_personOf 148 = .ok (.ireturn, 1) := by decide +kernel
theorem dX8_personOf_149 : decode cX8_personOf 149 = .ok (.aload_n 3, 1) := by decide +kernel
theorem dX8_personOf_150 : decode cX8_personOf 150 = .ok (.getfield 123, 3) := by decide +kernel
theorem dX8_personOf_153 : decode cX8_personOf 153 = .ok (.ireturn, 1) := by decide +kernel
theorem dX8_personOf_154 : decode cX8_personOf 154 = .ok (.aload_n 0, 1) := by decide +kernel
theorem dX8_personOf_155 : decode cX8_personOf 155 = .ok (.getfield 12, 3) := by decide +kernel
theorem dX8_personOf_158 : decode cX8_personOf 158 = .ok (.aload_n 3, 1) := by decide +kernel
theorem dX8_personOf_159 : decode cX8_personOf 159 = .ok (.getfield 102, 3) := by decide +kernel
theorem dX8_personOf_162 : decode cX8_personOf 162 = .ok (.aload_n 3, 1) := by decide +kernel
theorem dX8_personOf_163 : decode cX8_personOf 163 = .ok (.getfield 105, 3) := by decide +kernel
theorem dX8_personOf_166 : decode cX8_personOf 166 = .ok (.invokevirtual 81, 3) := by decide +kernel
theorem dX8_personOf_169 : decode cX8_personOf 169 = .ok (.ireturn, 1) := by decide +kernel
theorem dX8_personOf_170 : decode cX8_personOf 170 = .ok (.ldc 246, 2) := by decide +kernel
theorem dX8_personOf_172 : decode cX8_personOf 172 = .ok (.aload_n 3, 1) := by decide +kernel
theorem dX8_personOf_173 : decode cX8_personOf 173 = .ok (.getfield 222, 3) := by decide +kernel
theorem dX8_personOf_176 : decode cX8_personOf 176 = .ok (.iadd, 1) := by decide +kernel
theorem dX8_personOf_177 : decode cX8_personOf 177 = .ok (.ireturn, 1) := by decide +kernel
theorem dX8_personOf_178 : decode cX8_personOf 178 = .ok (.aload_n 0, 1) := by decide +kernel
theorem dX8_personOf_179 : decode cX8_personOf 179 = .ok (.bipush (-2), 2) := by decide +kernel
theorem dX8_personOf_181 : decode cX8_personOf 181 = .ok (.invokevirtual 69, 3) := by decide +kernel
theorem dX8_personOf_184 : decode cX8_personOf 184 = .ok (.ireturn, 1) := by decide +kernel
theorem dX8_count_0 : decode cX8_count 0 = .ok (.iload_n 1, 1) := by decide +kernel
theorem dX8_count_1 : decode cX8_count 1 = .ok (.tableswitch 83 0 4 #[35, 43, 54, 62, 78], 35) := by decide +kernel
theorem dX8_count_36 : decode cX8_count 36 = .ok (.aload_n 0, 1) := by decide +kernel
theorem dX8_count_37 : decode cX8_count 37 = .ok (.getfield 19, 3) := by decide +kernel
theorem dX8_count_40 : decode cX8_count 40 = .ok (.invokevirtual 247, 3) := by decide +kernel
theorem dX8_count_43 : decode cX8_count 43 = .ok (.ireturn, 1) := by decide +kernel
theorem dX8_count_44 : decode cX8_count 44 = .ok (.aload_n 0, 1) := by decide +kernel
theorem dX8_count_45 : decode cX8_count 45 = .ok (.getfield 19, 3) := by decide +kernel
theorem dX8_count_48 : decode cX8_count 48 = .ok (.invokevirtual 171, 3) := by decide +kernel
theorem dX8_count_51 : decode cX8_count 51 = .ok (.invokestatic 250, 3) := by decide +kernel
theorem dX8_count_54 : decode cX8_count 54 = .ok (.ireturn, 1) := by decide +kernel
theorem dX8_count_55 : decode cX8_count 55 = .ok (.aload_n 0, 1) := by decide +kernel
theorem dX8_count_56 : decode cX8_count 56 = .ok (.getfield 19, 3) := by decide +kernel
theorem dX8_count_59 : decode cX8_count 59 = .ok (.invokevirtual 255, 3) := by decide +kernel
theorem dX8_count_62 : decode cX8_count 62 = .ok (.ireturn, 1) := by decide +kernel
theorem dX8_count_63 : decode cX8_count 63 = .ok (.aload_n 0, 1) := by decide +kernel
theorem dX8_count_64 : decode cX8_count 64 = .ok (.getfield 53, 3) := by decide +kernel
theorem dX8_count_67 : decode cX8_count 67 = .ok (.invokevirtual 193, 3) := by decide +kernel
theorem dX8_count_70 : decode cX8_count 70 = .ok (.ifCond .eq 7, 3) := by decide +kernel
theorem dX8_count_73 : decode cX8_count 73 = .ok (.iconst 1, 1) := by decide +kernel
theorem dX8_count_74 : decode cX8_count 74 = .ok (.goto 4, 3) := by decide +kernel
theorem dX8_count_77 : decode cX8_count 77 = .ok (.iconst 0, 1) := by decide +kernel
theorem dX8_count_78 : decode cX8_count 78 = .ok (.ireturn, 1) := by decide +kernel
theorem dX8_count_79 : decode cX8_count 79 = .ok (.aload_n 0, 1) := by decide +kernel
theorem dX8_count_80 : decode cX8_count 80 = .ok (.getfield 61, 3) := by decide +kernel
theorem dX8_count_83 : decode cX8_count 83 = .ok (.ireturn, 1) := by decide +kernel
theorem dX8_count_84 : decode cX8_count 84 = .ok (.iload_n 1, 1) := by decide +kernel
theorem dX8_count_85 : decode cX8_count 85 = .ok (.bipush 10, 2) := by decide +kernel
theorem dX8_count_87 : decode cX8_count 87 = .ok (.if_icmp .le 21, 3) := by decide +kernel
theorem dX8_count_90 : decode cX8_count 90 = .ok (.iload_n 1, 1) := by decide +kernel
theorem dX8_count_91 : decode cX8_count 91 = .ok (.bipush 16, 2) := by decide +kernel
theorem dX8_count_93 : decode cX8_count 93 = .ok (.if_icmp .gt 15, 3) := by decide +kernel
theorem dX8_count_96 : decode cX8_count 96 = .ok (.aload_n 0, 1) := by decide +kernel
theorem dX8_count_97 : decode cX8_count 97 = .ok (.getfield 57, 3) := by decide +kernel
theorem dX8_count_100 : decode cX8_count 100 = .ok (.iload_n 1, 1) := by decide +kernel
theorem dX8_count_101 : decode cX8_count 101 = .ok (.bipush 10, 2) := by decide +kernel
theorem dX8_count_103 : decode cX8_count 103 = .ok (.isub, 1) := by decide +kernel
theorem dX8_count_104 : decode cX8_count 104 = .ok (.iaload, 1) := by decide +kernel
theorem dX8_count_105 : decode cX8_count 105 = .ok (.goto 5, 3) := by decide +kernel
theorem dX8_count_108 : decode cX8_count 108 = .ok (.bipush (-9), 2) := by decide +kernel
theorem dX8_count_110 : decode cX8_count 110 = .ok (.ireturn, 1) := by decide +kernel
theorem dX8_refuse_0 : decode cX8_refuse 0 = .ok (.aload_n 0, 1) := by decide +kernel
theorem dX8_refuse_1 : decode cX8_refuse 1 = .ok (.getfield 57, 3) := by decide +kernel
theorem dX8_refuse_4 : decode cX8_refuse 4 = .ok (.iload_n 1, 1) := by decide +kernel
theorem dX8_refuse_5 : decode cX8_refuse 5 = .ok (.ineg, 1) := by decide +kernel
theorem dX8_refuse_6 : decode cX8_refuse 6 = .ok (.dup2, 1) := by decide +kernel
theorem dX8_refuse_7 : decode cX8_refuse 7 = .ok (.iaload, 1) := by decide +kernel
theorem dX8_refuse_8 : decode cX8_refuse 8 = .ok (.iconst 1, 1) := by decide +kernel
theorem dX8_refuse_9 : decode cX8_refuse 9 = .ok (.iadd, 1) := by decide +kernel
theorem dX8_refuse_10 : decode cX8_refuse 10 = .ok (.iastore, 1) := by decide +kernel
theorem dX8_refuse_11 : decode cX8_refuse 11 = .ok (.iload_n 1, 1) := by decide +kernel
theorem dX8_refuse_12 : decode cX8_refuse 12 = .ok (.ireturn, 1) := by decide +kernel
theorem dX8_isStop_0 : decode cX8_isStop 0 = .ok (.iload_n 0, 1) := by decide +kernel
theorem dX8_isStop_1 : decode cX8_isStop 1 = .ok (.ifCond .lt 13, 3) := by decide +kernel
theorem dX8_isStop_4 : decode cX8_isStop 4 = .ok (.iload_n 0, 1) := by decide +kernel
theorem dX8_isStop_5 : decode cX8_isStop 5 = .ok (.bipush 10, 2) := by decide +kernel
theorem dX8_isStop_7 : decode cX8_isStop 7 = .ok (.if_icmp .ge 7, 3) := by decide +kernel
theorem dX8_isStop_10 : decode cX8_isStop 10 = .ok (.iconst 1, 1) := by decide +kernel
theorem dX8_isStop_11 : decode cX8_isStop 11 = .ok (.goto 4, 3) := by decide +kernel
theorem dX8_isStop_14 : decode cX8_isStop 14 = .ok (.iconst 0, 1) := by decide +kernel
theorem dX8_isStop_15 : decode cX8_isStop 15 = .ok (.ireturn, 1) := by decide +kernel
theorem dX8_contains_0 : decode cX8_contains 0 = .ok (.iload_n 0, 1) := by decide +kernel
theorem dX8_contains_1 : decode cX8_contains 1 = .ok (.iload_n 1, 1) := by decide +kernel
theorem dX8_contains_2 : decode cX8_contains 2 = .ok (.ishr, 1) := by decide +kernel
theorem dX8_contains_3 : decode cX8_contains 3 = .ok (.iconst 1, 1) := by decide +kernel
theorem dX8_contains_4 : decode cX8_contains 4 = .ok (.iand, 1) := by decide +kernel
theorem dX8_contains_5 : decode cX8_contains 5 = .ok (.ifCond .eq 7, 3) := by decide +kernel
theorem dX8_contains_8 : decode cX8_contains 8 = .ok (.iconst 1, 1) := by decide +kernel
theorem dX8_contains_9 : decode cX8_contains 9 = .ok (.goto 4, 3) := by decide +kernel
theorem dX8_contains_12 : decode cX8_contains 12 = .ok (.iconst 0, 1) := by decide +kernel
theorem dX8_contains_13 : decode cX8_contains 13 = .ok (.ireturn, 1) := by decide +kernel
theorem dX8_wrongSet_0 : decode cX8_wrongSet 0 = .ok (.aload_n 0, 1) := by decide +kernel
theorem dX8_wrongSet_1 : decode cX8_wrongSet 1 = .ok (.getfield 19, 3) := by decide +kernel
theorem dX8_wrongSet_4 : decode cX8_wrongSet 4 = .ok (.iload_n 1, 1) := by decide +kernel
theorem dX8_wrongSet_5 : decode cX8_wrongSet 5 = .ok (.invokevirtual 258, 3) := by decide +kernel
theorem dX8_wrongSet_8 : decode cX8_wrongSet 8 = .ok (.ifCond .eq 11, 3) := by decide +kernel
theorem dX8_wrongSet_11 : decode cX8_wrongSet 11 = .ok (.iload_n 1, 1) := by decide +kernel
theorem dX8_wrongSet_12 : decode cX8_wrongSet 12 = .ok (.invokestatic 250, 3) := by decide +kernel
theorem dX8_wrongSet_15 : decode cX8_wrongSet 15 = .ok (.iconst 4, 1) := by decide +kernel
theorem dX8_wrongSet_16 : decode cX8_wrongSet 16 = .ok (.if_icmp .le 5, 3) := by decide +kernel
theorem dX8_wrongSet_19 : decode cX8_wrongSet 19 = .ok (.iconst (-1), 1) := by decide +kernel
theorem dX8_wrongSet_20 : decode cX8_wrongSet 20 = .ok (.ireturn, 1) := by decide +kernel
theorem dX8_wrongSet_21 : decode cX8_wrongSet 21 = .ok (.aload_n 0, 1) := by decide +kernel
theorem dX8_wrongSet_22 : decode cX8_wrongSet 22 = .ok (.getfield 19, 3) := by decide +kernel
theorem dX8_wrongSet_25 : decode cX8_wrongSet 25 = .ok (.iload_n 1, 1) := by decide +kernel
theorem dX8_wrongSet_26 : decode cX8_wrongSet 26 = .ok (.invokevirtual 261, 3) := by decide +kernel
theorem dX8_wrongSet_29 : decode cX8_wrongSet 29 = .ok (.ifCond .eq 8, 3) := by decide +kernel
theorem dX8_wrongSet_32 : decode cX8_wrongSet 32 = .ok (.bipush (-3), 2) := by decide +kernel
theorem dX8_wrongSet_34 : decode cX8_wrongSet 34 = .ok (.goto 4, 3) := by decide +kernel
theorem dX8_wrongSet_37 : decode cX8_wrongSet 37 = .ok (.iconst 0, 1) := by decide +kernel
theorem dX8_wrongSet_38 : decode cX8_wrongSet 38 = .ok (.ireturn, 1) := by decide +kernel
theorem dX8_wrongRide_0 : decode cX8_wrongRide 0 = .ok (.aload_n 0, 1) := by decide +kernel
theorem dX8_wrongRide_1 : decode cX8_wrongRide 1 = .ok (.getfield 19, 3) := by decide +kernel
theorem dX8_wrongRide_4 : decode cX8_wrongRide 4 = .ok (.iload_n 2, 1) := by decide +kernel
theorem dX8_wrongRide_5 : decode cX8_wrongRide 5 = .ok (.invokevirtual 120, 3) := by decide +kernel
theorem dX8_wrongRide_8 : decode cX8_wrongRide 8 = .ok (.ifCond .eq 11, 3) := by decide +kernel
theorem dX8_wrongRide_11 : decode cX8_wrongRide 11 = .ok (.iload_n 1, 1) := by decide +kernel
theorem dX8_wrongRide_12 : decode cX8_wrongRide 12 = .ok (.iload_n 2, 1) := by decide +kernel
theorem dX8_wrongRide_13 : decode cX8_wrongRide 13 = .ok (.invokestatic 126, 3) := by decide +kernel
theorem dX8_wrongRide_16 : decode cX8_wrongRide 16 = .ok (.ifCond .ne 5, 3) := by decide +kernel
theorem dX8_wrongRide_19 : decode cX8_wrongRide 19 = .ok (.iconst (-1), 1) := by decide +kernel
theorem dX8_wrongRide_20 : decode cX8_wrongRide 20 = .ok (.ireturn, 1) := by decide +kernel
theorem dX8_wrongRide_21 : decode cX8_wrongRide 21 = .ok (.aload_n 0, 1) := by decide +kernel
theorem dX8_wrongRide_22 : decode cX8_wrongRide 22 = .ok (.iload_n 1, 1) := by decide +kernel
theorem dX8_wrongRide_23 : decode cX8_wrongRide 23 = .ok (.invokevirtual 156, 3) := by decide +kernel
theorem dX8_wrongRide_26 : decode cX8_wrongRide 26 = .ok (.ireturn, 1) := by decide +kernel
theorem dX8_setBroken_0 : decode cX8_setBroken 0 = .ok (.aload_n 0, 1) := by decide +kernel
theorem dX8_setBroken_1 : decode cX8_setBroken 1 = .ok (.getfield 19, 3) := by decide +kernel
theorem dX8_setBroken_4 : decode cX8_setBroken 4 = .ok (.iload_n 1, 1) := by decide +kernel
theorem dX8_setBroken_5 : decode cX8_setBroken 5 = .ok (.invokevirtual 93, 3) := by decide +kernel
theorem dX8_setBroken_8 : decode cX8_setBroken 8 = .ok (.getfield 243, 3) := by decide +kernel
theorem dX8_setBroken_11 : decode cX8_setBroken 11 = .ok (.iload_n 2, 1) := by decide +kernel
theorem dX8_setBroken_12 : decode cX8_setBroken 12 = .ok (.if_icmp .ne 5, 3) := by decide +kernel
theorem dX8_setBroken_15 : decode cX8_setBroken 15 = .ok (.iconst 0, 1) := by decide +kernel
theorem dX8_setBroken_16 : decode cX8_setBroken 16 = .ok (.ireturn, 1) := by decide +kernel
theorem dX8_setBroken_17 : decode cX8_setBroken 17 = .ok (.aload_n 0, 1) := by decide +kernel
theorem dX8_setBroken_18 : decode cX8_setBroken 18 = .ok (.getfield 19, 3) := by decide +kernel
theorem dX8_setBroken_21 : decode cX8_setBroken 21 = .ok (.iload_n 1, 1) := by decide +kernel
theorem dX8_setBroken_22 : decode cX8_setBroken 22 = .ok (.invokevirtual 93, 3) := by decide +kernel
theorem dX8_setBroken_25 : decode cX8_setBroken 25 = .ok (.iload_n 2, 1) := by decide +kernel
theorem dX8_setBroken_26 : decode cX8_setBroken 26 = .ok (.putfield 243, 3) := by decide +kernel
theorem dX8_setBroken_29 : decode cX8_setBroken 29 = .ok (.aload_n 0, 1) := by decide +kernel
theorem dX8_setBroken_30 : decode cX8_setBroken 30 = .ok (.getfield 37, 3) := by decide +kernel
theorem dX8_setBroken_33 : decode cX8_setBroken 33 = .ok (.iconst 1, 1) := by decide +kernel
theorem dX8_setBroken_34 : decode cX8_setBroken 34 = .ok (.iload_n 1, 1) := by decide +kernel
theorem dX8_setBroken_35 : decode cX8_setBroken 35 = .ok (.ishl, 1) := by decide +kernel
theorem dX8_setBroken_36 : decode cX8_setBroken 36 = .ok (.invokevirtual 77, 3) := by decide +kernel
theorem dX8_setBroken_39 : decode cX8_setBroken 39 = .ok (.iconst 1, 1) := by decide +kernel
theorem dX8_setBroken_40 : decode cX8_setBroken 40 = .ok (.ireturn, 1) := by decide +kernel
theorem dX8_whoseTurn_0 : decode cX8_whoseTurn 0 = .ok (.bipush (-9), 2) := by decide +kernel
theorem dX8_whoseTurn_2 : decode cX8_whoseTurn 2 = .ok (.istore_n 2, 1) := by decide +kernel
theorem dX8_whoseTurn_3 : decode cX8_whoseTurn 3 = .ok (.iconst 0, 1) := by decide +kernel
theorem dX8_whoseTurn_4 : decode cX8_whoseTurn 4 = .ok (.istore_n 3, 1) := by decide +kernel
theorem dX8_whoseTurn_5 : decode cX8_whoseTurn 5 = .ok (.iload_n 3, 1) := by decide +kernel
theorem dX8_whoseTurn_6 : decode cX8_whoseTurn 6 = .ok (.bipush 9, 2) := by decide +kernel
theorem dX8_whoseTurn_8 : decode cX8_whoseTurn 8 = .ok (.if_icmp .ge 74, 3) := by decide +kernel
theorem dX8_whoseTurn_11 : decode cX8_whoseTurn 11 = .ok (.iload_n 2, 1) := by decide +kernel
theorem dX8_whoseTurn_12 : decode cX8_whoseTurn 12 = .ok (.bipush (-9), 2) := by decide +kernel
theorem dX8_whoseTurn_14 : decode cX8_whoseTurn 14 = .ok (.if_icmp .eq 28, 3) := by decide +kernel
theorem dX8_whoseTurn_17 : decode cX8_whoseTurn 17 = .ok (.aload_n 0, 1) := by decide +kernel
theorem dX8_whoseTurn_18 : decode cX8_whoseTurn 18 = .ok (.getfield 19, 3) := by decide +kernel
theorem dX8_whoseTurn_21 : decode cX8_whoseTurn 21 = .ok (.iload_n 3, 1) := by decide +kernel
theorem dX8_whoseTurn_22 : decode cX8_whoseTurn 22 = .ok (.invokevirtual 93, 3) := by decide +kernel
theorem dX8_whoseTurn_25 : decode cX8_whoseTurn 25 = .ok (.getfield 222, 3) := by decide +kernel
theorem dX8_whoseTurn_28 : decode cX8_whoseTurn 28 = .ok (.aload_n 0, 1) := by decide +kernel
theorem dX8_whoseTurn_29 : decode cX8_whoseTurn 29 = .ok (.getfield 19, 3) := by decide +kernel
theorem dX8_whoseTurn_32 : decode cX8_whoseTurn 32 = .ok (.iload_n 2, 1) := by decide +kernel
theorem dX8_whoseTurn_33 : decode cX8_whoseTurn 33 = .ok (.invokevirtual 93, 3) := by decide +kernel
theorem dX8_whoseTurn_36 : decode cX8_whoseTurn 36 = .ok (.getfield 222, 3) := by decide +kernel
theorem dX8_whoseTurn_39 : decode cX8_whoseTurn 39 = .ok (.if_icmp .ge 7, 3) := by decide +kernel
theorem dX8_whoseTurn_42 : decode cX8_whoseTurn 42 = .ok (.iconst 1, 1) := by decide +kernel
theorem dX8_whoseTurn_43 : decode cX8_whoseTurn 43 = .ok (.goto 4, 3) := by decide +kernel
theorem dX8_whoseTurn_46 : decode cX8_whoseTurn 46 = .ok (.iconst 0, 1) := by decide +kernel
theorem dX8_whoseTurn_47 : decode cX8_whoseTurn 47 = .ok (.istore 4, 2) := by decide +kernel
theorem dX8_whoseTurn_49 : decode cX8_whoseTurn 49 = .ok (.iload_n 1, 1) := by decide +kernel
theorem dX8_whoseTurn_50 : decode cX8_whoseTurn 50 = .ok (.iload_n 3, 1) := by decide +kernel
theorem dX8_whoseTurn_51 : decode cX8_whoseTurn 51 = .ok (.invokestatic 126, 3) := by decide +kernel
theorem dX8_whoseTurn_54 : decode cX8_whoseTurn 54 = .ok (.ifCond .eq 22, 3) := by decide +kernel
theorem dX8_whoseTurn_57 : decode cX8_whoseTurn 57 = .ok (.iload 4, 2) := by decide +kernel
theorem dX8_whoseTurn_59 : decode cX8_whoseTurn 59 = .ok (.ifCond .eq 17, 3) := by decide +kernel
theorem dX8_whoseTurn_62 : decode cX8_whoseTurn 62 = .ok (.aload_n 0, 1) := by decide +kernel
theorem dX8_whoseTurn_63 : decode cX8_whoseTurn 63 = .ok (.getfield 28, 3) := by decide +kernel
theorem dX8_whoseTurn_66 : decode cX8_whoseTurn 66 = .ok (.iload_n 1, 1) := by decide +kernel
theorem dX8_whoseTurn_67 : decode cX8_whoseTurn 67 = .ok (.iload_n 3, 1) := by decide +kernel
theorem dX8_whoseTurn_68 : decode cX8_whoseTurn 68 = .ok (.invokevirtual 141, 3) := by decide +kernel
theorem dX8_whoseTurn_71 : decode cX8_whoseTurn 71 = .ok (.ifCond .ne 5, 3) := by decide +kernel
theorem dX8_whoseTurn_74 : decode cX8_whoseTurn 74 = .ok (.iload_n 3, 1) := by decide +kernel
theorem dX8_whoseTurn_75 : decode cX8_whoseTurn 75 = .ok (.istore_n 2, 1) := by decide +kernel
theorem dX8_whoseTurn_76 : decode cX8_whoseTurn 76 = .ok (.iinc 3 1, 3) := by decide +kernel
theorem dX8_whoseTurn_79 : decode cX8_whoseTurn 79 = .ok (.goto (-74), 3) := by decide +kernel
theorem dX8_whoseTurn_82 : decode cX8_whoseTurn 82 = .ok (.iload_n 2, 1) := by decide +kernel
theorem dX8_whoseTurn_83 : decode cX8_whoseTurn 83 = .ok (.ireturn, 1) := by decide +kernel
theorem dX8_takeIntoPlan_0 : decode cX8_takeIntoPlan 0 = .ok (.iload_n 2, 1) := by decide +kernel
theorem dX8_takeIntoPlan_1 : decode cX8_takeIntoPlan 1 = .ok (.ifCond .ne 14, 3) := by decide +kernel
theorem dX8_takeIntoPlan_4 : decode cX8_takeIntoPlan 4 = .ok (.aload_n 0, 1) := by decide +kernel
theorem dX8_takeIntoPlan_5 : decode cX8_takeIntoPlan 5 = .ok (.getfield 53, 3) := by decide +kernel
theorem dX8_takeIntoPlan_8 : decode cX8_takeIntoPlan 8 = .ok (.iload_n 1, 1) := by decide +kernel
theorem dX8_takeIntoPlan_9 : decode cX8_takeIntoPlan 9 = .ok (.invokevirtual 237, 3) := by decide +kernel
theorem dX8_takeIntoPlan_12 : decode cX8_takeIntoPlan 12 = .ok (.goto 17, 3) := by decide +kernel
theorem dX8_takeIntoPlan_15 : decode cX8_takeIntoPlan 15 = .ok (.aload_n 0, 1) := by decide +kernel
theorem dX8_takeIntoPlan_16 : decode cX8_takeIntoPlan 16 = .ok (.iload_n 2, 1) := by decide +kernel
theorem dX8_takeIntoPlan_17 : decode cX8_takeIntoPlan 17 = .ok (.aload_n 0, 1) := by decide +kernel
theorem dX8_takeIntoPlan_18 : decode cX8_takeIntoPlan 18 = .ok (.getfield 37, 3) := by decide +kernel
theorem dX8_takeIntoPlan_21 : decode cX8_takeIntoPlan 21 = .ok (.iload_n 2, 1) := by decide +kernel
theorem dX8_takeIntoPlan_22 : decode cX8_takeIntoPlan 22 = .ok (.invokevirtual 165, 3) := by decide +kernel
theorem dX8_takeIntoPlan_25 : decode cX8_takeIntoPlan 25 = .ok (.invokevirtual 264, 3) := by decide +kernel
theorem dX8_takeIntoPlan_28 : decode cX8_takeIntoPlan 28 = .ok (.pop, 1) := by decide +kernel
theorem dX8_takeIntoPlan_29 : decode cX8_takeIntoPlan 29 = .ok (.return_, 1) := by decide +kernel
theorem dX8_putIntoPlan_0 : decode cX8_putIntoPlan 0 = .ok (.aload_n 0, 1) := by decide +kernel
theorem dX8_putIntoPlan_1 : decode cX8_putIntoPlan 1 = .ok (.getfield 28, 3) := by decide +kernel
theorem dX8_putIntoPlan_4 : decode cX8_putIntoPlan 4 = .ok (.iload_n 1, 1) := by decide +kernel
theorem dX8_putIntoPlan_5 : decode cX8_putIntoPlan 5 = .ok (.iload_n 2, 1) := by decide +kernel
theorem dX8_putIntoPlan_6 : decode cX8_putIntoPlan 6 = .ok (.invokevirtual 141, 3) := by decide +kernel
theorem dX8_putIntoPlan_9 : decode cX8_putIntoPlan 9 = .ok (.ifCond .eq 5, 3) := by decide +kernel
theorem dX8_putIntoPlan_12 : decode cX8_putIntoPlan 12 = .ok (.iconst 0, 1) := by decide +kernel
theorem dX8_putIntoPlan_13 : decode cX8_putIntoPlan 13 = .ok (.ireturn, 1) := by decide +kernel
theorem dX8_putIntoPlan_14 : decode cX8_putIntoPlan 14 = .ok (.aload_n 0, 1) := by decide +kernel
theorem dX8_putIntoPlan_15 : decode cX8_putIntoPlan 15 = .ok (.getfield 53, 3) := by decide +kernel
theorem dX8_putIntoPlan_18 : decode cX8_putIntoPlan 18 = .ok (.iload_n 1, 1) := by decide +kernel
theorem dX8_putIntoPlan_19 : decode cX8_putIntoPlan 19 = .ok (.iload_n 2, 1) := by decide +kernel
theorem dX8_putIntoPlan_20 : decode cX8_putIntoPlan 20 = .ok (.aload_n 0, 1) := by decide +kernel
theorem dX8_putIntoPlan_21 : decode cX8_putIntoPlan 21 = .ok (.getfield 28, 3) := by decide +kernel
theorem dX8_putIntoPlan_24 : decode cX8_putIntoPlan 24 = .ok (.invokevirtual 144, 3) := by decide +kernel
theorem dX8_putIntoPlan_27 : decode cX8_putIntoPlan 27 = .ok (.invokevirtual 267, 3) := by decide +kernel
theorem dX8_putIntoPlan_30 : decode cX8_putIntoPlan 30 = .ok (.iconst 1, 1) := by decide +kernel
theorem dX8_putIntoPlan_31 : decode cX8_putIntoPlan 31 = .ok (.ireturn, 1) := by decide +kernel
theorem dX8_evenOut_0 : decode cX8_evenOut 0 = .ok (.aload_n 0, 1) := by decide +kernel
theorem dX8_evenOut_1 : decode cX8_evenOut 1 = .ok (.getfield 19, 3) := by decide +kernel
theorem dX8_evenOut_4 : decode cX8_evenOut 4 = .ok (.iload_n 1, 1) := by decide +kernel
theorem dX8_evenOut_5 : decode cX8_evenOut 5 = .ok (.invokevirtual 261, 3) := by decide +kernel
theorem dX8_evenOut_8 : decode cX8_evenOut 8 = .ok (.ifCond .eq 5, 3) := by decide +kernel
theorem dX8_evenOut_11 : decode cX8_evenOut 11 = .ok (.iconst 0, 1) := by decide +kernel
theorem dX8_evenOut_12 : decode cX8_evenOut 12 = .ok (.ireturn, 1) := by decide +kernel
theorem dX8_evenOut_13 : decode cX8_evenOut 13 = .ok (.aload_n 0, 1) := by decide +kernel
theorem dX8_evenOut_14 : decode cX8_evenOut 14 = .ok (.iload_n 1, 1) := by decide +kernel
theorem dX8_evenOut_15 : decode cX8_evenOut 15 = .ok (.invokevirtual 168, 3) := by decide +kernel
theorem dX8_evenOut_18 : decode cX8_evenOut 18 = .ok (.istore_n 3, 1) := by decide +kernel
theorem dX8_evenOut_19 : decode cX8_evenOut 19 = .ok (.iload_n 3, 1) := by decide +kernel
theorem dX8_evenOut_20 : decode cX8_evenOut 20 = .ok (.bipush (-9), 2) := by decide +kernel
theorem dX8_evenOut_22 : decode cX8_evenOut 22 = .ok (.if_icmp .ne 5, 3) := by decide +kernel
theorem dX8_evenOut_25 : decode cX8_evenOut 25 = .ok (.iconst 0, 1) := by decide +kernel
theorem dX8_evenOut_26 : decode cX8_evenOut 26 = .ok (.ireturn, 1) := by decide +kernel
theorem dX8_evenOut_27 : decode cX8_evenOut 27 = .ok (.aload_n 0, 1) := by decide +kernel
theorem dX8_evenOut_28 : decode cX8_evenOut 28 = .ok (.iload_n 1, 1) := by decide +kernel
theorem dX8_evenOut_29 : decode cX8_evenOut 29 = .ok (.iload_n 3, 1) := by decide +kernel
theorem dX8_evenOut_30 : decode cX8_evenOut 30 = .ok (.invokevirtual 264, 3) := by decide +kernel
theorem dX8_evenOut_33 : decode cX8_evenOut 33 = .ok (.pop, 1) := by decide +kernel
theorem dX8_evenOut_34 : decode cX8_evenOut 34 = .ok (.iload_n 3, 1) := by decide +kernel
theorem dX8_evenOut_35 : decode cX8_evenOut 35 = .ok (.iload_n 2, 1) := by decide +kernel
theorem dX8_evenOut_36 : decode cX8_evenOut 36 = .ok (.if_icmp .eq 7, 3) := by decide +kernel
theorem dX8_evenOut_39 : decode cX8_evenOut 39 = .ok (.iconst 1, 1) := by decide +kernel
theorem dX8_evenOut_40 : decode cX8_evenOut 40 = .ok (.goto 4, 3) := by decide +kernel
theorem dX8_evenOut_43 : decode cX8_evenOut 43 = .ok (.iconst 0, 1) := by decide +kernel
theorem dX8_evenOut_44 : decode cX8_evenOut 44 = .ok (.ireturn, 1) := by decide +kernel
theorem dX8_findPlace_0 : decode cX8_findPlace 0 = .ok (.aload_n 0, 1) := by decide +kernel
theorem dX8_findPlace_1 : decode cX8_findPlace 1 = .ok (.getfield 19, 3) := by decide +kernel
theorem dX8_findPlace_4 : decode cX8_findPlace 4 = .ok (.iload_n 1, 1) := by decide +kernel
theorem dX8_findPlace_5 : decode cX8_findPlace 5 = .ok (.invokevirtual 93, 3) := by decide +kernel
theorem dX8_findPlace_8 : decode cX8_findPlace 8 = .ok (.getfield 130, 3) := by decide +kernel
theorem dX8_findPlace_11 : decode cX8_findPlace 11 = .ok (.ifCond .eq 5, 3) := by decide +kernel
theorem dX8_findPlace_14 : decode cX8_findPlace 14 = .ok (.iconst 0, 1) := by decide +kernel
theorem dX8_findPlace_15 : decode cX8_findPlace 15 = .ok (.ireturn, 1) := by decide +kernel
theorem dX8_findPlace_16 : decode cX8_findPlace 16 = .ok (.iconst 0, 1) := by decide +kernel
theorem dX8_findPlace_17 : decode cX8_findPlace 17 = .ok (.istore_n 2, 1) := by decide +kernel
theorem dX8_findPlace_18 : decode cX8_findPlace 18 = .ok (.iload_n 2, 1) := by decide +kernel
theorem dX8_findPlace_19 : decode cX8_findPlace 19 = .ok (.bipush 9, 2) := by decide +kernel
theorem dX8_findPlace_21 : decode cX8_findPlace 21 = .ok (.if_icmp .ge 46, 3) := by decide +kernel
theorem dX8_findPlace_24 : decode cX8_findPlace 24 = .ok (.aload_n 0, 1) := by decide +kernel
theorem dX8_findPlace_25 : decode cX8_findPlace 25 = .ok (.iload_n 2, 1) := by decide +kernel
theorem dX8_findPlace_26 : decode cX8_findPlace 26 = .ok (.invokevirtual 271, 3) := by decide +kernel
theorem dX8_findPlace_29 : decode cX8_findPlace 29 = .ok (.ifCond .eq 32, 3) := by decide +kernel
theorem dX8_findPlace_32 : decode cX8_findPlace 32 = .ok (.aload_n 0, 1) := by decide +kernel
theorem dX8_findPlace_33 : decode cX8_findPlace 33 = .ok (.aload_n 0, 1) := by decide +kernel
theorem dX8_findPlace_34 : decode cX8_findPlace 34 = .ok (.getfield 53, 3) := by decide +kernel
theorem dX8_findPlace_37 : decode cX8_findPlace 37 = .ok (.iload_n 2, 1) := by decide +kernel
theorem dX8_findPlace_38 : decode cX8_findPlace 38 = .ok (.invokevirtual 213, 3) := by decide +kernel
theorem dX8_findPlace_41 : decode cX8_findPlace 41 = .ok (.iconst 1, 1) := by decide +kernel
theorem dX8_findPlace_42 : decode cX8_findPlace 42 = .ok (.iload_n 1, 1) := by decide +kernel
theorem dX8_findPlace_43 : decode cX8_findPlace 43 = .ok (.ishl, 1) := by decide +kernel
theorem dX8_findPlace_44 : decode cX8_findPlace 44 = .ok (.ior, 1) := by decide +kernel
theorem dX8_findPlace_45 : decode cX8_findPlace 45 = .ok (.aload_n 0, 1) := by decide +kernel
theorem dX8_findPlace_46 : decode cX8_findPlace 46 = .ok (.getfield 53, 3) := by decide +kernel
theorem dX8_findPlace_49 : decode cX8_findPlace 49 = .ok (.iload_n 2, 1) := by decide +kernel
theorem dX8_findPlace_50 : decode cX8_findPlace 50 = .ok (.invokevirtual 216, 3) := by decide +kernel
theorem dX8_findPlace_53 : decode cX8_findPlace 53 = .ok (.invokevirtual 264, 3) := by decide +kernel
theorem dX8_findPlace_56 : decode cX8_findPlace 56 = .ok (.ifCond .eq 5, 3) := by decide +kernel
theorem dX8_findPlace_59 : decode cX8_findPlace 59 = .ok (.iconst 1, 1) := by decide +kernel
theorem dX8_findPlace_60 : decode cX8_findPlace 60 = .ok (.ireturn, 1) := by decide +kernel
theorem dX8_findPlace_61 : decode cX8_findPlace 61 = .ok (.iinc 2 1, 3) := by decide +kernel
theorem dX8_findPlace_64 : decode cX8_findPlace 64 = .ok (.goto (-46), 3) := by decide +kernel
theorem dX8_findPlace_67 : decode cX8_findPlace 67 = .ok (.aload_n 0, 1) := by decide +kernel
theorem dX8_findPlace_68 : decode cX8_findPlace 68 = .ok (.iconst 1, 1) := by decide +kernel
theorem dX8_findPlace_69 : decode cX8_findPlace 69 = .ok (.iload_n 1, 1) := by decide +kernel
theorem dX8_findPlace_70 : decode cX8_findPlace 70 = .ok (.ishl, 1) := by decide +kernel
theorem dX8_findPlace_71 : decode cX8_findPlace 71 = .ok (.iload_n 1, 1) := by decide +kernel
theorem dX8_findPlace_72 : decode cX8_findPlace 72 = .ok (.invokevirtual 264, 3) := by decide +kernel
theorem dX8_findPlace_75 : decode cX8_findPlace 75 = .ok (.ireturn, 1) := by decide +kernel
theorem dX8_isOpen_0 : decode cX8_isOpen 0 = .ok (.aload_n 0, 1) := by decide +kernel
theorem dX8_isOpen_1 : decode cX8_isOpen 1 = .ok (.getfield 53, 3) := by decide +kernel
theorem dX8_isOpen_4 : decode cX8_isOpen 4 = .ok (.iload_n 1, 1) := by decide +kernel
theorem dX8_isOpen_5 : decode cX8_isOpen 5 = .ok (.invokevirtual 213, 3) := by decide +kernel
theorem dX8_isOpen_8 : decode cX8_isOpen 8 = .ok (.istore_n 2, 1) := by decide +kernel
theorem dX8_isOpen_9 : decode cX8_isOpen 9 = .ok (.aload_n 0, 1) := by decide +kernel
theorem dX8_isOpen_10 : decode cX8_isOpen 10 = .ok (.getfield 53, 3) := by decide +kernel
theorem dX8_isOpen_13 : decode cX8_isOpen 13 = .ok (.iload_n 1, 1) := by decide +kernel
theorem dX8_isOpen_14 : decode cX8_isOpen 14 = .ok (.invokevirtual 210, 3) := by decide +kernel
theorem dX8_isOpen_17 : decode cX8_isOpen 17 = .ok (.ifCond .eq 26, 3) := by decide +kernel
theorem dX8_isOpen_20 : decode cX8_isOpen 20 = .ok (.aload_n 0, 1) := by decide +kernel
theorem dX8_isOpen_21 : decode cX8_isOpen 21 = .ok (.getfield 19, 3) := by decide +kernel
theorem dX8_isOpen_24 : decode cX8_isOpen 24 = .ok (.iload_n 2, 1) := by decide +kernel
theorem dX8_isOpen_25 : decode cX8_isOpen 25 = .ok (.invokevirtual 261, 3) := by decide +kernel
theorem dX8_isOpen_28 : decode cX8_isOpen 28 = .ok (.ifCond .ne 15, 3) := by decide +kernel
theorem dX8_isOpen_31 : decode cX8_isOpen 31 = .ok (.iload_n 2, 1) := by decide +kernel
theorem dX8_isOpen_32 : decode cX8_isOpen 32 = .ok (.invokestatic 250, 3) := by decide +kernel
theorem dX8_isOpen_35 : decode cX8_isOpen 35 = .ok (.iconst 4, 1) := by decide +kernel
theorem dX8_isOpen_36 : decode cX8_isOpen 36 = .ok (.if_icmp .ge 7, 3) := by decide +kernel
theorem dX8_isOpen_39 : decode cX8_isOpen 39 = .ok (.iconst 1, 1) := by decide +kernel
theorem dX8_isOpen_40 : decode cX8_isOpen 40 = .ok (.goto 4, 3) := by decide +kernel
theorem dX8_isOpen_43 : decode cX8_isOpen 43 = .ok (.iconst 0, 1) := by decide +kernel
theorem dX8_isOpen_44 : decode cX8_isOpen 44 = .ok (.ireturn, 1) := by decide +kernel
theorem dX9_init_0 : decode cX9_init 0 = .ok (.aload_n 0, 1) := by decide +kernel
theorem dX9_init_1 : decode cX9_init 1 = .ok (.invokespecial 1, 3) := by decide +kernel
theorem dX9_init_4 : decode cX9_init 4 = .ok (.aload_n 0, 1) := by decide +kernel
theorem dX9_init_5 : decode cX9_init 5 = .ok (.bipush 7, 2) := by decide +kernel
theorem dX9_init_7 : decode cX9_init 7 = .ok (.newarray .int, 2) := by decide +kernel
theorem dX9_init_9 : decode cX9_init 9 = .ok (.putfield 7, 3) := by decide +kernel
theorem dX9_init_12 : decode cX9_init 12 = .ok (.aload_n 0, 1) := by decide +kernel
theorem dX9_init_13 : decode cX9_init 13 = .ok (.bipush 100, 2) := by decide +kernel
theorem dX9_init_15 : decode cX9_init 15 = .ok (.newarray .int, 2) := by decide +kernel
theorem dX9_init_17 : decode cX9_init 17 = .ok (.putfield 13, 3) := by decide +kernel
theorem dX9_init_20 : decode cX9_init 20 = .ok (.aload_n 0, 1) := by decide +kernel
theorem dX9_init_21 : decode cX9_init 21 = .ok (.bipush 100, 2) := by decide +kernel
theorem dX9_init_23 : decode cX9_init 23 = .ok (.newarray .int, 2) := by decide +kernel
theorem dX9_init_25 : decode cX9_init 25 = .ok (.putfield 16, 3) := by decide +kernel
theorem dX9_init_28 : decode cX9_init 28 = .ok (.aload_n 0, 1) := by decide +kernel
theorem dX9_init_29 : decode cX9_init 29 = .ok (.bipush 9, 2) := by decide +kernel
theorem dX9_init_31 : decode cX9_init 31 = .ok (.newarray .int, 2) := by decide +kernel
theorem dX9_init_33 : decode cX9_init 33 = .ok (.putfield 19, 3) := by decide +kernel
theorem dX9_init_36 : decode cX9_init 36 = .ok (.aload_n 0, 1) := by decide +kernel
theorem dX9_init_37 : decode cX9_init 37 = .ok (.bipush 9, 2) := by decide +kernel
theorem dX9_init_39 : decode cX9_init 39 = .ok (.newarray .int, 2) := by decide +kernel
theorem dX9_init_41 : decode cX9_init 41 = .ok (.putfield 22, 3) := by decide +kernel
theorem dX9_init_44 : decode cX9_init 44 = .ok (.aload_n 0, 1) := by decide +kernel
theorem dX9_init_45 : decode cX9_init 45 = .ok (.bipush 9, 2) := by decide +kernel
theorem dX9_init_47 : decode cX9_init 47 = .ok (.newarray .int, 2) := by decide +kernel
theorem dX9_init_49 : decode cX9_init 49 = .ok (.putfield 25, 3) := by decide +kernel
theorem dX9_init_52 : decode cX9_init 52 = .ok (.aload_n 0, 1) := by decide +kernel
theorem dX9_init_53 : decode cX9_init 53 = .ok (.bipush 9, 2) := by decide +kernel
theorem dX9_init_55 : decode cX9_init 55 = .ok (.newarray .int, 2) := by decide +kernel
theorem dX9_init_57 : decode cX9_init 57 = .ok (.putfield 28, 3) := by decide +kernel
theorem dX9_init_60 : decode cX9_init 60 = .ok (.aload_n 0, 1) := by decide +kernel
theorem dX9_init_61 : decode cX9_init 61 = .ok (.bipush 9, 2) := by decide +kernel
theorem dX9_init_63 : decode cX9_init 63 = .ok (.newarray .int, 2) := by decide +kernel
theorem dX9_init_65 : decode cX9_init 65 = .ok (.putfield 31, 3) := by decide +kernel
theorem dX9_init_68 : decode cX9_init 68 = .ok (.aload_n 0, 1) := by decide +kernel
theorem dX9_init_69 : decode cX9_init 69 = .ok (.bipush 9, 2) := by decide +kernel
theorem dX9_init_71 : decode cX9_init 71 = .ok (.newarray .int, 2) := by decide +kernel
theorem dX9_init_73 : decode cX9_init 73 = .ok (.putfield 34, 3) := by decide +kernel
theorem dX9_init_76 : decode cX9_init 76 = .ok (.aload_n 0, 1) := by decide +kernel
theorem dX9_init_77 : decode cX9_init 77 = .ok (.bipush 9, 2) := by decide +kernel
theorem dX9_init_79 : decode cX9_init 79 = .ok (.newarray .int, 2) := by decide +kernel
theorem dX9_init_81 : decode cX9_init 81 = .ok (.putfield 37, 3) := by decide +kernel
theorem dX9_init_84 : decode cX9_init 84 = .ok (.aload_n 0, 1) := by decide +kernel
theorem dX9_init_85 : decode cX9_init 85 = .ok (.bipush 9, 2) := by decide +kernel
theorem dX9_init_87 : decode cX9_init 87 = .ok (.newarray .int, 2) := by decide +kernel
theorem dX9_init_89 : decode cX9_init 89 = .ok (.putfield 40, 3) := by decide +kernel
theorem dX9_init_92 : decode cX9_init 92 = .ok (.aload_n 0, 1) := by decide +kernel
theorem dX9_init_93 : decode cX9_init 93 = .ok (.bipush 9, 2) := by decide +kernel
theorem dX9_init_95 : decode cX9_init 95 = .ok (.newarray .int, 2) := by decide +kernel
theorem dX9_init_97 : decode cX9_init 97 = .ok (.putfield 43, 3) := by decide +kernel
theorem dX9_init_100 : decode cX9_init 100 = .ok (.aload_n 0, 1) := by decide +kernel
theorem dX9_init_101 : decode cX9_init 101 = .ok (.bipush 9, 2) := by decide +kernel
theorem dX9_init_103 : decode cX9_init 103 = .ok (.newarray .boolean, 2) := by decide +kernel
theorem dX9_init_105 : decode cX9_init 105 = .ok (.putfield 46, 3) := by decide +kernel
theorem dX9_init_108 : decode cX9_init 108 = .ok (.aload_n 0, 1) := by decide +kernel
theorem dX9_init_109 : decode cX9_init 109 = .ok (.bipush 9, 2) := by decide +kernel
theorem dX9_init_111 : decode cX9_init 111 = .ok (.newarray .boolean, 2) := by decide +kernel
theorem dX9_init_113 : decode cX9_init 113 = .ok (.putfield 50, 3) := by decide +kernel
theorem dX9_init_116 : decode cX9_init 116 = .ok (.aload_n 0, 1) := by decide +kernel
theorem dX9_init_117 : decode cX9_init 117 = .ok (.iconst 5, 1) := by decide +kernel
theorem dX9_init_118 : decode cX9_init 118 = .ok (.newarray .int, 2) := by decide +kernel
theorem dX9_init_120 : decode cX9_init 120 = .ok (.putfield 53, 3) := by decide +kernel
theorem dX9_init_123 : decode cX9_init 123 = .ok (.aload_n 0, 1) := by decide +kernel
theorem dX9_init_124 : decode cX9_init 124 = .ok (.iconst 5, 1) := by decide +kernel
theorem dX9_init_125 : decode cX9_init 125 = .ok (.newarray .int, 2) := by decide +kernel
theorem dX9_init_127 : decode cX9_init 127 = .ok (.putfield 56, 3) := by decide +kernel
theorem dX9_init_130 : decode cX9_init 130 = .ok (.aload_n 0, 1) := by decide +kernel
theorem dX9_init_131 : decode cX9_init 131 = .ok (.bipush 9, 2) := by decide +kernel
theorem dX9_init_133 : decode cX9_init 133 = .ok (.newarray .int, 2) := by decide +kernel
theorem dX9_init_135 : decode cX9_init 135 = .ok (.putfield 59, 3) := by decide +kernel
theorem dX9_init_138 : decode cX9_init 138 = .ok (.aload_n 0, 1) := by decide +kernel
theorem dX9_init_139 : decode cX9_init 139 = .ok (.bipush 9, 2) := by decide +kernel
theorem dX9_init_141 : decode cX9_init 141 = .ok (.newarray .int, 2) := by decide +kernel
theorem dX9_init_143 : decode cX9_init 143 = .ok (.putfield 62, 3) := by decide +kernel
theorem dX9_init_146 : decode cX9_init 146 = .ok (.aload_n 0, 1) := by decide +kernel
theorem dX9_init_147 : decode cX9_init 147 = .ok (.iconst 5, 1) := by decide +kernel
theorem dX9_init_148 : decode cX9_init 148 = .ok (.newarray .int, 2) := by decide +kernel
theorem dX9_init_150 : decode cX9_init 150 = .ok (.putfield 65, 3) := by decide +kernel
theorem dX9_init_153 : decode cX9_init 153 = .ok (.aload_n 0, 1) := by decide +kernel
theorem dX9_init_154 : decode cX9_init 154 = .ok (.iconst 5, 1) := by decide +kernel
theorem dX9_init_155 : decode cX9_init 155 = .ok (.newarray .int, 2) := by decide +kernel
theorem dX9_init_157 : decode cX9_init 157 = .ok (.putfield 68, 3) := by decide +kernel
theorem dX9_init_160 : decode cX9_init 160 = .ok (.aload_n 0, 1) := by decide +kernel
theorem dX9_init_161 : decode cX9_init 161 = .ok (.bipush 9, 2) := by decide +kernel
theorem dX9_init_163 : decode cX9_init 163 = .ok (.newarray .int, 2) := by decide +kernel
theorem dX9_init_165 : decode cX9_init 165 = .ok (.putfield 71, 3) := by decide +kernel
theorem dX9_init_168 : decode cX9_init 168 = .ok (.aload_n 0, 1) := by decide +kernel
theorem dX9_init_169 : decode cX9_init 169 = .ok (.bipush 9, 2) := by decide +kernel
theorem dX9_init_171 : decode cX9_init 171 = .ok (.newarray .int, 2) := by decide +kernel
theorem dX9_init_173 : decode cX9_init 173 = .ok (.putfield 74, 3) := by decide +kernel
theorem dX9_init_176 : decode cX9_init 176 = .ok (.aload_n 0, 1) := by decide +kernel
theorem dX9_init_177 : decode cX9_init 177 = .ok (.sipush 512, 3) := by decide +kernel
theorem dX9_init_180 : decode cX9_init 180 = .ok (.newarray .int, 2) := by decide +kernel
theorem dX9_init_182 : decode cX9_init 182 = .ok (.putfield 77, 3) := by decide +kernel
theorem dX9_init_185 : decode cX9_init 185 = .ok (.aload_n 0, 1) := by decide +kernel
theorem dX9_init_186 : decode cX9_init 186 = .ok (.sipush 512, 3) := by decide +kernel
theorem dX9_init_189 : decode cX9_init 189 = .ok (.newarray .int, 2) := by decide +kernel
theorem dX9_init_191 : decode cX9_init 191 = .ok (.putfield 80, 3) := by decide +kernel
theorem dX9_init_194 : decode cX9_init 194 = .ok (.aload_n 0, 1) := by decide +kernel
theorem dX9_init_195 : decode cX9_init 195 = .ok (.sipush 512, 3) := by decide +kernel
theorem dX9_init_198 : decode cX9_init 198 = .ok (.newarray .int, 2) := by decide +kernel
theorem dX9_init_200 : decode cX9_init 200 = .ok (.putfield 83, 3) := by decide +kernel
theorem dX9_init_203 : decode cX9_init 203 = .ok (.aload_n 0, 1) := by decide +kernel
theorem dX9_init_204 : decode cX9_init 204 = .ok (.sipush 512, 3) := by decide +kernel
theorem dX9_init_207 : decode cX9_init 207 = .ok (.newarray .int, 2) := by decide +kernel
theorem dX9_init_209 : decode cX9_init 209 = .ok (.putfield 86, 3) := by decide +kernel
theorem dX9_init_212 : decode cX9_init 212 = .ok (.aload_n 0, 1) := by decide +kernel
theorem dX9_init_213 : decode cX9_init 213 = .ok (.sipush 512, 3) := by decide +kernel
theorem dX9_init_216 : decode cX9_init 216 = .ok (.newarray .int, 2) := by decide +kernel
theorem dX9_init_218 : decode cX9_init 218 = .ok (.putfield 89, 3) := by decide +kernel
theorem dX9_init_221 : decode cX9_init 221 = .ok (.aload_n 0, 1) := by decide +kernel
theorem dX9_init_222 : decode cX9_init 222 = .ok (.sipush 512, 3) := by decide +kernel
theorem dX9_init_225 : decode cX9_init 225 = .ok (.newarray .int, 2) := by decide +kernel
theorem dX9_init_227 : decode cX9_init 227 = .ok (.putfield 92, 3) := by decide +kernel
theorem dX9_init_230 : decode cX9_init 230 = .ok (.aload_n 0, 1) := by decide +kernel
theorem dX9_init_231 : decode cX9_init 231 = .ok (.sipush 512, 3) := by decide +kernel
theorem dX9_init_234 : decode cX9_init 234 = .ok (.newarray .int, 2) := by decide +kernel
theorem dX9_init_236 : decode cX9_init 236 = .ok (.putfield 95, 3) := by decide +kernel
theorem dX9_init_239 : decode cX9_init 239 = .ok (.aload_n 0, 1) := by decide +kernel
theorem dX9_init_240 : decode cX9_init 240 = .ok (.sipush 512, 3) := by decide +kernel
theorem dX9_init_243 : decode cX9_init 243 = .ok (.newarray .int, 2) := by decide +kernel
theorem dX9_init_245 : decode cX9_init 245 = .ok (.putfield 98, 3) := by decide +kernel
theorem dX9_init_248 : decode cX9_init 248 = .ok (.aload_n 0, 1) := by decide +kernel
theorem dX9_init_249 : decode cX9_init 249 = .ok (.bipush 9, 2) := by decide +kernel
theorem dX9_init_251 : decode cX9_init 251 = .ok (.newarray .int, 2) := by decide +kernel
theorem dX9_init_253 : decode cX9_init 253 = .ok (.putfield 101, 3) := by decide +kernel
theorem dX9_init_256 : decode cX9_init 256 = .ok (.aload_n 0, 1) := by decide +kernel
theorem dX9_init_257 : decode cX9_init 257 = .ok (.bipush 9, 2) := by decide +kernel
theorem dX9_init_259 : decode cX9_init 259 = .ok (.newarray .int, 2) := by decide +kernel
theorem dX9_init_261 : decode cX9_init 261 = .ok (.putfield 104, 3) := by decide +kernel
theorem dX9_init_264 : decode cX9_init 264 = .ok (.aload_n 0, 1) := by decide +kernel
theorem dX9_init_265 : decode cX9_init 265 = .ok (.bipush 9, 2) := by decide +kernel
theorem dX9_init_267 : decode cX9_init 267 = .ok (.newarray .int, 2) := by decide +kernel
theorem dX9_init_269 : decode cX9_init 269 = .ok (.putfield 107, 3) := by decide +kernel
theorem dX9_init_272 : decode cX9_init 272 = .ok (.aload_n 0, 1) := by decide +kernel
theorem dX9_init_273 : decode cX9_init 273 = .ok (.bipush 9, 2) := by decide +kernel
theorem dX9_init_275 : decode cX9_init 275 = .ok (.newarray .int, 2) := by decide +kernel
theorem dX9_init_277 : decode cX9_init 277 = .ok (.putfield 110, 3) := by decide +kernel
theorem dX9_init_280 : decode cX9_init 280 = .ok (.aload_n 0, 1) := by decide +kernel
theorem dX9_init_281 : decode cX9_init 281 = .ok (.bipush 9, 2) := by decide +kernel
theorem dX9_init_283 : decode cX9_init 283 = .ok (.newarray .int, 2) := by decide +kernel
theorem dX9_init_285 : decode cX9_init 285 = .ok (.putfield 113, 3) := by decide +kernel
theorem dX9_init_288 : decode cX9_init 288 = .ok (.iconst 0, 1) := by decide +kernel
theorem dX9_init_289 : decode cX9_init 289 = .ok (.istore_n 1, 1) := by decide +kernel
theorem dX9_init_290 : decode cX9_init 290 = .ok (.iload_n 1, 1) := by decide +kernel
theorem dX9_init_291 : decode cX9_init 291 = .ok (.bipush 10, 2) := by decide +kernel
theorem dX9_init_293 : decode cX9_init 293 = .ok (.if_icmp .ge 46, 3) := by decide +kernel
theorem dX9_init_296 : decode cX9_init 296 = .ok (.iconst 0, 1) := by decide +kernel
theorem dX9_init_297 : decode cX9_init 297 = .ok (.istore_n 2, 1) := by decide +kernel
theorem dX9_init_298 : decode cX9_init 298 = .ok (.iload_n 2, 1) := by decide +kernel
theorem dX9_init_299 : decode cX9_init 299 = .ok (.bipush 10, 2) := by decide +kernel
theorem dX9_init_301 : decode cX9_init 301 = .ok (.if_icmp .ge 32, 3) := by decide +kernel
theorem dX9_init_304 : decode cX9_init 304 = .ok (.aload_n 0, 1) := by decide +kernel
theorem dX9_init_305 : decode cX9_init 305 = .ok (.getfield 13, 3) := by decide +kernel
theorem dX9_init_308 : decode cX9_init 308 = .ok (.bipush 10, 2) := by decide +kernel
theorem dX9_init_310 : decode cX9_init 310 = .ok (.iload_n 1, 1) := by decide +kernel
theorem dX9_init_311 : decode cX9_init 311 = .ok (.imul, 1) := by decide +kernel
theorem dX9_init_312 : decode cX9_init 312 = .ok (.iload_n 2, 1) := by decide +kernel
theorem dX9_init_313 : decode cX9_init 313 = .ok (.iadd, 1) := by decide +kernel
theorem dX9_init_314 : decode cX9_init 314 = .ok (.iload_n 1, 1) := by decide +kernel
theorem dX9_init_315 : decode cX9_init 315 = .ok (.iload_n 2, 1) := by decide +kernel
theorem dX9_init_316 : decode cX9_init 316 = .ok (.if_icmp .ne 7, 3) := by decide +kernel
theorem dX9_init_319 : decode cX9_init 319 = .ok (.iconst 0, 1) := by decide +kernel
theorem dX9_init_320 : decode cX9_init 320 = .ok (.goto 6, 3) := by decide +kernel
theorem dX9_init_323 : decode cX9_init 323 = .ok (.sipush 300, 3) := by decide +kernel
theorem dX9_init_326 : decode cX9_init 326 = .ok (.iastore, 1) := by decide +kernel
theorem dX9_init_327 : decode cX9_init 327 = .ok (.iinc 2 1, 3) := by decide +kernel
theorem dX9_init_330 : decode cX9_init 330 = .ok (.goto (-32), 3) := by decide +kernel
theorem dX9_init_333 : decode cX9_init 333 = .ok (.iinc 1 1, 3) := by decide +kernel
theorem dX9_init_336 : decode cX9_init 336 = .ok (.goto (-46), 3) := by decide +kernel
theorem dX9_init_339 : decode cX9_init 339 = .ok (.aload_n 0, 1) := by decide +kernel
theorem dX9_init_340 : decode cX9_init 340 = .ok (.invokevirtual 116, 3) := by decide +kernel
theorem dX9_init_343 : decode cX9_init 343 = .ok (.return_, 1) := by decide +kernel
theorem dX9_refuse_0 : decode cX9_refuse 0 = .ok (.aload_n 0, 1) := by decide +kernel
theorem dX9_refuse_1 : decode cX9_refuse 1 = .ok (.getfield 7, 3) := by decide +kernel
theorem dX9_refuse_4 : decode cX9_refuse 4 = .ok (.iload_n 1, 1) := by decide +kernel
theorem dX9_refuse_5 : decode cX9_refuse 5 = .ok (.ineg, 1) := by decide +kernel
theorem dX9_refuse_6 : decode cX9_refuse 6 = .ok (.dup2, 1) := by decide +kernel
theorem dX9_refuse_7 : decode cX9_refuse 7 = .ok (.iaload, 1) := by decide +kernel
theorem dX9_refuse_8 : decode cX9_refuse 8 = .ok (.iconst 1, 1) := by decide +kernel
theorem dX9_refuse_9 : decode cX9_refuse 9 = .ok (.iadd, 1) := by decide +kernel
theorem dX9_refuse_10 : decode cX9_refuse 10 = .ok (.iastore, 1) := by decide +kernel
theorem dX9_refuse_11 : decode cX9_refuse 11 = .ok (.iload_n 1, 1) := by decide +kernel
theorem dX9_refuse_12 : decode cX9_refuse 12 = .ok (.ireturn, 1) := by decide +kernel
theorem dX9_isIn_0 : decode cX9_isIn 0 = .ok (.iload_n 0, 1) := by decide +kernel
theorem dX9_isIn_1 : decode cX9_isIn 1 = .ok (.ifCond .lt 12, 3) := by decide +kernel
theorem dX9_isIn_4 : decode cX9_isIn 4 = .ok (.iload_n 0, 1) := by decide +kernel
theorem dX9_isIn_5 : decode cX9_isIn 5 = .ok (.iload_n 1, 1) := by decide +kernel
theorem dX9_isIn_6 : decode cX9_isIn 6 = .ok (.if_icmp .ge 7, 3) := by decide +kernel
theorem dX9_isIn_9 : decode cX9_isIn 9 = .ok (.iconst 1, 1) := by decide +kernel
theorem dX9_isIn_10 : decode cX9_isIn 10 = .ok (.goto 4, 3) := by decide +kernel
theorem dX9_isIn_13 : decode cX9_isIn 13 = .ok (.iconst 0, 1) := by decide +kernel
theorem dX9_isIn_14 : decode cX9_isIn 14 = .ok (.ireturn, 1) := by decide +kernel
theorem dX9_changes_0 : decode cX9_changes 0 = .ok (.aload_n 0, 1) := by decide +kernel
theorem dX9_changes_1 : decode cX9_changes 1 = .ok (.iconst 0, 1) := by decide +kernel
theorem dX9_changes_2 : decode cX9_changes 2 = .ok (.putfield 119, 3) := by decide +kernel
theorem dX9_changes_5 : decode cX9_changes 5 = .ok (.return_, 1) := by decide +kernel
theorem dX9_measure_0 : decode cX9_measure 0 = .ok (.iconst 0, 1) := by decide +kernel
theorem dX9_measure_1 : decode cX9_measure 1 = .ok (.istore_n 1, 1) := by decide +kernel
theorem dX9_measure_2 : decode cX9_measure 2 = .ok (.iload_n 1, 1) := by decide +kernel
theorem dX9_measure_3 : decode cX9_measure 3 = .ok (.bipush 100, 2) := by decide +kernel
theorem dX9_measure_5 : decode cX9_measure 5 = .ok (.if_icmp .ge 21, 3) := by decide +kernel
theorem dX9_measure_8 : decode cX9_measure 8 = .ok (.aload_n 0, 1) := by decide +kernel
theorem dX9_measure_9 : decode cX9_measure 9 = .ok (.getfield 16, 3) := by decide +kernel
theorem dX9_measure_12 : decode cX9_measure 12 = .ok (.iload_n 1, 1) := by decide +kernel
theorem dX9_measure_13 : decode cX9_measure 13 = .ok (.aload_n 0, 1) := by decide +kernel
theorem dX9_measure_14 : decode cX9_measure 14 = .ok (.getfield 13, 3) := by decide +kernel
theorem dX9_measure_17 : decode cX9_measure 17 = .ok (.iload_n 1, 1) := by decide +kernel
theorem dX9_measure_18 : decode cX9_measure 18 = .ok (.iaload, 1) := by decide +kernel
theorem dX9_measure_19 : decode cX9_measure 19 = .ok (.iastore, 1) := by decide +kernel
theorem dX9_measure_20 : decode cX9_measure 20 = .ok (.iinc 1 1, 3) := by decide +kernel
theorem dX9_measure_23 : decode cX9_measure 23 = .ok (.goto (-21), 3) := by decide +kernel
theorem dX9_measure_26 : decode cX9_measure 26 = .ok (.iconst 0, 1) := by decide +kernel
theorem dX9_measure_27 : decode cX9_measure 27 = .ok (.istore_n 1, 1) := by decide +kernel
theorem dX9_measure_28 : decode cX9_measure 28 = .ok (.iload_n 1, 1) := by decide +kernel
theorem dX9_measure_29 : decode cX9_measure 29 = .ok (.bipush 10, 2) := by decide +kernel
theorem dX9_measure_31 : decode cX9_measure 31 = .ok (.if_icmp .ge 85, 3) := by decide +kernel
theorem dX9_measure_34 : decode cX9_measure 34 = .ok (.iconst 0, 1) := by decide +kernel
theorem dX9_measure_35 : decode cX9_measure 35 = .ok (.istore_n 2, 1) := by decide +kernel
theorem dX9_measure_36 : decode cX9_measure 36 = .ok (.iload_n 2, 1) := by decide +kernel
theorem dX9_measure_37 : decode cX9_measure 37 = .ok (.bipush 10, 2) := by decide +kernel
theorem dX9_measure_39 : decode cX9_measure 39 = .ok (.if_icmp .ge 71, 3) := by decide +kernel
theorem dX9_measure_42 : decode cX9_measure 42 = .ok (.iconst 0, 1) := by decide +kernel
theorem dX9_measure_43 : decode cX9_measure 43 = .ok (.istore_n 3, 1) := by decide +kernel
theorem dX9_measure_44 : decode cX9_measure 44 = .ok (.iload_n 3, 1) := by decide +kernel
theorem dX9_measure_45 : decode cX9_measure 45 = .ok (.bipush 10, 2) := by decide +kernel
theorem dX9_measure_47 : decode cX9_measure 47 = .ok (.if_icmp .ge 57, 3) := by decide +kernel
theorem dX9_measure_50 : decode cX9_measure 50 = .ok (.aload_n 0, 1) := by decide +kernel
theorem dX9_measure_51 : decode cX9_measure 51 = .ok (.getfield 16, 3) := by decide +kernel
theorem dX9_measure_54 : decode cX9_measure 54 = .ok (.bipush 10, 2) := by decide +kernel
theorem dX9_measure_56 : decode cX9_measure 56 = .ok (.iload_n 2, 1) := by decide +kernel
theorem dX9_measure_57 : decode cX9_measure 57 = .ok (.imul, 1) := by decide +kernel
theorem dX9_measure_58 : decode cX9_measure 58 = .ok (.iload_n 3, 1) := by decide +kernel
theorem dX9_measure_59 : decode cX9_measure 59 = .ok (.iadd, 1) := by decide +kernel
theorem dX9_measure_60 : decode cX9_measure 60 = .ok (.aload_n 0, 1) := by decide +kernel
theorem dX9_measure_61 : decode cX9_measure 61 = .ok (.getfield 16, 3) := by decide +kernel
theorem dX9_measure_64 : decode cX9_measure 64 = .ok (.bipush 10, 2) := by decide +kernel
theorem dX9_measure_66 : decode cX9_measure 66 = .ok (.iload_n 2, 1) := by decide +kernel
theorem dX9_measure_67 : decode cX9_measure 67 = .ok (.imul, 1) := by decide +kernel
theorem dX9_measure_68 : decode cX9_measure 68 = .ok (.iload_n 3, 1) := by decide +kernel
theorem dX9_measure_69 : decode cX9_measure 69 = .ok (.iadd, 1) := by decide +kernel
theorem dX9_measure_70 : decode cX9_measure 70 = .ok (.iaload, 1) := by decide +kernel
theorem dX9_measure_71 : decode cX9_measure 71 = .ok (.aload_n 0, 1) := by decide +kernel
theorem dX9_measure_72 : decode cX9_measure 72 = .ok (.getfield 16, 3) := by decide +kernel
theorem dX9_measure_75 : decode cX9_measure 75 = .ok (.bipush 10, 2) := by decide +kernel
theorem dX9_measure_77 : decode cX9_measure 77 = .ok (.iload_n 2, 1) := by decide +kernel
theorem dX9_measure_78 : decode cX9_measure 78 = .ok (.imul, 1) := by decide +kernel
theorem dX9_measure_79 : decode cX9_measure 79 = .ok (.iload_n 1, 1) := by decide +kernel
theorem dX9_measure_80 : decode cX9_measure 80 = .ok (.iadd, 1) := by decide +kernel
theorem dX9_measure_81 : decode cX9_measure 81 = .ok (.iaload, 1) := by decide +kernel
theorem dX9_measure_82 : decode cX9_measure 82 = .ok (.aload_n 0, 1) := by decide +kernel
theorem dX9_measure_83 : decode cX9_measure 83 = .ok (.getfield 16, 3) := by decide +kernel
theorem dX9_measure_86 : decode cX9_measure 86 = .ok (.bipush 10, 2) := by decide +kernel
theorem dX9_measure_88 : decode cX9_measure 88 = .ok (.iload_n 1, 1) := by decide +kernel
theorem dX9_measure_89 : decode cX9_measure 89 = .ok (.imul, 1) := by decide +kernel
theorem dX9_measure_90 : decode cX9_measure 90 = .ok (.iload_n 3, 1) := by decide +kernel
theorem dX9_measure_91 : decode cX9_measure 91 = .ok (.iadd, 1) := by decide +kernel
theorem dX9_measure_92 : decode cX9_measure 92 = .ok (.iaload, 1) := by decide +kernel
theorem dX9_measure_93 : decode cX9_measure 93 = .ok (.iadd, 1) := by decide +kernel
theorem dX9_measure_94 : decode cX9_measure 94 = .ok (.invokestatic 123, 3) := by decide +kernel
theorem dX9_measure_97 : decode cX9_measure 97 = .ok (.iastore, 1) := by decide +kernel
theorem dX9_measure_98 : decode cX9_measure 98 = .ok (.iinc 3 1, 3) := by decide +kernel
theorem dX9_measure_101 : decode cX9_measure 101 = .ok (.goto (-57), 3) := by decide +kernel
theorem dX9_measure_104 : decode cX9_measure 104 = .ok (.iinc 2 1, 3) := by decide +kernel
theorem dX9_measure_107 : decode cX9_measure 107 = .ok (.goto (-71), 3) := by decide +kernel
theorem dX9_measure_110 : decode cX9_measure 110 = .ok (.iinc 1 1, 3) := by decide +kernel
theorem dX9_measure_113 : decode cX9_measure 113 = .ok (.goto (-85), 3) := by decide +kernel
theorem dX9_measure_116 : decode cX9_measure 116 = .ok (.aload_n 0, 1) := by decide +kernel
theorem dX9_measure_117 : decode cX9_measure 117 = .ok (.invokevirtual 129, 3) := by decide +kernel
theorem dX9_measure_120 : decode cX9_measure 120 = .ok (.return_, 1) := by decide +kernel
theorem dX9_leastOf_0 : decode cX9_leastOf 0 = .ok (.aload_n 0, 1) := by decide +kernel
theorem dX9_leastOf_1 : decode cX9_leastOf 1 = .ok (.getfield 16, 3) := by decide +kernel
theorem dX9_leastOf_4 : decode cX9_leastOf 4 = .ok (.bipush 10, 2) := by decide +kernel
theorem dX9_leastOf_6 : decode cX9_leastOf 6 = .ok (.iload_n 1, 1) := by decide +kernel
theorem dX9_leastOf_7 : decode cX9_leastOf 7 = .ok (.imul, 1) := by decide +kernel
theorem dX9_leastOf_8 : decode cX9_leastOf 8 = .ok (.iload_n 2, 1) := by decide +kernel
theorem dX9_leastOf_9 : decode cX9_leastOf 9 = .ok (.iadd, 1) := by decide +kernel
theorem dX9_leastOf_10 : decode cX9_leastOf 10 = .ok (.iaload, 1) := by decide +kernel
theorem dX9_leastOf_11 : decode cX9_leastOf 11 = .ok (.ireturn, 1) := by decide +kernel
theorem dX9_minutes_0 : decode cX9_minutes 0 = .ok (.iload_n 1, 1) := by decide +kernel
theorem dX9_minutes_1 : decode cX9_minutes 1 = .ok (.bipush 10, 2) := by decide +kernel
theorem dX9_minutes_3 : decode cX9_minutes 3 = .ok (.invokestatic 132, 3) := by decide +kernel
theorem dX9_minutes_6 : decode cX9_minutes 6 = .ok (.ifCond .eq 17, 3) := by decide +kernel
theorem dX9_minutes_9 : decode cX9_minutes 9 = .ok (.iload_n 2, 1) := by decide +kernel
theorem dX9_minutes_10 : decode cX9_minutes 10 = .ok (.bipush 10, 2) := by decide +kernel
theorem dX9_minutes_12 : decode cX9_minutes 12 = .ok (.invokestatic 132, 3) := by decide +kernel
theorem dX9_minutes_15 : decode cX9_minutes 15 = .ok (.ifCond .eq 8, 3) := by decide +kernel
theorem dX9_minutes_18 : decode cX9_minutes 18 = .ok (.iload_n 1, 1) := by decide +kernel
theorem dX9_minutes_19 : decode cX9_minutes 19 = .ok (.iload_n 2, 1) := by decide +kernel
theorem dX9_minutes_20 : decode cX9_minutes 20 = .ok (.if_icmp .ne 9, 3) := by decide +kernel
theorem dX9_minutes_23 : decode cX9_minutes 23 = .ok (.aload_n 0, 1) := by decide +kernel
theorem dX9_minutes_24 : decode cX9_minutes 24 = .ok (.iconst (-1), 1) := by decide +kernel
theorem dX9_minutes_25 : decode cX9_minutes 25 = .ok (.invokevirtual 136, 3) := by decide +kernel
theorem dX9_minutes_28 : decode cX9_minutes 28 = .ok (.ireturn, 1) := by decide +kernel
theorem dX9_minutes_29 : decode cX9_minutes 29 = .ok (.iload_n 3, 1) := by decide +kernel
theorem dX9_minutes_30 : decode cX9_minutes 30 = .ok (.ifCond .ge 10, 3) := by decide +kernel
theorem dX9_minutes_33 : decode cX9_minutes 33 = .ok (.aload_n 0, 1) := by decide +kernel
theorem dX9_minutes_34 : decode cX9_minutes 34 = .ok (.bipush (-4), 2) := by decide +kernel
theorem dX9_minutes_36 : decode cX9_minutes 36 = .ok (.invokevirtual 136, 3) := by decide +kernel
theorem dX9_minutes_39 : decode cX9_minutes 39 = .ok (.ireturn, 1) := by decide +kernel
theorem dX9_minutes_40 : decode cX9_minutes 40 = .ok (.iload_n 3, 1) := by decide +kernel
theorem dX9_minutes_41 : decode cX9_minutes 41 = .ok (.sipush 300, 3) := by decide +kernel
theorem dX9_minutes_44 : decode cX9_minutes 44 = .ok (.if_icmp .le 10, 3) := by decide +kernel
theorem dX9_minutes_47 : decode cX9_minutes 47 = .ok (.aload_n 0, 1) := by decide +kernel
theorem dX9_minutes_48 : decode cX9_minutes 48 = .ok (.bipush (-6), 2) := by decide +kernel
theorem dX9_minutes_50 : decode cX9_minutes 50 = .ok (.invokevirtual 136, 3) := by decide +kernel
theorem dX9_minutes_53 : decode cX9_minutes 53 = .ok (.ireturn, 1) := by decide +kernel
theorem dX9_minutes_54 : decode cX9_minutes 54 = .ok (.aload_n 0, 1) := by decide +kernel
theorem dX9_minutes_55 : decode cX9_minutes 55 = .ok (.getfield 13, 3) := by decide +kernel
theorem dX9_minutes_58 : decode cX9_minutes 58 = .ok (.bipush 10, 2) := by decide +kernel
theorem dX9_minutes_60 : decode cX9_minutes 60 = .ok (.iload_n 1, 1) := by decide +kernel
theorem dX9_minutes_61 : decode cX9_minutes 61 = .ok (.imul, 1) := by decide +kernel
theorem dX9_minutes_62 : decode cX9_minutes 62 = .ok (.iload_n 2, 1) := by decide +kernel
theorem dX9_minutes_63 : decode cX9_minutes 63 = .ok (.iadd, 1) := by decide +kernel
theorem dX9_minutes_64 : decode cX9_minutes 64 = .ok (.iaload, 1) := by decide +kernel
theorem dX9_minutes_65 : decode cX9_minutes 65 = .ok (.istore 4, 2) := by decide +kernel
theorem dX9_minutes_67 : decode cX9_minutes 67 = .ok (.aload_n 0, 1) := by decide +kernel
theorem dX9_minutes_68 : decode cX9_minutes 68 = .ok (.getfield 13, 3) := by decide +kernel
theorem dX9_minutes_71 : decode cX9_minutes 71 = .ok (.bipush 10, 2) := by decide +kernel
theorem dX9_minutes_73 : decode cX9_minutes 73 = .ok (.iload_n 1, 1) := by decide +kernel
theorem dX9_minutes_74 : decode cX9_minutes 74 = .ok (.imul, 1) := by decide +kernel
theorem dX9_minutes_75 : decode cX9_minutes 75 = .ok (.iload_n 2, 1) := by decide +kernel
theorem dX9_minutes_76 : decode cX9_minutes 76 = .ok (.iadd, 1) := by decide +kernel
theorem dX9_minutes_77 : decode cX9_minutes 77 = .ok (.iload_n 3, 1) := by decide +kernel
theorem dX9_minutes_78 : decode cX9_minutes 78 = .ok (.iastore, 1) := by decide +kernel
theorem dX9_minutes_79 : decode cX9_minutes 79 = .ok (.aload_n 0, 1) := by decide +kernel
theorem dX9_minutes_80 : decode cX9_minutes 80 = .ok (.invokevirtual 116, 3) := by decide +kernel
theorem dX9_minutes_83 : decode cX9_minutes 83 = .ok (.iload 4, 2) := by decide +kernel
theorem dX9_minutes_85 : decode cX9_minutes 85 = .ok (.ireturn, 1) := by decide +kernel
theorem dX9_least_0 : decode cX9_least 0 = .ok (.iload_n 1, 1) := by decide +kernel
theorem dX9_least_1 : decode cX9_least 1 = .ok (.bipush 10, 2) := by decide +kernel
theorem dX9_least_3 : decode cX9_least 3 = .ok (.invokestatic 132, 3) := by decide +kernel
theorem dX9_least_6 : decode cX9_least 6 = .ok (.ifCond .eq 21, 3) := by decide +kernel
theorem dX9_least_9 : decode cX9_least 9 = .ok (.iload_n 2, 1) := by decide +kernel
theorem dX9_least_10 : decode cX9_least 10 = .ok (.bipush 10, 2) := by decide +kernel
theorem dX9_least_12 : decode cX9_least 12 = .ok (.invokestatic 132, 3) := by decide +kernel
theorem dX9_least_15 : decode cX9_least 15 = .ok (.ifCond .eq 12, 3) := by decide +kernel
theorem dX9_least_18 : decode cX9_least 18 = .ok (.aload_n 0, 1) := by decide +kernel
theorem dX9_least_19 : decode cX9_least 19 = .ok (.iload_n 1, 1) := by decide +kernel
theorem dX9_least_20 : decode cX9_least 20 = .ok (.iload_n 2, 1) := by decide +kernel
theorem dX9_least_21 : decode cX9_least 21 = .ok (.invokevirtual 140, 3) := by decide +kernel
theorem dX9_least_24 : decode cX9_least 24 = .ok (.goto 8, 3) := by decide +kernel
theorem dX9_least_27 : decode cX9_least 27 = .ok (.aload_n 0, 1) := by decide +kernel
theorem dX9_least_28 : decode cX9_least 28 = .ok (.iconst (-1), 1) := by decide +kernel
theorem dX9_least_29 : decode cX9_least 29 = .ok (.invokevirtual 136, 3) := by decide +kernel
theorem dX9_least_32 : decode cX9_least 32 = .ok (.ireturn, 1) := by decide +kernel
theorem dX9_person_0 : decode cX9_person 0 = .ok (.iload_n 2, 1) := by decide +kernel
theorem dX9_person_1 : decode cX9_person 1 = .ok (.bipush 10, 2) := by decide +kernel
theorem dX9_person_3 : decode cX9_person 3 = .ok (.invokestatic 132, 3) := by decide +kernel
theorem dX9_person_6 : decode cX9_person 6 = .ok (.ifCond .eq 17, 3) := by decide +kernel
theorem dX9_person_9 : decode cX9_person 9 = .ok (.iload_n 3, 1) := by decide +kernel
theorem dX9_person_10 : decode cX9_person 10 = .ok (.bipush 10, 2) := by decide +kernel
theorem dX9_person_12 : decode cX9_person 12 = .ok (.invokestatic 132, 3) := by decide +kernel
theorem dX9_person_15 : decode cX9_person 15 = .ok (.ifCond .eq 8, 3) := by decide +kernel
theorem dX9_person_18 : decode cX9_person 18 = .ok (.iload_n 2, 1) := by decide +kernel
theorem dX9_person_19 : decode cX9_person 19 = .ok (.iload_n 3, 1) := by decide +kernel
theorem dX9_person_20 : decode cX9_person 20 = .ok (.if_icmp .ne 9, 3) := by decide +kernel
theorem dX9_person_23 : decode cX9_person 23 = .ok (.aload_n 0, 1) := by decide +kernel
theorem dX9_person_24 : decode cX9_person 24 = .ok (.iconst (-1), 1) := by decide +kernel
theorem dX9_person_25 : decode cX9_person 25 = .ok (.invokevirtual 136, 3) := by decide +kernel
theorem dX9_person_28 : decode cX9_person 28 = .ok (.ireturn, 1) := by decide +kernel
theorem dX9_person_29 : decode cX9_person 29 = .ok (.iload_n 1, 1) := by decide +kernel
theorem dX9_person_30 : decode cX9_person 30 = .ok (.iconst 2, 1) := by decide +kernel
theorem dX9_person_31 : decode cX9_person 31 = .ok (.invokestatic 132, 3) := by decide +kernel
theorem dX9_person_34 : decode cX9_person 34 = .ok (.ifCond .ne 10, 3) := by decide +kernel
theorem dX9_person_37 : decode cX9_person 37 = .ok (.aload_n 0, 1) := by decide +kernel
theorem dX9_person_38 : decode cX9_person 38 = .ok (.bipush (-2), 2) := by decide +kernel
theorem dX9_person_40 : decode cX9_person 40 = .ok (.invokevirtual 136, 3) := by decide +kernel
theorem dX9_person_43 : decode cX9_person 43 = .ok (.ireturn, 1) := by decide +kernel
theorem dX9_person_44 : decode cX9_person 44 = .ok (.iload 4, 2) := by decide +kernel
theorem dX9_person_46 : decode cX9_person 46 = .ok (.ifCond .lt 18, 3) := by decide +kernel
theorem dX9_person_49 : decode cX9_person 49 = .ok (.iload 5, 2) := by decide +kernel
theorem dX9_person_51 : decode cX9_person 51 = .ok (.ifCond .lt 13, 3) := by decide +kernel
theorem dX9_person_54 : decode cX9_person 54 = .ok (.iload 6, 2) := by decide +kernel
