theorem dX6_copyOf_89 : decode cX6_copyOf 89 = .ok (.iaload, 1) := by decide +kernel
theorem dX6_copyOf_90 : decode cX6_copyOf 90 = .ok (.iastore, 1) := by decide +kernel
theorem dX6_copyOf_91 : decode cX6_copyOf 91 = .ok (.iinc 2 1, 3) := by decide +kernel
theorem dX6_copyOf_94 : decode cX6_copyOf 94 = .ok (.goto (-68), 3) := by decide +kernel
theorem dX6_copyOf_97 : decode cX6_copyOf 97 = .ok (.return_, 1) := by decide +kernel
theorem dX6_tell_0 : decode cX6_tell 0 = .ok (.iload_n 1, 1) := by decide +kernel
theorem dX6_tell_1 : decode cX6_tell 1 = .ok (.ifCond .ne 8, 3) := by decide +kernel
theorem dX6_tell_4 : decode cX6_tell 4 = .ok (.aload_n 0, 1) := by decide +kernel
theorem dX6_tell_5 : decode cX6_tell 5 = .ok (.getfield 34, 3) := by decide +kernel
theorem dX6_tell_8 : decode cX6_tell 8 = .ok (.ireturn, 1) := by decide +kernel
theorem dX6_tell_9 : decode cX6_tell 9 = .ok (.iload_n 1, 1) := by decide +kernel
theorem dX6_tell_10 : decode cX6_tell 10 = .ok (.iconst 1, 1) := by decide +kernel
theorem dX6_tell_11 : decode cX6_tell 11 = .ok (.if_icmp .ne 13, 3) := by decide +kernel
theorem dX6_tell_14 : decode cX6_tell 14 = .ok (.aload_n 0, 1) := by decide +kernel
theorem dX6_tell_15 : decode cX6_tell 15 = .ok (.getfield 34, 3) := by decide +kernel
theorem dX6_tell_18 : decode cX6_tell 18 = .ok (.aload_n 0, 1) := by decide +kernel
theorem dX6_tell_19 : decode cX6_tell 19 = .ok (.getfield 31, 3) := by decide +kernel
theorem dX6_tell_22 : decode cX6_tell 22 = .ok (.iadd, 1) := by decide +kernel
theorem dX6_tell_23 : decode cX6_tell 23 = .ok (.ireturn, 1) := by decide +kernel
theorem dX6_tell_24 : decode cX6_tell 24 = .ok (.iload_n 1, 1) := by decide +kernel
theorem dX6_tell_25 : decode cX6_tell 25 = .ok (.iconst 2, 1) := by decide +kernel
theorem dX6_tell_26 : decode cX6_tell 26 = .ok (.if_icmp .lt 27, 3) := by decide +kernel
theorem dX6_tell_29 : decode cX6_tell 29 = .ok (.iload_n 1, 1) := by decide +kernel
theorem dX6_tell_30 : decode cX6_tell 30 = .ok (.iconst 2, 1) := by decide +kernel
theorem dX6_tell_31 : decode cX6_tell 31 = .ok (.aload_n 0, 1) := by decide +kernel
theorem dX6_tell_32 : decode cX6_tell 32 = .ok (.getfield 27, 3) := by decide +kernel
theorem dX6_tell_35 : decode cX6_tell 35 = .ok (.iadd, 1) := by decide +kernel
theorem dX6_tell_36 : decode cX6_tell 36 = .ok (.if_icmp .ge 17, 3) := by decide +kernel
theorem dX6_tell_39 : decode cX6_tell 39 = .ok (.aload_n 0, 1) := by decide +kernel
theorem dX6_tell_40 : decode cX6_tell 40 = .ok (.getfield 9, 3) := by decide +kernel
theorem dX6_tell_43 : decode cX6_tell 43 = .ok (.aload_n 0, 1) := by decide +kernel
theorem dX6_tell_44 : decode cX6_tell 44 = .ok (.getfield 15, 3) := by decide +kernel
theorem dX6_tell_47 : decode cX6_tell 47 = .ok (.iload_n 1, 1) := by decide +kernel
theorem dX6_tell_48 : decode cX6_tell 48 = .ok (.iconst 2, 1) := by decide +kernel
theorem dX6_tell_49 : decode cX6_tell 49 = .ok (.isub, 1) := by decide +kernel
theorem dX6_tell_50 : decode cX6_tell 50 = .ok (.iaload, 1) := by decide +kernel
theorem dX6_tell_51 : decode cX6_tell 51 = .ok (.iaload, 1) := by decide +kernel
theorem dX6_tell_52 : decode cX6_tell 52 = .ok (.ireturn, 1) := by decide +kernel
theorem dX6_tell_53 : decode cX6_tell 53 = .ok (.iload_n 1, 1) := by decide +kernel
theorem dX6_tell_54 : decode cX6_tell 54 = .ok (.bipush 12, 2) := by decide +kernel
theorem dX6_tell_56 : decode cX6_tell 56 = .ok (.if_icmp .lt 29, 3) := by decide +kernel
theorem dX6_tell_59 : decode cX6_tell 59 = .ok (.iload_n 1, 1) := by decide +kernel
theorem dX6_tell_60 : decode cX6_tell 60 = .ok (.bipush 12, 2) := by decide +kernel
theorem dX6_tell_62 : decode cX6_tell 62 = .ok (.aload_n 0, 1) := by decide +kernel
theorem dX6_tell_63 : decode cX6_tell 63 = .ok (.getfield 27, 3) := by decide +kernel
theorem dX6_tell_66 : decode cX6_tell 66 = .ok (.iadd, 1) := by decide +kernel
theorem dX6_tell_67 : decode cX6_tell 67 = .ok (.if_icmp .ge 18, 3) := by decide +kernel
theorem dX6_tell_70 : decode cX6_tell 70 = .ok (.aload_n 0, 1) := by decide +kernel
theorem dX6_tell_71 : decode cX6_tell 71 = .ok (.getfield 9, 3) := by decide +kernel
theorem dX6_tell_74 : decode cX6_tell 74 = .ok (.aload_n 0, 1) := by decide +kernel
theorem dX6_tell_75 : decode cX6_tell 75 = .ok (.getfield 18, 3) := by decide +kernel
theorem dX6_tell_78 : decode cX6_tell 78 = .ok (.iload_n 1, 1) := by decide +kernel
theorem dX6_tell_79 : decode cX6_tell 79 = .ok (.bipush 12, 2) := by decide +kernel
theorem dX6_tell_81 : decode cX6_tell 81 = .ok (.isub, 1) := by decide +kernel
theorem dX6_tell_82 : decode cX6_tell 82 = .ok (.iaload, 1) := by decide +kernel
theorem dX6_tell_83 : decode cX6_tell 83 = .ok (.iaload, 1) := by decide +kernel
theorem dX6_tell_84 : decode cX6_tell 84 = .ok (.ireturn, 1) := by decide +kernel
theorem dX6_tell_85 : decode cX6_tell 85 = .ok (.bipush (-9), 2) := by decide +kernel
theorem dX6_tell_87 : decode cX6_tell 87 = .ok (.ireturn, 1) := by decide +kernel
theorem dX7_init_0 : decode cX7_init 0 = .ok (.aload_n 0, 1) := by decide +kernel
theorem dX7_init_1 : decode cX7_init 1 = .ok (.invokespecial 3, 3) := by decide +kernel
theorem dX7_init_4 : decode cX7_init 4 = .ok (.aload_n 0, 1) := by decide +kernel
theorem dX7_init_5 : decode cX7_init 5 = .ok (.new 9, 3) := by decide +kernel
theorem dX7_init_8 : decode cX7_init 8 = .ok (.dup, 1) := by decide +kernel
theorem dX7_init_9 : decode cX7_init 9 = .ok (.invokespecial 11, 3) := by decide +kernel
theorem dX7_init_12 : decode cX7_init 12 = .ok (.putfield 12, 3) := by decide +kernel
theorem dX7_init_15 : decode cX7_init 15 = .ok (.aload_n 0, 1) := by decide +kernel
theorem dX7_init_16 : decode cX7_init 16 = .ok (.new 9, 3) := by decide +kernel
theorem dX7_init_19 : decode cX7_init 19 = .ok (.dup, 1) := by decide +kernel
theorem dX7_init_20 : decode cX7_init 20 = .ok (.invokespecial 11, 3) := by decide +kernel
theorem dX7_init_23 : decode cX7_init 23 = .ok (.putfield 18, 3) := by decide +kernel
theorem dX7_init_26 : decode cX7_init 26 = .ok (.aload_n 0, 1) := by decide +kernel
theorem dX7_init_27 : decode cX7_init 27 = .ok (.iconst 4, 1) := by decide +kernel
theorem dX7_init_28 : decode cX7_init 28 = .ok (.newarray .int, 2) := by decide +kernel
theorem dX7_init_30 : decode cX7_init 30 = .ok (.putfield 21, 3) := by decide +kernel
theorem dX7_init_33 : decode cX7_init 33 = .ok (.aload_n 0, 1) := by decide +kernel
theorem dX7_init_34 : decode cX7_init 34 = .ok (.iconst 4, 1) := by decide +kernel
theorem dX7_init_35 : decode cX7_init 35 = .ok (.newarray .int, 2) := by decide +kernel
theorem dX7_init_37 : decode cX7_init 37 = .ok (.putfield 25, 3) := by decide +kernel
theorem dX7_init_40 : decode cX7_init 40 = .ok (.aload_n 0, 1) := by decide +kernel
theorem dX7_init_41 : decode cX7_init 41 = .ok (.iconst 4, 1) := by decide +kernel
theorem dX7_init_42 : decode cX7_init 42 = .ok (.newarray .int, 2) := by decide +kernel
theorem dX7_init_44 : decode cX7_init 44 = .ok (.putfield 28, 3) := by decide +kernel
theorem dX7_init_47 : decode cX7_init 47 = .ok (.aload_n 0, 1) := by decide +kernel
theorem dX7_init_48 : decode cX7_init 48 = .ok (.iconst 4, 1) := by decide +kernel
theorem dX7_init_49 : decode cX7_init 49 = .ok (.newarray .int, 2) := by decide +kernel
theorem dX7_init_51 : decode cX7_init 51 = .ok (.putfield 31, 3) := by decide +kernel
theorem dX7_init_54 : decode cX7_init 54 = .ok (.aload_n 0, 1) := by decide +kernel
theorem dX7_init_55 : decode cX7_init 55 = .ok (.iconst 4, 1) := by decide +kernel
theorem dX7_init_56 : decode cX7_init 56 = .ok (.newarray .int, 2) := by decide +kernel
theorem dX7_init_58 : decode cX7_init 58 = .ok (.putfield 34, 3) := by decide +kernel
theorem dX7_init_61 : decode cX7_init 61 = .ok (.aload_n 0, 1) := by decide +kernel
theorem dX7_init_62 : decode cX7_init 62 = .ok (.aload_n 1, 1) := by decide +kernel
theorem dX7_init_63 : decode cX7_init 63 = .ok (.putfield 37, 3) := by decide +kernel
theorem dX7_init_66 : decode cX7_init 66 = .ok (.aload_n 0, 1) := by decide +kernel
theorem dX7_init_67 : decode cX7_init 67 = .ok (.aload_n 2, 1) := by decide +kernel
theorem dX7_init_68 : decode cX7_init 68 = .ok (.putfield 41, 3) := by decide +kernel
theorem dX7_init_71 : decode cX7_init 71 = .ok (.aload_n 0, 1) := by decide +kernel
theorem dX7_init_72 : decode cX7_init 72 = .ok (.getfield 18, 3) := by decide +kernel
theorem dX7_init_75 : decode cX7_init 75 = .ok (.sipush 1441, 3) := by decide +kernel
theorem dX7_init_78 : decode cX7_init 78 = .ok (.putfield 45, 3) := by decide +kernel
theorem dX7_init_81 : decode cX7_init 81 = .ok (.return_, 1) := by decide +kernel
theorem dX7_reasonAgainst_0 : decode cX7_reasonAgainst 0 = .ok (.aload_n 0, 1) := by decide +kernel
theorem dX7_reasonAgainst_1 : decode cX7_reasonAgainst 1 = .ok (.getfield 41, 3) := by decide +kernel
theorem dX7_reasonAgainst_4 : decode cX7_reasonAgainst 4 = .ok (.iload_n 2, 1) := by decide +kernel
theorem dX7_reasonAgainst_5 : decode cX7_reasonAgainst 5 = .ok (.invokevirtual 49, 3) := by decide +kernel
theorem dX7_reasonAgainst_8 : decode cX7_reasonAgainst 8 = .ok (.ifCond .eq 17, 3) := by decide +kernel
theorem dX7_reasonAgainst_11 : decode cX7_reasonAgainst 11 = .ok (.aload_n 0, 1) := by decide +kernel
theorem dX7_reasonAgainst_12 : decode cX7_reasonAgainst 12 = .ok (.getfield 41, 3) := by decide +kernel
theorem dX7_reasonAgainst_15 : decode cX7_reasonAgainst 15 = .ok (.iload_n 2, 1) := by decide +kernel
theorem dX7_reasonAgainst_16 : decode cX7_reasonAgainst 16 = .ok (.invokevirtual 55, 3) := by decide +kernel
theorem dX7_reasonAgainst_19 : decode cX7_reasonAgainst 19 = .ok (.invokevirtual 59, 3) := by decide +kernel
theorem dX7_reasonAgainst_22 : decode cX7_reasonAgainst 22 = .ok (.ifCond .ne 5, 3) := by decide +kernel
theorem dX7_reasonAgainst_25 : decode cX7_reasonAgainst 25 = .ok (.iconst 1, 1) := by decide +kernel
theorem dX7_reasonAgainst_26 : decode cX7_reasonAgainst 26 = .ok (.ireturn, 1) := by decide +kernel
theorem dX7_reasonAgainst_27 : decode cX7_reasonAgainst 27 = .ok (.aload_n 0, 1) := by decide +kernel
theorem dX7_reasonAgainst_28 : decode cX7_reasonAgainst 28 = .ok (.getfield 41, 3) := by decide +kernel
theorem dX7_reasonAgainst_31 : decode cX7_reasonAgainst 31 = .ok (.iload_n 1, 1) := by decide +kernel
theorem dX7_reasonAgainst_32 : decode cX7_reasonAgainst 32 = .ok (.iload_n 2, 1) := by decide +kernel
theorem dX7_reasonAgainst_33 : decode cX7_reasonAgainst 33 = .ok (.invokevirtual 65, 3) := by decide +kernel
theorem dX7_reasonAgainst_36 : decode cX7_reasonAgainst 36 = .ok (.ifCond .ne 5, 3) := by decide +kernel
theorem dX7_reasonAgainst_39 : decode cX7_reasonAgainst 39 = .ok (.iconst 2, 1) := by decide +kernel
theorem dX7_reasonAgainst_40 : decode cX7_reasonAgainst 40 = .ok (.ireturn, 1) := by decide +kernel
theorem dX7_reasonAgainst_41 : decode cX7_reasonAgainst 41 = .ok (.aload_n 0, 1) := by decide +kernel
theorem dX7_reasonAgainst_42 : decode cX7_reasonAgainst 42 = .ok (.getfield 41, 3) := by decide +kernel
theorem dX7_reasonAgainst_45 : decode cX7_reasonAgainst 45 = .ok (.iload_n 1, 1) := by decide +kernel
theorem dX7_reasonAgainst_46 : decode cX7_reasonAgainst 46 = .ok (.invokevirtual 69, 3) := by decide +kernel
theorem dX7_reasonAgainst_49 : decode cX7_reasonAgainst 49 = .ok (.ifCond .eq 5, 3) := by decide +kernel
theorem dX7_reasonAgainst_52 : decode cX7_reasonAgainst 52 = .ok (.iconst 3, 1) := by decide +kernel
theorem dX7_reasonAgainst_53 : decode cX7_reasonAgainst 53 = .ok (.ireturn, 1) := by decide +kernel
theorem dX7_reasonAgainst_54 : decode cX7_reasonAgainst 54 = .ok (.aload_n 0, 1) := by decide +kernel
theorem dX7_reasonAgainst_55 : decode cX7_reasonAgainst 55 = .ok (.iload_n 1, 1) := by decide +kernel
theorem dX7_reasonAgainst_56 : decode cX7_reasonAgainst 56 = .ok (.invokevirtual 72, 3) := by decide +kernel
theorem dX7_reasonAgainst_59 : decode cX7_reasonAgainst 59 = .ok (.iload_n 1, 1) := by decide +kernel
theorem dX7_reasonAgainst_60 : decode cX7_reasonAgainst 60 = .ok (.iconst 1, 1) := by decide +kernel
theorem dX7_reasonAgainst_61 : decode cX7_reasonAgainst 61 = .ok (.iload_n 2, 1) := by decide +kernel
theorem dX7_reasonAgainst_62 : decode cX7_reasonAgainst 62 = .ok (.ishl, 1) := by decide +kernel
theorem dX7_reasonAgainst_63 : decode cX7_reasonAgainst 63 = .ok (.iconst 1, 1) := by decide +kernel
theorem dX7_reasonAgainst_64 : decode cX7_reasonAgainst 64 = .ok (.isub, 1) := by decide +kernel
theorem dX7_reasonAgainst_65 : decode cX7_reasonAgainst 65 = .ok (.iand, 1) := by decide +kernel
theorem dX7_reasonAgainst_66 : decode cX7_reasonAgainst 66 = .ok (.invokestatic 76, 3) := by decide +kernel
theorem dX7_reasonAgainst_69 : decode cX7_reasonAgainst 69 = .ok (.istore_n 3, 1) := by decide +kernel
theorem dX7_reasonAgainst_70 : decode cX7_reasonAgainst 70 = .ok (.aload_n 0, 1) := by decide +kernel
theorem dX7_reasonAgainst_71 : decode cX7_reasonAgainst 71 = .ok (.getfield 12, 3) := by decide +kernel
theorem dX7_reasonAgainst_74 : decode cX7_reasonAgainst 74 = .ok (.getfield 82, 3) := by decide +kernel
theorem dX7_reasonAgainst_77 : decode cX7_reasonAgainst 77 = .ok (.iconst 0, 1) := by decide +kernel
theorem dX7_reasonAgainst_78 : decode cX7_reasonAgainst 78 = .ok (.iload_n 3, 1) := by decide +kernel
theorem dX7_reasonAgainst_79 : decode cX7_reasonAgainst 79 = .ok (.iastore, 1) := by decide +kernel
theorem dX7_reasonAgainst_80 : decode cX7_reasonAgainst 80 = .ok (.aload_n 0, 1) := by decide +kernel
theorem dX7_reasonAgainst_81 : decode cX7_reasonAgainst 81 = .ok (.getfield 12, 3) := by decide +kernel
theorem dX7_reasonAgainst_84 : decode cX7_reasonAgainst 84 = .ok (.getfield 85, 3) := by decide +kernel
theorem dX7_reasonAgainst_87 : decode cX7_reasonAgainst 87 = .ok (.iload_n 3, 1) := by decide +kernel
theorem dX7_reasonAgainst_88 : decode cX7_reasonAgainst 88 = .ok (.iconst 0, 1) := by decide +kernel
theorem dX7_reasonAgainst_89 : decode cX7_reasonAgainst 89 = .ok (.iastore, 1) := by decide +kernel
theorem dX7_reasonAgainst_90 : decode cX7_reasonAgainst 90 = .ok (.aload_n 0, 1) := by decide +kernel
theorem dX7_reasonAgainst_91 : decode cX7_reasonAgainst 91 = .ok (.getfield 18, 3) := by decide +kernel
theorem dX7_reasonAgainst_94 : decode cX7_reasonAgainst 94 = .ok (.sipush 1441, 3) := by decide +kernel
theorem dX7_reasonAgainst_97 : decode cX7_reasonAgainst 97 = .ok (.putfield 45, 3) := by decide +kernel
theorem dX7_reasonAgainst_100 : decode cX7_reasonAgainst 100 = .ok (.aload_n 0, 1) := by decide +kernel
theorem dX7_reasonAgainst_101 : decode cX7_reasonAgainst 101 = .ok (.iconst 1, 1) := by decide +kernel
theorem dX7_reasonAgainst_102 : decode cX7_reasonAgainst 102 = .ok (.aload_n 0, 1) := by decide +kernel
theorem dX7_reasonAgainst_103 : decode cX7_reasonAgainst 103 = .ok (.invokevirtual 88, 3) := by decide +kernel
theorem dX7_reasonAgainst_106 : decode cX7_reasonAgainst 106 = .ok (.iconst 1, 1) := by decide +kernel
theorem dX7_reasonAgainst_107 : decode cX7_reasonAgainst 107 = .ok (.iload_n 3, 1) := by decide +kernel
theorem dX7_reasonAgainst_108 : decode cX7_reasonAgainst 108 = .ok (.ishl, 1) := by decide +kernel
theorem dX7_reasonAgainst_109 : decode cX7_reasonAgainst 109 = .ok (.iconst (-1), 1) := by decide +kernel
theorem dX7_reasonAgainst_110 : decode cX7_reasonAgainst 110 = .ok (.ixor, 1) := by decide +kernel
theorem dX7_reasonAgainst_111 : decode cX7_reasonAgainst 111 = .ok (.iand, 1) := by decide +kernel
theorem dX7_reasonAgainst_112 : decode cX7_reasonAgainst 112 = .ok (.iconst 0, 1) := by decide +kernel
theorem dX7_reasonAgainst_113 : decode cX7_reasonAgainst 113 = .ok (.aload_n 0, 1) := by decide +kernel
theorem dX7_reasonAgainst_114 : decode cX7_reasonAgainst 114 = .ok (.getfield 28, 3) := by decide +kernel
theorem dX7_reasonAgainst_117 : decode cX7_reasonAgainst 117 = .ok (.iload_n 3, 1) := by decide +kernel
theorem dX7_reasonAgainst_118 : decode cX7_reasonAgainst 118 = .ok (.iaload, 1) := by decide +kernel
theorem dX7_reasonAgainst_119 : decode cX7_reasonAgainst 119 = .ok (.invokevirtual 92, 3) := by decide +kernel
theorem dX7_reasonAgainst_122 : decode cX7_reasonAgainst 122 = .ok (.aload_n 0, 1) := by decide +kernel
theorem dX7_reasonAgainst_123 : decode cX7_reasonAgainst 123 = .ok (.getfield 18, 3) := by decide +kernel
theorem dX7_reasonAgainst_126 : decode cX7_reasonAgainst 126 = .ok (.getfield 45, 3) := by decide +kernel
theorem dX7_reasonAgainst_129 : decode cX7_reasonAgainst 129 = .ok (.sipush 1441, 3) := by decide +kernel
theorem dX7_reasonAgainst_132 : decode cX7_reasonAgainst 132 = .ok (.if_icmp .ne 7, 3) := by decide +kernel
theorem dX7_reasonAgainst_135 : decode cX7_reasonAgainst 135 = .ok (.iconst 4, 1) := by decide +kernel
theorem dX7_reasonAgainst_136 : decode cX7_reasonAgainst 136 = .ok (.goto 4, 3) := by decide +kernel
theorem dX7_reasonAgainst_139 : decode cX7_reasonAgainst 139 = .ok (.iconst 0, 1) := by decide +kernel
theorem dX7_reasonAgainst_140 : decode cX7_reasonAgainst 140 = .ok (.ireturn, 1) := by decide +kernel
theorem dX7_found_0 : decode cX7_found 0 = .ok (.aload_n 0, 1) := by decide +kernel
theorem dX7_found_1 : decode cX7_found 1 = .ok (.getfield 18, 3) := by decide +kernel
theorem dX7_found_4 : decode cX7_found 4 = .ok (.areturn, 1) := by decide +kernel
theorem dX7_load_0 : decode cX7_load 0 = .ok (.aload_n 0, 1) := by decide +kernel
theorem dX7_load_1 : decode cX7_load 1 = .ok (.getfield 12, 3) := by decide +kernel
theorem dX7_load_4 : decode cX7_load 4 = .ok (.iconst 0, 1) := by decide +kernel
theorem dX7_load_5 : decode cX7_load 5 = .ok (.putfield 96, 3) := by decide +kernel
theorem dX7_load_8 : decode cX7_load 8 = .ok (.iconst 0, 1) := by decide +kernel
theorem dX7_load_9 : decode cX7_load 9 = .ok (.istore_n 2, 1) := by decide +kernel
theorem dX7_load_10 : decode cX7_load 10 = .ok (.iload_n 2, 1) := by decide +kernel
theorem dX7_load_11 : decode cX7_load 11 = .ok (.bipush 9, 2) := by decide +kernel
theorem dX7_load_13 : decode cX7_load 13 = .ok (.if_icmp .ge 53, 3) := by decide +kernel
theorem dX7_load_16 : decode cX7_load 16 = .ok (.iload_n 1, 1) := by decide +kernel
theorem dX7_load_17 : decode cX7_load 17 = .ok (.iload_n 2, 1) := by decide +kernel
theorem dX7_load_18 : decode cX7_load 18 = .ok (.invokestatic 99, 3) := by decide +kernel
theorem dX7_load_21 : decode cX7_load 21 = .ok (.ifCond .eq 39, 3) := by decide +kernel
theorem dX7_load_24 : decode cX7_load 24 = .ok (.aload_n 0, 1) := by decide +kernel
theorem dX7_load_25 : decode cX7_load 25 = .ok (.getfield 12, 3) := by decide +kernel
theorem dX7_load_28 : decode cX7_load 28 = .ok (.getfield 96, 3) := by decide +kernel
theorem dX7_load_31 : decode cX7_load 31 = .ok (.iconst 4, 1) := by decide +kernel
theorem dX7_load_32 : decode cX7_load 32 = .ok (.if_icmp .ge 28, 3) := by decide +kernel
theorem dX7_load_35 : decode cX7_load 35 = .ok (.aload_n 0, 1) := by decide +kernel
theorem dX7_load_36 : decode cX7_load 36 = .ok (.aload_n 0, 1) := by decide +kernel
theorem dX7_load_37 : decode cX7_load 37 = .ok (.getfield 12, 3) := by decide +kernel
theorem dX7_load_40 : decode cX7_load 40 = .ok (.getfield 96, 3) := by decide +kernel
theorem dX7_load_43 : decode cX7_load 43 = .ok (.iload_n 2, 1) := by decide +kernel
theorem dX7_load_44 : decode cX7_load 44 = .ok (.invokevirtual 102, 3) := by decide +kernel
theorem dX7_load_47 : decode cX7_load 47 = .ok (.aload_n 0, 1) := by decide +kernel
theorem dX7_load_48 : decode cX7_load 48 = .ok (.getfield 12, 3) := by decide +kernel
theorem dX7_load_51 : decode cX7_load 51 = .ok (.dup, 1) := by decide +kernel
theorem dX7_load_52 : decode cX7_load 52 = .ok (.getfield 96, 3) := by decide +kernel
theorem dX7_load_55 : decode cX7_load 55 = .ok (.iconst 1, 1) := by decide +kernel
theorem dX7_load_56 : decode cX7_load 56 = .ok (.iadd, 1) := by decide +kernel
theorem dX7_load_57 : decode cX7_load 57 = .ok (.putfield 96, 3) := by decide +kernel
theorem dX7_load_60 : decode cX7_load 60 = .ok (.iinc 2 1, 3) := by decide +kernel
theorem dX7_load_63 : decode cX7_load 63 = .ok (.goto (-53), 3) := by decide +kernel
theorem dX7_load_66 : decode cX7_load 66 = .ok (.return_, 1) := by decide +kernel
theorem dX7_loadOne_0 : decode cX7_loadOne 0 = .ok (.aload_n 0, 1) := by decide +kernel
theorem dX7_loadOne_1 : decode cX7_loadOne 1 = .ok (.getfield 41, 3) := by decide +kernel
theorem dX7_loadOne_4 : decode cX7_loadOne 4 = .ok (.iload_n 2, 1) := by decide +kernel
theorem dX7_loadOne_5 : decode cX7_loadOne 5 = .ok (.invokevirtual 55, 3) := by decide +kernel
theorem dX7_loadOne_8 : decode cX7_loadOne 8 = .ok (.astore_n 3, 1) := by decide +kernel
theorem dX7_loadOne_9 : decode cX7_loadOne 9 = .ok (.aload_n 0, 1) := by decide +kernel
theorem dX7_loadOne_10 : decode cX7_loadOne 10 = .ok (.getfield 12, 3) := by decide +kernel
theorem dX7_loadOne_13 : decode cX7_loadOne 13 = .ok (.getfield 106, 3) := by decide +kernel
theorem dX7_loadOne_16 : decode cX7_loadOne 16 = .ok (.iload_n 1, 1) := by decide +kernel
theorem dX7_loadOne_17 : decode cX7_loadOne 17 = .ok (.iload_n 2, 1) := by decide +kernel
theorem dX7_loadOne_18 : decode cX7_loadOne 18 = .ok (.iastore, 1) := by decide +kernel
theorem dX7_loadOne_19 : decode cX7_loadOne 19 = .ok (.aload_n 0, 1) := by decide +kernel
theorem dX7_loadOne_20 : decode cX7_loadOne 20 = .ok (.getfield 21, 3) := by decide +kernel
theorem dX7_loadOne_23 : decode cX7_loadOne 23 = .ok (.iload_n 1, 1) := by decide +kernel
theorem dX7_loadOne_24 : decode cX7_loadOne 24 = .ok (.aload_n 3, 1) := by decide +kernel
theorem dX7_loadOne_25 : decode cX7_loadOne 25 = .ok (.getfield 109, 3) := by decide +kernel
theorem dX7_loadOne_28 : decode cX7_loadOne 28 = .ok (.iastore, 1) := by decide +kernel
theorem dX7_loadOne_29 : decode cX7_loadOne 29 = .ok (.aload_n 0, 1) := by decide +kernel
theorem dX7_loadOne_30 : decode cX7_loadOne 30 = .ok (.getfield 25, 3) := by decide +kernel
theorem dX7_loadOne_33 : decode cX7_loadOne 33 = .ok (.iload_n 1, 1) := by decide +kernel
theorem dX7_loadOne_34 : decode cX7_loadOne 34 = .ok (.aload_n 3, 1) := by decide +kernel
theorem dX7_loadOne_35 : decode cX7_loadOne 35 = .ok (.getfield 111, 3) := by decide +kernel
theorem dX7_loadOne_38 : decode cX7_loadOne 38 = .ok (.iastore, 1) := by decide +kernel
theorem dX7_loadOne_39 : decode cX7_loadOne 39 = .ok (.aload_n 0, 1) := by decide +kernel
theorem dX7_loadOne_40 : decode cX7_loadOne 40 = .ok (.getfield 28, 3) := by decide +kernel
theorem dX7_loadOne_43 : decode cX7_loadOne 43 = .ok (.iload_n 1, 1) := by decide +kernel
theorem dX7_loadOne_44 : decode cX7_loadOne 44 = .ok (.aload_n 3, 1) := by decide +kernel
theorem dX7_loadOne_45 : decode cX7_loadOne 45 = .ok (.getfield 113, 3) := by decide +kernel
theorem dX7_loadOne_48 : decode cX7_loadOne 48 = .ok (.iastore, 1) := by decide +kernel
theorem dX7_loadOne_49 : decode cX7_loadOne 49 = .ok (.aload_n 0, 1) := by decide +kernel
theorem dX7_loadOne_50 : decode cX7_loadOne 50 = .ok (.getfield 31, 3) := by decide +kernel
theorem dX7_loadOne_53 : decode cX7_loadOne 53 = .ok (.iload_n 1, 1) := by decide +kernel
theorem dX7_loadOne_54 : decode cX7_loadOne 54 = .ok (.aload_n 3, 1) := by decide +kernel
theorem dX7_loadOne_55 : decode cX7_loadOne 55 = .ok (.getfield 115, 3) := by decide +kernel
theorem dX7_loadOne_58 : decode cX7_loadOne 58 = .ok (.iastore, 1) := by decide +kernel
theorem dX7_loadOne_59 : decode cX7_loadOne 59 = .ok (.aload_n 0, 1) := by decide +kernel
theorem dX7_loadOne_60 : decode cX7_loadOne 60 = .ok (.getfield 34, 3) := by decide +kernel
theorem dX7_loadOne_63 : decode cX7_loadOne 63 = .ok (.iload_n 1, 1) := by decide +kernel
theorem dX7_loadOne_64 : decode cX7_loadOne 64 = .ok (.aload_n 0, 1) := by decide +kernel
theorem dX7_loadOne_65 : decode cX7_loadOne 65 = .ok (.getfield 37, 3) := by decide +kernel
theorem dX7_loadOne_68 : decode cX7_loadOne 68 = .ok (.aload_n 3, 1) := by decide +kernel
theorem dX7_loadOne_69 : decode cX7_loadOne 69 = .ok (.getfield 109, 3) := by decide +kernel
theorem dX7_loadOne_72 : decode cX7_loadOne 72 = .ok (.aload_n 3, 1) := by decide +kernel
theorem dX7_loadOne_73 : decode cX7_loadOne 73 = .ok (.getfield 111, 3) := by decide +kernel
theorem dX7_loadOne_76 : decode cX7_loadOne 76 = .ok (.invokevirtual 117, 3) := by decide +kernel
theorem dX7_loadOne_79 : decode cX7_loadOne 79 = .ok (.aload_n 3, 1) := by decide +kernel
theorem dX7_loadOne_80 : decode cX7_loadOne 80 = .ok (.getfield 123, 3) := by decide +kernel
theorem dX7_loadOne_83 : decode cX7_loadOne 83 = .ok (.iadd, 1) := by decide +kernel
theorem dX7_loadOne_84 : decode cX7_loadOne 84 = .ok (.iastore, 1) := by decide +kernel
theorem dX7_loadOne_85 : decode cX7_loadOne 85 = .ok (.return_, 1) := by decide +kernel
theorem dX7_allPlaces_0 : decode cX7_allPlaces 0 = .ok (.iconst 1, 1) := by decide +kernel
theorem dX7_allPlaces_1 : decode cX7_allPlaces 1 = .ok (.aload_n 0, 1) := by decide +kernel
theorem dX7_allPlaces_2 : decode cX7_allPlaces 2 = .ok (.getfield 12, 3) := by decide +kernel
theorem dX7_allPlaces_5 : decode cX7_allPlaces 5 = .ok (.getfield 96, 3) := by decide +kernel
theorem dX7_allPlaces_8 : decode cX7_allPlaces 8 = .ok (.ishl, 1) := by decide +kernel
theorem dX7_allPlaces_9 : decode cX7_allPlaces 9 = .ok (.iconst 1, 1) := by decide +kernel
theorem dX7_allPlaces_10 : decode cX7_allPlaces 10 = .ok (.isub, 1) := by decide +kernel
theorem dX7_allPlaces_11 : decode cX7_allPlaces 11 = .ok (.ireturn, 1) := by decide +kernel
theorem dX7_pickNext_0 : decode cX7_pickNext 0 = .ok (.aload_n 0, 1) := by decide +kernel
theorem dX7_pickNext_1 : decode cX7_pickNext 1 = .ok (.getfield 21, 3) := by decide +kernel
theorem dX7_pickNext_4 : decode cX7_pickNext 4 = .ok (.aload_n 0, 1) := by decide +kernel
theorem dX7_pickNext_5 : decode cX7_pickNext 5 = .ok (.getfield 12, 3) := by decide +kernel
theorem dX7_pickNext_8 : decode cX7_pickNext 8 = .ok (.getfield 82, 3) := by decide +kernel
theorem dX7_pickNext_11 : decode cX7_pickNext 11 = .ok (.iload_n 1, 1) := by decide +kernel
theorem dX7_pickNext_12 : decode cX7_pickNext 12 = .ok (.iconst 1, 1) := by decide +kernel
theorem dX7_pickNext_13 : decode cX7_pickNext 13 = .ok (.isub, 1) := by decide +kernel
theorem dX7_pickNext_14 : decode cX7_pickNext 14 = .ok (.iaload, 1) := by decide +kernel
theorem dX7_pickNext_15 : decode cX7_pickNext 15 = .ok (.iaload, 1) := by decide +kernel
theorem dX7_pickNext_16 : decode cX7_pickNext 16 = .ok (.istore 5, 2) := by decide +kernel
theorem dX7_pickNext_18 : decode cX7_pickNext 18 = .ok (.iload_n 1, 1) := by decide +kernel
theorem dX7_pickNext_19 : decode cX7_pickNext 19 = .ok (.aload_n 0, 1) := by decide +kernel
theorem dX7_pickNext_20 : decode cX7_pickNext 20 = .ok (.getfield 12, 3) := by decide +kernel
theorem dX7_pickNext_23 : decode cX7_pickNext 23 = .ok (.getfield 96, 3) := by decide +kernel
theorem dX7_pickNext_26 : decode cX7_pickNext 26 = .ok (.if_icmp .lt 21, 3) := by decide +kernel
theorem dX7_pickNext_29 : decode cX7_pickNext 29 = .ok (.aload_n 0, 1) := by decide +kernel
theorem dX7_pickNext_30 : decode cX7_pickNext 30 = .ok (.iconst 0, 1) := by decide +kernel
theorem dX7_pickNext_31 : decode cX7_pickNext 31 = .ok (.aload_n 0, 1) := by decide +kernel
theorem dX7_pickNext_32 : decode cX7_pickNext 32 = .ok (.invokevirtual 88, 3) := by decide +kernel
theorem dX7_pickNext_35 : decode cX7_pickNext 35 = .ok (.iload 5, 2) := by decide +kernel
theorem dX7_pickNext_37 : decode cX7_pickNext 37 = .ok (.iload_n 3, 1) := by decide +kernel
theorem dX7_pickNext_38 : decode cX7_pickNext 38 = .ok (.iload 4, 2) := by decide +kernel
theorem dX7_pickNext_40 : decode cX7_pickNext 40 = .ok (.sipush 1440, 3) := by decide +kernel
theorem dX7_pickNext_43 : decode cX7_pickNext 43 = .ok (.invokevirtual 126, 3) := by decide +kernel
theorem dX7_pickNext_46 : decode cX7_pickNext 46 = .ok (.return_, 1) := by decide +kernel
theorem dX7_pickNext_47 : decode cX7_pickNext 47 = .ok (.iconst 0, 1) := by decide +kernel
theorem dX7_pickNext_48 : decode cX7_pickNext 48 = .ok (.istore 6, 2) := by decide +kernel
theorem dX7_pickNext_50 : decode cX7_pickNext 50 = .ok (.iload 6, 2) := by decide +kernel
theorem dX7_pickNext_52 : decode cX7_pickNext 52 = .ok (.aload_n 0, 1) := by decide +kernel
theorem dX7_pickNext_53 : decode cX7_pickNext 53 = .ok (.getfield 12, 3) := by decide +kernel
theorem dX7_pickNext_56 : decode cX7_pickNext 56 = .ok (.getfield 96, 3) := by decide +kernel
theorem dX7_pickNext_59 : decode cX7_pickNext 59 = .ok (.if_icmp .ge 105, 3) := by decide +kernel
theorem dX7_pickNext_62 : decode cX7_pickNext 62 = .ok (.iload_n 2, 1) := by decide +kernel
theorem dX7_pickNext_63 : decode cX7_pickNext 63 = .ok (.iload 6, 2) := by decide +kernel
theorem dX7_pickNext_65 : decode cX7_pickNext 65 = .ok (.invokestatic 99, 3) := by decide +kernel
theorem dX7_pickNext_68 : decode cX7_pickNext 68 = .ok (.ifCond .eq 90, 3) := by decide +kernel
theorem dX7_pickNext_71 : decode cX7_pickNext 71 = .ok (.iload_n 3, 1) := by decide +kernel
theorem dX7_pickNext_72 : decode cX7_pickNext 72 = .ok (.aload_n 0, 1) := by decide +kernel
theorem dX7_pickNext_73 : decode cX7_pickNext 73 = .ok (.getfield 37, 3) := by decide +kernel
theorem dX7_pickNext_76 : decode cX7_pickNext 76 = .ok (.iload 5, 2) := by decide +kernel
theorem dX7_pickNext_78 : decode cX7_pickNext 78 = .ok (.aload_n 0, 1) := by decide +kernel
theorem dX7_pickNext_79 : decode cX7_pickNext 79 = .ok (.getfield 21, 3) := by decide +kernel
theorem dX7_pickNext_82 : decode cX7_pickNext 82 = .ok (.iload 6, 2) := by decide +kernel
theorem dX7_pickNext_84 : decode cX7_pickNext 84 = .ok (.iaload, 1) := by decide +kernel
theorem dX7_pickNext_85 : decode cX7_pickNext 85 = .ok (.invokevirtual 117, 3) := by decide +kernel
theorem dX7_pickNext_88 : decode cX7_pickNext 88 = .ok (.iadd, 1) := by decide +kernel
theorem dX7_pickNext_89 : decode cX7_pickNext 89 = .ok (.istore 7, 2) := by decide +kernel
theorem dX7_pickNext_91 : decode cX7_pickNext 91 = .ok (.iload 7, 2) := by decide +kernel
theorem dX7_pickNext_93 : decode cX7_pickNext 93 = .ok (.aload_n 0, 1) := by decide +kernel
theorem dX7_pickNext_94 : decode cX7_pickNext 94 = .ok (.getfield 18, 3) := by decide +kernel
theorem dX7_pickNext_97 : decode cX7_pickNext 97 = .ok (.getfield 45, 3) := by decide +kernel
theorem dX7_pickNext_100 : decode cX7_pickNext 100 = .ok (.if_icmp .ge 58, 3) := by decide +kernel
theorem dX7_pickNext_103 : decode cX7_pickNext 103 = .ok (.aload_n 0, 1) := by decide +kernel
theorem dX7_pickNext_104 : decode cX7_pickNext 104 = .ok (.getfield 12, 3) := by decide +kernel
theorem dX7_pickNext_107 : decode cX7_pickNext 107 = .ok (.getfield 82, 3) := by decide +kernel
theorem dX7_pickNext_110 : decode cX7_pickNext 110 = .ok (.iload_n 1, 1) := by decide +kernel
theorem dX7_pickNext_111 : decode cX7_pickNext 111 = .ok (.iload 6, 2) := by decide +kernel
theorem dX7_pickNext_113 : decode cX7_pickNext 113 = .ok (.iastore, 1) := by decide +kernel
theorem dX7_pickNext_114 : decode cX7_pickNext 114 = .ok (.aload_n 0, 1) := by decide +kernel
theorem dX7_pickNext_115 : decode cX7_pickNext 115 = .ok (.getfield 12, 3) := by decide +kernel
theorem dX7_pickNext_118 : decode cX7_pickNext 118 = .ok (.getfield 85, 3) := by decide +kernel
theorem dX7_pickNext_121 : decode cX7_pickNext 121 = .ok (.iload 6, 2) := by decide +kernel
theorem dX7_pickNext_123 : decode cX7_pickNext 123 = .ok (.iload 7, 2) := by decide +kernel
theorem dX7_pickNext_125 : decode cX7_pickNext 125 = .ok (.iastore, 1) := by decide +kernel
theorem dX7_pickNext_126 : decode cX7_pickNext 126 = .ok (.aload_n 0, 1) := by decide +kernel
theorem dX7_pickNext_127 : decode cX7_pickNext 127 = .ok (.iload_n 1, 1) := by decide +kernel
theorem dX7_pickNext_128 : decode cX7_pickNext 128 = .ok (.iconst 1, 1) := by decide +kernel
theorem dX7_pickNext_129 : decode cX7_pickNext 129 = .ok (.iadd, 1) := by decide +kernel
theorem dX7_pickNext_130 : decode cX7_pickNext 130 = .ok (.iload_n 2, 1) := by decide +kernel
theorem dX7_pickNext_131 : decode cX7_pickNext 131 = .ok (.iconst 1, 1) := by decide +kernel
theorem dX7_pickNext_132 : decode cX7_pickNext 132 = .ok (.iload 6, 2) := by decide +kernel
theorem dX7_pickNext_134 : decode cX7_pickNext 134 = .ok (.ishl, 1) := by decide +kernel
theorem dX7_pickNext_135 : decode cX7_pickNext 135 = .ok (.iconst (-1), 1) := by decide +kernel
theorem dX7_pickNext_136 : decode cX7_pickNext 136 = .ok (.ixor, 1) := by decide +kernel
theorem dX7_pickNext_137 : decode cX7_pickNext 137 = .ok (.iand, 1) := by decide +kernel
theorem dX7_pickNext_138 : decode cX7_pickNext 138 = .ok (.iload 7, 2) := by decide +kernel
theorem dX7_pickNext_140 : decode cX7_pickNext 140 = .ok (.iload 4, 2) := by decide +kernel
theorem dX7_pickNext_142 : decode cX7_pickNext 142 = .ok (.aload_n 0, 1) := by decide +kernel
theorem dX7_pickNext_143 : decode cX7_pickNext 143 = .ok (.getfield 28, 3) := by decide +kernel
theorem dX7_pickNext_146 : decode cX7_pickNext 146 = .ok (.iload 6, 2) := by decide +kernel
theorem dX7_pickNext_148 : decode cX7_pickNext 148 = .ok (.iaload, 1) := by decide +kernel
theorem dX7_pickNext_149 : decode cX7_pickNext 149 = .ok (.iload 7, 2) := by decide +kernel
theorem dX7_pickNext_151 : decode cX7_pickNext 151 = .ok (.isub, 1) := by decide +kernel
theorem dX7_pickNext_152 : decode cX7_pickNext 152 = .ok (.invokestatic 130, 3) := by decide +kernel
theorem dX7_pickNext_155 : decode cX7_pickNext 155 = .ok (.invokevirtual 92, 3) := by decide +kernel
theorem dX7_pickNext_158 : decode cX7_pickNext 158 = .ok (.iinc 6 1, 3) := by decide +kernel
theorem dX7_pickNext_161 : decode cX7_pickNext 161 = .ok (.goto (-111), 3) := by decide +kernel
theorem dX7_pickNext_164 : decode cX7_pickNext 164 = .ok (.return_, 1) := by decide +kernel
theorem dX7_bringNext_0 : decode cX7_bringNext 0 = .ok (.iload_n 1, 1) := by decide +kernel
theorem dX7_bringNext_1 : decode cX7_bringNext 1 = .ok (.aload_n 0, 1) := by decide +kernel
theorem dX7_bringNext_2 : decode cX7_bringNext 2 = .ok (.getfield 12, 3) := by decide +kernel
theorem dX7_bringNext_5 : decode cX7_bringNext 5 = .ok (.getfield 96, 3) := by decide +kernel
theorem dX7_bringNext_8 : decode cX7_bringNext 8 = .ok (.if_icmp .lt 33, 3) := by decide +kernel
theorem dX7_bringNext_11 : decode cX7_bringNext 11 = .ok (.aload_n 0, 1) := by decide +kernel
theorem dX7_bringNext_12 : decode cX7_bringNext 12 = .ok (.getfield 12, 3) := by decide +kernel
theorem dX7_bringNext_15 : decode cX7_bringNext 15 = .ok (.iload 4, 2) := by decide +kernel
theorem dX7_bringNext_17 : decode cX7_bringNext 17 = .ok (.putfield 45, 3) := by decide +kernel
theorem dX7_bringNext_20 : decode cX7_bringNext 20 = .ok (.aload_n 0, 1) := by decide +kernel
theorem dX7_bringNext_21 : decode cX7_bringNext 21 = .ok (.getfield 12, 3) := by decide +kernel
theorem dX7_bringNext_24 : decode cX7_bringNext 24 = .ok (.iload 6, 2) := by decide +kernel
theorem dX7_bringNext_26 : decode cX7_bringNext 26 = .ok (.putfield 135, 3) := by decide +kernel
theorem dX7_bringNext_29 : decode cX7_bringNext 29 = .ok (.aload_n 0, 1) := by decide +kernel
theorem dX7_bringNext_30 : decode cX7_bringNext 30 = .ok (.getfield 18, 3) := by decide +kernel
theorem dX7_bringNext_33 : decode cX7_bringNext 33 = .ok (.aload_n 0, 1) := by decide +kernel
theorem dX7_bringNext_34 : decode cX7_bringNext 34 = .ok (.getfield 12, 3) := by decide +kernel
theorem dX7_bringNext_37 : decode cX7_bringNext 37 = .ok (.invokevirtual 138, 3) := by decide +kernel
theorem dX7_bringNext_40 : decode cX7_bringNext 40 = .ok (.return_, 1) := by decide +kernel
theorem dX7_bringNext_41 : decode cX7_bringNext 41 = .ok (.iconst 0, 1) := by decide +kernel
theorem dX7_bringNext_42 : decode cX7_bringNext 42 = .ok (.istore 7, 2) := by decide +kernel
theorem dX7_bringNext_44 : decode cX7_bringNext 44 = .ok (.iload 7, 2) := by decide +kernel
theorem dX7_bringNext_46 : decode cX7_bringNext 46 = .ok (.aload_n 0, 1) := by decide +kernel
theorem dX7_bringNext_47 : decode cX7_bringNext 47 = .ok (.getfield 12, 3) := by decide +kernel
theorem dX7_bringNext_50 : decode cX7_bringNext 50 = .ok (.getfield 96, 3) := by decide +kernel
theorem dX7_bringNext_53 : decode cX7_bringNext 53 = .ok (.if_icmp .ge 160, 3) := by decide +kernel
theorem dX7_bringNext_56 : decode cX7_bringNext 56 = .ok (.iload_n 2, 1) := by decide +kernel
theorem dX7_bringNext_57 : decode cX7_bringNext 57 = .ok (.iload 7, 2) := by decide +kernel
theorem dX7_bringNext_59 : decode cX7_bringNext 59 = .ok (.invokestatic 99, 3) := by decide +kernel
theorem dX7_bringNext_62 : decode cX7_bringNext 62 = .ok (.ifCond .eq 145, 3) := by decide +kernel
theorem dX7_bringNext_65 : decode cX7_bringNext 65 = .ok (.iload 4, 2) := by decide +kernel
theorem dX7_bringNext_67 : decode cX7_bringNext 67 = .ok (.aload_n 0, 1) := by decide +kernel
theorem dX7_bringNext_68 : decode cX7_bringNext 68 = .ok (.getfield 37, 3) := by decide +kernel
theorem dX7_bringNext_71 : decode cX7_bringNext 71 = .ok (.iload_n 3, 1) := by decide +kernel
theorem dX7_bringNext_72 : decode cX7_bringNext 72 = .ok (.aload_n 0, 1) := by decide +kernel
theorem dX7_bringNext_73 : decode cX7_bringNext 73 = .ok (.getfield 25, 3) := by decide +kernel
theorem dX7_bringNext_76 : decode cX7_bringNext 76 = .ok (.iload 7, 2) := by decide +kernel
theorem dX7_bringNext_78 : decode cX7_bringNext 78 = .ok (.iaload, 1) := by decide +kernel
theorem dX7_bringNext_79 : decode cX7_bringNext 79 = .ok (.invokevirtual 117, 3) := by decide +kernel
theorem dX7_bringNext_82 : decode cX7_bringNext 82 = .ok (.iadd, 1) := by decide +kernel
theorem dX7_bringNext_83 : decode cX7_bringNext 83 = .ok (.istore 8, 2) := by decide +kernel
theorem dX7_bringNext_85 : decode cX7_bringNext 85 = .ok (.iload 6, 2) := by decide +kernel
theorem dX7_bringNext_87 : decode cX7_bringNext 87 = .ok (.aload_n 0, 1) := by decide +kernel
theorem dX7_bringNext_88 : decode cX7_bringNext 88 = .ok (.getfield 31, 3) := by decide +kernel
theorem dX7_bringNext_91 : decode cX7_bringNext 91 = .ok (.iload 7, 2) := by decide +kernel
theorem dX7_bringNext_93 : decode cX7_bringNext 93 = .ok (.iaload, 1) := by decide +kernel
theorem dX7_bringNext_94 : decode cX7_bringNext 94 = .ok (.iload 8, 2) := by decide +kernel
theorem dX7_bringNext_96 : decode cX7_bringNext 96 = .ok (.isub, 1) := by decide +kernel
theorem dX7_bringNext_97 : decode cX7_bringNext 97 = .ok (.invokestatic 142, 3) := by decide +kernel
theorem dX7_bringNext_100 : decode cX7_bringNext 100 = .ok (.istore 9, 2) := by decide +kernel
theorem dX7_bringNext_102 : decode cX7_bringNext 102 = .ok (.iload 8, 2) := by decide +kernel
theorem dX7_bringNext_104 : decode cX7_bringNext 104 = .ok (.aload_n 0, 1) := by decide +kernel
theorem dX7_bringNext_105 : decode cX7_bringNext 105 = .ok (.getfield 12, 3) := by decide +kernel
theorem dX7_bringNext_108 : decode cX7_bringNext 108 = .ok (.getfield 85, 3) := by decide +kernel
theorem dX7_bringNext_111 : decode cX7_bringNext 111 = .ok (.iload 7, 2) := by decide +kernel
theorem dX7_bringNext_113 : decode cX7_bringNext 113 = .ok (.iaload, 1) := by decide +kernel
theorem dX7_bringNext_114 : decode cX7_bringNext 114 = .ok (.isub, 1) := by decide +kernel
theorem dX7_bringNext_115 : decode cX7_bringNext 115 = .ok (.aload_n 0, 1) := by decide +kernel
theorem dX7_bringNext_116 : decode cX7_bringNext 116 = .ok (.getfield 34, 3) := by decide +kernel
theorem dX7_bringNext_119 : decode cX7_bringNext 119 = .ok (.iload 7, 2) := by decide +kernel
theorem dX7_bringNext_121 : decode cX7_bringNext 121 = .ok (.iaload, 1) := by decide +kernel
theorem dX7_bringNext_122 : decode cX7_bringNext 122 = .ok (.if_icmp .gt 7, 3) := by decide +kernel
theorem dX7_bringNext_125 : decode cX7_bringNext 125 = .ok (.iconst 1, 1) := by decide +kernel
theorem dX7_bringNext_126 : decode cX7_bringNext 126 = .ok (.goto 4, 3) := by decide +kernel
theorem dX7_bringNext_129 : decode cX7_bringNext 129 = .ok (.iconst 0, 1) := by decide +kernel
theorem dX7_bringNext_130 : decode cX7_bringNext 130 = .ok (.istore 10, 2) := by decide +kernel
theorem dX7_bringNext_132 : decode cX7_bringNext 132 = .ok (.iload 10, 2) := by decide +kernel
theorem dX7_bringNext_134 : decode cX7_bringNext 134 = .ok (.ifCond .eq 73, 3) := by decide +kernel
theorem dX7_bringNext_137 : decode cX7_bringNext 137 = .ok (.iload 8, 2) := by decide +kernel
theorem dX7_bringNext_139 : decode cX7_bringNext 139 = .ok (.aload_n 0, 1) := by decide +kernel
theorem dX7_bringNext_140 : decode cX7_bringNext 140 = .ok (.getfield 18, 3) := by decide +kernel
theorem dX7_bringNext_143 : decode cX7_bringNext 143 = .ok (.getfield 45, 3) := by decide +kernel
theorem dX7_bringNext_146 : decode cX7_bringNext 146 = .ok (.if_icmp .ge 61, 3) := by decide +kernel
theorem dX7_bringNext_149 : decode cX7_bringNext 149 = .ok (.iload 5, 2) := by decide +kernel
theorem dX7_bringNext_151 : decode cX7_bringNext 151 = .ok (.iload 9, 2) := by decide +kernel
theorem dX7_bringNext_153 : decode cX7_bringNext 153 = .ok (.if_icmp .gt 54, 3) := by decide +kernel
theorem dX7_bringNext_156 : decode cX7_bringNext 156 = .ok (.aload_n 0, 1) := by decide +kernel
theorem dX7_bringNext_157 : decode cX7_bringNext 157 = .ok (.getfield 12, 3) := by decide +kernel
theorem dX7_bringNext_160 : decode cX7_bringNext 160 = .ok (.getfield 145, 3) := by decide +kernel
theorem dX7_bringNext_163 : decode cX7_bringNext 163 = .ok (.iload_n 1, 1) := by decide +kernel
theorem dX7_bringNext_164 : decode cX7_bringNext 164 = .ok (.iload 7, 2) := by decide +kernel
theorem dX7_bringNext_166 : decode cX7_bringNext 166 = .ok (.iastore, 1) := by decide +kernel
theorem dX7_bringNext_167 : decode cX7_bringNext 167 = .ok (.aload_n 0, 1) := by decide +kernel
theorem dX7_bringNext_168 : decode cX7_bringNext 168 = .ok (.getfield 12, 3) := by decide +kernel
theorem dX7_bringNext_171 : decode cX7_bringNext 171 = .ok (.getfield 148, 3) := by decide +kernel
theorem dX7_bringNext_174 : decode cX7_bringNext 174 = .ok (.iload 7, 2) := by decide +kernel
theorem dX7_bringNext_176 : decode cX7_bringNext 176 = .ok (.iload 8, 2) := by decide +kernel
theorem dX7_bringNext_178 : decode cX7_bringNext 178 = .ok (.iastore, 1) := by decide +kernel
theorem dX7_bringNext_179 : decode cX7_bringNext 179 = .ok (.aload_n 0, 1) := by decide +kernel
theorem dX7_bringNext_180 : decode cX7_bringNext 180 = .ok (.iload_n 1, 1) := by decide +kernel
theorem dX7_bringNext_181 : decode cX7_bringNext 181 = .ok (.iconst 1, 1) := by decide +kernel
theorem dX7_bringNext_182 : decode cX7_bringNext 182 = .ok (.iadd, 1) := by decide +kernel
theorem dX7_bringNext_183 : decode cX7_bringNext 183 = .ok (.iload_n 2, 1) := by decide +kernel
theorem dX7_bringNext_184 : decode cX7_bringNext 184 = .ok (.iconst 1, 1) := by decide +kernel
theorem dX7_bringNext_185 : decode cX7_bringNext 185 = .ok (.iload 7, 2) := by decide +kernel
theorem dX7_bringNext_187 : decode cX7_bringNext 187 = .ok (.ishl, 1) := by decide +kernel
theorem dX7_bringNext_188 : decode cX7_bringNext 188 = .ok (.iconst (-1), 1) := by decide +kernel
theorem dX7_bringNext_189 : decode cX7_bringNext 189 = .ok (.ixor, 1) := by decide +kernel
theorem dX7_bringNext_190 : decode cX7_bringNext 190 = .ok (.iand, 1) := by decide +kernel
theorem dX7_bringNext_191 : decode cX7_bringNext 191 = .ok (.aload_n 0, 1) := by decide +kernel
theorem dX7_bringNext_192 : decode cX7_bringNext 192 = .ok (.getfield 25, 3) := by decide +kernel
theorem dX7_bringNext_195 : decode cX7_bringNext 195 = .ok (.iload 7, 2) := by decide +kernel
theorem dX7_bringNext_197 : decode cX7_bringNext 197 = .ok (.iaload, 1) := by decide +kernel
theorem dX7_bringNext_198 : decode cX7_bringNext 198 = .ok (.iload 8, 2) := by decide +kernel
theorem dX7_bringNext_200 : decode cX7_bringNext 200 = .ok (.iload 5, 2) := by decide +kernel
theorem dX7_bringNext_202 : decode cX7_bringNext 202 = .ok (.iload 9, 2) := by decide +kernel
theorem dX7_bringNext_204 : decode cX7_bringNext 204 = .ok (.invokevirtual 126, 3) := by decide +kernel
theorem dX7_bringNext_207 : decode cX7_bringNext 207 = .ok (.iinc 7 1, 3) := by decide +kernel
theorem dX7_bringNext_210 : decode cX7_bringNext 210 = .ok (.goto (-166), 3) := by decide +kernel
theorem dX7_bringNext_213 : decode cX7_bringNext 213 = .ok (.return_, 1) := by decide +kernel
theorem dX8_init_0 : decode cX8_init 0 = .ok (.aload_n 0, 1) := by decide +kernel
theorem dX8_init_1 : decode cX8_init 1 = .ok (.invokespecial 3, 3) := by decide +kernel
theorem dX8_init_4 : decode cX8_init 4 = .ok (.aload_n 0, 1) := by decide +kernel
theorem dX8_init_5 : decode cX8_init 5 = .ok (.new 9, 3) := by decide +kernel
theorem dX8_init_8 : decode cX8_init 8 = .ok (.dup, 1) := by decide +kernel
theorem dX8_init_9 : decode cX8_init 9 = .ok (.invokespecial 11, 3) := by decide +kernel
theorem dX8_init_12 : decode cX8_init 12 = .ok (.putfield 12, 3) := by decide +kernel
theorem dX8_init_15 : decode cX8_init 15 = .ok (.aload_n 0, 1) := by decide +kernel
theorem dX8_init_16 : decode cX8_init 16 = .ok (.new 16, 3) := by decide +kernel
theorem dX8_init_19 : decode cX8_init 19 = .ok (.dup, 1) := by decide +kernel
theorem dX8_init_20 : decode cX8_init 20 = .ok (.invokespecial 18, 3) := by decide +kernel
theorem dX8_init_23 : decode cX8_init 23 = .ok (.putfield 19, 3) := by decide +kernel
theorem dX8_init_26 : decode cX8_init 26 = .ok (.aload_n 0, 1) := by decide +kernel
theorem dX8_init_27 : decode cX8_init 27 = .ok (.new 23, 3) := by decide +kernel
theorem dX8_init_30 : decode cX8_init 30 = .ok (.dup, 1) := by decide +kernel
theorem dX8_init_31 : decode cX8_init 31 = .ok (.aload_n 0, 1) := by decide +kernel
theorem dX8_init_32 : decode cX8_init 32 = .ok (.getfield 12, 3) := by decide +kernel
theorem dX8_init_35 : decode cX8_init 35 = .ok (.aload_n 0, 1) := by decide +kernel
theorem dX8_init_36 : decode cX8_init 36 = .ok (.getfield 19, 3) := by decide +kernel
theorem dX8_init_39 : decode cX8_init 39 = .ok (.invokespecial 25, 3) := by decide +kernel
theorem dX8_init_42 : decode cX8_init 42 = .ok (.putfield 28, 3) := by decide +kernel
theorem dX8_init_45 : decode cX8_init 45 = .ok (.aload_n 0, 1) := by decide +kernel
theorem dX8_init_46 : decode cX8_init 46 = .ok (.new 32, 3) := by decide +kernel
theorem dX8_init_49 : decode cX8_init 49 = .ok (.dup, 1) := by decide +kernel
theorem dX8_init_50 : decode cX8_init 50 = .ok (.aload_n 0, 1) := by decide +kernel
theorem dX8_init_51 : decode cX8_init 51 = .ok (.getfield 28, 3) := by decide +kernel
theorem dX8_init_54 : decode cX8_init 54 = .ok (.invokespecial 34, 3) := by decide +kernel
theorem dX8_init_57 : decode cX8_init 57 = .ok (.putfield 37, 3) := by decide +kernel
theorem dX8_init_60 : decode cX8_init 60 = .ok (.aload_n 0, 1) := by decide +kernel
theorem dX8_init_61 : decode cX8_init 61 = .ok (.new 41, 3) := by decide +kernel
theorem dX8_init_64 : decode cX8_init 64 = .ok (.dup, 1) := by decide +kernel
theorem dX8_init_65 : decode cX8_init 65 = .ok (.aload_n 0, 1) := by decide +kernel
theorem dX8_init_66 : decode cX8_init 66 = .ok (.getfield 37, 3) := by decide +kernel
theorem dX8_init_69 : decode cX8_init 69 = .ok (.invokespecial 43, 3) := by decide +kernel
theorem dX8_init_72 : decode cX8_init 72 = .ok (.putfield 46, 3) := by decide +kernel
theorem dX8_init_75 : decode cX8_init 75 = .ok (.aload_n 0, 1) := by decide +kernel
theorem dX8_init_76 : decode cX8_init 76 = .ok (.new 50, 3) := by decide +kernel
theorem dX8_init_79 : decode cX8_init 79 = .ok (.dup, 1) := by decide +kernel
theorem dX8_init_80 : decode cX8_init 80 = .ok (.invokespecial 52, 3) := by decide +kernel
theorem dX8_init_83 : decode cX8_init 83 = .ok (.putfield 53, 3) := by decide +kernel
theorem dX8_init_86 : decode cX8_init 86 = .ok (.aload_n 0, 1) := by decide +kernel
theorem dX8_init_87 : decode cX8_init 87 = .ok (.bipush 7, 2) := by decide +kernel
theorem dX8_init_89 : decode cX8_init 89 = .ok (.newarray .int, 2) := by decide +kernel
theorem dX8_init_91 : decode cX8_init 91 = .ok (.putfield 57, 3) := by decide +kernel
theorem dX8_init_94 : decode cX8_init 94 = .ok (.aload_n 0, 1) := by decide +kernel
theorem dX8_init_95 : decode cX8_init 95 = .ok (.iconst 0, 1) := by decide +kernel
theorem dX8_init_96 : decode cX8_init 96 = .ok (.putfield 61, 3) := by decide +kernel
theorem dX8_init_99 : decode cX8_init 99 = .ok (.return_, 1) := by decide +kernel
theorem dX8_minutes_0 : decode cX8_minutes 0 = .ok (.iload_n 1, 1) := by decide +kernel
theorem dX8_minutes_1 : decode cX8_minutes 1 = .ok (.invokestatic 65, 3) := by decide +kernel
theorem dX8_minutes_4 : decode cX8_minutes 4 = .ok (.ifCond .eq 15, 3) := by decide +kernel
theorem dX8_minutes_7 : decode cX8_minutes 7 = .ok (.iload_n 2, 1) := by decide +kernel
theorem dX8_minutes_8 : decode cX8_minutes 8 = .ok (.invokestatic 65, 3) := by decide +kernel
theorem dX8_minutes_11 : decode cX8_minutes 11 = .ok (.ifCond .eq 8, 3) := by decide +kernel
theorem dX8_minutes_14 : decode cX8_minutes 14 = .ok (.iload_n 1, 1) := by decide +kernel
theorem dX8_minutes_15 : decode cX8_minutes 15 = .ok (.iload_n 2, 1) := by decide +kernel
theorem dX8_minutes_16 : decode cX8_minutes 16 = .ok (.if_icmp .ne 9, 3) := by decide +kernel
theorem dX8_minutes_19 : decode cX8_minutes 19 = .ok (.aload_n 0, 1) := by decide +kernel
theorem dX8_minutes_20 : decode cX8_minutes 20 = .ok (.iconst (-1), 1) := by decide +kernel
theorem dX8_minutes_21 : decode cX8_minutes 21 = .ok (.invokevirtual 69, 3) := by decide +kernel
theorem dX8_minutes_24 : decode cX8_minutes 24 = .ok (.ireturn, 1) := by decide +kernel
theorem dX8_minutes_25 : decode cX8_minutes 25 = .ok (.iload_n 3, 1) := by decide +kernel
theorem dX8_minutes_26 : decode cX8_minutes 26 = .ok (.ifCond .ge 10, 3) := by decide +kernel
theorem dX8_minutes_29 : decode cX8_minutes 29 = .ok (.aload_n 0, 1) := by decide +kernel
theorem dX8_minutes_30 : decode cX8_minutes 30 = .ok (.bipush (-4), 2) := by decide +kernel
theorem dX8_minutes_32 : decode cX8_minutes 32 = .ok (.invokevirtual 69, 3) := by decide +kernel
theorem dX8_minutes_35 : decode cX8_minutes 35 = .ok (.ireturn, 1) := by decide +kernel
theorem dX8_minutes_36 : decode cX8_minutes 36 = .ok (.iload_n 3, 1) := by decide +kernel
theorem dX8_minutes_37 : decode cX8_minutes 37 = .ok (.sipush 300, 3) := by decide +kernel
theorem dX8_minutes_40 : decode cX8_minutes 40 = .ok (.if_icmp .le 10, 3) := by decide +kernel
theorem dX8_minutes_43 : decode cX8_minutes 43 = .ok (.aload_n 0, 1) := by decide +kernel
theorem dX8_minutes_44 : decode cX8_minutes 44 = .ok (.bipush (-6), 2) := by decide +kernel
theorem dX8_minutes_46 : decode cX8_minutes 46 = .ok (.invokevirtual 69, 3) := by decide +kernel
theorem dX8_minutes_49 : decode cX8_minutes 49 = .ok (.ireturn, 1) := by decide +kernel
theorem dX8_minutes_50 : decode cX8_minutes 50 = .ok (.aload_n 0, 1) := by decide +kernel
theorem dX8_minutes_51 : decode cX8_minutes 51 = .ok (.getfield 12, 3) := by decide +kernel
theorem dX8_minutes_54 : decode cX8_minutes 54 = .ok (.iload_n 1, 1) := by decide +kernel
theorem dX8_minutes_55 : decode cX8_minutes 55 = .ok (.iload_n 2, 1) := by decide +kernel
theorem dX8_minutes_56 : decode cX8_minutes 56 = .ok (.iload_n 3, 1) := by decide +kernel
theorem dX8_minutes_57 : decode cX8_minutes 57 = .ok (.invokevirtual 73, 3) := by decide +kernel
theorem dX8_minutes_60 : decode cX8_minutes 60 = .ok (.istore 4, 2) := by decide +kernel
theorem dX8_minutes_62 : decode cX8_minutes 62 = .ok (.iload 4, 2) := by decide +kernel
theorem dX8_minutes_64 : decode cX8_minutes 64 = .ok (.iload_n 3, 1) := by decide +kernel
theorem dX8_minutes_65 : decode cX8_minutes 65 = .ok (.if_icmp .eq 11, 3) := by decide +kernel
theorem dX8_minutes_68 : decode cX8_minutes 68 = .ok (.aload_n 0, 1) := by decide +kernel
theorem dX8_minutes_69 : decode cX8_minutes 69 = .ok (.getfield 37, 3) := by decide +kernel
theorem dX8_minutes_72 : decode cX8_minutes 72 = .ok (.iconst 0, 1) := by decide +kernel
theorem dX8_minutes_73 : decode cX8_minutes 73 = .ok (.invokevirtual 77, 3) := by decide +kernel
theorem dX8_minutes_76 : decode cX8_minutes 76 = .ok (.iload 4, 2) := by decide +kernel
theorem dX8_minutes_78 : decode cX8_minutes 78 = .ok (.ireturn, 1) := by decide +kernel
theorem dX8_least_0 : decode cX8_least 0 = .ok (.iload_n 1, 1) := by decide +kernel
theorem dX8_least_1 : decode cX8_least 1 = .ok (.invokestatic 65, 3) := by decide +kernel
theorem dX8_least_4 : decode cX8_least 4 = .ok (.ifCond .eq 10, 3) := by decide +kernel
theorem dX8_least_7 : decode cX8_least 7 = .ok (.iload_n 2, 1) := by decide +kernel
theorem dX8_least_8 : decode cX8_least 8 = .ok (.invokestatic 65, 3) := by decide +kernel
theorem dX8_least_11 : decode cX8_least 11 = .ok (.ifCond .ne 9, 3) := by decide +kernel
theorem dX8_least_14 : decode cX8_least 14 = .ok (.aload_n 0, 1) := by decide +kernel
theorem dX8_least_15 : decode cX8_least 15 = .ok (.iconst (-1), 1) := by decide +kernel
theorem dX8_least_16 : decode cX8_least 16 = .ok (.invokevirtual 69, 3) := by decide +kernel
theorem dX8_least_19 : decode cX8_least 19 = .ok (.ireturn, 1) := by decide +kernel
theorem dX8_least_20 : decode cX8_least 20 = .ok (.aload_n 0, 1) := by decide +kernel
theorem dX8_least_21 : decode cX8_least 21 = .ok (.getfield 12, 3) := by decide +kernel
theorem dX8_least_24 : decode cX8_least 24 = .ok (.iload_n 1, 1) := by decide +kernel
theorem dX8_least_25 : decode cX8_least 25 = .ok (.iload_n 2, 1) := by decide +kernel
theorem dX8_least_26 : decode cX8_least 26 = .ok (.invokevirtual 81, 3) := by decide +kernel
theorem dX8_least_29 : decode cX8_least 29 = .ok (.ireturn, 1) := by decide +kernel
theorem dX8_person_0 : decode cX8_person 0 = .ok (.iload_n 2, 1) := by decide +kernel
theorem dX8_person_1 : decode cX8_person 1 = .ok (.invokestatic 65, 3) := by decide +kernel
theorem dX8_person_4 : decode cX8_person 4 = .ok (.ifCond .eq 15, 3) := by decide +kernel
theorem dX8_person_7 : decode cX8_person 7 = .ok (.iload_n 3, 1) := by decide +kernel
theorem dX8_person_8 : decode cX8_person 8 = .ok (.invokestatic 65, 3) := by decide +kernel
theorem dX8_person_11 : decode cX8_person 11 = .ok (.ifCond .eq 8, 3) := by decide +kernel
theorem dX8_person_14 : decode cX8_person 14 = .ok (.iload_n 2, 1) := by decide +kernel
theorem dX8_person_15 : decode cX8_person 15 = .ok (.iload_n 3, 1) := by decide +kernel
theorem dX8_person_16 : decode cX8_person 16 = .ok (.if_icmp .ne 9, 3) := by decide +kernel
theorem dX8_person_19 : decode cX8_person 19 = .ok (.aload_n 0, 1) := by decide +kernel
theorem dX8_person_20 : decode cX8_person 20 = .ok (.iconst (-1), 1) := by decide +kernel
theorem dX8_person_21 : decode cX8_person 21 = .ok (.invokevirtual 69, 3) := by decide +kernel
theorem dX8_person_24 : decode cX8_person 24 = .ok (.ireturn, 1) := by decide +kernel
theorem dX8_person_25 : decode cX8_person 25 = .ok (.iload_n 1, 1) := by decide +kernel
theorem dX8_person_26 : decode cX8_person 26 = .ok (.ifCond .eq 15, 3) := by decide +kernel
theorem dX8_person_29 : decode cX8_person 29 = .ok (.iload_n 1, 1) := by decide +kernel
theorem dX8_person_30 : decode cX8_person 30 = .ok (.iconst 1, 1) := by decide +kernel
theorem dX8_person_31 : decode cX8_person 31 = .ok (.if_icmp .eq 10, 3) := by decide +kernel
theorem dX8_person_34 : decode cX8_person 34 = .ok (.aload_n 0, 1) := by decide +kernel
theorem dX8_person_35 : decode cX8_person 35 = .ok (.bipush (-2), 2) := by decide +kernel
theorem dX8_person_37 : decode cX8_person 37 = .ok (.invokevirtual 69, 3) := by decide +kernel
theorem dX8_person_40 : decode cX8_person 40 = .ok (.ireturn, 1) := by decide +kernel
theorem dX8_person_41 : decode cX8_person 41 = .ok (.iload 4, 2) := by decide +kernel
theorem dX8_person_43 : decode cX8_person 43 = .ok (.ifCond .lt 18, 3) := by decide +kernel
theorem dX8_person_46 : decode cX8_person 46 = .ok (.iload 5, 2) := by decide +kernel
theorem dX8_person_48 : decode cX8_person 48 = .ok (.ifCond .lt 13, 3) := by decide +kernel
theorem dX8_person_51 : decode cX8_person 51 = .ok (.iload 6, 2) := by decide +kernel
theorem dX8_person_53 : decode cX8_person 53 = .ok (.ifCond .lt 8, 3) := by decide +kernel
theorem dX8_person_56 : decode cX8_person 56 = .ok (.iload 7, 2) := by decide +kernel
theorem dX8_person_58 : decode cX8_person 58 = .ok (.ifCond .ge 10, 3) := by decide +kernel
theorem dX8_person_61 : decode cX8_person 61 = .ok (.aload_n 0, 1) := by decide +kernel
theorem dX8_person_62 : decode cX8_person 62 = .ok (.bipush (-4), 2) := by decide +kernel
theorem dX8_person_64 : decode cX8_person 64 = .ok (.invokevirtual 69, 3) := by decide +kernel
theorem dX8_person_67 : decode cX8_person 67 = .ok (.ireturn, 1) := by decide +kernel
theorem dX8_person_68 : decode cX8_person 68 = .ok (.iload 4, 2) := by decide +kernel
theorem dX8_person_70 : decode cX8_person 70 = .ok (.sipush 1440, 3) := by decide +kernel
theorem dX8_person_73 : decode cX8_person 73 = .ok (.if_icmp .gt 35, 3) := by decide +kernel
theorem dX8_person_76 : decode cX8_person 76 = .ok (.iload 5, 2) := by decide +kernel
theorem dX8_person_78 : decode cX8_person 78 = .ok (.sipush 1440, 3) := by decide +kernel
theorem dX8_person_81 : decode cX8_person 81 = .ok (.if_icmp .gt 27, 3) := by decide +kernel
theorem dX8_person_84 : decode cX8_person 84 = .ok (.iload 6, 2) := by decide +kernel
theorem dX8_person_86 : decode cX8_person 86 = .ok (.sipush 300, 3) := by decide +kernel
theorem dX8_person_89 : decode cX8_person 89 = .ok (.if_icmp .gt 19, 3) := by decide +kernel
theorem dX8_person_92 : decode cX8_person 92 = .ok (.iload 7, 2) := by decide +kernel
theorem dX8_person_94 : decode cX8_person 94 = .ok (.iconst 5, 1) := by decide +kernel
theorem dX8_person_95 : decode cX8_person 95 = .ok (.if_icmp .gt 13, 3) := by decide +kernel
theorem dX8_person_98 : decode cX8_person 98 = .ok (.aload_n 0, 1) := by decide +kernel
theorem dX8_person_99 : decode cX8_person 99 = .ok (.getfield 19, 3) := by decide +kernel
theorem dX8_person_102 : decode cX8_person 102 = .ok (.invokevirtual 85, 3) := by decide +kernel
theorem dX8_person_105 : decode cX8_person 105 = .ok (.ifCond .eq 10, 3) := by decide +kernel
theorem dX8_person_108 : decode cX8_person 108 = .ok (.aload_n 0, 1) := by decide +kernel
theorem dX8_person_109 : decode cX8_person 109 = .ok (.bipush (-6), 2) := by decide +kernel
theorem dX8_person_111 : decode cX8_person 111 = .ok (.invokevirtual 69, 3) := by decide +kernel
theorem dX8_person_114 : decode cX8_person 114 = .ok (.ireturn, 1) := by decide +kernel
theorem dX8_person_115 : decode cX8_person 115 = .ok (.aload_n 0, 1) := by decide +kernel
theorem dX8_person_116 : decode cX8_person 116 = .ok (.getfield 19, 3) := by decide +kernel
theorem dX8_person_119 : decode cX8_person 119 = .ok (.invokevirtual 89, 3) := by decide +kernel
theorem dX8_person_122 : decode cX8_person 122 = .ok (.istore 8, 2) := by decide +kernel
theorem dX8_person_124 : decode cX8_person 124 = .ok (.aload_n 0, 1) := by decide +kernel
theorem dX8_person_125 : decode cX8_person 125 = .ok (.getfield 19, 3) := by decide +kernel
theorem dX8_person_128 : decode cX8_person 128 = .ok (.iload 8, 2) := by decide +kernel
theorem dX8_person_130 : decode cX8_person 130 = .ok (.invokevirtual 93, 3) := by decide +kernel
theorem dX8_person_133 : decode cX8_person 133 = .ok (.astore 9, 2) := by decide +kernel
theorem dX8_person_135 : decode cX8_person 135 = .ok (.aload 9, 2) := by decide +kernel
theorem dX8_person_137 : decode cX8_person 137 = .ok (.iload_n 1, 1) := by decide +kernel
theorem dX8_person_138 : decode cX8_person 138 = .ok (.putfield 97, 3) := by decide +kernel
theorem dX8_person_141 : decode cX8_person 141 = .ok (.aload 9, 2) := by decide +kernel
theorem dX8_person_143 : decode cX8_person 143 = .ok (.iload_n 2, 1) := by decide +kernel
theorem dX8_person_144 : decode cX8_person 144 = .ok (.putfield 102, 3) := by decide +kernel
theorem dX8_person_147 : decode cX8_person 147 = .ok (.aload 9, 2) := by decide +kernel
theorem dX8_person_149 : decode cX8_person 149 = .ok (.iload_n 3, 1) := by decide +kernel
theorem dX8_person_150 : decode cX8_person 150 = .ok (.putfield 105, 3) := by decide +kernel
theorem dX8_person_153 : decode cX8_person 153 = .ok (.aload 9, 2) := by decide +kernel
theorem dX8_person_155 : decode cX8_person 155 = .ok (.iload 4, 2) := by decide +kernel
theorem dX8_person_157 : decode cX8_person 157 = .ok (.putfield 108, 3) := by decide +kernel
theorem dX8_person_160 : decode cX8_person 160 = .ok (.aload 9, 2) := by decide +kernel
theorem dX8_person_162 : decode cX8_person 162 = .ok (.iload 5, 2) := by decide +kernel
theorem dX8_person_164 : decode cX8_person 164 = .ok (.putfield 111, 3) := by decide +kernel
theorem dX8_person_167 : decode cX8_person 167 = .ok (.aload 9, 2) := by decide +kernel
theorem dX8_person_169 : decode cX8_person 169 = .ok (.iload 6, 2) := by decide +kernel
theorem dX8_person_171 : decode cX8_person 171 = .ok (.putfield 114, 3) := by decide +kernel
theorem dX8_person_174 : decode cX8_person 174 = .ok (.aload 9, 2) := by decide +kernel
theorem dX8_person_176 : decode cX8_person 176 = .ok (.iload 7, 2) := by decide +kernel
theorem dX8_person_178 : decode cX8_person 178 = .ok (.putfield 117, 3) := by decide +kernel
theorem dX8_person_181 : decode cX8_person 181 = .ok (.iload 8, 2) := by decide +kernel
theorem dX8_person_183 : decode cX8_person 183 = .ok (.ireturn, 1) := by decide +kernel
theorem dX8_times_0 : decode cX8_times 0 = .ok (.aload_n 0, 1) := by decide +kernel
theorem dX8_times_1 : decode cX8_times 1 = .ok (.getfield 19, 3) := by decide +kernel
theorem dX8_times_4 : decode cX8_times 4 = .ok (.iload_n 1, 1) := by decide +kernel
theorem dX8_times_5 : decode cX8_times 5 = .ok (.invokevirtual 120, 3) := by decide +kernel
theorem dX8_times_8 : decode cX8_times 8 = .ok (.ifCond .ne 9, 3) := by decide +kernel
theorem dX8_times_11 : decode cX8_times 11 = .ok (.aload_n 0, 1) := by decide +kernel
theorem dX8_times_12 : decode cX8_times 12 = .ok (.iconst (-1), 1) := by decide +kernel
theorem dX8_times_13 : decode cX8_times 13 = .ok (.invokevirtual 69, 3) := by decide +kernel
theorem dX8_times_16 : decode cX8_times 16 = .ok (.ireturn, 1) := by decide +kernel
theorem dX8_times_17 : decode cX8_times 17 = .ok (.iload_n 2, 1) := by decide +kernel
theorem dX8_times_18 : decode cX8_times 18 = .ok (.ifCond .lt 7, 3) := by decide +kernel
theorem dX8_times_21 : decode cX8_times 21 = .ok (.iload_n 3, 1) := by decide +kernel
theorem dX8_times_22 : decode cX8_times 22 = .ok (.ifCond .ge 10, 3) := by decide +kernel
theorem dX8_times_25 : decode cX8_times 25 = .ok (.aload_n 0, 1) := by decide +kernel
theorem dX8_times_26 : decode cX8_times 26 = .ok (.bipush (-4), 2) := by decide +kernel
theorem dX8_times_28 : decode cX8_times 28 = .ok (.invokevirtual 69, 3) := by decide +kernel
theorem dX8_times_31 : decode cX8_times 31 = .ok (.ireturn, 1) := by decide +kernel
theorem dX8_times_32 : decode cX8_times 32 = .ok (.iload_n 2, 1) := by decide +kernel
theorem dX8_times_33 : decode cX8_times 33 = .ok (.sipush 1440, 3) := by decide +kernel
theorem dX8_times_36 : decode cX8_times 36 = .ok (.if_icmp .gt 10, 3) := by decide +kernel
theorem dX8_times_39 : decode cX8_times 39 = .ok (.iload_n 3, 1) := by decide +kernel
theorem dX8_times_40 : decode cX8_times 40 = .ok (.sipush 1440, 3) := by decide +kernel
theorem dX8_times_43 : decode cX8_times 43 = .ok (.if_icmp .le 10, 3) := by decide +kernel
theorem dX8_times_46 : decode cX8_times 46 = .ok (.aload_n 0, 1) := by decide +kernel
theorem dX8_times_47 : decode cX8_times 47 = .ok (.bipush (-6), 2) := by decide +kernel
theorem dX8_times_49 : decode cX8_times 49 = .ok (.invokevirtual 69, 3) := by decide +kernel
theorem dX8_times_52 : decode cX8_times 52 = .ok (.ireturn, 1) := by decide +kernel
theorem dX8_times_53 : decode cX8_times 53 = .ok (.aload_n 0, 1) := by decide +kernel
theorem dX8_times_54 : decode cX8_times 54 = .ok (.getfield 19, 3) := by decide +kernel
theorem dX8_times_57 : decode cX8_times 57 = .ok (.iload_n 1, 1) := by decide +kernel
theorem dX8_times_58 : decode cX8_times 58 = .ok (.invokevirtual 93, 3) := by decide +kernel
theorem dX8_times_61 : decode cX8_times 61 = .ok (.iload_n 2, 1) := by decide +kernel
theorem dX8_times_62 : decode cX8_times 62 = .ok (.putfield 108, 3) := by decide +kernel
theorem dX8_times_65 : decode cX8_times 65 = .ok (.aload_n 0, 1) := by decide +kernel
theorem dX8_times_66 : decode cX8_times 66 = .ok (.getfield 19, 3) := by decide +kernel
theorem dX8_times_69 : decode cX8_times 69 = .ok (.iload_n 1, 1) := by decide +kernel
theorem dX8_times_70 : decode cX8_times 70 = .ok (.invokevirtual 93, 3) := by decide +kernel
theorem dX8_times_73 : decode cX8_times 73 = .ok (.iload_n 3, 1) := by decide +kernel
theorem dX8_times_74 : decode cX8_times 74 = .ok (.putfield 111, 3) := by decide +kernel
theorem dX8_times_77 : decode cX8_times 77 = .ok (.aload_n 0, 1) := by decide +kernel
theorem dX8_times_78 : decode cX8_times 78 = .ok (.getfield 37, 3) := by decide +kernel
theorem dX8_times_81 : decode cX8_times 81 = .ok (.iconst 1, 1) := by decide +kernel
theorem dX8_times_82 : decode cX8_times 82 = .ok (.iload_n 1, 1) := by decide +kernel
theorem dX8_times_83 : decode cX8_times 83 = .ok (.ishl, 1) := by decide +kernel
theorem dX8_times_84 : decode cX8_times 84 = .ok (.invokevirtual 77, 3) := by decide +kernel
theorem dX8_times_87 : decode cX8_times 87 = .ok (.iconst 1, 1) := by decide +kernel
theorem dX8_times_88 : decode cX8_times 88 = .ok (.ireturn, 1) := by decide +kernel
theorem dX8_bar_0 : decode cX8_bar 0 = .ok (.aload_n 0, 1) := by decide +kernel
theorem dX8_bar_1 : decode cX8_bar 1 = .ok (.getfield 19, 3) := by decide +kernel
theorem dX8_bar_4 : decode cX8_bar 4 = .ok (.iload_n 1, 1) := by decide +kernel
theorem dX8_bar_5 : decode cX8_bar 5 = .ok (.invokevirtual 120, 3) := by decide +kernel
theorem dX8_bar_8 : decode cX8_bar 8 = .ok (.ifCond .eq 19, 3) := by decide +kernel
theorem dX8_bar_11 : decode cX8_bar 11 = .ok (.aload_n 0, 1) := by decide +kernel
theorem dX8_bar_12 : decode cX8_bar 12 = .ok (.getfield 19, 3) := by decide +kernel
theorem dX8_bar_15 : decode cX8_bar 15 = .ok (.iload_n 2, 1) := by decide +kernel
theorem dX8_bar_16 : decode cX8_bar 16 = .ok (.invokevirtual 120, 3) := by decide +kernel
theorem dX8_bar_19 : decode cX8_bar 19 = .ok (.ifCond .eq 8, 3) := by decide +kernel
theorem dX8_bar_22 : decode cX8_bar 22 = .ok (.iload_n 1, 1) := by decide +kernel
theorem dX8_bar_23 : decode cX8_bar 23 = .ok (.iload_n 2, 1) := by decide +kernel
theorem dX8_bar_24 : decode cX8_bar 24 = .ok (.if_icmp .ne 9, 3) := by decide +kernel
theorem dX8_bar_27 : decode cX8_bar 27 = .ok (.aload_n 0, 1) := by decide +kernel
theorem dX8_bar_28 : decode cX8_bar 28 = .ok (.iconst (-1), 1) := by decide +kernel
theorem dX8_bar_29 : decode cX8_bar 29 = .ok (.invokevirtual 69, 3) := by decide +kernel
theorem dX8_bar_32 : decode cX8_bar 32 = .ok (.ireturn, 1) := by decide +kernel
theorem dX8_bar_33 : decode cX8_bar 33 = .ok (.aload_n 0, 1) := by decide +kernel
theorem dX8_bar_34 : decode cX8_bar 34 = .ok (.getfield 19, 3) := by decide +kernel
theorem dX8_bar_37 : decode cX8_bar 37 = .ok (.iload_n 1, 1) := by decide +kernel
theorem dX8_bar_38 : decode cX8_bar 38 = .ok (.invokevirtual 93, 3) := by decide +kernel
theorem dX8_bar_41 : decode cX8_bar 41 = .ok (.getfield 123, 3) := by decide +kernel
theorem dX8_bar_44 : decode cX8_bar 44 = .ok (.iload_n 2, 1) := by decide +kernel
theorem dX8_bar_45 : decode cX8_bar 45 = .ok (.invokestatic 126, 3) := by decide +kernel
theorem dX8_bar_48 : decode cX8_bar 48 = .ok (.iload_n 3, 1) := by decide +kernel
theorem dX8_bar_49 : decode cX8_bar 49 = .ok (.if_icmp .ne 5, 3) := by decide +kernel
theorem dX8_bar_52 : decode cX8_bar 52 = .ok (.iconst 0, 1) := by decide +kernel
theorem dX8_bar_53 : decode cX8_bar 53 = .ok (.ireturn, 1) := by decide +kernel
theorem dX8_bar_54 : decode cX8_bar 54 = .ok (.aload_n 0, 1) := by decide +kernel
theorem dX8_bar_55 : decode cX8_bar 55 = .ok (.getfield 19, 3) := by decide +kernel
theorem dX8_bar_58 : decode cX8_bar 58 = .ok (.iload_n 1, 1) := by decide +kernel
theorem dX8_bar_59 : decode cX8_bar 59 = .ok (.invokevirtual 93, 3) := by decide +kernel
theorem dX8_bar_62 : decode cX8_bar 62 = .ok (.dup, 1) := by decide +kernel
theorem dX8_bar_63 : decode cX8_bar 63 = .ok (.getfield 123, 3) := by decide +kernel
theorem dX8_bar_66 : decode cX8_bar 66 = .ok (.iconst 1, 1) := by decide +kernel
theorem dX8_bar_67 : decode cX8_bar 67 = .ok (.iload_n 2, 1) := by decide +kernel
theorem dX8_bar_68 : decode cX8_bar 68 = .ok (.ishl, 1) := by decide +kernel
theorem dX8_bar_69 : decode cX8_bar 69 = .ok (.ixor, 1) := by decide +kernel
theorem dX8_bar_70 : decode cX8_bar 70 = .ok (.putfield 123, 3) := by decide +kernel
theorem dX8_bar_73 : decode cX8_bar 73 = .ok (.aload_n 0, 1) := by decide +kernel
theorem dX8_bar_74 : decode cX8_bar 74 = .ok (.getfield 19, 3) := by decide +kernel
theorem dX8_bar_77 : decode cX8_bar 77 = .ok (.iload_n 2, 1) := by decide +kernel
theorem dX8_bar_78 : decode cX8_bar 78 = .ok (.invokevirtual 93, 3) := by decide +kernel
theorem dX8_bar_81 : decode cX8_bar 81 = .ok (.dup, 1) := by decide +kernel
theorem dX8_bar_82 : decode cX8_bar 82 = .ok (.getfield 123, 3) := by decide +kernel
theorem dX8_bar_85 : decode cX8_bar 85 = .ok (.iconst 1, 1) := by decide +kernel
theorem dX8_bar_86 : decode cX8_bar 86 = .ok (.iload_n 1, 1) := by decide +kernel
theorem dX8_bar_87 : decode cX8_bar 87 = .ok (.ishl, 1) := by decide +kernel
theorem dX8_bar_88 : decode cX8_bar 88 = .ok (.ixor, 1) := by decide +kernel
theorem dX8_bar_89 : decode cX8_bar 89 = .ok (.putfield 123, 3) := by decide +kernel
theorem dX8_bar_92 : decode cX8_bar 92 = .ok (.aload_n 0, 1) := by decide +kernel
theorem dX8_bar_93 : decode cX8_bar 93 = .ok (.getfield 37, 3) := by decide +kernel
theorem dX8_bar_96 : decode cX8_bar 96 = .ok (.iconst 1, 1) := by decide +kernel
theorem dX8_bar_97 : decode cX8_bar 97 = .ok (.iload_n 1, 1) := by decide +kernel
theorem dX8_bar_98 : decode cX8_bar 98 = .ok (.ishl, 1) := by decide +kernel
theorem dX8_bar_99 : decode cX8_bar 99 = .ok (.iconst 1, 1) := by decide +kernel
theorem dX8_bar_100 : decode cX8_bar 100 = .ok (.iload_n 2, 1) := by decide +kernel
theorem dX8_bar_101 : decode cX8_bar 101 = .ok (.ishl, 1) := by decide +kernel
theorem dX8_bar_102 : decode cX8_bar 102 = .ok (.ior, 1) := by decide +kernel
theorem dX8_bar_103 : decode cX8_bar 103 = .ok (.invokevirtual 77, 3) := by decide +kernel
theorem dX8_bar_106 : decode cX8_bar 106 = .ok (.iconst 1, 1) := by decide +kernel
theorem dX8_bar_107 : decode cX8_bar 107 = .ok (.ireturn, 1) := by decide +kernel
theorem dX8_away_0 : decode cX8_away 0 = .ok (.aload_n 0, 1) := by decide +kernel
theorem dX8_away_1 : decode cX8_away 1 = .ok (.getfield 19, 3) := by decide +kernel
theorem dX8_away_4 : decode cX8_away 4 = .ok (.iload_n 1, 1) := by decide +kernel
theorem dX8_away_5 : decode cX8_away 5 = .ok (.invokevirtual 120, 3) := by decide +kernel
theorem dX8_away_8 : decode cX8_away 8 = .ok (.ifCond .ne 9, 3) := by decide +kernel
theorem dX8_away_11 : decode cX8_away 11 = .ok (.aload_n 0, 1) := by decide +kernel
theorem dX8_away_12 : decode cX8_away 12 = .ok (.iconst (-1), 1) := by decide +kernel
theorem dX8_away_13 : decode cX8_away 13 = .ok (.invokevirtual 69, 3) := by decide +kernel
theorem dX8_away_16 : decode cX8_away 16 = .ok (.ireturn, 1) := by decide +kernel
theorem dX8_away_17 : decode cX8_away 17 = .ok (.aload_n 0, 1) := by decide +kernel
theorem dX8_away_18 : decode cX8_away 18 = .ok (.getfield 19, 3) := by decide +kernel
theorem dX8_away_21 : decode cX8_away 21 = .ok (.iload_n 1, 1) := by decide +kernel
theorem dX8_away_22 : decode cX8_away 22 = .ok (.invokevirtual 93, 3) := by decide +kernel
theorem dX8_away_25 : decode cX8_away 25 = .ok (.getfield 130, 3) := by decide +kernel
theorem dX8_away_28 : decode cX8_away 28 = .ok (.iload_n 2, 1) := by decide +kernel
theorem dX8_away_29 : decode cX8_away 29 = .ok (.if_icmp .ne 5, 3) := by decide +kernel
theorem dX8_away_32 : decode cX8_away 32 = .ok (.iconst 0, 1) := by decide +kernel
theorem dX8_away_33 : decode cX8_away 33 = .ok (.ireturn, 1) := by decide +kernel
theorem dX8_away_34 : decode cX8_away 34 = .ok (.aload_n 0, 1) := by decide +kernel
theorem dX8_away_35 : decode cX8_away 35 = .ok (.getfield 19, 3) := by decide +kernel
theorem dX8_away_38 : decode cX8_away 38 = .ok (.iload_n 1, 1) := by decide +kernel
theorem dX8_away_39 : decode cX8_away 39 = .ok (.invokevirtual 93, 3) := by decide +kernel
theorem dX8_away_42 : decode cX8_away 42 = .ok (.iload_n 2, 1) := by decide +kernel
theorem dX8_away_43 : decode cX8_away 43 = .ok (.putfield 130, 3) := by decide +kernel
theorem dX8_away_46 : decode cX8_away 46 = .ok (.iconst 1, 1) := by decide +kernel
theorem dX8_away_47 : decode cX8_away 47 = .ok (.ireturn, 1) := by decide +kernel
theorem dX8_broken_0 : decode cX8_broken 0 = .ok (.aload_n 0, 1) := by decide +kernel
theorem dX8_broken_1 : decode cX8_broken 1 = .ok (.getfield 19, 3) := by decide +kernel
theorem dX8_broken_4 : decode cX8_broken 4 = .ok (.iload_n 1, 1) := by decide +kernel
theorem dX8_broken_5 : decode cX8_broken 5 = .ok (.invokevirtual 120, 3) := by decide +kernel
theorem dX8_broken_8 : decode cX8_broken 8 = .ok (.ifCond .ne 9, 3) := by decide +kernel
theorem dX8_broken_11 : decode cX8_broken 11 = .ok (.aload_n 0, 1) := by decide +kernel
theorem dX8_broken_12 : decode cX8_broken 12 = .ok (.iconst (-1), 1) := by decide +kernel
theorem dX8_broken_13 : decode cX8_broken 13 = .ok (.invokevirtual 69, 3) := by decide +kernel
theorem dX8_broken_16 : decode cX8_broken 16 = .ok (.ireturn, 1) := by decide +kernel
theorem dX8_broken_17 : decode cX8_broken 17 = .ok (.aload_n 0, 1) := by decide +kernel
theorem dX8_broken_18 : decode cX8_broken 18 = .ok (.iload_n 1, 1) := by decide +kernel
theorem dX8_broken_19 : decode cX8_broken 19 = .ok (.iload_n 2, 1) := by decide +kernel
theorem dX8_broken_20 : decode cX8_broken 20 = .ok (.invokevirtual 134, 3) := by decide +kernel
theorem dX8_broken_23 : decode cX8_broken 23 = .ok (.ifCond .eq 7, 3) := by decide +kernel
theorem dX8_broken_26 : decode cX8_broken 26 = .ok (.iconst 1, 1) := by decide +kernel
theorem dX8_broken_27 : decode cX8_broken 27 = .ok (.goto 4, 3) := by decide +kernel
theorem dX8_broken_30 : decode cX8_broken 30 = .ok (.iconst 0, 1) := by decide +kernel
theorem dX8_broken_31 : decode cX8_broken 31 = .ok (.ireturn, 1) := by decide +kernel
theorem dX8_fits_0 : decode cX8_fits 0 = .ok (.aload_n 0, 1) := by decide +kernel
theorem dX8_fits_1 : decode cX8_fits 1 = .ok (.iload_n 1, 1) := by decide +kernel
theorem dX8_fits_2 : decode cX8_fits 2 = .ok (.iload_n 2, 1) := by decide +kernel
theorem dX8_fits_3 : decode cX8_fits 3 = .ok (.invokevirtual 138, 3) := by decide +kernel
theorem dX8_fits_6 : decode cX8_fits 6 = .ok (.istore_n 3, 1) := by decide +kernel
theorem dX8_fits_7 : decode cX8_fits 7 = .ok (.iload_n 3, 1) := by decide +kernel
theorem dX8_fits_8 : decode cX8_fits 8 = .ok (.ifCond .eq 9, 3) := by decide +kernel
theorem dX8_fits_11 : decode cX8_fits 11 = .ok (.aload_n 0, 1) := by decide +kernel
theorem dX8_fits_12 : decode cX8_fits 12 = .ok (.iload_n 3, 1) := by decide +kernel
theorem dX8_fits_13 : decode cX8_fits 13 = .ok (.invokevirtual 69, 3) := by decide +kernel
theorem dX8_fits_16 : decode cX8_fits 16 = .ok (.ireturn, 1) := by decide +kernel
theorem dX8_fits_17 : decode cX8_fits 17 = .ok (.aload_n 0, 1) := by decide +kernel
theorem dX8_fits_18 : decode cX8_fits 18 = .ok (.getfield 28, 3) := by decide +kernel
theorem dX8_fits_21 : decode cX8_fits 21 = .ok (.iload_n 1, 1) := by decide +kernel
theorem dX8_fits_22 : decode cX8_fits 22 = .ok (.iload_n 2, 1) := by decide +kernel
theorem dX8_fits_23 : decode cX8_fits 23 = .ok (.invokevirtual 141, 3) := by decide +kernel
theorem dX8_fits_26 : decode cX8_fits 26 = .ok (.ifCond .ne 16, 3) := by decide +kernel
theorem dX8_fits_29 : decode cX8_fits 29 = .ok (.aload_n 0, 1) := by decide +kernel
theorem dX8_fits_30 : decode cX8_fits 30 = .ok (.getfield 28, 3) := by decide +kernel
theorem dX8_fits_33 : decode cX8_fits 33 = .ok (.invokevirtual 144, 3) := by decide +kernel
theorem dX8_fits_36 : decode cX8_fits 36 = .ok (.getfield 148, 3) := by decide +kernel
theorem dX8_fits_39 : decode cX8_fits 39 = .ok (.goto 5, 3) := by decide +kernel
theorem dX8_fits_42 : decode cX8_fits 42 = .ok (.bipush (-9), 2) := by decide +kernel
theorem dX8_fits_44 : decode cX8_fits 44 = .ok (.ireturn, 1) := by decide +kernel
theorem dX8_why_0 : decode cX8_why 0 = .ok (.aload_n 0, 1) := by decide +kernel
theorem dX8_why_1 : decode cX8_why 1 = .ok (.iload_n 1, 1) := by decide +kernel
theorem dX8_why_2 : decode cX8_why 2 = .ok (.iload_n 2, 1) := by decide +kernel
theorem dX8_why_3 : decode cX8_why 3 = .ok (.invokevirtual 138, 3) := by decide +kernel
theorem dX8_why_6 : decode cX8_why 6 = .ok (.istore_n 3, 1) := by decide +kernel
theorem dX8_why_7 : decode cX8_why 7 = .ok (.iload_n 3, 1) := by decide +kernel
theorem dX8_why_8 : decode cX8_why 8 = .ok (.ifCond .eq 9, 3) := by decide +kernel
theorem dX8_why_11 : decode cX8_why 11 = .ok (.aload_n 0, 1) := by decide +kernel
theorem dX8_why_12 : decode cX8_why 12 = .ok (.iload_n 3, 1) := by decide +kernel
theorem dX8_why_13 : decode cX8_why 13 = .ok (.invokevirtual 69, 3) := by decide +kernel
theorem dX8_why_16 : decode cX8_why 16 = .ok (.ireturn, 1) := by decide +kernel
theorem dX8_why_17 : decode cX8_why 17 = .ok (.aload_n 0, 1) := by decide +kernel
theorem dX8_why_18 : decode cX8_why 18 = .ok (.getfield 28, 3) := by decide +kernel
theorem dX8_why_21 : decode cX8_why 21 = .ok (.iload_n 1, 1) := by decide +kernel
theorem dX8_why_22 : decode cX8_why 22 = .ok (.iload_n 2, 1) := by decide +kernel
theorem dX8_why_23 : decode cX8_why 23 = .ok (.invokevirtual 141, 3) := by decide +kernel
theorem dX8_why_26 : decode cX8_why 26 = .ok (.ireturn, 1) := by decide +kernel
theorem dX8_way_0 : decode cX8_way 0 = .ok (.aload_n 0, 1) := by decide +kernel
theorem dX8_way_1 : decode cX8_way 1 = .ok (.iload_n 1, 1) := by decide +kernel
theorem dX8_way_2 : decode cX8_way 2 = .ok (.iload_n 2, 1) := by decide +kernel
theorem dX8_way_3 : decode cX8_way 3 = .ok (.invokevirtual 138, 3) := by decide +kernel
theorem dX8_way_6 : decode cX8_way 6 = .ok (.istore 4, 2) := by decide +kernel
theorem dX8_way_8 : decode cX8_way 8 = .ok (.iload 4, 2) := by decide +kernel
theorem dX8_way_10 : decode cX8_way 10 = .ok (.ifCond .eq 10, 3) := by decide +kernel
theorem dX8_way_13 : decode cX8_way 13 = .ok (.aload_n 0, 1) := by decide +kernel
theorem dX8_way_14 : decode cX8_way 14 = .ok (.iload 4, 2) := by decide +kernel
theorem dX8_way_16 : decode cX8_way 16 = .ok (.invokevirtual 69, 3) := by decide +kernel
theorem dX8_way_19 : decode cX8_way 19 = .ok (.ireturn, 1) := by decide +kernel
theorem dX8_way_20 : decode cX8_way 20 = .ok (.aload_n 0, 1) := by decide +kernel
theorem dX8_way_21 : decode cX8_way 21 = .ok (.getfield 28, 3) := by decide +kernel
theorem dX8_way_24 : decode cX8_way 24 = .ok (.iload_n 1, 1) := by decide +kernel
theorem dX8_way_25 : decode cX8_way 25 = .ok (.iload_n 2, 1) := by decide +kernel
theorem dX8_way_26 : decode cX8_way 26 = .ok (.invokevirtual 141, 3) := by decide +kernel
theorem dX8_way_29 : decode cX8_way 29 = .ok (.ifCond .eq 6, 3) := by decide +kernel
theorem dX8_way_32 : decode cX8_way 32 = .ok (.bipush (-9), 2) := by decide +kernel
theorem dX8_way_34 : decode cX8_way 34 = .ok (.ireturn, 1) := by decide +kernel
theorem dX8_way_35 : decode cX8_way 35 = .ok (.aload_n 0, 1) := by decide +kernel
theorem dX8_way_36 : decode cX8_way 36 = .ok (.getfield 28, 3) := by decide +kernel
theorem dX8_way_39 : decode cX8_way 39 = .ok (.invokevirtual 144, 3) := by decide +kernel
theorem dX8_way_42 : decode cX8_way 42 = .ok (.iload_n 3, 1) := by decide +kernel
theorem dX8_way_43 : decode cX8_way 43 = .ok (.invokevirtual 153, 3) := by decide +kernel
theorem dX8_way_46 : decode cX8_way 46 = .ok (.ireturn, 1) := by decide +kernel
theorem dX8_cost_0 : decode cX8_cost 0 = .ok (.aload_n 0, 1) := by decide +kernel
theorem dX8_cost_1 : decode cX8_cost 1 = .ok (.iload_n 1, 1) := by decide +kernel
theorem dX8_cost_2 : decode cX8_cost 2 = .ok (.invokevirtual 156, 3) := by decide +kernel
theorem dX8_cost_5 : decode cX8_cost 5 = .ok (.istore_n 2, 1) := by decide +kernel
theorem dX8_cost_6 : decode cX8_cost 6 = .ok (.iload_n 2, 1) := by decide +kernel
theorem dX8_cost_7 : decode cX8_cost 7 = .ok (.ifCond .eq 9, 3) := by decide +kernel
theorem dX8_cost_10 : decode cX8_cost 10 = .ok (.aload_n 0, 1) := by decide +kernel
theorem dX8_cost_11 : decode cX8_cost 11 = .ok (.iload_n 2, 1) := by decide +kernel
theorem dX8_cost_12 : decode cX8_cost 12 = .ok (.invokevirtual 69, 3) := by decide +kernel
theorem dX8_cost_15 : decode cX8_cost 15 = .ok (.ireturn, 1) := by decide +kernel
theorem dX8_cost_16 : decode cX8_cost 16 = .ok (.aload_n 0, 1) := by decide +kernel
theorem dX8_cost_17 : decode cX8_cost 17 = .ok (.getfield 37, 3) := by decide +kernel
theorem dX8_cost_20 : decode cX8_cost 20 = .ok (.iload_n 1, 1) := by decide +kernel
theorem dX8_cost_21 : decode cX8_cost 21 = .ok (.invokevirtual 159, 3) := by decide +kernel
theorem dX8_cost_24 : decode cX8_cost 24 = .ok (.aload_n 0, 1) := by decide +kernel
theorem dX8_cost_25 : decode cX8_cost 25 = .ok (.getfield 37, 3) := by decide +kernel
theorem dX8_cost_28 : decode cX8_cost 28 = .ok (.iload_n 1, 1) := by decide +kernel
theorem dX8_cost_29 : decode cX8_cost 29 = .ok (.invokevirtual 162, 3) := by decide +kernel
theorem dX8_cost_32 : decode cX8_cost 32 = .ok (.ireturn, 1) := by decide +kernel
theorem dX8_driver_0 : decode cX8_driver 0 = .ok (.aload_n 0, 1) := by decide +kernel
theorem dX8_driver_1 : decode cX8_driver 1 = .ok (.iload_n 1, 1) := by decide +kernel
theorem dX8_driver_2 : decode cX8_driver 2 = .ok (.invokevirtual 156, 3) := by decide +kernel
theorem dX8_driver_5 : decode cX8_driver 5 = .ok (.istore_n 2, 1) := by decide +kernel
theorem dX8_driver_6 : decode cX8_driver 6 = .ok (.iload_n 2, 1) := by decide +kernel
theorem dX8_driver_7 : decode cX8_driver 7 = .ok (.ifCond .eq 9, 3) := by decide +kernel
theorem dX8_driver_10 : decode cX8_driver 10 = .ok (.aload_n 0, 1) := by decide +kernel
theorem dX8_driver_11 : decode cX8_driver 11 = .ok (.iload_n 2, 1) := by decide +kernel
theorem dX8_driver_12 : decode cX8_driver 12 = .ok (.invokevirtual 69, 3) := by decide +kernel
theorem dX8_driver_15 : decode cX8_driver 15 = .ok (.ireturn, 1) := by decide +kernel
theorem dX8_driver_16 : decode cX8_driver 16 = .ok (.aload_n 0, 1) := by decide +kernel
theorem dX8_driver_17 : decode cX8_driver 17 = .ok (.getfield 37, 3) := by decide +kernel
theorem dX8_driver_20 : decode cX8_driver 20 = .ok (.iload_n 1, 1) := by decide +kernel
theorem dX8_driver_21 : decode cX8_driver 21 = .ok (.invokevirtual 159, 3) := by decide +kernel
theorem dX8_driver_24 : decode cX8_driver 24 = .ok (.aload_n 0, 1) := by decide +kernel
theorem dX8_driver_25 : decode cX8_driver 25 = .ok (.getfield 37, 3) := by decide +kernel
theorem dX8_driver_28 : decode cX8_driver 28 = .ok (.iload_n 1, 1) := by decide +kernel
theorem dX8_driver_29 : decode cX8_driver 29 = .ok (.invokevirtual 165, 3) := by decide +kernel
theorem dX8_driver_32 : decode cX8_driver 32 = .ok (.ireturn, 1) := by decide +kernel
theorem dX8_turn_0 : decode cX8_turn 0 = .ok (.aload_n 0, 1) := by decide +kernel
theorem dX8_turn_1 : decode cX8_turn 1 = .ok (.iload_n 1, 1) := by decide +kernel
theorem dX8_turn_2 : decode cX8_turn 2 = .ok (.invokevirtual 156, 3) := by decide +kernel
theorem dX8_turn_5 : decode cX8_turn 5 = .ok (.istore_n 2, 1) := by decide +kernel
theorem dX8_turn_6 : decode cX8_turn 6 = .ok (.iload_n 2, 1) := by decide +kernel
theorem dX8_turn_7 : decode cX8_turn 7 = .ok (.ifCond .eq 9, 3) := by decide +kernel
theorem dX8_turn_10 : decode cX8_turn 10 = .ok (.aload_n 0, 1) := by decide +kernel
theorem dX8_turn_11 : decode cX8_turn 11 = .ok (.iload_n 2, 1) := by decide +kernel
theorem dX8_turn_12 : decode cX8_turn 12 = .ok (.invokevirtual 69, 3) := by decide +kernel
theorem dX8_turn_15 : decode cX8_turn 15 = .ok (.ireturn, 1) := by decide +kernel
theorem dX8_turn_16 : decode cX8_turn 16 = .ok (.aload_n 0, 1) := by decide +kernel
theorem dX8_turn_17 : decode cX8_turn 17 = .ok (.iload_n 1, 1) := by decide +kernel
theorem dX8_turn_18 : decode cX8_turn 18 = .ok (.invokevirtual 168, 3) := by decide +kernel
theorem dX8_turn_21 : decode cX8_turn 21 = .ok (.ireturn, 1) := by decide +kernel
theorem dX8_plan_0 : decode cX8_plan 0 = .ok (.aload_n 0, 1) := by decide +kernel
theorem dX8_plan_1 : decode cX8_plan 1 = .ok (.getfield 19, 3) := by decide +kernel
theorem dX8_plan_4 : decode cX8_plan 4 = .ok (.invokevirtual 171, 3) := by decide +kernel
theorem dX8_plan_7 : decode cX8_plan 7 = .ok (.istore_n 1, 1) := by decide +kernel
theorem dX8_plan_8 : decode cX8_plan 8 = .ok (.aload_n 0, 1) := by decide +kernel
theorem dX8_plan_9 : decode cX8_plan 9 = .ok (.getfield 37, 3) := by decide +kernel
theorem dX8_plan_12 : decode cX8_plan 12 = .ok (.iload_n 1, 1) := by decide +kernel
theorem dX8_plan_13 : decode cX8_plan 13 = .ok (.invokevirtual 174, 3) := by decide +kernel
theorem dX8_plan_16 : decode cX8_plan 16 = .ok (.aload_n 0, 1) := by decide +kernel
theorem dX8_plan_17 : decode cX8_plan 17 = .ok (.getfield 46, 3) := by decide +kernel
theorem dX8_plan_20 : decode cX8_plan 20 = .ok (.iload_n 1, 1) := by decide +kernel
theorem dX8_plan_21 : decode cX8_plan 21 = .ok (.invokevirtual 177, 3) := by decide +kernel
theorem dX8_plan_24 : decode cX8_plan 24 = .ok (.pop, 1) := by decide +kernel
theorem dX8_plan_25 : decode cX8_plan 25 = .ok (.aload_n 0, 1) := by decide +kernel
theorem dX8_plan_26 : decode cX8_plan 26 = .ok (.getfield 53, 3) := by decide +kernel
theorem dX8_plan_29 : decode cX8_plan 29 = .ok (.invokevirtual 180, 3) := by decide +kernel
theorem dX8_plan_32 : decode cX8_plan 32 = .ok (.iload_n 1, 1) := by decide +kernel
theorem dX8_plan_33 : decode cX8_plan 33 = .ok (.istore_n 2, 1) := by decide +kernel
theorem dX8_plan_34 : decode cX8_plan 34 = .ok (.iconst 0, 1) := by decide +kernel
theorem dX8_plan_35 : decode cX8_plan 35 = .ok (.istore_n 3, 1) := by decide +kernel
theorem dX8_plan_36 : decode cX8_plan 36 = .ok (.iload_n 3, 1) := by decide +kernel
theorem dX8_plan_37 : decode cX8_plan 37 = .ok (.bipush 9, 2) := by decide +kernel
theorem dX8_plan_39 : decode cX8_plan 39 = .ok (.if_icmp .ge 45, 3) := by decide +kernel
theorem dX8_plan_42 : decode cX8_plan 42 = .ok (.iload_n 2, 1) := by decide +kernel
theorem dX8_plan_43 : decode cX8_plan 43 = .ok (.iload_n 3, 1) := by decide +kernel
theorem dX8_plan_44 : decode cX8_plan 44 = .ok (.invokestatic 126, 3) := by decide +kernel
theorem dX8_plan_47 : decode cX8_plan 47 = .ok (.ifCond .eq 31, 3) := by decide +kernel
theorem dX8_plan_50 : decode cX8_plan 50 = .ok (.aload_n 0, 1) := by decide +kernel
theorem dX8_plan_51 : decode cX8_plan 51 = .ok (.getfield 46, 3) := by decide +kernel
theorem dX8_plan_54 : decode cX8_plan 54 = .ok (.iload_n 2, 1) := by decide +kernel
theorem dX8_plan_55 : decode cX8_plan 55 = .ok (.invokevirtual 183, 3) := by decide +kernel
theorem dX8_plan_58 : decode cX8_plan 58 = .ok (.istore 4, 2) := by decide +kernel
theorem dX8_plan_60 : decode cX8_plan 60 = .ok (.aload_n 0, 1) := by decide +kernel
theorem dX8_plan_61 : decode cX8_plan 61 = .ok (.iload_n 3, 1) := by decide +kernel
theorem dX8_plan_62 : decode cX8_plan 62 = .ok (.iload 4, 2) := by decide +kernel
theorem dX8_plan_64 : decode cX8_plan 64 = .ok (.invokevirtual 186, 3) := by decide +kernel
theorem dX8_plan_67 : decode cX8_plan 67 = .ok (.iload_n 2, 1) := by decide +kernel
theorem dX8_plan_68 : decode cX8_plan 68 = .ok (.iload 4, 2) := by decide +kernel
theorem dX8_plan_70 : decode cX8_plan 70 = .ok (.iconst 1, 1) := by decide +kernel
theorem dX8_plan_71 : decode cX8_plan 71 = .ok (.iload_n 3, 1) := by decide +kernel
theorem dX8_plan_72 : decode cX8_plan 72 = .ok (.ishl, 1) := by decide +kernel
theorem dX8_plan_73 : decode cX8_plan 73 = .ok (.ior, 1) := by decide +kernel
theorem dX8_plan_74 : decode cX8_plan 74 = .ok (.iconst (-1), 1) := by decide +kernel
theorem dX8_plan_75 : decode cX8_plan 75 = .ok (.ixor, 1) := by decide +kernel
theorem dX8_plan_76 : decode cX8_plan 76 = .ok (.iand, 1) := by decide +kernel
theorem dX8_plan_77 : decode cX8_plan 77 = .ok (.istore_n 2, 1) := by decide +kernel
theorem dX8_plan_78 : decode cX8_plan 78 = .ok (.iinc 3 1, 3) := by decide +kernel
theorem dX8_plan_81 : decode cX8_plan 81 = .ok (.goto (-45), 3) := by decide +kernel
theorem dX8_plan_84 : decode cX8_plan 84 = .ok (.aload_n 0, 1) := by decide +kernel
theorem dX8_plan_85 : decode cX8_plan 85 = .ok (.getfield 53, 3) := by decide +kernel
theorem dX8_plan_88 : decode cX8_plan 88 = .ok (.invokevirtual 190, 3) := by decide +kernel
theorem dX8_plan_91 : decode cX8_plan 91 = .ok (.ireturn, 1) := by decide +kernel
theorem dX8_planOf_0 : decode cX8_planOf 0 = .ok (.aload_n 0, 1) := by decide +kernel
theorem dX8_planOf_1 : decode cX8_planOf 1 = .ok (.getfield 53, 3) := by decide +kernel
theorem dX8_planOf_4 : decode cX8_planOf 4 = .ok (.invokevirtual 193, 3) := by decide +kernel
theorem dX8_planOf_7 : decode cX8_planOf 7 = .ok (.ifCond .ne 10, 3) := by decide +kernel
theorem dX8_planOf_10 : decode cX8_planOf 10 = .ok (.aload_n 0, 1) := by decide +kernel
theorem dX8_planOf_11 : decode cX8_planOf 11 = .ok (.bipush (-3), 2) := by decide +kernel
theorem dX8_planOf_13 : decode cX8_planOf 13 = .ok (.invokevirtual 69, 3) := by decide +kernel
theorem dX8_planOf_16 : decode cX8_planOf 16 = .ok (.ireturn, 1) := by decide +kernel
